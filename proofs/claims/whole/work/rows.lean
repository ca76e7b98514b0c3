section
-- ===== PART A: goes FIRST, ahead of the names: the tables' words, and 'selects' of the private methods out of them =====
/-- a private method of a class that the tables say can be made, by its rows of tables_1 -/
def lw_okq (q : MethodName × Nat) : Prop := (q.1.cls ≠ "java/lang/invoke/MethodHandle" ∧ q.1.cls ≠ "java/lang/invoke/VarHandle") ∧ Cond.instantiable q.1.cls q.2 ∈ tables_1 ∧ Cond.privateMethod q.1 ∈ tables_1 ∧ Cond.instanceMethod q.1 ∈ tables_1
theorem lw_p0 : lw_okq (⟨"NoiseTithe", "isRow", "(I)Z"⟩, 9) := ⟨⟨by decide +kernel, by decide +kernel⟩, List.mem_of_getElem? (i := 16) (by decide +kernel), List.mem_of_getElem? (i := 231) (by decide +kernel), List.mem_of_getElem? (i := 232) (by decide +kernel)⟩
theorem lw_p1 : lw_okq (⟨"NoiseTithe", "found", "(I)I"⟩, 9) := ⟨⟨by decide +kernel, by decide +kernel⟩, List.mem_of_getElem? (i := 16) (by decide +kernel), List.mem_of_getElem? (i := 235) (by decide +kernel), List.mem_of_getElem? (i := 236) (by decide +kernel)⟩
theorem lw_p2 : lw_okq (⟨"NoiseTithe", "refusalOfPlace", "(LNoiseTithe$Cells;I)I"⟩, 9) := ⟨⟨by decide +kernel, by decide +kernel⟩, List.mem_of_getElem? (i := 16) (by decide +kernel), List.mem_of_getElem? (i := 253) (by decide +kernel), List.mem_of_getElem? (i := 254) (by decide +kernel)⟩
theorem lw_p3 : lw_okq (⟨"NoiseTithe", "tell", "(II)I"⟩, 9) := ⟨⟨by decide +kernel, by decide +kernel⟩, List.mem_of_getElem? (i := 16) (by decide +kernel), List.mem_of_getElem? (i := 274) (by decide +kernel), List.mem_of_getElem? (i := 275) (by decide +kernel)⟩
theorem lw_p4 : lw_okq (⟨"NoiseTithe", "isText", "(I)Z"⟩, 9) := ⟨⟨by decide +kernel, by decide +kernel⟩, List.mem_of_getElem? (i := 16) (by decide +kernel), List.mem_of_getElem? (i := 318) (by decide +kernel), List.mem_of_getElem? (i := 319) (by decide +kernel)⟩
theorem lw_p5 : lw_okq (⟨"NoiseTithe", "isKeptPlace", "(I)Z"⟩, 9) := ⟨⟨by decide +kernel, by decide +kernel⟩, List.mem_of_getElem? (i := 16) (by decide +kernel), List.mem_of_getElem? (i := 512) (by decide +kernel), List.mem_of_getElem? (i := 513) (by decide +kernel)⟩
theorem lw_p6 : lw_okq (⟨"NoiseTithe$Sets", "isFitting", "(II)Z"⟩, 6) := ⟨⟨by decide +kernel, by decide +kernel⟩, List.mem_of_getElem? (i := 141) (by decide +kernel), List.mem_of_getElem? (i := 561) (by decide +kernel), List.mem_of_getElem? (i := 562) (by decide +kernel)⟩
theorem lw_p7 : lw_okq (⟨"NoiseTithe$Sets", "howManyBeside", "(II)I"⟩, 6) := ⟨⟨by decide +kernel, by decide +kernel⟩, List.mem_of_getElem? (i := 141) (by decide +kernel), List.mem_of_getElem? (i := 608) (by decide +kernel), List.mem_of_getElem? (i := 609) (by decide +kernel)⟩
theorem lw_p8 : lw_okq (⟨"NoiseTithe", "howManyKept", "()I"⟩, 9) := ⟨⟨by decide +kernel, by decide +kernel⟩, List.mem_of_getElem? (i := 16) (by decide +kernel), List.mem_of_getElem? (i := 758) (by decide +kernel), List.mem_of_getElem? (i := 759) (by decide +kernel)⟩
theorem lw_p9 : lw_okq (⟨"NoiseTitheModel", "meet", "(I)I"⟩, 38) := ⟨⟨by decide +kernel, by decide +kernel⟩, List.mem_of_getElem? (i := 795) (by decide +kernel), List.mem_of_getElem? (i := 927) (by decide +kernel), List.mem_of_getElem? (i := 928) (by decide +kernel)⟩
theorem lw_p10 : lw_okq (⟨"NoiseTitheModel", "setRow", "(III)V"⟩, 38) := ⟨⟨by decide +kernel, by decide +kernel⟩, List.mem_of_getElem? (i := 795) (by decide +kernel), List.mem_of_getElem? (i := 931) (by decide +kernel), List.mem_of_getElem? (i := 932) (by decide +kernel)⟩
theorem lw_p11 : lw_okq (⟨"NoiseTitheModel", "askedRow", "(I)I"⟩, 38) := ⟨⟨by decide +kernel, by decide +kernel⟩, List.mem_of_getElem? (i := 795) (by decide +kernel), List.mem_of_getElem? (i := 939) (by decide +kernel), List.mem_of_getElem? (i := 940) (by decide +kernel)⟩
theorem lw_p12 : lw_okq (⟨"NoiseTitheModel", "rowAt", "(II)I"⟩, 38) := ⟨⟨by decide +kernel, by decide +kernel⟩, List.mem_of_getElem? (i := 795) (by decide +kernel), List.mem_of_getElem? (i := 943) (by decide +kernel), List.mem_of_getElem? (i := 944) (by decide +kernel)⟩
theorem lw_p13 : lw_okq (⟨"NoiseTitheModel", "ask", "(II)I"⟩, 38) := ⟨⟨by decide +kernel, by decide +kernel⟩, List.mem_of_getElem? (i := 795) (by decide +kernel), List.mem_of_getElem? (i := 947) (by decide +kernel), List.mem_of_getElem? (i := 948) (by decide +kernel)⟩
theorem lw_p14 : lw_okq (⟨"NoiseTitheModel", "askedText", "(I)I"⟩, 38) := ⟨⟨by decide +kernel, by decide +kernel⟩, List.mem_of_getElem? (i := 795) (by decide +kernel), List.mem_of_getElem? (i := 979) (by decide +kernel), List.mem_of_getElem? (i := 980) (by decide +kernel)⟩
theorem lw_p15 : lw_okq (⟨"NoiseTitheModel", "goesOn", "(I)I"⟩, 38) := ⟨⟨by decide +kernel, by decide +kernel⟩, List.mem_of_getElem? (i := 795) (by decide +kernel), List.mem_of_getElem? (i := 987) (by decide +kernel), List.mem_of_getElem? (i := 988) (by decide +kernel)⟩
def lw_privs_1 : List (MethodName × Nat) := [(⟨"NoiseTithe", "isRow", "(I)Z"⟩, 9), (⟨"NoiseTithe", "found", "(I)I"⟩, 9), (⟨"NoiseTithe", "refusalOfPlace", "(LNoiseTithe$Cells;I)I"⟩, 9), (⟨"NoiseTithe", "tell", "(II)I"⟩, 9), (⟨"NoiseTithe", "isText", "(I)Z"⟩, 9), (⟨"NoiseTithe", "isKeptPlace", "(I)Z"⟩, 9), (⟨"NoiseTithe$Sets", "isFitting", "(II)Z"⟩, 6), (⟨"NoiseTithe$Sets", "howManyBeside", "(II)I"⟩, 6), (⟨"NoiseTithe", "howManyKept", "()I"⟩, 9), (⟨"NoiseTitheModel", "meet", "(I)I"⟩, 38), (⟨"NoiseTitheModel", "setRow", "(III)V"⟩, 38), (⟨"NoiseTitheModel", "askedRow", "(I)I"⟩, 38), (⟨"NoiseTitheModel", "rowAt", "(II)I"⟩, 38), (⟨"NoiseTitheModel", "ask", "(II)I"⟩, 38), (⟨"NoiseTitheModel", "askedText", "(I)I"⟩, 38), (⟨"NoiseTitheModel", "goesOn", "(I)I"⟩, 38)]
theorem lw_r1 : ∀ q ∈ lw_privs_1, lw_okq q := List.forall_mem_cons.mpr ⟨lw_p0, List.forall_mem_cons.mpr ⟨lw_p1, List.forall_mem_cons.mpr ⟨lw_p2, List.forall_mem_cons.mpr ⟨lw_p3, List.forall_mem_cons.mpr ⟨lw_p4, List.forall_mem_cons.mpr ⟨lw_p5, List.forall_mem_cons.mpr ⟨lw_p6, List.forall_mem_cons.mpr ⟨lw_p7, List.forall_mem_cons.mpr ⟨lw_p8, List.forall_mem_cons.mpr ⟨lw_p9, List.forall_mem_cons.mpr ⟨lw_p10, List.forall_mem_cons.mpr ⟨lw_p11, List.forall_mem_cons.mpr ⟨lw_p12, List.forall_mem_cons.mpr ⟨lw_p13, List.forall_mem_cons.mpr ⟨lw_p14, List.forall_mem_cons.mpr ⟨lw_p15, fun _ h => absurd h List.not_mem_nil⟩⟩⟩⟩⟩⟩⟩⟩⟩⟩⟩⟩⟩⟩⟩⟩
theorem lw_p16 : lw_okq (⟨"NoiseTitheModel", "here", "(I)I"⟩, 38) := ⟨⟨by decide +kernel, by decide +kernel⟩, List.mem_of_getElem? (i := 795) (by decide +kernel), List.mem_of_getElem? (i := 991) (by decide +kernel), List.mem_of_getElem? (i := 992) (by decide +kernel)⟩
theorem lw_p17 : lw_okq (⟨"NoiseTitheModel", "readsHouse", "(I)Z"⟩, 38) := ⟨⟨by decide +kernel, by decide +kernel⟩, List.mem_of_getElem? (i := 795) (by decide +kernel), List.mem_of_getElem? (i := 995) (by decide +kernel), List.mem_of_getElem? (i := 996) (by decide +kernel)⟩
theorem lw_p18 : lw_okq (⟨"NoiseTitheModel", "isFigure", "(I)Z"⟩, 38) := ⟨⟨by decide +kernel, by decide +kernel⟩, List.mem_of_getElem? (i := 795) (by decide +kernel), List.mem_of_getElem? (i := 1002) (by decide +kernel), List.mem_of_getElem? (i := 1003) (by decide +kernel)⟩
theorem lw_p19 : lw_okq (⟨"NoiseTitheModel", "figure", "(I)I"⟩, 38) := ⟨⟨by decide +kernel, by decide +kernel⟩, List.mem_of_getElem? (i := 795) (by decide +kernel), List.mem_of_getElem? (i := 1006) (by decide +kernel), List.mem_of_getElem? (i := 1007) (by decide +kernel)⟩
theorem lw_p20 : lw_okq (⟨"NoiseTitheModel", "readsHead", "(I)Z"⟩, 38) := ⟨⟨by decide +kernel, by decide +kernel⟩, List.mem_of_getElem? (i := 795) (by decide +kernel), List.mem_of_getElem? (i := 1010) (by decide +kernel), List.mem_of_getElem? (i := 1011) (by decide +kernel)⟩
theorem lw_p21 : lw_okq (⟨"NoiseTitheModel", "isHouse", "(I)Z"⟩, 38) := ⟨⟨by decide +kernel, by decide +kernel⟩, List.mem_of_getElem? (i := 795) (by decide +kernel), List.mem_of_getElem? (i := 1022) (by decide +kernel), List.mem_of_getElem? (i := 1023) (by decide +kernel)⟩
theorem lw_p22 : lw_okq (⟨"NoiseTitheModel", "houseOf", "(II)I"⟩, 38) := ⟨⟨by decide +kernel, by decide +kernel⟩, List.mem_of_getElem? (i := 795) (by decide +kernel), List.mem_of_getElem? (i := 1026) (by decide +kernel), List.mem_of_getElem? (i := 1027) (by decide +kernel)⟩
theorem lw_p23 : lw_okq (⟨"NoiseTitheModel", "soundOf", "(I)I"⟩, 38) := ⟨⟨by decide +kernel, by decide +kernel⟩, List.mem_of_getElem? (i := 795) (by decide +kernel), List.mem_of_getElem? (i := 1030) (by decide +kernel), List.mem_of_getElem? (i := 1031) (by decide +kernel)⟩
theorem lw_p24 : lw_okq (⟨"NoiseTitheModel", "rippleOf", "(I)I"⟩, 38) := ⟨⟨by decide +kernel, by decide +kernel⟩, List.mem_of_getElem? (i := 795) (by decide +kernel), List.mem_of_getElem? (i := 1034) (by decide +kernel), List.mem_of_getElem? (i := 1035) (by decide +kernel)⟩
theorem lw_p25 : lw_okq (⟨"NoiseTitheModel", "farOf", "(I)I"⟩, 38) := ⟨⟨by decide +kernel, by decide +kernel⟩, List.mem_of_getElem? (i := 795) (by decide +kernel), List.mem_of_getElem? (i := 1038) (by decide +kernel), List.mem_of_getElem? (i := 1039) (by decide +kernel)⟩
theorem lw_p26 : lw_okq (⟨"NoiseTitheModel", "isA", "(II)Z"⟩, 38) := ⟨⟨by decide +kernel, by decide +kernel⟩, List.mem_of_getElem? (i := 795) (by decide +kernel), List.mem_of_getElem? (i := 1046) (by decide +kernel), List.mem_of_getElem? (i := 1047) (by decide +kernel)⟩
theorem lw_p27 : lw_okq (⟨"NoiseTitheModel", "owes", "(I)I"⟩, 38) := ⟨⟨by decide +kernel, by decide +kernel⟩, List.mem_of_getElem? (i := 795) (by decide +kernel), List.mem_of_getElem? (i := 1050) (by decide +kernel), List.mem_of_getElem? (i := 1051) (by decide +kernel)⟩
theorem lw_p28 : lw_okq (⟨"NoiseTitheModel", "isSet", "(I)Z"⟩, 38) := ⟨⟨by decide +kernel, by decide +kernel⟩, List.mem_of_getElem? (i := 795) (by decide +kernel), List.mem_of_getElem? (i := 1066) (by decide +kernel), List.mem_of_getElem? (i := 1067) (by decide +kernel)⟩
theorem lw_p29 : lw_okq (⟨"NoiseTitheModel", "all", "()I"⟩, 38) := ⟨⟨by decide +kernel, by decide +kernel⟩, List.mem_of_getElem? (i := 795) (by decide +kernel), List.mem_of_getElem? (i := 1070) (by decide +kernel), List.mem_of_getElem? (i := 1071) (by decide +kernel)⟩
theorem lw_p30 : lw_okq (⟨"NoiseTitheModel", "ripples", "(I)I"⟩, 38) := ⟨⟨by decide +kernel, by decide +kernel⟩, List.mem_of_getElem? (i := 795) (by decide +kernel), List.mem_of_getElem? (i := 1074) (by decide +kernel), List.mem_of_getElem? (i := 1075) (by decide +kernel)⟩
theorem lw_p31 : lw_okq (⟨"NoiseTitheModel", "titheOf", "(I)I"⟩, 38) := ⟨⟨by decide +kernel, by decide +kernel⟩, List.mem_of_getElem? (i := 795) (by decide +kernel), List.mem_of_getElem? (i := 1101) (by decide +kernel), List.mem_of_getElem? (i := 1102) (by decide +kernel)⟩
def lw_privs_2 : List (MethodName × Nat) := [(⟨"NoiseTitheModel", "here", "(I)I"⟩, 38), (⟨"NoiseTitheModel", "readsHouse", "(I)Z"⟩, 38), (⟨"NoiseTitheModel", "isFigure", "(I)Z"⟩, 38), (⟨"NoiseTitheModel", "figure", "(I)I"⟩, 38), (⟨"NoiseTitheModel", "readsHead", "(I)Z"⟩, 38), (⟨"NoiseTitheModel", "isHouse", "(I)Z"⟩, 38), (⟨"NoiseTitheModel", "houseOf", "(II)I"⟩, 38), (⟨"NoiseTitheModel", "soundOf", "(I)I"⟩, 38), (⟨"NoiseTitheModel", "rippleOf", "(I)I"⟩, 38), (⟨"NoiseTitheModel", "farOf", "(I)I"⟩, 38), (⟨"NoiseTitheModel", "isA", "(II)Z"⟩, 38), (⟨"NoiseTitheModel", "owes", "(I)I"⟩, 38), (⟨"NoiseTitheModel", "isSet", "(I)Z"⟩, 38), (⟨"NoiseTitheModel", "all", "()I"⟩, 38), (⟨"NoiseTitheModel", "ripples", "(I)I"⟩, 38), (⟨"NoiseTitheModel", "titheOf", "(I)I"⟩, 38)]
theorem lw_r2 : ∀ q ∈ lw_privs_2, lw_okq q := List.forall_mem_cons.mpr ⟨lw_p16, List.forall_mem_cons.mpr ⟨lw_p17, List.forall_mem_cons.mpr ⟨lw_p18, List.forall_mem_cons.mpr ⟨lw_p19, List.forall_mem_cons.mpr ⟨lw_p20, List.forall_mem_cons.mpr ⟨lw_p21, List.forall_mem_cons.mpr ⟨lw_p22, List.forall_mem_cons.mpr ⟨lw_p23, List.forall_mem_cons.mpr ⟨lw_p24, List.forall_mem_cons.mpr ⟨lw_p25, List.forall_mem_cons.mpr ⟨lw_p26, List.forall_mem_cons.mpr ⟨lw_p27, List.forall_mem_cons.mpr ⟨lw_p28, List.forall_mem_cons.mpr ⟨lw_p29, List.forall_mem_cons.mpr ⟨lw_p30, List.forall_mem_cons.mpr ⟨lw_p31, fun _ h => absurd h List.not_mem_nil⟩⟩⟩⟩⟩⟩⟩⟩⟩⟩⟩⟩⟩⟩⟩⟩
theorem lw_p32 : lw_okq (⟨"NoiseTitheModel", "isExempt", "(I)Z"⟩, 38) := ⟨⟨by decide +kernel, by decide +kernel⟩, List.mem_of_getElem? (i := 795) (by decide +kernel), List.mem_of_getElem? (i := 1105) (by decide +kernel), List.mem_of_getElem? (i := 1106) (by decide +kernel)⟩
theorem lw_p33 : lw_okq (⟨"NoiseTitheModel", "setFits", "(I)V"⟩, 38) := ⟨⟨by decide +kernel, by decide +kernel⟩, List.mem_of_getElem? (i := 795) (by decide +kernel), List.mem_of_getElem? (i := 1132) (by decide +kernel), List.mem_of_getElem? (i := 1133) (by decide +kernel)⟩
theorem lw_p34 : lw_okq (⟨"NoiseTitheModel", "mutes", "()I"⟩, 38) := ⟨⟨by decide +kernel, by decide +kernel⟩, List.mem_of_getElem? (i := 795) (by decide +kernel), List.mem_of_getElem? (i := 1136) (by decide +kernel), List.mem_of_getElem? (i := 1137) (by decide +kernel)⟩
theorem lw_p35 : lw_okq (⟨"NoiseTitheModel", "part", "(JJI)I"⟩, 38) := ⟨⟨by decide +kernel, by decide +kernel⟩, List.mem_of_getElem? (i := 795) (by decide +kernel), List.mem_of_getElem? (i := 1148) (by decide +kernel), List.mem_of_getElem? (i := 1149) (by decide +kernel)⟩
theorem lw_p36 : lw_okq (⟨"NoiseTitheModel", "joinedBy", "(III)I"⟩, 38) := ⟨⟨by decide +kernel, by decide +kernel⟩, List.mem_of_getElem? (i := 795) (by decide +kernel), List.mem_of_getElem? (i := 1160) (by decide +kernel), List.mem_of_getElem? (i := 1161) (by decide +kernel)⟩
theorem lw_p37 : lw_okq (⟨"NoiseTitheModel", "halfOf", "(I)I"⟩, 38) := ⟨⟨by decide +kernel, by decide +kernel⟩, List.mem_of_getElem? (i := 795) (by decide +kernel), List.mem_of_getElem? (i := 1168) (by decide +kernel), List.mem_of_getElem? (i := 1169) (by decide +kernel)⟩
theorem lw_p38 : lw_okq (⟨"NoiseTitheModel", "balanceOf", "(I)I"⟩, 38) := ⟨⟨by decide +kernel, by decide +kernel⟩, List.mem_of_getElem? (i := 795) (by decide +kernel), List.mem_of_getElem? (i := 1208) (by decide +kernel), List.mem_of_getElem? (i := 1209) (by decide +kernel)⟩
theorem lw_p39 : lw_okq (⟨"NoiseTitheModel", "counts", "(I)I"⟩, 38) := ⟨⟨by decide +kernel, by decide +kernel⟩, List.mem_of_getElem? (i := 795) (by decide +kernel), List.mem_of_getElem? (i := 1248) (by decide +kernel), List.mem_of_getElem? (i := 1249) (by decide +kernel)⟩
theorem lw_p40 : lw_okq (⟨"NoiseTitheModel", "mix", "(I)V"⟩, 38) := ⟨⟨by decide +kernel, by decide +kernel⟩, List.mem_of_getElem? (i := 795) (by decide +kernel), List.mem_of_getElem? (i := 1265) (by decide +kernel), List.mem_of_getElem? (i := 1266) (by decide +kernel)⟩
theorem lw_p41 : lw_okq (⟨"NoiseTitheModel", "mixStreet", "()V"⟩, 38) := ⟨⟨by decide +kernel, by decide +kernel⟩, List.mem_of_getElem? (i := 795) (by decide +kernel), List.mem_of_getElem? (i := 1270) (by decide +kernel), List.mem_of_getElem? (i := 1271) (by decide +kernel)⟩
def lw_privs_3 : List (MethodName × Nat) := [(⟨"NoiseTitheModel", "isExempt", "(I)Z"⟩, 38), (⟨"NoiseTitheModel", "setFits", "(I)V"⟩, 38), (⟨"NoiseTitheModel", "mutes", "()I"⟩, 38), (⟨"NoiseTitheModel", "part", "(JJI)I"⟩, 38), (⟨"NoiseTitheModel", "joinedBy", "(III)I"⟩, 38), (⟨"NoiseTitheModel", "halfOf", "(I)I"⟩, 38), (⟨"NoiseTitheModel", "balanceOf", "(I)I"⟩, 38), (⟨"NoiseTitheModel", "counts", "(I)I"⟩, 38), (⟨"NoiseTitheModel", "mix", "(I)V"⟩, 38), (⟨"NoiseTitheModel", "mixStreet", "()V"⟩, 38)]
theorem lw_r3 : ∀ q ∈ lw_privs_3, lw_okq q := List.forall_mem_cons.mpr ⟨lw_p32, List.forall_mem_cons.mpr ⟨lw_p33, List.forall_mem_cons.mpr ⟨lw_p34, List.forall_mem_cons.mpr ⟨lw_p35, List.forall_mem_cons.mpr ⟨lw_p36, List.forall_mem_cons.mpr ⟨lw_p37, List.forall_mem_cons.mpr ⟨lw_p38, List.forall_mem_cons.mpr ⟨lw_p39, List.forall_mem_cons.mpr ⟨lw_p40, List.forall_mem_cons.mpr ⟨lw_p41, fun _ h => absurd h List.not_mem_nil⟩⟩⟩⟩⟩⟩⟩⟩⟩⟩
def lw_privs : List (MethodName × Nat) := lw_privs_1 ++ (lw_privs_2 ++ (lw_privs_3))
def lw_tbl : List Cond := k2_sels lw_privs ++ tables_1
theorem lw_privs_ok : ∀ q ∈ lw_privs, lw_okq q := by
  show ∀ q ∈ lw_privs_1 ++ (lw_privs_2 ++ (lw_privs_3)), lw_okq q
  exact List.forall_mem_append.mpr ⟨lw_r1, List.forall_mem_append.mpr ⟨lw_r2, lw_r3⟩⟩
end
section
/-! A SMALL MACHINE over an abstract heap, to which the walks of all methods are brought once and for all (part 05 shows that what it does, the JVM does). An object is named by (side, tag, number): side 0 the class, side 1 the reference, side 2 the script. -/
abbrev Id3 := Nat × Nat × Nat
abbrev Vv := Int32 ⊕ (Int64 ⊕ (Option Id3 ⊕ Unit))
abbrev vi (x : Int32) : Vv := .inl x
abbrev vl (x : Int64) : Vv := .inr (.inl x)
abbrev vr (r : Option Id3) : Vv := .inr (.inr (.inl r))
abbrev vo (s t i : Nat) : Vv := .inr (.inr (.inl (some (s, t, i))))
abbrev vu : Vv := .inr (.inr (.inr ()))
abbrev Side := (Nat → Nat → Nat → Int32) × (Nat → Nat → Nat → Int64) × (Nat → Nat → Nat → Option Id3)
abbrev Mem := Side × Side × Side × (Nat → Nat → Nat)
/-- the shapes by tags: 0 .. 7 objects of the classes in the order of clsT, 8 a constant of Kind; arrays: 20 int, 21 boolean, 22 Cells, 23 Street, 24 House, 25 Hour, 26 of int arrays, 30 the script -/
def sh0 (t : Nat) : Nat := match t with
  | 0 => 6 | 1 => 0 | 2 => 20 | 3 => 22 | 4 => 22 | 5 => 5 | 6 => 23 | 7 => 24 | 8 => 3 | 9 => 25 | 10 => 2 | 11 => 20 | 12 => 26 | 13 => 20 | 14 => 4 | 15 => 20 | 16 => 20 | 17 => 20 | 18 => 1 | 19 => 20 | 20 => 8 | _ => 99
def sh1 (t : Nat) : Nat := match t with
  | 0 => 7 | 15 => 21 | _ => 20
def sh (o : Id3) : Nat := match o.1 with
  | 0 => sh0 o.2.1
  | 1 => sh1 o.2.1
  | _ => 30
def ln0 (t i : Nat) : Nat := match t with
  | 2 => if i < 6 then 40 else 80
  | 3 => 6 | 4 => 4 | 6 => 3 | 7 => 8 | 9 => 40 | 11 => 8 | 12 => 8 | 13 => 8 | 15 => 256 | 16 => 256 | 17 => 256 | 19 => 6 | _ => 0
def ln1 (t : Nat) : Nat := match t with
  | 1 => 6 | 2 => 6 | 3 => 240 | 4 => 40 | 5 => 4 | 6 => 320 | 7 => 16 | 8 => 16 | 9 => 16 | 10 => 8 | 11 => 8 | 12 => 480 | 13 => 1740 | 14 => 8 | 15 => 160 | 16 => 8 | 17 => 256 | 18 => 64 | 19 => 256 | _ => 0
def ln (o : Id3) : Nat := match o.1 with
  | 0 => ln0 o.2.1 o.2.2
  | 1 => ln1 o.2.1
  | _ => o.2.2
/-- what the constants of Kind hold: number, parent, halves -/
def kcon (f k : Nat) : Int32 := match f with
  | 0 => (match k with | 0 => 0 | 1 => 1 | 2 => 2 | 3 => 3 | 4 => 4 | _ => 5)
  | 1 => (match k with | 0 => 0 | 1 => 0 | 2 => 0 | 3 => 0 | 4 => 2 | _ => 3)
  | _ => (match k with | 0 => 2 | 1 => 4 | 2 => 1 | 3 => 2 | 4 => 0 | _ => 2)
def sd (m : Mem) (s : Nat) : Side := match s with
  | 0 => m.1 | 1 => m.2.1 | _ => m.2.2.1
def up3 {α : Type} (f : Nat → Nat → Nat → α) (t i k : Nat) (v : α) : Nat → Nat → Nat → α := fun t' i' k' => if t' = t ∧ i' = i ∧ k' = k then v else f t' i' k'
def gI (m : Mem) (o : Id3) (k : Nat) : Int32 := (sd m o.1).1 o.2.1 o.2.2 k
def gL (m : Mem) (o : Id3) (k : Nat) : Int64 := (sd m o.1).2.1 o.2.1 o.2.2 k
def gR (m : Mem) (o : Id3) (k : Nat) : Option Id3 := (sd m o.1).2.2 o.2.1 o.2.2 k
def sS (m : Mem) (s : Nat) (A : Side) : Mem := match s with
  | 0 => (A, m.2) | 1 => (m.1, A, m.2.2) | _ => (m.1, m.2.1, A, m.2.2.2)
def pI (m : Mem) (o : Id3) (k : Nat) (v : Int32) : Mem := sS m o.1 (up3 (sd m o.1).1 o.2.1 o.2.2 k v, (sd m o.1).2)
def pL (m : Mem) (o : Id3) (k : Nat) (v : Int64) : Mem := sS m o.1 ((sd m o.1).1, up3 (sd m o.1).2.1 o.2.1 o.2.2 k v, (sd m o.1).2.2)
def pR (m : Mem) (o : Id3) (k : Nat) (v : Option Id3) : Mem := sS m o.1 ((sd m o.1).1, (sd m o.1).2.1, up3 (sd m o.1).2.2 o.2.1 o.2.2 k v)
/-- n more objects of a tag -/
def al (m : Mem) (s t n : Nat) : Mem := (m.1, m.2.1, m.2.2.1, fun s' t' => if s' = s ∧ t' = t then m.2.2.2 s' t' + n else m.2.2.2 s' t')
/-- ints copied -/
def cpI (m : Mem) (src dst : Id3) (sp dp n : Nat) : Mem := sS m dst.1 (fun t i k => if t = dst.2.1 ∧ i = dst.2.2 then va_cpy (gI m src) (gI m dst) sp dp n k else (sd m dst.1).1 t i k, (sd m dst.1).2)
/-- the outer array's rows -/
def rws (m : Mem) (o : Id3) (t i n : Nat) : Mem := sS m o.1 ((sd m o.1).1, (sd m o.1).2.1, fun t' i' k => if t' = o.2.1 ∧ i' = o.2.2 then (if k < n then some (o.1, t, i + k) else none) else (sd m o.1).2.2 t' i' k)
/-- instruction, number a, number b, the next place, a constant, more numbers -/
abbrev Ins := Instr × Nat × Nat × Nat × Vv × List Nat
abbrev St := Nat × List Vv × List Vv × Mem × Nat × Nat
/-- what an instruction does: goes on; goes on if; branches; switches; calls; returns; or nothing of these -/
abbrev Eff := St ⊕ ((Prop × St) ⊕ ((Prop × St × St) ⊕ (List (Prop × St) ⊕ ((Nat × List Vv × Nat × Nat × St) ⊕ ((Prop × Option Vv × Mem) ⊕ Unit)))))
abbrev eP (s : St) : Eff := .inl s
abbrev eQ (q : Prop) (s : St) : Eff := .inr (.inl (q, s))
abbrev eB (c : Prop) (s t : St) : Eff := .inr (.inr (.inl (c, s, t)))
abbrev eS (l : List (Prop × St)) : Eff := .inr (.inr (.inr (.inl l)))
abbrev eC (y : Nat) (a : List Vv) (mc ms : Nat) (s : St) : Eff := .inr (.inr (.inr (.inr (.inl (y, a, mc, ms, s)))))
abbrev eR (q : Prop) (v : Option Vv) (m : Mem) : Eff := .inr (.inr (.inr (.inr (.inr (.inl (q, v, m))))))
abbrev eN : Eff := .inr (.inr (.inr (.inr (.inr (.inr ())))))
def clr : List Vv → Nat → List Vv
  | [], _ => []
  | ls, 0 => ls
  | x :: r, n + 1 => (match n with
    | 0 => (match x with
      | .inr (.inl _) => vu
      | y => y) :: r
    | k + 1 => x :: clr r (k + 1))
def stL (ls : List Vv) (a : Nat) (v : Vv) : List Vv := (clr ls a).set a v
def ctg (v : Vv) : Nat := match v with
  | .inr (.inl _) => 2
  | _ => 1
def ctgs : List Vv → Nat
  | [] => 0
  | v :: r => ctg v + ctgs r
def eLdI (ls : List Vv) (a nx : Nat) (st : List Vv) (m : Mem) (uc us : Nat) : Eff := match ls[a]? with
  | some (.inl x) => eP (nx, ls, vi x :: st, m, uc, us)
  | _ => eN
def eLdL (ls : List Vv) (a nx : Nat) (st : List Vv) (m : Mem) (uc us : Nat) : Eff := match ls[a]? with
  | some (.inr (.inl x)) => eP (nx, ls, vl x :: st, m, uc, us)
  | _ => eN
def eLdA (ls : List Vv) (a nx : Nat) (st : List Vv) (m : Mem) (uc us : Nat) : Eff := match ls[a]? with
  | some (.inr (.inr (.inl r))) => eP (nx, ls, vr r :: st, m, uc, us)
  | _ => eN
def eStI (ls : List Vv) (a nx : Nat) (st : List Vv) (m : Mem) (uc us : Nat) : Eff := match Nat.blt a ls.length, st with
  | true, .inl x :: r => eP (nx, stL ls a (vi x), r, m, uc, us)
  | _, _ => eN
def eStA (ls : List Vv) (a nx : Nat) (st : List Vv) (m : Mem) (uc us : Nat) : Eff := match Nat.blt a ls.length, st with
  | true, .inr (.inr (.inl x)) :: r => eP (nx, stL ls a (vr x), r, m, uc, us)
  | _, _ => eN
def eStL (ls : List Vv) (a nx : Nat) (st : List Vv) (m : Mem) (uc us : Nat) : Eff := match Nat.blt (a + 1) ls.length, st with
  | true, .inr (.inl x) :: r => eP (nx, (stL ls a (vl x)).set (a + 1) vu, r, m, uc, us)
  | _, _ => eN
def eInc (ls : List Vv) (a nx : Nat) (c : Vv) (st : List Vv) (m : Mem) (uc us : Nat) : Eff := match ls[a]?, c with
  | some (.inl x), .inl y => eP (nx, stL ls a (vi (x + y)), st, m, uc, us)
  | _, _ => eN
def eI2 (f : Int32 → Int32 → Int32) (ls : List Vv) (nx : Nat) (st : List Vv) (m : Mem) (uc us : Nat) : Eff := match st with
  | .inl y :: .inl x :: r => eP (nx, ls, vi (f x y) :: r, m, uc, us)
  | _ => eN
def eI2q (f : Int32 → Int32 → Int32) (ls : List Vv) (nx : Nat) (st : List Vv) (m : Mem) (uc us : Nat) : Eff := match st with
  | .inl y :: .inl x :: r => eQ (¬ y = 0) (nx, ls, vi (f x y) :: r, m, uc, us)
  | _ => eN
def eI1 (f : Int32 → Int32) (ls : List Vv) (nx : Nat) (st : List Vv) (m : Mem) (uc us : Nat) : Eff := match st with
  | .inl x :: r => eP (nx, ls, vi (f x) :: r, m, uc, us)
  | _ => eN
def eL2 (f : Int64 → Int64 → Int64) (ls : List Vv) (nx : Nat) (st : List Vv) (m : Mem) (uc us : Nat) : Eff := match st with
  | .inr (.inl y) :: .inr (.inl x) :: r => eP (nx, ls, vl (f x y) :: r, m, uc, us)
  | _ => eN
def eL2q (f : Int64 → Int64 → Int64) (ls : List Vv) (nx : Nat) (st : List Vv) (m : Mem) (uc us : Nat) : Eff := match st with
  | .inr (.inl y) :: .inr (.inl x) :: r => eQ (¬ y = 0) (nx, ls, vl (f x y) :: r, m, uc, us)
  | _ => eN
def eLc (ls : List Vv) (nx : Nat) (st : List Vv) (m : Mem) (uc us : Nat) : Eff := match st with
  | .inr (.inl y) :: .inr (.inl x) :: r => eP (nx, ls, vi (lg_cmp x y) :: r, m, uc, us)
  | _ => eN
def eIL (ls : List Vv) (nx : Nat) (st : List Vv) (m : Mem) (uc us : Nat) : Eff := match st with
  | .inl x :: r => eP (nx, ls, vl x.toInt64 :: r, m, uc, us)
  | _ => eN
def eLI (ls : List Vv) (nx : Nat) (st : List Vv) (m : Mem) (uc us : Nat) : Eff := match st with
  | .inr (.inl x) :: r => eP (nx, ls, vi x.toInt32 :: r, m, uc, us)
  | _ => eN
def eCm (c : Int32 → Int32 → Prop) (ls : List Vv) (tt ff : Nat) (st : List Vv) (m : Mem) (uc us : Nat) : Eff := match st with
  | .inl y :: .inl x :: r => eB (c x y) (tt, ls, r, m, uc, us) (ff, ls, r, m, uc, us)
  | _ => eN
def eC0 (c : Int32 → Prop) (ls : List Vv) (tt ff : Nat) (st : List Vv) (m : Mem) (uc us : Nat) : Eff := match st with
  | .inl x :: r => eB (c x) (tt, ls, r, m, uc, us) (ff, ls, r, m, uc, us)
  | _ => eN
def eNu (ls : List Vv) (tt ff : Nat) (st : List Vv) (m : Mem) (uc us : Nat) : Eff := match st with
  | .inr (.inr (.inl none)) :: r => eP (tt, ls, r, m, uc, us)
  | .inr (.inr (.inl (some _))) :: r => eP (ff, ls, r, m, uc, us)
  | _ => eN
def eAc (ls : List Vv) (tt ff : Nat) (st : List Vv) (m : Mem) (uc us : Nat) : Eff := match st with
  | .inr (.inr (.inl (some y))) :: .inr (.inr (.inl (some x))) :: r => (match Nat.beq (sh x) 8 && Nat.beq (sh y) 8 with
    | true => eB (x = y) (tt, ls, r, m, uc, us) (ff, ls, r, m, uc, us)
    | false => eN)
  | _ => eN
def rdF (m : Mem) (o : Id3) (k : Nat) (ty : List Nat) : Vv := match ty with
  | 0 :: _ => vi (gI m o k)
  | 1 :: _ => vl (gL m o k)
  | 2 :: _ => vr (gR m o k)
  | _ => vi (kcon k o.2.2)
def eGet (a b nx : Nat) (ty : List Nat) (ls st : List Vv) (m : Mem) (uc us : Nat) : Eff := match st with
  | .inr (.inr (.inl (some o))) :: r => (match Nat.beq (sh o) a with
    | true => eP (nx, ls, rdF m o b ty :: r, m, uc, us)
    | false => eN)
  | _ => eN
def ePut (a b nx : Nat) (ty : List Nat) (ls st : List Vv) (m : Mem) (uc us : Nat) : Eff := match ty, st with
  | 0 :: _, .inl x :: .inr (.inr (.inl (some o))) :: r => (match Nat.beq (sh o) a with
    | true => eP (nx, ls, r, pI m o b x, uc, us)
    | false => eN)
  | 1 :: _, .inr (.inl x) :: .inr (.inr (.inl (some o))) :: r => (match Nat.beq (sh o) a with
    | true => eP (nx, ls, r, pL m o b x, uc, us)
    | false => eN)
  | 2 :: _, .inr (.inr (.inl x)) :: .inr (.inr (.inl (some o))) :: r => (match Nat.beq (sh o) a with
    | true => eP (nx, ls, r, pR m o b x, uc, us)
    | false => eN)
  | _, _ => eN
def eIald (nx : Nat) (ls st : List Vv) (m : Mem) (uc us : Nat) : Eff := match st with
  | .inl j :: .inr (.inr (.inl (some o))) :: r => (match Nat.beq (sh o) 20 || Nat.beq (sh o) 30 with
    | true => eQ (vp_in j (ln o)) (nx, ls, vi (gI m o j.toNatClampNeg) :: r, m, uc, us)
    | false => eN)
  | _ => eN
def eZald (nx : Nat) (ls st : List Vv) (m : Mem) (uc us : Nat) : Eff := match st with
  | .inl j :: .inr (.inr (.inl (some o))) :: r => (match Nat.beq (sh o) 21 with
    | true => eQ (vp_in j (ln o)) (nx, ls, vi (gI m o j.toNatClampNeg) :: r, m, uc, us)
    | false => eN)
  | _ => eN
def eAald (nx : Nat) (ls st : List Vv) (m : Mem) (uc us : Nat) : Eff := match st with
  | .inl j :: .inr (.inr (.inl (some o))) :: r => (match Nat.ble 22 (sh o) && Nat.ble (sh o) 26 with
    | true => eQ (vp_in j (ln o)) (nx, ls, vr (gR m o j.toNatClampNeg) :: r, m, uc, us)
    | false => eN)
  | _ => eN
def eIast (nx : Nat) (ls st : List Vv) (m : Mem) (uc us : Nat) : Eff := match st with
  | .inl x :: .inl j :: .inr (.inr (.inl (some o))) :: r => (match Nat.beq (sh o) 20 with
    | true => eQ (vp_in j (ln o)) (nx, ls, r, pI m o j.toNatClampNeg x, uc, us)
    | false => eN)
  | _ => eN
def eZast (nx : Nat) (ls st : List Vv) (m : Mem) (uc us : Nat) : Eff := match st with
  | .inl x :: .inl j :: .inr (.inr (.inl (some o))) :: r => (match Nat.beq (sh o) 21 with
    | true => eQ (vp_in j (ln o) ∧ (x = 0 ∨ x = 1)) (nx, ls, r, pI m o j.toNatClampNeg x, uc, us)
    | false => eN)
  | _ => eN
/-- the object that an array of a shape takes -/
def elS (a : Nat) : Nat := match a with
  | 22 => 0 | 23 => 5 | 24 => 3 | 25 => 2 | _ => 98
def eAast (nx : Nat) (ls st : List Vv) (m : Mem) (uc us : Nat) : Eff := match st with
  | .inr (.inr (.inl (some x))) :: .inl j :: .inr (.inr (.inl (some o))) :: r => (match Nat.beq (sh x) (elS (sh o)) with
    | true => eQ (vp_in j (ln o)) (nx, ls, r, pR m o j.toNatClampNeg (some x), uc, us)
    | false => eN)
  | _ => eN
def eLen (nx : Nat) (ls st : List Vv) (m : Mem) (uc us : Nat) : Eff := match st with
  | .inr (.inr (.inl (some o))) :: r => (match Nat.ble 20 (sh o) && Nat.ble (sh o) 30 with
    | true => eP (nx, ls, vi (nI (ln o)) :: r, m, uc, us)
    | false => eN)
  | _ => eN
/-- a new object of a tag; a new array of a tag -/
def eNew (cap : Nat × Nat) (s t nx : Nat) (n : Nat) (ls st : List Vv) (m : Mem) (uc us : Nat) : Eff :=
  eQ (uc + 1 ≤ cap.1 ∧ us + n ≤ cap.2) (nx, ls, vo s t (m.2.2.2 s t) :: st, al m s t 1, uc + 1, us + n)
def eArr (cap : Nat × Nat) (s t nx : Nat) (ls st : List Vv) (m : Mem) (uc us : Nat) : Eff := match st with
  | .inl n :: r => eQ (n = nI (ln (s, t, m.2.2.2 s t)) ∧ uc + 1 ≤ cap.1 ∧ us + ln (s, t, m.2.2.2 s t) ≤ cap.2) (nx, ls, vo s t (m.2.2.2 s t) :: r, al m s t 1, uc + 1, us + ln (s, t, m.2.2.2 s t))
  | _ => eN
def eMul (cap : Nat × Nat) (s t nx t2 : Nat) (ls st : List Vv) (m : Mem) (uc us : Nat) : Eff := match st with
  | .inl k :: .inl n :: r => eQ (n = 8 ∧ k = 8 ∧ uc + 9 ≤ cap.1 ∧ us + 72 ≤ cap.2) (nx, ls, vo s t (m.2.2.2 s t) :: r, al (al (rws m (s, t, m.2.2.2 s t) t2 (m.2.2.2 s t2) 8) s t 1) s t2 8, uc + 9, us + 72)
  | _ => eN
def eSw (x : Int32) : Nat → List Nat → List Vv → List Vv → Mem → Nat → Nat → List (Prop × St)
  | _, [], _, _, _, _, _ => []
  | n, t :: r, ls, st, m, uc, us => (x = nI n, t, ls, st, m, uc, us) :: eSw x (n + 1) r ls st m uc us
def eTab (a b : Nat) (ts : List Nat) (ls st : List Vv) (m : Mem) (uc us : Nat) : Eff := match st with
  | .inl x :: r => eS ((x < nI b ∨ nI (b + ts.length) ≤ x, a, ls, r, m, uc, us) :: eSw x b ts ls r m uc us)
  | _ => eN
def eDup (nx : Nat) (ls st : List Vv) (m : Mem) (uc us : Nat) : Eff := match st with
  | v :: r => (match ctg v with
    | 1 => eP (nx, ls, v :: v :: r, m, uc, us)
    | _ => eN)
  | _ => eN
def ePop (nx : Nat) (ls st : List Vv) (m : Mem) (uc us : Nat) : Eff := match st with
  | v :: r => (match ctg v with
    | 1 => eP (nx, ls, r, m, uc, us)
    | _ => eN)
  | _ => eN
def eDup2 (nx : Nat) (ls st : List Vv) (m : Mem) (uc us : Nat) : Eff := match st with
  | v :: w :: r => (match ctg v, ctg w with
    | 1, 1 => eP (nx, ls, v :: w :: v :: w :: r, m, uc, us)
    | _, _ => eN)
  | _ => eN
def eCpy (nx : Nat) (ls st : List Vv) (m : Mem) (uc us : Nat) : Eff := match st with
  | .inl n :: .inl dp :: .inr (.inr (.inl (some d))) :: .inl sp :: .inr (.inr (.inl (some s))) :: r => (match Nat.beq (sh s) 20 && (Nat.beq (sh d) 20 && Nat.ble (ctgs r) 8) with
    | true => eQ (¬ n < 0 ∧ ¬ sp < 0 ∧ ¬ dp < 0 ∧ sp.toNatClampNeg + n.toNatClampNeg ≤ ln s ∧ dp.toNatClampNeg + n.toNatClampNeg ≤ ln d) (nx, ls, r, cpI m s d sp.toNatClampNeg dp.toNatClampNeg n.toNatClampNeg, uc, us)
    | false => eN)
  | _ => eN
def ePrm (a nx : Nat) (ls st : List Vv) (m : Mem) (uc us : Nat) : Eff := match a, st with
  | 1, .inr (.inr (.inl (some _))) :: r => (match Nat.ble (ctgs r) 8 with
    | true => eP (nx, ls, r, m, uc, us)
    | false => eN)
  | 2, st => eCpy nx ls st m uc us
  | 3, .inl y :: .inl x :: r => (match Nat.ble (ctgs r) 8 with
    | true => eP (nx, ls, vi (if x < y then y else x) :: r, m, uc, us)
    | false => eN)
  | 4, .inl y :: .inl x :: r => (match Nat.ble (ctgs r) 8 with
    | true => eP (nx, ls, vi (if y < x then y else x) :: r, m, uc, us)
    | false => eN)
  | 5, .inl x :: r => (match Nat.ble (ctgs r) 8 with
    | true => eP (nx, ls, vi (if 0 ≤ x then x else 0 - x) :: r, m, uc, us)
    | false => eN)
  | _, _ => eN
/-- the receiver is an object of the method's class (98: an object; 99: no receiver) -/
def rcv (c : Nat) (as : List Vv) : Bool := match Nat.beq c 99, as with
  | true, _ => true
  | _, .inr (.inr (.inl (some o))) :: _ => Nat.beq c 98 || Nat.beq (sh o) c
  | _, _ => false
def eCall (a b nx : Nat) (ts : List Nat) (ls st : List Vv) (m : Mem) (uc us : Nat) : Eff := match ts with
  | [] => ePrm a nx ls st m uc us
  | mc :: ms :: c :: _ => (match Nat.ble b st.length && (Nat.ble (ctgs (st.drop b)) 8 && rcv c (st.take b).reverse) with
    | true => eC a (st.take b).reverse mc ms (nx, ls, st.drop b, m, uc, us)
    | false => eN)
  | _ => eN
def eRet (a : Nat) (st : List Vv) (m : Mem) : Eff := match a, st with
  | 0, [.inl x] => eR True (some (vi x)) m
  | 1, [.inl x] => eR (x = 0 ∨ x = 1) (some (vi x)) m
  | _, _ => eN
def eRetL (st : List Vv) (m : Mem) : Eff := match st with
  | [.inr (.inl x)] => eR True (some (vl x)) m
  | _ => eN
def eRetA (st : List Vv) (m : Mem) : Eff := match st with
  | [.inr (.inr (.inl x))] => eR True (some (vr x)) m
  | _ => eN
def eRetV (st : List Vv) (m : Mem) : Eff := match st with
  | [] => eR True none m
  | _ => eN
/-- a method ends within its room -/
def eEnd (cap : Nat × Nat) (uc us : Nat) (e : Eff) : Eff := match Nat.ble uc cap.1 && Nat.ble us cap.2 with
  | true => e
  | false => eN
def eff (cap : Nat × Nat) (ins : Ins) (ls st : List Vv) (m : Mem) (uc us : Nat) : Eff := match ins with
  | (i, a, b, nx, v, ts) => match i with
    | .iconst _ => eP (nx, ls, v :: st, m, uc, us)
    | .bipush _ => eP (nx, ls, v :: st, m, uc, us)
    | .sipush _ => eP (nx, ls, v :: st, m, uc, us)
    | .lconst _ => eP (nx, ls, v :: st, m, uc, us)
    | .ldc _ => eP (nx, ls, v :: st, m, uc, us)
    | .ldc_w _ => eP (nx, ls, v :: st, m, uc, us)
    | .ldc2_w _ => eP (nx, ls, v :: st, m, uc, us)
    | .aconst_null => eP (nx, ls, vr none :: st, m, uc, us)
    | .getstatic _ => eP (nx, ls, vo 0 20 a :: st, m, uc, us)
    | .iload _ => eLdI ls a nx st m uc us
    | .iload_n _ => eLdI ls a nx st m uc us
    | .lload _ => eLdL ls a nx st m uc us
    | .lload_n _ => eLdL ls a nx st m uc us
    | .aload _ => eLdA ls a nx st m uc us
    | .aload_n _ => eLdA ls a nx st m uc us
    | .istore _ => eStI ls a nx st m uc us
    | .istore_n _ => eStI ls a nx st m uc us
    | .lstore _ => eStL ls a nx st m uc us
    | .lstore_n _ => eStL ls a nx st m uc us
    | .astore _ => eStA ls a nx st m uc us
    | .astore_n _ => eStA ls a nx st m uc us
    | .iinc _ _ => eInc ls a nx v st m uc us
    | .iadd => eI2 (fun x y => x + y) ls nx st m uc us
    | .isub => eI2 (fun x y => x - y) ls nx st m uc us
    | .imul => eI2 (fun x y => x * y) ls nx st m uc us
    | .iand => eI2 (fun x y => x &&& y) ls nx st m uc us
    | .ior => eI2 (fun x y => x ||| y) ls nx st m uc us
    | .ixor => eI2 (fun x y => x ^^^ y) ls nx st m uc us
    | .ishl => eI2 (fun x y => x <<< (y &&& 31)) ls nx st m uc us
    | .ishr => eI2 (fun x y => x >>> (y &&& 31)) ls nx st m uc us
    | .iushr => eI2 (fun x y => (x.toUInt32 >>> (y.toUInt32 &&& Int32.toUInt32 31)).toInt32) ls nx st m uc us
    | .idiv => eI2q (fun x y => x / y) ls nx st m uc us
    | .irem => eI2q (fun x y => x - x / y * y) ls nx st m uc us
    | .ineg => eI1 (fun x => -x) ls nx st m uc us
    | .i2b => eI1 (fun x => x.toInt8.toInt32) ls nx st m uc us
    | .ladd => eL2 (fun x y => x + y) ls nx st m uc us
    | .lsub => eL2 (fun x y => x - y) ls nx st m uc us
    | .lmul => eL2 (fun x y => x * y) ls nx st m uc us
    | .ldiv => eL2q (fun x y => x / y) ls nx st m uc us
    | .lrem => eL2q (fun x y => x - x / y * y) ls nx st m uc us
    | .lcmp => eLc ls nx st m uc us
    | .i2l => eIL ls nx st m uc us
    | .l2i => eLI ls nx st m uc us
    | .goto _ => eP (a, ls, st, m, uc, us)
    | .if_icmp c _ => (match c with
      | .eq => eCm (fun x y => x = y) ls a nx st m uc us
      | .ne => eCm (fun x y => x = y) ls nx a st m uc us
      | .lt => eCm (fun x y => x < y) ls a nx st m uc us
      | .ge => eCm (fun x y => y ≤ x) ls a nx st m uc us
      | .gt => eCm (fun x y => y < x) ls a nx st m uc us
      | .le => eCm (fun x y => x ≤ y) ls a nx st m uc us)
    | .ifCond c _ => (match c with
      | .eq => eC0 (fun x => x = 0) ls a nx st m uc us
      | .ne => eC0 (fun x => x = 0) ls nx a st m uc us
      | .lt => eC0 (fun x => x < 0) ls a nx st m uc us
      | .ge => eC0 (fun x => 0 ≤ x) ls a nx st m uc us
      | .gt => eC0 (fun x => 0 < x) ls a nx st m uc us
      | .le => eC0 (fun x => x ≤ 0) ls a nx st m uc us)
    | .ifnull _ => eNu ls a nx st m uc us
    | .ifnonnull _ => eNu ls nx a st m uc us
    | .if_acmp c _ => (match c with
      | .eq => eAc ls a nx st m uc us
      | .ne => eAc ls nx a st m uc us)
    | .getfield _ => eGet a b nx ts ls st m uc us
    | .putfield _ => ePut a b nx ts ls st m uc us
    | .iaload => eIald nx ls st m uc us
    | .baload => eZald nx ls st m uc us
    | .aaload => eAald nx ls st m uc us
    | .iastore => eIast nx ls st m uc us
    | .bastore => eZast nx ls st m uc us
    | .aastore => eAast nx ls st m uc us
    | .arraylength => eLen nx ls st m uc us
    | .new _ => eNew cap a b nx (ts.getD 0 0) ls st m uc us
    | .newarray _ => eArr cap a b nx ls st m uc us
    | .anewarray _ => eArr cap a b nx ls st m uc us
    | .multianewarray _ _ => eMul cap a b nx (ts.getD 0 0) ls st m uc us
    | .tableswitch _ _ _ _ => eTab a b ts ls st m uc us
    | .dup => eDup nx ls st m uc us
    | .pop => ePop nx ls st m uc us
    | .dup2 => eDup2 nx ls st m uc us
    | .invokevirtual _ => eEnd cap uc us (eCall a b nx ts ls st m uc us)
    | .invokespecial _ => eEnd cap uc us (eCall a b nx ts ls st m uc us)
    | .invokestatic _ => eEnd cap uc us (eCall a b nx ts ls st m uc us)
    | .ireturn => eEnd cap uc us (eRet a st m)
    | .lreturn => eEnd cap uc us (eRetL st m)
    | .areturn => eEnd cap uc us (eRetA st m)
    | .return_ => eEnd cap uc us (eRetV st m)
    | _ => eN
abbrev PT := Nat → List Vv → List Vv → Mem → Nat → Nat → Prop
abbrev CT := Nat → List Vv → Mem → (Option Vv → Mem → Prop) → Prop
def foS (P : PT) : List (Prop × St) → Prop
  | [] => True
  | (q, s) :: r => (q → P s.1 s.2.1 s.2.2.1 s.2.2.2.1 s.2.2.2.2.1 s.2.2.2.2.2) ∧ foS P r
def inL (v : Option Vv) (st : List Vv) : List Vv := match v with
  | some w => w :: st
  | none => st
def stepE (C : CT) (cap : Nat × Nat) (P : PT) (K : Option Vv → Mem → Prop) (e : Eff) : Prop := match e with
  | .inl (ix, ls, st, m, uc, us) => P ix ls st m uc us
  | .inr (.inl (q, ix, ls, st, m, uc, us)) => q ∧ P ix ls st m uc us
  | .inr (.inr (.inl (c, (ix, ls, st, m, uc, us), (ix2, ls2, st2, m2, uc2, us2)))) => (c → P ix ls st m uc us) ∧ (¬ c → P ix2 ls2 st2 m2 uc2 us2)
  | .inr (.inr (.inr (.inl l))) => foS P l
  | .inr (.inr (.inr (.inr (.inl (y, a, mc, ms, ix, ls, st, m, uc, us))))) => (match mc with
    | 0 => C y a m (fun v m' => P ix ls (inL v st) m' uc us)
    | _ => (uc + mc ≤ cap.1 ∧ us + ms ≤ cap.2) ∧ C y a m (fun v m' => P ix ls (inL v st) m' (uc + mc) (us + ms)))
  | .inr (.inr (.inr (.inr (.inr (.inl (q, v, m)))))) => q ∧ K v m
  | .inr (.inr (.inr (.inr (.inr (.inr _))))) => False
def stp (C : CT) (cd : List Ins) (cap : Nat × Nat) (P : PT) (K : Option Vv → Mem → Prop) (ix : Nat) (ls st : List Vv) (m : Mem) (uc us : Nat) : Prop := match cd[ix]? with
  | some ins => stepE C cap P K (eff cap ins ls st m uc us)
  | none => False
/-- from here the method comes to its end with K: the least relation that the steps close -/
def Go (C : CT) (cd : List Ins) (cap : Nat × Nat) (K : Option Vv → Mem → Prop) : PT := fun ix ls st m uc us =>
  ∀ P : PT, (∀ ix ls st m uc us, stp C cd cap P K ix ls st m uc us → P ix ls st m uc us) → P ix ls st m uc us
/-- so many steps, up to one of the places hd -/
def run (C : CT) (cd : List Ins) (cap : Nat × Nat) (K : Option Vv → Mem → Prop) (hd : List Nat) : Nat → PT
  | 0 => Go C cd cap K
  | n + 1 => fun ix ls st m uc us => match hd.elem ix with
    | true => Go C cd cap K ix ls st m uc us
    | false => stp C cd cap (run C cd cap K hd n) K ix ls st m uc us
def monoC (C : CT) : Prop := ∀ (y : Nat) (a : List Vv) (m : Mem) (K K' : Option Vv → Mem → Prop), (∀ v m, K v m → K' v m) → C y a m K → C y a m K'
theorem foS_mono {P P' : PT} (h : ∀ ix ls st m uc us, P ix ls st m uc us → P' ix ls st m uc us) : ∀ l : List (Prop × St), foS P l → foS P' l
  | [], _ => trivial
  | (q, s) :: r, hx => ⟨fun hq => h _ _ _ _ _ _ (hx.1 hq), foS_mono h r hx.2⟩
theorem stepE_mono {C C' : CT} {cap : Nat × Nat} {P P' : PT} {K K' : Option Vv → Mem → Prop} (hC : ∀ (y : Nat) (a : List Vv) (m : Mem) (K K' : Option Vv → Mem → Prop), (∀ v m, K v m → K' v m) → C y a m K → C' y a m K') (h : ∀ ix ls st m uc us, P ix ls st m uc us → P' ix ls st m uc us) (hK : ∀ v m, K v m → K' v m) (e : Eff) (hx : stepE C cap P K e) : stepE C' cap P' K' e := by
  rcases e with ⟨ix, ls, st, m, uc, us⟩ | ⟨q, ix, ls, st, m, uc, us⟩ | ⟨c, ⟨ix, ls, st, m, uc, us⟩, ⟨ix2, ls2, st2, m2, uc2, us2⟩⟩ | l | ⟨y, a, mc, ms, ix, ls, st, m, uc, us⟩ | ⟨q, v, m⟩ | u
  · exact h _ _ _ _ _ _ hx
  · exact ⟨hx.1, h _ _ _ _ _ _ hx.2⟩
  · exact ⟨fun g => h _ _ _ _ _ _ (hx.1 g), fun g => h _ _ _ _ _ _ (hx.2 g)⟩
  · exact foS_mono h l hx
  · cases mc with
    | zero => exact hC _ _ _ _ _ (fun v m' g => h _ _ _ _ _ _ g) hx
    | succ k => exact ⟨hx.1, hC _ _ _ _ _ (fun v m' g => h _ _ _ _ _ _ g) hx.2⟩
  · exact ⟨hx.1, hK _ _ hx.2⟩
  · exact hx
theorem stp_mono {C C' : CT} {cd : List Ins} {cap : Nat × Nat} {P P' : PT} {K K' : Option Vv → Mem → Prop} (hC : ∀ (y : Nat) (a : List Vv) (m : Mem) (K K' : Option Vv → Mem → Prop), (∀ v m, K v m → K' v m) → C y a m K → C' y a m K') (h : ∀ ix ls st m uc us, P ix ls st m uc us → P' ix ls st m uc us) (hK : ∀ v m, K v m → K' v m) {ix : Nat} {ls st : List Vv} {m : Mem} {uc us : Nat} (hx : stp C cd cap P K ix ls st m uc us) : stp C' cd cap P' K' ix ls st m uc us := by
  unfold stp at hx ⊢
  cases hc : cd[ix]? with
  | none => rw [hc] at hx; exact hx
  | some ins => rw [hc] at hx; exact stepE_mono hC h hK _ hx
theorem Go.step {C : CT} (hC : monoC C) {cd : List Ins} {cap : Nat × Nat} {K : Option Vv → Mem → Prop} {ix : Nat} {ls st : List Vv} {m : Mem} {uc us : Nat} (h : stp C cd cap (Go C cd cap K) K ix ls st m uc us) : Go C cd cap K ix ls st m uc us := fun P hP =>
  hP _ _ _ _ _ _ (stp_mono hC (fun _ _ _ _ _ _ g => g P hP) (fun _ _ g => g) h)
theorem Go.mono {C C' : CT} (hC : ∀ (y : Nat) (a : List Vv) (m : Mem) (K K' : Option Vv → Mem → Prop), (∀ v m, K v m → K' v m) → C y a m K → C' y a m K') {cd : List Ins} {cap : Nat × Nat} {K K' : Option Vv → Mem → Prop} (hK : ∀ v m, K v m → K' v m) {ix : Nat} {ls st : List Vv} {m : Mem} {uc us : Nat} (h : Go C cd cap K ix ls st m uc us) : Go C' cd cap K' ix ls st m uc us := fun P hP =>
  h P (fun _ _ _ _ _ _ g => hP _ _ _ _ _ _ (stp_mono hC (fun _ _ _ _ _ _ g => g) hK g))
theorem run_go {C : CT} (hC : monoC C) {cd : List Ins} {cap : Nat × Nat} {K : Option Vv → Mem → Prop} {hd : List Nat} : ∀ (n ix : Nat) (ls st : List Vv) (m : Mem) (uc us : Nat), run C cd cap K hd n ix ls st m uc us → Go C cd cap K ix ls st m uc us
  | 0, _, _, _, _, _, _, h => h
  | n + 1, ix, ls, st, m, uc, us, h => by
    unfold run at h
    cases he : hd.elem ix with
    | true => rw [he] at h; exact h
    | false => rw [he] at h; exact Go.step hC (stp_mono hC (run_go hC n) (fun _ _ g => g) h)
/-- n steps up to a place of hd; the first step in any case -/
theorem Go.run {C : CT} (hC : monoC C) {cd : List Ins} {cap : Nat × Nat} {K : Option Vv → Mem → Prop} (hd : List Nat) (n : Nat) {ix : Nat} {ls st : List Vv} {m : Mem} {uc us : Nat} (h : stp C cd cap (run C cd cap K hd n) K ix ls st m uc us) : Go C cd cap K ix ls st m uc us :=
  Go.step hC (stp_mono hC (run_go hC n) (fun _ _ g => g) h)
def slL : List Vv → List Vv
  | [] => []
  | v :: r => match ctg v with
    | 2 => v :: vu :: slL r
    | _ => v :: slL r
/-- the locals at a method's entry -/
def mkL (n : Nat) (as : List Vv) : List Vv := slL as ++ List.replicate (n - (slL as).length) vu
/-- a method: name, code, locals, what it returns, its class (a number), the class of its receiver; its instructions, their places in the code, its room (frames, words), what it may make (cells, slots) -/
abbrev MRow := MethodName × ByteArray × Nat × Option FieldType × Nat × List Ins × List Nat × (Nat × Nat) × (Nat × Nat)
def callT (MT : List MRow) : Nat → CT
  | 0, _, _, _, _ => False
  | d + 1, y, as, m, K => match MT[y]? with
    | some (_, _, n, _, _, cd, _, _, cap) => Nat.ble (slL as).length n = true ∧ Go (callT MT d) cd cap K 0 (mkL n as) [] m 0 0
    | none => False
theorem callT_mono (MT : List MRow) : ∀ d : Nat, monoC (callT MT d)
  | 0, _, _, _, _, _, _, h => h
  | d + 1, y, as, m, K, K', hK, h => by
    unfold callT at h ⊢
    cases hy : MT[y]? with
    | none => rw [hy] at h; exact h
    | some r => rw [hy] at h; exact ⟨h.1, Go.mono (callT_mono MT d) hK h.2⟩
theorem callT_up (MT : List MRow) : ∀ (d : Nat) (y : Nat) (a : List Vv) (m : Mem) (K K' : Option Vv → Mem → Prop), (∀ v m, K v m → K' v m) → callT MT d y a m K → callT MT (d + 1) y a m K'
  | 0, _, _, _, _, _, _, h => absurd h (fun g => g)
  | d + 1, y, as, m, K, K', hK, h => by
    unfold callT at h ⊢
    cases hy : MT[y]? with
    | none => rw [hy] at h; exact h
    | some r => rw [hy] at h; exact ⟨h.1, Go.mono (callT_up MT d) hK h.2⟩
end
section
/-! Written by a program (wip/whole/gen.py) out of the printed names and the listing: the methods, their instructions with what they link to. -/
def RX0 : String := "NoiseTithe$Cells"
def TX0 : u_T := fun k => match k with
  | 0 => ("NoiseTithe$Cells", "cells", "[I", true)
  | _ => ("NoiseTithe$Cells", "size", "I", false)
def tyX0 : Nat → FieldType := fun k => match k with
  | 0 => .array .int
  | _ => .int
abbrev wsX00 : List Cond := u_ws RX0 TX0 2
theorem nmX0 : ∀ a, a < 2 → ∀ b, b < 2 → a ≠ b → (TX0 a).2.1 ≠ (TX0 b).2.1 := by decide +kernel
theorem tyX0_ok : ∀ k, k < 2 → parseFieldDescriptor (TX0 k).2.2.1 = some (tyX0 k) := by decide +kernel
def RX1 : String := "NoiseTithe$Fraction"
def TX1 : u_T := fun k => match k with
  | 0 => ("NoiseTithe$Fraction", "top", "J", false)
  | _ => ("NoiseTithe$Fraction", "bottom", "J", false)
def tyX1 : Nat → FieldType := fun k => match k with
  | 0 => .long
  | _ => .long
abbrev wsX10 : List Cond := u_ws RX1 TX1 2
theorem nmX1 : ∀ a, a < 2 → ∀ b, b < 2 → a ≠ b → (TX1 a).2.1 ≠ (TX1 b).2.1 := by decide +kernel
theorem tyX1_ok : ∀ k, k < 2 → parseFieldDescriptor (TX1 k).2.2.1 = some (tyX1 k) := by decide +kernel
def RX2 : String := "NoiseTithe$Grammar"
def RX3 : String := "NoiseTithe$Hour"
def TX3 : u_T := fun k => match k with
  | 0 => ("NoiseTithe$Hour", "madeAhead", "[I", true)
  | 1 => ("NoiseTithe$Hour", "set", "I", false)
  | 2 => ("NoiseTithe$Hour", "rose", "I", false)
  | 3 => ("NoiseTithe$Hour", "waterAhead", "I", false)
  | _ => ("NoiseTithe$Hour", "ranOverAhead", "I", false)
def tyX3 : Nat → FieldType := fun k => match k with
  | 0 => .array .int
  | 1 => .int
  | 2 => .int
  | 3 => .int
  | _ => .int
abbrev wsX30 : List Cond := u_ws RX3 TX3 5
theorem nmX3 : ∀ a, a < 5 → ∀ b, b < 5 → a ≠ b → (TX3 a).2.1 ≠ (TX3 b).2.1 := by decide +kernel
theorem tyX3_ok : ∀ k, k < 5 → parseFieldDescriptor (TX3 k).2.2.1 = some (tyX3 k) := by decide +kernel
def RX4 : String := "NoiseTithe$House"
def TX4 : u_T := fun k => match k with
  | 0 => ("NoiseTithe$House", "kind", "LNoiseTithe$Kind;", false)
  | 1 => ("NoiseTithe$House", "loud", "I", false)
  | 2 => ("NoiseTithe$House", "wall", "I", false)
  | 3 => ("NoiseTithe$House", "made", "I", false)
  | _ => ("NoiseTithe$House", "paid", "I", false)
def tyX4 : Nat → FieldType := fun k => match k with
  | 0 => .object "NoiseTithe$Kind"
  | 1 => .int
  | 2 => .int
  | 3 => .int
  | _ => .int
abbrev wsX40 : List Cond := u_ws RX4 TX4 5
theorem nmX4 : ∀ a, a < 5 → ∀ b, b < 5 → a ≠ b → (TX4 a).2.1 ≠ (TX4 b).2.1 := by decide +kernel
theorem tyX4_ok : ∀ k, k < 5 → parseFieldDescriptor (TX4 k).2.2.1 = some (tyX4 k) := by decide +kernel
def RX5 : String := "NoiseTithe$Kind"
def RX6 : String := "NoiseTithe$Sets"
def TX6 : u_T := fun k => match k with
  | 0 => ("NoiseTithe$Sets", "ripples", "[I", true)
  | 1 => ("NoiseTithe$Sets", "sums", "[I", true)
  | 2 => ("NoiseTithe$Sets", "table", "[I", true)
  | 3 => ("NoiseTithe$Sets", "setCount", "I", false)
  | 4 => ("NoiseTithe$Sets", "houseCount", "I", false)
  | _ => ("NoiseTithe$Sets", "mutes", "I", false)
def tyX6 : Nat → FieldType := fun k => match k with
  | 0 => .array .int
  | 1 => .array .int
  | 2 => .array .int
  | 3 => .int
  | 4 => .int
  | _ => .int
abbrev wsX60 : List Cond := u_ws RX6 TX6 6
theorem nmX6 : ∀ a, a < 6 → ∀ b, b < 6 → a ≠ b → (TX6 a).2.1 ≠ (TX6 b).2.1 := by decide +kernel
theorem tyX6_ok : ∀ k, k < 6 → parseFieldDescriptor (TX6 k).2.2.1 = some (tyX6 k) := by decide +kernel
def RX7 : String := "NoiseTithe$Street"
def TX7 : u_T := fun k => match k with
  | 0 => ("NoiseTithe$Street", "houses", "[LNoiseTithe$House;", true)
  | 1 => ("NoiseTithe$Street", "past", "[LNoiseTithe$Hour;", true)
  | 2 => ("NoiseTithe$Street", "debts", "[[I", true)
  | 3 => ("NoiseTithe$Street", "houseCount", "I", false)
  | 4 => ("NoiseTithe$Street", "hourCount", "I", false)
  | 5 => ("NoiseTithe$Street", "altarPlace", "I", false)
  | 6 => ("NoiseTithe$Street", "leak", "I", false)
  | 7 => ("NoiseTithe$Street", "water", "I", false)
  | _ => ("NoiseTithe$Street", "ranOver", "I", false)
def tyX7 : Nat → FieldType := fun k => match k with
  | 0 => .array (.object "NoiseTithe$House")
  | 1 => .array (.object "NoiseTithe$Hour")
  | 2 => .array (.array .int)
  | 3 => .int
  | 4 => .int
  | 5 => .int
  | 6 => .int
  | 7 => .int
  | _ => .int
abbrev wsX70 : List Cond := u_ws RX7 TX7 9
theorem nmX7 : ∀ a, a < 9 → ∀ b, b < 9 → a ≠ b → (TX7 a).2.1 ≠ (TX7 b).2.1 := by decide +kernel
theorem tyX7_ok : ∀ k, k < 9 → parseFieldDescriptor (TX7 k).2.2.1 = some (tyX7 k) := by decide +kernel
def RX8 : String := "NoiseTithe"
def TX8 : u_T := fun k => match k with
  | 0 => ("NoiseTithe", "rows", "[LNoiseTithe$Cells;", true)
  | 1 => ("NoiseTithe", "texts", "[LNoiseTithe$Cells;", true)
  | 2 => ("NoiseTithe", "street", "LNoiseTithe$Street;", true)
  | 3 => ("NoiseTithe", "keptStreets", "[LNoiseTithe$Street;", true)
  | 4 => ("NoiseTithe", "sets", "LNoiseTithe$Sets;", true)
  | 5 => ("NoiseTithe", "fraction", "LNoiseTithe$Fraction;", true)
  | 6 => ("NoiseTithe", "findingCounts", "[I", true)
  | 7 => ("NoiseTithe", "latestFinding", "I", false)
  | _ => ("NoiseTithe", "told", "I", false)
def tyX8 : Nat → FieldType := fun k => match k with
  | 0 => .array (.object "NoiseTithe$Cells")
  | 1 => .array (.object "NoiseTithe$Cells")
  | 2 => .object "NoiseTithe$Street"
  | 3 => .array (.object "NoiseTithe$Street")
  | 4 => .object "NoiseTithe$Sets"
  | 5 => .object "NoiseTithe$Fraction"
  | 6 => .array .int
  | 7 => .int
  | _ => .int
abbrev wsX80 : List Cond := u_ws RX8 TX8 9
theorem nmX8 : ∀ a, a < 9 → ∀ b, b < 9 → a ≠ b → (TX8 a).2.1 ≠ (TX8 b).2.1 := by decide +kernel
theorem tyX8_ok : ∀ k, k < 9 → parseFieldDescriptor (TX8 k).2.2.1 = some (tyX8 k) := by decide +kernel
def RX9 : String := "NoiseTitheModel"
def TX9 : u_T := fun k => match k with
  | 0 => ("NoiseTitheModel", "finding", "I", false)
  | 1 => ("NoiseTitheModel", "findings", "[I", true)
  | 2 => ("NoiseTitheModel", "asked", "I", false)
  | 3 => ("NoiseTitheModel", "upper", "J", false)
  | 4 => ("NoiseTitheModel", "lower", "J", false)
  | 5 => ("NoiseTitheModel", "sizes", "[I", true)
  | 6 => ("NoiseTitheModel", "rows", "[I", true)
  | 7 => ("NoiseTitheModel", "moving", "[I", true)
  | 8 => ("NoiseTitheModel", "lengths", "[I", true)
  | 9 => ("NoiseTitheModel", "texts", "[I", true)
  | 10 => ("NoiseTitheModel", "many", "I", false)
  | 11 => ("NoiseTitheModel", "altar", "I", false)
  | 12 => ("NoiseTitheModel", "leak", "I", false)
  | 13 => ("NoiseTitheModel", "kinds", "[I", true)
  | 14 => ("NoiseTitheModel", "louds", "[I", true)
  | 15 => ("NoiseTitheModel", "walls", "[I", true)
  | 16 => ("NoiseTitheModel", "readAt", "I", false)
  | 17 => ("NoiseTitheModel", "readMany", "I", false)
  | 18 => ("NoiseTitheModel", "readAltar", "I", false)
  | 19 => ("NoiseTitheModel", "readLeak", "I", false)
  | 20 => ("NoiseTitheModel", "hourMany", "I", false)
  | 21 => ("NoiseTitheModel", "water", "I", false)
  | 22 => ("NoiseTitheModel", "over", "I", false)
  | 23 => ("NoiseTitheModel", "made", "[I", true)
  | 24 => ("NoiseTitheModel", "paid", "[I", true)
  | 25 => ("NoiseTitheModel", "notes", "[I", true)
  | 26 => ("NoiseTitheModel", "kept", "[I", true)
  | 27 => ("NoiseTitheModel", "fitMany", "I", false)
  | 28 => ("NoiseTitheModel", "fitLeast", "I", false)
  | 29 => ("NoiseTitheModel", "fitEach", "I", false)
  | 30 => ("NoiseTitheModel", "fitSome", "I", false)
  | 31 => ("NoiseTitheModel", "fitTimes", "[I", true)
  | 32 => ("NoiseTitheModel", "isHad", "[Z", true)
  | 33 => ("NoiseTitheModel", "laid", "[I", true)
  | 34 => ("NoiseTitheModel", "fewest", "[I", true)
  | 35 => ("NoiseTitheModel", "debts", "[I", true)
  | 36 => ("NoiseTitheModel", "groups", "[I", true)
  | _ => ("NoiseTitheModel", "h0", "J", false)
def tyX9 : Nat → FieldType := fun k => match k with
  | 0 => .int
  | 1 => .array .int
  | 2 => .int
  | 3 => .long
  | 4 => .long
  | 5 => .array .int
  | 6 => .array .int
  | 7 => .array .int
  | 8 => .array .int
  | 9 => .array .int
  | 10 => .int
  | 11 => .int
  | 12 => .int
  | 13 => .array .int
  | 14 => .array .int
  | 15 => .array .int
  | 16 => .int
  | 17 => .int
  | 18 => .int
  | 19 => .int
  | 20 => .int
  | 21 => .int
  | 22 => .int
  | 23 => .array .int
  | 24 => .array .int
  | 25 => .array .int
  | 26 => .array .int
  | 27 => .int
  | 28 => .int
  | 29 => .int
  | 30 => .int
  | 31 => .array .int
  | 32 => .array .boolean
  | 33 => .array .int
  | 34 => .array .int
  | 35 => .array .int
  | 36 => .array .int
  | _ => .long
abbrev wsX90 : List Cond := u_ws RX9 TX9 38
theorem nmX9 : ∀ a, a < 38 → ∀ b, b < 38 → a ≠ b → (TX9 a).2.1 ≠ (TX9 b).2.1 := by decide +kernel
theorem tyX9_ok : ∀ k, k < 38 → parseFieldDescriptor (TX9 k).2.2.1 = some (tyX9 k) := by decide +kernel
def RL : String := "NoiseTitheLaw"
abbrev n_Ce_init : Nat := 0
noncomputable def i_Ce_init : List Ins := [(.aload_n 0, 0, 0, 1, vu, []),
  (.invokespecial 1, 1, 0, 2, vu, []),
  (.aload_n 0, 0, 0, 3, vu, []),
  (.iconst (-1), 0, 0, 4, vi (-1), []),
  (.putfield 9, 0, 1, 5, vu, [0]),
  (.aload_n 0, 0, 0, 6, vu, []),
  (.iload_n 1, 1, 0, 7, vu, []),
  (.iconst 0, 0, 0, 8, vi 0, []),
  (.invokestatic 13, 3, 0, 9, vu, []),
  (.newarray .int, 0, 2, 10, vu, []),
  (.putfield 19, 0, 0, 11, vu, [2]),
  (.return_, 0, 0, 12, vu, [])]
noncomputable def p_Ce_init : List Nat := [0, 1, 4, 5, 6, 9, 10, 11, 12, 15, 17, 20]
abbrev n_Ce_isMissing : Nat := 1
noncomputable def i_Ce_isMissing : List Ins := [(.aload_n 0, 0, 0, 1, vu, []),
  (.getfield 9, 0, 1, 2, vu, [0]),
  (.iconst (-1), 0, 0, 3, vi (-1), []),
  (.if_icmp .ne 7, 6, 0, 4, vu, []),
  (.iconst 1, 0, 0, 5, vi 1, []),
  (.goto 4, 7, 0, 6, vu, []),
  (.iconst 0, 0, 0, 7, vi 0, []),
  (.ireturn, 1, 0, 8, vu, [])]
noncomputable def p_Ce_isMissing : List Nat := [0, 1, 4, 5, 8, 9, 12, 13]
abbrev n_Ce_has : Nat := 2
noncomputable def i_Ce_has : List Ins := [(.iload_n 1, 1, 0, 1, vu, []),
  (.ifCond .lt 15, 8, 0, 2, vu, []),
  (.iload_n 1, 1, 0, 3, vu, []),
  (.aload_n 0, 0, 0, 4, vu, []),
  (.getfield 9, 0, 1, 5, vu, [0]),
  (.if_icmp .ge 7, 8, 0, 6, vu, []),
  (.iconst 1, 0, 0, 7, vi 1, []),
  (.goto 4, 9, 0, 8, vu, []),
  (.iconst 0, 0, 0, 9, vi 0, []),
  (.ireturn, 1, 0, 10, vu, [])]
noncomputable def p_Ce_has : List Nat := [0, 1, 4, 5, 6, 9, 12, 13, 16, 17]
abbrev n_Ce_hasSpan : Nat := 3
noncomputable def i_Ce_hasSpan : List Ins := [(.iload_n 2, 2, 0, 1, vu, []),
  (.ifCond .lt 21, 12, 0, 2, vu, []),
  (.iload_n 1, 1, 0, 3, vu, []),
  (.ifCond .lt 17, 12, 0, 4, vu, []),
  (.iload_n 1, 1, 0, 5, vu, []),
  (.aload_n 0, 0, 0, 6, vu, []),
  (.getfield 9, 0, 1, 7, vu, [0]),
  (.iload_n 2, 2, 0, 8, vu, []),
  (.isub, 0, 0, 9, vu, []),
  (.if_icmp .gt 7, 12, 0, 10, vu, []),
  (.iconst 1, 0, 0, 11, vi 1, []),
  (.goto 4, 13, 0, 12, vu, []),
  (.iconst 0, 0, 0, 13, vi 0, []),
  (.ireturn, 1, 0, 14, vu, [])]
noncomputable def p_Ce_hasSpan : List Nat := [0, 1, 4, 5, 8, 9, 10, 13, 14, 15, 18, 19, 22, 23]
abbrev n_Ce_get : Nat := 4
noncomputable def i_Ce_get : List Ins := [(.aload_n 0, 0, 0, 1, vu, []),
  (.iload_n 1, 1, 0, 2, vu, []),
  (.invokevirtual 23, 2, 2, 3, vu, [0, 0, 0]),
  (.ifCond .eq 12, 9, 0, 4, vu, []),
  (.aload_n 0, 0, 0, 5, vu, []),
  (.getfield 19, 0, 0, 6, vu, [2]),
  (.iload_n 1, 1, 0, 7, vu, []),
  (.iaload, 0, 0, 8, vu, []),
  (.goto 4, 10, 0, 9, vu, []),
  (.iconst 0, 0, 0, 10, vi 0, []),
  (.ireturn, 0, 0, 11, vu, [])]
noncomputable def p_Ce_get : List Nat := [0, 1, 2, 5, 8, 9, 12, 13, 14, 17, 18]
abbrev n_Ce_set : Nat := 5
noncomputable def i_Ce_set : List Ins := [(.aload_n 0, 0, 0, 1, vu, []),
  (.iload_n 1, 1, 0, 2, vu, []),
  (.invokevirtual 23, 2, 2, 3, vu, [0, 0, 0]),
  (.ifCond .eq 10, 9, 0, 4, vu, []),
  (.aload_n 0, 0, 0, 5, vu, []),
  (.getfield 19, 0, 0, 6, vu, [2]),
  (.iload_n 1, 1, 0, 7, vu, []),
  (.iload_n 2, 2, 0, 8, vu, []),
  (.iastore, 0, 0, 9, vu, []),
  (.return_, 0, 0, 10, vu, [])]
noncomputable def p_Ce_set : List Nat := [0, 1, 2, 5, 8, 9, 12, 13, 14, 15]
abbrev n_Ce_renew : Nat := 6
noncomputable def i_Ce_renew : List Ins := [(.aload_n 0, 0, 0, 1, vu, []),
  (.iconst 0, 0, 0, 2, vi 0, []),
  (.iload_n 1, 1, 0, 3, vu, []),
  (.aload_n 0, 0, 0, 4, vu, []),
  (.getfield 19, 0, 0, 5, vu, [2]),
  (.arraylength, 0, 0, 6, vu, []),
  (.invokestatic 27, 4, 0, 7, vu, []),
  (.invokestatic 13, 3, 0, 8, vu, []),
  (.putfield 9, 0, 1, 9, vu, [0]),
  (.iconst 0, 0, 0, 10, vi 0, []),
  (.istore_n 3, 3, 0, 11, vu, []),
  (.iload_n 3, 3, 0, 12, vu, []),
  (.aload_n 0, 0, 0, 13, vu, []),
  (.getfield 9, 0, 1, 14, vu, [0]),
  (.if_icmp .ge 16, 22, 0, 15, vu, []),
  (.aload_n 0, 0, 0, 16, vu, []),
  (.getfield 19, 0, 0, 17, vu, [2]),
  (.iload_n 3, 3, 0, 18, vu, []),
  (.iload_n 2, 2, 0, 19, vu, []),
  (.iastore, 0, 0, 20, vu, []),
  (.iinc 3 1, 3, 0, 21, vi 1, []),
  (.goto (-18), 11, 0, 22, vu, []),
  (.return_, 0, 0, 23, vu, [])]
noncomputable def p_Ce_renew : List Nat := [0, 1, 2, 3, 4, 7, 8, 11, 14, 17, 18, 19, 20, 21, 24, 27, 28, 31, 32, 33, 34, 37, 40]
abbrev n_Ce_remove : Nat := 7
noncomputable def i_Ce_remove : List Ins := [(.aload_n 0, 0, 0, 1, vu, []),
  (.iconst (-1), 0, 0, 2, vi (-1), []),
  (.putfield 9, 0, 1, 3, vu, [0]),
  (.return_, 0, 0, 4, vu, [])]
noncomputable def p_Ce_remove : List Nat := [0, 1, 2, 5]
abbrev n_Ce_take : Nat := 8
noncomputable def i_Ce_take : List Ins := [(.aload_n 1, 1, 0, 1, vu, []),
  (.iload_n 2, 2, 0, 2, vu, []),
  (.iload 4, 4, 0, 3, vu, []),
  (.invokevirtual 30, 3, 3, 4, vu, [0, 0, 0]),
  (.ifCond .eq 28, 18, 0, 5, vu, []),
  (.aload_n 0, 0, 0, 6, vu, []),
  (.iload_n 3, 3, 0, 7, vu, []),
  (.iload 4, 4, 0, 8, vu, []),
  (.invokevirtual 30, 3, 3, 9, vu, [0, 0, 0]),
  (.ifCond .eq 18, 18, 0, 10, vu, []),
  (.aload_n 1, 1, 0, 11, vu, []),
  (.getfield 19, 0, 0, 12, vu, [2]),
  (.iload_n 2, 2, 0, 13, vu, []),
  (.aload_n 0, 0, 0, 14, vu, []),
  (.getfield 19, 0, 0, 15, vu, [2]),
  (.iload_n 3, 3, 0, 16, vu, []),
  (.iload 4, 4, 0, 17, vu, []),
  (.invokestatic 34, 2, 0, 18, vu, []),
  (.return_, 0, 0, 19, vu, [])]
noncomputable def p_Ce_take : List Nat := [0, 1, 2, 4, 7, 10, 11, 12, 14, 17, 20, 21, 24, 25, 26, 29, 30, 32, 35]
abbrev n_Ce_sum : Nat := 9
noncomputable def i_Ce_sum : List Ins := [(.lconst 0, 0, 0, 1, vl 0, []),
  (.lstore_n 1, 1, 0, 2, vu, []),
  (.iconst 0, 0, 0, 3, vi 0, []),
  (.istore_n 3, 3, 0, 4, vu, []),
  (.iload_n 3, 3, 0, 5, vu, []),
  (.aload_n 0, 0, 0, 6, vu, []),
  (.getfield 9, 0, 1, 7, vu, [0]),
  (.if_icmp .ge 19, 18, 0, 8, vu, []),
  (.lload_n 1, 1, 0, 9, vu, []),
  (.aload_n 0, 0, 0, 10, vu, []),
  (.getfield 19, 0, 0, 11, vu, [2]),
  (.iload_n 3, 3, 0, 12, vu, []),
  (.iaload, 0, 0, 13, vu, []),
  (.i2l, 0, 0, 14, vu, []),
  (.ladd, 0, 0, 15, vu, []),
  (.lstore_n 1, 1, 0, 16, vu, []),
  (.iinc 3 1, 3, 0, 17, vi 1, []),
  (.goto (-21), 4, 0, 18, vu, []),
  (.lload_n 1, 1, 0, 19, vu, []),
  (.lreturn, 0, 0, 20, vu, [])]
noncomputable def p_Ce_sum : List Nat := [0, 1, 2, 3, 4, 5, 6, 9, 12, 13, 14, 17, 18, 19, 20, 21, 22, 25, 28, 29]
abbrev n_Ce_mixedInto : Nat := 10
noncomputable def i_Ce_mixedInto : List Ins := [(.lload_n 1, 1, 0, 1, vu, []),
  (.aload_n 0, 0, 0, 2, vu, []),
  (.getfield 9, 0, 1, 3, vu, [0]),
  (.i2l, 0, 0, 4, vu, []),
  (.invokestatic 40, 133, 2, 5, vu, [0, 0, 99]),
  (.lstore_n 3, 3, 0, 6, vu, []),
  (.iconst 0, 0, 0, 7, vi 0, []),
  (.istore 5, 5, 0, 8, vu, []),
  (.iload 5, 5, 0, 9, vu, []),
  (.aload_n 0, 0, 0, 10, vu, []),
  (.getfield 9, 0, 1, 11, vu, [0]),
  (.if_icmp .ge 22, 22, 0, 12, vu, []),
  (.lload_n 3, 3, 0, 13, vu, []),
  (.aload_n 0, 0, 0, 14, vu, []),
  (.getfield 19, 0, 0, 15, vu, [2]),
  (.iload 5, 5, 0, 16, vu, []),
  (.iaload, 0, 0, 17, vu, []),
  (.i2l, 0, 0, 18, vu, []),
  (.invokestatic 40, 133, 2, 19, vu, [0, 0, 99]),
  (.lstore_n 3, 3, 0, 20, vu, []),
  (.iinc 5 1, 5, 0, 21, vi 1, []),
  (.goto (-25), 8, 0, 22, vu, []),
  (.lload_n 3, 3, 0, 23, vu, []),
  (.lreturn, 0, 0, 24, vu, [])]
noncomputable def p_Ce_mixedInto : List Nat := [0, 1, 2, 5, 6, 9, 10, 11, 13, 15, 16, 19, 22, 23, 24, 27, 29, 30, 31, 34, 35, 38, 41, 42]
abbrev n_Fr_init : Nat := 11
noncomputable def i_Fr_init : List Ins := [(.aload_n 0, 0, 0, 1, vu, []),
  (.invokespecial 1, 1, 0, 2, vu, []),
  (.aload_n 0, 0, 0, 3, vu, []),
  (.lconst 0, 0, 0, 4, vl 0, []),
  (.putfield 7, 1, 0, 5, vu, [1]),
  (.aload_n 0, 0, 0, 6, vu, []),
  (.lconst 1, 0, 0, 7, vl 1, []),
  (.putfield 13, 1, 1, 8, vu, [1]),
  (.return_, 0, 0, 9, vu, [])]
noncomputable def p_Fr_init : List Nat := [0, 1, 4, 5, 6, 9, 10, 11, 14]
abbrev n_Fr_become : Nat := 12
noncomputable def i_Fr_become : List Ins := [(.lload_n 3, 3, 0, 1, vu, []),
  (.lstore 5, 5, 0, 2, vu, []),
  (.lload_n 1, 1, 0, 3, vu, []),
  (.lstore 7, 7, 0, 4, vu, []),
  (.iconst 0, 0, 0, 5, vi 0, []),
  (.istore 9, 9, 0, 6, vu, []),
  (.iload 9, 9, 0, 7, vu, []),
  (.sipush 200, 0, 0, 8, vi 200, []),
  (.if_icmp .ge 31, 23, 0, 9, vu, []),
  (.lload 7, 7, 0, 10, vu, []),
  (.lconst 0, 0, 0, 11, vl 0, []),
  (.lcmp, 0, 0, 12, vu, []),
  (.ifCond .eq 24, 23, 0, 13, vu, []),
  (.lload 5, 5, 0, 14, vu, []),
  (.lload 7, 7, 0, 15, vu, []),
  (.lrem, 0, 0, 16, vu, []),
  (.lstore 10, 10, 0, 17, vu, []),
  (.lload 7, 7, 0, 18, vu, []),
  (.lstore 5, 5, 0, 19, vu, []),
  (.lload 10, 10, 0, 20, vu, []),
  (.lstore 7, 7, 0, 21, vu, []),
  (.iinc 9 1, 9, 0, 22, vi 1, []),
  (.goto (-33), 6, 0, 23, vu, []),
  (.lload 5, 5, 0, 24, vu, []),
  (.lconst 0, 0, 0, 25, vl 0, []),
  (.lcmp, 0, 0, 26, vu, []),
  (.ifCond .eq 19, 37, 0, 27, vu, []),
  (.aload_n 0, 0, 0, 28, vu, []),
  (.lload_n 1, 1, 0, 29, vu, []),
  (.lload 5, 5, 0, 30, vu, []),
  (.ldiv, 0, 0, 31, vu, []),
  (.putfield 7, 1, 0, 32, vu, [1]),
  (.aload_n 0, 0, 0, 33, vu, []),
  (.lload_n 3, 3, 0, 34, vu, []),
  (.lload 5, 5, 0, 35, vu, []),
  (.ldiv, 0, 0, 36, vu, []),
  (.putfield 13, 1, 1, 37, vu, [1]),
  (.return_, 0, 0, 38, vu, [])]
noncomputable def p_Fr_become : List Nat := [0, 1, 3, 4, 6, 7, 9, 11, 14, 17, 19, 20, 21, 24, 26, 28, 29, 31, 33, 35, 37, 39, 42, 45, 47, 48, 49, 52, 53, 54, 56, 57, 60, 61, 62, 64, 65, 68]
abbrev n_Gr_faultOf : Nat := 13
noncomputable def i_Gr_faultOf : List Ins := [(.iconst 0, 0, 0, 1, vi 0, []),
  (.istore_n 1, 1, 0, 2, vu, []),
  (.iconst 0, 0, 0, 3, vi 0, []),
  (.istore_n 2, 2, 0, 4, vu, []),
  (.iload_n 2, 2, 0, 5, vu, []),
  (.aload_n 0, 0, 0, 6, vu, []),
  (.getfield 9, 0, 1, 7, vu, [0]),
  (.if_icmp .ge 59, 39, 0, 8, vu, []),
  (.aload_n 0, 0, 0, 9, vu, []),
  (.iload_n 2, 2, 0, 10, vu, []),
  (.invokevirtual 15, 4, 2, 11, vu, [0, 0, 0]),
  (.bipush 32, 0, 0, 12, vi 32, []),
  (.if_icmp .ne 9, 15, 0, 13, vu, []),
  (.iinc 2 1, 2, 0, 14, vi 1, []),
  (.goto (-21), 4, 0, 15, vu, []),
  (.aload_n 0, 0, 0, 16, vu, []),
  (.iload_n 2, 2, 0, 17, vu, []),
  (.invokevirtual 15, 4, 2, 18, vu, [0, 0, 0]),
  (.iload_n 1, 1, 0, 19, vu, []),
  (.invokestatic 19, 17, 2, 20, vu, [0, 0, 99]),
  (.ifCond .ne 5, 23, 0, 21, vu, []),
  (.iload_n 2, 2, 0, 22, vu, []),
  (.ireturn, 0, 0, 23, vu, []),
  (.aload_n 0, 0, 0, 24, vu, []),
  (.iload_n 2, 2, 0, 25, vu, []),
  (.iconst 1, 0, 0, 26, vi 1, []),
  (.iadd, 0, 0, 27, vu, []),
  (.invokestatic 25, 16, 2, 28, vu, [0, 0, 99]),
  (.istore_n 3, 3, 0, 29, vu, []),
  (.iload_n 3, 3, 0, 30, vu, []),
  (.iload_n 2, 2, 0, 31, vu, []),
  (.iconst 3, 0, 0, 32, vi 3, []),
  (.iadd, 0, 0, 33, vu, []),
  (.if_icmp .ge 5, 36, 0, 34, vu, []),
  (.iload_n 3, 3, 0, 35, vu, []),
  (.ireturn, 0, 0, 36, vu, []),
  (.iinc 1 1, 1, 0, 37, vi 1, []),
  (.iinc 2 3, 2, 0, 38, vi 3, []),
  (.goto (-61), 4, 0, 39, vu, []),
  (.iload_n 1, 1, 0, 40, vu, []),
  (.ifCond .ne 10, 44, 0, 41, vu, []),
  (.aload_n 0, 0, 0, 42, vu, []),
  (.getfield 9, 0, 1, 43, vu, [0]),
  (.goto 5, 45, 0, 44, vu, []),
  (.bipush (-9), 0, 0, 45, vi (-9), []),
  (.ireturn, 0, 0, 46, vu, [])]
noncomputable def p_Gr_faultOf : List Nat := [0, 1, 2, 3, 4, 5, 6, 9, 12, 13, 14, 17, 19, 22, 25, 28, 29, 30, 33, 34, 37, 40, 41, 42, 43, 44, 45, 46, 49, 50, 51, 52, 53, 54, 57, 58, 59, 62, 65, 68, 69, 72, 73, 76, 79, 81]
abbrev n_Gr_build : Nat := 14
noncomputable def i_Gr_build : List Ins := [(.aload_n 1, 1, 0, 1, vu, []),
  (.invokevirtual 29, 47, 1, 2, vu, [0, 0, 5]),
  (.iconst 0, 0, 0, 3, vi 0, []),
  (.istore_n 2, 2, 0, 4, vu, []),
  (.iload_n 2, 2, 0, 5, vu, []),
  (.aload_n 0, 0, 0, 6, vu, []),
  (.getfield 9, 0, 1, 7, vu, [0]),
  (.if_icmp .ge 31, 21, 0, 8, vu, []),
  (.aload_n 0, 0, 0, 9, vu, []),
  (.iload_n 2, 2, 0, 10, vu, []),
  (.invokevirtual 15, 4, 2, 11, vu, [0, 0, 0]),
  (.bipush 32, 0, 0, 12, vi 32, []),
  (.if_icmp .ne 9, 15, 0, 13, vu, []),
  (.iinc 2 1, 2, 0, 14, vi 1, []),
  (.goto (-21), 4, 0, 15, vu, []),
  (.aload_n 0, 0, 0, 16, vu, []),
  (.iload_n 2, 2, 0, 17, vu, []),
  (.aload_n 1, 1, 0, 18, vu, []),
  (.invokestatic 34, 15, 3, 19, vu, [0, 0, 99]),
  (.iinc 2 3, 2, 0, 20, vi 3, []),
  (.goto (-33), 4, 0, 21, vu, []),
  (.return_, 0, 0, 22, vu, [])]
noncomputable def p_Gr_build : List Nat := [0, 1, 4, 5, 6, 7, 8, 11, 14, 15, 16, 19, 21, 24, 27, 30, 31, 32, 33, 36, 39, 42]
abbrev n_Gr_buildItem : Nat := 15
noncomputable def i_Gr_buildItem : List Ins := [(.aload_n 0, 0, 0, 1, vu, []),
  (.iload_n 1, 1, 0, 2, vu, []),
  (.iconst 1, 0, 0, 3, vi 1, []),
  (.iadd, 0, 0, 4, vu, []),
  (.invokevirtual 15, 4, 2, 5, vu, [0, 0, 0]),
  (.bipush 48, 0, 0, 6, vi 48, []),
  (.isub, 0, 0, 7, vu, []),
  (.istore_n 3, 3, 0, 8, vu, []),
  (.aload_n 0, 0, 0, 9, vu, []),
  (.iload_n 1, 1, 0, 10, vu, []),
  (.iconst 2, 0, 0, 11, vi 2, []),
  (.iadd, 0, 0, 12, vu, []),
  (.invokevirtual 15, 4, 2, 13, vu, [0, 0, 0]),
  (.bipush 48, 0, 0, 14, vi 48, []),
  (.isub, 0, 0, 15, vu, []),
  (.istore 4, 4, 0, 16, vu, []),
  (.aload_n 0, 0, 0, 17, vu, []),
  (.iload_n 1, 1, 0, 18, vu, []),
  (.invokevirtual 15, 4, 2, 19, vu, [0, 0, 0]),
  (.invokestatic 38, 26, 1, 20, vu, [0, 0, 99]),
  (.astore 5, 5, 0, 21, vu, []),
  (.aload 5, 5, 0, 22, vu, []),
  (.ifnonnull 17, 30, 0, 23, vu, []),
  (.aload_n 2, 2, 0, 24, vu, []),
  (.iload_n 3, 3, 0, 25, vu, []),
  (.putfield 44, 5, 5, 26, vu, [0]),
  (.aload_n 2, 2, 0, 27, vu, []),
  (.iload 4, 4, 0, 28, vu, []),
  (.putfield 47, 5, 6, 29, vu, [0]),
  (.goto 12, 35, 0, 30, vu, []),
  (.aload_n 2, 2, 0, 31, vu, []),
  (.aload 5, 5, 0, 32, vu, []),
  (.iload_n 3, 3, 0, 33, vu, []),
  (.iload 4, 4, 0, 34, vu, []),
  (.invokevirtual 50, 48, 4, 35, vu, [0, 0, 5]),
  (.return_, 0, 0, 36, vu, [])]
noncomputable def p_Gr_buildItem : List Nat := [0, 1, 2, 3, 4, 7, 9, 10, 11, 12, 13, 14, 15, 18, 20, 21, 23, 24, 25, 28, 31, 33, 35, 38, 39, 40, 43, 44, 46, 49, 52, 53, 55, 56, 58, 61]
abbrev n_Gr_endOfFigures : Nat := 16
noncomputable def i_Gr_endOfFigures : List Ins := [(.iload_n 1, 1, 0, 1, vu, []),
  (.istore_n 2, 2, 0, 2, vu, []),
  (.iload_n 2, 2, 0, 3, vu, []),
  (.iload_n 1, 1, 0, 4, vu, []),
  (.iconst 3, 0, 0, 5, vi 3, []),
  (.iadd, 0, 0, 6, vu, []),
  (.iconst 1, 0, 0, 7, vi 1, []),
  (.isub, 0, 0, 8, vu, []),
  (.if_icmp .ge 20, 16, 0, 9, vu, []),
  (.aload_n 0, 0, 0, 10, vu, []),
  (.iload_n 2, 2, 0, 11, vu, []),
  (.invokevirtual 15, 4, 2, 12, vu, [0, 0, 0]),
  (.invokestatic 54, 18, 1, 13, vu, [0, 0, 99]),
  (.ifCond .eq 9, 16, 0, 14, vu, []),
  (.iinc 2 1, 2, 0, 15, vi 1, []),
  (.goto (-23), 2, 0, 16, vu, []),
  (.iload_n 2, 2, 0, 17, vu, []),
  (.ireturn, 0, 0, 18, vu, [])]
noncomputable def p_Gr_endOfFigures : List Nat := [0, 1, 2, 3, 4, 5, 6, 7, 8, 11, 12, 13, 16, 19, 22, 25, 28, 29]
abbrev n_Gr_canBegin : Nat := 17
noncomputable def i_Gr_canBegin : List Ins := [(.iload_n 1, 1, 0, 1, vu, []),
  (.ifCond .ne 15, 9, 0, 2, vu, []),
  (.iload_n 0, 0, 0, 3, vu, []),
  (.bipush 97, 0, 0, 4, vi 97, []),
  (.if_icmp .ne 7, 7, 0, 5, vu, []),
  (.iconst 1, 0, 0, 6, vi 1, []),
  (.goto 4, 8, 0, 7, vu, []),
  (.iconst 0, 0, 0, 8, vi 0, []),
  (.ireturn, 1, 0, 9, vu, []),
  (.iload_n 1, 1, 0, 10, vu, []),
  (.bipush 8, 0, 0, 11, vi 8, []),
  (.if_icmp .gt 14, 17, 0, 12, vu, []),
  (.iload_n 0, 0, 0, 13, vu, []),
  (.invokestatic 38, 26, 1, 14, vu, [0, 0, 99]),
  (.ifnull 7, 17, 0, 15, vu, []),
  (.iconst 1, 0, 0, 16, vi 1, []),
  (.goto 4, 18, 0, 17, vu, []),
  (.iconst 0, 0, 0, 18, vi 0, []),
  (.ireturn, 1, 0, 19, vu, [])]
noncomputable def p_Gr_canBegin : List Nat := [0, 1, 4, 5, 7, 10, 11, 14, 15, 16, 17, 19, 22, 23, 26, 29, 30, 33, 34]
abbrev n_Gr_isFigure : Nat := 18
noncomputable def i_Gr_isFigure : List Ins := [(.iload_n 0, 0, 0, 1, vu, []),
  (.bipush 48, 0, 0, 2, vi 48, []),
  (.if_icmp .lt 13, 8, 0, 3, vu, []),
  (.iload_n 0, 0, 0, 4, vu, []),
  (.bipush 57, 0, 0, 5, vi 57, []),
  (.if_icmp .gt 7, 8, 0, 6, vu, []),
  (.iconst 1, 0, 0, 7, vi 1, []),
  (.goto 4, 9, 0, 8, vu, []),
  (.iconst 0, 0, 0, 9, vi 0, []),
  (.ireturn, 1, 0, 10, vu, [])]
noncomputable def p_Gr_isFigure : List Nat := [0, 1, 3, 6, 7, 9, 12, 13, 16, 17]
abbrev n_Hr_init : Nat := 19
noncomputable def i_Hr_init : List Ins := [(.aload_n 0, 0, 0, 1, vu, []),
  (.invokespecial 3, 1, 0, 2, vu, []),
  (.aload_n 0, 0, 0, 3, vu, []),
  (.bipush 8, 0, 0, 4, vi 8, []),
  (.newarray .int, 0, 11, 5, vu, []),
  (.putfield 9, 2, 0, 6, vu, [2]),
  (.return_, 0, 0, 7, vu, [])]
noncomputable def p_Hr_init : List Nat := [0, 1, 4, 5, 7, 9, 12]
abbrev n_Hr_becomeLike : Nat := 20
noncomputable def i_Hr_becomeLike : List Ins := [(.aload_n 1, 1, 0, 1, vu, []),
  (.getfield 9, 2, 0, 2, vu, [2]),
  (.iconst 0, 0, 0, 3, vi 0, []),
  (.aload_n 0, 0, 0, 4, vu, []),
  (.getfield 9, 2, 0, 5, vu, [2]),
  (.iconst 0, 0, 0, 6, vi 0, []),
  (.bipush 8, 0, 0, 7, vi 8, []),
  (.invokestatic 15, 2, 0, 8, vu, []),
  (.aload_n 0, 0, 0, 9, vu, []),
  (.aload_n 1, 1, 0, 10, vu, []),
  (.getfield 21, 2, 1, 11, vu, [0]),
  (.putfield 21, 2, 1, 12, vu, [0]),
  (.aload_n 0, 0, 0, 13, vu, []),
  (.aload_n 1, 1, 0, 14, vu, []),
  (.getfield 25, 2, 2, 15, vu, [0]),
  (.putfield 25, 2, 2, 16, vu, [0]),
  (.aload_n 0, 0, 0, 17, vu, []),
  (.aload_n 1, 1, 0, 18, vu, []),
  (.getfield 28, 2, 3, 19, vu, [0]),
  (.putfield 28, 2, 3, 20, vu, [0]),
  (.aload_n 0, 0, 0, 21, vu, []),
  (.aload_n 1, 1, 0, 22, vu, []),
  (.getfield 31, 2, 4, 23, vu, [0]),
  (.putfield 31, 2, 4, 24, vu, [0]),
  (.return_, 0, 0, 25, vu, [])]
noncomputable def p_Hr_becomeLike : List Nat := [0, 1, 4, 5, 6, 9, 10, 12, 15, 16, 17, 20, 23, 24, 25, 28, 31, 32, 33, 36, 39, 40, 41, 44, 47]
abbrev n_Ho_init : Nat := 21
noncomputable def i_Ho_init : List Ins := [(.aload_n 0, 0, 0, 1, vu, []),
  (.invokespecial 1, 1, 0, 2, vu, []),
  (.aload_n 0, 0, 0, 3, vu, []),
  (.getstatic 7, 0, 0, 4, vu, []),
  (.putfield 13, 3, 0, 5, vu, [2]),
  (.return_, 0, 0, 6, vu, [])]
noncomputable def p_Ho_init : List Nat := [0, 1, 4, 5, 8, 11]
abbrev n_Ho_sound : Nat := 22
noncomputable def i_Ho_sound : List Ins := [(.aload_n 0, 0, 0, 1, vu, []),
  (.getfield 18, 3, 1, 2, vu, [0]),
  (.aload_n 0, 0, 0, 3, vu, []),
  (.getfield 13, 3, 0, 4, vu, [2]),
  (.getfield 22, 8, 2, 5, vu, [3]),
  (.imul, 0, 0, 6, vu, []),
  (.iconst 2, 0, 0, 7, vi 2, []),
  (.idiv, 0, 0, 8, vu, []),
  (.ireturn, 0, 0, 9, vu, [])]
noncomputable def p_Ho_sound : List Nat := [0, 1, 4, 5, 8, 11, 12, 13, 14]
abbrev n_Ho_isMute : Nat := 23
noncomputable def i_Ho_isMute : List Ins := [(.aload_n 0, 0, 0, 1, vu, []),
  (.getfield 13, 3, 0, 2, vu, [2]),
  (.getstatic 25, 4, 0, 3, vu, []),
  (.if_acmp .ne 7, 6, 0, 4, vu, []),
  (.iconst 1, 0, 0, 5, vi 1, []),
  (.goto 4, 7, 0, 6, vu, []),
  (.iconst 0, 0, 0, 7, vi 0, []),
  (.ireturn, 1, 0, 8, vu, [])]
noncomputable def p_Ho_isMute : List Nat := [0, 1, 4, 7, 10, 11, 14, 15]
abbrev n_Ho_becomeLike : Nat := 24
noncomputable def i_Ho_becomeLike : List Ins := [(.aload_n 0, 0, 0, 1, vu, []),
  (.aload_n 1, 1, 0, 2, vu, []),
  (.getfield 13, 3, 0, 3, vu, [2]),
  (.putfield 13, 3, 0, 4, vu, [2]),
  (.aload_n 0, 0, 0, 5, vu, []),
  (.aload_n 1, 1, 0, 6, vu, []),
  (.getfield 18, 3, 1, 7, vu, [0]),
  (.putfield 18, 3, 1, 8, vu, [0]),
  (.aload_n 0, 0, 0, 9, vu, []),
  (.aload_n 1, 1, 0, 10, vu, []),
  (.getfield 28, 3, 2, 11, vu, [0]),
  (.putfield 28, 3, 2, 12, vu, [0]),
  (.aload_n 0, 0, 0, 13, vu, []),
  (.aload_n 1, 1, 0, 14, vu, []),
  (.getfield 31, 3, 3, 15, vu, [0]),
  (.putfield 31, 3, 3, 16, vu, [0]),
  (.aload_n 0, 0, 0, 17, vu, []),
  (.aload_n 1, 1, 0, 18, vu, []),
  (.getfield 34, 3, 4, 19, vu, [0]),
  (.putfield 34, 3, 4, 20, vu, [0]),
  (.return_, 0, 0, 21, vu, [])]
noncomputable def p_Ho_becomeLike : List Nat := [0, 1, 2, 5, 8, 9, 10, 13, 16, 17, 18, 21, 24, 25, 26, 29, 32, 33, 34, 37, 40]
abbrev n_Ki_isOf : Nat := 25
noncomputable def i_Ki_isOf : List Ins := [(.aload_n 0, 0, 0, 1, vu, []),
  (.getfield 41, 8, 0, 2, vu, [3]),
  (.iload_n 1, 1, 0, 3, vu, []),
  (.if_icmp .eq 11, 8, 0, 4, vu, []),
  (.aload_n 0, 0, 0, 5, vu, []),
  (.getfield 45, 8, 1, 6, vu, [3]),
  (.iload_n 1, 1, 0, 7, vu, []),
  (.if_icmp .ne 7, 10, 0, 8, vu, []),
  (.iconst 1, 0, 0, 9, vi 1, []),
  (.goto 4, 11, 0, 10, vu, []),
  (.iconst 0, 0, 0, 11, vi 0, []),
  (.ireturn, 1, 0, 12, vu, [])]
noncomputable def p_Ki_isOf : List Nat := [0, 1, 4, 5, 8, 9, 12, 13, 16, 17, 20, 21]
abbrev n_Ki_byLetter : Nat := 26
noncomputable def i_Ki_byLetter : List Ins := [(.iload_n 0, 0, 0, 1, vu, []),
  (.tableswitch 119 98 117 #[107, 115, 119, 119, 99, 119, 95, 119, 119, 119, 119, 103, 119, 119, 119, 119, 119, 119, 119, 111], 14, 98, 2, vu, [8, 12, 14, 14, 4, 14, 2, 14, 14, 14, 14, 6, 14, 14, 14, 14, 14, 14, 14, 10]),
  (.getstatic 3, 0, 0, 3, vu, []),
  (.areturn, 0, 0, 4, vu, []),
  (.getstatic 7, 1, 0, 5, vu, []),
  (.areturn, 0, 0, 6, vu, []),
  (.getstatic 10, 2, 0, 7, vu, []),
  (.areturn, 0, 0, 8, vu, []),
  (.getstatic 13, 3, 0, 9, vu, []),
  (.areturn, 0, 0, 10, vu, []),
  (.getstatic 16, 4, 0, 11, vu, []),
  (.areturn, 0, 0, 12, vu, []),
  (.getstatic 19, 5, 0, 13, vu, []),
  (.areturn, 0, 0, 14, vu, []),
  (.aconst_null, 0, 0, 15, vu, []),
  (.areturn, 0, 0, 16, vu, [])]
noncomputable def p_Ki_byLetter : List Nat := [0, 1, 96, 99, 100, 103, 104, 107, 108, 111, 112, 115, 116, 119, 120, 121]
abbrev n_Se_init : Nat := 27
noncomputable def i_Se_init : List Ins := [(.aload_n 0, 0, 0, 1, vu, []),
  (.invokespecial 3, 1, 0, 2, vu, []),
  (.aload_n 0, 0, 0, 3, vu, []),
  (.sipush 256, 0, 0, 4, vi 256, []),
  (.newarray .int, 0, 15, 5, vu, []),
  (.putfield 9, 4, 0, 6, vu, [2]),
  (.aload_n 0, 0, 0, 7, vu, []),
  (.sipush 256, 0, 0, 8, vi 256, []),
  (.newarray .int, 0, 16, 9, vu, []),
  (.putfield 15, 4, 1, 10, vu, [2]),
  (.aload_n 0, 0, 0, 11, vu, []),
  (.sipush 256, 0, 0, 12, vi 256, []),
  (.newarray .int, 0, 17, 13, vu, []),
  (.putfield 18, 4, 2, 14, vu, [2]),
  (.aload_n 0, 0, 0, 15, vu, []),
  (.iconst 1, 0, 0, 16, vi 1, []),
  (.putfield 21, 4, 3, 17, vu, [0]),
  (.aload_n 0, 0, 0, 18, vu, []),
  (.iconst 0, 0, 0, 19, vi 0, []),
  (.putfield 25, 4, 4, 20, vu, [0]),
  (.aload_n 0, 0, 0, 21, vu, []),
  (.iconst 0, 0, 0, 22, vi 0, []),
  (.putfield 28, 4, 5, 23, vu, [0]),
  (.return_, 0, 0, 24, vu, [])]
noncomputable def p_Se_init : List Nat := [0, 1, 4, 5, 8, 10, 13, 14, 17, 19, 22, 23, 26, 28, 31, 32, 33, 36, 37, 38, 41, 42, 43, 46]
abbrev n_Se_lookAt : Nat := 28
noncomputable def i_Se_lookAt : List Ins := [(.aload_n 0, 0, 0, 1, vu, []),
  (.aload_n 1, 1, 0, 2, vu, []),
  (.getfield 31, 5, 3, 3, vu, [0]),
  (.putfield 25, 4, 4, 4, vu, [0]),
  (.aload_n 0, 0, 0, 5, vu, []),
  (.iconst 1, 0, 0, 6, vi 1, []),
  (.aload_n 0, 0, 0, 7, vu, []),
  (.getfield 25, 4, 4, 8, vu, [0]),
  (.ishl, 0, 0, 9, vu, []),
  (.putfield 21, 4, 3, 10, vu, [0]),
  (.aload_n 0, 0, 0, 11, vu, []),
  (.iconst 0, 0, 0, 12, vi 0, []),
  (.putfield 28, 4, 5, 13, vu, [0]),
  (.iconst 0, 0, 0, 14, vi 0, []),
  (.istore_n 2, 2, 0, 15, vu, []),
  (.iload_n 2, 2, 0, 16, vu, []),
  (.aload_n 0, 0, 0, 17, vu, []),
  (.getfield 25, 4, 4, 18, vu, [0]),
  (.if_icmp .ge 50, 44, 0, 19, vu, []),
  (.aload_n 0, 0, 0, 20, vu, []),
  (.getfield 9, 4, 0, 21, vu, [2]),
  (.iload_n 2, 2, 0, 22, vu, []),
  (.aload_n 1, 1, 0, 23, vu, []),
  (.iload_n 2, 2, 0, 24, vu, []),
  (.invokevirtual 34, 54, 2, 25, vu, [0, 0, 5]),
  (.invokestatic 38, 29, 3, 26, vu, [0, 0, 99]),
  (.aload_n 0, 0, 0, 27, vu, []),
  (.dup, 0, 0, 28, vu, []),
  (.getfield 28, 4, 5, 29, vu, [0]),
  (.aload_n 1, 1, 0, 30, vu, []),
  (.getfield 42, 5, 0, 31, vu, [2]),
  (.iload_n 2, 2, 0, 32, vu, []),
  (.aaload, 0, 0, 33, vu, []),
  (.invokevirtual 46, 23, 1, 34, vu, [0, 0, 3]),
  (.ifCond .eq 9, 39, 0, 35, vu, []),
  (.iconst 1, 0, 0, 36, vi 1, []),
  (.iload_n 2, 2, 0, 37, vu, []),
  (.ishl, 0, 0, 38, vu, []),
  (.goto 4, 40, 0, 39, vu, []),
  (.iconst 0, 0, 0, 40, vi 0, []),
  (.ior, 0, 0, 41, vu, []),
  (.putfield 28, 4, 5, 42, vu, [0]),
  (.iinc 2 1, 2, 0, 43, vi 1, []),
  (.goto (-52), 15, 0, 44, vu, []),
  (.return_, 0, 0, 45, vu, [])]
noncomputable def p_Se_lookAt : List Nat := [0, 1, 2, 5, 8, 9, 10, 11, 14, 15, 18, 19, 20, 23, 24, 25, 26, 27, 30, 33, 34, 37, 38, 39, 40, 43, 46, 47, 48, 51, 52, 55, 56, 57, 60, 63, 64, 65, 66, 69, 70, 71, 74, 77, 80]
abbrev n_Se_addHouse : Nat := 29
noncomputable def i_Se_addHouse : List Ins := [(.iconst 1, 0, 0, 1, vi 1, []),
  (.iload_n 1, 1, 0, 2, vu, []),
  (.ishl, 0, 0, 3, vu, []),
  (.istore_n 3, 3, 0, 4, vu, []),
  (.iconst 0, 0, 0, 5, vi 0, []),
  (.istore 4, 4, 0, 6, vu, []),
  (.iload 4, 4, 0, 7, vu, []),
  (.iload_n 3, 3, 0, 8, vu, []),
  (.if_icmp .ge 30, 27, 0, 9, vu, []),
  (.iload_n 3, 3, 0, 10, vu, []),
  (.iload 4, 4, 0, 11, vu, []),
  (.iadd, 0, 0, 12, vu, []),
  (.aload_n 0, 0, 0, 13, vu, []),
  (.arraylength, 0, 0, 14, vu, []),
  (.if_icmp .ge 21, 27, 0, 15, vu, []),
  (.aload_n 0, 0, 0, 16, vu, []),
  (.iload_n 3, 3, 0, 17, vu, []),
  (.iload 4, 4, 0, 18, vu, []),
  (.iadd, 0, 0, 19, vu, []),
  (.aload_n 0, 0, 0, 20, vu, []),
  (.iload 4, 4, 0, 21, vu, []),
  (.iaload, 0, 0, 22, vu, []),
  (.iload_n 2, 2, 0, 23, vu, []),
  (.iadd, 0, 0, 24, vu, []),
  (.iastore, 0, 0, 25, vu, []),
  (.iinc 4 1, 4, 0, 26, vi 1, []),
  (.goto (-30), 6, 0, 27, vu, []),
  (.return_, 0, 0, 28, vu, [])]
noncomputable def p_Se_addHouse : List Nat := [0, 1, 2, 3, 4, 5, 7, 9, 10, 13, 14, 16, 17, 18, 19, 22, 23, 24, 26, 27, 28, 30, 31, 32, 33, 34, 37, 40]
abbrev n_Se_ripplesOf : Nat := 30
noncomputable def i_Se_ripplesOf : List Ins := [(.iload_n 1, 1, 0, 1, vu, []),
  (.ifCond .lt 20, 11, 0, 2, vu, []),
  (.iload_n 1, 1, 0, 3, vu, []),
  (.aload_n 0, 0, 0, 4, vu, []),
  (.getfield 21, 4, 3, 5, vu, [0]),
  (.if_icmp .ge 12, 11, 0, 6, vu, []),
  (.aload_n 0, 0, 0, 7, vu, []),
  (.getfield 9, 4, 0, 8, vu, [2]),
  (.iload_n 1, 1, 0, 9, vu, []),
  (.iaload, 0, 0, 10, vu, []),
  (.goto 4, 12, 0, 11, vu, []),
  (.iconst 0, 0, 0, 12, vi 0, []),
  (.ireturn, 0, 0, 13, vu, [])]
noncomputable def p_Se_ripplesOf : List Nat := [0, 1, 4, 5, 6, 9, 12, 13, 16, 17, 18, 21, 22]
abbrev n_Se_isFitting : Nat := 31
noncomputable def i_Se_isFitting : List Ins := [(.iload_n 1, 1, 0, 1, vu, []),
  (.aload_n 0, 0, 0, 2, vu, []),
  (.getfield 28, 4, 5, 3, vu, [0]),
  (.iand, 0, 0, 4, vu, []),
  (.ifCond .ne 17, 13, 0, 5, vu, []),
  (.aload_n 0, 0, 0, 6, vu, []),
  (.getfield 9, 4, 0, 7, vu, [2]),
  (.iload_n 1, 1, 0, 8, vu, []),
  (.iaload, 0, 0, 9, vu, []),
  (.iload_n 2, 2, 0, 10, vu, []),
  (.if_icmp .ne 7, 13, 0, 11, vu, []),
  (.iconst 1, 0, 0, 12, vi 1, []),
  (.goto 4, 14, 0, 13, vu, []),
  (.iconst 0, 0, 0, 14, vi 0, []),
  (.ireturn, 1, 0, 15, vu, [])]
noncomputable def p_Se_isFitting : List Nat := [0, 1, 2, 5, 6, 9, 10, 13, 14, 15, 16, 19, 20, 23, 24]
abbrev n_Se_howManyFit : Nat := 32
noncomputable def i_Se_howManyFit : List Ins := [(.iconst 0, 0, 0, 1, vi 0, []),
  (.istore_n 2, 2, 0, 2, vu, []),
  (.iconst 0, 0, 0, 3, vi 0, []),
  (.istore_n 3, 3, 0, 4, vu, []),
  (.iload_n 3, 3, 0, 5, vu, []),
  (.aload_n 0, 0, 0, 6, vu, []),
  (.getfield 21, 4, 3, 7, vu, [0]),
  (.if_icmp .ge 26, 21, 0, 8, vu, []),
  (.iload_n 2, 2, 0, 9, vu, []),
  (.aload_n 0, 0, 0, 10, vu, []),
  (.iload_n 3, 3, 0, 11, vu, []),
  (.iload_n 1, 1, 0, 12, vu, []),
  (.invokevirtual 52, 31, 3, 13, vu, [0, 0, 4]),
  (.ifCond .eq 7, 16, 0, 14, vu, []),
  (.iconst 1, 0, 0, 15, vi 1, []),
  (.goto 4, 17, 0, 16, vu, []),
  (.iconst 0, 0, 0, 17, vi 0, []),
  (.iadd, 0, 0, 18, vu, []),
  (.istore_n 2, 2, 0, 19, vu, []),
  (.iinc 3 1, 3, 0, 20, vi 1, []),
  (.goto (-28), 4, 0, 21, vu, []),
  (.iload_n 2, 2, 0, 22, vu, []),
  (.ireturn, 0, 0, 23, vu, [])]
noncomputable def p_Se_howManyFit : List Nat := [0, 1, 2, 3, 4, 5, 6, 9, 12, 13, 14, 15, 16, 19, 22, 23, 26, 27, 28, 29, 32, 35, 36]
abbrev n_Se_howManyFitWith : Nat := 33
noncomputable def i_Se_howManyFitWith : List Ins := [(.iconst 0, 0, 0, 1, vi 0, []),
  (.istore_n 3, 3, 0, 2, vu, []),
  (.iconst 0, 0, 0, 3, vi 0, []),
  (.istore 4, 4, 0, 4, vu, []),
  (.iload 4, 4, 0, 5, vu, []),
  (.aload_n 0, 0, 0, 6, vu, []),
  (.getfield 21, 4, 3, 7, vu, [0]),
  (.if_icmp .ge 36, 25, 0, 8, vu, []),
  (.iload_n 3, 3, 0, 9, vu, []),
  (.aload_n 0, 0, 0, 10, vu, []),
  (.iload 4, 4, 0, 11, vu, []),
  (.iload_n 2, 2, 0, 12, vu, []),
  (.invokevirtual 52, 31, 3, 13, vu, [0, 0, 4]),
  (.ifCond .eq 16, 20, 0, 14, vu, []),
  (.iload 4, 4, 0, 15, vu, []),
  (.iload_n 1, 1, 0, 16, vu, []),
  (.invokestatic 56, 131, 2, 17, vu, [0, 0, 99]),
  (.ifCond .eq 7, 20, 0, 18, vu, []),
  (.iconst 1, 0, 0, 19, vi 1, []),
  (.goto 4, 21, 0, 20, vu, []),
  (.iconst 0, 0, 0, 21, vi 0, []),
  (.iadd, 0, 0, 22, vu, []),
  (.istore_n 3, 3, 0, 23, vu, []),
  (.iinc 4 1, 4, 0, 24, vi 1, []),
  (.goto (-39), 4, 0, 25, vu, []),
  (.iload_n 3, 3, 0, 26, vu, []),
  (.ireturn, 0, 0, 27, vu, [])]
noncomputable def p_Se_howManyFitWith : List Nat := [0, 1, 2, 3, 5, 7, 8, 11, 14, 15, 16, 18, 19, 22, 25, 27, 28, 31, 34, 35, 38, 39, 40, 41, 44, 47, 48]
abbrev n_Se_leastFitting : Nat := 34
noncomputable def i_Se_leastFitting : List Ins := [(.iconst 0, 0, 0, 1, vi 0, []),
  (.istore_n 2, 2, 0, 2, vu, []),
  (.iload_n 2, 2, 0, 3, vu, []),
  (.aload_n 0, 0, 0, 4, vu, []),
  (.getfield 21, 4, 3, 5, vu, [0]),
  (.if_icmp .ge 20, 15, 0, 6, vu, []),
  (.aload_n 0, 0, 0, 7, vu, []),
  (.iload_n 2, 2, 0, 8, vu, []),
  (.iload_n 1, 1, 0, 9, vu, []),
  (.invokevirtual 52, 31, 3, 10, vu, [0, 0, 4]),
  (.ifCond .eq 5, 13, 0, 11, vu, []),
  (.iload_n 2, 2, 0, 12, vu, []),
  (.ireturn, 0, 0, 13, vu, []),
  (.iinc 2 1, 2, 0, 14, vi 1, []),
  (.goto (-22), 2, 0, 15, vu, []),
  (.iconst (-1), 0, 0, 16, vi (-1), []),
  (.ireturn, 0, 0, 17, vu, [])]
noncomputable def p_Se_leastFitting : List Nat := [0, 1, 2, 3, 4, 7, 10, 11, 12, 13, 16, 19, 20, 21, 24, 27, 28]
abbrev n_Se_inAllFitting : Nat := 35
noncomputable def i_Se_inAllFitting : List Ins := [(.aload_n 0, 0, 0, 1, vu, []),
  (.getfield 21, 4, 3, 2, vu, [0]),
  (.iconst 1, 0, 0, 3, vi 1, []),
  (.isub, 0, 0, 4, vu, []),
  (.istore_n 2, 2, 0, 5, vu, []),
  (.iconst 0, 0, 0, 6, vi 0, []),
  (.istore_n 3, 3, 0, 7, vu, []),
  (.iload_n 3, 3, 0, 8, vu, []),
  (.aload_n 0, 0, 0, 9, vu, []),
  (.getfield 21, 4, 3, 10, vu, [0]),
  (.if_icmp .ge 26, 24, 0, 11, vu, []),
  (.iload_n 2, 2, 0, 12, vu, []),
  (.aload_n 0, 0, 0, 13, vu, []),
  (.iload_n 3, 3, 0, 14, vu, []),
  (.iload_n 1, 1, 0, 15, vu, []),
  (.invokevirtual 52, 31, 3, 16, vu, [0, 0, 4]),
  (.ifCond .eq 7, 19, 0, 17, vu, []),
  (.iload_n 3, 3, 0, 18, vu, []),
  (.goto 4, 20, 0, 19, vu, []),
  (.iconst (-1), 0, 0, 20, vi (-1), []),
  (.iand, 0, 0, 21, vu, []),
  (.istore_n 2, 2, 0, 22, vu, []),
  (.iinc 3 1, 3, 0, 23, vi 1, []),
  (.goto (-28), 7, 0, 24, vu, []),
  (.iload_n 2, 2, 0, 25, vu, []),
  (.ireturn, 0, 0, 26, vu, [])]
noncomputable def p_Se_inAllFitting : List Nat := [0, 1, 4, 5, 6, 7, 8, 9, 10, 11, 14, 17, 18, 19, 20, 21, 24, 27, 28, 31, 32, 33, 34, 37, 40, 41]
abbrev n_Se_inAnyFitting : Nat := 36
noncomputable def i_Se_inAnyFitting : List Ins := [(.iconst 0, 0, 0, 1, vi 0, []),
  (.istore_n 2, 2, 0, 2, vu, []),
  (.iconst 0, 0, 0, 3, vi 0, []),
  (.istore_n 3, 3, 0, 4, vu, []),
  (.iload_n 3, 3, 0, 5, vu, []),
  (.aload_n 0, 0, 0, 6, vu, []),
  (.getfield 21, 4, 3, 7, vu, [0]),
  (.if_icmp .ge 26, 21, 0, 8, vu, []),
  (.iload_n 2, 2, 0, 9, vu, []),
  (.aload_n 0, 0, 0, 10, vu, []),
  (.iload_n 3, 3, 0, 11, vu, []),
  (.iload_n 1, 1, 0, 12, vu, []),
  (.invokevirtual 52, 31, 3, 13, vu, [0, 0, 4]),
  (.ifCond .eq 7, 16, 0, 14, vu, []),
  (.iload_n 3, 3, 0, 15, vu, []),
  (.goto 4, 17, 0, 16, vu, []),
  (.iconst 0, 0, 0, 17, vi 0, []),
  (.ior, 0, 0, 18, vu, []),
  (.istore_n 2, 2, 0, 19, vu, []),
  (.iinc 3 1, 3, 0, 20, vi 1, []),
  (.goto (-28), 4, 0, 21, vu, []),
  (.iload_n 2, 2, 0, 22, vu, []),
  (.ireturn, 0, 0, 23, vu, [])]
noncomputable def p_Se_inAnyFitting : List Nat := [0, 1, 2, 3, 4, 5, 6, 9, 12, 13, 14, 15, 16, 19, 22, 23, 26, 27, 28, 29, 32, 35, 36]
abbrev n_Se_waysToJoin : Nat := 37
noncomputable def i_Se_waysToJoin : List Ins := [(.iconst 0, 0, 0, 1, vi 0, []),
  (.istore_n 2, 2, 0, 2, vu, []),
  (.iconst 0, 0, 0, 3, vi 0, []),
  (.istore_n 3, 3, 0, 4, vu, []),
  (.iload_n 3, 3, 0, 5, vu, []),
  (.aload_n 0, 0, 0, 6, vu, []),
  (.getfield 21, 4, 3, 7, vu, [0]),
  (.if_icmp .ge 112, 67, 0, 8, vu, []),
  (.iload_n 3, 3, 0, 9, vu, []),
  (.aload_n 0, 0, 0, 10, vu, []),
  (.getfield 28, 4, 5, 11, vu, [0]),
  (.iand, 0, 0, 12, vu, []),
  (.ifCond .eq 6, 14, 0, 13, vu, []),
  (.goto 94, 65, 0, 14, vu, []),
  (.iconst 0, 0, 0, 15, vi 0, []),
  (.istore 4, 4, 0, 16, vu, []),
  (.iconst 0, 0, 0, 17, vi 0, []),
  (.istore 5, 5, 0, 18, vu, []),
  (.iconst 0, 0, 0, 19, vi 0, []),
  (.istore 6, 6, 0, 20, vu, []),
  (.iload 6, 6, 0, 21, vu, []),
  (.aload_n 1, 1, 0, 22, vu, []),
  (.getfield 59, 0, 1, 23, vu, [0]),
  (.if_icmp .ge 36, 40, 0, 24, vu, []),
  (.aload_n 1, 1, 0, 25, vu, []),
  (.iload 6, 6, 0, 26, vu, []),
  (.invokevirtual 64, 4, 2, 27, vu, [0, 0, 0]),
  (.aload_n 0, 0, 0, 28, vu, []),
  (.getfield 9, 4, 0, 29, vu, [2]),
  (.iload_n 3, 3, 0, 30, vu, []),
  (.iaload, 0, 0, 31, vu, []),
  (.isub, 0, 0, 32, vu, []),
  (.istore 7, 7, 0, 33, vu, []),
  (.iload 7, 7, 0, 34, vu, []),
  (.ifCond .eq 10, 38, 0, 35, vu, []),
  (.iinc 4 1, 4, 0, 36, vi 1, []),
  (.iload 7, 7, 0, 37, vu, []),
  (.istore 5, 5, 0, 38, vu, []),
  (.iinc 6 1, 6, 0, 39, vi 1, []),
  (.goto (-39), 20, 0, 40, vu, []),
  (.iload 4, 4, 0, 41, vu, []),
  (.ifCond .ne 22, 55, 0, 42, vu, []),
  (.iload_n 2, 2, 0, 43, vu, []),
  (.iconst 1, 0, 0, 44, vi 1, []),
  (.aload_n 1, 1, 0, 45, vu, []),
  (.getfield 59, 0, 1, 46, vu, [0]),
  (.aload_n 0, 0, 0, 47, vu, []),
  (.iload_n 3, 3, 0, 48, vu, []),
  (.iconst 0, 0, 0, 49, vi 0, []),
  (.invokevirtual 67, 38, 3, 50, vu, [0, 0, 4]),
  (.imul, 0, 0, 51, vu, []),
  (.iadd, 0, 0, 52, vu, []),
  (.iadd, 0, 0, 53, vu, []),
  (.istore_n 2, 2, 0, 54, vu, []),
  (.goto 19, 65, 0, 55, vu, []),
  (.iload 4, 4, 0, 56, vu, []),
  (.iconst 1, 0, 0, 57, vi 1, []),
  (.if_icmp .ne 13, 65, 0, 58, vu, []),
  (.iload_n 2, 2, 0, 59, vu, []),
  (.aload_n 0, 0, 0, 60, vu, []),
  (.iload_n 3, 3, 0, 61, vu, []),
  (.iload 5, 5, 0, 62, vu, []),
  (.invokevirtual 67, 38, 3, 63, vu, [0, 0, 4]),
  (.iadd, 0, 0, 64, vu, []),
  (.istore_n 2, 2, 0, 65, vu, []),
  (.iinc 3 1, 3, 0, 66, vi 1, []),
  (.goto (-114), 4, 0, 67, vu, []),
  (.iload_n 2, 2, 0, 68, vu, []),
  (.ireturn, 0, 0, 69, vu, [])]
noncomputable def p_Se_waysToJoin : List Nat := [0, 1, 2, 3, 4, 5, 6, 9, 12, 13, 14, 17, 18, 21, 24, 25, 27, 28, 30, 31, 33, 35, 36, 39, 42, 43, 45, 48, 49, 52, 53, 54, 55, 57, 59, 62, 65, 67, 69, 72, 75, 77, 80, 81, 82, 83, 86, 87, 88, 89, 92, 93, 94, 95, 96, 99, 101, 102, 105, 106, 107, 108, 110, 113, 114, 115, 118, 121, 122]
abbrev n_Se_howManyBeside : Nat := 38
noncomputable def i_Se_howManyBeside : List Ins := [(.iconst 0, 0, 0, 1, vi 0, []),
  (.istore_n 3, 3, 0, 2, vu, []),
  (.iconst 0, 0, 0, 3, vi 0, []),
  (.istore 4, 4, 0, 4, vu, []),
  (.iload 4, 4, 0, 5, vu, []),
  (.aload_n 0, 0, 0, 6, vu, []),
  (.getfield 25, 4, 4, 7, vu, [0]),
  (.if_icmp .ge 44, 31, 0, 8, vu, []),
  (.iload_n 3, 3, 0, 9, vu, []),
  (.iload_n 1, 1, 0, 10, vu, []),
  (.aload_n 0, 0, 0, 11, vu, []),
  (.getfield 28, 4, 5, 12, vu, [0]),
  (.ior, 0, 0, 13, vu, []),
  (.iload 4, 4, 0, 14, vu, []),
  (.invokestatic 56, 131, 2, 15, vu, [0, 0, 99]),
  (.ifCond .ne 20, 26, 0, 16, vu, []),
  (.aload_n 0, 0, 0, 17, vu, []),
  (.getfield 9, 4, 0, 18, vu, [2]),
  (.iconst 1, 0, 0, 19, vi 1, []),
  (.iload 4, 4, 0, 20, vu, []),
  (.ishl, 0, 0, 21, vu, []),
  (.iaload, 0, 0, 22, vu, []),
  (.iload_n 2, 2, 0, 23, vu, []),
  (.if_icmp .ne 7, 26, 0, 24, vu, []),
  (.iconst 1, 0, 0, 25, vi 1, []),
  (.goto 4, 27, 0, 26, vu, []),
  (.iconst 0, 0, 0, 27, vi 0, []),
  (.iadd, 0, 0, 28, vu, []),
  (.istore_n 3, 3, 0, 29, vu, []),
  (.iinc 4 1, 4, 0, 30, vi 1, []),
  (.goto (-47), 4, 0, 31, vu, []),
  (.iload_n 3, 3, 0, 32, vu, []),
  (.ireturn, 0, 0, 33, vu, [])]
noncomputable def p_Se_howManyBeside : List Nat := [0, 1, 2, 3, 5, 7, 8, 11, 14, 15, 16, 17, 20, 21, 23, 26, 29, 30, 33, 34, 36, 37, 38, 39, 42, 43, 46, 47, 48, 49, 52, 55, 56]
abbrev n_Se_unlikeRises : Nat := 39
noncomputable def i_Se_unlikeRises : List Ins := [(.iconst 0, 0, 0, 1, vi 0, []),
  (.istore_n 1, 1, 0, 2, vu, []),
  (.iload_n 1, 1, 0, 3, vu, []),
  (.aload_n 0, 0, 0, 4, vu, []),
  (.getfield 18, 4, 2, 5, vu, [2]),
  (.arraylength, 0, 0, 6, vu, []),
  (.if_icmp .ge 16, 14, 0, 7, vu, []),
  (.aload_n 0, 0, 0, 8, vu, []),
  (.getfield 18, 4, 2, 9, vu, [2]),
  (.iload_n 1, 1, 0, 10, vu, []),
  (.iconst 0, 0, 0, 11, vi 0, []),
  (.iastore, 0, 0, 12, vu, []),
  (.iinc 1 1, 1, 0, 13, vi 1, []),
  (.goto (-19), 2, 0, 14, vu, []),
  (.iconst 0, 0, 0, 15, vi 0, []),
  (.istore_n 1, 1, 0, 16, vu, []),
  (.iconst 0, 0, 0, 17, vi 0, []),
  (.istore_n 2, 2, 0, 18, vu, []),
  (.iload_n 2, 2, 0, 19, vu, []),
  (.aload_n 0, 0, 0, 20, vu, []),
  (.getfield 21, 4, 3, 21, vu, [0]),
  (.if_icmp .ge 48, 47, 0, 22, vu, []),
  (.aload_n 0, 0, 0, 23, vu, []),
  (.getfield 9, 4, 0, 24, vu, [2]),
  (.iload_n 2, 2, 0, 25, vu, []),
  (.iaload, 0, 0, 26, vu, []),
  (.istore_n 3, 3, 0, 27, vu, []),
  (.iload_n 3, 3, 0, 28, vu, []),
  (.ifCond .lt 31, 45, 0, 29, vu, []),
  (.iload_n 3, 3, 0, 30, vu, []),
  (.aload_n 0, 0, 0, 31, vu, []),
  (.getfield 18, 4, 2, 32, vu, [2]),
  (.arraylength, 0, 0, 33, vu, []),
  (.if_icmp .ge 22, 45, 0, 34, vu, []),
  (.aload_n 0, 0, 0, 35, vu, []),
  (.getfield 18, 4, 2, 36, vu, [2]),
  (.iload_n 3, 3, 0, 37, vu, []),
  (.iaload, 0, 0, 38, vu, []),
  (.ifCond .ne 13, 45, 0, 39, vu, []),
  (.aload_n 0, 0, 0, 40, vu, []),
  (.getfield 18, 4, 2, 41, vu, [2]),
  (.iload_n 3, 3, 0, 42, vu, []),
  (.iconst 1, 0, 0, 43, vi 1, []),
  (.iastore, 0, 0, 44, vu, []),
  (.iinc 1 1, 1, 0, 45, vi 1, []),
  (.iinc 2 1, 2, 0, 46, vi 1, []),
  (.goto (-50), 18, 0, 47, vu, []),
  (.iload_n 1, 1, 0, 48, vu, []),
  (.ireturn, 0, 0, 49, vu, [])]
noncomputable def p_Se_unlikeRises : List Nat := [0, 1, 2, 3, 4, 7, 8, 11, 12, 15, 16, 17, 18, 21, 24, 25, 26, 27, 28, 29, 30, 33, 36, 37, 40, 41, 42, 43, 44, 47, 48, 49, 52, 53, 56, 57, 60, 61, 62, 65, 66, 69, 70, 71, 72, 75, 78, 81, 82]
abbrev n_Se_greatestRise : Nat := 40
noncomputable def i_Se_greatestRise : List Ins := [(.aload_n 0, 0, 0, 1, vu, []),
  (.getfield 9, 4, 0, 2, vu, [2]),
  (.aload_n 0, 0, 0, 3, vu, []),
  (.getfield 21, 4, 3, 4, vu, [0]),
  (.iconst 1, 0, 0, 5, vi 1, []),
  (.isub, 0, 0, 6, vu, []),
  (.iaload, 0, 0, 7, vu, []),
  (.ireturn, 0, 0, 8, vu, [])]
noncomputable def p_Se_greatestRise : List Nat := [0, 1, 4, 5, 8, 9, 10, 11]
abbrev n_Se_cheapestSounding : Nat := 41
noncomputable def i_Se_cheapestSounding : List Ins := [(.iconst 0, 0, 0, 1, vi 0, []),
  (.istore_n 3, 3, 0, 2, vu, []),
  (.iload_n 3, 3, 0, 3, vu, []),
  (.aload_n 0, 0, 0, 4, vu, []),
  (.getfield 25, 4, 4, 5, vu, [0]),
  (.if_icmp .ge 26, 17, 0, 6, vu, []),
  (.aload_n 0, 0, 0, 7, vu, []),
  (.getfield 15, 4, 1, 8, vu, [2]),
  (.iload_n 3, 3, 0, 9, vu, []),
  (.aload_n 1, 1, 0, 10, vu, []),
  (.getfield 42, 5, 0, 11, vu, [2]),
  (.iload_n 3, 3, 0, 12, vu, []),
  (.aaload, 0, 0, 13, vu, []),
  (.invokevirtual 71, 22, 1, 14, vu, [0, 0, 3]),
  (.invokestatic 38, 29, 3, 15, vu, [0, 0, 99]),
  (.iinc 3 1, 3, 0, 16, vi 1, []),
  (.goto (-28), 2, 0, 17, vu, []),
  (.iconst (-1), 0, 0, 18, vi (-1), []),
  (.istore_n 3, 3, 0, 19, vu, []),
  (.iconst 0, 0, 0, 20, vi 0, []),
  (.istore 4, 4, 0, 21, vu, []),
  (.iload 4, 4, 0, 22, vu, []),
  (.aload_n 0, 0, 0, 23, vu, []),
  (.getfield 21, 4, 3, 24, vu, [0]),
  (.if_icmp .ge 43, 46, 0, 25, vu, []),
  (.aload_n 0, 0, 0, 26, vu, []),
  (.getfield 15, 4, 1, 27, vu, [2]),
  (.iload 4, 4, 0, 28, vu, []),
  (.iaload, 0, 0, 29, vu, []),
  (.iload_n 2, 2, 0, 30, vu, []),
  (.if_icmp .lt 26, 44, 0, 31, vu, []),
  (.iload_n 3, 3, 0, 32, vu, []),
  (.ifCond .lt 19, 42, 0, 33, vu, []),
  (.aload_n 0, 0, 0, 34, vu, []),
  (.getfield 9, 4, 0, 35, vu, [2]),
  (.iload 4, 4, 0, 36, vu, []),
  (.iaload, 0, 0, 37, vu, []),
  (.aload_n 0, 0, 0, 38, vu, []),
  (.getfield 9, 4, 0, 39, vu, [2]),
  (.iload_n 3, 3, 0, 40, vu, []),
  (.iaload, 0, 0, 41, vu, []),
  (.if_icmp .ge 6, 44, 0, 42, vu, []),
  (.iload 4, 4, 0, 43, vu, []),
  (.istore_n 3, 3, 0, 44, vu, []),
  (.iinc 4 1, 4, 0, 45, vi 1, []),
  (.goto (-46), 21, 0, 46, vu, []),
  (.iload_n 3, 3, 0, 47, vu, []),
  (.ireturn, 0, 0, 48, vu, [])]
noncomputable def p_Se_cheapestSounding : List Nat := [0, 1, 2, 3, 4, 7, 10, 11, 14, 15, 16, 19, 20, 21, 24, 27, 30, 33, 34, 35, 36, 38, 40, 41, 44, 47, 48, 51, 53, 54, 55, 58, 59, 62, 63, 66, 68, 69, 70, 73, 74, 75, 78, 80, 81, 84, 87, 88]
abbrev n_Se_mostHouses : Nat := 42
noncomputable def i_Se_mostHouses : List Ins := [(.iconst 0, 0, 0, 1, vi 0, []),
  (.istore_n 2, 2, 0, 2, vu, []),
  (.iconst 0, 0, 0, 3, vi 0, []),
  (.istore_n 3, 3, 0, 4, vu, []),
  (.iload_n 3, 3, 0, 5, vu, []),
  (.aload_n 0, 0, 0, 6, vu, []),
  (.getfield 21, 4, 3, 7, vu, [0]),
  (.if_icmp .ge 53, 34, 0, 8, vu, []),
  (.iload_n 3, 3, 0, 9, vu, []),
  (.aload_n 0, 0, 0, 10, vu, []),
  (.getfield 28, 4, 5, 11, vu, [0]),
  (.iand, 0, 0, 12, vu, []),
  (.ifCond .ne 17, 21, 0, 13, vu, []),
  (.aload_n 0, 0, 0, 14, vu, []),
  (.getfield 9, 4, 0, 15, vu, [2]),
  (.iload_n 3, 3, 0, 16, vu, []),
  (.iaload, 0, 0, 17, vu, []),
  (.iload_n 1, 1, 0, 18, vu, []),
  (.if_icmp .gt 7, 21, 0, 19, vu, []),
  (.iconst 1, 0, 0, 20, vi 1, []),
  (.goto 4, 22, 0, 21, vu, []),
  (.iconst 0, 0, 0, 22, vi 0, []),
  (.istore 4, 4, 0, 23, vu, []),
  (.iload 4, 4, 0, 24, vu, []),
  (.ifCond .eq 16, 32, 0, 25, vu, []),
  (.iload_n 3, 3, 0, 26, vu, []),
  (.invokestatic 75, 224, 1, 27, vu, [0, 0, 99]),
  (.iload_n 2, 2, 0, 28, vu, []),
  (.invokestatic 75, 224, 1, 29, vu, [0, 0, 99]),
  (.if_icmp .le 5, 32, 0, 30, vu, []),
  (.iload_n 3, 3, 0, 31, vu, []),
  (.istore_n 2, 2, 0, 32, vu, []),
  (.iinc 3 1, 3, 0, 33, vi 1, []),
  (.goto (-55), 4, 0, 34, vu, []),
  (.iload_n 2, 2, 0, 35, vu, []),
  (.ireturn, 0, 0, 36, vu, [])]
noncomputable def p_Se_mostHouses : List Nat := [0, 1, 2, 3, 4, 5, 6, 9, 12, 13, 14, 17, 18, 21, 22, 25, 26, 27, 28, 31, 32, 35, 36, 38, 40, 43, 44, 47, 48, 51, 54, 55, 56, 59, 62, 63]
abbrev n_Se_fewestHours : Nat := 43
noncomputable def i_Se_fewestHours : List Ins := [(.aload_n 0, 0, 0, 1, vu, []),
  (.getfield 18, 4, 2, 2, vu, [2]),
  (.iconst 0, 0, 0, 3, vi 0, []),
  (.iconst 0, 0, 0, 4, vi 0, []),
  (.iastore, 0, 0, 5, vu, []),
  (.iconst 1, 0, 0, 6, vi 1, []),
  (.istore_n 3, 3, 0, 7, vu, []),
  (.iload_n 3, 3, 0, 8, vu, []),
  (.aload_n 0, 0, 0, 9, vu, []),
  (.getfield 21, 4, 3, 10, vu, [0]),
  (.if_icmp .ge 81, 58, 0, 11, vu, []),
  (.aload_n 0, 0, 0, 12, vu, []),
  (.getfield 18, 4, 2, 13, vu, [2]),
  (.iload_n 3, 3, 0, 14, vu, []),
  (.bipush 9, 0, 0, 15, vi 9, []),
  (.iastore, 0, 0, 16, vu, []),
  (.iload_n 3, 3, 0, 17, vu, []),
  (.iload_n 1, 1, 0, 18, vu, []),
  (.iconst (-1), 0, 0, 19, vi (-1), []),
  (.ixor, 0, 0, 20, vu, []),
  (.iand, 0, 0, 21, vu, []),
  (.ifCond .ne 59, 56, 0, 22, vu, []),
  (.iload_n 3, 3, 0, 23, vu, []),
  (.istore 4, 4, 0, 24, vu, []),
  (.iload 4, 4, 0, 25, vu, []),
  (.ifCond .le 51, 56, 0, 26, vu, []),
  (.aload_n 0, 0, 0, 27, vu, []),
  (.getfield 9, 4, 0, 28, vu, [2]),
  (.iload 4, 4, 0, 29, vu, []),
  (.iaload, 0, 0, 30, vu, []),
  (.iload_n 2, 2, 0, 31, vu, []),
  (.if_icmp .gt 29, 49, 0, 32, vu, []),
  (.aload_n 0, 0, 0, 33, vu, []),
  (.getfield 18, 4, 2, 34, vu, [2]),
  (.iload_n 3, 3, 0, 35, vu, []),
  (.aload_n 0, 0, 0, 36, vu, []),
  (.getfield 18, 4, 2, 37, vu, [2]),
  (.iload_n 3, 3, 0, 38, vu, []),
  (.iaload, 0, 0, 39, vu, []),
  (.aload_n 0, 0, 0, 40, vu, []),
  (.getfield 18, 4, 2, 41, vu, [2]),
  (.iload_n 3, 3, 0, 42, vu, []),
  (.iload 4, 4, 0, 43, vu, []),
  (.isub, 0, 0, 44, vu, []),
  (.iaload, 0, 0, 45, vu, []),
  (.iconst 1, 0, 0, 46, vi 1, []),
  (.iadd, 0, 0, 47, vu, []),
  (.invokestatic 80, 4, 0, 48, vu, []),
  (.iastore, 0, 0, 49, vu, []),
  (.iload 4, 4, 0, 50, vu, []),
  (.iconst 1, 0, 0, 51, vi 1, []),
  (.isub, 0, 0, 52, vu, []),
  (.iload_n 3, 3, 0, 53, vu, []),
  (.iand, 0, 0, 54, vu, []),
  (.istore 4, 4, 0, 55, vu, []),
  (.goto (-50), 24, 0, 56, vu, []),
  (.iinc 3 1, 3, 0, 57, vi 1, []),
  (.goto (-83), 7, 0, 58, vu, []),
  (.iload_n 1, 1, 0, 59, vu, []),
  (.ifCond .lt 20, 69, 0, 60, vu, []),
  (.iload_n 1, 1, 0, 61, vu, []),
  (.aload_n 0, 0, 0, 62, vu, []),
  (.getfield 21, 4, 3, 63, vu, [0]),
  (.if_icmp .ge 12, 69, 0, 64, vu, []),
  (.aload_n 0, 0, 0, 65, vu, []),
  (.getfield 18, 4, 2, 66, vu, [2]),
  (.iload_n 1, 1, 0, 67, vu, []),
  (.iaload, 0, 0, 68, vu, []),
  (.goto 4, 70, 0, 69, vu, []),
  (.iconst 0, 0, 0, 70, vi 0, []),
  (.ireturn, 0, 0, 71, vu, [])]
noncomputable def p_Se_fewestHours : List Nat := [0, 1, 4, 5, 6, 7, 8, 9, 10, 11, 14, 17, 18, 21, 22, 24, 25, 26, 27, 28, 29, 30, 33, 34, 36, 38, 41, 42, 45, 47, 48, 49, 52, 53, 56, 57, 58, 61, 62, 63, 64, 67, 68, 70, 71, 72, 73, 74, 77, 78, 80, 81, 82, 83, 84, 86, 89, 92, 95, 96, 99, 100, 101, 104, 107, 108, 111, 112, 113, 116, 117]
abbrev n_Se_firstHour : Nat := 44
noncomputable def i_Se_firstHour : List Ins := [(.iconst 1, 0, 0, 1, vi 1, []),
  (.istore_n 3, 3, 0, 2, vu, []),
  (.iload_n 3, 3, 0, 3, vu, []),
  (.iload_n 1, 1, 0, 4, vu, []),
  (.if_icmp .gt 68, 44, 0, 5, vu, []),
  (.iload_n 1, 1, 0, 6, vu, []),
  (.aload_n 0, 0, 0, 7, vu, []),
  (.getfield 21, 4, 3, 8, vu, [0]),
  (.if_icmp .ge 60, 44, 0, 9, vu, []),
  (.iload_n 3, 3, 0, 10, vu, []),
  (.iload_n 1, 1, 0, 11, vu, []),
  (.iconst (-1), 0, 0, 12, vi (-1), []),
  (.ixor, 0, 0, 13, vu, []),
  (.iand, 0, 0, 14, vu, []),
  (.ifCond .ne 17, 23, 0, 15, vu, []),
  (.aload_n 0, 0, 0, 16, vu, []),
  (.getfield 9, 4, 0, 17, vu, [2]),
  (.iload_n 3, 3, 0, 18, vu, []),
  (.iaload, 0, 0, 19, vu, []),
  (.iload_n 2, 2, 0, 20, vu, []),
  (.if_icmp .gt 7, 23, 0, 21, vu, []),
  (.iconst 1, 0, 0, 22, vi 1, []),
  (.goto 4, 24, 0, 23, vu, []),
  (.iconst 0, 0, 0, 24, vi 0, []),
  (.istore 4, 4, 0, 25, vu, []),
  (.iload 4, 4, 0, 26, vu, []),
  (.ifCond .eq 24, 42, 0, 27, vu, []),
  (.aload_n 0, 0, 0, 28, vu, []),
  (.getfield 18, 4, 2, 29, vu, [2]),
  (.iload_n 1, 1, 0, 30, vu, []),
  (.iload_n 3, 3, 0, 31, vu, []),
  (.isub, 0, 0, 32, vu, []),
  (.iaload, 0, 0, 33, vu, []),
  (.iconst 1, 0, 0, 34, vi 1, []),
  (.iadd, 0, 0, 35, vu, []),
  (.aload_n 0, 0, 0, 36, vu, []),
  (.getfield 18, 4, 2, 37, vu, [2]),
  (.iload_n 1, 1, 0, 38, vu, []),
  (.iaload, 0, 0, 39, vu, []),
  (.if_icmp .ne 5, 42, 0, 40, vu, []),
  (.iload_n 3, 3, 0, 41, vu, []),
  (.ireturn, 0, 0, 42, vu, []),
  (.iinc 3 1, 3, 0, 43, vi 1, []),
  (.goto (-67), 2, 0, 44, vu, []),
  (.iconst 0, 0, 0, 45, vi 0, []),
  (.ireturn, 0, 0, 46, vu, [])]
noncomputable def p_Se_firstHour : List Nat := [0, 1, 2, 3, 4, 7, 8, 9, 12, 15, 16, 17, 18, 19, 20, 23, 24, 27, 28, 29, 30, 33, 34, 37, 38, 40, 42, 45, 46, 49, 50, 51, 52, 53, 54, 55, 56, 59, 60, 61, 64, 65, 66, 69, 72, 73]
abbrev n_Se_fewestPayments : Nat := 45
noncomputable def i_Se_fewestPayments : List Ins := [(.iconst 0, 0, 0, 1, vi 0, []),
  (.istore_n 2, 2, 0, 2, vu, []),
  (.iload_n 2, 2, 0, 3, vu, []),
  (.aload_n 0, 0, 0, 4, vu, []),
  (.getfield 25, 4, 4, 5, vu, [0]),
  (.if_icmp .ge 22, 15, 0, 6, vu, []),
  (.aload_n 0, 0, 0, 7, vu, []),
  (.getfield 15, 4, 1, 8, vu, [2]),
  (.iload_n 2, 2, 0, 9, vu, []),
  (.aload_n 1, 1, 0, 10, vu, []),
  (.iload_n 2, 2, 0, 11, vu, []),
  (.invokevirtual 85, 67, 2, 12, vu, [0, 0, 5]),
  (.invokestatic 38, 29, 3, 13, vu, [0, 0, 99]),
  (.iinc 2 1, 2, 0, 14, vi 1, []),
  (.goto (-24), 2, 0, 15, vu, []),
  (.aload_n 0, 0, 0, 16, vu, []),
  (.getfield 18, 4, 2, 17, vu, [2]),
  (.iconst 0, 0, 0, 18, vi 0, []),
  (.iconst 0, 0, 0, 19, vi 0, []),
  (.iastore, 0, 0, 20, vu, []),
  (.iconst 1, 0, 0, 21, vi 1, []),
  (.istore_n 2, 2, 0, 22, vu, []),
  (.iload_n 2, 2, 0, 23, vu, []),
  (.aload_n 0, 0, 0, 24, vu, []),
  (.getfield 21, 4, 3, 25, vu, [0]),
  (.if_icmp .ge 76, 67, 0, 26, vu, []),
  (.iconst 0, 0, 0, 27, vi 0, []),
  (.istore_n 3, 3, 0, 28, vu, []),
  (.iconst 0, 0, 0, 29, vi 0, []),
  (.istore 4, 4, 0, 30, vu, []),
  (.iload 4, 4, 0, 31, vu, []),
  (.aload_n 0, 0, 0, 32, vu, []),
  (.getfield 25, 4, 4, 33, vu, [0]),
  (.if_icmp .ge 34, 51, 0, 34, vu, []),
  (.iload_n 2, 2, 0, 35, vu, []),
  (.iload 4, 4, 0, 36, vu, []),
  (.invokestatic 56, 131, 2, 37, vu, [0, 0, 99]),
  (.ifCond .eq 19, 49, 0, 38, vu, []),
  (.iload_n 3, 3, 0, 39, vu, []),
  (.aload_n 0, 0, 0, 40, vu, []),
  (.getfield 18, 4, 2, 41, vu, [2]),
  (.iload_n 2, 2, 0, 42, vu, []),
  (.iconst 1, 0, 0, 43, vi 1, []),
  (.iload 4, 4, 0, 44, vu, []),
  (.ishl, 0, 0, 45, vu, []),
  (.isub, 0, 0, 46, vu, []),
  (.iaload, 0, 0, 47, vu, []),
  (.invokestatic 88, 3, 0, 48, vu, []),
  (.istore_n 3, 3, 0, 49, vu, []),
  (.iinc 4 1, 4, 0, 50, vi 1, []),
  (.goto (-37), 30, 0, 51, vu, []),
  (.aload_n 0, 0, 0, 52, vu, []),
  (.getfield 18, 4, 2, 53, vu, [2]),
  (.iload_n 2, 2, 0, 54, vu, []),
  (.iload_n 3, 3, 0, 55, vu, []),
  (.aload_n 0, 0, 0, 56, vu, []),
  (.getfield 15, 4, 1, 57, vu, [2]),
  (.iload_n 2, 2, 0, 58, vu, []),
  (.iaload, 0, 0, 59, vu, []),
  (.ifCond .ne 7, 62, 0, 60, vu, []),
  (.iconst 1, 0, 0, 61, vi 1, []),
  (.goto 4, 63, 0, 62, vu, []),
  (.iconst 0, 0, 0, 63, vi 0, []),
  (.iadd, 0, 0, 64, vu, []),
  (.iastore, 0, 0, 65, vu, []),
  (.iinc 2 1, 2, 0, 66, vi 1, []),
  (.goto (-78), 22, 0, 67, vu, []),
  (.aload_n 0, 0, 0, 68, vu, []),
  (.getfield 25, 4, 4, 69, vu, [0]),
  (.aload_n 0, 0, 0, 70, vu, []),
  (.getfield 18, 4, 2, 71, vu, [2]),
  (.aload_n 0, 0, 0, 72, vu, []),
  (.getfield 21, 4, 3, 73, vu, [0]),
  (.iconst 1, 0, 0, 74, vi 1, []),
  (.isub, 0, 0, 75, vu, []),
  (.iaload, 0, 0, 76, vu, []),
  (.isub, 0, 0, 77, vu, []),
  (.ireturn, 0, 0, 78, vu, [])]
noncomputable def p_Se_fewestPayments : List Nat := [0, 1, 2, 3, 4, 7, 10, 11, 14, 15, 16, 17, 20, 23, 26, 29, 30, 33, 34, 35, 36, 37, 38, 39, 40, 43, 46, 47, 48, 49, 51, 53, 54, 57, 60, 61, 63, 66, 69, 70, 71, 74, 75, 76, 78, 79, 80, 81, 84, 85, 88, 91, 92, 95, 96, 97, 98, 101, 102, 103, 106, 107, 110, 111, 112, 113, 116, 119, 120, 123, 124, 127, 128, 131, 132, 133, 134, 135]
abbrev n_St_init : Nat := 46
noncomputable def i_St_init : List Ins := [(.aload_n 0, 0, 0, 1, vu, []),
  (.invokespecial 3, 1, 0, 2, vu, []),
  (.aload_n 0, 0, 0, 3, vu, []),
  (.bipush 8, 0, 0, 4, vi 8, []),
  (.anewarray 9, 0, 7, 5, vu, []),
  (.putfield 11, 5, 0, 6, vu, [2]),
  (.aload_n 0, 0, 0, 7, vu, []),
  (.bipush 40, 0, 0, 8, vi 40, []),
  (.anewarray 17, 0, 9, 9, vu, []),
  (.putfield 19, 5, 1, 10, vu, [2]),
  (.aload_n 0, 0, 0, 11, vu, []),
  (.bipush 8, 0, 0, 12, vi 8, []),
  (.bipush 8, 0, 0, 13, vi 8, []),
  (.multianewarray 23 2, 0, 12, 14, vu, [13]),
  (.putfield 25, 5, 2, 15, vu, [2]),
  (.iconst 0, 0, 0, 16, vi 0, []),
  (.istore_n 1, 1, 0, 17, vu, []),
  (.iload_n 1, 1, 0, 18, vu, []),
  (.aload_n 0, 0, 0, 19, vu, []),
  (.getfield 11, 5, 0, 20, vu, [2]),
  (.arraylength, 0, 0, 21, vu, []),
  (.if_icmp .ge 22, 31, 0, 22, vu, []),
  (.aload_n 0, 0, 0, 23, vu, []),
  (.getfield 11, 5, 0, 24, vu, [2]),
  (.iload_n 1, 1, 0, 25, vu, []),
  (.new 9, 0, 8, 26, vu, [5]),
  (.dup, 0, 0, 27, vu, []),
  (.invokespecial 28, 21, 1, 28, vu, [0, 0, 98]),
  (.aastore, 0, 0, 29, vu, []),
  (.iinc 1 1, 1, 0, 30, vi 1, []),
  (.goto (-25), 17, 0, 31, vu, []),
  (.iconst 0, 0, 0, 32, vi 0, []),
  (.istore_n 1, 1, 0, 33, vu, []),
  (.iload_n 1, 1, 0, 34, vu, []),
  (.aload_n 0, 0, 0, 35, vu, []),
  (.getfield 19, 5, 1, 36, vu, [2]),
  (.arraylength, 0, 0, 37, vu, []),
  (.if_icmp .ge 22, 47, 0, 38, vu, []),
  (.aload_n 0, 0, 0, 39, vu, []),
  (.getfield 19, 5, 1, 40, vu, [2]),
  (.iload_n 1, 1, 0, 41, vu, []),
  (.new 17, 0, 10, 42, vu, [5]),
  (.dup, 0, 0, 43, vu, []),
  (.invokespecial 29, 19, 1, 44, vu, [1, 8, 98]),
  (.aastore, 0, 0, 45, vu, []),
  (.iinc 1 1, 1, 0, 46, vi 1, []),
  (.goto (-25), 33, 0, 47, vu, []),
  (.return_, 0, 0, 48, vu, [])]
noncomputable def p_St_init : List Nat := [0, 1, 4, 5, 7, 10, 13, 14, 16, 19, 22, 23, 25, 27, 31, 34, 35, 36, 37, 38, 41, 42, 45, 46, 49, 50, 53, 54, 57, 58, 61, 64, 65, 66, 67, 68, 71, 72, 75, 76, 79, 80, 83, 84, 87, 88, 91, 94]
abbrev n_St_clear : Nat := 47
noncomputable def i_St_clear : List Ins := [(.aload_n 0, 0, 0, 1, vu, []),
  (.iconst 0, 0, 0, 2, vi 0, []),
  (.putfield 30, 5, 3, 3, vu, [0]),
  (.aload_n 0, 0, 0, 4, vu, []),
  (.iconst 0, 0, 0, 5, vi 0, []),
  (.putfield 34, 5, 4, 6, vu, [0]),
  (.aload_n 0, 0, 0, 7, vu, []),
  (.iconst 0, 0, 0, 8, vi 0, []),
  (.putfield 37, 5, 5, 9, vu, [0]),
  (.aload_n 0, 0, 0, 10, vu, []),
  (.iconst 0, 0, 0, 11, vi 0, []),
  (.putfield 40, 5, 6, 12, vu, [0]),
  (.aload_n 0, 0, 0, 13, vu, []),
  (.iconst 0, 0, 0, 14, vi 0, []),
  (.putfield 43, 5, 7, 15, vu, [0]),
  (.aload_n 0, 0, 0, 16, vu, []),
  (.iconst 0, 0, 0, 17, vi 0, []),
  (.putfield 46, 5, 8, 18, vu, [0]),
  (.return_, 0, 0, 19, vu, [])]
noncomputable def p_St_clear : List Nat := [0, 1, 2, 5, 6, 7, 10, 11, 12, 15, 16, 17, 20, 21, 22, 25, 26, 27, 30]
abbrev n_St_add : Nat := 48
noncomputable def i_St_add : List Ins := [(.aload_n 0, 0, 0, 1, vu, []),
  (.getfield 30, 5, 3, 2, vu, [0]),
  (.bipush 8, 0, 0, 3, vi 8, []),
  (.if_icmp .lt 4, 5, 0, 4, vu, []),
  (.return_, 0, 0, 5, vu, []),
  (.aload_n 0, 0, 0, 6, vu, []),
  (.getfield 11, 5, 0, 7, vu, [2]),
  (.aload_n 0, 0, 0, 8, vu, []),
  (.getfield 30, 5, 3, 9, vu, [0]),
  (.aaload, 0, 0, 10, vu, []),
  (.astore 4, 4, 0, 11, vu, []),
  (.aload 4, 4, 0, 12, vu, []),
  (.aload_n 1, 1, 0, 13, vu, []),
  (.putfield 49, 3, 0, 14, vu, [2]),
  (.aload 4, 4, 0, 15, vu, []),
  (.iload_n 2, 2, 0, 16, vu, []),
  (.putfield 53, 3, 1, 17, vu, [0]),
  (.aload 4, 4, 0, 18, vu, []),
  (.iload_n 3, 3, 0, 19, vu, []),
  (.putfield 56, 3, 2, 20, vu, [0]),
  (.aload 4, 4, 0, 21, vu, []),
  (.iconst 0, 0, 0, 22, vi 0, []),
  (.putfield 59, 3, 3, 23, vu, [0]),
  (.aload 4, 4, 0, 24, vu, []),
  (.iconst 0, 0, 0, 25, vi 0, []),
  (.putfield 62, 3, 4, 26, vu, [0]),
  (.iconst 0, 0, 0, 27, vi 0, []),
  (.istore 5, 5, 0, 28, vu, []),
  (.iload 5, 5, 0, 29, vu, []),
  (.bipush 8, 0, 0, 30, vi 8, []),
  (.if_icmp .ge 22, 41, 0, 31, vu, []),
  (.aload_n 0, 0, 0, 32, vu, []),
  (.getfield 25, 5, 2, 33, vu, [2]),
  (.aload_n 0, 0, 0, 34, vu, []),
  (.getfield 30, 5, 3, 35, vu, [0]),
  (.aaload, 0, 0, 36, vu, []),
  (.iload 5, 5, 0, 37, vu, []),
  (.iconst 0, 0, 0, 38, vi 0, []),
  (.iastore, 0, 0, 39, vu, []),
  (.iinc 5 1, 5, 0, 40, vi 1, []),
  (.goto (-23), 28, 0, 41, vu, []),
  (.aload_n 0, 0, 0, 42, vu, []),
  (.dup, 0, 0, 43, vu, []),
  (.getfield 30, 5, 3, 44, vu, [0]),
  (.iconst 1, 0, 0, 45, vi 1, []),
  (.iadd, 0, 0, 46, vu, []),
  (.putfield 30, 5, 3, 47, vu, [0]),
  (.return_, 0, 0, 48, vu, [])]
noncomputable def p_St_add : List Nat := [0, 1, 4, 6, 9, 10, 11, 14, 15, 18, 19, 21, 23, 24, 27, 29, 30, 33, 35, 36, 39, 41, 42, 45, 47, 48, 51, 52, 54, 56, 58, 61, 62, 65, 66, 69, 70, 72, 73, 74, 77, 80, 81, 82, 85, 86, 87, 90]
abbrev n_St_becomeLike : Nat := 49
noncomputable def i_St_becomeLike : List Ins := [(.iconst 0, 0, 0, 1, vi 0, []),
  (.istore_n 2, 2, 0, 2, vu, []),
  (.iload_n 2, 2, 0, 3, vu, []),
  (.bipush 8, 0, 0, 4, vi 8, []),
  (.if_icmp .ge 43, 28, 0, 5, vu, []),
  (.aload_n 0, 0, 0, 6, vu, []),
  (.getfield 11, 5, 0, 7, vu, [2]),
  (.iload_n 2, 2, 0, 8, vu, []),
  (.aaload, 0, 0, 9, vu, []),
  (.aload_n 1, 1, 0, 10, vu, []),
  (.getfield 11, 5, 0, 11, vu, [2]),
  (.iload_n 2, 2, 0, 12, vu, []),
  (.aaload, 0, 0, 13, vu, []),
  (.invokevirtual 65, 24, 2, 14, vu, [0, 0, 3]),
  (.aload_n 1, 1, 0, 15, vu, []),
  (.getfield 25, 5, 2, 16, vu, [2]),
  (.iload_n 2, 2, 0, 17, vu, []),
  (.aaload, 0, 0, 18, vu, []),
  (.iconst 0, 0, 0, 19, vi 0, []),
  (.aload_n 0, 0, 0, 20, vu, []),
  (.getfield 25, 5, 2, 21, vu, [2]),
  (.iload_n 2, 2, 0, 22, vu, []),
  (.aaload, 0, 0, 23, vu, []),
  (.iconst 0, 0, 0, 24, vi 0, []),
  (.bipush 8, 0, 0, 25, vi 8, []),
  (.invokestatic 69, 2, 0, 26, vu, []),
  (.iinc 2 1, 2, 0, 27, vi 1, []),
  (.goto (-43), 2, 0, 28, vu, []),
  (.iconst 0, 0, 0, 29, vi 0, []),
  (.istore_n 2, 2, 0, 30, vu, []),
  (.iload_n 2, 2, 0, 31, vu, []),
  (.bipush 40, 0, 0, 32, vi 40, []),
  (.if_icmp .ge 24, 44, 0, 33, vu, []),
  (.aload_n 0, 0, 0, 34, vu, []),
  (.getfield 19, 5, 1, 35, vu, [2]),
  (.iload_n 2, 2, 0, 36, vu, []),
  (.aaload, 0, 0, 37, vu, []),
  (.aload_n 1, 1, 0, 38, vu, []),
  (.getfield 19, 5, 1, 39, vu, [2]),
  (.iload_n 2, 2, 0, 40, vu, []),
  (.aaload, 0, 0, 41, vu, []),
  (.invokevirtual 75, 20, 2, 42, vu, [0, 0, 2]),
  (.iinc 2 1, 2, 0, 43, vi 1, []),
  (.goto (-24), 30, 0, 44, vu, []),
  (.aload_n 0, 0, 0, 45, vu, []),
  (.aload_n 1, 1, 0, 46, vu, []),
  (.getfield 30, 5, 3, 47, vu, [0]),
  (.putfield 30, 5, 3, 48, vu, [0]),
  (.aload_n 0, 0, 0, 49, vu, []),
  (.aload_n 1, 1, 0, 50, vu, []),
  (.getfield 34, 5, 4, 51, vu, [0]),
  (.putfield 34, 5, 4, 52, vu, [0]),
  (.aload_n 0, 0, 0, 53, vu, []),
  (.aload_n 1, 1, 0, 54, vu, []),
  (.getfield 37, 5, 5, 55, vu, [0]),
  (.putfield 37, 5, 5, 56, vu, [0]),
  (.aload_n 0, 0, 0, 57, vu, []),
  (.aload_n 1, 1, 0, 58, vu, []),
  (.getfield 40, 5, 6, 59, vu, [0]),
  (.putfield 40, 5, 6, 60, vu, [0]),
  (.aload_n 0, 0, 0, 61, vu, []),
  (.aload_n 1, 1, 0, 62, vu, []),
  (.getfield 43, 5, 7, 63, vu, [0]),
  (.putfield 43, 5, 7, 64, vu, [0]),
  (.aload_n 0, 0, 0, 65, vu, []),
  (.aload_n 1, 1, 0, 66, vu, []),
  (.getfield 46, 5, 8, 67, vu, [0]),
  (.putfield 46, 5, 8, 68, vu, [0]),
  (.return_, 0, 0, 69, vu, [])]
noncomputable def p_St_becomeLike : List Nat := [0, 1, 2, 3, 5, 8, 9, 12, 13, 14, 15, 18, 19, 20, 23, 24, 27, 28, 29, 30, 31, 34, 35, 36, 37, 39, 42, 45, 48, 49, 50, 51, 53, 56, 57, 60, 61, 62, 63, 66, 67, 68, 71, 74, 77, 78, 79, 82, 85, 86, 87, 90, 93, 94, 95, 98, 101, 102, 103, 106, 109, 110, 111, 114, 117, 118, 119, 122, 125]
abbrev n_St_hasHouse : Nat := 50
noncomputable def i_St_hasHouse : List Ins := [(.iload_n 1, 1, 0, 1, vu, []),
  (.ifCond .lt 15, 8, 0, 2, vu, []),
  (.iload_n 1, 1, 0, 3, vu, []),
  (.aload_n 0, 0, 0, 4, vu, []),
  (.getfield 30, 5, 3, 5, vu, [0]),
  (.if_icmp .ge 7, 8, 0, 6, vu, []),
  (.iconst 1, 0, 0, 7, vi 1, []),
  (.goto 4, 9, 0, 8, vu, []),
  (.iconst 0, 0, 0, 9, vi 0, []),
  (.ireturn, 1, 0, 10, vu, [])]
noncomputable def p_St_hasHouse : List Nat := [0, 1, 4, 5, 6, 9, 12, 13, 16, 17]
abbrev n_St_allHouses : Nat := 51
noncomputable def i_St_allHouses : List Ins := [(.iconst 1, 0, 0, 1, vi 1, []),
  (.aload_n 0, 0, 0, 2, vu, []),
  (.getfield 30, 5, 3, 3, vu, [0]),
  (.ishl, 0, 0, 4, vu, []),
  (.iconst 1, 0, 0, 5, vi 1, []),
  (.isub, 0, 0, 6, vu, []),
  (.ireturn, 0, 0, 7, vu, [])]
noncomputable def p_St_allHouses : List Nat := [0, 1, 2, 5, 6, 7, 8]
abbrev n_St_hasSet : Nat := 52
noncomputable def i_St_hasSet : List Ins := [(.iload_n 1, 1, 0, 1, vu, []),
  (.aload_n 0, 0, 0, 2, vu, []),
  (.invokevirtual 78, 51, 1, 3, vu, [0, 0, 5]),
  (.iconst (-1), 0, 0, 4, vi (-1), []),
  (.ixor, 0, 0, 5, vu, []),
  (.iand, 0, 0, 6, vu, []),
  (.ifCond .ne 7, 9, 0, 7, vu, []),
  (.iconst 1, 0, 0, 8, vi 1, []),
  (.goto 4, 10, 0, 9, vu, []),
  (.iconst 0, 0, 0, 10, vi 0, []),
  (.ireturn, 1, 0, 11, vu, [])]
noncomputable def p_St_hasSet : List Nat := [0, 1, 2, 5, 6, 7, 8, 11, 12, 15, 16]
abbrev n_St_distance : Nat := 53
noncomputable def i_St_distance : List Ins := [(.iload_n 1, 1, 0, 1, vu, []),
  (.aload_n 0, 0, 0, 2, vu, []),
  (.getfield 37, 5, 5, 3, vu, [0]),
  (.isub, 0, 0, 4, vu, []),
  (.invokestatic 82, 5, 0, 5, vu, []),
  (.ireturn, 0, 0, 6, vu, [])]
noncomputable def p_St_distance : List Nat := [0, 1, 2, 5, 6, 9]
abbrev n_St_ripple : Nat := 54
noncomputable def i_St_ripple : List Ins := [(.aload_n 0, 0, 0, 1, vu, []),
  (.iload_n 1, 1, 0, 2, vu, []),
  (.invokevirtual 88, 50, 2, 3, vu, [0, 0, 5]),
  (.ifCond .ne 5, 6, 0, 4, vu, []),
  (.iconst 0, 0, 0, 5, vi 0, []),
  (.ireturn, 0, 0, 6, vu, []),
  (.iconst 0, 0, 0, 7, vi 0, []),
  (.aload_n 0, 0, 0, 8, vu, []),
  (.getfield 11, 5, 0, 9, vu, [2]),
  (.iload_n 1, 1, 0, 10, vu, []),
  (.aaload, 0, 0, 11, vu, []),
  (.invokevirtual 92, 22, 1, 12, vu, [0, 0, 3]),
  (.aload_n 0, 0, 0, 13, vu, []),
  (.getfield 11, 5, 0, 14, vu, [2]),
  (.iload_n 1, 1, 0, 15, vu, []),
  (.aaload, 0, 0, 16, vu, []),
  (.getfield 56, 3, 2, 17, vu, [0]),
  (.isub, 0, 0, 18, vu, []),
  (.aload_n 0, 0, 0, 19, vu, []),
  (.iload_n 1, 1, 0, 20, vu, []),
  (.invokevirtual 95, 53, 2, 21, vu, [0, 0, 5]),
  (.isub, 0, 0, 22, vu, []),
  (.invokestatic 98, 3, 0, 23, vu, []),
  (.ireturn, 0, 0, 24, vu, [])]
noncomputable def p_St_ripple : List Nat := [0, 1, 2, 5, 8, 9, 10, 11, 12, 15, 16, 17, 20, 21, 24, 25, 26, 29, 30, 31, 32, 35, 36, 39]
abbrev n_St_ripplesOf : Nat := 55
noncomputable def i_St_ripplesOf : List Ins := [(.iconst 0, 0, 0, 1, vi 0, []),
  (.istore_n 2, 2, 0, 2, vu, []),
  (.iconst 0, 0, 0, 3, vi 0, []),
  (.istore_n 3, 3, 0, 4, vu, []),
  (.iload_n 3, 3, 0, 5, vu, []),
  (.aload_n 0, 0, 0, 6, vu, []),
  (.getfield 30, 5, 3, 7, vu, [0]),
  (.if_icmp .ge 29, 22, 0, 8, vu, []),
  (.iload_n 2, 2, 0, 9, vu, []),
  (.iload_n 1, 1, 0, 10, vu, []),
  (.iload_n 3, 3, 0, 11, vu, []),
  (.invokestatic 102, 131, 2, 12, vu, [0, 0, 99]),
  (.ifCond .eq 11, 17, 0, 13, vu, []),
  (.aload_n 0, 0, 0, 14, vu, []),
  (.iload_n 3, 3, 0, 15, vu, []),
  (.invokevirtual 106, 54, 2, 16, vu, [0, 0, 5]),
  (.goto 4, 18, 0, 17, vu, []),
  (.iconst 0, 0, 0, 18, vi 0, []),
  (.iadd, 0, 0, 19, vu, []),
  (.istore_n 2, 2, 0, 20, vu, []),
  (.iinc 3 1, 3, 0, 21, vi 1, []),
  (.goto (-31), 4, 0, 22, vu, []),
  (.iload_n 2, 2, 0, 23, vu, []),
  (.ireturn, 0, 0, 24, vu, [])]
noncomputable def p_St_ripplesOf : List Nat := [0, 1, 2, 3, 4, 5, 6, 9, 12, 13, 14, 15, 18, 21, 22, 23, 26, 29, 30, 31, 32, 35, 38, 39]
abbrev n_St_trait : Nat := 56
noncomputable def i_St_trait : List Ins := [(.aload_n 0, 0, 0, 1, vu, []),
  (.iload_n 1, 1, 0, 2, vu, []),
  (.invokevirtual 88, 50, 2, 3, vu, [0, 0, 5]),
  (.ifCond .ne 5, 6, 0, 4, vu, []),
  (.iconst 0, 0, 0, 5, vi 0, []),
  (.ireturn, 0, 0, 6, vu, []),
  (.iload_n 2, 2, 0, 7, vu, []),
  (.tableswitch 72 0 3 #[29, 42, 52, 62], 33, 0, 8, vu, [8, 15, 21, 27]),
  (.aload_n 0, 0, 0, 9, vu, []),
  (.getfield 11, 5, 0, 10, vu, [2]),
  (.iload_n 1, 1, 0, 11, vu, []),
  (.aaload, 0, 0, 12, vu, []),
  (.getfield 49, 3, 0, 13, vu, [2]),
  (.getfield 109, 8, 0, 14, vu, [3]),
  (.ireturn, 0, 0, 15, vu, []),
  (.aload_n 0, 0, 0, 16, vu, []),
  (.getfield 11, 5, 0, 17, vu, [2]),
  (.iload_n 1, 1, 0, 18, vu, []),
  (.aaload, 0, 0, 19, vu, []),
  (.getfield 53, 3, 1, 20, vu, [0]),
  (.ireturn, 0, 0, 21, vu, []),
  (.aload_n 0, 0, 0, 22, vu, []),
  (.getfield 11, 5, 0, 23, vu, [2]),
  (.iload_n 1, 1, 0, 24, vu, []),
  (.aaload, 0, 0, 25, vu, []),
  (.getfield 56, 3, 2, 26, vu, [0]),
  (.ireturn, 0, 0, 27, vu, []),
  (.aload_n 0, 0, 0, 28, vu, []),
  (.getfield 11, 5, 0, 29, vu, [2]),
  (.iload_n 1, 1, 0, 30, vu, []),
  (.aaload, 0, 0, 31, vu, []),
  (.invokevirtual 92, 22, 1, 32, vu, [0, 0, 3]),
  (.ireturn, 0, 0, 33, vu, []),
  (.aload_n 0, 0, 0, 34, vu, []),
  (.iload_n 1, 1, 0, 35, vu, []),
  (.invokevirtual 106, 54, 2, 36, vu, [0, 0, 5]),
  (.ireturn, 0, 0, 37, vu, [])]
noncomputable def p_St_trait : List Nat := [0, 1, 2, 5, 8, 9, 10, 11, 40, 41, 44, 45, 46, 49, 52, 53, 54, 57, 58, 59, 62, 63, 64, 67, 68, 69, 72, 73, 74, 77, 78, 79, 82, 83, 84, 85, 88]
abbrev n_St_lesserRipples : Nat := 57
noncomputable def i_St_lesserRipples : List Ins := [(.iconst 0, 0, 0, 1, vi 0, []),
  (.istore_n 2, 2, 0, 2, vu, []),
  (.iconst 0, 0, 0, 3, vi 0, []),
  (.istore_n 3, 3, 0, 4, vu, []),
  (.iload_n 3, 3, 0, 5, vu, []),
  (.aload_n 0, 0, 0, 6, vu, []),
  (.getfield 30, 5, 3, 7, vu, [0]),
  (.if_icmp .ge 30, 23, 0, 8, vu, []),
  (.iload_n 2, 2, 0, 9, vu, []),
  (.aload_n 0, 0, 0, 10, vu, []),
  (.iload_n 3, 3, 0, 11, vu, []),
  (.invokevirtual 106, 54, 2, 12, vu, [0, 0, 5]),
  (.aload_n 0, 0, 0, 13, vu, []),
  (.iload_n 1, 1, 0, 14, vu, []),
  (.invokevirtual 106, 54, 2, 15, vu, [0, 0, 5]),
  (.if_icmp .ge 7, 18, 0, 16, vu, []),
  (.iconst 1, 0, 0, 17, vi 1, []),
  (.goto 4, 19, 0, 18, vu, []),
  (.iconst 0, 0, 0, 19, vi 0, []),
  (.iadd, 0, 0, 20, vu, []),
  (.istore_n 2, 2, 0, 21, vu, []),
  (.iinc 3 1, 3, 0, 22, vi 1, []),
  (.goto (-32), 4, 0, 23, vu, []),
  (.iload_n 2, 2, 0, 24, vu, []),
  (.ireturn, 0, 0, 25, vu, [])]
noncomputable def p_St_lesserRipples : List Nat := [0, 1, 2, 3, 4, 5, 6, 9, 12, 13, 14, 15, 18, 19, 20, 23, 26, 27, 30, 31, 32, 33, 36, 39, 40]
abbrev n_St_howManyOf : Nat := 58
noncomputable def i_St_howManyOf : List Ins := [(.iconst 0, 0, 0, 1, vi 0, []),
  (.istore_n 2, 2, 0, 2, vu, []),
  (.iconst 0, 0, 0, 3, vi 0, []),
  (.istore_n 3, 3, 0, 4, vu, []),
  (.iload_n 3, 3, 0, 5, vu, []),
  (.aload_n 0, 0, 0, 6, vu, []),
  (.getfield 30, 5, 3, 7, vu, [0]),
  (.if_icmp .ge 33, 24, 0, 8, vu, []),
  (.iload_n 2, 2, 0, 9, vu, []),
  (.aload_n 0, 0, 0, 10, vu, []),
  (.getfield 11, 5, 0, 11, vu, [2]),
  (.iload_n 3, 3, 0, 12, vu, []),
  (.aaload, 0, 0, 13, vu, []),
  (.getfield 49, 3, 0, 14, vu, [2]),
  (.iload_n 1, 1, 0, 15, vu, []),
  (.invokevirtual 114, 25, 2, 16, vu, [0, 0, 8]),
  (.ifCond .eq 7, 19, 0, 17, vu, []),
  (.iconst 1, 0, 0, 18, vi 1, []),
  (.goto 4, 20, 0, 19, vu, []),
  (.iconst 0, 0, 0, 20, vi 0, []),
  (.iadd, 0, 0, 21, vu, []),
  (.istore_n 2, 2, 0, 22, vu, []),
  (.iinc 3 1, 3, 0, 23, vi 1, []),
  (.goto (-35), 4, 0, 24, vu, []),
  (.iload_n 2, 2, 0, 25, vu, []),
  (.ireturn, 0, 0, 26, vu, [])]
noncomputable def p_St_howManyOf : List Nat := [0, 1, 2, 3, 4, 5, 6, 9, 12, 13, 14, 17, 18, 19, 22, 23, 26, 29, 30, 33, 34, 35, 36, 39, 42, 43]
abbrev n_St_rippleMostBehind : Nat := 59
noncomputable def i_St_rippleMostBehind : List Ins := [(.iconst 0, 0, 0, 1, vi 0, []),
  (.istore_n 3, 3, 0, 2, vu, []),
  (.iconst (-1), 0, 0, 3, vi (-1), []),
  (.istore 4, 4, 0, 4, vu, []),
  (.iconst 0, 0, 0, 5, vi 0, []),
  (.istore 5, 5, 0, 6, vu, []),
  (.iload 5, 5, 0, 7, vu, []),
  (.aload_n 0, 0, 0, 8, vu, []),
  (.getfield 30, 5, 3, 9, vu, [0]),
  (.if_icmp .ge 46, 31, 0, 10, vu, []),
  (.aload_n 0, 0, 0, 11, vu, []),
  (.iload 5, 5, 0, 12, vu, []),
  (.invokevirtual 106, 54, 2, 13, vu, [0, 0, 5]),
  (.aload_n 2, 2, 0, 14, vu, []),
  (.iload 5, 5, 0, 15, vu, []),
  (.invokevirtual 117, 4, 2, 16, vu, [0, 0, 0]),
  (.isub, 0, 0, 17, vu, []),
  (.istore 6, 6, 0, 18, vu, []),
  (.iload_n 1, 1, 0, 19, vu, []),
  (.iload 5, 5, 0, 20, vu, []),
  (.invokestatic 102, 131, 2, 21, vu, [0, 0, 99]),
  (.ifCond .eq 16, 29, 0, 22, vu, []),
  (.iload 6, 6, 0, 23, vu, []),
  (.iload_n 3, 3, 0, 24, vu, []),
  (.if_icmp .le 10, 29, 0, 25, vu, []),
  (.iload 6, 6, 0, 26, vu, []),
  (.istore_n 3, 3, 0, 27, vu, []),
  (.iload 5, 5, 0, 28, vu, []),
  (.istore 4, 4, 0, 29, vu, []),
  (.iinc 5 1, 5, 0, 30, vi 1, []),
  (.goto (-49), 6, 0, 31, vu, []),
  (.iload 4, 4, 0, 32, vu, []),
  (.ireturn, 0, 0, 33, vu, [])]
noncomputable def p_St_rippleMostBehind : List Nat := [0, 1, 2, 3, 5, 6, 8, 10, 11, 14, 17, 18, 20, 23, 24, 26, 29, 30, 32, 33, 35, 38, 41, 43, 44, 47, 49, 50, 52, 54, 57, 60, 62]
abbrev n_St_leaked : Nat := 60
noncomputable def i_St_leaked : List Ins := [(.iload_n 1, 1, 0, 1, vu, []),
  (.aload_n 0, 0, 0, 2, vu, []),
  (.getfield 40, 5, 6, 3, vu, [0]),
  (.iload_n 1, 1, 0, 4, vu, []),
  (.invokestatic 122, 4, 0, 5, vu, []),
  (.isub, 0, 0, 6, vu, []),
  (.ireturn, 0, 0, 7, vu, [])]
noncomputable def p_St_leaked : List Nat := [0, 1, 2, 5, 6, 9, 10]
abbrev n_St_ring : Nat := 61
noncomputable def i_St_ring : List Ins := [(.aload_n 0, 0, 0, 1, vu, []),
  (.getfield 34, 5, 4, 2, vu, [0]),
  (.bipush 40, 0, 0, 3, vi 40, []),
  (.if_icmp .lt 5, 6, 0, 4, vu, []),
  (.iconst 0, 0, 0, 5, vi 0, []),
  (.ireturn, 0, 0, 6, vu, []),
  (.aload_n 0, 0, 0, 7, vu, []),
  (.getfield 19, 5, 1, 8, vu, [2]),
  (.aload_n 0, 0, 0, 9, vu, []),
  (.getfield 34, 5, 4, 10, vu, [0]),
  (.aaload, 0, 0, 11, vu, []),
  (.astore_n 2, 2, 0, 12, vu, []),
  (.aload_n 2, 2, 0, 13, vu, []),
  (.iload_n 1, 1, 0, 14, vu, []),
  (.putfield 125, 2, 1, 15, vu, [0]),
  (.aload_n 2, 2, 0, 16, vu, []),
  (.aload_n 0, 0, 0, 17, vu, []),
  (.getfield 43, 5, 7, 18, vu, [0]),
  (.putfield 128, 2, 3, 19, vu, [0]),
  (.aload_n 2, 2, 0, 20, vu, []),
  (.aload_n 0, 0, 0, 21, vu, []),
  (.getfield 46, 5, 8, 22, vu, [0]),
  (.putfield 131, 2, 4, 23, vu, [0]),
  (.iconst 0, 0, 0, 24, vi 0, []),
  (.istore_n 3, 3, 0, 25, vu, []),
  (.iload_n 3, 3, 0, 26, vu, []),
  (.aload_n 0, 0, 0, 27, vu, []),
  (.getfield 30, 5, 3, 28, vu, [0]),
  (.if_icmp .ge 55, 57, 0, 29, vu, []),
  (.aload_n 2, 2, 0, 30, vu, []),
  (.getfield 134, 2, 0, 31, vu, [2]),
  (.iload_n 3, 3, 0, 32, vu, []),
  (.aload_n 0, 0, 0, 33, vu, []),
  (.getfield 11, 5, 0, 34, vu, [2]),
  (.iload_n 3, 3, 0, 35, vu, []),
  (.aaload, 0, 0, 36, vu, []),
  (.getfield 59, 3, 3, 37, vu, [0]),
  (.iastore, 0, 0, 38, vu, []),
  (.aload_n 0, 0, 0, 39, vu, []),
  (.getfield 11, 5, 0, 40, vu, [2]),
  (.iload_n 3, 3, 0, 41, vu, []),
  (.aaload, 0, 0, 42, vu, []),
  (.dup, 0, 0, 43, vu, []),
  (.getfield 59, 3, 3, 44, vu, [0]),
  (.iload_n 1, 1, 0, 45, vu, []),
  (.iload_n 3, 3, 0, 46, vu, []),
  (.invokestatic 102, 131, 2, 47, vu, [0, 0, 99]),
  (.ifCond .eq 11, 52, 0, 48, vu, []),
  (.aload_n 0, 0, 0, 49, vu, []),
  (.iload_n 3, 3, 0, 50, vu, []),
  (.invokevirtual 106, 54, 2, 51, vu, [0, 0, 5]),
  (.goto 4, 53, 0, 52, vu, []),
  (.iconst 0, 0, 0, 53, vi 0, []),
  (.iadd, 0, 0, 54, vu, []),
  (.putfield 59, 3, 3, 55, vu, [0]),
  (.iinc 3 1, 3, 0, 56, vi 1, []),
  (.goto (-57), 25, 0, 57, vu, []),
  (.aload_n 0, 0, 0, 58, vu, []),
  (.iload_n 1, 1, 0, 59, vu, []),
  (.invokevirtual 138, 55, 2, 60, vu, [0, 0, 5]),
  (.istore_n 3, 3, 0, 61, vu, []),
  (.aload_n 2, 2, 0, 62, vu, []),
  (.iload_n 3, 3, 0, 63, vu, []),
  (.bipush 60, 0, 0, 64, vi 60, []),
  (.aload_n 0, 0, 0, 65, vu, []),
  (.getfield 43, 5, 7, 66, vu, [0]),
  (.isub, 0, 0, 67, vu, []),
  (.invokestatic 122, 4, 0, 68, vu, []),
  (.putfield 141, 2, 2, 69, vu, [0]),
  (.iload_n 3, 3, 0, 70, vu, []),
  (.aload_n 2, 2, 0, 71, vu, []),
  (.getfield 141, 2, 2, 72, vu, [0]),
  (.isub, 0, 0, 73, vu, []),
  (.istore 4, 4, 0, 74, vu, []),
  (.aload_n 0, 0, 0, 75, vu, []),
  (.aload_n 0, 0, 0, 76, vu, []),
  (.aload_n 0, 0, 0, 77, vu, []),
  (.getfield 43, 5, 7, 78, vu, [0]),
  (.aload_n 2, 2, 0, 79, vu, []),
  (.getfield 141, 2, 2, 80, vu, [0]),
  (.iadd, 0, 0, 81, vu, []),
  (.invokevirtual 144, 60, 2, 82, vu, [0, 0, 5]),
  (.putfield 43, 5, 7, 83, vu, [0]),
  (.aload_n 0, 0, 0, 84, vu, []),
  (.dup, 0, 0, 85, vu, []),
  (.getfield 46, 5, 8, 86, vu, [0]),
  (.iload 4, 4, 0, 87, vu, []),
  (.iadd, 0, 0, 88, vu, []),
  (.putfield 46, 5, 8, 89, vu, [0]),
  (.aload_n 0, 0, 0, 90, vu, []),
  (.dup, 0, 0, 91, vu, []),
  (.getfield 34, 5, 4, 92, vu, [0]),
  (.iconst 1, 0, 0, 93, vi 1, []),
  (.iadd, 0, 0, 94, vu, []),
  (.putfield 34, 5, 4, 95, vu, [0]),
  (.iload 4, 4, 0, 96, vu, []),
  (.ireturn, 0, 0, 97, vu, [])]
noncomputable def p_St_ring : List Nat := [0, 1, 4, 6, 9, 10, 11, 12, 15, 16, 19, 20, 21, 22, 23, 26, 27, 28, 31, 34, 35, 36, 39, 42, 43, 44, 45, 46, 49, 52, 53, 56, 57, 58, 61, 62, 63, 66, 67, 68, 71, 72, 73, 74, 77, 78, 79, 82, 85, 86, 87, 90, 93, 94, 95, 98, 101, 104, 105, 106, 109, 110, 111, 112, 114, 115, 118, 119, 122, 125, 126, 127, 130, 131, 133, 134, 135, 136, 139, 140, 143, 144, 147, 150, 151, 152, 155, 157, 158, 161, 162, 163, 166, 167, 168, 171, 173]
abbrev n_St_goBackTo : Nat := 62
noncomputable def i_St_goBackTo : List Ins := [(.iload_n 1, 1, 0, 1, vu, []),
  (.ifCond .lt 11, 6, 0, 2, vu, []),
  (.iload_n 1, 1, 0, 3, vu, []),
  (.aload_n 0, 0, 0, 4, vu, []),
  (.getfield 34, 5, 4, 5, vu, [0]),
  (.if_icmp .lt 4, 7, 0, 6, vu, []),
  (.return_, 0, 0, 7, vu, []),
  (.aload_n 0, 0, 0, 8, vu, []),
  (.getfield 19, 5, 1, 9, vu, [2]),
  (.iload_n 1, 1, 0, 10, vu, []),
  (.aaload, 0, 0, 11, vu, []),
  (.astore_n 2, 2, 0, 12, vu, []),
  (.aload_n 0, 0, 0, 13, vu, []),
  (.aload_n 2, 2, 0, 14, vu, []),
  (.getfield 128, 2, 3, 15, vu, [0]),
  (.putfield 43, 5, 7, 16, vu, [0]),
  (.aload_n 0, 0, 0, 17, vu, []),
  (.aload_n 2, 2, 0, 18, vu, []),
  (.getfield 131, 2, 4, 19, vu, [0]),
  (.putfield 46, 5, 8, 20, vu, [0]),
  (.iconst 0, 0, 0, 21, vi 0, []),
  (.istore_n 3, 3, 0, 22, vu, []),
  (.iload_n 3, 3, 0, 23, vu, []),
  (.aload_n 0, 0, 0, 24, vu, []),
  (.getfield 30, 5, 3, 25, vu, [0]),
  (.if_icmp .ge 24, 37, 0, 26, vu, []),
  (.aload_n 0, 0, 0, 27, vu, []),
  (.getfield 11, 5, 0, 28, vu, [2]),
  (.iload_n 3, 3, 0, 29, vu, []),
  (.aaload, 0, 0, 30, vu, []),
  (.aload_n 2, 2, 0, 31, vu, []),
  (.getfield 134, 2, 0, 32, vu, [2]),
  (.iload_n 3, 3, 0, 33, vu, []),
  (.iaload, 0, 0, 34, vu, []),
  (.putfield 59, 3, 3, 35, vu, [0]),
  (.iinc 3 1, 3, 0, 36, vi 1, []),
  (.goto (-26), 22, 0, 37, vu, []),
  (.aload_n 0, 0, 0, 38, vu, []),
  (.iload_n 1, 1, 0, 39, vu, []),
  (.putfield 34, 5, 4, 40, vu, [0]),
  (.return_, 0, 0, 41, vu, [])]
noncomputable def p_St_goBackTo : List Nat := [0, 1, 4, 5, 6, 9, 12, 13, 14, 17, 18, 19, 20, 21, 22, 25, 28, 29, 30, 33, 36, 37, 38, 39, 40, 43, 46, 47, 50, 51, 52, 53, 56, 57, 58, 61, 64, 67, 68, 69, 72]
abbrev n_St_isExempt : Nat := 63
noncomputable def i_St_isExempt : List Ins := [(.aload_n 0, 0, 0, 1, vu, []),
  (.iload_n 1, 1, 0, 2, vu, []),
  (.invokevirtual 88, 50, 2, 3, vu, [0, 0, 5]),
  (.ifCond .eq 45, 24, 0, 4, vu, []),
  (.aload_n 0, 0, 0, 5, vu, []),
  (.getfield 11, 5, 0, 6, vu, [2]),
  (.iload_n 1, 1, 0, 7, vu, []),
  (.aaload, 0, 0, 8, vu, []),
  (.getfield 49, 3, 0, 9, vu, [2]),
  (.getstatic 147, 3, 0, 10, vu, []),
  (.if_acmp .eq 26, 22, 0, 11, vu, []),
  (.aload_n 0, 0, 0, 12, vu, []),
  (.getfield 11, 5, 0, 13, vu, [2]),
  (.iload_n 1, 1, 0, 14, vu, []),
  (.aaload, 0, 0, 15, vu, []),
  (.getfield 49, 3, 0, 16, vu, [2]),
  (.getstatic 150, 5, 0, 17, vu, []),
  (.if_acmp .ne 15, 24, 0, 18, vu, []),
  (.aload_n 0, 0, 0, 19, vu, []),
  (.iload_n 1, 1, 0, 20, vu, []),
  (.invokevirtual 153, 66, 2, 21, vu, [0, 0, 5]),
  (.ifCond .ne 7, 24, 0, 22, vu, []),
  (.iconst 1, 0, 0, 23, vi 1, []),
  (.goto 4, 25, 0, 24, vu, []),
  (.iconst 0, 0, 0, 25, vi 0, []),
  (.ireturn, 1, 0, 26, vu, [])]
noncomputable def p_St_isExempt : List Nat := [0, 1, 2, 5, 8, 9, 12, 13, 14, 17, 20, 23, 24, 27, 28, 29, 32, 35, 38, 39, 40, 43, 46, 47, 50, 51]
abbrev n_St_howManyExempt : Nat := 64
noncomputable def i_St_howManyExempt : List Ins := [(.iconst 0, 0, 0, 1, vi 0, []),
  (.istore_n 1, 1, 0, 2, vu, []),
  (.iconst 0, 0, 0, 3, vi 0, []),
  (.istore_n 2, 2, 0, 4, vu, []),
  (.iload_n 2, 2, 0, 5, vu, []),
  (.aload_n 0, 0, 0, 6, vu, []),
  (.getfield 30, 5, 3, 7, vu, [0]),
  (.if_icmp .ge 25, 20, 0, 8, vu, []),
  (.iload_n 1, 1, 0, 9, vu, []),
  (.aload_n 0, 0, 0, 10, vu, []),
  (.iload_n 2, 2, 0, 11, vu, []),
  (.invokevirtual 156, 63, 2, 12, vu, [0, 0, 5]),
  (.ifCond .eq 7, 15, 0, 13, vu, []),
  (.iconst 1, 0, 0, 14, vi 1, []),
  (.goto 4, 16, 0, 15, vu, []),
  (.iconst 0, 0, 0, 16, vi 0, []),
  (.iadd, 0, 0, 17, vu, []),
  (.istore_n 1, 1, 0, 18, vu, []),
  (.iinc 2 1, 2, 0, 19, vi 1, []),
  (.goto (-27), 4, 0, 20, vu, []),
  (.iload_n 1, 1, 0, 21, vu, []),
  (.ireturn, 0, 0, 22, vu, [])]
noncomputable def p_St_howManyExempt : List Nat := [0, 1, 2, 3, 4, 5, 6, 9, 12, 13, 14, 15, 18, 21, 22, 25, 26, 27, 28, 31, 34, 35]
abbrev n_St_titheOf : Nat := 65
noncomputable def i_St_titheOf : List Ins := [(.aload_n 0, 0, 0, 1, vu, []),
  (.iload_n 1, 1, 0, 2, vu, []),
  (.invokevirtual 88, 50, 2, 3, vu, [0, 0, 5]),
  (.ifCond .ne 5, 6, 0, 4, vu, []),
  (.iconst 0, 0, 0, 5, vi 0, []),
  (.ireturn, 0, 0, 6, vu, []),
  (.aload_n 0, 0, 0, 7, vu, []),
  (.iload_n 1, 1, 0, 8, vu, []),
  (.invokevirtual 156, 63, 2, 9, vu, [0, 0, 5]),
  (.ifCond .eq 7, 12, 0, 10, vu, []),
  (.iconst 0, 0, 0, 11, vi 0, []),
  (.goto 15, 19, 0, 12, vu, []),
  (.aload_n 0, 0, 0, 13, vu, []),
  (.getfield 11, 5, 0, 14, vu, [2]),
  (.iload_n 1, 1, 0, 15, vu, []),
  (.aaload, 0, 0, 16, vu, []),
  (.getfield 59, 3, 3, 17, vu, [0]),
  (.bipush 10, 0, 0, 18, vi 10, []),
  (.idiv, 0, 0, 19, vu, []),
  (.aload_n 0, 0, 0, 20, vu, []),
  (.getfield 11, 5, 0, 21, vu, [2]),
  (.iload_n 1, 1, 0, 22, vu, []),
  (.aaload, 0, 0, 23, vu, []),
  (.getfield 62, 3, 4, 24, vu, [0]),
  (.isub, 0, 0, 25, vu, []),
  (.ireturn, 0, 0, 26, vu, [])]
noncomputable def p_St_titheOf : List Nat := [0, 1, 2, 5, 8, 9, 10, 11, 12, 15, 18, 19, 22, 23, 26, 27, 28, 31, 33, 34, 35, 38, 39, 40, 43, 44]
abbrev n_St_owedBy : Nat := 66
noncomputable def i_St_owedBy : List Ins := [(.iconst 0, 0, 0, 1, vi 0, []),
  (.istore_n 2, 2, 0, 2, vu, []),
  (.iconst 0, 0, 0, 3, vi 0, []),
  (.istore_n 3, 3, 0, 4, vu, []),
  (.iload_n 3, 3, 0, 5, vu, []),
  (.aload_n 0, 0, 0, 6, vu, []),
  (.getfield 30, 5, 3, 7, vu, [0]),
  (.if_icmp .ge 28, 23, 0, 8, vu, []),
  (.aload_n 0, 0, 0, 9, vu, []),
  (.iload_n 1, 1, 0, 10, vu, []),
  (.invokevirtual 88, 50, 2, 11, vu, [0, 0, 5]),
  (.ifCond .eq 20, 23, 0, 12, vu, []),
  (.iload_n 2, 2, 0, 13, vu, []),
  (.aload_n 0, 0, 0, 14, vu, []),
  (.getfield 25, 5, 2, 15, vu, [2]),
  (.iload_n 1, 1, 0, 16, vu, []),
  (.aaload, 0, 0, 17, vu, []),
  (.iload_n 3, 3, 0, 18, vu, []),
  (.iaload, 0, 0, 19, vu, []),
  (.iadd, 0, 0, 20, vu, []),
  (.istore_n 2, 2, 0, 21, vu, []),
  (.iinc 3 1, 3, 0, 22, vi 1, []),
  (.goto (-30), 4, 0, 23, vu, []),
  (.iload_n 2, 2, 0, 24, vu, []),
  (.ireturn, 0, 0, 25, vu, [])]
noncomputable def p_St_owedBy : List Nat := [0, 1, 2, 3, 4, 5, 6, 9, 12, 13, 14, 17, 20, 21, 22, 25, 26, 27, 28, 29, 30, 31, 34, 37, 38]
abbrev n_St_balanceOf : Nat := 67
noncomputable def i_St_balanceOf : List Ins := [(.iconst 0, 0, 0, 1, vi 0, []),
  (.istore_n 2, 2, 0, 2, vu, []),
  (.iconst 0, 0, 0, 3, vi 0, []),
  (.istore_n 3, 3, 0, 4, vu, []),
  (.iload_n 3, 3, 0, 5, vu, []),
  (.aload_n 0, 0, 0, 6, vu, []),
  (.getfield 30, 5, 3, 7, vu, [0]),
  (.if_icmp .ge 28, 23, 0, 8, vu, []),
  (.aload_n 0, 0, 0, 9, vu, []),
  (.iload_n 1, 1, 0, 10, vu, []),
  (.invokevirtual 88, 50, 2, 11, vu, [0, 0, 5]),
  (.ifCond .eq 20, 23, 0, 12, vu, []),
  (.iload_n 2, 2, 0, 13, vu, []),
  (.aload_n 0, 0, 0, 14, vu, []),
  (.getfield 25, 5, 2, 15, vu, [2]),
  (.iload_n 3, 3, 0, 16, vu, []),
  (.aaload, 0, 0, 17, vu, []),
  (.iload_n 1, 1, 0, 18, vu, []),
  (.iaload, 0, 0, 19, vu, []),
  (.iadd, 0, 0, 20, vu, []),
  (.istore_n 2, 2, 0, 21, vu, []),
  (.iinc 3 1, 3, 0, 22, vi 1, []),
  (.goto (-30), 4, 0, 23, vu, []),
  (.iload_n 2, 2, 0, 24, vu, []),
  (.aload_n 0, 0, 0, 25, vu, []),
  (.iload_n 1, 1, 0, 26, vu, []),
  (.invokevirtual 153, 66, 2, 27, vu, [0, 0, 5]),
  (.isub, 0, 0, 28, vu, []),
  (.ireturn, 0, 0, 29, vu, [])]
noncomputable def p_St_balanceOf : List Nat := [0, 1, 2, 3, 4, 5, 6, 9, 12, 13, 14, 17, 20, 21, 22, 25, 26, 27, 28, 29, 30, 31, 34, 37, 38, 39, 40, 43, 44]
abbrev n_St_netDebts : Nat := 68
noncomputable def i_St_netDebts : List Ins := [(.iconst 0, 0, 0, 1, vi 0, []),
  (.istore_n 1, 1, 0, 2, vu, []),
  (.iconst 0, 0, 0, 3, vi 0, []),
  (.istore_n 2, 2, 0, 4, vu, []),
  (.iload_n 2, 2, 0, 5, vu, []),
  (.aload_n 0, 0, 0, 6, vu, []),
  (.getfield 30, 5, 3, 7, vu, [0]),
  (.if_icmp .ge 81, 60, 0, 8, vu, []),
  (.iload_n 2, 2, 0, 9, vu, []),
  (.iconst 1, 0, 0, 10, vi 1, []),
  (.iadd, 0, 0, 11, vu, []),
  (.istore_n 3, 3, 0, 12, vu, []),
  (.iload_n 3, 3, 0, 13, vu, []),
  (.aload_n 0, 0, 0, 14, vu, []),
  (.getfield 30, 5, 3, 15, vu, [0]),
  (.if_icmp .ge 63, 58, 0, 16, vu, []),
  (.aload_n 0, 0, 0, 17, vu, []),
  (.getfield 25, 5, 2, 18, vu, [2]),
  (.iload_n 2, 2, 0, 19, vu, []),
  (.aaload, 0, 0, 20, vu, []),
  (.iload_n 3, 3, 0, 21, vu, []),
  (.iaload, 0, 0, 22, vu, []),
  (.aload_n 0, 0, 0, 23, vu, []),
  (.getfield 25, 5, 2, 24, vu, [2]),
  (.iload_n 3, 3, 0, 25, vu, []),
  (.aaload, 0, 0, 26, vu, []),
  (.iload_n 2, 2, 0, 27, vu, []),
  (.iaload, 0, 0, 28, vu, []),
  (.invokestatic 122, 4, 0, 29, vu, []),
  (.istore 4, 4, 0, 30, vu, []),
  (.aload_n 0, 0, 0, 31, vu, []),
  (.getfield 25, 5, 2, 32, vu, [2]),
  (.iload_n 2, 2, 0, 33, vu, []),
  (.aaload, 0, 0, 34, vu, []),
  (.iload_n 3, 3, 0, 35, vu, []),
  (.dup2, 0, 0, 36, vu, []),
  (.iaload, 0, 0, 37, vu, []),
  (.iload 4, 4, 0, 38, vu, []),
  (.isub, 0, 0, 39, vu, []),
  (.iastore, 0, 0, 40, vu, []),
  (.aload_n 0, 0, 0, 41, vu, []),
  (.getfield 25, 5, 2, 42, vu, [2]),
  (.iload_n 3, 3, 0, 43, vu, []),
  (.aaload, 0, 0, 44, vu, []),
  (.iload_n 2, 2, 0, 45, vu, []),
  (.dup2, 0, 0, 46, vu, []),
  (.iaload, 0, 0, 47, vu, []),
  (.iload 4, 4, 0, 48, vu, []),
  (.isub, 0, 0, 49, vu, []),
  (.iastore, 0, 0, 50, vu, []),
  (.iload_n 1, 1, 0, 51, vu, []),
  (.iconst 2, 0, 0, 52, vi 2, []),
  (.iload 4, 4, 0, 53, vu, []),
  (.imul, 0, 0, 54, vu, []),
  (.iadd, 0, 0, 55, vu, []),
  (.istore_n 1, 1, 0, 56, vu, []),
  (.iinc 3 1, 3, 0, 57, vi 1, []),
  (.goto (-65), 12, 0, 58, vu, []),
  (.iinc 2 1, 2, 0, 59, vi 1, []),
  (.goto (-83), 4, 0, 60, vu, []),
  (.iload_n 1, 1, 0, 61, vu, []),
  (.ireturn, 0, 0, 62, vu, [])]
noncomputable def p_St_netDebts : List Nat := [0, 1, 2, 3, 4, 5, 6, 9, 12, 13, 14, 15, 16, 17, 18, 21, 24, 25, 28, 29, 30, 31, 32, 33, 36, 37, 38, 39, 40, 43, 45, 46, 49, 50, 51, 52, 53, 54, 56, 57, 58, 59, 62, 63, 64, 65, 66, 67, 69, 70, 71, 72, 73, 75, 76, 77, 78, 81, 84, 87, 90, 91]
abbrev n_St_mixedInto : Nat := 69
noncomputable def i_St_mixedInto : List Ins := [(.lload_n 1, 1, 0, 1, vu, []),
  (.aload_n 0, 0, 0, 2, vu, []),
  (.getfield 30, 5, 3, 3, vu, [0]),
  (.ifCond .ne 7, 6, 0, 4, vu, []),
  (.lconst 0, 0, 0, 5, vl 0, []),
  (.goto 8, 9, 0, 6, vu, []),
  (.aload_n 0, 0, 0, 7, vu, []),
  (.getfield 37, 5, 5, 8, vu, [0]),
  (.i2l, 0, 0, 9, vu, []),
  (.invokestatic 159, 133, 2, 10, vu, [0, 0, 99]),
  (.lstore_n 3, 3, 0, 11, vu, []),
  (.lload_n 3, 3, 0, 12, vu, []),
  (.aload_n 0, 0, 0, 13, vu, []),
  (.getfield 30, 5, 3, 14, vu, [0]),
  (.ifCond .ne 7, 17, 0, 15, vu, []),
  (.lconst 0, 0, 0, 16, vl 0, []),
  (.goto 8, 20, 0, 17, vu, []),
  (.aload_n 0, 0, 0, 18, vu, []),
  (.getfield 40, 5, 6, 19, vu, [0]),
  (.i2l, 0, 0, 20, vu, []),
  (.invokestatic 159, 133, 2, 21, vu, [0, 0, 99]),
  (.lstore_n 3, 3, 0, 22, vu, []),
  (.lload_n 3, 3, 0, 23, vu, []),
  (.aload_n 0, 0, 0, 24, vu, []),
  (.getfield 43, 5, 7, 25, vu, [0]),
  (.i2l, 0, 0, 26, vu, []),
  (.invokestatic 159, 133, 2, 27, vu, [0, 0, 99]),
  (.lstore_n 3, 3, 0, 28, vu, []),
  (.lload_n 3, 3, 0, 29, vu, []),
  (.aload_n 0, 0, 0, 30, vu, []),
  (.getfield 46, 5, 8, 31, vu, [0]),
  (.i2l, 0, 0, 32, vu, []),
  (.invokestatic 159, 133, 2, 33, vu, [0, 0, 99]),
  (.lstore_n 3, 3, 0, 34, vu, []),
  (.iconst 0, 0, 0, 35, vi 0, []),
  (.istore 5, 5, 0, 36, vu, []),
  (.iload 5, 5, 0, 37, vu, []),
  (.aload_n 0, 0, 0, 38, vu, []),
  (.getfield 30, 5, 3, 39, vu, [0]),
  (.if_icmp .ge 104, 93, 0, 40, vu, []),
  (.iconst 0, 0, 0, 41, vi 0, []),
  (.istore 6, 6, 0, 42, vu, []),
  (.iload 6, 6, 0, 43, vu, []),
  (.iconst 4, 0, 0, 44, vi 4, []),
  (.if_icmp .gt 23, 55, 0, 45, vu, []),
  (.lload_n 3, 3, 0, 46, vu, []),
  (.aload_n 0, 0, 0, 47, vu, []),
  (.iload 5, 5, 0, 48, vu, []),
  (.iload 6, 6, 0, 49, vu, []),
  (.invokevirtual 163, 56, 3, 50, vu, [0, 0, 5]),
  (.i2l, 0, 0, 51, vu, []),
  (.invokestatic 159, 133, 2, 52, vu, [0, 0, 99]),
  (.lstore_n 3, 3, 0, 53, vu, []),
  (.iinc 6 1, 6, 0, 54, vi 1, []),
  (.goto (-23), 42, 0, 55, vu, []),
  (.lload_n 3, 3, 0, 56, vu, []),
  (.aload_n 0, 0, 0, 57, vu, []),
  (.getfield 11, 5, 0, 58, vu, [2]),
  (.iload 5, 5, 0, 59, vu, []),
  (.aaload, 0, 0, 60, vu, []),
  (.getfield 59, 3, 3, 61, vu, [0]),
  (.i2l, 0, 0, 62, vu, []),
  (.invokestatic 159, 133, 2, 63, vu, [0, 0, 99]),
  (.lstore_n 3, 3, 0, 64, vu, []),
  (.lload_n 3, 3, 0, 65, vu, []),
  (.aload_n 0, 0, 0, 66, vu, []),
  (.getfield 11, 5, 0, 67, vu, [2]),
  (.iload 5, 5, 0, 68, vu, []),
  (.aaload, 0, 0, 69, vu, []),
  (.getfield 62, 3, 4, 70, vu, [0]),
  (.i2l, 0, 0, 71, vu, []),
  (.invokestatic 159, 133, 2, 72, vu, [0, 0, 99]),
  (.lstore_n 3, 3, 0, 73, vu, []),
  (.iconst 0, 0, 0, 74, vi 0, []),
  (.istore 6, 6, 0, 75, vu, []),
  (.iload 6, 6, 0, 76, vu, []),
  (.aload_n 0, 0, 0, 77, vu, []),
  (.getfield 30, 5, 3, 78, vu, [0]),
  (.if_icmp .ge 25, 91, 0, 79, vu, []),
  (.lload_n 3, 3, 0, 80, vu, []),
  (.aload_n 0, 0, 0, 81, vu, []),
  (.getfield 25, 5, 2, 82, vu, [2]),
  (.iload 5, 5, 0, 83, vu, []),
  (.aaload, 0, 0, 84, vu, []),
  (.iload 6, 6, 0, 85, vu, []),
  (.iaload, 0, 0, 86, vu, []),
  (.i2l, 0, 0, 87, vu, []),
  (.invokestatic 159, 133, 2, 88, vu, [0, 0, 99]),
  (.lstore_n 3, 3, 0, 89, vu, []),
  (.iinc 6 1, 6, 0, 90, vi 1, []),
  (.goto (-28), 75, 0, 91, vu, []),
  (.iinc 5 1, 5, 0, 92, vi 1, []),
  (.goto (-107), 36, 0, 93, vu, []),
  (.iconst 0, 0, 0, 94, vi 0, []),
  (.istore 5, 5, 0, 95, vu, []),
  (.iload 5, 5, 0, 96, vu, []),
  (.aload_n 0, 0, 0, 97, vu, []),
  (.getfield 34, 5, 4, 98, vu, [0]),
  (.if_icmp .ge 25, 110, 0, 99, vu, []),
  (.lload_n 3, 3, 0, 100, vu, []),
  (.aload_n 0, 0, 0, 101, vu, []),
  (.getfield 19, 5, 1, 102, vu, [2]),
  (.iload 5, 5, 0, 103, vu, []),
  (.aaload, 0, 0, 104, vu, []),
  (.getfield 125, 2, 1, 105, vu, [0]),
  (.i2l, 0, 0, 106, vu, []),
  (.invokestatic 159, 133, 2, 107, vu, [0, 0, 99]),
  (.lstore_n 3, 3, 0, 108, vu, []),
  (.iinc 5 1, 5, 0, 109, vi 1, []),
  (.goto (-28), 95, 0, 110, vu, []),
  (.lload_n 3, 3, 0, 111, vu, []),
  (.lreturn, 0, 0, 112, vu, [])]
noncomputable def p_St_mixedInto : List Nat := [0, 1, 2, 5, 8, 9, 12, 13, 16, 17, 20, 21, 22, 23, 26, 29, 30, 33, 34, 37, 38, 41, 42, 43, 44, 47, 48, 51, 52, 53, 54, 57, 58, 61, 62, 63, 65, 67, 68, 71, 74, 75, 77, 79, 80, 83, 84, 85, 87, 89, 92, 93, 96, 97, 100, 103, 104, 105, 108, 110, 111, 114, 115, 118, 119, 120, 121, 124, 126, 127, 130, 131, 134, 135, 136, 138, 140, 141, 144, 147, 148, 149, 152, 154, 155, 157, 158, 159, 162, 163, 166, 169, 172, 175, 176, 178, 180, 181, 184, 187, 188, 189, 192, 194, 195, 198, 199, 202, 203, 206, 209, 210]
abbrev n_X_init : Nat := 70
noncomputable def i_X_init : List Ins := [(.aload_n 0, 0, 0, 1, vu, []),
  (.invokespecial 1, 1, 0, 2, vu, []),
  (.aload_n 0, 0, 0, 3, vu, []),
  (.bipush 6, 0, 0, 4, vi 6, []),
  (.anewarray 9, 0, 3, 5, vu, []),
  (.putfield 11, 6, 0, 6, vu, [2]),
  (.aload_n 0, 0, 0, 7, vu, []),
  (.iconst 4, 0, 0, 8, vi 4, []),
  (.anewarray 9, 0, 4, 9, vu, []),
  (.putfield 15, 6, 1, 10, vu, [2]),
  (.aload_n 0, 0, 0, 11, vu, []),
  (.new 18, 0, 5, 12, vu, [9]),
  (.dup, 0, 0, 13, vu, []),
  (.invokespecial 20, 46, 1, 14, vu, [99, 680, 98]),
  (.putfield 21, 6, 2, 15, vu, [2]),
  (.aload_n 0, 0, 0, 16, vu, []),
  (.iconst 3, 0, 0, 17, vi 3, []),
  (.anewarray 18, 0, 6, 18, vu, []),
  (.putfield 25, 6, 3, 19, vu, [2]),
  (.aload_n 0, 0, 0, 20, vu, []),
  (.new 29, 0, 14, 21, vu, [6]),
  (.dup, 0, 0, 22, vu, []),
  (.invokespecial 31, 27, 1, 23, vu, [3, 768, 98]),
  (.putfield 32, 6, 4, 24, vu, [2]),
  (.aload_n 0, 0, 0, 25, vu, []),
  (.new 36, 0, 18, 26, vu, [2]),
  (.dup, 0, 0, 27, vu, []),
  (.invokespecial 38, 11, 1, 28, vu, [0, 0, 98]),
  (.putfield 39, 6, 5, 29, vu, [2]),
  (.aload_n 0, 0, 0, 30, vu, []),
  (.bipush 6, 0, 0, 31, vi 6, []),
  (.newarray .int, 0, 19, 32, vu, []),
  (.putfield 43, 6, 6, 33, vu, [2]),
  (.aload_n 0, 0, 0, 34, vu, []),
  (.iconst 0, 0, 0, 35, vi 0, []),
  (.putfield 47, 6, 7, 36, vu, [0]),
  (.aload_n 0, 0, 0, 37, vu, []),
  (.iconst 0, 0, 0, 38, vi 0, []),
  (.putfield 51, 6, 8, 39, vu, [0]),
  (.iconst 0, 0, 0, 40, vi 0, []),
  (.istore_n 1, 1, 0, 41, vu, []),
  (.iload_n 1, 1, 0, 42, vu, []),
  (.aload_n 0, 0, 0, 43, vu, []),
  (.getfield 11, 6, 0, 44, vu, [2]),
  (.arraylength, 0, 0, 45, vu, []),
  (.if_icmp .ge 24, 56, 0, 46, vu, []),
  (.aload_n 0, 0, 0, 47, vu, []),
  (.getfield 11, 6, 0, 48, vu, [2]),
  (.iload_n 1, 1, 0, 49, vu, []),
  (.new 9, 0, 1, 50, vu, [2]),
  (.dup, 0, 0, 51, vu, []),
  (.bipush 40, 0, 0, 52, vi 40, []),
  (.invokespecial 54, 0, 2, 53, vu, [1, 80, 98]),
  (.aastore, 0, 0, 54, vu, []),
  (.iinc 1 1, 1, 0, 55, vi 1, []),
  (.goto (-27), 41, 0, 56, vu, []),
  (.iconst 0, 0, 0, 57, vi 0, []),
  (.istore_n 1, 1, 0, 58, vu, []),
  (.iload_n 1, 1, 0, 59, vu, []),
  (.aload_n 0, 0, 0, 60, vu, []),
  (.getfield 15, 6, 1, 61, vu, [2]),
  (.arraylength, 0, 0, 62, vu, []),
  (.if_icmp .ge 24, 73, 0, 63, vu, []),
  (.aload_n 0, 0, 0, 64, vu, []),
  (.getfield 15, 6, 1, 65, vu, [2]),
  (.iload_n 1, 1, 0, 66, vu, []),
  (.new 9, 0, 1, 67, vu, [2]),
  (.dup, 0, 0, 68, vu, []),
  (.bipush 80, 0, 0, 69, vi 80, []),
  (.invokespecial 54, 0, 2, 70, vu, [1, 80, 98]),
  (.aastore, 0, 0, 71, vu, []),
  (.iinc 1 1, 1, 0, 72, vi 1, []),
  (.goto (-27), 58, 0, 73, vu, []),
  (.iconst 0, 0, 0, 74, vi 0, []),
  (.istore_n 1, 1, 0, 75, vu, []),
  (.iload_n 1, 1, 0, 76, vu, []),
  (.aload_n 0, 0, 0, 77, vu, []),
  (.getfield 25, 6, 3, 78, vu, [2]),
  (.arraylength, 0, 0, 79, vu, []),
  (.if_icmp .ge 22, 89, 0, 80, vu, []),
  (.aload_n 0, 0, 0, 81, vu, []),
  (.getfield 25, 6, 3, 82, vu, [2]),
  (.iload_n 1, 1, 0, 83, vu, []),
  (.new 18, 0, 5, 84, vu, [9]),
  (.dup, 0, 0, 85, vu, []),
  (.invokespecial 20, 46, 1, 86, vu, [99, 680, 98]),
  (.aastore, 0, 0, 87, vu, []),
  (.iinc 1 1, 1, 0, 88, vi 1, []),
  (.goto (-25), 75, 0, 89, vu, []),
  (.return_, 0, 0, 90, vu, [])]
noncomputable def p_X_init : List Nat := [0, 1, 4, 5, 7, 10, 13, 14, 15, 18, 21, 22, 25, 26, 29, 32, 33, 34, 37, 40, 41, 44, 45, 48, 51, 52, 55, 56, 59, 62, 63, 65, 67, 70, 71, 72, 75, 76, 77, 80, 81, 82, 83, 84, 87, 88, 91, 92, 95, 96, 99, 100, 102, 105, 106, 109, 112, 113, 114, 115, 116, 119, 120, 123, 124, 127, 128, 131, 132, 134, 137, 138, 141, 144, 145, 146, 147, 148, 151, 152, 155, 156, 159, 160, 163, 164, 167, 168, 171, 174]
abbrev n_X_row : Nat := 71
noncomputable def i_X_row : List Ins := [(.aload_n 0, 0, 0, 1, vu, []),
  (.iload_n 1, 1, 0, 2, vu, []),
  (.invokevirtual 57, 123, 2, 3, vu, [0, 0, 6]),
  (.ifCond .eq 9, 7, 0, 4, vu, []),
  (.iload_n 2, 2, 0, 5, vu, []),
  (.bipush 40, 0, 0, 6, vi 40, []),
  (.if_icmp .le 5, 9, 0, 7, vu, []),
  (.iconst (-1), 0, 0, 8, vi (-1), []),
  (.ireturn, 0, 0, 9, vu, []),
  (.iload_n 2, 2, 0, 10, vu, []),
  (.ifCond .ge 9, 15, 0, 11, vu, []),
  (.aload_n 0, 0, 0, 12, vu, []),
  (.iconst 5, 0, 0, 13, vi 5, []),
  (.invokevirtual 61, 121, 2, 14, vu, [0, 0, 6]),
  (.ireturn, 0, 0, 15, vu, []),
  (.aload_n 0, 0, 0, 16, vu, []),
  (.getfield 11, 6, 0, 17, vu, [2]),
  (.iload_n 1, 1, 0, 18, vu, []),
  (.aaload, 0, 0, 19, vu, []),
  (.iload_n 2, 2, 0, 20, vu, []),
  (.iconst 0, 0, 0, 21, vi 0, []),
  (.invokevirtual 65, 6, 3, 22, vu, [0, 0, 0]),
  (.iload_n 2, 2, 0, 23, vu, []),
  (.ireturn, 0, 0, 24, vu, [])]
noncomputable def p_X_row : List Nat := [0, 1, 2, 5, 8, 9, 11, 14, 15, 16, 17, 20, 21, 22, 25, 26, 27, 30, 31, 32, 33, 34, 37, 38]
abbrev n_X_lay : Nat := 72
noncomputable def i_X_lay : List Ins := [(.aload_n 0, 0, 0, 1, vu, []),
  (.iload_n 1, 1, 0, 2, vu, []),
  (.invokevirtual 57, 123, 2, 3, vu, [0, 0, 6]),
  (.ifCond .ne 5, 6, 0, 4, vu, []),
  (.iconst (-1), 0, 0, 5, vi (-1), []),
  (.ireturn, 0, 0, 6, vu, []),
  (.aload_n 0, 0, 0, 7, vu, []),
  (.aload_n 0, 0, 0, 8, vu, []),
  (.getfield 11, 6, 0, 9, vu, [2]),
  (.iload_n 1, 1, 0, 10, vu, []),
  (.aaload, 0, 0, 11, vu, []),
  (.iload_n 2, 2, 0, 12, vu, []),
  (.invokevirtual 69, 122, 3, 13, vu, [0, 0, 6]),
  (.istore 4, 4, 0, 14, vu, []),
  (.iload 4, 4, 0, 15, vu, []),
  (.ifCond .eq 6, 18, 0, 16, vu, []),
  (.iload 4, 4, 0, 17, vu, []),
  (.ireturn, 0, 0, 18, vu, []),
  (.aload_n 0, 0, 0, 19, vu, []),
  (.getfield 11, 6, 0, 20, vu, [2]),
  (.iload_n 1, 1, 0, 21, vu, []),
  (.aaload, 0, 0, 22, vu, []),
  (.iload_n 2, 2, 0, 23, vu, []),
  (.invokevirtual 73, 4, 2, 24, vu, [0, 0, 0]),
  (.istore 5, 5, 0, 25, vu, []),
  (.aload_n 0, 0, 0, 26, vu, []),
  (.getfield 11, 6, 0, 27, vu, [2]),
  (.iload_n 1, 1, 0, 28, vu, []),
  (.aaload, 0, 0, 29, vu, []),
  (.iload_n 2, 2, 0, 30, vu, []),
  (.iload_n 3, 3, 0, 31, vu, []),
  (.invokevirtual 76, 5, 3, 32, vu, [0, 0, 0]),
  (.aload_n 0, 0, 0, 33, vu, []),
  (.iload 5, 5, 0, 34, vu, []),
  (.iconst 1, 0, 0, 35, vi 1, []),
  (.invokevirtual 79, 120, 3, 36, vu, [0, 0, 6]),
  (.ireturn, 0, 0, 37, vu, [])]
noncomputable def p_X_lay : List Nat := [0, 1, 2, 5, 8, 9, 10, 11, 12, 15, 16, 17, 18, 21, 23, 25, 28, 30, 31, 32, 35, 36, 37, 38, 41, 43, 44, 47, 48, 49, 50, 51, 54, 55, 57, 58, 61]
abbrev n_X_at : Nat := 73
noncomputable def i_X_at : List Ins := [(.aload_n 0, 0, 0, 1, vu, []),
  (.iload_n 1, 1, 0, 2, vu, []),
  (.invokevirtual 57, 123, 2, 3, vu, [0, 0, 6]),
  (.ifCond .ne 5, 6, 0, 4, vu, []),
  (.iconst (-1), 0, 0, 5, vi (-1), []),
  (.ireturn, 0, 0, 6, vu, []),
  (.aload_n 0, 0, 0, 7, vu, []),
  (.aload_n 0, 0, 0, 8, vu, []),
  (.getfield 11, 6, 0, 9, vu, [2]),
  (.iload_n 1, 1, 0, 10, vu, []),
  (.aaload, 0, 0, 11, vu, []),
  (.iload_n 2, 2, 0, 12, vu, []),
  (.invokevirtual 69, 122, 3, 13, vu, [0, 0, 6]),
  (.istore_n 3, 3, 0, 14, vu, []),
  (.iload_n 3, 3, 0, 15, vu, []),
  (.ifCond .eq 7, 18, 0, 16, vu, []),
  (.iload_n 3, 3, 0, 17, vu, []),
  (.goto 18, 27, 0, 18, vu, []),
  (.aload_n 0, 0, 0, 19, vu, []),
  (.aload_n 0, 0, 0, 20, vu, []),
  (.getfield 11, 6, 0, 21, vu, [2]),
  (.iload_n 1, 1, 0, 22, vu, []),
  (.aaload, 0, 0, 23, vu, []),
  (.iload_n 2, 2, 0, 24, vu, []),
  (.invokevirtual 73, 4, 2, 25, vu, [0, 0, 0]),
  (.iconst 1, 0, 0, 26, vi 1, []),
  (.invokevirtual 79, 120, 3, 27, vu, [0, 0, 6]),
  (.ireturn, 0, 0, 28, vu, [])]
noncomputable def p_X_at : List Nat := [0, 1, 2, 5, 8, 9, 10, 11, 12, 15, 16, 17, 18, 21, 22, 23, 26, 27, 30, 31, 32, 35, 36, 37, 38, 41, 42, 45]
abbrev n_X_tear : Nat := 74
noncomputable def i_X_tear : List Ins := [(.aload_n 0, 0, 0, 1, vu, []),
  (.iload_n 1, 1, 0, 2, vu, []),
  (.invokevirtual 57, 123, 2, 3, vu, [0, 0, 6]),
  (.ifCond .ne 5, 6, 0, 4, vu, []),
  (.iconst (-1), 0, 0, 5, vi (-1), []),
  (.ireturn, 0, 0, 6, vu, []),
  (.aload_n 0, 0, 0, 7, vu, []),
  (.getfield 11, 6, 0, 8, vu, [2]),
  (.iload_n 1, 1, 0, 9, vu, []),
  (.aaload, 0, 0, 10, vu, []),
  (.invokevirtual 83, 1, 1, 11, vu, [0, 0, 0]),
  (.ifCond .eq 9, 16, 0, 12, vu, []),
  (.aload_n 0, 0, 0, 13, vu, []),
  (.iconst 1, 0, 0, 14, vi 1, []),
  (.invokevirtual 61, 121, 2, 15, vu, [0, 0, 6]),
  (.ireturn, 0, 0, 16, vu, []),
  (.aload_n 0, 0, 0, 17, vu, []),
  (.getfield 11, 6, 0, 18, vu, [2]),
  (.iload_n 1, 1, 0, 19, vu, []),
  (.aaload, 0, 0, 20, vu, []),
  (.invokevirtual 87, 7, 1, 21, vu, [0, 0, 0]),
  (.iconst 1, 0, 0, 22, vi 1, []),
  (.ireturn, 0, 0, 23, vu, [])]
noncomputable def p_X_tear : List Nat := [0, 1, 2, 5, 8, 9, 10, 11, 14, 15, 16, 19, 22, 23, 24, 27, 28, 29, 32, 33, 34, 37, 38]
abbrev n_X_copy : Nat := 75
noncomputable def i_X_copy : List Ins := [(.aload_n 0, 0, 0, 1, vu, []),
  (.iload_n 1, 1, 0, 2, vu, []),
  (.invokevirtual 57, 123, 2, 3, vu, [0, 0, 6]),
  (.ifCond .eq 11, 8, 0, 4, vu, []),
  (.aload_n 0, 0, 0, 5, vu, []),
  (.iload_n 3, 3, 0, 6, vu, []),
  (.invokevirtual 57, 123, 2, 7, vu, [0, 0, 6]),
  (.ifCond .ne 5, 10, 0, 8, vu, []),
  (.iconst (-1), 0, 0, 9, vi (-1), []),
  (.ireturn, 0, 0, 10, vu, []),
  (.iload 5, 5, 0, 11, vu, []),
  (.ifCond .ge 9, 16, 0, 12, vu, []),
  (.aload_n 0, 0, 0, 13, vu, []),
  (.iconst 5, 0, 0, 14, vi 5, []),
  (.invokevirtual 61, 121, 2, 15, vu, [0, 0, 6]),
  (.ireturn, 0, 0, 16, vu, []),
  (.aload_n 0, 0, 0, 17, vu, []),
  (.getfield 11, 6, 0, 18, vu, [2]),
  (.iload_n 1, 1, 0, 19, vu, []),
  (.aaload, 0, 0, 20, vu, []),
  (.invokevirtual 83, 1, 1, 21, vu, [0, 0, 0]),
  (.ifCond .ne 15, 28, 0, 22, vu, []),
  (.aload_n 0, 0, 0, 23, vu, []),
  (.getfield 11, 6, 0, 24, vu, [2]),
  (.iload_n 3, 3, 0, 25, vu, []),
  (.aaload, 0, 0, 26, vu, []),
  (.invokevirtual 83, 1, 1, 27, vu, [0, 0, 0]),
  (.ifCond .eq 9, 32, 0, 28, vu, []),
  (.aload_n 0, 0, 0, 29, vu, []),
  (.iconst 1, 0, 0, 30, vi 1, []),
  (.invokevirtual 61, 121, 2, 31, vu, [0, 0, 6]),
  (.ireturn, 0, 0, 32, vu, []),
  (.aload_n 0, 0, 0, 33, vu, []),
  (.getfield 11, 6, 0, 34, vu, [2]),
  (.iload_n 1, 1, 0, 35, vu, []),
  (.aaload, 0, 0, 36, vu, []),
  (.iload_n 2, 2, 0, 37, vu, []),
  (.iload 5, 5, 0, 38, vu, []),
  (.invokevirtual 90, 3, 3, 39, vu, [0, 0, 0]),
  (.ifCond .eq 19, 48, 0, 40, vu, []),
  (.aload_n 0, 0, 0, 41, vu, []),
  (.getfield 11, 6, 0, 42, vu, [2]),
  (.iload_n 3, 3, 0, 43, vu, []),
  (.aaload, 0, 0, 44, vu, []),
  (.iload 4, 4, 0, 45, vu, []),
  (.iload 5, 5, 0, 46, vu, []),
  (.invokevirtual 90, 3, 3, 47, vu, [0, 0, 0]),
  (.ifCond .ne 9, 52, 0, 48, vu, []),
  (.aload_n 0, 0, 0, 49, vu, []),
  (.iconst 2, 0, 0, 50, vi 2, []),
  (.invokevirtual 61, 121, 2, 51, vu, [0, 0, 6]),
  (.ireturn, 0, 0, 52, vu, []),
  (.aload_n 0, 0, 0, 53, vu, []),
  (.getfield 11, 6, 0, 54, vu, [2]),
  (.iload_n 3, 3, 0, 55, vu, []),
  (.aaload, 0, 0, 56, vu, []),
  (.aload_n 0, 0, 0, 57, vu, []),
  (.getfield 11, 6, 0, 58, vu, [2]),
  (.iload_n 1, 1, 0, 59, vu, []),
  (.aaload, 0, 0, 60, vu, []),
  (.iload_n 2, 2, 0, 61, vu, []),
  (.iload 4, 4, 0, 62, vu, []),
  (.iload 5, 5, 0, 63, vu, []),
  (.invokevirtual 94, 8, 5, 64, vu, [0, 0, 0]),
  (.iconst 1, 0, 0, 65, vi 1, []),
  (.ireturn, 0, 0, 66, vu, [])]
noncomputable def p_X_copy : List Nat := [0, 1, 2, 5, 8, 9, 10, 13, 16, 17, 18, 20, 23, 24, 25, 28, 29, 30, 33, 34, 35, 38, 41, 42, 45, 46, 47, 50, 53, 54, 55, 58, 59, 60, 63, 64, 65, 66, 68, 71, 74, 75, 78, 79, 80, 82, 84, 87, 90, 91, 92, 95, 96, 97, 100, 101, 102, 103, 106, 107, 108, 109, 111, 113, 116, 117]
abbrev n_X_mean : Nat := 76
noncomputable def i_X_mean : List Ins := [(.aload_n 0, 0, 0, 1, vu, []),
  (.iload_n 1, 1, 0, 2, vu, []),
  (.invokevirtual 57, 123, 2, 3, vu, [0, 0, 6]),
  (.ifCond .ne 5, 6, 0, 4, vu, []),
  (.iconst (-1), 0, 0, 5, vi (-1), []),
  (.ireturn, 0, 0, 6, vu, []),
  (.aload_n 0, 0, 0, 7, vu, []),
  (.getfield 11, 6, 0, 8, vu, [2]),
  (.iload_n 1, 1, 0, 9, vu, []),
  (.aaload, 0, 0, 10, vu, []),
  (.astore_n 2, 2, 0, 11, vu, []),
  (.aload_n 2, 2, 0, 12, vu, []),
  (.invokevirtual 83, 1, 1, 13, vu, [0, 0, 0]),
  (.ifCond .eq 9, 18, 0, 14, vu, []),
  (.aload_n 0, 0, 0, 15, vu, []),
  (.iconst 1, 0, 0, 16, vi 1, []),
  (.invokevirtual 61, 121, 2, 17, vu, [0, 0, 6]),
  (.ireturn, 0, 0, 18, vu, []),
  (.aload_n 2, 2, 0, 19, vu, []),
  (.getfield 98, 0, 1, 20, vu, [0]),
  (.ifCond .ne 9, 25, 0, 21, vu, []),
  (.aload_n 0, 0, 0, 22, vu, []),
  (.iconst 4, 0, 0, 23, vi 4, []),
  (.invokevirtual 61, 121, 2, 24, vu, [0, 0, 6]),
  (.ireturn, 0, 0, 25, vu, []),
  (.aload_n 0, 0, 0, 26, vu, []),
  (.aload_n 2, 2, 0, 27, vu, []),
  (.invokevirtual 101, 9, 1, 28, vu, [0, 0, 0]),
  (.aload_n 2, 2, 0, 29, vu, []),
  (.getfield 98, 0, 1, 30, vu, [0]),
  (.i2l, 0, 0, 31, vu, []),
  (.ldiv, 0, 0, 32, vu, []),
  (.l2i, 0, 0, 33, vu, []),
  (.iconst 1, 0, 0, 34, vi 1, []),
  (.invokevirtual 79, 120, 3, 35, vu, [0, 0, 6]),
  (.ireturn, 0, 0, 36, vu, [])]
noncomputable def p_X_mean : List Nat := [0, 1, 2, 5, 8, 9, 10, 11, 14, 15, 16, 17, 18, 21, 24, 25, 26, 29, 30, 31, 34, 37, 38, 39, 42, 43, 44, 45, 48, 49, 52, 53, 54, 55, 56, 59]
abbrev n_X_text : Nat := 77
noncomputable def i_X_text : List Ins := [(.aload_n 0, 0, 0, 1, vu, []),
  (.iload_n 1, 1, 0, 2, vu, []),
  (.invokevirtual 105, 124, 2, 3, vu, [0, 0, 6]),
  (.ifCond .eq 9, 7, 0, 4, vu, []),
  (.iload_n 2, 2, 0, 5, vu, []),
  (.bipush 80, 0, 0, 6, vi 80, []),
  (.if_icmp .le 5, 9, 0, 7, vu, []),
  (.iconst (-1), 0, 0, 8, vi (-1), []),
  (.ireturn, 0, 0, 9, vu, []),
  (.iload_n 2, 2, 0, 10, vu, []),
  (.ifCond .ge 9, 15, 0, 11, vu, []),
  (.aload_n 0, 0, 0, 12, vu, []),
  (.iconst 5, 0, 0, 13, vi 5, []),
  (.invokevirtual 61, 121, 2, 14, vu, [0, 0, 6]),
  (.ireturn, 0, 0, 15, vu, []),
  (.aload_n 0, 0, 0, 16, vu, []),
  (.getfield 15, 6, 1, 17, vu, [2]),
  (.iload_n 1, 1, 0, 18, vu, []),
  (.aaload, 0, 0, 19, vu, []),
  (.iload_n 2, 2, 0, 20, vu, []),
  (.bipush 32, 0, 0, 21, vi 32, []),
  (.invokevirtual 65, 6, 3, 22, vu, [0, 0, 0]),
  (.iload_n 2, 2, 0, 23, vu, []),
  (.ireturn, 0, 0, 24, vu, [])]
noncomputable def p_X_text : List Nat := [0, 1, 2, 5, 8, 9, 11, 14, 15, 16, 17, 20, 21, 22, 25, 26, 27, 30, 31, 32, 33, 35, 38, 39]
abbrev n_X_put : Nat := 78
noncomputable def i_X_put : List Ins := [(.aload_n 0, 0, 0, 1, vu, []),
  (.iload_n 1, 1, 0, 2, vu, []),
  (.invokevirtual 105, 124, 2, 3, vu, [0, 0, 6]),
  (.ifCond .ne 5, 6, 0, 4, vu, []),
  (.iconst (-1), 0, 0, 5, vi (-1), []),
  (.ireturn, 0, 0, 6, vu, []),
  (.aload_n 0, 0, 0, 7, vu, []),
  (.aload_n 0, 0, 0, 8, vu, []),
  (.getfield 15, 6, 1, 9, vu, [2]),
  (.iload_n 1, 1, 0, 10, vu, []),
  (.aaload, 0, 0, 11, vu, []),
  (.iload_n 2, 2, 0, 12, vu, []),
  (.invokevirtual 69, 122, 3, 13, vu, [0, 0, 6]),
  (.istore 4, 4, 0, 14, vu, []),
  (.iload 4, 4, 0, 15, vu, []),
  (.ifCond .eq 6, 18, 0, 16, vu, []),
  (.iload 4, 4, 0, 17, vu, []),
  (.ireturn, 0, 0, 18, vu, []),
  (.aload_n 0, 0, 0, 19, vu, []),
  (.getfield 15, 6, 1, 20, vu, [2]),
  (.iload_n 1, 1, 0, 21, vu, []),
  (.aaload, 0, 0, 22, vu, []),
  (.iload_n 2, 2, 0, 23, vu, []),
  (.invokevirtual 73, 4, 2, 24, vu, [0, 0, 0]),
  (.istore 5, 5, 0, 25, vu, []),
  (.aload_n 0, 0, 0, 26, vu, []),
  (.getfield 15, 6, 1, 27, vu, [2]),
  (.iload_n 1, 1, 0, 28, vu, []),
  (.aaload, 0, 0, 29, vu, []),
  (.iload_n 2, 2, 0, 30, vu, []),
  (.iload_n 3, 3, 0, 31, vu, []),
  (.i2b, 0, 0, 32, vu, []),
  (.invokevirtual 76, 5, 3, 33, vu, [0, 0, 0]),
  (.iload 5, 5, 0, 34, vu, []),
  (.sipush 1000, 0, 0, 35, vi 1000, []),
  (.iadd, 0, 0, 36, vu, []),
  (.ireturn, 0, 0, 37, vu, [])]
noncomputable def p_X_put : List Nat := [0, 1, 2, 5, 8, 9, 10, 11, 12, 15, 16, 17, 18, 21, 23, 25, 28, 30, 31, 32, 35, 36, 37, 38, 41, 43, 44, 47, 48, 49, 50, 51, 52, 55, 57, 60, 61]
abbrev n_X_fault : Nat := 79
noncomputable def i_X_fault : List Ins := [(.aload_n 0, 0, 0, 1, vu, []),
  (.iload_n 1, 1, 0, 2, vu, []),
  (.invokevirtual 105, 124, 2, 3, vu, [0, 0, 6]),
  (.ifCond .ne 5, 6, 0, 4, vu, []),
  (.iconst (-1), 0, 0, 5, vi (-1), []),
  (.ireturn, 0, 0, 6, vu, []),
  (.aload_n 0, 0, 0, 7, vu, []),
  (.getfield 15, 6, 1, 8, vu, [2]),
  (.iload_n 1, 1, 0, 9, vu, []),
  (.aaload, 0, 0, 10, vu, []),
  (.invokevirtual 83, 1, 1, 11, vu, [0, 0, 0]),
  (.ifCond .eq 9, 16, 0, 12, vu, []),
  (.aload_n 0, 0, 0, 13, vu, []),
  (.iconst 1, 0, 0, 14, vi 1, []),
  (.invokevirtual 61, 121, 2, 15, vu, [0, 0, 6]),
  (.ireturn, 0, 0, 16, vu, []),
  (.aload_n 0, 0, 0, 17, vu, []),
  (.getfield 15, 6, 1, 18, vu, [2]),
  (.iload_n 1, 1, 0, 19, vu, []),
  (.aaload, 0, 0, 20, vu, []),
  (.invokestatic 108, 13, 1, 21, vu, [0, 0, 99]),
  (.ireturn, 0, 0, 22, vu, [])]
noncomputable def p_X_fault : List Nat := [0, 1, 2, 5, 8, 9, 10, 11, 14, 15, 16, 19, 22, 23, 24, 27, 28, 29, 32, 33, 34, 37]
abbrev n_X_street : Nat := 80
noncomputable def i_X_street : List Ins := [(.aload_n 0, 0, 0, 1, vu, []),
  (.iload_n 1, 1, 0, 2, vu, []),
  (.invokevirtual 105, 124, 2, 3, vu, [0, 0, 6]),
  (.ifCond .ne 5, 6, 0, 4, vu, []),
  (.iconst (-1), 0, 0, 5, vi (-1), []),
  (.ireturn, 0, 0, 6, vu, []),
  (.aload_n 0, 0, 0, 7, vu, []),
  (.getfield 15, 6, 1, 8, vu, [2]),
  (.iload_n 1, 1, 0, 9, vu, []),
  (.aaload, 0, 0, 10, vu, []),
  (.invokevirtual 83, 1, 1, 11, vu, [0, 0, 0]),
  (.ifCond .eq 9, 16, 0, 12, vu, []),
  (.aload_n 0, 0, 0, 13, vu, []),
  (.iconst 1, 0, 0, 14, vi 1, []),
  (.invokevirtual 61, 121, 2, 15, vu, [0, 0, 6]),
  (.ireturn, 0, 0, 16, vu, []),
  (.aload_n 0, 0, 0, 17, vu, []),
  (.getfield 15, 6, 1, 18, vu, [2]),
  (.iload_n 1, 1, 0, 19, vu, []),
  (.aaload, 0, 0, 20, vu, []),
  (.invokestatic 108, 13, 1, 21, vu, [0, 0, 99]),
  (.bipush (-9), 0, 0, 22, vi (-9), []),
  (.if_icmp .eq 6, 25, 0, 23, vu, []),
  (.bipush (-4), 0, 0, 24, vi (-4), []),
  (.ireturn, 0, 0, 25, vu, []),
  (.iconst 0, 0, 0, 26, vi 0, []),
  (.istore_n 2, 2, 0, 27, vu, []),
  (.iload_n 2, 2, 0, 28, vu, []),
  (.aload_n 0, 0, 0, 29, vu, []),
  (.getfield 25, 6, 3, 30, vu, [2]),
  (.arraylength, 0, 0, 31, vu, []),
  (.if_icmp .ge 18, 39, 0, 32, vu, []),
  (.aload_n 0, 0, 0, 33, vu, []),
  (.getfield 25, 6, 3, 34, vu, [2]),
  (.iload_n 2, 2, 0, 35, vu, []),
  (.aaload, 0, 0, 36, vu, []),
  (.invokevirtual 114, 47, 1, 37, vu, [0, 0, 5]),
  (.iinc 2 1, 2, 0, 38, vi 1, []),
  (.goto (-21), 27, 0, 39, vu, []),
  (.aload_n 0, 0, 0, 40, vu, []),
  (.getfield 15, 6, 1, 41, vu, [2]),
  (.iload_n 1, 1, 0, 42, vu, []),
  (.aaload, 0, 0, 43, vu, []),
  (.aload_n 0, 0, 0, 44, vu, []),
  (.getfield 21, 6, 2, 45, vu, [2]),
  (.invokestatic 117, 14, 2, 46, vu, [0, 0, 99]),
  (.aload_n 0, 0, 0, 47, vu, []),
  (.getfield 21, 6, 2, 48, vu, [2]),
  (.getfield 121, 5, 3, 49, vu, [0]),
  (.ireturn, 0, 0, 50, vu, [])]
noncomputable def p_X_street : List Nat := [0, 1, 2, 5, 8, 9, 10, 11, 14, 15, 16, 19, 22, 23, 24, 27, 28, 29, 32, 33, 34, 37, 39, 42, 44, 45, 46, 47, 48, 49, 52, 53, 56, 57, 60, 61, 62, 65, 68, 71, 72, 75, 76, 77, 78, 81, 84, 85, 88, 91]
abbrev n_X_house : Nat := 81
noncomputable def i_X_house : List Ins := [(.aload_n 0, 0, 0, 1, vu, []),
  (.getfield 21, 6, 2, 2, vu, [2]),
  (.iload_n 1, 1, 0, 3, vu, []),
  (.invokevirtual 124, 50, 2, 4, vu, [0, 0, 5]),
  (.ifCond .eq 12, 10, 0, 5, vu, []),
  (.iload_n 2, 2, 0, 6, vu, []),
  (.iconst 0, 0, 0, 7, vi 0, []),
  (.iconst 4, 0, 0, 8, vi 4, []),
  (.invokestatic 127, 129, 3, 9, vu, [0, 0, 99]),
  (.ifCond .ne 5, 12, 0, 10, vu, []),
  (.iconst (-1), 0, 0, 11, vi (-1), []),
  (.ireturn, 0, 0, 12, vu, []),
  (.aload_n 0, 0, 0, 13, vu, []),
  (.aload_n 0, 0, 0, 14, vu, []),
  (.getfield 21, 6, 2, 15, vu, [2]),
  (.iload_n 1, 1, 0, 16, vu, []),
  (.iload_n 2, 2, 0, 17, vu, []),
  (.invokevirtual 131, 56, 3, 18, vu, [0, 0, 5]),
  (.iconst 1, 0, 0, 19, vi 1, []),
  (.invokevirtual 79, 120, 3, 20, vu, [0, 0, 6]),
  (.ireturn, 0, 0, 21, vu, [])]
noncomputable def p_X_house : List Nat := [0, 1, 4, 5, 8, 11, 12, 13, 14, 17, 20, 21, 22, 23, 24, 27, 28, 29, 32, 33, 36]
abbrev n_X_mark : Nat := 82
noncomputable def i_X_mark : List Ins := [(.aload_n 0, 0, 0, 1, vu, []),
  (.getfield 21, 6, 2, 2, vu, [2]),
  (.iload_n 1, 1, 0, 3, vu, []),
  (.invokevirtual 124, 50, 2, 4, vu, [0, 0, 5]),
  (.ifCond .eq 22, 12, 0, 5, vu, []),
  (.iload_n 2, 2, 0, 6, vu, []),
  (.getstatic 134, 1, 0, 7, vu, []),
  (.getfield 140, 8, 0, 8, vu, [3]),
  (.getstatic 143, 5, 0, 9, vu, []),
  (.getfield 140, 8, 0, 10, vu, [3]),
  (.invokestatic 127, 129, 3, 11, vu, [0, 0, 99]),
  (.ifCond .ne 5, 14, 0, 12, vu, []),
  (.iconst (-1), 0, 0, 13, vi (-1), []),
  (.ireturn, 0, 0, 14, vu, []),
  (.aload_n 0, 0, 0, 15, vu, []),
  (.getfield 21, 6, 2, 16, vu, [2]),
  (.getfield 146, 5, 0, 17, vu, [2]),
  (.iload_n 1, 1, 0, 18, vu, []),
  (.aaload, 0, 0, 19, vu, []),
  (.astore_n 3, 3, 0, 20, vu, []),
  (.aload_n 3, 3, 0, 21, vu, []),
  (.getfield 150, 3, 0, 22, vu, [2]),
  (.iload_n 2, 2, 0, 23, vu, []),
  (.invokevirtual 155, 25, 2, 24, vu, [0, 0, 8]),
  (.ifCond .ne 9, 29, 0, 25, vu, []),
  (.aload_n 0, 0, 0, 26, vu, []),
  (.iconst 3, 0, 0, 27, vi 3, []),
  (.invokevirtual 61, 121, 2, 28, vu, [0, 0, 6]),
  (.ireturn, 0, 0, 29, vu, []),
  (.iload_n 2, 2, 0, 30, vu, []),
  (.getstatic 134, 1, 0, 31, vu, []),
  (.getfield 140, 8, 0, 32, vu, [3]),
  (.if_icmp .ne 12, 38, 0, 33, vu, []),
  (.aload_n 0, 0, 0, 34, vu, []),
  (.getfield 21, 6, 2, 35, vu, [2]),
  (.iload_n 1, 1, 0, 36, vu, []),
  (.invokevirtual 158, 57, 2, 37, vu, [0, 0, 5]),
  (.ireturn, 0, 0, 38, vu, []),
  (.iload_n 2, 2, 0, 39, vu, []),
  (.getstatic 161, 2, 0, 40, vu, []),
  (.getfield 140, 8, 0, 41, vu, [3]),
  (.if_icmp .ne 13, 48, 0, 42, vu, []),
  (.aload_n 3, 3, 0, 43, vu, []),
  (.getfield 164, 3, 1, 44, vu, [0]),
  (.aload_n 3, 3, 0, 45, vu, []),
  (.invokevirtual 167, 22, 1, 46, vu, [0, 0, 3]),
  (.isub, 0, 0, 47, vu, []),
  (.ireturn, 0, 0, 48, vu, []),
  (.iload_n 2, 2, 0, 49, vu, []),
  (.getstatic 171, 3, 0, 50, vu, []),
  (.getfield 140, 8, 0, 51, vu, [3]),
  (.if_icmp .ne 8, 55, 0, 52, vu, []),
  (.aload_n 3, 3, 0, 53, vu, []),
  (.getfield 174, 3, 3, 54, vu, [0]),
  (.ireturn, 0, 0, 55, vu, []),
  (.iload_n 2, 2, 0, 56, vu, []),
  (.getstatic 177, 4, 0, 57, vu, []),
  (.getfield 140, 8, 0, 58, vu, [3]),
  (.if_icmp .ne 12, 64, 0, 59, vu, []),
  (.aload_n 0, 0, 0, 60, vu, []),
  (.getfield 21, 6, 2, 61, vu, [2]),
  (.iload_n 1, 1, 0, 62, vu, []),
  (.invokevirtual 180, 53, 2, 63, vu, [0, 0, 5]),
  (.ireturn, 0, 0, 64, vu, []),
  (.aload_n 0, 0, 0, 65, vu, []),
  (.getfield 21, 6, 2, 66, vu, [2]),
  (.iload_n 1, 1, 0, 67, vu, []),
  (.invokevirtual 183, 66, 2, 68, vu, [0, 0, 5]),
  (.ireturn, 0, 0, 69, vu, [])]
noncomputable def p_X_mark : List Nat := [0, 1, 4, 5, 8, 11, 12, 15, 18, 21, 24, 27, 30, 31, 32, 33, 36, 39, 40, 41, 42, 43, 46, 47, 50, 53, 54, 55, 58, 59, 60, 63, 66, 69, 70, 73, 74, 77, 78, 79, 82, 85, 88, 89, 92, 93, 96, 97, 98, 99, 102, 105, 108, 109, 112, 113, 114, 117, 120, 123, 124, 127, 128, 131, 132, 133, 136, 137, 140]
abbrev n_X_altar : Nat := 83
noncomputable def i_X_altar : List Ins := [(.iload_n 1, 1, 0, 1, vu, []),
  (.iconst 0, 0, 0, 2, vi 0, []),
  (.bipush 9, 0, 0, 3, vi 9, []),
  (.invokestatic 127, 129, 3, 4, vu, [0, 0, 99]),
  (.ifCond .ne 5, 7, 0, 5, vu, []),
  (.iconst (-1), 0, 0, 6, vi (-1), []),
  (.ireturn, 0, 0, 7, vu, []),
  (.aload_n 0, 0, 0, 8, vu, []),
  (.getfield 21, 6, 2, 9, vu, [2]),
  (.getfield 121, 5, 3, 10, vu, [0]),
  (.ifCond .ne 6, 13, 0, 11, vu, []),
  (.bipush (-4), 0, 0, 12, vi (-4), []),
  (.ireturn, 0, 0, 13, vu, []),
  (.aload_n 0, 0, 0, 14, vu, []),
  (.getfield 21, 6, 2, 15, vu, [2]),
  (.getfield 186, 5, 5, 16, vu, [0]),
  (.istore_n 2, 2, 0, 17, vu, []),
  (.aload_n 0, 0, 0, 18, vu, []),
  (.getfield 21, 6, 2, 19, vu, [2]),
  (.iload_n 1, 1, 0, 20, vu, []),
  (.putfield 186, 5, 5, 21, vu, [0]),
  (.iload_n 2, 2, 0, 22, vu, []),
  (.ireturn, 0, 0, 23, vu, [])]
noncomputable def p_X_altar : List Nat := [0, 1, 2, 4, 7, 10, 11, 12, 13, 16, 19, 22, 24, 25, 26, 29, 32, 33, 34, 37, 38, 41, 42]
abbrev n_X_wall : Nat := 84
noncomputable def i_X_wall : List Ins := [(.aload_n 0, 0, 0, 1, vu, []),
  (.getfield 21, 6, 2, 2, vu, [2]),
  (.iload_n 1, 1, 0, 3, vu, []),
  (.invokevirtual 124, 50, 2, 4, vu, [0, 0, 5]),
  (.ifCond .eq 13, 10, 0, 5, vu, []),
  (.iload_n 2, 2, 0, 6, vu, []),
  (.iconst 0, 0, 0, 7, vi 0, []),
  (.bipush 99, 0, 0, 8, vi 99, []),
  (.invokestatic 127, 129, 3, 9, vu, [0, 0, 99]),
  (.ifCond .ne 5, 12, 0, 10, vu, []),
  (.iconst (-1), 0, 0, 11, vi (-1), []),
  (.ireturn, 0, 0, 12, vu, []),
  (.aload_n 0, 0, 0, 13, vu, []),
  (.getfield 21, 6, 2, 14, vu, [2]),
  (.getfield 146, 5, 0, 15, vu, [2]),
  (.iload_n 1, 1, 0, 16, vu, []),
  (.aaload, 0, 0, 17, vu, []),
  (.getfield 189, 3, 2, 18, vu, [0]),
  (.istore_n 3, 3, 0, 19, vu, []),
  (.aload_n 0, 0, 0, 20, vu, []),
  (.getfield 21, 6, 2, 21, vu, [2]),
  (.getfield 146, 5, 0, 22, vu, [2]),
  (.iload_n 1, 1, 0, 23, vu, []),
  (.aaload, 0, 0, 24, vu, []),
  (.iload_n 2, 2, 0, 25, vu, []),
  (.putfield 189, 3, 2, 26, vu, [0]),
  (.iload_n 3, 3, 0, 27, vu, []),
  (.ireturn, 0, 0, 28, vu, [])]
noncomputable def p_X_wall : List Nat := [0, 1, 4, 5, 8, 11, 12, 13, 15, 18, 21, 22, 23, 24, 27, 30, 31, 32, 35, 36, 37, 40, 43, 44, 45, 46, 49, 50]
abbrev n_X_hour : Nat := 85
noncomputable def i_X_hour : List Ins := [(.aload_n 0, 0, 0, 1, vu, []),
  (.getfield 21, 6, 2, 2, vu, [2]),
  (.iload_n 1, 1, 0, 3, vu, []),
  (.invokevirtual 192, 52, 2, 4, vu, [0, 0, 5]),
  (.ifCond .ne 5, 7, 0, 5, vu, []),
  (.iconst (-1), 0, 0, 6, vi (-1), []),
  (.ireturn, 0, 0, 7, vu, []),
  (.aload_n 0, 0, 0, 8, vu, []),
  (.getfield 21, 6, 2, 9, vu, [2]),
  (.getfield 121, 5, 3, 10, vu, [0]),
  (.ifCond .ne 6, 13, 0, 11, vu, []),
  (.bipush (-4), 0, 0, 12, vi (-4), []),
  (.ireturn, 0, 0, 13, vu, []),
  (.aload_n 0, 0, 0, 14, vu, []),
  (.getfield 21, 6, 2, 15, vu, [2]),
  (.getfield 195, 5, 4, 16, vu, [0]),
  (.bipush 40, 0, 0, 17, vi 40, []),
  (.if_icmp .lt 6, 20, 0, 18, vu, []),
  (.bipush (-2), 0, 0, 19, vi (-2), []),
  (.ireturn, 0, 0, 20, vu, []),
  (.aload_n 0, 0, 0, 21, vu, []),
  (.getfield 21, 6, 2, 22, vu, [2]),
  (.iload_n 1, 1, 0, 23, vu, []),
  (.invokevirtual 198, 61, 2, 24, vu, [0, 0, 5]),
  (.istore_n 2, 2, 0, 25, vu, []),
  (.aload_n 0, 0, 0, 26, vu, []),
  (.iload_n 2, 2, 0, 27, vu, []),
  (.aload_n 0, 0, 0, 28, vu, []),
  (.getfield 21, 6, 2, 29, vu, [2]),
  (.getfield 201, 5, 7, 30, vu, [0]),
  (.invokevirtual 79, 120, 3, 31, vu, [0, 0, 6]),
  (.ireturn, 0, 0, 32, vu, [])]
noncomputable def p_X_hour : List Nat := [0, 1, 4, 5, 8, 11, 12, 13, 14, 17, 20, 23, 25, 26, 27, 30, 33, 35, 38, 40, 41, 42, 45, 46, 49, 50, 51, 52, 53, 56, 59, 62]
abbrev n_X_undo : Nat := 86
noncomputable def i_X_undo : List Ins := [(.iload_n 1, 1, 0, 1, vu, []),
  (.iconst 0, 0, 0, 2, vi 0, []),
  (.aload_n 0, 0, 0, 3, vu, []),
  (.getfield 21, 6, 2, 4, vu, [2]),
  (.getfield 195, 5, 4, 5, vu, [0]),
  (.invokestatic 127, 129, 3, 6, vu, [0, 0, 99]),
  (.ifCond .ne 5, 9, 0, 7, vu, []),
  (.iconst (-1), 0, 0, 8, vi (-1), []),
  (.ireturn, 0, 0, 9, vu, []),
  (.aload_n 0, 0, 0, 10, vu, []),
  (.getfield 21, 6, 2, 11, vu, [2]),
  (.getfield 195, 5, 4, 12, vu, [0]),
  (.iload_n 1, 1, 0, 13, vu, []),
  (.isub, 0, 0, 14, vu, []),
  (.istore_n 2, 2, 0, 15, vu, []),
  (.aload_n 0, 0, 0, 16, vu, []),
  (.getfield 21, 6, 2, 17, vu, [2]),
  (.iload_n 1, 1, 0, 18, vu, []),
  (.invokevirtual 204, 62, 2, 19, vu, [0, 0, 5]),
  (.iload_n 2, 2, 0, 20, vu, []),
  (.ireturn, 0, 0, 21, vu, [])]
noncomputable def p_X_undo : List Nat := [0, 1, 2, 3, 6, 9, 12, 15, 16, 17, 18, 21, 24, 25, 26, 27, 28, 31, 32, 35, 36]
abbrev n_X_jar : Nat := 87
noncomputable def i_X_jar : List Ins := [(.aload_n 0, 0, 0, 1, vu, []),
  (.aload_n 0, 0, 0, 2, vu, []),
  (.getfield 21, 6, 2, 3, vu, [2]),
  (.getfield 207, 5, 8, 4, vu, [0]),
  (.aload_n 0, 0, 0, 5, vu, []),
  (.getfield 21, 6, 2, 6, vu, [2]),
  (.getfield 201, 5, 7, 7, vu, [0]),
  (.invokevirtual 79, 120, 3, 8, vu, [0, 0, 6]),
  (.ireturn, 0, 0, 9, vu, [])]
noncomputable def p_X_jar : List Nat := [0, 1, 2, 5, 8, 9, 12, 15, 18]
abbrev n_X_loud : Nat := 88
noncomputable def i_X_loud : List Ins := [(.iload_n 1, 1, 0, 1, vu, []),
  (.ifCond .ge 5, 4, 0, 2, vu, []),
  (.iconst (-1), 0, 0, 3, vi (-1), []),
  (.ireturn, 0, 0, 4, vu, []),
  (.iload_n 1, 1, 0, 5, vu, []),
  (.aload_n 0, 0, 0, 6, vu, []),
  (.getfield 21, 6, 2, 7, vu, [2]),
  (.getfield 195, 5, 4, 8, vu, [0]),
  (.if_icmp .lt 9, 13, 0, 9, vu, []),
  (.aload_n 0, 0, 0, 10, vu, []),
  (.iconst 2, 0, 0, 11, vi 2, []),
  (.invokevirtual 61, 121, 2, 12, vu, [0, 0, 6]),
  (.ireturn, 0, 0, 13, vu, []),
  (.aload_n 0, 0, 0, 14, vu, []),
  (.aload_n 0, 0, 0, 15, vu, []),
  (.getfield 21, 6, 2, 16, vu, [2]),
  (.getfield 210, 5, 1, 17, vu, [2]),
  (.iload_n 1, 1, 0, 18, vu, []),
  (.aaload, 0, 0, 19, vu, []),
  (.getfield 214, 2, 2, 20, vu, [0]),
  (.aload_n 0, 0, 0, 21, vu, []),
  (.getfield 21, 6, 2, 22, vu, [2]),
  (.getfield 210, 5, 1, 23, vu, [2]),
  (.iload_n 1, 1, 0, 24, vu, []),
  (.aaload, 0, 0, 25, vu, []),
  (.getfield 219, 2, 1, 26, vu, [0]),
  (.invokevirtual 79, 120, 3, 27, vu, [0, 0, 6]),
  (.ireturn, 0, 0, 28, vu, [])]
noncomputable def p_X_loud : List Nat := [0, 1, 4, 5, 6, 7, 8, 11, 14, 17, 18, 19, 22, 23, 24, 25, 28, 31, 32, 33, 36, 37, 40, 43, 44, 45, 48, 51]
abbrev n_X_made : Nat := 89
noncomputable def i_X_made : List Ins := [(.aload_n 0, 0, 0, 1, vu, []),
  (.getfield 21, 6, 2, 2, vu, [2]),
  (.iload_n 1, 1, 0, 3, vu, []),
  (.invokevirtual 124, 50, 2, 4, vu, [0, 0, 5]),
  (.ifCond .ne 5, 7, 0, 5, vu, []),
  (.iconst (-1), 0, 0, 6, vi (-1), []),
  (.ireturn, 0, 0, 7, vu, []),
  (.aload_n 0, 0, 0, 8, vu, []),
  (.getfield 21, 6, 2, 9, vu, [2]),
  (.getfield 146, 5, 0, 10, vu, [2]),
  (.iload_n 1, 1, 0, 11, vu, []),
  (.aaload, 0, 0, 12, vu, []),
  (.getfield 174, 3, 3, 13, vu, [0]),
  (.ireturn, 0, 0, 14, vu, [])]
noncomputable def p_X_made : List Nat := [0, 1, 4, 5, 8, 11, 12, 13, 14, 17, 20, 21, 22, 25]
abbrev n_X_tithe : Nat := 90
noncomputable def i_X_tithe : List Ins := [(.aload_n 0, 0, 0, 1, vu, []),
  (.getfield 21, 6, 2, 2, vu, [2]),
  (.iload_n 1, 1, 0, 3, vu, []),
  (.invokevirtual 124, 50, 2, 4, vu, [0, 0, 5]),
  (.ifCond .ne 5, 7, 0, 5, vu, []),
  (.iconst (-1), 0, 0, 6, vi (-1), []),
  (.ireturn, 0, 0, 7, vu, []),
  (.aload_n 0, 0, 0, 8, vu, []),
  (.aload_n 0, 0, 0, 9, vu, []),
  (.getfield 21, 6, 2, 10, vu, [2]),
  (.iload_n 1, 1, 0, 11, vu, []),
  (.invokevirtual 221, 65, 2, 12, vu, [0, 0, 5]),
  (.iconst 1, 0, 0, 13, vi 1, []),
  (.invokevirtual 79, 120, 3, 14, vu, [0, 0, 6]),
  (.ireturn, 0, 0, 15, vu, [])]
noncomputable def p_X_tithe : List Nat := [0, 1, 4, 5, 8, 11, 12, 13, 14, 15, 18, 19, 22, 23, 26]
abbrev n_X_pay : Nat := 91
noncomputable def i_X_pay : List Ins := [(.aload_n 0, 0, 0, 1, vu, []),
  (.getfield 21, 6, 2, 2, vu, [2]),
  (.iload_n 1, 1, 0, 3, vu, []),
  (.invokevirtual 124, 50, 2, 4, vu, [0, 0, 5]),
  (.ifCond .eq 13, 10, 0, 5, vu, []),
  (.iload_n 2, 2, 0, 6, vu, []),
  (.iconst 0, 0, 0, 7, vi 0, []),
  (.bipush 99, 0, 0, 8, vi 99, []),
  (.invokestatic 127, 129, 3, 9, vu, [0, 0, 99]),
  (.ifCond .ne 5, 12, 0, 10, vu, []),
  (.iconst (-1), 0, 0, 11, vi (-1), []),
  (.ireturn, 0, 0, 12, vu, []),
  (.aload_n 0, 0, 0, 13, vu, []),
  (.getfield 21, 6, 2, 14, vu, [2]),
  (.getfield 146, 5, 0, 15, vu, [2]),
  (.iload_n 1, 1, 0, 16, vu, []),
  (.aaload, 0, 0, 17, vu, []),
  (.astore_n 3, 3, 0, 18, vu, []),
  (.aload_n 3, 3, 0, 19, vu, []),
  (.getfield 224, 3, 4, 20, vu, [0]),
  (.iload_n 2, 2, 0, 21, vu, []),
  (.iadd, 0, 0, 22, vu, []),
  (.sipush 999, 0, 0, 23, vi 999, []),
  (.if_icmp .le 6, 26, 0, 24, vu, []),
  (.bipush (-6), 0, 0, 25, vi (-6), []),
  (.ireturn, 0, 0, 26, vu, []),
  (.aload_n 3, 3, 0, 27, vu, []),
  (.dup, 0, 0, 28, vu, []),
  (.getfield 224, 3, 4, 29, vu, [0]),
  (.iload_n 2, 2, 0, 30, vu, []),
  (.iadd, 0, 0, 31, vu, []),
  (.putfield 224, 3, 4, 32, vu, [0]),
  (.aload_n 3, 3, 0, 33, vu, []),
  (.getfield 224, 3, 4, 34, vu, [0]),
  (.ireturn, 0, 0, 35, vu, [])]
noncomputable def p_X_pay : List Nat := [0, 1, 4, 5, 8, 11, 12, 13, 15, 18, 21, 22, 23, 24, 27, 30, 31, 32, 33, 34, 37, 38, 39, 42, 45, 47, 48, 49, 50, 53, 54, 55, 58, 59, 62]
abbrev n_X_due : Nat := 92
noncomputable def i_X_due : List Ins := [(.iconst 0, 0, 0, 1, vi 0, []),
  (.istore_n 1, 1, 0, 2, vu, []),
  (.iconst 0, 0, 0, 3, vi 0, []),
  (.istore_n 2, 2, 0, 4, vu, []),
  (.bipush (-9), 0, 0, 5, vi (-9), []),
  (.istore_n 3, 3, 0, 6, vu, []),
  (.iconst 0, 0, 0, 7, vi 0, []),
  (.istore 4, 4, 0, 8, vu, []),
  (.iload 4, 4, 0, 9, vu, []),
  (.aload_n 0, 0, 0, 10, vu, []),
  (.getfield 21, 6, 2, 11, vu, [2]),
  (.getfield 121, 5, 3, 12, vu, [0]),
  (.if_icmp .ge 41, 33, 0, 13, vu, []),
  (.aload_n 0, 0, 0, 14, vu, []),
  (.getfield 21, 6, 2, 15, vu, [2]),
  (.iload 4, 4, 0, 16, vu, []),
  (.invokevirtual 221, 65, 2, 17, vu, [0, 0, 5]),
  (.istore 5, 5, 0, 18, vu, []),
  (.iload_n 1, 1, 0, 19, vu, []),
  (.iload 5, 5, 0, 20, vu, []),
  (.iconst 0, 0, 0, 21, vi 0, []),
  (.invokestatic 227, 3, 0, 22, vu, []),
  (.iadd, 0, 0, 23, vu, []),
  (.istore_n 1, 1, 0, 24, vu, []),
  (.iload 5, 5, 0, 25, vu, []),
  (.iload_n 2, 2, 0, 26, vu, []),
  (.if_icmp .le 9, 31, 0, 27, vu, []),
  (.iload 5, 5, 0, 28, vu, []),
  (.istore_n 2, 2, 0, 29, vu, []),
  (.iload 4, 4, 0, 30, vu, []),
  (.istore_n 3, 3, 0, 31, vu, []),
  (.iinc 4 1, 4, 0, 32, vi 1, []),
  (.goto (-47), 8, 0, 33, vu, []),
  (.aload_n 0, 0, 0, 34, vu, []),
  (.iload_n 3, 3, 0, 35, vu, []),
  (.iload_n 1, 1, 0, 36, vu, []),
  (.invokevirtual 79, 120, 3, 37, vu, [0, 0, 6]),
  (.ireturn, 0, 0, 38, vu, [])]
noncomputable def p_X_due : List Nat := [0, 1, 2, 3, 4, 6, 7, 8, 10, 12, 13, 16, 19, 22, 23, 26, 28, 31, 33, 34, 36, 37, 40, 41, 42, 44, 45, 48, 50, 51, 53, 54, 57, 60, 61, 62, 63, 66]
abbrev n_X_keep : Nat := 93
noncomputable def i_X_keep : List Ins := [(.aload_n 0, 0, 0, 1, vu, []),
  (.iload_n 1, 1, 0, 2, vu, []),
  (.invokevirtual 232, 125, 2, 3, vu, [0, 0, 6]),
  (.ifCond .ne 5, 6, 0, 4, vu, []),
  (.iconst (-1), 0, 0, 5, vi (-1), []),
  (.ireturn, 0, 0, 6, vu, []),
  (.aload_n 0, 0, 0, 7, vu, []),
  (.getfield 21, 6, 2, 8, vu, [2]),
  (.getfield 121, 5, 3, 9, vu, [0]),
  (.ifCond .ne 6, 12, 0, 10, vu, []),
  (.bipush (-4), 0, 0, 11, vi (-4), []),
  (.ireturn, 0, 0, 12, vu, []),
  (.aload_n 0, 0, 0, 13, vu, []),
  (.getfield 25, 6, 3, 14, vu, [2]),
  (.iload_n 1, 1, 0, 15, vu, []),
  (.aaload, 0, 0, 16, vu, []),
  (.aload_n 0, 0, 0, 17, vu, []),
  (.getfield 21, 6, 2, 18, vu, [2]),
  (.invokevirtual 235, 49, 2, 19, vu, [0, 0, 5]),
  (.aload_n 0, 0, 0, 20, vu, []),
  (.getfield 21, 6, 2, 21, vu, [2]),
  (.getfield 195, 5, 4, 22, vu, [0]),
  (.ireturn, 0, 0, 23, vu, [])]
noncomputable def p_X_keep : List Nat := [0, 1, 2, 5, 8, 9, 10, 11, 14, 17, 20, 22, 23, 24, 27, 28, 29, 30, 33, 36, 37, 40, 43]
abbrev n_X_on : Nat := 94
noncomputable def i_X_on : List Ins := [(.aload_n 0, 0, 0, 1, vu, []),
  (.iload_n 1, 1, 0, 2, vu, []),
  (.invokevirtual 232, 125, 2, 3, vu, [0, 0, 6]),
  (.ifCond .ne 5, 6, 0, 4, vu, []),
  (.iconst (-1), 0, 0, 5, vi (-1), []),
  (.ireturn, 0, 0, 6, vu, []),
  (.aload_n 0, 0, 0, 7, vu, []),
  (.getfield 25, 6, 3, 8, vu, [2]),
  (.iload_n 1, 1, 0, 9, vu, []),
  (.aaload, 0, 0, 10, vu, []),
  (.invokestatic 239, 127, 1, 11, vu, [0, 0, 99]),
  (.ifCond .eq 9, 16, 0, 12, vu, []),
  (.aload_n 0, 0, 0, 13, vu, []),
  (.iconst 1, 0, 0, 14, vi 1, []),
  (.invokevirtual 61, 121, 2, 15, vu, [0, 0, 6]),
  (.ireturn, 0, 0, 16, vu, []),
  (.aload_n 0, 0, 0, 17, vu, []),
  (.getfield 21, 6, 2, 18, vu, [2]),
  (.aload_n 0, 0, 0, 19, vu, []),
  (.getfield 25, 6, 3, 20, vu, [2]),
  (.iload_n 1, 1, 0, 21, vu, []),
  (.aaload, 0, 0, 22, vu, []),
  (.invokevirtual 235, 49, 2, 23, vu, [0, 0, 5]),
  (.aload_n 0, 0, 0, 24, vu, []),
  (.getfield 21, 6, 2, 25, vu, [2]),
  (.getfield 195, 5, 4, 26, vu, [0]),
  (.ireturn, 0, 0, 27, vu, [])]
noncomputable def p_X_on : List Nat := [0, 1, 2, 5, 8, 9, 10, 11, 14, 15, 16, 19, 22, 23, 24, 27, 28, 29, 32, 33, 36, 37, 38, 41, 42, 45, 48]
abbrev n_X_fits : Nat := 95
noncomputable def i_X_fits : List Ins := [(.iload_n 1, 1, 0, 1, vu, []),
  (.invokestatic 242, 130, 1, 2, vu, [0, 0, 99]),
  (.ifCond .ne 5, 5, 0, 3, vu, []),
  (.iconst (-1), 0, 0, 4, vi (-1), []),
  (.ireturn, 0, 0, 5, vu, []),
  (.aload_n 0, 0, 0, 6, vu, []),
  (.getfield 32, 6, 4, 7, vu, [2]),
  (.aload_n 0, 0, 0, 8, vu, []),
  (.getfield 21, 6, 2, 9, vu, [2]),
  (.invokevirtual 245, 28, 2, 10, vu, [0, 0, 4]),
  (.aload_n 0, 0, 0, 11, vu, []),
  (.getfield 32, 6, 4, 12, vu, [2]),
  (.iload_n 1, 1, 0, 13, vu, []),
  (.invokevirtual 248, 32, 2, 14, vu, [0, 0, 4]),
  (.istore_n 2, 2, 0, 15, vu, []),
  (.iload_n 2, 2, 0, 16, vu, []),
  (.ifCond .ne 6, 19, 0, 17, vu, []),
  (.bipush (-9), 0, 0, 18, vi (-9), []),
  (.ireturn, 0, 0, 19, vu, []),
  (.aload_n 0, 0, 0, 20, vu, []),
  (.aload_n 0, 0, 0, 21, vu, []),
  (.getfield 32, 6, 4, 22, vu, [2]),
  (.iload_n 1, 1, 0, 23, vu, []),
  (.invokevirtual 251, 34, 2, 24, vu, [0, 0, 4]),
  (.iload_n 2, 2, 0, 25, vu, []),
  (.invokevirtual 79, 120, 3, 26, vu, [0, 0, 6]),
  (.ireturn, 0, 0, 27, vu, [])]
noncomputable def p_X_fits : List Nat := [0, 1, 4, 7, 8, 9, 10, 13, 14, 17, 20, 21, 24, 25, 28, 29, 30, 33, 35, 36, 37, 38, 41, 42, 45, 46, 49]
abbrev n_X_sure : Nat := 96
noncomputable def i_X_sure : List Ins := [(.iload_n 1, 1, 0, 1, vu, []),
  (.invokestatic 242, 130, 1, 2, vu, [0, 0, 99]),
  (.ifCond .ne 5, 5, 0, 3, vu, []),
  (.iconst (-1), 0, 0, 4, vi (-1), []),
  (.ireturn, 0, 0, 5, vu, []),
  (.aload_n 0, 0, 0, 6, vu, []),
  (.getfield 32, 6, 4, 7, vu, [2]),
  (.aload_n 0, 0, 0, 8, vu, []),
  (.getfield 21, 6, 2, 9, vu, [2]),
  (.invokevirtual 245, 28, 2, 10, vu, [0, 0, 4]),
  (.aload_n 0, 0, 0, 11, vu, []),
  (.getfield 32, 6, 4, 12, vu, [2]),
  (.iload_n 1, 1, 0, 13, vu, []),
  (.invokevirtual 248, 32, 2, 14, vu, [0, 0, 4]),
  (.ifCond .ne 9, 19, 0, 15, vu, []),
  (.aload_n 0, 0, 0, 16, vu, []),
  (.iconst 4, 0, 0, 17, vi 4, []),
  (.invokevirtual 61, 121, 2, 18, vu, [0, 0, 6]),
  (.ireturn, 0, 0, 19, vu, []),
  (.aload_n 0, 0, 0, 20, vu, []),
  (.aload_n 0, 0, 0, 21, vu, []),
  (.getfield 21, 6, 2, 22, vu, [2]),
  (.invokevirtual 254, 51, 1, 23, vu, [0, 0, 5]),
  (.aload_n 0, 0, 0, 24, vu, []),
  (.getfield 32, 6, 4, 25, vu, [2]),
  (.iload_n 1, 1, 0, 26, vu, []),
  (.invokevirtual 257, 36, 2, 27, vu, [0, 0, 4]),
  (.iconst (-1), 0, 0, 28, vi (-1), []),
  (.ixor, 0, 0, 29, vu, []),
  (.iand, 0, 0, 30, vu, []),
  (.aload_n 0, 0, 0, 31, vu, []),
  (.getfield 32, 6, 4, 32, vu, [2]),
  (.iload_n 1, 1, 0, 33, vu, []),
  (.invokevirtual 260, 35, 2, 34, vu, [0, 0, 4]),
  (.invokevirtual 79, 120, 3, 35, vu, [0, 0, 6]),
  (.ireturn, 0, 0, 36, vu, [])]
noncomputable def p_X_sure : List Nat := [0, 1, 4, 7, 8, 9, 10, 13, 14, 17, 20, 21, 24, 25, 28, 31, 32, 33, 36, 37, 38, 39, 42, 45, 46, 49, 50, 53, 54, 55, 56, 57, 60, 61, 64, 67]
abbrev n_X_odds : Nat := 97
noncomputable def i_X_odds : List Ins := [(.aload_n 0, 0, 0, 1, vu, []),
  (.getfield 21, 6, 2, 2, vu, [2]),
  (.iload_n 1, 1, 0, 3, vu, []),
  (.invokevirtual 124, 50, 2, 4, vu, [0, 0, 5]),
  (.ifCond .eq 10, 8, 0, 5, vu, []),
  (.iload_n 2, 2, 0, 6, vu, []),
  (.invokestatic 242, 130, 1, 7, vu, [0, 0, 99]),
  (.ifCond .ne 5, 10, 0, 8, vu, []),
  (.iconst (-1), 0, 0, 9, vi (-1), []),
  (.ireturn, 0, 0, 10, vu, []),
  (.aload_n 0, 0, 0, 11, vu, []),
  (.getfield 32, 6, 4, 12, vu, [2]),
  (.aload_n 0, 0, 0, 13, vu, []),
  (.getfield 21, 6, 2, 14, vu, [2]),
  (.invokevirtual 245, 28, 2, 15, vu, [0, 0, 4]),
  (.aload_n 0, 0, 0, 16, vu, []),
  (.getfield 32, 6, 4, 17, vu, [2]),
  (.iload_n 2, 2, 0, 18, vu, []),
  (.invokevirtual 248, 32, 2, 19, vu, [0, 0, 4]),
  (.istore_n 3, 3, 0, 20, vu, []),
  (.iload_n 3, 3, 0, 21, vu, []),
  (.ifCond .ne 9, 26, 0, 22, vu, []),
  (.aload_n 0, 0, 0, 23, vu, []),
  (.iconst 4, 0, 0, 24, vi 4, []),
  (.invokevirtual 61, 121, 2, 25, vu, [0, 0, 6]),
  (.ireturn, 0, 0, 26, vu, []),
  (.aload_n 0, 0, 0, 27, vu, []),
  (.getfield 32, 6, 4, 28, vu, [2]),
  (.iload_n 1, 1, 0, 29, vu, []),
  (.iload_n 2, 2, 0, 30, vu, []),
  (.invokevirtual 263, 33, 3, 31, vu, [0, 0, 4]),
  (.istore 4, 4, 0, 32, vu, []),
  (.aload_n 0, 0, 0, 33, vu, []),
  (.getfield 39, 6, 5, 34, vu, [2]),
  (.iload 4, 4, 0, 35, vu, []),
  (.i2l, 0, 0, 36, vu, []),
  (.iload_n 3, 3, 0, 37, vu, []),
  (.i2l, 0, 0, 38, vu, []),
  (.invokevirtual 266, 12, 3, 39, vu, [0, 0, 1]),
  (.iload 4, 4, 0, 40, vu, []),
  (.ireturn, 0, 0, 41, vu, [])]
noncomputable def p_X_odds : List Nat := [0, 1, 4, 5, 8, 11, 12, 15, 18, 19, 20, 21, 24, 25, 28, 31, 32, 35, 36, 39, 40, 41, 44, 45, 46, 49, 50, 51, 54, 55, 56, 59, 61, 62, 65, 67, 68, 69, 70, 73, 75]
abbrev n_X_thunder : Nat := 98
noncomputable def i_X_thunder : List Ins := [(.iload_n 1, 1, 0, 1, vu, []),
  (.invokestatic 242, 130, 1, 2, vu, [0, 0, 99]),
  (.ifCond .eq 13, 8, 0, 3, vu, []),
  (.iload_n 2, 2, 0, 4, vu, []),
  (.iconst 1, 0, 0, 5, vi 1, []),
  (.bipush 50, 0, 0, 6, vi 50, []),
  (.invokestatic 127, 129, 3, 7, vu, [0, 0, 99]),
  (.ifCond .ne 5, 10, 0, 8, vu, []),
  (.iconst (-1), 0, 0, 9, vi (-1), []),
  (.ireturn, 0, 0, 10, vu, []),
  (.aload_n 0, 0, 0, 11, vu, []),
  (.getfield 32, 6, 4, 12, vu, [2]),
  (.aload_n 0, 0, 0, 13, vu, []),
  (.getfield 21, 6, 2, 14, vu, [2]),
  (.invokevirtual 245, 28, 2, 15, vu, [0, 0, 4]),
  (.aload_n 0, 0, 0, 16, vu, []),
  (.getfield 32, 6, 4, 17, vu, [2]),
  (.iload_n 1, 1, 0, 18, vu, []),
  (.invokevirtual 248, 32, 2, 19, vu, [0, 0, 4]),
  (.ifCond .le 7, 22, 0, 20, vu, []),
  (.iconst 1, 0, 0, 21, vi 1, []),
  (.goto 4, 23, 0, 22, vu, []),
  (.iconst 0, 0, 0, 23, vi 0, []),
  (.istore_n 3, 3, 0, 24, vu, []),
  (.aload_n 0, 0, 0, 25, vu, []),
  (.getfield 32, 6, 4, 26, vu, [2]),
  (.iload_n 1, 1, 0, 27, vu, []),
  (.iload_n 2, 2, 0, 28, vu, []),
  (.isub, 0, 0, 29, vu, []),
  (.invokevirtual 248, 32, 2, 30, vu, [0, 0, 4]),
  (.ifCond .le 7, 33, 0, 31, vu, []),
  (.iconst 2, 0, 0, 32, vi 2, []),
  (.goto 4, 34, 0, 33, vu, []),
  (.iconst 0, 0, 0, 34, vi 0, []),
  (.istore 4, 4, 0, 35, vu, []),
  (.iload_n 3, 3, 0, 36, vu, []),
  (.iload 4, 4, 0, 37, vu, []),
  (.iadd, 0, 0, 38, vu, []),
  (.ireturn, 0, 0, 39, vu, [])]
noncomputable def p_X_thunder : List Nat := [0, 1, 4, 7, 8, 9, 11, 14, 17, 18, 19, 20, 23, 24, 27, 30, 31, 34, 35, 38, 41, 42, 45, 46, 47, 48, 51, 52, 53, 54, 57, 60, 61, 64, 65, 67, 68, 70, 71]
abbrev n_X_joined : Nat := 99
noncomputable def i_X_joined : List Ins := [(.aload_n 0, 0, 0, 1, vu, []),
  (.iload_n 1, 1, 0, 2, vu, []),
  (.invokevirtual 57, 123, 2, 3, vu, [0, 0, 6]),
  (.ifCond .ne 5, 6, 0, 4, vu, []),
  (.iconst (-1), 0, 0, 5, vi (-1), []),
  (.ireturn, 0, 0, 6, vu, []),
  (.aload_n 0, 0, 0, 7, vu, []),
  (.getfield 11, 6, 0, 8, vu, [2]),
  (.iload_n 1, 1, 0, 9, vu, []),
  (.aaload, 0, 0, 10, vu, []),
  (.astore_n 2, 2, 0, 11, vu, []),
  (.aload_n 2, 2, 0, 12, vu, []),
  (.invokevirtual 83, 1, 1, 13, vu, [0, 0, 0]),
  (.ifCond .eq 9, 18, 0, 14, vu, []),
  (.aload_n 0, 0, 0, 15, vu, []),
  (.iconst 1, 0, 0, 16, vi 1, []),
  (.invokevirtual 61, 121, 2, 17, vu, [0, 0, 6]),
  (.ireturn, 0, 0, 18, vu, []),
  (.aload_n 2, 2, 0, 19, vu, []),
  (.getfield 98, 0, 1, 20, vu, [0]),
  (.ifCond .ne 9, 25, 0, 21, vu, []),
  (.aload_n 0, 0, 0, 22, vu, []),
  (.iconst 5, 0, 0, 23, vi 5, []),
  (.invokevirtual 61, 121, 2, 24, vu, [0, 0, 6]),
  (.ireturn, 0, 0, 25, vu, []),
  (.iconst 0, 0, 0, 26, vi 0, []),
  (.istore_n 3, 3, 0, 27, vu, []),
  (.iload_n 3, 3, 0, 28, vu, []),
  (.aload_n 2, 2, 0, 29, vu, []),
  (.getfield 98, 0, 1, 30, vu, [0]),
  (.if_icmp .ge 26, 42, 0, 31, vu, []),
  (.aload_n 2, 2, 0, 32, vu, []),
  (.iload_n 3, 3, 0, 33, vu, []),
  (.invokevirtual 73, 4, 2, 34, vu, [0, 0, 0]),
  (.invokestatic 242, 130, 1, 35, vu, [0, 0, 99]),
  (.ifCond .ne 9, 40, 0, 36, vu, []),
  (.aload_n 0, 0, 0, 37, vu, []),
  (.iconst 3, 0, 0, 38, vi 3, []),
  (.invokevirtual 61, 121, 2, 39, vu, [0, 0, 6]),
  (.ireturn, 0, 0, 40, vu, []),
  (.iinc 3 1, 3, 0, 41, vi 1, []),
  (.goto (-28), 27, 0, 42, vu, []),
  (.aload_n 0, 0, 0, 43, vu, []),
  (.getfield 32, 6, 4, 44, vu, [2]),
  (.aload_n 0, 0, 0, 45, vu, []),
  (.getfield 21, 6, 2, 46, vu, [2]),
  (.invokevirtual 245, 28, 2, 47, vu, [0, 0, 4]),
  (.aload_n 0, 0, 0, 48, vu, []),
  (.getfield 32, 6, 4, 49, vu, [2]),
  (.aload_n 2, 2, 0, 50, vu, []),
  (.invokevirtual 270, 37, 2, 51, vu, [0, 0, 4]),
  (.ireturn, 0, 0, 52, vu, [])]
noncomputable def p_X_joined : List Nat := [0, 1, 2, 5, 8, 9, 10, 11, 14, 15, 16, 17, 18, 21, 24, 25, 26, 29, 30, 31, 34, 37, 38, 39, 42, 43, 44, 45, 46, 47, 50, 53, 54, 55, 58, 61, 64, 65, 66, 69, 70, 73, 76, 77, 80, 81, 84, 87, 88, 91, 92, 95]
abbrev n_X_silence : Nat := 100
noncomputable def i_X_silence : List Ins := [(.iload_n 1, 1, 0, 1, vu, []),
  (.invokestatic 242, 130, 1, 2, vu, [0, 0, 99]),
  (.ifCond .ne 5, 5, 0, 3, vu, []),
  (.iconst (-1), 0, 0, 4, vi (-1), []),
  (.ireturn, 0, 0, 5, vu, []),
  (.aload_n 0, 0, 0, 6, vu, []),
  (.getfield 32, 6, 4, 7, vu, [2]),
  (.aload_n 0, 0, 0, 8, vu, []),
  (.getfield 21, 6, 2, 9, vu, [2]),
  (.invokevirtual 245, 28, 2, 10, vu, [0, 0, 4]),
  (.aload_n 0, 0, 0, 11, vu, []),
  (.getfield 32, 6, 4, 12, vu, [2]),
  (.iload_n 1, 1, 0, 13, vu, []),
  (.invokevirtual 248, 32, 2, 14, vu, [0, 0, 4]),
  (.istore_n 2, 2, 0, 15, vu, []),
  (.iload_n 2, 2, 0, 16, vu, []),
  (.ifCond .ne 9, 21, 0, 17, vu, []),
  (.aload_n 0, 0, 0, 18, vu, []),
  (.iconst 4, 0, 0, 19, vi 4, []),
  (.invokevirtual 61, 121, 2, 20, vu, [0, 0, 6]),
  (.ireturn, 0, 0, 21, vu, []),
  (.bipush (-9), 0, 0, 22, vi (-9), []),
  (.istore_n 3, 3, 0, 23, vu, []),
  (.iconst 0, 0, 0, 24, vi 0, []),
  (.istore 4, 4, 0, 25, vu, []),
  (.iconst 0, 0, 0, 26, vi 0, []),
  (.istore 5, 5, 0, 27, vu, []),
  (.iload 5, 5, 0, 28, vu, []),
  (.aload_n 0, 0, 0, 29, vu, []),
  (.getfield 21, 6, 2, 30, vu, [2]),
  (.getfield 121, 5, 3, 31, vu, [0]),
  (.if_icmp .ge 55, 60, 0, 32, vu, []),
  (.aload_n 0, 0, 0, 33, vu, []),
  (.getfield 32, 6, 4, 34, vu, [2]),
  (.iload 5, 5, 0, 35, vu, []),
  (.iload_n 1, 1, 0, 36, vu, []),
  (.invokevirtual 263, 33, 3, 37, vu, [0, 0, 4]),
  (.istore 6, 6, 0, 38, vu, []),
  (.iload_n 3, 3, 0, 39, vu, []),
  (.bipush (-9), 0, 0, 40, vi (-9), []),
  (.if_icmp .eq 24, 54, 0, 41, vu, []),
  (.iconst 2, 0, 0, 42, vi 2, []),
  (.iload 6, 6, 0, 43, vu, []),
  (.imul, 0, 0, 44, vu, []),
  (.iload_n 2, 2, 0, 45, vu, []),
  (.isub, 0, 0, 46, vu, []),
  (.invokestatic 273, 5, 0, 47, vu, []),
  (.iconst 2, 0, 0, 48, vi 2, []),
  (.iload 4, 4, 0, 49, vu, []),
  (.imul, 0, 0, 50, vu, []),
  (.iload_n 2, 2, 0, 51, vu, []),
  (.isub, 0, 0, 52, vu, []),
  (.invokestatic 273, 5, 0, 53, vu, []),
  (.if_icmp .ge 10, 58, 0, 54, vu, []),
  (.iload 5, 5, 0, 55, vu, []),
  (.istore_n 3, 3, 0, 56, vu, []),
  (.iload 6, 6, 0, 57, vu, []),
  (.istore 4, 4, 0, 58, vu, []),
  (.iinc 5 1, 5, 0, 59, vi 1, []),
  (.goto (-61), 27, 0, 60, vu, []),
  (.iload_n 3, 3, 0, 61, vu, []),
  (.bipush (-9), 0, 0, 62, vi (-9), []),
  (.if_icmp .ne 8, 65, 0, 63, vu, []),
  (.bipush (-9), 0, 0, 64, vi (-9), []),
  (.goto 10, 69, 0, 65, vu, []),
  (.aload_n 0, 0, 0, 66, vu, []),
  (.iload 4, 4, 0, 67, vu, []),
  (.iload_n 3, 3, 0, 68, vu, []),
  (.invokevirtual 79, 120, 3, 69, vu, [0, 0, 6]),
  (.ireturn, 0, 0, 70, vu, [])]
noncomputable def p_X_silence : List Nat := [0, 1, 4, 7, 8, 9, 10, 13, 14, 17, 20, 21, 24, 25, 28, 29, 30, 33, 34, 35, 38, 39, 41, 42, 43, 45, 46, 48, 50, 51, 54, 57, 60, 61, 64, 66, 67, 70, 72, 73, 75, 78, 79, 81, 82, 83, 84, 87, 88, 90, 91, 92, 93, 96, 99, 101, 102, 104, 106, 109, 112, 113, 115, 118, 120, 123, 124, 126, 127, 130]
abbrev n_X_rises : Nat := 101
noncomputable def i_X_rises : List Ins := [(.aload_n 0, 0, 0, 1, vu, []),
  (.getfield 21, 6, 2, 2, vu, [2]),
  (.getfield 121, 5, 3, 3, vu, [0]),
  (.ifCond .ne 6, 6, 0, 4, vu, []),
  (.bipush (-4), 0, 0, 5, vi (-4), []),
  (.ireturn, 0, 0, 6, vu, []),
  (.aload_n 0, 0, 0, 7, vu, []),
  (.getfield 32, 6, 4, 8, vu, [2]),
  (.aload_n 0, 0, 0, 9, vu, []),
  (.getfield 21, 6, 2, 10, vu, [2]),
  (.invokevirtual 245, 28, 2, 11, vu, [0, 0, 4]),
  (.aload_n 0, 0, 0, 12, vu, []),
  (.aload_n 0, 0, 0, 13, vu, []),
  (.getfield 32, 6, 4, 14, vu, [2]),
  (.invokevirtual 276, 40, 1, 15, vu, [0, 0, 4]),
  (.aload_n 0, 0, 0, 16, vu, []),
  (.getfield 32, 6, 4, 17, vu, [2]),
  (.invokevirtual 279, 39, 1, 18, vu, [0, 0, 4]),
  (.invokevirtual 79, 120, 3, 19, vu, [0, 0, 6]),
  (.ireturn, 0, 0, 20, vu, [])]
noncomputable def p_X_rises : List Nat := [0, 1, 4, 7, 10, 12, 13, 14, 17, 18, 21, 24, 25, 26, 29, 32, 33, 36, 39, 42]
abbrev n_X_wedding : Nat := 102
noncomputable def i_X_wedding : List Ins := [(.iload_n 1, 1, 0, 1, vu, []),
  (.invokestatic 242, 130, 1, 2, vu, [0, 0, 99]),
  (.ifCond .ne 5, 5, 0, 3, vu, []),
  (.iconst (-1), 0, 0, 4, vi (-1), []),
  (.ireturn, 0, 0, 5, vu, []),
  (.aload_n 0, 0, 0, 6, vu, []),
  (.getfield 32, 6, 4, 7, vu, [2]),
  (.aload_n 0, 0, 0, 8, vu, []),
  (.getfield 21, 6, 2, 9, vu, [2]),
  (.invokevirtual 245, 28, 2, 10, vu, [0, 0, 4]),
  (.aload_n 0, 0, 0, 11, vu, []),
  (.getfield 32, 6, 4, 12, vu, [2]),
  (.aload_n 0, 0, 0, 13, vu, []),
  (.getfield 21, 6, 2, 14, vu, [2]),
  (.iload_n 1, 1, 0, 15, vu, []),
  (.invokevirtual 282, 41, 3, 16, vu, [0, 0, 4]),
  (.istore_n 2, 2, 0, 17, vu, []),
  (.iload_n 2, 2, 0, 18, vu, []),
  (.ifCond .ge 8, 21, 0, 19, vu, []),
  (.bipush (-9), 0, 0, 20, vi (-9), []),
  (.goto 16, 28, 0, 21, vu, []),
  (.aload_n 0, 0, 0, 22, vu, []),
  (.iload_n 2, 2, 0, 23, vu, []),
  (.aload_n 0, 0, 0, 24, vu, []),
  (.getfield 32, 6, 4, 25, vu, [2]),
  (.iload_n 2, 2, 0, 26, vu, []),
  (.invokevirtual 286, 30, 2, 27, vu, [0, 0, 4]),
  (.invokevirtual 79, 120, 3, 28, vu, [0, 0, 6]),
  (.ireturn, 0, 0, 29, vu, [])]
noncomputable def p_X_wedding : List Nat := [0, 1, 4, 7, 8, 9, 10, 13, 14, 17, 20, 21, 24, 25, 28, 29, 32, 33, 34, 37, 39, 42, 43, 44, 45, 48, 49, 52, 55]
abbrev n_X_feathers : Nat := 103
noncomputable def i_X_feathers : List Ins := [(.aload_n 0, 0, 0, 1, vu, []),
  (.getfield 21, 6, 2, 2, vu, [2]),
  (.iload_n 1, 1, 0, 3, vu, []),
  (.invokevirtual 192, 52, 2, 4, vu, [0, 0, 5]),
  (.ifCond .eq 21, 14, 0, 5, vu, []),
  (.iload_n 2, 2, 0, 6, vu, []),
  (.iconst 0, 0, 0, 7, vi 0, []),
  (.bipush 20, 0, 0, 8, vi 20, []),
  (.invokestatic 127, 129, 3, 9, vu, [0, 0, 99]),
  (.ifCond .eq 11, 14, 0, 10, vu, []),
  (.aload_n 0, 0, 0, 11, vu, []),
  (.iload_n 3, 3, 0, 12, vu, []),
  (.invokevirtual 57, 123, 2, 13, vu, [0, 0, 6]),
  (.ifCond .ne 5, 16, 0, 14, vu, []),
  (.iconst (-1), 0, 0, 15, vi (-1), []),
  (.ireturn, 0, 0, 16, vu, []),
  (.aload_n 0, 0, 0, 17, vu, []),
  (.getfield 21, 6, 2, 18, vu, [2]),
  (.getfield 121, 5, 3, 19, vu, [0]),
  (.ifCond .ne 6, 22, 0, 20, vu, []),
  (.bipush (-4), 0, 0, 21, vi (-4), []),
  (.ireturn, 0, 0, 22, vu, []),
  (.aload_n 0, 0, 0, 23, vu, []),
  (.getfield 11, 6, 0, 24, vu, [2]),
  (.iload_n 3, 3, 0, 25, vu, []),
  (.aaload, 0, 0, 26, vu, []),
  (.astore 4, 4, 0, 27, vu, []),
  (.aload 4, 4, 0, 28, vu, []),
  (.aload_n 0, 0, 0, 29, vu, []),
  (.getfield 21, 6, 2, 30, vu, [2]),
  (.getfield 121, 5, 3, 31, vu, [0]),
  (.iconst 0, 0, 0, 32, vi 0, []),
  (.invokevirtual 65, 6, 3, 33, vu, [0, 0, 0]),
  (.aload_n 0, 0, 0, 34, vu, []),
  (.getfield 21, 6, 2, 35, vu, [2]),
  (.iload_n 1, 1, 0, 36, vu, []),
  (.invokevirtual 289, 55, 2, 37, vu, [0, 0, 5]),
  (.istore 5, 5, 0, 38, vu, []),
  (.iconst 0, 0, 0, 39, vi 0, []),
  (.istore 6, 6, 0, 40, vu, []),
  (.iload 6, 6, 0, 41, vu, []),
  (.iload_n 2, 2, 0, 42, vu, []),
  (.if_icmp .ge 45, 62, 0, 43, vu, []),
  (.aload_n 0, 0, 0, 44, vu, []),
  (.getfield 21, 6, 2, 45, vu, [2]),
  (.iload_n 1, 1, 0, 46, vu, []),
  (.aload 4, 4, 0, 47, vu, []),
  (.invokevirtual 290, 59, 3, 48, vu, [0, 0, 5]),
  (.istore 7, 7, 0, 49, vu, []),
  (.iload 7, 7, 0, 50, vu, []),
  (.ifCond .lt 22, 60, 0, 51, vu, []),
  (.aload 4, 4, 0, 52, vu, []),
  (.iload 7, 7, 0, 53, vu, []),
  (.aload 4, 4, 0, 54, vu, []),
  (.iload 7, 7, 0, 55, vu, []),
  (.invokevirtual 73, 4, 2, 56, vu, [0, 0, 0]),
  (.iconst 1, 0, 0, 57, vi 1, []),
  (.iadd, 0, 0, 58, vu, []),
  (.invokevirtual 76, 5, 3, 59, vu, [0, 0, 0]),
  (.iinc 5 (-1), 5, 0, 60, vi (-1), []),
  (.iinc 6 1, 6, 0, 61, vi 1, []),
  (.goto (-45), 40, 0, 62, vu, []),
  (.iload 5, 5, 0, 63, vu, []),
  (.ireturn, 0, 0, 64, vu, [])]
noncomputable def p_X_feathers : List Nat := [0, 1, 4, 5, 8, 11, 12, 13, 15, 18, 21, 22, 23, 26, 29, 30, 31, 32, 35, 38, 41, 43, 44, 45, 48, 49, 50, 52, 54, 55, 58, 61, 62, 65, 66, 69, 70, 73, 75, 76, 78, 80, 81, 84, 85, 88, 89, 91, 94, 96, 98, 101, 103, 105, 107, 109, 112, 113, 114, 117, 120, 123, 126, 128]
abbrev n_X_most : Nat := 104
noncomputable def i_X_most : List Ins := [(.aload_n 0, 0, 0, 1, vu, []),
  (.getfield 32, 6, 4, 2, vu, [2]),
  (.aload_n 0, 0, 0, 3, vu, []),
  (.getfield 21, 6, 2, 4, vu, [2]),
  (.invokevirtual 245, 28, 2, 5, vu, [0, 0, 4]),
  (.aload_n 0, 0, 0, 6, vu, []),
  (.getfield 32, 6, 4, 7, vu, [2]),
  (.bipush 60, 0, 0, 8, vi 60, []),
  (.aload_n 0, 0, 0, 9, vu, []),
  (.getfield 21, 6, 2, 10, vu, [2]),
  (.getfield 201, 5, 7, 11, vu, [0]),
  (.isub, 0, 0, 12, vu, []),
  (.invokevirtual 294, 42, 2, 13, vu, [0, 0, 4]),
  (.istore_n 1, 1, 0, 14, vu, []),
  (.aload_n 0, 0, 0, 15, vu, []),
  (.iload_n 1, 1, 0, 16, vu, []),
  (.iload_n 1, 1, 0, 17, vu, []),
  (.invokestatic 297, 224, 1, 18, vu, [0, 0, 99]),
  (.invokevirtual 79, 120, 3, 19, vu, [0, 0, 6]),
  (.ireturn, 0, 0, 20, vu, [])]
noncomputable def p_X_most : List Nat := [0, 1, 4, 5, 8, 11, 12, 15, 17, 18, 21, 24, 25, 28, 29, 30, 31, 32, 35, 38]
abbrev n_X_hours : Nat := 105
noncomputable def i_X_hours : List Ins := [(.aload_n 0, 0, 0, 1, vu, []),
  (.getfield 21, 6, 2, 2, vu, [2]),
  (.iload_n 1, 1, 0, 3, vu, []),
  (.invokevirtual 192, 52, 2, 4, vu, [0, 0, 5]),
  (.ifCond .eq 14, 10, 0, 5, vu, []),
  (.iload_n 2, 2, 0, 6, vu, []),
  (.iconst 1, 0, 0, 7, vi 1, []),
  (.sipush 200, 0, 0, 8, vi 200, []),
  (.invokestatic 127, 129, 3, 9, vu, [0, 0, 99]),
  (.ifCond .ne 5, 12, 0, 10, vu, []),
  (.iconst (-1), 0, 0, 11, vi (-1), []),
  (.ireturn, 0, 0, 12, vu, []),
  (.aload_n 0, 0, 0, 13, vu, []),
  (.getfield 32, 6, 4, 14, vu, [2]),
  (.aload_n 0, 0, 0, 15, vu, []),
  (.getfield 21, 6, 2, 16, vu, [2]),
  (.invokevirtual 245, 28, 2, 17, vu, [0, 0, 4]),
  (.iconst 0, 0, 0, 18, vi 0, []),
  (.istore_n 3, 3, 0, 19, vu, []),
  (.iload_n 3, 3, 0, 20, vu, []),
  (.aload_n 0, 0, 0, 21, vu, []),
  (.getfield 21, 6, 2, 22, vu, [2]),
  (.getfield 121, 5, 3, 23, vu, [0]),
  (.if_icmp .ge 32, 38, 0, 24, vu, []),
  (.iload_n 1, 1, 0, 25, vu, []),
  (.iload_n 3, 3, 0, 26, vu, []),
  (.invokestatic 302, 131, 2, 27, vu, [0, 0, 99]),
  (.ifCond .eq 18, 36, 0, 28, vu, []),
  (.aload_n 0, 0, 0, 29, vu, []),
  (.getfield 21, 6, 2, 30, vu, [2]),
  (.iload_n 3, 3, 0, 31, vu, []),
  (.invokevirtual 305, 54, 2, 32, vu, [0, 0, 5]),
  (.iload_n 2, 2, 0, 33, vu, []),
  (.if_icmp .le 6, 36, 0, 34, vu, []),
  (.bipush (-9), 0, 0, 35, vi (-9), []),
  (.ireturn, 0, 0, 36, vu, []),
  (.iinc 3 1, 3, 0, 37, vi 1, []),
  (.goto (-37), 19, 0, 38, vu, []),
  (.aload_n 0, 0, 0, 39, vu, []),
  (.getfield 32, 6, 4, 40, vu, [2]),
  (.iload_n 1, 1, 0, 41, vu, []),
  (.iload_n 2, 2, 0, 42, vu, []),
  (.invokevirtual 308, 43, 3, 43, vu, [0, 0, 4]),
  (.istore_n 3, 3, 0, 44, vu, []),
  (.aload_n 0, 0, 0, 45, vu, []),
  (.aload_n 0, 0, 0, 46, vu, []),
  (.getfield 32, 6, 4, 47, vu, [2]),
  (.iload_n 1, 1, 0, 48, vu, []),
  (.iload_n 2, 2, 0, 49, vu, []),
  (.invokevirtual 311, 44, 3, 50, vu, [0, 0, 4]),
  (.iload_n 3, 3, 0, 51, vu, []),
  (.invokevirtual 79, 120, 3, 52, vu, [0, 0, 6]),
  (.ireturn, 0, 0, 53, vu, [])]
noncomputable def p_X_hours : List Nat := [0, 1, 4, 5, 8, 11, 12, 13, 16, 19, 22, 23, 24, 25, 28, 29, 32, 35, 36, 37, 38, 39, 42, 45, 48, 49, 50, 53, 56, 57, 60, 61, 64, 65, 68, 70, 71, 74, 77, 78, 81, 82, 83, 86, 87, 88, 89, 92, 93, 94, 97, 98, 101]
abbrev n_X_year : Nat := 106
noncomputable def i_X_year : List Ins := [(.aload_n 0, 0, 0, 1, vu, []),
  (.iload_n 1, 1, 0, 2, vu, []),
  (.invokevirtual 57, 123, 2, 3, vu, [0, 0, 6]),
  (.ifCond .ne 5, 6, 0, 4, vu, []),
  (.iconst (-1), 0, 0, 5, vi (-1), []),
  (.ireturn, 0, 0, 6, vu, []),
  (.aload_n 0, 0, 0, 7, vu, []),
  (.getfield 21, 6, 2, 8, vu, [2]),
  (.getfield 121, 5, 3, 9, vu, [0]),
  (.ifCond .ne 6, 12, 0, 10, vu, []),
  (.bipush (-4), 0, 0, 11, vi (-4), []),
  (.ireturn, 0, 0, 12, vu, []),
  (.aload_n 0, 0, 0, 13, vu, []),
  (.getfield 11, 6, 0, 14, vu, [2]),
  (.iload_n 1, 1, 0, 15, vu, []),
  (.aaload, 0, 0, 16, vu, []),
  (.astore_n 2, 2, 0, 17, vu, []),
  (.aload_n 2, 2, 0, 18, vu, []),
  (.invokevirtual 83, 1, 1, 19, vu, [0, 0, 0]),
  (.ifCond .eq 9, 24, 0, 20, vu, []),
  (.aload_n 0, 0, 0, 21, vu, []),
  (.iconst 1, 0, 0, 22, vi 1, []),
  (.invokevirtual 61, 121, 2, 23, vu, [0, 0, 6]),
  (.ireturn, 0, 0, 24, vu, []),
  (.iconst 0, 0, 0, 25, vi 0, []),
  (.istore_n 3, 3, 0, 26, vu, []),
  (.iload_n 3, 3, 0, 27, vu, []),
  (.aload_n 2, 2, 0, 28, vu, []),
  (.getfield 98, 0, 1, 29, vu, [0]),
  (.if_icmp .ge 30, 43, 0, 30, vu, []),
  (.aload_n 0, 0, 0, 31, vu, []),
  (.getfield 21, 6, 2, 32, vu, [2]),
  (.aload_n 2, 2, 0, 33, vu, []),
  (.iload_n 3, 3, 0, 34, vu, []),
  (.invokevirtual 73, 4, 2, 35, vu, [0, 0, 0]),
  (.invokevirtual 192, 52, 2, 36, vu, [0, 0, 5]),
  (.ifCond .ne 9, 41, 0, 37, vu, []),
  (.aload_n 0, 0, 0, 38, vu, []),
  (.iconst 3, 0, 0, 39, vi 3, []),
  (.invokevirtual 61, 121, 2, 40, vu, [0, 0, 6]),
  (.ireturn, 0, 0, 41, vu, []),
  (.iinc 3 1, 3, 0, 42, vi 1, []),
  (.goto (-32), 26, 0, 43, vu, []),
  (.iconst 0, 0, 0, 44, vi 0, []),
  (.istore_n 3, 3, 0, 45, vu, []),
  (.iconst 0, 0, 0, 46, vi 0, []),
  (.istore 4, 4, 0, 47, vu, []),
  (.iload 4, 4, 0, 48, vu, []),
  (.aload_n 2, 2, 0, 49, vu, []),
  (.getfield 98, 0, 1, 50, vu, [0]),
  (.if_icmp .ge 51, 75, 0, 51, vu, []),
  (.iload_n 3, 3, 0, 52, vu, []),
  (.aload_n 0, 0, 0, 53, vu, []),
  (.getfield 21, 6, 2, 54, vu, [2]),
  (.aload_n 2, 2, 0, 55, vu, []),
  (.iload 4, 4, 0, 56, vu, []),
  (.invokevirtual 73, 4, 2, 57, vu, [0, 0, 0]),
  (.invokevirtual 289, 55, 2, 58, vu, [0, 0, 5]),
  (.iadd, 0, 0, 59, vu, []),
  (.istore 5, 5, 0, 60, vu, []),
  (.iload 5, 5, 0, 61, vu, []),
  (.bipush 60, 0, 0, 62, vi 60, []),
  (.if_icmp .le 11, 68, 0, 63, vu, []),
  (.aload_n 0, 0, 0, 64, vu, []),
  (.iload_n 3, 3, 0, 65, vu, []),
  (.iload 4, 4, 0, 66, vu, []),
  (.invokevirtual 79, 120, 3, 67, vu, [0, 0, 6]),
  (.ireturn, 0, 0, 68, vu, []),
  (.aload_n 0, 0, 0, 69, vu, []),
  (.getfield 21, 6, 2, 70, vu, [2]),
  (.iload 5, 5, 0, 71, vu, []),
  (.invokevirtual 314, 60, 2, 72, vu, [0, 0, 5]),
  (.istore_n 3, 3, 0, 73, vu, []),
  (.iinc 4 1, 4, 0, 74, vi 1, []),
  (.goto (-54), 47, 0, 75, vu, []),
  (.aload_n 0, 0, 0, 76, vu, []),
  (.iload_n 3, 3, 0, 77, vu, []),
  (.aload_n 2, 2, 0, 78, vu, []),
  (.getfield 98, 0, 1, 79, vu, [0]),
  (.invokevirtual 79, 120, 3, 80, vu, [0, 0, 6]),
  (.ireturn, 0, 0, 81, vu, [])]
noncomputable def p_X_year : List Nat := [0, 1, 2, 5, 8, 9, 10, 11, 14, 17, 20, 22, 23, 24, 27, 28, 29, 30, 31, 34, 37, 38, 39, 42, 43, 44, 45, 46, 47, 50, 53, 54, 57, 58, 59, 62, 65, 68, 69, 70, 73, 74, 77, 80, 81, 82, 83, 85, 87, 88, 91, 94, 95, 96, 99, 100, 102, 105, 108, 109, 111, 113, 115, 118, 119, 120, 122, 125, 126, 127, 130, 132, 135, 136, 139, 142, 143, 144, 145, 148, 151]
abbrev n_X_debt : Nat := 107
noncomputable def i_X_debt : List Ins := [(.aload_n 0, 0, 0, 1, vu, []),
  (.getfield 21, 6, 2, 2, vu, [2]),
  (.iload_n 1, 1, 0, 3, vu, []),
  (.invokevirtual 124, 50, 2, 4, vu, [0, 0, 5]),
  (.ifCond .eq 29, 18, 0, 5, vu, []),
  (.aload_n 0, 0, 0, 6, vu, []),
  (.getfield 21, 6, 2, 7, vu, [2]),
  (.iload_n 2, 2, 0, 8, vu, []),
  (.invokevirtual 124, 50, 2, 9, vu, [0, 0, 5]),
  (.ifCond .eq 18, 18, 0, 10, vu, []),
  (.iload_n 1, 1, 0, 11, vu, []),
  (.iload_n 2, 2, 0, 12, vu, []),
  (.if_icmp .eq 13, 18, 0, 13, vu, []),
  (.iload_n 3, 3, 0, 14, vu, []),
  (.iconst 0, 0, 0, 15, vi 0, []),
  (.bipush 99, 0, 0, 16, vi 99, []),
  (.invokestatic 127, 129, 3, 17, vu, [0, 0, 99]),
  (.ifCond .ne 5, 20, 0, 18, vu, []),
  (.iconst (-1), 0, 0, 19, vi (-1), []),
  (.ireturn, 0, 0, 20, vu, []),
  (.aload_n 0, 0, 0, 21, vu, []),
  (.getfield 21, 6, 2, 22, vu, [2]),
  (.getfield 317, 5, 2, 23, vu, [2]),
  (.iload_n 1, 1, 0, 24, vu, []),
  (.aaload, 0, 0, 25, vu, []),
  (.iload_n 2, 2, 0, 26, vu, []),
  (.iaload, 0, 0, 27, vu, []),
  (.istore 4, 4, 0, 28, vu, []),
  (.aload_n 0, 0, 0, 29, vu, []),
  (.getfield 21, 6, 2, 30, vu, [2]),
  (.getfield 317, 5, 2, 31, vu, [2]),
  (.iload_n 1, 1, 0, 32, vu, []),
  (.aaload, 0, 0, 33, vu, []),
  (.iload_n 2, 2, 0, 34, vu, []),
  (.iload_n 3, 3, 0, 35, vu, []),
  (.iastore, 0, 0, 36, vu, []),
  (.iload 4, 4, 0, 37, vu, []),
  (.ireturn, 0, 0, 38, vu, [])]
noncomputable def p_X_debt : List Nat := [0, 1, 4, 5, 8, 11, 12, 15, 16, 19, 22, 23, 24, 27, 28, 29, 31, 34, 37, 38, 39, 40, 43, 46, 47, 48, 49, 50, 52, 53, 56, 59, 60, 61, 62, 63, 64, 66]
abbrev n_X_balance : Nat := 108
noncomputable def i_X_balance : List Ins := [(.aload_n 0, 0, 0, 1, vu, []),
  (.getfield 21, 6, 2, 2, vu, [2]),
  (.iload_n 1, 1, 0, 3, vu, []),
  (.invokevirtual 124, 50, 2, 4, vu, [0, 0, 5]),
  (.ifCond .ne 5, 7, 0, 5, vu, []),
  (.iconst (-1), 0, 0, 6, vi (-1), []),
  (.ireturn, 0, 0, 7, vu, []),
  (.aload_n 0, 0, 0, 8, vu, []),
  (.aload_n 0, 0, 0, 9, vu, []),
  (.getfield 21, 6, 2, 10, vu, [2]),
  (.iload_n 1, 1, 0, 11, vu, []),
  (.invokevirtual 321, 67, 2, 12, vu, [0, 0, 5]),
  (.iconst 1, 0, 0, 13, vi 1, []),
  (.invokevirtual 79, 120, 3, 14, vu, [0, 0, 6]),
  (.ireturn, 0, 0, 15, vu, [])]
noncomputable def p_X_balance : List Nat := [0, 1, 4, 5, 8, 11, 12, 13, 14, 15, 18, 19, 22, 23, 26]
abbrev n_X_payments : Nat := 109
noncomputable def i_X_payments : List Ins := [(.aload_n 0, 0, 0, 1, vu, []),
  (.getfield 32, 6, 4, 2, vu, [2]),
  (.aload_n 0, 0, 0, 3, vu, []),
  (.getfield 21, 6, 2, 4, vu, [2]),
  (.invokevirtual 245, 28, 2, 5, vu, [0, 0, 4]),
  (.aload_n 0, 0, 0, 6, vu, []),
  (.getfield 32, 6, 4, 7, vu, [2]),
  (.aload_n 0, 0, 0, 8, vu, []),
  (.getfield 21, 6, 2, 9, vu, [2]),
  (.invokevirtual 324, 45, 2, 10, vu, [0, 0, 4]),
  (.ireturn, 0, 0, 11, vu, [])]
noncomputable def p_X_payments : List Nat := [0, 1, 4, 5, 8, 11, 12, 15, 16, 19, 22]
abbrev n_X_net : Nat := 110
noncomputable def i_X_net : List Ins := [(.aload_n 0, 0, 0, 1, vu, []),
  (.getfield 21, 6, 2, 2, vu, [2]),
  (.invokevirtual 328, 68, 1, 3, vu, [0, 0, 5]),
  (.ireturn, 0, 0, 4, vu, [])]
noncomputable def p_X_net : List Nat := [0, 1, 4, 7]
abbrev n_X_crickets : Nat := 111
noncomputable def i_X_crickets : List Ins := [(.iload_n 1, 1, 0, 1, vu, []),
  (.iconst 1, 0, 0, 2, vi 1, []),
  (.bipush 60, 0, 0, 3, vi 60, []),
  (.invokestatic 127, 129, 3, 4, vu, [0, 0, 99]),
  (.ifCond .eq 14, 10, 0, 5, vu, []),
  (.iload_n 2, 2, 0, 6, vu, []),
  (.iconst 1, 0, 0, 7, vi 1, []),
  (.ldc_w 331, 0, 0, 8, vi 2147483646, []),
  (.invokestatic 127, 129, 3, 9, vu, [0, 0, 99]),
  (.ifCond .ne 5, 12, 0, 10, vu, []),
  (.iconst (-1), 0, 0, 11, vi (-1), []),
  (.ireturn, 0, 0, 12, vu, []),
  (.aload_n 0, 0, 0, 13, vu, []),
  (.getfield 21, 6, 2, 14, vu, [2]),
  (.getfield 121, 5, 3, 15, vu, [0]),
  (.ifCond .ne 6, 18, 0, 16, vu, []),
  (.bipush (-4), 0, 0, 17, vi (-4), []),
  (.ireturn, 0, 0, 18, vu, []),
  (.iload_n 2, 2, 0, 19, vu, []),
  (.istore_n 3, 3, 0, 20, vu, []),
  (.iconst 0, 0, 0, 21, vi 0, []),
  (.istore 4, 4, 0, 22, vu, []),
  (.iconst 0, 0, 0, 23, vi 0, []),
  (.istore 5, 5, 0, 24, vu, []),
  (.iconst 0, 0, 0, 25, vi 0, []),
  (.istore 6, 6, 0, 26, vu, []),
  (.iconst 0, 0, 0, 27, vi 0, []),
  (.istore 7, 7, 0, 28, vu, []),
  (.iload 7, 7, 0, 29, vu, []),
  (.iload_n 1, 1, 0, 30, vu, []),
  (.if_icmp .ge 106, 81, 0, 31, vu, []),
  (.iconst 0, 0, 0, 32, vi 0, []),
  (.istore 8, 8, 0, 33, vu, []),
  (.iconst 0, 0, 0, 34, vi 0, []),
  (.istore 9, 9, 0, 35, vu, []),
  (.iload 9, 9, 0, 36, vu, []),
  (.aload_n 0, 0, 0, 37, vu, []),
  (.getfield 21, 6, 2, 38, vu, [2]),
  (.getfield 121, 5, 3, 39, vu, [0]),
  (.if_icmp .ge 60, 68, 0, 40, vu, []),
  (.aload_n 0, 0, 0, 41, vu, []),
  (.getfield 21, 6, 2, 42, vu, [2]),
  (.getfield 146, 5, 0, 43, vu, [2]),
  (.iload 9, 9, 0, 44, vu, []),
  (.aaload, 0, 0, 45, vu, []),
  (.invokevirtual 332, 23, 1, 46, vu, [0, 0, 3]),
  (.ifCond .ne 38, 66, 0, 47, vu, []),
  (.iload_n 3, 3, 0, 48, vu, []),
  (.invokestatic 335, 132, 1, 49, vu, [0, 0, 99]),
  (.istore_n 3, 3, 0, 50, vu, []),
  (.iload 8, 8, 0, 51, vu, []),
  (.iload_n 3, 3, 0, 52, vu, []),
  (.bipush 12, 0, 0, 53, vi 12, []),
  (.irem, 0, 0, 54, vu, []),
  (.aload_n 0, 0, 0, 55, vu, []),
  (.getfield 21, 6, 2, 56, vu, [2]),
  (.getfield 146, 5, 0, 57, vu, [2]),
  (.iload 9, 9, 0, 58, vu, []),
  (.aaload, 0, 0, 59, vu, []),
  (.getfield 164, 3, 1, 60, vu, [0]),
  (.if_icmp .ge 7, 63, 0, 61, vu, []),
  (.iconst 1, 0, 0, 62, vi 1, []),
  (.goto 4, 64, 0, 63, vu, []),
  (.iconst 0, 0, 0, 64, vi 0, []),
  (.iadd, 0, 0, 65, vu, []),
  (.istore 8, 8, 0, 66, vu, []),
  (.iinc 9 1, 9, 0, 67, vi 1, []),
  (.goto (-66), 35, 0, 68, vu, []),
  (.iload 4, 4, 0, 69, vu, []),
  (.iload 8, 8, 0, 70, vu, []),
  (.iadd, 0, 0, 71, vu, []),
  (.istore 4, 4, 0, 72, vu, []),
  (.iload 8, 8, 0, 73, vu, []),
  (.iload 5, 5, 0, 74, vu, []),
  (.if_icmp .le 11, 79, 0, 75, vu, []),
  (.iload 8, 8, 0, 76, vu, []),
  (.istore 5, 5, 0, 77, vu, []),
  (.iload 7, 7, 0, 78, vu, []),
  (.istore 6, 6, 0, 79, vu, []),
  (.iinc 7 1, 7, 0, 80, vi 1, []),
  (.goto (-106), 28, 0, 81, vu, []),
  (.aload_n 0, 0, 0, 82, vu, []),
  (.iload 6, 6, 0, 83, vu, []),
  (.iload 4, 4, 0, 84, vu, []),
  (.invokevirtual 79, 120, 3, 85, vu, [0, 0, 6]),
  (.ireturn, 0, 0, 86, vu, [])]
noncomputable def p_X_crickets : List Nat := [0, 1, 2, 4, 7, 10, 11, 12, 15, 18, 21, 22, 23, 24, 27, 30, 33, 35, 36, 37, 38, 39, 41, 42, 44, 45, 47, 48, 50, 52, 53, 56, 57, 59, 60, 62, 64, 65, 68, 71, 74, 75, 78, 81, 83, 84, 87, 90, 91, 94, 95, 97, 98, 100, 101, 102, 105, 108, 110, 111, 114, 117, 118, 121, 122, 123, 125, 128, 131, 133, 135, 136, 138, 140, 142, 145, 147, 149, 151, 153, 156, 159, 160, 162, 164, 167]
abbrev n_X_sings : Nat := 112
noncomputable def i_X_sings : List Ins := [(.aload_n 0, 0, 0, 1, vu, []),
  (.getfield 21, 6, 2, 2, vu, [2]),
  (.getfield 121, 5, 3, 3, vu, [0]),
  (.ifCond .ne 6, 6, 0, 4, vu, []),
  (.bipush (-4), 0, 0, 5, vi (-4), []),
  (.ireturn, 0, 0, 6, vu, []),
  (.lconst 1, 0, 0, 7, vl 1, []),
  (.lstore_n 1, 1, 0, 8, vu, []),
  (.lconst 1, 0, 0, 9, vl 1, []),
  (.lstore_n 3, 3, 0, 10, vu, []),
  (.iconst 0, 0, 0, 11, vi 0, []),
  (.istore 5, 5, 0, 12, vu, []),
  (.iload 5, 5, 0, 13, vu, []),
  (.aload_n 0, 0, 0, 14, vu, []),
  (.getfield 21, 6, 2, 15, vu, [2]),
  (.getfield 121, 5, 3, 16, vu, [0]),
  (.if_icmp .ge 51, 42, 0, 17, vu, []),
  (.aload_n 0, 0, 0, 18, vu, []),
  (.getfield 21, 6, 2, 19, vu, [2]),
  (.getfield 146, 5, 0, 20, vu, [2]),
  (.iload 5, 5, 0, 21, vu, []),
  (.aaload, 0, 0, 22, vu, []),
  (.invokevirtual 332, 23, 1, 23, vu, [0, 0, 3]),
  (.ifCond .ne 29, 40, 0, 24, vu, []),
  (.lload_n 1, 1, 0, 25, vu, []),
  (.bipush 12, 0, 0, 26, vi 12, []),
  (.aload_n 0, 0, 0, 27, vu, []),
  (.getfield 21, 6, 2, 28, vu, [2]),
  (.getfield 146, 5, 0, 29, vu, [2]),
  (.iload 5, 5, 0, 30, vu, []),
  (.aaload, 0, 0, 31, vu, []),
  (.getfield 164, 3, 1, 32, vu, [0]),
  (.isub, 0, 0, 33, vu, []),
  (.i2l, 0, 0, 34, vu, []),
  (.lmul, 0, 0, 35, vu, []),
  (.lstore_n 1, 1, 0, 36, vu, []),
  (.lload_n 3, 3, 0, 37, vu, []),
  (.ldc2_w 338, 0, 0, 38, vl 12, []),
  (.lmul, 0, 0, 39, vu, []),
  (.lstore_n 3, 3, 0, 40, vu, []),
  (.iinc 5 1, 5, 0, 41, vi 1, []),
  (.goto (-57), 12, 0, 42, vu, []),
  (.aload_n 0, 0, 0, 43, vu, []),
  (.getfield 39, 6, 5, 44, vu, [2]),
  (.lload_n 3, 3, 0, 45, vu, []),
  (.lload_n 1, 1, 0, 46, vu, []),
  (.lsub, 0, 0, 47, vu, []),
  (.lload_n 3, 3, 0, 48, vu, []),
  (.invokevirtual 266, 12, 3, 49, vu, [0, 0, 1]),
  (.iconst 1, 0, 0, 50, vi 1, []),
  (.ireturn, 0, 0, 51, vu, [])]
noncomputable def p_X_sings : List Nat := [0, 1, 4, 7, 10, 12, 13, 14, 15, 16, 17, 18, 20, 22, 23, 26, 29, 32, 33, 36, 39, 41, 42, 45, 48, 49, 51, 52, 55, 58, 60, 61, 64, 65, 66, 67, 68, 69, 72, 73, 74, 77, 80, 81, 84, 85, 86, 87, 88, 91, 92]
abbrev n_X_asked : Nat := 113
noncomputable def i_X_asked : List Ins := [(.aload_n 0, 0, 0, 1, vu, []),
  (.getfield 51, 6, 8, 2, vu, [0]),
  (.ireturn, 0, 0, 3, vu, [])]
noncomputable def p_X_asked : List Nat := [0, 1, 4]
abbrev n_X_upper : Nat := 114
noncomputable def i_X_upper : List Ins := [(.aload_n 0, 0, 0, 1, vu, []),
  (.getfield 39, 6, 5, 2, vu, [2]),
  (.getfield 340, 1, 0, 3, vu, [1]),
  (.lreturn, 0, 0, 4, vu, [])]
noncomputable def p_X_upper : List Nat := [0, 1, 4, 7]
abbrev n_X_lower : Nat := 115
noncomputable def i_X_lower : List Ins := [(.aload_n 0, 0, 0, 1, vu, []),
  (.getfield 39, 6, 5, 2, vu, [2]),
  (.getfield 344, 1, 1, 3, vu, [1]),
  (.lreturn, 0, 0, 4, vu, [])]
noncomputable def p_X_lower : List Nat := [0, 1, 4, 7]
abbrev n_X_count : Nat := 116
noncomputable def i_X_count : List Ins := [(.iload_n 1, 1, 0, 1, vu, []),
  (.tableswitch 120 0 7 #[47, 55, 63, 77, 91, 99, 104, 112], 37, 0, 2, vu, [2, 6, 10, 16, 22, 26, 29, 33]),
  (.aload_n 0, 0, 0, 3, vu, []),
  (.getfield 21, 6, 2, 4, vu, [2]),
  (.getfield 121, 5, 3, 5, vu, [0]),
  (.ireturn, 0, 0, 6, vu, []),
  (.aload_n 0, 0, 0, 7, vu, []),
  (.getfield 21, 6, 2, 8, vu, [2]),
  (.getfield 195, 5, 4, 9, vu, [0]),
  (.ireturn, 0, 0, 10, vu, []),
  (.aload_n 0, 0, 0, 11, vu, []),
  (.getfield 21, 6, 2, 12, vu, [2]),
  (.getstatic 161, 2, 0, 13, vu, []),
  (.getfield 140, 8, 0, 14, vu, [3]),
  (.invokevirtual 347, 58, 2, 15, vu, [0, 0, 5]),
  (.ireturn, 0, 0, 16, vu, []),
  (.aload_n 0, 0, 0, 17, vu, []),
  (.getfield 21, 6, 2, 18, vu, [2]),
  (.getstatic 171, 3, 0, 19, vu, []),
  (.getfield 140, 8, 0, 20, vu, [3]),
  (.invokevirtual 347, 58, 2, 21, vu, [0, 0, 5]),
  (.ireturn, 0, 0, 22, vu, []),
  (.aload_n 0, 0, 0, 23, vu, []),
  (.getfield 21, 6, 2, 24, vu, [2]),
  (.invokevirtual 350, 64, 1, 25, vu, [0, 0, 5]),
  (.ireturn, 0, 0, 26, vu, []),
  (.aload_n 0, 0, 0, 27, vu, []),
  (.invokevirtual 353, 126, 1, 28, vu, [0, 0, 6]),
  (.ireturn, 0, 0, 29, vu, []),
  (.aload_n 0, 0, 0, 30, vu, []),
  (.getfield 11, 6, 0, 31, vu, [2]),
  (.invokestatic 356, 128, 1, 32, vu, [0, 0, 99]),
  (.ireturn, 0, 0, 33, vu, []),
  (.aload_n 0, 0, 0, 34, vu, []),
  (.getfield 15, 6, 1, 35, vu, [2]),
  (.invokestatic 356, 128, 1, 36, vu, [0, 0, 99]),
  (.ireturn, 0, 0, 37, vu, []),
  (.iconst (-1), 0, 0, 38, vi (-1), []),
  (.ireturn, 0, 0, 39, vu, [])]
noncomputable def p_X_count : List Nat := [0, 1, 48, 49, 52, 55, 56, 57, 60, 63, 64, 65, 68, 71, 74, 77, 78, 79, 82, 85, 88, 91, 92, 93, 96, 99, 100, 101, 104, 105, 106, 109, 112, 113, 114, 117, 120, 121, 122]
abbrev n_X_finding : Nat := 117
noncomputable def i_X_finding : List Ins := [(.aload_n 0, 0, 0, 1, vu, []),
  (.getfield 47, 6, 7, 2, vu, [0]),
  (.ireturn, 0, 0, 3, vu, [])]
noncomputable def p_X_finding : List Nat := [0, 1, 4]
abbrev n_X_findings : Nat := 118
noncomputable def i_X_findings : List Ins := [(.iload_n 1, 1, 0, 1, vu, []),
  (.iconst 1, 0, 0, 2, vi 1, []),
  (.iconst 5, 0, 0, 3, vi 5, []),
  (.invokestatic 127, 129, 3, 4, vu, [0, 0, 99]),
  (.ifCond .ne 5, 7, 0, 5, vu, []),
  (.iconst (-1), 0, 0, 6, vi (-1), []),
  (.ireturn, 0, 0, 7, vu, []),
  (.aload_n 0, 0, 0, 8, vu, []),
  (.getfield 43, 6, 6, 9, vu, [2]),
  (.iload_n 1, 1, 0, 10, vu, []),
  (.iaload, 0, 0, 11, vu, []),
  (.ireturn, 0, 0, 12, vu, [])]
noncomputable def p_X_findings : List Nat := [0, 1, 2, 3, 6, 9, 10, 11, 12, 15, 16, 17]
abbrev n_X_digest : Nat := 119
noncomputable def i_X_digest : List Ins := [(.ldc2_w 360, 0, 0, 1, vl 17, []),
  (.lstore_n 1, 1, 0, 2, vu, []),
  (.iconst 0, 0, 0, 3, vi 0, []),
  (.istore_n 3, 3, 0, 4, vu, []),
  (.iload_n 3, 3, 0, 5, vu, []),
  (.bipush 7, 0, 0, 6, vi 7, []),
  (.if_icmp .gt 20, 16, 0, 7, vu, []),
  (.lload_n 1, 1, 0, 8, vu, []),
  (.aload_n 0, 0, 0, 9, vu, []),
  (.iload_n 3, 3, 0, 10, vu, []),
  (.invokevirtual 362, 116, 2, 11, vu, [0, 0, 6]),
  (.i2l, 0, 0, 12, vu, []),
  (.invokestatic 365, 133, 2, 13, vu, [0, 0, 99]),
  (.lstore_n 1, 1, 0, 14, vu, []),
  (.iinc 3 1, 3, 0, 15, vi 1, []),
  (.goto (-20), 4, 0, 16, vu, []),
  (.aload_n 0, 0, 0, 17, vu, []),
  (.getfield 21, 6, 2, 18, vu, [2]),
  (.lload_n 1, 1, 0, 19, vu, []),
  (.invokevirtual 369, 69, 2, 20, vu, [0, 0, 5]),
  (.lstore_n 1, 1, 0, 21, vu, []),
  (.iconst 0, 0, 0, 22, vi 0, []),
  (.istore_n 3, 3, 0, 23, vu, []),
  (.iload_n 3, 3, 0, 24, vu, []),
  (.aload_n 0, 0, 0, 25, vu, []),
  (.getfield 25, 6, 3, 26, vu, [2]),
  (.arraylength, 0, 0, 27, vu, []),
  (.if_icmp .ge 42, 47, 0, 28, vu, []),
  (.lload_n 1, 1, 0, 29, vu, []),
  (.aload_n 0, 0, 0, 30, vu, []),
  (.getfield 25, 6, 3, 31, vu, [2]),
  (.iload_n 3, 3, 0, 32, vu, []),
  (.aaload, 0, 0, 33, vu, []),
  (.invokestatic 239, 127, 1, 34, vu, [0, 0, 99]),
  (.ifCond .eq 9, 37, 0, 35, vu, []),
  (.ldc2_w 373, 0, 0, 36, vl (-1), []),
  (.goto 13, 43, 0, 37, vu, []),
  (.aload_n 0, 0, 0, 38, vu, []),
  (.getfield 25, 6, 3, 39, vu, [2]),
  (.iload_n 3, 3, 0, 40, vu, []),
  (.aaload, 0, 0, 41, vu, []),
  (.getfield 195, 5, 4, 42, vu, [0]),
  (.i2l, 0, 0, 43, vu, []),
  (.invokestatic 365, 133, 2, 44, vu, [0, 0, 99]),
  (.lstore_n 1, 1, 0, 45, vu, []),
  (.iinc 3 1, 3, 0, 46, vi 1, []),
  (.goto (-45), 23, 0, 47, vu, []),
  (.iconst 0, 0, 0, 48, vi 0, []),
  (.istore_n 3, 3, 0, 49, vu, []),
  (.iload_n 3, 3, 0, 50, vu, []),
  (.aload_n 0, 0, 0, 51, vu, []),
  (.getfield 11, 6, 0, 52, vu, [2]),
  (.arraylength, 0, 0, 53, vu, []),
  (.if_icmp .ge 20, 63, 0, 54, vu, []),
  (.aload_n 0, 0, 0, 55, vu, []),
  (.getfield 11, 6, 0, 56, vu, [2]),
  (.iload_n 3, 3, 0, 57, vu, []),
  (.aaload, 0, 0, 58, vu, []),
  (.lload_n 1, 1, 0, 59, vu, []),
  (.invokevirtual 375, 10, 2, 60, vu, [0, 0, 0]),
  (.lstore_n 1, 1, 0, 61, vu, []),
  (.iinc 3 1, 3, 0, 62, vi 1, []),
  (.goto (-23), 49, 0, 63, vu, []),
  (.iconst 0, 0, 0, 64, vi 0, []),
  (.istore_n 3, 3, 0, 65, vu, []),
  (.iload_n 3, 3, 0, 66, vu, []),
  (.aload_n 0, 0, 0, 67, vu, []),
  (.getfield 15, 6, 1, 68, vu, [2]),
  (.arraylength, 0, 0, 69, vu, []),
  (.if_icmp .ge 20, 79, 0, 70, vu, []),
  (.aload_n 0, 0, 0, 71, vu, []),
  (.getfield 15, 6, 1, 72, vu, [2]),
  (.iload_n 3, 3, 0, 73, vu, []),
  (.aaload, 0, 0, 74, vu, []),
  (.lload_n 1, 1, 0, 75, vu, []),
  (.invokevirtual 375, 10, 2, 76, vu, [0, 0, 0]),
  (.lstore_n 1, 1, 0, 77, vu, []),
  (.iinc 3 1, 3, 0, 78, vi 1, []),
  (.goto (-23), 65, 0, 79, vu, []),
  (.lload_n 1, 1, 0, 80, vu, []),
  (.lreturn, 0, 0, 81, vu, [])]
noncomputable def p_X_digest : List Nat := [0, 3, 4, 5, 6, 7, 9, 12, 13, 14, 15, 18, 19, 22, 23, 26, 29, 30, 33, 34, 37, 38, 39, 40, 41, 42, 45, 46, 49, 50, 51, 54, 55, 56, 59, 62, 65, 68, 69, 72, 73, 74, 77, 78, 81, 82, 85, 88, 89, 90, 91, 92, 95, 96, 99, 100, 103, 104, 105, 106, 109, 110, 113, 116, 117, 118, 119, 120, 123, 124, 127, 128, 131, 132, 133, 134, 137, 138, 141, 144, 145]
abbrev n_X_tell : Nat := 120
noncomputable def i_X_tell : List Ins := [(.aload_n 0, 0, 0, 1, vu, []),
  (.iload_n 1, 1, 0, 2, vu, []),
  (.putfield 51, 6, 8, 3, vu, [0]),
  (.iload_n 2, 2, 0, 4, vu, []),
  (.ireturn, 0, 0, 5, vu, [])]
noncomputable def p_X_tell : List Nat := [0, 1, 2, 5, 6]
abbrev n_X_found : Nat := 121
noncomputable def i_X_found : List Ins := [(.aload_n 0, 0, 0, 1, vu, []),
  (.iload_n 1, 1, 0, 2, vu, []),
  (.putfield 47, 6, 7, 3, vu, [0]),
  (.iload_n 1, 1, 0, 4, vu, []),
  (.iconst 1, 0, 0, 5, vi 1, []),
  (.iconst 5, 0, 0, 6, vi 5, []),
  (.invokestatic 127, 129, 3, 7, vu, [0, 0, 99]),
  (.ifCond .eq 13, 16, 0, 8, vu, []),
  (.aload_n 0, 0, 0, 9, vu, []),
  (.getfield 43, 6, 6, 10, vu, [2]),
  (.iload_n 1, 1, 0, 11, vu, []),
  (.dup2, 0, 0, 12, vu, []),
  (.iaload, 0, 0, 13, vu, []),
  (.iconst 1, 0, 0, 14, vi 1, []),
  (.iadd, 0, 0, 15, vu, []),
  (.iastore, 0, 0, 16, vu, []),
  (.bipush (-3), 0, 0, 17, vi (-3), []),
  (.ireturn, 0, 0, 18, vu, [])]
noncomputable def p_X_found : List Nat := [0, 1, 2, 5, 6, 7, 8, 11, 14, 15, 18, 19, 20, 21, 22, 23, 24, 26]
abbrev n_X_refusalOfPlace : Nat := 122
noncomputable def i_X_refusalOfPlace : List Ins := [(.aload_n 1, 1, 0, 1, vu, []),
  (.invokevirtual 83, 1, 1, 2, vu, [0, 0, 0]),
  (.ifCond .eq 9, 7, 0, 3, vu, []),
  (.aload_n 0, 0, 0, 4, vu, []),
  (.iconst 1, 0, 0, 5, vi 1, []),
  (.invokevirtual 61, 121, 2, 6, vu, [0, 0, 6]),
  (.ireturn, 0, 0, 7, vu, []),
  (.aload_n 1, 1, 0, 8, vu, []),
  (.iload_n 2, 2, 0, 9, vu, []),
  (.invokevirtual 376, 2, 2, 10, vu, [0, 0, 0]),
  (.ifCond .eq 7, 13, 0, 11, vu, []),
  (.iconst 0, 0, 0, 12, vi 0, []),
  (.goto 8, 16, 0, 13, vu, []),
  (.aload_n 0, 0, 0, 14, vu, []),
  (.iconst 2, 0, 0, 15, vi 2, []),
  (.invokevirtual 61, 121, 2, 16, vu, [0, 0, 6]),
  (.ireturn, 0, 0, 17, vu, [])]
noncomputable def p_X_refusalOfPlace : List Nat := [0, 1, 4, 7, 8, 9, 12, 13, 14, 15, 18, 21, 22, 25, 26, 27, 30]
abbrev n_X_isRow : Nat := 123
noncomputable def i_X_isRow : List Ins := [(.iload_n 1, 1, 0, 1, vu, []),
  (.ifCond .lt 16, 9, 0, 2, vu, []),
  (.iload_n 1, 1, 0, 3, vu, []),
  (.aload_n 0, 0, 0, 4, vu, []),
  (.getfield 11, 6, 0, 5, vu, [2]),
  (.arraylength, 0, 0, 6, vu, []),
  (.if_icmp .ge 7, 9, 0, 7, vu, []),
  (.iconst 1, 0, 0, 8, vi 1, []),
  (.goto 4, 10, 0, 9, vu, []),
  (.iconst 0, 0, 0, 10, vi 0, []),
  (.ireturn, 1, 0, 11, vu, [])]
noncomputable def p_X_isRow : List Nat := [0, 1, 4, 5, 6, 9, 10, 13, 14, 17, 18]
abbrev n_X_isText : Nat := 124
noncomputable def i_X_isText : List Ins := [(.iload_n 1, 1, 0, 1, vu, []),
  (.ifCond .lt 16, 9, 0, 2, vu, []),
  (.iload_n 1, 1, 0, 3, vu, []),
  (.aload_n 0, 0, 0, 4, vu, []),
  (.getfield 15, 6, 1, 5, vu, [2]),
  (.arraylength, 0, 0, 6, vu, []),
  (.if_icmp .ge 7, 9, 0, 7, vu, []),
  (.iconst 1, 0, 0, 8, vi 1, []),
  (.goto 4, 10, 0, 9, vu, []),
  (.iconst 0, 0, 0, 10, vi 0, []),
  (.ireturn, 1, 0, 11, vu, [])]
noncomputable def p_X_isText : List Nat := [0, 1, 4, 5, 6, 9, 10, 13, 14, 17, 18]
abbrev n_X_isKeptPlace : Nat := 125
noncomputable def i_X_isKeptPlace : List Ins := [(.iload_n 1, 1, 0, 1, vu, []),
  (.ifCond .lt 16, 9, 0, 2, vu, []),
  (.iload_n 1, 1, 0, 3, vu, []),
  (.aload_n 0, 0, 0, 4, vu, []),
  (.getfield 25, 6, 3, 5, vu, [2]),
  (.arraylength, 0, 0, 6, vu, []),
  (.if_icmp .ge 7, 9, 0, 7, vu, []),
  (.iconst 1, 0, 0, 8, vi 1, []),
  (.goto 4, 10, 0, 9, vu, []),
  (.iconst 0, 0, 0, 10, vi 0, []),
  (.ireturn, 1, 0, 11, vu, [])]
noncomputable def p_X_isKeptPlace : List Nat := [0, 1, 4, 5, 6, 9, 10, 13, 14, 17, 18]
abbrev n_X_howManyKept : Nat := 126
noncomputable def i_X_howManyKept : List Ins := [(.iconst 0, 0, 0, 1, vi 0, []),
  (.istore_n 1, 1, 0, 2, vu, []),
  (.iconst 0, 0, 0, 3, vi 0, []),
  (.istore_n 2, 2, 0, 4, vu, []),
  (.iload_n 2, 2, 0, 5, vu, []),
  (.aload_n 0, 0, 0, 6, vu, []),
  (.getfield 25, 6, 3, 7, vu, [2]),
  (.arraylength, 0, 0, 8, vu, []),
  (.if_icmp .ge 29, 23, 0, 9, vu, []),
  (.iload_n 1, 1, 0, 10, vu, []),
  (.aload_n 0, 0, 0, 11, vu, []),
  (.getfield 25, 6, 3, 12, vu, [2]),
  (.iload_n 2, 2, 0, 13, vu, []),
  (.aaload, 0, 0, 14, vu, []),
  (.invokestatic 239, 127, 1, 15, vu, [0, 0, 99]),
  (.ifCond .eq 7, 18, 0, 16, vu, []),
  (.iconst 0, 0, 0, 17, vi 0, []),
  (.goto 4, 19, 0, 18, vu, []),
  (.iconst 1, 0, 0, 19, vi 1, []),
  (.iadd, 0, 0, 20, vu, []),
  (.istore_n 1, 1, 0, 21, vu, []),
  (.iinc 2 1, 2, 0, 22, vi 1, []),
  (.goto (-32), 4, 0, 23, vu, []),
  (.iload_n 1, 1, 0, 24, vu, []),
  (.ireturn, 0, 0, 25, vu, [])]
noncomputable def p_X_howManyKept : List Nat := [0, 1, 2, 3, 4, 5, 6, 9, 10, 13, 14, 15, 18, 19, 20, 23, 26, 27, 30, 31, 32, 33, 36, 39, 40]
abbrev n_X_isMissing : Nat := 127
noncomputable def i_X_isMissing : List Ins := [(.aload_n 0, 0, 0, 1, vu, []),
  (.getfield 121, 5, 3, 2, vu, [0]),
  (.ifCond .ne 7, 5, 0, 3, vu, []),
  (.iconst 1, 0, 0, 4, vi 1, []),
  (.goto 4, 6, 0, 5, vu, []),
  (.iconst 0, 0, 0, 6, vi 0, []),
  (.ireturn, 1, 0, 7, vu, [])]
noncomputable def p_X_isMissing : List Nat := [0, 1, 4, 7, 8, 11, 12]
abbrev n_X_howManyThere : Nat := 128
noncomputable def i_X_howManyThere : List Ins := [(.iconst 0, 0, 0, 1, vi 0, []),
  (.istore_n 1, 1, 0, 2, vu, []),
  (.iconst 0, 0, 0, 3, vi 0, []),
  (.istore_n 2, 2, 0, 4, vu, []),
  (.iload_n 2, 2, 0, 5, vu, []),
  (.aload_n 0, 0, 0, 6, vu, []),
  (.arraylength, 0, 0, 7, vu, []),
  (.if_icmp .ge 26, 21, 0, 8, vu, []),
  (.iload_n 1, 1, 0, 9, vu, []),
  (.aload_n 0, 0, 0, 10, vu, []),
  (.iload_n 2, 2, 0, 11, vu, []),
  (.aaload, 0, 0, 12, vu, []),
  (.invokevirtual 83, 1, 1, 13, vu, [0, 0, 0]),
  (.ifCond .eq 7, 16, 0, 14, vu, []),
  (.iconst 0, 0, 0, 15, vi 0, []),
  (.goto 4, 17, 0, 16, vu, []),
  (.iconst 1, 0, 0, 17, vi 1, []),
  (.iadd, 0, 0, 18, vu, []),
  (.istore_n 1, 1, 0, 19, vu, []),
  (.iinc 2 1, 2, 0, 20, vi 1, []),
  (.goto (-26), 4, 0, 21, vu, []),
  (.iload_n 1, 1, 0, 22, vu, []),
  (.ireturn, 0, 0, 23, vu, [])]
noncomputable def p_X_howManyThere : List Nat := [0, 1, 2, 3, 4, 5, 6, 7, 10, 11, 12, 13, 14, 17, 20, 21, 24, 25, 26, 27, 30, 33, 34]
abbrev n_X_isWithin : Nat := 129
noncomputable def i_X_isWithin : List Ins := [(.iload_n 0, 0, 0, 1, vu, []),
  (.iload_n 1, 1, 0, 2, vu, []),
  (.if_icmp .lt 12, 8, 0, 3, vu, []),
  (.iload_n 0, 0, 0, 4, vu, []),
  (.iload_n 2, 2, 0, 5, vu, []),
  (.if_icmp .gt 7, 8, 0, 6, vu, []),
  (.iconst 1, 0, 0, 7, vi 1, []),
  (.goto 4, 9, 0, 8, vu, []),
  (.iconst 0, 0, 0, 9, vi 0, []),
  (.ireturn, 1, 0, 10, vu, [])]
noncomputable def p_X_isWithin : List Nat := [0, 1, 2, 5, 6, 7, 10, 11, 14, 15]
abbrev n_X_isRise : Nat := 130
noncomputable def i_X_isRise : List Ins := [(.iload_n 0, 0, 0, 1, vu, []),
  (.iconst 0, 0, 0, 2, vi 0, []),
  (.sipush 200, 0, 0, 3, vi 200, []),
  (.invokestatic 127, 129, 3, 4, vu, [0, 0, 99]),
  (.ireturn, 1, 0, 5, vu, [])]
noncomputable def p_X_isRise : List Nat := [0, 1, 2, 5, 8]
abbrev n_X_contains : Nat := 131
noncomputable def i_X_contains : List Ins := [(.iload_n 0, 0, 0, 1, vu, []),
  (.iload_n 1, 1, 0, 2, vu, []),
  (.ishr, 0, 0, 3, vu, []),
  (.iconst 1, 0, 0, 4, vi 1, []),
  (.iand, 0, 0, 5, vu, []),
  (.iconst 1, 0, 0, 6, vi 1, []),
  (.if_icmp .ne 7, 9, 0, 7, vu, []),
  (.iconst 1, 0, 0, 8, vi 1, []),
  (.goto 4, 10, 0, 9, vu, []),
  (.iconst 0, 0, 0, 10, vi 0, []),
  (.ireturn, 1, 0, 11, vu, [])]
noncomputable def p_X_contains : List Nat := [0, 1, 2, 3, 4, 5, 6, 9, 10, 13, 14]
abbrev n_X_lotBehind : Nat := 132
noncomputable def i_X_lotBehind : List Ins := [(.ldc2_w 379, 0, 0, 1, vl 48271, []),
  (.iload_n 0, 0, 0, 2, vu, []),
  (.i2l, 0, 0, 3, vu, []),
  (.lmul, 0, 0, 4, vu, []),
  (.ldc2_w 381, 0, 0, 5, vl 2147483647, []),
  (.lrem, 0, 0, 6, vu, []),
  (.l2i, 0, 0, 7, vu, []),
  (.ireturn, 0, 0, 8, vu, [])]
noncomputable def p_X_lotBehind : List Nat := [0, 3, 4, 5, 6, 9, 10, 11]
abbrev n_X_mixed : Nat := 133
noncomputable def i_X_mixed : List Ins := [(.ldc2_w 383, 0, 0, 1, vl 31, []),
  (.lload_n 0, 0, 0, 2, vu, []),
  (.lmul, 0, 0, 3, vu, []),
  (.lload_n 2, 2, 0, 4, vu, []),
  (.ladd, 0, 0, 5, vu, []),
  (.lreturn, 0, 0, 6, vu, [])]
noncomputable def p_X_mixed : List Nat := [0, 3, 4, 5, 6, 7]
abbrev n_M_init : Nat := 134
noncomputable def i_M_init : List Ins := [(.aload_n 0, 0, 0, 1, vu, []),
  (.invokespecial 1, 1, 0, 2, vu, []),
  (.aload_n 0, 0, 0, 3, vu, []),
  (.bipush 6, 0, 0, 4, vi 6, []),
  (.newarray .int, 1, 1, 5, vu, []),
  (.putfield 7, 7, 1, 6, vu, [2]),
  (.aload_n 0, 0, 0, 7, vu, []),
  (.lconst 1, 0, 0, 8, vl 1, []),
  (.putfield 13, 7, 4, 9, vu, [1]),
  (.aload_n 0, 0, 0, 10, vu, []),
  (.bipush 6, 0, 0, 11, vi 6, []),
  (.newarray .int, 1, 2, 12, vu, []),
  (.putfield 17, 7, 5, 13, vu, [2]),
  (.aload_n 0, 0, 0, 14, vu, []),
  (.sipush 240, 0, 0, 15, vi 240, []),
  (.newarray .int, 1, 3, 16, vu, []),
  (.putfield 20, 7, 6, 17, vu, [2]),
  (.aload_n 0, 0, 0, 18, vu, []),
  (.bipush 40, 0, 0, 19, vi 40, []),
  (.newarray .int, 1, 4, 20, vu, []),
  (.putfield 23, 7, 7, 21, vu, [2]),
  (.aload_n 0, 0, 0, 22, vu, []),
  (.iconst 4, 0, 0, 23, vi 4, []),
  (.newarray .int, 1, 5, 24, vu, []),
  (.putfield 26, 7, 8, 25, vu, [2]),
  (.aload_n 0, 0, 0, 26, vu, []),
  (.sipush 320, 0, 0, 27, vi 320, []),
  (.newarray .int, 1, 6, 28, vu, []),
  (.putfield 29, 7, 9, 29, vu, [2]),
  (.aload_n 0, 0, 0, 30, vu, []),
  (.bipush 16, 0, 0, 31, vi 16, []),
  (.newarray .int, 1, 7, 32, vu, []),
  (.putfield 32, 7, 13, 33, vu, [2]),
  (.aload_n 0, 0, 0, 34, vu, []),
  (.bipush 16, 0, 0, 35, vi 16, []),
  (.newarray .int, 1, 8, 36, vu, []),
  (.putfield 35, 7, 14, 37, vu, [2]),
  (.aload_n 0, 0, 0, 38, vu, []),
  (.bipush 16, 0, 0, 39, vi 16, []),
  (.newarray .int, 1, 9, 40, vu, []),
  (.putfield 38, 7, 15, 41, vu, [2]),
  (.aload_n 0, 0, 0, 42, vu, []),
  (.bipush 8, 0, 0, 43, vi 8, []),
  (.newarray .int, 1, 10, 44, vu, []),
  (.putfield 41, 7, 23, 45, vu, [2]),
  (.aload_n 0, 0, 0, 46, vu, []),
  (.bipush 8, 0, 0, 47, vi 8, []),
  (.newarray .int, 1, 11, 48, vu, []),
  (.putfield 44, 7, 24, 49, vu, [2]),
  (.aload_n 0, 0, 0, 50, vu, []),
  (.sipush 480, 0, 0, 51, vi 480, []),
  (.newarray .int, 1, 12, 52, vu, []),
  (.putfield 47, 7, 25, 53, vu, [2]),
  (.aload_n 0, 0, 0, 54, vu, []),
  (.sipush 1740, 0, 0, 55, vi 1740, []),
  (.newarray .int, 1, 13, 56, vu, []),
  (.putfield 50, 7, 26, 57, vu, [2]),
  (.aload_n 0, 0, 0, 58, vu, []),
  (.bipush 8, 0, 0, 59, vi 8, []),
  (.newarray .int, 1, 14, 60, vu, []),
  (.putfield 53, 7, 31, 61, vu, [2]),
  (.aload_n 0, 0, 0, 62, vu, []),
  (.sipush 160, 0, 0, 63, vi 160, []),
  (.newarray .boolean, 1, 15, 64, vu, []),
  (.putfield 56, 7, 32, 65, vu, [2]),
  (.aload_n 0, 0, 0, 66, vu, []),
  (.bipush 8, 0, 0, 67, vi 8, []),
  (.newarray .int, 1, 16, 68, vu, []),
  (.putfield 60, 7, 33, 69, vu, [2]),
  (.aload_n 0, 0, 0, 70, vu, []),
  (.sipush 256, 0, 0, 71, vi 256, []),
  (.newarray .int, 1, 17, 72, vu, []),
  (.putfield 63, 7, 34, 73, vu, [2]),
  (.aload_n 0, 0, 0, 74, vu, []),
  (.bipush 64, 0, 0, 75, vi 64, []),
  (.newarray .int, 1, 18, 76, vu, []),
  (.putfield 66, 7, 35, 77, vu, [2]),
  (.aload_n 0, 0, 0, 78, vu, []),
  (.sipush 256, 0, 0, 79, vi 256, []),
  (.newarray .int, 1, 19, 80, vu, []),
  (.putfield 69, 7, 36, 81, vu, [2]),
  (.iconst 0, 0, 0, 82, vi 0, []),
  (.istore_n 1, 1, 0, 83, vu, []),
  (.iload_n 1, 1, 0, 84, vu, []),
  (.bipush 6, 0, 0, 85, vi 6, []),
  (.if_icmp .ge 17, 93, 0, 86, vu, []),
  (.aload_n 0, 0, 0, 87, vu, []),
  (.getfield 17, 7, 5, 88, vu, [2]),
  (.iload_n 1, 1, 0, 89, vu, []),
  (.bipush (-9), 0, 0, 90, vi (-9), []),
  (.iastore, 0, 0, 91, vu, []),
  (.iinc 1 1, 1, 0, 92, vi 1, []),
  (.goto (-17), 83, 0, 93, vu, []),
  (.iconst 0, 0, 0, 94, vi 0, []),
  (.istore_n 1, 1, 0, 95, vu, []),
  (.iload_n 1, 1, 0, 96, vu, []),
  (.iconst 4, 0, 0, 97, vi 4, []),
  (.if_icmp .ge 17, 105, 0, 98, vu, []),
  (.aload_n 0, 0, 0, 99, vu, []),
  (.getfield 26, 7, 8, 100, vu, [2]),
  (.iload_n 1, 1, 0, 101, vu, []),
  (.bipush (-9), 0, 0, 102, vi (-9), []),
  (.iastore, 0, 0, 103, vu, []),
  (.iinc 1 1, 1, 0, 104, vi 1, []),
  (.goto (-16), 95, 0, 105, vu, []),
  (.iconst 0, 0, 0, 106, vi 0, []),
  (.istore_n 1, 1, 0, 107, vu, []),
  (.iload_n 1, 1, 0, 108, vu, []),
  (.iconst 3, 0, 0, 109, vi 3, []),
  (.if_icmp .ge 21, 119, 0, 110, vu, []),
  (.aload_n 0, 0, 0, 111, vu, []),
  (.getfield 50, 7, 26, 112, vu, [2]),
  (.sipush 580, 0, 0, 113, vi 580, []),
  (.iload_n 1, 1, 0, 114, vu, []),
  (.imul, 0, 0, 115, vu, []),
  (.bipush (-9), 0, 0, 116, vi (-9), []),
  (.iastore, 0, 0, 117, vu, []),
  (.iinc 1 1, 1, 0, 118, vi 1, []),
  (.goto (-20), 107, 0, 119, vu, []),
  (.return_, 0, 0, 120, vu, [])]
noncomputable def p_M_init : List Nat := [0, 1, 4, 5, 7, 9, 12, 13, 14, 17, 18, 20, 22, 25, 26, 29, 31, 34, 35, 37, 39, 42, 43, 44, 46, 49, 50, 53, 55, 58, 59, 61, 63, 66, 67, 69, 71, 74, 75, 77, 79, 82, 83, 85, 87, 90, 91, 93, 95, 98, 99, 102, 104, 107, 108, 111, 113, 116, 117, 119, 121, 124, 125, 128, 130, 133, 134, 136, 138, 141, 142, 145, 147, 150, 151, 153, 155, 158, 159, 162, 164, 167, 168, 169, 170, 172, 175, 176, 179, 180, 182, 183, 186, 189, 190, 191, 192, 193, 196, 197, 200, 201, 203, 204, 207, 210, 211, 212, 213, 214, 217, 218, 221, 224, 225, 226, 228, 229, 232, 235]
abbrev n_M_in : Nat := 135
noncomputable def i_M_in : List Ins := [(.iload_n 0, 0, 0, 1, vu, []),
  (.iload_n 1, 1, 0, 2, vu, []),
  (.if_icmp .lt 12, 8, 0, 3, vu, []),
  (.iload_n 0, 0, 0, 4, vu, []),
  (.iload_n 2, 2, 0, 5, vu, []),
  (.if_icmp .gt 7, 8, 0, 6, vu, []),
  (.iconst 1, 0, 0, 7, vi 1, []),
  (.goto 4, 9, 0, 8, vu, []),
  (.iconst 0, 0, 0, 9, vi 0, []),
  (.ireturn, 1, 0, 10, vu, [])]
noncomputable def p_M_in : List Nat := [0, 1, 2, 5, 6, 7, 10, 11, 14, 15]
abbrev n_M_meet : Nat := 136
noncomputable def i_M_meet : List Ins := [(.aload_n 0, 0, 0, 1, vu, []),
  (.iload_n 1, 1, 0, 2, vu, []),
  (.putfield 72, 7, 0, 3, vu, [0]),
  (.aload_n 0, 0, 0, 4, vu, []),
  (.getfield 7, 7, 1, 5, vu, [2]),
  (.iload_n 1, 1, 0, 6, vu, []),
  (.dup2, 0, 0, 7, vu, []),
  (.iaload, 0, 0, 8, vu, []),
  (.iconst 1, 0, 0, 9, vi 1, []),
  (.iadd, 0, 0, 10, vu, []),
  (.iastore, 0, 0, 11, vu, []),
  (.bipush (-3), 0, 0, 12, vi (-3), []),
  (.ireturn, 0, 0, 13, vu, [])]
noncomputable def p_M_meet : List Nat := [0, 1, 2, 5, 6, 9, 10, 11, 12, 13, 14, 15, 17]
abbrev n_M_ask : Nat := 137
noncomputable def i_M_ask : List Ins := [(.aload_n 0, 0, 0, 1, vu, []),
  (.iload_n 1, 1, 0, 2, vu, []),
  (.putfield 76, 7, 2, 3, vu, [0]),
  (.iload_n 2, 2, 0, 4, vu, []),
  (.ireturn, 0, 0, 5, vu, [])]
noncomputable def p_M_ask : List Nat := [0, 1, 2, 5, 6]
abbrev n_M_part : Nat := 138
noncomputable def i_M_part : List Ins := [(.lload_n 1, 1, 0, 1, vu, []),
  (.lstore 6, 6, 0, 2, vu, []),
  (.lload_n 3, 3, 0, 3, vu, []),
  (.lstore 8, 8, 0, 4, vu, []),
  (.lload 8, 8, 0, 5, vu, []),
  (.lconst 0, 0, 0, 6, vl 0, []),
  (.lcmp, 0, 0, 7, vu, []),
  (.ifCond .eq 21, 17, 0, 8, vu, []),
  (.lload 6, 6, 0, 9, vu, []),
  (.lload 8, 8, 0, 10, vu, []),
  (.lrem, 0, 0, 11, vu, []),
  (.lstore 10, 10, 0, 12, vu, []),
  (.lload 8, 8, 0, 13, vu, []),
  (.lstore 6, 6, 0, 14, vu, []),
  (.lload 10, 10, 0, 15, vu, []),
  (.lstore 8, 8, 0, 16, vu, []),
  (.goto (-22), 4, 0, 17, vu, []),
  (.aload_n 0, 0, 0, 18, vu, []),
  (.lload_n 1, 1, 0, 19, vu, []),
  (.lload 6, 6, 0, 20, vu, []),
  (.ldiv, 0, 0, 21, vu, []),
  (.putfield 79, 7, 3, 22, vu, [1]),
  (.aload_n 0, 0, 0, 23, vu, []),
  (.lload_n 3, 3, 0, 24, vu, []),
  (.lload 6, 6, 0, 25, vu, []),
  (.ldiv, 0, 0, 26, vu, []),
  (.putfield 13, 7, 4, 27, vu, [1]),
  (.iload 5, 5, 0, 28, vu, []),
  (.ireturn, 0, 0, 29, vu, [])]
noncomputable def p_M_part : List Nat := [0, 1, 3, 4, 6, 8, 9, 10, 13, 15, 17, 18, 20, 22, 24, 26, 28, 31, 32, 33, 35, 36, 39, 40, 41, 43, 44, 47, 49]
abbrev n_M_has : Nat := 139
noncomputable def i_M_has : List Ins := [(.iload_n 0, 0, 0, 1, vu, []),
  (.iload_n 1, 1, 0, 2, vu, []),
  (.ishr, 0, 0, 3, vu, []),
  (.iconst 1, 0, 0, 4, vi 1, []),
  (.iand, 0, 0, 5, vu, []),
  (.iconst 1, 0, 0, 6, vi 1, []),
  (.if_icmp .ne 7, 9, 0, 7, vu, []),
  (.iconst 1, 0, 0, 8, vi 1, []),
  (.goto 4, 10, 0, 9, vu, []),
  (.iconst 0, 0, 0, 10, vi 0, []),
  (.ireturn, 1, 0, 11, vu, [])]
noncomputable def p_M_has : List Nat := [0, 1, 2, 3, 4, 5, 6, 9, 10, 13, 14]
abbrev n_M_sizeOf : Nat := 140
noncomputable def i_M_sizeOf : List Ins := [(.iconst 0, 0, 0, 1, vi 0, []),
  (.istore_n 1, 1, 0, 2, vu, []),
  (.iconst 0, 0, 0, 3, vi 0, []),
  (.istore_n 2, 2, 0, 4, vu, []),
  (.iload_n 2, 2, 0, 5, vu, []),
  (.bipush 8, 0, 0, 6, vi 8, []),
  (.if_icmp .ge 17, 17, 0, 7, vu, []),
  (.iload_n 1, 1, 0, 8, vu, []),
  (.iload_n 0, 0, 0, 9, vu, []),
  (.iload_n 2, 2, 0, 10, vu, []),
  (.ishr, 0, 0, 11, vu, []),
  (.iconst 1, 0, 0, 12, vi 1, []),
  (.iand, 0, 0, 13, vu, []),
  (.iadd, 0, 0, 14, vu, []),
  (.istore_n 1, 1, 0, 15, vu, []),
  (.iinc 2 1, 2, 0, 16, vi 1, []),
  (.goto (-17), 4, 0, 17, vu, []),
  (.iload_n 1, 1, 0, 18, vu, []),
  (.ireturn, 0, 0, 19, vu, [])]
noncomputable def p_M_sizeOf : List Nat := [0, 1, 2, 3, 4, 5, 7, 10, 11, 12, 13, 14, 15, 16, 17, 18, 21, 24, 25]
abbrev n_M_isRow : Nat := 141
noncomputable def i_M_isRow : List Ins := [(.iload_n 0, 0, 0, 1, vu, []),
  (.iconst 0, 0, 0, 2, vi 0, []),
  (.iconst 5, 0, 0, 3, vi 5, []),
  (.invokestatic 82, 135, 3, 4, vu, [0, 0, 99]),
  (.ireturn, 1, 0, 5, vu, [])]
noncomputable def p_M_isRow : List Nat := [0, 1, 2, 3, 6]
abbrev n_M_isText : Nat := 142
noncomputable def i_M_isText : List Ins := [(.iload_n 0, 0, 0, 1, vu, []),
  (.iconst 0, 0, 0, 2, vi 0, []),
  (.iconst 3, 0, 0, 3, vi 3, []),
  (.invokestatic 82, 135, 3, 4, vu, [0, 0, 99]),
  (.ireturn, 1, 0, 5, vu, [])]
noncomputable def p_M_isText : List Nat := [0, 1, 2, 3, 6]
abbrev n_M_askedRow : Nat := 143
noncomputable def i_M_askedRow : List Ins := [(.iload_n 1, 1, 0, 1, vu, []),
  (.invokestatic 86, 141, 1, 2, vu, [0, 0, 99]),
  (.ifCond .ne 7, 5, 0, 3, vu, []),
  (.iconst (-1), 0, 0, 4, vi (-1), []),
  (.goto 21, 15, 0, 5, vu, []),
  (.aload_n 0, 0, 0, 6, vu, []),
  (.getfield 17, 7, 5, 7, vu, [2]),
  (.iload_n 1, 1, 0, 8, vu, []),
  (.iaload, 0, 0, 9, vu, []),
  (.ifCond .ge 11, 14, 0, 10, vu, []),
  (.aload_n 0, 0, 0, 11, vu, []),
  (.iconst 1, 0, 0, 12, vi 1, []),
  (.invokevirtual 90, 136, 2, 13, vu, [0, 0, 7]),
  (.goto 4, 15, 0, 14, vu, []),
  (.iconst 0, 0, 0, 15, vi 0, []),
  (.ireturn, 0, 0, 16, vu, [])]
noncomputable def p_M_askedRow : List Nat := [0, 1, 4, 7, 8, 11, 12, 15, 16, 17, 20, 21, 22, 25, 28, 29]
abbrev n_M_askedText : Nat := 144
noncomputable def i_M_askedText : List Ins := [(.iload_n 1, 1, 0, 1, vu, []),
  (.invokestatic 94, 142, 1, 2, vu, [0, 0, 99]),
  (.ifCond .ne 7, 5, 0, 3, vu, []),
  (.iconst (-1), 0, 0, 4, vi (-1), []),
  (.goto 21, 15, 0, 5, vu, []),
  (.aload_n 0, 0, 0, 6, vu, []),
  (.getfield 26, 7, 8, 7, vu, [2]),
  (.iload_n 1, 1, 0, 8, vu, []),
  (.iaload, 0, 0, 9, vu, []),
  (.ifCond .ge 11, 14, 0, 10, vu, []),
  (.aload_n 0, 0, 0, 11, vu, []),
  (.iconst 1, 0, 0, 12, vi 1, []),
  (.invokevirtual 90, 136, 2, 13, vu, [0, 0, 7]),
  (.goto 4, 15, 0, 14, vu, []),
  (.iconst 0, 0, 0, 15, vi 0, []),
  (.ireturn, 0, 0, 16, vu, [])]
noncomputable def p_M_askedText : List Nat := [0, 1, 4, 7, 8, 11, 12, 15, 16, 17, 20, 21, 22, 25, 28, 29]
abbrev n_M_rowAt : Nat := 145
noncomputable def i_M_rowAt : List Ins := [(.aload_n 0, 0, 0, 1, vu, []),
  (.getfield 20, 7, 6, 2, vu, [2]),
  (.bipush 40, 0, 0, 3, vi 40, []),
  (.iload_n 1, 1, 0, 4, vu, []),
  (.imul, 0, 0, 5, vu, []),
  (.iload_n 2, 2, 0, 6, vu, []),
  (.iadd, 0, 0, 7, vu, []),
  (.iaload, 0, 0, 8, vu, []),
  (.ireturn, 0, 0, 9, vu, [])]
noncomputable def p_M_rowAt : List Nat := [0, 1, 4, 6, 7, 8, 9, 10, 11]
abbrev n_M_setRow : Nat := 146
noncomputable def i_M_setRow : List Ins := [(.aload_n 0, 0, 0, 1, vu, []),
  (.getfield 20, 7, 6, 2, vu, [2]),
  (.bipush 40, 0, 0, 3, vi 40, []),
  (.iload_n 1, 1, 0, 4, vu, []),
  (.imul, 0, 0, 5, vu, []),
  (.iload_n 2, 2, 0, 6, vu, []),
  (.iadd, 0, 0, 7, vu, []),
  (.iload_n 3, 3, 0, 8, vu, []),
  (.iastore, 0, 0, 9, vu, []),
  (.return_, 0, 0, 10, vu, [])]
noncomputable def p_M_setRow : List Nat := [0, 1, 4, 6, 7, 8, 9, 10, 11, 12]
abbrev n_M_row : Nat := 147
noncomputable def i_M_row : List Ins := [(.iload_n 1, 1, 0, 1, vu, []),
  (.invokestatic 86, 141, 1, 2, vu, [0, 0, 99]),
  (.ifCond .eq 9, 6, 0, 3, vu, []),
  (.iload_n 2, 2, 0, 4, vu, []),
  (.bipush 40, 0, 0, 5, vi 40, []),
  (.if_icmp .le 5, 8, 0, 6, vu, []),
  (.iconst (-1), 0, 0, 7, vi (-1), []),
  (.ireturn, 0, 0, 8, vu, []),
  (.iload_n 2, 2, 0, 9, vu, []),
  (.ifCond .ge 9, 14, 0, 10, vu, []),
  (.aload_n 0, 0, 0, 11, vu, []),
  (.iconst 5, 0, 0, 12, vi 5, []),
  (.invokevirtual 90, 136, 2, 13, vu, [0, 0, 7]),
  (.ireturn, 0, 0, 14, vu, []),
  (.aload_n 0, 0, 0, 15, vu, []),
  (.getfield 17, 7, 5, 16, vu, [2]),
  (.iload_n 1, 1, 0, 17, vu, []),
  (.iload_n 2, 2, 0, 18, vu, []),
  (.iastore, 0, 0, 19, vu, []),
  (.iconst 0, 0, 0, 20, vi 0, []),
  (.istore_n 3, 3, 0, 21, vu, []),
  (.iload_n 3, 3, 0, 22, vu, []),
  (.bipush 40, 0, 0, 23, vi 40, []),
  (.if_icmp .ge 16, 31, 0, 24, vu, []),
  (.aload_n 0, 0, 0, 25, vu, []),
  (.iload_n 1, 1, 0, 26, vu, []),
  (.iload_n 3, 3, 0, 27, vu, []),
  (.iconst 0, 0, 0, 28, vi 0, []),
  (.invokevirtual 97, 146, 4, 29, vu, [0, 0, 7]),
  (.iinc 3 1, 3, 0, 30, vi 1, []),
  (.goto (-16), 21, 0, 31, vu, []),
  (.iload_n 2, 2, 0, 32, vu, []),
  (.ireturn, 0, 0, 33, vu, [])]
noncomputable def p_M_row : List Nat := [0, 1, 4, 7, 8, 10, 13, 14, 15, 16, 19, 20, 21, 24, 25, 26, 29, 30, 31, 32, 33, 34, 35, 37, 40, 41, 42, 43, 44, 47, 50, 53, 54]
abbrev n_M_at : Nat := 148
noncomputable def i_M_at : List Ins := [(.aload_n 0, 0, 0, 1, vu, []),
  (.iload_n 1, 1, 0, 2, vu, []),
  (.invokevirtual 101, 143, 2, 3, vu, [0, 0, 7]),
  (.istore_n 3, 3, 0, 4, vu, []),
  (.iload_n 3, 3, 0, 5, vu, []),
  (.ifCond .ge 5, 8, 0, 6, vu, []),
  (.iload_n 3, 3, 0, 7, vu, []),
  (.ireturn, 0, 0, 8, vu, []),
  (.iload_n 2, 2, 0, 9, vu, []),
  (.iconst 0, 0, 0, 10, vi 0, []),
  (.aload_n 0, 0, 0, 11, vu, []),
  (.getfield 17, 7, 5, 12, vu, [2]),
  (.iload_n 1, 1, 0, 13, vu, []),
  (.iaload, 0, 0, 14, vu, []),
  (.iconst 1, 0, 0, 15, vi 1, []),
  (.isub, 0, 0, 16, vu, []),
  (.invokestatic 82, 135, 3, 17, vu, [0, 0, 99]),
  (.ifCond .eq 17, 26, 0, 18, vu, []),
  (.aload_n 0, 0, 0, 19, vu, []),
  (.aload_n 0, 0, 0, 20, vu, []),
  (.iload_n 1, 1, 0, 21, vu, []),
  (.iload_n 2, 2, 0, 22, vu, []),
  (.invokevirtual 104, 145, 3, 23, vu, [0, 0, 7]),
  (.iconst 1, 0, 0, 24, vi 1, []),
  (.invokevirtual 108, 137, 3, 25, vu, [0, 0, 7]),
  (.goto 8, 29, 0, 26, vu, []),
  (.aload_n 0, 0, 0, 27, vu, []),
  (.iconst 2, 0, 0, 28, vi 2, []),
  (.invokevirtual 90, 136, 2, 29, vu, [0, 0, 7]),
  (.ireturn, 0, 0, 30, vu, [])]
noncomputable def p_M_at : List Nat := [0, 1, 2, 5, 6, 7, 10, 11, 12, 13, 14, 15, 18, 19, 20, 21, 22, 25, 28, 29, 30, 31, 32, 35, 36, 39, 42, 43, 44, 47]
abbrev n_M_lay : Nat := 149
noncomputable def i_M_lay : List Ins := [(.aload_n 0, 0, 0, 1, vu, []),
  (.iload_n 1, 1, 0, 2, vu, []),
  (.iload_n 2, 2, 0, 3, vu, []),
  (.invokevirtual 111, 148, 3, 4, vu, [0, 0, 7]),
  (.istore 4, 4, 0, 5, vu, []),
  (.iload 4, 4, 0, 6, vu, []),
  (.ifCond .ge 6, 9, 0, 7, vu, []),
  (.iload 4, 4, 0, 8, vu, []),
  (.ireturn, 0, 0, 9, vu, []),
  (.aload_n 0, 0, 0, 10, vu, []),
  (.iload_n 1, 1, 0, 11, vu, []),
  (.iload_n 2, 2, 0, 12, vu, []),
  (.iload_n 3, 3, 0, 13, vu, []),
  (.invokevirtual 97, 146, 4, 14, vu, [0, 0, 7]),
  (.iconst 1, 0, 0, 15, vi 1, []),
  (.ireturn, 0, 0, 16, vu, [])]
noncomputable def p_M_lay : List Nat := [0, 1, 2, 3, 6, 8, 10, 13, 15, 16, 17, 18, 19, 20, 23, 24]
abbrev n_M_tear : Nat := 150
noncomputable def i_M_tear : List Ins := [(.aload_n 0, 0, 0, 1, vu, []),
  (.iload_n 1, 1, 0, 2, vu, []),
  (.invokevirtual 101, 143, 2, 3, vu, [0, 0, 7]),
  (.istore_n 2, 2, 0, 4, vu, []),
  (.iload_n 2, 2, 0, 5, vu, []),
  (.ifCond .ge 5, 8, 0, 6, vu, []),
  (.iload_n 2, 2, 0, 7, vu, []),
  (.ireturn, 0, 0, 8, vu, []),
  (.aload_n 0, 0, 0, 9, vu, []),
  (.getfield 17, 7, 5, 10, vu, [2]),
  (.iload_n 1, 1, 0, 11, vu, []),
  (.bipush (-9), 0, 0, 12, vi (-9), []),
  (.iastore, 0, 0, 13, vu, []),
  (.iconst 1, 0, 0, 14, vi 1, []),
  (.ireturn, 0, 0, 15, vu, [])]
noncomputable def p_M_tear : List Nat := [0, 1, 2, 5, 6, 7, 10, 11, 12, 13, 16, 17, 19, 20, 21]
abbrev n_M_copy : Nat := 151
noncomputable def i_M_copy : List Ins := [(.iload_n 1, 1, 0, 1, vu, []),
  (.invokestatic 86, 141, 1, 2, vu, [0, 0, 99]),
  (.ifCond .eq 10, 6, 0, 3, vu, []),
  (.iload_n 3, 3, 0, 4, vu, []),
  (.invokestatic 86, 141, 1, 5, vu, [0, 0, 99]),
  (.ifCond .ne 5, 8, 0, 6, vu, []),
  (.iconst (-1), 0, 0, 7, vi (-1), []),
  (.ireturn, 0, 0, 8, vu, []),
  (.iload 5, 5, 0, 9, vu, []),
  (.ifCond .ge 9, 14, 0, 10, vu, []),
  (.aload_n 0, 0, 0, 11, vu, []),
  (.iconst 5, 0, 0, 12, vi 5, []),
  (.invokevirtual 90, 136, 2, 13, vu, [0, 0, 7]),
  (.ireturn, 0, 0, 14, vu, []),
  (.aload_n 0, 0, 0, 15, vu, []),
  (.getfield 17, 7, 5, 16, vu, [2]),
  (.iload_n 1, 1, 0, 17, vu, []),
  (.iaload, 0, 0, 18, vu, []),
  (.ifCond .lt 12, 24, 0, 19, vu, []),
  (.aload_n 0, 0, 0, 20, vu, []),
  (.getfield 17, 7, 5, 21, vu, [2]),
  (.iload_n 3, 3, 0, 22, vu, []),
  (.iaload, 0, 0, 23, vu, []),
  (.ifCond .ge 9, 28, 0, 24, vu, []),
  (.aload_n 0, 0, 0, 25, vu, []),
  (.iconst 1, 0, 0, 26, vi 1, []),
  (.invokevirtual 90, 136, 2, 27, vu, [0, 0, 7]),
  (.ireturn, 0, 0, 28, vu, []),
  (.iload_n 2, 2, 0, 29, vu, []),
  (.ifCond .lt 43, 56, 0, 30, vu, []),
  (.iload 4, 4, 0, 31, vu, []),
  (.ifCond .lt 38, 56, 0, 32, vu, []),
  (.iload_n 2, 2, 0, 33, vu, []),
  (.i2l, 0, 0, 34, vu, []),
  (.iload 5, 5, 0, 35, vu, []),
  (.i2l, 0, 0, 36, vu, []),
  (.ladd, 0, 0, 37, vu, []),
  (.aload_n 0, 0, 0, 38, vu, []),
  (.getfield 17, 7, 5, 39, vu, [2]),
  (.iload_n 1, 1, 0, 40, vu, []),
  (.iaload, 0, 0, 41, vu, []),
  (.i2l, 0, 0, 42, vu, []),
  (.lcmp, 0, 0, 43, vu, []),
  (.ifCond .gt 21, 56, 0, 44, vu, []),
  (.iload 4, 4, 0, 45, vu, []),
  (.i2l, 0, 0, 46, vu, []),
  (.iload 5, 5, 0, 47, vu, []),
  (.i2l, 0, 0, 48, vu, []),
  (.ladd, 0, 0, 49, vu, []),
  (.aload_n 0, 0, 0, 50, vu, []),
  (.getfield 17, 7, 5, 51, vu, [2]),
  (.iload_n 3, 3, 0, 52, vu, []),
  (.iaload, 0, 0, 53, vu, []),
  (.i2l, 0, 0, 54, vu, []),
  (.lcmp, 0, 0, 55, vu, []),
  (.ifCond .le 9, 60, 0, 56, vu, []),
  (.aload_n 0, 0, 0, 57, vu, []),
  (.iconst 2, 0, 0, 58, vi 2, []),
  (.invokevirtual 90, 136, 2, 59, vu, [0, 0, 7]),
  (.ireturn, 0, 0, 60, vu, []),
  (.iconst 0, 0, 0, 61, vi 0, []),
  (.istore 6, 6, 0, 62, vu, []),
  (.iload 6, 6, 0, 63, vu, []),
  (.iload 5, 5, 0, 64, vu, []),
  (.if_icmp .ge 25, 77, 0, 65, vu, []),
  (.aload_n 0, 0, 0, 66, vu, []),
  (.getfield 23, 7, 7, 67, vu, [2]),
  (.iload 6, 6, 0, 68, vu, []),
  (.aload_n 0, 0, 0, 69, vu, []),
  (.iload_n 1, 1, 0, 70, vu, []),
  (.iload_n 2, 2, 0, 71, vu, []),
  (.iload 6, 6, 0, 72, vu, []),
  (.iadd, 0, 0, 73, vu, []),
  (.invokevirtual 104, 145, 3, 74, vu, [0, 0, 7]),
  (.iastore, 0, 0, 75, vu, []),
  (.iinc 6 1, 6, 0, 76, vi 1, []),
  (.goto (-26), 62, 0, 77, vu, []),
  (.iconst 0, 0, 0, 78, vi 0, []),
  (.istore 6, 6, 0, 79, vu, []),
  (.iload 6, 6, 0, 80, vu, []),
  (.iload 5, 5, 0, 81, vu, []),
  (.if_icmp .ge 26, 94, 0, 82, vu, []),
  (.aload_n 0, 0, 0, 83, vu, []),
  (.iload_n 3, 3, 0, 84, vu, []),
  (.iload 4, 4, 0, 85, vu, []),
  (.iload 6, 6, 0, 86, vu, []),
  (.iadd, 0, 0, 87, vu, []),
  (.aload_n 0, 0, 0, 88, vu, []),
  (.getfield 23, 7, 7, 89, vu, [2]),
  (.iload 6, 6, 0, 90, vu, []),
  (.iaload, 0, 0, 91, vu, []),
  (.invokevirtual 97, 146, 4, 92, vu, [0, 0, 7]),
  (.iinc 6 1, 6, 0, 93, vi 1, []),
  (.goto (-27), 79, 0, 94, vu, []),
  (.iconst 1, 0, 0, 95, vi 1, []),
  (.ireturn, 0, 0, 96, vu, [])]
noncomputable def p_M_copy : List Nat := [0, 1, 4, 7, 8, 11, 14, 15, 16, 18, 21, 22, 23, 26, 27, 28, 31, 32, 33, 36, 37, 40, 41, 42, 45, 46, 47, 50, 51, 52, 55, 57, 60, 61, 62, 64, 65, 66, 67, 70, 71, 72, 73, 74, 77, 79, 80, 82, 83, 84, 85, 88, 89, 90, 91, 92, 95, 96, 97, 100, 101, 102, 104, 106, 108, 111, 112, 115, 117, 118, 119, 120, 122, 123, 126, 127, 130, 133, 134, 136, 138, 140, 143, 144, 145, 147, 149, 150, 151, 154, 156, 157, 160, 163, 166, 167]
abbrev n_M_mean : Nat := 152
noncomputable def i_M_mean : List Ins := [(.aload_n 0, 0, 0, 1, vu, []),
  (.iload_n 1, 1, 0, 2, vu, []),
  (.invokevirtual 101, 143, 2, 3, vu, [0, 0, 7]),
  (.istore_n 2, 2, 0, 4, vu, []),
  (.iload_n 2, 2, 0, 5, vu, []),
  (.ifCond .ge 5, 8, 0, 6, vu, []),
  (.iload_n 2, 2, 0, 7, vu, []),
  (.ireturn, 0, 0, 8, vu, []),
  (.lconst 0, 0, 0, 9, vl 0, []),
  (.lstore_n 3, 3, 0, 10, vu, []),
  (.iconst 0, 0, 0, 11, vi 0, []),
  (.istore 5, 5, 0, 12, vu, []),
  (.iload 5, 5, 0, 13, vu, []),
  (.aload_n 0, 0, 0, 14, vu, []),
  (.getfield 17, 7, 5, 15, vu, [2]),
  (.iload_n 1, 1, 0, 16, vu, []),
  (.iaload, 0, 0, 17, vu, []),
  (.if_icmp .ge 20, 28, 0, 18, vu, []),
  (.lload_n 3, 3, 0, 19, vu, []),
  (.aload_n 0, 0, 0, 20, vu, []),
  (.iload_n 1, 1, 0, 21, vu, []),
  (.iload 5, 5, 0, 22, vu, []),
  (.invokevirtual 104, 145, 3, 23, vu, [0, 0, 7]),
  (.i2l, 0, 0, 24, vu, []),
  (.ladd, 0, 0, 25, vu, []),
  (.lstore_n 3, 3, 0, 26, vu, []),
  (.iinc 5 1, 5, 0, 27, vi 1, []),
  (.goto (-25), 12, 0, 28, vu, []),
  (.aload_n 0, 0, 0, 29, vu, []),
  (.getfield 17, 7, 5, 30, vu, [2]),
  (.iload_n 1, 1, 0, 31, vu, []),
  (.iaload, 0, 0, 32, vu, []),
  (.ifCond .ne 11, 37, 0, 33, vu, []),
  (.aload_n 0, 0, 0, 34, vu, []),
  (.iconst 4, 0, 0, 35, vi 4, []),
  (.invokevirtual 90, 136, 2, 36, vu, [0, 0, 7]),
  (.goto 18, 48, 0, 37, vu, []),
  (.aload_n 0, 0, 0, 38, vu, []),
  (.lload_n 3, 3, 0, 39, vu, []),
  (.aload_n 0, 0, 0, 40, vu, []),
  (.getfield 17, 7, 5, 41, vu, [2]),
  (.iload_n 1, 1, 0, 42, vu, []),
  (.iaload, 0, 0, 43, vu, []),
  (.i2l, 0, 0, 44, vu, []),
  (.ldiv, 0, 0, 45, vu, []),
  (.l2i, 0, 0, 46, vu, []),
  (.iconst 1, 0, 0, 47, vi 1, []),
  (.invokevirtual 108, 137, 3, 48, vu, [0, 0, 7]),
  (.ireturn, 0, 0, 49, vu, [])]
noncomputable def p_M_mean : List Nat := [0, 1, 2, 5, 6, 7, 10, 11, 12, 13, 14, 15, 17, 19, 20, 23, 24, 25, 28, 29, 30, 31, 33, 36, 37, 38, 39, 42, 45, 46, 49, 50, 51, 54, 55, 56, 59, 62, 63, 64, 65, 68, 69, 70, 71, 72, 73, 74, 77]
abbrev n_M_text : Nat := 153
noncomputable def i_M_text : List Ins := [(.iload_n 1, 1, 0, 1, vu, []),
  (.invokestatic 94, 142, 1, 2, vu, [0, 0, 99]),
  (.ifCond .eq 9, 6, 0, 3, vu, []),
  (.iload_n 2, 2, 0, 4, vu, []),
  (.bipush 80, 0, 0, 5, vi 80, []),
  (.if_icmp .le 5, 8, 0, 6, vu, []),
  (.iconst (-1), 0, 0, 7, vi (-1), []),
  (.ireturn, 0, 0, 8, vu, []),
  (.iload_n 2, 2, 0, 9, vu, []),
  (.ifCond .ge 9, 14, 0, 10, vu, []),
  (.aload_n 0, 0, 0, 11, vu, []),
  (.iconst 5, 0, 0, 12, vi 5, []),
  (.invokevirtual 90, 136, 2, 13, vu, [0, 0, 7]),
  (.ireturn, 0, 0, 14, vu, []),
  (.aload_n 0, 0, 0, 15, vu, []),
  (.getfield 26, 7, 8, 16, vu, [2]),
  (.iload_n 1, 1, 0, 17, vu, []),
  (.iload_n 2, 2, 0, 18, vu, []),
  (.iastore, 0, 0, 19, vu, []),
  (.iconst 0, 0, 0, 20, vi 0, []),
  (.istore_n 3, 3, 0, 21, vu, []),
  (.iload_n 3, 3, 0, 22, vu, []),
  (.bipush 80, 0, 0, 23, vi 80, []),
  (.if_icmp .ge 22, 35, 0, 24, vu, []),
  (.aload_n 0, 0, 0, 25, vu, []),
  (.getfield 29, 7, 9, 26, vu, [2]),
  (.bipush 80, 0, 0, 27, vi 80, []),
  (.iload_n 1, 1, 0, 28, vu, []),
  (.imul, 0, 0, 29, vu, []),
  (.iload_n 3, 3, 0, 30, vu, []),
  (.iadd, 0, 0, 31, vu, []),
  (.bipush 32, 0, 0, 32, vi 32, []),
  (.iastore, 0, 0, 33, vu, []),
  (.iinc 3 1, 3, 0, 34, vi 1, []),
  (.goto (-22), 21, 0, 35, vu, []),
  (.iload_n 2, 2, 0, 36, vu, []),
  (.ireturn, 0, 0, 37, vu, [])]
noncomputable def p_M_text : List Nat := [0, 1, 4, 7, 8, 10, 13, 14, 15, 16, 19, 20, 21, 24, 25, 26, 29, 30, 31, 32, 33, 34, 35, 37, 40, 41, 44, 46, 47, 48, 49, 50, 52, 53, 56, 59, 60]
abbrev n_M_put : Nat := 154
noncomputable def i_M_put : List Ins := [(.aload_n 0, 0, 0, 1, vu, []),
  (.iload_n 1, 1, 0, 2, vu, []),
  (.invokevirtual 114, 144, 2, 3, vu, [0, 0, 7]),
  (.istore 4, 4, 0, 4, vu, []),
  (.iload 4, 4, 0, 5, vu, []),
  (.ifCond .ge 6, 8, 0, 6, vu, []),
  (.iload 4, 4, 0, 7, vu, []),
  (.ireturn, 0, 0, 8, vu, []),
  (.iload_n 2, 2, 0, 9, vu, []),
  (.iconst 0, 0, 0, 10, vi 0, []),
  (.aload_n 0, 0, 0, 11, vu, []),
  (.getfield 26, 7, 8, 12, vu, [2]),
  (.iload_n 1, 1, 0, 13, vu, []),
  (.iaload, 0, 0, 14, vu, []),
  (.iconst 1, 0, 0, 15, vi 1, []),
  (.isub, 0, 0, 16, vu, []),
  (.invokestatic 82, 135, 3, 17, vu, [0, 0, 99]),
  (.ifCond .ne 9, 22, 0, 18, vu, []),
  (.aload_n 0, 0, 0, 19, vu, []),
  (.iconst 2, 0, 0, 20, vi 2, []),
  (.invokevirtual 90, 136, 2, 21, vu, [0, 0, 7]),
  (.ireturn, 0, 0, 22, vu, []),
  (.aload_n 0, 0, 0, 23, vu, []),
  (.getfield 29, 7, 9, 24, vu, [2]),
  (.bipush 80, 0, 0, 25, vi 80, []),
  (.iload_n 1, 1, 0, 26, vu, []),
  (.imul, 0, 0, 27, vu, []),
  (.iload_n 2, 2, 0, 28, vu, []),
  (.iadd, 0, 0, 29, vu, []),
  (.iaload, 0, 0, 30, vu, []),
  (.istore 5, 5, 0, 31, vu, []),
  (.aload_n 0, 0, 0, 32, vu, []),
  (.getfield 29, 7, 9, 33, vu, [2]),
  (.bipush 80, 0, 0, 34, vi 80, []),
  (.iload_n 1, 1, 0, 35, vu, []),
  (.imul, 0, 0, 36, vu, []),
  (.iload_n 2, 2, 0, 37, vu, []),
  (.iadd, 0, 0, 38, vu, []),
  (.iload_n 3, 3, 0, 39, vu, []),
  (.i2b, 0, 0, 40, vu, []),
  (.iastore, 0, 0, 41, vu, []),
  (.iload 5, 5, 0, 42, vu, []),
  (.sipush 1000, 0, 0, 43, vi 1000, []),
  (.iadd, 0, 0, 44, vu, []),
  (.ireturn, 0, 0, 45, vu, [])]
noncomputable def p_M_put : List Nat := [0, 1, 2, 5, 7, 9, 12, 14, 15, 16, 17, 18, 21, 22, 23, 24, 25, 28, 31, 32, 33, 36, 37, 38, 41, 43, 44, 45, 46, 47, 48, 50, 51, 54, 56, 57, 58, 59, 60, 61, 62, 63, 65, 68, 69]
abbrev n_M_here : Nat := 155
noncomputable def i_M_here : List Ins := [(.aload_n 0, 0, 0, 1, vu, []),
  (.getfield 117, 7, 16, 2, vu, [0]),
  (.aload_n 0, 0, 0, 3, vu, []),
  (.getfield 26, 7, 8, 4, vu, [2]),
  (.iload_n 1, 1, 0, 5, vu, []),
  (.iaload, 0, 0, 6, vu, []),
  (.if_icmp .ge 20, 17, 0, 7, vu, []),
  (.aload_n 0, 0, 0, 8, vu, []),
  (.getfield 29, 7, 9, 9, vu, [2]),
  (.bipush 80, 0, 0, 10, vi 80, []),
  (.iload_n 1, 1, 0, 11, vu, []),
  (.imul, 0, 0, 12, vu, []),
  (.aload_n 0, 0, 0, 13, vu, []),
  (.getfield 117, 7, 16, 14, vu, [0]),
  (.iadd, 0, 0, 15, vu, []),
  (.iaload, 0, 0, 16, vu, []),
  (.goto 5, 18, 0, 17, vu, []),
  (.bipush (-9), 0, 0, 18, vi (-9), []),
  (.ireturn, 0, 0, 19, vu, [])]
noncomputable def p_M_here : List Nat := [0, 1, 4, 5, 8, 9, 10, 13, 14, 17, 19, 20, 21, 22, 25, 26, 27, 30, 32]
abbrev n_M_isFigure : Nat := 156
noncomputable def i_M_isFigure : List Ins := [(.aload_n 0, 0, 0, 1, vu, []),
  (.iload_n 1, 1, 0, 2, vu, []),
  (.invokevirtual 120, 155, 2, 3, vu, [0, 0, 7]),
  (.bipush 48, 0, 0, 4, vi 48, []),
  (.bipush 57, 0, 0, 5, vi 57, []),
  (.invokestatic 82, 135, 3, 6, vu, [0, 0, 99]),
  (.ireturn, 1, 0, 7, vu, [])]
noncomputable def p_M_isFigure : List Nat := [0, 1, 2, 5, 7, 9, 12]
abbrev n_M_figure : Nat := 157
noncomputable def i_M_figure : List Ins := [(.aload_n 0, 0, 0, 1, vu, []),
  (.iload_n 1, 1, 0, 2, vu, []),
  (.invokevirtual 120, 155, 2, 3, vu, [0, 0, 7]),
  (.bipush 48, 0, 0, 4, vi 48, []),
  (.isub, 0, 0, 5, vu, []),
  (.istore_n 2, 2, 0, 6, vu, []),
  (.aload_n 0, 0, 0, 7, vu, []),
  (.dup, 0, 0, 8, vu, []),
  (.getfield 117, 7, 16, 9, vu, [0]),
  (.iconst 1, 0, 0, 10, vi 1, []),
  (.iadd, 0, 0, 11, vu, []),
  (.putfield 117, 7, 16, 12, vu, [0]),
  (.iload_n 2, 2, 0, 13, vu, []),
  (.ireturn, 0, 0, 14, vu, [])]
noncomputable def p_M_figure : List Nat := [0, 1, 2, 5, 7, 8, 9, 10, 11, 14, 15, 16, 19, 20]
abbrev n_M_kindOf : Nat := 158
noncomputable def i_M_kindOf : List Ins := [(.iload_n 0, 0, 0, 1, vu, []),
  (.bipush 104, 0, 0, 2, vi 104, []),
  (.if_icmp .ne 7, 5, 0, 3, vu, []),
  (.iconst 0, 0, 0, 4, vi 0, []),
  (.goto 55, 31, 0, 5, vu, []),
  (.iload_n 0, 0, 0, 6, vu, []),
  (.bipush 102, 0, 0, 7, vi 102, []),
  (.if_icmp .ne 7, 10, 0, 8, vu, []),
  (.iconst 1, 0, 0, 9, vi 1, []),
  (.goto 45, 31, 0, 10, vu, []),
  (.iload_n 0, 0, 0, 11, vu, []),
  (.bipush 109, 0, 0, 12, vi 109, []),
  (.if_icmp .ne 7, 15, 0, 13, vu, []),
  (.iconst 2, 0, 0, 14, vi 2, []),
  (.goto 35, 31, 0, 15, vu, []),
  (.iload_n 0, 0, 0, 16, vu, []),
  (.bipush 98, 0, 0, 17, vi 98, []),
  (.if_icmp .ne 7, 20, 0, 18, vu, []),
  (.iconst 3, 0, 0, 19, vi 3, []),
  (.goto 25, 31, 0, 20, vu, []),
  (.iload_n 0, 0, 0, 21, vu, []),
  (.bipush 117, 0, 0, 22, vi 117, []),
  (.if_icmp .ne 7, 25, 0, 23, vu, []),
  (.iconst 4, 0, 0, 24, vi 4, []),
  (.goto 15, 31, 0, 25, vu, []),
  (.iload_n 0, 0, 0, 26, vu, []),
  (.bipush 99, 0, 0, 27, vi 99, []),
  (.if_icmp .ne 7, 30, 0, 28, vu, []),
  (.iconst 5, 0, 0, 29, vi 5, []),
  (.goto 5, 31, 0, 30, vu, []),
  (.bipush (-9), 0, 0, 31, vi (-9), []),
  (.ireturn, 0, 0, 32, vu, [])]
noncomputable def p_M_kindOf : List Nat := [0, 1, 3, 6, 7, 10, 11, 13, 16, 17, 20, 21, 23, 26, 27, 30, 31, 33, 36, 37, 40, 41, 43, 46, 47, 50, 51, 53, 56, 57, 60, 62]
abbrev n_M_readsHead : Nat := 159
noncomputable def i_M_readsHead : List Ins := [(.aload_n 0, 0, 0, 1, vu, []),
  (.iload_n 1, 1, 0, 2, vu, []),
  (.invokevirtual 120, 155, 2, 3, vu, [0, 0, 7]),
  (.bipush 97, 0, 0, 4, vi 97, []),
  (.if_icmp .eq 5, 7, 0, 5, vu, []),
  (.iconst 0, 0, 0, 6, vi 0, []),
  (.ireturn, 1, 0, 7, vu, []),
  (.aload_n 0, 0, 0, 8, vu, []),
  (.dup, 0, 0, 9, vu, []),
  (.getfield 117, 7, 16, 10, vu, [0]),
  (.iconst 1, 0, 0, 11, vi 1, []),
  (.iadd, 0, 0, 12, vu, []),
  (.putfield 117, 7, 16, 13, vu, [0]),
  (.aload_n 0, 0, 0, 14, vu, []),
  (.iload_n 1, 1, 0, 15, vu, []),
  (.invokevirtual 123, 156, 2, 16, vu, [0, 0, 7]),
  (.ifCond .ne 5, 19, 0, 17, vu, []),
  (.iconst 0, 0, 0, 18, vi 0, []),
  (.ireturn, 1, 0, 19, vu, []),
  (.aload_n 0, 0, 0, 20, vu, []),
  (.aload_n 0, 0, 0, 21, vu, []),
  (.iload_n 1, 1, 0, 22, vu, []),
  (.invokevirtual 126, 157, 2, 23, vu, [0, 0, 7]),
  (.putfield 129, 7, 18, 24, vu, [0]),
  (.aload_n 0, 0, 0, 25, vu, []),
  (.iload_n 1, 1, 0, 26, vu, []),
  (.invokevirtual 123, 156, 2, 27, vu, [0, 0, 7]),
  (.ifCond .ne 5, 30, 0, 28, vu, []),
  (.iconst 0, 0, 0, 29, vi 0, []),
  (.ireturn, 1, 0, 30, vu, []),
  (.aload_n 0, 0, 0, 31, vu, []),
  (.aload_n 0, 0, 0, 32, vu, []),
  (.iload_n 1, 1, 0, 33, vu, []),
  (.invokevirtual 126, 157, 2, 34, vu, [0, 0, 7]),
  (.putfield 132, 7, 19, 35, vu, [0]),
  (.iconst 1, 0, 0, 36, vi 1, []),
  (.ireturn, 1, 0, 37, vu, [])]
noncomputable def p_M_readsHead : List Nat := [0, 1, 2, 5, 7, 10, 11, 12, 13, 14, 17, 18, 19, 22, 23, 24, 27, 30, 31, 32, 33, 34, 35, 38, 41, 42, 43, 46, 49, 50, 51, 52, 53, 54, 57, 60, 61]
abbrev n_M_readsHouse : Nat := 160
noncomputable def i_M_readsHouse : List Ins := [(.aload_n 0, 0, 0, 1, vu, []),
  (.iload_n 1, 1, 0, 2, vu, []),
  (.invokevirtual 120, 155, 2, 3, vu, [0, 0, 7]),
  (.invokestatic 135, 158, 1, 4, vu, [0, 0, 99]),
  (.istore_n 2, 2, 0, 5, vu, []),
  (.iload_n 2, 2, 0, 6, vu, []),
  (.bipush (-9), 0, 0, 7, vi (-9), []),
  (.if_icmp .eq 12, 12, 0, 8, vu, []),
  (.aload_n 0, 0, 0, 9, vu, []),
  (.getfield 138, 7, 17, 10, vu, [0]),
  (.bipush 8, 0, 0, 11, vi 8, []),
  (.if_icmp .ne 5, 14, 0, 12, vu, []),
  (.iconst 0, 0, 0, 13, vi 0, []),
  (.ireturn, 1, 0, 14, vu, []),
  (.aload_n 0, 0, 0, 15, vu, []),
  (.dup, 0, 0, 16, vu, []),
  (.getfield 117, 7, 16, 17, vu, [0]),
  (.iconst 1, 0, 0, 18, vi 1, []),
  (.iadd, 0, 0, 19, vu, []),
  (.putfield 117, 7, 16, 20, vu, [0]),
  (.bipush 8, 0, 0, 21, vi 8, []),
  (.aload_n 0, 0, 0, 22, vu, []),
  (.getfield 138, 7, 17, 23, vu, [0]),
  (.iadd, 0, 0, 24, vu, []),
  (.istore_n 3, 3, 0, 25, vu, []),
  (.aload_n 0, 0, 0, 26, vu, []),
  (.getfield 32, 7, 13, 27, vu, [2]),
  (.iload_n 3, 3, 0, 28, vu, []),
  (.iload_n 2, 2, 0, 29, vu, []),
  (.iastore, 0, 0, 30, vu, []),
  (.aload_n 0, 0, 0, 31, vu, []),
  (.iload_n 1, 1, 0, 32, vu, []),
  (.invokevirtual 123, 156, 2, 33, vu, [0, 0, 7]),
  (.ifCond .ne 5, 36, 0, 34, vu, []),
  (.iconst 0, 0, 0, 35, vi 0, []),
  (.ireturn, 1, 0, 36, vu, []),
  (.aload_n 0, 0, 0, 37, vu, []),
  (.getfield 35, 7, 14, 38, vu, [2]),
  (.iload_n 3, 3, 0, 39, vu, []),
  (.aload_n 0, 0, 0, 40, vu, []),
  (.iload_n 1, 1, 0, 41, vu, []),
  (.invokevirtual 126, 157, 2, 42, vu, [0, 0, 7]),
  (.iastore, 0, 0, 43, vu, []),
  (.aload_n 0, 0, 0, 44, vu, []),
  (.iload_n 1, 1, 0, 45, vu, []),
  (.invokevirtual 123, 156, 2, 46, vu, [0, 0, 7]),
  (.ifCond .ne 5, 49, 0, 47, vu, []),
  (.iconst 0, 0, 0, 48, vi 0, []),
  (.ireturn, 1, 0, 49, vu, []),
  (.aload_n 0, 0, 0, 50, vu, []),
  (.getfield 38, 7, 15, 51, vu, [2]),
  (.iload_n 3, 3, 0, 52, vu, []),
  (.aload_n 0, 0, 0, 53, vu, []),
  (.iload_n 1, 1, 0, 54, vu, []),
  (.invokevirtual 126, 157, 2, 55, vu, [0, 0, 7]),
  (.iastore, 0, 0, 56, vu, []),
  (.aload_n 0, 0, 0, 57, vu, []),
  (.dup, 0, 0, 58, vu, []),
  (.getfield 138, 7, 17, 59, vu, [0]),
  (.iconst 1, 0, 0, 60, vi 1, []),
  (.iadd, 0, 0, 61, vu, []),
  (.putfield 138, 7, 17, 62, vu, [0]),
  (.iconst 1, 0, 0, 63, vi 1, []),
  (.ireturn, 1, 0, 64, vu, [])]
noncomputable def p_M_readsHouse : List Nat := [0, 1, 2, 5, 8, 9, 10, 12, 15, 16, 19, 21, 24, 25, 26, 27, 28, 31, 32, 33, 36, 38, 39, 42, 43, 44, 45, 48, 49, 50, 51, 52, 53, 56, 59, 60, 61, 62, 65, 66, 67, 68, 71, 72, 73, 74, 77, 80, 81, 82, 83, 86, 87, 88, 89, 92, 93, 94, 95, 98, 99, 100, 103, 104]
abbrev n_M_goesOn : Nat := 161
noncomputable def i_M_goesOn : List Ins := [(.aload_n 0, 0, 0, 1, vu, []),
  (.iconst 0, 0, 0, 2, vi 0, []),
  (.putfield 117, 7, 16, 3, vu, [0]),
  (.aload_n 0, 0, 0, 4, vu, []),
  (.iconst 0, 0, 0, 5, vi 0, []),
  (.putfield 138, 7, 17, 6, vu, [0]),
  (.iconst 0, 0, 0, 7, vi 0, []),
  (.istore_n 2, 2, 0, 8, vu, []),
  (.aload_n 0, 0, 0, 9, vu, []),
  (.getfield 117, 7, 16, 10, vu, [0]),
  (.aload_n 0, 0, 0, 11, vu, []),
  (.getfield 26, 7, 8, 12, vu, [2]),
  (.iload_n 1, 1, 0, 13, vu, []),
  (.iaload, 0, 0, 14, vu, []),
  (.if_icmp .ge 59, 44, 0, 15, vu, []),
  (.aload_n 0, 0, 0, 16, vu, []),
  (.iload_n 1, 1, 0, 17, vu, []),
  (.invokevirtual 120, 155, 2, 18, vu, [0, 0, 7]),
  (.bipush 32, 0, 0, 19, vi 32, []),
  (.if_icmp .ne 16, 27, 0, 20, vu, []),
  (.aload_n 0, 0, 0, 21, vu, []),
  (.dup, 0, 0, 22, vu, []),
  (.getfield 117, 7, 16, 23, vu, [0]),
  (.iconst 1, 0, 0, 24, vi 1, []),
  (.iadd, 0, 0, 25, vu, []),
  (.putfield 117, 7, 16, 26, vu, [0]),
  (.goto (-33), 8, 0, 27, vu, []),
  (.iload_n 2, 2, 0, 28, vu, []),
  (.ifCond .eq 14, 34, 0, 29, vu, []),
  (.aload_n 0, 0, 0, 30, vu, []),
  (.iload_n 1, 1, 0, 31, vu, []),
  (.invokevirtual 141, 160, 2, 32, vu, [0, 0, 7]),
  (.ifCond .ne 19, 41, 0, 33, vu, []),
  (.goto 11, 38, 0, 34, vu, []),
  (.aload_n 0, 0, 0, 35, vu, []),
  (.iload_n 1, 1, 0, 36, vu, []),
  (.invokevirtual 144, 159, 2, 37, vu, [0, 0, 7]),
  (.ifCond .ne 8, 41, 0, 38, vu, []),
  (.aload_n 0, 0, 0, 39, vu, []),
  (.getfield 117, 7, 16, 40, vu, [0]),
  (.ireturn, 0, 0, 41, vu, []),
  (.iconst 1, 0, 0, 42, vi 1, []),
  (.istore_n 2, 2, 0, 43, vu, []),
  (.goto (-66), 8, 0, 44, vu, []),
  (.iload_n 2, 2, 0, 45, vu, []),
  (.ifCond .eq 8, 48, 0, 46, vu, []),
  (.bipush (-9), 0, 0, 47, vi (-9), []),
  (.goto 9, 52, 0, 48, vu, []),
  (.aload_n 0, 0, 0, 49, vu, []),
  (.getfield 26, 7, 8, 50, vu, [2]),
  (.iload_n 1, 1, 0, 51, vu, []),
  (.iaload, 0, 0, 52, vu, []),
  (.ireturn, 0, 0, 53, vu, [])]
noncomputable def p_M_goesOn : List Nat := [0, 1, 2, 5, 6, 7, 10, 11, 12, 13, 16, 17, 20, 21, 22, 25, 26, 27, 30, 32, 35, 36, 37, 40, 41, 42, 45, 48, 49, 52, 53, 54, 57, 60, 63, 64, 65, 68, 71, 72, 75, 76, 77, 78, 81, 82, 85, 87, 90, 91, 94, 95, 96]
abbrev n_M_fault : Nat := 162
noncomputable def i_M_fault : List Ins := [(.aload_n 0, 0, 0, 1, vu, []),
  (.iload_n 1, 1, 0, 2, vu, []),
  (.invokevirtual 114, 144, 2, 3, vu, [0, 0, 7]),
  (.istore_n 2, 2, 0, 4, vu, []),
  (.iload_n 2, 2, 0, 5, vu, []),
  (.ifCond .ge 7, 8, 0, 6, vu, []),
  (.iload_n 2, 2, 0, 7, vu, []),
  (.goto 8, 11, 0, 8, vu, []),
  (.aload_n 0, 0, 0, 9, vu, []),
  (.iload_n 1, 1, 0, 10, vu, []),
  (.invokevirtual 147, 161, 2, 11, vu, [0, 0, 7]),
  (.ireturn, 0, 0, 12, vu, [])]
noncomputable def p_M_fault : List Nat := [0, 1, 2, 5, 6, 7, 10, 11, 14, 15, 16, 19]
abbrev n_M_street : Nat := 163
noncomputable def i_M_street : List Ins := [(.aload_n 0, 0, 0, 1, vu, []),
  (.iload_n 1, 1, 0, 2, vu, []),
  (.invokevirtual 114, 144, 2, 3, vu, [0, 0, 7]),
  (.istore_n 2, 2, 0, 4, vu, []),
  (.iload_n 2, 2, 0, 5, vu, []),
  (.ifCond .ge 5, 8, 0, 6, vu, []),
  (.iload_n 2, 2, 0, 7, vu, []),
  (.ireturn, 0, 0, 8, vu, []),
  (.aload_n 0, 0, 0, 9, vu, []),
  (.iload_n 1, 1, 0, 10, vu, []),
  (.invokevirtual 147, 161, 2, 11, vu, [0, 0, 7]),
  (.bipush (-9), 0, 0, 12, vi (-9), []),
  (.if_icmp .eq 6, 15, 0, 13, vu, []),
  (.bipush (-4), 0, 0, 14, vi (-4), []),
  (.ireturn, 0, 0, 15, vu, []),
  (.aload_n 0, 0, 0, 16, vu, []),
  (.aload_n 0, 0, 0, 17, vu, []),
  (.getfield 138, 7, 17, 18, vu, [0]),
  (.putfield 150, 7, 10, 19, vu, [0]),
  (.aload_n 0, 0, 0, 20, vu, []),
  (.aload_n 0, 0, 0, 21, vu, []),
  (.getfield 150, 7, 10, 22, vu, [0]),
  (.ifCond .ne 7, 25, 0, 23, vu, []),
  (.iconst 0, 0, 0, 24, vi 0, []),
  (.goto 7, 27, 0, 25, vu, []),
  (.aload_n 0, 0, 0, 26, vu, []),
  (.getfield 129, 7, 18, 27, vu, [0]),
  (.putfield 153, 7, 11, 28, vu, [0]),
  (.aload_n 0, 0, 0, 29, vu, []),
  (.aload_n 0, 0, 0, 30, vu, []),
  (.getfield 150, 7, 10, 31, vu, [0]),
  (.ifCond .ne 7, 34, 0, 32, vu, []),
  (.iconst 0, 0, 0, 33, vi 0, []),
  (.goto 7, 36, 0, 34, vu, []),
  (.aload_n 0, 0, 0, 35, vu, []),
  (.getfield 132, 7, 19, 36, vu, [0]),
  (.putfield 156, 7, 12, 37, vu, [0]),
  (.iconst 0, 0, 0, 38, vi 0, []),
  (.istore_n 3, 3, 0, 39, vu, []),
  (.iload_n 3, 3, 0, 40, vu, []),
  (.bipush 8, 0, 0, 41, vi 8, []),
  (.if_icmp .ge 68, 84, 0, 42, vu, []),
  (.aload_n 0, 0, 0, 43, vu, []),
  (.getfield 32, 7, 13, 44, vu, [2]),
  (.iload_n 3, 3, 0, 45, vu, []),
  (.aload_n 0, 0, 0, 46, vu, []),
  (.getfield 32, 7, 13, 47, vu, [2]),
  (.bipush 8, 0, 0, 48, vi 8, []),
  (.iload_n 3, 3, 0, 49, vu, []),
  (.iadd, 0, 0, 50, vu, []),
  (.iaload, 0, 0, 51, vu, []),
  (.iastore, 0, 0, 52, vu, []),
  (.aload_n 0, 0, 0, 53, vu, []),
  (.getfield 35, 7, 14, 54, vu, [2]),
  (.iload_n 3, 3, 0, 55, vu, []),
  (.aload_n 0, 0, 0, 56, vu, []),
  (.getfield 35, 7, 14, 57, vu, [2]),
  (.bipush 8, 0, 0, 58, vi 8, []),
  (.iload_n 3, 3, 0, 59, vu, []),
  (.iadd, 0, 0, 60, vu, []),
  (.iaload, 0, 0, 61, vu, []),
  (.iastore, 0, 0, 62, vu, []),
  (.aload_n 0, 0, 0, 63, vu, []),
  (.getfield 38, 7, 15, 64, vu, [2]),
  (.iload_n 3, 3, 0, 65, vu, []),
  (.aload_n 0, 0, 0, 66, vu, []),
  (.getfield 38, 7, 15, 67, vu, [2]),
  (.bipush 8, 0, 0, 68, vi 8, []),
  (.iload_n 3, 3, 0, 69, vu, []),
  (.iadd, 0, 0, 70, vu, []),
  (.iaload, 0, 0, 71, vu, []),
  (.iastore, 0, 0, 72, vu, []),
  (.aload_n 0, 0, 0, 73, vu, []),
  (.getfield 41, 7, 23, 74, vu, [2]),
  (.iload_n 3, 3, 0, 75, vu, []),
  (.iconst 0, 0, 0, 76, vi 0, []),
  (.iastore, 0, 0, 77, vu, []),
  (.aload_n 0, 0, 0, 78, vu, []),
  (.getfield 44, 7, 24, 79, vu, [2]),
  (.iload_n 3, 3, 0, 80, vu, []),
  (.iconst 0, 0, 0, 81, vi 0, []),
  (.iastore, 0, 0, 82, vu, []),
  (.iinc 3 1, 3, 0, 83, vi 1, []),
  (.goto (-68), 39, 0, 84, vu, []),
  (.iconst 0, 0, 0, 85, vi 0, []),
  (.istore_n 3, 3, 0, 86, vu, []),
  (.iload_n 3, 3, 0, 87, vu, []),
  (.bipush 64, 0, 0, 88, vi 64, []),
  (.if_icmp .ge 16, 96, 0, 89, vu, []),
  (.aload_n 0, 0, 0, 90, vu, []),
  (.getfield 66, 7, 35, 91, vu, [2]),
  (.iload_n 3, 3, 0, 92, vu, []),
  (.iconst 0, 0, 0, 93, vi 0, []),
  (.iastore, 0, 0, 94, vu, []),
  (.iinc 3 1, 3, 0, 95, vi 1, []),
  (.goto (-16), 86, 0, 96, vu, []),
  (.aload_n 0, 0, 0, 97, vu, []),
  (.iconst 0, 0, 0, 98, vi 0, []),
  (.putfield 159, 7, 20, 99, vu, [0]),
  (.aload_n 0, 0, 0, 100, vu, []),
  (.iconst 0, 0, 0, 101, vi 0, []),
  (.putfield 162, 7, 21, 102, vu, [0]),
  (.aload_n 0, 0, 0, 103, vu, []),
  (.iconst 0, 0, 0, 104, vi 0, []),
  (.putfield 165, 7, 22, 105, vu, [0]),
  (.iconst 0, 0, 0, 106, vi 0, []),
  (.istore_n 3, 3, 0, 107, vu, []),
  (.iload_n 3, 3, 0, 108, vu, []),
  (.iconst 3, 0, 0, 109, vi 3, []),
  (.if_icmp .ge 21, 119, 0, 110, vu, []),
  (.aload_n 0, 0, 0, 111, vu, []),
  (.getfield 50, 7, 26, 112, vu, [2]),
  (.sipush 580, 0, 0, 113, vi 580, []),
  (.iload_n 3, 3, 0, 114, vu, []),
  (.imul, 0, 0, 115, vu, []),
  (.bipush (-9), 0, 0, 116, vi (-9), []),
  (.iastore, 0, 0, 117, vu, []),
  (.iinc 3 1, 3, 0, 118, vi 1, []),
  (.goto (-20), 107, 0, 119, vu, []),
  (.aload_n 0, 0, 0, 120, vu, []),
  (.getfield 150, 7, 10, 121, vu, [0]),
  (.ireturn, 0, 0, 122, vu, [])]
noncomputable def p_M_street : List Nat := [0, 1, 2, 5, 6, 7, 10, 11, 12, 13, 14, 17, 19, 22, 24, 25, 26, 27, 30, 33, 34, 35, 38, 41, 42, 45, 46, 49, 52, 53, 54, 57, 60, 61, 64, 65, 68, 71, 72, 73, 74, 76, 79, 80, 83, 84, 85, 88, 90, 91, 92, 93, 94, 95, 98, 99, 100, 103, 105, 106, 107, 108, 109, 110, 113, 114, 115, 118, 120, 121, 122, 123, 124, 125, 128, 129, 130, 131, 132, 135, 136, 137, 138, 141, 144, 145, 146, 147, 149, 152, 153, 156, 157, 158, 159, 162, 165, 166, 167, 170, 171, 172, 175, 176, 177, 180, 181, 182, 183, 184, 187, 188, 191, 194, 195, 196, 198, 199, 202, 205, 206, 209]
abbrev n_M_isHouse : Nat := 164
noncomputable def i_M_isHouse : List Ins := [(.iload_n 1, 1, 0, 1, vu, []),
  (.iconst 0, 0, 0, 2, vi 0, []),
  (.aload_n 0, 0, 0, 3, vu, []),
  (.getfield 150, 7, 10, 4, vu, [0]),
  (.iconst 1, 0, 0, 5, vi 1, []),
  (.isub, 0, 0, 6, vu, []),
  (.invokestatic 82, 135, 3, 7, vu, [0, 0, 99]),
  (.ireturn, 1, 0, 8, vu, [])]
noncomputable def p_M_isHouse : List Nat := [0, 1, 2, 3, 6, 7, 8, 11]
abbrev n_M_all : Nat := 165
noncomputable def i_M_all : List Ins := [(.iconst 1, 0, 0, 1, vi 1, []),
  (.aload_n 0, 0, 0, 2, vu, []),
  (.getfield 150, 7, 10, 3, vu, [0]),
  (.ishl, 0, 0, 4, vu, []),
  (.iconst 1, 0, 0, 5, vi 1, []),
  (.isub, 0, 0, 6, vu, []),
  (.ireturn, 0, 0, 7, vu, [])]
noncomputable def p_M_all : List Nat := [0, 1, 2, 5, 6, 7, 8]
abbrev n_M_isSet : Nat := 166
noncomputable def i_M_isSet : List Ins := [(.iload_n 1, 1, 0, 1, vu, []),
  (.iconst 0, 0, 0, 2, vi 0, []),
  (.aload_n 0, 0, 0, 3, vu, []),
  (.invokevirtual 168, 165, 1, 4, vu, [0, 0, 7]),
  (.invokestatic 82, 135, 3, 5, vu, [0, 0, 99]),
  (.ireturn, 1, 0, 6, vu, [])]
noncomputable def p_M_isSet : List Nat := [0, 1, 2, 3, 6, 9]
abbrev n_M_isA : Nat := 167
noncomputable def i_M_isA : List Ins := [(.aload_n 0, 0, 0, 1, vu, []),
  (.getfield 32, 7, 13, 2, vu, [2]),
  (.iload_n 1, 1, 0, 3, vu, []),
  (.iaload, 0, 0, 4, vu, []),
  (.iload_n 2, 2, 0, 5, vu, []),
  (.if_icmp .eq 33, 24, 0, 6, vu, []),
  (.iload_n 2, 2, 0, 7, vu, []),
  (.iconst 2, 0, 0, 8, vi 2, []),
  (.if_icmp .ne 13, 15, 0, 9, vu, []),
  (.aload_n 0, 0, 0, 10, vu, []),
  (.getfield 32, 7, 13, 11, vu, [2]),
  (.iload_n 1, 1, 0, 12, vu, []),
  (.iaload, 0, 0, 13, vu, []),
  (.iconst 4, 0, 0, 14, vi 4, []),
  (.if_icmp .eq 18, 24, 0, 15, vu, []),
  (.iload_n 2, 2, 0, 16, vu, []),
  (.iconst 3, 0, 0, 17, vi 3, []),
  (.if_icmp .ne 17, 26, 0, 18, vu, []),
  (.aload_n 0, 0, 0, 19, vu, []),
  (.getfield 32, 7, 13, 20, vu, [2]),
  (.iload_n 1, 1, 0, 21, vu, []),
  (.iaload, 0, 0, 22, vu, []),
  (.iconst 5, 0, 0, 23, vi 5, []),
  (.if_icmp .ne 7, 26, 0, 24, vu, []),
  (.iconst 1, 0, 0, 25, vi 1, []),
  (.goto 4, 27, 0, 26, vu, []),
  (.iconst 0, 0, 0, 27, vi 0, []),
  (.ireturn, 1, 0, 28, vu, [])]
noncomputable def p_M_isA : List Nat := [0, 1, 4, 5, 6, 7, 10, 11, 12, 15, 16, 19, 20, 21, 22, 25, 26, 27, 30, 31, 34, 35, 36, 37, 40, 41, 44, 45]
abbrev n_M_soundOf : Nat := 168
noncomputable def i_M_soundOf : List Ins := [(.aload_n 0, 0, 0, 1, vu, []),
  (.getfield 32, 7, 13, 2, vu, [2]),
  (.iload_n 1, 1, 0, 3, vu, []),
  (.iaload, 0, 0, 4, vu, []),
  (.istore_n 2, 2, 0, 5, vu, []),
  (.iload_n 2, 2, 0, 6, vu, []),
  (.iconst 1, 0, 0, 7, vi 1, []),
  (.if_icmp .ne 14, 15, 0, 8, vu, []),
  (.iconst 2, 0, 0, 9, vi 2, []),
  (.aload_n 0, 0, 0, 10, vu, []),
  (.getfield 35, 7, 14, 11, vu, [2]),
  (.iload_n 1, 1, 0, 12, vu, []),
  (.iaload, 0, 0, 13, vu, []),
  (.imul, 0, 0, 14, vu, []),
  (.goto 34, 34, 0, 15, vu, []),
  (.iload_n 2, 2, 0, 16, vu, []),
  (.iconst 2, 0, 0, 17, vi 2, []),
  (.if_icmp .ne 14, 25, 0, 18, vu, []),
  (.aload_n 0, 0, 0, 19, vu, []),
  (.getfield 35, 7, 14, 20, vu, [2]),
  (.iload_n 1, 1, 0, 21, vu, []),
  (.iaload, 0, 0, 22, vu, []),
  (.iconst 2, 0, 0, 23, vi 2, []),
  (.idiv, 0, 0, 24, vu, []),
  (.goto 18, 34, 0, 25, vu, []),
  (.iload_n 2, 2, 0, 26, vu, []),
  (.iconst 4, 0, 0, 27, vi 4, []),
  (.if_icmp .ne 7, 30, 0, 28, vu, []),
  (.iconst 0, 0, 0, 29, vi 0, []),
  (.goto 9, 34, 0, 30, vu, []),
  (.aload_n 0, 0, 0, 31, vu, []),
  (.getfield 35, 7, 14, 32, vu, [2]),
  (.iload_n 1, 1, 0, 33, vu, []),
  (.iaload, 0, 0, 34, vu, []),
  (.ireturn, 0, 0, 35, vu, [])]
noncomputable def p_M_soundOf : List Nat := [0, 1, 4, 5, 6, 7, 8, 9, 12, 13, 14, 17, 18, 19, 20, 23, 24, 25, 28, 29, 32, 33, 34, 35, 36, 39, 40, 41, 44, 45, 48, 49, 52, 53, 54]
abbrev n_M_farOf : Nat := 169
noncomputable def i_M_farOf : List Ins := [(.iload_n 1, 1, 0, 1, vu, []),
  (.aload_n 0, 0, 0, 2, vu, []),
  (.getfield 153, 7, 11, 3, vu, [0]),
  (.if_icmp .le 12, 9, 0, 4, vu, []),
  (.iload_n 1, 1, 0, 5, vu, []),
  (.aload_n 0, 0, 0, 6, vu, []),
  (.getfield 153, 7, 11, 7, vu, [0]),
  (.isub, 0, 0, 8, vu, []),
  (.goto 9, 13, 0, 9, vu, []),
  (.aload_n 0, 0, 0, 10, vu, []),
  (.getfield 153, 7, 11, 11, vu, [0]),
  (.iload_n 1, 1, 0, 12, vu, []),
  (.isub, 0, 0, 13, vu, []),
  (.ireturn, 0, 0, 14, vu, [])]
noncomputable def p_M_farOf : List Nat := [0, 1, 2, 5, 8, 9, 10, 13, 14, 17, 18, 21, 22, 23]
abbrev n_M_rippleOf : Nat := 170
noncomputable def i_M_rippleOf : List Ins := [(.aload_n 0, 0, 0, 1, vu, []),
  (.iload_n 1, 1, 0, 2, vu, []),
  (.invokevirtual 172, 168, 2, 3, vu, [0, 0, 7]),
  (.aload_n 0, 0, 0, 4, vu, []),
  (.getfield 38, 7, 15, 5, vu, [2]),
  (.iload_n 1, 1, 0, 6, vu, []),
  (.iaload, 0, 0, 7, vu, []),
  (.isub, 0, 0, 8, vu, []),
  (.aload_n 0, 0, 0, 9, vu, []),
  (.iload_n 1, 1, 0, 10, vu, []),
  (.invokevirtual 175, 169, 2, 11, vu, [0, 0, 7]),
  (.isub, 0, 0, 12, vu, []),
  (.istore_n 2, 2, 0, 13, vu, []),
  (.iload_n 2, 2, 0, 14, vu, []),
  (.ifCond .ge 7, 17, 0, 15, vu, []),
  (.iconst 0, 0, 0, 16, vi 0, []),
  (.goto 4, 18, 0, 17, vu, []),
  (.iload_n 2, 2, 0, 18, vu, []),
  (.ireturn, 0, 0, 19, vu, [])]
noncomputable def p_M_rippleOf : List Nat := [0, 1, 2, 5, 6, 9, 10, 11, 12, 13, 14, 17, 18, 19, 20, 23, 24, 27, 28]
abbrev n_M_ripples : Nat := 171
noncomputable def i_M_ripples : List Ins := [(.iconst 0, 0, 0, 1, vi 0, []),
  (.istore_n 2, 2, 0, 2, vu, []),
  (.iconst 0, 0, 0, 3, vi 0, []),
  (.istore_n 3, 3, 0, 4, vu, []),
  (.iload_n 3, 3, 0, 5, vu, []),
  (.aload_n 0, 0, 0, 6, vu, []),
  (.getfield 150, 7, 10, 7, vu, [0]),
  (.if_icmp .ge 29, 22, 0, 8, vu, []),
  (.iload_n 2, 2, 0, 9, vu, []),
  (.iload_n 1, 1, 0, 10, vu, []),
  (.iload_n 3, 3, 0, 11, vu, []),
  (.invokestatic 178, 139, 2, 12, vu, [0, 0, 99]),
  (.ifCond .eq 11, 17, 0, 13, vu, []),
  (.aload_n 0, 0, 0, 14, vu, []),
  (.iload_n 3, 3, 0, 15, vu, []),
  (.invokevirtual 182, 170, 2, 16, vu, [0, 0, 7]),
  (.goto 4, 18, 0, 17, vu, []),
  (.iconst 0, 0, 0, 18, vi 0, []),
  (.iadd, 0, 0, 19, vu, []),
  (.istore_n 2, 2, 0, 20, vu, []),
  (.iinc 3 1, 3, 0, 21, vi 1, []),
  (.goto (-31), 4, 0, 22, vu, []),
  (.iload_n 2, 2, 0, 23, vu, []),
  (.ireturn, 0, 0, 24, vu, [])]
noncomputable def p_M_ripples : List Nat := [0, 1, 2, 3, 4, 5, 6, 9, 12, 13, 14, 15, 18, 21, 22, 23, 26, 29, 30, 31, 32, 35, 38, 39]
abbrev n_M_mutes : Nat := 172
noncomputable def i_M_mutes : List Ins := [(.iconst 0, 0, 0, 1, vi 0, []),
  (.istore_n 1, 1, 0, 2, vu, []),
  (.iconst 0, 0, 0, 3, vi 0, []),
  (.istore_n 2, 2, 0, 4, vu, []),
  (.iload_n 2, 2, 0, 5, vu, []),
  (.aload_n 0, 0, 0, 6, vu, []),
  (.getfield 150, 7, 10, 7, vu, [0]),
  (.if_icmp .ge 29, 24, 0, 8, vu, []),
  (.iload_n 1, 1, 0, 9, vu, []),
  (.aload_n 0, 0, 0, 10, vu, []),
  (.getfield 32, 7, 13, 11, vu, [2]),
  (.iload_n 2, 2, 0, 12, vu, []),
  (.iaload, 0, 0, 13, vu, []),
  (.iconst 4, 0, 0, 14, vi 4, []),
  (.if_icmp .ne 9, 19, 0, 15, vu, []),
  (.iconst 1, 0, 0, 16, vi 1, []),
  (.iload_n 2, 2, 0, 17, vu, []),
  (.ishl, 0, 0, 18, vu, []),
  (.goto 4, 20, 0, 19, vu, []),
  (.iconst 0, 0, 0, 20, vi 0, []),
  (.ior, 0, 0, 21, vu, []),
  (.istore_n 1, 1, 0, 22, vu, []),
  (.iinc 2 1, 2, 0, 23, vi 1, []),
  (.goto (-31), 4, 0, 24, vu, []),
  (.iload_n 1, 1, 0, 25, vu, []),
  (.ireturn, 0, 0, 26, vu, [])]
noncomputable def p_M_mutes : List Nat := [0, 1, 2, 3, 4, 5, 6, 9, 12, 13, 14, 17, 18, 19, 20, 23, 24, 25, 26, 29, 30, 31, 32, 35, 38, 39]
abbrev n_M_houseOf : Nat := 173
noncomputable def i_M_houseOf : List Ins := [(.iload_n 2, 2, 0, 1, vu, []),
  (.ifCond .ne 12, 7, 0, 2, vu, []),
  (.aload_n 0, 0, 0, 3, vu, []),
  (.getfield 32, 7, 13, 4, vu, [2]),
  (.iload_n 1, 1, 0, 5, vu, []),
  (.iaload, 0, 0, 6, vu, []),
  (.goto 49, 33, 0, 7, vu, []),
  (.iload_n 2, 2, 0, 8, vu, []),
  (.iconst 1, 0, 0, 9, vi 1, []),
  (.if_icmp .ne 12, 15, 0, 10, vu, []),
  (.aload_n 0, 0, 0, 11, vu, []),
  (.getfield 35, 7, 14, 12, vu, [2]),
  (.iload_n 1, 1, 0, 13, vu, []),
  (.iaload, 0, 0, 14, vu, []),
  (.goto 35, 33, 0, 15, vu, []),
  (.iload_n 2, 2, 0, 16, vu, []),
  (.iconst 2, 0, 0, 17, vi 2, []),
  (.if_icmp .ne 12, 23, 0, 18, vu, []),
  (.aload_n 0, 0, 0, 19, vu, []),
  (.getfield 38, 7, 15, 20, vu, [2]),
  (.iload_n 1, 1, 0, 21, vu, []),
  (.iaload, 0, 0, 22, vu, []),
  (.goto 21, 33, 0, 23, vu, []),
  (.iload_n 2, 2, 0, 24, vu, []),
  (.iconst 3, 0, 0, 25, vi 3, []),
  (.if_icmp .ne 11, 30, 0, 26, vu, []),
  (.aload_n 0, 0, 0, 27, vu, []),
  (.iload_n 1, 1, 0, 28, vu, []),
  (.invokevirtual 172, 168, 2, 29, vu, [0, 0, 7]),
  (.goto 8, 33, 0, 30, vu, []),
  (.aload_n 0, 0, 0, 31, vu, []),
  (.iload_n 1, 1, 0, 32, vu, []),
  (.invokevirtual 182, 170, 2, 33, vu, [0, 0, 7]),
  (.ireturn, 0, 0, 34, vu, [])]
noncomputable def p_M_houseOf : List Nat := [0, 1, 4, 5, 8, 9, 10, 13, 14, 15, 18, 19, 22, 23, 24, 27, 28, 29, 32, 33, 36, 37, 38, 41, 42, 43, 46, 47, 48, 51, 54, 55, 56, 59]
abbrev n_M_house : Nat := 174
noncomputable def i_M_house : List Ins := [(.aload_n 0, 0, 0, 1, vu, []),
  (.iload_n 1, 1, 0, 2, vu, []),
  (.invokevirtual 185, 164, 2, 3, vu, [0, 0, 7]),
  (.ifCond .eq 26, 17, 0, 4, vu, []),
  (.iload_n 2, 2, 0, 5, vu, []),
  (.iconst 0, 0, 0, 6, vi 0, []),
  (.iconst 4, 0, 0, 7, vi 4, []),
  (.invokestatic 82, 135, 3, 8, vu, [0, 0, 99]),
  (.ifCond .eq 17, 17, 0, 9, vu, []),
  (.aload_n 0, 0, 0, 10, vu, []),
  (.aload_n 0, 0, 0, 11, vu, []),
  (.iload_n 1, 1, 0, 12, vu, []),
  (.iload_n 2, 2, 0, 13, vu, []),
  (.invokevirtual 188, 173, 3, 14, vu, [0, 0, 7]),
  (.iconst 1, 0, 0, 15, vi 1, []),
  (.invokevirtual 108, 137, 3, 16, vu, [0, 0, 7]),
  (.goto 4, 18, 0, 17, vu, []),
  (.iconst (-1), 0, 0, 18, vi (-1), []),
  (.ireturn, 0, 0, 19, vu, [])]
noncomputable def p_M_house : List Nat := [0, 1, 2, 5, 8, 9, 10, 11, 14, 17, 18, 19, 20, 21, 24, 25, 28, 31, 32]
abbrev n_M_owes : Nat := 175
noncomputable def i_M_owes : List Ins := [(.iconst 0, 0, 0, 1, vi 0, []),
  (.istore_n 2, 2, 0, 2, vu, []),
  (.iconst 0, 0, 0, 3, vi 0, []),
  (.istore_n 3, 3, 0, 4, vu, []),
  (.iload_n 3, 3, 0, 5, vu, []),
  (.aload_n 0, 0, 0, 6, vu, []),
  (.getfield 150, 7, 10, 7, vu, [0]),
  (.if_icmp .ge 23, 21, 0, 8, vu, []),
  (.iload_n 2, 2, 0, 9, vu, []),
  (.aload_n 0, 0, 0, 10, vu, []),
  (.getfield 66, 7, 35, 11, vu, [2]),
  (.bipush 8, 0, 0, 12, vi 8, []),
  (.iload_n 1, 1, 0, 13, vu, []),
  (.imul, 0, 0, 14, vu, []),
  (.iload_n 3, 3, 0, 15, vu, []),
  (.iadd, 0, 0, 16, vu, []),
  (.iaload, 0, 0, 17, vu, []),
  (.iadd, 0, 0, 18, vu, []),
  (.istore_n 2, 2, 0, 19, vu, []),
  (.iinc 3 1, 3, 0, 20, vi 1, []),
  (.goto (-25), 4, 0, 21, vu, []),
  (.iload_n 2, 2, 0, 22, vu, []),
  (.ireturn, 0, 0, 23, vu, [])]
noncomputable def p_M_owes : List Nat := [0, 1, 2, 3, 4, 5, 6, 9, 12, 13, 14, 17, 19, 20, 21, 22, 23, 24, 25, 26, 29, 32, 33]
abbrev n_M_mark : Nat := 176
noncomputable def i_M_mark : List Ins := [(.aload_n 0, 0, 0, 1, vu, []),
  (.iload_n 1, 1, 0, 2, vu, []),
  (.invokevirtual 185, 164, 2, 3, vu, [0, 0, 7]),
  (.ifCond .eq 12, 9, 0, 4, vu, []),
  (.iload_n 2, 2, 0, 5, vu, []),
  (.iconst 1, 0, 0, 6, vi 1, []),
  (.iconst 5, 0, 0, 7, vi 5, []),
  (.invokestatic 82, 135, 3, 8, vu, [0, 0, 99]),
  (.ifCond .ne 5, 11, 0, 9, vu, []),
  (.iconst (-1), 0, 0, 10, vi (-1), []),
  (.ireturn, 0, 0, 11, vu, []),
  (.aload_n 0, 0, 0, 12, vu, []),
  (.iload_n 1, 1, 0, 13, vu, []),
  (.iload_n 2, 2, 0, 14, vu, []),
  (.invokevirtual 191, 167, 3, 15, vu, [0, 0, 7]),
  (.ifCond .ne 9, 20, 0, 16, vu, []),
  (.aload_n 0, 0, 0, 17, vu, []),
  (.iconst 3, 0, 0, 18, vi 3, []),
  (.invokevirtual 90, 136, 2, 19, vu, [0, 0, 7]),
  (.ireturn, 0, 0, 20, vu, []),
  (.iconst 0, 0, 0, 21, vi 0, []),
  (.istore_n 3, 3, 0, 22, vu, []),
  (.iconst 0, 0, 0, 23, vi 0, []),
  (.istore 4, 4, 0, 24, vu, []),
  (.iload 4, 4, 0, 25, vu, []),
  (.aload_n 0, 0, 0, 26, vu, []),
  (.getfield 150, 7, 10, 27, vu, [0]),
  (.if_icmp .ge 31, 43, 0, 28, vu, []),
  (.iload_n 3, 3, 0, 29, vu, []),
  (.aload_n 0, 0, 0, 30, vu, []),
  (.iload 4, 4, 0, 31, vu, []),
  (.invokevirtual 182, 170, 2, 32, vu, [0, 0, 7]),
  (.aload_n 0, 0, 0, 33, vu, []),
  (.iload_n 1, 1, 0, 34, vu, []),
  (.invokevirtual 182, 170, 2, 35, vu, [0, 0, 7]),
  (.if_icmp .ge 7, 38, 0, 36, vu, []),
  (.iconst 1, 0, 0, 37, vi 1, []),
  (.goto 4, 39, 0, 38, vu, []),
  (.iconst 0, 0, 0, 39, vi 0, []),
  (.iadd, 0, 0, 40, vu, []),
  (.istore_n 3, 3, 0, 41, vu, []),
  (.iinc 4 1, 4, 0, 42, vi 1, []),
  (.goto (-34), 24, 0, 43, vu, []),
  (.iload_n 2, 2, 0, 44, vu, []),
  (.tableswitch 59 1 4 #[31, 33, 46, 53], 65, 1, 45, vu, [45, 47, 56, 61]),
  (.iload_n 3, 3, 0, 46, vu, []),
  (.ireturn, 0, 0, 47, vu, []),
  (.aload_n 0, 0, 0, 48, vu, []),
  (.getfield 35, 7, 14, 49, vu, [2]),
  (.iload_n 1, 1, 0, 50, vu, []),
  (.iaload, 0, 0, 51, vu, []),
  (.aload_n 0, 0, 0, 52, vu, []),
  (.iload_n 1, 1, 0, 53, vu, []),
  (.invokevirtual 172, 168, 2, 54, vu, [0, 0, 7]),
  (.isub, 0, 0, 55, vu, []),
  (.ireturn, 0, 0, 56, vu, []),
  (.aload_n 0, 0, 0, 57, vu, []),
  (.getfield 41, 7, 23, 58, vu, [2]),
  (.iload_n 1, 1, 0, 59, vu, []),
  (.iaload, 0, 0, 60, vu, []),
  (.ireturn, 0, 0, 61, vu, []),
  (.aload_n 0, 0, 0, 62, vu, []),
  (.iload_n 1, 1, 0, 63, vu, []),
  (.invokevirtual 175, 169, 2, 64, vu, [0, 0, 7]),
  (.ireturn, 0, 0, 65, vu, []),
  (.aload_n 0, 0, 0, 66, vu, []),
  (.iload_n 1, 1, 0, 67, vu, []),
  (.invokevirtual 194, 175, 2, 68, vu, [0, 0, 7]),
  (.ireturn, 0, 0, 69, vu, [])]
noncomputable def p_M_mark : List Nat := [0, 1, 2, 5, 8, 9, 10, 11, 14, 17, 18, 19, 20, 21, 22, 25, 28, 29, 30, 33, 34, 35, 36, 37, 39, 41, 42, 45, 48, 49, 50, 52, 55, 56, 57, 60, 63, 64, 67, 68, 69, 70, 73, 76, 77, 108, 109, 110, 111, 114, 115, 116, 117, 118, 121, 122, 123, 124, 127, 128, 129, 130, 131, 132, 135, 136, 137, 138, 141]
abbrev n_M_altar : Nat := 177
noncomputable def i_M_altar : List Ins := [(.iload_n 1, 1, 0, 1, vu, []),
  (.iconst 0, 0, 0, 2, vi 0, []),
  (.bipush 9, 0, 0, 3, vi 9, []),
  (.invokestatic 82, 135, 3, 4, vu, [0, 0, 99]),
  (.ifCond .ne 5, 7, 0, 5, vu, []),
  (.iconst (-1), 0, 0, 6, vi (-1), []),
  (.ireturn, 0, 0, 7, vu, []),
  (.aload_n 0, 0, 0, 8, vu, []),
  (.getfield 150, 7, 10, 9, vu, [0]),
  (.ifCond .ne 6, 12, 0, 10, vu, []),
  (.bipush (-4), 0, 0, 11, vi (-4), []),
  (.ireturn, 0, 0, 12, vu, []),
  (.aload_n 0, 0, 0, 13, vu, []),
  (.getfield 153, 7, 11, 14, vu, [0]),
  (.istore_n 2, 2, 0, 15, vu, []),
  (.aload_n 0, 0, 0, 16, vu, []),
  (.iload_n 1, 1, 0, 17, vu, []),
  (.putfield 153, 7, 11, 18, vu, [0]),
  (.iload_n 2, 2, 0, 19, vu, []),
  (.ireturn, 0, 0, 20, vu, [])]
noncomputable def p_M_altar : List Nat := [0, 1, 2, 4, 7, 10, 11, 12, 13, 16, 19, 21, 22, 23, 26, 27, 28, 29, 32, 33]
abbrev n_M_wall : Nat := 178
noncomputable def i_M_wall : List Ins := [(.aload_n 0, 0, 0, 1, vu, []),
  (.iload_n 1, 1, 0, 2, vu, []),
  (.invokevirtual 185, 164, 2, 3, vu, [0, 0, 7]),
  (.ifCond .eq 13, 9, 0, 4, vu, []),
  (.iload_n 2, 2, 0, 5, vu, []),
  (.iconst 0, 0, 0, 6, vi 0, []),
  (.bipush 99, 0, 0, 7, vi 99, []),
  (.invokestatic 82, 135, 3, 8, vu, [0, 0, 99]),
  (.ifCond .ne 5, 11, 0, 9, vu, []),
  (.iconst (-1), 0, 0, 10, vi (-1), []),
  (.ireturn, 0, 0, 11, vu, []),
  (.aload_n 0, 0, 0, 12, vu, []),
  (.getfield 38, 7, 15, 13, vu, [2]),
  (.iload_n 1, 1, 0, 14, vu, []),
  (.iaload, 0, 0, 15, vu, []),
  (.istore_n 3, 3, 0, 16, vu, []),
  (.aload_n 0, 0, 0, 17, vu, []),
  (.getfield 38, 7, 15, 18, vu, [2]),
  (.iload_n 1, 1, 0, 19, vu, []),
  (.iload_n 2, 2, 0, 20, vu, []),
  (.iastore, 0, 0, 21, vu, []),
  (.iload_n 3, 3, 0, 22, vu, []),
  (.ireturn, 0, 0, 23, vu, [])]
noncomputable def p_M_wall : List Nat := [0, 1, 2, 5, 8, 9, 10, 12, 15, 18, 19, 20, 21, 24, 25, 26, 27, 28, 31, 32, 33, 34, 35]
abbrev n_M_hour : Nat := 179
noncomputable def i_M_hour : List Ins := [(.aload_n 0, 0, 0, 1, vu, []),
  (.iload_n 1, 1, 0, 2, vu, []),
  (.invokevirtual 197, 166, 2, 3, vu, [0, 0, 7]),
  (.ifCond .ne 5, 6, 0, 4, vu, []),
  (.iconst (-1), 0, 0, 5, vi (-1), []),
  (.ireturn, 0, 0, 6, vu, []),
  (.aload_n 0, 0, 0, 7, vu, []),
  (.getfield 150, 7, 10, 8, vu, [0]),
  (.ifCond .ne 6, 11, 0, 9, vu, []),
  (.bipush (-4), 0, 0, 10, vi (-4), []),
  (.ireturn, 0, 0, 11, vu, []),
  (.aload_n 0, 0, 0, 12, vu, []),
  (.getfield 159, 7, 20, 13, vu, [0]),
  (.bipush 40, 0, 0, 14, vi 40, []),
  (.if_icmp .ne 6, 17, 0, 15, vu, []),
  (.bipush (-2), 0, 0, 16, vi (-2), []),
  (.ireturn, 0, 0, 17, vu, []),
  (.bipush 12, 0, 0, 18, vi 12, []),
  (.aload_n 0, 0, 0, 19, vu, []),
  (.getfield 159, 7, 20, 20, vu, [0]),
  (.imul, 0, 0, 21, vu, []),
  (.istore_n 2, 2, 0, 22, vu, []),
  (.aload_n 0, 0, 0, 23, vu, []),
  (.getfield 47, 7, 25, 24, vu, [2]),
  (.iload_n 2, 2, 0, 25, vu, []),
  (.iload_n 1, 1, 0, 26, vu, []),
  (.iastore, 0, 0, 27, vu, []),
  (.aload_n 0, 0, 0, 28, vu, []),
  (.getfield 47, 7, 25, 29, vu, [2]),
  (.iload_n 2, 2, 0, 30, vu, []),
  (.iconst 2, 0, 0, 31, vi 2, []),
  (.iadd, 0, 0, 32, vu, []),
  (.aload_n 0, 0, 0, 33, vu, []),
  (.getfield 162, 7, 21, 34, vu, [0]),
  (.iastore, 0, 0, 35, vu, []),
  (.aload_n 0, 0, 0, 36, vu, []),
  (.getfield 47, 7, 25, 37, vu, [2]),
  (.iload_n 2, 2, 0, 38, vu, []),
  (.iconst 3, 0, 0, 39, vi 3, []),
  (.iadd, 0, 0, 40, vu, []),
  (.aload_n 0, 0, 0, 41, vu, []),
  (.getfield 165, 7, 22, 42, vu, [0]),
  (.iastore, 0, 0, 43, vu, []),
  (.iconst 0, 0, 0, 44, vi 0, []),
  (.istore_n 3, 3, 0, 45, vu, []),
  (.iload_n 3, 3, 0, 46, vu, []),
  (.bipush 8, 0, 0, 47, vi 8, []),
  (.if_icmp .ge 25, 62, 0, 48, vu, []),
  (.aload_n 0, 0, 0, 49, vu, []),
  (.getfield 47, 7, 25, 50, vu, [2]),
  (.iload_n 2, 2, 0, 51, vu, []),
  (.iconst 4, 0, 0, 52, vi 4, []),
  (.iadd, 0, 0, 53, vu, []),
  (.iload_n 3, 3, 0, 54, vu, []),
  (.iadd, 0, 0, 55, vu, []),
  (.aload_n 0, 0, 0, 56, vu, []),
  (.getfield 41, 7, 23, 57, vu, [2]),
  (.iload_n 3, 3, 0, 58, vu, []),
  (.iaload, 0, 0, 59, vu, []),
  (.iastore, 0, 0, 60, vu, []),
  (.iinc 3 1, 3, 0, 61, vi 1, []),
  (.goto (-25), 45, 0, 62, vu, []),
  (.aload_n 0, 0, 0, 63, vu, []),
  (.iload_n 1, 1, 0, 64, vu, []),
  (.invokevirtual 200, 171, 2, 65, vu, [0, 0, 7]),
  (.istore_n 3, 3, 0, 66, vu, []),
  (.aload_n 0, 0, 0, 67, vu, []),
  (.getfield 162, 7, 21, 68, vu, [0]),
  (.iload_n 3, 3, 0, 69, vu, []),
  (.iadd, 0, 0, 70, vu, []),
  (.bipush 60, 0, 0, 71, vi 60, []),
  (.if_icmp .le 15, 79, 0, 72, vu, []),
  (.aload_n 0, 0, 0, 73, vu, []),
  (.getfield 162, 7, 21, 74, vu, [0]),
  (.iload_n 3, 3, 0, 75, vu, []),
  (.iadd, 0, 0, 76, vu, []),
  (.bipush 60, 0, 0, 77, vi 60, []),
  (.isub, 0, 0, 78, vu, []),
  (.goto 4, 80, 0, 79, vu, []),
  (.iconst 0, 0, 0, 80, vi 0, []),
  (.istore 4, 4, 0, 81, vu, []),
  (.aload_n 0, 0, 0, 82, vu, []),
  (.getfield 47, 7, 25, 83, vu, [2]),
  (.iload_n 2, 2, 0, 84, vu, []),
  (.iconst 1, 0, 0, 85, vi 1, []),
  (.iadd, 0, 0, 86, vu, []),
  (.iload_n 3, 3, 0, 87, vu, []),
  (.iload 4, 4, 0, 88, vu, []),
  (.isub, 0, 0, 89, vu, []),
  (.iastore, 0, 0, 90, vu, []),
  (.aload_n 0, 0, 0, 91, vu, []),
  (.dup, 0, 0, 92, vu, []),
  (.getfield 162, 7, 21, 93, vu, [0]),
  (.iload_n 3, 3, 0, 94, vu, []),
  (.iload 4, 4, 0, 95, vu, []),
  (.isub, 0, 0, 96, vu, []),
  (.iadd, 0, 0, 97, vu, []),
  (.putfield 162, 7, 21, 98, vu, [0]),
  (.aload_n 0, 0, 0, 99, vu, []),
  (.dup, 0, 0, 100, vu, []),
  (.getfield 165, 7, 22, 101, vu, [0]),
  (.iload 4, 4, 0, 102, vu, []),
  (.iadd, 0, 0, 103, vu, []),
  (.putfield 165, 7, 22, 104, vu, [0]),
  (.aload_n 0, 0, 0, 105, vu, []),
  (.dup, 0, 0, 106, vu, []),
  (.getfield 162, 7, 21, 107, vu, [0]),
  (.aload_n 0, 0, 0, 108, vu, []),
  (.getfield 162, 7, 21, 109, vu, [0]),
  (.aload_n 0, 0, 0, 110, vu, []),
  (.getfield 156, 7, 12, 111, vu, [0]),
  (.if_icmp .ge 10, 115, 0, 112, vu, []),
  (.aload_n 0, 0, 0, 113, vu, []),
  (.getfield 162, 7, 21, 114, vu, [0]),
  (.goto 7, 117, 0, 115, vu, []),
  (.aload_n 0, 0, 0, 116, vu, []),
  (.getfield 156, 7, 12, 117, vu, [0]),
  (.isub, 0, 0, 118, vu, []),
  (.putfield 162, 7, 21, 119, vu, [0]),
  (.iconst 0, 0, 0, 120, vi 0, []),
  (.istore 5, 5, 0, 121, vu, []),
  (.iload 5, 5, 0, 122, vu, []),
  (.aload_n 0, 0, 0, 123, vu, []),
  (.getfield 150, 7, 10, 124, vu, [0]),
  (.if_icmp .ge 38, 143, 0, 125, vu, []),
  (.aload_n 0, 0, 0, 126, vu, []),
  (.getfield 41, 7, 23, 127, vu, [2]),
  (.iload 5, 5, 0, 128, vu, []),
  (.dup2, 0, 0, 129, vu, []),
  (.iaload, 0, 0, 130, vu, []),
  (.iload_n 1, 1, 0, 131, vu, []),
  (.iload 5, 5, 0, 132, vu, []),
  (.invokestatic 178, 139, 2, 133, vu, [0, 0, 99]),
  (.ifCond .eq 12, 138, 0, 134, vu, []),
  (.aload_n 0, 0, 0, 135, vu, []),
  (.iload 5, 5, 0, 136, vu, []),
  (.invokevirtual 182, 170, 2, 137, vu, [0, 0, 7]),
  (.goto 4, 139, 0, 138, vu, []),
  (.iconst 0, 0, 0, 139, vi 0, []),
  (.iadd, 0, 0, 140, vu, []),
  (.iastore, 0, 0, 141, vu, []),
  (.iinc 5 1, 5, 0, 142, vi 1, []),
  (.goto (-41), 121, 0, 143, vu, []),
  (.aload_n 0, 0, 0, 144, vu, []),
  (.dup, 0, 0, 145, vu, []),
  (.getfield 159, 7, 20, 146, vu, [0]),
  (.iconst 1, 0, 0, 147, vi 1, []),
  (.iadd, 0, 0, 148, vu, []),
  (.putfield 159, 7, 20, 149, vu, [0]),
  (.aload_n 0, 0, 0, 150, vu, []),
  (.iload 4, 4, 0, 151, vu, []),
  (.aload_n 0, 0, 0, 152, vu, []),
  (.getfield 162, 7, 21, 153, vu, [0]),
  (.invokevirtual 108, 137, 3, 154, vu, [0, 0, 7]),
  (.ireturn, 0, 0, 155, vu, [])]
noncomputable def p_M_hour : List Nat := [0, 1, 2, 5, 8, 9, 10, 11, 14, 17, 19, 20, 21, 24, 26, 29, 31, 32, 34, 35, 38, 39, 40, 41, 44, 45, 46, 47, 48, 51, 52, 53, 54, 55, 58, 59, 60, 63, 64, 65, 66, 67, 70, 71, 72, 73, 74, 76, 79, 80, 83, 84, 85, 86, 87, 88, 89, 92, 93, 94, 95, 98, 101, 102, 103, 106, 107, 108, 111, 112, 113, 115, 118, 119, 122, 123, 124, 126, 127, 130, 131, 133, 134, 137, 138, 139, 140, 141, 143, 144, 145, 146, 147, 150, 151, 153, 154, 155, 158, 159, 160, 163, 165, 166, 169, 170, 171, 174, 175, 178, 179, 182, 185, 186, 189, 192, 193, 196, 197, 200, 201, 203, 205, 206, 209, 212, 213, 216, 218, 219, 220, 221, 223, 226, 229, 230, 232, 235, 238, 239, 240, 241, 244, 247, 248, 249, 252, 253, 254, 257, 258, 260, 261, 264, 267]
abbrev n_M_undo : Nat := 180
noncomputable def i_M_undo : List Ins := [(.iload_n 1, 1, 0, 1, vu, []),
  (.iconst 0, 0, 0, 2, vi 0, []),
  (.aload_n 0, 0, 0, 3, vu, []),
  (.getfield 159, 7, 20, 4, vu, [0]),
  (.invokestatic 82, 135, 3, 5, vu, [0, 0, 99]),
  (.ifCond .ne 5, 8, 0, 6, vu, []),
  (.iconst (-1), 0, 0, 7, vi (-1), []),
  (.ireturn, 0, 0, 8, vu, []),
  (.aload_n 0, 0, 0, 9, vu, []),
  (.getfield 159, 7, 20, 10, vu, [0]),
  (.iload_n 1, 1, 0, 11, vu, []),
  (.isub, 0, 0, 12, vu, []),
  (.istore_n 2, 2, 0, 13, vu, []),
  (.iload_n 2, 2, 0, 14, vu, []),
  (.ifCond .le 71, 57, 0, 15, vu, []),
  (.bipush 12, 0, 0, 16, vi 12, []),
  (.iload_n 1, 1, 0, 17, vu, []),
  (.imul, 0, 0, 18, vu, []),
  (.istore_n 3, 3, 0, 19, vu, []),
  (.aload_n 0, 0, 0, 20, vu, []),
  (.aload_n 0, 0, 0, 21, vu, []),
  (.getfield 47, 7, 25, 22, vu, [2]),
  (.iload_n 3, 3, 0, 23, vu, []),
  (.iconst 2, 0, 0, 24, vi 2, []),
  (.iadd, 0, 0, 25, vu, []),
  (.iaload, 0, 0, 26, vu, []),
  (.putfield 162, 7, 21, 27, vu, [0]),
  (.aload_n 0, 0, 0, 28, vu, []),
  (.aload_n 0, 0, 0, 29, vu, []),
  (.getfield 47, 7, 25, 30, vu, [2]),
  (.iload_n 3, 3, 0, 31, vu, []),
  (.iconst 3, 0, 0, 32, vi 3, []),
  (.iadd, 0, 0, 33, vu, []),
  (.iaload, 0, 0, 34, vu, []),
  (.putfield 165, 7, 22, 35, vu, [0]),
  (.iconst 0, 0, 0, 36, vi 0, []),
  (.istore 4, 4, 0, 37, vu, []),
  (.iload 4, 4, 0, 38, vu, []),
  (.bipush 8, 0, 0, 39, vi 8, []),
  (.if_icmp .ge 27, 54, 0, 40, vu, []),
  (.aload_n 0, 0, 0, 41, vu, []),
  (.getfield 41, 7, 23, 42, vu, [2]),
  (.iload 4, 4, 0, 43, vu, []),
  (.aload_n 0, 0, 0, 44, vu, []),
  (.getfield 47, 7, 25, 45, vu, [2]),
  (.iload_n 3, 3, 0, 46, vu, []),
  (.iconst 4, 0, 0, 47, vi 4, []),
  (.iadd, 0, 0, 48, vu, []),
  (.iload 4, 4, 0, 49, vu, []),
  (.iadd, 0, 0, 50, vu, []),
  (.iaload, 0, 0, 51, vu, []),
  (.iastore, 0, 0, 52, vu, []),
  (.iinc 4 1, 4, 0, 53, vi 1, []),
  (.goto (-28), 37, 0, 54, vu, []),
  (.aload_n 0, 0, 0, 55, vu, []),
  (.iload_n 1, 1, 0, 56, vu, []),
  (.putfield 159, 7, 20, 57, vu, [0]),
  (.iload_n 2, 2, 0, 58, vu, []),
  (.ireturn, 0, 0, 59, vu, [])]
noncomputable def p_M_undo : List Nat := [0, 1, 2, 3, 6, 9, 12, 13, 14, 15, 18, 19, 20, 21, 22, 25, 27, 28, 29, 30, 31, 32, 35, 36, 37, 38, 39, 42, 43, 44, 47, 48, 49, 50, 51, 54, 55, 57, 59, 61, 64, 65, 68, 70, 71, 74, 75, 76, 77, 79, 80, 81, 82, 85, 88, 89, 90, 93, 94]
abbrev n_M_jar : Nat := 181
noncomputable def i_M_jar : List Ins := [(.aload_n 0, 0, 0, 1, vu, []),
  (.aload_n 0, 0, 0, 2, vu, []),
  (.getfield 165, 7, 22, 3, vu, [0]),
  (.aload_n 0, 0, 0, 4, vu, []),
  (.getfield 162, 7, 21, 5, vu, [0]),
  (.invokevirtual 108, 137, 3, 6, vu, [0, 0, 7]),
  (.ireturn, 0, 0, 7, vu, [])]
noncomputable def p_M_jar : List Nat := [0, 1, 2, 5, 6, 9, 12]
abbrev n_M_loud : Nat := 182
noncomputable def i_M_loud : List Ins := [(.iload_n 1, 1, 0, 1, vu, []),
  (.ifCond .ge 5, 4, 0, 2, vu, []),
  (.iconst (-1), 0, 0, 3, vi (-1), []),
  (.ireturn, 0, 0, 4, vu, []),
  (.iload_n 1, 1, 0, 5, vu, []),
  (.aload_n 0, 0, 0, 6, vu, []),
  (.getfield 159, 7, 20, 7, vu, [0]),
  (.if_icmp .ge 30, 25, 0, 8, vu, []),
  (.aload_n 0, 0, 0, 9, vu, []),
  (.aload_n 0, 0, 0, 10, vu, []),
  (.getfield 47, 7, 25, 11, vu, [2]),
  (.bipush 12, 0, 0, 12, vi 12, []),
  (.iload_n 1, 1, 0, 13, vu, []),
  (.imul, 0, 0, 14, vu, []),
  (.iconst 1, 0, 0, 15, vi 1, []),
  (.iadd, 0, 0, 16, vu, []),
  (.iaload, 0, 0, 17, vu, []),
  (.aload_n 0, 0, 0, 18, vu, []),
  (.getfield 47, 7, 25, 19, vu, [2]),
  (.bipush 12, 0, 0, 20, vi 12, []),
  (.iload_n 1, 1, 0, 21, vu, []),
  (.imul, 0, 0, 22, vu, []),
  (.iaload, 0, 0, 23, vu, []),
  (.invokevirtual 108, 137, 3, 24, vu, [0, 0, 7]),
  (.goto 8, 28, 0, 25, vu, []),
  (.aload_n 0, 0, 0, 26, vu, []),
  (.iconst 2, 0, 0, 27, vi 2, []),
  (.invokevirtual 90, 136, 2, 28, vu, [0, 0, 7]),
  (.ireturn, 0, 0, 29, vu, [])]
noncomputable def p_M_loud : List Nat := [0, 1, 4, 5, 6, 7, 8, 11, 14, 15, 16, 19, 21, 22, 23, 24, 25, 26, 27, 30, 32, 33, 34, 35, 38, 41, 42, 43, 46]
abbrev n_M_made : Nat := 183
noncomputable def i_M_made : List Ins := [(.aload_n 0, 0, 0, 1, vu, []),
  (.iload_n 1, 1, 0, 2, vu, []),
  (.invokevirtual 185, 164, 2, 3, vu, [0, 0, 7]),
  (.ifCond .eq 12, 9, 0, 4, vu, []),
  (.aload_n 0, 0, 0, 5, vu, []),
  (.getfield 41, 7, 23, 6, vu, [2]),
  (.iload_n 1, 1, 0, 7, vu, []),
  (.iaload, 0, 0, 8, vu, []),
  (.goto 4, 10, 0, 9, vu, []),
  (.iconst (-1), 0, 0, 10, vi (-1), []),
  (.ireturn, 0, 0, 11, vu, [])]
noncomputable def p_M_made : List Nat := [0, 1, 2, 5, 8, 9, 12, 13, 14, 17, 18]
abbrev n_M_isExempt : Nat := 184
noncomputable def i_M_isExempt : List Ins := [(.aload_n 0, 0, 0, 1, vu, []),
  (.getfield 32, 7, 13, 2, vu, [2]),
  (.iload_n 1, 1, 0, 3, vu, []),
  (.iaload, 0, 0, 4, vu, []),
  (.iconst 3, 0, 0, 5, vi 3, []),
  (.if_icmp .eq 21, 16, 0, 6, vu, []),
  (.aload_n 0, 0, 0, 7, vu, []),
  (.getfield 32, 7, 13, 8, vu, [2]),
  (.iload_n 1, 1, 0, 9, vu, []),
  (.iaload, 0, 0, 10, vu, []),
  (.iconst 5, 0, 0, 11, vi 5, []),
  (.if_icmp .ne 15, 18, 0, 12, vu, []),
  (.aload_n 0, 0, 0, 13, vu, []),
  (.iload_n 1, 1, 0, 14, vu, []),
  (.invokevirtual 194, 175, 2, 15, vu, [0, 0, 7]),
  (.ifCond .ne 7, 18, 0, 16, vu, []),
  (.iconst 1, 0, 0, 17, vi 1, []),
  (.goto 4, 19, 0, 18, vu, []),
  (.iconst 0, 0, 0, 19, vi 0, []),
  (.ireturn, 1, 0, 20, vu, [])]
noncomputable def p_M_isExempt : List Nat := [0, 1, 4, 5, 6, 7, 10, 11, 14, 15, 16, 17, 20, 21, 22, 25, 28, 29, 32, 33]
abbrev n_M_titheOf : Nat := 185
noncomputable def i_M_titheOf : List Ins := [(.aload_n 0, 0, 0, 1, vu, []),
  (.iload_n 1, 1, 0, 2, vu, []),
  (.invokevirtual 203, 184, 2, 3, vu, [0, 0, 7]),
  (.ifCond .eq 7, 6, 0, 4, vu, []),
  (.iconst 0, 0, 0, 5, vi 0, []),
  (.goto 12, 12, 0, 6, vu, []),
  (.aload_n 0, 0, 0, 7, vu, []),
  (.getfield 41, 7, 23, 8, vu, [2]),
  (.iload_n 1, 1, 0, 9, vu, []),
  (.iaload, 0, 0, 10, vu, []),
  (.bipush 10, 0, 0, 11, vi 10, []),
  (.idiv, 0, 0, 12, vu, []),
  (.aload_n 0, 0, 0, 13, vu, []),
  (.getfield 44, 7, 24, 14, vu, [2]),
  (.iload_n 1, 1, 0, 15, vu, []),
  (.iaload, 0, 0, 16, vu, []),
  (.isub, 0, 0, 17, vu, []),
  (.ireturn, 0, 0, 18, vu, [])]
noncomputable def p_M_titheOf : List Nat := [0, 1, 2, 5, 8, 9, 12, 13, 16, 17, 18, 20, 21, 22, 25, 26, 27, 28]
abbrev n_M_tithe : Nat := 186
noncomputable def i_M_tithe : List Ins := [(.aload_n 0, 0, 0, 1, vu, []),
  (.iload_n 1, 1, 0, 2, vu, []),
  (.invokevirtual 185, 164, 2, 3, vu, [0, 0, 7]),
  (.ifCond .eq 16, 11, 0, 4, vu, []),
  (.aload_n 0, 0, 0, 5, vu, []),
  (.aload_n 0, 0, 0, 6, vu, []),
  (.iload_n 1, 1, 0, 7, vu, []),
  (.invokevirtual 206, 185, 2, 8, vu, [0, 0, 7]),
  (.iconst 1, 0, 0, 9, vi 1, []),
  (.invokevirtual 108, 137, 3, 10, vu, [0, 0, 7]),
  (.goto 4, 12, 0, 11, vu, []),
  (.iconst (-1), 0, 0, 12, vi (-1), []),
  (.ireturn, 0, 0, 13, vu, [])]
noncomputable def p_M_tithe : List Nat := [0, 1, 2, 5, 8, 9, 10, 11, 14, 15, 18, 21, 22]
abbrev n_M_pay : Nat := 187
noncomputable def i_M_pay : List Ins := [(.aload_n 0, 0, 0, 1, vu, []),
  (.iload_n 1, 1, 0, 2, vu, []),
  (.invokevirtual 185, 164, 2, 3, vu, [0, 0, 7]),
  (.ifCond .eq 13, 9, 0, 4, vu, []),
  (.iload_n 2, 2, 0, 5, vu, []),
  (.iconst 0, 0, 0, 6, vi 0, []),
  (.bipush 99, 0, 0, 7, vi 99, []),
  (.invokestatic 82, 135, 3, 8, vu, [0, 0, 99]),
  (.ifCond .ne 5, 11, 0, 9, vu, []),
  (.iconst (-1), 0, 0, 10, vi (-1), []),
  (.ireturn, 0, 0, 11, vu, []),
  (.aload_n 0, 0, 0, 12, vu, []),
  (.getfield 44, 7, 24, 13, vu, [2]),
  (.iload_n 1, 1, 0, 14, vu, []),
  (.iaload, 0, 0, 15, vu, []),
  (.iload_n 2, 2, 0, 16, vu, []),
  (.iadd, 0, 0, 17, vu, []),
  (.sipush 999, 0, 0, 18, vi 999, []),
  (.if_icmp .le 6, 21, 0, 19, vu, []),
  (.bipush (-6), 0, 0, 20, vi (-6), []),
  (.ireturn, 0, 0, 21, vu, []),
  (.aload_n 0, 0, 0, 22, vu, []),
  (.getfield 44, 7, 24, 23, vu, [2]),
  (.iload_n 1, 1, 0, 24, vu, []),
  (.dup2, 0, 0, 25, vu, []),
  (.iaload, 0, 0, 26, vu, []),
  (.iload_n 2, 2, 0, 27, vu, []),
  (.iadd, 0, 0, 28, vu, []),
  (.iastore, 0, 0, 29, vu, []),
  (.aload_n 0, 0, 0, 30, vu, []),
  (.getfield 44, 7, 24, 31, vu, [2]),
  (.iload_n 1, 1, 0, 32, vu, []),
  (.iaload, 0, 0, 33, vu, []),
  (.ireturn, 0, 0, 34, vu, [])]
noncomputable def p_M_pay : List Nat := [0, 1, 2, 5, 8, 9, 10, 12, 15, 18, 19, 20, 21, 24, 25, 26, 27, 28, 31, 34, 36, 37, 38, 41, 42, 43, 44, 45, 46, 47, 48, 51, 52, 53]
abbrev n_M_due : Nat := 188
noncomputable def i_M_due : List Ins := [(.iconst 0, 0, 0, 1, vi 0, []),
  (.istore_n 1, 1, 0, 2, vu, []),
  (.bipush (-9), 0, 0, 3, vi (-9), []),
  (.istore_n 2, 2, 0, 4, vu, []),
  (.iconst 0, 0, 0, 5, vi 0, []),
  (.istore_n 3, 3, 0, 6, vu, []),
  (.iload_n 3, 3, 0, 7, vu, []),
  (.aload_n 0, 0, 0, 8, vu, []),
  (.getfield 150, 7, 10, 9, vu, [0]),
  (.if_icmp .ge 57, 38, 0, 10, vu, []),
  (.aload_n 0, 0, 0, 11, vu, []),
  (.iload_n 3, 3, 0, 12, vu, []),
  (.invokevirtual 206, 185, 2, 13, vu, [0, 0, 7]),
  (.istore 4, 4, 0, 14, vu, []),
  (.iload_n 1, 1, 0, 15, vu, []),
  (.iload 4, 4, 0, 16, vu, []),
  (.ifCond .le 8, 19, 0, 17, vu, []),
  (.iload 4, 4, 0, 18, vu, []),
  (.goto 4, 20, 0, 19, vu, []),
  (.iconst 0, 0, 0, 20, vi 0, []),
  (.iadd, 0, 0, 21, vu, []),
  (.istore_n 1, 1, 0, 22, vu, []),
  (.iload 4, 4, 0, 23, vu, []),
  (.ifCond .le 23, 34, 0, 24, vu, []),
  (.iload_n 2, 2, 0, 25, vu, []),
  (.bipush (-9), 0, 0, 26, vi (-9), []),
  (.if_icmp .eq 13, 32, 0, 27, vu, []),
  (.iload 4, 4, 0, 28, vu, []),
  (.aload_n 0, 0, 0, 29, vu, []),
  (.iload_n 2, 2, 0, 30, vu, []),
  (.invokevirtual 206, 185, 2, 31, vu, [0, 0, 7]),
  (.if_icmp .le 7, 34, 0, 32, vu, []),
  (.iload_n 3, 3, 0, 33, vu, []),
  (.goto 4, 35, 0, 34, vu, []),
  (.iload_n 2, 2, 0, 35, vu, []),
  (.istore_n 2, 2, 0, 36, vu, []),
  (.iinc 3 1, 3, 0, 37, vi 1, []),
  (.goto (-59), 6, 0, 38, vu, []),
  (.aload_n 0, 0, 0, 39, vu, []),
  (.iload_n 2, 2, 0, 40, vu, []),
  (.iload_n 1, 1, 0, 41, vu, []),
  (.invokevirtual 108, 137, 3, 42, vu, [0, 0, 7]),
  (.ireturn, 0, 0, 43, vu, [])]
noncomputable def p_M_due : List Nat := [0, 1, 2, 4, 5, 6, 7, 8, 9, 12, 15, 16, 17, 20, 22, 23, 25, 28, 30, 33, 34, 35, 36, 38, 41, 42, 44, 47, 49, 50, 51, 54, 57, 58, 61, 62, 63, 66, 69, 70, 71, 72, 75]
abbrev n_M_keep : Nat := 189
noncomputable def i_M_keep : List Ins := [(.iload_n 1, 1, 0, 1, vu, []),
  (.iconst 0, 0, 0, 2, vi 0, []),
  (.iconst 2, 0, 0, 3, vi 2, []),
  (.invokestatic 82, 135, 3, 4, vu, [0, 0, 99]),
  (.ifCond .ne 5, 7, 0, 5, vu, []),
  (.iconst (-1), 0, 0, 6, vi (-1), []),
  (.ireturn, 0, 0, 7, vu, []),
  (.aload_n 0, 0, 0, 8, vu, []),
  (.getfield 150, 7, 10, 9, vu, [0]),
  (.ifCond .ne 6, 12, 0, 10, vu, []),
  (.bipush (-4), 0, 0, 11, vi (-4), []),
  (.ireturn, 0, 0, 12, vu, []),
  (.sipush 580, 0, 0, 13, vi 580, []),
  (.iload_n 1, 1, 0, 14, vu, []),
  (.imul, 0, 0, 15, vu, []),
  (.istore_n 2, 2, 0, 16, vu, []),
  (.aload_n 0, 0, 0, 17, vu, []),
  (.getfield 50, 7, 26, 18, vu, [2]),
  (.iload_n 2, 2, 0, 19, vu, []),
  (.aload_n 0, 0, 0, 20, vu, []),
  (.getfield 159, 7, 20, 21, vu, [0]),
  (.iastore, 0, 0, 22, vu, []),
  (.aload_n 0, 0, 0, 23, vu, []),
  (.getfield 50, 7, 26, 24, vu, [2]),
  (.iload_n 2, 2, 0, 25, vu, []),
  (.iconst 1, 0, 0, 26, vi 1, []),
  (.iadd, 0, 0, 27, vu, []),
  (.aload_n 0, 0, 0, 28, vu, []),
  (.getfield 153, 7, 11, 29, vu, [0]),
  (.iastore, 0, 0, 30, vu, []),
  (.aload_n 0, 0, 0, 31, vu, []),
  (.getfield 50, 7, 26, 32, vu, [2]),
  (.iload_n 2, 2, 0, 33, vu, []),
  (.iconst 2, 0, 0, 34, vi 2, []),
  (.iadd, 0, 0, 35, vu, []),
  (.aload_n 0, 0, 0, 36, vu, []),
  (.getfield 162, 7, 21, 37, vu, [0]),
  (.iastore, 0, 0, 38, vu, []),
  (.aload_n 0, 0, 0, 39, vu, []),
  (.getfield 50, 7, 26, 40, vu, [2]),
  (.iload_n 2, 2, 0, 41, vu, []),
  (.iconst 3, 0, 0, 42, vi 3, []),
  (.iadd, 0, 0, 43, vu, []),
  (.aload_n 0, 0, 0, 44, vu, []),
  (.getfield 165, 7, 22, 45, vu, [0]),
  (.iastore, 0, 0, 46, vu, []),
  (.iconst 0, 0, 0, 47, vi 0, []),
  (.istore_n 3, 3, 0, 48, vu, []),
  (.iload_n 3, 3, 0, 49, vu, []),
  (.bipush 8, 0, 0, 50, vi 8, []),
  (.if_icmp .ge 59, 89, 0, 51, vu, []),
  (.aload_n 0, 0, 0, 52, vu, []),
  (.getfield 50, 7, 26, 53, vu, [2]),
  (.iload_n 2, 2, 0, 54, vu, []),
  (.iconst 4, 0, 0, 55, vi 4, []),
  (.iadd, 0, 0, 56, vu, []),
  (.iload_n 3, 3, 0, 57, vu, []),
  (.iadd, 0, 0, 58, vu, []),
  (.aload_n 0, 0, 0, 59, vu, []),
  (.getfield 38, 7, 15, 60, vu, [2]),
  (.iload_n 3, 3, 0, 61, vu, []),
  (.iaload, 0, 0, 62, vu, []),
  (.iastore, 0, 0, 63, vu, []),
  (.aload_n 0, 0, 0, 64, vu, []),
  (.getfield 50, 7, 26, 65, vu, [2]),
  (.iload_n 2, 2, 0, 66, vu, []),
  (.bipush 12, 0, 0, 67, vi 12, []),
  (.iadd, 0, 0, 68, vu, []),
  (.iload_n 3, 3, 0, 69, vu, []),
  (.iadd, 0, 0, 70, vu, []),
  (.aload_n 0, 0, 0, 71, vu, []),
  (.getfield 41, 7, 23, 72, vu, [2]),
  (.iload_n 3, 3, 0, 73, vu, []),
  (.iaload, 0, 0, 74, vu, []),
  (.iastore, 0, 0, 75, vu, []),
  (.aload_n 0, 0, 0, 76, vu, []),
  (.getfield 50, 7, 26, 77, vu, [2]),
  (.iload_n 2, 2, 0, 78, vu, []),
  (.bipush 20, 0, 0, 79, vi 20, []),
  (.iadd, 0, 0, 80, vu, []),
  (.iload_n 3, 3, 0, 81, vu, []),
  (.iadd, 0, 0, 82, vu, []),
  (.aload_n 0, 0, 0, 83, vu, []),
  (.getfield 44, 7, 24, 84, vu, [2]),
  (.iload_n 3, 3, 0, 85, vu, []),
  (.iaload, 0, 0, 86, vu, []),
  (.iastore, 0, 0, 87, vu, []),
  (.iinc 3 1, 3, 0, 88, vi 1, []),
  (.goto (-59), 48, 0, 89, vu, []),
  (.iconst 0, 0, 0, 90, vi 0, []),
  (.istore_n 3, 3, 0, 91, vu, []),
  (.iload_n 3, 3, 0, 92, vu, []),
  (.bipush 64, 0, 0, 93, vi 64, []),
  (.if_icmp .ge 26, 108, 0, 94, vu, []),
  (.aload_n 0, 0, 0, 95, vu, []),
  (.getfield 50, 7, 26, 96, vu, [2]),
  (.iload_n 2, 2, 0, 97, vu, []),
  (.bipush 28, 0, 0, 98, vi 28, []),
  (.iadd, 0, 0, 99, vu, []),
  (.iload_n 3, 3, 0, 100, vu, []),
  (.iadd, 0, 0, 101, vu, []),
  (.aload_n 0, 0, 0, 102, vu, []),
  (.getfield 66, 7, 35, 103, vu, [2]),
  (.iload_n 3, 3, 0, 104, vu, []),
  (.iaload, 0, 0, 105, vu, []),
  (.iastore, 0, 0, 106, vu, []),
  (.iinc 3 1, 3, 0, 107, vi 1, []),
  (.goto (-26), 91, 0, 108, vu, []),
  (.iconst 0, 0, 0, 109, vi 0, []),
  (.istore_n 3, 3, 0, 110, vu, []),
  (.iload_n 3, 3, 0, 111, vu, []),
  (.sipush 480, 0, 0, 112, vi 480, []),
  (.if_icmp .ge 26, 127, 0, 113, vu, []),
  (.aload_n 0, 0, 0, 114, vu, []),
  (.getfield 50, 7, 26, 115, vu, [2]),
  (.iload_n 2, 2, 0, 116, vu, []),
  (.bipush 92, 0, 0, 117, vi 92, []),
  (.iadd, 0, 0, 118, vu, []),
  (.iload_n 3, 3, 0, 119, vu, []),
  (.iadd, 0, 0, 120, vu, []),
  (.aload_n 0, 0, 0, 121, vu, []),
  (.getfield 47, 7, 25, 122, vu, [2]),
  (.iload_n 3, 3, 0, 123, vu, []),
  (.iaload, 0, 0, 124, vu, []),
  (.iastore, 0, 0, 125, vu, []),
  (.iinc 3 1, 3, 0, 126, vi 1, []),
  (.goto (-27), 110, 0, 127, vu, []),
  (.aload_n 0, 0, 0, 128, vu, []),
  (.getfield 159, 7, 20, 129, vu, [0]),
  (.ireturn, 0, 0, 130, vu, [])]
noncomputable def p_M_keep : List Nat := [0, 1, 2, 3, 6, 9, 10, 11, 12, 15, 18, 20, 21, 24, 25, 26, 27, 28, 31, 32, 33, 36, 37, 38, 41, 42, 43, 44, 45, 48, 49, 50, 53, 54, 55, 56, 57, 60, 61, 62, 65, 66, 67, 68, 69, 72, 73, 74, 75, 76, 78, 81, 82, 85, 86, 87, 88, 89, 90, 91, 94, 95, 96, 97, 98, 101, 102, 104, 105, 106, 107, 108, 111, 112, 113, 114, 115, 118, 119, 121, 122, 123, 124, 125, 128, 129, 130, 131, 134, 137, 138, 139, 140, 142, 145, 146, 149, 150, 152, 153, 154, 155, 156, 159, 160, 161, 162, 165, 168, 169, 170, 171, 174, 177, 178, 181, 182, 184, 185, 186, 187, 188, 191, 192, 193, 194, 197, 200, 201, 204]
abbrev n_M_on : Nat := 190
noncomputable def i_M_on : List Ins := [(.iload_n 1, 1, 0, 1, vu, []),
  (.iconst 0, 0, 0, 2, vi 0, []),
  (.iconst 2, 0, 0, 3, vi 2, []),
  (.invokestatic 82, 135, 3, 4, vu, [0, 0, 99]),
  (.ifCond .ne 5, 7, 0, 5, vu, []),
  (.iconst (-1), 0, 0, 6, vi (-1), []),
  (.ireturn, 0, 0, 7, vu, []),
  (.sipush 580, 0, 0, 8, vi 580, []),
  (.iload_n 1, 1, 0, 9, vu, []),
  (.imul, 0, 0, 10, vu, []),
  (.istore_n 2, 2, 0, 11, vu, []),
  (.aload_n 0, 0, 0, 12, vu, []),
  (.getfield 50, 7, 26, 13, vu, [2]),
  (.iload_n 2, 2, 0, 14, vu, []),
  (.iaload, 0, 0, 15, vu, []),
  (.bipush (-9), 0, 0, 16, vi (-9), []),
  (.if_icmp .ne 9, 21, 0, 17, vu, []),
  (.aload_n 0, 0, 0, 18, vu, []),
  (.iconst 1, 0, 0, 19, vi 1, []),
  (.invokevirtual 90, 136, 2, 20, vu, [0, 0, 7]),
  (.ireturn, 0, 0, 21, vu, []),
  (.aload_n 0, 0, 0, 22, vu, []),
  (.aload_n 0, 0, 0, 23, vu, []),
  (.getfield 50, 7, 26, 24, vu, [2]),
  (.iload_n 2, 2, 0, 25, vu, []),
  (.iaload, 0, 0, 26, vu, []),
  (.putfield 159, 7, 20, 27, vu, [0]),
  (.aload_n 0, 0, 0, 28, vu, []),
  (.aload_n 0, 0, 0, 29, vu, []),
  (.getfield 50, 7, 26, 30, vu, [2]),
  (.iload_n 2, 2, 0, 31, vu, []),
  (.iconst 1, 0, 0, 32, vi 1, []),
  (.iadd, 0, 0, 33, vu, []),
  (.iaload, 0, 0, 34, vu, []),
  (.putfield 153, 7, 11, 35, vu, [0]),
  (.aload_n 0, 0, 0, 36, vu, []),
  (.aload_n 0, 0, 0, 37, vu, []),
  (.getfield 50, 7, 26, 38, vu, [2]),
  (.iload_n 2, 2, 0, 39, vu, []),
  (.iconst 2, 0, 0, 40, vi 2, []),
  (.iadd, 0, 0, 41, vu, []),
  (.iaload, 0, 0, 42, vu, []),
  (.putfield 162, 7, 21, 43, vu, [0]),
  (.aload_n 0, 0, 0, 44, vu, []),
  (.aload_n 0, 0, 0, 45, vu, []),
  (.getfield 50, 7, 26, 46, vu, [2]),
  (.iload_n 2, 2, 0, 47, vu, []),
  (.iconst 3, 0, 0, 48, vi 3, []),
  (.iadd, 0, 0, 49, vu, []),
  (.iaload, 0, 0, 50, vu, []),
  (.putfield 165, 7, 22, 51, vu, [0]),
  (.iconst 0, 0, 0, 52, vi 0, []),
  (.istore_n 3, 3, 0, 53, vu, []),
  (.iload_n 3, 3, 0, 54, vu, []),
  (.bipush 8, 0, 0, 55, vi 8, []),
  (.if_icmp .ge 59, 94, 0, 56, vu, []),
  (.aload_n 0, 0, 0, 57, vu, []),
  (.getfield 38, 7, 15, 58, vu, [2]),
  (.iload_n 3, 3, 0, 59, vu, []),
  (.aload_n 0, 0, 0, 60, vu, []),
  (.getfield 50, 7, 26, 61, vu, [2]),
  (.iload_n 2, 2, 0, 62, vu, []),
  (.iconst 4, 0, 0, 63, vi 4, []),
  (.iadd, 0, 0, 64, vu, []),
  (.iload_n 3, 3, 0, 65, vu, []),
  (.iadd, 0, 0, 66, vu, []),
  (.iaload, 0, 0, 67, vu, []),
  (.iastore, 0, 0, 68, vu, []),
  (.aload_n 0, 0, 0, 69, vu, []),
  (.getfield 41, 7, 23, 70, vu, [2]),
  (.iload_n 3, 3, 0, 71, vu, []),
  (.aload_n 0, 0, 0, 72, vu, []),
  (.getfield 50, 7, 26, 73, vu, [2]),
  (.iload_n 2, 2, 0, 74, vu, []),
  (.bipush 12, 0, 0, 75, vi 12, []),
  (.iadd, 0, 0, 76, vu, []),
  (.iload_n 3, 3, 0, 77, vu, []),
  (.iadd, 0, 0, 78, vu, []),
  (.iaload, 0, 0, 79, vu, []),
  (.iastore, 0, 0, 80, vu, []),
  (.aload_n 0, 0, 0, 81, vu, []),
  (.getfield 44, 7, 24, 82, vu, [2]),
  (.iload_n 3, 3, 0, 83, vu, []),
  (.aload_n 0, 0, 0, 84, vu, []),
  (.getfield 50, 7, 26, 85, vu, [2]),
  (.iload_n 2, 2, 0, 86, vu, []),
  (.bipush 20, 0, 0, 87, vi 20, []),
  (.iadd, 0, 0, 88, vu, []),
  (.iload_n 3, 3, 0, 89, vu, []),
  (.iadd, 0, 0, 90, vu, []),
  (.iaload, 0, 0, 91, vu, []),
  (.iastore, 0, 0, 92, vu, []),
  (.iinc 3 1, 3, 0, 93, vi 1, []),
  (.goto (-59), 53, 0, 94, vu, []),
  (.iconst 0, 0, 0, 95, vi 0, []),
  (.istore_n 3, 3, 0, 96, vu, []),
  (.iload_n 3, 3, 0, 97, vu, []),
  (.bipush 64, 0, 0, 98, vi 64, []),
  (.if_icmp .ge 26, 113, 0, 99, vu, []),
  (.aload_n 0, 0, 0, 100, vu, []),
  (.getfield 66, 7, 35, 101, vu, [2]),
  (.iload_n 3, 3, 0, 102, vu, []),
  (.aload_n 0, 0, 0, 103, vu, []),
  (.getfield 50, 7, 26, 104, vu, [2]),
  (.iload_n 2, 2, 0, 105, vu, []),
  (.bipush 28, 0, 0, 106, vi 28, []),
  (.iadd, 0, 0, 107, vu, []),
  (.iload_n 3, 3, 0, 108, vu, []),
  (.iadd, 0, 0, 109, vu, []),
  (.iaload, 0, 0, 110, vu, []),
  (.iastore, 0, 0, 111, vu, []),
  (.iinc 3 1, 3, 0, 112, vi 1, []),
  (.goto (-26), 96, 0, 113, vu, []),
  (.iconst 0, 0, 0, 114, vi 0, []),
  (.istore_n 3, 3, 0, 115, vu, []),
  (.iload_n 3, 3, 0, 116, vu, []),
  (.sipush 480, 0, 0, 117, vi 480, []),
  (.if_icmp .ge 26, 132, 0, 118, vu, []),
  (.aload_n 0, 0, 0, 119, vu, []),
  (.getfield 47, 7, 25, 120, vu, [2]),
  (.iload_n 3, 3, 0, 121, vu, []),
  (.aload_n 0, 0, 0, 122, vu, []),
  (.getfield 50, 7, 26, 123, vu, [2]),
  (.iload_n 2, 2, 0, 124, vu, []),
  (.bipush 92, 0, 0, 125, vi 92, []),
  (.iadd, 0, 0, 126, vu, []),
  (.iload_n 3, 3, 0, 127, vu, []),
  (.iadd, 0, 0, 128, vu, []),
  (.iaload, 0, 0, 129, vu, []),
  (.iastore, 0, 0, 130, vu, []),
  (.iinc 3 1, 3, 0, 131, vi 1, []),
  (.goto (-27), 115, 0, 132, vu, []),
  (.aload_n 0, 0, 0, 133, vu, []),
  (.getfield 159, 7, 20, 134, vu, [0]),
  (.ireturn, 0, 0, 135, vu, [])]
noncomputable def p_M_on : List Nat := [0, 1, 2, 3, 6, 9, 10, 11, 14, 15, 16, 17, 18, 21, 22, 23, 25, 28, 29, 30, 33, 34, 35, 36, 39, 40, 41, 44, 45, 46, 49, 50, 51, 52, 53, 56, 57, 58, 61, 62, 63, 64, 65, 68, 69, 70, 73, 74, 75, 76, 77, 80, 81, 82, 83, 85, 88, 89, 92, 93, 94, 97, 98, 99, 100, 101, 102, 103, 104, 105, 108, 109, 110, 113, 114, 116, 117, 118, 119, 120, 121, 122, 125, 126, 127, 130, 131, 133, 134, 135, 136, 137, 138, 141, 144, 145, 146, 147, 149, 152, 153, 156, 157, 158, 161, 162, 164, 165, 166, 167, 168, 169, 172, 175, 176, 177, 178, 181, 184, 185, 188, 189, 190, 193, 194, 196, 197, 198, 199, 200, 201, 204, 207, 208, 211]
abbrev n_M_setFits : Nat := 191
noncomputable def i_M_setFits : List Ins := [(.aload_n 0, 0, 0, 1, vu, []),
  (.invokevirtual 209, 172, 1, 2, vu, [0, 0, 7]),
  (.istore_n 2, 2, 0, 3, vu, []),
  (.aload_n 0, 0, 0, 4, vu, []),
  (.iconst 0, 0, 0, 5, vi 0, []),
  (.putfield 212, 7, 27, 6, vu, [0]),
  (.aload_n 0, 0, 0, 7, vu, []),
  (.bipush (-9), 0, 0, 8, vi (-9), []),
  (.putfield 215, 7, 28, 9, vu, [0]),
  (.aload_n 0, 0, 0, 10, vu, []),
  (.aload_n 0, 0, 0, 11, vu, []),
  (.invokevirtual 168, 165, 1, 12, vu, [0, 0, 7]),
  (.putfield 218, 7, 29, 13, vu, [0]),
  (.aload_n 0, 0, 0, 14, vu, []),
  (.iconst 0, 0, 0, 15, vi 0, []),
  (.putfield 221, 7, 30, 16, vu, [0]),
  (.iconst 0, 0, 0, 17, vi 0, []),
  (.istore_n 3, 3, 0, 18, vu, []),
  (.iload_n 3, 3, 0, 19, vu, []),
  (.bipush 8, 0, 0, 20, vi 8, []),
  (.if_icmp .ge 16, 28, 0, 21, vu, []),
  (.aload_n 0, 0, 0, 22, vu, []),
  (.getfield 53, 7, 31, 23, vu, [2]),
  (.iload_n 3, 3, 0, 24, vu, []),
  (.iconst 0, 0, 0, 25, vi 0, []),
  (.iastore, 0, 0, 26, vu, []),
  (.iinc 3 1, 3, 0, 27, vi 1, []),
  (.goto (-16), 18, 0, 28, vu, []),
  (.iconst 0, 0, 0, 29, vi 0, []),
  (.istore_n 3, 3, 0, 30, vu, []),
  (.iload_n 3, 3, 0, 31, vu, []),
  (.aload_n 0, 0, 0, 32, vu, []),
  (.invokevirtual 168, 165, 1, 33, vu, [0, 0, 7]),
  (.if_icmp .gt 115, 94, 0, 34, vu, []),
  (.iload_n 3, 3, 0, 35, vu, []),
  (.iload_n 2, 2, 0, 36, vu, []),
  (.iand, 0, 0, 37, vu, []),
  (.ifCond .ne 103, 92, 0, 38, vu, []),
  (.aload_n 0, 0, 0, 39, vu, []),
  (.iload_n 3, 3, 0, 40, vu, []),
  (.invokevirtual 200, 171, 2, 41, vu, [0, 0, 7]),
  (.iload_n 1, 1, 0, 42, vu, []),
  (.if_icmp .ne 94, 92, 0, 43, vu, []),
  (.aload_n 0, 0, 0, 44, vu, []),
  (.aload_n 0, 0, 0, 45, vu, []),
  (.getfield 212, 7, 27, 46, vu, [0]),
  (.ifCond .ne 7, 49, 0, 47, vu, []),
  (.iload_n 3, 3, 0, 48, vu, []),
  (.goto 7, 51, 0, 49, vu, []),
  (.aload_n 0, 0, 0, 50, vu, []),
  (.getfield 215, 7, 28, 51, vu, [0]),
  (.putfield 215, 7, 28, 52, vu, [0]),
  (.aload_n 0, 0, 0, 53, vu, []),
  (.dup, 0, 0, 54, vu, []),
  (.getfield 212, 7, 27, 55, vu, [0]),
  (.iconst 1, 0, 0, 56, vi 1, []),
  (.iadd, 0, 0, 57, vu, []),
  (.putfield 212, 7, 27, 58, vu, [0]),
  (.aload_n 0, 0, 0, 59, vu, []),
  (.dup, 0, 0, 60, vu, []),
  (.getfield 218, 7, 29, 61, vu, [0]),
  (.iload_n 3, 3, 0, 62, vu, []),
  (.iand, 0, 0, 63, vu, []),
  (.putfield 218, 7, 29, 64, vu, [0]),
  (.aload_n 0, 0, 0, 65, vu, []),
  (.dup, 0, 0, 66, vu, []),
  (.getfield 221, 7, 30, 67, vu, [0]),
  (.iload_n 3, 3, 0, 68, vu, []),
  (.ior, 0, 0, 69, vu, []),
  (.putfield 221, 7, 30, 70, vu, [0]),
  (.iconst 0, 0, 0, 71, vi 0, []),
  (.istore 4, 4, 0, 72, vu, []),
  (.iload 4, 4, 0, 73, vu, []),
  (.aload_n 0, 0, 0, 74, vu, []),
  (.getfield 150, 7, 10, 75, vu, [0]),
  (.if_icmp .ge 33, 92, 0, 76, vu, []),
  (.aload_n 0, 0, 0, 77, vu, []),
  (.getfield 53, 7, 31, 78, vu, [2]),
  (.iload 4, 4, 0, 79, vu, []),
  (.dup2, 0, 0, 80, vu, []),
  (.iaload, 0, 0, 81, vu, []),
  (.iload_n 3, 3, 0, 82, vu, []),
  (.iload 4, 4, 0, 83, vu, []),
  (.invokestatic 178, 139, 2, 84, vu, [0, 0, 99]),
  (.ifCond .eq 7, 87, 0, 85, vu, []),
  (.iconst 1, 0, 0, 86, vi 1, []),
  (.goto 4, 88, 0, 87, vu, []),
  (.iconst 0, 0, 0, 88, vi 0, []),
  (.iadd, 0, 0, 89, vu, []),
  (.iastore, 0, 0, 90, vu, []),
  (.iinc 4 1, 4, 0, 91, vi 1, []),
  (.goto (-36), 72, 0, 92, vu, []),
  (.iinc 3 1, 3, 0, 93, vi 1, []),
  (.goto (-117), 30, 0, 94, vu, []),
  (.return_, 0, 0, 95, vu, [])]
noncomputable def p_M_setFits : List Nat := [0, 1, 4, 5, 6, 7, 10, 11, 13, 16, 17, 18, 21, 24, 25, 26, 29, 30, 31, 32, 34, 37, 38, 41, 42, 43, 44, 47, 50, 51, 52, 53, 54, 57, 60, 61, 62, 63, 66, 67, 68, 71, 72, 75, 76, 77, 80, 83, 84, 87, 88, 91, 94, 95, 96, 99, 100, 101, 104, 105, 106, 109, 110, 111, 114, 115, 116, 119, 120, 121, 124, 125, 127, 129, 130, 133, 136, 137, 140, 142, 143, 144, 145, 147, 150, 153, 154, 157, 158, 159, 160, 163, 166, 169, 172]
abbrev n_M_isRise : Nat := 192
noncomputable def i_M_isRise : List Ins := [(.iload_n 0, 0, 0, 1, vu, []),
  (.iconst 0, 0, 0, 2, vi 0, []),
  (.sipush 200, 0, 0, 3, vi 200, []),
  (.invokestatic 82, 135, 3, 4, vu, [0, 0, 99]),
  (.ireturn, 1, 0, 5, vu, [])]
noncomputable def p_M_isRise : List Nat := [0, 1, 2, 5, 8]
abbrev n_M_fits : Nat := 193
noncomputable def i_M_fits : List Ins := [(.iload_n 1, 1, 0, 1, vu, []),
  (.invokestatic 224, 192, 1, 2, vu, [0, 0, 99]),
  (.ifCond .ne 5, 5, 0, 3, vu, []),
  (.iconst (-1), 0, 0, 4, vi (-1), []),
  (.ireturn, 0, 0, 5, vu, []),
  (.aload_n 0, 0, 0, 6, vu, []),
  (.iload_n 1, 1, 0, 7, vu, []),
  (.invokevirtual 227, 191, 2, 8, vu, [0, 0, 7]),
  (.aload_n 0, 0, 0, 9, vu, []),
  (.getfield 212, 7, 27, 10, vu, [0]),
  (.ifCond .ne 8, 13, 0, 11, vu, []),
  (.bipush (-9), 0, 0, 12, vi (-9), []),
  (.goto 15, 19, 0, 13, vu, []),
  (.aload_n 0, 0, 0, 14, vu, []),
  (.aload_n 0, 0, 0, 15, vu, []),
  (.getfield 215, 7, 28, 16, vu, [0]),
  (.aload_n 0, 0, 0, 17, vu, []),
  (.getfield 212, 7, 27, 18, vu, [0]),
  (.invokevirtual 108, 137, 3, 19, vu, [0, 0, 7]),
  (.ireturn, 0, 0, 20, vu, [])]
noncomputable def p_M_fits : List Nat := [0, 1, 4, 7, 8, 9, 10, 11, 14, 15, 18, 21, 23, 26, 27, 28, 31, 32, 35, 38]
abbrev n_M_sure : Nat := 194
noncomputable def i_M_sure : List Ins := [(.iload_n 1, 1, 0, 1, vu, []),
  (.invokestatic 224, 192, 1, 2, vu, [0, 0, 99]),
  (.ifCond .ne 5, 5, 0, 3, vu, []),
  (.iconst (-1), 0, 0, 4, vi (-1), []),
  (.ireturn, 0, 0, 5, vu, []),
  (.aload_n 0, 0, 0, 6, vu, []),
  (.iload_n 1, 1, 0, 7, vu, []),
  (.invokevirtual 227, 191, 2, 8, vu, [0, 0, 7]),
  (.aload_n 0, 0, 0, 9, vu, []),
  (.getfield 212, 7, 27, 10, vu, [0]),
  (.ifCond .ne 11, 15, 0, 11, vu, []),
  (.aload_n 0, 0, 0, 12, vu, []),
  (.iconst 4, 0, 0, 13, vi 4, []),
  (.invokevirtual 90, 136, 2, 14, vu, [0, 0, 7]),
  (.goto 22, 26, 0, 15, vu, []),
  (.aload_n 0, 0, 0, 16, vu, []),
  (.aload_n 0, 0, 0, 17, vu, []),
  (.invokevirtual 168, 165, 1, 18, vu, [0, 0, 7]),
  (.aload_n 0, 0, 0, 19, vu, []),
  (.getfield 221, 7, 30, 20, vu, [0]),
  (.iconst (-1), 0, 0, 21, vi (-1), []),
  (.ixor, 0, 0, 22, vu, []),
  (.iand, 0, 0, 23, vu, []),
  (.aload_n 0, 0, 0, 24, vu, []),
  (.getfield 218, 7, 29, 25, vu, [0]),
  (.invokevirtual 108, 137, 3, 26, vu, [0, 0, 7]),
  (.ireturn, 0, 0, 27, vu, [])]
noncomputable def p_M_sure : List Nat := [0, 1, 4, 7, 8, 9, 10, 11, 14, 15, 18, 21, 22, 23, 26, 29, 30, 31, 34, 35, 38, 39, 40, 41, 42, 45, 48]
abbrev n_M_odds : Nat := 195
noncomputable def i_M_odds : List Ins := [(.aload_n 0, 0, 0, 1, vu, []),
  (.iload_n 1, 1, 0, 2, vu, []),
  (.invokevirtual 185, 164, 2, 3, vu, [0, 0, 7]),
  (.ifCond .eq 10, 7, 0, 4, vu, []),
  (.iload_n 2, 2, 0, 5, vu, []),
  (.invokestatic 224, 192, 1, 6, vu, [0, 0, 99]),
  (.ifCond .ne 5, 9, 0, 7, vu, []),
  (.iconst (-1), 0, 0, 8, vi (-1), []),
  (.ireturn, 0, 0, 9, vu, []),
  (.aload_n 0, 0, 0, 10, vu, []),
  (.iload_n 2, 2, 0, 11, vu, []),
  (.invokevirtual 227, 191, 2, 12, vu, [0, 0, 7]),
  (.aload_n 0, 0, 0, 13, vu, []),
  (.getfield 212, 7, 27, 14, vu, [0]),
  (.ifCond .ne 11, 19, 0, 15, vu, []),
  (.aload_n 0, 0, 0, 16, vu, []),
  (.iconst 4, 0, 0, 17, vi 4, []),
  (.invokevirtual 90, 136, 2, 18, vu, [0, 0, 7]),
  (.goto 25, 33, 0, 19, vu, []),
  (.aload_n 0, 0, 0, 20, vu, []),
  (.aload_n 0, 0, 0, 21, vu, []),
  (.getfield 53, 7, 31, 22, vu, [2]),
  (.iload_n 1, 1, 0, 23, vu, []),
  (.iaload, 0, 0, 24, vu, []),
  (.i2l, 0, 0, 25, vu, []),
  (.aload_n 0, 0, 0, 26, vu, []),
  (.getfield 212, 7, 27, 27, vu, [0]),
  (.i2l, 0, 0, 28, vu, []),
  (.aload_n 0, 0, 0, 29, vu, []),
  (.getfield 53, 7, 31, 30, vu, [2]),
  (.iload_n 1, 1, 0, 31, vu, []),
  (.iaload, 0, 0, 32, vu, []),
  (.invokevirtual 231, 138, 4, 33, vu, [0, 0, 7]),
  (.ireturn, 0, 0, 34, vu, [])]
noncomputable def p_M_odds : List Nat := [0, 1, 2, 5, 8, 9, 12, 15, 16, 17, 18, 19, 22, 23, 26, 29, 30, 31, 34, 37, 38, 39, 42, 43, 44, 45, 46, 49, 50, 51, 54, 55, 56, 59]
abbrev n_M_thunder : Nat := 196
noncomputable def i_M_thunder : List Ins := [(.iload_n 1, 1, 0, 1, vu, []),
  (.invokestatic 224, 192, 1, 2, vu, [0, 0, 99]),
  (.ifCond .eq 13, 8, 0, 3, vu, []),
  (.iload_n 2, 2, 0, 4, vu, []),
  (.iconst 1, 0, 0, 5, vi 1, []),
  (.bipush 50, 0, 0, 6, vi 50, []),
  (.invokestatic 82, 135, 3, 7, vu, [0, 0, 99]),
  (.ifCond .ne 5, 10, 0, 8, vu, []),
  (.iconst (-1), 0, 0, 9, vi (-1), []),
  (.ireturn, 0, 0, 10, vu, []),
  (.aload_n 0, 0, 0, 11, vu, []),
  (.iload_n 1, 1, 0, 12, vu, []),
  (.invokevirtual 227, 191, 2, 13, vu, [0, 0, 7]),
  (.aload_n 0, 0, 0, 14, vu, []),
  (.getfield 212, 7, 27, 15, vu, [0]),
  (.ifCond .le 7, 18, 0, 16, vu, []),
  (.iconst 1, 0, 0, 17, vi 1, []),
  (.goto 4, 19, 0, 18, vu, []),
  (.iconst 0, 0, 0, 19, vi 0, []),
  (.istore_n 3, 3, 0, 20, vu, []),
  (.aload_n 0, 0, 0, 21, vu, []),
  (.iload_n 1, 1, 0, 22, vu, []),
  (.iload_n 2, 2, 0, 23, vu, []),
  (.isub, 0, 0, 24, vu, []),
  (.invokevirtual 227, 191, 2, 25, vu, [0, 0, 7]),
  (.iload_n 3, 3, 0, 26, vu, []),
  (.aload_n 0, 0, 0, 27, vu, []),
  (.getfield 212, 7, 27, 28, vu, [0]),
  (.ifCond .le 7, 31, 0, 29, vu, []),
  (.iconst 2, 0, 0, 30, vi 2, []),
  (.goto 4, 32, 0, 31, vu, []),
  (.iconst 0, 0, 0, 32, vi 0, []),
  (.iadd, 0, 0, 33, vu, []),
  (.ireturn, 0, 0, 34, vu, [])]
noncomputable def p_M_thunder : List Nat := [0, 1, 4, 7, 8, 9, 11, 14, 17, 18, 19, 20, 21, 24, 25, 28, 31, 32, 35, 36, 37, 38, 39, 40, 41, 44, 45, 46, 49, 52, 53, 56, 57, 58]
abbrev n_M_joined : Nat := 197
noncomputable def i_M_joined : List Ins := [(.aload_n 0, 0, 0, 1, vu, []),
  (.iload_n 1, 1, 0, 2, vu, []),
  (.invokevirtual 101, 143, 2, 3, vu, [0, 0, 7]),
  (.istore_n 2, 2, 0, 4, vu, []),
  (.iload_n 2, 2, 0, 5, vu, []),
  (.ifCond .ge 5, 8, 0, 6, vu, []),
  (.iload_n 2, 2, 0, 7, vu, []),
  (.ireturn, 0, 0, 8, vu, []),
  (.aload_n 0, 0, 0, 9, vu, []),
  (.getfield 17, 7, 5, 10, vu, [2]),
  (.iload_n 1, 1, 0, 11, vu, []),
  (.iaload, 0, 0, 12, vu, []),
  (.istore_n 3, 3, 0, 13, vu, []),
  (.iload_n 3, 3, 0, 14, vu, []),
  (.ifCond .ne 9, 19, 0, 15, vu, []),
  (.aload_n 0, 0, 0, 16, vu, []),
  (.iconst 5, 0, 0, 17, vi 5, []),
  (.invokevirtual 90, 136, 2, 18, vu, [0, 0, 7]),
  (.ireturn, 0, 0, 19, vu, []),
  (.iconst 0, 0, 0, 20, vi 0, []),
  (.istore 4, 4, 0, 21, vu, []),
  (.iload 4, 4, 0, 22, vu, []),
  (.iload_n 3, 3, 0, 23, vu, []),
  (.if_icmp .ge 28, 36, 0, 24, vu, []),
  (.aload_n 0, 0, 0, 25, vu, []),
  (.iload_n 1, 1, 0, 26, vu, []),
  (.iload 4, 4, 0, 27, vu, []),
  (.invokevirtual 104, 145, 3, 28, vu, [0, 0, 7]),
  (.invokestatic 224, 192, 1, 29, vu, [0, 0, 99]),
  (.ifCond .ne 9, 34, 0, 30, vu, []),
  (.aload_n 0, 0, 0, 31, vu, []),
  (.iconst 3, 0, 0, 32, vi 3, []),
  (.invokevirtual 90, 136, 2, 33, vu, [0, 0, 7]),
  (.ireturn, 0, 0, 34, vu, []),
  (.iinc 4 1, 4, 0, 35, vi 1, []),
  (.goto (-28), 21, 0, 36, vu, []),
  (.aload_n 0, 0, 0, 37, vu, []),
  (.invokevirtual 209, 172, 1, 38, vu, [0, 0, 7]),
  (.istore 4, 4, 0, 39, vu, []),
  (.iconst 0, 0, 0, 40, vi 0, []),
  (.istore 5, 5, 0, 41, vu, []),
  (.iconst 0, 0, 0, 42, vi 0, []),
  (.istore 6, 6, 0, 43, vu, []),
  (.iload 6, 6, 0, 44, vu, []),
  (.aload_n 0, 0, 0, 45, vu, []),
  (.invokevirtual 168, 165, 1, 46, vu, [0, 0, 7]),
  (.if_icmp .gt 43, 70, 0, 47, vu, []),
  (.iload 6, 6, 0, 48, vu, []),
  (.iload 4, 4, 0, 49, vu, []),
  (.iand, 0, 0, 50, vu, []),
  (.ifCond .ne 29, 68, 0, 51, vu, []),
  (.iload 5, 5, 0, 52, vu, []),
  (.aload_n 0, 0, 0, 53, vu, []),
  (.iload_n 1, 1, 0, 54, vu, []),
  (.iload 6, 6, 0, 55, vu, []),
  (.aload_n 0, 0, 0, 56, vu, []),
  (.invokevirtual 168, 165, 1, 57, vu, [0, 0, 7]),
  (.iload 4, 4, 0, 58, vu, []),
  (.iconst (-1), 0, 0, 59, vi (-1), []),
  (.ixor, 0, 0, 60, vu, []),
  (.iand, 0, 0, 61, vu, []),
  (.iload 6, 6, 0, 62, vu, []),
  (.iconst (-1), 0, 0, 63, vi (-1), []),
  (.ixor, 0, 0, 64, vu, []),
  (.iand, 0, 0, 65, vu, []),
  (.invokevirtual 235, 198, 4, 66, vu, [0, 0, 7]),
  (.iadd, 0, 0, 67, vu, []),
  (.istore 5, 5, 0, 68, vu, []),
  (.iinc 6 1, 6, 0, 69, vi 1, []),
  (.goto (-46), 43, 0, 70, vu, []),
  (.iload 5, 5, 0, 71, vu, []),
  (.ireturn, 0, 0, 72, vu, [])]
noncomputable def p_M_joined : List Nat := [0, 1, 2, 5, 6, 7, 10, 11, 12, 13, 16, 17, 18, 19, 20, 23, 24, 25, 28, 29, 30, 32, 34, 35, 38, 39, 40, 42, 45, 48, 51, 52, 53, 56, 57, 60, 63, 64, 67, 69, 70, 72, 73, 75, 77, 78, 81, 84, 86, 88, 89, 92, 94, 95, 96, 98, 99, 102, 104, 105, 106, 107, 109, 110, 111, 112, 115, 116, 118, 121, 124, 126]
abbrev n_M_joinedBy : Nat := 198
noncomputable def i_M_joinedBy : List Ins := [(.aload_n 0, 0, 0, 1, vu, []),
  (.iload_n 2, 2, 0, 2, vu, []),
  (.invokevirtual 200, 171, 2, 3, vu, [0, 0, 7]),
  (.istore 4, 4, 0, 4, vu, []),
  (.iconst 0, 0, 0, 5, vi 0, []),
  (.istore 5, 5, 0, 6, vu, []),
  (.bipush (-9), 0, 0, 7, vi (-9), []),
  (.istore 6, 6, 0, 8, vu, []),
  (.iconst 0, 0, 0, 9, vi 0, []),
  (.istore 7, 7, 0, 10, vu, []),
  (.iload 7, 7, 0, 11, vu, []),
  (.aload_n 0, 0, 0, 12, vu, []),
  (.getfield 17, 7, 5, 13, vu, [2]),
  (.iload_n 1, 1, 0, 14, vu, []),
  (.iaload, 0, 0, 15, vu, []),
  (.if_icmp .ge 57, 42, 0, 16, vu, []),
  (.aload_n 0, 0, 0, 17, vu, []),
  (.iload_n 1, 1, 0, 18, vu, []),
  (.iload 7, 7, 0, 19, vu, []),
  (.invokevirtual 104, 145, 3, 20, vu, [0, 0, 7]),
  (.iload 4, 4, 0, 21, vu, []),
  (.if_icmp .eq 7, 24, 0, 22, vu, []),
  (.iconst 1, 0, 0, 23, vi 1, []),
  (.goto 4, 25, 0, 24, vu, []),
  (.iconst 0, 0, 0, 25, vi 0, []),
  (.istore 8, 8, 0, 26, vu, []),
  (.iload 5, 5, 0, 27, vu, []),
  (.iload 8, 8, 0, 28, vu, []),
  (.ifCond .eq 7, 31, 0, 29, vu, []),
  (.iconst 1, 0, 0, 30, vi 1, []),
  (.goto 4, 32, 0, 31, vu, []),
  (.iconst 0, 0, 0, 32, vi 0, []),
  (.iadd, 0, 0, 33, vu, []),
  (.istore 5, 5, 0, 34, vu, []),
  (.iload 8, 8, 0, 35, vu, []),
  (.ifCond .eq 8, 38, 0, 36, vu, []),
  (.iload 7, 7, 0, 37, vu, []),
  (.goto 5, 39, 0, 38, vu, []),
  (.iload 6, 6, 0, 39, vu, []),
  (.istore 6, 6, 0, 40, vu, []),
  (.iinc 7 1, 7, 0, 41, vi 1, []),
  (.goto (-62), 10, 0, 42, vu, []),
  (.iload 5, 5, 0, 43, vu, []),
  (.ifCond .ne 7, 46, 0, 44, vu, []),
  (.iconst 1, 0, 0, 45, vi 1, []),
  (.goto 4, 47, 0, 46, vu, []),
  (.iconst 0, 0, 0, 47, vi 0, []),
  (.istore 7, 7, 0, 48, vu, []),
  (.iconst 0, 0, 0, 49, vi 0, []),
  (.istore 8, 8, 0, 50, vu, []),
  (.iload 8, 8, 0, 51, vu, []),
  (.aload_n 0, 0, 0, 52, vu, []),
  (.getfield 150, 7, 10, 53, vu, [0]),
  (.if_icmp .ge 120, 111, 0, 54, vu, []),
  (.aload_n 0, 0, 0, 55, vu, []),
  (.iload 8, 8, 0, 56, vu, []),
  (.invokevirtual 182, 170, 2, 57, vu, [0, 0, 7]),
  (.istore 9, 9, 0, 58, vu, []),
  (.iload_n 3, 3, 0, 59, vu, []),
  (.iload 8, 8, 0, 60, vu, []),
  (.invokestatic 178, 139, 2, 61, vu, [0, 0, 99]),
  (.ifCond .eq 17, 68, 0, 62, vu, []),
  (.iload 5, 5, 0, 63, vu, []),
  (.ifCond .ne 12, 68, 0, 64, vu, []),
  (.iload 9, 9, 0, 65, vu, []),
  (.ifCond .ne 7, 68, 0, 66, vu, []),
  (.iconst 1, 0, 0, 67, vi 1, []),
  (.goto 4, 69, 0, 68, vu, []),
  (.iconst 0, 0, 0, 69, vi 0, []),
  (.istore 10, 10, 0, 70, vu, []),
  (.iload_n 3, 3, 0, 71, vu, []),
  (.iload 8, 8, 0, 72, vu, []),
  (.invokestatic 178, 139, 2, 73, vu, [0, 0, 99]),
  (.ifCond .eq 39, 92, 0, 74, vu, []),
  (.iload 5, 5, 0, 75, vu, []),
  (.iconst 1, 0, 0, 76, vi 1, []),
  (.if_icmp .ne 33, 92, 0, 77, vu, []),
  (.aload_n 0, 0, 0, 78, vu, []),
  (.iload_n 1, 1, 0, 79, vu, []),
  (.iload 6, 6, 0, 80, vu, []),
  (.bipush (-9), 0, 0, 81, vi (-9), []),
  (.if_icmp .ne 7, 84, 0, 82, vu, []),
  (.iconst 0, 0, 0, 83, vi 0, []),
  (.goto 5, 85, 0, 84, vu, []),
  (.iload 6, 6, 0, 85, vu, []),
  (.invokevirtual 104, 145, 3, 86, vu, [0, 0, 7]),
  (.iload 4, 4, 0, 87, vu, []),
  (.iload 9, 9, 0, 88, vu, []),
  (.iadd, 0, 0, 89, vu, []),
  (.if_icmp .ne 7, 92, 0, 90, vu, []),
  (.iconst 1, 0, 0, 91, vi 1, []),
  (.goto 4, 93, 0, 92, vu, []),
  (.iconst 0, 0, 0, 93, vi 0, []),
  (.istore 11, 11, 0, 94, vu, []),
  (.iload 7, 7, 0, 95, vu, []),
  (.iload 10, 10, 0, 96, vu, []),
  (.ifCond .eq 12, 102, 0, 97, vu, []),
  (.aload_n 0, 0, 0, 98, vu, []),
  (.getfield 17, 7, 5, 99, vu, [2]),
  (.iload_n 1, 1, 0, 100, vu, []),
  (.iaload, 0, 0, 101, vu, []),
  (.goto 13, 107, 0, 102, vu, []),
  (.iload 11, 11, 0, 103, vu, []),
  (.ifCond .eq 7, 106, 0, 104, vu, []),
  (.iconst 1, 0, 0, 105, vi 1, []),
  (.goto 4, 107, 0, 106, vu, []),
  (.iconst 0, 0, 0, 107, vi 0, []),
  (.iadd, 0, 0, 108, vu, []),
  (.istore 7, 7, 0, 109, vu, []),
  (.iinc 8 1, 8, 0, 110, vi 1, []),
  (.goto (-123), 50, 0, 111, vu, []),
  (.iload 7, 7, 0, 112, vu, []),
  (.ireturn, 0, 0, 113, vu, [])]
noncomputable def p_M_joinedBy : List Nat := [0, 1, 2, 5, 7, 8, 10, 12, 14, 15, 17, 19, 20, 23, 24, 25, 28, 29, 30, 32, 35, 37, 40, 41, 44, 45, 47, 49, 51, 54, 55, 58, 59, 60, 62, 64, 67, 69, 72, 74, 76, 79, 82, 84, 87, 88, 91, 92, 94, 95, 97, 99, 100, 103, 106, 107, 109, 112, 114, 115, 117, 120, 123, 125, 128, 130, 133, 134, 137, 138, 140, 141, 143, 146, 149, 151, 152, 155, 156, 157, 159, 161, 164, 165, 168, 170, 173, 175, 177, 178, 181, 182, 185, 186, 188, 190, 192, 195, 196, 199, 200, 201, 204, 206, 209, 210, 213, 214, 215, 217, 220, 223, 225]
abbrev n_M_silence : Nat := 199
noncomputable def i_M_silence : List Ins := [(.iload_n 1, 1, 0, 1, vu, []),
  (.invokestatic 224, 192, 1, 2, vu, [0, 0, 99]),
  (.ifCond .ne 5, 5, 0, 3, vu, []),
  (.iconst (-1), 0, 0, 4, vi (-1), []),
  (.ireturn, 0, 0, 5, vu, []),
  (.aload_n 0, 0, 0, 6, vu, []),
  (.iload_n 1, 1, 0, 7, vu, []),
  (.invokevirtual 227, 191, 2, 8, vu, [0, 0, 7]),
  (.aload_n 0, 0, 0, 9, vu, []),
  (.getfield 212, 7, 27, 10, vu, [0]),
  (.ifCond .ne 9, 15, 0, 11, vu, []),
  (.aload_n 0, 0, 0, 12, vu, []),
  (.iconst 4, 0, 0, 13, vi 4, []),
  (.invokevirtual 90, 136, 2, 14, vu, [0, 0, 7]),
  (.ireturn, 0, 0, 15, vu, []),
  (.aload_n 0, 0, 0, 16, vu, []),
  (.getfield 150, 7, 10, 17, vu, [0]),
  (.ifCond .ne 6, 20, 0, 18, vu, []),
  (.bipush (-9), 0, 0, 19, vi (-9), []),
  (.ireturn, 0, 0, 20, vu, []),
  (.iconst 0, 0, 0, 21, vi 0, []),
  (.istore_n 2, 2, 0, 22, vu, []),
  (.iconst 1, 0, 0, 23, vi 1, []),
  (.istore_n 3, 3, 0, 24, vu, []),
  (.iload_n 3, 3, 0, 25, vu, []),
  (.aload_n 0, 0, 0, 26, vu, []),
  (.getfield 150, 7, 10, 27, vu, [0]),
  (.if_icmp .ge 28, 41, 0, 28, vu, []),
  (.aload_n 0, 0, 0, 29, vu, []),
  (.iload_n 3, 3, 0, 30, vu, []),
  (.invokevirtual 239, 200, 2, 31, vu, [0, 0, 7]),
  (.aload_n 0, 0, 0, 32, vu, []),
  (.iload_n 2, 2, 0, 33, vu, []),
  (.invokevirtual 239, 200, 2, 34, vu, [0, 0, 7]),
  (.if_icmp .ge 7, 37, 0, 35, vu, []),
  (.iload_n 3, 3, 0, 36, vu, []),
  (.goto 4, 38, 0, 37, vu, []),
  (.iload_n 2, 2, 0, 38, vu, []),
  (.istore_n 2, 2, 0, 39, vu, []),
  (.iinc 3 1, 3, 0, 40, vi 1, []),
  (.goto (-30), 24, 0, 41, vu, []),
  (.aload_n 0, 0, 0, 42, vu, []),
  (.aload_n 0, 0, 0, 43, vu, []),
  (.getfield 53, 7, 31, 44, vu, [2]),
  (.iload_n 2, 2, 0, 45, vu, []),
  (.iaload, 0, 0, 46, vu, []),
  (.iload_n 2, 2, 0, 47, vu, []),
  (.invokevirtual 108, 137, 3, 48, vu, [0, 0, 7]),
  (.ireturn, 0, 0, 49, vu, [])]
noncomputable def p_M_silence : List Nat := [0, 1, 4, 7, 8, 9, 10, 11, 14, 15, 18, 21, 22, 23, 26, 27, 28, 31, 34, 36, 37, 38, 39, 40, 41, 42, 43, 46, 49, 50, 51, 54, 55, 56, 59, 62, 63, 66, 67, 68, 71, 74, 75, 76, 79, 80, 81, 82, 85]
abbrev n_M_halfOf : Nat := 200
noncomputable def i_M_halfOf : List Ins := [(.iconst 2, 0, 0, 1, vi 2, []),
  (.aload_n 0, 0, 0, 2, vu, []),
  (.getfield 53, 7, 31, 3, vu, [2]),
  (.iload_n 1, 1, 0, 4, vu, []),
  (.iaload, 0, 0, 5, vu, []),
  (.imul, 0, 0, 6, vu, []),
  (.aload_n 0, 0, 0, 7, vu, []),
  (.getfield 212, 7, 27, 8, vu, [0]),
  (.isub, 0, 0, 9, vu, []),
  (.istore_n 2, 2, 0, 10, vu, []),
  (.iload_n 2, 2, 0, 11, vu, []),
  (.ifCond .ge 8, 15, 0, 12, vu, []),
  (.iload_n 2, 2, 0, 13, vu, []),
  (.ineg, 0, 0, 14, vu, []),
  (.goto 4, 16, 0, 15, vu, []),
  (.iload_n 2, 2, 0, 16, vu, []),
  (.ireturn, 0, 0, 17, vu, [])]
noncomputable def p_M_halfOf : List Nat := [0, 1, 2, 5, 6, 7, 8, 9, 12, 13, 14, 15, 18, 19, 20, 23, 24]
abbrev n_M_rises : Nat := 201
noncomputable def i_M_rises : List Ins := [(.aload_n 0, 0, 0, 1, vu, []),
  (.getfield 150, 7, 10, 2, vu, [0]),
  (.ifCond .ne 6, 5, 0, 3, vu, []),
  (.bipush (-4), 0, 0, 4, vi (-4), []),
  (.ireturn, 0, 0, 5, vu, []),
  (.iconst 0, 0, 0, 6, vi 0, []),
  (.istore_n 1, 1, 0, 7, vu, []),
  (.iload_n 1, 1, 0, 8, vu, []),
  (.sipush 160, 0, 0, 9, vi 160, []),
  (.if_icmp .ge 16, 17, 0, 10, vu, []),
  (.aload_n 0, 0, 0, 11, vu, []),
  (.getfield 56, 7, 32, 12, vu, [2]),
  (.iload_n 1, 1, 0, 13, vu, []),
  (.iconst 0, 0, 0, 14, vi 0, []),
  (.bastore, 0, 0, 15, vu, []),
  (.iinc 1 1, 1, 0, 16, vi 1, []),
  (.goto (-17), 7, 0, 17, vu, []),
  (.aload_n 0, 0, 0, 18, vu, []),
  (.invokevirtual 209, 172, 1, 19, vu, [0, 0, 7]),
  (.istore_n 1, 1, 0, 20, vu, []),
  (.iconst 0, 0, 0, 21, vi 0, []),
  (.istore_n 2, 2, 0, 22, vu, []),
  (.iconst 0, 0, 0, 23, vi 0, []),
  (.istore_n 3, 3, 0, 24, vu, []),
  (.iconst 0, 0, 0, 25, vi 0, []),
  (.istore 4, 4, 0, 26, vu, []),
  (.iload 4, 4, 0, 27, vu, []),
  (.aload_n 0, 0, 0, 28, vu, []),
  (.invokevirtual 168, 165, 1, 29, vu, [0, 0, 7]),
  (.if_icmp .gt 60, 63, 0, 30, vu, []),
  (.aload_n 0, 0, 0, 31, vu, []),
  (.iload 4, 4, 0, 32, vu, []),
  (.iload_n 1, 1, 0, 33, vu, []),
  (.iconst (-1), 0, 0, 34, vi (-1), []),
  (.ixor, 0, 0, 35, vu, []),
  (.iand, 0, 0, 36, vu, []),
  (.invokevirtual 200, 171, 2, 37, vu, [0, 0, 7]),
  (.istore 5, 5, 0, 38, vu, []),
  (.iload_n 2, 2, 0, 39, vu, []),
  (.aload_n 0, 0, 0, 40, vu, []),
  (.getfield 56, 7, 32, 41, vu, [2]),
  (.iload 5, 5, 0, 42, vu, []),
  (.baload, 0, 0, 43, vu, []),
  (.ifCond .eq 7, 46, 0, 44, vu, []),
  (.iconst 0, 0, 0, 45, vi 0, []),
  (.goto 4, 47, 0, 46, vu, []),
  (.iconst 1, 0, 0, 47, vi 1, []),
  (.iadd, 0, 0, 48, vu, []),
  (.istore_n 2, 2, 0, 49, vu, []),
  (.aload_n 0, 0, 0, 50, vu, []),
  (.getfield 56, 7, 32, 51, vu, [2]),
  (.iload 5, 5, 0, 52, vu, []),
  (.iconst 1, 0, 0, 53, vi 1, []),
  (.bastore, 0, 0, 54, vu, []),
  (.iload 5, 5, 0, 55, vu, []),
  (.iload_n 3, 3, 0, 56, vu, []),
  (.if_icmp .le 8, 59, 0, 57, vu, []),
  (.iload 5, 5, 0, 58, vu, []),
  (.goto 4, 60, 0, 59, vu, []),
  (.iload_n 3, 3, 0, 60, vu, []),
  (.istore_n 3, 3, 0, 61, vu, []),
  (.iinc 4 1, 4, 0, 62, vi 1, []),
  (.goto (-63), 26, 0, 63, vu, []),
  (.aload_n 0, 0, 0, 64, vu, []),
  (.iload_n 3, 3, 0, 65, vu, []),
  (.iload_n 2, 2, 0, 66, vu, []),
  (.invokevirtual 108, 137, 3, 67, vu, [0, 0, 7]),
  (.ireturn, 0, 0, 68, vu, [])]
noncomputable def p_M_rises : List Nat := [0, 1, 4, 7, 9, 10, 11, 12, 13, 16, 19, 20, 23, 24, 25, 26, 29, 32, 33, 36, 37, 38, 39, 40, 41, 42, 44, 46, 47, 50, 53, 54, 56, 57, 58, 59, 60, 63, 65, 66, 67, 70, 72, 73, 76, 77, 80, 81, 82, 83, 84, 87, 89, 90, 91, 93, 94, 97, 99, 102, 103, 104, 107, 110, 111, 112, 113, 116]
abbrev n_M_wedding : Nat := 202
noncomputable def i_M_wedding : List Ins := [(.iload_n 1, 1, 0, 1, vu, []),
  (.invokestatic 224, 192, 1, 2, vu, [0, 0, 99]),
  (.ifCond .ne 5, 5, 0, 3, vu, []),
  (.iconst (-1), 0, 0, 4, vi (-1), []),
  (.ireturn, 0, 0, 5, vu, []),
  (.bipush (-9), 0, 0, 6, vi (-9), []),
  (.istore_n 2, 2, 0, 7, vu, []),
  (.iconst 0, 0, 0, 8, vi 0, []),
  (.istore_n 3, 3, 0, 9, vu, []),
  (.iconst 0, 0, 0, 10, vi 0, []),
  (.istore 4, 4, 0, 11, vu, []),
  (.iload 4, 4, 0, 12, vu, []),
  (.aload_n 0, 0, 0, 13, vu, []),
  (.invokevirtual 168, 165, 1, 14, vu, [0, 0, 7]),
  (.if_icmp .gt 112, 68, 0, 15, vu, []),
  (.iconst 0, 0, 0, 16, vi 0, []),
  (.istore 5, 5, 0, 17, vu, []),
  (.iconst 0, 0, 0, 18, vi 0, []),
  (.istore 6, 6, 0, 19, vu, []),
  (.iload 6, 6, 0, 20, vu, []),
  (.aload_n 0, 0, 0, 21, vu, []),
  (.getfield 150, 7, 10, 22, vu, [0]),
  (.if_icmp .ge 34, 37, 0, 23, vu, []),
  (.iload 5, 5, 0, 24, vu, []),
  (.iload 4, 4, 0, 25, vu, []),
  (.iload 6, 6, 0, 26, vu, []),
  (.invokestatic 178, 139, 2, 27, vu, [0, 0, 99]),
  (.ifCond .eq 12, 32, 0, 28, vu, []),
  (.aload_n 0, 0, 0, 29, vu, []),
  (.iload 6, 6, 0, 30, vu, []),
  (.invokevirtual 172, 168, 2, 31, vu, [0, 0, 7]),
  (.goto 4, 33, 0, 32, vu, []),
  (.iconst 0, 0, 0, 33, vi 0, []),
  (.iadd, 0, 0, 34, vu, []),
  (.istore 5, 5, 0, 35, vu, []),
  (.iinc 6 1, 6, 0, 36, vi 1, []),
  (.goto (-37), 19, 0, 37, vu, []),
  (.aload_n 0, 0, 0, 38, vu, []),
  (.iload 4, 4, 0, 39, vu, []),
  (.invokevirtual 200, 171, 2, 40, vu, [0, 0, 7]),
  (.istore 6, 6, 0, 41, vu, []),
  (.iload 5, 5, 0, 42, vu, []),
  (.iload_n 1, 1, 0, 43, vu, []),
  (.if_icmp .lt 19, 52, 0, 44, vu, []),
  (.iload_n 2, 2, 0, 45, vu, []),
  (.bipush (-9), 0, 0, 46, vi (-9), []),
  (.if_icmp .eq 9, 50, 0, 47, vu, []),
  (.iload 6, 6, 0, 48, vu, []),
  (.iload_n 3, 3, 0, 49, vu, []),
  (.if_icmp .ge 7, 52, 0, 50, vu, []),
  (.iconst 1, 0, 0, 51, vi 1, []),
  (.goto 4, 53, 0, 52, vu, []),
  (.iconst 0, 0, 0, 53, vi 0, []),
  (.istore 7, 7, 0, 54, vu, []),
  (.iload 7, 7, 0, 55, vu, []),
  (.ifCond .eq 8, 58, 0, 56, vu, []),
  (.iload 4, 4, 0, 57, vu, []),
  (.goto 4, 59, 0, 58, vu, []),
  (.iload_n 2, 2, 0, 59, vu, []),
  (.istore_n 2, 2, 0, 60, vu, []),
  (.iload 7, 7, 0, 61, vu, []),
  (.ifCond .eq 8, 64, 0, 62, vu, []),
  (.iload 6, 6, 0, 63, vu, []),
  (.goto 4, 65, 0, 64, vu, []),
  (.iload_n 3, 3, 0, 65, vu, []),
  (.istore_n 3, 3, 0, 66, vu, []),
  (.iinc 4 1, 4, 0, 67, vi 1, []),
  (.goto (-115), 11, 0, 68, vu, []),
  (.iload_n 2, 2, 0, 69, vu, []),
  (.bipush (-9), 0, 0, 70, vi (-9), []),
  (.if_icmp .ne 8, 73, 0, 71, vu, []),
  (.bipush (-9), 0, 0, 72, vi (-9), []),
  (.goto 9, 77, 0, 73, vu, []),
  (.aload_n 0, 0, 0, 74, vu, []),
  (.iload_n 2, 2, 0, 75, vu, []),
  (.iload_n 3, 3, 0, 76, vu, []),
  (.invokevirtual 108, 137, 3, 77, vu, [0, 0, 7]),
  (.ireturn, 0, 0, 78, vu, [])]
noncomputable def p_M_wedding : List Nat := [0, 1, 4, 7, 8, 9, 11, 12, 13, 14, 15, 17, 19, 20, 23, 26, 27, 29, 30, 32, 34, 35, 38, 41, 43, 45, 47, 50, 53, 54, 56, 59, 62, 63, 64, 66, 69, 72, 73, 75, 78, 80, 82, 83, 86, 87, 89, 92, 94, 95, 98, 99, 102, 103, 105, 107, 110, 112, 115, 116, 117, 119, 122, 124, 127, 128, 129, 132, 135, 136, 138, 141, 143, 146, 147, 148, 149, 152]
abbrev n_M_feathers : Nat := 203
noncomputable def i_M_feathers : List Ins := [(.aload_n 0, 0, 0, 1, vu, []),
  (.iload_n 1, 1, 0, 2, vu, []),
  (.invokevirtual 197, 166, 2, 3, vu, [0, 0, 7]),
  (.ifCond .eq 20, 12, 0, 4, vu, []),
  (.iload_n 2, 2, 0, 5, vu, []),
  (.iconst 0, 0, 0, 6, vi 0, []),
  (.bipush 20, 0, 0, 7, vi 20, []),
  (.invokestatic 82, 135, 3, 8, vu, [0, 0, 99]),
  (.ifCond .eq 10, 12, 0, 9, vu, []),
  (.iload_n 3, 3, 0, 10, vu, []),
  (.invokestatic 86, 141, 1, 11, vu, [0, 0, 99]),
  (.ifCond .ne 5, 14, 0, 12, vu, []),
  (.iconst (-1), 0, 0, 13, vi (-1), []),
  (.ireturn, 0, 0, 14, vu, []),
  (.aload_n 0, 0, 0, 15, vu, []),
  (.getfield 150, 7, 10, 16, vu, [0]),
  (.ifCond .ne 6, 19, 0, 17, vu, []),
  (.bipush (-4), 0, 0, 18, vi (-4), []),
  (.ireturn, 0, 0, 19, vu, []),
  (.iconst 0, 0, 0, 20, vi 0, []),
  (.istore 4, 4, 0, 21, vu, []),
  (.iload 4, 4, 0, 22, vu, []),
  (.bipush 8, 0, 0, 23, vi 8, []),
  (.if_icmp .ge 17, 31, 0, 24, vu, []),
  (.aload_n 0, 0, 0, 25, vu, []),
  (.getfield 60, 7, 33, 26, vu, [2]),
  (.iload 4, 4, 0, 27, vu, []),
  (.iconst 0, 0, 0, 28, vi 0, []),
  (.iastore, 0, 0, 29, vu, []),
  (.iinc 4 1, 4, 0, 30, vi 1, []),
  (.goto (-18), 21, 0, 31, vu, []),
  (.iconst 0, 0, 0, 32, vi 0, []),
  (.istore 4, 4, 0, 33, vu, []),
  (.iload 4, 4, 0, 34, vu, []),
  (.iload_n 2, 2, 0, 35, vu, []),
  (.if_icmp .ge 114, 91, 0, 36, vu, []),
  (.bipush (-9), 0, 0, 37, vi (-9), []),
  (.istore 5, 5, 0, 38, vu, []),
  (.iconst 0, 0, 0, 39, vi 0, []),
  (.istore 6, 6, 0, 40, vu, []),
  (.iload 6, 6, 0, 41, vu, []),
  (.aload_n 0, 0, 0, 42, vu, []),
  (.getfield 150, 7, 10, 43, vu, [0]),
  (.if_icmp .ge 74, 78, 0, 44, vu, []),
  (.aload_n 0, 0, 0, 45, vu, []),
  (.iload 6, 6, 0, 46, vu, []),
  (.invokevirtual 182, 170, 2, 47, vu, [0, 0, 7]),
  (.aload_n 0, 0, 0, 48, vu, []),
  (.getfield 60, 7, 33, 49, vu, [2]),
  (.iload 6, 6, 0, 50, vu, []),
  (.iaload, 0, 0, 51, vu, []),
  (.isub, 0, 0, 52, vu, []),
  (.istore 7, 7, 0, 53, vu, []),
  (.iload_n 1, 1, 0, 54, vu, []),
  (.iload 6, 6, 0, 55, vu, []),
  (.invokestatic 178, 139, 2, 56, vu, [0, 0, 99]),
  (.ifCond .eq 39, 74, 0, 57, vu, []),
  (.iload 7, 7, 0, 58, vu, []),
  (.ifCond .le 34, 74, 0, 59, vu, []),
  (.iload 5, 5, 0, 60, vu, []),
  (.bipush (-9), 0, 0, 61, vi (-9), []),
  (.if_icmp .eq 22, 72, 0, 62, vu, []),
  (.iload 7, 7, 0, 63, vu, []),
  (.aload_n 0, 0, 0, 64, vu, []),
  (.iload 5, 5, 0, 65, vu, []),
  (.invokevirtual 182, 170, 2, 66, vu, [0, 0, 7]),
  (.aload_n 0, 0, 0, 67, vu, []),
  (.getfield 60, 7, 33, 68, vu, [2]),
  (.iload 5, 5, 0, 69, vu, []),
  (.iaload, 0, 0, 70, vu, []),
  (.isub, 0, 0, 71, vu, []),
  (.if_icmp .le 8, 74, 0, 72, vu, []),
  (.iload 6, 6, 0, 73, vu, []),
  (.goto 5, 75, 0, 74, vu, []),
  (.iload 5, 5, 0, 75, vu, []),
  (.istore 5, 5, 0, 76, vu, []),
  (.iinc 6 1, 6, 0, 77, vi 1, []),
  (.goto (-77), 40, 0, 78, vu, []),
  (.iload 5, 5, 0, 79, vu, []),
  (.bipush (-9), 0, 0, 80, vi (-9), []),
  (.if_icmp .eq 14, 89, 0, 81, vu, []),
  (.aload_n 0, 0, 0, 82, vu, []),
  (.getfield 60, 7, 33, 83, vu, [2]),
  (.iload 5, 5, 0, 84, vu, []),
  (.dup2, 0, 0, 85, vu, []),
  (.iaload, 0, 0, 86, vu, []),
  (.iconst 1, 0, 0, 87, vi 1, []),
  (.iadd, 0, 0, 88, vu, []),
  (.iastore, 0, 0, 89, vu, []),
  (.iinc 4 1, 4, 0, 90, vi 1, []),
  (.goto (-114), 33, 0, 91, vu, []),
  (.aload_n 0, 0, 0, 92, vu, []),
  (.iload_n 3, 3, 0, 93, vu, []),
  (.aload_n 0, 0, 0, 94, vu, []),
  (.getfield 150, 7, 10, 95, vu, [0]),
  (.invokevirtual 242, 147, 3, 96, vu, [0, 0, 7]),
  (.pop, 0, 0, 97, vu, []),
  (.aload_n 0, 0, 0, 98, vu, []),
  (.iload_n 1, 1, 0, 99, vu, []),
  (.invokevirtual 200, 171, 2, 100, vu, [0, 0, 7]),
  (.istore 4, 4, 0, 101, vu, []),
  (.iconst 0, 0, 0, 102, vi 0, []),
  (.istore 5, 5, 0, 103, vu, []),
  (.iload 5, 5, 0, 104, vu, []),
  (.aload_n 0, 0, 0, 105, vu, []),
  (.getfield 150, 7, 10, 106, vu, [0]),
  (.if_icmp .ge 35, 124, 0, 107, vu, []),
  (.aload_n 0, 0, 0, 108, vu, []),
  (.iload_n 3, 3, 0, 109, vu, []),
  (.iload 5, 5, 0, 110, vu, []),
  (.aload_n 0, 0, 0, 111, vu, []),
  (.getfield 60, 7, 33, 112, vu, [2]),
  (.iload 5, 5, 0, 113, vu, []),
  (.iaload, 0, 0, 114, vu, []),
  (.invokevirtual 97, 146, 4, 115, vu, [0, 0, 7]),
  (.iload 4, 4, 0, 116, vu, []),
  (.aload_n 0, 0, 0, 117, vu, []),
  (.getfield 60, 7, 33, 118, vu, [2]),
  (.iload 5, 5, 0, 119, vu, []),
  (.iaload, 0, 0, 120, vu, []),
  (.isub, 0, 0, 121, vu, []),
  (.istore 4, 4, 0, 122, vu, []),
  (.iinc 5 1, 5, 0, 123, vi 1, []),
  (.goto (-38), 103, 0, 124, vu, []),
  (.iload 4, 4, 0, 125, vu, []),
  (.ireturn, 0, 0, 126, vu, [])]
noncomputable def p_M_feathers : List Nat := [0, 1, 2, 5, 8, 9, 10, 12, 15, 18, 19, 22, 25, 26, 27, 28, 31, 34, 36, 37, 38, 40, 42, 44, 47, 48, 51, 53, 54, 55, 58, 61, 62, 64, 66, 67, 70, 72, 74, 75, 77, 79, 80, 83, 86, 87, 89, 92, 93, 96, 98, 99, 100, 102, 103, 105, 108, 111, 113, 116, 118, 120, 123, 125, 126, 128, 131, 132, 135, 137, 138, 139, 142, 144, 147, 149, 151, 154, 157, 159, 161, 164, 165, 168, 170, 171, 172, 173, 174, 175, 178, 181, 182, 183, 184, 187, 190, 191, 192, 193, 196, 198, 199, 201, 203, 204, 207, 210, 211, 212, 214, 215, 218, 220, 221, 224, 226, 227, 230, 232, 233, 234, 236, 239, 242, 244]
abbrev n_M_most : Nat := 204
noncomputable def i_M_most : List Ins := [(.aload_n 0, 0, 0, 1, vu, []),
  (.invokevirtual 209, 172, 1, 2, vu, [0, 0, 7]),
  (.istore_n 1, 1, 0, 3, vu, []),
  (.iconst 0, 0, 0, 4, vi 0, []),
  (.istore_n 2, 2, 0, 5, vu, []),
  (.iconst 0, 0, 0, 6, vi 0, []),
  (.istore_n 3, 3, 0, 7, vu, []),
  (.iload_n 3, 3, 0, 8, vu, []),
  (.aload_n 0, 0, 0, 9, vu, []),
  (.invokevirtual 168, 165, 1, 10, vu, [0, 0, 7]),
  (.if_icmp .gt 43, 32, 0, 11, vu, []),
  (.iload_n 3, 3, 0, 12, vu, []),
  (.iload_n 1, 1, 0, 13, vu, []),
  (.iand, 0, 0, 14, vu, []),
  (.ifCond .ne 31, 30, 0, 15, vu, []),
  (.iload_n 3, 3, 0, 16, vu, []),
  (.invokestatic 245, 140, 1, 17, vu, [0, 0, 99]),
  (.iload_n 2, 2, 0, 18, vu, []),
  (.invokestatic 245, 140, 1, 19, vu, [0, 0, 99]),
  (.if_icmp .le 20, 30, 0, 20, vu, []),
  (.aload_n 0, 0, 0, 21, vu, []),
  (.getfield 162, 7, 21, 22, vu, [0]),
  (.aload_n 0, 0, 0, 23, vu, []),
  (.iload_n 3, 3, 0, 24, vu, []),
  (.invokevirtual 200, 171, 2, 25, vu, [0, 0, 7]),
  (.iadd, 0, 0, 26, vu, []),
  (.bipush 60, 0, 0, 27, vi 60, []),
  (.if_icmp .gt 5, 30, 0, 28, vu, []),
  (.iload_n 3, 3, 0, 29, vu, []),
  (.istore_n 2, 2, 0, 30, vu, []),
  (.iinc 3 1, 3, 0, 31, vi 1, []),
  (.goto (-45), 7, 0, 32, vu, []),
  (.aload_n 0, 0, 0, 33, vu, []),
  (.iload_n 2, 2, 0, 34, vu, []),
  (.iload_n 2, 2, 0, 35, vu, []),
  (.invokestatic 245, 140, 1, 36, vu, [0, 0, 99]),
  (.invokevirtual 108, 137, 3, 37, vu, [0, 0, 7]),
  (.ireturn, 0, 0, 38, vu, [])]
noncomputable def p_M_most : List Nat := [0, 1, 4, 5, 6, 7, 8, 9, 10, 11, 14, 17, 18, 19, 20, 23, 24, 27, 28, 31, 34, 35, 38, 39, 40, 43, 44, 46, 49, 50, 51, 54, 57, 58, 59, 60, 63, 66]
abbrev n_M_hours : Nat := 205
noncomputable def i_M_hours : List Ins := [(.aload_n 0, 0, 0, 1, vu, []),
  (.iload_n 1, 1, 0, 2, vu, []),
  (.invokevirtual 197, 166, 2, 3, vu, [0, 0, 7]),
  (.ifCond .eq 14, 9, 0, 4, vu, []),
  (.iload_n 2, 2, 0, 5, vu, []),
  (.iconst 1, 0, 0, 6, vi 1, []),
  (.sipush 200, 0, 0, 7, vi 200, []),
  (.invokestatic 82, 135, 3, 8, vu, [0, 0, 99]),
  (.ifCond .ne 5, 11, 0, 9, vu, []),
  (.iconst (-1), 0, 0, 10, vi (-1), []),
  (.ireturn, 0, 0, 11, vu, []),
  (.aload_n 0, 0, 0, 12, vu, []),
  (.getfield 63, 7, 34, 13, vu, [2]),
  (.iconst 0, 0, 0, 14, vi 0, []),
  (.iconst 0, 0, 0, 15, vi 0, []),
  (.iastore, 0, 0, 16, vu, []),
  (.iconst 1, 0, 0, 17, vi 1, []),
  (.istore_n 3, 3, 0, 18, vu, []),
  (.iload_n 3, 3, 0, 19, vu, []),
  (.iload_n 1, 1, 0, 20, vu, []),
  (.if_icmp .gt 97, 77, 0, 21, vu, []),
  (.aload_n 0, 0, 0, 22, vu, []),
  (.getfield 63, 7, 34, 23, vu, [2]),
  (.iload_n 3, 3, 0, 24, vu, []),
  (.bipush 100, 0, 0, 25, vi 100, []),
  (.iastore, 0, 0, 26, vu, []),
  (.iload_n 3, 3, 0, 27, vu, []),
  (.iload_n 1, 1, 0, 28, vu, []),
  (.iconst (-1), 0, 0, 29, vi (-1), []),
  (.ixor, 0, 0, 30, vu, []),
  (.iand, 0, 0, 31, vu, []),
  (.ifCond .ne 75, 75, 0, 32, vu, []),
  (.iload_n 3, 3, 0, 33, vu, []),
  (.istore 4, 4, 0, 34, vu, []),
  (.iload 4, 4, 0, 35, vu, []),
  (.ifCond .le 67, 75, 0, 36, vu, []),
  (.aload_n 0, 0, 0, 37, vu, []),
  (.getfield 63, 7, 34, 38, vu, [2]),
  (.iload_n 3, 3, 0, 39, vu, []),
  (.iload 4, 4, 0, 40, vu, []),
  (.iconst (-1), 0, 0, 41, vi (-1), []),
  (.ixor, 0, 0, 42, vu, []),
  (.iand, 0, 0, 43, vu, []),
  (.iaload, 0, 0, 44, vu, []),
  (.iconst 1, 0, 0, 45, vi 1, []),
  (.iadd, 0, 0, 46, vu, []),
  (.istore 5, 5, 0, 47, vu, []),
  (.aload_n 0, 0, 0, 48, vu, []),
  (.getfield 63, 7, 34, 49, vu, [2]),
  (.iload_n 3, 3, 0, 50, vu, []),
  (.aload_n 0, 0, 0, 51, vu, []),
  (.iload 4, 4, 0, 52, vu, []),
  (.invokevirtual 200, 171, 2, 53, vu, [0, 0, 7]),
  (.iload_n 2, 2, 0, 54, vu, []),
  (.if_icmp .gt 19, 63, 0, 55, vu, []),
  (.iload 5, 5, 0, 56, vu, []),
  (.aload_n 0, 0, 0, 57, vu, []),
  (.getfield 63, 7, 34, 58, vu, [2]),
  (.iload_n 3, 3, 0, 59, vu, []),
  (.iaload, 0, 0, 60, vu, []),
  (.if_icmp .ge 8, 63, 0, 61, vu, []),
  (.iload 5, 5, 0, 62, vu, []),
  (.goto 9, 67, 0, 63, vu, []),
  (.aload_n 0, 0, 0, 64, vu, []),
  (.getfield 63, 7, 34, 65, vu, [2]),
  (.iload_n 3, 3, 0, 66, vu, []),
  (.iaload, 0, 0, 67, vu, []),
  (.iastore, 0, 0, 68, vu, []),
  (.iload 4, 4, 0, 69, vu, []),
  (.iconst 1, 0, 0, 70, vi 1, []),
  (.isub, 0, 0, 71, vu, []),
  (.iload_n 3, 3, 0, 72, vu, []),
  (.iand, 0, 0, 73, vu, []),
  (.istore 4, 4, 0, 74, vu, []),
  (.goto (-66), 34, 0, 75, vu, []),
  (.iinc 3 1, 3, 0, 76, vi 1, []),
  (.goto (-96), 18, 0, 77, vu, []),
  (.aload_n 0, 0, 0, 78, vu, []),
  (.getfield 63, 7, 34, 79, vu, [2]),
  (.iload_n 1, 1, 0, 80, vu, []),
  (.iaload, 0, 0, 81, vu, []),
  (.bipush 100, 0, 0, 82, vi 100, []),
  (.if_icmp .lt 6, 85, 0, 83, vu, []),
  (.bipush (-9), 0, 0, 84, vi (-9), []),
  (.ireturn, 0, 0, 85, vu, []),
  (.iconst 0, 0, 0, 86, vi 0, []),
  (.istore_n 3, 3, 0, 87, vu, []),
  (.iload_n 1, 1, 0, 88, vu, []),
  (.istore 4, 4, 0, 89, vu, []),
  (.iload 4, 4, 0, 90, vu, []),
  (.ifCond .le 53, 122, 0, 91, vu, []),
  (.aload_n 0, 0, 0, 92, vu, []),
  (.iload 4, 4, 0, 93, vu, []),
  (.invokevirtual 200, 171, 2, 94, vu, [0, 0, 7]),
  (.iload_n 2, 2, 0, 95, vu, []),
  (.if_icmp .gt 30, 113, 0, 96, vu, []),
  (.aload_n 0, 0, 0, 97, vu, []),
  (.getfield 63, 7, 34, 98, vu, [2]),
  (.iload_n 1, 1, 0, 99, vu, []),
  (.iload 4, 4, 0, 100, vu, []),
  (.iconst (-1), 0, 0, 101, vi (-1), []),
  (.ixor, 0, 0, 102, vu, []),
  (.iand, 0, 0, 103, vu, []),
  (.iaload, 0, 0, 104, vu, []),
  (.aload_n 0, 0, 0, 105, vu, []),
  (.getfield 63, 7, 34, 106, vu, [2]),
  (.iload_n 1, 1, 0, 107, vu, []),
  (.iaload, 0, 0, 108, vu, []),
  (.iconst 1, 0, 0, 109, vi 1, []),
  (.isub, 0, 0, 110, vu, []),
  (.if_icmp .ne 8, 113, 0, 111, vu, []),
  (.iload 4, 4, 0, 112, vu, []),
  (.goto 4, 114, 0, 113, vu, []),
  (.iload_n 3, 3, 0, 114, vu, []),
  (.istore_n 3, 3, 0, 115, vu, []),
  (.iload 4, 4, 0, 116, vu, []),
  (.iconst 1, 0, 0, 117, vi 1, []),
  (.isub, 0, 0, 118, vu, []),
  (.iload_n 1, 1, 0, 119, vu, []),
  (.iand, 0, 0, 120, vu, []),
  (.istore 4, 4, 0, 121, vu, []),
  (.goto (-52), 89, 0, 122, vu, []),
  (.aload_n 0, 0, 0, 123, vu, []),
  (.iload_n 3, 3, 0, 124, vu, []),
  (.aload_n 0, 0, 0, 125, vu, []),
  (.getfield 63, 7, 34, 126, vu, [2]),
  (.iload_n 1, 1, 0, 127, vu, []),
  (.iaload, 0, 0, 128, vu, []),
  (.invokevirtual 108, 137, 3, 129, vu, [0, 0, 7]),
  (.ireturn, 0, 0, 130, vu, [])]
noncomputable def p_M_hours : List Nat := [0, 1, 2, 5, 8, 9, 10, 13, 16, 19, 20, 21, 22, 25, 26, 27, 28, 29, 30, 31, 32, 35, 36, 39, 40, 42, 43, 44, 45, 46, 47, 48, 51, 52, 54, 56, 59, 60, 63, 64, 66, 67, 68, 69, 70, 71, 72, 74, 75, 78, 79, 80, 82, 85, 86, 89, 91, 92, 95, 96, 97, 100, 102, 105, 106, 109, 110, 111, 112, 114, 115, 116, 117, 118, 120, 123, 126, 129, 130, 133, 134, 135, 137, 140, 142, 143, 144, 145, 146, 148, 150, 153, 154, 156, 159, 160, 163, 164, 167, 168, 170, 171, 172, 173, 174, 175, 178, 179, 180, 181, 182, 185, 187, 190, 191, 192, 194, 195, 196, 197, 198, 200, 203, 204, 205, 206, 209, 210, 211, 214]
abbrev n_M_year : Nat := 206
noncomputable def i_M_year : List Ins := [(.iload_n 1, 1, 0, 1, vu, []),
  (.invokestatic 86, 141, 1, 2, vu, [0, 0, 99]),
  (.ifCond .ne 5, 5, 0, 3, vu, []),
  (.iconst (-1), 0, 0, 4, vi (-1), []),
  (.ireturn, 0, 0, 5, vu, []),
  (.aload_n 0, 0, 0, 6, vu, []),
  (.getfield 150, 7, 10, 7, vu, [0]),
  (.ifCond .ne 6, 10, 0, 8, vu, []),
  (.bipush (-4), 0, 0, 9, vi (-4), []),
  (.ireturn, 0, 0, 10, vu, []),
  (.aload_n 0, 0, 0, 11, vu, []),
  (.iload_n 1, 1, 0, 12, vu, []),
  (.invokevirtual 101, 143, 2, 13, vu, [0, 0, 7]),
  (.istore_n 2, 2, 0, 14, vu, []),
  (.iload_n 2, 2, 0, 15, vu, []),
  (.ifCond .ge 5, 18, 0, 16, vu, []),
  (.iload_n 2, 2, 0, 17, vu, []),
  (.ireturn, 0, 0, 18, vu, []),
  (.iconst 0, 0, 0, 19, vi 0, []),
  (.istore_n 3, 3, 0, 20, vu, []),
  (.iload_n 3, 3, 0, 21, vu, []),
  (.aload_n 0, 0, 0, 22, vu, []),
  (.getfield 17, 7, 5, 23, vu, [2]),
  (.iload_n 1, 1, 0, 24, vu, []),
  (.iaload, 0, 0, 25, vu, []),
  (.if_icmp .ge 28, 39, 0, 26, vu, []),
  (.aload_n 0, 0, 0, 27, vu, []),
  (.aload_n 0, 0, 0, 28, vu, []),
  (.iload_n 1, 1, 0, 29, vu, []),
  (.iload_n 3, 3, 0, 30, vu, []),
  (.invokevirtual 104, 145, 3, 31, vu, [0, 0, 7]),
  (.invokevirtual 197, 166, 2, 32, vu, [0, 0, 7]),
  (.ifCond .ne 9, 37, 0, 33, vu, []),
  (.aload_n 0, 0, 0, 34, vu, []),
  (.iconst 3, 0, 0, 35, vi 3, []),
  (.invokevirtual 90, 136, 2, 36, vu, [0, 0, 7]),
  (.ireturn, 0, 0, 37, vu, []),
  (.iinc 3 1, 3, 0, 38, vi 1, []),
  (.goto (-32), 20, 0, 39, vu, []),
  (.iconst 0, 0, 0, 40, vi 0, []),
  (.istore_n 3, 3, 0, 41, vu, []),
  (.iconst 0, 0, 0, 42, vi 0, []),
  (.istore 4, 4, 0, 43, vu, []),
  (.iload 4, 4, 0, 44, vu, []),
  (.aload_n 0, 0, 0, 45, vu, []),
  (.getfield 17, 7, 5, 46, vu, [2]),
  (.iload_n 1, 1, 0, 47, vu, []),
  (.iaload, 0, 0, 48, vu, []),
  (.if_icmp .ge 60, 81, 0, 49, vu, []),
  (.iload_n 3, 3, 0, 50, vu, []),
  (.aload_n 0, 0, 0, 51, vu, []),
  (.aload_n 0, 0, 0, 52, vu, []),
  (.iload_n 1, 1, 0, 53, vu, []),
  (.iload 4, 4, 0, 54, vu, []),
  (.invokevirtual 104, 145, 3, 55, vu, [0, 0, 7]),
  (.invokevirtual 200, 171, 2, 56, vu, [0, 0, 7]),
  (.iadd, 0, 0, 57, vu, []),
  (.bipush 60, 0, 0, 58, vi 60, []),
  (.if_icmp .gt 42, 81, 0, 59, vu, []),
  (.iload_n 3, 3, 0, 60, vu, []),
  (.aload_n 0, 0, 0, 61, vu, []),
  (.aload_n 0, 0, 0, 62, vu, []),
  (.iload_n 1, 1, 0, 63, vu, []),
  (.iload 4, 4, 0, 64, vu, []),
  (.invokevirtual 104, 145, 3, 65, vu, [0, 0, 7]),
  (.invokevirtual 200, 171, 2, 66, vu, [0, 0, 7]),
  (.iadd, 0, 0, 67, vu, []),
  (.istore_n 3, 3, 0, 68, vu, []),
  (.iload_n 3, 3, 0, 69, vu, []),
  (.iload_n 3, 3, 0, 70, vu, []),
  (.aload_n 0, 0, 0, 71, vu, []),
  (.getfield 156, 7, 12, 72, vu, [0]),
  (.if_icmp .ge 7, 75, 0, 73, vu, []),
  (.iload_n 3, 3, 0, 74, vu, []),
  (.goto 7, 77, 0, 75, vu, []),
  (.aload_n 0, 0, 0, 76, vu, []),
  (.getfield 156, 7, 12, 77, vu, [0]),
  (.isub, 0, 0, 78, vu, []),
  (.istore_n 3, 3, 0, 79, vu, []),
  (.iinc 4 1, 4, 0, 80, vi 1, []),
  (.goto (-65), 43, 0, 81, vu, []),
  (.aload_n 0, 0, 0, 82, vu, []),
  (.iload_n 3, 3, 0, 83, vu, []),
  (.iload 4, 4, 0, 84, vu, []),
  (.invokevirtual 108, 137, 3, 85, vu, [0, 0, 7]),
  (.ireturn, 0, 0, 86, vu, [])]
noncomputable def p_M_year : List Nat := [0, 1, 4, 7, 8, 9, 10, 13, 16, 18, 19, 20, 21, 24, 25, 26, 29, 30, 31, 32, 33, 34, 35, 38, 39, 40, 43, 44, 45, 46, 47, 50, 53, 56, 57, 58, 61, 62, 65, 68, 69, 70, 71, 73, 75, 76, 79, 80, 81, 84, 85, 86, 87, 88, 90, 93, 96, 97, 99, 102, 103, 104, 105, 106, 108, 111, 114, 115, 116, 117, 118, 119, 122, 125, 126, 129, 130, 133, 134, 135, 138, 141, 142, 143, 145, 148]
abbrev n_M_debt : Nat := 207
noncomputable def i_M_debt : List Ins := [(.aload_n 0, 0, 0, 1, vu, []),
  (.iload_n 1, 1, 0, 2, vu, []),
  (.invokevirtual 185, 164, 2, 3, vu, [0, 0, 7]),
  (.ifCond .eq 26, 16, 0, 4, vu, []),
  (.aload_n 0, 0, 0, 5, vu, []),
  (.iload_n 2, 2, 0, 6, vu, []),
  (.invokevirtual 185, 164, 2, 7, vu, [0, 0, 7]),
  (.ifCond .eq 18, 16, 0, 8, vu, []),
  (.iload_n 1, 1, 0, 9, vu, []),
  (.iload_n 2, 2, 0, 10, vu, []),
  (.if_icmp .eq 13, 16, 0, 11, vu, []),
  (.iload_n 3, 3, 0, 12, vu, []),
  (.iconst 0, 0, 0, 13, vi 0, []),
  (.bipush 99, 0, 0, 14, vi 99, []),
  (.invokestatic 82, 135, 3, 15, vu, [0, 0, 99]),
  (.ifCond .ne 5, 18, 0, 16, vu, []),
  (.iconst (-1), 0, 0, 17, vi (-1), []),
  (.ireturn, 0, 0, 18, vu, []),
  (.aload_n 0, 0, 0, 19, vu, []),
  (.getfield 66, 7, 35, 20, vu, [2]),
  (.bipush 8, 0, 0, 21, vi 8, []),
  (.iload_n 1, 1, 0, 22, vu, []),
  (.imul, 0, 0, 23, vu, []),
  (.iload_n 2, 2, 0, 24, vu, []),
  (.iadd, 0, 0, 25, vu, []),
  (.iaload, 0, 0, 26, vu, []),
  (.istore 4, 4, 0, 27, vu, []),
  (.aload_n 0, 0, 0, 28, vu, []),
  (.getfield 66, 7, 35, 29, vu, [2]),
  (.bipush 8, 0, 0, 30, vi 8, []),
  (.iload_n 1, 1, 0, 31, vu, []),
  (.imul, 0, 0, 32, vu, []),
  (.iload_n 2, 2, 0, 33, vu, []),
  (.iadd, 0, 0, 34, vu, []),
  (.iload_n 3, 3, 0, 35, vu, []),
  (.iastore, 0, 0, 36, vu, []),
  (.iload 4, 4, 0, 37, vu, []),
  (.ireturn, 0, 0, 38, vu, [])]
noncomputable def p_M_debt : List Nat := [0, 1, 2, 5, 8, 9, 10, 13, 16, 17, 18, 21, 22, 23, 25, 28, 31, 32, 33, 34, 37, 39, 40, 41, 42, 43, 44, 46, 47, 50, 52, 53, 54, 55, 56, 57, 58, 60]
abbrev n_M_balanceOf : Nat := 208
noncomputable def i_M_balanceOf : List Ins := [(.iconst 0, 0, 0, 1, vi 0, []),
  (.istore_n 2, 2, 0, 2, vu, []),
  (.iconst 0, 0, 0, 3, vi 0, []),
  (.istore_n 3, 3, 0, 4, vu, []),
  (.iload_n 3, 3, 0, 5, vu, []),
  (.aload_n 0, 0, 0, 6, vu, []),
  (.getfield 150, 7, 10, 7, vu, [0]),
  (.if_icmp .ge 35, 30, 0, 8, vu, []),
  (.iload_n 2, 2, 0, 9, vu, []),
  (.aload_n 0, 0, 0, 10, vu, []),
  (.getfield 66, 7, 35, 11, vu, [2]),
  (.bipush 8, 0, 0, 12, vi 8, []),
  (.iload_n 3, 3, 0, 13, vu, []),
  (.imul, 0, 0, 14, vu, []),
  (.iload_n 1, 1, 0, 15, vu, []),
  (.iadd, 0, 0, 16, vu, []),
  (.iaload, 0, 0, 17, vu, []),
  (.aload_n 0, 0, 0, 18, vu, []),
  (.getfield 66, 7, 35, 19, vu, [2]),
  (.bipush 8, 0, 0, 20, vi 8, []),
  (.iload_n 1, 1, 0, 21, vu, []),
  (.imul, 0, 0, 22, vu, []),
  (.iload_n 3, 3, 0, 23, vu, []),
  (.iadd, 0, 0, 24, vu, []),
  (.iaload, 0, 0, 25, vu, []),
  (.isub, 0, 0, 26, vu, []),
  (.iadd, 0, 0, 27, vu, []),
  (.istore_n 2, 2, 0, 28, vu, []),
  (.iinc 3 1, 3, 0, 29, vi 1, []),
  (.goto (-37), 4, 0, 30, vu, []),
  (.iload_n 2, 2, 0, 31, vu, []),
  (.ireturn, 0, 0, 32, vu, [])]
noncomputable def p_M_balanceOf : List Nat := [0, 1, 2, 3, 4, 5, 6, 9, 12, 13, 14, 17, 19, 20, 21, 22, 23, 24, 25, 28, 30, 31, 32, 33, 34, 35, 36, 37, 38, 41, 44, 45]
abbrev n_M_balance : Nat := 209
noncomputable def i_M_balance : List Ins := [(.aload_n 0, 0, 0, 1, vu, []),
  (.iload_n 1, 1, 0, 2, vu, []),
  (.invokevirtual 185, 164, 2, 3, vu, [0, 0, 7]),
  (.ifCond .eq 16, 11, 0, 4, vu, []),
  (.aload_n 0, 0, 0, 5, vu, []),
  (.aload_n 0, 0, 0, 6, vu, []),
  (.iload_n 1, 1, 0, 7, vu, []),
  (.invokevirtual 248, 208, 2, 8, vu, [0, 0, 7]),
  (.iconst 1, 0, 0, 9, vi 1, []),
  (.invokevirtual 108, 137, 3, 10, vu, [0, 0, 7]),
  (.goto 4, 12, 0, 11, vu, []),
  (.iconst (-1), 0, 0, 12, vi (-1), []),
  (.ireturn, 0, 0, 13, vu, [])]
noncomputable def p_M_balance : List Nat := [0, 1, 2, 5, 8, 9, 10, 11, 14, 15, 18, 21, 22]
abbrev n_M_payments : Nat := 210
noncomputable def i_M_payments : List Ins := [(.iconst 0, 0, 0, 1, vi 0, []),
  (.istore_n 1, 1, 0, 2, vu, []),
  (.iconst 0, 0, 0, 3, vi 0, []),
  (.istore_n 2, 2, 0, 4, vu, []),
  (.iload_n 2, 2, 0, 5, vu, []),
  (.aload_n 0, 0, 0, 6, vu, []),
  (.getfield 150, 7, 10, 7, vu, [0]),
  (.if_icmp .ge 27, 22, 0, 8, vu, []),
  (.iload_n 1, 1, 0, 9, vu, []),
  (.aload_n 0, 0, 0, 10, vu, []),
  (.iload_n 2, 2, 0, 11, vu, []),
  (.invokevirtual 248, 208, 2, 12, vu, [0, 0, 7]),
  (.ifCond .eq 9, 17, 0, 13, vu, []),
  (.iconst 1, 0, 0, 14, vi 1, []),
  (.iload_n 2, 2, 0, 15, vu, []),
  (.ishl, 0, 0, 16, vu, []),
  (.goto 4, 18, 0, 17, vu, []),
  (.iconst 0, 0, 0, 18, vi 0, []),
  (.ior, 0, 0, 19, vu, []),
  (.istore_n 1, 1, 0, 20, vu, []),
  (.iinc 2 1, 2, 0, 21, vi 1, []),
  (.goto (-29), 4, 0, 22, vu, []),
  (.aload_n 0, 0, 0, 23, vu, []),
  (.getfield 69, 7, 36, 24, vu, [2]),
  (.iconst 0, 0, 0, 25, vi 0, []),
  (.iconst 0, 0, 0, 26, vi 0, []),
  (.iastore, 0, 0, 27, vu, []),
  (.iconst 1, 0, 0, 28, vi 1, []),
  (.istore_n 2, 2, 0, 29, vu, []),
  (.iload_n 2, 2, 0, 30, vu, []),
  (.aload_n 0, 0, 0, 31, vu, []),
  (.invokevirtual 168, 165, 1, 32, vu, [0, 0, 7]),
  (.if_icmp .gt 99, 86, 0, 33, vu, []),
  (.iconst 0, 0, 0, 34, vi 0, []),
  (.istore_n 3, 3, 0, 35, vu, []),
  (.iconst 0, 0, 0, 36, vi 0, []),
  (.istore 4, 4, 0, 37, vu, []),
  (.iconst 0, 0, 0, 38, vi 0, []),
  (.istore 5, 5, 0, 39, vu, []),
  (.iload 5, 5, 0, 40, vu, []),
  (.aload_n 0, 0, 0, 41, vu, []),
  (.getfield 150, 7, 10, 42, vu, [0]),
  (.if_icmp .ge 58, 73, 0, 43, vu, []),
  (.iload_n 2, 2, 0, 44, vu, []),
  (.iload 5, 5, 0, 45, vu, []),
  (.invokestatic 178, 139, 2, 46, vu, [0, 0, 99]),
  (.ifCond .eq 43, 71, 0, 47, vu, []),
  (.iload_n 3, 3, 0, 48, vu, []),
  (.aload_n 0, 0, 0, 49, vu, []),
  (.iload 5, 5, 0, 50, vu, []),
  (.invokevirtual 248, 208, 2, 51, vu, [0, 0, 7]),
  (.iadd, 0, 0, 52, vu, []),
  (.istore_n 3, 3, 0, 53, vu, []),
  (.aload_n 0, 0, 0, 54, vu, []),
  (.getfield 69, 7, 36, 55, vu, [2]),
  (.iload_n 2, 2, 0, 56, vu, []),
  (.iconst 1, 0, 0, 57, vi 1, []),
  (.iload 5, 5, 0, 58, vu, []),
  (.ishl, 0, 0, 59, vu, []),
  (.iconst (-1), 0, 0, 60, vi (-1), []),
  (.ixor, 0, 0, 61, vu, []),
  (.iand, 0, 0, 62, vu, []),
  (.iaload, 0, 0, 63, vu, []),
  (.istore 6, 6, 0, 64, vu, []),
  (.iload 6, 6, 0, 65, vu, []),
  (.iload 4, 4, 0, 66, vu, []),
  (.if_icmp .le 8, 69, 0, 67, vu, []),
  (.iload 6, 6, 0, 68, vu, []),
  (.goto 5, 70, 0, 69, vu, []),
  (.iload 4, 4, 0, 70, vu, []),
  (.istore 4, 4, 0, 71, vu, []),
  (.iinc 5 1, 5, 0, 72, vi 1, []),
  (.goto (-61), 39, 0, 73, vu, []),
  (.aload_n 0, 0, 0, 74, vu, []),
  (.getfield 69, 7, 36, 75, vu, [2]),
  (.iload_n 2, 2, 0, 76, vu, []),
  (.iload 4, 4, 0, 77, vu, []),
  (.iload_n 3, 3, 0, 78, vu, []),
  (.ifCond .ne 7, 81, 0, 79, vu, []),
  (.iconst 1, 0, 0, 80, vi 1, []),
  (.goto 4, 82, 0, 81, vu, []),
  (.iconst 0, 0, 0, 82, vi 0, []),
  (.iadd, 0, 0, 83, vu, []),
  (.iastore, 0, 0, 84, vu, []),
  (.iinc 2 1, 2, 0, 85, vi 1, []),
  (.goto (-101), 29, 0, 86, vu, []),
  (.iload_n 1, 1, 0, 87, vu, []),
  (.invokestatic 245, 140, 1, 88, vu, [0, 0, 99]),
  (.aload_n 0, 0, 0, 89, vu, []),
  (.getfield 69, 7, 36, 90, vu, [2]),
  (.iload_n 1, 1, 0, 91, vu, []),
  (.iaload, 0, 0, 92, vu, []),
  (.isub, 0, 0, 93, vu, []),
  (.ireturn, 0, 0, 94, vu, [])]
noncomputable def p_M_payments : List Nat := [0, 1, 2, 3, 4, 5, 6, 9, 12, 13, 14, 15, 18, 21, 22, 23, 24, 27, 28, 29, 30, 33, 36, 37, 40, 41, 42, 43, 44, 45, 46, 47, 50, 53, 54, 55, 56, 58, 59, 61, 63, 64, 67, 70, 71, 73, 76, 79, 80, 81, 83, 86, 87, 88, 89, 92, 93, 94, 96, 97, 98, 99, 100, 101, 103, 105, 107, 110, 112, 115, 117, 119, 122, 125, 126, 129, 130, 132, 133, 136, 137, 140, 141, 142, 143, 146, 149, 150, 153, 154, 157, 158, 159, 160]
abbrev n_M_net : Nat := 211
noncomputable def i_M_net : List Ins := [(.iconst 0, 0, 0, 1, vi 0, []),
  (.istore_n 1, 1, 0, 2, vu, []),
  (.iconst 0, 0, 0, 3, vi 0, []),
  (.istore_n 2, 2, 0, 4, vu, []),
  (.iload_n 2, 2, 0, 5, vu, []),
  (.aload_n 0, 0, 0, 6, vu, []),
  (.getfield 150, 7, 10, 7, vu, [0]),
  (.if_icmp .ge 108, 73, 0, 8, vu, []),
  (.iload_n 2, 2, 0, 9, vu, []),
  (.iconst 1, 0, 0, 10, vi 1, []),
  (.iadd, 0, 0, 11, vu, []),
  (.istore_n 3, 3, 0, 12, vu, []),
  (.iload_n 3, 3, 0, 13, vu, []),
  (.aload_n 0, 0, 0, 14, vu, []),
  (.getfield 150, 7, 10, 15, vu, [0]),
  (.if_icmp .ge 90, 71, 0, 16, vu, []),
  (.aload_n 0, 0, 0, 17, vu, []),
  (.getfield 66, 7, 35, 18, vu, [2]),
  (.bipush 8, 0, 0, 19, vi 8, []),
  (.iload_n 2, 2, 0, 20, vu, []),
  (.imul, 0, 0, 21, vu, []),
  (.iload_n 3, 3, 0, 22, vu, []),
  (.iadd, 0, 0, 23, vu, []),
  (.iaload, 0, 0, 24, vu, []),
  (.istore 4, 4, 0, 25, vu, []),
  (.aload_n 0, 0, 0, 26, vu, []),
  (.getfield 66, 7, 35, 27, vu, [2]),
  (.bipush 8, 0, 0, 28, vi 8, []),
  (.iload_n 3, 3, 0, 29, vu, []),
  (.imul, 0, 0, 30, vu, []),
  (.iload_n 2, 2, 0, 31, vu, []),
  (.iadd, 0, 0, 32, vu, []),
  (.iaload, 0, 0, 33, vu, []),
  (.istore 5, 5, 0, 34, vu, []),
  (.iload 4, 4, 0, 35, vu, []),
  (.iload 5, 5, 0, 36, vu, []),
  (.if_icmp .ge 8, 39, 0, 37, vu, []),
  (.iload 4, 4, 0, 38, vu, []),
  (.goto 5, 40, 0, 39, vu, []),
  (.iload 5, 5, 0, 40, vu, []),
  (.istore 6, 6, 0, 41, vu, []),
  (.aload_n 0, 0, 0, 42, vu, []),
  (.getfield 66, 7, 35, 43, vu, [2]),
  (.bipush 8, 0, 0, 44, vi 8, []),
  (.iload_n 2, 2, 0, 45, vu, []),
  (.imul, 0, 0, 46, vu, []),
  (.iload_n 3, 3, 0, 47, vu, []),
  (.iadd, 0, 0, 48, vu, []),
  (.iload 4, 4, 0, 49, vu, []),
  (.iload 6, 6, 0, 50, vu, []),
  (.isub, 0, 0, 51, vu, []),
  (.iastore, 0, 0, 52, vu, []),
  (.aload_n 0, 0, 0, 53, vu, []),
  (.getfield 66, 7, 35, 54, vu, [2]),
  (.bipush 8, 0, 0, 55, vi 8, []),
  (.iload_n 3, 3, 0, 56, vu, []),
  (.imul, 0, 0, 57, vu, []),
  (.iload_n 2, 2, 0, 58, vu, []),
  (.iadd, 0, 0, 59, vu, []),
  (.iload 5, 5, 0, 60, vu, []),
  (.iload 6, 6, 0, 61, vu, []),
  (.isub, 0, 0, 62, vu, []),
  (.iastore, 0, 0, 63, vu, []),
  (.iload_n 1, 1, 0, 64, vu, []),
  (.iconst 2, 0, 0, 65, vi 2, []),
  (.iload 6, 6, 0, 66, vu, []),
  (.imul, 0, 0, 67, vu, []),
  (.iadd, 0, 0, 68, vu, []),
  (.istore_n 1, 1, 0, 69, vu, []),
  (.iinc 3 1, 3, 0, 70, vi 1, []),
  (.goto (-92), 12, 0, 71, vu, []),
  (.iinc 2 1, 2, 0, 72, vi 1, []),
  (.goto (-110), 4, 0, 73, vu, []),
  (.iload_n 1, 1, 0, 74, vu, []),
  (.ireturn, 0, 0, 75, vu, [])]
noncomputable def p_M_net : List Nat := [0, 1, 2, 3, 4, 5, 6, 9, 12, 13, 14, 15, 16, 17, 18, 21, 24, 25, 28, 30, 31, 32, 33, 34, 35, 37, 38, 41, 43, 44, 45, 46, 47, 48, 50, 52, 54, 57, 59, 62, 64, 66, 67, 70, 72, 73, 74, 75, 76, 78, 80, 81, 82, 83, 86, 88, 89, 90, 91, 92, 94, 96, 97, 98, 99, 100, 102, 103, 104, 105, 108, 111, 114, 117, 118]
abbrev n_M_crickets : Nat := 212
noncomputable def i_M_crickets : List Ins := [(.iload_n 1, 1, 0, 1, vu, []),
  (.iconst 1, 0, 0, 2, vi 1, []),
  (.bipush 60, 0, 0, 3, vi 60, []),
  (.invokestatic 82, 135, 3, 4, vu, [0, 0, 99]),
  (.ifCond .eq 13, 10, 0, 5, vu, []),
  (.iload_n 2, 2, 0, 6, vu, []),
  (.iconst 1, 0, 0, 7, vi 1, []),
  (.ldc 251, 0, 0, 8, vi 2147483646, []),
  (.invokestatic 82, 135, 3, 9, vu, [0, 0, 99]),
  (.ifCond .ne 5, 12, 0, 10, vu, []),
  (.iconst (-1), 0, 0, 11, vi (-1), []),
  (.ireturn, 0, 0, 12, vu, []),
  (.aload_n 0, 0, 0, 13, vu, []),
  (.getfield 150, 7, 10, 14, vu, [0]),
  (.ifCond .ne 6, 17, 0, 15, vu, []),
  (.bipush (-4), 0, 0, 16, vi (-4), []),
  (.ireturn, 0, 0, 17, vu, []),
  (.iload_n 2, 2, 0, 18, vu, []),
  (.i2l, 0, 0, 19, vu, []),
  (.lstore_n 3, 3, 0, 20, vu, []),
  (.iconst 0, 0, 0, 21, vi 0, []),
  (.istore 5, 5, 0, 22, vu, []),
  (.iconst 0, 0, 0, 23, vi 0, []),
  (.istore 6, 6, 0, 24, vu, []),
  (.iconst (-1), 0, 0, 25, vi (-1), []),
  (.istore 7, 7, 0, 26, vu, []),
  (.iconst 0, 0, 0, 27, vi 0, []),
  (.istore 8, 8, 0, 28, vu, []),
  (.iload 8, 8, 0, 29, vu, []),
  (.iload_n 1, 1, 0, 30, vu, []),
  (.if_icmp .ge 117, 89, 0, 31, vu, []),
  (.iconst 0, 0, 0, 32, vi 0, []),
  (.istore 9, 9, 0, 33, vu, []),
  (.iconst 0, 0, 0, 34, vi 0, []),
  (.istore 10, 10, 0, 35, vu, []),
  (.iload 10, 10, 0, 36, vu, []),
  (.aload_n 0, 0, 0, 37, vu, []),
  (.getfield 150, 7, 10, 38, vu, [0]),
  (.if_icmp .ge 57, 69, 0, 39, vu, []),
  (.aload_n 0, 0, 0, 40, vu, []),
  (.getfield 32, 7, 13, 41, vu, [2]),
  (.iload 10, 10, 0, 42, vu, []),
  (.iaload, 0, 0, 43, vu, []),
  (.iconst 4, 0, 0, 44, vi 4, []),
  (.if_icmp .eq 40, 67, 0, 45, vu, []),
  (.ldc2_w 252, 0, 0, 46, vl 48271, []),
  (.lload_n 3, 3, 0, 47, vu, []),
  (.lmul, 0, 0, 48, vu, []),
  (.ldc2_w 254, 0, 0, 49, vl 2147483647, []),
  (.lrem, 0, 0, 50, vu, []),
  (.lstore_n 3, 3, 0, 51, vu, []),
  (.iload 9, 9, 0, 52, vu, []),
  (.lload_n 3, 3, 0, 53, vu, []),
  (.ldc2_w 256, 0, 0, 54, vl 12, []),
  (.lrem, 0, 0, 55, vu, []),
  (.aload_n 0, 0, 0, 56, vu, []),
  (.getfield 35, 7, 14, 57, vu, [2]),
  (.iload 10, 10, 0, 58, vu, []),
  (.iaload, 0, 0, 59, vu, []),
  (.i2l, 0, 0, 60, vu, []),
  (.lcmp, 0, 0, 61, vu, []),
  (.ifCond .ge 7, 64, 0, 62, vu, []),
  (.iconst 1, 0, 0, 63, vi 1, []),
  (.goto 4, 65, 0, 64, vu, []),
  (.iconst 0, 0, 0, 65, vi 0, []),
  (.iadd, 0, 0, 66, vu, []),
  (.istore 9, 9, 0, 67, vu, []),
  (.iinc 10 1, 10, 0, 68, vi 1, []),
  (.goto (-60), 35, 0, 69, vu, []),
  (.iload 5, 5, 0, 70, vu, []),
  (.iload 9, 9, 0, 71, vu, []),
  (.iadd, 0, 0, 72, vu, []),
  (.istore 5, 5, 0, 73, vu, []),
  (.iload 9, 9, 0, 74, vu, []),
  (.iload 7, 7, 0, 75, vu, []),
  (.if_icmp .le 8, 78, 0, 76, vu, []),
  (.iload 8, 8, 0, 77, vu, []),
  (.goto 5, 79, 0, 78, vu, []),
  (.iload 6, 6, 0, 79, vu, []),
  (.istore 6, 6, 0, 80, vu, []),
  (.iload 9, 9, 0, 81, vu, []),
  (.iload 7, 7, 0, 82, vu, []),
  (.if_icmp .le 8, 85, 0, 83, vu, []),
  (.iload 9, 9, 0, 84, vu, []),
  (.goto 5, 86, 0, 85, vu, []),
  (.iload 7, 7, 0, 86, vu, []),
  (.istore 7, 7, 0, 87, vu, []),
  (.iinc 8 1, 8, 0, 88, vi 1, []),
  (.goto (-117), 28, 0, 89, vu, []),
  (.aload_n 0, 0, 0, 90, vu, []),
  (.iload 6, 6, 0, 91, vu, []),
  (.iload 5, 5, 0, 92, vu, []),
  (.invokevirtual 108, 137, 3, 93, vu, [0, 0, 7]),
  (.ireturn, 0, 0, 94, vu, [])]
noncomputable def p_M_crickets : List Nat := [0, 1, 2, 4, 7, 10, 11, 12, 14, 17, 20, 21, 22, 23, 26, 29, 31, 32, 33, 34, 35, 36, 38, 39, 41, 42, 44, 45, 47, 49, 50, 53, 54, 56, 57, 59, 61, 62, 65, 68, 69, 72, 74, 75, 76, 79, 82, 83, 84, 87, 88, 89, 91, 92, 95, 96, 97, 100, 102, 103, 104, 105, 108, 109, 112, 113, 114, 116, 119, 122, 124, 126, 127, 129, 131, 133, 136, 138, 141, 143, 145, 147, 149, 152, 154, 157, 159, 161, 164, 167, 168, 170, 172, 175]
abbrev n_M_sings : Nat := 213
noncomputable def i_M_sings : List Ins := [(.aload_n 0, 0, 0, 1, vu, []),
  (.getfield 150, 7, 10, 2, vu, [0]),
  (.ifCond .ne 6, 5, 0, 3, vu, []),
  (.bipush (-4), 0, 0, 4, vi (-4), []),
  (.ireturn, 0, 0, 5, vu, []),
  (.lconst 1, 0, 0, 6, vl 1, []),
  (.lstore_n 1, 1, 0, 7, vu, []),
  (.lconst 1, 0, 0, 8, vl 1, []),
  (.lstore_n 3, 3, 0, 9, vu, []),
  (.iconst 0, 0, 0, 10, vi 0, []),
  (.istore 5, 5, 0, 11, vu, []),
  (.iload 5, 5, 0, 12, vu, []),
  (.aload_n 0, 0, 0, 13, vu, []),
  (.getfield 150, 7, 10, 14, vu, [0]),
  (.if_icmp .ge 40, 37, 0, 15, vu, []),
  (.aload_n 0, 0, 0, 16, vu, []),
  (.getfield 32, 7, 13, 17, vu, [2]),
  (.iload 5, 5, 0, 18, vu, []),
  (.iaload, 0, 0, 19, vu, []),
  (.iconst 4, 0, 0, 20, vi 4, []),
  (.if_icmp .eq 23, 35, 0, 21, vu, []),
  (.lload_n 1, 1, 0, 22, vu, []),
  (.bipush 12, 0, 0, 23, vi 12, []),
  (.aload_n 0, 0, 0, 24, vu, []),
  (.getfield 35, 7, 14, 25, vu, [2]),
  (.iload 5, 5, 0, 26, vu, []),
  (.iaload, 0, 0, 27, vu, []),
  (.isub, 0, 0, 28, vu, []),
  (.i2l, 0, 0, 29, vu, []),
  (.lmul, 0, 0, 30, vu, []),
  (.lstore_n 1, 1, 0, 31, vu, []),
  (.lload_n 3, 3, 0, 32, vu, []),
  (.ldc2_w 256, 0, 0, 33, vl 12, []),
  (.lmul, 0, 0, 34, vu, []),
  (.lstore_n 3, 3, 0, 35, vu, []),
  (.iinc 5 1, 5, 0, 36, vi 1, []),
  (.goto (-43), 11, 0, 37, vu, []),
  (.aload_n 0, 0, 0, 38, vu, []),
  (.lload_n 3, 3, 0, 39, vu, []),
  (.lload_n 1, 1, 0, 40, vu, []),
  (.lsub, 0, 0, 41, vu, []),
  (.lload_n 3, 3, 0, 42, vu, []),
  (.iconst 1, 0, 0, 43, vi 1, []),
  (.invokevirtual 231, 138, 4, 44, vu, [0, 0, 7]),
  (.ireturn, 0, 0, 45, vu, [])]
noncomputable def p_M_sings : List Nat := [0, 1, 4, 7, 9, 10, 11, 12, 13, 14, 15, 17, 19, 20, 23, 26, 27, 30, 32, 33, 34, 37, 38, 40, 41, 44, 46, 47, 48, 49, 50, 51, 52, 55, 56, 57, 60, 63, 64, 65, 66, 67, 68, 69, 72]
abbrev n_M_asked : Nat := 214
noncomputable def i_M_asked : List Ins := [(.aload_n 0, 0, 0, 1, vu, []),
  (.getfield 76, 7, 2, 2, vu, [0]),
  (.ireturn, 0, 0, 3, vu, [])]
noncomputable def p_M_asked : List Nat := [0, 1, 4]
abbrev n_M_upper : Nat := 215
noncomputable def i_M_upper : List Ins := [(.aload_n 0, 0, 0, 1, vu, []),
  (.getfield 79, 7, 3, 2, vu, [1]),
  (.lreturn, 0, 0, 3, vu, [])]
noncomputable def p_M_upper : List Nat := [0, 1, 4]
abbrev n_M_lower : Nat := 216
noncomputable def i_M_lower : List Ins := [(.aload_n 0, 0, 0, 1, vu, []),
  (.getfield 13, 7, 4, 2, vu, [1]),
  (.lreturn, 0, 0, 3, vu, [])]
noncomputable def p_M_lower : List Nat := [0, 1, 4]
abbrev n_M_counts : Nat := 217
noncomputable def i_M_counts : List Ins := [(.iconst 0, 0, 0, 1, vi 0, []),
  (.istore_n 2, 2, 0, 2, vu, []),
  (.iconst 0, 0, 0, 3, vi 0, []),
  (.istore_n 3, 3, 0, 4, vu, []),
  (.iload_n 3, 3, 0, 5, vu, []),
  (.bipush 8, 0, 0, 6, vi 8, []),
  (.if_icmp .ge 148, 86, 0, 7, vu, []),
  (.iload_n 2, 2, 0, 8, vu, []),
  (.iload_n 1, 1, 0, 9, vu, []),
  (.iconst 2, 0, 0, 10, vi 2, []),
  (.if_icmp .ne 20, 20, 0, 11, vu, []),
  (.iload_n 3, 3, 0, 12, vu, []),
  (.aload_n 0, 0, 0, 13, vu, []),
  (.getfield 150, 7, 10, 14, vu, [0]),
  (.if_icmp .ge 12, 20, 0, 15, vu, []),
  (.aload_n 0, 0, 0, 16, vu, []),
  (.iload_n 3, 3, 0, 17, vu, []),
  (.iconst 2, 0, 0, 18, vi 2, []),
  (.invokevirtual 191, 167, 3, 19, vu, [0, 0, 7]),
  (.ifCond .ne 112, 79, 0, 20, vu, []),
  (.iload_n 1, 1, 0, 21, vu, []),
  (.iconst 3, 0, 0, 22, vi 3, []),
  (.if_icmp .ne 20, 32, 0, 23, vu, []),
  (.iload_n 3, 3, 0, 24, vu, []),
  (.aload_n 0, 0, 0, 25, vu, []),
  (.getfield 150, 7, 10, 26, vu, [0]),
  (.if_icmp .ge 12, 32, 0, 27, vu, []),
  (.aload_n 0, 0, 0, 28, vu, []),
  (.iload_n 3, 3, 0, 29, vu, []),
  (.iconst 3, 0, 0, 30, vi 3, []),
  (.invokevirtual 191, 167, 3, 31, vu, [0, 0, 7]),
  (.ifCond .ne 90, 79, 0, 32, vu, []),
  (.iload_n 1, 1, 0, 33, vu, []),
  (.iconst 4, 0, 0, 34, vi 4, []),
  (.if_icmp .ne 19, 43, 0, 35, vu, []),
  (.iload_n 3, 3, 0, 36, vu, []),
  (.aload_n 0, 0, 0, 37, vu, []),
  (.getfield 150, 7, 10, 38, vu, [0]),
  (.if_icmp .ge 11, 43, 0, 39, vu, []),
  (.aload_n 0, 0, 0, 40, vu, []),
  (.iload_n 3, 3, 0, 41, vu, []),
  (.invokevirtual 203, 184, 2, 42, vu, [0, 0, 7]),
  (.ifCond .ne 69, 79, 0, 43, vu, []),
  (.iload_n 1, 1, 0, 44, vu, []),
  (.iconst 5, 0, 0, 45, vi 5, []),
  (.if_icmp .ne 23, 57, 0, 46, vu, []),
  (.iload_n 3, 3, 0, 47, vu, []),
  (.iconst 3, 0, 0, 48, vi 3, []),
  (.if_icmp .ge 18, 57, 0, 49, vu, []),
  (.aload_n 0, 0, 0, 50, vu, []),
  (.getfield 50, 7, 26, 51, vu, [2]),
  (.sipush 580, 0, 0, 52, vi 580, []),
  (.iload_n 3, 3, 0, 53, vu, []),
  (.imul, 0, 0, 54, vu, []),
  (.iaload, 0, 0, 55, vu, []),
  (.bipush (-9), 0, 0, 56, vi (-9), []),
  (.if_icmp .ne 44, 79, 0, 57, vu, []),
  (.iload_n 1, 1, 0, 58, vu, []),
  (.bipush 6, 0, 0, 59, vi 6, []),
  (.if_icmp .ne 18, 68, 0, 60, vu, []),
  (.iload_n 3, 3, 0, 61, vu, []),
  (.bipush 6, 0, 0, 62, vi 6, []),
  (.if_icmp .ge 12, 68, 0, 63, vu, []),
  (.aload_n 0, 0, 0, 64, vu, []),
  (.getfield 17, 7, 5, 65, vu, [2]),
  (.iload_n 3, 3, 0, 66, vu, []),
  (.iaload, 0, 0, 67, vu, []),
  (.ifCond .ge 23, 79, 0, 68, vu, []),
  (.iload_n 1, 1, 0, 69, vu, []),
  (.bipush 7, 0, 0, 70, vi 7, []),
  (.if_icmp .ne 21, 81, 0, 71, vu, []),
  (.iload_n 3, 3, 0, 72, vu, []),
  (.iconst 4, 0, 0, 73, vi 4, []),
  (.if_icmp .ge 16, 81, 0, 74, vu, []),
  (.aload_n 0, 0, 0, 75, vu, []),
  (.getfield 26, 7, 8, 76, vu, [2]),
  (.iload_n 3, 3, 0, 77, vu, []),
  (.iaload, 0, 0, 78, vu, []),
  (.ifCond .lt 7, 81, 0, 79, vu, []),
  (.iconst 1, 0, 0, 80, vi 1, []),
  (.goto 4, 82, 0, 81, vu, []),
  (.iconst 0, 0, 0, 82, vi 0, []),
  (.iadd, 0, 0, 83, vu, []),
  (.istore_n 2, 2, 0, 84, vu, []),
  (.iinc 3 1, 3, 0, 85, vi 1, []),
  (.goto (-148), 4, 0, 86, vu, []),
  (.iload_n 1, 1, 0, 87, vu, []),
  (.ifCond .ne 10, 91, 0, 88, vu, []),
  (.aload_n 0, 0, 0, 89, vu, []),
  (.getfield 150, 7, 10, 90, vu, [0]),
  (.goto 16, 98, 0, 91, vu, []),
  (.iload_n 1, 1, 0, 92, vu, []),
  (.iconst 1, 0, 0, 93, vi 1, []),
  (.if_icmp .ne 10, 97, 0, 94, vu, []),
  (.aload_n 0, 0, 0, 95, vu, []),
  (.getfield 159, 7, 20, 96, vu, [0]),
  (.goto 4, 98, 0, 97, vu, []),
  (.iload_n 2, 2, 0, 98, vu, []),
  (.ireturn, 0, 0, 99, vu, [])]
noncomputable def p_M_counts : List Nat := [0, 1, 2, 3, 4, 5, 7, 10, 11, 12, 13, 16, 17, 18, 21, 24, 25, 26, 27, 30, 33, 34, 35, 38, 39, 40, 43, 46, 47, 48, 49, 52, 55, 56, 57, 60, 61, 62, 65, 68, 69, 70, 73, 76, 77, 78, 81, 82, 83, 86, 87, 90, 93, 94, 95, 96, 98, 101, 102, 104, 107, 108, 110, 113, 114, 117, 118, 119, 122, 123, 125, 128, 129, 130, 133, 134, 137, 138, 139, 142, 143, 146, 147, 148, 149, 152, 155, 156, 159, 160, 163, 166, 167, 168, 171, 172, 175, 178, 179]
abbrev n_M_count : Nat := 218
noncomputable def i_M_count : List Ins := [(.iload_n 1, 1, 0, 1, vu, []),
  (.iconst 0, 0, 0, 2, vi 0, []),
  (.bipush 7, 0, 0, 3, vi 7, []),
  (.invokestatic 82, 135, 3, 4, vu, [0, 0, 99]),
  (.ifCond .eq 11, 9, 0, 5, vu, []),
  (.aload_n 0, 0, 0, 6, vu, []),
  (.iload_n 1, 1, 0, 7, vu, []),
  (.invokevirtual 258, 217, 2, 8, vu, [0, 0, 7]),
  (.goto 4, 10, 0, 9, vu, []),
  (.iconst (-1), 0, 0, 10, vi (-1), []),
  (.ireturn, 0, 0, 11, vu, [])]
noncomputable def p_M_count : List Nat := [0, 1, 2, 4, 7, 10, 11, 12, 15, 18, 19]
abbrev n_M_finding : Nat := 219
noncomputable def i_M_finding : List Ins := [(.aload_n 0, 0, 0, 1, vu, []),
  (.getfield 72, 7, 0, 2, vu, [0]),
  (.ireturn, 0, 0, 3, vu, [])]
noncomputable def p_M_finding : List Nat := [0, 1, 4]
abbrev n_M_findings : Nat := 220
noncomputable def i_M_findings : List Ins := [(.iload_n 1, 1, 0, 1, vu, []),
  (.iconst 1, 0, 0, 2, vi 1, []),
  (.iconst 5, 0, 0, 3, vi 5, []),
  (.invokestatic 82, 135, 3, 4, vu, [0, 0, 99]),
  (.ifCond .eq 12, 10, 0, 5, vu, []),
  (.aload_n 0, 0, 0, 6, vu, []),
  (.getfield 7, 7, 1, 7, vu, [2]),
  (.iload_n 1, 1, 0, 8, vu, []),
  (.iaload, 0, 0, 9, vu, []),
  (.goto 4, 11, 0, 10, vu, []),
  (.iconst (-1), 0, 0, 11, vi (-1), []),
  (.ireturn, 0, 0, 12, vu, [])]
noncomputable def p_M_findings : List Nat := [0, 1, 2, 3, 6, 9, 10, 13, 14, 15, 18, 19]
abbrev n_M_mix : Nat := 221
noncomputable def i_M_mix : List Ins := [(.aload_n 0, 0, 0, 1, vu, []),
  (.ldc2_w 261, 0, 0, 2, vl 31, []),
  (.aload_n 0, 0, 0, 3, vu, []),
  (.getfield 263, 7, 37, 4, vu, [1]),
  (.lmul, 0, 0, 5, vu, []),
  (.iload_n 1, 1, 0, 6, vu, []),
  (.i2l, 0, 0, 7, vu, []),
  (.ladd, 0, 0, 8, vu, []),
  (.putfield 263, 7, 37, 9, vu, [1]),
  (.return_, 0, 0, 10, vu, [])]
noncomputable def p_M_mix : List Nat := [0, 1, 4, 5, 8, 9, 10, 11, 12, 15]
abbrev n_M_mixStreet : Nat := 222
noncomputable def i_M_mixStreet : List Ins := [(.aload_n 0, 0, 0, 1, vu, []),
  (.aload_n 0, 0, 0, 2, vu, []),
  (.getfield 153, 7, 11, 3, vu, [0]),
  (.invokevirtual 266, 221, 2, 4, vu, [0, 0, 7]),
  (.aload_n 0, 0, 0, 5, vu, []),
  (.aload_n 0, 0, 0, 6, vu, []),
  (.getfield 156, 7, 12, 7, vu, [0]),
  (.invokevirtual 266, 221, 2, 8, vu, [0, 0, 7]),
  (.aload_n 0, 0, 0, 9, vu, []),
  (.aload_n 0, 0, 0, 10, vu, []),
  (.getfield 162, 7, 21, 11, vu, [0]),
  (.invokevirtual 266, 221, 2, 12, vu, [0, 0, 7]),
  (.aload_n 0, 0, 0, 13, vu, []),
  (.aload_n 0, 0, 0, 14, vu, []),
  (.getfield 165, 7, 22, 15, vu, [0]),
  (.invokevirtual 266, 221, 2, 16, vu, [0, 0, 7]),
  (.iconst 0, 0, 0, 17, vi 0, []),
  (.istore_n 1, 1, 0, 18, vu, []),
  (.iload_n 1, 1, 0, 19, vu, []),
  (.aload_n 0, 0, 0, 20, vu, []),
  (.getfield 150, 7, 10, 21, vu, [0]),
  (.if_icmp .ge 83, 67, 0, 22, vu, []),
  (.iconst 0, 0, 0, 23, vi 0, []),
  (.istore_n 2, 2, 0, 24, vu, []),
  (.iload_n 2, 2, 0, 25, vu, []),
  (.iconst 4, 0, 0, 26, vi 4, []),
  (.if_icmp .gt 19, 35, 0, 27, vu, []),
  (.aload_n 0, 0, 0, 28, vu, []),
  (.aload_n 0, 0, 0, 29, vu, []),
  (.iload_n 1, 1, 0, 30, vu, []),
  (.iload_n 2, 2, 0, 31, vu, []),
  (.invokevirtual 188, 173, 3, 32, vu, [0, 0, 7]),
  (.invokevirtual 266, 221, 2, 33, vu, [0, 0, 7]),
  (.iinc 2 1, 2, 0, 34, vi 1, []),
  (.goto (-18), 24, 0, 35, vu, []),
  (.aload_n 0, 0, 0, 36, vu, []),
  (.aload_n 0, 0, 0, 37, vu, []),
  (.getfield 41, 7, 23, 38, vu, [2]),
  (.iload_n 1, 1, 0, 39, vu, []),
  (.iaload, 0, 0, 40, vu, []),
  (.invokevirtual 266, 221, 2, 41, vu, [0, 0, 7]),
  (.aload_n 0, 0, 0, 42, vu, []),
  (.aload_n 0, 0, 0, 43, vu, []),
  (.getfield 44, 7, 24, 44, vu, [2]),
  (.iload_n 1, 1, 0, 45, vu, []),
  (.iaload, 0, 0, 46, vu, []),
  (.invokevirtual 266, 221, 2, 47, vu, [0, 0, 7]),
  (.iconst 0, 0, 0, 48, vi 0, []),
  (.istore_n 2, 2, 0, 49, vu, []),
  (.iload_n 2, 2, 0, 50, vu, []),
  (.aload_n 0, 0, 0, 51, vu, []),
  (.getfield 150, 7, 10, 52, vu, [0]),
  (.if_icmp .ge 24, 65, 0, 53, vu, []),
  (.aload_n 0, 0, 0, 54, vu, []),
  (.aload_n 0, 0, 0, 55, vu, []),
  (.getfield 66, 7, 35, 56, vu, [2]),
  (.bipush 8, 0, 0, 57, vi 8, []),
  (.iload_n 1, 1, 0, 58, vu, []),
  (.imul, 0, 0, 59, vu, []),
  (.iload_n 2, 2, 0, 60, vu, []),
  (.iadd, 0, 0, 61, vu, []),
  (.iaload, 0, 0, 62, vu, []),
  (.invokevirtual 266, 221, 2, 63, vu, [0, 0, 7]),
  (.iinc 2 1, 2, 0, 64, vi 1, []),
  (.goto (-26), 49, 0, 65, vu, []),
  (.iinc 1 1, 1, 0, 66, vi 1, []),
  (.goto (-85), 18, 0, 67, vu, []),
  (.iconst 0, 0, 0, 68, vi 0, []),
  (.istore_n 1, 1, 0, 69, vu, []),
  (.iload_n 1, 1, 0, 70, vu, []),
  (.aload_n 0, 0, 0, 71, vu, []),
  (.getfield 159, 7, 20, 72, vu, [0]),
  (.if_icmp .ge 22, 83, 0, 73, vu, []),
  (.aload_n 0, 0, 0, 74, vu, []),
  (.aload_n 0, 0, 0, 75, vu, []),
  (.getfield 47, 7, 25, 76, vu, [2]),
  (.bipush 12, 0, 0, 77, vi 12, []),
  (.iload_n 1, 1, 0, 78, vu, []),
  (.imul, 0, 0, 79, vu, []),
  (.iaload, 0, 0, 80, vu, []),
  (.invokevirtual 266, 221, 2, 81, vu, [0, 0, 7]),
  (.iinc 1 1, 1, 0, 82, vi 1, []),
  (.goto (-24), 69, 0, 83, vu, []),
  (.iconst 0, 0, 0, 84, vi 0, []),
  (.istore_n 1, 1, 0, 85, vu, []),
  (.iload_n 1, 1, 0, 86, vu, []),
  (.iconst 3, 0, 0, 87, vi 3, []),
  (.if_icmp .ge 42, 108, 0, 88, vu, []),
  (.aload_n 0, 0, 0, 89, vu, []),
  (.aload_n 0, 0, 0, 90, vu, []),
  (.getfield 50, 7, 26, 91, vu, [2]),
  (.sipush 580, 0, 0, 92, vi 580, []),
  (.iload_n 1, 1, 0, 93, vu, []),
  (.imul, 0, 0, 94, vu, []),
  (.iaload, 0, 0, 95, vu, []),
  (.bipush (-9), 0, 0, 96, vi (-9), []),
  (.if_icmp .ne 7, 99, 0, 97, vu, []),
  (.iconst (-1), 0, 0, 98, vi (-1), []),
  (.goto 13, 105, 0, 99, vu, []),
  (.aload_n 0, 0, 0, 100, vu, []),
  (.getfield 50, 7, 26, 101, vu, [2]),
  (.sipush 580, 0, 0, 102, vi 580, []),
  (.iload_n 1, 1, 0, 103, vu, []),
  (.imul, 0, 0, 104, vu, []),
  (.iaload, 0, 0, 105, vu, []),
  (.invokevirtual 266, 221, 2, 106, vu, [0, 0, 7]),
  (.iinc 1 1, 1, 0, 107, vi 1, []),
  (.goto (-41), 85, 0, 108, vu, []),
  (.return_, 0, 0, 109, vu, [])]
noncomputable def p_M_mixStreet : List Nat := [0, 1, 2, 5, 8, 9, 10, 13, 16, 17, 18, 21, 24, 25, 26, 29, 32, 33, 34, 35, 36, 39, 42, 43, 44, 45, 46, 49, 50, 51, 52, 53, 56, 59, 62, 65, 66, 67, 70, 71, 72, 75, 76, 77, 80, 81, 82, 85, 86, 87, 88, 89, 92, 95, 96, 97, 100, 102, 103, 104, 105, 106, 107, 110, 113, 116, 119, 122, 123, 124, 125, 126, 129, 132, 133, 134, 137, 139, 140, 141, 142, 145, 148, 151, 152, 153, 154, 155, 158, 159, 160, 163, 166, 167, 168, 169, 171, 174, 175, 178, 179, 182, 185, 186, 187, 188, 191, 194, 197]
abbrev n_M_digest : Nat := 223
noncomputable def i_M_digest : List Ins := [(.aload_n 0, 0, 0, 1, vu, []),
  (.ldc2_w 269, 0, 0, 2, vl 17, []),
  (.putfield 263, 7, 37, 3, vu, [1]),
  (.iconst 0, 0, 0, 4, vi 0, []),
  (.istore_n 1, 1, 0, 5, vu, []),
  (.iload_n 1, 1, 0, 6, vu, []),
  (.bipush 7, 0, 0, 7, vi 7, []),
  (.if_icmp .gt 18, 15, 0, 8, vu, []),
  (.aload_n 0, 0, 0, 9, vu, []),
  (.aload_n 0, 0, 0, 10, vu, []),
  (.iload_n 1, 1, 0, 11, vu, []),
  (.invokevirtual 258, 217, 2, 12, vu, [0, 0, 7]),
  (.invokevirtual 266, 221, 2, 13, vu, [0, 0, 7]),
  (.iinc 1 1, 1, 0, 14, vi 1, []),
  (.goto (-18), 5, 0, 15, vu, []),
  (.aload_n 0, 0, 0, 16, vu, []),
  (.invokevirtual 271, 222, 1, 17, vu, [0, 0, 7]),
  (.iconst 0, 0, 0, 18, vi 0, []),
  (.istore_n 1, 1, 0, 19, vu, []),
  (.iload_n 1, 1, 0, 20, vu, []),
  (.bipush 6, 0, 0, 21, vi 6, []),
  (.if_icmp .ge 60, 53, 0, 22, vu, []),
  (.aload_n 0, 0, 0, 23, vu, []),
  (.aload_n 0, 0, 0, 24, vu, []),
  (.getfield 17, 7, 5, 25, vu, [2]),
  (.iload_n 1, 1, 0, 26, vu, []),
  (.iaload, 0, 0, 27, vu, []),
  (.ifCond .ge 7, 30, 0, 28, vu, []),
  (.iconst (-1), 0, 0, 29, vi (-1), []),
  (.goto 9, 34, 0, 30, vu, []),
  (.aload_n 0, 0, 0, 31, vu, []),
  (.getfield 17, 7, 5, 32, vu, [2]),
  (.iload_n 1, 1, 0, 33, vu, []),
  (.iaload, 0, 0, 34, vu, []),
  (.invokevirtual 266, 221, 2, 35, vu, [0, 0, 7]),
  (.iconst 0, 0, 0, 36, vi 0, []),
  (.istore_n 2, 2, 0, 37, vu, []),
  (.iload_n 2, 2, 0, 38, vu, []),
  (.aload_n 0, 0, 0, 39, vu, []),
  (.getfield 17, 7, 5, 40, vu, [2]),
  (.iload_n 1, 1, 0, 41, vu, []),
  (.iaload, 0, 0, 42, vu, []),
  (.if_icmp .ge 19, 51, 0, 43, vu, []),
  (.aload_n 0, 0, 0, 44, vu, []),
  (.aload_n 0, 0, 0, 45, vu, []),
  (.iload_n 1, 1, 0, 46, vu, []),
  (.iload_n 2, 2, 0, 47, vu, []),
  (.invokevirtual 104, 145, 3, 48, vu, [0, 0, 7]),
  (.invokevirtual 266, 221, 2, 49, vu, [0, 0, 7]),
  (.iinc 2 1, 2, 0, 50, vi 1, []),
  (.goto (-23), 37, 0, 51, vu, []),
  (.iinc 1 1, 1, 0, 52, vi 1, []),
  (.goto (-60), 19, 0, 53, vu, []),
  (.iconst 0, 0, 0, 54, vi 0, []),
  (.istore_n 1, 1, 0, 55, vu, []),
  (.iload_n 1, 1, 0, 56, vu, []),
  (.iconst 4, 0, 0, 57, vi 4, []),
  (.if_icmp .ge 65, 93, 0, 58, vu, []),
  (.aload_n 0, 0, 0, 59, vu, []),
  (.aload_n 0, 0, 0, 60, vu, []),
  (.getfield 26, 7, 8, 61, vu, [2]),
  (.iload_n 1, 1, 0, 62, vu, []),
  (.iaload, 0, 0, 63, vu, []),
  (.ifCond .ge 7, 66, 0, 64, vu, []),
  (.iconst (-1), 0, 0, 65, vi (-1), []),
  (.goto 9, 70, 0, 66, vu, []),
  (.aload_n 0, 0, 0, 67, vu, []),
  (.getfield 26, 7, 8, 68, vu, [2]),
  (.iload_n 1, 1, 0, 69, vu, []),
  (.iaload, 0, 0, 70, vu, []),
  (.invokevirtual 266, 221, 2, 71, vu, [0, 0, 7]),
  (.iconst 0, 0, 0, 72, vi 0, []),
  (.istore_n 2, 2, 0, 73, vu, []),
  (.iload_n 2, 2, 0, 74, vu, []),
  (.aload_n 0, 0, 0, 75, vu, []),
  (.getfield 26, 7, 8, 76, vu, [2]),
  (.iload_n 1, 1, 0, 77, vu, []),
  (.iaload, 0, 0, 78, vu, []),
  (.if_icmp .ge 24, 91, 0, 79, vu, []),
  (.aload_n 0, 0, 0, 80, vu, []),
  (.aload_n 0, 0, 0, 81, vu, []),
  (.getfield 29, 7, 9, 82, vu, [2]),
  (.bipush 80, 0, 0, 83, vi 80, []),
  (.iload_n 1, 1, 0, 84, vu, []),
  (.imul, 0, 0, 85, vu, []),
  (.iload_n 2, 2, 0, 86, vu, []),
  (.iadd, 0, 0, 87, vu, []),
  (.iaload, 0, 0, 88, vu, []),
  (.invokevirtual 266, 221, 2, 89, vu, [0, 0, 7]),
  (.iinc 2 1, 2, 0, 90, vi 1, []),
  (.goto (-28), 73, 0, 91, vu, []),
  (.iinc 1 1, 1, 0, 92, vi 1, []),
  (.goto (-64), 55, 0, 93, vu, []),
  (.aload_n 0, 0, 0, 94, vu, []),
  (.getfield 263, 7, 37, 95, vu, [1]),
  (.lreturn, 0, 0, 96, vu, [])]
noncomputable def p_M_digest : List Nat := [0, 1, 4, 7, 8, 9, 10, 12, 15, 16, 17, 18, 21, 24, 27, 30, 31, 34, 35, 36, 37, 39, 42, 43, 44, 47, 48, 49, 52, 53, 56, 57, 60, 61, 62, 65, 66, 67, 68, 69, 72, 73, 74, 77, 78, 79, 80, 81, 84, 87, 90, 93, 96, 99, 100, 101, 102, 103, 106, 107, 108, 111, 112, 113, 116, 117, 120, 121, 124, 125, 126, 129, 130, 131, 132, 133, 136, 137, 138, 141, 142, 143, 146, 148, 149, 150, 151, 152, 153, 156, 159, 162, 165, 168, 169, 172]
abbrev n_J_bitCount : Nat := 224
noncomputable def i_J_bitCount : List Ins := [(.iload_n 0, 0, 0, 1, vu, []),
  (.iload_n 0, 0, 0, 2, vu, []),
  (.iconst 1, 0, 0, 3, vi 1, []),
  (.iushr, 0, 0, 4, vu, []),
  (.ldc_w 265, 0, 0, 5, vi 1431655765, []),
  (.iand, 0, 0, 6, vu, []),
  (.isub, 0, 0, 7, vu, []),
  (.istore_n 0, 0, 0, 8, vu, []),
  (.iload_n 0, 0, 0, 9, vu, []),
  (.ldc_w 266, 0, 0, 10, vi 858993459, []),
  (.iand, 0, 0, 11, vu, []),
  (.iload_n 0, 0, 0, 12, vu, []),
  (.iconst 2, 0, 0, 13, vi 2, []),
  (.iushr, 0, 0, 14, vu, []),
  (.ldc_w 266, 0, 0, 15, vi 858993459, []),
  (.iand, 0, 0, 16, vu, []),
  (.iadd, 0, 0, 17, vu, []),
  (.istore_n 0, 0, 0, 18, vu, []),
  (.iload_n 0, 0, 0, 19, vu, []),
  (.iload_n 0, 0, 0, 20, vu, []),
  (.iconst 4, 0, 0, 21, vi 4, []),
  (.iushr, 0, 0, 22, vu, []),
  (.iadd, 0, 0, 23, vu, []),
  (.ldc_w 267, 0, 0, 24, vi 252645135, []),
  (.iand, 0, 0, 25, vu, []),
  (.istore_n 0, 0, 0, 26, vu, []),
  (.iload_n 0, 0, 0, 27, vu, []),
  (.iload_n 0, 0, 0, 28, vu, []),
  (.bipush 8, 0, 0, 29, vi 8, []),
  (.iushr, 0, 0, 30, vu, []),
  (.iadd, 0, 0, 31, vu, []),
  (.istore_n 0, 0, 0, 32, vu, []),
  (.iload_n 0, 0, 0, 33, vu, []),
  (.iload_n 0, 0, 0, 34, vu, []),
  (.bipush 16, 0, 0, 35, vi 16, []),
  (.iushr, 0, 0, 36, vu, []),
  (.iadd, 0, 0, 37, vu, []),
  (.istore_n 0, 0, 0, 38, vu, []),
  (.iload_n 0, 0, 0, 39, vu, []),
  (.bipush 63, 0, 0, 40, vi 63, []),
  (.iand, 0, 0, 41, vu, []),
  (.ireturn, 0, 0, 42, vu, [])]
noncomputable def p_J_bitCount : List Nat := [0, 1, 2, 3, 4, 7, 8, 9, 10, 11, 14, 15, 16, 17, 18, 21, 22, 23, 24, 25, 26, 27, 28, 29, 32, 33, 34, 35, 36, 38, 39, 40, 41, 42, 43, 45, 46, 47, 48, 49, 51, 52]
abbrev n_L_law : Nat := 225
noncomputable def i_L_law : List Ins := [(.new 7, 0, 0, 1, vu, [9]),
  (.dup, 0, 0, 2, vu, []),
  (.invokespecial 9, 70, 1, 3, vu, [429, 4371, 98]),
  (.astore_n 1, 1, 0, 4, vu, []),
  (.new 10, 1, 0, 5, vu, [38]),
  (.dup, 0, 0, 6, vu, []),
  (.invokespecial 12, 134, 1, 7, vu, [19, 3652, 98]),
  (.astore_n 2, 2, 0, 8, vu, []),
  (.iconst 0, 0, 0, 9, vi 0, []),
  (.istore_n 3, 3, 0, 10, vu, []),
  (.iload_n 3, 3, 0, 11, vu, []),
  (.aload_n 0, 0, 0, 12, vu, []),
  (.arraylength, 0, 0, 13, vu, []),
  (.bipush 6, 0, 0, 14, vi 6, []),
  (.isub, 0, 0, 15, vu, []),
  (.if_icmp .gt 1466, 970, 0, 16, vu, []),
  (.aload_n 0, 0, 0, 17, vu, []),
  (.iload_n 3, 3, 0, 18, vu, []),
  (.iaload, 0, 0, 19, vu, []),
  (.bipush 63, 0, 0, 20, vi 63, []),
  (.iand, 0, 0, 21, vu, []),
  (.tableswitch 1451 0 48 #[211, 244, 287, 320, 343, 406, 429, 462, 505, 528, 551, 584, 617, 640, 673, 696, 719, 732, 755, 778, 801, 834, 847, 870, 893, 916, 939, 972, 1005, 1028, 1051, 1064, 1087, 1130, 1143, 1176, 1199, 1242, 1265, 1278, 1291, 1324, 1337, 1350, 1364, 1378, 1401, 1414, 1437], 968, 0, 22, vu, [22, 49, 86, 113, 130, 187, 204, 231, 268, 285, 302, 329, 356, 373, 400, 417, 434, 441, 458, 475, 492, 519, 526, 543, 560, 577, 594, 621, 648, 665, 682, 689, 706, 743, 750, 777, 794, 831, 848, 855, 862, 889, 896, 903, 911, 919, 936, 943, 960]),
  (.aload_n 1, 1, 0, 23, vu, []),
  (.aload_n 0, 0, 0, 24, vu, []),
  (.iload_n 3, 3, 0, 25, vu, []),
  (.iconst 1, 0, 0, 26, vi 1, []),
  (.iadd, 0, 0, 27, vu, []),
  (.iaload, 0, 0, 28, vu, []),
  (.aload_n 0, 0, 0, 29, vu, []),
  (.iload_n 3, 3, 0, 30, vu, []),
  (.iconst 2, 0, 0, 31, vi 2, []),
  (.iadd, 0, 0, 32, vu, []),
  (.iaload, 0, 0, 33, vu, []),
  (.invokevirtual 13, 71, 3, 34, vu, [0, 0, 6]),
  (.aload_n 2, 2, 0, 35, vu, []),
  (.aload_n 0, 0, 0, 36, vu, []),
  (.iload_n 3, 3, 0, 37, vu, []),
  (.iconst 1, 0, 0, 38, vi 1, []),
  (.iadd, 0, 0, 39, vu, []),
  (.iaload, 0, 0, 40, vu, []),
  (.aload_n 0, 0, 0, 41, vu, []),
  (.iload_n 3, 3, 0, 42, vu, []),
  (.iconst 2, 0, 0, 43, vi 2, []),
  (.iadd, 0, 0, 44, vu, []),
  (.iaload, 0, 0, 45, vu, []),
  (.invokevirtual 17, 147, 3, 46, vu, [0, 0, 7]),
  (.if_icmp .eq 1212, 968, 0, 47, vu, []),
  (.iconst 0, 0, 0, 48, vi 0, []),
  (.ireturn, 1, 0, 49, vu, []),
  (.aload_n 1, 1, 0, 50, vu, []),
  (.aload_n 0, 0, 0, 51, vu, []),
  (.iload_n 3, 3, 0, 52, vu, []),
  (.iconst 1, 0, 0, 53, vi 1, []),
  (.iadd, 0, 0, 54, vu, []),
  (.iaload, 0, 0, 55, vu, []),
  (.aload_n 0, 0, 0, 56, vu, []),
  (.iload_n 3, 3, 0, 57, vu, []),
  (.iconst 2, 0, 0, 58, vi 2, []),
  (.iadd, 0, 0, 59, vu, []),
  (.iaload, 0, 0, 60, vu, []),
  (.aload_n 0, 0, 0, 61, vu, []),
  (.iload_n 3, 3, 0, 62, vu, []),
  (.iconst 3, 0, 0, 63, vi 3, []),
  (.iadd, 0, 0, 64, vu, []),
  (.iaload, 0, 0, 65, vu, []),
  (.invokevirtual 18, 72, 4, 66, vu, [0, 0, 6]),
  (.aload_n 2, 2, 0, 67, vu, []),
  (.aload_n 0, 0, 0, 68, vu, []),
  (.iload_n 3, 3, 0, 69, vu, []),
  (.iconst 1, 0, 0, 70, vi 1, []),
  (.iadd, 0, 0, 71, vu, []),
  (.iaload, 0, 0, 72, vu, []),
  (.aload_n 0, 0, 0, 73, vu, []),
  (.iload_n 3, 3, 0, 74, vu, []),
  (.iconst 2, 0, 0, 75, vi 2, []),
  (.iadd, 0, 0, 76, vu, []),
  (.iaload, 0, 0, 77, vu, []),
  (.aload_n 0, 0, 0, 78, vu, []),
  (.iload_n 3, 3, 0, 79, vu, []),
  (.iconst 3, 0, 0, 80, vi 3, []),
  (.iadd, 0, 0, 81, vu, []),
  (.iaload, 0, 0, 82, vu, []),
  (.invokevirtual 22, 149, 4, 83, vu, [0, 0, 7]),
  (.if_icmp .eq 1169, 968, 0, 84, vu, []),
  (.iconst 0, 0, 0, 85, vi 0, []),
  (.ireturn, 1, 0, 86, vu, []),
  (.aload_n 1, 1, 0, 87, vu, []),
  (.aload_n 0, 0, 0, 88, vu, []),
  (.iload_n 3, 3, 0, 89, vu, []),
  (.iconst 1, 0, 0, 90, vi 1, []),
  (.iadd, 0, 0, 91, vu, []),
  (.iaload, 0, 0, 92, vu, []),
  (.aload_n 0, 0, 0, 93, vu, []),
  (.iload_n 3, 3, 0, 94, vu, []),
  (.iconst 2, 0, 0, 95, vi 2, []),
  (.iadd, 0, 0, 96, vu, []),
  (.iaload, 0, 0, 97, vu, []),
  (.invokevirtual 23, 73, 3, 98, vu, [0, 0, 6]),
  (.aload_n 2, 2, 0, 99, vu, []),
  (.aload_n 0, 0, 0, 100, vu, []),
  (.iload_n 3, 3, 0, 101, vu, []),
  (.iconst 1, 0, 0, 102, vi 1, []),
  (.iadd, 0, 0, 103, vu, []),
  (.iaload, 0, 0, 104, vu, []),
  (.aload_n 0, 0, 0, 105, vu, []),
  (.iload_n 3, 3, 0, 106, vu, []),
  (.iconst 2, 0, 0, 107, vi 2, []),
  (.iadd, 0, 0, 108, vu, []),
  (.iaload, 0, 0, 109, vu, []),
  (.invokevirtual 26, 148, 3, 110, vu, [0, 0, 7]),
  (.if_icmp .eq 1136, 968, 0, 111, vu, []),
  (.iconst 0, 0, 0, 112, vi 0, []),
  (.ireturn, 1, 0, 113, vu, []),
  (.aload_n 1, 1, 0, 114, vu, []),
  (.aload_n 0, 0, 0, 115, vu, []),
  (.iload_n 3, 3, 0, 116, vu, []),
  (.iconst 1, 0, 0, 117, vi 1, []),
  (.iadd, 0, 0, 118, vu, []),
  (.iaload, 0, 0, 119, vu, []),
  (.invokevirtual 27, 74, 2, 120, vu, [0, 0, 6]),
  (.aload_n 2, 2, 0, 121, vu, []),
  (.aload_n 0, 0, 0, 122, vu, []),
  (.iload_n 3, 3, 0, 123, vu, []),
  (.iconst 1, 0, 0, 124, vi 1, []),
  (.iadd, 0, 0, 125, vu, []),
  (.iaload, 0, 0, 126, vu, []),
  (.invokevirtual 31, 150, 2, 127, vu, [0, 0, 7]),
  (.if_icmp .eq 1113, 968, 0, 128, vu, []),
  (.iconst 0, 0, 0, 129, vi 0, []),
  (.ireturn, 1, 0, 130, vu, []),
  (.aload_n 1, 1, 0, 131, vu, []),
  (.aload_n 0, 0, 0, 132, vu, []),
  (.iload_n 3, 3, 0, 133, vu, []),
  (.iconst 1, 0, 0, 134, vi 1, []),
  (.iadd, 0, 0, 135, vu, []),
  (.iaload, 0, 0, 136, vu, []),
  (.aload_n 0, 0, 0, 137, vu, []),
  (.iload_n 3, 3, 0, 138, vu, []),
  (.iconst 2, 0, 0, 139, vi 2, []),
  (.iadd, 0, 0, 140, vu, []),
  (.iaload, 0, 0, 141, vu, []),
  (.aload_n 0, 0, 0, 142, vu, []),
  (.iload_n 3, 3, 0, 143, vu, []),
  (.iconst 3, 0, 0, 144, vi 3, []),
  (.iadd, 0, 0, 145, vu, []),
  (.iaload, 0, 0, 146, vu, []),
  (.aload_n 0, 0, 0, 147, vu, []),
  (.iload_n 3, 3, 0, 148, vu, []),
  (.iconst 4, 0, 0, 149, vi 4, []),
  (.iadd, 0, 0, 150, vu, []),
  (.iaload, 0, 0, 151, vu, []),
  (.aload_n 0, 0, 0, 152, vu, []),
  (.iload_n 3, 3, 0, 153, vu, []),
  (.iconst 5, 0, 0, 154, vi 5, []),
  (.iadd, 0, 0, 155, vu, []),
  (.iaload, 0, 0, 156, vu, []),
  (.invokevirtual 32, 75, 6, 157, vu, [0, 0, 6]),
  (.aload_n 2, 2, 0, 158, vu, []),
  (.aload_n 0, 0, 0, 159, vu, []),
  (.iload_n 3, 3, 0, 160, vu, []),
  (.iconst 1, 0, 0, 161, vi 1, []),
  (.iadd, 0, 0, 162, vu, []),
  (.iaload, 0, 0, 163, vu, []),
  (.aload_n 0, 0, 0, 164, vu, []),
  (.iload_n 3, 3, 0, 165, vu, []),
  (.iconst 2, 0, 0, 166, vi 2, []),
  (.iadd, 0, 0, 167, vu, []),
  (.iaload, 0, 0, 168, vu, []),
  (.aload_n 0, 0, 0, 169, vu, []),
  (.iload_n 3, 3, 0, 170, vu, []),
  (.iconst 3, 0, 0, 171, vi 3, []),
  (.iadd, 0, 0, 172, vu, []),
  (.iaload, 0, 0, 173, vu, []),
  (.aload_n 0, 0, 0, 174, vu, []),
  (.iload_n 3, 3, 0, 175, vu, []),
  (.iconst 4, 0, 0, 176, vi 4, []),
  (.iadd, 0, 0, 177, vu, []),
  (.iaload, 0, 0, 178, vu, []),
  (.aload_n 0, 0, 0, 179, vu, []),
  (.iload_n 3, 3, 0, 180, vu, []),
  (.iconst 5, 0, 0, 181, vi 5, []),
  (.iadd, 0, 0, 182, vu, []),
  (.iaload, 0, 0, 183, vu, []),
  (.invokevirtual 36, 151, 6, 184, vu, [0, 0, 7]),
  (.if_icmp .eq 1050, 968, 0, 185, vu, []),
  (.iconst 0, 0, 0, 186, vi 0, []),
  (.ireturn, 1, 0, 187, vu, []),
  (.aload_n 1, 1, 0, 188, vu, []),
  (.aload_n 0, 0, 0, 189, vu, []),
  (.iload_n 3, 3, 0, 190, vu, []),
  (.iconst 1, 0, 0, 191, vi 1, []),
  (.iadd, 0, 0, 192, vu, []),
  (.iaload, 0, 0, 193, vu, []),
  (.invokevirtual 37, 76, 2, 194, vu, [0, 0, 6]),
  (.aload_n 2, 2, 0, 195, vu, []),
  (.aload_n 0, 0, 0, 196, vu, []),
  (.iload_n 3, 3, 0, 197, vu, []),
  (.iconst 1, 0, 0, 198, vi 1, []),
  (.iadd, 0, 0, 199, vu, []),
  (.iaload, 0, 0, 200, vu, []),
  (.invokevirtual 40, 152, 2, 201, vu, [0, 0, 7]),
  (.if_icmp .eq 1027, 968, 0, 202, vu, []),
  (.iconst 0, 0, 0, 203, vi 0, []),
  (.ireturn, 1, 0, 204, vu, []),
  (.aload_n 1, 1, 0, 205, vu, []),
  (.aload_n 0, 0, 0, 206, vu, []),
  (.iload_n 3, 3, 0, 207, vu, []),
  (.iconst 1, 0, 0, 208, vi 1, []),
  (.iadd, 0, 0, 209, vu, []),
  (.iaload, 0, 0, 210, vu, []),
  (.aload_n 0, 0, 0, 211, vu, []),
  (.iload_n 3, 3, 0, 212, vu, []),
  (.iconst 2, 0, 0, 213, vi 2, []),
  (.iadd, 0, 0, 214, vu, []),
  (.iaload, 0, 0, 215, vu, []),
  (.invokevirtual 41, 77, 3, 216, vu, [0, 0, 6]),
  (.aload_n 2, 2, 0, 217, vu, []),
  (.aload_n 0, 0, 0, 218, vu, []),
  (.iload_n 3, 3, 0, 219, vu, []),
  (.iconst 1, 0, 0, 220, vi 1, []),
  (.iadd, 0, 0, 221, vu, []),
  (.iaload, 0, 0, 222, vu, []),
  (.aload_n 0, 0, 0, 223, vu, []),
  (.iload_n 3, 3, 0, 224, vu, []),
  (.iconst 2, 0, 0, 225, vi 2, []),
  (.iadd, 0, 0, 226, vu, []),
  (.iaload, 0, 0, 227, vu, []),
  (.invokevirtual 44, 153, 3, 228, vu, [0, 0, 7]),
  (.if_icmp .eq 994, 968, 0, 229, vu, []),
  (.iconst 0, 0, 0, 230, vi 0, []),
  (.ireturn, 1, 0, 231, vu, []),
  (.aload_n 1, 1, 0, 232, vu, []),
  (.aload_n 0, 0, 0, 233, vu, []),
  (.iload_n 3, 3, 0, 234, vu, []),
  (.iconst 1, 0, 0, 235, vi 1, []),
  (.iadd, 0, 0, 236, vu, []),
  (.iaload, 0, 0, 237, vu, []),
  (.aload_n 0, 0, 0, 238, vu, []),
  (.iload_n 3, 3, 0, 239, vu, []),
  (.iconst 2, 0, 0, 240, vi 2, []),
  (.iadd, 0, 0, 241, vu, []),
  (.iaload, 0, 0, 242, vu, []),
  (.aload_n 0, 0, 0, 243, vu, []),
  (.iload_n 3, 3, 0, 244, vu, []),
  (.iconst 3, 0, 0, 245, vi 3, []),
  (.iadd, 0, 0, 246, vu, []),
  (.iaload, 0, 0, 247, vu, []),
  (.invokevirtual 45, 78, 4, 248, vu, [0, 0, 6]),
  (.aload_n 2, 2, 0, 249, vu, []),
  (.aload_n 0, 0, 0, 250, vu, []),
  (.iload_n 3, 3, 0, 251, vu, []),
  (.iconst 1, 0, 0, 252, vi 1, []),
  (.iadd, 0, 0, 253, vu, []),
  (.iaload, 0, 0, 254, vu, []),
  (.aload_n 0, 0, 0, 255, vu, []),
  (.iload_n 3, 3, 0, 256, vu, []),
  (.iconst 2, 0, 0, 257, vi 2, []),
  (.iadd, 0, 0, 258, vu, []),
  (.iaload, 0, 0, 259, vu, []),
  (.aload_n 0, 0, 0, 260, vu, []),
  (.iload_n 3, 3, 0, 261, vu, []),
  (.iconst 3, 0, 0, 262, vi 3, []),
  (.iadd, 0, 0, 263, vu, []),
  (.iaload, 0, 0, 264, vu, []),
  (.invokevirtual 48, 154, 4, 265, vu, [0, 0, 7]),
  (.if_icmp .eq 951, 968, 0, 266, vu, []),
  (.iconst 0, 0, 0, 267, vi 0, []),
  (.ireturn, 1, 0, 268, vu, []),
  (.aload_n 1, 1, 0, 269, vu, []),
  (.aload_n 0, 0, 0, 270, vu, []),
  (.iload_n 3, 3, 0, 271, vu, []),
  (.iconst 1, 0, 0, 272, vi 1, []),
  (.iadd, 0, 0, 273, vu, []),
  (.iaload, 0, 0, 274, vu, []),
  (.invokevirtual 49, 79, 2, 275, vu, [0, 0, 6]),
  (.aload_n 2, 2, 0, 276, vu, []),
  (.aload_n 0, 0, 0, 277, vu, []),
  (.iload_n 3, 3, 0, 278, vu, []),
  (.iconst 1, 0, 0, 279, vi 1, []),
  (.iadd, 0, 0, 280, vu, []),
  (.iaload, 0, 0, 281, vu, []),
  (.invokevirtual 52, 162, 2, 282, vu, [0, 0, 7]),
  (.if_icmp .eq 928, 968, 0, 283, vu, []),
  (.iconst 0, 0, 0, 284, vi 0, []),
  (.ireturn, 1, 0, 285, vu, []),
  (.aload_n 1, 1, 0, 286, vu, []),
  (.aload_n 0, 0, 0, 287, vu, []),
  (.iload_n 3, 3, 0, 288, vu, []),
  (.iconst 1, 0, 0, 289, vi 1, []),
  (.iadd, 0, 0, 290, vu, []),
  (.iaload, 0, 0, 291, vu, []),
  (.invokevirtual 53, 80, 2, 292, vu, [0, 0, 6]),
  (.aload_n 2, 2, 0, 293, vu, []),
  (.aload_n 0, 0, 0, 294, vu, []),
  (.iload_n 3, 3, 0, 295, vu, []),
  (.iconst 1, 0, 0, 296, vi 1, []),
  (.iadd, 0, 0, 297, vu, []),
  (.iaload, 0, 0, 298, vu, []),
  (.invokevirtual 56, 163, 2, 299, vu, [0, 0, 7]),
  (.if_icmp .eq 905, 968, 0, 300, vu, []),
  (.iconst 0, 0, 0, 301, vi 0, []),
  (.ireturn, 1, 0, 302, vu, []),
  (.aload_n 1, 1, 0, 303, vu, []),
  (.aload_n 0, 0, 0, 304, vu, []),
  (.iload_n 3, 3, 0, 305, vu, []),
  (.iconst 1, 0, 0, 306, vi 1, []),
  (.iadd, 0, 0, 307, vu, []),
  (.iaload, 0, 0, 308, vu, []),
  (.aload_n 0, 0, 0, 309, vu, []),
  (.iload_n 3, 3, 0, 310, vu, []),
  (.iconst 2, 0, 0, 311, vi 2, []),
  (.iadd, 0, 0, 312, vu, []),
  (.iaload, 0, 0, 313, vu, []),
  (.invokevirtual 57, 81, 3, 314, vu, [0, 0, 6]),
  (.aload_n 2, 2, 0, 315, vu, []),
  (.aload_n 0, 0, 0, 316, vu, []),
  (.iload_n 3, 3, 0, 317, vu, []),
  (.iconst 1, 0, 0, 318, vi 1, []),
  (.iadd, 0, 0, 319, vu, []),
  (.iaload, 0, 0, 320, vu, []),
  (.aload_n 0, 0, 0, 321, vu, []),
  (.iload_n 3, 3, 0, 322, vu, []),
  (.iconst 2, 0, 0, 323, vi 2, []),
  (.iadd, 0, 0, 324, vu, []),
  (.iaload, 0, 0, 325, vu, []),
  (.invokevirtual 60, 174, 3, 326, vu, [0, 0, 7]),
  (.if_icmp .eq 872, 968, 0, 327, vu, []),
  (.iconst 0, 0, 0, 328, vi 0, []),
  (.ireturn, 1, 0, 329, vu, []),
  (.aload_n 1, 1, 0, 330, vu, []),
  (.aload_n 0, 0, 0, 331, vu, []),
  (.iload_n 3, 3, 0, 332, vu, []),
  (.iconst 1, 0, 0, 333, vi 1, []),
  (.iadd, 0, 0, 334, vu, []),
  (.iaload, 0, 0, 335, vu, []),
  (.aload_n 0, 0, 0, 336, vu, []),
  (.iload_n 3, 3, 0, 337, vu, []),
  (.iconst 2, 0, 0, 338, vi 2, []),
  (.iadd, 0, 0, 339, vu, []),
  (.iaload, 0, 0, 340, vu, []),
  (.invokevirtual 61, 82, 3, 341, vu, [0, 0, 6]),
  (.aload_n 2, 2, 0, 342, vu, []),
  (.aload_n 0, 0, 0, 343, vu, []),
  (.iload_n 3, 3, 0, 344, vu, []),
  (.iconst 1, 0, 0, 345, vi 1, []),
  (.iadd, 0, 0, 346, vu, []),
  (.iaload, 0, 0, 347, vu, []),
  (.aload_n 0, 0, 0, 348, vu, []),
  (.iload_n 3, 3, 0, 349, vu, []),
  (.iconst 2, 0, 0, 350, vi 2, []),
  (.iadd, 0, 0, 351, vu, []),
  (.iaload, 0, 0, 352, vu, []),
  (.invokevirtual 64, 176, 3, 353, vu, [0, 0, 7]),
  (.if_icmp .eq 839, 968, 0, 354, vu, []),
  (.iconst 0, 0, 0, 355, vi 0, []),
  (.ireturn, 1, 0, 356, vu, []),
  (.aload_n 1, 1, 0, 357, vu, []),
  (.aload_n 0, 0, 0, 358, vu, []),
  (.iload_n 3, 3, 0, 359, vu, []),
  (.iconst 1, 0, 0, 360, vi 1, []),
  (.iadd, 0, 0, 361, vu, []),
  (.iaload, 0, 0, 362, vu, []),
  (.invokevirtual 65, 83, 2, 363, vu, [0, 0, 6]),
  (.aload_n 2, 2, 0, 364, vu, []),
  (.aload_n 0, 0, 0, 365, vu, []),
  (.iload_n 3, 3, 0, 366, vu, []),
  (.iconst 1, 0, 0, 367, vi 1, []),
  (.iadd, 0, 0, 368, vu, []),
  (.iaload, 0, 0, 369, vu, []),
  (.invokevirtual 68, 177, 2, 370, vu, [0, 0, 7]),
  (.if_icmp .eq 816, 968, 0, 371, vu, []),
  (.iconst 0, 0, 0, 372, vi 0, []),
  (.ireturn, 1, 0, 373, vu, []),
  (.aload_n 1, 1, 0, 374, vu, []),
  (.aload_n 0, 0, 0, 375, vu, []),
  (.iload_n 3, 3, 0, 376, vu, []),
  (.iconst 1, 0, 0, 377, vi 1, []),
  (.iadd, 0, 0, 378, vu, []),
  (.iaload, 0, 0, 379, vu, []),
  (.aload_n 0, 0, 0, 380, vu, []),
  (.iload_n 3, 3, 0, 381, vu, []),
  (.iconst 2, 0, 0, 382, vi 2, []),
  (.iadd, 0, 0, 383, vu, []),
  (.iaload, 0, 0, 384, vu, []),
  (.invokevirtual 69, 84, 3, 385, vu, [0, 0, 6]),
  (.aload_n 2, 2, 0, 386, vu, []),
  (.aload_n 0, 0, 0, 387, vu, []),
  (.iload_n 3, 3, 0, 388, vu, []),
  (.iconst 1, 0, 0, 389, vi 1, []),
  (.iadd, 0, 0, 390, vu, []),
  (.iaload, 0, 0, 391, vu, []),
  (.aload_n 0, 0, 0, 392, vu, []),
  (.iload_n 3, 3, 0, 393, vu, []),
  (.iconst 2, 0, 0, 394, vi 2, []),
  (.iadd, 0, 0, 395, vu, []),
  (.iaload, 0, 0, 396, vu, []),
  (.invokevirtual 72, 178, 3, 397, vu, [0, 0, 7]),
  (.if_icmp .eq 783, 968, 0, 398, vu, []),
  (.iconst 0, 0, 0, 399, vi 0, []),
  (.ireturn, 1, 0, 400, vu, []),
  (.aload_n 1, 1, 0, 401, vu, []),
  (.aload_n 0, 0, 0, 402, vu, []),
  (.iload_n 3, 3, 0, 403, vu, []),
  (.iconst 1, 0, 0, 404, vi 1, []),
  (.iadd, 0, 0, 405, vu, []),
  (.iaload, 0, 0, 406, vu, []),
  (.invokevirtual 73, 85, 2, 407, vu, [0, 0, 6]),
  (.aload_n 2, 2, 0, 408, vu, []),
  (.aload_n 0, 0, 0, 409, vu, []),
  (.iload_n 3, 3, 0, 410, vu, []),
  (.iconst 1, 0, 0, 411, vi 1, []),
  (.iadd, 0, 0, 412, vu, []),
  (.iaload, 0, 0, 413, vu, []),
  (.invokevirtual 76, 179, 2, 414, vu, [0, 0, 7]),
  (.if_icmp .eq 760, 968, 0, 415, vu, []),
  (.iconst 0, 0, 0, 416, vi 0, []),
  (.ireturn, 1, 0, 417, vu, []),
  (.aload_n 1, 1, 0, 418, vu, []),
  (.aload_n 0, 0, 0, 419, vu, []),
  (.iload_n 3, 3, 0, 420, vu, []),
  (.iconst 1, 0, 0, 421, vi 1, []),
  (.iadd, 0, 0, 422, vu, []),
  (.iaload, 0, 0, 423, vu, []),
  (.invokevirtual 77, 86, 2, 424, vu, [0, 0, 6]),
  (.aload_n 2, 2, 0, 425, vu, []),
  (.aload_n 0, 0, 0, 426, vu, []),
  (.iload_n 3, 3, 0, 427, vu, []),
  (.iconst 1, 0, 0, 428, vi 1, []),
  (.iadd, 0, 0, 429, vu, []),
  (.iaload, 0, 0, 430, vu, []),
  (.invokevirtual 80, 180, 2, 431, vu, [0, 0, 7]),
  (.if_icmp .eq 737, 968, 0, 432, vu, []),
  (.iconst 0, 0, 0, 433, vi 0, []),
  (.ireturn, 1, 0, 434, vu, []),
  (.aload_n 1, 1, 0, 435, vu, []),
  (.invokevirtual 81, 87, 1, 436, vu, [0, 0, 6]),
  (.aload_n 2, 2, 0, 437, vu, []),
  (.invokevirtual 85, 181, 1, 438, vu, [0, 0, 7]),
  (.if_icmp .eq 724, 968, 0, 439, vu, []),
  (.iconst 0, 0, 0, 440, vi 0, []),
  (.ireturn, 1, 0, 441, vu, []),
  (.aload_n 1, 1, 0, 442, vu, []),
  (.aload_n 0, 0, 0, 443, vu, []),
  (.iload_n 3, 3, 0, 444, vu, []),
  (.iconst 1, 0, 0, 445, vi 1, []),
  (.iadd, 0, 0, 446, vu, []),
  (.iaload, 0, 0, 447, vu, []),
  (.invokevirtual 86, 88, 2, 448, vu, [0, 0, 6]),
  (.aload_n 2, 2, 0, 449, vu, []),
  (.aload_n 0, 0, 0, 450, vu, []),
  (.iload_n 3, 3, 0, 451, vu, []),
  (.iconst 1, 0, 0, 452, vi 1, []),
  (.iadd, 0, 0, 453, vu, []),
  (.iaload, 0, 0, 454, vu, []),
  (.invokevirtual 89, 182, 2, 455, vu, [0, 0, 7]),
  (.if_icmp .eq 701, 968, 0, 456, vu, []),
  (.iconst 0, 0, 0, 457, vi 0, []),
  (.ireturn, 1, 0, 458, vu, []),
  (.aload_n 1, 1, 0, 459, vu, []),
  (.aload_n 0, 0, 0, 460, vu, []),
  (.iload_n 3, 3, 0, 461, vu, []),
  (.iconst 1, 0, 0, 462, vi 1, []),
  (.iadd, 0, 0, 463, vu, []),
  (.iaload, 0, 0, 464, vu, []),
  (.invokevirtual 90, 89, 2, 465, vu, [0, 0, 6]),
  (.aload_n 2, 2, 0, 466, vu, []),
  (.aload_n 0, 0, 0, 467, vu, []),
  (.iload_n 3, 3, 0, 468, vu, []),
  (.iconst 1, 0, 0, 469, vi 1, []),
  (.iadd, 0, 0, 470, vu, []),
  (.iaload, 0, 0, 471, vu, []),
  (.invokevirtual 93, 183, 2, 472, vu, [0, 0, 7]),
  (.if_icmp .eq 678, 968, 0, 473, vu, []),
  (.iconst 0, 0, 0, 474, vi 0, []),
  (.ireturn, 1, 0, 475, vu, []),
  (.aload_n 1, 1, 0, 476, vu, []),
  (.aload_n 0, 0, 0, 477, vu, []),
  (.iload_n 3, 3, 0, 478, vu, []),
  (.iconst 1, 0, 0, 479, vi 1, []),
  (.iadd, 0, 0, 480, vu, []),
  (.iaload, 0, 0, 481, vu, []),
  (.invokevirtual 94, 90, 2, 482, vu, [0, 0, 6]),
  (.aload_n 2, 2, 0, 483, vu, []),
  (.aload_n 0, 0, 0, 484, vu, []),
  (.iload_n 3, 3, 0, 485, vu, []),
  (.iconst 1, 0, 0, 486, vi 1, []),
  (.iadd, 0, 0, 487, vu, []),
  (.iaload, 0, 0, 488, vu, []),
  (.invokevirtual 97, 186, 2, 489, vu, [0, 0, 7]),
  (.if_icmp .eq 655, 968, 0, 490, vu, []),
  (.iconst 0, 0, 0, 491, vi 0, []),
  (.ireturn, 1, 0, 492, vu, []),
  (.aload_n 1, 1, 0, 493, vu, []),
  (.aload_n 0, 0, 0, 494, vu, []),
  (.iload_n 3, 3, 0, 495, vu, []),
  (.iconst 1, 0, 0, 496, vi 1, []),
  (.iadd, 0, 0, 497, vu, []),
  (.iaload, 0, 0, 498, vu, []),
  (.aload_n 0, 0, 0, 499, vu, []),
  (.iload_n 3, 3, 0, 500, vu, []),
  (.iconst 2, 0, 0, 501, vi 2, []),
  (.iadd, 0, 0, 502, vu, []),
  (.iaload, 0, 0, 503, vu, []),
  (.invokevirtual 98, 91, 3, 504, vu, [0, 0, 6]),
  (.aload_n 2, 2, 0, 505, vu, []),
  (.aload_n 0, 0, 0, 506, vu, []),
  (.iload_n 3, 3, 0, 507, vu, []),
  (.iconst 1, 0, 0, 508, vi 1, []),
  (.iadd, 0, 0, 509, vu, []),
  (.iaload, 0, 0, 510, vu, []),
  (.aload_n 0, 0, 0, 511, vu, []),
  (.iload_n 3, 3, 0, 512, vu, []),
  (.iconst 2, 0, 0, 513, vi 2, []),
  (.iadd, 0, 0, 514, vu, []),
  (.iaload, 0, 0, 515, vu, []),
  (.invokevirtual 101, 187, 3, 516, vu, [0, 0, 7]),
  (.if_icmp .eq 622, 968, 0, 517, vu, []),
  (.iconst 0, 0, 0, 518, vi 0, []),
  (.ireturn, 1, 0, 519, vu, []),
  (.aload_n 1, 1, 0, 520, vu, []),
  (.invokevirtual 102, 92, 1, 521, vu, [0, 0, 6]),
  (.aload_n 2, 2, 0, 522, vu, []),
  (.invokevirtual 105, 188, 1, 523, vu, [0, 0, 7]),
  (.if_icmp .eq 609, 968, 0, 524, vu, []),
  (.iconst 0, 0, 0, 525, vi 0, []),
  (.ireturn, 1, 0, 526, vu, []),
  (.aload_n 1, 1, 0, 527, vu, []),
  (.aload_n 0, 0, 0, 528, vu, []),
  (.iload_n 3, 3, 0, 529, vu, []),
  (.iconst 1, 0, 0, 530, vi 1, []),
  (.iadd, 0, 0, 531, vu, []),
  (.iaload, 0, 0, 532, vu, []),
  (.invokevirtual 106, 93, 2, 533, vu, [0, 0, 6]),
  (.aload_n 2, 2, 0, 534, vu, []),
  (.aload_n 0, 0, 0, 535, vu, []),
  (.iload_n 3, 3, 0, 536, vu, []),
  (.iconst 1, 0, 0, 537, vi 1, []),
  (.iadd, 0, 0, 538, vu, []),
  (.iaload, 0, 0, 539, vu, []),
  (.invokevirtual 109, 189, 2, 540, vu, [0, 0, 7]),
  (.if_icmp .eq 586, 968, 0, 541, vu, []),
  (.iconst 0, 0, 0, 542, vi 0, []),
  (.ireturn, 1, 0, 543, vu, []),
  (.aload_n 1, 1, 0, 544, vu, []),
  (.aload_n 0, 0, 0, 545, vu, []),
  (.iload_n 3, 3, 0, 546, vu, []),
  (.iconst 1, 0, 0, 547, vi 1, []),
  (.iadd, 0, 0, 548, vu, []),
  (.iaload, 0, 0, 549, vu, []),
  (.invokevirtual 110, 94, 2, 550, vu, [0, 0, 6]),
  (.aload_n 2, 2, 0, 551, vu, []),
  (.aload_n 0, 0, 0, 552, vu, []),
  (.iload_n 3, 3, 0, 553, vu, []),
  (.iconst 1, 0, 0, 554, vi 1, []),
  (.iadd, 0, 0, 555, vu, []),
  (.iaload, 0, 0, 556, vu, []),
  (.invokevirtual 113, 190, 2, 557, vu, [0, 0, 7]),
  (.if_icmp .eq 563, 968, 0, 558, vu, []),
  (.iconst 0, 0, 0, 559, vi 0, []),
  (.ireturn, 1, 0, 560, vu, []),
  (.aload_n 1, 1, 0, 561, vu, []),
  (.aload_n 0, 0, 0, 562, vu, []),
  (.iload_n 3, 3, 0, 563, vu, []),
  (.iconst 1, 0, 0, 564, vi 1, []),
  (.iadd, 0, 0, 565, vu, []),
  (.iaload, 0, 0, 566, vu, []),
  (.invokevirtual 114, 95, 2, 567, vu, [0, 0, 6]),
  (.aload_n 2, 2, 0, 568, vu, []),
  (.aload_n 0, 0, 0, 569, vu, []),
  (.iload_n 3, 3, 0, 570, vu, []),
  (.iconst 1, 0, 0, 571, vi 1, []),
  (.iadd, 0, 0, 572, vu, []),
  (.iaload, 0, 0, 573, vu, []),
  (.invokevirtual 117, 193, 2, 574, vu, [0, 0, 7]),
  (.if_icmp .eq 540, 968, 0, 575, vu, []),
  (.iconst 0, 0, 0, 576, vi 0, []),
  (.ireturn, 1, 0, 577, vu, []),
  (.aload_n 1, 1, 0, 578, vu, []),
  (.aload_n 0, 0, 0, 579, vu, []),
  (.iload_n 3, 3, 0, 580, vu, []),
  (.iconst 1, 0, 0, 581, vi 1, []),
  (.iadd, 0, 0, 582, vu, []),
  (.iaload, 0, 0, 583, vu, []),
  (.invokevirtual 118, 96, 2, 584, vu, [0, 0, 6]),
  (.aload_n 2, 2, 0, 585, vu, []),
  (.aload_n 0, 0, 0, 586, vu, []),
  (.iload_n 3, 3, 0, 587, vu, []),
  (.iconst 1, 0, 0, 588, vi 1, []),
  (.iadd, 0, 0, 589, vu, []),
  (.iaload, 0, 0, 590, vu, []),
  (.invokevirtual 121, 194, 2, 591, vu, [0, 0, 7]),
  (.if_icmp .eq 517, 968, 0, 592, vu, []),
  (.iconst 0, 0, 0, 593, vi 0, []),
  (.ireturn, 1, 0, 594, vu, []),
  (.aload_n 1, 1, 0, 595, vu, []),
  (.aload_n 0, 0, 0, 596, vu, []),
  (.iload_n 3, 3, 0, 597, vu, []),
  (.iconst 1, 0, 0, 598, vi 1, []),
  (.iadd, 0, 0, 599, vu, []),
  (.iaload, 0, 0, 600, vu, []),
  (.aload_n 0, 0, 0, 601, vu, []),
  (.iload_n 3, 3, 0, 602, vu, []),
  (.iconst 2, 0, 0, 603, vi 2, []),
  (.iadd, 0, 0, 604, vu, []),
  (.iaload, 0, 0, 605, vu, []),
  (.invokevirtual 122, 97, 3, 606, vu, [0, 0, 6]),
  (.aload_n 2, 2, 0, 607, vu, []),
  (.aload_n 0, 0, 0, 608, vu, []),
  (.iload_n 3, 3, 0, 609, vu, []),
  (.iconst 1, 0, 0, 610, vi 1, []),
  (.iadd, 0, 0, 611, vu, []),
  (.iaload, 0, 0, 612, vu, []),
  (.aload_n 0, 0, 0, 613, vu, []),
  (.iload_n 3, 3, 0, 614, vu, []),
  (.iconst 2, 0, 0, 615, vi 2, []),
  (.iadd, 0, 0, 616, vu, []),
  (.iaload, 0, 0, 617, vu, []),
  (.invokevirtual 125, 195, 3, 618, vu, [0, 0, 7]),
  (.if_icmp .eq 484, 968, 0, 619, vu, []),
  (.iconst 0, 0, 0, 620, vi 0, []),
  (.ireturn, 1, 0, 621, vu, []),
  (.aload_n 1, 1, 0, 622, vu, []),
  (.aload_n 0, 0, 0, 623, vu, []),
  (.iload_n 3, 3, 0, 624, vu, []),
  (.iconst 1, 0, 0, 625, vi 1, []),
  (.iadd, 0, 0, 626, vu, []),
  (.iaload, 0, 0, 627, vu, []),
  (.aload_n 0, 0, 0, 628, vu, []),
  (.iload_n 3, 3, 0, 629, vu, []),
  (.iconst 2, 0, 0, 630, vi 2, []),
  (.iadd, 0, 0, 631, vu, []),
  (.iaload, 0, 0, 632, vu, []),
  (.invokevirtual 126, 98, 3, 633, vu, [0, 0, 6]),
  (.aload_n 2, 2, 0, 634, vu, []),
  (.aload_n 0, 0, 0, 635, vu, []),
  (.iload_n 3, 3, 0, 636, vu, []),
  (.iconst 1, 0, 0, 637, vi 1, []),
  (.iadd, 0, 0, 638, vu, []),
  (.iaload, 0, 0, 639, vu, []),
  (.aload_n 0, 0, 0, 640, vu, []),
  (.iload_n 3, 3, 0, 641, vu, []),
  (.iconst 2, 0, 0, 642, vi 2, []),
  (.iadd, 0, 0, 643, vu, []),
  (.iaload, 0, 0, 644, vu, []),
  (.invokevirtual 129, 196, 3, 645, vu, [0, 0, 7]),
  (.if_icmp .eq 451, 968, 0, 646, vu, []),
  (.iconst 0, 0, 0, 647, vi 0, []),
  (.ireturn, 1, 0, 648, vu, []),
  (.aload_n 1, 1, 0, 649, vu, []),
  (.aload_n 0, 0, 0, 650, vu, []),
  (.iload_n 3, 3, 0, 651, vu, []),
  (.iconst 1, 0, 0, 652, vi 1, []),
  (.iadd, 0, 0, 653, vu, []),
  (.iaload, 0, 0, 654, vu, []),
  (.invokevirtual 130, 99, 2, 655, vu, [0, 0, 6]),
  (.aload_n 2, 2, 0, 656, vu, []),
  (.aload_n 0, 0, 0, 657, vu, []),
  (.iload_n 3, 3, 0, 658, vu, []),
  (.iconst 1, 0, 0, 659, vi 1, []),
  (.iadd, 0, 0, 660, vu, []),
  (.iaload, 0, 0, 661, vu, []),
  (.invokevirtual 133, 197, 2, 662, vu, [0, 0, 7]),
  (.if_icmp .eq 428, 968, 0, 663, vu, []),
  (.iconst 0, 0, 0, 664, vi 0, []),
  (.ireturn, 1, 0, 665, vu, []),
  (.aload_n 1, 1, 0, 666, vu, []),
  (.aload_n 0, 0, 0, 667, vu, []),
  (.iload_n 3, 3, 0, 668, vu, []),
  (.iconst 1, 0, 0, 669, vi 1, []),
  (.iadd, 0, 0, 670, vu, []),
  (.iaload, 0, 0, 671, vu, []),
  (.invokevirtual 134, 100, 2, 672, vu, [0, 0, 6]),
  (.aload_n 2, 2, 0, 673, vu, []),
  (.aload_n 0, 0, 0, 674, vu, []),
  (.iload_n 3, 3, 0, 675, vu, []),
  (.iconst 1, 0, 0, 676, vi 1, []),
  (.iadd, 0, 0, 677, vu, []),
  (.iaload, 0, 0, 678, vu, []),
  (.invokevirtual 137, 199, 2, 679, vu, [0, 0, 7]),
  (.if_icmp .eq 405, 968, 0, 680, vu, []),
  (.iconst 0, 0, 0, 681, vi 0, []),
  (.ireturn, 1, 0, 682, vu, []),
  (.aload_n 1, 1, 0, 683, vu, []),
  (.invokevirtual 138, 101, 1, 684, vu, [0, 0, 6]),
  (.aload_n 2, 2, 0, 685, vu, []),
  (.invokevirtual 141, 201, 1, 686, vu, [0, 0, 7]),
  (.if_icmp .eq 392, 968, 0, 687, vu, []),
  (.iconst 0, 0, 0, 688, vi 0, []),
  (.ireturn, 1, 0, 689, vu, []),
  (.aload_n 1, 1, 0, 690, vu, []),
  (.aload_n 0, 0, 0, 691, vu, []),
  (.iload_n 3, 3, 0, 692, vu, []),
  (.iconst 1, 0, 0, 693, vi 1, []),
  (.iadd, 0, 0, 694, vu, []),
  (.iaload, 0, 0, 695, vu, []),
  (.invokevirtual 142, 102, 2, 696, vu, [0, 0, 6]),
  (.aload_n 2, 2, 0, 697, vu, []),
  (.aload_n 0, 0, 0, 698, vu, []),
  (.iload_n 3, 3, 0, 699, vu, []),
  (.iconst 1, 0, 0, 700, vi 1, []),
  (.iadd, 0, 0, 701, vu, []),
  (.iaload, 0, 0, 702, vu, []),
  (.invokevirtual 145, 202, 2, 703, vu, [0, 0, 7]),
  (.if_icmp .eq 369, 968, 0, 704, vu, []),
  (.iconst 0, 0, 0, 705, vi 0, []),
  (.ireturn, 1, 0, 706, vu, []),
  (.aload_n 1, 1, 0, 707, vu, []),
  (.aload_n 0, 0, 0, 708, vu, []),
  (.iload_n 3, 3, 0, 709, vu, []),
  (.iconst 1, 0, 0, 710, vi 1, []),
  (.iadd, 0, 0, 711, vu, []),
  (.iaload, 0, 0, 712, vu, []),
  (.aload_n 0, 0, 0, 713, vu, []),
  (.iload_n 3, 3, 0, 714, vu, []),
  (.iconst 2, 0, 0, 715, vi 2, []),
  (.iadd, 0, 0, 716, vu, []),
  (.iaload, 0, 0, 717, vu, []),
  (.aload_n 0, 0, 0, 718, vu, []),
  (.iload_n 3, 3, 0, 719, vu, []),
  (.iconst 3, 0, 0, 720, vi 3, []),
  (.iadd, 0, 0, 721, vu, []),
  (.iaload, 0, 0, 722, vu, []),
  (.invokevirtual 146, 103, 4, 723, vu, [0, 0, 6]),
  (.aload_n 2, 2, 0, 724, vu, []),
  (.aload_n 0, 0, 0, 725, vu, []),
  (.iload_n 3, 3, 0, 726, vu, []),
  (.iconst 1, 0, 0, 727, vi 1, []),
  (.iadd, 0, 0, 728, vu, []),
  (.iaload, 0, 0, 729, vu, []),
  (.aload_n 0, 0, 0, 730, vu, []),
  (.iload_n 3, 3, 0, 731, vu, []),
  (.iconst 2, 0, 0, 732, vi 2, []),
  (.iadd, 0, 0, 733, vu, []),
  (.iaload, 0, 0, 734, vu, []),
  (.aload_n 0, 0, 0, 735, vu, []),
  (.iload_n 3, 3, 0, 736, vu, []),
  (.iconst 3, 0, 0, 737, vi 3, []),
  (.iadd, 0, 0, 738, vu, []),
  (.iaload, 0, 0, 739, vu, []),
  (.invokevirtual 149, 203, 4, 740, vu, [0, 0, 7]),
  (.if_icmp .eq 326, 968, 0, 741, vu, []),
  (.iconst 0, 0, 0, 742, vi 0, []),
  (.ireturn, 1, 0, 743, vu, []),
  (.aload_n 1, 1, 0, 744, vu, []),
  (.invokevirtual 150, 104, 1, 745, vu, [0, 0, 6]),
  (.aload_n 2, 2, 0, 746, vu, []),
  (.invokevirtual 153, 204, 1, 747, vu, [0, 0, 7]),
  (.if_icmp .eq 313, 968, 0, 748, vu, []),
  (.iconst 0, 0, 0, 749, vi 0, []),
  (.ireturn, 1, 0, 750, vu, []),
  (.aload_n 1, 1, 0, 751, vu, []),
  (.aload_n 0, 0, 0, 752, vu, []),
  (.iload_n 3, 3, 0, 753, vu, []),
  (.iconst 1, 0, 0, 754, vi 1, []),
  (.iadd, 0, 0, 755, vu, []),
  (.iaload, 0, 0, 756, vu, []),
  (.aload_n 0, 0, 0, 757, vu, []),
  (.iload_n 3, 3, 0, 758, vu, []),
  (.iconst 2, 0, 0, 759, vi 2, []),
  (.iadd, 0, 0, 760, vu, []),
  (.iaload, 0, 0, 761, vu, []),
  (.invokevirtual 154, 105, 3, 762, vu, [0, 0, 6]),
  (.aload_n 2, 2, 0, 763, vu, []),
  (.aload_n 0, 0, 0, 764, vu, []),
  (.iload_n 3, 3, 0, 765, vu, []),
  (.iconst 1, 0, 0, 766, vi 1, []),
  (.iadd, 0, 0, 767, vu, []),
  (.iaload, 0, 0, 768, vu, []),
  (.aload_n 0, 0, 0, 769, vu, []),
  (.iload_n 3, 3, 0, 770, vu, []),
  (.iconst 2, 0, 0, 771, vi 2, []),
  (.iadd, 0, 0, 772, vu, []),
  (.iaload, 0, 0, 773, vu, []),
  (.invokevirtual 157, 205, 3, 774, vu, [0, 0, 7]),
  (.if_icmp .eq 280, 968, 0, 775, vu, []),
  (.iconst 0, 0, 0, 776, vi 0, []),
  (.ireturn, 1, 0, 777, vu, []),
  (.aload_n 1, 1, 0, 778, vu, []),
  (.aload_n 0, 0, 0, 779, vu, []),
  (.iload_n 3, 3, 0, 780, vu, []),
  (.iconst 1, 0, 0, 781, vi 1, []),
  (.iadd, 0, 0, 782, vu, []),
  (.iaload, 0, 0, 783, vu, []),
  (.invokevirtual 158, 106, 2, 784, vu, [0, 0, 6]),
  (.aload_n 2, 2, 0, 785, vu, []),
  (.aload_n 0, 0, 0, 786, vu, []),
  (.iload_n 3, 3, 0, 787, vu, []),
  (.iconst 1, 0, 0, 788, vi 1, []),
  (.iadd, 0, 0, 789, vu, []),
  (.iaload, 0, 0, 790, vu, []),
  (.invokevirtual 161, 206, 2, 791, vu, [0, 0, 7]),
  (.if_icmp .eq 257, 968, 0, 792, vu, []),
  (.iconst 0, 0, 0, 793, vi 0, []),
  (.ireturn, 1, 0, 794, vu, []),
  (.aload_n 1, 1, 0, 795, vu, []),
  (.aload_n 0, 0, 0, 796, vu, []),
  (.iload_n 3, 3, 0, 797, vu, []),
  (.iconst 1, 0, 0, 798, vi 1, []),
  (.iadd, 0, 0, 799, vu, []),
  (.iaload, 0, 0, 800, vu, []),
  (.aload_n 0, 0, 0, 801, vu, []),
  (.iload_n 3, 3, 0, 802, vu, []),
  (.iconst 2, 0, 0, 803, vi 2, []),
  (.iadd, 0, 0, 804, vu, []),
  (.iaload, 0, 0, 805, vu, []),
  (.aload_n 0, 0, 0, 806, vu, []),
  (.iload_n 3, 3, 0, 807, vu, []),
  (.iconst 3, 0, 0, 808, vi 3, []),
  (.iadd, 0, 0, 809, vu, []),
  (.iaload, 0, 0, 810, vu, []),
  (.invokevirtual 162, 107, 4, 811, vu, [0, 0, 6]),
  (.aload_n 2, 2, 0, 812, vu, []),
  (.aload_n 0, 0, 0, 813, vu, []),
  (.iload_n 3, 3, 0, 814, vu, []),
  (.iconst 1, 0, 0, 815, vi 1, []),
  (.iadd, 0, 0, 816, vu, []),
  (.iaload, 0, 0, 817, vu, []),
  (.aload_n 0, 0, 0, 818, vu, []),
  (.iload_n 3, 3, 0, 819, vu, []),
  (.iconst 2, 0, 0, 820, vi 2, []),
  (.iadd, 0, 0, 821, vu, []),
  (.iaload, 0, 0, 822, vu, []),
  (.aload_n 0, 0, 0, 823, vu, []),
  (.iload_n 3, 3, 0, 824, vu, []),
  (.iconst 3, 0, 0, 825, vi 3, []),
  (.iadd, 0, 0, 826, vu, []),
  (.iaload, 0, 0, 827, vu, []),
  (.invokevirtual 165, 207, 4, 828, vu, [0, 0, 7]),
  (.if_icmp .eq 214, 968, 0, 829, vu, []),
  (.iconst 0, 0, 0, 830, vi 0, []),
  (.ireturn, 1, 0, 831, vu, []),
  (.aload_n 1, 1, 0, 832, vu, []),
  (.aload_n 0, 0, 0, 833, vu, []),
  (.iload_n 3, 3, 0, 834, vu, []),
  (.iconst 1, 0, 0, 835, vi 1, []),
  (.iadd, 0, 0, 836, vu, []),
  (.iaload, 0, 0, 837, vu, []),
  (.invokevirtual 166, 108, 2, 838, vu, [0, 0, 6]),
  (.aload_n 2, 2, 0, 839, vu, []),
  (.aload_n 0, 0, 0, 840, vu, []),
  (.iload_n 3, 3, 0, 841, vu, []),
  (.iconst 1, 0, 0, 842, vi 1, []),
  (.iadd, 0, 0, 843, vu, []),
  (.iaload, 0, 0, 844, vu, []),
  (.invokevirtual 169, 209, 2, 845, vu, [0, 0, 7]),
  (.if_icmp .eq 191, 968, 0, 846, vu, []),
  (.iconst 0, 0, 0, 847, vi 0, []),
  (.ireturn, 1, 0, 848, vu, []),
  (.aload_n 1, 1, 0, 849, vu, []),
  (.invokevirtual 170, 109, 1, 850, vu, [0, 0, 6]),
  (.aload_n 2, 2, 0, 851, vu, []),
  (.invokevirtual 173, 210, 1, 852, vu, [0, 0, 7]),
  (.if_icmp .eq 178, 968, 0, 853, vu, []),
  (.iconst 0, 0, 0, 854, vi 0, []),
  (.ireturn, 1, 0, 855, vu, []),
  (.aload_n 1, 1, 0, 856, vu, []),
  (.invokevirtual 174, 110, 1, 857, vu, [0, 0, 6]),
  (.aload_n 2, 2, 0, 858, vu, []),
  (.invokevirtual 177, 211, 1, 859, vu, [0, 0, 7]),
  (.if_icmp .eq 165, 968, 0, 860, vu, []),
  (.iconst 0, 0, 0, 861, vi 0, []),
  (.ireturn, 1, 0, 862, vu, []),
  (.aload_n 1, 1, 0, 863, vu, []),
  (.aload_n 0, 0, 0, 864, vu, []),
  (.iload_n 3, 3, 0, 865, vu, []),
  (.iconst 1, 0, 0, 866, vi 1, []),
  (.iadd, 0, 0, 867, vu, []),
  (.iaload, 0, 0, 868, vu, []),
  (.aload_n 0, 0, 0, 869, vu, []),
  (.iload_n 3, 3, 0, 870, vu, []),
  (.iconst 2, 0, 0, 871, vi 2, []),
  (.iadd, 0, 0, 872, vu, []),
  (.iaload, 0, 0, 873, vu, []),
  (.invokevirtual 178, 111, 3, 874, vu, [0, 0, 6]),
  (.aload_n 2, 2, 0, 875, vu, []),
  (.aload_n 0, 0, 0, 876, vu, []),
  (.iload_n 3, 3, 0, 877, vu, []),
  (.iconst 1, 0, 0, 878, vi 1, []),
  (.iadd, 0, 0, 879, vu, []),
  (.iaload, 0, 0, 880, vu, []),
  (.aload_n 0, 0, 0, 881, vu, []),
  (.iload_n 3, 3, 0, 882, vu, []),
  (.iconst 2, 0, 0, 883, vi 2, []),
  (.iadd, 0, 0, 884, vu, []),
  (.iaload, 0, 0, 885, vu, []),
  (.invokevirtual 181, 212, 3, 886, vu, [0, 0, 7]),
  (.if_icmp .eq 132, 968, 0, 887, vu, []),
  (.iconst 0, 0, 0, 888, vi 0, []),
  (.ireturn, 1, 0, 889, vu, []),
  (.aload_n 1, 1, 0, 890, vu, []),
  (.invokevirtual 182, 112, 1, 891, vu, [0, 0, 6]),
  (.aload_n 2, 2, 0, 892, vu, []),
  (.invokevirtual 185, 213, 1, 893, vu, [0, 0, 7]),
  (.if_icmp .eq 119, 968, 0, 894, vu, []),
  (.iconst 0, 0, 0, 895, vi 0, []),
  (.ireturn, 1, 0, 896, vu, []),
  (.aload_n 1, 1, 0, 897, vu, []),
  (.invokevirtual 186, 113, 1, 898, vu, [0, 0, 6]),
  (.aload_n 2, 2, 0, 899, vu, []),
  (.invokevirtual 189, 214, 1, 900, vu, [0, 0, 7]),
  (.if_icmp .eq 106, 968, 0, 901, vu, []),
  (.iconst 0, 0, 0, 902, vi 0, []),
  (.ireturn, 1, 0, 903, vu, []),
  (.aload_n 1, 1, 0, 904, vu, []),
  (.invokevirtual 190, 114, 1, 905, vu, [0, 0, 6]),
  (.aload_n 2, 2, 0, 906, vu, []),
  (.invokevirtual 194, 215, 1, 907, vu, [0, 0, 7]),
  (.lcmp, 0, 0, 908, vu, []),
  (.ifCond .eq 92, 968, 0, 909, vu, []),
  (.iconst 0, 0, 0, 910, vi 0, []),
  (.ireturn, 1, 0, 911, vu, []),
  (.aload_n 1, 1, 0, 912, vu, []),
  (.invokevirtual 195, 115, 1, 913, vu, [0, 0, 6]),
  (.aload_n 2, 2, 0, 914, vu, []),
  (.invokevirtual 198, 216, 1, 915, vu, [0, 0, 7]),
  (.lcmp, 0, 0, 916, vu, []),
  (.ifCond .eq 78, 968, 0, 917, vu, []),
  (.iconst 0, 0, 0, 918, vi 0, []),
  (.ireturn, 1, 0, 919, vu, []),
  (.aload_n 1, 1, 0, 920, vu, []),
  (.aload_n 0, 0, 0, 921, vu, []),
  (.iload_n 3, 3, 0, 922, vu, []),
  (.iconst 1, 0, 0, 923, vi 1, []),
  (.iadd, 0, 0, 924, vu, []),
  (.iaload, 0, 0, 925, vu, []),
  (.invokevirtual 199, 116, 2, 926, vu, [0, 0, 6]),
  (.aload_n 2, 2, 0, 927, vu, []),
  (.aload_n 0, 0, 0, 928, vu, []),
  (.iload_n 3, 3, 0, 929, vu, []),
  (.iconst 1, 0, 0, 930, vi 1, []),
  (.iadd, 0, 0, 931, vu, []),
  (.iaload, 0, 0, 932, vu, []),
  (.invokevirtual 202, 218, 2, 933, vu, [0, 0, 7]),
  (.if_icmp .eq 55, 968, 0, 934, vu, []),
  (.iconst 0, 0, 0, 935, vi 0, []),
  (.ireturn, 1, 0, 936, vu, []),
  (.aload_n 1, 1, 0, 937, vu, []),
  (.invokevirtual 203, 117, 1, 938, vu, [0, 0, 6]),
  (.aload_n 2, 2, 0, 939, vu, []),
  (.invokevirtual 206, 219, 1, 940, vu, [0, 0, 7]),
  (.if_icmp .eq 42, 968, 0, 941, vu, []),
  (.iconst 0, 0, 0, 942, vi 0, []),
  (.ireturn, 1, 0, 943, vu, []),
  (.aload_n 1, 1, 0, 944, vu, []),
  (.aload_n 0, 0, 0, 945, vu, []),
  (.iload_n 3, 3, 0, 946, vu, []),
  (.iconst 1, 0, 0, 947, vi 1, []),
  (.iadd, 0, 0, 948, vu, []),
  (.iaload, 0, 0, 949, vu, []),
  (.invokevirtual 207, 118, 2, 950, vu, [0, 0, 6]),
  (.aload_n 2, 2, 0, 951, vu, []),
  (.aload_n 0, 0, 0, 952, vu, []),
  (.iload_n 3, 3, 0, 953, vu, []),
  (.iconst 1, 0, 0, 954, vi 1, []),
  (.iadd, 0, 0, 955, vu, []),
  (.iaload, 0, 0, 956, vu, []),
  (.invokevirtual 210, 220, 2, 957, vu, [0, 0, 7]),
  (.if_icmp .eq 19, 968, 0, 958, vu, []),
  (.iconst 0, 0, 0, 959, vi 0, []),
  (.ireturn, 1, 0, 960, vu, []),
  (.aload_n 1, 1, 0, 961, vu, []),
  (.invokevirtual 211, 119, 1, 962, vu, [0, 0, 6]),
  (.aload_n 2, 2, 0, 963, vu, []),
  (.invokevirtual 214, 223, 1, 964, vu, [0, 0, 7]),
  (.lcmp, 0, 0, 965, vu, []),
  (.ifCond .eq 5, 968, 0, 966, vu, []),
  (.iconst 0, 0, 0, 967, vi 0, []),
  (.ireturn, 1, 0, 968, vu, []),
  (.iinc 3 6, 3, 0, 969, vi 6, []),
  (.goto (-1469), 10, 0, 970, vu, []),
  (.iconst 1, 0, 0, 971, vi 1, []),
  (.ireturn, 1, 0, 972, vu, [])]
noncomputable def p_L_law : List Nat := [0, 3, 4, 7, 8, 11, 12, 15, 16, 17, 18, 19, 20, 21, 23, 24, 27, 28, 29, 30, 32, 33, 244, 245, 246, 247, 248, 249, 250, 251, 252, 253, 254, 255, 258, 259, 260, 261, 262, 263, 264, 265, 266, 267, 268, 269, 272, 275, 276, 277, 278, 279, 280, 281, 282, 283, 284, 285, 286, 287, 288, 289, 290, 291, 292, 293, 296, 297, 298, 299, 300, 301, 302, 303, 304, 305, 306, 307, 308, 309, 310, 311, 312, 315, 318, 319, 320, 321, 322, 323, 324, 325, 326, 327, 328, 329, 330, 331, 334, 335, 336, 337, 338, 339, 340, 341, 342, 343, 344, 345, 348, 351, 352, 353, 354, 355, 356, 357, 358, 359, 362, 363, 364, 365, 366, 367, 368, 371, 374, 375, 376, 377, 378, 379, 380, 381, 382, 383, 384, 385, 386, 387, 388, 389, 390, 391, 392, 393, 394, 395, 396, 397, 398, 399, 400, 401, 402, 405, 406, 407, 408, 409, 410, 411, 412, 413, 414, 415, 416, 417, 418, 419, 420, 421, 422, 423, 424, 425, 426, 427, 428, 429, 430, 431, 434, 437, 438, 439, 440, 441, 442, 443, 444, 445, 448, 449, 450, 451, 452, 453, 454, 457, 460, 461, 462, 463, 464, 465, 466, 467, 468, 469, 470, 471, 472, 473, 476, 477, 478, 479, 480, 481, 482, 483, 484, 485, 486, 487, 490, 493, 494, 495, 496, 497, 498, 499, 500, 501, 502, 503, 504, 505, 506, 507, 508, 509, 510, 511, 514, 515, 516, 517, 518, 519, 520, 521, 522, 523, 524, 525, 526, 527, 528, 529, 530, 533, 536, 537, 538, 539, 540, 541, 542, 543, 544, 547, 548, 549, 550, 551, 552, 553, 556, 559, 560, 561, 562, 563, 564, 565, 566, 567, 570, 571, 572, 573, 574, 575, 576, 579, 582, 583, 584, 585, 586, 587, 588, 589, 590, 591, 592, 593, 594, 595, 598, 599, 600, 601, 602, 603, 604, 605, 606, 607, 608, 609, 612, 615, 616, 617, 618, 619, 620, 621, 622, 623, 624, 625, 626, 627, 628, 631, 632, 633, 634, 635, 636, 637, 638, 639, 640, 641, 642, 645, 648, 649, 650, 651, 652, 653, 654, 655, 656, 659, 660, 661, 662, 663, 664, 665, 668, 671, 672, 673, 674, 675, 676, 677, 678, 679, 680, 681, 682, 683, 684, 687, 688, 689, 690, 691, 692, 693, 694, 695, 696, 697, 698, 701, 704, 705, 706, 707, 708, 709, 710, 711, 712, 715, 716, 717, 718, 719, 720, 721, 724, 727, 728, 729, 730, 731, 732, 733, 734, 735, 738, 739, 740, 741, 742, 743, 744, 747, 750, 751, 752, 753, 756, 757, 760, 763, 764, 765, 766, 767, 768, 769, 770, 771, 774, 775, 776, 777, 778, 779, 780, 783, 786, 787, 788, 789, 790, 791, 792, 793, 794, 797, 798, 799, 800, 801, 802, 803, 806, 809, 810, 811, 812, 813, 814, 815, 816, 817, 820, 821, 822, 823, 824, 825, 826, 829, 832, 833, 834, 835, 836, 837, 838, 839, 840, 841, 842, 843, 844, 845, 848, 849, 850, 851, 852, 853, 854, 855, 856, 857, 858, 859, 862, 865, 866, 867, 868, 871, 872, 875, 878, 879, 880, 881, 882, 883, 884, 885, 886, 889, 890, 891, 892, 893, 894, 895, 898, 901, 902, 903, 904, 905, 906, 907, 908, 909, 912, 913, 914, 915, 916, 917, 918, 921, 924, 925, 926, 927, 928, 929, 930, 931, 932, 935, 936, 937, 938, 939, 940, 941, 944, 947, 948, 949, 950, 951, 952, 953, 954, 955, 958, 959, 960, 961, 962, 963, 964, 967, 970, 971, 972, 973, 974, 975, 976, 977, 978, 979, 980, 981, 982, 983, 986, 987, 988, 989, 990, 991, 992, 993, 994, 995, 996, 997, 1000, 1003, 1004, 1005, 1006, 1007, 1008, 1009, 1010, 1011, 1012, 1013, 1014, 1015, 1016, 1019, 1020, 1021, 1022, 1023, 1024, 1025, 1026, 1027, 1028, 1029, 1030, 1033, 1036, 1037, 1038, 1039, 1040, 1041, 1042, 1043, 1044, 1047, 1048, 1049, 1050, 1051, 1052, 1053, 1056, 1059, 1060, 1061, 1062, 1063, 1064, 1065, 1066, 1067, 1070, 1071, 1072, 1073, 1074, 1075, 1076, 1079, 1082, 1083, 1084, 1085, 1088, 1089, 1092, 1095, 1096, 1097, 1098, 1099, 1100, 1101, 1102, 1103, 1106, 1107, 1108, 1109, 1110, 1111, 1112, 1115, 1118, 1119, 1120, 1121, 1122, 1123, 1124, 1125, 1126, 1127, 1128, 1129, 1130, 1131, 1132, 1133, 1134, 1135, 1136, 1139, 1140, 1141, 1142, 1143, 1144, 1145, 1146, 1147, 1148, 1149, 1150, 1151, 1152, 1153, 1154, 1155, 1158, 1161, 1162, 1163, 1164, 1167, 1168, 1171, 1174, 1175, 1176, 1177, 1178, 1179, 1180, 1181, 1182, 1183, 1184, 1185, 1186, 1187, 1190, 1191, 1192, 1193, 1194, 1195, 1196, 1197, 1198, 1199, 1200, 1201, 1204, 1207, 1208, 1209, 1210, 1211, 1212, 1213, 1214, 1215, 1218, 1219, 1220, 1221, 1222, 1223, 1224, 1227, 1230, 1231, 1232, 1233, 1234, 1235, 1236, 1237, 1238, 1239, 1240, 1241, 1242, 1243, 1244, 1245, 1246, 1247, 1248, 1251, 1252, 1253, 1254, 1255, 1256, 1257, 1258, 1259, 1260, 1261, 1262, 1263, 1264, 1265, 1266, 1267, 1270, 1273, 1274, 1275, 1276, 1277, 1278, 1279, 1280, 1281, 1284, 1285, 1286, 1287, 1288, 1289, 1290, 1293, 1296, 1297, 1298, 1299, 1302, 1303, 1306, 1309, 1310, 1311, 1312, 1315, 1316, 1319, 1322, 1323, 1324, 1325, 1326, 1327, 1328, 1329, 1330, 1331, 1332, 1333, 1334, 1335, 1338, 1339, 1340, 1341, 1342, 1343, 1344, 1345, 1346, 1347, 1348, 1349, 1352, 1355, 1356, 1357, 1358, 1361, 1362, 1365, 1368, 1369, 1370, 1371, 1374, 1375, 1378, 1381, 1382, 1383, 1384, 1387, 1388, 1391, 1392, 1395, 1396, 1397, 1398, 1401, 1402, 1405, 1406, 1409, 1410, 1411, 1412, 1413, 1414, 1415, 1416, 1417, 1420, 1421, 1422, 1423, 1424, 1425, 1426, 1429, 1432, 1433, 1434, 1435, 1438, 1439, 1442, 1445, 1446, 1447, 1448, 1449, 1450, 1451, 1452, 1453, 1456, 1457, 1458, 1459, 1460, 1461, 1462, 1465, 1468, 1469, 1470, 1471, 1474, 1475, 1478, 1479, 1482, 1483, 1484, 1487, 1490, 1491]
noncomputable def r_Ce_init : MRow := (⟨"NoiseTithe$Cells", "<init>", "(I)V"⟩, prog_2_method_1_code, 2, none, 0, i_Ce_init, p_Ce_init, (1, 40), (1, 80))
noncomputable def r_Ce_isMissing : MRow := (⟨"NoiseTithe$Cells", "isMissing", "()Z"⟩, prog_2_method_2_code, 1, (some .boolean), 0, i_Ce_isMissing, p_Ce_isMissing, (0, 0), (0, 0))
noncomputable def r_Ce_has : MRow := (⟨"NoiseTithe$Cells", "has", "(I)Z"⟩, prog_2_method_3_code, 2, (some .boolean), 0, i_Ce_has, p_Ce_has, (0, 0), (0, 0))
noncomputable def r_Ce_hasSpan : MRow := (⟨"NoiseTithe$Cells", "hasSpan", "(II)Z"⟩, prog_2_method_4_code, 3, (some .boolean), 0, i_Ce_hasSpan, p_Ce_hasSpan, (0, 0), (0, 0))
noncomputable def r_Ce_get : MRow := (⟨"NoiseTithe$Cells", "get", "(I)I"⟩, prog_2_method_5_code, 2, (some .int), 0, i_Ce_get, p_Ce_get, (1, 21), (0, 0))
noncomputable def r_Ce_set : MRow := (⟨"NoiseTithe$Cells", "set", "(II)V"⟩, prog_2_method_6_code, 3, none, 0, i_Ce_set, p_Ce_set, (1, 21), (0, 0))
noncomputable def r_Ce_renew : MRow := (⟨"NoiseTithe$Cells", "renew", "(II)V"⟩, prog_2_method_7_code, 4, none, 0, i_Ce_renew, p_Ce_renew, (1, 40), (0, 0))
noncomputable def r_Ce_remove : MRow := (⟨"NoiseTithe$Cells", "remove", "()V"⟩, prog_2_method_8_code, 1, none, 0, i_Ce_remove, p_Ce_remove, (0, 0), (0, 0))
noncomputable def r_Ce_take : MRow := (⟨"NoiseTithe$Cells", "take", "(LNoiseTithe$Cells;III)V"⟩, prog_2_method_9_code, 5, none, 0, i_Ce_take, p_Ce_take, (1, 40), (0, 0))
noncomputable def r_Ce_sum : MRow := (⟨"NoiseTithe$Cells", "sum", "()J"⟩, prog_2_method_10_code, 4, (some .long), 0, i_Ce_sum, p_Ce_sum, (0, 0), (0, 0))
noncomputable def r_Ce_mixedInto : MRow := (⟨"NoiseTithe$Cells", "mixedInto", "(J)J"⟩, prog_2_method_11_code, 6, (some .long), 0, i_Ce_mixedInto, p_Ce_mixedInto, (1, 23), (0, 0))
noncomputable def r_Fr_init : MRow := (⟨"NoiseTithe$Fraction", "<init>", "()V"⟩, prog_3_method_1_code, 1, none, 1, i_Fr_init, p_Fr_init, (1, 40), (0, 0))
noncomputable def r_Fr_become : MRow := (⟨"NoiseTithe$Fraction", "become", "(JJ)V"⟩, prog_3_method_2_code, 12, none, 1, i_Fr_become, p_Fr_become, (0, 0), (0, 0))
noncomputable def r_Gr_faultOf : MRow := (⟨"NoiseTithe$Grammar", "faultOf", "(LNoiseTithe$Cells;)I"⟩, prog_4_method_2_code, 4, (some .int), 9, i_Gr_faultOf, p_Gr_faultOf, (3, 64), (0, 0))
noncomputable def r_Gr_build : MRow := (⟨"NoiseTithe$Grammar", "build", "(LNoiseTithe$Cells;LNoiseTithe$Street;)V"⟩, prog_4_method_3_code, 3, none, 9, i_Gr_build, p_Gr_build, (3, 67), (0, 0))
noncomputable def r_Gr_buildItem : MRow := (⟨"NoiseTithe$Grammar", "buildItem", "(LNoiseTithe$Cells;ILNoiseTithe$Street;)V"⟩, prog_4_method_4_code, 6, none, 9, i_Gr_buildItem, p_Gr_buildItem, (2, 42), (0, 0))
noncomputable def r_Gr_endOfFigures : MRow := (⟨"NoiseTithe$Grammar", "endOfFigures", "(LNoiseTithe$Cells;I)I"⟩, prog_4_method_5_code, 3, (some .int), 9, i_Gr_endOfFigures, p_Gr_endOfFigures, (2, 42), (0, 0))
noncomputable def r_Gr_canBegin : MRow := (⟨"NoiseTithe$Grammar", "canBegin", "(II)Z"⟩, prog_4_method_6_code, 2, (some .boolean), 9, i_Gr_canBegin, p_Gr_canBegin, (1, 20), (0, 0))
noncomputable def r_Gr_isFigure : MRow := (⟨"NoiseTithe$Grammar", "isFigure", "(I)Z"⟩, prog_4_method_7_code, 1, (some .boolean), 9, i_Gr_isFigure, p_Gr_isFigure, (0, 0), (0, 0))
noncomputable def r_Hr_init : MRow := (⟨"NoiseTithe$Hour", "<init>", "()V"⟩, prog_5_method_1_code, 1, none, 2, i_Hr_init, p_Hr_init, (1, 40), (1, 8))
noncomputable def r_Hr_becomeLike : MRow := (⟨"NoiseTithe$Hour", "becomeLike", "(LNoiseTithe$Hour;)V"⟩, prog_5_method_2_code, 2, none, 2, i_Hr_becomeLike, p_Hr_becomeLike, (1, 40), (0, 0))
noncomputable def r_Ho_init : MRow := (⟨"NoiseTithe$House", "<init>", "()V"⟩, prog_6_method_1_code, 1, none, 3, i_Ho_init, p_Ho_init, (1, 40), (0, 0))
noncomputable def r_Ho_sound : MRow := (⟨"NoiseTithe$House", "sound", "()I"⟩, prog_6_method_2_code, 1, (some .int), 3, i_Ho_sound, p_Ho_sound, (0, 0), (0, 0))
noncomputable def r_Ho_isMute : MRow := (⟨"NoiseTithe$House", "isMute", "()Z"⟩, prog_6_method_3_code, 1, (some .boolean), 3, i_Ho_isMute, p_Ho_isMute, (0, 0), (0, 0))
noncomputable def r_Ho_becomeLike : MRow := (⟨"NoiseTithe$House", "becomeLike", "(LNoiseTithe$House;)V"⟩, prog_6_method_4_code, 2, none, 3, i_Ho_becomeLike, p_Ho_becomeLike, (0, 0), (0, 0))
noncomputable def r_Ki_isOf : MRow := (⟨"NoiseTithe$Kind", "isOf", "(I)Z"⟩, prog_7_method_4_code, 2, (some .boolean), 8, i_Ki_isOf, p_Ki_isOf, (0, 0), (0, 0))
noncomputable def r_Ki_byLetter : MRow := (⟨"NoiseTithe$Kind", "byLetter", "(I)LNoiseTithe$Kind;"⟩, prog_7_method_5_code, 1, (some (.object "NoiseTithe$Kind")), 8, i_Ki_byLetter, p_Ki_byLetter, (0, 0), (0, 0))
noncomputable def r_Se_init : MRow := (⟨"NoiseTithe$Sets", "<init>", "()V"⟩, prog_8_method_1_code, 1, none, 4, i_Se_init, p_Se_init, (1, 40), (3, 768))
noncomputable def r_Se_lookAt : MRow := (⟨"NoiseTithe$Sets", "lookAt", "(LNoiseTithe$Street;)V"⟩, prog_8_method_2_code, 3, none, 4, i_Se_lookAt, p_Se_lookAt, (3, 82), (0, 0))
noncomputable def r_Se_addHouse : MRow := (⟨"NoiseTithe$Sets", "addHouse", "([III)V"⟩, prog_8_method_3_code, 5, none, 4, i_Se_addHouse, p_Se_addHouse, (0, 0), (0, 0))
noncomputable def r_Se_ripplesOf : MRow := (⟨"NoiseTithe$Sets", "ripplesOf", "(I)I"⟩, prog_8_method_4_code, 2, (some .int), 4, i_Se_ripplesOf, p_Se_ripplesOf, (0, 0), (0, 0))
noncomputable def r_Se_isFitting : MRow := (⟨"NoiseTithe$Sets", "isFitting", "(II)Z"⟩, prog_8_method_5_code, 3, (some .boolean), 4, i_Se_isFitting, p_Se_isFitting, (0, 0), (0, 0))
noncomputable def r_Se_howManyFit : MRow := (⟨"NoiseTithe$Sets", "howManyFit", "(I)I"⟩, prog_8_method_6_code, 4, (some .int), 4, i_Se_howManyFit, p_Se_howManyFit, (1, 22), (0, 0))
noncomputable def r_Se_howManyFitWith : MRow := (⟨"NoiseTithe$Sets", "howManyFitWith", "(II)I"⟩, prog_8_method_7_code, 5, (some .int), 4, i_Se_howManyFitWith, p_Se_howManyFitWith, (1, 22), (0, 0))
noncomputable def r_Se_leastFitting : MRow := (⟨"NoiseTithe$Sets", "leastFitting", "(I)I"⟩, prog_8_method_8_code, 3, (some .int), 4, i_Se_leastFitting, p_Se_leastFitting, (1, 22), (0, 0))
noncomputable def r_Se_inAllFitting : MRow := (⟨"NoiseTithe$Sets", "inAllFitting", "(I)I"⟩, prog_8_method_9_code, 4, (some .int), 4, i_Se_inAllFitting, p_Se_inAllFitting, (1, 22), (0, 0))
noncomputable def r_Se_inAnyFitting : MRow := (⟨"NoiseTithe$Sets", "inAnyFitting", "(I)I"⟩, prog_8_method_10_code, 4, (some .int), 4, i_Se_inAnyFitting, p_Se_inAnyFitting, (1, 22), (0, 0))
noncomputable def r_Se_waysToJoin : MRow := (⟨"NoiseTithe$Sets", "waysToJoin", "(LNoiseTithe$Cells;)I"⟩, prog_8_method_11_code, 8, (some .int), 4, i_Se_waysToJoin, p_Se_waysToJoin, (2, 45), (0, 0))
noncomputable def r_Se_howManyBeside : MRow := (⟨"NoiseTithe$Sets", "howManyBeside", "(II)I"⟩, prog_8_method_12_code, 5, (some .int), 4, i_Se_howManyBeside, p_Se_howManyBeside, (1, 21), (0, 0))
noncomputable def r_Se_unlikeRises : MRow := (⟨"NoiseTithe$Sets", "unlikeRises", "()I"⟩, prog_8_method_13_code, 4, (some .int), 4, i_Se_unlikeRises, p_Se_unlikeRises, (0, 0), (0, 0))
noncomputable def r_Se_greatestRise : MRow := (⟨"NoiseTithe$Sets", "greatestRise", "()I"⟩, prog_8_method_14_code, 1, (some .int), 4, i_Se_greatestRise, p_Se_greatestRise, (0, 0), (0, 0))
noncomputable def r_Se_cheapestSounding : MRow := (⟨"NoiseTithe$Sets", "cheapestSounding", "(LNoiseTithe$Street;I)I"⟩, prog_8_method_15_code, 5, (some .int), 4, i_Se_cheapestSounding, p_Se_cheapestSounding, (1, 24), (0, 0))
noncomputable def r_Se_mostHouses : MRow := (⟨"NoiseTithe$Sets", "mostHouses", "(I)I"⟩, prog_8_method_16_code, 5, (some .int), 4, i_Se_mostHouses, p_Se_mostHouses, (1, 20), (0, 0))
noncomputable def r_Se_fewestHours : MRow := (⟨"NoiseTithe$Sets", "fewestHours", "(II)I"⟩, prog_8_method_17_code, 5, (some .int), 4, i_Se_fewestHours, p_Se_fewestHours, (1, 40), (0, 0))
noncomputable def r_Se_firstHour : MRow := (⟨"NoiseTithe$Sets", "firstHour", "(II)I"⟩, prog_8_method_18_code, 5, (some .int), 4, i_Se_firstHour, p_Se_firstHour, (0, 0), (0, 0))
noncomputable def r_Se_fewestPayments : MRow := (⟨"NoiseTithe$Sets", "fewestPayments", "(LNoiseTithe$Street;)I"⟩, prog_8_method_19_code, 5, (some .int), 4, i_Se_fewestPayments, p_Se_fewestPayments, (3, 67), (0, 0))
noncomputable def r_St_init : MRow := (⟨"NoiseTithe$Street", "<init>", "()V"⟩, prog_9_method_1_code, 2, none, 5, i_St_init, p_St_init, (2, 60), (99, 680))
noncomputable def r_St_clear : MRow := (⟨"NoiseTithe$Street", "clear", "()V"⟩, prog_9_method_2_code, 1, none, 5, i_St_clear, p_St_clear, (0, 0), (0, 0))
noncomputable def r_St_add : MRow := (⟨"NoiseTithe$Street", "add", "(LNoiseTithe$Kind;II)V"⟩, prog_9_method_3_code, 6, none, 5, i_St_add, p_St_add, (0, 0), (0, 0))
noncomputable def r_St_becomeLike : MRow := (⟨"NoiseTithe$Street", "becomeLike", "(LNoiseTithe$Street;)V"⟩, prog_9_method_4_code, 3, none, 5, i_St_becomeLike, p_St_becomeLike, (2, 61), (0, 0))
noncomputable def r_St_hasHouse : MRow := (⟨"NoiseTithe$Street", "hasHouse", "(I)Z"⟩, prog_9_method_5_code, 2, (some .boolean), 5, i_St_hasHouse, p_St_hasHouse, (0, 0), (0, 0))
noncomputable def r_St_allHouses : MRow := (⟨"NoiseTithe$Street", "allHouses", "()I"⟩, prog_9_method_6_code, 1, (some .int), 5, i_St_allHouses, p_St_allHouses, (0, 0), (0, 0))
noncomputable def r_St_hasSet : MRow := (⟨"NoiseTithe$Street", "hasSet", "(I)Z"⟩, prog_9_method_7_code, 2, (some .boolean), 5, i_St_hasSet, p_St_hasSet, (1, 20), (0, 0))
noncomputable def r_St_distance : MRow := (⟨"NoiseTithe$Street", "distance", "(I)I"⟩, prog_9_method_8_code, 2, (some .int), 5, i_St_distance, p_St_distance, (1, 40), (0, 0))
noncomputable def r_St_ripple : MRow := (⟨"NoiseTithe$Street", "ripple", "(I)I"⟩, prog_9_method_9_code, 2, (some .int), 5, i_St_ripple, p_St_ripple, (2, 61), (0, 0))
noncomputable def r_St_ripplesOf : MRow := (⟨"NoiseTithe$Street", "ripplesOf", "(I)I"⟩, prog_9_method_10_code, 4, (some .int), 5, i_St_ripplesOf, p_St_ripplesOf, (3, 82), (0, 0))
noncomputable def r_St_trait : MRow := (⟨"NoiseTithe$Street", "trait", "(II)I"⟩, prog_9_method_11_code, 3, (some .int), 5, i_St_trait, p_St_trait, (3, 82), (0, 0))
noncomputable def r_St_lesserRipples : MRow := (⟨"NoiseTithe$Street", "lesserRipples", "(I)I"⟩, prog_9_method_12_code, 4, (some .int), 5, i_St_lesserRipples, p_St_lesserRipples, (3, 82), (0, 0))
noncomputable def r_St_howManyOf : MRow := (⟨"NoiseTithe$Street", "howManyOf", "(I)I"⟩, prog_9_method_13_code, 4, (some .int), 5, i_St_howManyOf, p_St_howManyOf, (1, 21), (0, 0))
noncomputable def r_St_rippleMostBehind : MRow := (⟨"NoiseTithe$Street", "rippleMostBehind", "(ILNoiseTithe$Cells;)I"⟩, prog_9_method_14_code, 7, (some .int), 5, i_St_rippleMostBehind, p_St_rippleMostBehind, (3, 82), (0, 0))
noncomputable def r_St_leaked : MRow := (⟨"NoiseTithe$Street", "leaked", "(I)I"⟩, prog_9_method_15_code, 2, (some .int), 5, i_St_leaked, p_St_leaked, (1, 40), (0, 0))
noncomputable def r_St_ring : MRow := (⟨"NoiseTithe$Street", "ring", "(I)I"⟩, prog_9_method_16_code, 5, (some .int), 5, i_St_ring, p_St_ring, (4, 105), (0, 0))
noncomputable def r_St_goBackTo : MRow := (⟨"NoiseTithe$Street", "goBackTo", "(I)V"⟩, prog_9_method_17_code, 4, none, 5, i_St_goBackTo, p_St_goBackTo, (0, 0), (0, 0))
noncomputable def r_St_isExempt : MRow := (⟨"NoiseTithe$Street", "isExempt", "(I)Z"⟩, prog_9_method_18_code, 2, (some .boolean), 5, i_St_isExempt, p_St_isExempt, (2, 44), (0, 0))
noncomputable def r_St_howManyExempt : MRow := (⟨"NoiseTithe$Street", "howManyExempt", "()I"⟩, prog_9_method_19_code, 3, (some .int), 5, i_St_howManyExempt, p_St_howManyExempt, (3, 65), (0, 0))
noncomputable def r_St_titheOf : MRow := (⟨"NoiseTithe$Street", "titheOf", "(I)I"⟩, prog_9_method_20_code, 2, (some .int), 5, i_St_titheOf, p_St_titheOf, (3, 65), (0, 0))
noncomputable def r_St_owedBy : MRow := (⟨"NoiseTithe$Street", "owedBy", "(I)I"⟩, prog_9_method_21_code, 4, (some .int), 5, i_St_owedBy, p_St_owedBy, (1, 21), (0, 0))
noncomputable def r_St_balanceOf : MRow := (⟨"NoiseTithe$Street", "balanceOf", "(I)I"⟩, prog_9_method_22_code, 4, (some .int), 5, i_St_balanceOf, p_St_balanceOf, (2, 44), (0, 0))
noncomputable def r_St_netDebts : MRow := (⟨"NoiseTithe$Street", "netDebts", "()I"⟩, prog_9_method_23_code, 5, (some .int), 5, i_St_netDebts, p_St_netDebts, (1, 40), (0, 0))
noncomputable def r_St_mixedInto : MRow := (⟨"NoiseTithe$Street", "mixedInto", "(J)J"⟩, prog_9_method_24_code, 7, (some .long), 5, i_St_mixedInto, p_St_mixedInto, (4, 104), (0, 0))
noncomputable def r_X_init : MRow := (⟨"NoiseTithe", "<init>", "()V"⟩, prog_1_method_1_code, 2, none, 6, i_X_init, p_X_init, (3, 81), (429, 4371))
noncomputable def r_X_row : MRow := (⟨"NoiseTithe", "row", "(II)I"⟩, prog_1_method_2_code, 3, (some .int), 6, i_X_row, p_X_row, (2, 63), (0, 0))
noncomputable def r_X_lay : MRow := (⟨"NoiseTithe", "lay", "(III)I"⟩, prog_1_method_3_code, 6, (some .int), 6, i_X_lay, p_X_lay, (3, 65), (0, 0))
noncomputable def r_X_at : MRow := (⟨"NoiseTithe", "at", "(II)I"⟩, prog_1_method_4_code, 4, (some .int), 6, i_X_at, p_X_at, (3, 65), (0, 0))
noncomputable def r_X_tear : MRow := (⟨"NoiseTithe", "tear", "(I)I"⟩, prog_1_method_5_code, 2, (some .int), 6, i_X_tear, p_X_tear, (2, 43), (0, 0))
noncomputable def r_X_copy : MRow := (⟨"NoiseTithe", "copy", "(IIIII)I"⟩, prog_1_method_6_code, 6, (some .int), 6, i_X_copy, p_X_copy, (2, 64), (0, 0))
noncomputable def r_X_mean : MRow := (⟨"NoiseTithe", "mean", "(I)I"⟩, prog_1_method_7_code, 3, (some .int), 6, i_X_mean, p_X_mean, (2, 43), (0, 0))
noncomputable def r_X_text : MRow := (⟨"NoiseTithe", "text", "(II)I"⟩, prog_1_method_8_code, 3, (some .int), 6, i_X_text, p_X_text, (2, 63), (0, 0))
noncomputable def r_X_put : MRow := (⟨"NoiseTithe", "put", "(III)I"⟩, prog_1_method_9_code, 6, (some .int), 6, i_X_put, p_X_put, (3, 65), (0, 0))
noncomputable def r_X_fault : MRow := (⟨"NoiseTithe", "fault", "(I)I"⟩, prog_1_method_10_code, 2, (some .int), 6, i_X_fault, p_X_fault, (4, 87), (0, 0))
noncomputable def r_X_street : MRow := (⟨"NoiseTithe", "street", "(I)I"⟩, prog_1_method_11_code, 3, (some .int), 6, i_X_street, p_X_street, (4, 89), (0, 0))
noncomputable def r_X_house : MRow := (⟨"NoiseTithe", "house", "(II)I"⟩, prog_1_method_12_code, 3, (some .int), 6, i_X_house, p_X_house, (4, 104), (0, 0))
noncomputable def r_X_mark : MRow := (⟨"NoiseTithe", "mark", "(II)I"⟩, prog_1_method_13_code, 4, (some .int), 6, i_X_mark, p_X_mark, (4, 105), (0, 0))
noncomputable def r_X_altar : MRow := (⟨"NoiseTithe", "altar", "(I)I"⟩, prog_1_method_14_code, 3, (some .int), 6, i_X_altar, p_X_altar, (1, 22), (0, 0))
noncomputable def r_X_wall : MRow := (⟨"NoiseTithe", "wall", "(II)I"⟩, prog_1_method_15_code, 4, (some .int), 6, i_X_wall, p_X_wall, (1, 22), (0, 0))
noncomputable def r_X_hour : MRow := (⟨"NoiseTithe", "hour", "(I)I"⟩, prog_1_method_16_code, 3, (some .int), 6, i_X_hour, p_X_hour, (5, 129), (0, 0))
noncomputable def r_X_undo : MRow := (⟨"NoiseTithe", "undo", "(I)I"⟩, prog_1_method_17_code, 3, (some .int), 6, i_X_undo, p_X_undo, (1, 23), (0, 0))
noncomputable def r_X_jar : MRow := (⟨"NoiseTithe", "jar", "()I"⟩, prog_1_method_18_code, 1, (some .int), 6, i_X_jar, p_X_jar, (1, 22), (0, 0))
noncomputable def r_X_loud : MRow := (⟨"NoiseTithe", "loud", "(I)I"⟩, prog_1_method_19_code, 2, (some .int), 6, i_X_loud, p_X_loud, (2, 43), (0, 0))
noncomputable def r_X_made : MRow := (⟨"NoiseTithe", "made", "(I)I"⟩, prog_1_method_20_code, 2, (some .int), 6, i_X_made, p_X_made, (1, 21), (0, 0))
noncomputable def r_X_tithe : MRow := (⟨"NoiseTithe", "tithe", "(I)I"⟩, prog_1_method_21_code, 2, (some .int), 6, i_X_tithe, p_X_tithe, (4, 86), (0, 0))
noncomputable def r_X_pay : MRow := (⟨"NoiseTithe", "pay", "(II)I"⟩, prog_1_method_22_code, 4, (some .int), 6, i_X_pay, p_X_pay, (1, 22), (0, 0))
noncomputable def r_X_due : MRow := (⟨"NoiseTithe", "due", "()I"⟩, prog_1_method_23_code, 6, (some .int), 6, i_X_due, p_X_due, (4, 86), (0, 0))
noncomputable def r_X_keep : MRow := (⟨"NoiseTithe", "keep", "(I)I"⟩, prog_1_method_24_code, 2, (some .int), 6, i_X_keep, p_X_keep, (3, 83), (0, 0))
noncomputable def r_X_on : MRow := (⟨"NoiseTithe", "on", "(I)I"⟩, prog_1_method_25_code, 2, (some .int), 6, i_X_on, p_X_on, (3, 83), (0, 0))
noncomputable def r_X_fits : MRow := (⟨"NoiseTithe", "fits", "(I)I"⟩, prog_1_method_26_code, 3, (some .int), 6, i_X_fits, p_X_fits, (4, 104), (0, 0))
noncomputable def r_X_sure : MRow := (⟨"NoiseTithe", "sure", "(I)I"⟩, prog_1_method_27_code, 2, (some .int), 6, i_X_sure, p_X_sure, (4, 104), (0, 0))
noncomputable def r_X_odds : MRow := (⟨"NoiseTithe", "odds", "(II)I"⟩, prog_1_method_28_code, 5, (some .int), 6, i_X_odds, p_X_odds, (4, 104), (0, 0))
noncomputable def r_X_thunder : MRow := (⟨"NoiseTithe", "thunder", "(II)I"⟩, prog_1_method_29_code, 5, (some .int), 6, i_X_thunder, p_X_thunder, (4, 104), (0, 0))
noncomputable def r_X_joined : MRow := (⟨"NoiseTithe", "joined", "(I)I"⟩, prog_1_method_30_code, 4, (some .int), 6, i_X_joined, p_X_joined, (4, 104), (0, 0))
noncomputable def r_X_silence : MRow := (⟨"NoiseTithe", "silence", "(I)I"⟩, prog_1_method_31_code, 7, (some .int), 6, i_X_silence, p_X_silence, (4, 104), (0, 0))
noncomputable def r_X_rises : MRow := (⟨"NoiseTithe", "rises", "()I"⟩, prog_1_method_32_code, 1, (some .int), 6, i_X_rises, p_X_rises, (4, 104), (0, 0))
noncomputable def r_X_wedding : MRow := (⟨"NoiseTithe", "wedding", "(I)I"⟩, prog_1_method_33_code, 3, (some .int), 6, i_X_wedding, p_X_wedding, (4, 104), (0, 0))
noncomputable def r_X_feathers : MRow := (⟨"NoiseTithe", "feathers", "(III)I"⟩, prog_1_method_34_code, 8, (some .int), 6, i_X_feathers, p_X_feathers, (4, 108), (0, 0))
noncomputable def r_X_most : MRow := (⟨"NoiseTithe", "most", "()I"⟩, prog_1_method_35_code, 2, (some .int), 6, i_X_most, p_X_most, (4, 104), (0, 0))
noncomputable def r_X_hours : MRow := (⟨"NoiseTithe", "hours", "(II)I"⟩, prog_1_method_36_code, 4, (some .int), 6, i_X_hours, p_X_hours, (4, 104), (0, 0))
noncomputable def r_X_year : MRow := (⟨"NoiseTithe", "year", "(I)I"⟩, prog_1_method_37_code, 6, (some .int), 6, i_X_year, p_X_year, (4, 105), (0, 0))
noncomputable def r_X_debt : MRow := (⟨"NoiseTithe", "debt", "(III)I"⟩, prog_1_method_38_code, 5, (some .int), 6, i_X_debt, p_X_debt, (1, 22), (0, 0))
noncomputable def r_X_balance : MRow := (⟨"NoiseTithe", "balance", "(I)I"⟩, prog_1_method_39_code, 2, (some .int), 6, i_X_balance, p_X_balance, (3, 67), (0, 0))
noncomputable def r_X_payments : MRow := (⟨"NoiseTithe", "payments", "()I"⟩, prog_1_method_40_code, 1, (some .int), 6, i_X_payments, p_X_payments, (4, 104), (0, 0))
noncomputable def r_X_net : MRow := (⟨"NoiseTithe", "net", "()I"⟩, prog_1_method_41_code, 1, (some .int), 6, i_X_net, p_X_net, (2, 64), (0, 0))
noncomputable def r_X_crickets : MRow := (⟨"NoiseTithe", "crickets", "(II)I"⟩, prog_1_method_42_code, 10, (some .int), 6, i_X_crickets, p_X_crickets, (1, 22), (0, 0))
noncomputable def r_X_sings : MRow := (⟨"NoiseTithe", "sings", "()I"⟩, prog_1_method_43_code, 6, (some .int), 6, i_X_sings, p_X_sings, (1, 31), (0, 0))
noncomputable def r_X_asked : MRow := (⟨"NoiseTithe", "asked", "()I"⟩, prog_1_method_44_code, 1, (some .int), 6, i_X_asked, p_X_asked, (0, 0), (0, 0))
noncomputable def r_X_upper : MRow := (⟨"NoiseTithe", "upper", "()J"⟩, prog_1_method_45_code, 1, (some .long), 6, i_X_upper, p_X_upper, (0, 0), (0, 0))
noncomputable def r_X_lower : MRow := (⟨"NoiseTithe", "lower", "()J"⟩, prog_1_method_46_code, 1, (some .long), 6, i_X_lower, p_X_lower, (0, 0), (0, 0))
noncomputable def r_X_count : MRow := (⟨"NoiseTithe", "count", "(I)I"⟩, prog_1_method_47_code, 2, (some .int), 6, i_X_count, p_X_count, (4, 87), (0, 0))
noncomputable def r_X_finding : MRow := (⟨"NoiseTithe", "finding", "()I"⟩, prog_1_method_48_code, 1, (some .int), 6, i_X_finding, p_X_finding, (0, 0), (0, 0))
noncomputable def r_X_findings : MRow := (⟨"NoiseTithe", "findings", "(I)I"⟩, prog_1_method_49_code, 2, (some .int), 6, i_X_findings, p_X_findings, (1, 22), (0, 0))
noncomputable def r_X_digest : MRow := (⟨"NoiseTithe", "digest", "()J"⟩, prog_1_method_50_code, 4, (some .long), 6, i_X_digest, p_X_digest, (5, 130), (0, 0))
noncomputable def r_X_tell : MRow := (⟨"NoiseTithe", "tell", "(II)I"⟩, prog_1_method_51_code, 3, (some .int), 6, i_X_tell, p_X_tell, (0, 0), (0, 0))
noncomputable def r_X_found : MRow := (⟨"NoiseTithe", "found", "(I)I"⟩, prog_1_method_52_code, 2, (some .int), 6, i_X_found, p_X_found, (1, 22), (0, 0))
noncomputable def r_X_refusalOfPlace : MRow := (⟨"NoiseTithe", "refusalOfPlace", "(LNoiseTithe$Cells;I)I"⟩, prog_1_method_53_code, 3, (some .int), 6, i_X_refusalOfPlace, p_X_refusalOfPlace, (2, 43), (0, 0))
noncomputable def r_X_isRow : MRow := (⟨"NoiseTithe", "isRow", "(I)Z"⟩, prog_1_method_54_code, 2, (some .boolean), 6, i_X_isRow, p_X_isRow, (0, 0), (0, 0))
noncomputable def r_X_isText : MRow := (⟨"NoiseTithe", "isText", "(I)Z"⟩, prog_1_method_55_code, 2, (some .boolean), 6, i_X_isText, p_X_isText, (0, 0), (0, 0))
noncomputable def r_X_isKeptPlace : MRow := (⟨"NoiseTithe", "isKeptPlace", "(I)Z"⟩, prog_1_method_56_code, 2, (some .boolean), 6, i_X_isKeptPlace, p_X_isKeptPlace, (0, 0), (0, 0))
noncomputable def r_X_howManyKept : MRow := (⟨"NoiseTithe", "howManyKept", "()I"⟩, prog_1_method_57_code, 3, (some .int), 6, i_X_howManyKept, p_X_howManyKept, (1, 20), (0, 0))
noncomputable def r_X_isMissing : MRow := (⟨"NoiseTithe", "isMissing", "(LNoiseTithe$Street;)Z"⟩, prog_1_method_58_code, 1, (some .boolean), 6, i_X_isMissing, p_X_isMissing, (0, 0), (0, 0))
noncomputable def r_X_howManyThere : MRow := (⟨"NoiseTithe", "howManyThere", "([LNoiseTithe$Cells;)I"⟩, prog_1_method_59_code, 3, (some .int), 6, i_X_howManyThere, p_X_howManyThere, (1, 20), (0, 0))
noncomputable def r_X_isWithin : MRow := (⟨"NoiseTithe", "isWithin", "(III)Z"⟩, prog_1_method_60_code, 3, (some .boolean), 6, i_X_isWithin, p_X_isWithin, (0, 0), (0, 0))
noncomputable def r_X_isRise : MRow := (⟨"NoiseTithe", "isRise", "(I)Z"⟩, prog_1_method_61_code, 1, (some .boolean), 6, i_X_isRise, p_X_isRise, (1, 22), (0, 0))
noncomputable def r_X_contains : MRow := (⟨"NoiseTithe", "contains", "(II)Z"⟩, prog_1_method_62_code, 2, (some .boolean), 6, i_X_contains, p_X_contains, (0, 0), (0, 0))
noncomputable def r_X_lotBehind : MRow := (⟨"NoiseTithe", "lotBehind", "(I)I"⟩, prog_1_method_63_code, 1, (some .int), 6, i_X_lotBehind, p_X_lotBehind, (0, 0), (0, 0))
noncomputable def r_X_mixed : MRow := (⟨"NoiseTithe", "mixed", "(JJ)J"⟩, prog_1_method_64_code, 4, (some .long), 6, i_X_mixed, p_X_mixed, (0, 0), (0, 0))
noncomputable def r_M_init : MRow := (⟨"NoiseTitheModel", "<init>", "()V"⟩, prog_11_method_1_code, 2, none, 7, i_M_init, p_M_init, (1, 40), (19, 3652))
noncomputable def r_M_in : MRow := (⟨"NoiseTitheModel", "in", "(III)Z"⟩, prog_11_method_3_code, 3, (some .boolean), 7, i_M_in, p_M_in, (0, 0), (0, 0))
noncomputable def r_M_meet : MRow := (⟨"NoiseTitheModel", "meet", "(I)I"⟩, prog_11_method_4_code, 2, (some .int), 7, i_M_meet, p_M_meet, (0, 0), (0, 0))
noncomputable def r_M_ask : MRow := (⟨"NoiseTitheModel", "ask", "(II)I"⟩, prog_11_method_5_code, 3, (some .int), 7, i_M_ask, p_M_ask, (0, 0), (0, 0))
noncomputable def r_M_part : MRow := (⟨"NoiseTitheModel", "part", "(JJI)I"⟩, prog_11_method_6_code, 12, (some .int), 7, i_M_part, p_M_part, (0, 0), (0, 0))
noncomputable def r_M_has : MRow := (⟨"NoiseTitheModel", "has", "(II)Z"⟩, prog_11_method_7_code, 2, (some .boolean), 7, i_M_has, p_M_has, (0, 0), (0, 0))
noncomputable def r_M_sizeOf : MRow := (⟨"NoiseTitheModel", "sizeOf", "(I)I"⟩, prog_11_method_8_code, 3, (some .int), 7, i_M_sizeOf, p_M_sizeOf, (0, 0), (0, 0))
noncomputable def r_M_isRow : MRow := (⟨"NoiseTitheModel", "isRow", "(I)Z"⟩, prog_11_method_9_code, 1, (some .boolean), 7, i_M_isRow, p_M_isRow, (1, 22), (0, 0))
noncomputable def r_M_isText : MRow := (⟨"NoiseTitheModel", "isText", "(I)Z"⟩, prog_11_method_10_code, 1, (some .boolean), 7, i_M_isText, p_M_isText, (1, 22), (0, 0))
noncomputable def r_M_askedRow : MRow := (⟨"NoiseTitheModel", "askedRow", "(I)I"⟩, prog_11_method_11_code, 2, (some .int), 7, i_M_askedRow, p_M_askedRow, (2, 42), (0, 0))
noncomputable def r_M_askedText : MRow := (⟨"NoiseTitheModel", "askedText", "(I)I"⟩, prog_11_method_12_code, 2, (some .int), 7, i_M_askedText, p_M_askedText, (2, 42), (0, 0))
noncomputable def r_M_rowAt : MRow := (⟨"NoiseTitheModel", "rowAt", "(II)I"⟩, prog_11_method_13_code, 3, (some .int), 7, i_M_rowAt, p_M_rowAt, (0, 0), (0, 0))
noncomputable def r_M_setRow : MRow := (⟨"NoiseTitheModel", "setRow", "(III)V"⟩, prog_11_method_14_code, 4, none, 7, i_M_setRow, p_M_setRow, (0, 0), (0, 0))
noncomputable def r_M_row : MRow := (⟨"NoiseTitheModel", "row", "(II)I"⟩, prog_11_method_15_code, 4, (some .int), 7, i_M_row, p_M_row, (2, 42), (0, 0))
noncomputable def r_M_at : MRow := (⟨"NoiseTitheModel", "at", "(II)I"⟩, prog_11_method_16_code, 4, (some .int), 7, i_M_at, p_M_at, (3, 63), (0, 0))
noncomputable def r_M_lay : MRow := (⟨"NoiseTitheModel", "lay", "(III)I"⟩, prog_11_method_17_code, 5, (some .int), 7, i_M_lay, p_M_lay, (4, 86), (0, 0))
noncomputable def r_M_tear : MRow := (⟨"NoiseTitheModel", "tear", "(I)I"⟩, prog_11_method_18_code, 3, (some .int), 7, i_M_tear, p_M_tear, (3, 63), (0, 0))
noncomputable def r_M_copy : MRow := (⟨"NoiseTitheModel", "copy", "(IIIII)I"⟩, prog_11_method_19_code, 7, (some .int), 7, i_M_copy, p_M_copy, (2, 42), (0, 0))
noncomputable def r_M_mean : MRow := (⟨"NoiseTitheModel", "mean", "(I)I"⟩, prog_11_method_20_code, 6, (some .int), 7, i_M_mean, p_M_mean, (3, 63), (0, 0))
noncomputable def r_M_text : MRow := (⟨"NoiseTitheModel", "text", "(II)I"⟩, prog_11_method_21_code, 4, (some .int), 7, i_M_text, p_M_text, (2, 42), (0, 0))
noncomputable def r_M_put : MRow := (⟨"NoiseTitheModel", "put", "(III)I"⟩, prog_11_method_22_code, 6, (some .int), 7, i_M_put, p_M_put, (3, 63), (0, 0))
noncomputable def r_M_here : MRow := (⟨"NoiseTitheModel", "here", "(I)I"⟩, prog_11_method_23_code, 2, (some .int), 7, i_M_here, p_M_here, (0, 0), (0, 0))
noncomputable def r_M_isFigure : MRow := (⟨"NoiseTitheModel", "isFigure", "(I)Z"⟩, prog_11_method_24_code, 2, (some .boolean), 7, i_M_isFigure, p_M_isFigure, (1, 22), (0, 0))
noncomputable def r_M_figure : MRow := (⟨"NoiseTitheModel", "figure", "(I)I"⟩, prog_11_method_25_code, 3, (some .int), 7, i_M_figure, p_M_figure, (1, 21), (0, 0))
noncomputable def r_M_kindOf : MRow := (⟨"NoiseTitheModel", "kindOf", "(I)I"⟩, prog_11_method_26_code, 1, (some .int), 7, i_M_kindOf, p_M_kindOf, (0, 0), (0, 0))
noncomputable def r_M_readsHead : MRow := (⟨"NoiseTitheModel", "readsHead", "(I)Z"⟩, prog_11_method_27_code, 2, (some .boolean), 7, i_M_readsHead, p_M_readsHead, (2, 43), (0, 0))
noncomputable def r_M_readsHouse : MRow := (⟨"NoiseTitheModel", "readsHouse", "(I)Z"⟩, prog_11_method_28_code, 4, (some .boolean), 7, i_M_readsHouse, p_M_readsHouse, (2, 43), (0, 0))
noncomputable def r_M_goesOn : MRow := (⟨"NoiseTitheModel", "goesOn", "(I)I"⟩, prog_11_method_29_code, 3, (some .int), 7, i_M_goesOn, p_M_goesOn, (3, 66), (0, 0))
noncomputable def r_M_fault : MRow := (⟨"NoiseTitheModel", "fault", "(I)I"⟩, prog_11_method_30_code, 3, (some .int), 7, i_M_fault, p_M_fault, (4, 88), (0, 0))
noncomputable def r_M_street : MRow := (⟨"NoiseTitheModel", "street", "(I)I"⟩, prog_11_method_31_code, 4, (some .int), 7, i_M_street, p_M_street, (4, 88), (0, 0))
noncomputable def r_M_isHouse : MRow := (⟨"NoiseTitheModel", "isHouse", "(I)Z"⟩, prog_11_method_32_code, 2, (some .boolean), 7, i_M_isHouse, p_M_isHouse, (1, 22), (0, 0))
noncomputable def r_M_all : MRow := (⟨"NoiseTitheModel", "all", "()I"⟩, prog_11_method_33_code, 1, (some .int), 7, i_M_all, p_M_all, (0, 0), (0, 0))
noncomputable def r_M_isSet : MRow := (⟨"NoiseTitheModel", "isSet", "(I)Z"⟩, prog_11_method_34_code, 2, (some .boolean), 7, i_M_isSet, p_M_isSet, (1, 22), (0, 0))
noncomputable def r_M_isA : MRow := (⟨"NoiseTitheModel", "isA", "(II)Z"⟩, prog_11_method_35_code, 3, (some .boolean), 7, i_M_isA, p_M_isA, (0, 0), (0, 0))
noncomputable def r_M_soundOf : MRow := (⟨"NoiseTitheModel", "soundOf", "(I)I"⟩, prog_11_method_36_code, 3, (some .int), 7, i_M_soundOf, p_M_soundOf, (0, 0), (0, 0))
noncomputable def r_M_farOf : MRow := (⟨"NoiseTitheModel", "farOf", "(I)I"⟩, prog_11_method_37_code, 2, (some .int), 7, i_M_farOf, p_M_farOf, (0, 0), (0, 0))
noncomputable def r_M_rippleOf : MRow := (⟨"NoiseTitheModel", "rippleOf", "(I)I"⟩, prog_11_method_38_code, 3, (some .int), 7, i_M_rippleOf, p_M_rippleOf, (1, 22), (0, 0))
noncomputable def r_M_ripples : MRow := (⟨"NoiseTitheModel", "ripples", "(I)I"⟩, prog_11_method_39_code, 4, (some .int), 7, i_M_ripples, p_M_ripples, (2, 44), (0, 0))
noncomputable def r_M_mutes : MRow := (⟨"NoiseTitheModel", "mutes", "()I"⟩, prog_11_method_40_code, 3, (some .int), 7, i_M_mutes, p_M_mutes, (0, 0), (0, 0))
noncomputable def r_M_houseOf : MRow := (⟨"NoiseTitheModel", "houseOf", "(II)I"⟩, prog_11_method_41_code, 3, (some .int), 7, i_M_houseOf, p_M_houseOf, (2, 44), (0, 0))
noncomputable def r_M_house : MRow := (⟨"NoiseTitheModel", "house", "(II)I"⟩, prog_11_method_42_code, 3, (some .int), 7, i_M_house, p_M_house, (3, 66), (0, 0))
noncomputable def r_M_owes : MRow := (⟨"NoiseTitheModel", "owes", "(I)I"⟩, prog_11_method_43_code, 4, (some .int), 7, i_M_owes, p_M_owes, (0, 0), (0, 0))
noncomputable def r_M_mark : MRow := (⟨"NoiseTitheModel", "mark", "(II)I"⟩, prog_11_method_44_code, 5, (some .int), 7, i_M_mark, p_M_mark, (2, 44), (0, 0))
noncomputable def r_M_altar : MRow := (⟨"NoiseTitheModel", "altar", "(I)I"⟩, prog_11_method_45_code, 3, (some .int), 7, i_M_altar, p_M_altar, (1, 22), (0, 0))
noncomputable def r_M_wall : MRow := (⟨"NoiseTitheModel", "wall", "(II)I"⟩, prog_11_method_46_code, 4, (some .int), 7, i_M_wall, p_M_wall, (2, 43), (0, 0))
noncomputable def r_M_hour : MRow := (⟨"NoiseTitheModel", "hour", "(I)I"⟩, prog_11_method_47_code, 6, (some .int), 7, i_M_hour, p_M_hour, (3, 67), (0, 0))
noncomputable def r_M_undo : MRow := (⟨"NoiseTitheModel", "undo", "(I)I"⟩, prog_11_method_48_code, 5, (some .int), 7, i_M_undo, p_M_undo, (1, 22), (0, 0))
noncomputable def r_M_jar : MRow := (⟨"NoiseTitheModel", "jar", "()I"⟩, prog_11_method_49_code, 1, (some .int), 7, i_M_jar, p_M_jar, (1, 22), (0, 0))
noncomputable def r_M_loud : MRow := (⟨"NoiseTitheModel", "loud", "(I)I"⟩, prog_11_method_50_code, 2, (some .int), 7, i_M_loud, p_M_loud, (1, 22), (0, 0))
noncomputable def r_M_made : MRow := (⟨"NoiseTitheModel", "made", "(I)I"⟩, prog_11_method_51_code, 2, (some .int), 7, i_M_made, p_M_made, (2, 43), (0, 0))
noncomputable def r_M_isExempt : MRow := (⟨"NoiseTitheModel", "isExempt", "(I)Z"⟩, prog_11_method_52_code, 2, (some .boolean), 7, i_M_isExempt, p_M_isExempt, (1, 23), (0, 0))
noncomputable def r_M_titheOf : MRow := (⟨"NoiseTitheModel", "titheOf", "(I)I"⟩, prog_11_method_53_code, 2, (some .int), 7, i_M_titheOf, p_M_titheOf, (2, 44), (0, 0))
noncomputable def r_M_tithe : MRow := (⟨"NoiseTitheModel", "tithe", "(I)I"⟩, prog_11_method_54_code, 2, (some .int), 7, i_M_tithe, p_M_tithe, (3, 65), (0, 0))
noncomputable def r_M_pay : MRow := (⟨"NoiseTitheModel", "pay", "(II)I"⟩, prog_11_method_55_code, 3, (some .int), 7, i_M_pay, p_M_pay, (2, 43), (0, 0))
noncomputable def r_M_due : MRow := (⟨"NoiseTitheModel", "due", "()I"⟩, prog_11_method_56_code, 5, (some .int), 7, i_M_due, p_M_due, (3, 65), (0, 0))
noncomputable def r_M_keep : MRow := (⟨"NoiseTitheModel", "keep", "(I)I"⟩, prog_11_method_57_code, 4, (some .int), 7, i_M_keep, p_M_keep, (1, 22), (0, 0))
noncomputable def r_M_on : MRow := (⟨"NoiseTitheModel", "on", "(I)I"⟩, prog_11_method_58_code, 4, (some .int), 7, i_M_on, p_M_on, (1, 22), (0, 0))
noncomputable def r_M_setFits : MRow := (⟨"NoiseTitheModel", "setFits", "(I)V"⟩, prog_11_method_59_code, 5, none, 7, i_M_setFits, p_M_setFits, (3, 67), (0, 0))
noncomputable def r_M_isRise : MRow := (⟨"NoiseTitheModel", "isRise", "(I)Z"⟩, prog_11_method_60_code, 1, (some .boolean), 7, i_M_isRise, p_M_isRise, (1, 22), (0, 0))
noncomputable def r_M_fits : MRow := (⟨"NoiseTitheModel", "fits", "(I)I"⟩, prog_11_method_61_code, 2, (some .int), 7, i_M_fits, p_M_fits, (4, 91), (0, 0))
noncomputable def r_M_sure : MRow := (⟨"NoiseTitheModel", "sure", "(I)I"⟩, prog_11_method_62_code, 2, (some .int), 7, i_M_sure, p_M_sure, (4, 91), (0, 0))
noncomputable def r_M_odds : MRow := (⟨"NoiseTitheModel", "odds", "(II)I"⟩, prog_11_method_63_code, 3, (some .int), 7, i_M_odds, p_M_odds, (4, 91), (0, 0))
noncomputable def r_M_thunder : MRow := (⟨"NoiseTitheModel", "thunder", "(II)I"⟩, prog_11_method_64_code, 4, (some .int), 7, i_M_thunder, p_M_thunder, (4, 91), (0, 0))
noncomputable def r_M_joined : MRow := (⟨"NoiseTitheModel", "joined", "(I)I"⟩, prog_11_method_65_code, 7, (some .int), 7, i_M_joined, p_M_joined, (4, 98), (0, 0))
noncomputable def r_M_joinedBy : MRow := (⟨"NoiseTitheModel", "joinedBy", "(III)I"⟩, prog_11_method_66_code, 12, (some .int), 7, i_M_joinedBy, p_M_joinedBy, (3, 67), (0, 0))
noncomputable def r_M_silence : MRow := (⟨"NoiseTitheModel", "silence", "(I)I"⟩, prog_11_method_67_code, 4, (some .int), 7, i_M_silence, p_M_silence, (4, 91), (0, 0))
noncomputable def r_M_halfOf : MRow := (⟨"NoiseTitheModel", "halfOf", "(I)I"⟩, prog_11_method_68_code, 3, (some .int), 7, i_M_halfOf, p_M_halfOf, (0, 0), (0, 0))
noncomputable def r_M_rises : MRow := (⟨"NoiseTitheModel", "rises", "()I"⟩, prog_11_method_69_code, 6, (some .int), 7, i_M_rises, p_M_rises, (3, 67), (0, 0))
noncomputable def r_M_wedding : MRow := (⟨"NoiseTitheModel", "wedding", "(I)I"⟩, prog_11_method_70_code, 8, (some .int), 7, i_M_wedding, p_M_wedding, (3, 67), (0, 0))
noncomputable def r_M_feathers : MRow := (⟨"NoiseTitheModel", "feathers", "(III)I"⟩, prog_11_method_71_code, 8, (some .int), 7, i_M_feathers, p_M_feathers, (3, 67), (0, 0))
noncomputable def r_M_most : MRow := (⟨"NoiseTitheModel", "most", "()I"⟩, prog_11_method_72_code, 4, (some .int), 7, i_M_most, p_M_most, (3, 67), (0, 0))
noncomputable def r_M_hours : MRow := (⟨"NoiseTitheModel", "hours", "(II)I"⟩, prog_11_method_73_code, 6, (some .int), 7, i_M_hours, p_M_hours, (3, 67), (0, 0))
noncomputable def r_M_year : MRow := (⟨"NoiseTitheModel", "year", "(I)I"⟩, prog_11_method_74_code, 5, (some .int), 7, i_M_year, p_M_year, (3, 67), (0, 0))
noncomputable def r_M_debt : MRow := (⟨"NoiseTitheModel", "debt", "(III)I"⟩, prog_11_method_75_code, 5, (some .int), 7, i_M_debt, p_M_debt, (2, 43), (0, 0))
noncomputable def r_M_balanceOf : MRow := (⟨"NoiseTitheModel", "balanceOf", "(I)I"⟩, prog_11_method_76_code, 4, (some .int), 7, i_M_balanceOf, p_M_balanceOf, (0, 0), (0, 0))
noncomputable def r_M_balance : MRow := (⟨"NoiseTitheModel", "balance", "(I)I"⟩, prog_11_method_77_code, 2, (some .int), 7, i_M_balance, p_M_balance, (2, 43), (0, 0))
noncomputable def r_M_payments : MRow := (⟨"NoiseTitheModel", "payments", "()I"⟩, prog_11_method_78_code, 7, (some .int), 7, i_M_payments, p_M_payments, (1, 23), (0, 0))
noncomputable def r_M_net : MRow := (⟨"NoiseTitheModel", "net", "()I"⟩, prog_11_method_79_code, 7, (some .int), 7, i_M_net, p_M_net, (0, 0), (0, 0))
noncomputable def r_M_crickets : MRow := (⟨"NoiseTitheModel", "crickets", "(II)I"⟩, prog_11_method_80_code, 11, (some .int), 7, i_M_crickets, p_M_crickets, (1, 22), (0, 0))
noncomputable def r_M_sings : MRow := (⟨"NoiseTitheModel", "sings", "()I"⟩, prog_11_method_81_code, 6, (some .int), 7, i_M_sings, p_M_sings, (1, 31), (0, 0))
noncomputable def r_M_asked : MRow := (⟨"NoiseTitheModel", "asked", "()I"⟩, prog_11_method_82_code, 1, (some .int), 7, i_M_asked, p_M_asked, (0, 0), (0, 0))
noncomputable def r_M_upper : MRow := (⟨"NoiseTitheModel", "upper", "()J"⟩, prog_11_method_83_code, 1, (some .long), 7, i_M_upper, p_M_upper, (0, 0), (0, 0))
noncomputable def r_M_lower : MRow := (⟨"NoiseTitheModel", "lower", "()J"⟩, prog_11_method_84_code, 1, (some .long), 7, i_M_lower, p_M_lower, (0, 0), (0, 0))
noncomputable def r_M_counts : MRow := (⟨"NoiseTitheModel", "counts", "(I)I"⟩, prog_11_method_85_code, 4, (some .int), 7, i_M_counts, p_M_counts, (2, 44), (0, 0))
noncomputable def r_M_count : MRow := (⟨"NoiseTitheModel", "count", "(I)I"⟩, prog_11_method_86_code, 2, (some .int), 7, i_M_count, p_M_count, (3, 67), (0, 0))
noncomputable def r_M_finding : MRow := (⟨"NoiseTitheModel", "finding", "()I"⟩, prog_11_method_87_code, 1, (some .int), 7, i_M_finding, p_M_finding, (0, 0), (0, 0))
noncomputable def r_M_findings : MRow := (⟨"NoiseTitheModel", "findings", "(I)I"⟩, prog_11_method_88_code, 2, (some .int), 7, i_M_findings, p_M_findings, (1, 22), (0, 0))
noncomputable def r_M_mix : MRow := (⟨"NoiseTitheModel", "mix", "(I)V"⟩, prog_11_method_89_code, 2, none, 7, i_M_mix, p_M_mix, (0, 0), (0, 0))
noncomputable def r_M_mixStreet : MRow := (⟨"NoiseTitheModel", "mixStreet", "()V"⟩, prog_11_method_90_code, 3, none, 7, i_M_mixStreet, p_M_mixStreet, (3, 66), (0, 0))
noncomputable def r_M_digest : MRow := (⟨"NoiseTitheModel", "digest", "()J"⟩, prog_11_method_91_code, 3, (some .long), 7, i_M_digest, p_M_digest, (4, 88), (0, 0))
noncomputable def r_J_bitCount : MRow := (⟨"java/lang/Integer", "bitCount", "(I)I"⟩, prog_13_method_49_code, 1, (some .int), 10, i_J_bitCount, p_J_bitCount, (0, 0), (0, 0))
noncomputable def r_L_law : MRow := (⟨"NoiseTitheLaw", "law", "([I)Z"⟩, code, 4, (some .boolean), 13, i_L_law, p_L_law, (6, 153), (450, 8070))
noncomputable def MT : List MRow := [r_Ce_init, r_Ce_isMissing, r_Ce_has, r_Ce_hasSpan, r_Ce_get, r_Ce_set, r_Ce_renew, r_Ce_remove, r_Ce_take, r_Ce_sum, r_Ce_mixedInto, r_Fr_init, r_Fr_become, r_Gr_faultOf, r_Gr_build, r_Gr_buildItem, r_Gr_endOfFigures, r_Gr_canBegin, r_Gr_isFigure, r_Hr_init, r_Hr_becomeLike, r_Ho_init, r_Ho_sound, r_Ho_isMute, r_Ho_becomeLike, r_Ki_isOf, r_Ki_byLetter, r_Se_init, r_Se_lookAt, r_Se_addHouse, r_Se_ripplesOf, r_Se_isFitting, r_Se_howManyFit, r_Se_howManyFitWith, r_Se_leastFitting, r_Se_inAllFitting, r_Se_inAnyFitting, r_Se_waysToJoin, r_Se_howManyBeside, r_Se_unlikeRises, r_Se_greatestRise, r_Se_cheapestSounding, r_Se_mostHouses, r_Se_fewestHours, r_Se_firstHour, r_Se_fewestPayments, r_St_init, r_St_clear, r_St_add, r_St_becomeLike, r_St_hasHouse, r_St_allHouses, r_St_hasSet, r_St_distance, r_St_ripple, r_St_ripplesOf, r_St_trait, r_St_lesserRipples, r_St_howManyOf, r_St_rippleMostBehind, r_St_leaked, r_St_ring, r_St_goBackTo, r_St_isExempt, r_St_howManyExempt, r_St_titheOf, r_St_owedBy, r_St_balanceOf, r_St_netDebts, r_St_mixedInto, r_X_init, r_X_row, r_X_lay, r_X_at, r_X_tear, r_X_copy, r_X_mean, r_X_text, r_X_put, r_X_fault, r_X_street, r_X_house, r_X_mark, r_X_altar, r_X_wall, r_X_hour, r_X_undo, r_X_jar, r_X_loud, r_X_made, r_X_tithe, r_X_pay, r_X_due, r_X_keep, r_X_on, r_X_fits, r_X_sure, r_X_odds, r_X_thunder, r_X_joined, r_X_silence, r_X_rises, r_X_wedding, r_X_feathers, r_X_most, r_X_hours, r_X_year, r_X_debt, r_X_balance, r_X_payments, r_X_net, r_X_crickets, r_X_sings, r_X_asked, r_X_upper, r_X_lower, r_X_count, r_X_finding, r_X_findings, r_X_digest, r_X_tell, r_X_found, r_X_refusalOfPlace, r_X_isRow, r_X_isText, r_X_isKeptPlace, r_X_howManyKept, r_X_isMissing, r_X_howManyThere, r_X_isWithin, r_X_isRise, r_X_contains, r_X_lotBehind, r_X_mixed, r_M_init, r_M_in, r_M_meet, r_M_ask, r_M_part, r_M_has, r_M_sizeOf, r_M_isRow, r_M_isText, r_M_askedRow, r_M_askedText, r_M_rowAt, r_M_setRow, r_M_row, r_M_at, r_M_lay, r_M_tear, r_M_copy, r_M_mean, r_M_text, r_M_put, r_M_here, r_M_isFigure, r_M_figure, r_M_kindOf, r_M_readsHead, r_M_readsHouse, r_M_goesOn, r_M_fault, r_M_street, r_M_isHouse, r_M_all, r_M_isSet, r_M_isA, r_M_soundOf, r_M_farOf, r_M_rippleOf, r_M_ripples, r_M_mutes, r_M_houseOf, r_M_house, r_M_owes, r_M_mark, r_M_altar, r_M_wall, r_M_hour, r_M_undo, r_M_jar, r_M_loud, r_M_made, r_M_isExempt, r_M_titheOf, r_M_tithe, r_M_pay, r_M_due, r_M_keep, r_M_on, r_M_setFits, r_M_isRise, r_M_fits, r_M_sure, r_M_odds, r_M_thunder, r_M_joined, r_M_joinedBy, r_M_silence, r_M_halfOf, r_M_rises, r_M_wedding, r_M_feathers, r_M_most, r_M_hours, r_M_year, r_M_debt, r_M_balanceOf, r_M_balance, r_M_payments, r_M_net, r_M_crickets, r_M_sings, r_M_asked, r_M_upper, r_M_lower, r_M_counts, r_M_count, r_M_finding, r_M_findings, r_M_mix, r_M_mixStreet, r_M_digest, r_J_bitCount, r_L_law]
noncomputable abbrev cW : Nat → CT := callT MT
theorem w_Ce_init {d : Nat} {as : List Vv} {m : Mem} {K : Option Vv → Mem → Prop} (h : Go (cW d) i_Ce_init (1, 80) K 0 (mkL 2 as) [] m 0 0) (hl : Nat.ble (slL as).length 2 = true := by exact rfl) : cW (d + 1) n_Ce_init as m K := ⟨hl, h⟩
theorem w_Ce_isMissing {d : Nat} {as : List Vv} {m : Mem} {K : Option Vv → Mem → Prop} (h : Go (cW d) i_Ce_isMissing (0, 0) K 0 (mkL 1 as) [] m 0 0) (hl : Nat.ble (slL as).length 1 = true := by exact rfl) : cW (d + 1) n_Ce_isMissing as m K := ⟨hl, h⟩
theorem w_Ce_has {d : Nat} {as : List Vv} {m : Mem} {K : Option Vv → Mem → Prop} (h : Go (cW d) i_Ce_has (0, 0) K 0 (mkL 2 as) [] m 0 0) (hl : Nat.ble (slL as).length 2 = true := by exact rfl) : cW (d + 1) n_Ce_has as m K := ⟨hl, h⟩
theorem w_Ce_hasSpan {d : Nat} {as : List Vv} {m : Mem} {K : Option Vv → Mem → Prop} (h : Go (cW d) i_Ce_hasSpan (0, 0) K 0 (mkL 3 as) [] m 0 0) (hl : Nat.ble (slL as).length 3 = true := by exact rfl) : cW (d + 1) n_Ce_hasSpan as m K := ⟨hl, h⟩
theorem w_Ce_get {d : Nat} {as : List Vv} {m : Mem} {K : Option Vv → Mem → Prop} (h : Go (cW d) i_Ce_get (0, 0) K 0 (mkL 2 as) [] m 0 0) (hl : Nat.ble (slL as).length 2 = true := by exact rfl) : cW (d + 1) n_Ce_get as m K := ⟨hl, h⟩
theorem w_Ce_set {d : Nat} {as : List Vv} {m : Mem} {K : Option Vv → Mem → Prop} (h : Go (cW d) i_Ce_set (0, 0) K 0 (mkL 3 as) [] m 0 0) (hl : Nat.ble (slL as).length 3 = true := by exact rfl) : cW (d + 1) n_Ce_set as m K := ⟨hl, h⟩
theorem w_Ce_renew {d : Nat} {as : List Vv} {m : Mem} {K : Option Vv → Mem → Prop} (h : Go (cW d) i_Ce_renew (0, 0) K 0 (mkL 4 as) [] m 0 0) (hl : Nat.ble (slL as).length 4 = true := by exact rfl) : cW (d + 1) n_Ce_renew as m K := ⟨hl, h⟩
theorem w_Ce_remove {d : Nat} {as : List Vv} {m : Mem} {K : Option Vv → Mem → Prop} (h : Go (cW d) i_Ce_remove (0, 0) K 0 (mkL 1 as) [] m 0 0) (hl : Nat.ble (slL as).length 1 = true := by exact rfl) : cW (d + 1) n_Ce_remove as m K := ⟨hl, h⟩
theorem w_Ce_take {d : Nat} {as : List Vv} {m : Mem} {K : Option Vv → Mem → Prop} (h : Go (cW d) i_Ce_take (0, 0) K 0 (mkL 5 as) [] m 0 0) (hl : Nat.ble (slL as).length 5 = true := by exact rfl) : cW (d + 1) n_Ce_take as m K := ⟨hl, h⟩
theorem w_Ce_sum {d : Nat} {as : List Vv} {m : Mem} {K : Option Vv → Mem → Prop} (h : Go (cW d) i_Ce_sum (0, 0) K 0 (mkL 4 as) [] m 0 0) (hl : Nat.ble (slL as).length 4 = true := by exact rfl) : cW (d + 1) n_Ce_sum as m K := ⟨hl, h⟩
theorem w_Ce_mixedInto {d : Nat} {as : List Vv} {m : Mem} {K : Option Vv → Mem → Prop} (h : Go (cW d) i_Ce_mixedInto (0, 0) K 0 (mkL 6 as) [] m 0 0) (hl : Nat.ble (slL as).length 6 = true := by exact rfl) : cW (d + 1) n_Ce_mixedInto as m K := ⟨hl, h⟩
theorem w_Fr_init {d : Nat} {as : List Vv} {m : Mem} {K : Option Vv → Mem → Prop} (h : Go (cW d) i_Fr_init (0, 0) K 0 (mkL 1 as) [] m 0 0) (hl : Nat.ble (slL as).length 1 = true := by exact rfl) : cW (d + 1) n_Fr_init as m K := ⟨hl, h⟩
theorem w_Fr_become {d : Nat} {as : List Vv} {m : Mem} {K : Option Vv → Mem → Prop} (h : Go (cW d) i_Fr_become (0, 0) K 0 (mkL 12 as) [] m 0 0) (hl : Nat.ble (slL as).length 12 = true := by exact rfl) : cW (d + 1) n_Fr_become as m K := ⟨hl, h⟩
theorem w_Gr_faultOf {d : Nat} {as : List Vv} {m : Mem} {K : Option Vv → Mem → Prop} (h : Go (cW d) i_Gr_faultOf (0, 0) K 0 (mkL 4 as) [] m 0 0) (hl : Nat.ble (slL as).length 4 = true := by exact rfl) : cW (d + 1) n_Gr_faultOf as m K := ⟨hl, h⟩
theorem w_Gr_build {d : Nat} {as : List Vv} {m : Mem} {K : Option Vv → Mem → Prop} (h : Go (cW d) i_Gr_build (0, 0) K 0 (mkL 3 as) [] m 0 0) (hl : Nat.ble (slL as).length 3 = true := by exact rfl) : cW (d + 1) n_Gr_build as m K := ⟨hl, h⟩
theorem w_Gr_buildItem {d : Nat} {as : List Vv} {m : Mem} {K : Option Vv → Mem → Prop} (h : Go (cW d) i_Gr_buildItem (0, 0) K 0 (mkL 6 as) [] m 0 0) (hl : Nat.ble (slL as).length 6 = true := by exact rfl) : cW (d + 1) n_Gr_buildItem as m K := ⟨hl, h⟩
theorem w_Gr_endOfFigures {d : Nat} {as : List Vv} {m : Mem} {K : Option Vv → Mem → Prop} (h : Go (cW d) i_Gr_endOfFigures (0, 0) K 0 (mkL 3 as) [] m 0 0) (hl : Nat.ble (slL as).length 3 = true := by exact rfl) : cW (d + 1) n_Gr_endOfFigures as m K := ⟨hl, h⟩
theorem w_Gr_canBegin {d : Nat} {as : List Vv} {m : Mem} {K : Option Vv → Mem → Prop} (h : Go (cW d) i_Gr_canBegin (0, 0) K 0 (mkL 2 as) [] m 0 0) (hl : Nat.ble (slL as).length 2 = true := by exact rfl) : cW (d + 1) n_Gr_canBegin as m K := ⟨hl, h⟩
theorem w_Gr_isFigure {d : Nat} {as : List Vv} {m : Mem} {K : Option Vv → Mem → Prop} (h : Go (cW d) i_Gr_isFigure (0, 0) K 0 (mkL 1 as) [] m 0 0) (hl : Nat.ble (slL as).length 1 = true := by exact rfl) : cW (d + 1) n_Gr_isFigure as m K := ⟨hl, h⟩
theorem w_Hr_init {d : Nat} {as : List Vv} {m : Mem} {K : Option Vv → Mem → Prop} (h : Go (cW d) i_Hr_init (1, 8) K 0 (mkL 1 as) [] m 0 0) (hl : Nat.ble (slL as).length 1 = true := by exact rfl) : cW (d + 1) n_Hr_init as m K := ⟨hl, h⟩
theorem w_Hr_becomeLike {d : Nat} {as : List Vv} {m : Mem} {K : Option Vv → Mem → Prop} (h : Go (cW d) i_Hr_becomeLike (0, 0) K 0 (mkL 2 as) [] m 0 0) (hl : Nat.ble (slL as).length 2 = true := by exact rfl) : cW (d + 1) n_Hr_becomeLike as m K := ⟨hl, h⟩
theorem w_Ho_init {d : Nat} {as : List Vv} {m : Mem} {K : Option Vv → Mem → Prop} (h : Go (cW d) i_Ho_init (0, 0) K 0 (mkL 1 as) [] m 0 0) (hl : Nat.ble (slL as).length 1 = true := by exact rfl) : cW (d + 1) n_Ho_init as m K := ⟨hl, h⟩
theorem w_Ho_sound {d : Nat} {as : List Vv} {m : Mem} {K : Option Vv → Mem → Prop} (h : Go (cW d) i_Ho_sound (0, 0) K 0 (mkL 1 as) [] m 0 0) (hl : Nat.ble (slL as).length 1 = true := by exact rfl) : cW (d + 1) n_Ho_sound as m K := ⟨hl, h⟩
theorem w_Ho_isMute {d : Nat} {as : List Vv} {m : Mem} {K : Option Vv → Mem → Prop} (h : Go (cW d) i_Ho_isMute (0, 0) K 0 (mkL 1 as) [] m 0 0) (hl : Nat.ble (slL as).length 1 = true := by exact rfl) : cW (d + 1) n_Ho_isMute as m K := ⟨hl, h⟩
theorem w_Ho_becomeLike {d : Nat} {as : List Vv} {m : Mem} {K : Option Vv → Mem → Prop} (h : Go (cW d) i_Ho_becomeLike (0, 0) K 0 (mkL 2 as) [] m 0 0) (hl : Nat.ble (slL as).length 2 = true := by exact rfl) : cW (d + 1) n_Ho_becomeLike as m K := ⟨hl, h⟩
theorem w_Ki_isOf {d : Nat} {as : List Vv} {m : Mem} {K : Option Vv → Mem → Prop} (h : Go (cW d) i_Ki_isOf (0, 0) K 0 (mkL 2 as) [] m 0 0) (hl : Nat.ble (slL as).length 2 = true := by exact rfl) : cW (d + 1) n_Ki_isOf as m K := ⟨hl, h⟩
theorem w_Ki_byLetter {d : Nat} {as : List Vv} {m : Mem} {K : Option Vv → Mem → Prop} (h : Go (cW d) i_Ki_byLetter (0, 0) K 0 (mkL 1 as) [] m 0 0) (hl : Nat.ble (slL as).length 1 = true := by exact rfl) : cW (d + 1) n_Ki_byLetter as m K := ⟨hl, h⟩
theorem w_Se_init {d : Nat} {as : List Vv} {m : Mem} {K : Option Vv → Mem → Prop} (h : Go (cW d) i_Se_init (3, 768) K 0 (mkL 1 as) [] m 0 0) (hl : Nat.ble (slL as).length 1 = true := by exact rfl) : cW (d + 1) n_Se_init as m K := ⟨hl, h⟩
theorem w_Se_lookAt {d : Nat} {as : List Vv} {m : Mem} {K : Option Vv → Mem → Prop} (h : Go (cW d) i_Se_lookAt (0, 0) K 0 (mkL 3 as) [] m 0 0) (hl : Nat.ble (slL as).length 3 = true := by exact rfl) : cW (d + 1) n_Se_lookAt as m K := ⟨hl, h⟩
theorem w_Se_addHouse {d : Nat} {as : List Vv} {m : Mem} {K : Option Vv → Mem → Prop} (h : Go (cW d) i_Se_addHouse (0, 0) K 0 (mkL 5 as) [] m 0 0) (hl : Nat.ble (slL as).length 5 = true := by exact rfl) : cW (d + 1) n_Se_addHouse as m K := ⟨hl, h⟩
theorem w_Se_ripplesOf {d : Nat} {as : List Vv} {m : Mem} {K : Option Vv → Mem → Prop} (h : Go (cW d) i_Se_ripplesOf (0, 0) K 0 (mkL 2 as) [] m 0 0) (hl : Nat.ble (slL as).length 2 = true := by exact rfl) : cW (d + 1) n_Se_ripplesOf as m K := ⟨hl, h⟩
theorem w_Se_isFitting {d : Nat} {as : List Vv} {m : Mem} {K : Option Vv → Mem → Prop} (h : Go (cW d) i_Se_isFitting (0, 0) K 0 (mkL 3 as) [] m 0 0) (hl : Nat.ble (slL as).length 3 = true := by exact rfl) : cW (d + 1) n_Se_isFitting as m K := ⟨hl, h⟩
theorem w_Se_howManyFit {d : Nat} {as : List Vv} {m : Mem} {K : Option Vv → Mem → Prop} (h : Go (cW d) i_Se_howManyFit (0, 0) K 0 (mkL 4 as) [] m 0 0) (hl : Nat.ble (slL as).length 4 = true := by exact rfl) : cW (d + 1) n_Se_howManyFit as m K := ⟨hl, h⟩
theorem w_Se_howManyFitWith {d : Nat} {as : List Vv} {m : Mem} {K : Option Vv → Mem → Prop} (h : Go (cW d) i_Se_howManyFitWith (0, 0) K 0 (mkL 5 as) [] m 0 0) (hl : Nat.ble (slL as).length 5 = true := by exact rfl) : cW (d + 1) n_Se_howManyFitWith as m K := ⟨hl, h⟩
theorem w_Se_leastFitting {d : Nat} {as : List Vv} {m : Mem} {K : Option Vv → Mem → Prop} (h : Go (cW d) i_Se_leastFitting (0, 0) K 0 (mkL 3 as) [] m 0 0) (hl : Nat.ble (slL as).length 3 = true := by exact rfl) : cW (d + 1) n_Se_leastFitting as m K := ⟨hl, h⟩
theorem w_Se_inAllFitting {d : Nat} {as : List Vv} {m : Mem} {K : Option Vv → Mem → Prop} (h : Go (cW d) i_Se_inAllFitting (0, 0) K 0 (mkL 4 as) [] m 0 0) (hl : Nat.ble (slL as).length 4 = true := by exact rfl) : cW (d + 1) n_Se_inAllFitting as m K := ⟨hl, h⟩
theorem w_Se_inAnyFitting {d : Nat} {as : List Vv} {m : Mem} {K : Option Vv → Mem → Prop} (h : Go (cW d) i_Se_inAnyFitting (0, 0) K 0 (mkL 4 as) [] m 0 0) (hl : Nat.ble (slL as).length 4 = true := by exact rfl) : cW (d + 1) n_Se_inAnyFitting as m K := ⟨hl, h⟩
theorem w_Se_waysToJoin {d : Nat} {as : List Vv} {m : Mem} {K : Option Vv → Mem → Prop} (h : Go (cW d) i_Se_waysToJoin (0, 0) K 0 (mkL 8 as) [] m 0 0) (hl : Nat.ble (slL as).length 8 = true := by exact rfl) : cW (d + 1) n_Se_waysToJoin as m K := ⟨hl, h⟩
theorem w_Se_howManyBeside {d : Nat} {as : List Vv} {m : Mem} {K : Option Vv → Mem → Prop} (h : Go (cW d) i_Se_howManyBeside (0, 0) K 0 (mkL 5 as) [] m 0 0) (hl : Nat.ble (slL as).length 5 = true := by exact rfl) : cW (d + 1) n_Se_howManyBeside as m K := ⟨hl, h⟩
theorem w_Se_unlikeRises {d : Nat} {as : List Vv} {m : Mem} {K : Option Vv → Mem → Prop} (h : Go (cW d) i_Se_unlikeRises (0, 0) K 0 (mkL 4 as) [] m 0 0) (hl : Nat.ble (slL as).length 4 = true := by exact rfl) : cW (d + 1) n_Se_unlikeRises as m K := ⟨hl, h⟩
theorem w_Se_greatestRise {d : Nat} {as : List Vv} {m : Mem} {K : Option Vv → Mem → Prop} (h : Go (cW d) i_Se_greatestRise (0, 0) K 0 (mkL 1 as) [] m 0 0) (hl : Nat.ble (slL as).length 1 = true := by exact rfl) : cW (d + 1) n_Se_greatestRise as m K := ⟨hl, h⟩
theorem w_Se_cheapestSounding {d : Nat} {as : List Vv} {m : Mem} {K : Option Vv → Mem → Prop} (h : Go (cW d) i_Se_cheapestSounding (0, 0) K 0 (mkL 5 as) [] m 0 0) (hl : Nat.ble (slL as).length 5 = true := by exact rfl) : cW (d + 1) n_Se_cheapestSounding as m K := ⟨hl, h⟩
theorem w_Se_mostHouses {d : Nat} {as : List Vv} {m : Mem} {K : Option Vv → Mem → Prop} (h : Go (cW d) i_Se_mostHouses (0, 0) K 0 (mkL 5 as) [] m 0 0) (hl : Nat.ble (slL as).length 5 = true := by exact rfl) : cW (d + 1) n_Se_mostHouses as m K := ⟨hl, h⟩
theorem w_Se_fewestHours {d : Nat} {as : List Vv} {m : Mem} {K : Option Vv → Mem → Prop} (h : Go (cW d) i_Se_fewestHours (0, 0) K 0 (mkL 5 as) [] m 0 0) (hl : Nat.ble (slL as).length 5 = true := by exact rfl) : cW (d + 1) n_Se_fewestHours as m K := ⟨hl, h⟩
theorem w_Se_firstHour {d : Nat} {as : List Vv} {m : Mem} {K : Option Vv → Mem → Prop} (h : Go (cW d) i_Se_firstHour (0, 0) K 0 (mkL 5 as) [] m 0 0) (hl : Nat.ble (slL as).length 5 = true := by exact rfl) : cW (d + 1) n_Se_firstHour as m K := ⟨hl, h⟩
theorem w_Se_fewestPayments {d : Nat} {as : List Vv} {m : Mem} {K : Option Vv → Mem → Prop} (h : Go (cW d) i_Se_fewestPayments (0, 0) K 0 (mkL 5 as) [] m 0 0) (hl : Nat.ble (slL as).length 5 = true := by exact rfl) : cW (d + 1) n_Se_fewestPayments as m K := ⟨hl, h⟩
theorem w_St_init {d : Nat} {as : List Vv} {m : Mem} {K : Option Vv → Mem → Prop} (h : Go (cW d) i_St_init (99, 680) K 0 (mkL 2 as) [] m 0 0) (hl : Nat.ble (slL as).length 2 = true := by exact rfl) : cW (d + 1) n_St_init as m K := ⟨hl, h⟩
theorem w_St_clear {d : Nat} {as : List Vv} {m : Mem} {K : Option Vv → Mem → Prop} (h : Go (cW d) i_St_clear (0, 0) K 0 (mkL 1 as) [] m 0 0) (hl : Nat.ble (slL as).length 1 = true := by exact rfl) : cW (d + 1) n_St_clear as m K := ⟨hl, h⟩
theorem w_St_add {d : Nat} {as : List Vv} {m : Mem} {K : Option Vv → Mem → Prop} (h : Go (cW d) i_St_add (0, 0) K 0 (mkL 6 as) [] m 0 0) (hl : Nat.ble (slL as).length 6 = true := by exact rfl) : cW (d + 1) n_St_add as m K := ⟨hl, h⟩
theorem w_St_becomeLike {d : Nat} {as : List Vv} {m : Mem} {K : Option Vv → Mem → Prop} (h : Go (cW d) i_St_becomeLike (0, 0) K 0 (mkL 3 as) [] m 0 0) (hl : Nat.ble (slL as).length 3 = true := by exact rfl) : cW (d + 1) n_St_becomeLike as m K := ⟨hl, h⟩
theorem w_St_hasHouse {d : Nat} {as : List Vv} {m : Mem} {K : Option Vv → Mem → Prop} (h : Go (cW d) i_St_hasHouse (0, 0) K 0 (mkL 2 as) [] m 0 0) (hl : Nat.ble (slL as).length 2 = true := by exact rfl) : cW (d + 1) n_St_hasHouse as m K := ⟨hl, h⟩
theorem w_St_allHouses {d : Nat} {as : List Vv} {m : Mem} {K : Option Vv → Mem → Prop} (h : Go (cW d) i_St_allHouses (0, 0) K 0 (mkL 1 as) [] m 0 0) (hl : Nat.ble (slL as).length 1 = true := by exact rfl) : cW (d + 1) n_St_allHouses as m K := ⟨hl, h⟩
theorem w_St_hasSet {d : Nat} {as : List Vv} {m : Mem} {K : Option Vv → Mem → Prop} (h : Go (cW d) i_St_hasSet (0, 0) K 0 (mkL 2 as) [] m 0 0) (hl : Nat.ble (slL as).length 2 = true := by exact rfl) : cW (d + 1) n_St_hasSet as m K := ⟨hl, h⟩
theorem w_St_distance {d : Nat} {as : List Vv} {m : Mem} {K : Option Vv → Mem → Prop} (h : Go (cW d) i_St_distance (0, 0) K 0 (mkL 2 as) [] m 0 0) (hl : Nat.ble (slL as).length 2 = true := by exact rfl) : cW (d + 1) n_St_distance as m K := ⟨hl, h⟩
theorem w_St_ripple {d : Nat} {as : List Vv} {m : Mem} {K : Option Vv → Mem → Prop} (h : Go (cW d) i_St_ripple (0, 0) K 0 (mkL 2 as) [] m 0 0) (hl : Nat.ble (slL as).length 2 = true := by exact rfl) : cW (d + 1) n_St_ripple as m K := ⟨hl, h⟩
theorem w_St_ripplesOf {d : Nat} {as : List Vv} {m : Mem} {K : Option Vv → Mem → Prop} (h : Go (cW d) i_St_ripplesOf (0, 0) K 0 (mkL 4 as) [] m 0 0) (hl : Nat.ble (slL as).length 4 = true := by exact rfl) : cW (d + 1) n_St_ripplesOf as m K := ⟨hl, h⟩
theorem w_St_trait {d : Nat} {as : List Vv} {m : Mem} {K : Option Vv → Mem → Prop} (h : Go (cW d) i_St_trait (0, 0) K 0 (mkL 3 as) [] m 0 0) (hl : Nat.ble (slL as).length 3 = true := by exact rfl) : cW (d + 1) n_St_trait as m K := ⟨hl, h⟩
theorem w_St_lesserRipples {d : Nat} {as : List Vv} {m : Mem} {K : Option Vv → Mem → Prop} (h : Go (cW d) i_St_lesserRipples (0, 0) K 0 (mkL 4 as) [] m 0 0) (hl : Nat.ble (slL as).length 4 = true := by exact rfl) : cW (d + 1) n_St_lesserRipples as m K := ⟨hl, h⟩
theorem w_St_howManyOf {d : Nat} {as : List Vv} {m : Mem} {K : Option Vv → Mem → Prop} (h : Go (cW d) i_St_howManyOf (0, 0) K 0 (mkL 4 as) [] m 0 0) (hl : Nat.ble (slL as).length 4 = true := by exact rfl) : cW (d + 1) n_St_howManyOf as m K := ⟨hl, h⟩
theorem w_St_rippleMostBehind {d : Nat} {as : List Vv} {m : Mem} {K : Option Vv → Mem → Prop} (h : Go (cW d) i_St_rippleMostBehind (0, 0) K 0 (mkL 7 as) [] m 0 0) (hl : Nat.ble (slL as).length 7 = true := by exact rfl) : cW (d + 1) n_St_rippleMostBehind as m K := ⟨hl, h⟩
theorem w_St_leaked {d : Nat} {as : List Vv} {m : Mem} {K : Option Vv → Mem → Prop} (h : Go (cW d) i_St_leaked (0, 0) K 0 (mkL 2 as) [] m 0 0) (hl : Nat.ble (slL as).length 2 = true := by exact rfl) : cW (d + 1) n_St_leaked as m K := ⟨hl, h⟩
theorem w_St_ring {d : Nat} {as : List Vv} {m : Mem} {K : Option Vv → Mem → Prop} (h : Go (cW d) i_St_ring (0, 0) K 0 (mkL 5 as) [] m 0 0) (hl : Nat.ble (slL as).length 5 = true := by exact rfl) : cW (d + 1) n_St_ring as m K := ⟨hl, h⟩
theorem w_St_goBackTo {d : Nat} {as : List Vv} {m : Mem} {K : Option Vv → Mem → Prop} (h : Go (cW d) i_St_goBackTo (0, 0) K 0 (mkL 4 as) [] m 0 0) (hl : Nat.ble (slL as).length 4 = true := by exact rfl) : cW (d + 1) n_St_goBackTo as m K := ⟨hl, h⟩
theorem w_St_isExempt {d : Nat} {as : List Vv} {m : Mem} {K : Option Vv → Mem → Prop} (h : Go (cW d) i_St_isExempt (0, 0) K 0 (mkL 2 as) [] m 0 0) (hl : Nat.ble (slL as).length 2 = true := by exact rfl) : cW (d + 1) n_St_isExempt as m K := ⟨hl, h⟩
theorem w_St_howManyExempt {d : Nat} {as : List Vv} {m : Mem} {K : Option Vv → Mem → Prop} (h : Go (cW d) i_St_howManyExempt (0, 0) K 0 (mkL 3 as) [] m 0 0) (hl : Nat.ble (slL as).length 3 = true := by exact rfl) : cW (d + 1) n_St_howManyExempt as m K := ⟨hl, h⟩
theorem w_St_titheOf {d : Nat} {as : List Vv} {m : Mem} {K : Option Vv → Mem → Prop} (h : Go (cW d) i_St_titheOf (0, 0) K 0 (mkL 2 as) [] m 0 0) (hl : Nat.ble (slL as).length 2 = true := by exact rfl) : cW (d + 1) n_St_titheOf as m K := ⟨hl, h⟩
theorem w_St_owedBy {d : Nat} {as : List Vv} {m : Mem} {K : Option Vv → Mem → Prop} (h : Go (cW d) i_St_owedBy (0, 0) K 0 (mkL 4 as) [] m 0 0) (hl : Nat.ble (slL as).length 4 = true := by exact rfl) : cW (d + 1) n_St_owedBy as m K := ⟨hl, h⟩
theorem w_St_balanceOf {d : Nat} {as : List Vv} {m : Mem} {K : Option Vv → Mem → Prop} (h : Go (cW d) i_St_balanceOf (0, 0) K 0 (mkL 4 as) [] m 0 0) (hl : Nat.ble (slL as).length 4 = true := by exact rfl) : cW (d + 1) n_St_balanceOf as m K := ⟨hl, h⟩
theorem w_St_netDebts {d : Nat} {as : List Vv} {m : Mem} {K : Option Vv → Mem → Prop} (h : Go (cW d) i_St_netDebts (0, 0) K 0 (mkL 5 as) [] m 0 0) (hl : Nat.ble (slL as).length 5 = true := by exact rfl) : cW (d + 1) n_St_netDebts as m K := ⟨hl, h⟩
theorem w_St_mixedInto {d : Nat} {as : List Vv} {m : Mem} {K : Option Vv → Mem → Prop} (h : Go (cW d) i_St_mixedInto (0, 0) K 0 (mkL 7 as) [] m 0 0) (hl : Nat.ble (slL as).length 7 = true := by exact rfl) : cW (d + 1) n_St_mixedInto as m K := ⟨hl, h⟩
theorem w_X_init {d : Nat} {as : List Vv} {m : Mem} {K : Option Vv → Mem → Prop} (h : Go (cW d) i_X_init (429, 4371) K 0 (mkL 2 as) [] m 0 0) (hl : Nat.ble (slL as).length 2 = true := by exact rfl) : cW (d + 1) n_X_init as m K := ⟨hl, h⟩
theorem w_X_row {d : Nat} {as : List Vv} {m : Mem} {K : Option Vv → Mem → Prop} (h : Go (cW d) i_X_row (0, 0) K 0 (mkL 3 as) [] m 0 0) (hl : Nat.ble (slL as).length 3 = true := by exact rfl) : cW (d + 1) n_X_row as m K := ⟨hl, h⟩
theorem w_X_lay {d : Nat} {as : List Vv} {m : Mem} {K : Option Vv → Mem → Prop} (h : Go (cW d) i_X_lay (0, 0) K 0 (mkL 6 as) [] m 0 0) (hl : Nat.ble (slL as).length 6 = true := by exact rfl) : cW (d + 1) n_X_lay as m K := ⟨hl, h⟩
theorem w_X_at {d : Nat} {as : List Vv} {m : Mem} {K : Option Vv → Mem → Prop} (h : Go (cW d) i_X_at (0, 0) K 0 (mkL 4 as) [] m 0 0) (hl : Nat.ble (slL as).length 4 = true := by exact rfl) : cW (d + 1) n_X_at as m K := ⟨hl, h⟩
theorem w_X_tear {d : Nat} {as : List Vv} {m : Mem} {K : Option Vv → Mem → Prop} (h : Go (cW d) i_X_tear (0, 0) K 0 (mkL 2 as) [] m 0 0) (hl : Nat.ble (slL as).length 2 = true := by exact rfl) : cW (d + 1) n_X_tear as m K := ⟨hl, h⟩
theorem w_X_copy {d : Nat} {as : List Vv} {m : Mem} {K : Option Vv → Mem → Prop} (h : Go (cW d) i_X_copy (0, 0) K 0 (mkL 6 as) [] m 0 0) (hl : Nat.ble (slL as).length 6 = true := by exact rfl) : cW (d + 1) n_X_copy as m K := ⟨hl, h⟩
theorem w_X_mean {d : Nat} {as : List Vv} {m : Mem} {K : Option Vv → Mem → Prop} (h : Go (cW d) i_X_mean (0, 0) K 0 (mkL 3 as) [] m 0 0) (hl : Nat.ble (slL as).length 3 = true := by exact rfl) : cW (d + 1) n_X_mean as m K := ⟨hl, h⟩
theorem w_X_text {d : Nat} {as : List Vv} {m : Mem} {K : Option Vv → Mem → Prop} (h : Go (cW d) i_X_text (0, 0) K 0 (mkL 3 as) [] m 0 0) (hl : Nat.ble (slL as).length 3 = true := by exact rfl) : cW (d + 1) n_X_text as m K := ⟨hl, h⟩
theorem w_X_put {d : Nat} {as : List Vv} {m : Mem} {K : Option Vv → Mem → Prop} (h : Go (cW d) i_X_put (0, 0) K 0 (mkL 6 as) [] m 0 0) (hl : Nat.ble (slL as).length 6 = true := by exact rfl) : cW (d + 1) n_X_put as m K := ⟨hl, h⟩
theorem w_X_fault {d : Nat} {as : List Vv} {m : Mem} {K : Option Vv → Mem → Prop} (h : Go (cW d) i_X_fault (0, 0) K 0 (mkL 2 as) [] m 0 0) (hl : Nat.ble (slL as).length 2 = true := by exact rfl) : cW (d + 1) n_X_fault as m K := ⟨hl, h⟩
theorem w_X_street {d : Nat} {as : List Vv} {m : Mem} {K : Option Vv → Mem → Prop} (h : Go (cW d) i_X_street (0, 0) K 0 (mkL 3 as) [] m 0 0) (hl : Nat.ble (slL as).length 3 = true := by exact rfl) : cW (d + 1) n_X_street as m K := ⟨hl, h⟩
theorem w_X_house {d : Nat} {as : List Vv} {m : Mem} {K : Option Vv → Mem → Prop} (h : Go (cW d) i_X_house (0, 0) K 0 (mkL 3 as) [] m 0 0) (hl : Nat.ble (slL as).length 3 = true := by exact rfl) : cW (d + 1) n_X_house as m K := ⟨hl, h⟩
theorem w_X_mark {d : Nat} {as : List Vv} {m : Mem} {K : Option Vv → Mem → Prop} (h : Go (cW d) i_X_mark (0, 0) K 0 (mkL 4 as) [] m 0 0) (hl : Nat.ble (slL as).length 4 = true := by exact rfl) : cW (d + 1) n_X_mark as m K := ⟨hl, h⟩
theorem w_X_altar {d : Nat} {as : List Vv} {m : Mem} {K : Option Vv → Mem → Prop} (h : Go (cW d) i_X_altar (0, 0) K 0 (mkL 3 as) [] m 0 0) (hl : Nat.ble (slL as).length 3 = true := by exact rfl) : cW (d + 1) n_X_altar as m K := ⟨hl, h⟩
theorem w_X_wall {d : Nat} {as : List Vv} {m : Mem} {K : Option Vv → Mem → Prop} (h : Go (cW d) i_X_wall (0, 0) K 0 (mkL 4 as) [] m 0 0) (hl : Nat.ble (slL as).length 4 = true := by exact rfl) : cW (d + 1) n_X_wall as m K := ⟨hl, h⟩
theorem w_X_hour {d : Nat} {as : List Vv} {m : Mem} {K : Option Vv → Mem → Prop} (h : Go (cW d) i_X_hour (0, 0) K 0 (mkL 3 as) [] m 0 0) (hl : Nat.ble (slL as).length 3 = true := by exact rfl) : cW (d + 1) n_X_hour as m K := ⟨hl, h⟩
theorem w_X_undo {d : Nat} {as : List Vv} {m : Mem} {K : Option Vv → Mem → Prop} (h : Go (cW d) i_X_undo (0, 0) K 0 (mkL 3 as) [] m 0 0) (hl : Nat.ble (slL as).length 3 = true := by exact rfl) : cW (d + 1) n_X_undo as m K := ⟨hl, h⟩
theorem w_X_jar {d : Nat} {as : List Vv} {m : Mem} {K : Option Vv → Mem → Prop} (h : Go (cW d) i_X_jar (0, 0) K 0 (mkL 1 as) [] m 0 0) (hl : Nat.ble (slL as).length 1 = true := by exact rfl) : cW (d + 1) n_X_jar as m K := ⟨hl, h⟩
theorem w_X_loud {d : Nat} {as : List Vv} {m : Mem} {K : Option Vv → Mem → Prop} (h : Go (cW d) i_X_loud (0, 0) K 0 (mkL 2 as) [] m 0 0) (hl : Nat.ble (slL as).length 2 = true := by exact rfl) : cW (d + 1) n_X_loud as m K := ⟨hl, h⟩
theorem w_X_made {d : Nat} {as : List Vv} {m : Mem} {K : Option Vv → Mem → Prop} (h : Go (cW d) i_X_made (0, 0) K 0 (mkL 2 as) [] m 0 0) (hl : Nat.ble (slL as).length 2 = true := by exact rfl) : cW (d + 1) n_X_made as m K := ⟨hl, h⟩
theorem w_X_tithe {d : Nat} {as : List Vv} {m : Mem} {K : Option Vv → Mem → Prop} (h : Go (cW d) i_X_tithe (0, 0) K 0 (mkL 2 as) [] m 0 0) (hl : Nat.ble (slL as).length 2 = true := by exact rfl) : cW (d + 1) n_X_tithe as m K := ⟨hl, h⟩
theorem w_X_pay {d : Nat} {as : List Vv} {m : Mem} {K : Option Vv → Mem → Prop} (h : Go (cW d) i_X_pay (0, 0) K 0 (mkL 4 as) [] m 0 0) (hl : Nat.ble (slL as).length 4 = true := by exact rfl) : cW (d + 1) n_X_pay as m K := ⟨hl, h⟩
theorem w_X_due {d : Nat} {as : List Vv} {m : Mem} {K : Option Vv → Mem → Prop} (h : Go (cW d) i_X_due (0, 0) K 0 (mkL 6 as) [] m 0 0) (hl : Nat.ble (slL as).length 6 = true := by exact rfl) : cW (d + 1) n_X_due as m K := ⟨hl, h⟩
theorem w_X_keep {d : Nat} {as : List Vv} {m : Mem} {K : Option Vv → Mem → Prop} (h : Go (cW d) i_X_keep (0, 0) K 0 (mkL 2 as) [] m 0 0) (hl : Nat.ble (slL as).length 2 = true := by exact rfl) : cW (d + 1) n_X_keep as m K := ⟨hl, h⟩
theorem w_X_on {d : Nat} {as : List Vv} {m : Mem} {K : Option Vv → Mem → Prop} (h : Go (cW d) i_X_on (0, 0) K 0 (mkL 2 as) [] m 0 0) (hl : Nat.ble (slL as).length 2 = true := by exact rfl) : cW (d + 1) n_X_on as m K := ⟨hl, h⟩
theorem w_X_fits {d : Nat} {as : List Vv} {m : Mem} {K : Option Vv → Mem → Prop} (h : Go (cW d) i_X_fits (0, 0) K 0 (mkL 3 as) [] m 0 0) (hl : Nat.ble (slL as).length 3 = true := by exact rfl) : cW (d + 1) n_X_fits as m K := ⟨hl, h⟩
theorem w_X_sure {d : Nat} {as : List Vv} {m : Mem} {K : Option Vv → Mem → Prop} (h : Go (cW d) i_X_sure (0, 0) K 0 (mkL 2 as) [] m 0 0) (hl : Nat.ble (slL as).length 2 = true := by exact rfl) : cW (d + 1) n_X_sure as m K := ⟨hl, h⟩
theorem w_X_odds {d : Nat} {as : List Vv} {m : Mem} {K : Option Vv → Mem → Prop} (h : Go (cW d) i_X_odds (0, 0) K 0 (mkL 5 as) [] m 0 0) (hl : Nat.ble (slL as).length 5 = true := by exact rfl) : cW (d + 1) n_X_odds as m K := ⟨hl, h⟩
theorem w_X_thunder {d : Nat} {as : List Vv} {m : Mem} {K : Option Vv → Mem → Prop} (h : Go (cW d) i_X_thunder (0, 0) K 0 (mkL 5 as) [] m 0 0) (hl : Nat.ble (slL as).length 5 = true := by exact rfl) : cW (d + 1) n_X_thunder as m K := ⟨hl, h⟩
theorem w_X_joined {d : Nat} {as : List Vv} {m : Mem} {K : Option Vv → Mem → Prop} (h : Go (cW d) i_X_joined (0, 0) K 0 (mkL 4 as) [] m 0 0) (hl : Nat.ble (slL as).length 4 = true := by exact rfl) : cW (d + 1) n_X_joined as m K := ⟨hl, h⟩
theorem w_X_silence {d : Nat} {as : List Vv} {m : Mem} {K : Option Vv → Mem → Prop} (h : Go (cW d) i_X_silence (0, 0) K 0 (mkL 7 as) [] m 0 0) (hl : Nat.ble (slL as).length 7 = true := by exact rfl) : cW (d + 1) n_X_silence as m K := ⟨hl, h⟩
theorem w_X_rises {d : Nat} {as : List Vv} {m : Mem} {K : Option Vv → Mem → Prop} (h : Go (cW d) i_X_rises (0, 0) K 0 (mkL 1 as) [] m 0 0) (hl : Nat.ble (slL as).length 1 = true := by exact rfl) : cW (d + 1) n_X_rises as m K := ⟨hl, h⟩
theorem w_X_wedding {d : Nat} {as : List Vv} {m : Mem} {K : Option Vv → Mem → Prop} (h : Go (cW d) i_X_wedding (0, 0) K 0 (mkL 3 as) [] m 0 0) (hl : Nat.ble (slL as).length 3 = true := by exact rfl) : cW (d + 1) n_X_wedding as m K := ⟨hl, h⟩
theorem w_X_feathers {d : Nat} {as : List Vv} {m : Mem} {K : Option Vv → Mem → Prop} (h : Go (cW d) i_X_feathers (0, 0) K 0 (mkL 8 as) [] m 0 0) (hl : Nat.ble (slL as).length 8 = true := by exact rfl) : cW (d + 1) n_X_feathers as m K := ⟨hl, h⟩
theorem w_X_most {d : Nat} {as : List Vv} {m : Mem} {K : Option Vv → Mem → Prop} (h : Go (cW d) i_X_most (0, 0) K 0 (mkL 2 as) [] m 0 0) (hl : Nat.ble (slL as).length 2 = true := by exact rfl) : cW (d + 1) n_X_most as m K := ⟨hl, h⟩
theorem w_X_hours {d : Nat} {as : List Vv} {m : Mem} {K : Option Vv → Mem → Prop} (h : Go (cW d) i_X_hours (0, 0) K 0 (mkL 4 as) [] m 0 0) (hl : Nat.ble (slL as).length 4 = true := by exact rfl) : cW (d + 1) n_X_hours as m K := ⟨hl, h⟩
theorem w_X_year {d : Nat} {as : List Vv} {m : Mem} {K : Option Vv → Mem → Prop} (h : Go (cW d) i_X_year (0, 0) K 0 (mkL 6 as) [] m 0 0) (hl : Nat.ble (slL as).length 6 = true := by exact rfl) : cW (d + 1) n_X_year as m K := ⟨hl, h⟩
theorem w_X_debt {d : Nat} {as : List Vv} {m : Mem} {K : Option Vv → Mem → Prop} (h : Go (cW d) i_X_debt (0, 0) K 0 (mkL 5 as) [] m 0 0) (hl : Nat.ble (slL as).length 5 = true := by exact rfl) : cW (d + 1) n_X_debt as m K := ⟨hl, h⟩
theorem w_X_balance {d : Nat} {as : List Vv} {m : Mem} {K : Option Vv → Mem → Prop} (h : Go (cW d) i_X_balance (0, 0) K 0 (mkL 2 as) [] m 0 0) (hl : Nat.ble (slL as).length 2 = true := by exact rfl) : cW (d + 1) n_X_balance as m K := ⟨hl, h⟩
theorem w_X_payments {d : Nat} {as : List Vv} {m : Mem} {K : Option Vv → Mem → Prop} (h : Go (cW d) i_X_payments (0, 0) K 0 (mkL 1 as) [] m 0 0) (hl : Nat.ble (slL as).length 1 = true := by exact rfl) : cW (d + 1) n_X_payments as m K := ⟨hl, h⟩
theorem w_X_net {d : Nat} {as : List Vv} {m : Mem} {K : Option Vv → Mem → Prop} (h : Go (cW d) i_X_net (0, 0) K 0 (mkL 1 as) [] m 0 0) (hl : Nat.ble (slL as).length 1 = true := by exact rfl) : cW (d + 1) n_X_net as m K := ⟨hl, h⟩
theorem w_X_crickets {d : Nat} {as : List Vv} {m : Mem} {K : Option Vv → Mem → Prop} (h : Go (cW d) i_X_crickets (0, 0) K 0 (mkL 10 as) [] m 0 0) (hl : Nat.ble (slL as).length 10 = true := by exact rfl) : cW (d + 1) n_X_crickets as m K := ⟨hl, h⟩
theorem w_X_sings {d : Nat} {as : List Vv} {m : Mem} {K : Option Vv → Mem → Prop} (h : Go (cW d) i_X_sings (0, 0) K 0 (mkL 6 as) [] m 0 0) (hl : Nat.ble (slL as).length 6 = true := by exact rfl) : cW (d + 1) n_X_sings as m K := ⟨hl, h⟩
theorem w_X_asked {d : Nat} {as : List Vv} {m : Mem} {K : Option Vv → Mem → Prop} (h : Go (cW d) i_X_asked (0, 0) K 0 (mkL 1 as) [] m 0 0) (hl : Nat.ble (slL as).length 1 = true := by exact rfl) : cW (d + 1) n_X_asked as m K := ⟨hl, h⟩
theorem w_X_upper {d : Nat} {as : List Vv} {m : Mem} {K : Option Vv → Mem → Prop} (h : Go (cW d) i_X_upper (0, 0) K 0 (mkL 1 as) [] m 0 0) (hl : Nat.ble (slL as).length 1 = true := by exact rfl) : cW (d + 1) n_X_upper as m K := ⟨hl, h⟩
theorem w_X_lower {d : Nat} {as : List Vv} {m : Mem} {K : Option Vv → Mem → Prop} (h : Go (cW d) i_X_lower (0, 0) K 0 (mkL 1 as) [] m 0 0) (hl : Nat.ble (slL as).length 1 = true := by exact rfl) : cW (d + 1) n_X_lower as m K := ⟨hl, h⟩
theorem w_X_count {d : Nat} {as : List Vv} {m : Mem} {K : Option Vv → Mem → Prop} (h : Go (cW d) i_X_count (0, 0) K 0 (mkL 2 as) [] m 0 0) (hl : Nat.ble (slL as).length 2 = true := by exact rfl) : cW (d + 1) n_X_count as m K := ⟨hl, h⟩
theorem w_X_finding {d : Nat} {as : List Vv} {m : Mem} {K : Option Vv → Mem → Prop} (h : Go (cW d) i_X_finding (0, 0) K 0 (mkL 1 as) [] m 0 0) (hl : Nat.ble (slL as).length 1 = true := by exact rfl) : cW (d + 1) n_X_finding as m K := ⟨hl, h⟩
theorem w_X_findings {d : Nat} {as : List Vv} {m : Mem} {K : Option Vv → Mem → Prop} (h : Go (cW d) i_X_findings (0, 0) K 0 (mkL 2 as) [] m 0 0) (hl : Nat.ble (slL as).length 2 = true := by exact rfl) : cW (d + 1) n_X_findings as m K := ⟨hl, h⟩
theorem w_X_digest {d : Nat} {as : List Vv} {m : Mem} {K : Option Vv → Mem → Prop} (h : Go (cW d) i_X_digest (0, 0) K 0 (mkL 4 as) [] m 0 0) (hl : Nat.ble (slL as).length 4 = true := by exact rfl) : cW (d + 1) n_X_digest as m K := ⟨hl, h⟩
theorem w_X_tell {d : Nat} {as : List Vv} {m : Mem} {K : Option Vv → Mem → Prop} (h : Go (cW d) i_X_tell (0, 0) K 0 (mkL 3 as) [] m 0 0) (hl : Nat.ble (slL as).length 3 = true := by exact rfl) : cW (d + 1) n_X_tell as m K := ⟨hl, h⟩
theorem w_X_found {d : Nat} {as : List Vv} {m : Mem} {K : Option Vv → Mem → Prop} (h : Go (cW d) i_X_found (0, 0) K 0 (mkL 2 as) [] m 0 0) (hl : Nat.ble (slL as).length 2 = true := by exact rfl) : cW (d + 1) n_X_found as m K := ⟨hl, h⟩
theorem w_X_refusalOfPlace {d : Nat} {as : List Vv} {m : Mem} {K : Option Vv → Mem → Prop} (h : Go (cW d) i_X_refusalOfPlace (0, 0) K 0 (mkL 3 as) [] m 0 0) (hl : Nat.ble (slL as).length 3 = true := by exact rfl) : cW (d + 1) n_X_refusalOfPlace as m K := ⟨hl, h⟩
theorem w_X_isRow {d : Nat} {as : List Vv} {m : Mem} {K : Option Vv → Mem → Prop} (h : Go (cW d) i_X_isRow (0, 0) K 0 (mkL 2 as) [] m 0 0) (hl : Nat.ble (slL as).length 2 = true := by exact rfl) : cW (d + 1) n_X_isRow as m K := ⟨hl, h⟩
theorem w_X_isText {d : Nat} {as : List Vv} {m : Mem} {K : Option Vv → Mem → Prop} (h : Go (cW d) i_X_isText (0, 0) K 0 (mkL 2 as) [] m 0 0) (hl : Nat.ble (slL as).length 2 = true := by exact rfl) : cW (d + 1) n_X_isText as m K := ⟨hl, h⟩
theorem w_X_isKeptPlace {d : Nat} {as : List Vv} {m : Mem} {K : Option Vv → Mem → Prop} (h : Go (cW d) i_X_isKeptPlace (0, 0) K 0 (mkL 2 as) [] m 0 0) (hl : Nat.ble (slL as).length 2 = true := by exact rfl) : cW (d + 1) n_X_isKeptPlace as m K := ⟨hl, h⟩
theorem w_X_howManyKept {d : Nat} {as : List Vv} {m : Mem} {K : Option Vv → Mem → Prop} (h : Go (cW d) i_X_howManyKept (0, 0) K 0 (mkL 3 as) [] m 0 0) (hl : Nat.ble (slL as).length 3 = true := by exact rfl) : cW (d + 1) n_X_howManyKept as m K := ⟨hl, h⟩
theorem w_X_isMissing {d : Nat} {as : List Vv} {m : Mem} {K : Option Vv → Mem → Prop} (h : Go (cW d) i_X_isMissing (0, 0) K 0 (mkL 1 as) [] m 0 0) (hl : Nat.ble (slL as).length 1 = true := by exact rfl) : cW (d + 1) n_X_isMissing as m K := ⟨hl, h⟩
theorem w_X_howManyThere {d : Nat} {as : List Vv} {m : Mem} {K : Option Vv → Mem → Prop} (h : Go (cW d) i_X_howManyThere (0, 0) K 0 (mkL 3 as) [] m 0 0) (hl : Nat.ble (slL as).length 3 = true := by exact rfl) : cW (d + 1) n_X_howManyThere as m K := ⟨hl, h⟩
theorem w_X_isWithin {d : Nat} {as : List Vv} {m : Mem} {K : Option Vv → Mem → Prop} (h : Go (cW d) i_X_isWithin (0, 0) K 0 (mkL 3 as) [] m 0 0) (hl : Nat.ble (slL as).length 3 = true := by exact rfl) : cW (d + 1) n_X_isWithin as m K := ⟨hl, h⟩
theorem w_X_isRise {d : Nat} {as : List Vv} {m : Mem} {K : Option Vv → Mem → Prop} (h : Go (cW d) i_X_isRise (0, 0) K 0 (mkL 1 as) [] m 0 0) (hl : Nat.ble (slL as).length 1 = true := by exact rfl) : cW (d + 1) n_X_isRise as m K := ⟨hl, h⟩
theorem w_X_contains {d : Nat} {as : List Vv} {m : Mem} {K : Option Vv → Mem → Prop} (h : Go (cW d) i_X_contains (0, 0) K 0 (mkL 2 as) [] m 0 0) (hl : Nat.ble (slL as).length 2 = true := by exact rfl) : cW (d + 1) n_X_contains as m K := ⟨hl, h⟩
theorem w_X_lotBehind {d : Nat} {as : List Vv} {m : Mem} {K : Option Vv → Mem → Prop} (h : Go (cW d) i_X_lotBehind (0, 0) K 0 (mkL 1 as) [] m 0 0) (hl : Nat.ble (slL as).length 1 = true := by exact rfl) : cW (d + 1) n_X_lotBehind as m K := ⟨hl, h⟩
theorem w_X_mixed {d : Nat} {as : List Vv} {m : Mem} {K : Option Vv → Mem → Prop} (h : Go (cW d) i_X_mixed (0, 0) K 0 (mkL 4 as) [] m 0 0) (hl : Nat.ble (slL as).length 4 = true := by exact rfl) : cW (d + 1) n_X_mixed as m K := ⟨hl, h⟩
theorem w_M_init {d : Nat} {as : List Vv} {m : Mem} {K : Option Vv → Mem → Prop} (h : Go (cW d) i_M_init (19, 3652) K 0 (mkL 2 as) [] m 0 0) (hl : Nat.ble (slL as).length 2 = true := by exact rfl) : cW (d + 1) n_M_init as m K := ⟨hl, h⟩
theorem w_M_in {d : Nat} {as : List Vv} {m : Mem} {K : Option Vv → Mem → Prop} (h : Go (cW d) i_M_in (0, 0) K 0 (mkL 3 as) [] m 0 0) (hl : Nat.ble (slL as).length 3 = true := by exact rfl) : cW (d + 1) n_M_in as m K := ⟨hl, h⟩
theorem w_M_meet {d : Nat} {as : List Vv} {m : Mem} {K : Option Vv → Mem → Prop} (h : Go (cW d) i_M_meet (0, 0) K 0 (mkL 2 as) [] m 0 0) (hl : Nat.ble (slL as).length 2 = true := by exact rfl) : cW (d + 1) n_M_meet as m K := ⟨hl, h⟩
theorem w_M_ask {d : Nat} {as : List Vv} {m : Mem} {K : Option Vv → Mem → Prop} (h : Go (cW d) i_M_ask (0, 0) K 0 (mkL 3 as) [] m 0 0) (hl : Nat.ble (slL as).length 3 = true := by exact rfl) : cW (d + 1) n_M_ask as m K := ⟨hl, h⟩
theorem w_M_part {d : Nat} {as : List Vv} {m : Mem} {K : Option Vv → Mem → Prop} (h : Go (cW d) i_M_part (0, 0) K 0 (mkL 12 as) [] m 0 0) (hl : Nat.ble (slL as).length 12 = true := by exact rfl) : cW (d + 1) n_M_part as m K := ⟨hl, h⟩
theorem w_M_has {d : Nat} {as : List Vv} {m : Mem} {K : Option Vv → Mem → Prop} (h : Go (cW d) i_M_has (0, 0) K 0 (mkL 2 as) [] m 0 0) (hl : Nat.ble (slL as).length 2 = true := by exact rfl) : cW (d + 1) n_M_has as m K := ⟨hl, h⟩
theorem w_M_sizeOf {d : Nat} {as : List Vv} {m : Mem} {K : Option Vv → Mem → Prop} (h : Go (cW d) i_M_sizeOf (0, 0) K 0 (mkL 3 as) [] m 0 0) (hl : Nat.ble (slL as).length 3 = true := by exact rfl) : cW (d + 1) n_M_sizeOf as m K := ⟨hl, h⟩
theorem w_M_isRow {d : Nat} {as : List Vv} {m : Mem} {K : Option Vv → Mem → Prop} (h : Go (cW d) i_M_isRow (0, 0) K 0 (mkL 1 as) [] m 0 0) (hl : Nat.ble (slL as).length 1 = true := by exact rfl) : cW (d + 1) n_M_isRow as m K := ⟨hl, h⟩
theorem w_M_isText {d : Nat} {as : List Vv} {m : Mem} {K : Option Vv → Mem → Prop} (h : Go (cW d) i_M_isText (0, 0) K 0 (mkL 1 as) [] m 0 0) (hl : Nat.ble (slL as).length 1 = true := by exact rfl) : cW (d + 1) n_M_isText as m K := ⟨hl, h⟩
theorem w_M_askedRow {d : Nat} {as : List Vv} {m : Mem} {K : Option Vv → Mem → Prop} (h : Go (cW d) i_M_askedRow (0, 0) K 0 (mkL 2 as) [] m 0 0) (hl : Nat.ble (slL as).length 2 = true := by exact rfl) : cW (d + 1) n_M_askedRow as m K := ⟨hl, h⟩
theorem w_M_askedText {d : Nat} {as : List Vv} {m : Mem} {K : Option Vv → Mem → Prop} (h : Go (cW d) i_M_askedText (0, 0) K 0 (mkL 2 as) [] m 0 0) (hl : Nat.ble (slL as).length 2 = true := by exact rfl) : cW (d + 1) n_M_askedText as m K := ⟨hl, h⟩
theorem w_M_rowAt {d : Nat} {as : List Vv} {m : Mem} {K : Option Vv → Mem → Prop} (h : Go (cW d) i_M_rowAt (0, 0) K 0 (mkL 3 as) [] m 0 0) (hl : Nat.ble (slL as).length 3 = true := by exact rfl) : cW (d + 1) n_M_rowAt as m K := ⟨hl, h⟩
theorem w_M_setRow {d : Nat} {as : List Vv} {m : Mem} {K : Option Vv → Mem → Prop} (h : Go (cW d) i_M_setRow (0, 0) K 0 (mkL 4 as) [] m 0 0) (hl : Nat.ble (slL as).length 4 = true := by exact rfl) : cW (d + 1) n_M_setRow as m K := ⟨hl, h⟩
theorem w_M_row {d : Nat} {as : List Vv} {m : Mem} {K : Option Vv → Mem → Prop} (h : Go (cW d) i_M_row (0, 0) K 0 (mkL 4 as) [] m 0 0) (hl : Nat.ble (slL as).length 4 = true := by exact rfl) : cW (d + 1) n_M_row as m K := ⟨hl, h⟩
theorem w_M_at {d : Nat} {as : List Vv} {m : Mem} {K : Option Vv → Mem → Prop} (h : Go (cW d) i_M_at (0, 0) K 0 (mkL 4 as) [] m 0 0) (hl : Nat.ble (slL as).length 4 = true := by exact rfl) : cW (d + 1) n_M_at as m K := ⟨hl, h⟩
theorem w_M_lay {d : Nat} {as : List Vv} {m : Mem} {K : Option Vv → Mem → Prop} (h : Go (cW d) i_M_lay (0, 0) K 0 (mkL 5 as) [] m 0 0) (hl : Nat.ble (slL as).length 5 = true := by exact rfl) : cW (d + 1) n_M_lay as m K := ⟨hl, h⟩
theorem w_M_tear {d : Nat} {as : List Vv} {m : Mem} {K : Option Vv → Mem → Prop} (h : Go (cW d) i_M_tear (0, 0) K 0 (mkL 3 as) [] m 0 0) (hl : Nat.ble (slL as).length 3 = true := by exact rfl) : cW (d + 1) n_M_tear as m K := ⟨hl, h⟩
theorem w_M_copy {d : Nat} {as : List Vv} {m : Mem} {K : Option Vv → Mem → Prop} (h : Go (cW d) i_M_copy (0, 0) K 0 (mkL 7 as) [] m 0 0) (hl : Nat.ble (slL as).length 7 = true := by exact rfl) : cW (d + 1) n_M_copy as m K := ⟨hl, h⟩
theorem w_M_mean {d : Nat} {as : List Vv} {m : Mem} {K : Option Vv → Mem → Prop} (h : Go (cW d) i_M_mean (0, 0) K 0 (mkL 6 as) [] m 0 0) (hl : Nat.ble (slL as).length 6 = true := by exact rfl) : cW (d + 1) n_M_mean as m K := ⟨hl, h⟩
theorem w_M_text {d : Nat} {as : List Vv} {m : Mem} {K : Option Vv → Mem → Prop} (h : Go (cW d) i_M_text (0, 0) K 0 (mkL 4 as) [] m 0 0) (hl : Nat.ble (slL as).length 4 = true := by exact rfl) : cW (d + 1) n_M_text as m K := ⟨hl, h⟩
theorem w_M_put {d : Nat} {as : List Vv} {m : Mem} {K : Option Vv → Mem → Prop} (h : Go (cW d) i_M_put (0, 0) K 0 (mkL 6 as) [] m 0 0) (hl : Nat.ble (slL as).length 6 = true := by exact rfl) : cW (d + 1) n_M_put as m K := ⟨hl, h⟩
theorem w_M_here {d : Nat} {as : List Vv} {m : Mem} {K : Option Vv → Mem → Prop} (h : Go (cW d) i_M_here (0, 0) K 0 (mkL 2 as) [] m 0 0) (hl : Nat.ble (slL as).length 2 = true := by exact rfl) : cW (d + 1) n_M_here as m K := ⟨hl, h⟩
theorem w_M_isFigure {d : Nat} {as : List Vv} {m : Mem} {K : Option Vv → Mem → Prop} (h : Go (cW d) i_M_isFigure (0, 0) K 0 (mkL 2 as) [] m 0 0) (hl : Nat.ble (slL as).length 2 = true := by exact rfl) : cW (d + 1) n_M_isFigure as m K := ⟨hl, h⟩
theorem w_M_figure {d : Nat} {as : List Vv} {m : Mem} {K : Option Vv → Mem → Prop} (h : Go (cW d) i_M_figure (0, 0) K 0 (mkL 3 as) [] m 0 0) (hl : Nat.ble (slL as).length 3 = true := by exact rfl) : cW (d + 1) n_M_figure as m K := ⟨hl, h⟩
theorem w_M_kindOf {d : Nat} {as : List Vv} {m : Mem} {K : Option Vv → Mem → Prop} (h : Go (cW d) i_M_kindOf (0, 0) K 0 (mkL 1 as) [] m 0 0) (hl : Nat.ble (slL as).length 1 = true := by exact rfl) : cW (d + 1) n_M_kindOf as m K := ⟨hl, h⟩
theorem w_M_readsHead {d : Nat} {as : List Vv} {m : Mem} {K : Option Vv → Mem → Prop} (h : Go (cW d) i_M_readsHead (0, 0) K 0 (mkL 2 as) [] m 0 0) (hl : Nat.ble (slL as).length 2 = true := by exact rfl) : cW (d + 1) n_M_readsHead as m K := ⟨hl, h⟩
theorem w_M_readsHouse {d : Nat} {as : List Vv} {m : Mem} {K : Option Vv → Mem → Prop} (h : Go (cW d) i_M_readsHouse (0, 0) K 0 (mkL 4 as) [] m 0 0) (hl : Nat.ble (slL as).length 4 = true := by exact rfl) : cW (d + 1) n_M_readsHouse as m K := ⟨hl, h⟩
theorem w_M_goesOn {d : Nat} {as : List Vv} {m : Mem} {K : Option Vv → Mem → Prop} (h : Go (cW d) i_M_goesOn (0, 0) K 0 (mkL 3 as) [] m 0 0) (hl : Nat.ble (slL as).length 3 = true := by exact rfl) : cW (d + 1) n_M_goesOn as m K := ⟨hl, h⟩
theorem w_M_fault {d : Nat} {as : List Vv} {m : Mem} {K : Option Vv → Mem → Prop} (h : Go (cW d) i_M_fault (0, 0) K 0 (mkL 3 as) [] m 0 0) (hl : Nat.ble (slL as).length 3 = true := by exact rfl) : cW (d + 1) n_M_fault as m K := ⟨hl, h⟩
theorem w_M_street {d : Nat} {as : List Vv} {m : Mem} {K : Option Vv → Mem → Prop} (h : Go (cW d) i_M_street (0, 0) K 0 (mkL 4 as) [] m 0 0) (hl : Nat.ble (slL as).length 4 = true := by exact rfl) : cW (d + 1) n_M_street as m K := ⟨hl, h⟩
theorem w_M_isHouse {d : Nat} {as : List Vv} {m : Mem} {K : Option Vv → Mem → Prop} (h : Go (cW d) i_M_isHouse (0, 0) K 0 (mkL 2 as) [] m 0 0) (hl : Nat.ble (slL as).length 2 = true := by exact rfl) : cW (d + 1) n_M_isHouse as m K := ⟨hl, h⟩
theorem w_M_all {d : Nat} {as : List Vv} {m : Mem} {K : Option Vv → Mem → Prop} (h : Go (cW d) i_M_all (0, 0) K 0 (mkL 1 as) [] m 0 0) (hl : Nat.ble (slL as).length 1 = true := by exact rfl) : cW (d + 1) n_M_all as m K := ⟨hl, h⟩
theorem w_M_isSet {d : Nat} {as : List Vv} {m : Mem} {K : Option Vv → Mem → Prop} (h : Go (cW d) i_M_isSet (0, 0) K 0 (mkL 2 as) [] m 0 0) (hl : Nat.ble (slL as).length 2 = true := by exact rfl) : cW (d + 1) n_M_isSet as m K := ⟨hl, h⟩
theorem w_M_isA {d : Nat} {as : List Vv} {m : Mem} {K : Option Vv → Mem → Prop} (h : Go (cW d) i_M_isA (0, 0) K 0 (mkL 3 as) [] m 0 0) (hl : Nat.ble (slL as).length 3 = true := by exact rfl) : cW (d + 1) n_M_isA as m K := ⟨hl, h⟩
theorem w_M_soundOf {d : Nat} {as : List Vv} {m : Mem} {K : Option Vv → Mem → Prop} (h : Go (cW d) i_M_soundOf (0, 0) K 0 (mkL 3 as) [] m 0 0) (hl : Nat.ble (slL as).length 3 = true := by exact rfl) : cW (d + 1) n_M_soundOf as m K := ⟨hl, h⟩
theorem w_M_farOf {d : Nat} {as : List Vv} {m : Mem} {K : Option Vv → Mem → Prop} (h : Go (cW d) i_M_farOf (0, 0) K 0 (mkL 2 as) [] m 0 0) (hl : Nat.ble (slL as).length 2 = true := by exact rfl) : cW (d + 1) n_M_farOf as m K := ⟨hl, h⟩
theorem w_M_rippleOf {d : Nat} {as : List Vv} {m : Mem} {K : Option Vv → Mem → Prop} (h : Go (cW d) i_M_rippleOf (0, 0) K 0 (mkL 3 as) [] m 0 0) (hl : Nat.ble (slL as).length 3 = true := by exact rfl) : cW (d + 1) n_M_rippleOf as m K := ⟨hl, h⟩
theorem w_M_ripples {d : Nat} {as : List Vv} {m : Mem} {K : Option Vv → Mem → Prop} (h : Go (cW d) i_M_ripples (0, 0) K 0 (mkL 4 as) [] m 0 0) (hl : Nat.ble (slL as).length 4 = true := by exact rfl) : cW (d + 1) n_M_ripples as m K := ⟨hl, h⟩
theorem w_M_mutes {d : Nat} {as : List Vv} {m : Mem} {K : Option Vv → Mem → Prop} (h : Go (cW d) i_M_mutes (0, 0) K 0 (mkL 3 as) [] m 0 0) (hl : Nat.ble (slL as).length 3 = true := by exact rfl) : cW (d + 1) n_M_mutes as m K := ⟨hl, h⟩
theorem w_M_houseOf {d : Nat} {as : List Vv} {m : Mem} {K : Option Vv → Mem → Prop} (h : Go (cW d) i_M_houseOf (0, 0) K 0 (mkL 3 as) [] m 0 0) (hl : Nat.ble (slL as).length 3 = true := by exact rfl) : cW (d + 1) n_M_houseOf as m K := ⟨hl, h⟩
theorem w_M_house {d : Nat} {as : List Vv} {m : Mem} {K : Option Vv → Mem → Prop} (h : Go (cW d) i_M_house (0, 0) K 0 (mkL 3 as) [] m 0 0) (hl : Nat.ble (slL as).length 3 = true := by exact rfl) : cW (d + 1) n_M_house as m K := ⟨hl, h⟩
theorem w_M_owes {d : Nat} {as : List Vv} {m : Mem} {K : Option Vv → Mem → Prop} (h : Go (cW d) i_M_owes (0, 0) K 0 (mkL 4 as) [] m 0 0) (hl : Nat.ble (slL as).length 4 = true := by exact rfl) : cW (d + 1) n_M_owes as m K := ⟨hl, h⟩
theorem w_M_mark {d : Nat} {as : List Vv} {m : Mem} {K : Option Vv → Mem → Prop} (h : Go (cW d) i_M_mark (0, 0) K 0 (mkL 5 as) [] m 0 0) (hl : Nat.ble (slL as).length 5 = true := by exact rfl) : cW (d + 1) n_M_mark as m K := ⟨hl, h⟩
theorem w_M_altar {d : Nat} {as : List Vv} {m : Mem} {K : Option Vv → Mem → Prop} (h : Go (cW d) i_M_altar (0, 0) K 0 (mkL 3 as) [] m 0 0) (hl : Nat.ble (slL as).length 3 = true := by exact rfl) : cW (d + 1) n_M_altar as m K := ⟨hl, h⟩
theorem w_M_wall {d : Nat} {as : List Vv} {m : Mem} {K : Option Vv → Mem → Prop} (h : Go (cW d) i_M_wall (0, 0) K 0 (mkL 4 as) [] m 0 0) (hl : Nat.ble (slL as).length 4 = true := by exact rfl) : cW (d + 1) n_M_wall as m K := ⟨hl, h⟩
theorem w_M_hour {d : Nat} {as : List Vv} {m : Mem} {K : Option Vv → Mem → Prop} (h : Go (cW d) i_M_hour (0, 0) K 0 (mkL 6 as) [] m 0 0) (hl : Nat.ble (slL as).length 6 = true := by exact rfl) : cW (d + 1) n_M_hour as m K := ⟨hl, h⟩
theorem w_M_undo {d : Nat} {as : List Vv} {m : Mem} {K : Option Vv → Mem → Prop} (h : Go (cW d) i_M_undo (0, 0) K 0 (mkL 5 as) [] m 0 0) (hl : Nat.ble (slL as).length 5 = true := by exact rfl) : cW (d + 1) n_M_undo as m K := ⟨hl, h⟩
theorem w_M_jar {d : Nat} {as : List Vv} {m : Mem} {K : Option Vv → Mem → Prop} (h : Go (cW d) i_M_jar (0, 0) K 0 (mkL 1 as) [] m 0 0) (hl : Nat.ble (slL as).length 1 = true := by exact rfl) : cW (d + 1) n_M_jar as m K := ⟨hl, h⟩
theorem w_M_loud {d : Nat} {as : List Vv} {m : Mem} {K : Option Vv → Mem → Prop} (h : Go (cW d) i_M_loud (0, 0) K 0 (mkL 2 as) [] m 0 0) (hl : Nat.ble (slL as).length 2 = true := by exact rfl) : cW (d + 1) n_M_loud as m K := ⟨hl, h⟩
theorem w_M_made {d : Nat} {as : List Vv} {m : Mem} {K : Option Vv → Mem → Prop} (h : Go (cW d) i_M_made (0, 0) K 0 (mkL 2 as) [] m 0 0) (hl : Nat.ble (slL as).length 2 = true := by exact rfl) : cW (d + 1) n_M_made as m K := ⟨hl, h⟩
theorem w_M_isExempt {d : Nat} {as : List Vv} {m : Mem} {K : Option Vv → Mem → Prop} (h : Go (cW d) i_M_isExempt (0, 0) K 0 (mkL 2 as) [] m 0 0) (hl : Nat.ble (slL as).length 2 = true := by exact rfl) : cW (d + 1) n_M_isExempt as m K := ⟨hl, h⟩
theorem w_M_titheOf {d : Nat} {as : List Vv} {m : Mem} {K : Option Vv → Mem → Prop} (h : Go (cW d) i_M_titheOf (0, 0) K 0 (mkL 2 as) [] m 0 0) (hl : Nat.ble (slL as).length 2 = true := by exact rfl) : cW (d + 1) n_M_titheOf as m K := ⟨hl, h⟩
theorem w_M_tithe {d : Nat} {as : List Vv} {m : Mem} {K : Option Vv → Mem → Prop} (h : Go (cW d) i_M_tithe (0, 0) K 0 (mkL 2 as) [] m 0 0) (hl : Nat.ble (slL as).length 2 = true := by exact rfl) : cW (d + 1) n_M_tithe as m K := ⟨hl, h⟩
theorem w_M_pay {d : Nat} {as : List Vv} {m : Mem} {K : Option Vv → Mem → Prop} (h : Go (cW d) i_M_pay (0, 0) K 0 (mkL 3 as) [] m 0 0) (hl : Nat.ble (slL as).length 3 = true := by exact rfl) : cW (d + 1) n_M_pay as m K := ⟨hl, h⟩
theorem w_M_due {d : Nat} {as : List Vv} {m : Mem} {K : Option Vv → Mem → Prop} (h : Go (cW d) i_M_due (0, 0) K 0 (mkL 5 as) [] m 0 0) (hl : Nat.ble (slL as).length 5 = true := by exact rfl) : cW (d + 1) n_M_due as m K := ⟨hl, h⟩
theorem w_M_keep {d : Nat} {as : List Vv} {m : Mem} {K : Option Vv → Mem → Prop} (h : Go (cW d) i_M_keep (0, 0) K 0 (mkL 4 as) [] m 0 0) (hl : Nat.ble (slL as).length 4 = true := by exact rfl) : cW (d + 1) n_M_keep as m K := ⟨hl, h⟩
theorem w_M_on {d : Nat} {as : List Vv} {m : Mem} {K : Option Vv → Mem → Prop} (h : Go (cW d) i_M_on (0, 0) K 0 (mkL 4 as) [] m 0 0) (hl : Nat.ble (slL as).length 4 = true := by exact rfl) : cW (d + 1) n_M_on as m K := ⟨hl, h⟩
theorem w_M_setFits {d : Nat} {as : List Vv} {m : Mem} {K : Option Vv → Mem → Prop} (h : Go (cW d) i_M_setFits (0, 0) K 0 (mkL 5 as) [] m 0 0) (hl : Nat.ble (slL as).length 5 = true := by exact rfl) : cW (d + 1) n_M_setFits as m K := ⟨hl, h⟩
theorem w_M_isRise {d : Nat} {as : List Vv} {m : Mem} {K : Option Vv → Mem → Prop} (h : Go (cW d) i_M_isRise (0, 0) K 0 (mkL 1 as) [] m 0 0) (hl : Nat.ble (slL as).length 1 = true := by exact rfl) : cW (d + 1) n_M_isRise as m K := ⟨hl, h⟩
theorem w_M_fits {d : Nat} {as : List Vv} {m : Mem} {K : Option Vv → Mem → Prop} (h : Go (cW d) i_M_fits (0, 0) K 0 (mkL 2 as) [] m 0 0) (hl : Nat.ble (slL as).length 2 = true := by exact rfl) : cW (d + 1) n_M_fits as m K := ⟨hl, h⟩
theorem w_M_sure {d : Nat} {as : List Vv} {m : Mem} {K : Option Vv → Mem → Prop} (h : Go (cW d) i_M_sure (0, 0) K 0 (mkL 2 as) [] m 0 0) (hl : Nat.ble (slL as).length 2 = true := by exact rfl) : cW (d + 1) n_M_sure as m K := ⟨hl, h⟩
theorem w_M_odds {d : Nat} {as : List Vv} {m : Mem} {K : Option Vv → Mem → Prop} (h : Go (cW d) i_M_odds (0, 0) K 0 (mkL 3 as) [] m 0 0) (hl : Nat.ble (slL as).length 3 = true := by exact rfl) : cW (d + 1) n_M_odds as m K := ⟨hl, h⟩
theorem w_M_thunder {d : Nat} {as : List Vv} {m : Mem} {K : Option Vv → Mem → Prop} (h : Go (cW d) i_M_thunder (0, 0) K 0 (mkL 4 as) [] m 0 0) (hl : Nat.ble (slL as).length 4 = true := by exact rfl) : cW (d + 1) n_M_thunder as m K := ⟨hl, h⟩
theorem w_M_joined {d : Nat} {as : List Vv} {m : Mem} {K : Option Vv → Mem → Prop} (h : Go (cW d) i_M_joined (0, 0) K 0 (mkL 7 as) [] m 0 0) (hl : Nat.ble (slL as).length 7 = true := by exact rfl) : cW (d + 1) n_M_joined as m K := ⟨hl, h⟩
theorem w_M_joinedBy {d : Nat} {as : List Vv} {m : Mem} {K : Option Vv → Mem → Prop} (h : Go (cW d) i_M_joinedBy (0, 0) K 0 (mkL 12 as) [] m 0 0) (hl : Nat.ble (slL as).length 12 = true := by exact rfl) : cW (d + 1) n_M_joinedBy as m K := ⟨hl, h⟩
theorem w_M_silence {d : Nat} {as : List Vv} {m : Mem} {K : Option Vv → Mem → Prop} (h : Go (cW d) i_M_silence (0, 0) K 0 (mkL 4 as) [] m 0 0) (hl : Nat.ble (slL as).length 4 = true := by exact rfl) : cW (d + 1) n_M_silence as m K := ⟨hl, h⟩
theorem w_M_halfOf {d : Nat} {as : List Vv} {m : Mem} {K : Option Vv → Mem → Prop} (h : Go (cW d) i_M_halfOf (0, 0) K 0 (mkL 3 as) [] m 0 0) (hl : Nat.ble (slL as).length 3 = true := by exact rfl) : cW (d + 1) n_M_halfOf as m K := ⟨hl, h⟩
theorem w_M_rises {d : Nat} {as : List Vv} {m : Mem} {K : Option Vv → Mem → Prop} (h : Go (cW d) i_M_rises (0, 0) K 0 (mkL 6 as) [] m 0 0) (hl : Nat.ble (slL as).length 6 = true := by exact rfl) : cW (d + 1) n_M_rises as m K := ⟨hl, h⟩
theorem w_M_wedding {d : Nat} {as : List Vv} {m : Mem} {K : Option Vv → Mem → Prop} (h : Go (cW d) i_M_wedding (0, 0) K 0 (mkL 8 as) [] m 0 0) (hl : Nat.ble (slL as).length 8 = true := by exact rfl) : cW (d + 1) n_M_wedding as m K := ⟨hl, h⟩
theorem w_M_feathers {d : Nat} {as : List Vv} {m : Mem} {K : Option Vv → Mem → Prop} (h : Go (cW d) i_M_feathers (0, 0) K 0 (mkL 8 as) [] m 0 0) (hl : Nat.ble (slL as).length 8 = true := by exact rfl) : cW (d + 1) n_M_feathers as m K := ⟨hl, h⟩
theorem w_M_most {d : Nat} {as : List Vv} {m : Mem} {K : Option Vv → Mem → Prop} (h : Go (cW d) i_M_most (0, 0) K 0 (mkL 4 as) [] m 0 0) (hl : Nat.ble (slL as).length 4 = true := by exact rfl) : cW (d + 1) n_M_most as m K := ⟨hl, h⟩
theorem w_M_hours {d : Nat} {as : List Vv} {m : Mem} {K : Option Vv → Mem → Prop} (h : Go (cW d) i_M_hours (0, 0) K 0 (mkL 6 as) [] m 0 0) (hl : Nat.ble (slL as).length 6 = true := by exact rfl) : cW (d + 1) n_M_hours as m K := ⟨hl, h⟩
theorem w_M_year {d : Nat} {as : List Vv} {m : Mem} {K : Option Vv → Mem → Prop} (h : Go (cW d) i_M_year (0, 0) K 0 (mkL 5 as) [] m 0 0) (hl : Nat.ble (slL as).length 5 = true := by exact rfl) : cW (d + 1) n_M_year as m K := ⟨hl, h⟩
theorem w_M_debt {d : Nat} {as : List Vv} {m : Mem} {K : Option Vv → Mem → Prop} (h : Go (cW d) i_M_debt (0, 0) K 0 (mkL 5 as) [] m 0 0) (hl : Nat.ble (slL as).length 5 = true := by exact rfl) : cW (d + 1) n_M_debt as m K := ⟨hl, h⟩
theorem w_M_balanceOf {d : Nat} {as : List Vv} {m : Mem} {K : Option Vv → Mem → Prop} (h : Go (cW d) i_M_balanceOf (0, 0) K 0 (mkL 4 as) [] m 0 0) (hl : Nat.ble (slL as).length 4 = true := by exact rfl) : cW (d + 1) n_M_balanceOf as m K := ⟨hl, h⟩
theorem w_M_balance {d : Nat} {as : List Vv} {m : Mem} {K : Option Vv → Mem → Prop} (h : Go (cW d) i_M_balance (0, 0) K 0 (mkL 2 as) [] m 0 0) (hl : Nat.ble (slL as).length 2 = true := by exact rfl) : cW (d + 1) n_M_balance as m K := ⟨hl, h⟩
theorem w_M_payments {d : Nat} {as : List Vv} {m : Mem} {K : Option Vv → Mem → Prop} (h : Go (cW d) i_M_payments (0, 0) K 0 (mkL 7 as) [] m 0 0) (hl : Nat.ble (slL as).length 7 = true := by exact rfl) : cW (d + 1) n_M_payments as m K := ⟨hl, h⟩
theorem w_M_net {d : Nat} {as : List Vv} {m : Mem} {K : Option Vv → Mem → Prop} (h : Go (cW d) i_M_net (0, 0) K 0 (mkL 7 as) [] m 0 0) (hl : Nat.ble (slL as).length 7 = true := by exact rfl) : cW (d + 1) n_M_net as m K := ⟨hl, h⟩
theorem w_M_crickets {d : Nat} {as : List Vv} {m : Mem} {K : Option Vv → Mem → Prop} (h : Go (cW d) i_M_crickets (0, 0) K 0 (mkL 11 as) [] m 0 0) (hl : Nat.ble (slL as).length 11 = true := by exact rfl) : cW (d + 1) n_M_crickets as m K := ⟨hl, h⟩
theorem w_M_sings {d : Nat} {as : List Vv} {m : Mem} {K : Option Vv → Mem → Prop} (h : Go (cW d) i_M_sings (0, 0) K 0 (mkL 6 as) [] m 0 0) (hl : Nat.ble (slL as).length 6 = true := by exact rfl) : cW (d + 1) n_M_sings as m K := ⟨hl, h⟩
theorem w_M_asked {d : Nat} {as : List Vv} {m : Mem} {K : Option Vv → Mem → Prop} (h : Go (cW d) i_M_asked (0, 0) K 0 (mkL 1 as) [] m 0 0) (hl : Nat.ble (slL as).length 1 = true := by exact rfl) : cW (d + 1) n_M_asked as m K := ⟨hl, h⟩
theorem w_M_upper {d : Nat} {as : List Vv} {m : Mem} {K : Option Vv → Mem → Prop} (h : Go (cW d) i_M_upper (0, 0) K 0 (mkL 1 as) [] m 0 0) (hl : Nat.ble (slL as).length 1 = true := by exact rfl) : cW (d + 1) n_M_upper as m K := ⟨hl, h⟩
theorem w_M_lower {d : Nat} {as : List Vv} {m : Mem} {K : Option Vv → Mem → Prop} (h : Go (cW d) i_M_lower (0, 0) K 0 (mkL 1 as) [] m 0 0) (hl : Nat.ble (slL as).length 1 = true := by exact rfl) : cW (d + 1) n_M_lower as m K := ⟨hl, h⟩
theorem w_M_counts {d : Nat} {as : List Vv} {m : Mem} {K : Option Vv → Mem → Prop} (h : Go (cW d) i_M_counts (0, 0) K 0 (mkL 4 as) [] m 0 0) (hl : Nat.ble (slL as).length 4 = true := by exact rfl) : cW (d + 1) n_M_counts as m K := ⟨hl, h⟩
theorem w_M_count {d : Nat} {as : List Vv} {m : Mem} {K : Option Vv → Mem → Prop} (h : Go (cW d) i_M_count (0, 0) K 0 (mkL 2 as) [] m 0 0) (hl : Nat.ble (slL as).length 2 = true := by exact rfl) : cW (d + 1) n_M_count as m K := ⟨hl, h⟩
theorem w_M_finding {d : Nat} {as : List Vv} {m : Mem} {K : Option Vv → Mem → Prop} (h : Go (cW d) i_M_finding (0, 0) K 0 (mkL 1 as) [] m 0 0) (hl : Nat.ble (slL as).length 1 = true := by exact rfl) : cW (d + 1) n_M_finding as m K := ⟨hl, h⟩
theorem w_M_findings {d : Nat} {as : List Vv} {m : Mem} {K : Option Vv → Mem → Prop} (h : Go (cW d) i_M_findings (0, 0) K 0 (mkL 2 as) [] m 0 0) (hl : Nat.ble (slL as).length 2 = true := by exact rfl) : cW (d + 1) n_M_findings as m K := ⟨hl, h⟩
theorem w_M_mix {d : Nat} {as : List Vv} {m : Mem} {K : Option Vv → Mem → Prop} (h : Go (cW d) i_M_mix (0, 0) K 0 (mkL 2 as) [] m 0 0) (hl : Nat.ble (slL as).length 2 = true := by exact rfl) : cW (d + 1) n_M_mix as m K := ⟨hl, h⟩
theorem w_M_mixStreet {d : Nat} {as : List Vv} {m : Mem} {K : Option Vv → Mem → Prop} (h : Go (cW d) i_M_mixStreet (0, 0) K 0 (mkL 3 as) [] m 0 0) (hl : Nat.ble (slL as).length 3 = true := by exact rfl) : cW (d + 1) n_M_mixStreet as m K := ⟨hl, h⟩
theorem w_M_digest {d : Nat} {as : List Vv} {m : Mem} {K : Option Vv → Mem → Prop} (h : Go (cW d) i_M_digest (0, 0) K 0 (mkL 3 as) [] m 0 0) (hl : Nat.ble (slL as).length 3 = true := by exact rfl) : cW (d + 1) n_M_digest as m K := ⟨hl, h⟩
theorem w_J_bitCount {d : Nat} {as : List Vv} {m : Mem} {K : Option Vv → Mem → Prop} (h : Go (cW d) i_J_bitCount (0, 0) K 0 (mkL 1 as) [] m 0 0) (hl : Nat.ble (slL as).length 1 = true := by exact rfl) : cW (d + 1) n_J_bitCount as m K := ⟨hl, h⟩
theorem w_L_law {d : Nat} {as : List Vv} {m : Mem} {K : Option Vv → Mem → Prop} (h : Go (cW d) i_L_law (450, 8070) K 0 (mkL 4 as) [] m 0 0) (hl : Nat.ble (slL as).length 4 = true := by exact rfl) : cW (d + 1) n_L_law as m K := ⟨hl, h⟩
end
section
/-! Written by a program (wip/whole/gen2.py): what every instruction links to, by its place among the tables' words. -/
def inTbl (p : Nat) (w : Cond) : Bool := decide (lw_tbl[p]? = some w) && goodWord w
def isNw : Cond → Bool
  | .fieldLinkNest _ _ _ _ _ _ => true
  | .methodLinkNest _ _ _ _ => true
  | .arrayOver _ => true
  | _ => false
def inNw (p : Nat) (w : Cond) : Bool := decide (lw_tbl[p]? = some w) && isNw w
def gw : List Cond := lw_tbl.filter goodWord
def nw : List Cond := lw_tbl.filter isNw
theorem gw_in {p : Nat} {w : Cond} (h : inTbl p w = true) : w ∈ gw := by
  unfold inTbl at h
  rw [Bool.and_eq_true, decide_eq_true_eq] at h
  exact List.mem_filter.mpr ⟨List.mem_of_getElem? h.1, h.2⟩
theorem nw_in {p : Nat} {w : Cond} (h : inNw p w = true) : w ∈ nw := by
  unfold inNw at h
  rw [Bool.and_eq_true, decide_eq_true_eq] at h
  exact List.mem_filter.mpr ⟨List.mem_of_getElem? h.1, h.2⟩
def clsN (c : Nat) : String := match c with
  | 0 => "NoiseTithe$Cells"
  | 1 => "NoiseTithe$Fraction"
  | 2 => "NoiseTithe$Hour"
  | 3 => "NoiseTithe$House"
  | 4 => "NoiseTithe$Sets"
  | 5 => "NoiseTithe$Street"
  | 6 => "NoiseTithe"
  | 7 => "NoiseTitheModel"
  | 8 => "NoiseTithe$Kind"
  | 9 => "NoiseTithe$Grammar"
  | 10 => "java/lang/Integer"
  | 11 => "java/lang/Math"
  | 12 => "java/lang/Object"
  | _ => "NoiseTitheLaw"
def clsT : List vw_C := [(RX0, TX0, 2), (RX1, TX1, 2), (RX3, TX3, 5), (RX4, TX4, 5), (RX6, TX6, 6), (RX7, TX7, 9), (RX8, TX8, 9), (RX9, TX9, 38)]
def tyT (a : Nat) : Nat → FieldType := match a with
  | 0 => tyX0
  | 1 => tyX1
  | 2 => tyX3
  | 3 => tyX4
  | 4 => tyX6
  | 5 => tyX7
  | 6 => tyX8
  | _ => tyX9
def tyC (t : FieldType) : Nat := match t with
  | .int => 0
  | .long => 1
  | _ => 2
def kF (b : Nat) : String × String × String × Bool := match b with
  | 0 => ("NoiseTithe$Kind", "number", "I", true)
  | 1 => ("NoiseTithe$Kind", "parent", "I", true)
  | _ => ("NoiseTithe$Kind", "halves", "I", true)
def fT (a b : Nat) : String × String × String × Bool := match clsT[a]? with
  | some (_, T, _) => T b
  | none => kF b
def fN (a : Nat) : Nat := match clsT[a]? with
  | some (_, _, n) => n
  | none => 3
def kN (k : Nat) : String := match k with
  | 0 => "HOUSE"
  | 1 => "FORGE"
  | 2 => "MUFFLED"
  | 3 => "BELLS"
  | 4 => "MUTE"
  | _ => "CHOIR"
/-- (class, entry, class of the field, its slot, its kind; place, nest) -/
def fldL : List (Nat × Nat × Nat × Nat × Nat × Nat × Bool) := [(0, 9, 0, 1, 0, 231, false), (0, 19, 0, 0, 2, 230, false), (1, 7, 1, 0, 1, 213, false), (1, 13, 1, 1, 1, 215, false), (9, 9, 0, 1, 0, 232, true), (9, 44, 5, 5, 0, 154, true), (9, 47, 5, 6, 0, 157, true), (2, 9, 2, 0, 2, 118, false), (2, 21, 2, 1, 0, 120, false), (2, 25, 2, 2, 0, 123, false), (2, 28, 2, 3, 0, 126, false), (2, 31, 2, 4, 0, 128, false), (3, 13, 3, 0, 2, 86, false), (3, 18, 3, 1, 0, 89, false), (3, 22, 8, 2, 3, 1316, true), (3, 28, 3, 2, 0, 93, false), (3, 31, 3, 3, 0, 96, false), (3, 34, 3, 4, 0, 99, false), (8, 41, 8, 0, 3, 1318, false), (8, 45, 8, 1, 3, 1319, false), (4, 9, 4, 0, 2, 188, false), (4, 15, 4, 1, 2, 189, false), (4, 18, 4, 2, 2, 190, false), (4, 21, 4, 3, 0, 191, false), (4, 25, 4, 4, 0, 192, false), (4, 28, 4, 5, 0, 193, false), (4, 31, 5, 3, 0, 149, true), (4, 42, 5, 0, 2, 142, true), (4, 59, 0, 1, 0, 234, true), (5, 11, 5, 0, 2, 141, false), (5, 19, 5, 1, 2, 144, false), (5, 25, 5, 2, 2, 146, false), (5, 30, 5, 3, 0, 148, false), (5, 34, 5, 4, 0, 151, false), (5, 37, 5, 5, 0, 153, false), (5, 40, 5, 6, 0, 156, false), (5, 43, 5, 7, 0, 158, false), (5, 46, 5, 8, 0, 160, false), (5, 49, 3, 0, 2, 87, true), (5, 53, 3, 1, 0, 90, true), (5, 56, 3, 2, 0, 92, true), (5, 59, 3, 3, 0, 95, true), (5, 62, 3, 4, 0, 98, true), (5, 109, 8, 0, 3, 1315, true), (5, 125, 2, 1, 0, 121, true), (5, 128, 2, 3, 0, 127, true), (5, 131, 2, 4, 0, 129, true), (5, 134, 2, 0, 2, 119, true), (5, 141, 2, 2, 0, 124, true), (6, 11, 6, 0, 2, 240, false), (6, 15, 6, 1, 2, 241, false), (6, 21, 6, 2, 2, 242, false), (6, 25, 6, 3, 2, 243, false), (6, 32, 6, 4, 2, 244, false), (6, 39, 6, 5, 2, 245, false), (6, 43, 6, 6, 2, 246, false), (6, 47, 6, 7, 0, 247, false), (6, 51, 6, 8, 0, 248, false), (6, 98, 0, 1, 0, 233, true), (6, 121, 5, 3, 0, 150, true), (6, 140, 8, 0, 3, 1317, true), (6, 146, 5, 0, 2, 143, true), (6, 150, 3, 0, 2, 88, true), (6, 164, 3, 1, 0, 91, true), (6, 174, 3, 3, 0, 97, true), (6, 186, 5, 5, 0, 155, true), (6, 189, 3, 2, 0, 94, true), (6, 195, 5, 4, 0, 152, true), (6, 201, 5, 7, 0, 159, true), (6, 207, 5, 8, 0, 161, true), (6, 210, 5, 1, 2, 145, true), (6, 214, 2, 2, 0, 125, true), (6, 219, 2, 1, 0, 122, true), (6, 224, 3, 4, 0, 100, true), (6, 317, 5, 2, 2, 147, true), (6, 340, 1, 0, 1, 214, true), (6, 344, 1, 1, 1, 216, true), (7, 7, 7, 1, 2, 843, false), (7, 13, 7, 4, 1, 846, false), (7, 17, 7, 5, 2, 847, false), (7, 20, 7, 6, 2, 848, false), (7, 23, 7, 7, 2, 849, false), (7, 26, 7, 8, 2, 850, false), (7, 29, 7, 9, 2, 851, false), (7, 32, 7, 13, 2, 855, false), (7, 35, 7, 14, 2, 856, false), (7, 38, 7, 15, 2, 857, false), (7, 41, 7, 23, 2, 865, false), (7, 44, 7, 24, 2, 866, false), (7, 47, 7, 25, 2, 867, false), (7, 50, 7, 26, 2, 868, false), (7, 53, 7, 31, 2, 873, false), (7, 56, 7, 32, 2, 874, false), (7, 60, 7, 33, 2, 875, false), (7, 63, 7, 34, 2, 876, false), (7, 66, 7, 35, 2, 877, false), (7, 69, 7, 36, 2, 878, false), (7, 72, 7, 0, 0, 842, false), (7, 76, 7, 2, 0, 844, false), (7, 79, 7, 3, 1, 845, false), (7, 117, 7, 16, 0, 858, false), (7, 129, 7, 18, 0, 860, false), (7, 132, 7, 19, 0, 861, false), (7, 138, 7, 17, 0, 859, false), (7, 150, 7, 10, 0, 852, false), (7, 153, 7, 11, 0, 853, false), (7, 156, 7, 12, 0, 854, false), (7, 159, 7, 20, 0, 862, false), (7, 162, 7, 21, 0, 863, false), (7, 165, 7, 22, 0, 864, false), (7, 212, 7, 27, 0, 869, false), (7, 215, 7, 28, 0, 870, false), (7, 218, 7, 29, 0, 871, false), (7, 221, 7, 30, 0, 872, false), (7, 263, 7, 37, 1, 879, false)]
def chkF (e : Nat × Nat × Nat × Nat × Nat × Nat × Bool) : Bool := match e with
  | (oc, i, a, b, ty, p, n) => (match n with
    | true => inNw p (.fieldLinkNest (clsN oc) i (fT a b).1 (fT a b).2.1 (fT a b).2.2.1 "NoiseTithe")
    | false => inTbl p (.fieldLink (clsN oc) i (fT a b).1 (fT a b).2.1 (fT a b).2.2.1)) && Nat.blt b (fN a) && ((Nat.blt a 8 && Nat.beq ty (tyC (tyT a b))) || (Nat.beq a 8 && Nat.beq ty 3))
theorem fldL_ok : fldL.all chkF = true := by decide +kernel
def layL : List (List Nat) := [[235, 237], [217, 219], [130, 132, 134, 136, 138], [101, 103, 105, 107, 109], [194, 196, 198, 200, 202, 204], [162, 164, 166, 168, 170, 172, 174, 176, 178], [249, 251, 253, 255, 257, 259, 261, 263, 265], [880, 882, 884, 886, 888, 890, 892, 894, 896, 898, 900, 902, 904, 906, 908, 910, 912, 914, 916, 918, 920, 922, 924, 926, 928, 930, 932, 934, 936, 938, 940, 942, 944, 946, 948, 950, 952, 954]]
def chkL (c : Nat) : Bool := match clsT[c]?, layL[c]? with
  | some (C, T, N), some ps => Nat.beq ps.length N && (List.range N).all (fun k => inTbl (ps.getD k 0) (u_lay C T k))
  | _, _ => false
theorem layL_ok : (List.range 8).all chkL = true := by decide +kernel
def insL : List (Nat × Nat) := [(222, 51), (208, 50), (113, 48), (79, 45), (183, 49), (68, 44), (58, 43), (837, 53)]
def chkJ (c : Nat) : Bool := match clsT[c]?, insL[c]? with
  | some (C, T, N), some (p, q) => inTbl p (.instantiable C N) && inTbl q (.initialized C) && decide (C = clsN c)
  | _, _ => false
theorem insL_ok : (List.range 8).all chkJ = true := by decide +kernel
def conL : List (Nat × Nat × Vv × Nat) := [(6, 331, vi 2147483646, 762), (6, 338, vl 12, 773), (6, 360, vl 17, 818), (6, 373, vl (-1), 830), (6, 379, vl 48271, 767), (6, 381, vl 2147483647, 768), (6, 383, vl 31, 823), (7, 251, vi 2147483646, 1265), (7, 252, vl 48271, 1266), (7, 254, vl 2147483647, 1267), (7, 256, vl 12, 1268), (7, 261, vl 31, 1310), (7, 269, vl 17, 1305), (10, 265, vi 1431655765, 704), (10, 266, vi 858993459, 705), (10, 267, vi 252645135, 706)]
def chkC (e : Nat × Nat × Vv × Nat) : Bool := match e with
  | (oc, i, .inl x, p) => inTbl p (.constant (clsN oc) i x)
  | (oc, i, .inr (.inl x), p) => inTbl p (.constantLong (clsN oc) i x)
  | _ => false
theorem conL_ok : conL.all chkC = true := by decide +kernel
def staL : List (Nat × Nat × Nat × Nat) := [(3, 7, 0, 84), (3, 25, 4, 597), (8, 3, 0, 381), (8, 7, 1, 382), (8, 10, 2, 384), (8, 13, 3, 386), (8, 16, 4, 388), (8, 19, 5, 390), (5, 147, 3, 537), (5, 150, 5, 538), (6, 134, 1, 450), (6, 143, 5, 451), (6, 161, 2, 460), (6, 171, 3, 462), (6, 177, 4, 463)]
def chkS (e : Nat × Nat × Nat × Nat) : Bool := match e with
  | (oc, i, k, p) => inTbl p (.fieldLink (clsN oc) i "NoiseTithe$Kind" (kN k) "LNoiseTithe$Kind;") && Nat.blt k 6
theorem staL_ok : staL.all chkS = true := by decide +kernel
def newL : List (Nat × Nat × Nat × Nat) := [(5, 9, 3, 73), (5, 17, 2, 75), (6, 9, 0, 65), (6, 18, 5, 67), (6, 29, 4, 182), (6, 36, 1, 207), (13, 7, 6, 57), (13, 10, 7, 836)]
def chkN (e : Nat × Nat × Nat × Nat) : Bool := match e with
  | (oc, i, c, p) => inTbl p (.classLink (clsN oc) i (clsN c)) && Nat.blt c 8
theorem newL_ok : newL.all chkN = true := by decide +kernel
def arrL : List (Nat × Nat × Nat × Nat × Nat) := [(5, 9, 24, 73, 74), (5, 17, 25, 75, 76), (6, 9, 22, 65, 66), (6, 18, 23, 67, 181)]
def chkA (e : Nat × Nat × Nat × Nat × Nat) : Bool := match e with
  | (oc, i, s, p, q) => inTbl p (.classLink (clsN oc) i (clsN (elS s))) && inNw q (.arrayOver (.object (clsN (elS s)))) && Nat.ble 22 s && Nat.ble s 25
theorem arrL_ok : arrL.all chkA = true := by decide +kernel
theorem mulA_ok : (inTbl 77 (.classLink "NoiseTithe$Street" 23 "[[I") && inNw 78 (.arrayOver (.array .int)) && inTbl 112 (.arrayClass .int) && inTbl 957 (.arrayClass .boolean)) = true := by decide +kernel
/-- (how it is called: 0 by its object, 1 static, 2 a constructor, 9 not at all; places of its words; parameters) -/
def metL : List (Nat × Nat × Nat × Nat × Nat × Nat) := [(2, 225, 51, 224, 0, 1), (0, 301, 51, 299, 300, 0), (0, 305, 51, 303, 304, 1), (0, 338, 51, 336, 337, 2), (0, 309, 51, 307, 308, 1), (0, 314, 51, 312, 313, 2), (0, 286, 51, 284, 285, 2), (0, 330, 51, 328, 329, 0), (0, 342, 51, 340, 341, 4), (0, 354, 51, 352, 353, 0), (0, 834, 51, 832, 833, 1), (2, 211, 50, 210, 0, 0), (0, 635, 50, 633, 634, 2), (1, 373, 55, 372, 0, 1), (1, 408, 55, 407, 0, 2), (1, 412, 55, 411, 0, 3), (1, 394, 55, 393, 0, 2), (1, 377, 55, 376, 0, 2), (1, 397, 55, 396, 0, 1), (2, 116, 48, 115, 0, 0), (0, 569, 48, 567, 568, 1), (2, 82, 45, 81, 0, 0), (0, 433, 45, 431, 432, 0), (0, 596, 45, 594, 595, 0), (0, 564, 45, 562, 563, 1), (0, 455, 47, 453, 454, 1), (1, 380, 47, 379, 0, 1), (2, 186, 49, 185, 0, 0), (0, 588, 49, 586, 587, 1), (1, 592, 49, 591, 0, 3), (0, 682, 49, 680, 681, 1), (0, 605, 49, 604, 6, 2), (0, 601, 49, 599, 600, 1), (0, 630, 49, 628, 629, 2), (0, 609, 49, 607, 608, 1), (0, 622, 49, 620, 621, 1), (0, 618, 49, 616, 617, 1), (0, 647, 49, 645, 646, 1), (0, 652, 49, 651, 7, 2), (0, 669, 49, 667, 668, 0), (0, 665, 49, 663, 664, 0), (0, 677, 49, 675, 676, 2), (0, 700, 49, 698, 699, 1), (0, 717, 49, 715, 716, 2), (0, 722, 49, 720, 721, 2), (0, 747, 49, 745, 746, 1), (2, 71, 44, 70, 0, 0), (0, 405, 44, 403, 404, 0), (0, 416, 44, 414, 415, 3), (0, 560, 44, 558, 559, 1), (0, 424, 44, 422, 423, 1), (0, 488, 44, 486, 487, 0), (0, 484, 44, 482, 483, 1), (0, 441, 44, 439, 440, 1), (0, 437, 44, 435, 436, 1), (0, 499, 44, 497, 498, 1), (0, 428, 44, 426, 427, 2), (0, 459, 44, 457, 458, 1), (0, 793, 44, 791, 792, 1), (0, 691, 44, 689, 690, 2), (0, 504, 44, 502, 503, 1), (0, 492, 44, 490, 491, 1), (0, 512, 44, 510, 511, 1), (0, 536, 44, 534, 535, 1), (0, 798, 44, 796, 797, 0), (0, 532, 44, 530, 531, 1), (0, 468, 44, 466, 467, 1), (0, 739, 44, 737, 738, 1), (0, 757, 44, 755, 756, 0), (0, 827, 44, 825, 826, 1), (2, 61, 43, 60, 0, 0), (0, 271, 43, 269, 270, 2), (0, 293, 43, 291, 292, 3), (0, 322, 43, 320, 321, 2), (0, 326, 43, 324, 325, 1), (0, 334, 43, 332, 333, 5), (0, 350, 43, 348, 349, 1), (0, 358, 43, 356, 357, 2), (0, 366, 43, 364, 365, 3), (0, 370, 43, 368, 369, 1), (0, 401, 43, 399, 400, 1), (0, 420, 43, 418, 419, 2), (0, 449, 43, 447, 448, 2), (0, 472, 43, 470, 471, 1), (0, 476, 43, 474, 475, 2), (0, 480, 43, 478, 479, 1), (0, 508, 43, 506, 507, 1), (0, 516, 43, 514, 515, 0), (0, 520, 43, 518, 519, 1), (0, 524, 43, 522, 523, 1), (0, 528, 43, 526, 527, 1), (0, 543, 43, 541, 542, 2), (0, 547, 43, 545, 546, 0), (0, 552, 43, 550, 551, 1), (0, 574, 43, 572, 573, 1), (0, 581, 43, 579, 580, 1), (0, 613, 43, 611, 612, 1), (0, 626, 43, 624, 625, 2), (0, 639, 43, 637, 638, 2), (0, 643, 43, 641, 642, 1), (0, 656, 43, 654, 655, 1), (0, 661, 43, 659, 660, 0), (0, 673, 43, 671, 672, 1), (0, 686, 43, 684, 685, 3), (0, 696, 43, 694, 695, 0), (0, 711, 43, 709, 710, 2), (0, 726, 43, 724, 725, 1), (0, 731, 43, 729, 730, 3), (0, 735, 43, 733, 734, 1), (0, 743, 43, 741, 742, 0), (0, 753, 43, 751, 752, 0), (0, 761, 43, 759, 760, 2), (0, 772, 43, 770, 771, 0), (0, 777, 43, 775, 776, 0), (0, 781, 43, 779, 780, 0), (0, 785, 43, 783, 784, 0), (0, 789, 43, 787, 788, 1), (0, 809, 43, 807, 808, 0), (0, 813, 43, 811, 812, 1), (0, 817, 43, 815, 816, 0), (0, 318, 43, 317, 3, 2), (0, 279, 43, 278, 1, 1), (0, 297, 43, 296, 2, 2), (0, 275, 43, 274, 0, 1), (0, 362, 43, 361, 4, 1), (0, 556, 43, 555, 5, 1), (0, 802, 43, 801, 8, 0), (1, 577, 43, 576, 0, 1), (1, 805, 43, 804, 0, 1), (1, 282, 43, 281, 0, 3), (1, 584, 43, 583, 0, 1), (1, 495, 43, 494, 0, 2), (1, 766, 43, 765, 0, 1), (1, 822, 43, 821, 0, 2), (2, 840, 53, 839, 0, 0), (1, 967, 53, 966, 0, 3), (0, 971, 53, 970, 9, 1), (0, 991, 53, 990, 13, 2), (0, 1192, 53, 1191, 35, 3), (1, 1121, 53, 1120, 0, 2), (1, 1232, 53, 1231, 0, 1), (1, 964, 53, 963, 0, 1), (1, 1015, 53, 1014, 0, 1), (0, 983, 53, 982, 11, 1), (0, 1023, 53, 1022, 14, 1), (0, 987, 53, 986, 12, 2), (0, 975, 53, 974, 10, 3), (0, 961, 53, 959, 960, 2), (0, 979, 53, 977, 978, 2), (0, 995, 53, 993, 994, 3), (0, 1000, 53, 998, 999, 1), (0, 1004, 53, 1002, 1003, 5), (0, 1008, 53, 1006, 1007, 1), (0, 1012, 53, 1010, 1011, 2), (0, 1019, 53, 1017, 1018, 3), (0, 1035, 53, 1034, 16, 1), (0, 1046, 53, 1045, 18, 1), (0, 1050, 53, 1049, 19, 1), (1, 1042, 53, 1041, 0, 1), (0, 1054, 53, 1053, 20, 1), (0, 1039, 53, 1038, 17, 1), (0, 1031, 53, 1030, 15, 1), (0, 1027, 53, 1025, 1026, 1), (0, 1058, 53, 1056, 1057, 1), (0, 1066, 53, 1065, 21, 1), (0, 1114, 53, 1113, 29, 0), (0, 1110, 53, 1109, 28, 1), (0, 1090, 53, 1089, 26, 2), (0, 1074, 53, 1073, 23, 1), (0, 1082, 53, 1081, 25, 1), (0, 1078, 53, 1077, 24, 1), (0, 1118, 53, 1117, 30, 1), (0, 1180, 53, 1179, 34, 0), (0, 1070, 53, 1069, 22, 2), (0, 1062, 53, 1060, 1061, 2), (0, 1094, 53, 1093, 27, 1), (0, 1086, 53, 1084, 1085, 2), (0, 1098, 53, 1096, 1097, 1), (0, 1102, 53, 1100, 1101, 2), (0, 1106, 53, 1104, 1105, 1), (0, 1125, 53, 1123, 1124, 1), (0, 1129, 53, 1127, 1128, 0), (0, 1133, 53, 1131, 1132, 1), (0, 1137, 53, 1135, 1136, 1), (0, 1149, 53, 1148, 32, 1), (0, 1145, 53, 1144, 31, 1), (0, 1141, 53, 1139, 1140, 1), (0, 1153, 53, 1151, 1152, 2), (0, 1157, 53, 1155, 1156, 0), (0, 1161, 53, 1159, 1160, 1), (0, 1165, 53, 1163, 1164, 1), (0, 1176, 53, 1175, 33, 1), (1, 1172, 53, 1171, 0, 1), (0, 1169, 53, 1167, 1168, 1), (0, 1184, 53, 1182, 1183, 1), (0, 1188, 53, 1186, 1187, 2), (0, 1196, 53, 1194, 1195, 2), (0, 1200, 53, 1198, 1199, 1), (0, 1204, 53, 1203, 36, 3), (0, 1208, 53, 1206, 1207, 1), (0, 1212, 53, 1211, 37, 1), (0, 1216, 53, 1214, 1215, 0), (0, 1220, 53, 1218, 1219, 1), (0, 1224, 53, 1222, 1223, 3), (0, 1229, 53, 1227, 1228, 0), (0, 1236, 53, 1234, 1235, 2), (0, 1240, 53, 1238, 1239, 1), (0, 1244, 53, 1242, 1243, 3), (0, 1252, 53, 1251, 38, 1), (0, 1248, 53, 1246, 1247, 1), (0, 1256, 53, 1254, 1255, 0), (0, 1260, 53, 1258, 1259, 0), (0, 1264, 53, 1262, 1263, 2), (0, 1272, 53, 1270, 1271, 0), (0, 1276, 53, 1274, 1275, 0), (0, 1280, 53, 1278, 1279, 0), (0, 1284, 53, 1282, 1283, 0), (0, 1292, 53, 1291, 39, 1), (0, 1288, 53, 1286, 1287, 1), (0, 1296, 53, 1294, 1295, 0), (0, 1300, 53, 1298, 1299, 1), (0, 1309, 53, 1308, 40, 1), (0, 1314, 53, 1313, 41, 0), (0, 1304, 53, 1302, 1303, 0), (1, 703, 56, 702, 0, 1), (9, 0, 0, 0, 0, 0)]
def chkM (e : (Nat × Nat × Nat × Nat × Nat × Nat) × MRow) : Bool := match e with
  | ((9, _), _) => true
  | ((k, pc, pi, pk, ps, n), (y, cc, nL, ret, oc, _)) => inTbl pi (.initialized y.cls) && (match k with
    | 0 => inTbl pk (.instanceMethod y) && inTbl ps (.selects y.cls y y)
    | 1 => inTbl pk (.static y)
    | _ => inTbl pk (.instanceMethod y) && decide (y.name = "<init>") && decide (ret = none)) && decide (y.cls = clsN oc) && plainName y.cls && decide (y.cls ≠ "java/lang/invoke/MethodHandle") && decide (y.cls ≠ "java/lang/invoke/VarHandle") && decide ((parseMethodDescriptor y.desc).map (fun d => d.parameters.length) = some n)
theorem metL_ok_0 : ((metL.zip MT).drop 0).take 29 |>.all chkM := by decide +kernel
theorem metL_ok_1 : ((metL.zip MT).drop 29).take 29 |>.all chkM := by decide +kernel
theorem metL_ok_2 : ((metL.zip MT).drop 58).take 29 |>.all chkM := by decide +kernel
theorem metL_ok_3 : ((metL.zip MT).drop 87).take 29 |>.all chkM := by decide +kernel
theorem metL_ok_4 : ((metL.zip MT).drop 116).take 29 |>.all chkM := by decide +kernel
theorem metL_ok_5 : ((metL.zip MT).drop 145).take 29 |>.all chkM := by decide +kernel
theorem metL_ok_6 : ((metL.zip MT).drop 174).take 29 |>.all chkM := by decide +kernel
theorem metL_ok_7 : ((metL.zip MT).drop 203).take 29 |>.all chkM := by decide +kernel
theorem tb_1 {w : Cond} (h : w ∈ tables_1_1) : w ∈ lw_tbl := List.mem_append_right _ (show w ∈ tables_1 from List.mem_append_left _ h)
theorem tb_2 {w : Cond} (h : w ∈ tables_1_2) : w ∈ lw_tbl := List.mem_append_right _ (show w ∈ tables_1 from List.mem_append_right _ (List.mem_append_left _ h))
theorem tb_3 {w : Cond} (h : w ∈ tables_1_3) : w ∈ lw_tbl := List.mem_append_right _ (show w ∈ tables_1 from List.mem_append_right _ (List.mem_append_right _ (List.mem_append_left _ h)))
theorem tb_4 {w : Cond} (h : w ∈ tables_1_4) : w ∈ lw_tbl := List.mem_append_right _ (show w ∈ tables_1 from List.mem_append_right _ (List.mem_append_right _ (List.mem_append_right _ (List.mem_append_left _ h))))
theorem tb_5 {w : Cond} (h : w ∈ tables_1_5) : w ∈ lw_tbl := List.mem_append_right _ (show w ∈ tables_1 from List.mem_append_right _ (List.mem_append_right _ (List.mem_append_right _ (List.mem_append_right _ (List.mem_append_left _ h)))))
theorem tb_6 {w : Cond} (h : w ∈ tables_1_6) : w ∈ lw_tbl := List.mem_append_right _ (show w ∈ tables_1 from List.mem_append_right _ (List.mem_append_right _ (List.mem_append_right _ (List.mem_append_right _ (List.mem_append_right _ (h))))))
def cdOk (r : MRow) : Prop := Cond.code r.1 r.2.1 r.2.2.1 r.2.2.2.1 ∈ lw_tbl
set_option maxRecDepth 20000 in
theorem cd_Ce_init : cdOk r_Ce_init := tb_1 (List.mem_of_getElem? (i := 183) rfl)
set_option maxRecDepth 20000 in
theorem cd_Ce_isMissing : cdOk r_Ce_isMissing := tb_2 (List.mem_of_getElem? (i := 19) rfl)
set_option maxRecDepth 20000 in
theorem cd_Ce_has : cdOk r_Ce_has := tb_2 (List.mem_of_getElem? (i := 23) rfl)
set_option maxRecDepth 20000 in
theorem cd_Ce_hasSpan : cdOk r_Ce_hasSpan := tb_2 (List.mem_of_getElem? (i := 56) rfl)
set_option maxRecDepth 20000 in
theorem cd_Ce_get : cdOk r_Ce_get := tb_2 (List.mem_of_getElem? (i := 27) rfl)
set_option maxRecDepth 20000 in
theorem cd_Ce_set : cdOk r_Ce_set := tb_2 (List.mem_of_getElem? (i := 32) rfl)
set_option maxRecDepth 20000 in
theorem cd_Ce_renew : cdOk r_Ce_renew := tb_2 (List.mem_of_getElem? (i := 4) rfl)
set_option maxRecDepth 20000 in
theorem cd_Ce_remove : cdOk r_Ce_remove := tb_2 (List.mem_of_getElem? (i := 48) rfl)
set_option maxRecDepth 20000 in
theorem cd_Ce_take : cdOk r_Ce_take := tb_2 (List.mem_of_getElem? (i := 60) rfl)
set_option maxRecDepth 20000 in
theorem cd_Ce_sum : cdOk r_Ce_sum := tb_2 (List.mem_of_getElem? (i := 72) rfl)
set_option maxRecDepth 20000 in
theorem cd_Ce_mixedInto : cdOk r_Ce_mixedInto := tb_4 (List.mem_of_getElem? (i := 72) rfl)
set_option maxRecDepth 20000 in
theorem cd_Fr_init : cdOk r_Fr_init := tb_1 (List.mem_of_getElem? (i := 169) rfl)
set_option maxRecDepth 20000 in
theorem cd_Fr_become : cdOk r_Fr_become := tb_3 (List.mem_of_getElem? (i := 113) rfl)
set_option maxRecDepth 20000 in
theorem cd_Gr_faultOf : cdOk r_Gr_faultOf := tb_2 (List.mem_of_getElem? (i := 91) rfl)
set_option maxRecDepth 20000 in
theorem cd_Gr_build : cdOk r_Gr_build := tb_2 (List.mem_of_getElem? (i := 126) rfl)
set_option maxRecDepth 20000 in
theorem cd_Gr_buildItem : cdOk r_Gr_buildItem := tb_2 (List.mem_of_getElem? (i := 130) rfl)
set_option maxRecDepth 20000 in
theorem cd_Gr_endOfFigures : cdOk r_Gr_endOfFigures := tb_2 (List.mem_of_getElem? (i := 112) rfl)
set_option maxRecDepth 20000 in
theorem cd_Gr_canBegin : cdOk r_Gr_canBegin := tb_2 (List.mem_of_getElem? (i := 95) rfl)
set_option maxRecDepth 20000 in
theorem cd_Gr_isFigure : cdOk r_Gr_isFigure := tb_2 (List.mem_of_getElem? (i := 115) rfl)
set_option maxRecDepth 20000 in
theorem cd_Hr_init : cdOk r_Hr_init := tb_1 (List.mem_of_getElem? (i := 74) rfl)
set_option maxRecDepth 20000 in
theorem cd_Hr_becomeLike : cdOk r_Hr_becomeLike := tb_3 (List.mem_of_getElem? (i := 47) rfl)
set_option maxRecDepth 20000 in
theorem cd_Ho_init : cdOk r_Ho_init := tb_1 (List.mem_of_getElem? (i := 40) rfl)
set_option maxRecDepth 20000 in
theorem cd_Ho_sound : cdOk r_Ho_sound := tb_2 (List.mem_of_getElem? (i := 151) rfl)
set_option maxRecDepth 20000 in
theorem cd_Ho_isMute : cdOk r_Ho_isMute := tb_3 (List.mem_of_getElem? (i := 74) rfl)
set_option maxRecDepth 20000 in
theorem cd_Ho_becomeLike : cdOk r_Ho_becomeLike := tb_3 (List.mem_of_getElem? (i := 42) rfl)
set_option maxRecDepth 20000 in
theorem cd_Ki_isOf : cdOk r_Ki_isOf := tb_2 (List.mem_of_getElem? (i := 173) rfl)
set_option maxRecDepth 20000 in
theorem cd_Ki_byLetter : cdOk r_Ki_byLetter := tb_2 (List.mem_of_getElem? (i := 98) rfl)
set_option maxRecDepth 20000 in
theorem cd_Se_init : cdOk r_Se_init := tb_1 (List.mem_of_getElem? (i := 144) rfl)
set_option maxRecDepth 20000 in
theorem cd_Se_lookAt : cdOk r_Se_lookAt := tb_3 (List.mem_of_getElem? (i := 66) rfl)
set_option maxRecDepth 20000 in
theorem cd_Se_addHouse : cdOk r_Se_addHouse := tb_3 (List.mem_of_getElem? (i := 70) rfl)
set_option maxRecDepth 20000 in
theorem cd_Se_ripplesOf : cdOk r_Se_ripplesOf := tb_3 (List.mem_of_getElem? (i := 160) rfl)
set_option maxRecDepth 20000 in
theorem cd_Se_isFitting : cdOk r_Se_isFitting := tb_3 (List.mem_of_getElem? (i := 83) rfl)
set_option maxRecDepth 20000 in
theorem cd_Se_howManyFit : cdOk r_Se_howManyFit := tb_3 (List.mem_of_getElem? (i := 79) rfl)
set_option maxRecDepth 20000 in
theorem cd_Se_howManyFitWith : cdOk r_Se_howManyFitWith := tb_3 (List.mem_of_getElem? (i := 108) rfl)
set_option maxRecDepth 20000 in
theorem cd_Se_leastFitting : cdOk r_Se_leastFitting := tb_3 (List.mem_of_getElem? (i := 87) rfl)
set_option maxRecDepth 20000 in
theorem cd_Se_inAllFitting : cdOk r_Se_inAllFitting := tb_3 (List.mem_of_getElem? (i := 100) rfl)
set_option maxRecDepth 20000 in
theorem cd_Se_inAnyFitting : cdOk r_Se_inAnyFitting := tb_3 (List.mem_of_getElem? (i := 96) rfl)
set_option maxRecDepth 20000 in
theorem cd_Se_waysToJoin : cdOk r_Se_waysToJoin := tb_3 (List.mem_of_getElem? (i := 125) rfl)
set_option maxRecDepth 20000 in
theorem cd_Se_howManyBeside : cdOk r_Se_howManyBeside := tb_3 (List.mem_of_getElem? (i := 130) rfl)
set_option maxRecDepth 20000 in
theorem cd_Se_unlikeRises : cdOk r_Se_unlikeRises := tb_3 (List.mem_of_getElem? (i := 147) rfl)
set_option maxRecDepth 20000 in
theorem cd_Se_greatestRise : cdOk r_Se_greatestRise := tb_3 (List.mem_of_getElem? (i := 143) rfl)
set_option maxRecDepth 20000 in
theorem cd_Se_cheapestSounding : cdOk r_Se_cheapestSounding := tb_3 (List.mem_of_getElem? (i := 155) rfl)
set_option maxRecDepth 20000 in
theorem cd_Se_mostHouses : cdOk r_Se_mostHouses := tb_3 (List.mem_of_getElem? (i := 178) rfl)
set_option maxRecDepth 20000 in
theorem cd_Se_fewestHours : cdOk r_Se_fewestHours := tb_3 (List.mem_of_getElem? (i := 195) rfl)
set_option maxRecDepth 20000 in
theorem cd_Se_firstHour : cdOk r_Se_firstHour := tb_3 (List.mem_of_getElem? (i := 200) rfl)
set_option maxRecDepth 20000 in
theorem cd_Se_fewestPayments : cdOk r_Se_fewestPayments := tb_3 (List.mem_of_getElem? (i := 225) rfl)
set_option maxRecDepth 20000 in
theorem cd_St_init : cdOk r_St_init := tb_1 (List.mem_of_getElem? (i := 29) rfl)
set_option maxRecDepth 20000 in
theorem cd_St_clear : cdOk r_St_clear := tb_2 (List.mem_of_getElem? (i := 123) rfl)
set_option maxRecDepth 20000 in
theorem cd_St_add : cdOk r_St_add := tb_2 (List.mem_of_getElem? (i := 134) rfl)
set_option maxRecDepth 20000 in
theorem cd_St_becomeLike : cdOk r_St_becomeLike := tb_3 (List.mem_of_getElem? (i := 38) rfl)
set_option maxRecDepth 20000 in
theorem cd_St_hasHouse : cdOk r_St_hasHouse := tb_2 (List.mem_of_getElem? (i := 142) rfl)
set_option maxRecDepth 20000 in
theorem cd_St_allHouses : cdOk r_St_allHouses := tb_2 (List.mem_of_getElem? (i := 206) rfl)
set_option maxRecDepth 20000 in
theorem cd_St_hasSet : cdOk r_St_hasSet := tb_2 (List.mem_of_getElem? (i := 202) rfl)
set_option maxRecDepth 20000 in
theorem cd_St_distance : cdOk r_St_distance := tb_2 (List.mem_of_getElem? (i := 159) rfl)
set_option maxRecDepth 20000 in
theorem cd_St_ripple : cdOk r_St_ripple := tb_2 (List.mem_of_getElem? (i := 155) rfl)
set_option maxRecDepth 20000 in
theorem cd_St_ripplesOf : cdOk r_St_ripplesOf := tb_2 (List.mem_of_getElem? (i := 217) rfl)
set_option maxRecDepth 20000 in
theorem cd_St_trait : cdOk r_St_trait := tb_2 (List.mem_of_getElem? (i := 146) rfl)
set_option maxRecDepth 20000 in
theorem cd_St_lesserRipples : cdOk r_St_lesserRipples := tb_2 (List.mem_of_getElem? (i := 177) rfl)
set_option maxRecDepth 20000 in
theorem cd_St_howManyOf : cdOk r_St_howManyOf := tb_4 (List.mem_of_getElem? (i := 31) rfl)
set_option maxRecDepth 20000 in
theorem cd_St_rippleMostBehind : cdOk r_St_rippleMostBehind := tb_3 (List.mem_of_getElem? (i := 169) rfl)
set_option maxRecDepth 20000 in
theorem cd_St_leaked : cdOk r_St_leaked := tb_2 (List.mem_of_getElem? (i := 222) rfl)
set_option maxRecDepth 20000 in
theorem cd_St_ring : cdOk r_St_ring := tb_2 (List.mem_of_getElem? (i := 210) rfl)
set_option maxRecDepth 20000 in
theorem cd_St_goBackTo : cdOk r_St_goBackTo := tb_2 (List.mem_of_getElem? (i := 230) rfl)
set_option maxRecDepth 20000 in
theorem cd_St_isExempt : cdOk r_St_isExempt := tb_3 (List.mem_of_getElem? (i := 14) rfl)
set_option maxRecDepth 20000 in
theorem cd_St_howManyExempt : cdOk r_St_howManyExempt := tb_4 (List.mem_of_getElem? (i := 36) rfl)
set_option maxRecDepth 20000 in
theorem cd_St_titheOf : cdOk r_St_titheOf := tb_3 (List.mem_of_getElem? (i := 10) rfl)
set_option maxRecDepth 20000 in
theorem cd_St_owedBy : cdOk r_St_owedBy := tb_2 (List.mem_of_getElem? (i := 186) rfl)
set_option maxRecDepth 20000 in
theorem cd_St_balanceOf : cdOk r_St_balanceOf := tb_3 (List.mem_of_getElem? (i := 217) rfl)
set_option maxRecDepth 20000 in
theorem cd_St_netDebts : cdOk r_St_netDebts := tb_3 (List.mem_of_getElem? (i := 235) rfl)
set_option maxRecDepth 20000 in
theorem cd_St_mixedInto : cdOk r_St_mixedInto := tb_4 (List.mem_of_getElem? (i := 65) rfl)
set_option maxRecDepth 20000 in
theorem cd_X_init : cdOk r_X_init := tb_1 (List.mem_of_getElem? (i := 19) rfl)
set_option maxRecDepth 20000 in
theorem cd_X_row : cdOk r_X_row := tb_1 (List.mem_of_getElem? (i := 229) rfl)
set_option maxRecDepth 20000 in
theorem cd_X_lay : cdOk r_X_lay := tb_2 (List.mem_of_getElem? (i := 11) rfl)
set_option maxRecDepth 20000 in
theorem cd_X_at : cdOk r_X_at := tb_2 (List.mem_of_getElem? (i := 40) rfl)
set_option maxRecDepth 20000 in
theorem cd_X_tear : cdOk r_X_tear := tb_2 (List.mem_of_getElem? (i := 44) rfl)
set_option maxRecDepth 20000 in
theorem cd_X_copy : cdOk r_X_copy := tb_2 (List.mem_of_getElem? (i := 52) rfl)
set_option maxRecDepth 20000 in
theorem cd_X_mean : cdOk r_X_mean := tb_2 (List.mem_of_getElem? (i := 68) rfl)
set_option maxRecDepth 20000 in
theorem cd_X_text : cdOk r_X_text := tb_2 (List.mem_of_getElem? (i := 76) rfl)
set_option maxRecDepth 20000 in
theorem cd_X_put : cdOk r_X_put := tb_2 (List.mem_of_getElem? (i := 84) rfl)
set_option maxRecDepth 20000 in
theorem cd_X_fault : cdOk r_X_fault := tb_2 (List.mem_of_getElem? (i := 88) rfl)
set_option maxRecDepth 20000 in
theorem cd_X_street : cdOk r_X_street := tb_2 (List.mem_of_getElem? (i := 119) rfl)
set_option maxRecDepth 20000 in
theorem cd_X_house : cdOk r_X_house := tb_2 (List.mem_of_getElem? (i := 138) rfl)
set_option maxRecDepth 20000 in
theorem cd_X_mark : cdOk r_X_mark := tb_2 (List.mem_of_getElem? (i := 167) rfl)
set_option maxRecDepth 20000 in
theorem cd_X_altar : cdOk r_X_altar := tb_2 (List.mem_of_getElem? (i := 190) rfl)
set_option maxRecDepth 20000 in
theorem cd_X_wall : cdOk r_X_wall := tb_2 (List.mem_of_getElem? (i := 194) rfl)
set_option maxRecDepth 20000 in
theorem cd_X_hour : cdOk r_X_hour := tb_2 (List.mem_of_getElem? (i := 198) rfl)
set_option maxRecDepth 20000 in
theorem cd_X_undo : cdOk r_X_undo := tb_2 (List.mem_of_getElem? (i := 226) rfl)
set_option maxRecDepth 20000 in
theorem cd_X_jar : cdOk r_X_jar := tb_2 (List.mem_of_getElem? (i := 234) rfl)
set_option maxRecDepth 20000 in
theorem cd_X_loud : cdOk r_X_loud := tb_2 (List.mem_of_getElem? (i := 238) rfl)
set_option maxRecDepth 20000 in
theorem cd_X_made : cdOk r_X_made := tb_3 (List.mem_of_getElem? (i := 2) rfl)
set_option maxRecDepth 20000 in
theorem cd_X_tithe : cdOk r_X_tithe := tb_3 (List.mem_of_getElem? (i := 6) rfl)
set_option maxRecDepth 20000 in
theorem cd_X_pay : cdOk r_X_pay := tb_3 (List.mem_of_getElem? (i := 21) rfl)
set_option maxRecDepth 20000 in
theorem cd_X_due : cdOk r_X_due := tb_3 (List.mem_of_getElem? (i := 25) rfl)
set_option maxRecDepth 20000 in
theorem cd_X_keep : cdOk r_X_keep := tb_3 (List.mem_of_getElem? (i := 30) rfl)
set_option maxRecDepth 20000 in
theorem cd_X_on : cdOk r_X_on := tb_3 (List.mem_of_getElem? (i := 52) rfl)
set_option maxRecDepth 20000 in
theorem cd_X_fits : cdOk r_X_fits := tb_3 (List.mem_of_getElem? (i := 59) rfl)
set_option maxRecDepth 20000 in
theorem cd_X_sure : cdOk r_X_sure := tb_3 (List.mem_of_getElem? (i := 91) rfl)
set_option maxRecDepth 20000 in
theorem cd_X_odds : cdOk r_X_odds := tb_3 (List.mem_of_getElem? (i := 104) rfl)
set_option maxRecDepth 20000 in
theorem cd_X_thunder : cdOk r_X_thunder := tb_3 (List.mem_of_getElem? (i := 117) rfl)
set_option maxRecDepth 20000 in
theorem cd_X_joined : cdOk r_X_joined := tb_3 (List.mem_of_getElem? (i := 121) rfl)
set_option maxRecDepth 20000 in
theorem cd_X_silence : cdOk r_X_silence := tb_3 (List.mem_of_getElem? (i := 134) rfl)
set_option maxRecDepth 20000 in
theorem cd_X_rises : cdOk r_X_rises := tb_3 (List.mem_of_getElem? (i := 139) rfl)
set_option maxRecDepth 20000 in
theorem cd_X_wedding : cdOk r_X_wedding := tb_3 (List.mem_of_getElem? (i := 151) rfl)
set_option maxRecDepth 20000 in
theorem cd_X_feathers : cdOk r_X_feathers := tb_3 (List.mem_of_getElem? (i := 164) rfl)
set_option maxRecDepth 20000 in
theorem cd_X_most : cdOk r_X_most := tb_3 (List.mem_of_getElem? (i := 174) rfl)
set_option maxRecDepth 20000 in
theorem cd_X_hours : cdOk r_X_hours := tb_3 (List.mem_of_getElem? (i := 189) rfl)
set_option maxRecDepth 20000 in
theorem cd_X_year : cdOk r_X_year := tb_3 (List.mem_of_getElem? (i := 204) rfl)
set_option maxRecDepth 20000 in
theorem cd_X_debt : cdOk r_X_debt := tb_3 (List.mem_of_getElem? (i := 209) rfl)
set_option maxRecDepth 20000 in
theorem cd_X_balance : cdOk r_X_balance := tb_3 (List.mem_of_getElem? (i := 213) rfl)
set_option maxRecDepth 20000 in
theorem cd_X_payments : cdOk r_X_payments := tb_3 (List.mem_of_getElem? (i := 221) rfl)
set_option maxRecDepth 20000 in
theorem cd_X_net : cdOk r_X_net := tb_3 (List.mem_of_getElem? (i := 231) rfl)
set_option maxRecDepth 20000 in
theorem cd_X_crickets : cdOk r_X_crickets := tb_3 (List.mem_of_getElem? (i := 239) rfl)
set_option maxRecDepth 20000 in
theorem cd_X_sings : cdOk r_X_sings := tb_4 (List.mem_of_getElem? (i := 10) rfl)
set_option maxRecDepth 20000 in
theorem cd_X_asked : cdOk r_X_asked := tb_4 (List.mem_of_getElem? (i := 15) rfl)
set_option maxRecDepth 20000 in
theorem cd_X_upper : cdOk r_X_upper := tb_4 (List.mem_of_getElem? (i := 19) rfl)
set_option maxRecDepth 20000 in
theorem cd_X_lower : cdOk r_X_lower := tb_4 (List.mem_of_getElem? (i := 23) rfl)
set_option maxRecDepth 20000 in
theorem cd_X_count : cdOk r_X_count := tb_4 (List.mem_of_getElem? (i := 27) rfl)
set_option maxRecDepth 20000 in
theorem cd_X_finding : cdOk r_X_finding := tb_4 (List.mem_of_getElem? (i := 47) rfl)
set_option maxRecDepth 20000 in
theorem cd_X_findings : cdOk r_X_findings := tb_4 (List.mem_of_getElem? (i := 51) rfl)
set_option maxRecDepth 20000 in
theorem cd_X_digest : cdOk r_X_digest := tb_4 (List.mem_of_getElem? (i := 55) rfl)
set_option maxRecDepth 20000 in
theorem cd_X_tell : cdOk r_X_tell := tb_2 (List.mem_of_getElem? (i := 36) rfl)
set_option maxRecDepth 20000 in
theorem cd_X_found : cdOk r_X_found := tb_1 (List.mem_of_getElem? (i := 237) rfl)
set_option maxRecDepth 20000 in
theorem cd_X_refusalOfPlace : cdOk r_X_refusalOfPlace := tb_2 (List.mem_of_getElem? (i := 15) rfl)
set_option maxRecDepth 20000 in
theorem cd_X_isRow : cdOk r_X_isRow := tb_1 (List.mem_of_getElem? (i := 233) rfl)
set_option maxRecDepth 20000 in
theorem cd_X_isText : cdOk r_X_isText := tb_2 (List.mem_of_getElem? (i := 80) rfl)
set_option maxRecDepth 20000 in
theorem cd_X_isKeptPlace : cdOk r_X_isKeptPlace := tb_3 (List.mem_of_getElem? (i := 34) rfl)
set_option maxRecDepth 20000 in
theorem cd_X_howManyKept : cdOk r_X_howManyKept := tb_4 (List.mem_of_getElem? (i := 40) rfl)
set_option maxRecDepth 20000 in
theorem cd_X_isMissing : cdOk r_X_isMissing := tb_3 (List.mem_of_getElem? (i := 55) rfl)
set_option maxRecDepth 20000 in
theorem cd_X_howManyThere : cdOk r_X_howManyThere := tb_4 (List.mem_of_getElem? (i := 43) rfl)
set_option maxRecDepth 20000 in
theorem cd_X_isWithin : cdOk r_X_isWithin := tb_2 (List.mem_of_getElem? (i := 0) rfl)
set_option maxRecDepth 20000 in
theorem cd_X_isRise : cdOk r_X_isRise := tb_3 (List.mem_of_getElem? (i := 62) rfl)
set_option maxRecDepth 20000 in
theorem cd_X_contains : cdOk r_X_contains := tb_2 (List.mem_of_getElem? (i := 213) rfl)
set_option maxRecDepth 20000 in
theorem cd_X_lotBehind : cdOk r_X_lotBehind := tb_4 (List.mem_of_getElem? (i := 4) rfl)
set_option maxRecDepth 20000 in
theorem cd_X_mixed : cdOk r_X_mixed := tb_4 (List.mem_of_getElem? (i := 60) rfl)
set_option maxRecDepth 20000 in
theorem cd_M_init : cdOk r_M_init := tb_4 (List.mem_of_getElem? (i := 78) rfl)
set_option maxRecDepth 20000 in
theorem cd_M_in : cdOk r_M_in := tb_4 (List.mem_of_getElem? (i := 205) rfl)
set_option maxRecDepth 20000 in
theorem cd_M_meet : cdOk r_M_meet := tb_4 (List.mem_of_getElem? (i := 209) rfl)
set_option maxRecDepth 20000 in
theorem cd_M_ask : cdOk r_M_ask := tb_4 (List.mem_of_getElem? (i := 229) rfl)
set_option maxRecDepth 20000 in
theorem cd_M_part : cdOk r_M_part := tb_5 (List.mem_of_getElem? (i := 190) rfl)
set_option maxRecDepth 20000 in
theorem cd_M_has : cdOk r_M_has := tb_5 (List.mem_of_getElem? (i := 119) rfl)
set_option maxRecDepth 20000 in
theorem cd_M_sizeOf : cdOk r_M_sizeOf := tb_5 (List.mem_of_getElem? (i := 230) rfl)
set_option maxRecDepth 20000 in
theorem cd_M_isRow : cdOk r_M_isRow := tb_4 (List.mem_of_getElem? (i := 202) rfl)
set_option maxRecDepth 20000 in
theorem cd_M_isText : cdOk r_M_isText := tb_5 (List.mem_of_getElem? (i := 13) rfl)
set_option maxRecDepth 20000 in
theorem cd_M_askedRow : cdOk r_M_askedRow := tb_4 (List.mem_of_getElem? (i := 221) rfl)
set_option maxRecDepth 20000 in
theorem cd_M_askedText : cdOk r_M_askedText := tb_5 (List.mem_of_getElem? (i := 21) rfl)
set_option maxRecDepth 20000 in
theorem cd_M_rowAt : cdOk r_M_rowAt := tb_4 (List.mem_of_getElem? (i := 225) rfl)
set_option maxRecDepth 20000 in
theorem cd_M_setRow : cdOk r_M_setRow := tb_4 (List.mem_of_getElem? (i := 213) rfl)
set_option maxRecDepth 20000 in
theorem cd_M_row : cdOk r_M_row := tb_4 (List.mem_of_getElem? (i := 199) rfl)
set_option maxRecDepth 20000 in
theorem cd_M_at : cdOk r_M_at := tb_4 (List.mem_of_getElem? (i := 217) rfl)
set_option maxRecDepth 20000 in
theorem cd_M_lay : cdOk r_M_lay := tb_4 (List.mem_of_getElem? (i := 233) rfl)
set_option maxRecDepth 20000 in
theorem cd_M_tear : cdOk r_M_tear := tb_4 (List.mem_of_getElem? (i := 238) rfl)
set_option maxRecDepth 20000 in
theorem cd_M_copy : cdOk r_M_copy := tb_5 (List.mem_of_getElem? (i := 2) rfl)
set_option maxRecDepth 20000 in
theorem cd_M_mean : cdOk r_M_mean := tb_5 (List.mem_of_getElem? (i := 6) rfl)
set_option maxRecDepth 20000 in
theorem cd_M_text : cdOk r_M_text := tb_5 (List.mem_of_getElem? (i := 10) rfl)
set_option maxRecDepth 20000 in
theorem cd_M_put : cdOk r_M_put := tb_5 (List.mem_of_getElem? (i := 17) rfl)
set_option maxRecDepth 20000 in
theorem cd_M_here : cdOk r_M_here := tb_5 (List.mem_of_getElem? (i := 33) rfl)
set_option maxRecDepth 20000 in
theorem cd_M_isFigure : cdOk r_M_isFigure := tb_5 (List.mem_of_getElem? (i := 44) rfl)
set_option maxRecDepth 20000 in
theorem cd_M_figure : cdOk r_M_figure := tb_5 (List.mem_of_getElem? (i := 48) rfl)
set_option maxRecDepth 20000 in
theorem cd_M_kindOf : cdOk r_M_kindOf := tb_5 (List.mem_of_getElem? (i := 40) rfl)
set_option maxRecDepth 20000 in
theorem cd_M_readsHead : cdOk r_M_readsHead := tb_5 (List.mem_of_getElem? (i := 52) rfl)
set_option maxRecDepth 20000 in
theorem cd_M_readsHouse : cdOk r_M_readsHouse := tb_5 (List.mem_of_getElem? (i := 37) rfl)
set_option maxRecDepth 20000 in
theorem cd_M_goesOn : cdOk r_M_goesOn := tb_5 (List.mem_of_getElem? (i := 29) rfl)
set_option maxRecDepth 20000 in
theorem cd_M_fault : cdOk r_M_fault := tb_5 (List.mem_of_getElem? (i := 25) rfl)
set_option maxRecDepth 20000 in
theorem cd_M_street : cdOk r_M_street := tb_5 (List.mem_of_getElem? (i := 56) rfl)
set_option maxRecDepth 20000 in
theorem cd_M_isHouse : cdOk r_M_isHouse := tb_5 (List.mem_of_getElem? (i := 64) rfl)
set_option maxRecDepth 20000 in
theorem cd_M_all : cdOk r_M_all := tb_5 (List.mem_of_getElem? (i := 112) rfl)
set_option maxRecDepth 20000 in
theorem cd_M_isSet : cdOk r_M_isSet := tb_5 (List.mem_of_getElem? (i := 108) rfl)
set_option maxRecDepth 20000 in
theorem cd_M_isA : cdOk r_M_isA := tb_5 (List.mem_of_getElem? (i := 88) rfl)
set_option maxRecDepth 20000 in
theorem cd_M_soundOf : cdOk r_M_soundOf := tb_5 (List.mem_of_getElem? (i := 72) rfl)
set_option maxRecDepth 20000 in
theorem cd_M_farOf : cdOk r_M_farOf := tb_5 (List.mem_of_getElem? (i := 80) rfl)
set_option maxRecDepth 20000 in
theorem cd_M_rippleOf : cdOk r_M_rippleOf := tb_5 (List.mem_of_getElem? (i := 76) rfl)
set_option maxRecDepth 20000 in
theorem cd_M_ripples : cdOk r_M_ripples := tb_5 (List.mem_of_getElem? (i := 116) rfl)
set_option maxRecDepth 20000 in
theorem cd_M_mutes : cdOk r_M_mutes := tb_5 (List.mem_of_getElem? (i := 178) rfl)
set_option maxRecDepth 20000 in
theorem cd_M_houseOf : cdOk r_M_houseOf := tb_5 (List.mem_of_getElem? (i := 68) rfl)
set_option maxRecDepth 20000 in
theorem cd_M_house : cdOk r_M_house := tb_5 (List.mem_of_getElem? (i := 60) rfl)
set_option maxRecDepth 20000 in
theorem cd_M_owes : cdOk r_M_owes := tb_5 (List.mem_of_getElem? (i := 92) rfl)
set_option maxRecDepth 20000 in
theorem cd_M_mark : cdOk r_M_mark := tb_5 (List.mem_of_getElem? (i := 84) rfl)
set_option maxRecDepth 20000 in
theorem cd_M_altar : cdOk r_M_altar := tb_5 (List.mem_of_getElem? (i := 96) rfl)
set_option maxRecDepth 20000 in
theorem cd_M_wall : cdOk r_M_wall := tb_5 (List.mem_of_getElem? (i := 100) rfl)
set_option maxRecDepth 20000 in
theorem cd_M_hour : cdOk r_M_hour := tb_5 (List.mem_of_getElem? (i := 104) rfl)
set_option maxRecDepth 20000 in
theorem cd_M_undo : cdOk r_M_undo := tb_5 (List.mem_of_getElem? (i := 123) rfl)
set_option maxRecDepth 20000 in
theorem cd_M_jar : cdOk r_M_jar := tb_5 (List.mem_of_getElem? (i := 127) rfl)
set_option maxRecDepth 20000 in
theorem cd_M_loud : cdOk r_M_loud := tb_5 (List.mem_of_getElem? (i := 131) rfl)
set_option maxRecDepth 20000 in
theorem cd_M_made : cdOk r_M_made := tb_5 (List.mem_of_getElem? (i := 135) rfl)
set_option maxRecDepth 20000 in
theorem cd_M_isExempt : cdOk r_M_isExempt := tb_5 (List.mem_of_getElem? (i := 147) rfl)
set_option maxRecDepth 20000 in
theorem cd_M_titheOf : cdOk r_M_titheOf := tb_5 (List.mem_of_getElem? (i := 143) rfl)
set_option maxRecDepth 20000 in
theorem cd_M_tithe : cdOk r_M_tithe := tb_5 (List.mem_of_getElem? (i := 139) rfl)
set_option maxRecDepth 20000 in
theorem cd_M_pay : cdOk r_M_pay := tb_5 (List.mem_of_getElem? (i := 151) rfl)
set_option maxRecDepth 20000 in
theorem cd_M_due : cdOk r_M_due := tb_5 (List.mem_of_getElem? (i := 155) rfl)
set_option maxRecDepth 20000 in
theorem cd_M_keep : cdOk r_M_keep := tb_5 (List.mem_of_getElem? (i := 159) rfl)
set_option maxRecDepth 20000 in
theorem cd_M_on : cdOk r_M_on := tb_5 (List.mem_of_getElem? (i := 163) rfl)
set_option maxRecDepth 20000 in
theorem cd_M_setFits : cdOk r_M_setFits := tb_5 (List.mem_of_getElem? (i := 174) rfl)
set_option maxRecDepth 20000 in
theorem cd_M_isRise : cdOk r_M_isRise := tb_5 (List.mem_of_getElem? (i := 170) rfl)
set_option maxRecDepth 20000 in
theorem cd_M_fits : cdOk r_M_fits := tb_5 (List.mem_of_getElem? (i := 167) rfl)
set_option maxRecDepth 20000 in
theorem cd_M_sure : cdOk r_M_sure := tb_5 (List.mem_of_getElem? (i := 182) rfl)
set_option maxRecDepth 20000 in
theorem cd_M_odds : cdOk r_M_odds := tb_5 (List.mem_of_getElem? (i := 186) rfl)
set_option maxRecDepth 20000 in
theorem cd_M_thunder : cdOk r_M_thunder := tb_5 (List.mem_of_getElem? (i := 194) rfl)
set_option maxRecDepth 20000 in
theorem cd_M_joined : cdOk r_M_joined := tb_5 (List.mem_of_getElem? (i := 198) rfl)
set_option maxRecDepth 20000 in
theorem cd_M_joinedBy : cdOk r_M_joinedBy := tb_5 (List.mem_of_getElem? (i := 202) rfl)
set_option maxRecDepth 20000 in
theorem cd_M_silence : cdOk r_M_silence := tb_5 (List.mem_of_getElem? (i := 206) rfl)
set_option maxRecDepth 20000 in
theorem cd_M_halfOf : cdOk r_M_halfOf := tb_5 (List.mem_of_getElem? (i := 210) rfl)
set_option maxRecDepth 20000 in
theorem cd_M_rises : cdOk r_M_rises := tb_5 (List.mem_of_getElem? (i := 214) rfl)
set_option maxRecDepth 20000 in
theorem cd_M_wedding : cdOk r_M_wedding := tb_5 (List.mem_of_getElem? (i := 218) rfl)
set_option maxRecDepth 20000 in
theorem cd_M_feathers : cdOk r_M_feathers := tb_5 (List.mem_of_getElem? (i := 222) rfl)
set_option maxRecDepth 20000 in
theorem cd_M_most : cdOk r_M_most := tb_5 (List.mem_of_getElem? (i := 227) rfl)
set_option maxRecDepth 20000 in
theorem cd_M_hours : cdOk r_M_hours := tb_5 (List.mem_of_getElem? (i := 234) rfl)
set_option maxRecDepth 20000 in
theorem cd_M_year : cdOk r_M_year := tb_5 (List.mem_of_getElem? (i := 238) rfl)
set_option maxRecDepth 20000 in
theorem cd_M_debt : cdOk r_M_debt := tb_6 (List.mem_of_getElem? (i := 2) rfl)
set_option maxRecDepth 20000 in
theorem cd_M_balanceOf : cdOk r_M_balanceOf := tb_6 (List.mem_of_getElem? (i := 10) rfl)
set_option maxRecDepth 20000 in
theorem cd_M_balance : cdOk r_M_balance := tb_6 (List.mem_of_getElem? (i := 6) rfl)
set_option maxRecDepth 20000 in
theorem cd_M_payments : cdOk r_M_payments := tb_6 (List.mem_of_getElem? (i := 14) rfl)
set_option maxRecDepth 20000 in
theorem cd_M_net : cdOk r_M_net := tb_6 (List.mem_of_getElem? (i := 18) rfl)
set_option maxRecDepth 20000 in
theorem cd_M_crickets : cdOk r_M_crickets := tb_6 (List.mem_of_getElem? (i := 22) rfl)
set_option maxRecDepth 20000 in
theorem cd_M_sings : cdOk r_M_sings := tb_6 (List.mem_of_getElem? (i := 30) rfl)
set_option maxRecDepth 20000 in
theorem cd_M_asked : cdOk r_M_asked := tb_6 (List.mem_of_getElem? (i := 34) rfl)
set_option maxRecDepth 20000 in
theorem cd_M_upper : cdOk r_M_upper := tb_6 (List.mem_of_getElem? (i := 38) rfl)
set_option maxRecDepth 20000 in
theorem cd_M_lower : cdOk r_M_lower := tb_6 (List.mem_of_getElem? (i := 42) rfl)
set_option maxRecDepth 20000 in
theorem cd_M_counts : cdOk r_M_counts := tb_6 (List.mem_of_getElem? (i := 50) rfl)
set_option maxRecDepth 20000 in
theorem cd_M_count : cdOk r_M_count := tb_6 (List.mem_of_getElem? (i := 46) rfl)
set_option maxRecDepth 20000 in
theorem cd_M_finding : cdOk r_M_finding := tb_6 (List.mem_of_getElem? (i := 54) rfl)
set_option maxRecDepth 20000 in
theorem cd_M_findings : cdOk r_M_findings := tb_6 (List.mem_of_getElem? (i := 58) rfl)
set_option maxRecDepth 20000 in
theorem cd_M_mix : cdOk r_M_mix := tb_6 (List.mem_of_getElem? (i := 67) rfl)
set_option maxRecDepth 20000 in
theorem cd_M_mixStreet : cdOk r_M_mixStreet := tb_6 (List.mem_of_getElem? (i := 72) rfl)
set_option maxRecDepth 20000 in
theorem cd_M_digest : cdOk r_M_digest := tb_6 (List.mem_of_getElem? (i := 62) rfl)
set_option maxRecDepth 20000 in
theorem cd_J_bitCount : cdOk r_J_bitCount := tb_3 (List.mem_of_getElem? (i := 181) rfl)
/-- (class, entry, method, place, nest) -/
def lnkL : List (Nat × Nat × Nat × Nat × Bool) := [(0, 23, 2, 310, false),
  (0, 30, 3, 343, false),
  (0, 40, 133, 835, true),
  (9, 15, 4, 374, false),
  (9, 19, 17, 375, false),
  (9, 25, 16, 392, false),
  (9, 29, 47, 409, false),
  (9, 34, 15, 410, false),
  (9, 38, 26, 378, false),
  (9, 50, 48, 413, false),
  (9, 54, 18, 395, false),
  (4, 34, 54, 589, false),
  (4, 38, 29, 590, false),
  (4, 46, 23, 593, false),
  (4, 52, 31, 602, false),
  (4, 56, 131, 631, true),
  (4, 64, 4, 648, false),
  (4, 67, 38, 649, false),
  (4, 71, 22, 678, false),
  (4, 75, 224, 701, false),
  (4, 85, 67, 748, false),
  (5, 28, 21, 80, true),
  (5, 29, 19, 114, true),
  (5, 65, 24, 561, false),
  (5, 75, 20, 566, false),
  (5, 78, 51, 485, false),
  (5, 88, 50, 429, false),
  (5, 92, 22, 430, false),
  (5, 95, 53, 438, false),
  (5, 102, 131, 493, true),
  (5, 106, 54, 434, false),
  (5, 114, 25, 794, false),
  (5, 117, 4, 692, false),
  (5, 138, 55, 496, false),
  (5, 144, 60, 501, false),
  (5, 153, 66, 539, false),
  (5, 156, 63, 533, false),
  (5, 159, 133, 828, true),
  (5, 163, 56, 829, false),
  (6, 20, 46, 69, false),
  (6, 31, 27, 184, true),
  (6, 38, 11, 209, true),
  (6, 54, 0, 223, false),
  (6, 57, 123, 272, false),
  (6, 61, 121, 276, false),
  (6, 65, 6, 283, false),
  (6, 69, 122, 294, false),
  (6, 73, 4, 306, false),
  (6, 76, 5, 311, false),
  (6, 79, 120, 315, false),
  (6, 83, 1, 298, false),
  (6, 87, 7, 327, false),
  (6, 90, 3, 335, false),
  (6, 94, 8, 339, false),
  (6, 101, 9, 351, false),
  (6, 105, 124, 359, false),
  (6, 108, 13, 371, false),
  (6, 114, 47, 402, false),
  (6, 117, 14, 406, false),
  (6, 124, 50, 421, false),
  (6, 127, 129, 280, false),
  (6, 131, 56, 425, false),
  (6, 155, 25, 452, false),
  (6, 158, 57, 456, false),
  (6, 167, 22, 461, false),
  (6, 180, 53, 464, false),
  (6, 183, 66, 465, false),
  (6, 192, 52, 481, false),
  (6, 198, 61, 489, false),
  (6, 204, 62, 509, false),
  (6, 221, 65, 529, false),
  (6, 232, 125, 553, false),
  (6, 235, 49, 557, false),
  (6, 239, 127, 575, false),
  (6, 242, 130, 582, false),
  (6, 245, 28, 585, false),
  (6, 248, 32, 598, false),
  (6, 251, 34, 606, false),
  (6, 254, 51, 614, false),
  (6, 257, 36, 615, false),
  (6, 260, 35, 619, false),
  (6, 263, 33, 627, false),
  (6, 266, 12, 632, false),
  (6, 270, 37, 644, false),
  (6, 276, 40, 662, false),
  (6, 279, 39, 666, false),
  (6, 282, 41, 674, false),
  (6, 286, 30, 679, false),
  (6, 289, 55, 687, false),
  (6, 290, 59, 688, false),
  (6, 294, 42, 697, false),
  (6, 297, 224, 707, false),
  (6, 302, 131, 712, false),
  (6, 305, 54, 713, false),
  (6, 308, 43, 714, false),
  (6, 311, 44, 719, false),
  (6, 314, 60, 727, false),
  (6, 321, 67, 736, false),
  (6, 324, 45, 744, false),
  (6, 328, 68, 754, false),
  (6, 332, 23, 763, false),
  (6, 335, 132, 764, false),
  (6, 347, 58, 790, false),
  (6, 350, 64, 795, false),
  (6, 353, 126, 799, false),
  (6, 356, 128, 803, false),
  (6, 362, 116, 819, false),
  (6, 365, 133, 820, false),
  (6, 369, 69, 824, false),
  (6, 375, 10, 831, false),
  (6, 376, 2, 302, false),
  (7, 82, 135, 965, false),
  (7, 86, 141, 962, false),
  (7, 90, 136, 968, false),
  (7, 94, 142, 1013, false),
  (7, 97, 146, 972, false),
  (7, 101, 143, 980, false),
  (7, 104, 145, 984, false),
  (7, 108, 137, 988, false),
  (7, 111, 148, 996, false),
  (7, 114, 144, 1020, false),
  (7, 120, 155, 1032, false),
  (7, 123, 156, 1043, false),
  (7, 126, 157, 1047, false),
  (7, 135, 158, 1040, false),
  (7, 141, 160, 1036, false),
  (7, 144, 159, 1051, false),
  (7, 147, 161, 1028, false),
  (7, 168, 165, 1111, false),
  (7, 172, 168, 1071, false),
  (7, 175, 169, 1079, false),
  (7, 178, 139, 1119, false),
  (7, 182, 170, 1075, false),
  (7, 185, 164, 1063, false),
  (7, 188, 173, 1067, false),
  (7, 191, 167, 1087, false),
  (7, 194, 175, 1091, false),
  (7, 197, 166, 1107, false),
  (7, 200, 171, 1115, false),
  (7, 203, 184, 1146, false),
  (7, 206, 185, 1142, false),
  (7, 209, 172, 1177, false),
  (7, 224, 192, 1170, false),
  (7, 227, 191, 1173, false),
  (7, 231, 138, 1189, false),
  (7, 235, 198, 1201, false),
  (7, 239, 200, 1209, false),
  (7, 242, 147, 1225, false),
  (7, 245, 140, 1230, false),
  (7, 248, 208, 1249, false),
  (7, 258, 217, 1289, false),
  (7, 266, 221, 1306, false),
  (7, 271, 222, 1311, false),
  (13, 9, 70, 59, false),
  (13, 12, 134, 838, false),
  (13, 13, 71, 268, false),
  (13, 17, 147, 958, false),
  (13, 18, 72, 290, false),
  (13, 22, 149, 992, false),
  (13, 23, 73, 319, false),
  (13, 26, 148, 976, false),
  (13, 27, 74, 323, false),
  (13, 31, 150, 997, false),
  (13, 32, 75, 331, false),
  (13, 36, 151, 1001, false),
  (13, 37, 76, 347, false),
  (13, 40, 152, 1005, false),
  (13, 41, 77, 355, false),
  (13, 44, 153, 1009, false),
  (13, 45, 78, 363, false),
  (13, 48, 154, 1016, false),
  (13, 49, 79, 367, false),
  (13, 52, 162, 1024, false),
  (13, 53, 80, 398, false),
  (13, 56, 163, 1055, false),
  (13, 57, 81, 417, false),
  (13, 60, 174, 1059, false),
  (13, 61, 82, 446, false),
  (13, 64, 176, 1083, false),
  (13, 65, 83, 469, false),
  (13, 68, 177, 1095, false),
  (13, 69, 84, 473, false),
  (13, 72, 178, 1099, false),
  (13, 73, 85, 477, false),
  (13, 76, 179, 1103, false),
  (13, 77, 86, 505, false),
  (13, 80, 180, 1122, false),
  (13, 81, 87, 513, false),
  (13, 85, 181, 1126, false),
  (13, 86, 88, 517, false),
  (13, 89, 182, 1130, false),
  (13, 90, 89, 521, false),
  (13, 93, 183, 1134, false),
  (13, 94, 90, 525, false),
  (13, 97, 186, 1138, false),
  (13, 98, 91, 540, false),
  (13, 101, 187, 1150, false),
  (13, 102, 92, 544, false),
  (13, 105, 188, 1154, false),
  (13, 106, 93, 549, false),
  (13, 109, 189, 1158, false),
  (13, 110, 94, 571, false),
  (13, 113, 190, 1162, false),
  (13, 114, 95, 578, false),
  (13, 117, 193, 1166, false),
  (13, 118, 96, 610, false),
  (13, 121, 194, 1181, false),
  (13, 122, 97, 623, false),
  (13, 125, 195, 1185, false),
  (13, 126, 98, 636, false),
  (13, 129, 196, 1193, false),
  (13, 130, 99, 640, false),
  (13, 133, 197, 1197, false),
  (13, 134, 100, 653, false),
  (13, 137, 199, 1205, false),
  (13, 138, 101, 658, false),
  (13, 141, 201, 1213, false),
  (13, 142, 102, 670, false),
  (13, 145, 202, 1217, false),
  (13, 146, 103, 683, false),
  (13, 149, 203, 1221, false),
  (13, 150, 104, 693, false),
  (13, 153, 204, 1226, false),
  (13, 154, 105, 708, false),
  (13, 157, 205, 1233, false),
  (13, 158, 106, 723, false),
  (13, 161, 206, 1237, false),
  (13, 162, 107, 728, false),
  (13, 165, 207, 1241, false),
  (13, 166, 108, 732, false),
  (13, 169, 209, 1245, false),
  (13, 170, 109, 740, false),
  (13, 173, 210, 1253, false),
  (13, 174, 110, 750, false),
  (13, 177, 211, 1257, false),
  (13, 178, 111, 758, false),
  (13, 181, 212, 1261, false),
  (13, 182, 112, 769, false),
  (13, 185, 213, 1269, false),
  (13, 186, 113, 774, false),
  (13, 189, 214, 1273, false),
  (13, 190, 114, 778, false),
  (13, 194, 215, 1277, false),
  (13, 195, 115, 782, false),
  (13, 198, 216, 1281, false),
  (13, 199, 116, 786, false),
  (13, 202, 218, 1285, false),
  (13, 203, 117, 806, false),
  (13, 206, 219, 1293, false),
  (13, 207, 118, 810, false),
  (13, 210, 220, 1297, false),
  (13, 211, 119, 814, false),
  (13, 214, 223, 1301, false)]
noncomputable def mNm (y : Nat) : MethodName := match MT[y]? with
  | some r => r.1
  | none => objectInit
noncomputable def chkK (e : Nat × Nat × Nat × Nat × Bool) : Bool := match e with
  | (oc, i, y, p, n) => (match n with
    | true => inNw p (.methodLinkNest (clsN oc) i (mNm y) "NoiseTithe")
    | false => inTbl p (.methodLink (clsN oc) i (mNm y)))
theorem lnkL_ok_0 : (lnkL.drop 0).take 60 |>.all chkK := by decide +kernel
theorem lnkL_ok_1 : (lnkL.drop 60).take 60 |>.all chkK := by decide +kernel
theorem lnkL_ok_2 : (lnkL.drop 120).take 60 |>.all chkK := by decide +kernel
theorem lnkL_ok_3 : (lnkL.drop 180).take 60 |>.all chkK := by decide +kernel
theorem lnkL_ok_4 : (lnkL.drop 240).take 60 |>.all chkK := by decide +kernel
def prN (a : Nat) : MethodName := match a with
  | 1 => objectInit
  | 2 => arraycopyName
  | 3 => Lib.Math.max.name
  | 4 => Lib.Math.min.name
  | _ => Lib.Math.abs.name
def prmL : List (Nat × Nat × Nat × Nat) := [(0, 1, 1, 226), (0, 13, 3, 227), (0, 27, 4, 287), (0, 34, 2, 344), (1, 1, 1, 212), (2, 3, 1, 117), (2, 15, 2, 570), (3, 1, 1, 83), (4, 3, 1, 187), (4, 80, 4, 718), (4, 88, 3, 749), (5, 3, 1, 72), (5, 69, 2, 565), (5, 82, 5, 442), (5, 98, 3, 445), (5, 122, 4, 500), (6, 1, 1, 62), (6, 227, 3, 548), (6, 273, 5, 657), (7, 1, 1, 841)]
def chkY (e : Nat × Nat × Nat × Nat) : Bool := match e with
  | (oc, i, a, p) => inTbl p (.methodLink (clsN oc) i (prN a)) && Nat.ble 1 a && Nat.ble a 5
theorem prmL_ok : prmL.all chkY = true := by decide +kernel
theorem prmW_ok : (inTbl 228 (.static Lib.Math.max.name) && inTbl 288 (.static Lib.Math.min.name) && inTbl 443 (.static Lib.Math.abs.name) && inTbl 52 (.initialized "java/lang/Math") && inTbl 229 (.code Lib.Math.max.name Lib.Math.max.code 2 (some .int)) && inTbl 289 (.code Lib.Math.min.name Lib.Math.min.code 2 (some .int)) && inTbl 444 (.code Lib.Math.abs.name Lib.Math.abs.code 1 (some .int))) = true := by decide +kernel
theorem cpyW_ok : (inTbl 346 (.native arraycopyName) && inTbl 345 (.static arraycopyName) && inTbl 54 (.initialized "java/lang/System") && inTbl 63 (.instanceMethod objectInit) && inTbl 64 (.code objectInit ⟨#[0xb1]⟩ 1 none)) = true := by decide +kernel
end
section
/-! THE CHECK of a method's instructions against its bytes: each is what decode says, goes on where the bytes go on, and links to what the tables say. -/
def fall (pcs : List Nat) (nx q : Nat) : Bool := decide (pcs[nx]? = some q)
def jmp (pcs : List Nat) (a pc : Nat) (off : Int) : Bool := match pcs[a]? with
  | some q => decide ((pc : Int) + off = (q : Int))
  | none => false
def okTag (a b : Nat) : Bool := Nat.blt a 2 && !(Nat.beq a 0 && Nat.beq b 20)
noncomputable def chkCall (k oc x a b mc ms c rf rl : Nat) : Bool := lnkL.any (fun e => Nat.beq e.1 oc && Nat.beq e.2.1 x && Nat.beq e.2.2.1 a) && (match metL[a]?, MT[a]? with
  | some (k', _, _, _, _, n), some (_, _, nL, _, oc', _, _, (f, w), (mc', ms')) => Nat.beq k k' && (match k with
    | 1 => Nat.beq b n
    | _ => Nat.beq b (n + 1)) && Nat.beq mc mc' && Nat.beq ms ms' && Nat.ble (f + 1) rf && Nat.ble (8 + (nL + 11) + w) rl && (match k with
    | 0 => Nat.beq c oc' && Nat.ble c 8
    | 1 => Nat.beq c 99
    | _ => Nat.beq c 98)
  | _, _ => false)
def chkPrm (oc x a rf rl : Nat) : Bool := prmL.any (fun e => Nat.beq e.1 oc && Nat.beq e.2.1 x && Nat.beq e.2.2.1 a) && Nat.ble 1 rf && Nat.ble 40 rl
noncomputable def chkI (oc : Nat) (ini : Bool) (ret : Option FieldType) (rf rl : Nat) (pcs : List Nat) (pc n a b nx : Nat) (v : Vv) (ts : List Nat) (i : Instr) : Bool := match i with
  | .iconst k => Nat.beq n 1 && fall pcs nx (pc + 1) && decide (v = vi (Int32.ofInt k))
  | .bipush k => Nat.beq n 2 && fall pcs nx (pc + 2) && decide (v = vi (Int8.ofInt k).toInt32)
  | .sipush k => Nat.beq n 3 && fall pcs nx (pc + 3) && decide (v = vi (Int16.ofInt k).toInt32)
  | .lconst k => Nat.beq n 1 && fall pcs nx (pc + 1) && decide (v = vl (Int64.ofNat (k : Nat)))
  | .ldc x => Nat.beq n 2 && fall pcs nx (pc + 2) && conL.any (fun e => Nat.beq e.1 oc && Nat.beq e.2.1 x && decide (e.2.2.1 = v)) && (match v with
    | .inl _ => true
    | _ => false)
  | .ldc_w x => Nat.beq n 3 && fall pcs nx (pc + 3) && conL.any (fun e => Nat.beq e.1 oc && Nat.beq e.2.1 x && decide (e.2.2.1 = v)) && (match v with
    | .inl _ => true
    | _ => false)
  | .ldc2_w x => Nat.beq n 3 && fall pcs nx (pc + 3) && conL.any (fun e => Nat.beq e.1 oc && Nat.beq e.2.1 x && decide (e.2.2.1 = v)) && (match v with
    | .inr (.inl _) => true
    | _ => false)
  | .aconst_null => Nat.beq n 1 && fall pcs nx (pc + 1)
  | .getstatic x => Nat.beq n 3 && fall pcs nx (pc + 3) && staL.any (fun e => Nat.beq e.1 oc && Nat.beq e.2.1 x && Nat.beq e.2.2.1 a)
  | .iload k => Nat.beq n 2 && fall pcs nx (pc + 2) && Nat.beq a k
  | .iload_n k => Nat.beq n 1 && fall pcs nx (pc + 1) && Nat.beq a k
  | .lload k => Nat.beq n 2 && fall pcs nx (pc + 2) && Nat.beq a k
  | .lload_n k => Nat.beq n 1 && fall pcs nx (pc + 1) && Nat.beq a k
  | .aload k => Nat.beq n 2 && fall pcs nx (pc + 2) && Nat.beq a k
  | .aload_n k => Nat.beq n 1 && fall pcs nx (pc + 1) && Nat.beq a k
  | .istore k => Nat.beq n 2 && fall pcs nx (pc + 2) && Nat.beq a k
  | .istore_n k => Nat.beq n 1 && fall pcs nx (pc + 1) && Nat.beq a k
  | .lstore k => Nat.beq n 2 && fall pcs nx (pc + 2) && Nat.beq a k
  | .lstore_n k => Nat.beq n 1 && fall pcs nx (pc + 1) && Nat.beq a k
  | .astore k => Nat.beq n 2 && fall pcs nx (pc + 2) && Nat.beq a k
  | .astore_n k => Nat.beq n 1 && fall pcs nx (pc + 1) && Nat.beq a k
  | .iinc k c => Nat.beq n 3 && fall pcs nx (pc + 3) && Nat.beq a k && decide (v = vi (Int32.ofInt c))
  | .iadd | .isub | .imul | .iand | .ior | .ixor | .ishl | .ishr | .iushr | .idiv | .irem | .ineg | .i2b | .ladd | .lsub | .lmul | .ldiv | .lrem | .lcmp | .i2l | .l2i | .iaload | .baload | .aaload | .iastore | .bastore | .aastore | .arraylength | .dup | .pop | .dup2 => Nat.beq n 1 && fall pcs nx (pc + 1)
  | .goto off => Nat.beq n 3 && jmp pcs a pc off
  | .if_icmp _ off => Nat.beq n 3 && fall pcs nx (pc + 3) && jmp pcs a pc off
  | .ifCond _ off => Nat.beq n 3 && fall pcs nx (pc + 3) && jmp pcs a pc off
  | .ifnull off => Nat.beq n 3 && fall pcs nx (pc + 3) && jmp pcs a pc off
  | .ifnonnull off => Nat.beq n 3 && fall pcs nx (pc + 3) && jmp pcs a pc off
  | .if_acmp _ off => Nat.beq n 3 && fall pcs nx (pc + 3) && jmp pcs a pc off
  | .getfield x => Nat.beq n 3 && fall pcs nx (pc + 3) && fldL.any (fun e => Nat.beq e.1 oc && Nat.beq e.2.1 x && Nat.beq e.2.2.1 a && Nat.beq e.2.2.2.1 b && decide (ts = [e.2.2.2.2.1]))
  | .putfield x => Nat.beq n 3 && fall pcs nx (pc + 3) && fldL.any (fun e => Nat.beq e.1 oc && Nat.beq e.2.1 x && Nat.beq e.2.2.1 a && Nat.beq e.2.2.2.1 b && decide (ts = [e.2.2.2.2.1]) && (!(fT a b).2.2.2 || (ini && !e.2.2.2.2.2.2 && decide ((fT a b).1 = clsN oc))))
  | .new x => Nat.beq n 3 && fall pcs nx (pc + 3) && okTag a b && decide (ts = [fN (sh (a, b, 0))]) && newL.any (fun e => Nat.beq e.1 oc && Nat.beq e.2.1 x && Nat.beq e.2.2.1 (sh (a, b, 0)))
  | .newarray t => Nat.beq n 2 && fall pcs nx (pc + 2) && okTag a b && ((decide (t = .int) && Nat.beq (sh (a, b, 0)) 20) || (decide (t = .boolean) && Nat.beq (sh (a, b, 0)) 21))
  | .anewarray x => Nat.beq n 3 && fall pcs nx (pc + 3) && okTag a b && arrL.any (fun e => Nat.beq e.1 oc && Nat.beq e.2.1 x && Nat.beq e.2.2.1 (sh (a, b, 0)))
  | .multianewarray x d => Nat.beq n 4 && fall pcs nx (pc + 4) && Nat.beq x 23 && Nat.beq d 2 && Nat.beq oc 5 && Nat.beq a 0 && Nat.beq b 12 && decide (ts = [13])
  | .tableswitch d lo hi offs => jmp pcs a pc d && decide (lo = (b : Int)) && decide (hi + 1 = (b : Int) + ts.length) && Nat.beq offs.size ts.length && (ts.zip offs.toList).all (fun e => jmp pcs e.1 pc e.2) && Nat.blt (b + ts.length) 1000
  | .invokevirtual x => Nat.beq n 3 && fall pcs nx (pc + 3) && (match ts with
    | [mc, ms, c] => chkCall 0 oc x a b mc ms c rf rl
    | _ => false)
  | .invokespecial x => Nat.beq n 3 && fall pcs nx (pc + 3) && (match ts with
    | [] => Nat.beq a 1 && chkPrm oc x a rf rl
    | [mc, ms, c] => chkCall 2 oc x a b mc ms c rf rl
    | _ => false)
  | .invokestatic x => Nat.beq n 3 && fall pcs nx (pc + 3) && (match ts with
    | [] => Nat.ble 2 a && Nat.ble a 5 && chkPrm oc x a rf rl
    | [mc, ms, c] => chkCall 1 oc x a b mc ms c rf rl
    | _ => false)
  | .ireturn => Nat.beq n 1 && ((Nat.beq a 0 && decide (ret = some .int)) || (Nat.beq a 1 && decide (ret = some .boolean)))
  | .lreturn => Nat.beq n 1 && decide (ret = some .long)
  | .areturn => Nat.beq n 1 && decide (ret = some (.object "NoiseTithe$Kind"))
  | .return_ => Nat.beq n 1 && decide (ret = none)
  | _ => false
noncomputable def chk1 (r : MRow) (e : Ins × Nat) : Bool := match r, e with
  | (y, cc, nL, ret, oc, cd, pcs, (rf, rl), _), ((i, a, b, nx, v, ts), pc) => (match decode cc pc with
      | .ok (j, n) => decide (i = j) && chkI oc (decide (y.name = "<init>")) ret rf rl pcs pc n a b nx v ts i
      | .error _ => false)
noncomputable def chkH (r : MRow) : Bool := match r with
  | (_, _, _, _, _, cd, pcs, _, _) => Nat.beq cd.length pcs.length && decide (pcs[0]? = some 0)
noncomputable def chkR (r : MRow) : Bool := chkH r && (r.2.2.2.2.2.1.zip r.2.2.2.2.2.2.1).all (chk1 r)
theorem all_cut {α : Type} {f : α → Bool} (n : Nat) {l : List α} (h1 : (l.take n).all f = true) (h2 : (l.drop n).all f = true) : l.all f = true := by
  rw [← List.take_append_drop n l, List.all_append, h1, h2]; rfl
end
section
theorem k_Ce_init : chkR r_Ce_init = true := by decide +kernel
theorem k_Ce_isMissing : chkR r_Ce_isMissing = true := by decide +kernel
theorem k_Ce_has : chkR r_Ce_has = true := by decide +kernel
theorem k_Ce_hasSpan : chkR r_Ce_hasSpan = true := by decide +kernel
theorem k_Ce_get : chkR r_Ce_get = true := by decide +kernel
theorem k_Ce_set : chkR r_Ce_set = true := by decide +kernel
theorem k_Ce_renew : chkR r_Ce_renew = true := by decide +kernel
theorem k_Ce_remove : chkR r_Ce_remove = true := by decide +kernel
theorem k_Ce_take : chkR r_Ce_take = true := by decide +kernel
theorem k_Ce_sum : chkR r_Ce_sum = true := by decide +kernel
theorem k_Ce_mixedInto : chkR r_Ce_mixedInto = true := by decide +kernel
theorem k_Fr_init : chkR r_Fr_init = true := by decide +kernel
theorem k_Fr_become : chkR r_Fr_become = true := by decide +kernel
theorem k_Gr_faultOf : chkR r_Gr_faultOf = true := by decide +kernel
theorem k_Gr_build : chkR r_Gr_build = true := by decide +kernel
theorem k_Gr_buildItem : chkR r_Gr_buildItem = true := by decide +kernel
theorem k_Gr_endOfFigures : chkR r_Gr_endOfFigures = true := by decide +kernel
theorem k_Gr_canBegin : chkR r_Gr_canBegin = true := by decide +kernel
theorem k_Gr_isFigure : chkR r_Gr_isFigure = true := by decide +kernel
theorem k_Hr_init : chkR r_Hr_init = true := by decide +kernel
theorem k_Hr_becomeLike : chkR r_Hr_becomeLike = true := by decide +kernel
theorem k_Ho_init : chkR r_Ho_init = true := by decide +kernel
theorem k_Ho_sound : chkR r_Ho_sound = true := by decide +kernel
theorem k_Ho_isMute : chkR r_Ho_isMute = true := by decide +kernel
theorem k_Ho_becomeLike : chkR r_Ho_becomeLike = true := by decide +kernel
theorem k_Ki_isOf : chkR r_Ki_isOf = true := by decide +kernel
theorem k_Ki_byLetter : chkR r_Ki_byLetter = true := by decide +kernel
theorem k_Se_init : chkR r_Se_init = true := by decide +kernel
theorem k_Se_lookAt : chkR r_Se_lookAt = true := by decide +kernel
theorem k_Se_addHouse : chkR r_Se_addHouse = true := by decide +kernel
theorem k_Se_ripplesOf : chkR r_Se_ripplesOf = true := by decide +kernel
theorem k_Se_isFitting : chkR r_Se_isFitting = true := by decide +kernel
theorem k_Se_howManyFit : chkR r_Se_howManyFit = true := by decide +kernel
theorem k_Se_howManyFitWith : chkR r_Se_howManyFitWith = true := by decide +kernel
theorem k_Se_leastFitting : chkR r_Se_leastFitting = true := by decide +kernel
theorem k_Se_inAllFitting : chkR r_Se_inAllFitting = true := by decide +kernel
theorem k_Se_inAnyFitting : chkR r_Se_inAnyFitting = true := by decide +kernel
theorem k_Se_waysToJoin : chkR r_Se_waysToJoin = true := by decide +kernel
theorem k_Se_howManyBeside : chkR r_Se_howManyBeside = true := by decide +kernel
theorem k_Se_unlikeRises : chkR r_Se_unlikeRises = true := by decide +kernel
theorem k_Se_greatestRise : chkR r_Se_greatestRise = true := by decide +kernel
theorem k_Se_cheapestSounding : chkR r_Se_cheapestSounding = true := by decide +kernel
theorem k_Se_mostHouses : chkR r_Se_mostHouses = true := by decide +kernel
theorem k_Se_fewestHours : chkR r_Se_fewestHours = true := by decide +kernel
theorem k_Se_firstHour : chkR r_Se_firstHour = true := by decide +kernel
theorem k_Se_fewestPayments : chkR r_Se_fewestPayments = true := by decide +kernel
theorem k_St_init : chkR r_St_init = true := by decide +kernel
theorem k_St_clear : chkR r_St_clear = true := by decide +kernel
theorem k_St_add : chkR r_St_add = true := by decide +kernel
theorem k_St_becomeLike : chkR r_St_becomeLike = true := by decide +kernel
theorem k_St_hasHouse : chkR r_St_hasHouse = true := by decide +kernel
theorem k_St_allHouses : chkR r_St_allHouses = true := by decide +kernel
theorem k_St_hasSet : chkR r_St_hasSet = true := by decide +kernel
theorem k_St_distance : chkR r_St_distance = true := by decide +kernel
theorem k_St_ripple : chkR r_St_ripple = true := by decide +kernel
theorem k_St_ripplesOf : chkR r_St_ripplesOf = true := by decide +kernel
theorem k_St_trait : chkR r_St_trait = true := by decide +kernel
theorem k_St_lesserRipples : chkR r_St_lesserRipples = true := by decide +kernel
theorem k_St_howManyOf : chkR r_St_howManyOf = true := by decide +kernel
theorem k_St_rippleMostBehind : chkR r_St_rippleMostBehind = true := by decide +kernel
theorem k_St_leaked : chkR r_St_leaked = true := by decide +kernel
theorem k_St_ring : chkR r_St_ring = true := by decide +kernel
theorem k_St_goBackTo : chkR r_St_goBackTo = true := by decide +kernel
theorem k_St_isExempt : chkR r_St_isExempt = true := by decide +kernel
theorem k_St_howManyExempt : chkR r_St_howManyExempt = true := by decide +kernel
theorem k_St_titheOf : chkR r_St_titheOf = true := by decide +kernel
theorem k_St_owedBy : chkR r_St_owedBy = true := by decide +kernel
theorem k_St_balanceOf : chkR r_St_balanceOf = true := by decide +kernel
theorem k_St_netDebts : chkR r_St_netDebts = true := by decide +kernel
theorem k_St_mixedInto : chkR r_St_mixedInto = true := by decide +kernel
theorem k_X_init : chkR r_X_init = true := by decide +kernel
theorem k_X_row : chkR r_X_row = true := by decide +kernel
theorem k_X_lay : chkR r_X_lay = true := by decide +kernel
theorem k_X_at : chkR r_X_at = true := by decide +kernel
theorem k_X_tear : chkR r_X_tear = true := by decide +kernel
theorem k_X_copy : chkR r_X_copy = true := by decide +kernel
theorem k_X_mean : chkR r_X_mean = true := by decide +kernel
theorem k_X_text : chkR r_X_text = true := by decide +kernel
theorem k_X_put : chkR r_X_put = true := by decide +kernel
theorem k_X_fault : chkR r_X_fault = true := by decide +kernel
theorem k_X_street : chkR r_X_street = true := by decide +kernel
theorem k_X_house : chkR r_X_house = true := by decide +kernel
theorem k_X_mark : chkR r_X_mark = true := by decide +kernel
theorem k_X_altar : chkR r_X_altar = true := by decide +kernel
theorem k_X_wall : chkR r_X_wall = true := by decide +kernel
end
section
theorem k_X_hour : chkR r_X_hour = true := by decide +kernel
theorem k_X_undo : chkR r_X_undo = true := by decide +kernel
theorem k_X_jar : chkR r_X_jar = true := by decide +kernel
theorem k_X_loud : chkR r_X_loud = true := by decide +kernel
theorem k_X_made : chkR r_X_made = true := by decide +kernel
theorem k_X_tithe : chkR r_X_tithe = true := by decide +kernel
theorem k_X_pay : chkR r_X_pay = true := by decide +kernel
theorem k_X_due : chkR r_X_due = true := by decide +kernel
theorem k_X_keep : chkR r_X_keep = true := by decide +kernel
theorem k_X_on : chkR r_X_on = true := by decide +kernel
theorem k_X_fits : chkR r_X_fits = true := by decide +kernel
theorem k_X_sure : chkR r_X_sure = true := by decide +kernel
theorem k_X_odds : chkR r_X_odds = true := by decide +kernel
theorem k_X_thunder : chkR r_X_thunder = true := by decide +kernel
theorem k_X_joined : chkR r_X_joined = true := by decide +kernel
theorem k_X_silence : chkR r_X_silence = true := by decide +kernel
theorem k_X_rises : chkR r_X_rises = true := by decide +kernel
theorem k_X_wedding : chkR r_X_wedding = true := by decide +kernel
theorem k_X_feathers : chkR r_X_feathers = true := by decide +kernel
theorem k_X_most : chkR r_X_most = true := by decide +kernel
theorem k_X_hours : chkR r_X_hours = true := by decide +kernel
theorem k_X_year : chkR r_X_year = true := by decide +kernel
theorem k_X_debt : chkR r_X_debt = true := by decide +kernel
theorem k_X_balance : chkR r_X_balance = true := by decide +kernel
theorem k_X_payments : chkR r_X_payments = true := by decide +kernel
theorem k_X_net : chkR r_X_net = true := by decide +kernel
theorem k_X_crickets : chkR r_X_crickets = true := by decide +kernel
theorem k_X_sings : chkR r_X_sings = true := by decide +kernel
theorem k_X_asked : chkR r_X_asked = true := by decide +kernel
theorem k_X_upper : chkR r_X_upper = true := by decide +kernel
theorem k_X_lower : chkR r_X_lower = true := by decide +kernel
theorem k_X_count : chkR r_X_count = true := by decide +kernel
theorem k_X_finding : chkR r_X_finding = true := by decide +kernel
theorem k_X_findings : chkR r_X_findings = true := by decide +kernel
theorem k_X_digest : chkR r_X_digest = true := by decide +kernel
theorem k_X_tell : chkR r_X_tell = true := by decide +kernel
theorem k_X_found : chkR r_X_found = true := by decide +kernel
theorem k_X_refusalOfPlace : chkR r_X_refusalOfPlace = true := by decide +kernel
theorem k_X_isRow : chkR r_X_isRow = true := by decide +kernel
theorem k_X_isText : chkR r_X_isText = true := by decide +kernel
theorem k_X_isKeptPlace : chkR r_X_isKeptPlace = true := by decide +kernel
theorem k_X_howManyKept : chkR r_X_howManyKept = true := by decide +kernel
theorem k_X_isMissing : chkR r_X_isMissing = true := by decide +kernel
theorem k_X_howManyThere : chkR r_X_howManyThere = true := by decide +kernel
theorem k_X_isWithin : chkR r_X_isWithin = true := by decide +kernel
theorem k_X_isRise : chkR r_X_isRise = true := by decide +kernel
theorem k_X_contains : chkR r_X_contains = true := by decide +kernel
theorem k_X_lotBehind : chkR r_X_lotBehind = true := by decide +kernel
theorem k_X_mixed : chkR r_X_mixed = true := by decide +kernel
theorem k_M_init : chkR r_M_init = true := by decide +kernel
theorem k_M_in : chkR r_M_in = true := by decide +kernel
theorem k_M_meet : chkR r_M_meet = true := by decide +kernel
theorem k_M_ask : chkR r_M_ask = true := by decide +kernel
theorem k_M_part : chkR r_M_part = true := by decide +kernel
theorem k_M_has : chkR r_M_has = true := by decide +kernel
theorem k_M_sizeOf : chkR r_M_sizeOf = true := by decide +kernel
theorem k_M_isRow : chkR r_M_isRow = true := by decide +kernel
theorem k_M_isText : chkR r_M_isText = true := by decide +kernel
theorem k_M_askedRow : chkR r_M_askedRow = true := by decide +kernel
theorem k_M_askedText : chkR r_M_askedText = true := by decide +kernel
theorem k_M_rowAt : chkR r_M_rowAt = true := by decide +kernel
theorem k_M_setRow : chkR r_M_setRow = true := by decide +kernel
theorem k_M_row : chkR r_M_row = true := by decide +kernel
theorem k_M_at : chkR r_M_at = true := by decide +kernel
theorem k_M_lay : chkR r_M_lay = true := by decide +kernel
theorem k_M_tear : chkR r_M_tear = true := by decide +kernel
theorem k_M_copy : chkR r_M_copy = true := by decide +kernel
theorem k_M_mean : chkR r_M_mean = true := by decide +kernel
theorem k_M_text : chkR r_M_text = true := by decide +kernel
theorem k_M_put : chkR r_M_put = true := by decide +kernel
theorem k_M_here : chkR r_M_here = true := by decide +kernel
theorem k_M_isFigure : chkR r_M_isFigure = true := by decide +kernel
theorem k_M_figure : chkR r_M_figure = true := by decide +kernel
theorem k_M_kindOf : chkR r_M_kindOf = true := by decide +kernel
theorem k_M_readsHead : chkR r_M_readsHead = true := by decide +kernel
theorem k_M_readsHouse : chkR r_M_readsHouse = true := by decide +kernel
theorem k_M_goesOn : chkR r_M_goesOn = true := by decide +kernel
theorem k_M_fault : chkR r_M_fault = true := by decide +kernel
theorem k_M_street : chkR r_M_street = true := by decide +kernel
theorem k_M_isHouse : chkR r_M_isHouse = true := by decide +kernel
theorem k_M_all : chkR r_M_all = true := by decide +kernel
theorem k_M_isSet : chkR r_M_isSet = true := by decide +kernel
theorem k_M_isA : chkR r_M_isA = true := by decide +kernel
theorem k_M_soundOf : chkR r_M_soundOf = true := by decide +kernel
theorem k_M_farOf : chkR r_M_farOf = true := by decide +kernel
theorem k_M_rippleOf : chkR r_M_rippleOf = true := by decide +kernel
theorem k_M_ripples : chkR r_M_ripples = true := by decide +kernel
theorem k_M_mutes : chkR r_M_mutes = true := by decide +kernel
theorem k_M_houseOf : chkR r_M_houseOf = true := by decide +kernel
theorem k_M_house : chkR r_M_house = true := by decide +kernel
theorem k_M_owes : chkR r_M_owes = true := by decide +kernel
theorem k_M_mark : chkR r_M_mark = true := by decide +kernel
end
section
theorem k_M_altar : chkR r_M_altar = true := by decide +kernel
theorem k_M_wall : chkR r_M_wall = true := by decide +kernel
theorem k_M_hour : chkR r_M_hour = true := by decide +kernel
theorem k_M_undo : chkR r_M_undo = true := by decide +kernel
theorem k_M_jar : chkR r_M_jar = true := by decide +kernel
theorem k_M_loud : chkR r_M_loud = true := by decide +kernel
theorem k_M_made : chkR r_M_made = true := by decide +kernel
theorem k_M_isExempt : chkR r_M_isExempt = true := by decide +kernel
theorem k_M_titheOf : chkR r_M_titheOf = true := by decide +kernel
theorem k_M_tithe : chkR r_M_tithe = true := by decide +kernel
theorem k_M_pay : chkR r_M_pay = true := by decide +kernel
theorem k_M_due : chkR r_M_due = true := by decide +kernel
theorem k_M_keep : chkR r_M_keep = true := by decide +kernel
theorem k_M_on : chkR r_M_on = true := by decide +kernel
theorem k_M_setFits : chkR r_M_setFits = true := by decide +kernel
theorem k_M_isRise : chkR r_M_isRise = true := by decide +kernel
theorem k_M_fits : chkR r_M_fits = true := by decide +kernel
theorem k_M_sure : chkR r_M_sure = true := by decide +kernel
theorem k_M_odds : chkR r_M_odds = true := by decide +kernel
theorem k_M_thunder : chkR r_M_thunder = true := by decide +kernel
theorem k_M_joined : chkR r_M_joined = true := by decide +kernel
theorem k_M_joinedBy : chkR r_M_joinedBy = true := by decide +kernel
theorem k_M_silence : chkR r_M_silence = true := by decide +kernel
theorem k_M_halfOf : chkR r_M_halfOf = true := by decide +kernel
theorem k_M_rises : chkR r_M_rises = true := by decide +kernel
theorem k_M_wedding : chkR r_M_wedding = true := by decide +kernel
theorem k_M_feathers : chkR r_M_feathers = true := by decide +kernel
theorem k_M_most : chkR r_M_most = true := by decide +kernel
theorem k_M_hours : chkR r_M_hours = true := by decide +kernel
theorem k_M_year : chkR r_M_year = true := by decide +kernel
theorem k_M_debt : chkR r_M_debt = true := by decide +kernel
theorem k_M_balanceOf : chkR r_M_balanceOf = true := by decide +kernel
theorem k_M_balance : chkR r_M_balance = true := by decide +kernel
theorem k_M_payments : chkR r_M_payments = true := by decide +kernel
theorem k_M_net : chkR r_M_net = true := by decide +kernel
theorem k_M_crickets : chkR r_M_crickets = true := by decide +kernel
theorem k_M_sings : chkR r_M_sings = true := by decide +kernel
theorem k_M_asked : chkR r_M_asked = true := by decide +kernel
theorem k_M_upper : chkR r_M_upper = true := by decide +kernel
theorem k_M_lower : chkR r_M_lower = true := by decide +kernel
theorem k_M_counts : chkR r_M_counts = true := by decide +kernel
theorem k_M_count : chkR r_M_count = true := by decide +kernel
theorem k_M_finding : chkR r_M_finding = true := by decide +kernel
theorem k_M_findings : chkR r_M_findings = true := by decide +kernel
theorem k_M_mix : chkR r_M_mix = true := by decide +kernel
theorem k_M_mixStreet : chkR r_M_mixStreet = true := by decide +kernel
theorem k_M_digest : chkR r_M_digest = true := by decide +kernel
theorem k_J_bitCount : chkR r_J_bitCount = true := by decide +kernel
end
section
theorem kl_0 : (((i_L_law.zip p_L_law).drop 0).take 27).all (chk1 r_L_law) = true := by decide +kernel
theorem kl_1 : (((i_L_law.zip p_L_law).drop 27).take 27).all (chk1 r_L_law) = true := by decide +kernel
theorem kl_2 : (((i_L_law.zip p_L_law).drop 54).take 27).all (chk1 r_L_law) = true := by decide +kernel
theorem kl_3 : (((i_L_law.zip p_L_law).drop 81).take 27).all (chk1 r_L_law) = true := by decide +kernel
theorem kl_4 : (((i_L_law.zip p_L_law).drop 108).take 27).all (chk1 r_L_law) = true := by decide +kernel
theorem kl_5 : (((i_L_law.zip p_L_law).drop 135).take 27).all (chk1 r_L_law) = true := by decide +kernel
theorem kl_6 : (((i_L_law.zip p_L_law).drop 162).take 27).all (chk1 r_L_law) = true := by decide +kernel
theorem kl_7 : (((i_L_law.zip p_L_law).drop 189).take 27).all (chk1 r_L_law) = true := by decide +kernel
theorem kl_8 : (((i_L_law.zip p_L_law).drop 216).take 27).all (chk1 r_L_law) = true := by decide +kernel
theorem kl_9 : (((i_L_law.zip p_L_law).drop 243).take 27).all (chk1 r_L_law) = true := by decide +kernel
theorem kl_10 : (((i_L_law.zip p_L_law).drop 270).take 27).all (chk1 r_L_law) = true := by decide +kernel
theorem kl_11 : (((i_L_law.zip p_L_law).drop 297).take 27).all (chk1 r_L_law) = true := by decide +kernel
theorem kl_12 : (((i_L_law.zip p_L_law).drop 324).take 27).all (chk1 r_L_law) = true := by decide +kernel
theorem kl_13 : (((i_L_law.zip p_L_law).drop 351).take 27).all (chk1 r_L_law) = true := by decide +kernel
theorem kl_14 : (((i_L_law.zip p_L_law).drop 378).take 27).all (chk1 r_L_law) = true := by decide +kernel
theorem kl_15 : (((i_L_law.zip p_L_law).drop 405).take 27).all (chk1 r_L_law) = true := by decide +kernel
theorem kl_16 : (((i_L_law.zip p_L_law).drop 432).take 27).all (chk1 r_L_law) = true := by decide +kernel
theorem kl_17 : (((i_L_law.zip p_L_law).drop 459).take 27).all (chk1 r_L_law) = true := by decide +kernel
theorem kl_18 : (((i_L_law.zip p_L_law).drop 486).take 27).all (chk1 r_L_law) = true := by decide +kernel
theorem kl_19 : (((i_L_law.zip p_L_law).drop 513).take 27).all (chk1 r_L_law) = true := by decide +kernel
theorem kl_20 : (((i_L_law.zip p_L_law).drop 540).take 27).all (chk1 r_L_law) = true := by decide +kernel
theorem kl_21 : (((i_L_law.zip p_L_law).drop 567).take 27).all (chk1 r_L_law) = true := by decide +kernel
theorem kl_22 : (((i_L_law.zip p_L_law).drop 594).take 27).all (chk1 r_L_law) = true := by decide +kernel
theorem kl_23 : (((i_L_law.zip p_L_law).drop 621).take 27).all (chk1 r_L_law) = true := by decide +kernel
theorem kl_24 : (((i_L_law.zip p_L_law).drop 648).take 27).all (chk1 r_L_law) = true := by decide +kernel
theorem kl_25 : (((i_L_law.zip p_L_law).drop 675).take 27).all (chk1 r_L_law) = true := by decide +kernel
theorem kl_26 : (((i_L_law.zip p_L_law).drop 702).take 27).all (chk1 r_L_law) = true := by decide +kernel
theorem kl_27 : (((i_L_law.zip p_L_law).drop 729).take 27).all (chk1 r_L_law) = true := by decide +kernel
theorem kl_28 : (((i_L_law.zip p_L_law).drop 756).take 27).all (chk1 r_L_law) = true := by decide +kernel
theorem kl_29 : (((i_L_law.zip p_L_law).drop 783).take 27).all (chk1 r_L_law) = true := by decide +kernel
theorem kl_30 : (((i_L_law.zip p_L_law).drop 810).take 27).all (chk1 r_L_law) = true := by decide +kernel
theorem kl_31 : (((i_L_law.zip p_L_law).drop 837).take 27).all (chk1 r_L_law) = true := by decide +kernel
theorem kl_32 : (((i_L_law.zip p_L_law).drop 864).take 27).all (chk1 r_L_law) = true := by decide +kernel
theorem kl_33 : (((i_L_law.zip p_L_law).drop 891).take 27).all (chk1 r_L_law) = true := by decide +kernel
theorem kl_34 : (((i_L_law.zip p_L_law).drop 918).take 27).all (chk1 r_L_law) = true := by decide +kernel
theorem kl_35 : (((i_L_law.zip p_L_law).drop 945).take 27).all (chk1 r_L_law) = true := by decide +kernel
theorem kl_e : ((i_L_law.zip p_L_law).drop 972).all (chk1 r_L_law) = true := by decide +kernel
theorem kl_h : chkH r_L_law = true := by decide +kernel
theorem kl_z36 : ((i_L_law.zip p_L_law).drop 972).all (chk1 r_L_law) = true := kl_e
theorem kl_z35 : ((i_L_law.zip p_L_law).drop 945).all (chk1 r_L_law) = true := all_cut 27 kl_35 (by rw [List.drop_drop]; exact kl_z36)
theorem kl_z34 : ((i_L_law.zip p_L_law).drop 918).all (chk1 r_L_law) = true := all_cut 27 kl_34 (by rw [List.drop_drop]; exact kl_z35)
theorem kl_z33 : ((i_L_law.zip p_L_law).drop 891).all (chk1 r_L_law) = true := all_cut 27 kl_33 (by rw [List.drop_drop]; exact kl_z34)
theorem kl_z32 : ((i_L_law.zip p_L_law).drop 864).all (chk1 r_L_law) = true := all_cut 27 kl_32 (by rw [List.drop_drop]; exact kl_z33)
theorem kl_z31 : ((i_L_law.zip p_L_law).drop 837).all (chk1 r_L_law) = true := all_cut 27 kl_31 (by rw [List.drop_drop]; exact kl_z32)
theorem kl_z30 : ((i_L_law.zip p_L_law).drop 810).all (chk1 r_L_law) = true := all_cut 27 kl_30 (by rw [List.drop_drop]; exact kl_z31)
theorem kl_z29 : ((i_L_law.zip p_L_law).drop 783).all (chk1 r_L_law) = true := all_cut 27 kl_29 (by rw [List.drop_drop]; exact kl_z30)
theorem kl_z28 : ((i_L_law.zip p_L_law).drop 756).all (chk1 r_L_law) = true := all_cut 27 kl_28 (by rw [List.drop_drop]; exact kl_z29)
theorem kl_z27 : ((i_L_law.zip p_L_law).drop 729).all (chk1 r_L_law) = true := all_cut 27 kl_27 (by rw [List.drop_drop]; exact kl_z28)
theorem kl_z26 : ((i_L_law.zip p_L_law).drop 702).all (chk1 r_L_law) = true := all_cut 27 kl_26 (by rw [List.drop_drop]; exact kl_z27)
theorem kl_z25 : ((i_L_law.zip p_L_law).drop 675).all (chk1 r_L_law) = true := all_cut 27 kl_25 (by rw [List.drop_drop]; exact kl_z26)
theorem kl_z24 : ((i_L_law.zip p_L_law).drop 648).all (chk1 r_L_law) = true := all_cut 27 kl_24 (by rw [List.drop_drop]; exact kl_z25)
theorem kl_z23 : ((i_L_law.zip p_L_law).drop 621).all (chk1 r_L_law) = true := all_cut 27 kl_23 (by rw [List.drop_drop]; exact kl_z24)
theorem kl_z22 : ((i_L_law.zip p_L_law).drop 594).all (chk1 r_L_law) = true := all_cut 27 kl_22 (by rw [List.drop_drop]; exact kl_z23)
theorem kl_z21 : ((i_L_law.zip p_L_law).drop 567).all (chk1 r_L_law) = true := all_cut 27 kl_21 (by rw [List.drop_drop]; exact kl_z22)
theorem kl_z20 : ((i_L_law.zip p_L_law).drop 540).all (chk1 r_L_law) = true := all_cut 27 kl_20 (by rw [List.drop_drop]; exact kl_z21)
theorem kl_z19 : ((i_L_law.zip p_L_law).drop 513).all (chk1 r_L_law) = true := all_cut 27 kl_19 (by rw [List.drop_drop]; exact kl_z20)
theorem kl_z18 : ((i_L_law.zip p_L_law).drop 486).all (chk1 r_L_law) = true := all_cut 27 kl_18 (by rw [List.drop_drop]; exact kl_z19)
theorem kl_z17 : ((i_L_law.zip p_L_law).drop 459).all (chk1 r_L_law) = true := all_cut 27 kl_17 (by rw [List.drop_drop]; exact kl_z18)
theorem kl_z16 : ((i_L_law.zip p_L_law).drop 432).all (chk1 r_L_law) = true := all_cut 27 kl_16 (by rw [List.drop_drop]; exact kl_z17)
theorem kl_z15 : ((i_L_law.zip p_L_law).drop 405).all (chk1 r_L_law) = true := all_cut 27 kl_15 (by rw [List.drop_drop]; exact kl_z16)
theorem kl_z14 : ((i_L_law.zip p_L_law).drop 378).all (chk1 r_L_law) = true := all_cut 27 kl_14 (by rw [List.drop_drop]; exact kl_z15)
theorem kl_z13 : ((i_L_law.zip p_L_law).drop 351).all (chk1 r_L_law) = true := all_cut 27 kl_13 (by rw [List.drop_drop]; exact kl_z14)
theorem kl_z12 : ((i_L_law.zip p_L_law).drop 324).all (chk1 r_L_law) = true := all_cut 27 kl_12 (by rw [List.drop_drop]; exact kl_z13)
theorem kl_z11 : ((i_L_law.zip p_L_law).drop 297).all (chk1 r_L_law) = true := all_cut 27 kl_11 (by rw [List.drop_drop]; exact kl_z12)
theorem kl_z10 : ((i_L_law.zip p_L_law).drop 270).all (chk1 r_L_law) = true := all_cut 27 kl_10 (by rw [List.drop_drop]; exact kl_z11)
theorem kl_z9 : ((i_L_law.zip p_L_law).drop 243).all (chk1 r_L_law) = true := all_cut 27 kl_9 (by rw [List.drop_drop]; exact kl_z10)
theorem kl_z8 : ((i_L_law.zip p_L_law).drop 216).all (chk1 r_L_law) = true := all_cut 27 kl_8 (by rw [List.drop_drop]; exact kl_z9)
theorem kl_z7 : ((i_L_law.zip p_L_law).drop 189).all (chk1 r_L_law) = true := all_cut 27 kl_7 (by rw [List.drop_drop]; exact kl_z8)
theorem kl_z6 : ((i_L_law.zip p_L_law).drop 162).all (chk1 r_L_law) = true := all_cut 27 kl_6 (by rw [List.drop_drop]; exact kl_z7)
theorem kl_z5 : ((i_L_law.zip p_L_law).drop 135).all (chk1 r_L_law) = true := all_cut 27 kl_5 (by rw [List.drop_drop]; exact kl_z6)
theorem kl_z4 : ((i_L_law.zip p_L_law).drop 108).all (chk1 r_L_law) = true := all_cut 27 kl_4 (by rw [List.drop_drop]; exact kl_z5)
theorem kl_z3 : ((i_L_law.zip p_L_law).drop 81).all (chk1 r_L_law) = true := all_cut 27 kl_3 (by rw [List.drop_drop]; exact kl_z4)
theorem kl_z2 : ((i_L_law.zip p_L_law).drop 54).all (chk1 r_L_law) = true := all_cut 27 kl_2 (by rw [List.drop_drop]; exact kl_z3)
theorem kl_z1 : ((i_L_law.zip p_L_law).drop 27).all (chk1 r_L_law) = true := all_cut 27 kl_1 (by rw [List.drop_drop]; exact kl_z2)
theorem kl_z0 : ((i_L_law.zip p_L_law).drop 0).all (chk1 r_L_law) = true := all_cut 27 kl_0 (by rw [List.drop_drop]; exact kl_z1)
theorem k_L_law : chkR r_L_law = true := by
  unfold chkR
  rw [kl_h, Bool.true_and]
  exact kl_z0
end
section
/-! THE RELATION between the small machine's memory and the JVM's heap. -/
def cv (ad : Id3 → Nat) (v : Vv) : Value := match v with
  | .inl x => .int x
  | .inr (.inl x) => .long x
  | .inr (.inr (.inl r)) => va_rf (r.map ad)
  | .inr (.inr (.inr _)) => .null
def alc (m : Mem) (o : Id3) : Prop := o.1 < 2 ∧ ¬ (o.1 = 0 ∧ o.2.1 = 20) ∧ o.2.2 < m.2.2.2 o.1 o.2.1
def live (L : Nat) (m : Mem) (o : Id3) : Prop := alc m o ∨ (o.1 = 0 ∧ o.2.1 = 20 ∧ o.2.2 < 6) ∨ o = (2, 0, L)
def vok (L : Nat) (m : Mem) (v : Vv) : Prop := ∀ r : Id3, v = vr (some r) → live L m r
def elT (a : Nat) : FieldType := match a with
  | 22 => .object (clsN 0)
  | 23 => .object (clsN 5)
  | 24 => .object (clsN 3)
  | 25 => .object (clsN 2)
  | _ => .array .int
def fv (ad : Id3 → Nat) (m : Mem) (a : Nat) (o : Id3) (k : Nat) : Value := match tyC (tyT a k) with
  | 0 => .int (gI m o k)
  | 1 => .long (gL m o k)
  | _ => va_rf ((gR m o k).map ad)
def fvL (ad : Id3 → Nat) (m : Mem) (a : Nat) (o : Id3) : List Value := (List.range (fN a)).map (fv ad m a o)
def okC (D : va_G) (s : State) (ad : Id3 → Nat) (m : Mem) (o : Id3) (H : Heap) : Prop :=
  (∃ cell : Cell, H[ad o]? = some cell) ∧
  (sh o < 8 → va_at D clsT (ad o, .inr (sh o, fvL ad m (sh o) o)) H) ∧
  (sh o = 20 → ∃ cA : ClassId, ArrOfT s cA .int ∧ H[ad o]? = some (arrV cA (ln o) (fun k => .int (gI m o k)))) ∧
  (sh o = 21 → ∃ cA : ClassId, ArrOfT s cA .boolean ∧ H[ad o]? = some (arrV cA (ln o) (fun k => .int (gI m o k)))) ∧
  (22 ≤ sh o → sh o ≤ 26 → ∃ cA : ClassId, ArrOfT s cA (elT (sh o)) ∧ va_RA s cA (elT (sh o)) ∧ H[ad o]? = some (arrV cA (ln o) (fun k => va_rf ((gR m o k).map ad))))
def REL (B b L : Nat) (xs : Nat → Int32) (kd : Nat → Nat) (D : va_G) (s : State) (ad : Id3 → Nat) (m : Mem) (H : Heap) : Prop :=
  (∀ o, alc m o → B ≤ ad o ∧ okC D s ad m o H) ∧
  (∀ o o', alc m o → alc m o' → ad o = ad o' → o = o') ∧
  (∀ o k r, gR m o k = some r → live L m r) ∧
  (∀ o : Id3, o.1 < 2 → ¬ alc m o → ∀ k, gI m o k = 0 ∧ gL m o k = 0 ∧ gR m o k = none) ∧
  (∀ k, ad (0, 20, k) = kd k) ∧ ad (2, 0, L) = b ∧ ∀ k, gI m (2, 0, L) k = xs k
def LREL (nL : Nat) (ad : Id3 → Nat) (lsC : Array Slot) (ls : List Vv) : Prop := lsC.size = nL ∧ lv_wf lsC ∧ ls.length = nL ∧ ∀ (k : Nat) (v : Vv), ls[k]? = some v → v ≠ vu → lsC[k]? = some (.val (cv ad v))
/-! what does not change -/
theorem okC.moved {D : va_G} {u U : State} {ad : Id3 → Nat} {m : Mem} {o : Id3} {H : Heap} (hvm : u.vm.Alike U.vm) (h : okC D u ad m o H) : okC D U ad m o H := by
  obtain ⟨h0, h1, h2, h3, h4⟩ := h
  refine ⟨h0, h1, fun q => ?_, fun q => ?_, fun q r => ?_⟩
  · obtain ⟨cA, a, b⟩ := h2 q
    exact ⟨cA, arrOfT_moved hvm a, b⟩
  · obtain ⟨cA, a, b⟩ := h3 q
    exact ⟨cA, arrOfT_moved hvm a, b⟩
  · obtain ⟨cA, a, a2, b⟩ := h4 q r
    exact ⟨cA, arrOfT_moved hvm a, a2.moved hvm, b⟩
theorem okC.kept {D : va_G} {s : State} {ad : Id3 → Nat} {m : Mem} {o : Id3} {H H1 : Heap} (h : okC D s ad m o H) (hq : H1[ad o]? = H[ad o]?) : okC D s ad m o H1 := by
  obtain ⟨h0, h1, h2, h3, h4⟩ := h
  refine ⟨by rw [hq]; exact h0, fun q => (h1 q).kept hq, fun q => ?_, fun q => ?_, fun q r => ?_⟩
  · obtain ⟨cA, a, b⟩ := h2 q
    exact ⟨cA, a, hq.trans b⟩
  · obtain ⟨cA, a, b⟩ := h3 q
    exact ⟨cA, a, hq.trans b⟩
  · obtain ⟨cA, a, a2, b⟩ := h4 q r
    exact ⟨cA, a, a2, hq.trans b⟩
/-- the same contents, the same addresses -/
theorem okC.same {D : va_G} {s : State} {ad ad' : Id3 → Nat} {m m' : Mem} {o : Id3} {H : Heap} (h : okC D s ad m o H) (ha : ad' o = ad o) (hI : ∀ k, gI m' o k = gI m o k) (hL : ∀ k, gL m' o k = gL m o k) (hR : ∀ k, (gR m' o k).map ad' = (gR m o k).map ad) : okC D s ad' m' o H := by
  have hf : fvL ad' m' (sh o) o = fvL ad m (sh o) o := by
    unfold fvL
    refine List.map_congr_left fun k _ => ?_
    unfold fv
    rw [hI, hL, hR]
  have e1 : (fun k => (Value.int (gI m' o k))) = fun k => .int (gI m o k) := funext fun k => by rw [hI]
  have e2 : (fun k => va_rf ((gR m' o k).map ad')) = fun k => va_rf ((gR m o k).map ad) := funext fun k => by rw [hR]
  unfold okC
  rw [hf, e1, e2, ha]
  exact h
theorem okC.lt {D : va_G} {s : State} {ad : Id3 → Nat} {m : Mem} {o : Id3} {H : Heap} (h : okC D s ad m o H) : ad o < H.size := by
  obtain ⟨⟨cell, h0⟩, -⟩ := h
  exact (Array.getElem?_eq_some_iff.mp h0).1
theorem REL.moved {B b L : Nat} {xs : Nat → Int32} {kd : Nat → Nat} {D : va_G} {u U : State} {ad : Id3 → Nat} {m : Mem} {H : Heap} (hvm : u.vm.Alike U.vm) (h : REL B b L xs kd D u ad m H) : REL B b L xs kd D U ad m H := by
  obtain ⟨h1, h2⟩ := h
  exact ⟨fun o ho => ⟨(h1 o ho).1, (h1 o ho).2.moved hvm⟩, h2⟩
theorem sh_tag {s t i j : Nat} : sh (s, t, i) = sh (s, t, j) := by
  unfold sh
  rfl
/-! reading back -/
theorem gI_pI (m : Mem) (o : Id3) (k : Nat) (v : Int32) (o' : Id3) (k' : Nat) (ho : o.1 < 2) (ho' : o'.1 < 2 ∨ o'.1 = 2) : gI (pI m o k v) o' k' = if o' = o ∧ k' = k then v else gI m o' k' := by
  obtain ⟨a, t, i⟩ := o
  obtain ⟨a', t', i'⟩ := o'
  have ha : a = 0 ∨ a = 1 := by simp only at ho; omega
  have ha' : a' = 0 ∨ a' = 1 ∨ a' = 2 := by simp only at ho'; omega
  rcases ha with rfl | rfl <;> rcases ha' with rfl | rfl | rfl <;> simp [gI, pI, sS, sd, up3, Prod.ext_iff, and_assoc]
theorem gI_pL (m : Mem) (o : Id3) (k : Nat) (v : Int64) (o' : Id3) (k' : Nat) : gI (pL m o k v) o' k' = gI m o' k' := by
  obtain ⟨a, t, i⟩ := o
  obtain ⟨a', t', i'⟩ := o'
  rcases a with _ | _ | a <;> rcases a' with _ | _ | a' <;> rfl
theorem gI_pR (m : Mem) (o : Id3) (k : Nat) (v : Option Id3) (o' : Id3) (k' : Nat) : gI (pR m o k v) o' k' = gI m o' k' := by
  obtain ⟨a, t, i⟩ := o
  obtain ⟨a', t', i'⟩ := o'
  rcases a with _ | _ | a <;> rcases a' with _ | _ | a' <;> rfl
theorem gL_pI (m : Mem) (o : Id3) (k : Nat) (v : Int32) (o' : Id3) (k' : Nat) : gL (pI m o k v) o' k' = gL m o' k' := by
  obtain ⟨a, t, i⟩ := o
  obtain ⟨a', t', i'⟩ := o'
  rcases a with _ | _ | a <;> rcases a' with _ | _ | a' <;> rfl
theorem gR_pI (m : Mem) (o : Id3) (k : Nat) (v : Int32) (o' : Id3) (k' : Nat) : gR (pI m o k v) o' k' = gR m o' k' := by
  obtain ⟨a, t, i⟩ := o
  obtain ⟨a', t', i'⟩ := o'
  rcases a with _ | _ | a <;> rcases a' with _ | _ | a' <;> rfl
theorem gR_pL (m : Mem) (o : Id3) (k : Nat) (v : Int64) (o' : Id3) (k' : Nat) : gR (pL m o k v) o' k' = gR m o' k' := by
  obtain ⟨a, t, i⟩ := o
  obtain ⟨a', t', i'⟩ := o'
  rcases a with _ | _ | a <;> rcases a' with _ | _ | a' <;> rfl
theorem gL_pR (m : Mem) (o : Id3) (k : Nat) (v : Option Id3) (o' : Id3) (k' : Nat) : gL (pR m o k v) o' k' = gL m o' k' := by
  obtain ⟨a, t, i⟩ := o
  obtain ⟨a', t', i'⟩ := o'
  rcases a with _ | _ | a <;> rcases a' with _ | _ | a' <;> rfl
theorem gL_pL (m : Mem) (o : Id3) (k : Nat) (v : Int64) (o' : Id3) (k' : Nat) (ho : o.1 < 2) (ho' : o'.1 < 2 ∨ o'.1 = 2) : gL (pL m o k v) o' k' = if o' = o ∧ k' = k then v else gL m o' k' := by
  obtain ⟨a, t, i⟩ := o
  obtain ⟨a', t', i'⟩ := o'
  have ha : a = 0 ∨ a = 1 := by simp only at ho; omega
  have ha' : a' = 0 ∨ a' = 1 ∨ a' = 2 := by simp only at ho'; omega
  rcases ha with rfl | rfl <;> rcases ha' with rfl | rfl | rfl <;> simp [gL, pL, sS, sd, up3, Prod.ext_iff, and_assoc]
theorem gR_pR (m : Mem) (o : Id3) (k : Nat) (v : Option Id3) (o' : Id3) (k' : Nat) (ho : o.1 < 2) (ho' : o'.1 < 2 ∨ o'.1 = 2) : gR (pR m o k v) o' k' = if o' = o ∧ k' = k then v else gR m o' k' := by
  obtain ⟨a, t, i⟩ := o
  obtain ⟨a', t', i'⟩ := o'
  have ha : a = 0 ∨ a = 1 := by simp only at ho; omega
  have ha' : a' = 0 ∨ a' = 1 ∨ a' = 2 := by simp only at ho'; omega
  rcases ha with rfl | rfl <;> rcases ha' with rfl | rfl | rfl <;> simp [gR, pR, sS, sd, up3, Prod.ext_iff, and_assoc]
theorem gI_al (m : Mem) (s t n : Nat) (o : Id3) (k : Nat) : gI (al m s t n) o k = gI m o k := by
  obtain ⟨a, t', i⟩ := o
  rcases a with _ | _ | a <;> rfl
theorem gL_al (m : Mem) (s t n : Nat) (o : Id3) (k : Nat) : gL (al m s t n) o k = gL m o k := by
  obtain ⟨a, t', i⟩ := o
  rcases a with _ | _ | a <;> rfl
theorem gR_al (m : Mem) (s t n : Nat) (o : Id3) (k : Nat) : gR (al m s t n) o k = gR m o k := by
  obtain ⟨a, t', i⟩ := o
  rcases a with _ | _ | a <;> rfl
theorem cnt_pI (m : Mem) (o : Id3) (k : Nat) (v : Int32) : (pI m o k v).2.2.2 = m.2.2.2 := by
  obtain ⟨a, t', i⟩ := o
  rcases a with _ | _ | a <;> rfl
theorem cnt_pL (m : Mem) (o : Id3) (k : Nat) (v : Int64) : (pL m o k v).2.2.2 = m.2.2.2 := by
  obtain ⟨a, t', i⟩ := o
  rcases a with _ | _ | a <;> rfl
theorem cnt_pR (m : Mem) (o : Id3) (k : Nat) (v : Option Id3) : (pR m o k v).2.2.2 = m.2.2.2 := by
  obtain ⟨a, t', i⟩ := o
  rcases a with _ | _ | a <;> rfl
theorem alc_cnt {m m' : Mem} (h : m'.2.2.2 = m.2.2.2) {o : Id3} : alc m' o ↔ alc m o := by
  unfold alc
  rw [h]
theorem live_cnt {L : Nat} {m m' : Mem} (h : m'.2.2.2 = m.2.2.2) {o : Id3} (hl : live L m o) : live L m' o := by
  unfold live at hl ⊢
  rw [alc_cnt h]
  exact hl
theorem vok_cnt {L : Nat} {m m' : Mem} (h : m'.2.2.2 = m.2.2.2) {v : Vv} (hl : vok L m v) : vok L m' v := fun r hr => live_cnt h (hl r hr)
theorem alc_al {m : Mem} {s t n : Nat} {o : Id3} (h : alc m o) : alc (al m s t n) o := by
  refine ⟨h.1, h.2.1, Nat.lt_of_lt_of_le h.2.2 ?_⟩
  show m.2.2.2 o.1 o.2.1 ≤ if o.1 = s ∧ o.2.1 = t then m.2.2.2 o.1 o.2.1 + n else m.2.2.2 o.1 o.2.1
  split <;> omega
theorem live_al {L : Nat} {m : Mem} {s t n : Nat} {o : Id3} (h : live L m o) : live L (al m s t n) o := h.imp alc_al id
theorem vok_al {L : Nat} {m : Mem} {s t n : Nat} {v : Vv} (h : vok L m v) : vok L (al m s t n) v := fun r hr => live_al (h r hr)
/-- one cell is written -/
theorem REL.upd {B b L : Nat} {xs : Nat → Int32} {kd : Nat → Nat} {D : va_G} {s : State} {ad : Id3 → Nat} {m m' : Mem} {H H1 : Heap} {o : Id3} (h : REL B b L xs kd D s ad m H) (ho : alc m o) (hc : m'.2.2.2 = m.2.2.2)
    (hoff : ∀ (o' : Id3) (k : Nat), o'.1 < 2 ∨ o'.1 = 2 → o' ≠ o → gI m' o' k = gI m o' k ∧ gL m' o' k = gL m o' k ∧ gR m' o' k = gR m o' k) (href : ∀ o' k r, gR m' o' k = some r → live L m r)
    (hH : ∀ q : Nat, q ≠ ad o → H1[q]? = H[q]?) (hcell : okC D s ad m' o H1) : REL B b L xs kd D s ad m' H1 := by
  obtain ⟨h1, h2, h3, h4, h5, h6, h7⟩ := h
  refine ⟨fun o' ho' => ?_, fun x y hx hy => h2 x y ((alc_cnt hc).mp hx) ((alc_cnt hc).mp hy), fun o' k r hr => live_cnt hc (href o' k r hr), fun o' ho' hn k => ?_, h5, h6, fun k => ?_⟩
  · have ho2 := (alc_cnt hc).mp ho'
    refine ⟨(h1 o' ho2).1, ?_⟩
    by_cases e : o' = o
    · subst e
      exact hcell
    · have g := fun k => hoff o' k (Or.inl ho2.1) e
      exact ((h1 o' ho2).2.same rfl (fun k => (g k).1) (fun k => (g k).2.1) (fun k => by rw [(g k).2.2])).kept (hH _ (fun q => e (h2 _ _ ho2 ho q)))
  · have hn2 : ¬ alc m o' := fun q => hn ((alc_cnt hc).mpr q)
    have e : o' ≠ o := fun q => hn2 (q ▸ ho)
    obtain ⟨g1, g2, g3⟩ := hoff o' k (Or.inl ho') e
    rw [g1, g2, g3]
    exact h4 o' ho' hn2 k
  · have e : ((2, 0, L) : Id3) ≠ o := fun q => by
      have := ho.1
      rw [← q] at this
      exact absurd (show 2 < 2 from this) (Nat.lt_irrefl 2)
    rw [(hoff _ k (Or.inr rfl) e).1]
    exact h7 k
/-- more cells -/
theorem REL.news {B b L : Nat} {xs : Nat → Int32} {kd : Nat → Nat} {D : va_G} {s : State} {ad ad' : Id3 → Nat} {m m' : Mem} {H H1 : Heap} {New : Id3 → Prop} (h : REL B b L xs kd D s ad m H) (hcase : ∀ x, alc m' x → alc m x ∨ New x) (hsub : ∀ x, alc m x → alc m' x) (hside : ∀ x, New x → x.1 < 2 ∧ ¬ (x.1 = 0 ∧ x.2.1 = 20) ∧ ¬ alc m x)
    (had : ∀ x, ¬ New x → ad' x = ad x) (hsz : ∀ x, New x → H.size ≤ ad' x) (hinj : ∀ x y, New x → New y → ad' x = ad' y → x = y) (hB : B ≤ H.size) (hH : ∀ q : Nat, q < H.size → H1[q]? = H[q]?)
    (cI : ∀ o k, gI m' o k = gI m o k) (cL : ∀ o k, gL m' o k = gL m o k) (cR : ∀ o k, ¬ New o → gR m' o k = gR m o k) (hR : ∀ o k r, gR m' o k = some r → live L m' r) (hz : ∀ o : Id3, o.1 < 2 → ¬ alc m' o → ¬ New o)
    (hcell : ∀ x, New x → okC D s ad' m' x H1) : REL B b L xs kd D s ad' m' H1 ∧ ∀ x, live L m x → ad' x = ad x := by
  obtain ⟨h1, h2, h3, h4, h5, h6, h7⟩ := h
  have hnl : ∀ x, live L m x → ¬ New x := by
    intro x hx hn
    obtain ⟨n1, n2, n3⟩ := hside x hn
    rcases hx with g | ⟨g1, g2, -⟩ | rfl
    · exact n3 g
    · exact n2 ⟨g1, g2⟩
    · exact absurd n1 (Nat.lt_irrefl 2)
  have hadl : ∀ x, live L m x → ad' x = ad x := fun x hx => had x (hnl x hx)
  refine ⟨⟨fun o ho => ?_, fun x y hx hy e => ?_, hR, fun o ho hn k => ?_, fun k => ?_, ?_, fun k => ?_⟩, hadl⟩
  · rcases hcase o ho with g | g
    · refine ⟨by rw [hadl o (Or.inl g)]; exact (h1 o g).1, ?_⟩
      refine ((h1 o g).2.same (hadl o (Or.inl g)) (fun k => cI ..) (fun k => cL ..) (fun k => ?_)).kept ?_
      · rw [cR _ _ (hnl o (Or.inl g))]
        cases hr : gR m o k with
        | none => rfl
        | some r => exact congrArg some (hadl r (h3 o k r hr))
      · rw [hadl o (Or.inl g)]
        exact hH _ (h1 o g).2.lt
    · exact ⟨Nat.le_trans hB (hsz o g), hcell o g⟩
  · rcases hcase x hx with gx | gx <;> rcases hcase y hy with gy | gy
    · rw [hadl x (Or.inl gx), hadl y (Or.inl gy)] at e
      exact h2 x y gx gy e
    · rw [hadl x (Or.inl gx)] at e
      have := (h1 x gx).2.lt
      have := hsz y gy
      omega
    · rw [hadl y (Or.inl gy)] at e
      have := (h1 y gy).2.lt
      have := hsz x gx
      omega
    · exact hinj x y gx gy e
  · rw [cI, cL, cR _ _ (hz o ho hn)]
    exact h4 o ho (fun q => hn (hsub o q)) k
  · rw [had _ (fun q => (hside _ q).2.1 ⟨rfl, rfl⟩)]
    exact h5 k
  · rw [had _ (fun q => absurd (hside _ q).1 (Nat.lt_irrefl 2))]
    exact h6
  · rw [cI]
    exact h7 k
theorem al_case {m : Mem} {s t n : Nat} {x : Id3} (h : alc (al m s t n) x) : alc m x ∨ (x.1 = s ∧ x.2.1 = t ∧ m.2.2.2 s t ≤ x.2.2 ∧ x.2.2 < m.2.2.2 s t + n) := by
  obtain ⟨g1, g2, g3⟩ := h
  obtain ⟨x1, x2, x3⟩ := x
  simp only [al] at g3
  by_cases e : x1 = s ∧ x2 = t
  · obtain ⟨rfl, rfl⟩ := e
    rw [if_pos ⟨rfl, rfl⟩] at g3
    by_cases e3 : x3 < m.2.2.2 x1 x2
    · exact Or.inl ⟨g1, g2, e3⟩
    · exact Or.inr ⟨rfl, rfl, Nat.not_lt.mp e3, g3⟩
  · rw [if_neg e] at g3
    exact Or.inl ⟨g1, g2, g3⟩
theorem al_new {m : Mem} {s t n : Nat} {x : Id3} (hs : s < 2) (ht : ¬ (s = 0 ∧ t = 20)) (h : x.1 = s ∧ x.2.1 = t ∧ m.2.2.2 s t ≤ x.2.2 ∧ x.2.2 < m.2.2.2 s t + n) : alc (al m s t n) x := by
  obtain ⟨x1, x2, x3⟩ := x
  obtain ⟨rfl, rfl, h3, h4⟩ := h
  refine ⟨hs, ht, ?_⟩
  show x3 < if x1 = x1 ∧ x2 = x2 then m.2.2.2 x1 x2 + n else m.2.2.2 x1 x2
  rw [if_pos ⟨rfl, rfl⟩]
  exact h4
/-- one more cell -/
theorem REL.new {B b L : Nat} {xs : Nat → Int32} {kd : Nat → Nat} {D : va_G} {s : State} {ad ad' : Id3 → Nat} {m : Mem} {H H1 : Heap} {sd' t : Nat} (h : REL B b L xs kd D s ad m H) (hs : sd' < 2) (ht : ¬ (sd' = 0 ∧ t = 20))
    (had : ∀ x, x ≠ (sd', t, m.2.2.2 sd' t) → ad' x = ad x) (hnew : ad' (sd', t, m.2.2.2 sd' t) = H.size) (hB : B ≤ H.size) (hH : ∀ q : Nat, q < H.size → H1[q]? = H[q]?) (hcell : okC D s ad' (al m sd' t 1) (sd', t, m.2.2.2 sd' t) H1) : REL B b L xs kd D s ad' (al m sd' t 1) H1 ∧ ∀ x, live L m x → ad' x = ad x := by
  have e1 : ∀ x : Id3, (x.1 = sd' ∧ x.2.1 = t ∧ m.2.2.2 sd' t ≤ x.2.2 ∧ x.2.2 < m.2.2.2 sd' t + 1) ↔ x = (sd', t, m.2.2.2 sd' t) := by
    intro x
    obtain ⟨x1, x2, x3⟩ := x
    constructor
    · rintro ⟨rfl, rfl, h3, h4⟩
      have h3 : m.2.2.2 x1 x2 ≤ x3 := h3
      have h4 : x3 < m.2.2.2 x1 x2 + 1 := h4
      rw [show x3 = m.2.2.2 x1 x2 by omega]
    · intro q
      cases q
      exact ⟨rfl, rfl, Nat.le_refl _, Nat.lt_succ_self _⟩
  refine REL.news (New := fun x => x = (sd', t, m.2.2.2 sd' t)) h (fun x hx => (al_case hx).imp id (fun q => (e1 x).mp q)) (fun x hx => alc_al hx) (fun x hx => by subst hx; exact ⟨hs, ht, fun q => absurd q.2.2 (Nat.lt_irrefl _)⟩) had (fun x hx => by subst hx; rw [hnew]; exact Nat.le_refl _) (fun x y hx hy _ => by rw [hx, hy]) hB hH (fun o k => gI_al ..) (fun o k => gL_al ..) (fun o k _ => gR_al ..) (fun o k r hr => live_al (h.2.2.1 o k r (by rw [gR_al] at hr; exact hr))) (fun o _ hn q => hn (al_new hs ht ((e1 o).mpr q))) (fun x hx => by subst hx; exact hcell)
/-! the locals -/
theorem cv_ext {L : Nat} {m : Mem} {ad ad' : Id3 → Nat} (h : ∀ x, live L m x → ad' x = ad x) {v : Vv} (hv : vok L m v) : cv ad' v = cv ad v := by
  rcases v with x | x | r | u
  · rfl
  · rfl
  · cases r with
    | none => rfl
    | some r => exact congrArg Value.ref (h r (hv r rfl))
  · rfl
theorem cvs_ext {L : Nat} {m : Mem} {ad ad' : Id3 → Nat} (h : ∀ x, live L m x → ad' x = ad x) {l : List Vv} (hv : ∀ v ∈ l, vok L m v) : l.map (cv ad') = l.map (cv ad) := List.map_congr_left fun v hm => cv_ext h (hv v hm)
theorem LREL.ext {nL L : Nat} {m : Mem} {ad ad' : Id3 → Nat} {lsC : Array Slot} {ls : List Vv} (h : LREL nL ad lsC ls) (ha : ∀ x, live L m x → ad' x = ad x) (hv : ∀ v ∈ ls, vok L m v) : LREL nL ad' lsC ls := by
  obtain ⟨h1, h2, h3, h4⟩ := h
  exact ⟨h1, h2, h3, fun k v hk hn => by rw [cv_ext ha (hv v (List.mem_of_getElem? hk))]; exact h4 k v hk hn⟩
theorem cv_cat {ad : Id3 → Nat} {v : Vv} : (cv ad v).category = ctg v := by
  rcases v with x | x | (_ | r) | u <;> rfl
theorem cvs_cat {ad : Id3 → Nat} : ∀ l : List Vv, ((l.map (cv ad)).map fun v => v.category).sum = ctgs l
  | [] => rfl
  | v :: r => by
    simp only [List.map_cons, List.sum_cons, ctgs]
    rw [cv_cat, ← cvs_cat r]
theorem vokI {L : Nat} {m : Mem} {x : Int32} : vok L m (vi x) := fun r h => by cases h
theorem vokL {L : Nat} {m : Mem} {x : Int64} : vok L m (vl x) := fun r h => by cases h
theorem vokU {L : Nat} {m : Mem} : vok L m vu := fun r h => by cases h
theorem vokN {L : Nat} {m : Mem} : vok L m (vr none) := fun r h => by cases h
theorem clr_len : ∀ (ls : List Vv) (a : Nat), (clr ls a).length = ls.length
  | [], _ => by simp [clr]
  | x :: r, 0 => by simp [clr]
  | x :: r, 1 => by simp [clr]
  | x :: r, k + 2 => by simp [clr, clr_len r (k + 1)]
theorem clr_get : ∀ (ls : List Vv) (a k : Nat) (v : Vv), (clr ls a)[k]? = some v → v ≠ vu → ls[k]? = some v ∧ ¬ (k + 1 = a ∧ ctg v = 2)
  | [], _, _, _, h, _ => by simp [clr] at h
  | x :: r, 0, k, v, h, _ => by
    simp only [clr] at h
    exact ⟨h, by omega⟩
  | x :: r, 1, 0, v, h, hn => by
    rcases x with y | y | y | y <;> simp [clr] at h <;> subst h
    · exact ⟨rfl, fun q => by simp [ctg] at q⟩
    · exact absurd rfl hn
    · exact ⟨rfl, fun q => by simp [ctg] at q⟩
    · exact absurd rfl hn
  | x :: r, 1, k + 1, v, h, hn => by
    simp [clr] at h
    exact ⟨h, by omega⟩
  | x :: r, a + 2, 0, v, h, hn => by
    simp [clr] at h
    exact ⟨by simp [h], by omega⟩
  | x :: r, a + 2, k + 1, v, h, hn => by
    simp only [clr, List.getElem?_cons_succ] at h
    obtain ⟨g1, g2⟩ := clr_get r (a + 1) k v h hn
    exact ⟨by simpa using g1, fun q => g2 ⟨by omega, q.2⟩⟩
theorem stL_len (ls : List Vv) (a : Nat) (v : Vv) : (stL ls a v).length = ls.length := by simp [stL, clr_len]
theorem stL_get {ls : List Vv} {a k : Nat} {v w : Vv} (h : (stL ls a v)[k]? = some w) (hn : w ≠ vu) : (k = a ∧ w = v) ∨ (k ≠ a ∧ ls[k]? = some w ∧ ¬ (k + 1 = a ∧ ctg w = 2)) := by
  unfold stL at h
  by_cases e : k = a
  · subst e
    rw [List.getElem?_set] at h
    simp only [↓reduceIte] at h
    split at h
    · cases h
      exact Or.inl ⟨rfl, rfl⟩
    · cases h
  · rw [List.getElem?_set_ne (Ne.symm e)] at h
    exact Or.inr ⟨e, clr_get ls a k w h hn⟩
/-- the listed locals -/
def lst (ad : Id3 → Nat) (ls : List Vv) : List (Nat × Value) := (List.range ls.length).filterMap fun k => match (ls[k]? : Option Vv) with
  | some (.inl x) => some (k, cv ad (vi x))
  | some (.inr (.inl x)) => some (k, cv ad (vl x))
  | some (.inr (.inr (.inl x))) => some (k, cv ad (vr x))
  | _ => none
theorem lst_mem {ad : Id3 → Nat} {ls : List Vv} {k : Nat} {v : Vv} (h : ls[k]? = some v) (hn : v ≠ vu) : (k, cv ad v) ∈ lst ad ls := by
  refine List.mem_filterMap.mpr ⟨k, List.mem_range.mpr (List.getElem?_eq_some_iff.mp h).1, ?_⟩
  rw [h]
  rcases v with x | x | x | u
  · rfl
  · rfl
  · rfl
  · exact absurd rfl hn
theorem lst_of {ad : Id3 → Nat} {ls : List Vv} {q : Nat × Value} (h : q ∈ lst ad ls) : ∃ v, ls[q.1]? = some v ∧ v ≠ vu ∧ q.2 = cv ad v := by
  obtain ⟨k, -, hk⟩ := List.mem_filterMap.mp h
  cases hl : ls[k]? with
  | none => rw [hl] at hk; cases hk
  | some v =>
    rw [hl] at hk
    rcases v with x | x | x | u
    · cases hk; exact ⟨_, hl, (fun q => by cases q), rfl⟩
    · cases hk; exact ⟨_, hl, (fun q => by cases q), rfl⟩
    · cases hk; exact ⟨_, hl, (fun q => by cases q), rfl⟩
    · cases hk
theorem LREL.has {nL : Nat} {ad : Id3 → Nat} {lsC : Array Slot} {ls : List Vv} (h : LREL nL ad lsC ls) : lv_has lsC nL (lst ad ls) := by
  obtain ⟨h1, h2, h3, h4⟩ := h
  refine ⟨h1, h2, fun q hq => ?_⟩
  obtain ⟨v, g1, g2, g3⟩ := lst_of hq
  rw [g3]
  exact h4 _ _ g1 g2
/-- behind a store of one slot -/
theorem LREL.st1 {nL a : Nat} {ad : Id3 → Nat} {lsC : Array Slot} {ls : List Vv} {v : Vv} (h : lv_has lsC nL ((a, cv ad v) :: (lst ad ls).filter (fun q => !(q.1 == a) && !(q.1 + 1 == a && q.2.category == 2)))) (hl : ls.length = nL) : LREL nL ad lsC (stL ls a v) := by
  refine ⟨h.1, h.2.1, by rw [stL_len]; exact hl, fun k w hk hn => ?_⟩
  rcases stL_get hk hn with ⟨rfl, rfl⟩ | ⟨g1, g2, g3⟩
  · exact h.2.2 (k, cv ad w) List.mem_cons_self
  · refine h.2.2 (k, cv ad w) (List.mem_cons_of_mem _ (List.mem_filter.mpr ⟨lst_mem g2 hn, ?_⟩))
    simp only [Bool.and_eq_true, Bool.not_eq_true', beq_eq_false_iff_ne, ne_eq, Bool.and_eq_false_iff]
    refine ⟨g1, ?_⟩
    by_cases e : k + 1 = a
    · exact Or.inr (by rw [cv_cat]; exact fun q => g3 ⟨e, q⟩)
    · exact Or.inl e
theorem LREL.st2 {nL a : Nat} {ad : Id3 → Nat} {lsC : Array Slot} {ls : List Vv} {v : Vv} (h : lv_has lsC nL ((a, cv ad v) :: (lst ad ls).filter (fun q => !(q.1 == a) && (!(q.1 == a + 1) && !(q.1 + 1 == a && q.2.category == 2))))) (hl : ls.length = nL) : LREL nL ad lsC ((stL ls a v).set (a + 1) vu) := by
  refine ⟨h.1, h.2.1, by rw [List.length_set, stL_len]; exact hl, fun k w hk hn => ?_⟩
  have e1 : k ≠ a + 1 := by
    intro e
    subst e
    rw [List.getElem?_set] at hk
    simp only [↓reduceIte] at hk
    split at hk
    · cases hk
      exact hn rfl
    · cases hk
  rw [List.getElem?_set_ne (Ne.symm e1)] at hk
  rcases stL_get hk hn with ⟨rfl, rfl⟩ | ⟨g1, g2, g3⟩
  · exact h.2.2 (k, cv ad w) List.mem_cons_self
  · refine h.2.2 (k, cv ad w) (List.mem_cons_of_mem _ (List.mem_filter.mpr ⟨lst_mem g2 hn, ?_⟩))
    simp only [Bool.and_eq_true, Bool.not_eq_true', beq_eq_false_iff_ne, ne_eq, Bool.and_eq_false_iff]
    refine ⟨g1, e1, ?_⟩
    by_cases e : k + 1 = a
    · exact Or.inr (by rw [cv_cat]; exact fun q => g3 ⟨e, q⟩)
    · exact Or.inl e
theorem vok_st {L : Nat} {m : Mem} {ls : List Vv} {a : Nat} {v : Vv} (h : ∀ w ∈ ls, vok L m w) (hv : vok L m v) : ∀ w ∈ stL ls a v, vok L m w := by
  intro w hw
  by_cases hn : w = vu
  · rw [hn]; exact vokU
  · obtain ⟨k, hk⟩ := List.getElem?_of_mem hw
    rcases stL_get hk hn with ⟨-, rfl⟩ | ⟨-, g, -⟩
    · exact hv
    · exact h w (List.mem_of_getElem? g)
theorem vok_set {L : Nat} {m : Mem} {ls : List Vv} {a : Nat} {v : Vv} (h : ∀ w ∈ ls, vok L m w) (hv : vok L m v) : ∀ w ∈ ls.set a v, vok L m w := by
  intro w hw
  rcases List.mem_or_eq_of_mem_set hw with g | rfl
  · exact h w g
  · exact hv
end
section
/-! THE STEPS: what the small machine does at an instruction, the JVM does. -/
def KN : List String := ["HOUSE", "FORGE", "MUFFLED", "BELLS", "MUTE", "CHOIR"]
def KFL : List (String × String × String × List Int32) := [("NoiseTithe$Kind", "number", "I", [0, 1, 2, 3, 4, 5]), ("NoiseTithe$Kind", "parent", "I", [0, 0, 0, 0, 2, 3]), ("NoiseTithe$Kind", "halves", "I", [2, 4, 1, 2, 0, 2])]
abbrev AB (B : Nat) : Nat → Prop := fun q => B ≤ q
/-- what holds all through a method -/
def CTX (p : Program) (s : State) (mm : MethodId) (args : Array Value) (c : Code) (cc : ByteArray) (nL oc B b L : Nat) (xs : Nat → Int32) (kd : Nat → Nat) (D : va_G) : Prop :=
  p.tables.exec = Jvm.exec ∧ c.code = cc ∧ c.maxLocals = nL ∧ s.vm.findClass (clsN oc) = some mm.cls ∧ (∀ w ∈ gw, w.before args s = true) ∧ (∀ w ∈ nw, w.before args s = true) ∧ va_K D clsT [] s ∧ B ≤ s.heap.size ∧
  va_En "NoiseTithe$Kind" "LNoiseTithe$Kind;" KN KFL kd (AB B) s s.heap ∧ va_X b L xs s s.heap ∧ b < B
def ST (B b L : Nat) (xs : Nat → Int32) (kd : Nat → Nat) (D : va_G) (s : State) (nL : Nat) (m0 : Mem) (ad0 ad : Id3 → Nat) (H : Heap) (locs : List Loc) (lsC : Array Slot) (ls st : List Vv) (m : Mem) : Prop :=
  REL B b L xs kd D s ad m H ∧ va_S (AB B) s.heap H locs ∧ LREL nL ad lsC ls ∧ (∀ v ∈ ls, vok L m v) ∧ (∀ v ∈ st, vok L m v) ∧ ∀ o, alc m0 o → alc m o ∧ ad o = ad0 o
abbrev PW (p : Program) (l : Launch) (e : Env) (R : Room) (s : State) (mm : MethodId) (args : Array Value) (below : List Frame) (meth : Method) (c : Code) (Q : State → Prop) (B b L : Nat) (xs : Nat → Int32) (kd : Nat → Nat) (D : va_G) (nL : Nat) (m0 : Mem) (ad0 : Id3 → Nat) (pcs : List Nat) : PT :=
  fun ix ls st m uc us => ∀ pc : Nat, pcs[ix]? = some pc → ∀ (ad : Id3 → Nat) (H : Heap) (locs : List Loc) (lsC : Array Slot), ST B b L xs kd D s nL m0 ad0 ad H locs lsC ls st m → W p l e R s mm args below meth c H locs uc us Q (F0 mm pc lsC (st.map (cv ad)))
section SX
variable {p : Program} {l : Launch} {e : Env} {R : Room} {s : State} {mm : MethodId} {args : Array Value} {below : List Frame} {meth : Method} {c : Code} {Q : State → Prop} {cc : ByteArray} {nL oc B b L : Nat} {xs : Nat → Int32} {kd : Nat → Nat} {D : va_G} {m0 : Mem} {ad0 ad : Id3 → Nat} {pcs : List Nat}
  {C : CT} {cap : Nat × Nat} {K : Option Vv → Mem → Prop} {ls st : List Vv} {m : Mem} {uc us pc nx a : Nat} {H : Heap} {locs : List Loc} {lsC : Array Slot}
theorem ST.stk {st' : List Vv} (T : ST B b L xs kd D s nL m0 ad0 ad H locs lsC ls st m) (h : ∀ v ∈ st', vok L m v) : ST B b L xs kd D s nL m0 ad0 ad H locs lsC ls st' m := ⟨T.1, T.2.1, T.2.2.1, T.2.2.2.1, h, T.2.2.2.2.2⟩
theorem ST.tl {v : Vv} {r : List Vv} (T : ST B b L xs kd D s nL m0 ad0 ad H locs lsC ls (v :: r) m) : ST B b L xs kd D s nL m0 ad0 ad H locs lsC ls r m := T.stk fun w hw => T.2.2.2.2.1 w (List.mem_cons_of_mem _ hw)
theorem ST.hd {v : Vv} {r : List Vv} (T : ST B b L xs kd D s nL m0 ad0 ad H locs lsC ls (v :: r) m) : vok L m v := T.2.2.2.2.1 v List.mem_cons_self
theorem ST.ps {v : Vv} {r : List Vv} (T : ST B b L xs kd D s nL m0 ad0 ad H locs lsC ls r m) (h : vok L m v) : ST B b L xs kd D s nL m0 ad0 ad H locs lsC ls (v :: r) m := T.stk fun w hw => (List.mem_cons.mp hw).elim (fun e => e ▸ h) (T.2.2.2.2.1 w)
theorem ST.lc {lsC' : Array Slot} {ls' : List Vv} (T : ST B b L xs kd D s nL m0 ad0 ad H locs lsC ls st m) (h : LREL nL ad lsC' ls') (hv : ∀ v ∈ ls', vok L m v) : ST B b L xs kd D s nL m0 ad0 ad H locs lsC' ls' st m := ⟨T.1, T.2.1, h, hv, T.2.2.2.2.1, T.2.2.2.2.2⟩
theorem ST.at {k : Nat} {v : Vv} (T : ST B b L xs kd D s nL m0 ad0 ad H locs lsC ls st m) (h : ls[k]? = some v) (hn : v ≠ vu) : lsC[k]? = some (.val (cv ad v)) := T.2.2.1.2.2.2 k v h hn
theorem sx_iconst (X : CTX p s mm args c cc nL oc B b L xs kd D) {k : Int} (hd : decode cc pc = .ok (.iconst k, 1)) (hf : pcs[nx]? = some (pc + 1)) (hs : stepE C cap (PW p l e R s mm args below meth c Q B b L xs kd D nL m0 ad0 pcs) K (eP (nx, ls, vi (Int32.ofInt k) :: st, m, uc, us))) (T : ST B b L xs kd D s nL m0 ad0 ad H locs lsC ls st m) : W p l e R s mm args below meth c H locs uc us Q (F0 mm pc lsC (st.map (cv ad))) := by
  exact lv_iconst X.1 X.2.1 hd rfl (hs _ hf ad H locs lsC (T.ps vokI))
theorem sx_bipush (X : CTX p s mm args c cc nL oc B b L xs kd D) {k : Int} (hd : decode cc pc = .ok (.bipush k, 2)) (hf : pcs[nx]? = some (pc + 2)) (hs : stepE C cap (PW p l e R s mm args below meth c Q B b L xs kd D nL m0 ad0 pcs) K (eP (nx, ls, vi (Int8.ofInt k).toInt32 :: st, m, uc, us))) (T : ST B b L xs kd D s nL m0 ad0 ad H locs lsC ls st m) : W p l e R s mm args below meth c H locs uc us Q (F0 mm pc lsC (st.map (cv ad))) := by
  exact lv_bipush X.1 X.2.1 hd rfl (hs _ hf ad H locs lsC (T.ps vokI))
theorem sx_sipush (X : CTX p s mm args c cc nL oc B b L xs kd D) {k : Int} (hd : decode cc pc = .ok (.sipush k, 3)) (hf : pcs[nx]? = some (pc + 3)) (hs : stepE C cap (PW p l e R s mm args below meth c Q B b L xs kd D nL m0 ad0 pcs) K (eP (nx, ls, vi (Int16.ofInt k).toInt32 :: st, m, uc, us))) (T : ST B b L xs kd D s nL m0 ad0 ad H locs lsC ls st m) : W p l e R s mm args below meth c H locs uc us Q (F0 mm pc lsC (st.map (cv ad))) := by
  exact lv_sipush X.1 X.2.1 hd rfl (hs _ hf ad H locs lsC (T.ps vokI))
theorem sx_lconst (X : CTX p s mm args c cc nL oc B b L xs kd D) {k : Fin 2} (hd : decode cc pc = .ok (.lconst k, 1)) (hf : pcs[nx]? = some (pc + 1)) (hs : stepE C cap (PW p l e R s mm args below meth c Q B b L xs kd D nL m0 ad0 pcs) K (eP (nx, ls, vl (Int64.ofNat (k : Nat)) :: st, m, uc, us))) (T : ST B b L xs kd D s nL m0 ad0 ad H locs lsC ls st m) : W p l e R s mm args below meth c H locs uc us Q (F0 mm pc lsC (st.map (cv ad))) := by
  exact lv_lconst X.1 X.2.1 hd rfl (hs _ hf ad H locs lsC (T.ps vokL))
theorem sx_null (X : CTX p s mm args c cc nL oc B b L xs kd D) (hd : decode cc pc = .ok (.aconst_null, 1)) (hf : pcs[nx]? = some (pc + 1)) (hs : stepE C cap (PW p l e R s mm args below meth c Q B b L xs kd D nL m0 ad0 pcs) K (eP (nx, ls, vr none :: st, m, uc, us))) (T : ST B b L xs kd D s nL m0 ad0 ad H locs lsC ls st m) : W p l e R s mm args below meth c H locs uc us Q (F0 mm pc lsC (st.map (cv ad))) := by
  exact lv_null X.1 X.2.1 hd (hs _ hf ad H locs lsC (T.ps vokN))
theorem sx_iload (X : CTX p s mm args c cc nL oc B b L xs kd D) {k : Nat} (hd : decode cc pc = .ok (.iload k, 2)) (hf : pcs[nx]? = some (pc + 2)) (hs : stepE C cap (PW p l e R s mm args below meth c Q B b L xs kd D nL m0 ad0 pcs) K (eLdI ls k nx st m uc us)) (T : ST B b L xs kd D s nL m0 ad0 ad H locs lsC ls st m) : W p l e R s mm args below meth c H locs uc us Q (F0 mm pc lsC (st.map (cv ad))) := by
  unfold eLdI at hs
  split at hs
  · rename_i x hx
    exact lv_iload X.1 X.2.1 hd (T.at hx (fun q => by cases q)) (hs _ hf ad H locs lsC (T.ps vokI))
  · exact absurd hs id
theorem sx_iload_n (X : CTX p s mm args c cc nL oc B b L xs kd D) {k : Fin 4} (hd : decode cc pc = .ok (.iload_n k, 1)) (hf : pcs[nx]? = some (pc + 1)) (hs : stepE C cap (PW p l e R s mm args below meth c Q B b L xs kd D nL m0 ad0 pcs) K (eLdI ls (k : Nat) nx st m uc us)) (T : ST B b L xs kd D s nL m0 ad0 ad H locs lsC ls st m) : W p l e R s mm args below meth c H locs uc us Q (F0 mm pc lsC (st.map (cv ad))) := by
  unfold eLdI at hs
  split at hs
  · rename_i x hx
    exact lv_iload_n X.1 X.2.1 hd rfl (T.at hx (fun q => by cases q)) (hs _ hf ad H locs lsC (T.ps vokI))
  · exact absurd hs id
theorem sx_lload (X : CTX p s mm args c cc nL oc B b L xs kd D) {k : Nat} (hd : decode cc pc = .ok (.lload k, 2)) (hf : pcs[nx]? = some (pc + 2)) (hs : stepE C cap (PW p l e R s mm args below meth c Q B b L xs kd D nL m0 ad0 pcs) K (eLdL ls k nx st m uc us)) (T : ST B b L xs kd D s nL m0 ad0 ad H locs lsC ls st m) : W p l e R s mm args below meth c H locs uc us Q (F0 mm pc lsC (st.map (cv ad))) := by
  unfold eLdL at hs
  split at hs
  · rename_i x hx
    exact lv_lload X.1 X.2.1 hd (T.at hx (fun q => by cases q)) (hs _ hf ad H locs lsC (T.ps vokL))
  · exact absurd hs id
theorem sx_lload_n (X : CTX p s mm args c cc nL oc B b L xs kd D) {k : Fin 4} (hd : decode cc pc = .ok (.lload_n k, 1)) (hf : pcs[nx]? = some (pc + 1)) (hs : stepE C cap (PW p l e R s mm args below meth c Q B b L xs kd D nL m0 ad0 pcs) K (eLdL ls (k : Nat) nx st m uc us)) (T : ST B b L xs kd D s nL m0 ad0 ad H locs lsC ls st m) : W p l e R s mm args below meth c H locs uc us Q (F0 mm pc lsC (st.map (cv ad))) := by
  unfold eLdL at hs
  split at hs
  · rename_i x hx
    exact lv_lload_n X.1 X.2.1 hd rfl (T.at hx (fun q => by cases q)) (hs _ hf ad H locs lsC (T.ps vokL))
  · exact absurd hs id
theorem sx_aload (X : CTX p s mm args c cc nL oc B b L xs kd D) {k : Nat} (hd : decode cc pc = .ok (.aload k, 2)) (hf : pcs[nx]? = some (pc + 2)) (hs : stepE C cap (PW p l e R s mm args below meth c Q B b L xs kd D nL m0 ad0 pcs) K (eLdA ls k nx st m uc us)) (T : ST B b L xs kd D s nL m0 ad0 ad H locs lsC ls st m) : W p l e R s mm args below meth c H locs uc us Q (F0 mm pc lsC (st.map (cv ad))) := by
  unfold eLdA at hs
  split at hs
  · rename_i r hx
    have hv : vok L m (vr r) := T.2.2.2.1 _ (List.mem_of_getElem? hx)
    have g := hs _ hf ad H locs lsC (T.ps hv)
    cases r with
    | none => exact lv_aloadN X.1 X.2.1 hd (T.at hx (fun q => by cases q)) g
    | some r => exact lv_aload X.1 X.2.1 hd (T.at hx (fun q => by cases q)) g
  · exact absurd hs id
theorem sx_aload_n (X : CTX p s mm args c cc nL oc B b L xs kd D) {k : Fin 4} (hd : decode cc pc = .ok (.aload_n k, 1)) (hf : pcs[nx]? = some (pc + 1)) (hs : stepE C cap (PW p l e R s mm args below meth c Q B b L xs kd D nL m0 ad0 pcs) K (eLdA ls (k : Nat) nx st m uc us)) (T : ST B b L xs kd D s nL m0 ad0 ad H locs lsC ls st m) : W p l e R s mm args below meth c H locs uc us Q (F0 mm pc lsC (st.map (cv ad))) := by
  unfold eLdA at hs
  split at hs
  · rename_i r hx
    have hv : vok L m (vr r) := T.2.2.2.1 _ (List.mem_of_getElem? hx)
    have g := hs _ hf ad H locs lsC (T.ps hv)
    cases r with
    | none => exact lv_aload_nN X.1 X.2.1 hd rfl (T.at hx (fun q => by cases q)) g
    | some r => exact lv_aload_n X.1 X.2.1 hd rfl (T.at hx (fun q => by cases q)) g
  · exact absurd hs id
theorem sx_istore (X : CTX p s mm args c cc nL oc B b L xs kd D) {k : Nat} (hd : decode cc pc = .ok (.istore k, 2)) (hf : pcs[nx]? = some (pc + 2)) (hs : stepE C cap (PW p l e R s mm args below meth c Q B b L xs kd D nL m0 ad0 pcs) K (eStI ls k nx st m uc us)) (T : ST B b L xs kd D s nL m0 ad0 ad H locs lsC ls st m) : W p l e R s mm args below meth c H locs uc us Q (F0 mm pc lsC (st.map (cv ad))) := by
  unfold eStI at hs
  split at hs
  · rename_i x r hb
    have hlt : k < nL := by rw [← T.2.2.1.2.2.1]; exact Nat.le_of_ble_eq_true hb
    exact lv_istore X.1 X.2.1 hd T.2.2.1.has hlt rfl (fun ls' h => hs _ hf ad H locs ls' (T.tl.lc (LREL.st1 (v := vi x) h T.2.2.1.2.2.1) (vok_st T.2.2.2.1 vokI)))
  · exact absurd hs id
theorem sx_istore_n (X : CTX p s mm args c cc nL oc B b L xs kd D) {k : Fin 4} (hd : decode cc pc = .ok (.istore_n k, 1)) (hf : pcs[nx]? = some (pc + 1)) (hs : stepE C cap (PW p l e R s mm args below meth c Q B b L xs kd D nL m0 ad0 pcs) K (eStI ls (k : Nat) nx st m uc us)) (T : ST B b L xs kd D s nL m0 ad0 ad H locs lsC ls st m) : W p l e R s mm args below meth c H locs uc us Q (F0 mm pc lsC (st.map (cv ad))) := by
  unfold eStI at hs
  split at hs
  · rename_i x r hb
    have hlt : (k : Nat) < nL := by rw [← T.2.2.1.2.2.1]; exact Nat.le_of_ble_eq_true hb
    exact lv_istore_n X.1 X.2.1 hd rfl T.2.2.1.has hlt rfl (fun ls' h => hs _ hf ad H locs ls' (T.tl.lc (LREL.st1 (v := vi x) h T.2.2.1.2.2.1) (vok_st T.2.2.2.1 vokI)))
  · exact absurd hs id
theorem sx_astore (X : CTX p s mm args c cc nL oc B b L xs kd D) {k : Nat} (hd : decode cc pc = .ok (.astore k, 2)) (hf : pcs[nx]? = some (pc + 2)) (hs : stepE C cap (PW p l e R s mm args below meth c Q B b L xs kd D nL m0 ad0 pcs) K (eStA ls k nx st m uc us)) (T : ST B b L xs kd D s nL m0 ad0 ad H locs lsC ls st m) : W p l e R s mm args below meth c H locs uc us Q (F0 mm pc lsC (st.map (cv ad))) := by
  unfold eStA at hs
  split at hs
  · rename_i x r hb
    have hlt : k < nL := by rw [← T.2.2.1.2.2.1]; exact Nat.le_of_ble_eq_true hb
    have hv := T.hd
    cases x with
    | none => exact lv_astoreN X.1 X.2.1 hd T.2.2.1.has hlt rfl (fun ls' h => hs _ hf ad H locs ls' (T.tl.lc (LREL.st1 (v := vr none) h T.2.2.1.2.2.1) (vok_st T.2.2.2.1 hv)))
    | some x => exact lv_astore X.1 X.2.1 hd T.2.2.1.has hlt rfl (fun ls' h => hs _ hf ad H locs ls' (T.tl.lc (LREL.st1 (v := vr (some x)) h T.2.2.1.2.2.1) (vok_st T.2.2.2.1 hv)))
  · exact absurd hs id
theorem sx_lstore (X : CTX p s mm args c cc nL oc B b L xs kd D) {k : Nat} (hd : decode cc pc = .ok (.lstore k, 2)) (hf : pcs[nx]? = some (pc + 2)) (hs : stepE C cap (PW p l e R s mm args below meth c Q B b L xs kd D nL m0 ad0 pcs) K (eStL ls k nx st m uc us)) (T : ST B b L xs kd D s nL m0 ad0 ad H locs lsC ls st m) : W p l e R s mm args below meth c H locs uc us Q (F0 mm pc lsC (st.map (cv ad))) := by
  unfold eStL at hs
  split at hs
  · rename_i x r hb
    have hlt : k + 1 < nL := by rw [← T.2.2.1.2.2.1]; exact Nat.le_of_ble_eq_true hb
    exact lv_lstore X.1 X.2.1 hd T.2.2.1.has hlt rfl (fun ls' h => hs _ hf ad H locs ls' (T.tl.lc (LREL.st2 (v := vl x) h T.2.2.1.2.2.1) (vok_set (vok_st T.2.2.2.1 vokL) vokU)))
  · exact absurd hs id
theorem sx_astore_n (X : CTX p s mm args c cc nL oc B b L xs kd D) {k : Fin 4} (hd : decode cc pc = .ok (.astore_n k, 1)) (hf : pcs[nx]? = some (pc + 1)) (hs : stepE C cap (PW p l e R s mm args below meth c Q B b L xs kd D nL m0 ad0 pcs) K (eStA ls (k : Nat) nx st m uc us)) (T : ST B b L xs kd D s nL m0 ad0 ad H locs lsC ls st m) : W p l e R s mm args below meth c H locs uc us Q (F0 mm pc lsC (st.map (cv ad))) := by
  unfold eStA at hs
  split at hs
  · rename_i x r hb
    have hlt : (k : Nat) < nL := by rw [← T.2.2.1.2.2.1]; exact Nat.le_of_ble_eq_true hb
    have hv := T.hd
    cases x with
    | none => exact lv_astore_nN X.1 X.2.1 hd rfl T.2.2.1.has hlt rfl (fun ls' h => hs _ hf ad H locs ls' (T.tl.lc (LREL.st1 (v := vr none) h T.2.2.1.2.2.1) (vok_st T.2.2.2.1 hv)))
    | some x => exact lv_astore_n X.1 X.2.1 hd rfl T.2.2.1.has hlt rfl (fun ls' h => hs _ hf ad H locs ls' (T.tl.lc (LREL.st1 (v := vr (some x)) h T.2.2.1.2.2.1) (vok_st T.2.2.2.1 hv)))
  · exact absurd hs id
theorem sx_lstore_n (X : CTX p s mm args c cc nL oc B b L xs kd D) {k : Fin 4} (hd : decode cc pc = .ok (.lstore_n k, 1)) (hf : pcs[nx]? = some (pc + 1)) (hs : stepE C cap (PW p l e R s mm args below meth c Q B b L xs kd D nL m0 ad0 pcs) K (eStL ls (k : Nat) nx st m uc us)) (T : ST B b L xs kd D s nL m0 ad0 ad H locs lsC ls st m) : W p l e R s mm args below meth c H locs uc us Q (F0 mm pc lsC (st.map (cv ad))) := by
  unfold eStL at hs
  split at hs
  · rename_i x r hb
    have hlt : (k : Nat) + 1 < nL := by rw [← T.2.2.1.2.2.1]; exact Nat.le_of_ble_eq_true hb
    exact lv_lstore_n X.1 X.2.1 hd rfl T.2.2.1.has hlt rfl (fun ls' h => hs _ hf ad H locs ls' (T.tl.lc (LREL.st2 (v := vl x) h T.2.2.1.2.2.1) (vok_set (vok_st T.2.2.2.1 vokL) vokU)))
  · exact absurd hs id
theorem sx_iinc (X : CTX p s mm args c cc nL oc B b L xs kd D) {k : Nat} {i : Int} (hd : decode cc pc = .ok (.iinc k i, 3)) (hf : pcs[nx]? = some (pc + 3)) (hs : stepE C cap (PW p l e R s mm args below meth c Q B b L xs kd D nL m0 ad0 pcs) K (eInc ls k nx (vi (Int32.ofInt i)) st m uc us)) (T : ST B b L xs kd D s nL m0 ad0 ad H locs lsC ls st m) : W p l e R s mm args below meth c H locs uc us Q (F0 mm pc lsC (st.map (cv ad))) := by
  unfold eInc at hs
  split at hs
  · rename_i x y hx hy
    cases hy
    have hlt : k < nL := by rw [← T.2.2.1.2.2.1]; exact (List.getElem?_eq_some_iff.mp hx).1
    obtain ⟨j, hj⟩ := List.getElem?_of_mem (lst_mem (ad := ad) hx (fun q => by cases q))
    exact lv_iinc X.1 X.2.1 hd T.2.2.1.has hj rfl hlt rfl (fun ls' h => hs _ hf ad H locs ls' (T.lc (LREL.st1 (v := vi (x + Int32.ofInt i)) h T.2.2.1.2.2.1) (vok_st T.2.2.2.1 vokI)))
  · exact absurd hs id
theorem sx_iadd (X : CTX p s mm args c cc nL oc B b L xs kd D) (hd : decode cc pc = .ok (.iadd, 1)) (hf : pcs[nx]? = some (pc + 1)) (hs : stepE C cap (PW p l e R s mm args below meth c Q B b L xs kd D nL m0 ad0 pcs) K (eI2 (fun x y => x + y) ls nx st m uc us)) (T : ST B b L xs kd D s nL m0 ad0 ad H locs lsC ls st m) : W p l e R s mm args below meth c H locs uc us Q (F0 mm pc lsC (st.map (cv ad))) := by
  unfold eI2 at hs
  split at hs
  · exact lv_iadd X.1 X.2.1 hd (hs _ hf ad H locs lsC (T.tl.tl.ps vokI))
  · exact absurd hs id
theorem sx_isub (X : CTX p s mm args c cc nL oc B b L xs kd D) (hd : decode cc pc = .ok (.isub, 1)) (hf : pcs[nx]? = some (pc + 1)) (hs : stepE C cap (PW p l e R s mm args below meth c Q B b L xs kd D nL m0 ad0 pcs) K (eI2 (fun x y => x - y) ls nx st m uc us)) (T : ST B b L xs kd D s nL m0 ad0 ad H locs lsC ls st m) : W p l e R s mm args below meth c H locs uc us Q (F0 mm pc lsC (st.map (cv ad))) := by
  unfold eI2 at hs
  split at hs
  · exact lv_isub X.1 X.2.1 hd (hs _ hf ad H locs lsC (T.tl.tl.ps vokI))
  · exact absurd hs id
theorem sx_imul (X : CTX p s mm args c cc nL oc B b L xs kd D) (hd : decode cc pc = .ok (.imul, 1)) (hf : pcs[nx]? = some (pc + 1)) (hs : stepE C cap (PW p l e R s mm args below meth c Q B b L xs kd D nL m0 ad0 pcs) K (eI2 (fun x y => x * y) ls nx st m uc us)) (T : ST B b L xs kd D s nL m0 ad0 ad H locs lsC ls st m) : W p l e R s mm args below meth c H locs uc us Q (F0 mm pc lsC (st.map (cv ad))) := by
  unfold eI2 at hs
  split at hs
  · exact lv_imul X.1 X.2.1 hd (hs _ hf ad H locs lsC (T.tl.tl.ps vokI))
  · exact absurd hs id
theorem sx_iand (X : CTX p s mm args c cc nL oc B b L xs kd D) (hd : decode cc pc = .ok (.iand, 1)) (hf : pcs[nx]? = some (pc + 1)) (hs : stepE C cap (PW p l e R s mm args below meth c Q B b L xs kd D nL m0 ad0 pcs) K (eI2 (fun x y => x &&& y) ls nx st m uc us)) (T : ST B b L xs kd D s nL m0 ad0 ad H locs lsC ls st m) : W p l e R s mm args below meth c H locs uc us Q (F0 mm pc lsC (st.map (cv ad))) := by
  unfold eI2 at hs
  split at hs
  · exact lv_iand X.1 X.2.1 hd (hs _ hf ad H locs lsC (T.tl.tl.ps vokI))
  · exact absurd hs id
theorem sx_ior (X : CTX p s mm args c cc nL oc B b L xs kd D) (hd : decode cc pc = .ok (.ior, 1)) (hf : pcs[nx]? = some (pc + 1)) (hs : stepE C cap (PW p l e R s mm args below meth c Q B b L xs kd D nL m0 ad0 pcs) K (eI2 (fun x y => x ||| y) ls nx st m uc us)) (T : ST B b L xs kd D s nL m0 ad0 ad H locs lsC ls st m) : W p l e R s mm args below meth c H locs uc us Q (F0 mm pc lsC (st.map (cv ad))) := by
  unfold eI2 at hs
  split at hs
  · exact lv_ior X.1 X.2.1 hd (hs _ hf ad H locs lsC (T.tl.tl.ps vokI))
  · exact absurd hs id
theorem sx_ixor (X : CTX p s mm args c cc nL oc B b L xs kd D) (hd : decode cc pc = .ok (.ixor, 1)) (hf : pcs[nx]? = some (pc + 1)) (hs : stepE C cap (PW p l e R s mm args below meth c Q B b L xs kd D nL m0 ad0 pcs) K (eI2 (fun x y => x ^^^ y) ls nx st m uc us)) (T : ST B b L xs kd D s nL m0 ad0 ad H locs lsC ls st m) : W p l e R s mm args below meth c H locs uc us Q (F0 mm pc lsC (st.map (cv ad))) := by
  unfold eI2 at hs
  split at hs
  · exact lv_ixor X.1 X.2.1 hd (hs _ hf ad H locs lsC (T.tl.tl.ps vokI))
  · exact absurd hs id
theorem sx_ishl (X : CTX p s mm args c cc nL oc B b L xs kd D) (hd : decode cc pc = .ok (.ishl, 1)) (hf : pcs[nx]? = some (pc + 1)) (hs : stepE C cap (PW p l e R s mm args below meth c Q B b L xs kd D nL m0 ad0 pcs) K (eI2 (fun x y => x <<< (y &&& 31)) ls nx st m uc us)) (T : ST B b L xs kd D s nL m0 ad0 ad H locs lsC ls st m) : W p l e R s mm args below meth c H locs uc us Q (F0 mm pc lsC (st.map (cv ad))) := by
  unfold eI2 at hs
  split at hs
  · exact lv_ishl X.1 X.2.1 hd (hs _ hf ad H locs lsC (T.tl.tl.ps vokI))
  · exact absurd hs id
theorem sx_ishr (X : CTX p s mm args c cc nL oc B b L xs kd D) (hd : decode cc pc = .ok (.ishr, 1)) (hf : pcs[nx]? = some (pc + 1)) (hs : stepE C cap (PW p l e R s mm args below meth c Q B b L xs kd D nL m0 ad0 pcs) K (eI2 (fun x y => x >>> (y &&& 31)) ls nx st m uc us)) (T : ST B b L xs kd D s nL m0 ad0 ad H locs lsC ls st m) : W p l e R s mm args below meth c H locs uc us Q (F0 mm pc lsC (st.map (cv ad))) := by
  unfold eI2 at hs
  split at hs
  · exact lv_ishr X.1 X.2.1 hd (hs _ hf ad H locs lsC (T.tl.tl.ps vokI))
  · exact absurd hs id
theorem sx_iushr (X : CTX p s mm args c cc nL oc B b L xs kd D) (hd : decode cc pc = .ok (.iushr, 1)) (hf : pcs[nx]? = some (pc + 1)) (hs : stepE C cap (PW p l e R s mm args below meth c Q B b L xs kd D nL m0 ad0 pcs) K (eI2 (fun x y => (x.toUInt32 >>> (y.toUInt32 &&& Int32.toUInt32 31)).toInt32) ls nx st m uc us)) (T : ST B b L xs kd D s nL m0 ad0 ad H locs lsC ls st m) : W p l e R s mm args below meth c H locs uc us Q (F0 mm pc lsC (st.map (cv ad))) := by
  unfold eI2 at hs
  split at hs
  · exact lv_iushr X.1 X.2.1 hd rfl (hs _ hf ad H locs lsC (T.tl.tl.ps vokI))
  · exact absurd hs id
theorem sx_idiv (X : CTX p s mm args c cc nL oc B b L xs kd D) (hd : decode cc pc = .ok (.idiv, 1)) (hf : pcs[nx]? = some (pc + 1)) (hs : stepE C cap (PW p l e R s mm args below meth c Q B b L xs kd D nL m0 ad0 pcs) K (eI2q (fun x y => x / y) ls nx st m uc us)) (T : ST B b L xs kd D s nL m0 ad0 ad H locs lsC ls st m) : W p l e R s mm args below meth c H locs uc us Q (F0 mm pc lsC (st.map (cv ad))) := by
  unfold eI2q at hs
  split at hs
  · exact lv_idiv X.1 X.2.1 hd hs.1 (hs.2 _ hf ad H locs lsC (T.tl.tl.ps vokI))
  · exact absurd hs id
theorem sx_irem (X : CTX p s mm args c cc nL oc B b L xs kd D) (hd : decode cc pc = .ok (.irem, 1)) (hf : pcs[nx]? = some (pc + 1)) (hs : stepE C cap (PW p l e R s mm args below meth c Q B b L xs kd D nL m0 ad0 pcs) K (eI2q (fun x y => x - x / y * y) ls nx st m uc us)) (T : ST B b L xs kd D s nL m0 ad0 ad H locs lsC ls st m) : W p l e R s mm args below meth c H locs uc us Q (F0 mm pc lsC (st.map (cv ad))) := by
  unfold eI2q at hs
  split at hs
  · exact lv_irem X.1 X.2.1 hd hs.1 (hs.2 _ hf ad H locs lsC (T.tl.tl.ps vokI))
  · exact absurd hs id
theorem sx_ldiv (X : CTX p s mm args c cc nL oc B b L xs kd D) (hd : decode cc pc = .ok (.ldiv, 1)) (hf : pcs[nx]? = some (pc + 1)) (hs : stepE C cap (PW p l e R s mm args below meth c Q B b L xs kd D nL m0 ad0 pcs) K (eL2q (fun x y => x / y) ls nx st m uc us)) (T : ST B b L xs kd D s nL m0 ad0 ad H locs lsC ls st m) : W p l e R s mm args below meth c H locs uc us Q (F0 mm pc lsC (st.map (cv ad))) := by
  unfold eL2q at hs
  split at hs
  · exact lv_ldiv X.1 X.2.1 hd hs.1 (hs.2 _ hf ad H locs lsC (T.tl.tl.ps vokL))
  · exact absurd hs id
theorem sx_lrem (X : CTX p s mm args c cc nL oc B b L xs kd D) (hd : decode cc pc = .ok (.lrem, 1)) (hf : pcs[nx]? = some (pc + 1)) (hs : stepE C cap (PW p l e R s mm args below meth c Q B b L xs kd D nL m0 ad0 pcs) K (eL2q (fun x y => x - x / y * y) ls nx st m uc us)) (T : ST B b L xs kd D s nL m0 ad0 ad H locs lsC ls st m) : W p l e R s mm args below meth c H locs uc us Q (F0 mm pc lsC (st.map (cv ad))) := by
  unfold eL2q at hs
  split at hs
  · exact lv_lrem X.1 X.2.1 hd hs.1 (hs.2 _ hf ad H locs lsC (T.tl.tl.ps vokL))
  · exact absurd hs id
theorem sx_ladd (X : CTX p s mm args c cc nL oc B b L xs kd D) (hd : decode cc pc = .ok (.ladd, 1)) (hf : pcs[nx]? = some (pc + 1)) (hs : stepE C cap (PW p l e R s mm args below meth c Q B b L xs kd D nL m0 ad0 pcs) K (eL2 (fun x y => x + y) ls nx st m uc us)) (T : ST B b L xs kd D s nL m0 ad0 ad H locs lsC ls st m) : W p l e R s mm args below meth c H locs uc us Q (F0 mm pc lsC (st.map (cv ad))) := by
  unfold eL2 at hs
  split at hs
  · exact lv_ladd X.1 X.2.1 hd (hs _ hf ad H locs lsC (T.tl.tl.ps vokL))
  · exact absurd hs id
theorem sx_lsub (X : CTX p s mm args c cc nL oc B b L xs kd D) (hd : decode cc pc = .ok (.lsub, 1)) (hf : pcs[nx]? = some (pc + 1)) (hs : stepE C cap (PW p l e R s mm args below meth c Q B b L xs kd D nL m0 ad0 pcs) K (eL2 (fun x y => x - y) ls nx st m uc us)) (T : ST B b L xs kd D s nL m0 ad0 ad H locs lsC ls st m) : W p l e R s mm args below meth c H locs uc us Q (F0 mm pc lsC (st.map (cv ad))) := by
  unfold eL2 at hs
  split at hs
  · exact lv_lsub X.1 X.2.1 hd (hs _ hf ad H locs lsC (T.tl.tl.ps vokL))
  · exact absurd hs id
theorem sx_lmul (X : CTX p s mm args c cc nL oc B b L xs kd D) (hd : decode cc pc = .ok (.lmul, 1)) (hf : pcs[nx]? = some (pc + 1)) (hs : stepE C cap (PW p l e R s mm args below meth c Q B b L xs kd D nL m0 ad0 pcs) K (eL2 (fun x y => x * y) ls nx st m uc us)) (T : ST B b L xs kd D s nL m0 ad0 ad H locs lsC ls st m) : W p l e R s mm args below meth c H locs uc us Q (F0 mm pc lsC (st.map (cv ad))) := by
  unfold eL2 at hs
  split at hs
  · exact lv_lmul X.1 X.2.1 hd (hs _ hf ad H locs lsC (T.tl.tl.ps vokL))
  · exact absurd hs id
theorem sx_ineg (X : CTX p s mm args c cc nL oc B b L xs kd D) (hd : decode cc pc = .ok (.ineg, 1)) (hf : pcs[nx]? = some (pc + 1)) (hs : stepE C cap (PW p l e R s mm args below meth c Q B b L xs kd D nL m0 ad0 pcs) K (eI1 (fun x => -x) ls nx st m uc us)) (T : ST B b L xs kd D s nL m0 ad0 ad H locs lsC ls st m) : W p l e R s mm args below meth c H locs uc us Q (F0 mm pc lsC (st.map (cv ad))) := by
  unfold eI1 at hs
  split at hs
  · exact lv_ineg X.1 X.2.1 hd (hs _ hf ad H locs lsC (T.tl.ps vokI))
  · exact absurd hs id
theorem sx_i2b (X : CTX p s mm args c cc nL oc B b L xs kd D) (hd : decode cc pc = .ok (.i2b, 1)) (hf : pcs[nx]? = some (pc + 1)) (hs : stepE C cap (PW p l e R s mm args below meth c Q B b L xs kd D nL m0 ad0 pcs) K (eI1 (fun x => x.toInt8.toInt32) ls nx st m uc us)) (T : ST B b L xs kd D s nL m0 ad0 ad H locs lsC ls st m) : W p l e R s mm args below meth c H locs uc us Q (F0 mm pc lsC (st.map (cv ad))) := by
  unfold eI1 at hs
  split at hs
  · exact lv_i2b X.1 X.2.1 hd rfl (hs _ hf ad H locs lsC (T.tl.ps vokI))
  · exact absurd hs id
theorem sx_lcmp (X : CTX p s mm args c cc nL oc B b L xs kd D) (hd : decode cc pc = .ok (.lcmp, 1)) (hf : pcs[nx]? = some (pc + 1)) (hs : stepE C cap (PW p l e R s mm args below meth c Q B b L xs kd D nL m0 ad0 pcs) K (eLc ls nx st m uc us)) (T : ST B b L xs kd D s nL m0 ad0 ad H locs lsC ls st m) : W p l e R s mm args below meth c H locs uc us Q (F0 mm pc lsC (st.map (cv ad))) := by
  unfold eLc at hs
  split at hs
  · exact W.lcmp X.1 X.2.1 hd (hs _ hf ad H locs lsC (T.tl.tl.ps vokI))
  · exact absurd hs id
theorem sx_i2l (X : CTX p s mm args c cc nL oc B b L xs kd D) (hd : decode cc pc = .ok (.i2l, 1)) (hf : pcs[nx]? = some (pc + 1)) (hs : stepE C cap (PW p l e R s mm args below meth c Q B b L xs kd D nL m0 ad0 pcs) K (eIL ls nx st m uc us)) (T : ST B b L xs kd D s nL m0 ad0 ad H locs lsC ls st m) : W p l e R s mm args below meth c H locs uc us Q (F0 mm pc lsC (st.map (cv ad))) := by
  unfold eIL at hs
  split at hs
  · exact lv_i2l X.1 X.2.1 hd rfl (hs _ hf ad H locs lsC (T.tl.ps vokL))
  · exact absurd hs id
theorem sx_l2i (X : CTX p s mm args c cc nL oc B b L xs kd D) (hd : decode cc pc = .ok (.l2i, 1)) (hf : pcs[nx]? = some (pc + 1)) (hs : stepE C cap (PW p l e R s mm args below meth c Q B b L xs kd D nL m0 ad0 pcs) K (eLI ls nx st m uc us)) (T : ST B b L xs kd D s nL m0 ad0 ad H locs lsC ls st m) : W p l e R s mm args below meth c H locs uc us Q (F0 mm pc lsC (st.map (cv ad))) := by
  unfold eLI at hs
  split at hs
  · exact lv_l2i X.1 X.2.1 hd rfl (hs _ hf ad H locs lsC (T.tl.ps vokI))
  · exact absurd hs id
theorem sx_goto (X : CTX p s mm args c cc nL oc B b L xs kd D) {off : Int} {tgt : Nat} (ht : (pc : Int) + off = (tgt : Int)) (hj : pcs[a]? = some tgt) (hd : decode cc pc = .ok (.goto off, 3)) (hs : stepE C cap (PW p l e R s mm args below meth c Q B b L xs kd D nL m0 ad0 pcs) K (eP (a, ls, st, m, uc, us))) (T : ST B b L xs kd D s nL m0 ad0 ad H locs lsC ls st m) : W p l e R s mm args below meth c H locs uc us Q (F0 mm pc lsC (st.map (cv ad))) := by
  exact lv_goto X.1 X.2.1 hd ht (hs _ hj ad H locs lsC T)
theorem sx_icmp_eq (X : CTX p s mm args c cc nL oc B b L xs kd D) {off : Int} {tgt : Nat} (ht : (pc : Int) + off = (tgt : Int)) (hj : pcs[a]? = some tgt) (hd : decode cc pc = .ok (.if_icmp .eq off, 3)) (hf : pcs[nx]? = some (pc + 3)) (hs : stepE C cap (PW p l e R s mm args below meth c Q B b L xs kd D nL m0 ad0 pcs) K (eCm (fun x y => x = y) ls a nx st m uc us)) (T : ST B b L xs kd D s nL m0 ad0 ad H locs lsC ls st m) : W p l e R s mm args below meth c H locs uc us Q (F0 mm pc lsC (st.map (cv ad))) := by
  unfold eCm at hs
  split at hs
  · exact lv_icmp_eq X.1 X.2.1 hd ht (fun q => hs.1 q _ hj ad H locs lsC T.tl.tl) (fun q => hs.2 q _ hf ad H locs lsC T.tl.tl)
  · exact absurd hs id
theorem sx_if_eq (X : CTX p s mm args c cc nL oc B b L xs kd D) {off : Int} {tgt : Nat} (ht : (pc : Int) + off = (tgt : Int)) (hj : pcs[a]? = some tgt) (hd : decode cc pc = .ok (.ifCond .eq off, 3)) (hf : pcs[nx]? = some (pc + 3)) (hs : stepE C cap (PW p l e R s mm args below meth c Q B b L xs kd D nL m0 ad0 pcs) K (eC0 (fun x => x = 0) ls a nx st m uc us)) (T : ST B b L xs kd D s nL m0 ad0 ad H locs lsC ls st m) : W p l e R s mm args below meth c H locs uc us Q (F0 mm pc lsC (st.map (cv ad))) := by
  unfold eC0 at hs
  split at hs
  · exact lv_if_eq X.1 X.2.1 hd ht (fun q => hs.1 q _ hj ad H locs lsC T.tl) (fun q => hs.2 q _ hf ad H locs lsC T.tl)
  · exact absurd hs id
theorem sx_icmp_ne (X : CTX p s mm args c cc nL oc B b L xs kd D) {off : Int} {tgt : Nat} (ht : (pc : Int) + off = (tgt : Int)) (hj : pcs[a]? = some tgt) (hd : decode cc pc = .ok (.if_icmp .ne off, 3)) (hf : pcs[nx]? = some (pc + 3)) (hs : stepE C cap (PW p l e R s mm args below meth c Q B b L xs kd D nL m0 ad0 pcs) K (eCm (fun x y => x = y) ls nx a st m uc us)) (T : ST B b L xs kd D s nL m0 ad0 ad H locs lsC ls st m) : W p l e R s mm args below meth c H locs uc us Q (F0 mm pc lsC (st.map (cv ad))) := by
  unfold eCm at hs
  split at hs
  · exact lv_icmp_ne X.1 X.2.1 hd ht (fun q => hs.2 q _ hj ad H locs lsC T.tl.tl) (fun q => hs.1 q _ hf ad H locs lsC T.tl.tl)
  · exact absurd hs id
theorem sx_if_ne (X : CTX p s mm args c cc nL oc B b L xs kd D) {off : Int} {tgt : Nat} (ht : (pc : Int) + off = (tgt : Int)) (hj : pcs[a]? = some tgt) (hd : decode cc pc = .ok (.ifCond .ne off, 3)) (hf : pcs[nx]? = some (pc + 3)) (hs : stepE C cap (PW p l e R s mm args below meth c Q B b L xs kd D nL m0 ad0 pcs) K (eC0 (fun x => x = 0) ls nx a st m uc us)) (T : ST B b L xs kd D s nL m0 ad0 ad H locs lsC ls st m) : W p l e R s mm args below meth c H locs uc us Q (F0 mm pc lsC (st.map (cv ad))) := by
  unfold eC0 at hs
  split at hs
  · exact lv_if_ne X.1 X.2.1 hd ht (fun q => hs.2 q _ hj ad H locs lsC T.tl) (fun q => hs.1 q _ hf ad H locs lsC T.tl)
  · exact absurd hs id
theorem sx_icmp_lt (X : CTX p s mm args c cc nL oc B b L xs kd D) {off : Int} {tgt : Nat} (ht : (pc : Int) + off = (tgt : Int)) (hj : pcs[a]? = some tgt) (hd : decode cc pc = .ok (.if_icmp .lt off, 3)) (hf : pcs[nx]? = some (pc + 3)) (hs : stepE C cap (PW p l e R s mm args below meth c Q B b L xs kd D nL m0 ad0 pcs) K (eCm (fun x y => x < y) ls a nx st m uc us)) (T : ST B b L xs kd D s nL m0 ad0 ad H locs lsC ls st m) : W p l e R s mm args below meth c H locs uc us Q (F0 mm pc lsC (st.map (cv ad))) := by
  unfold eCm at hs
  split at hs
  · exact lv_icmp_lt X.1 X.2.1 hd ht (fun q => hs.1 q _ hj ad H locs lsC T.tl.tl) (fun q => hs.2 q _ hf ad H locs lsC T.tl.tl)
  · exact absurd hs id
theorem sx_if_lt (X : CTX p s mm args c cc nL oc B b L xs kd D) {off : Int} {tgt : Nat} (ht : (pc : Int) + off = (tgt : Int)) (hj : pcs[a]? = some tgt) (hd : decode cc pc = .ok (.ifCond .lt off, 3)) (hf : pcs[nx]? = some (pc + 3)) (hs : stepE C cap (PW p l e R s mm args below meth c Q B b L xs kd D nL m0 ad0 pcs) K (eC0 (fun x => x < 0) ls a nx st m uc us)) (T : ST B b L xs kd D s nL m0 ad0 ad H locs lsC ls st m) : W p l e R s mm args below meth c H locs uc us Q (F0 mm pc lsC (st.map (cv ad))) := by
  unfold eC0 at hs
  split at hs
  · exact lv_if_lt X.1 X.2.1 hd ht (fun q => hs.1 q _ hj ad H locs lsC T.tl) (fun q => hs.2 q _ hf ad H locs lsC T.tl)
  · exact absurd hs id
theorem sx_icmp_ge (X : CTX p s mm args c cc nL oc B b L xs kd D) {off : Int} {tgt : Nat} (ht : (pc : Int) + off = (tgt : Int)) (hj : pcs[a]? = some tgt) (hd : decode cc pc = .ok (.if_icmp .ge off, 3)) (hf : pcs[nx]? = some (pc + 3)) (hs : stepE C cap (PW p l e R s mm args below meth c Q B b L xs kd D nL m0 ad0 pcs) K (eCm (fun x y => y ≤ x) ls a nx st m uc us)) (T : ST B b L xs kd D s nL m0 ad0 ad H locs lsC ls st m) : W p l e R s mm args below meth c H locs uc us Q (F0 mm pc lsC (st.map (cv ad))) := by
  unfold eCm at hs
  split at hs
  · exact lv_icmp_ge X.1 X.2.1 hd ht (fun q => hs.1 q _ hj ad H locs lsC T.tl.tl) (fun q => hs.2 q _ hf ad H locs lsC T.tl.tl)
  · exact absurd hs id
theorem sx_if_ge (X : CTX p s mm args c cc nL oc B b L xs kd D) {off : Int} {tgt : Nat} (ht : (pc : Int) + off = (tgt : Int)) (hj : pcs[a]? = some tgt) (hd : decode cc pc = .ok (.ifCond .ge off, 3)) (hf : pcs[nx]? = some (pc + 3)) (hs : stepE C cap (PW p l e R s mm args below meth c Q B b L xs kd D nL m0 ad0 pcs) K (eC0 (fun x => 0 ≤ x) ls a nx st m uc us)) (T : ST B b L xs kd D s nL m0 ad0 ad H locs lsC ls st m) : W p l e R s mm args below meth c H locs uc us Q (F0 mm pc lsC (st.map (cv ad))) := by
  unfold eC0 at hs
  split at hs
  · exact lv_if_ge X.1 X.2.1 hd ht (fun q => hs.1 q _ hj ad H locs lsC T.tl) (fun q => hs.2 q _ hf ad H locs lsC T.tl)
  · exact absurd hs id
theorem sx_icmp_gt (X : CTX p s mm args c cc nL oc B b L xs kd D) {off : Int} {tgt : Nat} (ht : (pc : Int) + off = (tgt : Int)) (hj : pcs[a]? = some tgt) (hd : decode cc pc = .ok (.if_icmp .gt off, 3)) (hf : pcs[nx]? = some (pc + 3)) (hs : stepE C cap (PW p l e R s mm args below meth c Q B b L xs kd D nL m0 ad0 pcs) K (eCm (fun x y => y < x) ls a nx st m uc us)) (T : ST B b L xs kd D s nL m0 ad0 ad H locs lsC ls st m) : W p l e R s mm args below meth c H locs uc us Q (F0 mm pc lsC (st.map (cv ad))) := by
  unfold eCm at hs
  split at hs
  · exact lv_icmp_gt X.1 X.2.1 hd ht (fun q => hs.1 q _ hj ad H locs lsC T.tl.tl) (fun q => hs.2 q _ hf ad H locs lsC T.tl.tl)
  · exact absurd hs id
theorem sx_if_gt (X : CTX p s mm args c cc nL oc B b L xs kd D) {off : Int} {tgt : Nat} (ht : (pc : Int) + off = (tgt : Int)) (hj : pcs[a]? = some tgt) (hd : decode cc pc = .ok (.ifCond .gt off, 3)) (hf : pcs[nx]? = some (pc + 3)) (hs : stepE C cap (PW p l e R s mm args below meth c Q B b L xs kd D nL m0 ad0 pcs) K (eC0 (fun x => 0 < x) ls a nx st m uc us)) (T : ST B b L xs kd D s nL m0 ad0 ad H locs lsC ls st m) : W p l e R s mm args below meth c H locs uc us Q (F0 mm pc lsC (st.map (cv ad))) := by
  unfold eC0 at hs
  split at hs
  · exact lv_if_gt X.1 X.2.1 hd ht (fun q => hs.1 q _ hj ad H locs lsC T.tl) (fun q => hs.2 q _ hf ad H locs lsC T.tl)
  · exact absurd hs id
theorem sx_icmp_le (X : CTX p s mm args c cc nL oc B b L xs kd D) {off : Int} {tgt : Nat} (ht : (pc : Int) + off = (tgt : Int)) (hj : pcs[a]? = some tgt) (hd : decode cc pc = .ok (.if_icmp .le off, 3)) (hf : pcs[nx]? = some (pc + 3)) (hs : stepE C cap (PW p l e R s mm args below meth c Q B b L xs kd D nL m0 ad0 pcs) K (eCm (fun x y => x ≤ y) ls a nx st m uc us)) (T : ST B b L xs kd D s nL m0 ad0 ad H locs lsC ls st m) : W p l e R s mm args below meth c H locs uc us Q (F0 mm pc lsC (st.map (cv ad))) := by
  unfold eCm at hs
  split at hs
  · exact lv_icmp_le X.1 X.2.1 hd ht (fun q => hs.1 q _ hj ad H locs lsC T.tl.tl) (fun q => hs.2 q _ hf ad H locs lsC T.tl.tl)
  · exact absurd hs id
theorem sx_if_le (X : CTX p s mm args c cc nL oc B b L xs kd D) {off : Int} {tgt : Nat} (ht : (pc : Int) + off = (tgt : Int)) (hj : pcs[a]? = some tgt) (hd : decode cc pc = .ok (.ifCond .le off, 3)) (hf : pcs[nx]? = some (pc + 3)) (hs : stepE C cap (PW p l e R s mm args below meth c Q B b L xs kd D nL m0 ad0 pcs) K (eC0 (fun x => x ≤ 0) ls a nx st m uc us)) (T : ST B b L xs kd D s nL m0 ad0 ad H locs lsC ls st m) : W p l e R s mm args below meth c H locs uc us Q (F0 mm pc lsC (st.map (cv ad))) := by
  unfold eC0 at hs
  split at hs
  · exact lv_if_le X.1 X.2.1 hd ht (fun q => hs.1 q _ hj ad H locs lsC T.tl) (fun q => hs.2 q _ hf ad H locs lsC T.tl)
  · exact absurd hs id
end SX
end
section
/-! THE STEPS that touch the heap. -/
theorem any_of {α : Type} {f : α → Bool} {l : List α} (h : l.any f = true) : ∃ x, x ∈ l ∧ f x = true := List.any_eq_true.mp h
theorem all_at {α : Type} {f : α → Bool} {l : List α} (h : l.all f = true) {x : α} (hx : x ∈ l) : f x = true := List.all_eq_true.mp h x hx
theorem clsT_at {a : Nat} (h : a < 8) : clsT[a]? = some (clsN a, (fun k => fT a k), fN a) := by
  rcases (show a = 0 ∨ a = 1 ∨ a = 2 ∨ a = 3 ∨ a = 4 ∨ a = 5 ∨ a = 6 ∨ a = 7 by omega) with rfl | rfl | rfl | rfl | rfl | rfl | rfl | rfl <;> rfl
theorem tyT_ok {a : Nat} (h : a < 8) : ∀ k, k < fN a → parseFieldDescriptor (fT a k).2.2.1 = some (tyT a k) := by
  rcases (show a = 0 ∨ a = 1 ∨ a = 2 ∨ a = 3 ∨ a = 4 ∨ a = 5 ∨ a = 6 ∨ a = 7 by omega) with rfl | rfl | rfl | rfl | rfl | rfl | rfl | rfl
  · exact tyX0_ok
  · exact tyX1_ok
  · exact tyX3_ok
  · exact tyX4_ok
  · exact tyX6_ok
  · exact tyX7_ok
  · exact tyX8_ok
  · exact tyX9_ok
theorem nmT_ok {a : Nat} (h : a < 8) : ∀ i, i < fN a → ∀ j, j < fN a → i ≠ j → (fT a i).2.1 ≠ (fT a j).2.1 := by
  rcases (show a = 0 ∨ a = 1 ∨ a = 2 ∨ a = 3 ∨ a = 4 ∨ a = 5 ∨ a = 6 ∨ a = 7 by omega) with rfl | rfl | rfl | rfl | rfl | rfl | rfl | rfl
  · exact nmX0
  · exact nmX1
  · exact nmX3
  · exact nmX4
  · exact nmX6
  · exact nmX7
  · exact nmX8
  · exact nmX9
theorem lay_in {a : Nat} (h : a < 8) : ∀ w ∈ u_ws (clsN a) (fun k => fT a k) (fN a), w ∈ gw := by
  intro w hw
  have g := all_at layL_ok (List.mem_range.mpr h)
  unfold chkL at g
  rw [clsT_at h] at g
  cases hl : layL[a]? with
  | none => rw [hl] at g; cases g
  | some ps =>
    rw [hl] at g
    simp only [Bool.and_eq_true] at g
    obtain ⟨k, hk, rfl⟩ := List.mem_map.mp hw
    exact gw_in (all_at g.2 hk)
theorem ins_in {a : Nat} (h : a < 8) : Cond.instantiable (clsN a) (fN a) ∈ gw ∧ Cond.initialized (clsN a) ∈ gw := by
  have g := all_at insL_ok (List.mem_range.mpr h)
  unfold chkJ at g
  rw [clsT_at h] at g
  cases hl : insL[a]? with
  | none => rw [hl] at g; cases g
  | some ps =>
    rw [hl] at g
    simp only [Bool.and_eq_true] at g
    exact ⟨gw_in g.1.1, gw_in g.1.2⟩
theorem fvL_get {ad : Id3 → Nat} {m : Mem} {a : Nat} {o : Id3} {k : Nat} (h : k < fN a) : (fvL ad m a o)[k]? = some (fv ad m a o k) := by
  unfold fvL
  rw [List.getElem?_map, List.getElem?_range h]
  rfl
theorem fvL_len {ad : Id3 → Nat} {m : Mem} {a : Nat} {o : Id3} : (fvL ad m a o).length = fN a := by simp [fvL]
/-- shapes of what is allocated on the two sides: below 2 -/
theorem alc_sd {m : Mem} {o : Id3} (h : alc m o) : o.1 < 2 := h.1
theorem live_alc {L : Nat} {m : Mem} {o : Id3} (h : live L m o) (hs : sh o ≠ 8) (h30 : sh o ≠ 30) : alc m o := by
  rcases h with g | ⟨g1, g2, g3⟩ | rfl
  · exact g
  · obtain ⟨a, t, i⟩ := o
    dsimp only at g1 g2
    subst g1; subst g2
    exact absurd rfl hs
  · exact absurd rfl h30
theorem live_kind {L : Nat} {m : Mem} {o : Id3} (h : live L m o) (hs : sh o = 8) : o.1 = 0 ∧ o.2.1 = 20 ∧ o.2.2 < 6 := by
  rcases h with g | g | rfl
  · exfalso
    obtain ⟨a, t, i⟩ := o
    obtain ⟨g1, g2, -⟩ := g
    have g1 : a < 2 := g1
    have g2 : ¬ (a = 0 ∧ t = 20) := g2
    rcases (show a = 0 ∨ a = 1 by omega) with rfl | rfl
    · have hs : sh0 t = 8 := hs
      unfold sh0 at hs
      split at hs <;> first | exact absurd hs (by decide) | exact g2 ⟨rfl, rfl⟩
    · have hs : sh1 t = 8 := hs
      unfold sh1 at hs
      split at hs <;> exact absurd hs (by decide)
  · exact g
  · exact absurd (show (30 : Nat) = 8 from hs) (by decide)
theorem live_scr {L : Nat} {m : Mem} {o : Id3} (h : live L m o) (hs : sh o = 30) : o = (2, 0, L) := by
  rcases h with g | ⟨g1, g2, g3⟩ | rfl
  · exfalso
    obtain ⟨a, t, i⟩ := o
    obtain ⟨g1, -⟩ := g
    have g1 : a < 2 := g1
    rcases (show a = 0 ∨ a = 1 by omega) with rfl | rfl
    · have hs : sh0 t = 30 := hs
      unfold sh0 at hs
      split at hs <;> exact absurd hs (by decide)
    · have hs : sh1 t = 30 := hs
      unfold sh1 at hs
      split at hs <;> exact absurd hs (by decide)
  · obtain ⟨a, t, i⟩ := o
    dsimp only at g1 g2
    subst g1; subst g2
    exact absurd (show (8 : Nat) = 30 from hs) (by decide)
  · rfl
section SY
variable {p : Program} {l : Launch} {e : Env} {R : Room} {s : State} {mm : MethodId} {args : Array Value} {below : List Frame} {meth : Method} {c : Code} {Q : State → Prop} {cc : ByteArray} {nL oc B b L : Nat} {xs : Nat → Int32} {kd : Nat → Nat} {D : va_G} {m0 : Mem} {ad0 ad : Id3 → Nat} {pcs : List Nat}
  {C : CT} {cap : Nat × Nat} {K : Option Vv → Mem → Prop} {ls st : List Vv} {m : Mem} {uc us pc nx a : Nat} {H : Heap} {locs : List Loc} {lsC : Array Slot}
/-- the cell of an allocated object -/
theorem ST.cell {o : Id3} (T : ST B b L xs kd D s nL m0 ad0 ad H locs lsC ls st m) (h : alc m o) : okC D s ad m o H := (T.1.1 o h).2
theorem sx_getfield (X : CTX p s mm args c cc nL oc B b L xs kd D) {i k : Nat} {ty : List Nat} (hd : decode cc pc = .ok (.getfield i, 3)) (hf : pcs[nx]? = some (pc + 3)) (hk : fldL.any (fun e => Nat.beq e.1 oc && Nat.beq e.2.1 i && Nat.beq e.2.2.1 a && Nat.beq e.2.2.2.1 k && decide (ty = [e.2.2.2.2.1])) = true)
    (hs : stepE C cap (PW p l e R s mm args below meth c Q B b L xs kd D nL m0 ad0 pcs) K (eGet a k nx ty ls st m uc us)) (T : ST B b L xs kd D s nL m0 ad0 ad H locs lsC ls st m) : W p l e R s mm args below meth c H locs uc us Q (F0 mm pc lsC (st.map (cv ad))) := by
  obtain ⟨⟨oc', i', a', k', ty', pl, nest⟩, hin, hq⟩ := any_of hk
  simp only [Bool.and_eq_true, Nat.beq_eq, decide_eq_true_eq] at hq
  obtain ⟨⟨⟨⟨rfl, rfl⟩, rfl⟩, rfl⟩, rfl⟩ := hq
  have hok := all_at fldL_ok hin
  unfold chkF at hok
  simp only [Bool.and_eq_true, Bool.or_eq_true] at hok
  obtain ⟨⟨hlink, hkn⟩, hty⟩ := hok
  have hkn : k' < fN a' := Nat.le_of_ble_eq_true hkn
  unfold eGet at hs
  split at hs
  · rename_i o r
    split at hs
    · rename_i hsh
      have hsh : sh o = a' := Nat.eq_of_beq_eq_true hsh
      have hlv : live L m o := T.hd o rfl
      rcases hty with ⟨ha, hty⟩ | ⟨ha, hty⟩
      · have ha : a' < 8 := Nat.le_of_ble_eq_true ha
        have hty : ty' = tyC (tyT a' k') := Nat.eq_of_beq_eq_true hty
        have hal := live_alc hlv (by omega) (by omega)
        have hc := (T.cell hal).2.1 (by omega)
        rw [hsh] at hc
        have hP : va_P D clsT [(ad o, .inr (a', fvL ad m a' o))] H := fun k q hq => by
          rcases k with _ | k
          · cases hq; exact hc
          · simp at hq
        have hv : cv ad (rdF m o k' [ty']) = fv ad m a' o k' := by
          unfold fv
          rw [← hty]
          have h3 : ty' ≤ 2 := by
            rw [hty]; unfold tyC; split <;> omega
          rcases (show ty' = 0 ∨ ty' = 1 ∨ ty' = 2 by omega) with h | h | h <;> rw [h] <;> rfl
        have hvk : vok L m (rdF m o k' [ty']) := by
          have h3 : ty' ≤ 2 := by
            rw [hty]; unfold tyC; split <;> omega
          rcases (show ty' = 0 ∨ ty' = 1 ∨ ty' = 2 by omega) with h | h | h <;> rw [h]
          · exact vokI
          · exact vokL
          · intro r hr
            have : gR m o k' = some r := by
              have := Sum.inr.inj (Sum.inr.inj hr)
              exact Sum.inl.inj this
            exact T.1.2.2.1 o k' r this
        have g := hs _ hf ad H locs lsC (T.tl.ps hvk)
        rw [List.map_cons, hv] at g
        cases nest with
        | true => exact va_getN (ci := a') (ws := [(ad o, .inr (a', fvL ad m a' o))]) X.1 X.2.1 X.2.2.2.2.1 (lay_in ha) X.2.2.2.1 X.2.2.2.2.2.2.1 hP 0 rfl (clsT_at ha) k' hkn (X.2.2.2.2.2.1 _ (nw_in hlink)) (fun _ h9 => h9) (fvL_get hkn) hd g
        | false => exact va_get (ci := a') (ws := [(ad o, .inr (a', fvL ad m a' o))]) X.1 X.2.1 X.2.2.2.2.1 (lay_in ha) X.2.2.2.1 X.2.2.2.2.2.2.1 hP 0 rfl (clsT_at ha) k' hkn (X.2.2.2.2.1 _ (gw_in hlink)) (fun _ h9 => h9) (fvL_get hkn) hd g
      · have ha : a' = 8 := Nat.eq_of_beq_eq_true ha
        have hty : ty' = 3 := Nat.eq_of_beq_eq_true hty
        subst ha; subst hty
        obtain ⟨h1, h2, h3⟩ := live_kind hlv hsh
        obtain ⟨oa, ot, oi⟩ := o
        dsimp only at h1 h2 h3
        subst h1; subst h2
        have had : ad (0, 20, oi) = kd oi := T.1.2.2.2.2.1 oi
        have g := hs _ hf ad H locs lsC (T.tl.ps vokI)
        have hkn : k' < 3 := hkn
        show W p l e R s mm args below meth c H locs uc us Q (F0 mm pc lsC (.ref (ad (0, 20, oi)) :: r.map (cv ad)))
        rw [had]
        rw [List.map_cons] at g
        have hlk : nest = false ∧ (Cond.fieldLink (clsN oc') i' (kF k').1 (kF k').2.1 (kF k').2.2.1 ∈ gw) ∨ nest = true ∧ (Cond.fieldLinkNest (clsN oc') i' (kF k').1 (kF k').2.1 (kF k').2.2.1 "NoiseTithe" ∈ nw) := by
          cases nest with
          | true => exact Or.inr ⟨rfl, nw_in hlink⟩
          | false => exact Or.inl ⟨rfl, gw_in hlink⟩
        have hE := X.2.2.2.2.2.2.2.2.1
        have hval : cv ad (rdF m (0, 20, oi) k' [3]) = .int (((KFL.getD k' default).2.2.2).getD oi 0) := by
          rcases (show k' = 0 ∨ k' = 1 ∨ k' = 2 by omega) with rfl | rfl | rfl <;> rcases (show oi = 0 ∨ oi = 1 ∨ oi = 2 ∨ oi = 3 ∨ oi = 4 ∨ oi = 5 by omega) with rfl | rfl | rfl | rfl | rfl | rfl <;> rfl
        rw [hval] at g
        have hq : KFL.getD k' default ∈ KFL := by
          rcases (show k' = 0 ∨ k' = 1 ∨ k' = 2 by omega) with rfl | rfl | rfl <;> decide
        have hqe : (KFL.getD k' default).1 = (kF k').1 ∧ (KFL.getD k' default).2.1 = (kF k').2.1 ∧ (KFL.getD k' default).2.2.1 = (kF k').2.2.1 := by
          rcases (show k' = 0 ∨ k' = 1 ∨ k' = 2 by omega) with rfl | rfl | rfl <;> exact ⟨rfl, rfl, rfl⟩
        have hoi : oi < KN.length := h3
        obtain ⟨hZ, hO, hF⟩ := hE.1 oi hoi
        obtain ⟨cf, kk, ii, f, cell, w1, w2, w3, w4, w5, w6⟩ := hF _ hq
        have hcell : H[kd oi]? = some cell := by rw [T.2.1.2.1 _ (Array.getElem?_eq_some_iff.mp w3).1 w6]; exact w3
        rw [hqe.1, hqe.2.1, hqe.2.2] at w1
        rcases hlk with ⟨-, hl⟩ | ⟨-, hl⟩
        · exact W.getf X.1 X.2.1 X.2.2.2.1 (X.2.2.2.2.1 _ hl) w1 w2 hcell w4 w5 rfl rfl hd g
        · exact va_Wgetf X.1 X.2.1 X.2.2.2.1 (X.2.2.2.2.2.1 _ hl) w1 w2 hcell w4 w5 rfl rfl hd g
    · exact absurd hs id
  · exact absurd hs id
end SY
end
section
/-! THE STEPS that write fields and arrays. -/
theorem tyT_ref : ∀ a, a < 8 → ∀ k, k < fN a → tyC (tyT a k) = 2 → (tyT a k).isReference = true := by decide +kernel
theorem tyC_0 {t : FieldType} (h : tyC t = 0) : t = .int := by
  unfold tyC at h
  split at h
  · rfl
  · cases h
  · cases h
theorem tyC_1 {t : FieldType} (h : tyC t = 1) : t = .long := by
  unfold tyC at h
  split at h
  · cases h
  · rfl
  · cases h
theorem ref_narrow {t : FieldType} (h : t.isReference = true) (r : Option Nat) : narrow t (va_rf r) = va_rf r ∧ fits t (va_rf r) = true := by
  cases t <;> first | (exact absurd h (by decide)) | (cases r <;> exact ⟨rfl, rfl⟩)
theorem fvL_set {ad : Id3 → Nat} {m m' : Mem} {a k : Nat} {o : Id3} {v : Value} (h : ∀ j, j ≠ k → fv ad m' a o j = fv ad m a o j) (hk : fv ad m' a o k = v) : fvL ad m' a o = (fvL ad m a o).set k v := by
  refine List.ext_getElem? fun j => ?_
  rw [List.getElem?_set]
  by_cases hj : j < fN a
  · rw [fvL_get hj, fvL_get hj, fvL_len]
    by_cases e : k = j
    · subst e
      rw [if_pos rfl, if_pos hj, hk]
    · rw [if_neg e, h j (fun q => e q.symm)]
  · have h1 : (fvL ad m' a o)[j]? = none := List.getElem?_eq_none (by rw [fvL_len]; omega)
    have h2 : (fvL ad m a o)[j]? = none := List.getElem?_eq_none (by rw [fvL_len]; omega)
    rw [h1, h2, fvL_len]
    by_cases e : k = j
    · rw [if_pos e, if_neg (by omega)]
    · rw [if_neg e]
section SZ
variable {p : Program} {l : Launch} {e : Env} {R : Room} {s : State} {mm : MethodId} {args : Array Value} {below : List Frame} {meth : Method} {c : Code} {Q : State → Prop} {cc : ByteArray} {nL oc B b L : Nat} {xs : Nat → Int32} {kd : Nat → Nat} {D : va_G} {m0 : Mem} {ad0 ad : Id3 → Nat} {pcs : List Nat}
  {C : CT} {cap : Nat × Nat} {K : Option Vv → Mem → Prop} {ls st : List Vv} {m : Mem} {uc us pc nx a : Nat} {H : Heap} {locs : List Loc} {lsC : Array Slot}
/-- behind a write into one cell -/
theorem ST.wr {o : Id3} {m' : Mem} {H1 : Heap} {i : Nat} (T : ST B b L xs kd D s nL m0 ad0 ad H locs lsC ls st m) (ho : alc m o) (hc : m'.2.2.2 = m.2.2.2)
    (hoff : ∀ (o' : Id3) (k : Nat), o'.1 < 2 ∨ o'.1 = 2 → o' ≠ o → gI m' o' k = gI m o' k ∧ gL m' o' k = gL m o' k ∧ gR m' o' k = gR m o' k) (href : ∀ o' k r, gR m' o' k = some r → live L m r)
    (hz : H1.size = H.size) (hH : ∀ q : Nat, q ≠ ad o → H1[q]? = H[q]?) (hcell : okC D s ad m' o H1) : ST B b L xs kd D s nL m0 ad0 ad H1 (locs ++ [⟨ad o, i⟩]) lsC ls st m' := by
  obtain ⟨h1, h2, h3, h4, h5, h6⟩ := T
  exact ⟨h1.upd ho hc hoff href hH hcell, h2.put hz hH (h1.1 o ho).1, h3, fun v hv => vok_cnt hc (h4 v hv), fun v hv => vok_cnt hc (h5 v hv), fun x hx => ⟨(alc_cnt hc).mpr (h6 x hx).1, (h6 x hx).2⟩⟩
theorem put_core (X : CTX p s mm args c cc nL oc B b L xs kd D) {i k pl : Nat} {nest : Bool} (hd : decode cc pc = .ok (.putfield i, 3)) (ha : a < 8) (hkn : k < fN a)
    (hlink : (match nest with
      | true => inNw pl (.fieldLinkNest (clsN oc) i (fT a k).1 (fT a k).2.1 (fT a k).2.2.1 "NoiseTithe")
      | false => inTbl pl (.fieldLink (clsN oc) i (fT a k).1 (fT a k).2.1 (fT a k).2.2.1)) = true)
    (hfin : (fT a k).2.2.2 = false ∨ (meth.name = "<init>" ∧ nest = false ∧ (fT a k).1 = clsN oc)) {o : Id3} {m' : Mem} {r : List Vv} {v : Value} (hsh : sh o = a) (hal : alc m o) (T : ST B b L xs kd D s nL m0 ad0 ad H locs lsC ls r m)
    (hc : m'.2.2.2 = m.2.2.2) (hoff : ∀ (o' : Id3) (k : Nat), o'.1 < 2 ∨ o'.1 = 2 → o' ≠ o → gI m' o' k = gI m o' k ∧ gL m' o' k = gL m o' k ∧ gR m' o' k = gR m o' k) (href : ∀ o' k r, gR m' o' k = some r → live L m r)
    (hoth : ∀ j, j ≠ k → fv ad m' a o j = fv ad m a o j) (hthis : fv ad m' a o k = v) (hn : narrow (tyT a k) v = v) (hfit : fits (tyT a k) v = true)
    (g : ∀ (H1 : Heap) (locs1 : List Loc), ST B b L xs kd D s nL m0 ad0 ad H1 locs1 lsC ls r m' → W p l e R s mm args below meth c H1 locs1 uc us Q (F0 mm (pc + 3) lsC (r.map (cv ad)))) : W p l e R s mm args below meth c H locs uc us Q (F0 mm pc lsC (v :: .ref (ad o) :: r.map (cv ad))) := by
  obtain ⟨hx, hb, hml, hown, hts, hnw, hK, hB, hE, hXs, hbB⟩ := X
  have hcl := clsT_at ha
  have hap := va_apart (own := clsN oc) hts (lay_in ha) (tyT a) (tyT_ok ha) (nmT_ok ha) hK hcl
  have hcell := (T.cell hal).2.1 (by omega)
  rw [hsh] at hcell
  obtain ⟨r0, h1, cell, q1, q2, q3, q4⟩ := hcell
  have hr : r0 = (clsN a, (fun k => fT a k), fN a) := Option.some.inj (h1.symm.trans hcl)
  subst hr
  obtain ⟨hS, hfc, kC, hkC, hkind⟩ := hK.1 a _ hcl
  obtain ⟨cf, kf, fi, f, hi, hsl⟩ := hS k hkn
  have hst := (u_facts hfc hkC (u_lays hts (lay_in ha) hkn) hi).1
  have fin : ∀ H' : Heap, H'[ad o]? = some (cell.setSlot f.slot v) → H'.size = H.size → (∀ q, q ≠ ad o → H'[q]? = H[q]?) → W p l e R s mm args below meth c H' (locs ++ [⟨ad o, f.slot⟩]) uc us Q (F0 mm (pc + 3) lsC (r.map (cv ad))) := by
    intro H' e1 e2 e3
    refine g H' _ (T.wr hal hc hoff href e2 e3 ⟨⟨_, e1⟩, fun _ => ?_, fun q => by omega, fun q => by omega, fun q => by omega⟩)
    rw [hsl] at e1
    rw [hsh, fvL_set hoth hthis]
    exact ⟨_, hcl, t_OB.to (V := updV (vp_V (fvL ad m a o)) k v) ⟨_, e1, q2, q3, t_set q4 hap hkn v⟩ (fun j _ => vp_updV_set (by rw [fvL_len]; exact hkn) v j)⟩
  have hlt : f.slot < cell.slots.size := by rw [hsl]; exact k2_hasslot (q4 k hkn)
  have hlay := hts _ (lay_in ha _ (u_in_lay hkn))
  unfold u_lay at hlay
  by_cases hf : (fT a k).2.2.2 = false
  · rw [if_neg (by rw [hf]; decide)] at hlay
    have h6 := u_store hfc hkC hkind hlay hi (tyT_ok ha k hkn) hn hfit
    cases nest with
    | true => exact va_WputK hx hb hown (hnw _ (nw_in hlink)) hi hst (by rw [q2]; exact h6) q1 q3 hlt rfl rfl hd fin
    | false => exact W.putK hx hb (f := f) ⟨hown, hts _ (gw_in hlink), ⟨_, _, _, hi⟩, hst⟩ (by rw [q2]; exact h6) q1 q3 hlt rfl rfl hd fin
  · have hf1 : (fT a k).2.2.2 = true := by simpa using hf
    obtain ⟨hin2, rfl, hdecl⟩ := hfin.resolve_left hf
    rw [if_pos hf1] at hlay
    have hcf : mm.cls = cf := by
      obtain ⟨_, _, c', _, _, _, -, -, hf', -, -, -, hown2, -⟩ := Cond.laysFinal_spec hlay
      have e1 : c' = cf := by have := hi.symm.trans hf'; simp at this; exact this.1.symm
      rw [hdecl] at hown2
      rw [← e1]; exact Option.some.inj (hown.symm.trans hown2)
    have h6 := u_fits hfc hkC hkind (Or.inr hlay) hi (tyT_ok ha k hkn) hn hfit
    exact W.putFinK hx hb hown (hts _ (gw_in hlink)) hi hst hcf hin2 (by rw [q2]; exact h6) q1 q3 hlt rfl rfl hd fin
theorem sx_putfield (X : CTX p s mm args c cc nL oc B b L xs kd D) {i k : Nat} {ini : Bool} {ty : List Nat} (hini : ini = true → meth.name = "<init>") (hd : decode cc pc = .ok (.putfield i, 3)) (hf : pcs[nx]? = some (pc + 3)) (hk : fldL.any (fun e => Nat.beq e.1 oc && Nat.beq e.2.1 i && Nat.beq e.2.2.1 a && Nat.beq e.2.2.2.1 k && decide (ty = [e.2.2.2.2.1]) && (!(fT a k).2.2.2 || (ini && !e.2.2.2.2.2.2 && decide ((fT a k).1 = clsN oc)))) = true)
    (hs : stepE C cap (PW p l e R s mm args below meth c Q B b L xs kd D nL m0 ad0 pcs) K (ePut a k nx ty ls st m uc us)) (T : ST B b L xs kd D s nL m0 ad0 ad H locs lsC ls st m) : W p l e R s mm args below meth c H locs uc us Q (F0 mm pc lsC (st.map (cv ad))) := by
  obtain ⟨⟨oc', i', a', k', ty', pl, nest⟩, hin, hq⟩ := any_of hk
  simp only [Bool.and_eq_true, Nat.beq_eq, decide_eq_true_eq] at hq
  obtain ⟨⟨⟨⟨⟨rfl, rfl⟩, rfl⟩, rfl⟩, rfl⟩, hfin⟩ := hq
  have hok := all_at fldL_ok hin
  unfold chkF at hok
  simp only [Bool.and_eq_true, Bool.or_eq_true] at hok
  obtain ⟨⟨hlink, hkn⟩, hty⟩ := hok
  have hkn : k' < fN a' := Nat.le_of_ble_eq_true hkn
  have hfin2 : (fT a' k').2.2.2 = false ∨ (meth.name = "<init>" ∧ nest = false ∧ (fT a' k').1 = clsN oc') := by
    simp only [Bool.or_eq_true, Bool.and_eq_true, Bool.not_eq_true', decide_eq_true_eq] at hfin
    rcases hfin with h | ⟨⟨h1, h2⟩, h3⟩
    · exact Or.inl h
    · exact Or.inr ⟨hini h1, h2, h3⟩
  have hT8 : ty' ≤ 2 → a' < 8 ∧ ty' = tyC (tyT a' k') := by
    intro h
    rcases hty with ⟨h1, h2⟩ | ⟨h1, h2⟩
    · exact ⟨Nat.le_of_ble_eq_true h1, Nat.eq_of_beq_eq_true h2⟩
    · have := Nat.eq_of_beq_eq_true h2
      omega
  unfold ePut at hs
  split at hs
  · rename_i ts x o r hte
    cases hte
    split at hs
    · rename_i hsh
      have hsh : sh o = a' := Nat.eq_of_beq_eq_true hsh
      obtain ⟨ha, ht⟩ := hT8 (by omega)
      have hal : alc m o := live_alc (T.tl.hd o rfl) (by omega) (by omega)
      have hti := tyC_0 ht.symm
      refine put_core X hd ha hkn hlink hfin2 hsh hal T.tl.tl (m' := pI m o k' x) (v := .int x) (cnt_pI ..) (fun o' j ho' hne => ⟨by rw [gI_pI _ _ _ _ _ _ hal.1 ho', if_neg (fun q => hne q.1)], gL_pI .., gR_pI ..⟩) (fun o' j r hr => by rw [gR_pI] at hr; exact T.1.2.2.1 o' j r hr) (fun j hj => ?_) ?_ ?_ ?_ (fun H1 locs1 T1 => hs _ hf ad H1 locs1 lsC T1)
      · unfold fv
        rw [gI_pI _ _ _ _ _ _ hal.1 (Or.inl hal.1), if_neg (fun q => hj q.2), gL_pI, gR_pI]
      · unfold fv
        rw [← ht, gI_pI _ _ _ _ _ _ hal.1 (Or.inl hal.1), if_pos ⟨rfl, rfl⟩]
        try rfl
      · rw [hti]; rfl
      · rw [hti]; rfl
    · exact absurd hs id
  · rename_i ts x o r hte
    cases hte
    split at hs
    · rename_i hsh
      have hsh : sh o = a' := Nat.eq_of_beq_eq_true hsh
      obtain ⟨ha, ht⟩ := hT8 (by omega)
      have hal : alc m o := live_alc (T.tl.hd o rfl) (by omega) (by omega)
      have hti := tyC_1 ht.symm
      refine put_core X hd ha hkn hlink hfin2 hsh hal T.tl.tl (m' := pL m o k' x) (v := .long x) (cnt_pL ..) (fun o' j ho' hne => ⟨gI_pL .., by rw [gL_pL _ _ _ _ _ _ hal.1 ho', if_neg (fun q => hne q.1)], gR_pL ..⟩) (fun o' j r hr => by rw [gR_pL] at hr; exact T.1.2.2.1 o' j r hr) (fun j hj => ?_) ?_ ?_ ?_ (fun H1 locs1 T1 => hs _ hf ad H1 locs1 lsC T1)
      · unfold fv
        rw [gL_pL _ _ _ _ _ _ hal.1 (Or.inl hal.1), if_neg (fun q => hj q.2), gI_pL, gR_pL]
      · unfold fv
        rw [← ht, gL_pL _ _ _ _ _ _ hal.1 (Or.inl hal.1), if_pos ⟨rfl, rfl⟩]
        try rfl
      · rw [hti]; rfl
      · rw [hti]; rfl
    · exact absurd hs id
  · rename_i ts x o r hte
    cases hte
    split at hs
    · rename_i hsh
      have hsh : sh o = a' := Nat.eq_of_beq_eq_true hsh
      obtain ⟨ha, ht⟩ := hT8 (by omega)
      have hal : alc m o := live_alc (T.tl.hd o rfl) (by omega) (by omega)
      have hti := tyT_ref a' ha k' hkn ht.symm
      have hxl : ∀ y, x = some y → live L m y := fun y hy => T.hd y (by rw [hy])
      refine put_core X hd ha hkn hlink hfin2 hsh hal T.tl.tl (m' := pR m o k' x) (v := va_rf (x.map ad)) (cnt_pR ..) (fun o' j ho' hne => ⟨gI_pR .., gL_pR .., by rw [gR_pR _ _ _ _ _ _ hal.1 ho', if_neg (fun q => hne q.1)]⟩) (fun o' j r hr => ?_) (fun j hj => ?_) ?_ (ref_narrow hti _).1 (ref_narrow hti _).2 (fun H1 locs1 T1 => hs _ hf ad H1 locs1 lsC T1)
      · obtain ⟨a1, a2, a3⟩ := o'
        by_cases hb : a1 < 2 ∨ a1 = 2
        · rw [gR_pR _ _ _ _ _ _ hal.1 hb] at hr
          split at hr
          · exact hxl r hr
          · exact T.1.2.2.1 _ j r hr
        · have e1 : gR (pR m o k' x) (a1, a2, a3) j = gR (pR m o k' x) (2, a2, a3) j := by
            rcases a1 with _ | _ | a1
            · omega
            · omega
            · rfl
          rw [e1, gR_pR _ _ _ _ _ _ hal.1 (Or.inr rfl)] at hr
          split at hr
          · exact hxl r hr
          · exact T.1.2.2.1 _ j r hr
      · unfold fv
        rw [gR_pR _ _ _ _ _ _ hal.1 (Or.inl hal.1), if_neg (fun q => hj q.2), gI_pR, gL_pR]
      · unfold fv
        rw [← ht, gR_pR _ _ _ _ _ _ hal.1 (Or.inl hal.1), if_pos ⟨rfl, rfl⟩]
        try rfl
    · exact absurd hs id
  · exact absurd hs id
end SZ
end
section
/-! THE STEPS over arrays, and the small ones left. -/
theorem arv_rd {cA : ClassId} {N : Nat} {f : Nat → Value} {j : Nat} (h : j < N) : (arrV cA N f).slots[j]? = some (f j) := arrV_read _ _ h
theorem ref_of {a : Nat} (h : 22 ≤ a) (h2 : a ≤ 26) : (elT a).isReference = true := by
  rcases (show a = 22 ∨ a = 23 ∨ a = 24 ∨ a = 25 ∨ a = 26 by omega) with rfl | rfl | rfl | rfl | rfl <;> rfl
section TA
variable {p : Program} {l : Launch} {e : Env} {R : Room} {s : State} {mm : MethodId} {args : Array Value} {below : List Frame} {meth : Method} {c : Code} {Q : State → Prop} {cc : ByteArray} {nL oc B b L : Nat} {xs : Nat → Int32} {kd : Nat → Nat} {D : va_G} {m0 : Mem} {ad0 ad : Id3 → Nat} {pcs : List Nat}
  {C : CT} {cap : Nat × Nat} {K : Option Vv → Mem → Prop} {ls st : List Vv} {m : Mem} {uc us pc nx a : Nat} {H : Heap} {locs : List Loc} {lsC : Array Slot}
theorem sx_iaload (X : CTX p s mm args c cc nL oc B b L xs kd D) (hd : decode cc pc = .ok (.iaload, 1)) (hf : pcs[nx]? = some (pc + 1))
    (hs : stepE C cap (PW p l e R s mm args below meth c Q B b L xs kd D nL m0 ad0 pcs) K (eIald nx ls st m uc us)) (T : ST B b L xs kd D s nL m0 ad0 ad H locs lsC ls st m) : W p l e R s mm args below meth c H locs uc us Q (F0 mm pc lsC (st.map (cv ad))) := by
  unfold eIald at hs
  split at hs
  · rename_i j o r
    split at hs
    · rename_i hsh
      simp only [Bool.or_eq_true, Nat.beq_eq] at hsh
      have g := hs.2 _ hf ad H locs lsC (T.tl.tl.ps vokI)
      have hlt : j.toNatClampNeg < ln o := Nat.not_le.mp fun q => hs.1 (Or.inr q)
      have hlv : live L m o := T.tl.hd o rfl
      rcases hsh with h20 | h30
      · have hal := live_alc hlv (by omega) (by omega)
        obtain ⟨cA, hA, hc⟩ := (T.cell hal).2.2.1 h20
        exact W.iald (v := .int (gI m o j.toNatClampNeg)) X.1 X.2.1 hc (hA _ _) (fun q => by cases q) (by rw [arrV_size]; exact hs.1) (arv_rd hlt) rfl rfl hd g
      · have ho := live_scr hlv h30
        subst ho
        have hb : ad (2, 0, L) = b := T.1.2.2.2.2.2.1
        have hX := X.2.2.2.2.2.2.2.2.2.1
        have hbl : b < s.heap.size := Nat.lt_of_lt_of_le X.2.2.2.2.2.2.2.2.2.2 X.2.2.2.2.2.2.2.1
        rw [List.map_cons] at g
        have hv : cv ad (vi (gI m (2, 0, L) j.toNatClampNeg)) = .int (xs j.toNatClampNeg) := congrArg Value.int (T.1.2.2.2.2.2.2 _)
        rw [hv] at g
        have hin : vp_in j L := hs.1
        show W p l e R s mm args below meth c H locs uc us Q (F0 mm pc lsC (.int j :: .ref (ad (2, 0, L)) :: r.map (cv ad)))
        rw [hb]
        exact va_sld X.1 X.2.1 hX hbl (fun q : B ≤ b => absurd X.2.2.2.2.2.2.2.2.2.2 (Nat.not_lt.mpr q)) T.2.1 hin hd g
    · exact absurd hs id
  · exact absurd hs id
theorem sx_baload (X : CTX p s mm args c cc nL oc B b L xs kd D) (hd : decode cc pc = .ok (.baload, 1)) (hf : pcs[nx]? = some (pc + 1))
    (hs : stepE C cap (PW p l e R s mm args below meth c Q B b L xs kd D nL m0 ad0 pcs) K (eZald nx ls st m uc us)) (T : ST B b L xs kd D s nL m0 ad0 ad H locs lsC ls st m) : W p l e R s mm args below meth c H locs uc us Q (F0 mm pc lsC (st.map (cv ad))) := by
  unfold eZald at hs
  split at hs
  · rename_i j o r
    split at hs
    · rename_i hsh
      simp only [Nat.beq_eq] at hsh
      have g := hs.2 _ hf ad H locs lsC (T.tl.tl.ps vokI)
      have hlt : j.toNatClampNeg < ln o := Nat.not_le.mp fun q => hs.1 (Or.inr q)
      have hal := live_alc (T.tl.hd o rfl) (by omega) (by omega)
      obtain ⟨cA, hA, hc⟩ := (T.cell hal).2.2.2.1 hsh
      exact W.zald (v := .int (gI m o j.toNatClampNeg)) X.1 X.2.1 hc (hA _ _) (fun q => by cases q) (by rw [arrV_size]; exact hs.1) (arv_rd hlt) rfl rfl hd g
    · exact absurd hs id
  · exact absurd hs id
theorem sx_aaload (X : CTX p s mm args c cc nL oc B b L xs kd D) (hd : decode cc pc = .ok (.aaload, 1)) (hf : pcs[nx]? = some (pc + 1))
    (hs : stepE C cap (PW p l e R s mm args below meth c Q B b L xs kd D nL m0 ad0 pcs) K (eAald nx ls st m uc us)) (T : ST B b L xs kd D s nL m0 ad0 ad H locs lsC ls st m) : W p l e R s mm args below meth c H locs uc us Q (F0 mm pc lsC (st.map (cv ad))) := by
  unfold eAald at hs
  split at hs
  · rename_i j o r
    split at hs
    · rename_i hsh
      simp only [Bool.and_eq_true] at hsh
      have h22 : 22 ≤ sh o := Nat.le_of_ble_eq_true hsh.1
      have h26 : sh o ≤ 26 := Nat.le_of_ble_eq_true hsh.2
      have g := hs.2 _ hf ad H locs lsC (T.tl.tl.ps (fun r hr => T.1.2.2.1 o _ r (Sum.inl.inj (Sum.inr.inj (Sum.inr.inj hr)))))
      have hlt : j.toNatClampNeg < ln o := Nat.not_le.mp fun q => hs.1 (Or.inr q)
      have hal := live_alc (T.tl.hd o rfl) (by omega) (by omega)
      obtain ⟨cA, hA, hA2, hc⟩ := (T.cell hal).2.2.2.2 h22 h26
      exact W.aald (v := va_rf ((gR m o j.toNatClampNeg).map ad)) (ty := elT (sh o)) X.1 X.2.1 hc (hA _ _) (ref_of h22 h26) (fun q => by cases q) (by rw [arrV_size]; exact hs.1) (arv_rd hlt) rfl rfl hd g
    · exact absurd hs id
  · exact absurd hs id
theorem sx_iastore (X : CTX p s mm args c cc nL oc B b L xs kd D) (hd : decode cc pc = .ok (.iastore, 1)) (hf : pcs[nx]? = some (pc + 1))
    (hs : stepE C cap (PW p l e R s mm args below meth c Q B b L xs kd D nL m0 ad0 pcs) K (eIast nx ls st m uc us)) (T : ST B b L xs kd D s nL m0 ad0 ad H locs lsC ls st m) : W p l e R s mm args below meth c H locs uc us Q (F0 mm pc lsC (st.map (cv ad))) := by
  unfold eIast at hs
  split at hs
  · rename_i x j o r
    split at hs
    · rename_i hsh
      simp only [Nat.beq_eq] at hsh
      have hal := live_alc (T.tl.tl.hd o rfl) (by omega) (by omega)
      obtain ⟨cA, hA, hc⟩ := (T.cell hal).2.2.1 hsh
      refine W.iast X.1 X.2.1 hc (hA _ _) (fun q => by cases q) (by rw [arrV_size]; exact hs.1) rfl rfl hd fun H1 e1 z oq => ?_
      refine hs.2 _ hf ad H1 _ lsC (T.tl.tl.tl.wr hal (cnt_pI ..) (fun o' k ho' hne => ⟨by rw [gI_pI _ _ _ _ _ _ hal.1 ho', if_neg (fun q => hne q.1)], gL_pI .., gR_pI ..⟩) (fun o' k r hr => by rw [gR_pI] at hr; exact T.1.2.2.1 o' k r hr) z oq ⟨⟨_, e1⟩, fun q => by omega, fun _ => ⟨cA, hA, ?_⟩, fun q => by omega, fun q => by omega⟩)
      rw [e1, arrV_store]
      congr 2
      funext k
      unfold updV
      rw [gI_pI _ _ _ _ _ _ hal.1 (Or.inl hal.1)]
      by_cases hk : k = j.toNatClampNeg
      · rw [if_pos hk, if_pos ⟨rfl, hk⟩]
      · rw [if_neg hk, if_neg (fun q => hk q.2)]
    · exact absurd hs id
  · exact absurd hs id
theorem sx_bastore (X : CTX p s mm args c cc nL oc B b L xs kd D) (hd : decode cc pc = .ok (.bastore, 1)) (hf : pcs[nx]? = some (pc + 1))
    (hs : stepE C cap (PW p l e R s mm args below meth c Q B b L xs kd D nL m0 ad0 pcs) K (eZast nx ls st m uc us)) (T : ST B b L xs kd D s nL m0 ad0 ad H locs lsC ls st m) : W p l e R s mm args below meth c H locs uc us Q (F0 mm pc lsC (st.map (cv ad))) := by
  unfold eZast at hs
  split at hs
  · rename_i x j o r
    split at hs
    · rename_i hsh
      simp only [Nat.beq_eq] at hsh
      have hal := live_alc (T.tl.tl.hd o rfl) (by omega) (by omega)
      obtain ⟨cA, hA, hc⟩ := (T.cell hal).2.2.2.1 hsh
      have hnar : narrow .boolean (.int x) = .int x := by rcases hs.1.2 with rfl | rfl <;> rfl
      refine W.zast X.1 X.2.1 hc (hA _ _) (fun q => by cases q) (by rw [arrV_size]; exact hs.1.1) rfl rfl hd fun H1 e1 z oq => ?_
      rw [hnar] at e1
      refine hs.2 _ hf ad H1 _ lsC (T.tl.tl.tl.wr hal (cnt_pI ..) (fun o' k ho' hne => ⟨by rw [gI_pI _ _ _ _ _ _ hal.1 ho', if_neg (fun q => hne q.1)], gL_pI .., gR_pI ..⟩) (fun o' k r hr => by rw [gR_pI] at hr; exact T.1.2.2.1 o' k r hr) z oq ⟨⟨_, e1⟩, fun q => by omega, fun q => by omega, fun _ => ⟨cA, hA, ?_⟩, fun q => by omega⟩)
      rw [e1, arrV_store]
      congr 2
      funext k
      unfold updV
      rw [gI_pI _ _ _ _ _ _ hal.1 (Or.inl hal.1)]
      by_cases hk : k = j.toNatClampNeg
      · rw [if_pos hk, if_pos ⟨rfl, hk⟩]
      · rw [if_neg hk, if_neg (fun q => hk q.2)]
    · exact absurd hs id
  · exact absurd hs id
theorem gR_pR_all {m : Mem} {o : Id3} {k : Nat} {x : Option Id3} {o' : Id3} {j : Nat} {y : Id3} {P : Id3 → Prop} (ho : o.1 < 2) (hr : gR (pR m o k x) o' j = some y) (h1 : x = some y → P y) (h2 : ∀ o'' j', gR m o'' j' = some y → P y) : P y := by
  obtain ⟨a1, a2, a3⟩ := o'
  by_cases hb : a1 < 2 ∨ a1 = 2
  · rw [gR_pR _ _ _ _ _ _ ho hb] at hr
    split at hr
    · exact h1 hr
    · exact h2 _ _ hr
  · have e1 : gR (pR m o k x) (a1, a2, a3) j = gR (pR m o k x) (2, a2, a3) j := by
      rcases a1 with _ | _ | a1
      · omega
      · omega
      · rfl
    rw [e1, gR_pR _ _ _ _ _ _ ho (Or.inr rfl)] at hr
    split at hr
    · exact h1 hr
    · exact h2 _ _ hr
theorem sx_aastore (X : CTX p s mm args c cc nL oc B b L xs kd D) (hd : decode cc pc = .ok (.aastore, 1)) (hf : pcs[nx]? = some (pc + 1))
    (hs : stepE C cap (PW p l e R s mm args below meth c Q B b L xs kd D nL m0 ad0 pcs) K (eAast nx ls st m uc us)) (T : ST B b L xs kd D s nL m0 ad0 ad H locs lsC ls st m) : W p l e R s mm args below meth c H locs uc us Q (F0 mm pc lsC (st.map (cv ad))) := by
  unfold eAast at hs
  split at hs
  · rename_i x j o r
    split at hs
    · rename_i hsh
      simp only [Nat.beq_eq] at hsh
      have hlx : live L m x := T.hd x rfl
      have hlo : live L m o := T.tl.tl.hd o rfl
      have hel : sh o = 22 ∨ sh o = 23 ∨ sh o = 24 ∨ sh o = 25 := by
        by_cases h : sh o = 22 ∨ sh o = 23 ∨ sh o = 24 ∨ sh o = 25
        · exact h
        · have h98 : sh x = 98 := by
            rw [hsh]
            unfold elS
            split <;> first | (exfalso; omega) | rfl
          exfalso
          obtain ⟨xa, xt, xi⟩ := x
          unfold sh at h98
          split at h98
          · unfold sh0 at h98
            split at h98 <;> exact absurd h98 (by decide)
          · unfold sh1 at h98
            split at h98 <;> exact absurd h98 (by decide)
          · exact absurd h98 (by decide)
      have hax : sh x < 8 := by
        rw [hsh]
        rcases hel with h | h | h | h <;> rw [h] <;> decide
      have hty : elT (sh o) = .object (clsN (sh x)) := by
        rw [hsh]
        rcases hel with h | h | h | h <;> rw [h] <;> rfl
      have halo := live_alc hlo (by omega) (by omega)
      have halx := live_alc hlx (by omega) (by omega)
      obtain ⟨cA, hA, hA2, hc⟩ := (T.cell halo).2.2.2.2 (by omega) (by omega)
      rw [hty] at hA hA2
      obtain ⟨r', hr', cellV, g1, g2, g3, -⟩ := (T.cell halx).2.1 hax
      have hr0 : r' = (clsN (sh x), (fun k => fT (sh x) k), fN (sh x)) := Option.some.inj (hr'.symm.trans (clsT_at hax))
      subst hr0
      have hcls := (X.2.2.2.2.2.2.1.1 _ _ (clsT_at hax)).2
      have hA3 := hA2
      obtain ⟨kA, comp, k1, k2, k3, -⟩ := hA2
      have hcomp : comp = D.1 (sh x) := Option.some.inj (k3.symm.trans hcls.1)
      subst hcomp
      obtain ⟨kC, hkC, -⟩ := hcls.2
      have h0 : ¬ j < 0 := fun q => hs.1 (Or.inl q)
      have hlt : j.toNatClampNeg < ln o := Nat.not_le.mp fun q => hs.1 (Or.inr q)
      refine W.aast X.1 X.2.1 hc (fun q h => by cases h) (fun h => by cases h) k1 k2 rfl hkC ⟨h0, by rw [arrV_size]; exact hlt⟩ g1 (fun q h => by rw [g3] at h; cases h) (by rw [g2]; exact hkC) (by rw [g2]; exact va_assign hcls) rfl rfl hd fun H1 e1 z oq => ?_
      refine hs.2 _ hf ad H1 _ lsC (T.tl.tl.tl.wr halo (cnt_pR ..) (fun o' k ho' hne => ⟨gI_pR .., gL_pR .., by rw [gR_pR _ _ _ _ _ _ halo.1 ho', if_neg (fun q => hne q.1)]⟩) (fun o' k y hr => gR_pR_all halo.1 hr (fun q => by cases q; exact hlx) (fun o'' j' q => T.1.2.2.1 o'' j' y q)) z oq ⟨⟨_, e1⟩, fun q => by omega, fun q => by omega, fun q => by omega, fun _ _ => ⟨cA, by rw [hty]; exact hA, by rw [hty]; exact hA3, ?_⟩⟩)
      rw [e1, arrV_store]
      congr 2
      funext k
      unfold updV
      rw [gR_pR _ _ _ _ _ _ halo.1 (Or.inl halo.1)]
      by_cases hk : k = j.toNatClampNeg
      · rw [if_pos hk, if_pos ⟨rfl, hk⟩]; rfl
      · rw [if_neg hk, if_neg (fun q => hk q.2)]
    · exact absurd hs id
  · exact absurd hs id
theorem sx_arraylength (X : CTX p s mm args c cc nL oc B b L xs kd D) (hd : decode cc pc = .ok (.arraylength, 1)) (hf : pcs[nx]? = some (pc + 1))
    (hs : stepE C cap (PW p l e R s mm args below meth c Q B b L xs kd D nL m0 ad0 pcs) K (eLen nx ls st m uc us)) (T : ST B b L xs kd D s nL m0 ad0 ad H locs lsC ls st m) : W p l e R s mm args below meth c H locs uc us Q (F0 mm pc lsC (st.map (cv ad))) := by
  unfold eLen at hs
  split at hs
  · rename_i o r
    split at hs
    · rename_i hsh
      simp only [Bool.and_eq_true] at hsh
      have h20 : 20 ≤ sh o := Nat.le_of_ble_eq_true hsh.1
      have h30 : sh o ≤ 30 := Nat.le_of_ble_eq_true hsh.2
      have g := hs _ hf ad H locs lsC (T.tl.ps vokI)
      have hlv : live L m o := T.hd o rfl
      have fin : ∀ {cA : ClassId} {f : Nat → Value} {ty : FieldType}, ArrOfT s cA ty → H[ad o]? = some (arrV cA (ln o) f) → W p l e R s mm args below meth c H locs uc us Q (F0 mm pc lsC (.ref (ad o) :: r.map (cv ad))) := by
        intro cA f ty hA hc
        exact W.alen X.1 X.2.1 hc (hA _ _) (n := nI (ln o)) (by rw [arrV_size]; rfl) rfl rfl hd g
      by_cases hs30 : sh o = 30
      · have ho := live_scr hlv hs30
        subst ho
        have hb : ad (2, 0, L) = b := T.1.2.2.2.2.2.1
        have hX := X.2.2.2.2.2.2.2.2.2.1
        have hbl : b < s.heap.size := Nat.lt_of_lt_of_le X.2.2.2.2.2.2.2.2.2.2 X.2.2.2.2.2.2.2.1
        show W p l e R s mm args below meth c H locs uc us Q (F0 mm pc lsC (.ref (ad (2, 0, L)) :: r.map (cv ad)))
        rw [hb]
        exact va_slen X.1 X.2.1 hX hbl (fun q : B ≤ b => absurd X.2.2.2.2.2.2.2.2.2.2 (Nat.not_lt.mpr q)) T.2.1 hd g
      · have hal := live_alc hlv (by omega) hs30
        by_cases h1 : sh o = 20
        · obtain ⟨cA, hA, hc⟩ := (T.cell hal).2.2.1 h1
          exact fin hA hc
        · by_cases h2 : sh o = 21
          · obtain ⟨cA, hA, hc⟩ := (T.cell hal).2.2.2.1 h2
            exact fin hA hc
          · have h26 : sh o ≤ 26 := by
              obtain ⟨oa, ot, oi⟩ := o
              have := hal.1
              dsimp only at this
              rcases (show oa = 0 ∨ oa = 1 by omega) with rfl | rfl
              · show sh0 ot ≤ 26
                have hh : sh0 ot ≤ 30 := h30
                unfold sh0 at hh ⊢
                split at hh <;> first | decide | (exact absurd hh (by decide))
              · show sh1 ot ≤ 26
                unfold sh1
                split <;> decide
            obtain ⟨cA, hA, hA2, hc⟩ := (T.cell hal).2.2.2.2 (by omega) h26
            exact fin hA hc
    · exact absurd hs id
  · exact absurd hs id
theorem sx_dup (X : CTX p s mm args c cc nL oc B b L xs kd D) (hd : decode cc pc = .ok (.dup, 1)) (hf : pcs[nx]? = some (pc + 1))
    (hs : stepE C cap (PW p l e R s mm args below meth c Q B b L xs kd D nL m0 ad0 pcs) K (eDup nx ls st m uc us)) (T : ST B b L xs kd D s nL m0 ad0 ad H locs lsC ls st m) : W p l e R s mm args below meth c H locs uc us Q (F0 mm pc lsC (st.map (cv ad))) := by
  unfold eDup at hs
  split at hs
  · rename_i v r
    split at hs
    · rename_i hc
      exact lv_dup X.1 X.2.1 hd (by rw [cv_cat]; exact hc) (hs _ hf ad H locs lsC (T.ps T.hd))
    · exact absurd hs id
  · exact absurd hs id
theorem sx_pop (X : CTX p s mm args c cc nL oc B b L xs kd D) (hd : decode cc pc = .ok (.pop, 1)) (hf : pcs[nx]? = some (pc + 1))
    (hs : stepE C cap (PW p l e R s mm args below meth c Q B b L xs kd D nL m0 ad0 pcs) K (ePop nx ls st m uc us)) (T : ST B b L xs kd D s nL m0 ad0 ad H locs lsC ls st m) : W p l e R s mm args below meth c H locs uc us Q (F0 mm pc lsC (st.map (cv ad))) := by
  unfold ePop at hs
  split at hs
  · rename_i v r
    split at hs
    · rename_i hc
      exact lv_pop X.1 X.2.1 hd (by rw [cv_cat]; exact hc) (hs _ hf ad H locs lsC T.tl)
    · exact absurd hs id
  · exact absurd hs id
theorem sx_dup2 (X : CTX p s mm args c cc nL oc B b L xs kd D) (hd : decode cc pc = .ok (.dup2, 1)) (hf : pcs[nx]? = some (pc + 1))
    (hs : stepE C cap (PW p l e R s mm args below meth c Q B b L xs kd D nL m0 ad0 pcs) K (eDup2 nx ls st m uc us)) (T : ST B b L xs kd D s nL m0 ad0 ad H locs lsC ls st m) : W p l e R s mm args below meth c H locs uc us Q (F0 mm pc lsC (st.map (cv ad))) := by
  unfold eDup2 at hs
  split at hs
  · rename_i v w r
    split at hs
    · rename_i h1 h2
      exact lv_dup2_11 X.1 X.2.1 hd (by rw [cv_cat]; exact h1) (by rw [cv_cat]; exact h2) (hs _ hf ad H locs lsC ((T.ps T.tl.hd).ps T.hd))
    · exact absurd hs id
  · exact absurd hs id
theorem sx_ifnull (X : CTX p s mm args c cc nL oc B b L xs kd D) {off : Int} {tgt : Nat} (ht : (pc : Int) + off = (tgt : Int)) (hj : pcs[a]? = some tgt) (hd : decode cc pc = .ok (.ifnull off, 3)) (hf : pcs[nx]? = some (pc + 3))
    (hs : stepE C cap (PW p l e R s mm args below meth c Q B b L xs kd D nL m0 ad0 pcs) K (eNu ls a nx st m uc us)) (T : ST B b L xs kd D s nL m0 ad0 ad H locs lsC ls st m) : W p l e R s mm args below meth c H locs uc us Q (F0 mm pc lsC (st.map (cv ad))) := by
  unfold eNu at hs
  split at hs
  · exact lv_ifnullN X.1 X.2.1 hd ht (hs _ hj ad H locs lsC T.tl)
  · exact lv_ifnull X.1 X.2.1 hd (hs _ hf ad H locs lsC T.tl)
  · exact absurd hs id
theorem sx_ifnonnull (X : CTX p s mm args c cc nL oc B b L xs kd D) {off : Int} {tgt : Nat} (ht : (pc : Int) + off = (tgt : Int)) (hj : pcs[a]? = some tgt) (hd : decode cc pc = .ok (.ifnonnull off, 3)) (hf : pcs[nx]? = some (pc + 3))
    (hs : stepE C cap (PW p l e R s mm args below meth c Q B b L xs kd D nL m0 ad0 pcs) K (eNu ls nx a st m uc us)) (T : ST B b L xs kd D s nL m0 ad0 ad H locs lsC ls st m) : W p l e R s mm args below meth c H locs uc us Q (F0 mm pc lsC (st.map (cv ad))) := by
  unfold eNu at hs
  split at hs
  · exact lv_ifnonnullN X.1 X.2.1 hd (hs _ hf ad H locs lsC T.tl)
  · exact lv_ifnonnull X.1 X.2.1 hd ht (hs _ hj ad H locs lsC T.tl)
  · exact absurd hs id
theorem kd_inj (X : CTX p s mm args c cc nL oc B b L xs kd D) {x y : Id3} (T : ST B b L xs kd D s nL m0 ad0 ad H locs lsC ls st m) (hx : live L m x) (hy : live L m y) (h1 : sh x = 8) (h2 : sh y = 8) : some (ad x) = some (ad y) ↔ x = y := by
  refine ⟨fun h => ?_, fun h => by rw [h]⟩
  have h := Option.some.inj h
  obtain ⟨a1, a2, a3⟩ := live_kind hx h1
  obtain ⟨b1, b2, b3⟩ := live_kind hy h2
  obtain ⟨xa, xt, xi⟩ := x
  obtain ⟨ya, yt, yi⟩ := y
  dsimp only at a1 a2 a3 b1 b2 b3
  subst a1; subst a2; subst b1; subst b2
  rw [T.1.2.2.2.2.1, T.1.2.2.2.2.1] at h
  have := X.2.2.2.2.2.2.2.2.1.2 xi yi a3 b3 h
  rw [this]
theorem sx_acmp_eq (X : CTX p s mm args c cc nL oc B b L xs kd D) {off : Int} {tgt : Nat} (ht : (pc : Int) + off = (tgt : Int)) (hj : pcs[a]? = some tgt) (hd : decode cc pc = .ok (.if_acmp .eq off, 3)) (hf : pcs[nx]? = some (pc + 3))
    (hs : stepE C cap (PW p l e R s mm args below meth c Q B b L xs kd D nL m0 ad0 pcs) K (eAc ls a nx st m uc us)) (T : ST B b L xs kd D s nL m0 ad0 ad H locs lsC ls st m) : W p l e R s mm args below meth c H locs uc us Q (F0 mm pc lsC (st.map (cv ad))) := by
  unfold eAc at hs
  split at hs
  · rename_i y x r
    split at hs
    · rename_i hsh
      simp only [Bool.and_eq_true, Nat.beq_eq] at hsh
      have hi := kd_inj X T (T.tl.hd x rfl) (T.hd y rfl) hsh.1 hsh.2
      have e1 : (some x = some y) ↔ x = y := ⟨fun h => Option.some.inj h, fun h => by rw [h]⟩
      exact lv_acmp_eq (rx := some (ad x)) (ry := some (ad y)) X.1 X.2.1 hd ht (fun q => hs.1 (hi.mp q) _ hj ad H locs lsC T.tl.tl) (fun q => hs.2 (fun z => q (hi.mpr z)) _ hf ad H locs lsC T.tl.tl)
    · exact absurd hs id
  · exact absurd hs id
theorem sx_acmp_ne (X : CTX p s mm args c cc nL oc B b L xs kd D) {off : Int} {tgt : Nat} (ht : (pc : Int) + off = (tgt : Int)) (hj : pcs[a]? = some tgt) (hd : decode cc pc = .ok (.if_acmp .ne off, 3)) (hf : pcs[nx]? = some (pc + 3))
    (hs : stepE C cap (PW p l e R s mm args below meth c Q B b L xs kd D nL m0 ad0 pcs) K (eAc ls nx a st m uc us)) (T : ST B b L xs kd D s nL m0 ad0 ad H locs lsC ls st m) : W p l e R s mm args below meth c H locs uc us Q (F0 mm pc lsC (st.map (cv ad))) := by
  unfold eAc at hs
  split at hs
  · rename_i y x r
    split at hs
    · rename_i hsh
      simp only [Bool.and_eq_true, Nat.beq_eq] at hsh
      have hi := kd_inj X T (T.tl.hd x rfl) (T.hd y rfl) hsh.1 hsh.2
      exact lv_acmp_ne (rx := some (ad x)) (ry := some (ad y)) X.1 X.2.1 hd ht (fun q => hs.2 (fun z => q (hi.mpr z)) _ hj ad H locs lsC T.tl.tl) (fun q => hs.1 (hi.mp q) _ hf ad H locs lsC T.tl.tl)
    · exact absurd hs id
  · exact absurd hs id
end TA
end
section
/-! THE STEPS that make cells; constants, switches, the library's own. -/
theorem ln_le {o : Id3} (h : o.1 < 2) : ln o ≤ 1740 := by
  obtain ⟨a, t, i⟩ := o
  have h : a < 2 := h
  rcases (show a = 0 ∨ a = 1 by omega) with rfl | rfl
  · show ln0 t i ≤ 1740
    unfold ln0
    split <;> first | decide | (split <;> decide)
  · show ln1 t ≤ 1740
    unfold ln1
    split <;> decide
theorem default_ref {t : FieldType} (h : t.isReference = true) : defaultValue t = .null := by
  cases t <;> first | (exact absurd h (by decide)) | rfl
theorem kN_at {k : Nat} (h : k < 6) : KN.getD k "" = kN k := by
  rcases (show k = 0 ∨ k = 1 ∨ k = 2 ∨ k = 3 ∨ k = 4 ∨ k = 5 by omega) with rfl | rfl | rfl | rfl | rfl | rfl <;> rfl
section TB
variable {p : Program} {l : Launch} {e : Env} {R : Room} {s : State} {mm : MethodId} {args : Array Value} {below : List Frame} {meth : Method} {c : Code} {Q : State → Prop} {cc : ByteArray} {nL oc B b L : Nat} {xs : Nat → Int32} {kd : Nat → Nat} {D : va_G} {m0 : Mem} {ad0 ad : Id3 → Nat} {pcs : List Nat}
  {C : CT} {cap : Nat × Nat} {K : Option Vv → Mem → Prop} {ls st : List Vv} {m : Mem} {uc us pc nx a : Nat} {H : Heap} {locs : List Loc} {lsC : Array Slot}
theorem sx_con (X : CTX p s mm args c cc nL oc B b L xs kd D) {i : Nat} {v : Vv} (hk : conL.any (fun e => Nat.beq e.1 oc && Nat.beq e.2.1 i && decide (e.2.2.1 = v)) = true) : (∀ x, v = .inl x → (Jvm.Cond.constant (clsN oc) i x).before args s = true) ∧ (∀ x, v = .inr (.inl x) → (Jvm.Cond.constantLong (clsN oc) i x).before args s = true) := by
  obtain ⟨⟨oc', i', v', pl⟩, hin, hq⟩ := any_of hk
  simp only [Bool.and_eq_true, Nat.beq_eq, decide_eq_true_eq] at hq
  obtain ⟨⟨rfl, rfl⟩, rfl⟩ := hq
  have hok := all_at conL_ok hin
  refine ⟨fun x hx => ?_, fun x hx => ?_⟩
  · subst hx
    exact X.2.2.2.2.1 _ (gw_in hok)
  · subst hx
    exact X.2.2.2.2.1 _ (gw_in hok)
theorem sx_ldc (X : CTX p s mm args c cc nL oc B b L xs kd D) {i : Nat} {x : Int32} (hk : conL.any (fun e => Nat.beq e.1 oc && Nat.beq e.2.1 i && decide (e.2.2.1 = vi x)) = true) (hd : decode cc pc = .ok (.ldc i, 2)) (hf : pcs[nx]? = some (pc + 2))
    (hs : stepE C cap (PW p l e R s mm args below meth c Q B b L xs kd D nL m0 ad0 pcs) K (eP (nx, ls, vi x :: st, m, uc, us))) (T : ST B b L xs kd D s nL m0 ad0 ad H locs lsC ls st m) : W p l e R s mm args below meth c H locs uc us Q (F0 mm pc lsC (st.map (cv ad))) :=
  lv_ldc X.1 X.2.1 X.2.2.2.1 ((sx_con X hk).1 x rfl) hd (hs _ hf ad H locs lsC (T.ps vokI))
theorem sx_ldcw (X : CTX p s mm args c cc nL oc B b L xs kd D) {i : Nat} {x : Int32} (hk : conL.any (fun e => Nat.beq e.1 oc && Nat.beq e.2.1 i && decide (e.2.2.1 = vi x)) = true) (hd : decode cc pc = .ok (.ldc_w i, 3)) (hf : pcs[nx]? = some (pc + 3))
    (hs : stepE C cap (PW p l e R s mm args below meth c Q B b L xs kd D nL m0 ad0 pcs) K (eP (nx, ls, vi x :: st, m, uc, us))) (T : ST B b L xs kd D s nL m0 ad0 ad H locs lsC ls st m) : W p l e R s mm args below meth c H locs uc us Q (F0 mm pc lsC (st.map (cv ad))) :=
  lv_ldcw X.1 X.2.1 X.2.2.2.1 ((sx_con X hk).1 x rfl) hd (hs _ hf ad H locs lsC (T.ps vokI))
theorem sx_ldc2 (X : CTX p s mm args c cc nL oc B b L xs kd D) {i : Nat} {x : Int64} (hk : conL.any (fun e => Nat.beq e.1 oc && Nat.beq e.2.1 i && decide (e.2.2.1 = vl x)) = true) (hd : decode cc pc = .ok (.ldc2_w i, 3)) (hf : pcs[nx]? = some (pc + 3))
    (hs : stepE C cap (PW p l e R s mm args below meth c Q B b L xs kd D nL m0 ad0 pcs) K (eP (nx, ls, vl x :: st, m, uc, us))) (T : ST B b L xs kd D s nL m0 ad0 ad H locs lsC ls st m) : W p l e R s mm args below meth c H locs uc us Q (F0 mm pc lsC (st.map (cv ad))) :=
  lv_ldc2 X.1 X.2.1 X.2.2.2.1 ((sx_con X hk).2 x rfl) hd (hs _ hf ad H locs lsC (T.ps vokL))
theorem sx_getstatic (X : CTX p s mm args c cc nL oc B b L xs kd D) {i : Nat} (hk : staL.any (fun e => Nat.beq e.1 oc && Nat.beq e.2.1 i && Nat.beq e.2.2.1 a) = true) (hd : decode cc pc = .ok (.getstatic i, 3)) (hf : pcs[nx]? = some (pc + 3))
    (hs : stepE C cap (PW p l e R s mm args below meth c Q B b L xs kd D nL m0 ad0 pcs) K (eP (nx, ls, vo 0 20 a :: st, m, uc, us))) (T : ST B b L xs kd D s nL m0 ad0 ad H locs lsC ls st m) : W p l e R s mm args below meth c H locs uc us Q (F0 mm pc lsC (st.map (cv ad))) := by
  obtain ⟨⟨oc', i', a', pl⟩, hin, hq⟩ := any_of hk
  simp only [Bool.and_eq_true, Nat.beq_eq] at hq
  obtain ⟨⟨rfl, rfl⟩, rfl⟩ := hq
  have hok := all_at staL_ok hin
  unfold chkS at hok
  simp only [Bool.and_eq_true] at hok
  have h6 : a' < 6 := Nat.le_of_ble_eq_true hok.2
  have hlv : live L m (0, 20, a') := Or.inr (Or.inl ⟨rfl, rfl, h6⟩)
  have g := hs _ hf ad H locs lsC (T.ps (fun r hr => by cases hr; exact hlv))
  rw [List.map_cons] at g
  have hv : cv ad (vo 0 20 a') = .ref (kd a') := congrArg Value.ref (T.1.2.2.2.2.1 a')
  rw [hv] at g
  have hZ := (X.2.2.2.2.2.2.2.2.1.1 a' h6).1
  rw [kN_at h6] at hZ
  exact va_gets X.1 X.2.1 hZ T.2.1 X.2.2.2.1 (X.2.2.2.2.1 _ (gw_in hok.1)) (fun _ h9 => h9) hd g
theorem foS_at {P : PT} : ∀ {l : List (Prop × St)} {q : Prop} {s : St}, foS P l → (q, s) ∈ l → q → P s.1 s.2.1 s.2.2.1 s.2.2.2.1 s.2.2.2.2.1 s.2.2.2.2.2
  | (q', s') :: r, q, s, h, hm, hq => by
    rcases List.mem_cons.mp hm with e | e
    · cases e
      exact h.1 hq
    · exact foS_at h.2 e hq
theorem eSw_at {x : Int32} {ls st : List Vv} {m : Mem} {uc us : Nat} : ∀ {ts : List Nat} {n j t : Nat}, ts[j]? = some t → (x = nI (n + j), (t, ls, st, m, uc, us)) ∈ eSw x n ts ls st m uc us
  | t' :: r, n, 0, t, h => by
    simp only [List.getElem?_cons_zero, Option.some.injEq] at h
    subst h
    exact List.mem_cons_self
  | t' :: r, n, j + 1, t, h => by
    simp only [List.getElem?_cons_succ] at h
    have := eSw_at (x := x) (ls := ls) (st := st) (m := m) (uc := uc) (us := us) (n := n + 1) h
    rw [show n + 1 + j = n + (j + 1) by omega] at this
    exact List.mem_cons_of_mem _ this
theorem jmp_of {pcs : List Nat} {a pc : Nat} {off : Int} (h : jmp pcs a pc off = true) : ∃ q : Nat, pcs[a]? = some q ∧ (pc : Int) + off = (q : Int) := by
  unfold jmp at h
  split at h
  · rename_i q hq
    exact ⟨q, hq, of_decide_eq_true h⟩
  · cases h
theorem sx_table (X : CTX p s mm args c cc nL oc B b L xs kd D) {b' n : Nat} {d lo hi : Int} {offs : Array Int} {ts : List Nat} (hd : decode cc pc = .ok (.tableswitch d lo hi offs, n)) (h1 : jmp pcs a pc d = true) (h2 : lo = (b' : Int)) (h3 : hi + 1 = (b' : Int) + ts.length) (h4 : offs.size = ts.length) (h5 : (ts.zip offs.toList).all (fun e => jmp pcs e.1 pc e.2) = true) (h6 : b' + ts.length < 1000)
    (hs : stepE C cap (PW p l e R s mm args below meth c Q B b L xs kd D nL m0 ad0 pcs) K (eTab a b' ts ls st m uc us)) (T : ST B b L xs kd D s nL m0 ad0 ad H locs lsC ls st m) : W p l e R s mm args below meth c H locs uc us Q (F0 mm pc lsC (st.map (cv ad))) := by
  unfold eTab at hs
  split at hs
  · rename_i x r
    have hs : foS (PW p l e R s mm args below meth c Q B b L xs kd D nL m0 ad0 pcs) ((x < nI b' ∨ nI (b' + ts.length) ≤ x, a, ls, r, m, uc, us) :: eSw x b' ts ls r m uc us) := hs
    by_cases ho : x < nI b' ∨ nI (b' + ts.length) ≤ x
    · obtain ⟨q, hq, ht⟩ := jmp_of h1
      refine lv_tableOut X.1 X.2.1 hd ?_ ht (hs.1 ho _ hq ad H locs lsC T.tl)
      rw [Int32.lt_iff_toInt_lt, Int32.le_iff_toInt_le, nI_toInt (by omega), nI_toInt (by omega)] at ho
      rw [h2]
      rcases ho with g | g
      · exact Or.inl g
      · right
        have : ((b' + ts.length : Nat) : Int) = (b' : Int) + ts.length := Int.natCast_add ..
        omega
    · rw [Int32.lt_iff_toInt_lt, Int32.le_iff_toInt_le, nI_toInt (by omega), nI_toInt (by omega)] at ho
      have hlo : (b' : Int) ≤ x.toInt := by omega
      have hhi : x.toInt < (b' : Int) + ts.length := by
        have : ((b' + ts.length : Nat) : Int) = (b' : Int) + ts.length := Int.natCast_add ..
        omega
      obtain ⟨j, hj⟩ : ∃ j : Nat, x.toInt = (b' : Int) + j := ⟨(x.toInt - b').toNat, by omega⟩
      have hjl : j < ts.length := by omega
      have hx : x = nI (b' + j) := Int32.toInt_inj.mp (by rw [nI_toInt (by omega), hj, Int.natCast_add])
      have hto : offs.toList[j]? = some (offs.toList[j]'(by rw [Array.length_toList]; omega)) := List.getElem?_eq_getElem _
      have htt : ts[j]? = some (ts[j]'hjl) := List.getElem?_eq_getElem _
      generalize hv : offs.toList[j]'(by rw [Array.length_toList]; omega) = off at hto
      generalize hw : ts[j]'hjl = t at htt
      have hz : (t, off) ∈ ts.zip offs.toList := List.mem_of_getElem? (i := j) (by rw [List.getElem?_zip_eq_some]; exact ⟨htt, hto⟩)
      obtain ⟨q, hq, ht⟩ := jmp_of (all_at h5 hz)
      refine lv_tableIn X.1 X.2.1 hd (off := off) (by rw [h2]; omega) (by omega) ?_ ht (foS_at hs (List.mem_cons_of_mem _ (eSw_at htt)) hx _ hq ad H locs lsC T.tl)
      rw [h2, hj, show ((b' : Int) + (j : Int) - (b' : Int)).toNat = j by omega, ← Array.getElem?_toList]
      exact hto
  · exact absurd hs id
/-- behind the making of a cell -/
theorem ST.new {t sd' : Nat} {H1 : Heap} (X : CTX p s mm args c cc nL oc B b L xs kd D) (T : ST B b L xs kd D s nL m0 ad0 ad H locs lsC ls st m) (hs : sd' < 2) (ht : ¬ (sd' = 0 ∧ t = 20)) (hz : H1.size = H.size + 1) (hH : ∀ q : Nat, q < H.size → H1[q]? = H[q]?)
    (hcell : ∀ ad' : Id3 → Nat, ad' (sd', t, m.2.2.2 sd' t) = H.size → okC D s ad' (al m sd' t 1) (sd', t, m.2.2.2 sd' t) H1) :
    ∃ ad' : Id3 → Nat, ad' (sd', t, m.2.2.2 sd' t) = H.size ∧ ST B b L xs kd D s nL m0 ad0 ad' H1 locs lsC ls (vo sd' t (m.2.2.2 sd' t) :: st) (al m sd' t 1) ∧ st.map (cv ad') = st.map (cv ad) := by
  obtain ⟨h1, h2, h3, h4, h5, h6⟩ := T
  have hB : B ≤ H.size := Nat.le_trans X.2.2.2.2.2.2.2.1 h2.1
  refine ⟨fun x => if x = (sd', t, m.2.2.2 sd' t) then H.size else ad x, if_pos rfl, ?_, ?_⟩
  · obtain ⟨g1, g2⟩ := h1.new (ad' := fun x => if x = (sd', t, m.2.2.2 sd' t) then H.size else ad x) hs ht (fun x hx => if_neg hx) (if_pos rfl) hB hH (hcell _ (if_pos rfl))
    refine ⟨g1, ⟨by rw [hz]; exact Nat.le_succ_of_le h2.1, fun q q1 q2 => (hH q (Nat.lt_of_lt_of_le q1 h2.1)).trans (h2.2.1 q q1 q2), h2.2.2⟩, h3.ext g2 h4, fun v hv => vok_al (h4 v hv), fun v hv => ?_, fun o ho => ⟨alc_al (h6 o ho).1, (g2 o (Or.inl (h6 o ho).1)).trans (h6 o ho).2⟩⟩
    rcases List.mem_cons.mp hv with rfl | hv
    · intro r hr
      cases hr
      exact Or.inl (al_new hs ht ⟨rfl, rfl, Nat.le_refl _, Nat.lt_succ_self _⟩)
    · exact vok_al (h5 v hv)
  · have hn : ∀ x, live L m x → (fun x => if x = (sd', t, m.2.2.2 sd' t) then H.size else ad x) x = ad x := by
      intro x hx
      refine if_neg fun e => ?_
      subst e
      rcases hx with g | ⟨g1, g2, -⟩ | g
      · exact absurd g.2.2 (Nat.lt_irrefl _)
      · exact ht ⟨g1, g2⟩
      · have : sd' = 2 := congrArg Prod.fst g
        omega
    exact cvs_ext hn h5
theorem fresh0 (T : ST B b L xs kd D s nL m0 ad0 ad H locs lsC ls st m) {sd' t : Nat} (hs : sd' < 2) (k : Nat) : gI m (sd', t, m.2.2.2 sd' t) k = 0 ∧ gL m (sd', t, m.2.2.2 sd' t) k = 0 ∧ gR m (sd', t, m.2.2.2 sd' t) k = none :=
  T.1.2.2.2.1 _ hs (fun q => absurd q.2.2 (Nat.lt_irrefl _)) k
theorem okTag_of {a b : Nat} (h : okTag a b = true) : a < 2 ∧ ¬ (a = 0 ∧ b = 20) := by
  unfold okTag at h
  simp only [Bool.and_eq_true, Bool.not_eq_true', Bool.and_eq_false_iff] at h
  refine ⟨Nat.le_of_ble_eq_true h.1, fun q => ?_⟩
  rcases h.2 with g | g
  · rw [q.1] at g; cases g
  · rw [q.2] at g; cases g
theorem sx_new (X : CTX p s mm args c cc nL oc B b L xs kd D) {i t : Nat} {ts : List Nat} (hcap : cap.1 ≤ R.cells ∧ cap.2 ≤ R.slots) (hk : newL.any (fun e => Nat.beq e.1 oc && Nat.beq e.2.1 i && Nat.beq e.2.2.1 (sh (a, t, 0))) = true) (htag : okTag a t = true) (hts : ts = [fN (sh (a, t, 0))]) (hd : decode cc pc = .ok (.new i, 3)) (hf : pcs[nx]? = some (pc + 3))
    (hs : stepE C cap (PW p l e R s mm args below meth c Q B b L xs kd D nL m0 ad0 pcs) K (eNew cap a t nx (ts.getD 0 0) ls st m uc us)) (T : ST B b L xs kd D s nL m0 ad0 ad H locs lsC ls st m) : W p l e R s mm args below meth c H locs uc us Q (F0 mm pc lsC (st.map (cv ad))) := by
  obtain ⟨⟨oc', i', a', pl⟩, hin, hq⟩ := any_of hk
  simp only [Bool.and_eq_true, Nat.beq_eq] at hq
  obtain ⟨⟨rfl, rfl⟩, hq⟩ := hq
  have hok := all_at newL_ok hin
  unfold chkN at hok
  simp only [Bool.and_eq_true] at hok
  have h8 : a' < 8 := Nat.le_of_ble_eq_true hok.2
  obtain ⟨hs2, ht⟩ := okTag_of htag
  have hq : a' = sh (a, t, 0) := hq
  have hsh : sh (a, t, m.2.2.2 a t) = a' := by rw [hq]; exact sh_tag
  have hcl := clsT_at h8
  have hKn := X.2.2.2.2.2.2.1.1 _ _ hcl
  unfold eNew at hs
  subst hts
  have hn : ([fN (sh (a, t, 0))].getD 0 0) = fN a' := by rw [hq]; rfl
  rw [hn] at hs
  obtain ⟨⟨hs1, hs3⟩, hs4⟩ := hs
  refine W.newcK X.1 X.2.1 X.2.2.2.1 (X.2.2.2.2.1 _ (gw_in hok.1)) (X.2.2.2.2.1 _ (ins_in h8).1) (X.2.2.2.2.1 _ (ins_in h8).2) rfl hd (Nat.le_trans hs1 hcap.1) (Nat.le_trans hs3 hcap.2) hKn.2.1 rfl fun H1 kC hkC e1 z1 o1 => ?_
  obtain ⟨ad', w1, w2, w3⟩ := T.new (H1 := H1) X hs2 ht z1 o1 (fun ad' h9 => ⟨⟨_, by rw [h9]; exact e1⟩, fun _ => by
    rw [hsh]
    refine ⟨_, hcl, ?_⟩
    show t_OB (ad' (a, t, m.2.2.2 a t)) (D.1 a') (fN a') (D.2 a') H1 (vp_V (fvL ad' (al m a t 1) a' (a, t, m.2.2.2 a t)))
    rw [h9]
    refine (u_born (tyT a') X.2.2.2.2.1 (lay_in h8) hKn hkC e1 (tyT_ok h8)).to fun j hj => ?_
    unfold vp_V
    rw [List.getD_eq_getElem?_getD, fvL_get hj]
    show defaultValue (tyT a' j) = fv ad' (al m a t 1) a' (a, t, m.2.2.2 a t) j
    obtain ⟨f1, f2, f3⟩ := fresh0 T (t := t) hs2 j
    have h3 : tyC (tyT a' j) ≤ 2 := by unfold tyC; split <;> omega
    unfold fv
    rw [gI_al, gL_al, gR_al, f1, f2, f3]
    rcases (show tyC (tyT a' j) = 0 ∨ tyC (tyT a' j) = 1 ∨ tyC (tyT a' j) = 2 by omega) with h | h | h
    · rw [h, tyC_0 h]; rfl
    · rw [h, tyC_1 h]; rfl
    · rw [h, default_ref (tyT_ref _ h8 _ hj h)]; rfl, fun q => by omega, fun q => by omega, fun q => by omega⟩)
  have g := hs4 _ hf ad' H1 locs lsC w2
  rw [List.map_cons, w3] at g
  have hv : cv ad' (vo a t (m.2.2.2 a t)) = .ref H.size := congrArg Value.ref w1
  rw [hv] at g
  exact g
theorem sx_newarray (X : CTX p s mm args c cc nL oc B b L xs kd D) {t : Nat} {ty : ArrayType} (hcap : cap.1 ≤ R.cells ∧ cap.2 ≤ R.slots) (htag : okTag a t = true) (hty : (ty = .int ∧ sh (a, t, 0) = 20) ∨ (ty = .boolean ∧ sh (a, t, 0) = 21)) (hd : decode cc pc = .ok (.newarray ty, 2)) (hf : pcs[nx]? = some (pc + 2))
    (hs : stepE C cap (PW p l e R s mm args below meth c Q B b L xs kd D nL m0 ad0 pcs) K (eArr cap a t nx ls st m uc us)) (T : ST B b L xs kd D s nL m0 ad0 ad H locs lsC ls st m) : W p l e R s mm args below meth c H locs uc us Q (F0 mm pc lsC (st.map (cv ad))) := by
  obtain ⟨hs2, ht⟩ := okTag_of htag
  have hw := mulA_ok
  simp only [Bool.and_eq_true] at hw
  unfold eArr at hs
  split at hs
  · rename_i n r
    obtain ⟨⟨hn, hs1, hs3⟩, hs4⟩ := hs
    have hle : ln (a, t, m.2.2.2 a t) ≤ 1740 := ln_le hs2
    have hneg : ¬ n < 0 := by rw [hn]; exact nI_pos (by omega)
    have hcl : n.toNatClampNeg = ln (a, t, m.2.2.2 a t) := by rw [hn]; exact nI_clamp (by omega)
    have harr : (Cond.arrayClass (newarray.typeOf ty)).before args s = true := by
      rcases hty with ⟨rfl, -⟩ | ⟨rfl, -⟩
      · exact X.2.2.2.2.1 _ (gw_in hw.1.2)
      · exact X.2.2.2.2.1 _ (gw_in hw.2)
    refine W.newaK X.1 X.2.1 harr rfl hd rfl hneg hcl (by rcases hty with ⟨rfl, -⟩ | ⟨rfl, -⟩ <;> simp only [newarray.typeOf, componentBytes] <;> omega) (Nat.le_trans hs1 hcap.1) (Nat.le_trans hs3 hcap.2) rfl fun H1 cA e1 z1 o1 hAr => ?_
    obtain ⟨ad', w1, w2, w3⟩ := T.tl.new (H1 := H1) X hs2 ht z1 o1 (fun ad' h9 => by
      have hsh : sh (a, t, m.2.2.2 a t) = sh (a, t, 0) := sh_tag
      have hc0 : H1[ad' (a, t, m.2.2.2 a t)]? = some (arrV cA (ln (a, t, m.2.2.2 a t)) (fun k => .int (gI (al m a t 1) (a, t, m.2.2.2 a t) k))) := by
        rw [h9, e1]
        congr 2
        funext k
        rw [gI_al, (fresh0 T (t := t) hs2 k).1]
        rcases hty with ⟨rfl, -⟩ | ⟨rfl, -⟩ <;> rfl
      rcases hty with ⟨rfl, hx⟩ | ⟨rfl, hx⟩
      · exact ⟨⟨_, hc0⟩, fun q => by omega, fun q => ⟨cA, hAr, hc0⟩, fun q => by omega, fun q => by omega⟩
      · exact ⟨⟨_, hc0⟩, fun q => by omega, fun q => by omega, fun q => ⟨cA, hAr, hc0⟩, fun q => by omega⟩)
    have g := hs4 _ hf ad' H1 locs lsC w2
    rw [List.map_cons, w3] at g
    have hv : cv ad' (vo a t (m.2.2.2 a t)) = .ref H.size := congrArg Value.ref w1
    rw [hv] at g
    exact g
  · exact absurd hs id
theorem sx_anewarray (X : CTX p s mm args c cc nL oc B b L xs kd D) {i t : Nat} (hcap : cap.1 ≤ R.cells ∧ cap.2 ≤ R.slots) (hk : arrL.any (fun e => Nat.beq e.1 oc && Nat.beq e.2.1 i && Nat.beq e.2.2.1 (sh (a, t, 0))) = true) (htag : okTag a t = true) (hd : decode cc pc = .ok (.anewarray i, 3)) (hf : pcs[nx]? = some (pc + 3))
    (hs : stepE C cap (PW p l e R s mm args below meth c Q B b L xs kd D nL m0 ad0 pcs) K (eArr cap a t nx ls st m uc us)) (T : ST B b L xs kd D s nL m0 ad0 ad H locs lsC ls st m) : W p l e R s mm args below meth c H locs uc us Q (F0 mm pc lsC (st.map (cv ad))) := by
  obtain ⟨⟨oc', i', a', pl, ql⟩, hin, hq⟩ := any_of hk
  simp only [Bool.and_eq_true, Nat.beq_eq] at hq
  obtain ⟨⟨rfl, rfl⟩, hq⟩ := hq
  have hok := all_at arrL_ok hin
  unfold chkA at hok
  simp only [Bool.and_eq_true] at hok
  obtain ⟨⟨⟨hl1, hl2⟩, h22⟩, h25⟩ := hok
  have h22 : 22 ≤ a' := Nat.le_of_ble_eq_true h22
  have h25 : a' ≤ 25 := Nat.le_of_ble_eq_true h25
  obtain ⟨hs2, ht⟩ := okTag_of htag
  have hq : a' = sh (a, t, 0) := hq
  have hsh : sh (a, t, m.2.2.2 a t) = a' := by rw [hq]; exact sh_tag
  have hel : elT a' = .object (clsN (elS a')) := by
    rcases (show a' = 22 ∨ a' = 23 ∨ a' = 24 ∨ a' = 25 by omega) with h | h | h | h <;> rw [h] <;> rfl
  unfold eArr at hs
  split at hs
  · rename_i n r
    obtain ⟨⟨hn, hs1, hs3⟩, hs4⟩ := hs
    have hle : ln (a, t, m.2.2.2 a t) ≤ 1740 := ln_le hs2
    have hneg : ¬ n < 0 := by rw [hn]; exact nI_pos (by omega)
    have hcl : n.toNatClampNeg = ln (a, t, m.2.2.2 a t) := by rw [hn]; exact nI_clamp (by omega)
    refine W.anew X.1 X.2.1 X.2.2.2.1 (X.2.2.2.2.1 _ (gw_in hl1)) (X.2.2.2.2.2.1 _ (nw_in hl2)) rfl hd rfl hneg (by rw [hcl]; omega) (Nat.le_trans hs1 hcap.1) (by rw [hcl]; exact Nat.le_trans hs3 hcap.2) fun cA kA comp f1 f2 f3 f4 => ?_
    rw [hcl]
    generalize hH1 : H.push ({ cls := cA, slots := Array.replicate (ln (a, t, m.2.2.2 a t)) .null, vm := .none } : Cell) = H1
    have z1 : H1.size = H.size + 1 := by rw [← hH1, Array.size_push]
    have e1 : H1[H.size]? = some (arrV cA (ln (a, t, m.2.2.2 a t)) (fun _ => .null)) := by rw [← hH1, Array.getElem?_push_size, ← arrV_new]
    have o1 : ∀ q : Nat, q < H.size → H1[q]? = H[q]? := fun q hq => by rw [← hH1, Array.getElem?_push, if_neg (Nat.ne_of_lt hq)]
    have hAr : ArrOfT s cA (.object (clsN (elS a'))) := fun N z => ⟨(fun k h => by cases h), kA, f2, comp, f3⟩
    obtain ⟨ad', w1, w2, w3⟩ := T.tl.new (H1 := H1) X hs2 ht z1 o1 (fun ad' h9 => by
      have hc0 : H1[ad' (a, t, m.2.2.2 a t)]? = some (arrV cA (ln (a, t, m.2.2.2 a t)) (fun k => va_rf ((gR (al m a t 1) (a, t, m.2.2.2 a t) k).map ad'))) := by
        rw [h9, e1]
        congr 2
        funext k
        rw [gR_al, (fresh0 T (t := t) hs2 k).2.2]
        rfl
      exact ⟨⟨_, hc0⟩, fun q => by omega, fun q => by omega, fun q => by omega, fun _ _ => ⟨cA, by rw [hsh, hel]; exact hAr, by rw [hsh, hel]; exact ⟨kA, comp, f2, f3, f4, f1⟩, hc0⟩⟩)
    have g := hs4 _ hf ad' H1 locs lsC w2
    rw [List.map_cons, w3] at g
    have hv : cv ad' (vo a t (m.2.2.2 a t)) = .ref H.size := congrArg Value.ref w1
    rw [hv] at g
    exact g
  · exact absurd hs id
end TB
end
section
/-! THE STEP multianewarray; the library's own methods. -/
theorem nu_outer (cA : ClassId) (N h0 : Nat) : ∀ i : Nat, Jvm.Free.Multi.outerC cA N h0 i = arrV cA N (fun j => va_rf (if j < i then some (h0 + 1 + j) else none))
  | 0 => by
    show ({ cls := cA, slots := Array.replicate N .null, vm := .none } : Cell) = _
    rw [arrV_new]
    refine congrArg (arrV cA N) (funext fun j => ?_)
    simp [va_rf]
  | i + 1 => by
    show (Jvm.Free.Multi.outerC cA N h0 i).setSlot i (.ref (h0 + 1 + i)) = _
    rw [nu_outer cA N h0 i, arrV_store]
    refine congrArg (arrV cA N) (funext fun j => ?_)
    by_cases e : j = i
    · subst e
      simp [updV, va_rf]
    · by_cases h : j < i
      · simp [updV, e, h, Nat.lt_succ_of_lt h]
      · simp [updV, e, h, show ¬ j < i + 1 by omega]
theorem gI_rws (m : Mem) (o : Id3) (t i n : Nat) (o' : Id3) (k : Nat) : gI (rws m o t i n) o' k = gI m o' k := by
  obtain ⟨a, t', i'⟩ := o
  obtain ⟨a', t2, i2⟩ := o'
  rcases a with _ | _ | a <;> rcases a' with _ | _ | a' <;> rfl
theorem gL_rws (m : Mem) (o : Id3) (t i n : Nat) (o' : Id3) (k : Nat) : gL (rws m o t i n) o' k = gL m o' k := by
  obtain ⟨a, t', i'⟩ := o
  obtain ⟨a', t2, i2⟩ := o'
  rcases a with _ | _ | a <;> rcases a' with _ | _ | a' <;> rfl
theorem gR_rws0 (m : Mem) (t0 i0 t i n : Nat) (o' : Id3) (k : Nat) : gR (rws m (0, t0, i0) t i n) o' k = if o' = (0, t0, i0) then (if k < n then some (0, t, i + k) else none) else gR m o' k := by
  obtain ⟨a', t2, i2⟩ := o'
  rcases a' with _ | _ | a'
  · simp [gR, rws, sS, sd, Prod.ext_iff]
  · simp [gR, rws, sS, sd, Prod.ext_iff]
  · have h : ¬ ((a' + 1 + 1, t2, i2) : Id3) = (0, t0, i0) := fun q => by simp at q
    rw [if_neg h]
    rfl
theorem cnt_rws (m : Mem) (o : Id3) (t i n : Nat) : (rws m o t i n).2.2.2 = m.2.2.2 := by
  obtain ⟨a, t', i'⟩ := o
  rcases a with _ | _ | a <;> rfl
section TC
variable {p : Program} {l : Launch} {e : Env} {R : Room} {s : State} {mm : MethodId} {args : Array Value} {below : List Frame} {meth : Method} {c : Code} {Q : State → Prop} {cc : ByteArray} {nL oc B b L : Nat} {xs : Nat → Int32} {kd : Nat → Nat} {D : va_G} {m0 : Mem} {ad0 ad : Id3 → Nat} {pcs : List Nat}
  {C : CT} {cap : Nat × Nat} {K : Option Vv → Mem → Prop} {ls st : List Vv} {m : Mem} {uc us pc nx a : Nat} {H : Heap} {locs : List Loc} {lsC : Array Slot}
theorem sx_multi (X : CTX p s mm args c cc nL oc B b L xs kd D) (hcap : cap.1 ≤ R.cells ∧ cap.2 ≤ R.slots) (hoc : oc = 5) (hd : decode cc pc = .ok (.multianewarray 23 2, 4)) (hf : pcs[nx]? = some (pc + 4))
    (hs : stepE C cap (PW p l e R s mm args below meth c Q B b L xs kd D nL m0 ad0 pcs) K (eMul cap 0 12 nx 13 ls st m uc us)) (T : ST B b L xs kd D s nL m0 ad0 ad H locs lsC ls st m) : W p l e R s mm args below meth c H locs uc us Q (F0 mm pc lsC (st.map (cv ad))) := by
  have hw := mulA_ok
  simp only [Bool.and_eq_true] at hw
  obtain ⟨⟨⟨w1, w2⟩, w3⟩, -⟩ := hw
  unfold eMul at hs
  split at hs
  · rename_i k n r
    obtain ⟨⟨rfl, rfl, hc1, hc2⟩, g⟩ := hs
    have e8 : (8 : Int32).toNatClampNeg = 8 := by decide
    subst hoc
    have z2 : (0 : Nat) < 2 := by decide
    have n12 : ¬ (12 : Nat) = 20 := by decide
    have n13 : ¬ (13 : Nat) = 20 := by decide
    intro T0 hT0 Xs
    obtain ⟨vm₁, cA, comp, -, fA, fC, hO, hI, X', step⟩ := Xs.multianewarray2F X.1 X.2.2.2.1 (X.2.2.2.2.1 _ (gw_in w1)) (X.2.2.2.2.2.1 _ (nw_in w2)) (X.2.2.2.2.1 _ (gw_in w3)) (g := F0 mm pc lsC (.int 8 :: .int 8 :: r.map (cv ad))) rfl (by rw [X.2.1]; exact hd) rfl (by decide) (by decide) (by decide) (by decide) (by decide) rfl rfl (by rw [e8]; omega) (by rw [e8]; omega)
    rw [e8] at X' step
    have hTh : (T0.setVm vm₁).heap = H := hT0
    generalize hF : Jvm.Free.Multi.fill (T0.setVm vm₁) cA comp 8 8 (defaultValue .int) 8 = F at X' step
    obtain ⟨f1, f2, -, -⟩ := Jvm.Free.Multi.fill_facts (T0.setVm vm₁) cA comp 8 8 (defaultValue .int) 8
    rw [hF, hTh] at f1 f2
    have hold : ∀ x : Nat, x < H.size → F.heap[x]? = H[x]? := fun x hx => by
      have := Jvm.Free.Multi.fill_old (T0.setVm vm₁) cA comp 8 8 (defaultValue .int) (a := x) (by rw [hTh]; exact hx) 8
      rw [hF, hTh] at this
      exact this
    have hrow : ∀ j : Nat, j < 8 → F.heap[H.size + 1 + j]? = some (arrV comp 8 (fun _ => .int 0)) := fun j hj => by
      have := Jvm.Free.Multi.fill_inner (T0.setVm vm₁) cA comp 8 8 (defaultValue .int) 8 j hj
      rw [hF, hTh] at this
      rw [this, ← arrV_new]
      rfl
    rw [nu_outer] at f2
    have hArO : ArrOfT s cA (.array .int) := fun N9 z9 => by
      obtain ⟨-, k9, hk9, cm9, hkk9⟩ := (hO 0 0 0).1
      exact ⟨(fun q hq => by cases hq), k9, hk9, cm9, hkk9⟩
    have hArI : ArrOfT s comp .int := fun N9 z9 => by
      obtain ⟨-, k9, hk9, cm9, hkk9⟩ := (hI 0 .null).1
      exact ⟨(fun q hq => by cases hq), k9, hk9, cm9, hkk9⟩
    obtain ⟨h1, h2, h3, h4, h5, h6⟩ := T.tl.tl
    have hB : B ≤ H.size := Nat.le_trans X.2.2.2.2.2.2.2.1 h2.1
    generalize hm' : al (al (rws m (0, 12, m.2.2.2 0 12) 13 (m.2.2.2 0 13) 8) 0 12 1) 0 13 8 = m' at g
    have cI : ∀ o k, gI m' o k = gI m o k := fun o k => by rw [← hm', gI_al, gI_al, gI_rws]
    have cL : ∀ o k, gL m' o k = gL m o k := fun o k => by rw [← hm', gL_al, gL_al, gL_rws]
    have cR : ∀ o k, gR m' o k = if o = (0, 12, m.2.2.2 0 12) then (if k < 8 then some (0, 13, m.2.2.2 0 13 + k) else none) else gR m o k := fun o k => by rw [← hm', gR_al, gR_al, gR_rws0]
    generalize hNew : (fun x : Id3 => x = (0, 12, m.2.2.2 0 12) ∨ (x.1 = 0 ∧ x.2.1 = 13 ∧ m.2.2.2 0 13 ≤ x.2.2 ∧ x.2.2 < m.2.2.2 0 13 + 8)) = New
    have hN : ∀ x, New x ↔ (x = (0, 12, m.2.2.2 0 12) ∨ (x.1 = 0 ∧ x.2.1 = 13 ∧ m.2.2.2 0 13 ≤ x.2.2 ∧ x.2.2 < m.2.2.2 0 13 + 8)) := fun x => by rw [← hNew]
    have hcnt : ∀ s t, m'.2.2.2 s t = if s = 0 ∧ t = 13 then m.2.2.2 0 13 + 8 else if s = 0 ∧ t = 12 then m.2.2.2 0 12 + 1 else m.2.2.2 s t := fun s t => by
      rw [← hm']
      show (if s = 0 ∧ t = 13 then (if s = 0 ∧ t = 12 then (rws m (0, 12, m.2.2.2 0 12) 13 (m.2.2.2 0 13) 8).2.2.2 s t + 1 else (rws m (0, 12, m.2.2.2 0 12) 13 (m.2.2.2 0 13) 8).2.2.2 s t) + 8 else if s = 0 ∧ t = 12 then (rws m (0, 12, m.2.2.2 0 12) 13 (m.2.2.2 0 13) 8).2.2.2 s t + 1 else (rws m (0, 12, m.2.2.2 0 12) 13 (m.2.2.2 0 13) 8).2.2.2 s t) = _
      rw [cnt_rws]
      by_cases q : s = 0 ∧ t = 13
      · obtain ⟨rfl, rfl⟩ := q
        simp
      · rw [if_neg q, if_neg q]
        by_cases q2 : s = 0 ∧ t = 12
        · obtain ⟨rfl, rfl⟩ := q2
          simp
        · rw [if_neg q2, if_neg q2]
    have hcase : ∀ x, alc m' x → alc m x ∨ New x := by
      rintro ⟨x1, x2, x3⟩ ⟨q1, q2, q30⟩
      have q3 : x3 < m'.2.2.2 x1 x2 := q30
      clear q30
      rw [hcnt] at q3
      rw [hN]
      by_cases r1 : x1 = 0 ∧ x2 = 13
      · rw [if_pos r1] at q3
        obtain ⟨rfl, rfl⟩ := r1
        by_cases r2 : x3 < m.2.2.2 0 13
        · exact Or.inl ⟨q1, q2, r2⟩
        · exact Or.inr (Or.inr ⟨rfl, rfl, Nat.not_lt.mp r2, q3⟩)
      · rw [if_neg r1] at q3
        by_cases r2 : x1 = 0 ∧ x2 = 12
        · rw [if_pos r2] at q3
          obtain ⟨rfl, rfl⟩ := r2
          by_cases r3 : x3 < m.2.2.2 0 12
          · exact Or.inl ⟨q1, q2, r3⟩
          · exact Or.inr (Or.inl (by rw [show x3 = m.2.2.2 0 12 by omega]))
        · rw [if_neg r2] at q3
          exact Or.inl ⟨q1, q2, q3⟩
    have hsub : ∀ x, alc m x → alc m' x := by
      rintro ⟨x1, x2, x3⟩ ⟨q1, q2, q3⟩
      refine ⟨q1, q2, ?_⟩
      have q3 : x3 < m.2.2.2 x1 x2 := q3
      show x3 < m'.2.2.2 x1 x2
      rw [hcnt]
      by_cases r1 : x1 = 0 ∧ x2 = 13
      · rw [if_pos r1]; rw [r1.1, r1.2] at q3; omega
      · rw [if_neg r1]
        by_cases r2 : x1 = 0 ∧ x2 = 12
        · rw [if_pos r2]; rw [r2.1, r2.2] at q3; omega
        · rw [if_neg r2]; exact q3
    have hnew : ∀ x, New x → alc m' x := by
      rintro ⟨x1, x2, x3⟩ hx
      rcases (hN _).mp hx with q | ⟨q1, q2, q3, q4⟩
      · cases q
        refine ⟨z2, fun q => n12 q.2, ?_⟩
        show m.2.2.2 0 12 < m'.2.2.2 0 12
        rw [hcnt, if_neg (by decide), if_pos ⟨rfl, rfl⟩]
        omega
      · dsimp only at q1 q2 q3 q4
        subst q1; subst q2
        refine ⟨z2, fun q => n13 q.2, ?_⟩
        show x3 < m'.2.2.2 0 13
        rw [hcnt, if_pos ⟨rfl, rfl⟩]
        exact q4
    let ad' : Id3 → Nat := fun x => if x = (0, 12, m.2.2.2 0 12) then H.size else if x.1 = 0 ∧ x.2.1 = 13 ∧ m.2.2.2 0 13 ≤ x.2.2 ∧ x.2.2 < m.2.2.2 0 13 + 8 then H.size + 1 + (x.2.2 - m.2.2.2 0 13) else ad x
    have a1 : ad' (0, 12, m.2.2.2 0 12) = H.size := if_pos rfl
    have a2 : ∀ j, j < 8 → ad' (0, 13, m.2.2.2 0 13 + j) = H.size + 1 + j := fun j hj => by
      show (if ((0, 13, m.2.2.2 0 13 + j) : Id3) = (0, 12, m.2.2.2 0 12) then H.size else if (0 = 0 ∧ 13 = 13 ∧ m.2.2.2 0 13 ≤ m.2.2.2 0 13 + j ∧ m.2.2.2 0 13 + j < m.2.2.2 0 13 + 8) then H.size + 1 + (m.2.2.2 0 13 + j - m.2.2.2 0 13) else ad (0, 13, m.2.2.2 0 13 + j)) = _
      rw [if_neg (fun q => by simp at q), if_pos ⟨rfl, rfl, by omega, by omega⟩]
      omega
    have a3 : ∀ x, ¬ New x → ad' x = ad x := fun x hx => by
      have := fun q => hx ((hN x).mpr q)
      show (if x = _ then _ else if _ then _ else _) = _
      rw [if_neg (fun q => this (Or.inl q)), if_neg (fun q => this (Or.inr q))]
    have hrel := h1.news (ad' := ad') (m' := m') (H1 := F.heap) (New := New) hcase hsub (fun x hx => by
        rcases (hN x).mp hx with rfl | ⟨q1, q2, q3, q4⟩
        · exact ⟨z2, fun q => n12 q.2, fun q => absurd q.2.2 (Nat.lt_irrefl _)⟩
        · obtain ⟨x1, x2, x3⟩ := x
          dsimp only at q1 q2 q3 q4
          subst q1; subst q2
          exact ⟨z2, fun q => n13 q.2, fun q => by have := q.2.2; dsimp only at this; omega⟩) a3 (fun x hx => by
        rcases (hN x).mp hx with rfl | ⟨q1, q2, q3, q4⟩
        · rw [a1]; exact Nat.le_refl _
        · obtain ⟨x1, x2, x3⟩ := x
          dsimp only at q1 q2 q3 q4
          subst q1; subst q2
          obtain ⟨j, rfl⟩ : ∃ j, x3 = m.2.2.2 0 13 + j := ⟨x3 - m.2.2.2 0 13, by omega⟩
          rw [a2 j (by omega)]
          omega) (fun x y hx hy e => by
        rcases (hN x).mp hx with rfl | ⟨q1, q2, q3, q4⟩ <;> rcases (hN y).mp hy with rfl | ⟨r1, r2, r3, r4⟩
        · rfl
        · obtain ⟨y1, y2, y3⟩ := y
          dsimp only at r1 r2 r3 r4
          subst r1; subst r2
          obtain ⟨j, rfl⟩ : ∃ j, y3 = m.2.2.2 0 13 + j := ⟨y3 - m.2.2.2 0 13, by omega⟩
          rw [a1, a2 j (by omega)] at e
          omega
        · obtain ⟨y1, y2, y3⟩ := x
          dsimp only at q1 q2 q3 q4
          subst q1; subst q2
          obtain ⟨j, rfl⟩ : ∃ j, y3 = m.2.2.2 0 13 + j := ⟨y3 - m.2.2.2 0 13, by omega⟩
          rw [a1, a2 j (by omega)] at e
          omega
        · obtain ⟨x1, x2, x3⟩ := x
          obtain ⟨y1, y2, y3⟩ := y
          dsimp only at q1 q2 q3 q4 r1 r2 r3 r4
          subst q1; subst q2; subst r1; subst r2
          obtain ⟨i, rfl⟩ : ∃ j, x3 = m.2.2.2 0 13 + j := ⟨x3 - m.2.2.2 0 13, by omega⟩
          obtain ⟨j, rfl⟩ : ∃ j, y3 = m.2.2.2 0 13 + j := ⟨y3 - m.2.2.2 0 13, by omega⟩
          rw [a2 i (by omega), a2 j (by omega)] at e
          rw [show i = j by omega]) hB hold cI cL (fun o k hn => by rw [cR, if_neg (fun q => hn ((hN o).mpr (Or.inl q)))]) (fun o k y hy => by
        rw [cR] at hy
        split at hy
        · split at hy
          · cases hy
            exact Or.inl (hnew _ ((hN _).mpr (Or.inr ⟨rfl, rfl, by dsimp only; omega, by dsimp only; omega⟩)))
          · cases hy
        · exact (h1.2.2.1 o k y hy).imp (hsub y) id) (fun o _ hn q => hn (hnew o q)) (fun x hx => by
        rcases (hN x).mp hx with rfl | ⟨q1, q2, q3, q4⟩
        · have hc0 : F.heap[ad' (0, 12, m.2.2.2 0 12)]? = some (arrV cA 8 (fun k => va_rf ((gR m' (0, 12, m.2.2.2 0 12) k).map ad'))) := by
            rw [a1, f2]
            congr 2
            funext k
            rw [cR, if_pos rfl]
            by_cases hk : k < 8
            · rw [if_pos hk, if_pos hk, Option.map_some, a2 k hk]
            · rw [if_neg hk, if_neg hk]; rfl
          exact ⟨⟨_, hc0⟩, fun q => absurd (show 26 < 8 from q) (by decide), fun q => absurd (show 26 = 20 from q) (by decide), fun q => absurd (show 26 = 21 from q) (by decide), fun _ _ => ⟨cA, hArO, fA, hc0⟩⟩
        · obtain ⟨x1, x2, x3⟩ := x
          dsimp only at q1 q2 q3 q4
          subst q1; subst q2
          obtain ⟨j, rfl⟩ : ∃ j, x3 = m.2.2.2 0 13 + j := ⟨x3 - m.2.2.2 0 13, by omega⟩
          have hz : ∀ k, gI m' (0, 13, m.2.2.2 0 13 + j) k = 0 := fun k => by
            rw [cI]
            exact (h1.2.2.2.1 (0, 13, m.2.2.2 0 13 + j) z2 (fun q => by have := q.2.2; dsimp only at this; omega) k).1
          have hc0 : F.heap[ad' (0, 13, m.2.2.2 0 13 + j)]? = some (arrV comp 8 (fun k => .int (gI m' (0, 13, m.2.2.2 0 13 + j) k))) := by
            rw [a2 j (by omega), hrow j (by omega)]
            congr 2
            funext k
            rw [hz]
          exact ⟨⟨_, hc0⟩, fun q => absurd (show 20 < 8 from q) (by decide), fun _ => ⟨comp, hArI, hc0⟩, fun q => absurd (show 20 = 21 from q) (by decide), fun q _ => absurd (show 22 ≤ 20 from q) (by decide)⟩)
    obtain ⟨hr1, hr2⟩ := hrel
    have hlm : ∀ x, live L m x → live L m' x := fun x hx => hx.imp (hsub x) id
    have T1 : ST B b L xs kd D s nL m0 ad0 ad' F.heap locs lsC ls (vo 0 12 (m.2.2.2 0 12) :: r) m' := by
      refine ⟨hr1, ⟨by rw [f1]; have := h2.1; omega, fun q q1 q2 => (hold q (Nat.lt_of_lt_of_le q1 h2.1)).trans (h2.2.1 q q1 q2), h2.2.2⟩, h3.ext hr2 h4, fun v hv z hz => hlm z (h4 v hv z hz), fun v hv => ?_, fun o ho => ⟨hsub o (h6 o ho).1, (hr2 o (Or.inl (h6 o ho).1)).trans (h6 o ho).2⟩⟩
      rcases List.mem_cons.mp hv with rfl | hv
      · intro z hz
        cases hz
        exact Or.inl (hnew _ ((hN _).mpr (Or.inl rfl)))
      · exact fun z hz => hlm z (h5 v hv z hz)
    have g2 := g _ hf ad' F.heap locs lsC T1
    rw [List.map_cons, cvs_ext hr2 h5] at g2
    have hv : cv ad' (vo 0 12 (m.2.2.2 0 12)) = .ref H.size := congrArg Value.ref a1
    rw [hv] at g2
    obtain ⟨t, b1, b2⟩ := g2 F rfl X'
    have hsz : T0.heap.size = H.size := by rw [hT0]
    rw [hsz] at step
    exact ⟨t, step t b1, b2⟩
  · exact absurd hs id
end TC
end
section
/-! THE LIBRARY's OWN METHODS, calls, ends. -/
theorem gI_cpI (m : Mem) (src dst : Id3) (sp dp n : Nat) (o' : Id3) (k : Nat) (hd : dst.1 < 2) (ho' : o'.1 < 2 ∨ o'.1 = 2) : gI (cpI m src dst sp dp n) o' k = if o' = dst then va_cpy (gI m src) (gI m dst) sp dp n k else gI m o' k := by
  obtain ⟨a, t, i⟩ := dst
  obtain ⟨a', t', i'⟩ := o'
  have ha : a = 0 ∨ a = 1 := by simp only at hd; omega
  have ha' : a' = 0 ∨ a' = 1 ∨ a' = 2 := by simp only at ho'; omega
  rcases ha with rfl | rfl <;> rcases ha' with rfl | rfl | rfl <;> simp [gI, cpI, sS, sd, Prod.ext_iff]
theorem gL_cpI (m : Mem) (src dst : Id3) (sp dp n : Nat) (o' : Id3) (k : Nat) : gL (cpI m src dst sp dp n) o' k = gL m o' k := by
  obtain ⟨a, t, i⟩ := dst
  obtain ⟨a', t', i'⟩ := o'
  rcases a with _ | _ | a <;> rcases a' with _ | _ | a' <;> rfl
theorem gR_cpI (m : Mem) (src dst : Id3) (sp dp n : Nat) (o' : Id3) (k : Nat) : gR (cpI m src dst sp dp n) o' k = gR m o' k := by
  obtain ⟨a, t, i⟩ := dst
  obtain ⟨a', t', i'⟩ := o'
  rcases a with _ | _ | a <;> rcases a' with _ | _ | a' <;> rfl
theorem cnt_cpI (m : Mem) (src dst : Id3) (sp dp n : Nat) : (cpI m src dst sp dp n).2.2.2 = m.2.2.2 := by
  obtain ⟨a, t', i⟩ := dst
  rcases a with _ | _ | a <;> rfl
section TD
variable {p : Program} {l : Launch} {e : Env} {R : Room} {s : State} {mm : MethodId} {args : Array Value} {below : List Frame} {meth : Method} {c : Code} {Q : State → Prop} {cc : ByteArray} {nL oc B b L : Nat} {xs : Nat → Int32} {kd : Nat → Nat} {D : va_G} {m0 : Mem} {ad0 ad : Id3 → Nat} {pcs : List Nat}
  {C : CT} {cap : Nat × Nat} {K : Option Vv → Mem → Prop} {ls st : List Vv} {m : Mem} {uc us pc nx a : Nat} {H : Heap} {locs : List Loc} {lsC : Array Slot}
theorem cp_row {rest : List Value} (hexec : p.tables.exec = Jvm.exec) (hb : c.code = cc) (hml : c.maxLocals = lsC.size) {own : String} {index : Nat} (hown : s.vm.findClass own = some mm.cls) (hlink : (Cond.methodLink own index arraycopyName).before args s = true) (hnat : (Cond.native arraycopyName).before args s = true) (hstat : (Cond.static arraycopyName).before args s = true) (hini : (Cond.initialized "java/lang/System").before args s = true)
    {a0 a1 : Nat} {c0 c1 : ClassId} {n0 n1 : Nat} {f g : Nat → Int32} (hc0 : H[a0]? = some (arrV c0 n0 (fun j => .int (f j)))) (hc1 : H[a1]? = some (arrV c1 n1 (fun j => .int (g j)))) (hA0 : ArrOfT s c0 .int) (hA1 : ArrOfT s c1 .int)
    {sp dp n : Int32} (h1 : ¬ sp < 0) (h2 : ¬ dp < 0) (h3 : ¬ n < 0) (h4 : sp.toNatClampNeg + n.toNatClampNeg ≤ n0) (h5 : dp.toNatClampNeg + n.toNatClampNeg ≤ n1)
    (hframes : 1 ≤ R.frames) (hlocals : (rest.map fun v => v.category).sum + (nativeFrameWords "java/lang/System" "arraycopy" 5 + 11) ≤ R.locals) (hdg : decode cc pc = .ok (.invokestatic index, 3))
    (kk : ∀ (H1 : Heap) (L1 : List Loc), H1[a1]? = some (arrV c1 n1 (fun j => .int (va_cpy f g sp.toNatClampNeg dp.toNatClampNeg n.toNatClampNeg j))) → H1.size = H.size → (∀ q : Nat, q ≠ a1 → H1[q]? = H[q]?) → (∀ q ∈ L1, q.base = a1) → W p l e R s mm args below meth c H1 (locs ++ L1) uc us Q (F0 mm (pc + 3) lsC rest)) : W p l e R s mm args below meth c H locs uc us Q (F0 mm pc lsC (.int n :: .int dp :: .ref a1 :: .int sp :: .ref a0 :: rest)) := by
  have nn : ∀ z : Int32, ¬ z < 0 → z.toInt = (z.toNatClampNeg : Int) := by
    intro z hz
    have hz0 : (0 : Int) ≤ z.toInt := by
      have := Int32.not_lt.mp hz
      simpa using Int32.le_iff_toInt_le.mp this
    show z.toInt = ((z.toInt.toNat : Nat) : Int)
    omega
  intro T hT X
  obtain ⟨-, k0, hk0, cm0, hkk0⟩ := hA0 n0 (fun j => .int (f j))
  obtain ⟨-, k1, hk1, cm1, hkk1⟩ := hA1 n1 (fun j => .int (g j))
  obtain ⟨vm', X', step⟩ := X.arraycopy hexec hown hlink hnat hstat hini (src := a0) (dst := a1) (cs := arrV c0 n0 (fun j => .int (f j))) (cd := arrV c1 n1 (fun j => .int (g j))) (srcPos := sp) (destPos := dp) (n := n) (by rw [hT]; exact hc0) (by rw [hT]; exact hc1)
    (fun _ h => by cases h) (fun _ h => by cases h) (fun h => by cases h) (fun h => by cases h) hk0 hk1 hkk0 hkk1 (by simp [refKind]) h1 h2 h3
    (by rw [nn sp h1, nn n h3, arrV_size]; omega)
    (by rw [nn dp h2, nn n h3, arrV_size]; omega)
    (fun vm₁ _ i hi => by
      have e : (arrV c0 n0 (fun j => .int (f j))).slots.getD (sp.toNatClampNeg + i) .null = .int (f (sp.toNatClampNeg + i)) := by
        rw [Array.getD_eq_getD_getElem?, arrV_read _ _ (by omega)]
        rfl
      refine ⟨?_, ?_⟩
      · rw [e]
        rfl
      · rw [e]
        exact trivial)
    (g := F0 mm pc lsC (.int n :: .int dp :: .ref a1 :: .int sp :: .ref a0 :: rest)) rfl (by rw [hml]) (rest := rest) rfl (by rw [hb]; exact hdg) hframes (by show 2 * 0 + _ + _ ≤ _; omega)
  have e1 : copied (arrV c0 n0 (fun j => .int (f j))) (arrV c1 n1 (fun j => .int (g j))) sp dp n = arrV c1 n1 (fun j => .int (va_cpy f g sp.toNatClampNeg dp.toNatClampNeg n.toNatClampNeg j)) := va_copied (fun z => .int z) c0 c1 f g h4
  rw [e1] at X' step
  have hl : a1 < H.size := (Array.getElem?_eq_some_iff.mp hc1).1
  have hheap : ((T.setVm vm').setCell a1 (arrV c1 n1 (fun j => .int (va_cpy f g sp.toNatClampNeg dp.toNatClampNeg n.toNatClampNeg j)))).heap = H.setIfInBounds a1 (arrV c1 n1 (fun j => .int (va_cpy f g sp.toNatClampNeg dp.toNatClampNeg n.toNatClampNeg j))) := by rw [← hT]; rfl
  obtain ⟨t, b1, b2⟩ := kk _ _ (by simp [Array.getElem?_setIfInBounds, hl]) (by simp) (fun q hq => by simp [Array.getElem?_setIfInBounds, Ne.symm hq]) (fun q hq => by
    obtain ⟨z, -, hz⟩ := List.mem_map.mp hq
    rw [← hz]) _ hheap X'
  exact ⟨t, step t b1, b2⟩
theorem sx_prm {i : Nat} (X : CTX p s mm args c cc nL oc B b L xs kd D) (hk : prmL.any (fun e => Nat.beq e.1 oc && Nat.beq e.2.1 i && Nat.beq e.2.2.1 a) = true) : (Cond.methodLink (clsN oc) i (prN a)).before args s = true := by
  obtain ⟨⟨oc', i', a', pl⟩, hin, hq⟩ := any_of hk
  simp only [Bool.and_eq_true, Nat.beq_eq] at hq
  obtain ⟨⟨rfl, rfl⟩, rfl⟩ := hq
  have hok := all_at prmL_ok hin
  unfold chkY at hok
  simp only [Bool.and_eq_true] at hok
  exact X.2.2.2.2.1 _ (gw_in hok.1.1)
theorem sx_copy {i : Nat} (X : CTX p s mm args c cc nL oc B b L xs kd D) (hfr : 1 ≤ R.frames) (hlo : 40 ≤ R.locals) (hk : prmL.any (fun e => Nat.beq e.1 oc && Nat.beq e.2.1 i && Nat.beq e.2.2.1 2) = true) (hd : decode cc pc = .ok (.invokestatic i, 3)) (hf : pcs[nx]? = some (pc + 3))
    (hs : stepE C cap (PW p l e R s mm args below meth c Q B b L xs kd D nL m0 ad0 pcs) K (eCpy nx ls st m uc us)) (T : ST B b L xs kd D s nL m0 ad0 ad H locs lsC ls st m) : W p l e R s mm args below meth c H locs uc us Q (F0 mm pc lsC (st.map (cv ad))) := by
  have hw := cpyW_ok
  simp only [Bool.and_eq_true] at hw
  unfold eCpy at hs
  split at hs
  · rename_i n dp d sp o r
    split at hs
    · rename_i hsh
      simp only [Bool.and_eq_true, Nat.beq_eq] at hsh
      obtain ⟨h1, h2, h3⟩ := hsh
      have h3 : ctgs r ≤ 8 := Nat.le_of_ble_eq_true h3
      obtain ⟨⟨q1, q2, q3, q4, q5⟩, g⟩ := hs
      have halo := live_alc (T.tl.tl.tl.tl.hd o rfl) (by omega) (by omega)
      have hald := live_alc (T.tl.tl.hd d rfl) (by omega) (by omega)
      obtain ⟨cA, hA, hc⟩ := (T.cell halo).2.2.1 h1
      obtain ⟨cB, hB, hcB⟩ := (T.cell hald).2.2.1 h2
      have hlw : ((r.map (cv ad)).map fun v => v.category).sum + (nativeFrameWords "java/lang/System" "arraycopy" 5 + 11) ≤ R.locals := by
        rw [cvs_cat, show nativeFrameWords "java/lang/System" "arraycopy" 5 = 7 from by decide]
        omega
      refine cp_row (rest := r.map (cv ad)) X.1 X.2.1 (X.2.2.1.trans T.2.2.1.1.symm) X.2.2.2.1 (sx_prm X hk) (X.2.2.2.2.1 _ (gw_in hw.1.1.1.1)) (X.2.2.2.2.1 _ (gw_in hw.1.1.1.2)) (X.2.2.2.2.1 _ (gw_in hw.1.1.2)) hc hcB hA hB q2 q3 q1 q4 q5 hfr hlw hd fun H1 L1 e1 z oq hL => ?_
      obtain ⟨t1, t2, t3, t4, t5, t6⟩ := T.tl.tl.tl.tl.tl
      have hcnt := cnt_cpI m o d sp.toNatClampNeg dp.toNatClampNeg n.toNatClampNeg
      refine g _ hf ad H1 _ lsC ⟨t1.upd hald hcnt (fun o' k ho' hne => ⟨by rw [gI_cpI _ _ _ _ _ _ _ _ hald.1 ho', if_neg hne], gL_cpI .., gR_cpI ..⟩) (fun o' k y hy => by rw [gR_cpI] at hy; exact t1.2.2.1 o' k y hy) oq ⟨⟨_, e1⟩, fun q => by omega, fun _ => ⟨cB, hB, ?_⟩, fun q => by omega, fun q => by omega⟩, ⟨by rw [z]; exact t2.1, fun q g1 g2 => ?_, fun q hq => ?_⟩, t3, fun v hv => vok_cnt hcnt (t4 v hv), fun v hv => vok_cnt hcnt (t5 v hv), fun x hx => ⟨(alc_cnt hcnt).mpr (t6 x hx).1, (t6 x hx).2⟩⟩
      · rw [e1]
        congr 2
        funext k
        rw [gI_cpI _ _ _ _ _ _ _ _ hald.1 (Or.inl hald.1), if_pos rfl]
      · rw [oq q (fun e => g2 (by rw [e]; exact (t1.1 d hald).1))]
        exact t2.2.1 q g1 g2
      · rcases List.mem_append.mp hq with h | h
        · exact t2.2.2 q h
        · rw [hL q h]
          exact (t1.1 d hald).1
    · exact absurd hs id
  · exact absurd hs id
theorem sx_obj {i : Nat} (X : CTX p s mm args c cc nL oc B b L xs kd D) (hfr : 1 ≤ R.frames) (hlo : 40 ≤ R.locals) (hk : prmL.any (fun e => Nat.beq e.1 oc && Nat.beq e.2.1 i && Nat.beq e.2.2.1 1) = true) (hd : decode cc pc = .ok (.invokespecial i, 3)) (hf : pcs[nx]? = some (pc + 3))
    (hs : stepE C cap (PW p l e R s mm args below meth c Q B b L xs kd D nL m0 ad0 pcs) K (ePrm 1 nx ls st m uc us)) (T : ST B b L xs kd D s nL m0 ad0 ad H locs lsC ls st m) : W p l e R s mm args below meth c H locs uc us Q (F0 mm pc lsC (st.map (cv ad))) := by
  have hw := cpyW_ok
  simp only [Bool.and_eq_true] at hw
  unfold ePrm at hs
  split at hs
  · rename_i o r _
    split at hs
    · rename_i hb
      have h3 : ctgs r ≤ 8 := Nat.le_of_ble_eq_true hb
      have g := hs _ hf ad H locs lsC T.tl
      exact W.objInit X.1 X.2.1 X.2.2.2.1 (sx_prm X hk) (X.2.2.2.2.1 _ (gw_in hw.1.2)) (X.2.2.2.2.1 _ (gw_in hw.2)) rfl (T.2.2.1.1.trans X.2.2.1.symm) rfl hd hfr (by show 2 * 0 + _ + 12 ≤ _; rw [cvs_cat]; omega) g
    · exact absurd hs id
  all_goals first | (rename_i h; exact absurd h (by decide)) | exact absurd hs id | (rename_i h _; exact absurd h (by decide)) | (rename_i h _ _; exact absurd h (by decide))
theorem sx_math {i : Nat} (X : CTX p s mm args c cc nL oc B b L xs kd D) (hcap : uc ≤ R.cells ∧ us ≤ R.slots) (hfr : 1 ≤ R.frames) (hlo : 40 ≤ R.locals) (ha : a = 3 ∨ a = 4 ∨ a = 5) (hk : prmL.any (fun e => Nat.beq e.1 oc && Nat.beq e.2.1 i && Nat.beq e.2.2.1 a) = true) (hd : decode cc pc = .ok (.invokestatic i, 3)) (hf : pcs[nx]? = some (pc + 3))
    (hs : stepE C cap (PW p l e R s mm args below meth c Q B b L xs kd D nL m0 ad0 pcs) K (ePrm a nx ls st m uc us)) (T : ST B b L xs kd D s nL m0 ad0 ad H locs lsC ls st m) : W p l e R s mm args below meth c H locs uc us Q (F0 mm pc lsC (st.map (cv ad))) := by
  have hw := prmW_ok
  simp only [Bool.and_eq_true] at hw
  obtain ⟨⟨⟨⟨⟨⟨v1, v2⟩, v3⟩, v4⟩, v5⟩, v6⟩, v7⟩ := hw
  have hl := sx_prm X hk
  rcases ha with rfl | rfl | rfl
  · rcases st with _ | ⟨(y | _), _ | ⟨(x | _), r⟩⟩ <;> try exact absurd hs id
    have hs : stepE C cap (PW p l e R s mm args below meth c Q B b L xs kd D nL m0 ad0 pcs) K (match Nat.ble (ctgs r) 8 with
      | true => eP (nx, ls, vi (if x < y then y else x) :: r, m, uc, us)
      | false => eN) := hs
    split at hs
    · rename_i hb
      have h3 : ctgs r ≤ 8 := Nat.le_of_ble_eq_true hb
      exact va_mmax X.1 X.2.1 (X.2.2.1.trans T.2.2.1.1.symm) X.2.2.2.1 hl (X.2.2.2.2.1 _ (gw_in v1)) (X.2.2.2.2.1 _ (gw_in v4)) (X.2.2.2.2.1 _ (gw_in v5)) hfr (by rw [cvs_cat]; omega) hcap.1 hcap.2 hd (hs _ hf ad H locs lsC (T.tl.tl.ps vokI))
    · exact absurd hs id
  · rcases st with _ | ⟨(y | _), _ | ⟨(x | _), r⟩⟩ <;> try exact absurd hs id
    have hs : stepE C cap (PW p l e R s mm args below meth c Q B b L xs kd D nL m0 ad0 pcs) K (match Nat.ble (ctgs r) 8 with
      | true => eP (nx, ls, vi (if y < x then y else x) :: r, m, uc, us)
      | false => eN) := hs
    split at hs
    · rename_i hb
      have h3 : ctgs r ≤ 8 := Nat.le_of_ble_eq_true hb
      exact va_mmin X.1 X.2.1 (X.2.2.1.trans T.2.2.1.1.symm) X.2.2.2.1 hl (X.2.2.2.2.1 _ (gw_in v2)) (X.2.2.2.2.1 _ (gw_in v4)) (X.2.2.2.2.1 _ (gw_in v6)) hfr (by rw [cvs_cat]; omega) hcap.1 hcap.2 hd (hs _ hf ad H locs lsC (T.tl.tl.ps vokI))
    · exact absurd hs id
  · rcases st with _ | ⟨(x | _), r⟩ <;> try exact absurd hs id
    have hs : stepE C cap (PW p l e R s mm args below meth c Q B b L xs kd D nL m0 ad0 pcs) K (match Nat.ble (ctgs r) 8 with
      | true => eP (nx, ls, vi (if 0 ≤ x then x else 0 - x) :: r, m, uc, us)
      | false => eN) := hs
    split at hs
    · rename_i hb
      have h3 : ctgs r ≤ 8 := Nat.le_of_ble_eq_true hb
      exact va_mabs X.1 X.2.1 (X.2.2.1.trans T.2.2.1.1.symm) X.2.2.2.1 hl (X.2.2.2.2.1 _ (gw_in v3)) (X.2.2.2.2.1 _ (gw_in v4)) (X.2.2.2.2.1 _ (gw_in v7)) hfr (by rw [cvs_cat]; omega) hcap.1 hcap.2 hd (hs _ hf ad H locs lsC (T.tl.ps vokI))
    · exact absurd hs id
end TD
end
section
/-! Written by a program (wip/whole/gen4.py): the facts of all methods in one row each. -/
noncomputable def mt_0 : List MRow := [r_Ce_init, r_Ce_isMissing, r_Ce_has, r_Ce_hasSpan, r_Ce_get, r_Ce_set, r_Ce_renew, r_Ce_remove, r_Ce_take, r_Ce_sum, r_Ce_mixedInto, r_Fr_init, r_Fr_become, r_Gr_faultOf, r_Gr_build, r_Gr_buildItem, r_Gr_endOfFigures, r_Gr_canBegin, r_Gr_isFigure, r_Hr_init, r_Hr_becomeLike, r_Ho_init, r_Ho_sound, r_Ho_isMute, r_Ho_becomeLike, r_Ki_isOf, r_Ki_byLetter, r_Se_init, r_Se_lookAt]
theorem ka_0 : ∀ r ∈ mt_0, chkR r = true := List.forall_mem_cons.mpr ⟨k_Ce_init, List.forall_mem_cons.mpr ⟨k_Ce_isMissing, List.forall_mem_cons.mpr ⟨k_Ce_has, List.forall_mem_cons.mpr ⟨k_Ce_hasSpan, List.forall_mem_cons.mpr ⟨k_Ce_get, List.forall_mem_cons.mpr ⟨k_Ce_set, List.forall_mem_cons.mpr ⟨k_Ce_renew, List.forall_mem_cons.mpr ⟨k_Ce_remove, List.forall_mem_cons.mpr ⟨k_Ce_take, List.forall_mem_cons.mpr ⟨k_Ce_sum, List.forall_mem_cons.mpr ⟨k_Ce_mixedInto, List.forall_mem_cons.mpr ⟨k_Fr_init, List.forall_mem_cons.mpr ⟨k_Fr_become, List.forall_mem_cons.mpr ⟨k_Gr_faultOf, List.forall_mem_cons.mpr ⟨k_Gr_build, List.forall_mem_cons.mpr ⟨k_Gr_buildItem, List.forall_mem_cons.mpr ⟨k_Gr_endOfFigures, List.forall_mem_cons.mpr ⟨k_Gr_canBegin, List.forall_mem_cons.mpr ⟨k_Gr_isFigure, List.forall_mem_cons.mpr ⟨k_Hr_init, List.forall_mem_cons.mpr ⟨k_Hr_becomeLike, List.forall_mem_cons.mpr ⟨k_Ho_init, List.forall_mem_cons.mpr ⟨k_Ho_sound, List.forall_mem_cons.mpr ⟨k_Ho_isMute, List.forall_mem_cons.mpr ⟨k_Ho_becomeLike, List.forall_mem_cons.mpr ⟨k_Ki_isOf, List.forall_mem_cons.mpr ⟨k_Ki_byLetter, List.forall_mem_cons.mpr ⟨k_Se_init, List.forall_mem_cons.mpr ⟨k_Se_lookAt, fun _ h => absurd h List.not_mem_nil⟩⟩⟩⟩⟩⟩⟩⟩⟩⟩⟩⟩⟩⟩⟩⟩⟩⟩⟩⟩⟩⟩⟩⟩⟩⟩⟩⟩⟩
theorem ca_0 : ∀ r ∈ mt_0, r.2.2.2.2.1 ≠ 13 → cdOk r := List.forall_mem_cons.mpr ⟨fun _ => cd_Ce_init, List.forall_mem_cons.mpr ⟨fun _ => cd_Ce_isMissing, List.forall_mem_cons.mpr ⟨fun _ => cd_Ce_has, List.forall_mem_cons.mpr ⟨fun _ => cd_Ce_hasSpan, List.forall_mem_cons.mpr ⟨fun _ => cd_Ce_get, List.forall_mem_cons.mpr ⟨fun _ => cd_Ce_set, List.forall_mem_cons.mpr ⟨fun _ => cd_Ce_renew, List.forall_mem_cons.mpr ⟨fun _ => cd_Ce_remove, List.forall_mem_cons.mpr ⟨fun _ => cd_Ce_take, List.forall_mem_cons.mpr ⟨fun _ => cd_Ce_sum, List.forall_mem_cons.mpr ⟨fun _ => cd_Ce_mixedInto, List.forall_mem_cons.mpr ⟨fun _ => cd_Fr_init, List.forall_mem_cons.mpr ⟨fun _ => cd_Fr_become, List.forall_mem_cons.mpr ⟨fun _ => cd_Gr_faultOf, List.forall_mem_cons.mpr ⟨fun _ => cd_Gr_build, List.forall_mem_cons.mpr ⟨fun _ => cd_Gr_buildItem, List.forall_mem_cons.mpr ⟨fun _ => cd_Gr_endOfFigures, List.forall_mem_cons.mpr ⟨fun _ => cd_Gr_canBegin, List.forall_mem_cons.mpr ⟨fun _ => cd_Gr_isFigure, List.forall_mem_cons.mpr ⟨fun _ => cd_Hr_init, List.forall_mem_cons.mpr ⟨fun _ => cd_Hr_becomeLike, List.forall_mem_cons.mpr ⟨fun _ => cd_Ho_init, List.forall_mem_cons.mpr ⟨fun _ => cd_Ho_sound, List.forall_mem_cons.mpr ⟨fun _ => cd_Ho_isMute, List.forall_mem_cons.mpr ⟨fun _ => cd_Ho_becomeLike, List.forall_mem_cons.mpr ⟨fun _ => cd_Ki_isOf, List.forall_mem_cons.mpr ⟨fun _ => cd_Ki_byLetter, List.forall_mem_cons.mpr ⟨fun _ => cd_Se_init, List.forall_mem_cons.mpr ⟨fun _ => cd_Se_lookAt, fun _ h => absurd h List.not_mem_nil⟩⟩⟩⟩⟩⟩⟩⟩⟩⟩⟩⟩⟩⟩⟩⟩⟩⟩⟩⟩⟩⟩⟩⟩⟩⟩⟩⟩⟩
noncomputable def mt_1 : List MRow := [r_Se_addHouse, r_Se_ripplesOf, r_Se_isFitting, r_Se_howManyFit, r_Se_howManyFitWith, r_Se_leastFitting, r_Se_inAllFitting, r_Se_inAnyFitting, r_Se_waysToJoin, r_Se_howManyBeside, r_Se_unlikeRises, r_Se_greatestRise, r_Se_cheapestSounding, r_Se_mostHouses, r_Se_fewestHours, r_Se_firstHour, r_Se_fewestPayments, r_St_init, r_St_clear, r_St_add, r_St_becomeLike, r_St_hasHouse, r_St_allHouses, r_St_hasSet, r_St_distance, r_St_ripple, r_St_ripplesOf, r_St_trait, r_St_lesserRipples]
theorem ka_1 : ∀ r ∈ mt_1, chkR r = true := List.forall_mem_cons.mpr ⟨k_Se_addHouse, List.forall_mem_cons.mpr ⟨k_Se_ripplesOf, List.forall_mem_cons.mpr ⟨k_Se_isFitting, List.forall_mem_cons.mpr ⟨k_Se_howManyFit, List.forall_mem_cons.mpr ⟨k_Se_howManyFitWith, List.forall_mem_cons.mpr ⟨k_Se_leastFitting, List.forall_mem_cons.mpr ⟨k_Se_inAllFitting, List.forall_mem_cons.mpr ⟨k_Se_inAnyFitting, List.forall_mem_cons.mpr ⟨k_Se_waysToJoin, List.forall_mem_cons.mpr ⟨k_Se_howManyBeside, List.forall_mem_cons.mpr ⟨k_Se_unlikeRises, List.forall_mem_cons.mpr ⟨k_Se_greatestRise, List.forall_mem_cons.mpr ⟨k_Se_cheapestSounding, List.forall_mem_cons.mpr ⟨k_Se_mostHouses, List.forall_mem_cons.mpr ⟨k_Se_fewestHours, List.forall_mem_cons.mpr ⟨k_Se_firstHour, List.forall_mem_cons.mpr ⟨k_Se_fewestPayments, List.forall_mem_cons.mpr ⟨k_St_init, List.forall_mem_cons.mpr ⟨k_St_clear, List.forall_mem_cons.mpr ⟨k_St_add, List.forall_mem_cons.mpr ⟨k_St_becomeLike, List.forall_mem_cons.mpr ⟨k_St_hasHouse, List.forall_mem_cons.mpr ⟨k_St_allHouses, List.forall_mem_cons.mpr ⟨k_St_hasSet, List.forall_mem_cons.mpr ⟨k_St_distance, List.forall_mem_cons.mpr ⟨k_St_ripple, List.forall_mem_cons.mpr ⟨k_St_ripplesOf, List.forall_mem_cons.mpr ⟨k_St_trait, List.forall_mem_cons.mpr ⟨k_St_lesserRipples, fun _ h => absurd h List.not_mem_nil⟩⟩⟩⟩⟩⟩⟩⟩⟩⟩⟩⟩⟩⟩⟩⟩⟩⟩⟩⟩⟩⟩⟩⟩⟩⟩⟩⟩⟩
theorem ca_1 : ∀ r ∈ mt_1, r.2.2.2.2.1 ≠ 13 → cdOk r := List.forall_mem_cons.mpr ⟨fun _ => cd_Se_addHouse, List.forall_mem_cons.mpr ⟨fun _ => cd_Se_ripplesOf, List.forall_mem_cons.mpr ⟨fun _ => cd_Se_isFitting, List.forall_mem_cons.mpr ⟨fun _ => cd_Se_howManyFit, List.forall_mem_cons.mpr ⟨fun _ => cd_Se_howManyFitWith, List.forall_mem_cons.mpr ⟨fun _ => cd_Se_leastFitting, List.forall_mem_cons.mpr ⟨fun _ => cd_Se_inAllFitting, List.forall_mem_cons.mpr ⟨fun _ => cd_Se_inAnyFitting, List.forall_mem_cons.mpr ⟨fun _ => cd_Se_waysToJoin, List.forall_mem_cons.mpr ⟨fun _ => cd_Se_howManyBeside, List.forall_mem_cons.mpr ⟨fun _ => cd_Se_unlikeRises, List.forall_mem_cons.mpr ⟨fun _ => cd_Se_greatestRise, List.forall_mem_cons.mpr ⟨fun _ => cd_Se_cheapestSounding, List.forall_mem_cons.mpr ⟨fun _ => cd_Se_mostHouses, List.forall_mem_cons.mpr ⟨fun _ => cd_Se_fewestHours, List.forall_mem_cons.mpr ⟨fun _ => cd_Se_firstHour, List.forall_mem_cons.mpr ⟨fun _ => cd_Se_fewestPayments, List.forall_mem_cons.mpr ⟨fun _ => cd_St_init, List.forall_mem_cons.mpr ⟨fun _ => cd_St_clear, List.forall_mem_cons.mpr ⟨fun _ => cd_St_add, List.forall_mem_cons.mpr ⟨fun _ => cd_St_becomeLike, List.forall_mem_cons.mpr ⟨fun _ => cd_St_hasHouse, List.forall_mem_cons.mpr ⟨fun _ => cd_St_allHouses, List.forall_mem_cons.mpr ⟨fun _ => cd_St_hasSet, List.forall_mem_cons.mpr ⟨fun _ => cd_St_distance, List.forall_mem_cons.mpr ⟨fun _ => cd_St_ripple, List.forall_mem_cons.mpr ⟨fun _ => cd_St_ripplesOf, List.forall_mem_cons.mpr ⟨fun _ => cd_St_trait, List.forall_mem_cons.mpr ⟨fun _ => cd_St_lesserRipples, fun _ h => absurd h List.not_mem_nil⟩⟩⟩⟩⟩⟩⟩⟩⟩⟩⟩⟩⟩⟩⟩⟩⟩⟩⟩⟩⟩⟩⟩⟩⟩⟩⟩⟩⟩
noncomputable def mt_2 : List MRow := [r_St_howManyOf, r_St_rippleMostBehind, r_St_leaked, r_St_ring, r_St_goBackTo, r_St_isExempt, r_St_howManyExempt, r_St_titheOf, r_St_owedBy, r_St_balanceOf, r_St_netDebts, r_St_mixedInto, r_X_init, r_X_row, r_X_lay, r_X_at, r_X_tear, r_X_copy, r_X_mean, r_X_text, r_X_put, r_X_fault, r_X_street, r_X_house, r_X_mark, r_X_altar, r_X_wall, r_X_hour, r_X_undo]
theorem ka_2 : ∀ r ∈ mt_2, chkR r = true := List.forall_mem_cons.mpr ⟨k_St_howManyOf, List.forall_mem_cons.mpr ⟨k_St_rippleMostBehind, List.forall_mem_cons.mpr ⟨k_St_leaked, List.forall_mem_cons.mpr ⟨k_St_ring, List.forall_mem_cons.mpr ⟨k_St_goBackTo, List.forall_mem_cons.mpr ⟨k_St_isExempt, List.forall_mem_cons.mpr ⟨k_St_howManyExempt, List.forall_mem_cons.mpr ⟨k_St_titheOf, List.forall_mem_cons.mpr ⟨k_St_owedBy, List.forall_mem_cons.mpr ⟨k_St_balanceOf, List.forall_mem_cons.mpr ⟨k_St_netDebts, List.forall_mem_cons.mpr ⟨k_St_mixedInto, List.forall_mem_cons.mpr ⟨k_X_init, List.forall_mem_cons.mpr ⟨k_X_row, List.forall_mem_cons.mpr ⟨k_X_lay, List.forall_mem_cons.mpr ⟨k_X_at, List.forall_mem_cons.mpr ⟨k_X_tear, List.forall_mem_cons.mpr ⟨k_X_copy, List.forall_mem_cons.mpr ⟨k_X_mean, List.forall_mem_cons.mpr ⟨k_X_text, List.forall_mem_cons.mpr ⟨k_X_put, List.forall_mem_cons.mpr ⟨k_X_fault, List.forall_mem_cons.mpr ⟨k_X_street, List.forall_mem_cons.mpr ⟨k_X_house, List.forall_mem_cons.mpr ⟨k_X_mark, List.forall_mem_cons.mpr ⟨k_X_altar, List.forall_mem_cons.mpr ⟨k_X_wall, List.forall_mem_cons.mpr ⟨k_X_hour, List.forall_mem_cons.mpr ⟨k_X_undo, fun _ h => absurd h List.not_mem_nil⟩⟩⟩⟩⟩⟩⟩⟩⟩⟩⟩⟩⟩⟩⟩⟩⟩⟩⟩⟩⟩⟩⟩⟩⟩⟩⟩⟩⟩
theorem ca_2 : ∀ r ∈ mt_2, r.2.2.2.2.1 ≠ 13 → cdOk r := List.forall_mem_cons.mpr ⟨fun _ => cd_St_howManyOf, List.forall_mem_cons.mpr ⟨fun _ => cd_St_rippleMostBehind, List.forall_mem_cons.mpr ⟨fun _ => cd_St_leaked, List.forall_mem_cons.mpr ⟨fun _ => cd_St_ring, List.forall_mem_cons.mpr ⟨fun _ => cd_St_goBackTo, List.forall_mem_cons.mpr ⟨fun _ => cd_St_isExempt, List.forall_mem_cons.mpr ⟨fun _ => cd_St_howManyExempt, List.forall_mem_cons.mpr ⟨fun _ => cd_St_titheOf, List.forall_mem_cons.mpr ⟨fun _ => cd_St_owedBy, List.forall_mem_cons.mpr ⟨fun _ => cd_St_balanceOf, List.forall_mem_cons.mpr ⟨fun _ => cd_St_netDebts, List.forall_mem_cons.mpr ⟨fun _ => cd_St_mixedInto, List.forall_mem_cons.mpr ⟨fun _ => cd_X_init, List.forall_mem_cons.mpr ⟨fun _ => cd_X_row, List.forall_mem_cons.mpr ⟨fun _ => cd_X_lay, List.forall_mem_cons.mpr ⟨fun _ => cd_X_at, List.forall_mem_cons.mpr ⟨fun _ => cd_X_tear, List.forall_mem_cons.mpr ⟨fun _ => cd_X_copy, List.forall_mem_cons.mpr ⟨fun _ => cd_X_mean, List.forall_mem_cons.mpr ⟨fun _ => cd_X_text, List.forall_mem_cons.mpr ⟨fun _ => cd_X_put, List.forall_mem_cons.mpr ⟨fun _ => cd_X_fault, List.forall_mem_cons.mpr ⟨fun _ => cd_X_street, List.forall_mem_cons.mpr ⟨fun _ => cd_X_house, List.forall_mem_cons.mpr ⟨fun _ => cd_X_mark, List.forall_mem_cons.mpr ⟨fun _ => cd_X_altar, List.forall_mem_cons.mpr ⟨fun _ => cd_X_wall, List.forall_mem_cons.mpr ⟨fun _ => cd_X_hour, List.forall_mem_cons.mpr ⟨fun _ => cd_X_undo, fun _ h => absurd h List.not_mem_nil⟩⟩⟩⟩⟩⟩⟩⟩⟩⟩⟩⟩⟩⟩⟩⟩⟩⟩⟩⟩⟩⟩⟩⟩⟩⟩⟩⟩⟩
noncomputable def mt_3 : List MRow := [r_X_jar, r_X_loud, r_X_made, r_X_tithe, r_X_pay, r_X_due, r_X_keep, r_X_on, r_X_fits, r_X_sure, r_X_odds, r_X_thunder, r_X_joined, r_X_silence, r_X_rises, r_X_wedding, r_X_feathers, r_X_most, r_X_hours, r_X_year, r_X_debt, r_X_balance, r_X_payments, r_X_net, r_X_crickets, r_X_sings, r_X_asked, r_X_upper, r_X_lower]
theorem ka_3 : ∀ r ∈ mt_3, chkR r = true := List.forall_mem_cons.mpr ⟨k_X_jar, List.forall_mem_cons.mpr ⟨k_X_loud, List.forall_mem_cons.mpr ⟨k_X_made, List.forall_mem_cons.mpr ⟨k_X_tithe, List.forall_mem_cons.mpr ⟨k_X_pay, List.forall_mem_cons.mpr ⟨k_X_due, List.forall_mem_cons.mpr ⟨k_X_keep, List.forall_mem_cons.mpr ⟨k_X_on, List.forall_mem_cons.mpr ⟨k_X_fits, List.forall_mem_cons.mpr ⟨k_X_sure, List.forall_mem_cons.mpr ⟨k_X_odds, List.forall_mem_cons.mpr ⟨k_X_thunder, List.forall_mem_cons.mpr ⟨k_X_joined, List.forall_mem_cons.mpr ⟨k_X_silence, List.forall_mem_cons.mpr ⟨k_X_rises, List.forall_mem_cons.mpr ⟨k_X_wedding, List.forall_mem_cons.mpr ⟨k_X_feathers, List.forall_mem_cons.mpr ⟨k_X_most, List.forall_mem_cons.mpr ⟨k_X_hours, List.forall_mem_cons.mpr ⟨k_X_year, List.forall_mem_cons.mpr ⟨k_X_debt, List.forall_mem_cons.mpr ⟨k_X_balance, List.forall_mem_cons.mpr ⟨k_X_payments, List.forall_mem_cons.mpr ⟨k_X_net, List.forall_mem_cons.mpr ⟨k_X_crickets, List.forall_mem_cons.mpr ⟨k_X_sings, List.forall_mem_cons.mpr ⟨k_X_asked, List.forall_mem_cons.mpr ⟨k_X_upper, List.forall_mem_cons.mpr ⟨k_X_lower, fun _ h => absurd h List.not_mem_nil⟩⟩⟩⟩⟩⟩⟩⟩⟩⟩⟩⟩⟩⟩⟩⟩⟩⟩⟩⟩⟩⟩⟩⟩⟩⟩⟩⟩⟩
theorem ca_3 : ∀ r ∈ mt_3, r.2.2.2.2.1 ≠ 13 → cdOk r := List.forall_mem_cons.mpr ⟨fun _ => cd_X_jar, List.forall_mem_cons.mpr ⟨fun _ => cd_X_loud, List.forall_mem_cons.mpr ⟨fun _ => cd_X_made, List.forall_mem_cons.mpr ⟨fun _ => cd_X_tithe, List.forall_mem_cons.mpr ⟨fun _ => cd_X_pay, List.forall_mem_cons.mpr ⟨fun _ => cd_X_due, List.forall_mem_cons.mpr ⟨fun _ => cd_X_keep, List.forall_mem_cons.mpr ⟨fun _ => cd_X_on, List.forall_mem_cons.mpr ⟨fun _ => cd_X_fits, List.forall_mem_cons.mpr ⟨fun _ => cd_X_sure, List.forall_mem_cons.mpr ⟨fun _ => cd_X_odds, List.forall_mem_cons.mpr ⟨fun _ => cd_X_thunder, List.forall_mem_cons.mpr ⟨fun _ => cd_X_joined, List.forall_mem_cons.mpr ⟨fun _ => cd_X_silence, List.forall_mem_cons.mpr ⟨fun _ => cd_X_rises, List.forall_mem_cons.mpr ⟨fun _ => cd_X_wedding, List.forall_mem_cons.mpr ⟨fun _ => cd_X_feathers, List.forall_mem_cons.mpr ⟨fun _ => cd_X_most, List.forall_mem_cons.mpr ⟨fun _ => cd_X_hours, List.forall_mem_cons.mpr ⟨fun _ => cd_X_year, List.forall_mem_cons.mpr ⟨fun _ => cd_X_debt, List.forall_mem_cons.mpr ⟨fun _ => cd_X_balance, List.forall_mem_cons.mpr ⟨fun _ => cd_X_payments, List.forall_mem_cons.mpr ⟨fun _ => cd_X_net, List.forall_mem_cons.mpr ⟨fun _ => cd_X_crickets, List.forall_mem_cons.mpr ⟨fun _ => cd_X_sings, List.forall_mem_cons.mpr ⟨fun _ => cd_X_asked, List.forall_mem_cons.mpr ⟨fun _ => cd_X_upper, List.forall_mem_cons.mpr ⟨fun _ => cd_X_lower, fun _ h => absurd h List.not_mem_nil⟩⟩⟩⟩⟩⟩⟩⟩⟩⟩⟩⟩⟩⟩⟩⟩⟩⟩⟩⟩⟩⟩⟩⟩⟩⟩⟩⟩⟩
noncomputable def mt_4 : List MRow := [r_X_count, r_X_finding, r_X_findings, r_X_digest, r_X_tell, r_X_found, r_X_refusalOfPlace, r_X_isRow, r_X_isText, r_X_isKeptPlace, r_X_howManyKept, r_X_isMissing, r_X_howManyThere, r_X_isWithin, r_X_isRise, r_X_contains, r_X_lotBehind, r_X_mixed, r_M_init, r_M_in, r_M_meet, r_M_ask, r_M_part, r_M_has, r_M_sizeOf, r_M_isRow, r_M_isText, r_M_askedRow, r_M_askedText]
theorem ka_4 : ∀ r ∈ mt_4, chkR r = true := List.forall_mem_cons.mpr ⟨k_X_count, List.forall_mem_cons.mpr ⟨k_X_finding, List.forall_mem_cons.mpr ⟨k_X_findings, List.forall_mem_cons.mpr ⟨k_X_digest, List.forall_mem_cons.mpr ⟨k_X_tell, List.forall_mem_cons.mpr ⟨k_X_found, List.forall_mem_cons.mpr ⟨k_X_refusalOfPlace, List.forall_mem_cons.mpr ⟨k_X_isRow, List.forall_mem_cons.mpr ⟨k_X_isText, List.forall_mem_cons.mpr ⟨k_X_isKeptPlace, List.forall_mem_cons.mpr ⟨k_X_howManyKept, List.forall_mem_cons.mpr ⟨k_X_isMissing, List.forall_mem_cons.mpr ⟨k_X_howManyThere, List.forall_mem_cons.mpr ⟨k_X_isWithin, List.forall_mem_cons.mpr ⟨k_X_isRise, List.forall_mem_cons.mpr ⟨k_X_contains, List.forall_mem_cons.mpr ⟨k_X_lotBehind, List.forall_mem_cons.mpr ⟨k_X_mixed, List.forall_mem_cons.mpr ⟨k_M_init, List.forall_mem_cons.mpr ⟨k_M_in, List.forall_mem_cons.mpr ⟨k_M_meet, List.forall_mem_cons.mpr ⟨k_M_ask, List.forall_mem_cons.mpr ⟨k_M_part, List.forall_mem_cons.mpr ⟨k_M_has, List.forall_mem_cons.mpr ⟨k_M_sizeOf, List.forall_mem_cons.mpr ⟨k_M_isRow, List.forall_mem_cons.mpr ⟨k_M_isText, List.forall_mem_cons.mpr ⟨k_M_askedRow, List.forall_mem_cons.mpr ⟨k_M_askedText, fun _ h => absurd h List.not_mem_nil⟩⟩⟩⟩⟩⟩⟩⟩⟩⟩⟩⟩⟩⟩⟩⟩⟩⟩⟩⟩⟩⟩⟩⟩⟩⟩⟩⟩⟩
theorem ca_4 : ∀ r ∈ mt_4, r.2.2.2.2.1 ≠ 13 → cdOk r := List.forall_mem_cons.mpr ⟨fun _ => cd_X_count, List.forall_mem_cons.mpr ⟨fun _ => cd_X_finding, List.forall_mem_cons.mpr ⟨fun _ => cd_X_findings, List.forall_mem_cons.mpr ⟨fun _ => cd_X_digest, List.forall_mem_cons.mpr ⟨fun _ => cd_X_tell, List.forall_mem_cons.mpr ⟨fun _ => cd_X_found, List.forall_mem_cons.mpr ⟨fun _ => cd_X_refusalOfPlace, List.forall_mem_cons.mpr ⟨fun _ => cd_X_isRow, List.forall_mem_cons.mpr ⟨fun _ => cd_X_isText, List.forall_mem_cons.mpr ⟨fun _ => cd_X_isKeptPlace, List.forall_mem_cons.mpr ⟨fun _ => cd_X_howManyKept, List.forall_mem_cons.mpr ⟨fun _ => cd_X_isMissing, List.forall_mem_cons.mpr ⟨fun _ => cd_X_howManyThere, List.forall_mem_cons.mpr ⟨fun _ => cd_X_isWithin, List.forall_mem_cons.mpr ⟨fun _ => cd_X_isRise, List.forall_mem_cons.mpr ⟨fun _ => cd_X_contains, List.forall_mem_cons.mpr ⟨fun _ => cd_X_lotBehind, List.forall_mem_cons.mpr ⟨fun _ => cd_X_mixed, List.forall_mem_cons.mpr ⟨fun _ => cd_M_init, List.forall_mem_cons.mpr ⟨fun _ => cd_M_in, List.forall_mem_cons.mpr ⟨fun _ => cd_M_meet, List.forall_mem_cons.mpr ⟨fun _ => cd_M_ask, List.forall_mem_cons.mpr ⟨fun _ => cd_M_part, List.forall_mem_cons.mpr ⟨fun _ => cd_M_has, List.forall_mem_cons.mpr ⟨fun _ => cd_M_sizeOf, List.forall_mem_cons.mpr ⟨fun _ => cd_M_isRow, List.forall_mem_cons.mpr ⟨fun _ => cd_M_isText, List.forall_mem_cons.mpr ⟨fun _ => cd_M_askedRow, List.forall_mem_cons.mpr ⟨fun _ => cd_M_askedText, fun _ h => absurd h List.not_mem_nil⟩⟩⟩⟩⟩⟩⟩⟩⟩⟩⟩⟩⟩⟩⟩⟩⟩⟩⟩⟩⟩⟩⟩⟩⟩⟩⟩⟩⟩
noncomputable def mt_5 : List MRow := [r_M_rowAt, r_M_setRow, r_M_row, r_M_at, r_M_lay, r_M_tear, r_M_copy, r_M_mean, r_M_text, r_M_put, r_M_here, r_M_isFigure, r_M_figure, r_M_kindOf, r_M_readsHead, r_M_readsHouse, r_M_goesOn, r_M_fault, r_M_street, r_M_isHouse, r_M_all, r_M_isSet, r_M_isA, r_M_soundOf, r_M_farOf, r_M_rippleOf, r_M_ripples, r_M_mutes, r_M_houseOf]
theorem ka_5 : ∀ r ∈ mt_5, chkR r = true := List.forall_mem_cons.mpr ⟨k_M_rowAt, List.forall_mem_cons.mpr ⟨k_M_setRow, List.forall_mem_cons.mpr ⟨k_M_row, List.forall_mem_cons.mpr ⟨k_M_at, List.forall_mem_cons.mpr ⟨k_M_lay, List.forall_mem_cons.mpr ⟨k_M_tear, List.forall_mem_cons.mpr ⟨k_M_copy, List.forall_mem_cons.mpr ⟨k_M_mean, List.forall_mem_cons.mpr ⟨k_M_text, List.forall_mem_cons.mpr ⟨k_M_put, List.forall_mem_cons.mpr ⟨k_M_here, List.forall_mem_cons.mpr ⟨k_M_isFigure, List.forall_mem_cons.mpr ⟨k_M_figure, List.forall_mem_cons.mpr ⟨k_M_kindOf, List.forall_mem_cons.mpr ⟨k_M_readsHead, List.forall_mem_cons.mpr ⟨k_M_readsHouse, List.forall_mem_cons.mpr ⟨k_M_goesOn, List.forall_mem_cons.mpr ⟨k_M_fault, List.forall_mem_cons.mpr ⟨k_M_street, List.forall_mem_cons.mpr ⟨k_M_isHouse, List.forall_mem_cons.mpr ⟨k_M_all, List.forall_mem_cons.mpr ⟨k_M_isSet, List.forall_mem_cons.mpr ⟨k_M_isA, List.forall_mem_cons.mpr ⟨k_M_soundOf, List.forall_mem_cons.mpr ⟨k_M_farOf, List.forall_mem_cons.mpr ⟨k_M_rippleOf, List.forall_mem_cons.mpr ⟨k_M_ripples, List.forall_mem_cons.mpr ⟨k_M_mutes, List.forall_mem_cons.mpr ⟨k_M_houseOf, fun _ h => absurd h List.not_mem_nil⟩⟩⟩⟩⟩⟩⟩⟩⟩⟩⟩⟩⟩⟩⟩⟩⟩⟩⟩⟩⟩⟩⟩⟩⟩⟩⟩⟩⟩
theorem ca_5 : ∀ r ∈ mt_5, r.2.2.2.2.1 ≠ 13 → cdOk r := List.forall_mem_cons.mpr ⟨fun _ => cd_M_rowAt, List.forall_mem_cons.mpr ⟨fun _ => cd_M_setRow, List.forall_mem_cons.mpr ⟨fun _ => cd_M_row, List.forall_mem_cons.mpr ⟨fun _ => cd_M_at, List.forall_mem_cons.mpr ⟨fun _ => cd_M_lay, List.forall_mem_cons.mpr ⟨fun _ => cd_M_tear, List.forall_mem_cons.mpr ⟨fun _ => cd_M_copy, List.forall_mem_cons.mpr ⟨fun _ => cd_M_mean, List.forall_mem_cons.mpr ⟨fun _ => cd_M_text, List.forall_mem_cons.mpr ⟨fun _ => cd_M_put, List.forall_mem_cons.mpr ⟨fun _ => cd_M_here, List.forall_mem_cons.mpr ⟨fun _ => cd_M_isFigure, List.forall_mem_cons.mpr ⟨fun _ => cd_M_figure, List.forall_mem_cons.mpr ⟨fun _ => cd_M_kindOf, List.forall_mem_cons.mpr ⟨fun _ => cd_M_readsHead, List.forall_mem_cons.mpr ⟨fun _ => cd_M_readsHouse, List.forall_mem_cons.mpr ⟨fun _ => cd_M_goesOn, List.forall_mem_cons.mpr ⟨fun _ => cd_M_fault, List.forall_mem_cons.mpr ⟨fun _ => cd_M_street, List.forall_mem_cons.mpr ⟨fun _ => cd_M_isHouse, List.forall_mem_cons.mpr ⟨fun _ => cd_M_all, List.forall_mem_cons.mpr ⟨fun _ => cd_M_isSet, List.forall_mem_cons.mpr ⟨fun _ => cd_M_isA, List.forall_mem_cons.mpr ⟨fun _ => cd_M_soundOf, List.forall_mem_cons.mpr ⟨fun _ => cd_M_farOf, List.forall_mem_cons.mpr ⟨fun _ => cd_M_rippleOf, List.forall_mem_cons.mpr ⟨fun _ => cd_M_ripples, List.forall_mem_cons.mpr ⟨fun _ => cd_M_mutes, List.forall_mem_cons.mpr ⟨fun _ => cd_M_houseOf, fun _ h => absurd h List.not_mem_nil⟩⟩⟩⟩⟩⟩⟩⟩⟩⟩⟩⟩⟩⟩⟩⟩⟩⟩⟩⟩⟩⟩⟩⟩⟩⟩⟩⟩⟩
noncomputable def mt_6 : List MRow := [r_M_house, r_M_owes, r_M_mark, r_M_altar, r_M_wall, r_M_hour, r_M_undo, r_M_jar, r_M_loud, r_M_made, r_M_isExempt, r_M_titheOf, r_M_tithe, r_M_pay, r_M_due, r_M_keep, r_M_on, r_M_setFits, r_M_isRise, r_M_fits, r_M_sure, r_M_odds, r_M_thunder, r_M_joined, r_M_joinedBy, r_M_silence, r_M_halfOf, r_M_rises, r_M_wedding]
theorem ka_6 : ∀ r ∈ mt_6, chkR r = true := List.forall_mem_cons.mpr ⟨k_M_house, List.forall_mem_cons.mpr ⟨k_M_owes, List.forall_mem_cons.mpr ⟨k_M_mark, List.forall_mem_cons.mpr ⟨k_M_altar, List.forall_mem_cons.mpr ⟨k_M_wall, List.forall_mem_cons.mpr ⟨k_M_hour, List.forall_mem_cons.mpr ⟨k_M_undo, List.forall_mem_cons.mpr ⟨k_M_jar, List.forall_mem_cons.mpr ⟨k_M_loud, List.forall_mem_cons.mpr ⟨k_M_made, List.forall_mem_cons.mpr ⟨k_M_isExempt, List.forall_mem_cons.mpr ⟨k_M_titheOf, List.forall_mem_cons.mpr ⟨k_M_tithe, List.forall_mem_cons.mpr ⟨k_M_pay, List.forall_mem_cons.mpr ⟨k_M_due, List.forall_mem_cons.mpr ⟨k_M_keep, List.forall_mem_cons.mpr ⟨k_M_on, List.forall_mem_cons.mpr ⟨k_M_setFits, List.forall_mem_cons.mpr ⟨k_M_isRise, List.forall_mem_cons.mpr ⟨k_M_fits, List.forall_mem_cons.mpr ⟨k_M_sure, List.forall_mem_cons.mpr ⟨k_M_odds, List.forall_mem_cons.mpr ⟨k_M_thunder, List.forall_mem_cons.mpr ⟨k_M_joined, List.forall_mem_cons.mpr ⟨k_M_joinedBy, List.forall_mem_cons.mpr ⟨k_M_silence, List.forall_mem_cons.mpr ⟨k_M_halfOf, List.forall_mem_cons.mpr ⟨k_M_rises, List.forall_mem_cons.mpr ⟨k_M_wedding, fun _ h => absurd h List.not_mem_nil⟩⟩⟩⟩⟩⟩⟩⟩⟩⟩⟩⟩⟩⟩⟩⟩⟩⟩⟩⟩⟩⟩⟩⟩⟩⟩⟩⟩⟩
theorem ca_6 : ∀ r ∈ mt_6, r.2.2.2.2.1 ≠ 13 → cdOk r := List.forall_mem_cons.mpr ⟨fun _ => cd_M_house, List.forall_mem_cons.mpr ⟨fun _ => cd_M_owes, List.forall_mem_cons.mpr ⟨fun _ => cd_M_mark, List.forall_mem_cons.mpr ⟨fun _ => cd_M_altar, List.forall_mem_cons.mpr ⟨fun _ => cd_M_wall, List.forall_mem_cons.mpr ⟨fun _ => cd_M_hour, List.forall_mem_cons.mpr ⟨fun _ => cd_M_undo, List.forall_mem_cons.mpr ⟨fun _ => cd_M_jar, List.forall_mem_cons.mpr ⟨fun _ => cd_M_loud, List.forall_mem_cons.mpr ⟨fun _ => cd_M_made, List.forall_mem_cons.mpr ⟨fun _ => cd_M_isExempt, List.forall_mem_cons.mpr ⟨fun _ => cd_M_titheOf, List.forall_mem_cons.mpr ⟨fun _ => cd_M_tithe, List.forall_mem_cons.mpr ⟨fun _ => cd_M_pay, List.forall_mem_cons.mpr ⟨fun _ => cd_M_due, List.forall_mem_cons.mpr ⟨fun _ => cd_M_keep, List.forall_mem_cons.mpr ⟨fun _ => cd_M_on, List.forall_mem_cons.mpr ⟨fun _ => cd_M_setFits, List.forall_mem_cons.mpr ⟨fun _ => cd_M_isRise, List.forall_mem_cons.mpr ⟨fun _ => cd_M_fits, List.forall_mem_cons.mpr ⟨fun _ => cd_M_sure, List.forall_mem_cons.mpr ⟨fun _ => cd_M_odds, List.forall_mem_cons.mpr ⟨fun _ => cd_M_thunder, List.forall_mem_cons.mpr ⟨fun _ => cd_M_joined, List.forall_mem_cons.mpr ⟨fun _ => cd_M_joinedBy, List.forall_mem_cons.mpr ⟨fun _ => cd_M_silence, List.forall_mem_cons.mpr ⟨fun _ => cd_M_halfOf, List.forall_mem_cons.mpr ⟨fun _ => cd_M_rises, List.forall_mem_cons.mpr ⟨fun _ => cd_M_wedding, fun _ h => absurd h List.not_mem_nil⟩⟩⟩⟩⟩⟩⟩⟩⟩⟩⟩⟩⟩⟩⟩⟩⟩⟩⟩⟩⟩⟩⟩⟩⟩⟩⟩⟩⟩
noncomputable def mt_7 : List MRow := [r_M_feathers, r_M_most, r_M_hours, r_M_year, r_M_debt, r_M_balanceOf, r_M_balance, r_M_payments, r_M_net, r_M_crickets, r_M_sings, r_M_asked, r_M_upper, r_M_lower, r_M_counts, r_M_count, r_M_finding, r_M_findings, r_M_mix, r_M_mixStreet, r_M_digest, r_J_bitCount, r_L_law]
theorem ka_7 : ∀ r ∈ mt_7, chkR r = true := List.forall_mem_cons.mpr ⟨k_M_feathers, List.forall_mem_cons.mpr ⟨k_M_most, List.forall_mem_cons.mpr ⟨k_M_hours, List.forall_mem_cons.mpr ⟨k_M_year, List.forall_mem_cons.mpr ⟨k_M_debt, List.forall_mem_cons.mpr ⟨k_M_balanceOf, List.forall_mem_cons.mpr ⟨k_M_balance, List.forall_mem_cons.mpr ⟨k_M_payments, List.forall_mem_cons.mpr ⟨k_M_net, List.forall_mem_cons.mpr ⟨k_M_crickets, List.forall_mem_cons.mpr ⟨k_M_sings, List.forall_mem_cons.mpr ⟨k_M_asked, List.forall_mem_cons.mpr ⟨k_M_upper, List.forall_mem_cons.mpr ⟨k_M_lower, List.forall_mem_cons.mpr ⟨k_M_counts, List.forall_mem_cons.mpr ⟨k_M_count, List.forall_mem_cons.mpr ⟨k_M_finding, List.forall_mem_cons.mpr ⟨k_M_findings, List.forall_mem_cons.mpr ⟨k_M_mix, List.forall_mem_cons.mpr ⟨k_M_mixStreet, List.forall_mem_cons.mpr ⟨k_M_digest, List.forall_mem_cons.mpr ⟨k_J_bitCount, List.forall_mem_cons.mpr ⟨k_L_law, fun _ h => absurd h List.not_mem_nil⟩⟩⟩⟩⟩⟩⟩⟩⟩⟩⟩⟩⟩⟩⟩⟩⟩⟩⟩⟩⟩⟩⟩
theorem ca_7 : ∀ r ∈ mt_7, r.2.2.2.2.1 ≠ 13 → cdOk r := List.forall_mem_cons.mpr ⟨fun _ => cd_M_feathers, List.forall_mem_cons.mpr ⟨fun _ => cd_M_most, List.forall_mem_cons.mpr ⟨fun _ => cd_M_hours, List.forall_mem_cons.mpr ⟨fun _ => cd_M_year, List.forall_mem_cons.mpr ⟨fun _ => cd_M_debt, List.forall_mem_cons.mpr ⟨fun _ => cd_M_balanceOf, List.forall_mem_cons.mpr ⟨fun _ => cd_M_balance, List.forall_mem_cons.mpr ⟨fun _ => cd_M_payments, List.forall_mem_cons.mpr ⟨fun _ => cd_M_net, List.forall_mem_cons.mpr ⟨fun _ => cd_M_crickets, List.forall_mem_cons.mpr ⟨fun _ => cd_M_sings, List.forall_mem_cons.mpr ⟨fun _ => cd_M_asked, List.forall_mem_cons.mpr ⟨fun _ => cd_M_upper, List.forall_mem_cons.mpr ⟨fun _ => cd_M_lower, List.forall_mem_cons.mpr ⟨fun _ => cd_M_counts, List.forall_mem_cons.mpr ⟨fun _ => cd_M_count, List.forall_mem_cons.mpr ⟨fun _ => cd_M_finding, List.forall_mem_cons.mpr ⟨fun _ => cd_M_findings, List.forall_mem_cons.mpr ⟨fun _ => cd_M_mix, List.forall_mem_cons.mpr ⟨fun _ => cd_M_mixStreet, List.forall_mem_cons.mpr ⟨fun _ => cd_M_digest, List.forall_mem_cons.mpr ⟨fun _ => cd_J_bitCount, List.forall_mem_cons.mpr ⟨fun h => absurd (show (13 : Nat) = 13 from rfl) h, fun _ h => absurd h List.not_mem_nil⟩⟩⟩⟩⟩⟩⟩⟩⟩⟩⟩⟩⟩⟩⟩⟩⟩⟩⟩⟩⟩⟩⟩
set_option maxRecDepth 40000 in
theorem mt_eq : MT = (mt_0) ++ ((mt_1) ++ ((mt_2) ++ ((mt_3) ++ ((mt_4) ++ ((mt_5) ++ ((mt_6) ++ (mt_7))))))) := rfl
theorem ka_all : ∀ r ∈ MT, chkR r = true := by
  rw [mt_eq]
  exact List.forall_mem_append.mpr ⟨ka_0, List.forall_mem_append.mpr ⟨ka_1, List.forall_mem_append.mpr ⟨ka_2, List.forall_mem_append.mpr ⟨ka_3, List.forall_mem_append.mpr ⟨ka_4, List.forall_mem_append.mpr ⟨ka_5, List.forall_mem_append.mpr ⟨ka_6, ka_7⟩⟩⟩⟩⟩⟩⟩
theorem ca_all : ∀ r ∈ MT, r.2.2.2.2.1 ≠ 13 → cdOk r := by
  rw [mt_eq]
  exact List.forall_mem_append.mpr ⟨ca_0, List.forall_mem_append.mpr ⟨ca_1, List.forall_mem_append.mpr ⟨ca_2, List.forall_mem_append.mpr ⟨ca_3, List.forall_mem_append.mpr ⟨ca_4, List.forall_mem_append.mpr ⟨ca_5, List.forall_mem_append.mpr ⟨ca_6, ca_7⟩⟩⟩⟩⟩⟩⟩
theorem ma_z8 : ((metL.zip MT).drop 232).all chkM = true := rfl
theorem ma_z7 : ((metL.zip MT).drop 203).all chkM = true := all_cut 29 metL_ok_7 (by rw [List.drop_drop]; exact ma_z8)
theorem ma_z6 : ((metL.zip MT).drop 174).all chkM = true := all_cut 29 metL_ok_6 (by rw [List.drop_drop]; exact ma_z7)
theorem ma_z5 : ((metL.zip MT).drop 145).all chkM = true := all_cut 29 metL_ok_5 (by rw [List.drop_drop]; exact ma_z6)
theorem ma_z4 : ((metL.zip MT).drop 116).all chkM = true := all_cut 29 metL_ok_4 (by rw [List.drop_drop]; exact ma_z5)
theorem ma_z3 : ((metL.zip MT).drop 87).all chkM = true := all_cut 29 metL_ok_3 (by rw [List.drop_drop]; exact ma_z4)
theorem ma_z2 : ((metL.zip MT).drop 58).all chkM = true := all_cut 29 metL_ok_2 (by rw [List.drop_drop]; exact ma_z3)
theorem ma_z1 : ((metL.zip MT).drop 29).all chkM = true := all_cut 29 metL_ok_1 (by rw [List.drop_drop]; exact ma_z2)
theorem ma_z0 : ((metL.zip MT).drop 0).all chkM = true := all_cut 29 metL_ok_0 (by rw [List.drop_drop]; exact ma_z1)
theorem ma_all : (metL.zip MT).all chkM = true := ma_z0
theorem la_z5 : ((lnkL).drop 300).all chkK = true := rfl
theorem la_z4 : ((lnkL).drop 240).all chkK = true := all_cut 60 lnkL_ok_4 (by rw [List.drop_drop]; exact la_z5)
theorem la_z3 : ((lnkL).drop 180).all chkK = true := all_cut 60 lnkL_ok_3 (by rw [List.drop_drop]; exact la_z4)
theorem la_z2 : ((lnkL).drop 120).all chkK = true := all_cut 60 lnkL_ok_2 (by rw [List.drop_drop]; exact la_z3)
theorem la_z1 : ((lnkL).drop 60).all chkK = true := all_cut 60 lnkL_ok_1 (by rw [List.drop_drop]; exact la_z2)
theorem la_z0 : ((lnkL).drop 0).all chkK = true := all_cut 60 lnkL_ok_0 (by rw [List.drop_drop]; exact la_z1)
theorem la_all : lnkL.all chkK = true := la_z0
end
section
/-! WHAT THE SMALL MACHINE DOES, THE JVM DOES: calls, ends, whole methods. -/
abbrev rNm (r : MRow) : MethodName := r.1
abbrev rOc (r : MRow) : Nat := r.2.2.2.2.1
abbrev rRm (r : MRow) : Nat × Nat := r.2.2.2.2.2.2.2.1
abbrev rCp (r : MRow) : Nat × Nat := r.2.2.2.2.2.2.2.2
def wsR (r : MRow) : List Cond := Cond.code r.1 r.2.1 r.2.2.1 r.2.2.2.1 :: gw
def rmR (r : MRow) : Room := { frames := (rRm r).1, cells := (rCp r).1, slots := (rCp r).2, locals := (rRm r).2 }
def PreM (B b L : Nat) (xs : Nat → Int32) (kd : Nat → Nat) (D : va_G) (ad : Id3 → Nat) (m : Mem) (U : State) : Prop :=
  REL B b L xs kd D U ad m U.heap ∧ va_K D clsT [] U ∧ B ≤ U.heap.size ∧ va_En "NoiseTithe$Kind" "LNoiseTithe$Kind;" KN KFL kd (AB B) U U.heap ∧ va_X b L xs U U.heap ∧ ∀ w ∈ nw, w.before #[] U = true
def PcM (B b L : Nat) (xs : Nat → Int32) (kd : Nat → Nat) (D : va_G) (ad : Id3 → Nat) (as : List Vv) (m : Mem) : Array Value → State → Prop := fun v U => v = (as.map (cv ad)).toArray ∧ PreM B b L xs kd D ad m U
def QcM (B b L : Nat) (xs : Nat → Int32) (kd : Nat → Nat) (D : va_G) (ad : Id3 → Nat) (m : Mem) (K : Option Vv → Mem → Prop) : Array Value → State → Outcome → State → Prop := fun _ st o t =>
  (∃ (v : Option Vv) (m' : Mem) (ad' : Id3 → Nat), o = .returned (v.map (cv ad')) ∧ K v m' ∧ REL B b L xs kd D t ad' m' t.heap ∧ (∀ x, alc m x → alc m' x ∧ ad' x = ad x) ∧ ∀ w, v = some w → vok L m' w) ∧ va_F (AB B) st t
/-- the calls are sound -/
def SND (l : Launch) (B b L : Nat) (xs : Nat → Int32) (kd : Nat → Nat) (C : CT) : Prop := ∀ (y : Nat) (as : List Vv) (m : Mem) (K : Option Vv → Mem → Prop) (r : MRow), C y as m K → MT[y]? = some r → rOc r ≠ 13 → plainName (rNm r).cls = true → ∀ (D : va_G) (ad : Id3 → Nat), (∀ v ∈ as, vok L m v) → Met l (rNm r) (wsR r) (rmR r) (PcM B b L xs kd D ad as m) (QcM B b L xs kd D ad m K) (rCp r).1 (rCp r).2 (AB B)
theorem nw_vm {w : Cond} (hw : w ∈ nw) {A A' : Array Value} {u U : State} (hv : u.vm = U.vm) (h : w.before A u = true) : w.before A' U = true := by
  have hn := (List.mem_filter.mp hw).2
  cases w <;> first | (exact Bool.noConfusion hn) | (exact va_tabs rfl hv h) | skip
  have h2 := (Cond.arrayOver_setVmC (args := A) (s := u) (vm' := U.vm) (by rw [hv]; exact Vm.Alike.refl _) _).trans h
  exact h2
theorem nw_warm {w : Cond} (hw : w ∈ nw) {A A' : Array Value} {s U : State} (hW : s.WarmedH U.vm) (h : w.before A s = true) : w.before A' U = true := by
  have h0 : w.before #[] s = true := nw_vm hw rfl h
  have hn := (List.mem_filter.mp hw).2
  cases w <;> first | (exact Bool.noConfusion hn) | (exact nw_vm hw rfl (va_Nw.warmF hW h0)) | (exact nw_vm hw rfl (va_Nw.warmM hW h0)) | skip
  have h2 := (Cond.arrayOver_setVmC (args := A') (s := s) (vm' := U.vm) hW.alike _).trans (nw_vm (A' := A') hw rfl h)
  exact h2
theorem PcM_blind {B b L : Nat} {xs : Nat → Int32} {kd : Nat → Nat} {D : va_G} {ad : Id3 → Nat} {as : List Vv} {m : Mem} : FrameBlind (PcM B b L xs kd D ad as m) := by
  intro a U g mk h
  obtain ⟨h1, h2, h3, h4, h5, h6, h7⟩ := h
  exact ⟨h1, REL.moved (u := U) (U := U.calling g mk a) (Vm.Alike.refl U.vm) h2, va_K.moved (u := U) (U := U.calling g mk a) (Vm.Alike.refl U.vm) h3, h4, va_En.moved (u := U) (U := U.calling g mk a) (Vm.Alike.refl U.vm) h5, va_X.moved (u := U) (U := U.calling g mk a) (Vm.Alike.refl U.vm) h6, fun w hw => nw_vm hw (u := U) rfl (h7 w hw)⟩
theorem cp0 : MT.all (fun r => !(Nat.beq (rCp r).1 0) || Nat.beq (rCp r).2 0) = true := by decide +kernel
theorem ma_13 : (metL.zip MT).all (fun e => Nat.beq e.1.1 9 || !(Nat.beq (rOc e.2) 13)) = true := by decide +kernel
section TE
variable {p : Program} {l : Launch} {e : Env} {R : Room} {s : State} {mm : MethodId} {args : Array Value} {below : List Frame} {meth : Method} {c : Code} {Q : State → Prop} {cc : ByteArray} {nL oc B b L : Nat} {xs : Nat → Int32} {kd : Nat → Nat} {D : va_G} {m0 : Mem} {ad0 ad : Id3 → Nat} {pcs : List Nat}
  {C : CT} {cap : Nat × Nat} {K : Option Vv → Mem → Prop} {ls st : List Vv} {m : Mem} {uc us pc nx a : Nat} {H : Heap} {locs : List Loc} {lsC : Array Slot}
theorem pre_at (X : CTX p s mm args c cc nL oc B b L xs kd D) (T : ST B b L xs kd D s nL m0 ad0 ad H locs lsC ls st m) {U : State} (hU : U.heap = H) (hW : s.WarmedH U.vm) : PreM B b L xs kd D ad m U := by
  have hB : B ≤ H.size := Nat.le_trans X.2.2.2.2.2.2.2.1 T.2.1.1
  have hk : ∀ q : Nat, q < s.heap.size → ¬ AB B q → H[q]? = s.heap[q]? := T.2.1.2.1
  refine ⟨by rw [hU]; exact T.1.moved hW.alike, va_K.moved hW.alike X.2.2.2.2.2.2.1, by rw [hU]; exact hB, ?_, ?_, fun w hw => nw_warm hw hW (X.2.2.2.2.2.1 w hw)⟩
  · rw [hU]
    exact va_En.moved hW.alike (X.2.2.2.2.2.2.2.2.1.kept hk)
  · rw [hU]
    refine va_X.moved hW.alike (X.2.2.2.2.2.2.2.2.2.1.kept (hk b (Nat.lt_of_lt_of_le X.2.2.2.2.2.2.2.2.2.2 X.2.2.2.2.2.2.2.1) (fun q : B ≤ b => absurd X.2.2.2.2.2.2.2.2.2.2 (Nat.not_lt.mpr q))))
theorem sx_fin {rest : List Vv} {st0 : List Value} {mc ms : Nat} {A : Array Value} (X : CTX p s mm args c cc nL oc B b L xs kd D) (T : ST B b L xs kd D s nL m0 ad0 ad H locs lsC ls st m) (hrest : ∀ v ∈ rest, vok L m v)
    (hr : va_Run p l e R s mm args below meth c H locs uc us mc ms (F0 mm pc lsC st0) (rest.map (cv ad)) (QcM B b L xs kd D ad m K A) (AB B)) (hf : pcs[nx]? = some (pc + 3))
    (g : ∀ v m', K v m' → PW p l e R s mm args below meth c Q B b L xs kd D nL m0 ad0 pcs nx ls (inL v rest) m' (uc + mc) (us + ms)) : W p l e R s mm args below meth c H locs uc us Q (F0 mm pc lsC st0) := by
  intro T0 hT X0
  obtain ⟨v, st₀, t, T', Lc, h0, X', hL, e1, e2, ⟨⟨w, m', ad', hv, hK, hrel, hal, hvk⟩, hz, hk⟩, stp⟩ := hr T0 hT X0
  have hv := Outcome.returned.inj hv
  subst hv
  rw [h0] at hz hk
  have hvm : s.vm.Alike t.vm := by rw [← e2]; exact X'.warmed.alike
  obtain ⟨t1, t2, t3, t4, t5, t6⟩ := T
  have hrel' : REL B b L xs kd D s ad' m' T'.heap := by rw [e1]; exact hrel.moved hvm.symm
  have hll : ∀ x, live L m x → live L m' x := fun x hx => hx.imp (fun q => (hal x q).1) id
  have hlive : ∀ x, live L m x → ad' x = ad x := by
    intro x hx
    rcases hx with h | ⟨h1, h2, h3⟩ | rfl
    · exact (hal x h).2
    · obtain ⟨xa, xt, xi⟩ := x
      dsimp only at h1 h2
      subst h1; subst h2
      exact (hrel.2.2.2.2.1 xi).trans (t1.2.2.2.2.1 xi).symm
    · exact hrel.2.2.2.2.2.1.trans t1.2.2.2.2.2.1.symm
  have hvr : ∀ v ∈ rest, vok L m' v := fun v hv r hr => hll r (hrest v hv r hr)
  have T1 : ST B b L xs kd D s nL m0 ad0 ad' T'.heap (locs ++ Lc) lsC ls (inL w rest) m' := by
    refine ⟨hrel', ⟨Nat.le_trans t2.1 (by rw [e1]; exact hz), fun q g1 g2 => ?_, fun q hq => ?_⟩, t3.ext hlive t4, fun v hv r hr => hll r (t4 v hv r hr), fun v hv => ?_, fun o ho => ⟨(hal o (t6 o ho).1).1, (hal o (t6 o ho).1).2.trans (t6 o ho).2⟩⟩
    · rw [e1, hk q (Nat.lt_of_lt_of_le g1 t2.1) g2]
      exact t2.2.1 q g1 g2
    · rcases List.mem_append.mp hq with h | h
      · exact t2.2.2 q h
      · exact hL q h
    · cases w with
      | none => exact hvr v hv
      | some w =>
        rcases List.mem_cons.mp hv with rfl | hv
        · exact hvk _ rfl
        · exact hvr v hv
  obtain ⟨t', a1, b1⟩ := g w m' hK _ hf ad' T'.heap (locs ++ Lc) lsC T1 T' rfl X'
  refine ⟨t', stp t' ?_, b1⟩
  have hst : (inL w rest).map (cv ad') = (w.map (cv ad')).toList ++ rest.map (cv ad) := by
    cases w with
    | none => exact cvs_ext hlive hrest
    | some w => exact congrArg (cv ad' w :: ·) (cvs_ext hlive hrest)
  rw [hst] at a1
  exact a1
theorem recv_at (X : CTX p s mm args c cc nL oc B b L xs kd D) (T : ST B b L xs kd D s nL m0 ad0 ad H locs lsC ls st m) {o : Id3} (hlv : live L m o) (h8 : sh o ≤ 8) : ∃ cell : Cell, H[ad o]? = some cell ∧ cell.vm.isStatics = false ∧ s.vm.findClass (clsN (sh o)) = some cell.cls := by
  by_cases h : sh o < 8
  · have hal := live_alc hlv (by omega) (by omega)
    obtain ⟨r', h1, cell, g1, g2, g3, -⟩ := (T.cell hal).2.1 h
    have hcl := clsT_at h
    have hr : r' = (clsN (sh o), (fun k => fT (sh o) k), fN (sh o)) := Option.some.inj (h1.symm.trans hcl)
    exact ⟨cell, g1, by rw [g3]; rfl, by rw [g2]; exact (X.2.2.2.2.2.2.1.1 _ _ hcl).2.1⟩
  · have h8 : sh o = 8 := by omega
    obtain ⟨h1, h2, h3⟩ := live_kind hlv h8
    obtain ⟨oa, ot, oi⟩ := o
    dsimp only at h1 h2 h3
    subst h1; subst h2
    rw [T.1.2.2.2.2.1 oi]
    exact va_recvE X.2.2.2.2.2.2.2.2.1 h3 T.2.1
theorem zip_at {a : Nat} {q : Nat × Nat × Nat × Nat × Nat × Nat} {r : MRow} (h1 : metL[a]? = some q) (h2 : MT[a]? = some r) : (q, r) ∈ metL.zip MT := List.mem_of_getElem? (i := a) (by rw [List.getElem?_zip_eq_some]; exact ⟨h1, h2⟩)
/-- what the check says of a call -/
theorem callF {k i n mc ms c' rf rl : Nat} (h : chkCall k oc i a n mc ms c' rf rl = true) (hk : k = 0 ∨ k = 1 ∨ k = 2) : ∃ (r : MRow) (pl : Nat) (nest : Bool) (np : Nat), MT[a]? = some r ∧ rOc r ≠ 13 ∧ cdOk r ∧ (match nest with
      | true => Cond.methodLinkNest (clsN oc) i (rNm r) "NoiseTithe" ∈ nw
      | false => Cond.methodLink (clsN oc) i (rNm r) ∈ gw) ∧ Cond.initialized (rNm r).cls ∈ gw ∧ (k = 0 → Cond.instanceMethod (rNm r) ∈ gw ∧ Cond.selects (rNm r).cls (rNm r) (rNm r) ∈ gw ∧ n = np + 1 ∧ (rNm r).cls = clsN c' ∧ c' ≤ 8) ∧ (k = 1 → Cond.static (rNm r) ∈ gw ∧ n = np) ∧ (k = 2 → Cond.instanceMethod (rNm r) ∈ gw ∧ (rNm r).name = "<init>" ∧ r.2.2.2.1 = none ∧ n = np + 1 ∧ c' = 98) ∧
      plainName (rNm r).cls = true ∧ (rNm r).cls ≠ "java/lang/invoke/MethodHandle" ∧ (rNm r).cls ≠ "java/lang/invoke/VarHandle" ∧ (parseMethodDescriptor (rNm r).desc).map (fun d => d.parameters.length) = some np ∧ rCp r = (mc, ms) ∧ (rRm r).1 + 1 ≤ rf ∧ 8 + (r.2.2.1 + 11) + (rRm r).2 ≤ rl ∧ (mc = 0 → ms = 0) := by
  unfold chkCall at h
  rw [Bool.and_eq_true] at h
  obtain ⟨hl, hm⟩ := h
  obtain ⟨⟨oc', i', a', pl, nest⟩, hin, hq⟩ := any_of hl
  simp only [Bool.and_eq_true, Nat.beq_eq] at hq
  obtain ⟨⟨rfl, rfl⟩, rfl⟩ := hq
  have hlk := all_at la_all hin
  unfold chkK at hlk
  cases hme : metL[a']? with
  | none => rw [hme] at hm; exact absurd hm (by simp)
  | some q =>
    cases hmt : MT[a']? with
    | none => rw [hme, hmt] at hm; exact absurd hm (by simp)
    | some r =>
      rw [hme, hmt] at hm
      obtain ⟨k', pc', pi, pk, ps, np⟩ := q
      have hz := zip_at hme hmt
      have hcm := all_at ma_all hz
      have h13 := all_at ma_13 hz
      have hnm : mNm a' = rNm r := by unfold mNm; rw [hmt]
      obtain ⟨y, cc', nL', ret', oc2, cd, pcs', ⟨f, w⟩, ⟨mc', ms'⟩⟩ := r
      simp only [Bool.and_eq_true, Nat.beq_eq] at hm
      obtain ⟨⟨⟨⟨⟨⟨hkk, hn⟩, hmc⟩, hms⟩, hfr⟩, hlo⟩, hrc⟩ := hm
      subst hkk; subst hmc; subst hms
      have hk9 : k ≠ 9 := by omega
      have hoc : oc2 ≠ 13 := by
        simp only [Bool.or_eq_true, Nat.beq_eq, Bool.not_eq_true'] at h13
        rcases h13 with h | h
        · exact absurd h hk9
        · intro e
          have h : Nat.beq oc2 13 = false := h
          rw [e] at h
          cases h
      have hmem : ((y, cc', nL', ret', oc2, cd, pcs', (f, w), mc, ms) : MRow) ∈ MT := List.mem_of_getElem? hmt
      have hcd := ca_all _ hmem hoc
      have hcp := all_at cp0 hmem
      unfold chkM at hcm
      have hcm : (inTbl pi (.initialized y.cls) && (match (generalizing := false) k with
    | 0 => inTbl pk (.instanceMethod y) && inTbl ps (.selects y.cls y y)
    | 1 => inTbl pk (.static y)
    | _ => inTbl pk (.instanceMethod y) && decide (y.name = "<init>") && decide (ret' = none)) && decide (y.cls = clsN oc2) && plainName y.cls && decide (y.cls ≠ "java/lang/invoke/MethodHandle") && decide (y.cls ≠ "java/lang/invoke/VarHandle") && decide ((parseMethodDescriptor y.desc).map (fun d => d.parameters.length) = some np)) = true := by
        rcases hk with rfl | rfl | rfl <;> exact hcm
      simp only [Bool.and_eq_true, decide_eq_true_eq] at hcm
      obtain ⟨⟨⟨⟨⟨⟨hi1, hi2⟩, hi3⟩, hi4⟩, hi5⟩, hi6⟩, hi7⟩ := hcm
      refine ⟨_, pl, nest, np, rfl, hoc, hcd, ?_, gw_in hi1, fun hk0 => ?_, fun hk1 => ?_, fun hk2 => ?_, hi4, hi5, hi6, hi7, rfl, Nat.le_of_ble_eq_true hfr, Nat.le_of_ble_eq_true hlo, fun hz0 => ?_⟩
      · cases nest with
        | true =>
          have hlk : inNw pl (.methodLinkNest (clsN oc') i' (mNm a') "NoiseTithe") = true := hlk
          rw [hnm] at hlk
          exact nw_in hlk
        | false =>
          have hlk : inTbl pl (.methodLink (clsN oc') i' (mNm a')) = true := hlk
          rw [hnm] at hlk
          exact gw_in hlk
      · subst hk0
        simp only [Bool.and_eq_true] at hi2 hrc
        have hcc : c' = oc2 := Nat.eq_of_beq_eq_true hrc.1
        exact ⟨gw_in hi2.1, gw_in hi2.2, Nat.eq_of_beq_eq_true hn, by rw [hcc]; exact hi3, Nat.le_of_ble_eq_true hrc.2⟩
      · subst hk1
        exact ⟨gw_in hi2, Nat.eq_of_beq_eq_true hn⟩
      · subst hk2
        simp only [Bool.and_eq_true, decide_eq_true_eq] at hi2
        exact ⟨gw_in hi2.1.1, hi2.1.2, hi2.2, Nat.eq_of_beq_eq_true hn, Nat.eq_of_beq_eq_true hrc⟩
      · have hcp : (!(Nat.beq mc 0) || Nat.beq ms 0) = true := hcp
        rw [hz0] at hcp
        exact Nat.eq_of_beq_eq_true hcp
theorem good_gw {ws : List Cond} (h : ∀ w ∈ ws, w ∈ gw) : GoodIn gw ws := fun w hw => ⟨h w hw, good_of_word (List.mem_filter.mp (h w hw)).2⟩
theorem wsR_in {r : MRow} (h : cdOk r) : ∀ w ∈ wsR r, w ∈ gw := by
  intro w hw
  rcases List.mem_cons.mp hw with rfl | hw
  · exact List.mem_filter.mpr ⟨h, rfl⟩
  · exact hw
theorem take_map {n : Nat} {st : List Vv} (h : n ≤ st.length) : st.map (cv ad) = ((st.take n).reverse.map (cv ad)).reverse ++ (st.drop n).map (cv ad) := by
  rw [List.map_reverse, List.reverse_reverse, ← List.map_append, List.take_append_drop]
theorem sx_call {k i n mc ms c' rf rl : Nat} (X : CTX p s mm args c cc nL oc B b L xs kd D) (Snd : SND l B b L xs kd C) (hcap : cap.1 ≤ R.cells ∧ cap.2 ≤ R.slots) (hR : rf ≤ R.frames ∧ rl ≤ R.locals) (hk : k = 0 ∨ k = 1 ∨ k = 2) (hchk : chkCall k oc i a n mc ms c' rf rl = true)
    (hd : (k = 0 ∧ decode cc pc = .ok (.invokevirtual i, 3)) ∨ (k = 1 ∧ decode cc pc = .ok (.invokestatic i, 3)) ∨ (k = 2 ∧ decode cc pc = .ok (.invokespecial i, 3))) (hf : pcs[nx]? = some (pc + 3)) (hu : uc ≤ cap.1 ∧ us ≤ cap.2)
    (hs : stepE C cap (PW p l e R s mm args below meth c Q B b L xs kd D nL m0 ad0 pcs) K (eCall a n nx [mc, ms, c'] ls st m uc us)) (T : ST B b L xs kd D s nL m0 ad0 ad H locs lsC ls st m) : W p l e R s mm args below meth c H locs uc us Q (F0 mm pc lsC (st.map (cv ad))) := by
  obtain ⟨r, pl, nest, np, hmt, hoc, hcd, hlink, hinit, hk0, hk1, hk2, hpn, hn1, hn2, hdesc, hcp, hfr, hlo, hz⟩ := callF hchk hk
  unfold eCall at hs
  dsimp only at hs
  split at hs
  rotate_left
  · exact absurd hs id
  rename_i hb
  rw [Bool.and_eq_true, Bool.and_eq_true] at hb
  obtain ⟨hb1, hb2, hb3⟩ := hb
  have hlen : n ≤ st.length := Nat.le_of_ble_eq_true hb1
  have hcat : ctgs (st.drop n) ≤ 8 := Nat.le_of_ble_eq_true hb2
  generalize has : (st.take n).reverse = as at hs hb3
  generalize hrs : st.drop n = rest at hs hcat
  have hlas : as.length = n := by rw [← has, List.length_reverse, List.length_take]; omega
  have hmap : st.map (cv ad) = (as.map (cv ad)).reverse ++ rest.map (cv ad) := by rw [← has, ← hrs]; exact take_map hlen
  have hva : ∀ v ∈ as, vok L m v := fun v hv => T.2.2.2.2.1 v (List.mem_of_mem_take (List.mem_reverse.mp (by rw [has]; exact hv)))
  have hvr : ∀ v ∈ rest, vok L m v := fun v hv => T.2.2.2.2.1 v (List.mem_of_mem_drop (by rw [hrs]; exact hv))
  -- the call and what comes behind it, in one shape
  have hC : C a as m (fun v m' => PW p l e R s mm args below meth c Q B b L xs kd D nL m0 ad0 pcs nx ls (inL v rest) m' (uc + mc) (us + ms)) ∧ uc + mc ≤ cap.1 ∧ us + ms ≤ cap.2 := by
    cases hmc : mc with
    | zero =>
      rw [hmc] at hs hz
      have hms := hz rfl
      subst hms
      exact ⟨hs, by omega, by omega⟩
    | succ q =>
      rw [hmc] at hs
      exact ⟨hs.2, hs.1⟩
  obtain ⟨hC, hC1, hC2⟩ := hC
  have hM := Snd a as m _ r hC hmt hoc hpn D ad hva
  rw [hcp] at hM
  have hrc : (rmR r).cells = mc := by show (rCp r).1 = mc; rw [hcp]
  have hrs2 : (rmR r).slots = ms := by show (rCp r).2 = ms; rw [hcp]
  have hroom : (rmR r).frames + 1 ≤ R.frames ∧ 8 + (r.2.2.1 + 11) + (rmR r).locals ≤ R.locals := ⟨Nat.le_trans hfr hR.1, Nat.le_trans hlo hR.2⟩
  have hG : GoodIn gw (wsR r) := good_gw (wsR_in hcd)
  have hts := X.2.2.2.2.1
  have hini := hts _ hinit
  have hlen' : ∀ sig, parseMethodDescriptor (rNm r).desc = some sig → np = sig.parameters.length := fun sig h => by
    rw [h] at hdesc
    exact (Option.some.inj hdesc).symm
  have hcode : Cond.code (rNm r) r.2.1 r.2.2.1 r.2.2.2.1 ∈ wsR r := List.mem_cons_self
  have hfin : uc + mc ≤ R.cells ∧ us + ms ≤ R.slots := ⟨Nat.le_trans hC1 hcap.1, Nat.le_trans hC2 hcap.2⟩
  have hsize : (F0 mm pc lsC (st.map (cv ad))).locals.size = nL := T.2.2.1.1
  have hww : 2 * (F0 mm pc lsC (st.map (cv ad))).monitorRoom + ((rest.map (cv ad)).map fun v => v.category).sum ≤ 8 := lv_room (by rw [cvs_cat]; exact hcat)
  have hCF : CallFix p mm c cc nL s args gw (clsN oc) := ⟨X.1, X.2.1, X.2.2.1, X.2.2.2.1, hts⟩
  have hB0 : rmR r = rmR r ∧ True := ⟨rfl, trivial⟩
  have hPS : ∀ U : State, U.heap = H → s.WarmedH U.vm → PcM B b L xs kd D ad as m (as.map (cv ad)).toArray U := fun U hU hW => ⟨rfl, pre_at X T hU hW⟩
  have hCB : nest = false → CallB R s args (clsN oc) i (rNm r) r.2.1 r.2.2.1 r.2.2.2.1 (wsR r) (rmR r) mc ms np := fun hn => by
    subst hn
    exact ⟨hrc, hrs2, hroom.1, hroom.2, pay_in hts hG, hcode, hts _ (wsR_in hcd _ hcode), hini, ⟨hn1, hn2⟩, hlen', hts _ hlink⟩
  have hCN : nest = true → va_CN R s args (clsN oc) i (rNm r) "NoiseTithe" r.2.1 r.2.2.1 r.2.2.2.1 (wsR r) (rmR r) mc ms np := fun hn => by
    subst hn
    exact ⟨⟨hrc, hrs2, hroom.1, hroom.2, pay_in hts hG, hcode⟩, hts _ (wsR_in hcd _ hcode), hini, ⟨hn1, hn2⟩, hlen', X.2.2.2.2.2.1 _ hlink⟩
  rcases hd with ⟨rfl, hd⟩ | ⟨rfl, hd⟩ | ⟨rfl, hd⟩
  · obtain ⟨hin, hsel, hnp, hcls, hc8⟩ := hk0 rfl
    -- the receiver
    have h99 : Nat.beq c' 99 = false := by
      cases h : Nat.beq c' 99 with
      | false => rfl
      | true => have := Nat.eq_of_beq_eq_true h; omega
    unfold rcv at hb3
    rw [h99] at hb3
    rcases as with _ | ⟨v0, As⟩
    · exact absurd hb3 (by simp)
    rcases v0 with x | x | (_ | o) | u
    · exact absurd hb3 (by simp)
    · exact absurd hb3 (by simp)
    · exact absurd hb3 (by simp)
    · have hso : sh o = c' := by
        rcases Bool.or_eq_true _ _ ▸ hb3 with h | h
        · have := Nat.eq_of_beq_eq_true h
          omega
        · exact Nat.eq_of_beq_eq_true h
      have hlv : live L m o := hva _ List.mem_cons_self o rfl
      obtain ⟨cell, r1, r2, r3⟩ := recv_at X T hlv (by omega)
      rw [hso, ← hcls] at r3
      have hAs : (As.map (cv ad)).length = np := by rw [List.length_map]; simp only [List.length_cons] at hlas; omega
      have hstk : (F0 mm pc lsC (st.map (cv ad))).stack = (As.map (cv ad)).reverse ++ .ref (ad o) :: rest.map (cv ad) := by
        show st.map (cv ad) = _
        rw [hmap]
        simp [cv, va_rf]
      have hPV : PreV s H (rNm r).cls (ad o) (PcM B b L xs kd D ad (vr (some o) :: As) m) (As.map (cv ad)) := ⟨PcM_blind, ⟨cell, r1, r2, r3⟩, hPS⟩
      cases nest with
      | true => exact sx_fin X T hvr (va_runVN hCF hM ⟨hCN rfl, hts _ hin, hts _ hsel⟩ hPV rfl hAs hsize hstk hww hd hfin) hf (fun v m' h => h)
      | false => exact sx_fin X T hvr (va_runV hCF hM ⟨hCB rfl, hts _ hin, hts _ hsel⟩ hPV rfl hAs hsize hstk hww hd hfin) hf (fun v m' h => h)
    · exact absurd hb3 (by simp)
  · obtain ⟨hst, hnp⟩ := hk1 rfl
    have hAs : (as.map (cv ad)).length = np := by rw [List.length_map]; omega
    have hstk : (F0 mm pc lsC (st.map (cv ad))).stack = (as.map (cv ad)).reverse ++ rest.map (cv ad) := hmap
    have hPV : PreS s H (PcM B b L xs kd D ad as m) (as.map (cv ad)) := ⟨PcM_blind, hPS⟩
    cases nest with
    | true => exact sx_fin X T hvr (va_runSN hCF hM ⟨hCN rfl, hts _ hst, trivial⟩ hPV rfl hAs hsize hstk hww hd hfin) hf (fun v m' h => h)
    | false => exact sx_fin X T hvr (va_runS hCF hM ⟨hCB rfl, hts _ hst⟩ hPV rfl hAs hsize hstk hww hd hfin) hf (fun v m' h => h)
  · obtain ⟨hin, hname, hret, hnp, hc98⟩ := hk2 rfl
    subst hc98
    unfold rcv at hb3
    rcases as with _ | ⟨v0, As⟩
    · simp only [List.length_nil] at hlas; omega
    have hAs : (As.map (cv ad)).length = np := by rw [List.length_map]; simp only [List.length_cons] at hlas; omega
    rcases v0 with x | x | (_ | o) | u
    · exact absurd hb3 (by simp)
    · exact absurd hb3 (by simp)
    · exact absurd hb3 (by simp)
    · have hstk : (F0 mm pc lsC (st.map (cv ad))).stack = (As.map (cv ad)).reverse ++ .ref (ad o) :: rest.map (cv ad) := by
        show st.map (cv ad) = _
        rw [hmap]
        simp [cv, va_rf]
      have hPV : PreS s H (PcM B b L xs kd D ad (vr (some o) :: As) m) (.ref (ad o) :: As.map (cv ad)) := ⟨PcM_blind, hPS⟩
      rw [hret] at hCB hCN
      cases nest with
      | true => exact sx_fin X T hvr (va_runIN hCF hM ⟨hCN rfl, hname, hts _ hin⟩ hPV rfl hAs hsize hstk hww hd hfin) hf (fun v m' h => h)
      | false => exact sx_fin X T hvr (va_runI hCF hM ⟨hCB rfl, hname, hts _ hin⟩ hPV rfl hAs hsize hstk hww hd hfin) hf (fun v m' h => h)
    · exact absurd hb3 (by simp)
end TE
end
section
/-! ONE STEP, whatever it is; whole methods. -/
theorem fall_of {pcs : List Nat} {nx q : Nat} (h : fall pcs nx q = true) : pcs[nx]? = some q := of_decide_eq_true h
/-- how a method may end at a place -/
def isRet (cc : ByteArray) (ret : Option FieldType) (pc : Nat) (v : Option Vv) : Prop :=
  (∃ x : Int32, v = some (vi x) ∧ decode cc pc = .ok (.ireturn, 1) ∧ (ret = some .int ∨ (ret = some .boolean ∧ (x = 0 ∨ x = 1)))) ∨ (∃ x : Int64, v = some (vl x) ∧ decode cc pc = .ok (.lreturn, 1) ∧ ret = some .long) ∨
  (∃ x : Option Id3, v = some (vr x) ∧ decode cc pc = .ok (.areturn, 1) ∧ ret = some (.object "NoiseTithe$Kind")) ∨ (v = none ∧ decode cc pc = .ok (.return_, 1) ∧ ret = none)
section TF
variable {p : Program} {l : Launch} {e : Env} {R : Room} {s : State} {mm : MethodId} {args : Array Value} {below : List Frame} {meth : Method} {c : Code} {Q : State → Prop} {cc : ByteArray} {nL oc B b L : Nat} {xs : Nat → Int32} {kd : Nat → Nat} {D : va_G} {m0 : Mem} {ad0 ad : Id3 → Nat} {pcs : List Nat}
  {C : CT} {cap : Nat × Nat} {K : Option Vv → Mem → Prop} {ls st : List Vv} {m : Mem} {uc us pc nx a : Nat} {H : Heap} {locs : List Loc} {lsC : Array Slot}
theorem end_of {uc us : Nat} {E : Eff} {P : PT} (h : stepE C cap P K (eEnd cap uc us E)) : (uc ≤ cap.1 ∧ us ≤ cap.2) ∧ stepE C cap P K E := by
  unfold eEnd at h
  split at h
  · rename_i hb
    rw [Bool.and_eq_true] at hb
    exact ⟨⟨Nat.le_of_ble_eq_true hb.1, Nat.le_of_ble_eq_true hb.2⟩, h⟩
  · exact absurd h id
set_option maxHeartbeats 4000000 in
theorem sx_all {ini : Bool} {ret : Option FieldType} {rf rl n b' : Nat} {v : Vv} {ts : List Nat} {i : Instr} (X : CTX p s mm args c cc nL oc B b L xs kd D) (Snd : SND l B b L xs kd C) (hcap : cap.1 ≤ R.cells ∧ cap.2 ≤ R.slots) (hR : rf ≤ R.frames ∧ rl ≤ R.locals) (hini : ini = true → meth.name = "<init>")
    (hret : ∀ (pc : Nat) (v : Option Vv) (m : Mem) (ad : Id3 → Nat) (H : Heap) (locs : List Loc) (lsC : Array Slot) (ls : List Vv) (uc us : Nat), isRet cc ret pc v → K v m → uc ≤ cap.1 → us ≤ cap.2 → ST B b L xs kd D s nL m0 ad0 ad H locs lsC ls v.toList m → W p l e R s mm args below meth c H locs uc us Q (F0 mm pc lsC (v.toList.map (cv ad))))
    (hd : decode cc pc = .ok (i, n)) (hchk : chkI oc ini ret rf rl pcs pc n a b' nx v ts i = true) (hs : stepE C cap (PW p l e R s mm args below meth c Q B b L xs kd D nL m0 ad0 pcs) K (eff cap (i, a, b', nx, v, ts) ls st m uc us)) (T : ST B b L xs kd D s nL m0 ad0 ad H locs lsC ls st m) : W p l e R s mm args below meth c H locs uc us Q (F0 mm pc lsC (st.map (cv ad))) := by
  cases i
  case iconst k =>
    simp only [chkI, Bool.and_eq_true, Nat.beq_eq, decide_eq_true_eq] at hchk
    obtain ⟨⟨rfl, hf⟩, rfl⟩ := hchk
    exact sx_iconst X hd (fall_of hf) hs T
  case bipush k =>
    simp only [chkI, Bool.and_eq_true, Nat.beq_eq, decide_eq_true_eq] at hchk
    obtain ⟨⟨rfl, hf⟩, rfl⟩ := hchk
    exact sx_bipush X hd (fall_of hf) hs T
  case sipush k =>
    simp only [chkI, Bool.and_eq_true, Nat.beq_eq, decide_eq_true_eq] at hchk
    obtain ⟨⟨rfl, hf⟩, rfl⟩ := hchk
    exact sx_sipush X hd (fall_of hf) hs T
  case lconst k =>
    simp only [chkI, Bool.and_eq_true, Nat.beq_eq, decide_eq_true_eq] at hchk
    obtain ⟨⟨rfl, hf⟩, rfl⟩ := hchk
    exact sx_lconst X hd (fall_of hf) hs T
  case ldc k =>
    rcases v with x | x | x | x <;> simp only [chkI, Bool.and_eq_true, Nat.beq_eq, Bool.false_eq_true, and_false, and_true] at hchk
    obtain ⟨⟨rfl, hf⟩, hk⟩ := hchk
    exact sx_ldc X hk hd (fall_of hf) hs T
  case ldc_w k =>
    rcases v with x | x | x | x <;> simp only [chkI, Bool.and_eq_true, Nat.beq_eq, Bool.false_eq_true, and_false, and_true] at hchk
    obtain ⟨⟨rfl, hf⟩, hk⟩ := hchk
    exact sx_ldcw X hk hd (fall_of hf) hs T
  case ldc2_w k =>
    rcases v with x | x | x | x <;> simp only [chkI, Bool.and_eq_true, Nat.beq_eq, Bool.false_eq_true, and_false, and_true] at hchk
    obtain ⟨⟨rfl, hf⟩, hk⟩ := hchk
    exact sx_ldc2 X hk hd (fall_of hf) hs T
  case aconst_null =>
    simp only [chkI, Bool.and_eq_true, Nat.beq_eq] at hchk
    obtain ⟨rfl, hf⟩ := hchk
    exact sx_null X hd (fall_of hf) hs T
  case getstatic k =>
    rw [show chkI oc ini ret rf rl pcs pc n a b' nx v ts (.getstatic k) = (Nat.beq n 3 && fall pcs nx (pc + 3) && staL.any (fun e => Nat.beq e.1 oc && Nat.beq e.2.1 k && Nat.beq e.2.2.1 a)) from rfl, Bool.and_eq_true, Bool.and_eq_true, Nat.beq_eq] at hchk
    obtain ⟨⟨rfl, hf⟩, hk⟩ := hchk
    exact sx_getstatic X hk hd (fall_of hf) hs T
  case iload k =>
    simp only [chkI, Bool.and_eq_true, Nat.beq_eq] at hchk
    obtain ⟨⟨rfl, hf⟩, rfl⟩ := hchk
    exact sx_iload X hd (fall_of hf) hs T
  case istore k =>
    simp only [chkI, Bool.and_eq_true, Nat.beq_eq] at hchk
    obtain ⟨⟨rfl, hf⟩, rfl⟩ := hchk
    exact sx_istore X hd (fall_of hf) hs T
  case iload_n k =>
    simp only [chkI, Bool.and_eq_true, Nat.beq_eq] at hchk
    obtain ⟨⟨rfl, hf⟩, rfl⟩ := hchk
    exact sx_iload_n X hd (fall_of hf) hs T
  case istore_n k =>
    simp only [chkI, Bool.and_eq_true, Nat.beq_eq] at hchk
    obtain ⟨⟨rfl, hf⟩, rfl⟩ := hchk
    exact sx_istore_n X hd (fall_of hf) hs T
  case lload k =>
    simp only [chkI, Bool.and_eq_true, Nat.beq_eq] at hchk
    obtain ⟨⟨rfl, hf⟩, rfl⟩ := hchk
    exact sx_lload X hd (fall_of hf) hs T
  case lstore k =>
    simp only [chkI, Bool.and_eq_true, Nat.beq_eq] at hchk
    obtain ⟨⟨rfl, hf⟩, rfl⟩ := hchk
    exact sx_lstore X hd (fall_of hf) hs T
  case lload_n k =>
    simp only [chkI, Bool.and_eq_true, Nat.beq_eq] at hchk
    obtain ⟨⟨rfl, hf⟩, rfl⟩ := hchk
    exact sx_lload_n X hd (fall_of hf) hs T
  case lstore_n k =>
    simp only [chkI, Bool.and_eq_true, Nat.beq_eq] at hchk
    obtain ⟨⟨rfl, hf⟩, rfl⟩ := hchk
    exact sx_lstore_n X hd (fall_of hf) hs T
  case aload k =>
    simp only [chkI, Bool.and_eq_true, Nat.beq_eq] at hchk
    obtain ⟨⟨rfl, hf⟩, rfl⟩ := hchk
    exact sx_aload X hd (fall_of hf) hs T
  case astore k =>
    simp only [chkI, Bool.and_eq_true, Nat.beq_eq] at hchk
    obtain ⟨⟨rfl, hf⟩, rfl⟩ := hchk
    exact sx_astore X hd (fall_of hf) hs T
  case aload_n k =>
    simp only [chkI, Bool.and_eq_true, Nat.beq_eq] at hchk
    obtain ⟨⟨rfl, hf⟩, rfl⟩ := hchk
    exact sx_aload_n X hd (fall_of hf) hs T
  case astore_n k =>
    simp only [chkI, Bool.and_eq_true, Nat.beq_eq] at hchk
    obtain ⟨⟨rfl, hf⟩, rfl⟩ := hchk
    exact sx_astore_n X hd (fall_of hf) hs T
  case iinc k c9 =>
    simp only [chkI, Bool.and_eq_true, Nat.beq_eq, decide_eq_true_eq] at hchk
    obtain ⟨⟨⟨rfl, hf⟩, rfl⟩, rfl⟩ := hchk
    exact sx_iinc X hd (fall_of hf) hs T
  case iadd =>
    simp only [chkI, Bool.and_eq_true, Nat.beq_eq] at hchk
    obtain ⟨rfl, hf⟩ := hchk
    exact sx_iadd X hd (fall_of hf) hs T
  case isub =>
    simp only [chkI, Bool.and_eq_true, Nat.beq_eq] at hchk
    obtain ⟨rfl, hf⟩ := hchk
    exact sx_isub X hd (fall_of hf) hs T
  case imul =>
    simp only [chkI, Bool.and_eq_true, Nat.beq_eq] at hchk
    obtain ⟨rfl, hf⟩ := hchk
    exact sx_imul X hd (fall_of hf) hs T
  case iand =>
    simp only [chkI, Bool.and_eq_true, Nat.beq_eq] at hchk
    obtain ⟨rfl, hf⟩ := hchk
    exact sx_iand X hd (fall_of hf) hs T
  case ior =>
    simp only [chkI, Bool.and_eq_true, Nat.beq_eq] at hchk
    obtain ⟨rfl, hf⟩ := hchk
    exact sx_ior X hd (fall_of hf) hs T
  case ixor =>
    simp only [chkI, Bool.and_eq_true, Nat.beq_eq] at hchk
    obtain ⟨rfl, hf⟩ := hchk
    exact sx_ixor X hd (fall_of hf) hs T
  case ishl =>
    simp only [chkI, Bool.and_eq_true, Nat.beq_eq] at hchk
    obtain ⟨rfl, hf⟩ := hchk
    exact sx_ishl X hd (fall_of hf) hs T
  case ishr =>
    simp only [chkI, Bool.and_eq_true, Nat.beq_eq] at hchk
    obtain ⟨rfl, hf⟩ := hchk
    exact sx_ishr X hd (fall_of hf) hs T
  case iushr =>
    simp only [chkI, Bool.and_eq_true, Nat.beq_eq] at hchk
    obtain ⟨rfl, hf⟩ := hchk
    exact sx_iushr X hd (fall_of hf) hs T
  case idiv =>
    simp only [chkI, Bool.and_eq_true, Nat.beq_eq] at hchk
    obtain ⟨rfl, hf⟩ := hchk
    exact sx_idiv X hd (fall_of hf) hs T
  case irem =>
    simp only [chkI, Bool.and_eq_true, Nat.beq_eq] at hchk
    obtain ⟨rfl, hf⟩ := hchk
    exact sx_irem X hd (fall_of hf) hs T
  case ineg =>
    simp only [chkI, Bool.and_eq_true, Nat.beq_eq] at hchk
    obtain ⟨rfl, hf⟩ := hchk
    exact sx_ineg X hd (fall_of hf) hs T
  case i2b =>
    simp only [chkI, Bool.and_eq_true, Nat.beq_eq] at hchk
    obtain ⟨rfl, hf⟩ := hchk
    exact sx_i2b X hd (fall_of hf) hs T
  case ladd =>
    simp only [chkI, Bool.and_eq_true, Nat.beq_eq] at hchk
    obtain ⟨rfl, hf⟩ := hchk
    exact sx_ladd X hd (fall_of hf) hs T
  case lsub =>
    simp only [chkI, Bool.and_eq_true, Nat.beq_eq] at hchk
    obtain ⟨rfl, hf⟩ := hchk
    exact sx_lsub X hd (fall_of hf) hs T
  case lmul =>
    simp only [chkI, Bool.and_eq_true, Nat.beq_eq] at hchk
    obtain ⟨rfl, hf⟩ := hchk
    exact sx_lmul X hd (fall_of hf) hs T
  case ldiv =>
    simp only [chkI, Bool.and_eq_true, Nat.beq_eq] at hchk
    obtain ⟨rfl, hf⟩ := hchk
    exact sx_ldiv X hd (fall_of hf) hs T
  case lrem =>
    simp only [chkI, Bool.and_eq_true, Nat.beq_eq] at hchk
    obtain ⟨rfl, hf⟩ := hchk
    exact sx_lrem X hd (fall_of hf) hs T
  case lcmp =>
    simp only [chkI, Bool.and_eq_true, Nat.beq_eq] at hchk
    obtain ⟨rfl, hf⟩ := hchk
    exact sx_lcmp X hd (fall_of hf) hs T
  case i2l =>
    simp only [chkI, Bool.and_eq_true, Nat.beq_eq] at hchk
    obtain ⟨rfl, hf⟩ := hchk
    exact sx_i2l X hd (fall_of hf) hs T
  case l2i =>
    simp only [chkI, Bool.and_eq_true, Nat.beq_eq] at hchk
    obtain ⟨rfl, hf⟩ := hchk
    exact sx_l2i X hd (fall_of hf) hs T
  case iaload =>
    simp only [chkI, Bool.and_eq_true, Nat.beq_eq] at hchk
    obtain ⟨rfl, hf⟩ := hchk
    exact sx_iaload X hd (fall_of hf) hs T
  case baload =>
    simp only [chkI, Bool.and_eq_true, Nat.beq_eq] at hchk
    obtain ⟨rfl, hf⟩ := hchk
    exact sx_baload X hd (fall_of hf) hs T
  case aaload =>
    simp only [chkI, Bool.and_eq_true, Nat.beq_eq] at hchk
    obtain ⟨rfl, hf⟩ := hchk
    exact sx_aaload X hd (fall_of hf) hs T
  case iastore =>
    simp only [chkI, Bool.and_eq_true, Nat.beq_eq] at hchk
    obtain ⟨rfl, hf⟩ := hchk
    exact sx_iastore X hd (fall_of hf) hs T
  case bastore =>
    simp only [chkI, Bool.and_eq_true, Nat.beq_eq] at hchk
    obtain ⟨rfl, hf⟩ := hchk
    exact sx_bastore X hd (fall_of hf) hs T
  case aastore =>
    simp only [chkI, Bool.and_eq_true, Nat.beq_eq] at hchk
    obtain ⟨rfl, hf⟩ := hchk
    exact sx_aastore X hd (fall_of hf) hs T
  case arraylength =>
    simp only [chkI, Bool.and_eq_true, Nat.beq_eq] at hchk
    obtain ⟨rfl, hf⟩ := hchk
    exact sx_arraylength X hd (fall_of hf) hs T
  case dup =>
    simp only [chkI, Bool.and_eq_true, Nat.beq_eq] at hchk
    obtain ⟨rfl, hf⟩ := hchk
    exact sx_dup X hd (fall_of hf) hs T
  case pop =>
    simp only [chkI, Bool.and_eq_true, Nat.beq_eq] at hchk
    obtain ⟨rfl, hf⟩ := hchk
    exact sx_pop X hd (fall_of hf) hs T
  case dup2 =>
    simp only [chkI, Bool.and_eq_true, Nat.beq_eq] at hchk
    obtain ⟨rfl, hf⟩ := hchk
    exact sx_dup2 X hd (fall_of hf) hs T
  case goto off =>
    simp only [chkI, Bool.and_eq_true, Nat.beq_eq] at hchk
    obtain ⟨rfl, hj⟩ := hchk
    obtain ⟨q, hq, ht⟩ := jmp_of hj
    exact sx_goto X ht hq hd hs T
  case if_icmp cd off =>
    simp only [chkI, Bool.and_eq_true, Nat.beq_eq] at hchk
    obtain ⟨⟨rfl, hf⟩, hj⟩ := hchk
    obtain ⟨q, hq, ht⟩ := jmp_of hj
    cases cd
    case eq => exact sx_icmp_eq X ht hq hd (fall_of hf) hs T
    case ne => exact sx_icmp_ne X ht hq hd (fall_of hf) hs T
    case lt => exact sx_icmp_lt X ht hq hd (fall_of hf) hs T
    case ge => exact sx_icmp_ge X ht hq hd (fall_of hf) hs T
    case gt => exact sx_icmp_gt X ht hq hd (fall_of hf) hs T
    case le => exact sx_icmp_le X ht hq hd (fall_of hf) hs T
  case ifCond cd off =>
    simp only [chkI, Bool.and_eq_true, Nat.beq_eq] at hchk
    obtain ⟨⟨rfl, hf⟩, hj⟩ := hchk
    obtain ⟨q, hq, ht⟩ := jmp_of hj
    cases cd
    case eq => exact sx_if_eq X ht hq hd (fall_of hf) hs T
    case ne => exact sx_if_ne X ht hq hd (fall_of hf) hs T
    case lt => exact sx_if_lt X ht hq hd (fall_of hf) hs T
    case ge => exact sx_if_ge X ht hq hd (fall_of hf) hs T
    case gt => exact sx_if_gt X ht hq hd (fall_of hf) hs T
    case le => exact sx_if_le X ht hq hd (fall_of hf) hs T
  case if_acmp cd off =>
    simp only [chkI, Bool.and_eq_true, Nat.beq_eq] at hchk
    obtain ⟨⟨rfl, hf⟩, hj⟩ := hchk
    obtain ⟨q, hq, ht⟩ := jmp_of hj
    cases cd
    case eq => exact sx_acmp_eq X ht hq hd (fall_of hf) hs T
    case ne => exact sx_acmp_ne X ht hq hd (fall_of hf) hs T
  case ifnull off =>
    simp only [chkI, Bool.and_eq_true, Nat.beq_eq] at hchk
    obtain ⟨⟨rfl, hf⟩, hj⟩ := hchk
    obtain ⟨q, hq, ht⟩ := jmp_of hj
    exact sx_ifnull X ht hq hd (fall_of hf) hs T
  case ifnonnull off =>
    simp only [chkI, Bool.and_eq_true, Nat.beq_eq] at hchk
    obtain ⟨⟨rfl, hf⟩, hj⟩ := hchk
    obtain ⟨q, hq, ht⟩ := jmp_of hj
    exact sx_ifnonnull X ht hq hd (fall_of hf) hs T
  case getfield k =>
    rw [chkI, Bool.and_eq_true, Bool.and_eq_true, Nat.beq_eq] at hchk
    obtain ⟨⟨rfl, hf⟩, hk⟩ := hchk
    exact sx_getfield X hd (fall_of hf) hk hs T
  case putfield k =>
    rw [chkI, Bool.and_eq_true, Bool.and_eq_true, Nat.beq_eq] at hchk
    obtain ⟨⟨rfl, hf⟩, hk⟩ := hchk
    exact sx_putfield X hini hd (fall_of hf) hk hs T
  case new k =>
    rw [chkI, Bool.and_eq_true, Bool.and_eq_true, Bool.and_eq_true, Bool.and_eq_true, Nat.beq_eq, decide_eq_true_eq] at hchk
    obtain ⟨⟨⟨⟨rfl, hf⟩, ht⟩, hts⟩, hk⟩ := hchk
    exact sx_new X hcap hk ht hts hd (fall_of hf) hs T
  case newarray t =>
    rw [chkI, Bool.and_eq_true, Bool.and_eq_true, Bool.and_eq_true, Nat.beq_eq, Bool.or_eq_true, Bool.and_eq_true, Bool.and_eq_true, decide_eq_true_eq, decide_eq_true_eq, Nat.beq_eq, Nat.beq_eq] at hchk
    obtain ⟨⟨⟨rfl, hf⟩, ht⟩, hk⟩ := hchk
    exact sx_newarray X hcap ht hk hd (fall_of hf) hs T
  case anewarray k =>
    rw [chkI, Bool.and_eq_true, Bool.and_eq_true, Bool.and_eq_true, Nat.beq_eq] at hchk
    obtain ⟨⟨⟨rfl, hf⟩, ht⟩, hk⟩ := hchk
    exact sx_anewarray X hcap hk ht hd (fall_of hf) hs T
  case multianewarray k d =>
    simp only [chkI, Bool.and_eq_true, Nat.beq_eq, decide_eq_true_eq] at hchk
    obtain ⟨⟨⟨⟨⟨⟨⟨rfl, hf⟩, rfl⟩, rfl⟩, hoc⟩, rfl⟩, rfl⟩, rfl⟩ := hchk
    exact sx_multi X hcap hoc hd (fall_of hf) hs T
  case tableswitch d lo hi offs =>
    rw [chkI, Bool.and_eq_true, Bool.and_eq_true, Bool.and_eq_true, Bool.and_eq_true, Bool.and_eq_true, decide_eq_true_eq, decide_eq_true_eq, Nat.beq_eq] at hchk
    obtain ⟨⟨⟨⟨⟨h1, h2⟩, h3⟩, h4⟩, h5⟩, h6⟩ := hchk
    exact sx_table X hd h1 h2 h3 h4 h5 (Nat.le_of_ble_eq_true h6) hs T
  case invokevirtual k =>
    replace hs := end_of hs
    obtain ⟨hu, hs⟩ := hs
    change (Nat.beq n 3 && fall pcs nx (pc + 3) && _) = true at hchk
    rw [Bool.and_eq_true, Bool.and_eq_true, Nat.beq_eq] at hchk
    obtain ⟨⟨rfl, hf⟩, hk⟩ := hchk
    rcases ts with _ | ⟨mc, _ | ⟨ms, _ | ⟨c9, _ | ⟨z, zs⟩⟩⟩⟩ <;> try exact Bool.noConfusion hk
    exact sx_call X Snd hcap hR (Or.inl rfl) hk (Or.inl ⟨rfl, hd⟩) (fall_of hf) hu hs T
  case invokespecial k =>
    replace hs := end_of hs
    obtain ⟨hu, hs⟩ := hs
    change (Nat.beq n 3 && fall pcs nx (pc + 3) && _) = true at hchk
    rw [Bool.and_eq_true, Bool.and_eq_true, Nat.beq_eq] at hchk
    obtain ⟨⟨rfl, hf⟩, hk⟩ := hchk
    rcases ts with _ | ⟨mc, _ | ⟨ms, _ | ⟨c9, _ | ⟨z, zs⟩⟩⟩⟩ <;> try exact Bool.noConfusion hk
    · dsimp only at hk
      rw [Bool.and_eq_true, Nat.beq_eq, chkPrm, Bool.and_eq_true, Bool.and_eq_true] at hk
      obtain ⟨rfl, ⟨hk, h1⟩, h2⟩ := hk
      exact sx_obj X (Nat.le_trans (Nat.le_of_ble_eq_true h1) hR.1) (Nat.le_trans (Nat.le_of_ble_eq_true h2) hR.2) hk hd (fall_of hf) hs T
    · exact sx_call X Snd hcap hR (Or.inr (Or.inr rfl)) hk (Or.inr (Or.inr ⟨rfl, hd⟩)) (fall_of hf) hu hs T
  case invokestatic k =>
    replace hs := end_of hs
    obtain ⟨hu, hs⟩ := hs
    change (Nat.beq n 3 && fall pcs nx (pc + 3) && _) = true at hchk
    rw [Bool.and_eq_true, Bool.and_eq_true, Nat.beq_eq] at hchk
    obtain ⟨⟨rfl, hf⟩, hk⟩ := hchk
    rcases ts with _ | ⟨mc, _ | ⟨ms, _ | ⟨c9, _ | ⟨z, zs⟩⟩⟩⟩ <;> try exact Bool.noConfusion hk
    · dsimp only at hk
      rw [Bool.and_eq_true, Bool.and_eq_true, chkPrm, Bool.and_eq_true, Bool.and_eq_true] at hk
      obtain ⟨⟨ha2, ha5⟩, ⟨hk, h1⟩, h2⟩ := hk
      have ha2 : 2 ≤ a := Nat.le_of_ble_eq_true ha2
      have ha5 : a ≤ 5 := Nat.le_of_ble_eq_true ha5
      have h1 : 1 ≤ R.frames := Nat.le_trans (Nat.le_of_ble_eq_true h1) hR.1
      have h2 : 40 ≤ R.locals := Nat.le_trans (Nat.le_of_ble_eq_true h2) hR.2
      by_cases h : a = 2
      · subst h
        exact sx_copy X h1 h2 hk hd (fall_of hf) hs T
      · exact sx_math X ⟨Nat.le_trans hu.1 hcap.1, Nat.le_trans hu.2 hcap.2⟩ h1 h2 (by omega) hk hd (fall_of hf) hs T
    · exact sx_call X Snd hcap hR (Or.inr (Or.inl rfl)) hk (Or.inr (Or.inl ⟨rfl, hd⟩)) (fall_of hf) hu hs T
  case ireturn =>
    replace hs := end_of hs
    obtain ⟨hu, hs⟩ := hs
    simp only [chkI, Bool.and_eq_true, Nat.beq_eq, Bool.or_eq_true, decide_eq_true_eq] at hchk
    obtain ⟨rfl, hk⟩ := hchk
    unfold eRet at hs
    split at hs
    · rename_i x
      rcases hk with ⟨h, hr⟩ | ⟨h, hr⟩
      · exact hret pc (some (vi x)) m ad H locs lsC ls uc us (Or.inl ⟨x, rfl, hd, Or.inl hr⟩) hs.2 hu.1 hu.2 T
      · cases h
    · rename_i x
      rcases hk with ⟨h, hr⟩ | ⟨h, hr⟩
      · cases h
      · exact hret pc (some (vi x)) m ad H locs lsC ls uc us (Or.inl ⟨x, rfl, hd, Or.inr ⟨hr, hs.1⟩⟩) hs.2 hu.1 hu.2 T
    · exact absurd hs id
  case lreturn =>
    replace hs := end_of hs
    obtain ⟨hu, hs⟩ := hs
    simp only [chkI, Bool.and_eq_true, Nat.beq_eq, decide_eq_true_eq] at hchk
    obtain ⟨rfl, hr⟩ := hchk
    unfold eRetL at hs
    split at hs
    · rename_i x
      exact hret pc (some (vl x)) m ad H locs lsC ls uc us (Or.inr (Or.inl ⟨x, rfl, hd, hr⟩)) hs.2 hu.1 hu.2 T
    · exact absurd hs id
  case areturn =>
    replace hs := end_of hs
    obtain ⟨hu, hs⟩ := hs
    simp only [chkI, Bool.and_eq_true, Nat.beq_eq, decide_eq_true_eq] at hchk
    obtain ⟨rfl, hr⟩ := hchk
    unfold eRetA at hs
    split at hs
    · rename_i x
      exact hret pc (some (vr x)) m ad H locs lsC ls uc us (Or.inr (Or.inr (Or.inl ⟨x, rfl, hd, hr⟩))) hs.2 hu.1 hu.2 T
    · exact absurd hs id
  case return_ =>
    replace hs := end_of hs
    obtain ⟨hu, hs⟩ := hs
    simp only [chkI, Bool.and_eq_true, Nat.beq_eq, decide_eq_true_eq] at hchk
    obtain ⟨rfl, hr⟩ := hchk
    unfold eRetV at hs
    split at hs
    · exact hret pc none m ad H locs lsC ls uc us (Or.inr (Or.inr (Or.inr ⟨rfl, hd, hr⟩))) hs.2 hu.1 hu.2 T
    · exact absurd hs id
  all_goals exact Bool.noConfusion hchk
end TF
end
section
/-! WHOLE METHODS. -/
theorem slL_len {ad : Id3 → Nat} : ∀ as : List Vv, (lg_sl (as.map (cv ad))).length = (slL as).length
  | [] => rfl
  | v :: r => by
    have ih := slL_len (ad := ad) r
    unfold lg_sl at ih ⊢
    rw [List.map_cons, List.flatMap_cons, List.length_append, ih, cv_cat]
    rcases v with x | x | x | x
    · show 1 + (slL r).length = (slL r).length + 1; omega
    · show 2 + (slL r).length = (slL r).length + 1 + 1; omega
    · show 1 + (slL r).length = (slL r).length + 1; omega
    · show 1 + (slL r).length = (slL r).length + 1; omega
theorem slL_get {ad : Id3 → Nat} {j j' : Nat} : ∀ (as : List Vv) (k : Nat) (v : Vv), (slL as ++ List.replicate j vu)[k]? = some v → v ≠ vu → (lg_sl (as.map (cv ad)) ++ List.replicate j' Slot.unset)[k]? = some (.val (cv ad v))
  | [], k, v, h, hn => by
    simp only [slL, List.nil_append] at h
    rw [List.getElem?_replicate] at h
    split at h
    · cases h
      exact absurd rfl hn
    · cases h
  | w :: r, k, v, h, hn => by
    have ih := slL_get (ad := ad) (j := j) (j' := j') r
    have e1 : lg_sl ((w :: r).map (cv ad)) = (if ctg w = 2 then [Slot.val (cv ad w), Slot.second] else [Slot.val (cv ad w)]) ++ lg_sl (r.map (cv ad)) := by
      unfold lg_sl
      rw [List.map_cons, List.flatMap_cons, cv_cat]
    rw [e1]
    rcases hw : w with x | x | x | x
    all_goals
      subst hw
      simp only [slL, ctg] at h
      simp only [ctg]
    · rcases k with _ | k
      · simp at h ⊢
        rw [h]
      · simp only [List.cons_append, List.getElem?_cons_succ] at h
        simpa using ih k v h hn
    · rcases k with _ | _ | k
      · simp at h ⊢
        rw [h]
      · simp at h
        exact absurd h.symm hn
      · simp only [List.cons_append, List.getElem?_cons_succ] at h
        simpa using ih k v h hn
    · rcases k with _ | k
      · simp at h ⊢
        rw [h]
      · simp only [List.cons_append, List.getElem?_cons_succ] at h
        simpa using ih k v h hn
    · rcases k with _ | k
      · simp at h
        exact absurd h.symm hn
      · simp only [List.cons_append, List.getElem?_cons_succ] at h
        simpa using ih k v h hn
theorem own_ok : MT.all (fun r => decide ((rNm r).cls = clsN (rOc r))) = true := by decide +kernel
section TG
variable {p : Program} {l : Launch} {e : Env} {R : Room} {s : State} {mm : MethodId} {args : Array Value} {below : List Frame} {meth : Method} {c : Code} {Q : State → Prop} {cc : ByteArray} {nL oc B b L : Nat} {xs : Nat → Int32} {kd : Nat → Nat} {D : va_G} {ad : Id3 → Nat} {pcs : List Nat} {cd : List Ins}
  {C : CT} {cap : Nat × Nat} {K : Option Vv → Mem → Prop} {m : Mem} {as : List Vv}
theorem go_W {y : MethodName} {ret : Option FieldType} {rf rl : Nat} (X : CTX p s mm args c cc nL oc B b L xs kd D) (Snd : SND l B b L xs kd C) (hcap : cap.1 ≤ R.cells ∧ cap.2 ≤ R.slots) (hR : rf ≤ R.frames ∧ rl ≤ R.locals) (hname : y.name = "<init>" → meth.name = "<init>") (hchk : chkR (y, cc, nL, ret, oc, cd, pcs, (rf, rl), cap) = true)
    (hret : ∀ (pc : Nat) (v : Option Vv) (m' : Mem) (ad' : Id3 → Nat) (H : Heap) (locs : List Loc) (lsC : Array Slot) (ls : List Vv) (uc us : Nat), isRet cc ret pc v → K v m' → uc ≤ cap.1 → us ≤ cap.2 → ST B b L xs kd D s nL m ad ad' H locs lsC ls v.toList m' → W p l e R s mm args below meth c H locs uc us Q (F0 mm pc lsC (v.toList.map (cv ad'))))
    (hgo : Go C cd cap K 0 (mkL nL as) [] m 0 0) (hlen : (slL as).length ≤ nL) (hrel : REL B b L xs kd D s ad m s.heap) (hva : ∀ v ∈ as, vok L m v) : W p l e R s mm args below meth c s.heap [] 0 0 Q (F0 mm 0 ((lg_sl (as.map (cv ad)) ++ List.replicate (nL - (lg_sl (as.map (cv ad))).length) Slot.unset).toArray) []) := by
  unfold chkR at hchk
  rw [Bool.and_eq_true] at hchk
  obtain ⟨hh, hall⟩ := hchk
  unfold chkH at hh
  simp only [Bool.and_eq_true, Nat.beq_eq, decide_eq_true_eq] at hh
  obtain ⟨hl1, hp0⟩ := hh
  have key := hgo (PW p l e R s mm args below meth c Q B b L xs kd D nL m ad pcs) (fun ix ls st m' uc us h => by
    intro pc hpc ad' H locs lsC T
    unfold stp at h
    cases hc : cd[ix]? with
    | none => rw [hc] at h; exact absurd h id
    | some ins =>
      rw [hc] at h
      have hz : (ins, pc) ∈ cd.zip pcs := List.mem_of_getElem? (i := ix) (by rw [List.getElem?_zip_eq_some]; exact ⟨hc, hpc⟩)
      have hk := all_at hall hz
      obtain ⟨i, a, b', nx, v, ts⟩ := ins
      unfold chk1 at hk
      dsimp only at hk
      cases hd : decode cc pc with
      | error z => rw [hd] at hk; exact Bool.noConfusion hk
      | ok q =>
        obtain ⟨i', n⟩ := q
        rw [hd] at hk
        dsimp only at hk
        rw [Bool.and_eq_true, decide_eq_true_eq] at hk
        obtain ⟨rfl, hk⟩ := hk
        exact sx_all X Snd hcap hR (fun q => hname (of_decide_eq_true q)) hret hd hk h T)
  have hn : (lg_sl (as.map (cv ad))).length ≤ nL := by rw [slL_len]; exact hlen
  have hent := lv_entry (as.map (cv ad)) hn
  refine key 0 hp0 ad s.heap [] _ ⟨hrel, va_S.rf, ⟨hent.1, hent.2.1, ?_, fun k v hk hv => ?_⟩, fun v hv => ?_, fun v hv => by simp at hv, fun o ho => ⟨ho, rfl⟩⟩
  · unfold mkL
    rw [List.length_append, List.length_replicate]
    omega
  · have := slL_get (ad := ad) (j' := nL - (lg_sl (as.map (cv ad))).length) as k v hk hv
    simpa using this
  · by_cases hvu : v = vu
    · rw [hvu]; exact vokU
    · have hm : ∀ (as : List Vv), v ∈ slL as → v ∈ as := by
        intro as
        induction as with
        | nil => intro h; simp [slL] at h
        | cons w r ih =>
          intro h
          unfold slL at h
          split at h
          · rcases List.mem_cons.mp h with h | h
            · rw [h]; exact List.mem_cons_self
            · rcases List.mem_cons.mp h with h | h
              · exact absurd h hvu
              · exact List.mem_cons_of_mem _ (ih h)
          · rcases List.mem_cons.mp h with h | h
            · rw [h]; exact List.mem_cons_self
            · exact List.mem_cons_of_mem _ (ih h)
      unfold mkL at hv
      rcases List.mem_append.mp hv with h | h
      · exact hva v (hm as h)
      · exact absurd (List.eq_of_mem_replicate h) hvu
end TG
theorem snd_all (l : Launch) {B b L : Nat} {xs : Nat → Int32} {kd : Nat → Nat} (hbB : b < B) : ∀ d : Nat, SND l B b L xs kd (callT MT d)
  | 0 => fun _ _ _ _ _ hC => absurd hC id
  | d + 1 => by
    intro y as m K r hC hmt hoc hpn D ad hva
    have hmem : r ∈ MT := List.mem_of_getElem? hmt
    have hk := ka_all r hmem
    have ho := of_decide_eq_true (all_at own_ok hmem)
    unfold callT at hC
    rw [hmt] at hC
    obtain ⟨nm, cc, nL, ret, oc, cd, pcs, ⟨rf, rl⟩, cap⟩ := r
    obtain ⟨hlen, hgo⟩ := hC
    have hlen : (slL as).length ≤ nL := Nat.le_of_ble_eq_true hlen
    refine Met.ofW (cc := cc) (maxL := nL) (ret := ret) hpn rfl ?_
    intro p e s mm args below meth c s₁ Bd hml hP
    obtain ⟨rfl, hrel, hK, hB, hE, hX, hnw⟩ := hP
    have hts := atoms_spec (ws := wsR (nm, cc, nL, ret, oc, cd, pcs, (rf, rl), cap)) Bd.pre
    have hown : s.vm.findClass (clsN oc) = some mm.cls := by
      have := findClass_of_methodNamed Bd.named
      rw [show nm.cls = clsN oc from ho] at this
      exact this
    have X : CTX p s mm (as.map (cv ad)).toArray c cc nL oc B b L xs kd D := ⟨Bd.exec, Bd.bytes, hml, hown, fun w hw => hts w (List.mem_cons_of_mem _ hw), fun w hw => nw_vm hw rfl (hnw w hw), hK, hB, hE, hX, hbB⟩
    rw [lg_entry_eq]
    refine go_W (R := (headSpec (wsR (nm, cc, nL, ret, oc, cd, pcs, (rf, rl), cap)) (rmR (nm, cc, nL, ret, oc, cd, pcs, (rf, rl), cap))).room) X (snd_all l hbB d) ⟨Nat.le_refl _, Nat.le_refl _⟩ ⟨Nat.le_refl _, Nat.le_refl _⟩ (fun h => (name_of_methodNamed Bd.named Bd.method).1.trans h) hk ?_ hgo hlen hrel hva
    intro pc v m' ad' H locs lsC ls uc us hr hKv h1 h2 T
    refine W.widen h1 h2 ?_
    have hq : ∀ t : State, t.heap = H → s.WarmedH t.vm → QcM B b L xs kd D ad m K (as.map (cv ad)).toArray s (.returned (v.map (cv ad'))) t := fun t ht hW =>
      ⟨⟨v, m', ad', rfl, hKv, by rw [ht]; exact T.1.moved hW.alike, T.2.2.2.2.2, fun w hw => T.2.2.2.2.1 w (by rw [hw]; exact List.mem_cons_self)⟩, T.2.1.F ht⟩
    rcases hr with ⟨x, rfl, hd, hrt⟩ | ⟨x, rfl, hd, hrt⟩ | ⟨x, rfl, hd, hrt⟩ | ⟨rfl, hd, hrt⟩
    · rcases hrt with hrt | ⟨hrt, hx⟩
      · exact W.zret (ty := .int) Bd.exec Bd.bytes (Bd.returns.trans hrt) rfl hq T.2.1.2.2 hd
      · exact W.zret (ty := .boolean) Bd.exec Bd.bytes (Bd.returns.trans hrt) (by rcases hx with rfl | rfl <;> rfl) hq T.2.1.2.2 hd
    · exact W.lret Bd.exec Bd.bytes (Bd.returns.trans hrt) hq T.2.1.2.2 hd
    · exact W.aret (rt := .object "NoiseTithe$Kind") (v := va_rf (x.map ad')) Bd.exec Bd.bytes (Bd.returns.trans hrt) (Or.inl ⟨_, rfl⟩) (by cases x with
        | none => exact Or.inl rfl
        | some x => exact Or.inr ⟨_, rfl⟩) hq T.2.1.2.2 hd
    · exact W.vret Bd.exec Bd.bytes (Bd.returns.trans hrt) hq T.2.1.2.2 hd
end
section
/-! THE SMALL MACHINE ONCE MORE, for the walks: a reference that is read is named by its place, as the constructors lay the objects out. -/
def kn (m : Mem) (h : Nat) : Nat := match gR m (0, 8, h) 0 with
  | some o => o.2.2
  | none => 0
def crX (k : Nat) : Option Id3 := match k with
  | 0 => some (0, 3, 0) | 1 => some (0, 4, 0) | 2 => some (0, 5, 0) | 3 => some (0, 6, 0) | 4 => some (0, 14, 0) | 5 => some (0, 18, 0) | _ => some (0, 19, 0)
def crS (i k : Nat) : Option Id3 := match k with
  | 0 => some (0, 7, i) | 1 => some (0, 9, i) | _ => some (0, 12, i)
def crT (k : Nat) : Option Id3 := match k with
  | 0 => some (0, 15, 0) | 1 => some (0, 16, 0) | _ => some (0, 17, 0)
def crM (k : Nat) : Option Id3 := match k with
  | 1 => some (1, 1, 0) | 5 => some (1, 2, 0) | 6 => some (1, 3, 0) | 7 => some (1, 4, 0) | 8 => some (1, 5, 0) | 9 => some (1, 6, 0) | 13 => some (1, 7, 0) | 14 => some (1, 8, 0) | 15 => some (1, 9, 0) | 23 => some (1, 10, 0) | 24 => some (1, 11, 0) | 25 => some (1, 12, 0) | 26 => some (1, 13, 0) | 31 => some (1, 14, 0) | 32 => some (1, 15, 0) | 33 => some (1, 16, 0) | 34 => some (1, 17, 0) | 35 => some (1, 18, 0) | 36 => some (1, 19, 0) | _ => none
def crf (m : Mem) (o : Id3) (k : Nat) : Option Id3 := match o with
  | (0, t, i) => (match t with
    | 0 => crX k
    | 1 => some (0, 2, i)
    | 3 => some (0, 1, k)
    | 4 => some (0, 1, 6 + k)
    | 5 => crS i k
    | 6 => some (0, 5, 1 + k)
    | 7 => some (0, 8, 8 * i + k)
    | 8 => some (0, 20, kn m i)
    | 9 => some (0, 10, 40 * i + k)
    | 10 => some (0, 11, i)
    | 12 => some (0, 13, 8 * i + k)
    | 14 => crT k
    | _ => none)
  | (_, _, _) => crM k
/-- the places that hold such references -/
def okr (o : Id3) (k : Nat) : Prop := match o with
  | (0, t, i) => (match t with
    | 0 => i = 0 ∧ k < 7
    | 1 => i < 10 ∧ k = 0
    | 3 => i = 0 ∧ k < 6
    | 4 => i = 0 ∧ k < 4
    | 5 => i < 4 ∧ k < 3
    | 6 => i = 0 ∧ k < 3
    | 7 => i < 4 ∧ k < 8
    | 8 => i < 32 ∧ k = 0
    | 9 => i < 4 ∧ k < 40
    | 10 => i < 160 ∧ k = 0
    | 12 => i < 4 ∧ k < 8
    | 14 => i = 0 ∧ k < 3
    | _ => False)
  | (1, t, i) => t = 0 ∧ i = 0 ∧ (crM k).isSome = true
  | _ => False
def OKR (m : Mem) : Prop := (∀ o k, okr o k → gR m o k = crf m o k) ∧ ∀ h, h < 32 → kn m h < 6
theorem kn_cg {m m' : Mem} (h : ∀ o k, gR m' o k = gR m o k) (i : Nat) : kn m' i = kn m i := by
  unfold kn
  rw [h]
theorem crf_cg {m m' : Mem} (h : ∀ o k, gR m' o k = gR m o k) (o : Id3) (k : Nat) : crf m' o k = crf m o k := by
  unfold crf
  simp only [kn_cg h]
theorem OKR.cg {m m' : Mem} (h : ∀ o k, gR m' o k = gR m o k) (H : OKR m) : OKR m' :=
  ⟨fun o k q => by rw [h, crf_cg h]; exact H.1 o k q, fun i q => by rw [kn_cg h]; exact H.2 i q⟩
theorem OKR.pI {m : Mem} {o : Id3} {k : Nat} {v : Int32} (H : OKR m) : OKR (pI m o k v) := H.cg fun _ _ => gR_pI ..
theorem OKR.pL {m : Mem} {o : Id3} {k : Nat} {v : Int64} (H : OKR m) : OKR (pL m o k v) := H.cg fun _ _ => gR_pL ..
theorem OKR.al {m : Mem} {s t n : Nat} (H : OKR m) : OKR (al m s t n) := H.cg fun _ _ => gR_al ..
theorem OKR.cpI {m : Mem} {src dst : Id3} {sp dp n : Nat} (H : OKR m) : OKR (cpI m src dst sp dp n) := H.cg fun _ _ => gR_cpI ..
def eGetR (a b nx : Nat) (ty : List Nat) (ls st : List Vv) (m : Mem) (uc us : Nat) : Eff := match ty, st with
  | 2 :: _, .inr (.inr (.inl (some o))) :: r => (match Nat.beq (sh o) a with
    | true => eQ (okr o b) (nx, ls, vr (crf m o b) :: r, m, uc, us)
    | false => eN)
  | _, _ => eGet a b nx ty ls st m uc us
def eAaldR (nx : Nat) (ls st : List Vv) (m : Mem) (uc us : Nat) : Eff := match st with
  | .inl j :: .inr (.inr (.inl (some o))) :: r => (match Nat.ble 22 (sh o) && Nat.ble (sh o) 26 with
    | true => eQ (vp_in j (ln o) ∧ okr o j.toNatClampNeg) (nx, ls, vr (crf m o j.toNatClampNeg) :: r, m, uc, us)
    | false => eN)
  | _ => eN
def addQ (E : Eff) : Eff := match E with
  | .inl s => eQ (OKR s.2.2.2.1) s
  | .inr (.inl (q, s)) => eQ (q ∧ OKR s.2.2.2.1) s
  | _ => eN
def ePutR (a b nx : Nat) (ty : List Nat) (ls st : List Vv) (m : Mem) (uc us : Nat) : Eff := match ty with
  | 2 :: _ => addQ (ePut a b nx ty ls st m uc us)
  | _ => ePut a b nx ty ls st m uc us
def effR (cap : Nat × Nat) (ins : Ins) (ls st : List Vv) (m : Mem) (uc us : Nat) : Eff := match ins with
  | (i, a, b, nx, v, ts) => match i with
    | .getfield _ => eGetR a b nx ts ls st m uc us
    | .putfield _ => ePutR a b nx ts ls st m uc us
    | .aaload => eAaldR nx ls st m uc us
    | .aastore => addQ (eAast nx ls st m uc us)
    | .multianewarray _ _ => eN
    | i => eff cap (i, a, b, nx, v, ts) ls st m uc us
def stepR (C : CT) (cap : Nat × Nat) (P : PT) (K : Option Vv → Mem → Prop) (e : Eff) : Prop := match e with
  | .inl (ix, ls, st, m, uc, us) => P ix ls st m uc us
  | .inr (.inl (q, ix, ls, st, m, uc, us)) => q ∧ P ix ls st m uc us
  | .inr (.inr (.inl (c, (ix, ls, st, m, uc, us), (ix2, ls2, st2, m2, uc2, us2)))) => (c → P ix ls st m uc us) ∧ (¬ c → P ix2 ls2 st2 m2 uc2 us2)
  | .inr (.inr (.inr (.inl l))) => foS P l
  | .inr (.inr (.inr (.inr (.inl (y, a, mc, ms, ix, ls, st, m, uc, us))))) => (match mc with
    | 0 => C y a m (fun v m' => OKR m' ∧ P ix ls (inL v st) m' uc us)
    | _ => False)
  | .inr (.inr (.inr (.inr (.inr (.inl (q, v, m)))))) => q ∧ K v m
  | .inr (.inr (.inr (.inr (.inr (.inr _))))) => False
/-- each state that an effect leads to keeps the layout -/
def keepE (E : Eff) : Prop := match E with
  | .inl s => OKR s.2.2.2.1
  | .inr (.inl (q, s)) => q → OKR s.2.2.2.1
  | .inr (.inr (.inl (_, s, t))) => OKR s.2.2.2.1 ∧ OKR t.2.2.2.1
  | .inr (.inr (.inr (.inl l))) => ∀ e ∈ l, OKR e.2.2.2.2.1
  | _ => True
abbrev PO (P : PT) : PT := fun ix ls st m uc us => OKR m ∧ P ix ls st m uc us
theorem foS_keep {P : PT} : ∀ {l : List (Prop × St)}, (∀ e ∈ l, OKR e.2.2.2.2.1) → foS P l → foS (PO P) l
  | [], _, _ => trivial
  | (q, s) :: r, h, g => ⟨fun x => ⟨h _ List.mem_cons_self, g.1 x⟩, foS_keep (fun e he => h e (List.mem_cons_of_mem _ he)) g.2⟩
theorem stepR_keep {C : CT} {cap : Nat × Nat} {P : PT} {K : Option Vv → Mem → Prop} {E : Eff} (hk : keepE E) (h : stepR C cap P K E) : stepE C cap (PO P) K E := by
  rcases E with ⟨ix, ls, st, m, uc, us⟩ | ⟨q, ix, ls, st, m, uc, us⟩ | ⟨c, ⟨ix, ls, st, m, uc, us⟩, ⟨ix2, ls2, st2, m2, uc2, us2⟩⟩ | l | ⟨y, a, mc, ms, ix, ls, st, m, uc, us⟩ | ⟨q, v, m⟩ | u
  · exact ⟨hk, h⟩
  · exact ⟨h.1, hk h.1, h.2⟩
  · exact ⟨fun g => ⟨hk.1, h.1 g⟩, fun g => ⟨hk.2, h.2 g⟩⟩
  · exact foS_keep hk h
  · cases mc with
    | zero => exact h
    | succ k => exact absurd h id
  · exact h
  · exact h
theorem keepM {m : Mem} (hR : OKR m) {E : Eff} (h : match E with
    | .inl s => s.2.2.2.1 = m
    | .inr (.inl (_, s)) => s.2.2.2.1 = m
    | .inr (.inr (.inl (_, s, t))) => s.2.2.2.1 = m ∧ t.2.2.2.1 = m
    | .inr (.inr (.inr (.inl l))) => ∀ e ∈ l, e.2.2.2.2.1 = m
    | _ => True) : keepE E := by
  rcases E with s | ⟨q, s⟩ | ⟨c, s, t⟩ | l | y | y | y
  · show OKR s.2.2.2.1
    rw [show s.2.2.2.1 = m from h]; exact hR
  · intro _
    show OKR s.2.2.2.1
    rw [show s.2.2.2.1 = m from h]; exact hR
  · exact ⟨by rw [show s.2.2.2.1 = m from h.1]; exact hR, by rw [show t.2.2.2.1 = m from h.2]; exact hR⟩
  · intro e he
    show OKR e.2.2.2.2.1
    rw [show e.2.2.2.2.1 = m from h e he]; exact hR
  · trivial
  · trivial
  · trivial
section KE
variable {m : Mem} {ls st : List Vv} {nx a b uc us tt ff : Nat} {cap : Nat × Nat} {ts : List Nat} {v : Vv}
theorem kp_LdI (hR : OKR m) : keepE (eLdI ls a nx st m uc us) := by unfold eLdI; split <;> first | exact hR | trivial
theorem kp_LdL (hR : OKR m) : keepE (eLdL ls a nx st m uc us) := by unfold eLdL; split <;> first | exact hR | trivial
theorem kp_LdA (hR : OKR m) : keepE (eLdA ls a nx st m uc us) := by unfold eLdA; split <;> first | exact hR | trivial
theorem kp_StI (hR : OKR m) : keepE (eStI ls a nx st m uc us) := by unfold eStI; split <;> first | exact hR | trivial
theorem kp_StA (hR : OKR m) : keepE (eStA ls a nx st m uc us) := by unfold eStA; split <;> first | exact hR | trivial
theorem kp_StL (hR : OKR m) : keepE (eStL ls a nx st m uc us) := by unfold eStL; split <;> first | exact hR | trivial
theorem kp_Inc (hR : OKR m) : keepE (eInc ls a nx v st m uc us) := by unfold eInc; split <;> first | exact hR | trivial
theorem kp_I2 {f : Int32 → Int32 → Int32} (hR : OKR m) : keepE (eI2 f ls nx st m uc us) := by unfold eI2; split <;> first | exact hR | trivial
theorem kp_I2q {f : Int32 → Int32 → Int32} (hR : OKR m) : keepE (eI2q f ls nx st m uc us) := by unfold eI2q; split <;> first | exact fun _ => hR | trivial
theorem kp_I1 {f : Int32 → Int32} (hR : OKR m) : keepE (eI1 f ls nx st m uc us) := by unfold eI1; split <;> first | exact hR | trivial
theorem kp_L2 {f : Int64 → Int64 → Int64} (hR : OKR m) : keepE (eL2 f ls nx st m uc us) := by unfold eL2; split <;> first | exact hR | trivial
theorem kp_L2q {f : Int64 → Int64 → Int64} (hR : OKR m) : keepE (eL2q f ls nx st m uc us) := by unfold eL2q; split <;> first | exact fun _ => hR | trivial
theorem kp_Lc (hR : OKR m) : keepE (eLc ls nx st m uc us) := by unfold eLc; split <;> first | exact hR | trivial
theorem kp_IL (hR : OKR m) : keepE (eIL ls nx st m uc us) := by unfold eIL; split <;> first | exact hR | trivial
theorem kp_LI (hR : OKR m) : keepE (eLI ls nx st m uc us) := by unfold eLI; split <;> first | exact hR | trivial
theorem kp_Cm {c : Int32 → Int32 → Prop} (hR : OKR m) : keepE (eCm c ls tt ff st m uc us) := by unfold eCm; split <;> first | exact ⟨hR, hR⟩ | trivial
theorem kp_C0 {c : Int32 → Prop} (hR : OKR m) : keepE (eC0 c ls tt ff st m uc us) := by unfold eC0; split <;> first | exact ⟨hR, hR⟩ | trivial
theorem kp_Nu (hR : OKR m) : keepE (eNu ls tt ff st m uc us) := by unfold eNu; split <;> first | exact hR | trivial
theorem kp_Ac (hR : OKR m) : keepE (eAc ls tt ff st m uc us) := by
  unfold eAc; split
  · split <;> first | exact ⟨hR, hR⟩ | trivial
  · trivial
theorem kp_Get (hR : OKR m) : keepE (eGet a b nx ts ls st m uc us) := by
  unfold eGet; split
  · split <;> first | exact hR | trivial
  · trivial
theorem kp_Put (hR : OKR m) (h2 : ∀ r, ts ≠ 2 :: r) : keepE (ePut a b nx ts ls st m uc us) := by
  unfold ePut; split
  · split <;> first | exact hR.pI | trivial
  · split <;> first | exact hR.pL | trivial
  · exact absurd rfl (h2 _)
  · trivial
theorem kp_Iald (hR : OKR m) : keepE (eIald nx ls st m uc us) := by
  unfold eIald; split
  · split <;> first | exact fun _ => hR | trivial
  · trivial
theorem kp_Zald (hR : OKR m) : keepE (eZald nx ls st m uc us) := by
  unfold eZald; split
  · split <;> first | exact fun _ => hR | trivial
  · trivial
theorem kp_Iast (hR : OKR m) : keepE (eIast nx ls st m uc us) := by
  unfold eIast; split
  · split <;> first | exact fun _ => hR.pI | trivial
  · trivial
theorem kp_Zast (hR : OKR m) : keepE (eZast nx ls st m uc us) := by
  unfold eZast; split
  · split <;> first | exact fun _ => hR.pI | trivial
  · trivial
theorem kp_Len (hR : OKR m) : keepE (eLen nx ls st m uc us) := by
  unfold eLen; split
  · split <;> first | exact hR | trivial
  · trivial
theorem kp_New {s t n : Nat} (hR : OKR m) : keepE (eNew cap s t nx n ls st m uc us) := fun _ => hR.al
theorem kp_Arr {s t : Nat} (hR : OKR m) : keepE (eArr cap s t nx ls st m uc us) := by unfold eArr; split <;> first | exact fun _ => hR.al | trivial
theorem kp_Sw (hR : OKR m) {x : Int32} : ∀ (ts : List Nat) (n : Nat), ∀ e ∈ eSw x n ts ls st m uc us, OKR e.2.2.2.2.1
  | [], _, e, he => by simp [eSw] at he
  | t :: r, n, e, he => by
    unfold eSw at he
    rcases List.mem_cons.mp he with rfl | he
    · exact hR
    · exact kp_Sw hR r _ e he
theorem kp_Tab (hR : OKR m) : keepE (eTab a b ts ls st m uc us) := by
  unfold eTab; split
  · intro e he
    rcases List.mem_cons.mp he with rfl | he
    · exact hR
    · exact kp_Sw hR _ _ e he
  · trivial
theorem kp_Dup (hR : OKR m) : keepE (eDup nx ls st m uc us) := by
  unfold eDup; split
  · split <;> first | exact hR | trivial
  · trivial
theorem kp_Pop (hR : OKR m) : keepE (ePop nx ls st m uc us) := by
  unfold ePop; split
  · split <;> first | exact hR | trivial
  · trivial
theorem kp_Dup2 (hR : OKR m) : keepE (eDup2 nx ls st m uc us) := by
  unfold eDup2; split
  · split <;> first | exact hR | trivial
  · trivial
theorem kp_Cpy (hR : OKR m) : keepE (eCpy nx ls st m uc us) := by
  unfold eCpy; split
  · split <;> first | exact fun _ => hR.cpI | trivial
  · trivial
theorem kp_Prm (hR : OKR m) : keepE (ePrm a nx ls st m uc us) := by
  unfold ePrm; split
  · split <;> first | exact hR | trivial
  · exact kp_Cpy hR
  · split <;> first | exact hR | trivial
  · split <;> first | exact hR | trivial
  · split <;> first | exact hR | trivial
  · trivial
theorem kp_Call (hR : OKR m) : keepE (eEnd cap uc us (eCall a b nx ts ls st m uc us)) := by
  unfold eEnd; split
  · unfold eCall; split
    · exact kp_Prm hR
    · split <;> trivial
    · trivial
  · trivial
theorem kp_End {E : Eff} (h : keepE E) : keepE (eEnd cap uc us E) := by
  unfold eEnd; split
  · exact h
  · trivial
theorem kp_Ret : keepE (eRet a st m) := by unfold eRet; split <;> trivial
theorem kp_RetL : keepE (eRetL st m) := by unfold eRetL; split <;> trivial
theorem kp_RetA : keepE (eRetA st m) := by unfold eRetA; split <;> trivial
theorem kp_RetV : keepE (eRetV st m) := by unfold eRetV; split <;> trivial
end KE
end
section
/-! RUNS, in which the references read are named. -/
theorem addQ_ok {C : CT} {cap : Nat × Nat} {P : PT} {K : Option Vv → Mem → Prop} {E : Eff} (h : stepR C cap P K (addQ E)) : stepE C cap (PO P) K E := by
  rcases E with ⟨ix, ls, st, m, uc, us⟩ | ⟨q, ix, ls, st, m, uc, us⟩ | ⟨c, ⟨ix, ls, st, m, uc, us⟩, ⟨ix2, ls2, st2, m2, uc2, us2⟩⟩ | l | ⟨y, a, mc, ms, ix, ls, st, m, uc, us⟩ | ⟨q, v, m⟩ | u
  · exact h
  · exact ⟨h.1.1, h.1.2, h.2⟩
  all_goals exact absurd h id
theorem get_ok {C : CT} {cap : Nat × Nat} {P : PT} {K : Option Vv → Mem → Prop} {m : Mem} {ls st : List Vv} {nx a b uc us : Nat} {ts : List Nat} (hR : OKR m) (h : stepR C cap P K (eGetR a b nx ts ls st m uc us)) : stepE C cap (PO P) K (eGet a b nx ts ls st m uc us) := by
  unfold eGetR at h
  split at h
  · rename_i tr o r
    unfold eGet
    dsimp only
    split at h
    · rename_i hb
      rw [hb]
      show OKR m ∧ P nx ls (vr (gR m o b) :: r) m uc us
      rw [hR.1 _ _ h.1]
      exact ⟨hR, h.2⟩
    · exact absurd h id
  · exact stepR_keep (kp_Get hR) h
theorem aald_ok {C : CT} {cap : Nat × Nat} {P : PT} {K : Option Vv → Mem → Prop} {m : Mem} {ls st : List Vv} {nx uc us : Nat} (hR : OKR m) (h : stepR C cap P K (eAaldR nx ls st m uc us)) : stepE C cap (PO P) K (eAald nx ls st m uc us) := by
  unfold eAaldR at h
  split at h
  · rename_i j o r
    unfold eAald
    dsimp only
    split at h
    · rename_i hb
      rw [hb]
      show vp_in j (ln o) ∧ OKR m ∧ P nx ls (vr (gR m o j.toNatClampNeg) :: r) m uc us
      rw [hR.1 _ _ h.1.2]
      exact ⟨h.1.1, hR, h.2⟩
    · exact absurd h id
  · exact absurd h id
theorem put_ok {C : CT} {cap : Nat × Nat} {P : PT} {K : Option Vv → Mem → Prop} {m : Mem} {ls st : List Vv} {nx a b uc us : Nat} {ts : List Nat} (hR : OKR m) (h : stepR C cap P K (ePutR a b nx ts ls st m uc us)) : stepE C cap (PO P) K (ePut a b nx ts ls st m uc us) := by
  unfold ePutR at h
  split at h
  · exact addQ_ok h
  · rename_i hn
    exact stepR_keep (kp_Put hR hn) h
theorem eff_ok {C : CT} {cap : Nat × Nat} {P : PT} {K : Option Vv → Mem → Prop} {ins : Ins} {m : Mem} {ls st : List Vv} {uc us : Nat} (hR : OKR m) (h : stepR C cap P K (effR cap ins ls st m uc us)) : stepE C cap (PO P) K (eff cap ins ls st m uc us) := by
  obtain ⟨i, a, b, nx, v, ts⟩ := ins
  unfold effR at h
  dsimp only at h
  split at h
  · exact get_ok hR h
  · exact put_ok hR h
  · exact aald_ok hR h
  · exact addQ_ok h
  · exact absurd h id
  · refine stepR_keep ?_ h
    cases i
    all_goals first
      | (rename_i h1 h2 h3 h4 h5; first | exact (h1 _ rfl).elim | exact (h2 _ rfl).elim | exact (h3 rfl).elim | exact (h4 rfl).elim | exact (h5 _ _ rfl).elim)
      | exact hR
      | trivial
      | exact kp_LdI hR
      | exact kp_LdL hR
      | exact kp_LdA hR
      | exact kp_StI hR
      | exact kp_StA hR
      | exact kp_StL hR
      | exact kp_Inc hR
      | exact kp_I2 hR
      | exact kp_I2q hR
      | exact kp_I1 hR
      | exact kp_L2 hR
      | exact kp_L2q hR
      | exact kp_Lc hR
      | exact kp_IL hR
      | exact kp_LI hR
      | exact kp_Iald hR
      | exact kp_Zald hR
      | exact kp_Iast hR
      | exact kp_Zast hR
      | exact kp_Len hR
      | exact kp_New hR
      | exact kp_Arr hR
      | exact kp_Tab hR
      | exact kp_Dup hR
      | exact kp_Pop hR
      | exact kp_Dup2 hR
      | exact kp_Call hR
      | exact kp_End kp_Ret
      | exact kp_End kp_RetL
      | exact kp_End kp_RetA
      | exact kp_End kp_RetV
      | exact kp_Nu hR
      | (unfold eff; dsimp only; split <;> first | exact kp_Cm hR | exact kp_C0 hR | exact kp_Ac hR)
/-- so many steps, up to one of the places hd -/
def stpR (C : CT) (cd : List Ins) (cap : Nat × Nat) (P : PT) (K : Option Vv → Mem → Prop) (ix : Nat) (ls st : List Vv) (m : Mem) (uc us : Nat) : Prop := match cd[ix]? with
  | some ins => stepR C cap P K (effR cap ins ls st m uc us)
  | none => False
def rnR (C : CT) (cd : List Ins) (cap : Nat × Nat) (K : Option Vv → Mem → Prop) (hd : List Nat) : Nat → PT
  | 0 => Go C cd cap K
  | n + 1 => fun ix ls st m uc us => match hd.elem ix with
    | true => Go C cd cap K ix ls st m uc us
    | false => stpR C cd cap (rnR C cd cap K hd n) K ix ls st m uc us
theorem stpR_ok {C : CT} {cd : List Ins} {cap : Nat × Nat} {P : PT} {K : Option Vv → Mem → Prop} {ix : Nat} {ls st : List Vv} {m : Mem} {uc us : Nat} (hR : OKR m) (h : stpR C cd cap P K ix ls st m uc us) : stp C cd cap (PO P) K ix ls st m uc us := by
  unfold stpR at h
  unfold stp
  cases hc : cd[ix]? with
  | none => rw [hc] at h; exact absurd h id
  | some ins => rw [hc] at h; exact eff_ok hR h
theorem runR_go {C : CT} (hC : monoC C) {cd : List Ins} {cap : Nat × Nat} {K : Option Vv → Mem → Prop} {hd : List Nat} : ∀ (n ix : Nat) (ls st : List Vv) (m : Mem) (uc us : Nat), OKR m → rnR C cd cap K hd n ix ls st m uc us → Go C cd cap K ix ls st m uc us
  | 0, _, _, _, _, _, _, _, h => h
  | n + 1, ix, ls, st, m, uc, us, hR, h => by
    unfold rnR at h
    cases he : hd.elem ix with
    | true => rw [he] at h; exact h
    | false => rw [he] at h; exact Go.step hC (stp_mono hC (fun ix ls st m uc us g => runR_go hC n ix ls st m uc us g.1 g.2) (fun _ _ g => g) (stpR_ok hR h))
theorem Go.runR {C : CT} (hC : monoC C) {cd : List Ins} {cap : Nat × Nat} {K : Option Vv → Mem → Prop} (hd : List Nat) (n : Nat) {ix : Nat} {ls st : List Vv} {m : Mem} {uc us : Nat} (hR : OKR m) (h : stpR C cd cap (rnR C cd cap K hd n) K ix ls st m uc us) : Go C cd cap K ix ls st m uc us :=
  Go.step hC (stp_mono hC (fun ix ls st m uc us g => runR_go hC n ix ls st m uc us g.1 g.2) (fun _ _ g => g) (stpR_ok hR h))
end
section
/-! Written by a program (wip/whole/p21.py): THE FIRST CONTRACTS. -/
abbrev b2 (p : Prop) [Decidable p] : Int32 := if p then 1 else 0
theorem kvi {K : Option Vv → Mem → Prop} {a b : Int32} {m : Mem} (e : a = b) (h : K (some (vi b)) m) : K (some (vi a)) m := e ▸ h
theorem kvl {K : Option Vv → Mem → Prop} {a b : Int64} {m : Mem} (e : a = b) (h : K (some (vl b)) m) : K (some (vl a)) m := e ▸ h
theorem ln3 : nI (ln (0, 3, 0)) = 6 := rfl
theorem ln4 : nI (ln (0, 4, 0)) = 4 := rfl
theorem ln6 : nI (ln (0, 6, 0)) = 3 := rfl
theorem ln7 (s : Nat) : nI (ln (0, 7, s)) = 8 := rfl
theorem ln9 (s : Nat) : nI (ln (0, 9, s)) = 40 := rfl
theorem ln17 : nI (ln (0, 17, 0)) = 256 := rfl
theorem vp_nI {k N : Nat} (h : k < N) (hN : N < 2 ^ 31) : vp_in (nI k) N := nI_in h hN
theorem vp_of {j : Int32} {N : Nat} (h0 : 0 ≤ j) (h1 : j.toNatClampNeg < N) : vp_in j N := by
  intro h
  rcases h with h | h
  · exact absurd h (Int32.not_lt.mpr h0)
  · omega

theorem m_M_in {d : Nat} {m : Mem} {K : Option Vv → Mem → Prop} (hR : OKR m) {v lo hi : Int32} (h : K (some (vi (b2 (lo ≤ v ∧ v ≤ hi)))) m) : cW (d + 1) n_M_in [vi v, vi lo, vi hi] m K := by
  refine w_M_in (Go.runR (callT_mono MT _) [] 200 hR ?_)
  refine And.intro (fun c2 => ?_) (fun c2 => ?_)
  · try dsimp only at c2
    refine And.intro (by first | exact Or.inl rfl | exact Or.inr rfl | grind) ?_
    exact kvi (by grind) h
  · try dsimp only at c2
    refine And.intro (fun c5 => ?_) (fun c5 => ?_)
    · try dsimp only at c5
      refine And.intro (by first | exact Or.inl rfl | exact Or.inr rfl | grind) ?_
      exact kvi (by grind) h
    · try dsimp only at c5
      refine And.intro (by first | exact Or.inl rfl | exact Or.inr rfl | grind) ?_
      exact kvi (by grind) h

theorem m_M_isRow {d : Nat} {m : Mem} {K : Option Vv → Mem → Prop} (hR : OKR m) {v : Int32} (h : K (some (vi (b2 (0 ≤ v ∧ v ≤ 5)))) m) : cW (d + 2) n_M_isRow [vi v] m K := by
  refine w_M_isRow (Go.runR (callT_mono MT _) [] 200 hR ?_)
  refine m_M_in (by repeat' (first | exact hR | apply OKR.pI | apply OKR.pL | apply OKR.cpI)) (And.intro (by repeat' (first | exact hR | apply OKR.pI | apply OKR.pL | apply OKR.cpI)) ?_)
  refine And.intro (by first | exact Or.inl rfl | exact Or.inr rfl | grind) ?_
  exact h

theorem m_M_isText {d : Nat} {m : Mem} {K : Option Vv → Mem → Prop} (hR : OKR m) {v : Int32} (h : K (some (vi (b2 (0 ≤ v ∧ v ≤ 3)))) m) : cW (d + 2) n_M_isText [vi v] m K := by
  refine w_M_isText (Go.runR (callT_mono MT _) [] 200 hR ?_)
  refine m_M_in (by repeat' (first | exact hR | apply OKR.pI | apply OKR.pL | apply OKR.cpI)) (And.intro (by repeat' (first | exact hR | apply OKR.pI | apply OKR.pL | apply OKR.cpI)) ?_)
  refine And.intro (by first | exact Or.inl rfl | exact Or.inr rfl | grind) ?_
  exact h

theorem m_X_isRow {d : Nat} {m : Mem} {K : Option Vv → Mem → Prop} (hR : OKR m) {v : Int32} (h : K (some (vi (b2 (0 ≤ v ∧ v ≤ 5)))) m) : cW (d + 1) n_X_isRow [vo 0 0 0, vi v] m K := by
  refine w_X_isRow (Go.runR (callT_mono MT _) [] 200 hR ?_)
  refine And.intro (fun c1 => ?_) (fun c1 => ?_)
  · try dsimp only at c1
    refine And.intro (by first | exact Or.inl rfl | exact Or.inr rfl | grind) ?_
    exact kvi (by grind [ln3]) h
  · try dsimp only at c1
    refine And.intro ⟨(by first | decide | assumption | omega), (by first | decide | assumption | omega)⟩ ?_
    refine And.intro (fun c6 => ?_) (fun c6 => ?_)
    · try dsimp only at c6
      refine And.intro (by first | exact Or.inl rfl | exact Or.inr rfl | grind) ?_
      exact kvi (by grind [ln3]) h
    · try dsimp only at c6
      refine And.intro (by first | exact Or.inl rfl | exact Or.inr rfl | grind) ?_
      exact kvi (by grind [ln3]) h

theorem m_X_isText {d : Nat} {m : Mem} {K : Option Vv → Mem → Prop} (hR : OKR m) {v : Int32} (h : K (some (vi (b2 (0 ≤ v ∧ v ≤ 3)))) m) : cW (d + 1) n_X_isText [vo 0 0 0, vi v] m K := by
  refine w_X_isText (Go.runR (callT_mono MT _) [] 200 hR ?_)
  refine And.intro (fun c1 => ?_) (fun c1 => ?_)
  · try dsimp only at c1
    refine And.intro (by first | exact Or.inl rfl | exact Or.inr rfl | grind) ?_
    exact kvi (by grind [ln4]) h
  · try dsimp only at c1
    refine And.intro ⟨(by first | decide | assumption | omega), (by first | decide | assumption | omega)⟩ ?_
    refine And.intro (fun c6 => ?_) (fun c6 => ?_)
    · try dsimp only at c6
      refine And.intro (by first | exact Or.inl rfl | exact Or.inr rfl | grind) ?_
      exact kvi (by grind [ln4]) h
    · try dsimp only at c6
      refine And.intro (by first | exact Or.inl rfl | exact Or.inr rfl | grind) ?_
      exact kvi (by grind [ln4]) h

theorem m_Ce_isMissing {d : Nat} {m : Mem} {K : Option Vv → Mem → Prop} (hR : OKR m) {c : Nat} (h : K (some (vi (b2 (gI m (0, 1, c) 1 = -1)))) m) : cW (d + 1) n_Ce_isMissing [vo 0 1 c] m K := by
  refine w_Ce_isMissing (Go.runR (callT_mono MT _) [] 200 hR ?_)
  refine And.intro (fun c3 => ?_) (fun c3 => ?_)
  · try dsimp only at c3
    refine And.intro (by first | exact Or.inl rfl | exact Or.inr rfl | grind) ?_
    exact kvi (by grind) h
  · try dsimp only at c3
    refine And.intro (by first | exact Or.inl rfl | exact Or.inr rfl | grind) ?_
    exact kvi (by grind) h

theorem m_Ce_has {d : Nat} {m : Mem} {K : Option Vv → Mem → Prop} (hR : OKR m) {c : Nat} {i : Int32} (h : K (some (vi (b2 (0 ≤ i ∧ i < gI m (0, 1, c) 1)))) m) : cW (d + 1) n_Ce_has [vo 0 1 c, vi i] m K := by
  refine w_Ce_has (Go.runR (callT_mono MT _) [] 200 hR ?_)
  refine And.intro (fun c1 => ?_) (fun c1 => ?_)
  · try dsimp only at c1
    refine And.intro (by first | exact Or.inl rfl | exact Or.inr rfl | grind) ?_
    exact kvi (by grind) h
  · try dsimp only at c1
    refine And.intro (fun c5 => ?_) (fun c5 => ?_)
    · try dsimp only at c5
      refine And.intro (by first | exact Or.inl rfl | exact Or.inr rfl | grind) ?_
      exact kvi (by grind) h
    · try dsimp only at c5
      refine And.intro (by first | exact Or.inl rfl | exact Or.inr rfl | grind) ?_
      exact kvi (by grind) h
end
section
/-! Written by a program (wip/whole/p22.py): BASIC CONTRACTS. -/
theorem vp_lt {j : Int32} {N : Nat} (h0 : 0 ≤ j) (h1 : j < nI N) (hN : N < 2 ^ 31) : vp_in j N := by
  obtain ⟨a, ha, rfl⟩ := nI_of (Int32.not_lt.mpr h0)
  exact vp_nI ((nI_ltI ha hN).mp h1) hN
theorem fa6 : nI 6 = 6 := rfl
abbrev foundM (m : Mem) (f : Nat) : Mem := pI (pI m (0, 0, 0) 7 (nI f)) (0, 19, 0) f (gI m (0, 19, 0) f + 1)
abbrev meetM (m : Mem) (f : Nat) : Mem := pI (pI m (1, 0, 0) 0 (nI f)) (1, 1, 0) f (gI m (1, 1, 0) f + 1)
abbrev tellM (m : Mem) (v : Int32) : Mem := pI m (0, 0, 0) 8 v
abbrev askM (m : Mem) (v : Int32) : Mem := pI m (1, 0, 0) 2 v
theorem rd01 (m : Mem) (t i k : Nat) (v : Int32) (t' i' k' : Nat) : gI (pI m (0, t, i) k v) (1, t', i') k' = gI m (1, t', i') k' := rfl
theorem rd10 (m : Mem) (t i k : Nat) (v : Int32) (t' i' k' : Nat) : gI (pI m (1, t, i) k v) (0, t', i') k' = gI m (0, t', i') k' := rfl
theorem rd00 (m : Mem) (t i k : Nat) (v : Int32) (t' i' k' : Nat) : gI (pI m (0, t, i) k v) (0, t', i') k' = if t' = t ∧ i' = i ∧ k' = k then v else gI m (0, t', i') k' := rfl
theorem rd11 (m : Mem) (t i k : Nat) (v : Int32) (t' i' k' : Nat) : gI (pI m (1, t, i) k v) (1, t', i') k' = if t' = t ∧ i' = i ∧ k' = k then v else gI m (1, t', i') k' := rfl

theorem m_X_isWithin {d : Nat} {m : Mem} {K : Option Vv → Mem → Prop} (hR : OKR m) {v lo hi : Int32} (h : K (some (vi (b2 (lo ≤ v ∧ v ≤ hi)))) m) : cW (d + 1) n_X_isWithin [vi v, vi lo, vi hi] m K := by
  refine w_X_isWithin (Go.runR (callT_mono MT _) [] 200 hR ?_)
  refine And.intro (fun c2 => ?_) (fun c2 => ?_)
  · try dsimp only at c2
    refine And.intro (by first | exact Or.inl rfl | exact Or.inr rfl | grind) ?_
    exact kvi (by grind) h
  · try dsimp only at c2
    refine And.intro (fun c5 => ?_) (fun c5 => ?_)
    · try dsimp only at c5
      refine And.intro (by first | exact Or.inl rfl | exact Or.inr rfl | grind) ?_
      exact kvi (by grind) h
    · try dsimp only at c5
      refine And.intro (by first | exact Or.inl rfl | exact Or.inr rfl | grind) ?_
      exact kvi (by grind) h

theorem m_M_ask {d : Nat} {m : Mem} {K : Option Vv → Mem → Prop} (hR : OKR m) {v a : Int32} (h : K (some (vi a)) (askM m v)) : cW (d + 1) n_M_ask [vo 1 0 0, vi v, vi a] m K := by
  refine w_M_ask (Go.runR (callT_mono MT _) [] 200 hR ?_)
  refine And.intro trivial ?_
  exact h

theorem m_X_tell {d : Nat} {m : Mem} {K : Option Vv → Mem → Prop} (hR : OKR m) {v a : Int32} (h : K (some (vi a)) (tellM m v)) : cW (d + 1) n_X_tell [vo 0 0 0, vi v, vi a] m K := by
  refine w_X_tell (Go.runR (callT_mono MT _) [] 200 hR ?_)
  refine And.intro trivial ?_
  exact h

theorem m_M_meet1 {d : Nat} {m : Mem} {K : Option Vv → Mem → Prop} (hR : OKR m)  (h : K (some (vi (-3))) (meetM m 1)) : cW (d + 1) n_M_meet [vo 1 0 0, vi 1] m K := by
  refine w_M_meet (Go.runR (callT_mono MT _) [] 200 hR ?_)
  refine And.intro ⟨rfl, rfl, rfl⟩ ?_
  refine And.intro (vp_nI (k := 1) (by decide) (by decide)) ?_
  refine And.intro (vp_nI (k := 1) (by decide) (by decide)) ?_
  refine And.intro trivial ?_
  exact h

theorem m_X_found1 {d : Nat} {m : Mem} {K : Option Vv → Mem → Prop} (hR : OKR m)  (h : K (some (vi (-3))) (foundM m 1)) : cW (d + 2) n_X_found [vo 0 0 0, vi 1] m K := by
  refine w_X_found (Go.runR (callT_mono MT _) [] 200 hR ?_)
  refine m_X_isWithin (by repeat' (first | exact hR | apply OKR.pI | apply OKR.pL | apply OKR.cpI)) (And.intro (by repeat' (first | exact hR | apply OKR.pI | apply OKR.pL | apply OKR.cpI)) ?_)
  refine And.intro (fun c7 => ?_) (fun c7 => ?_)
  · try dsimp only at c7
    refine And.intro trivial ?_
    first | exact h | exact absurd c7 (by decide)
  · try dsimp only at c7
    refine And.intro ⟨(by first | decide | assumption | omega), (by first | decide | assumption | omega)⟩ ?_
    refine And.intro (vp_nI (k := 1) (by decide) (by decide)) ?_
    refine And.intro (vp_nI (k := 1) (by decide) (by decide)) ?_
    refine And.intro trivial ?_
    first | exact h | exact absurd c7 (by decide)

theorem m_M_meet2 {d : Nat} {m : Mem} {K : Option Vv → Mem → Prop} (hR : OKR m)  (h : K (some (vi (-3))) (meetM m 2)) : cW (d + 1) n_M_meet [vo 1 0 0, vi 2] m K := by
  refine w_M_meet (Go.runR (callT_mono MT _) [] 200 hR ?_)
  refine And.intro ⟨rfl, rfl, rfl⟩ ?_
  refine And.intro (vp_nI (k := 2) (by decide) (by decide)) ?_
  refine And.intro (vp_nI (k := 2) (by decide) (by decide)) ?_
  refine And.intro trivial ?_
  exact h

theorem m_X_found2 {d : Nat} {m : Mem} {K : Option Vv → Mem → Prop} (hR : OKR m)  (h : K (some (vi (-3))) (foundM m 2)) : cW (d + 2) n_X_found [vo 0 0 0, vi 2] m K := by
  refine w_X_found (Go.runR (callT_mono MT _) [] 200 hR ?_)
  refine m_X_isWithin (by repeat' (first | exact hR | apply OKR.pI | apply OKR.pL | apply OKR.cpI)) (And.intro (by repeat' (first | exact hR | apply OKR.pI | apply OKR.pL | apply OKR.cpI)) ?_)
  refine And.intro (fun c7 => ?_) (fun c7 => ?_)
  · try dsimp only at c7
    refine And.intro trivial ?_
    first | exact h | exact absurd c7 (by decide)
  · try dsimp only at c7
    refine And.intro ⟨(by first | decide | assumption | omega), (by first | decide | assumption | omega)⟩ ?_
    refine And.intro (vp_nI (k := 2) (by decide) (by decide)) ?_
    refine And.intro (vp_nI (k := 2) (by decide) (by decide)) ?_
    refine And.intro trivial ?_
    first | exact h | exact absurd c7 (by decide)

theorem m_M_meet3 {d : Nat} {m : Mem} {K : Option Vv → Mem → Prop} (hR : OKR m)  (h : K (some (vi (-3))) (meetM m 3)) : cW (d + 1) n_M_meet [vo 1 0 0, vi 3] m K := by
  refine w_M_meet (Go.runR (callT_mono MT _) [] 200 hR ?_)
  refine And.intro ⟨rfl, rfl, rfl⟩ ?_
  refine And.intro (vp_nI (k := 3) (by decide) (by decide)) ?_
  refine And.intro (vp_nI (k := 3) (by decide) (by decide)) ?_
  refine And.intro trivial ?_
  exact h

theorem m_X_found3 {d : Nat} {m : Mem} {K : Option Vv → Mem → Prop} (hR : OKR m)  (h : K (some (vi (-3))) (foundM m 3)) : cW (d + 2) n_X_found [vo 0 0 0, vi 3] m K := by
  refine w_X_found (Go.runR (callT_mono MT _) [] 200 hR ?_)
  refine m_X_isWithin (by repeat' (first | exact hR | apply OKR.pI | apply OKR.pL | apply OKR.cpI)) (And.intro (by repeat' (first | exact hR | apply OKR.pI | apply OKR.pL | apply OKR.cpI)) ?_)
  refine And.intro (fun c7 => ?_) (fun c7 => ?_)
  · try dsimp only at c7
    refine And.intro trivial ?_
    first | exact h | exact absurd c7 (by decide)
  · try dsimp only at c7
    refine And.intro ⟨(by first | decide | assumption | omega), (by first | decide | assumption | omega)⟩ ?_
    refine And.intro (vp_nI (k := 3) (by decide) (by decide)) ?_
    refine And.intro (vp_nI (k := 3) (by decide) (by decide)) ?_
    refine And.intro trivial ?_
    first | exact h | exact absurd c7 (by decide)

theorem m_M_meet4 {d : Nat} {m : Mem} {K : Option Vv → Mem → Prop} (hR : OKR m)  (h : K (some (vi (-3))) (meetM m 4)) : cW (d + 1) n_M_meet [vo 1 0 0, vi 4] m K := by
  refine w_M_meet (Go.runR (callT_mono MT _) [] 200 hR ?_)
  refine And.intro ⟨rfl, rfl, rfl⟩ ?_
  refine And.intro (vp_nI (k := 4) (by decide) (by decide)) ?_
  refine And.intro (vp_nI (k := 4) (by decide) (by decide)) ?_
  refine And.intro trivial ?_
  exact h

theorem m_X_found4 {d : Nat} {m : Mem} {K : Option Vv → Mem → Prop} (hR : OKR m)  (h : K (some (vi (-3))) (foundM m 4)) : cW (d + 2) n_X_found [vo 0 0 0, vi 4] m K := by
  refine w_X_found (Go.runR (callT_mono MT _) [] 200 hR ?_)
  refine m_X_isWithin (by repeat' (first | exact hR | apply OKR.pI | apply OKR.pL | apply OKR.cpI)) (And.intro (by repeat' (first | exact hR | apply OKR.pI | apply OKR.pL | apply OKR.cpI)) ?_)
  refine And.intro (fun c7 => ?_) (fun c7 => ?_)
  · try dsimp only at c7
    refine And.intro trivial ?_
    first | exact h | exact absurd c7 (by decide)
  · try dsimp only at c7
    refine And.intro ⟨(by first | decide | assumption | omega), (by first | decide | assumption | omega)⟩ ?_
    refine And.intro (vp_nI (k := 4) (by decide) (by decide)) ?_
    refine And.intro (vp_nI (k := 4) (by decide) (by decide)) ?_
    refine And.intro trivial ?_
    first | exact h | exact absurd c7 (by decide)

theorem m_M_meet5 {d : Nat} {m : Mem} {K : Option Vv → Mem → Prop} (hR : OKR m)  (h : K (some (vi (-3))) (meetM m 5)) : cW (d + 1) n_M_meet [vo 1 0 0, vi 5] m K := by
  refine w_M_meet (Go.runR (callT_mono MT _) [] 200 hR ?_)
  refine And.intro ⟨rfl, rfl, rfl⟩ ?_
  refine And.intro (vp_nI (k := 5) (by decide) (by decide)) ?_
  refine And.intro (vp_nI (k := 5) (by decide) (by decide)) ?_
  refine And.intro trivial ?_
  exact h

theorem m_X_found5 {d : Nat} {m : Mem} {K : Option Vv → Mem → Prop} (hR : OKR m)  (h : K (some (vi (-3))) (foundM m 5)) : cW (d + 2) n_X_found [vo 0 0 0, vi 5] m K := by
  refine w_X_found (Go.runR (callT_mono MT _) [] 200 hR ?_)
  refine m_X_isWithin (by repeat' (first | exact hR | apply OKR.pI | apply OKR.pL | apply OKR.cpI)) (And.intro (by repeat' (first | exact hR | apply OKR.pI | apply OKR.pL | apply OKR.cpI)) ?_)
  refine And.intro (fun c7 => ?_) (fun c7 => ?_)
  · try dsimp only at c7
    refine And.intro trivial ?_
    first | exact h | exact absurd c7 (by decide)
  · try dsimp only at c7
    refine And.intro ⟨(by first | decide | assumption | omega), (by first | decide | assumption | omega)⟩ ?_
    refine And.intro (vp_nI (k := 5) (by decide) (by decide)) ?_
    refine And.intro (vp_nI (k := 5) (by decide) (by decide)) ?_
    refine And.intro trivial ?_
    first | exact h | exact absurd c7 (by decide)

theorem m_M_rowAt {d : Nat} {m : Mem} {K : Option Vv → Mem → Prop} (hR : OKR m) {a b : Nat} (ha : a < 6) (hb : b < 40) (h : K (some (vi (gI m (1, 3, 0) (40 * a + b)))) m) : cW (d + 1) n_M_rowAt [vo 1 0 0, vi (nI a), vi (nI b)] m K := by
  have e1 : (40 : Int32) * nI a + nI b = nI (40 * a + b) := by rw [show (40 : Int32) = nI 40 from rfl, pk_mul, nI_add]
  refine w_M_rowAt (Go.runR (callT_mono MT _) [] 200 hR ?_)
  refine And.intro ⟨rfl, rfl, rfl⟩ ?_
  refine And.intro (by dsimp only; rw [e1]; exact vp_nI (N := 240) (by omega) (by decide)) ?_
  refine And.intro trivial ?_
  exact kvi (by dsimp only; rw [e1, nI_clamp (by omega)]) h

theorem m_M_setRow {d : Nat} {m : Mem} {K : Option Vv → Mem → Prop} (hR : OKR m) {a b : Nat} {v : Int32} (ha : a < 6) (hb : b < 40) (h : K none (pI m (1, 3, 0) (40 * a + b) v)) : cW (d + 1) n_M_setRow [vo 1 0 0, vi (nI a), vi (nI b), vi v] m K := by
  have e1 : (40 : Int32) * nI a + nI b = nI (40 * a + b) := by rw [show (40 : Int32) = nI 40 from rfl, pk_mul, nI_add]
  refine w_M_setRow (Go.runR (callT_mono MT _) [] 200 hR ?_)
  refine And.intro ⟨rfl, rfl, rfl⟩ ?_
  refine And.intro (by dsimp only; rw [e1]; exact vp_nI (N := 240) (by omega) (by decide)) ?_
  refine And.intro trivial ?_
  dsimp only; rw [e1, nI_clamp (by omega)]; exact h

theorem m_M_askedRow {d : Nat} {m : Mem} {K : Option Vv → Mem → Prop} (hR : OKR m) {r : Int32} (hb : ¬ (0 ≤ r ∧ r ≤ 5) → K (some (vi (-1))) m) (hm : (0 ≤ r ∧ r ≤ 5) → gI m (1, 2, 0) r.toNatClampNeg < 0 → K (some (vi (-3))) (meetM m 1)) (h : (0 ≤ r ∧ r ≤ 5) → 0 ≤ gI m (1, 2, 0) r.toNatClampNeg → K (some (vi 0)) m) : cW (d + 3) n_M_askedRow [vo 1 0 0, vi r] m K := by
  refine w_M_askedRow (Go.runR (callT_mono MT _) [] 200 hR ?_)
  refine m_M_isRow (by repeat' (first | exact hR | apply OKR.pI | apply OKR.pL | apply OKR.cpI)) (And.intro (by repeat' (first | exact hR | apply OKR.pI | apply OKR.pL | apply OKR.cpI)) ?_)
  refine And.intro (fun c2 => ?_) (fun c2 => ?_)
  · try dsimp only at c2
    refine And.intro trivial ?_
    first | exact hb (by grind) | exact hm (by grind) (by grind) | exact h (by grind) (by grind)
  · try dsimp only at c2
    refine And.intro ⟨rfl, rfl, rfl⟩ ?_
    refine And.intro (vp_lt (N := 6) (by grind) (by grind [fa6]) (by decide)) ?_
    refine And.intro (fun c9 => ?_) (fun c9 => ?_)
    · try dsimp only at c9
      refine And.intro trivial ?_
      first | exact hb (by grind) | exact hm (by grind) (by grind) | exact h (by grind) (by grind)
    · try dsimp only at c9
      refine m_M_meet1 (by repeat' (first | exact hR | apply OKR.pI | apply OKR.pL | apply OKR.cpI)) (And.intro (by repeat' (first | exact hR | apply OKR.pI | apply OKR.pL | apply OKR.cpI)) ?_)
      refine And.intro trivial ?_
      first | exact hb (by grind) | exact hm (by grind) (by grind) | exact h (by grind) (by grind)
end
section
/-! CLASS AGAINST REFERENCE: what holds between two calls of the law. -/
def RowsR (m : Mem) : Prop := ∀ r, r < 6 → (gI m (0, 1, r) 1 = -1 ∧ gI m (1, 2, 0) r = -9) ∨ ∃ n, n ≤ 40 ∧ gI m (0, 1, r) 1 = nI n ∧ gI m (1, 2, 0) r = nI n ∧ ∀ k, k < n → gI m (0, 2, r) k = gI m (1, 3, 0) (40 * r + k)
def TextsR (m : Mem) : Prop := ∀ t, t < 4 → (gI m (0, 1, 6 + t) 1 = -1 ∧ gI m (1, 5, 0) t = -9) ∨ ∃ n, n ≤ 80 ∧ gI m (0, 1, 6 + t) 1 = nI n ∧ gI m (1, 5, 0) t = nI n ∧ ∀ k, k < n → gI m (0, 2, 6 + t) k = gI m (1, 6, 0) (80 * t + k)
def TellR (m : Mem) : Prop := gI m (0, 0, 0) 7 = gI m (1, 0, 0) 0 ∧ gI m (0, 0, 0) 8 = gI m (1, 0, 0) 2 ∧ (∀ f, 1 ≤ f → f ≤ 5 → gI m (0, 19, 0) f = gI m (1, 1, 0) f) ∧ gL m (0, 18, 0) 0 = gL m (1, 0, 0) 3 ∧ gL m (0, 18, 0) 1 = gL m (1, 0, 0) 4
/-- an HOUR that has been, against a note of 12 ints -/
def HrR (n h : Nat) (nt : Nat → Int32) (m : Mem) : Prop := gI m (0, 10, h) 1 = nt 0 ∧ gI m (0, 10, h) 2 = nt 1 ∧ gI m (0, 10, h) 3 = nt 2 ∧ (∃ w, w ≤ 60 ∧ nt 2 = nI w) ∧ gI m (0, 10, h) 4 = nt 3 ∧ ∀ i, i < n → gI m (0, 11, h) i = nt (4 + i)
/-- a HOUSE against wall, made, paid -/
def HoR (h : Nat) (wl md pd : Int32) (m : Mem) : Prop := gI m (0, 8, h) 2 = wl ∧ (∃ w, w ≤ 99 ∧ wl = nI w) ∧ gI m (0, 8, h) 3 = md ∧ gI m (0, 8, h) 4 = pd ∧ ∃ w, w ≤ 999 ∧ pd = nI w
/-- STREET s of n HOUSES and H HOURS against what the reference keeps of one -/
def SR (s n H : Nat) (al wa ov : Int32) (wl md pd db nt : Nat → Int32) (m : Mem) : Prop :=
  gI m (0, 5, s) 3 = nI n ∧ gI m (0, 5, s) 4 = nI H ∧ H ≤ 40 ∧ (gI m (0, 5, s) 5 = al ∧ ∃ a, a ≤ 9 ∧ al = nI a) ∧ (gI m (0, 5, s) 7 = wa ∧ ∃ w, w ≤ 60 ∧ wa = nI w) ∧ gI m (0, 5, s) 8 = ov ∧
  (∀ i, i < n → HoR (8 * s + i) (wl i) (md i) (pd i) m) ∧ (∀ i j, i < n → j < n → gI m (0, 13, 8 * s + i) j = db (8 * i + j) ∧ ∃ v, v ≤ 99 ∧ db (8 * i + j) = nI v) ∧ ∀ t, t < H → HrR n (40 * s + t) (fun c => nt (12 * t + c)) m
/-- what is told of the HOUSES once and for all: kind, loud; the leak -/
def LoudR (n : Nat) (m : Mem) : Prop := (∀ i, i < n → gI m (1, 7, 0) i = nI (kn m i) ∧ gI m (0, 8, i) 1 = gI m (1, 8, 0) i ∧ ∃ l, l ≤ 9 ∧ gI m (1, 8, 0) i = nI l) ∧ (gI m (0, 5, 0) 6 = gI m (1, 0, 0) 12 ∧ ∃ l, l ≤ 9 ∧ gI m (1, 0, 0) 12 = nI l)
def KeptR (n k : Nat) (m : Mem) : Prop := (gI m (0, 5, 1 + k) 3 = 0 ∧ gI m (1, 13, 0) (580 * k) = -9) ∨
  (∃ H, gI m (1, 13, 0) (580 * k) = nI H ∧ SR (1 + k) n H (gI m (1, 13, 0) (580 * k + 1)) (gI m (1, 13, 0) (580 * k + 2)) (gI m (1, 13, 0) (580 * k + 3)) (fun i => gI m (1, 13, 0) (580 * k + 4 + i)) (fun i => gI m (1, 13, 0) (580 * k + 12 + i)) (fun i => gI m (1, 13, 0) (580 * k + 20 + i)) (fun j => gI m (1, 13, 0) (580 * k + 28 + j)) (fun j => gI m (1, 13, 0) (580 * k + 92 + j)) m ∧
    (∀ i, i < n → kn m (8 * (1 + k) + i) = kn m i ∧ gI m (0, 8, 8 * (1 + k) + i) 1 = gI m (0, 8, i) 1) ∧ gI m (0, 5, 1 + k) 6 = gI m (0, 5, 0) 6)
def CurR (n : Nat) (m : Mem) : Prop := n ≤ 8 ∧ gI m (1, 0, 0) 10 = nI n ∧ (n = 0 → gI m (0, 5, 0) 3 = 0 ∧ gI m (0, 5, 0) 4 = 0 ∧ gI m (1, 0, 0) 20 = 0 ∧ gI m (0, 5, 0) 7 = 0 ∧ gI m (1, 0, 0) 21 = 0 ∧ gI m (0, 5, 0) 8 = 0 ∧ gI m (1, 0, 0) 22 = 0 ∧ gI m (1, 0, 0) 11 = 0 ∧ gI m (1, 0, 0) 12 = 0 ∧ ∀ k, k < 3 → gI m (0, 5, 1 + k) 3 = 0 ∧ gI m (1, 13, 0) (580 * k) = -9) ∧
  (0 < n → LoudR n m ∧ (∃ H, gI m (1, 0, 0) 20 = nI H ∧ SR 0 n H (gI m (1, 0, 0) 11) (gI m (1, 0, 0) 21) (gI m (1, 0, 0) 22) (gI m (1, 9, 0)) (gI m (1, 10, 0)) (gI m (1, 11, 0)) (gI m (1, 18, 0)) (gI m (1, 12, 0)) m) ∧ ∀ k, k < 3 → KeptR n k m)
def RelAB (m : Mem) : Prop := OKR m ∧ RowsR m ∧ TextsR m ∧ TellR m ∧ ∃ n, CurR n m
/-! what a call leaves alone stays -/
theorem kn_rw {m m' : Mem} (h : ∀ i, gR m' (0, 8, i) 0 = gR m (0, 8, i) 0) (i : Nat) : kn m' i = kn m i := by unfold kn; rw [h]
/-- the street's side reads only these -/
theorem CurR.cg {n : Nat} {m m' : Mem} (hk : ∀ i, kn m' i = kn m i) (h0 : ∀ t i k, t = 5 ∨ t = 8 ∨ t = 10 ∨ t = 11 ∨ t = 13 → gI m' (0, t, i) k = gI m (0, t, i) k) (h1 : ∀ k, k = 10 ∨ k = 11 ∨ k = 12 ∨ k = 20 ∨ k = 21 ∨ k = 22 → gI m' (1, 0, 0) k = gI m (1, 0, 0) k) (h2 : ∀ t k, t = 7 ∨ t = 8 ∨ t = 9 ∨ t = 10 ∨ t = 11 ∨ t = 12 ∨ t = 13 ∨ t = 18 → gI m' (1, t, 0) k = gI m (1, t, 0) k) (H : CurR n m) : CurR n m' := by
  unfold CurR LoudR KeptR SR HoR HrR at *
  have e5 : ∀ i k, gI m' (0, 5, i) k = gI m (0, 5, i) k := fun i k => h0 5 i k (by omega)
  have e8 : ∀ i k, gI m' (0, 8, i) k = gI m (0, 8, i) k := fun i k => h0 8 i k (by omega)
  have e10 : ∀ i k, gI m' (0, 10, i) k = gI m (0, 10, i) k := fun i k => h0 10 i k (by omega)
  have e11 : ∀ i k, gI m' (0, 11, i) k = gI m (0, 11, i) k := fun i k => h0 11 i k (by omega)
  have e13 : ∀ i k, gI m' (0, 13, i) k = gI m (0, 13, i) k := fun i k => h0 13 i k (by omega)
  have f10 := h1 10 (by omega)
  have f11 := h1 11 (by omega)
  have f12 := h1 12 (by omega)
  have f20 := h1 20 (by omega)
  have f21 := h1 21 (by omega)
  have f22 := h1 22 (by omega)
  have g7 : ∀ k, gI m' (1, 7, 0) k = gI m (1, 7, 0) k := fun k => h2 7 k (by omega)
  have g8 : ∀ k, gI m' (1, 8, 0) k = gI m (1, 8, 0) k := fun k => h2 8 k (by omega)
  have g9 : ∀ k, gI m' (1, 9, 0) k = gI m (1, 9, 0) k := fun k => h2 9 k (by omega)
  have g10 : ∀ k, gI m' (1, 10, 0) k = gI m (1, 10, 0) k := fun k => h2 10 k (by omega)
  have g11 : ∀ k, gI m' (1, 11, 0) k = gI m (1, 11, 0) k := fun k => h2 11 k (by omega)
  have g12 : ∀ k, gI m' (1, 12, 0) k = gI m (1, 12, 0) k := fun k => h2 12 k (by omega)
  have g13 : ∀ k, gI m' (1, 13, 0) k = gI m (1, 13, 0) k := fun k => h2 13 k (by omega)
  have g18 : ∀ k, gI m' (1, 18, 0) k = gI m (1, 18, 0) k := fun k => h2 18 k (by omega)
  simp only [hk, e5, e8, e10, e11, e13, f10, f11, f12, f20, f21, f22, g7, g8, g9, g10, g11, g12, g13, g18]
  exact H
theorem RowsR.cg {m m' : Mem} (h0 : ∀ r, r < 6 → gI m' (0, 1, r) 1 = gI m (0, 1, r) 1) (h1 : ∀ r k, r < 6 → gI m' (0, 2, r) k = gI m (0, 2, r) k) (h2 : ∀ k, gI m' (1, 2, 0) k = gI m (1, 2, 0) k) (h3 : ∀ k, gI m' (1, 3, 0) k = gI m (1, 3, 0) k) (H : RowsR m) : RowsR m' := by
  intro r hr
  rw [h0 r hr, h2]
  rcases H r hr with h | ⟨n, a, b, c, d⟩
  · exact Or.inl h
  · exact Or.inr ⟨n, a, b, c, fun k hk => by rw [h1 r k hr, h3]; exact d k hk⟩
theorem TextsR.cg {m m' : Mem} (h0 : ∀ r, gI m' (0, 1, 6 + r) 1 = gI m (0, 1, 6 + r) 1) (h1 : ∀ r k, gI m' (0, 2, 6 + r) k = gI m (0, 2, 6 + r) k) (h2 : ∀ k, gI m' (1, 5, 0) k = gI m (1, 5, 0) k) (h3 : ∀ k, gI m' (1, 6, 0) k = gI m (1, 6, 0) k) (H : TextsR m) : TextsR m' := by
  unfold TextsR at *
  simp only [h0, h1, h2, h3]
  exact H
/-- both sides meet the same finding; both tell the same -/
theorem RelAB.meet {m : Mem} (R : RelAB m) {f : Nat} (h1 : 1 ≤ f) (h5 : f ≤ 5) : RelAB (meetM (foundM m f) f) := by
  obtain ⟨a, b, c, d, n, e⟩ := R
  refine ⟨a.pI.pI.pI.pI, b.cg (fun _ _ => rfl) (fun _ _ _ => rfl) (fun _ => rfl) (fun _ => rfl), c.cg (fun _ => rfl) (fun _ _ => rfl) (fun _ => rfl) (fun _ => rfl), ?_, n, e.cg (fun i => kn_rw (fun _ => rfl) i) (fun t i k ht => by rcases ht with rfl | rfl | rfl | rfl | rfl <;> rfl) (fun k hk => by rcases hk with rfl | rfl | rfl | rfl | rfl | rfl <;> rfl) (fun t k ht => by rcases ht with rfl | rfl | rfl | rfl | rfl | rfl | rfl | rfl <;> rfl)⟩
  obtain ⟨d1, d2, d3, d4, d5⟩ := d
  refine ⟨rfl, d2, fun g g1 g5 => ?_, d4, d5⟩
  have e1 : gI (meetM (foundM m f) f) (0, 19, 0) g = if g = f then gI m (0, 19, 0) f + 1 else gI m (0, 19, 0) g := by simp [rd00, rd10]
  have e2 : gI (meetM (foundM m f) f) (1, 1, 0) g = if g = f then gI m (1, 1, 0) f + 1 else gI m (1, 1, 0) g := by simp [rd11, rd01]
  rw [e1, e2, d3 g g1 g5, d3 f h1 h5]
theorem RelAB.tell {m : Mem} (R : RelAB m) (v : Int32) : RelAB (askM (tellM m v) v) := by
  obtain ⟨a, b, c, d, n, e⟩ := R
  exact ⟨a.pI.pI, b.cg (fun _ _ => rfl) (fun _ _ _ => rfl) (fun _ => rfl) (fun _ => rfl), c.cg (fun _ => rfl) (fun _ _ => rfl) (fun _ => rfl) (fun _ => rfl), ⟨d.1, rfl, d.2.2⟩, n, e.cg (fun i => kn_rw (fun _ => rfl) i) (fun t i k ht => by rcases ht with rfl | rfl | rfl | rfl | rfl <;> rfl) (fun k hk => by rcases hk with rfl | rfl | rfl | rfl | rfl | rfl <;> rfl) (fun t k ht => by rcases ht with rfl | rfl | rfl | rfl | rfl | rfl | rfl | rfl <;> rfl)⟩
/-- calls that touch rows or texts alone -/
theorem RelAB.cells {m m' : Mem} (R : RelAB m) (hok : OKR m') (hr : RowsR m') (ht : TextsR m') (h0 : ∀ t i k, t ≠ 1 → t ≠ 2 → gI m' (0, t, i) k = gI m (0, t, i) k) (h1 : ∀ t i k, t ≠ 2 → t ≠ 3 → t ≠ 4 → t ≠ 5 → t ≠ 6 → gI m' (1, t, i) k = gI m (1, t, i) k) (hL : ∀ o k, gL m' o k = gL m o k) (hR : ∀ o k, gR m' o k = gR m o k) : RelAB m' := by
  obtain ⟨a, b, c, d, n, e⟩ := R
  refine ⟨hok, hr, ht, ?_, n, e.cg (fun i => kn_cg hR i) (fun t i k q => h0 t i k (by omega) (by omega)) (fun k q => h1 0 0 k (by omega) (by omega) (by omega) (by omega) (by omega)) (fun t k q => h1 t 0 k (by omega) (by omega) (by omega) (by omega) (by omega))⟩
  unfold TellR at *
  simp only [h0 0 _ _ (by omega) (by omega), h0 19 _ _ (by omega) (by omega), h1 0 _ _ (by omega) (by omega) (by omega) (by omega) (by omega), h1 1 _ _ (by omega) (by omega) (by omega) (by omega) (by omega), hL]
  exact d
end
section
/-! Written by a program (wip/whole/p24.py): rows, at. -/
theorem fa5 : nI 5 = 5 := rfl
theorem fa40 : nI 40 = 40 := rfl
theorem row_of {r : Int32} (c : ¬ b2 (0 ≤ r ∧ r ≤ 5) = 0) : ∃ a, a < 6 ∧ r = nI a := by
  have h : 0 ≤ r ∧ r ≤ 5 := by grind
  obtain ⟨j, h1, h2⟩ := nI_of2 (M := 5) (n := 5) rfl (Int32.not_lt.mpr h.1) h.2
  exact ⟨j, by omega, h2⟩
theorem ln2_lt (c : Nat) : ln (0, 2, c) < 2 ^ 31 := by
  show (if c < 6 then 40 else 80) < 2 ^ 31
  split <;> decide

theorem m_Ce_get {d : Nat} {m : Mem} {K : Option Vv → Mem → Prop} (hR : OKR m) {c : Nat} {i : Int32} (hc : c < 10) (hs : gI m (0, 1, c) 1 ≤ nI (ln (0, 2, c))) (h : K (some (vi (if 0 ≤ i ∧ i < gI m (0, 1, c) 1 then gI m (0, 2, c) i.toNatClampNeg else 0))) m) : cW (d + 2) n_Ce_get [vo 0 1 c, vi i] m K := by
  refine w_Ce_get (Go.runR (callT_mono MT _) [] 200 hR ?_)
  refine m_Ce_has (by repeat' (first | exact hR | apply OKR.pI | apply OKR.pL | apply OKR.cpI)) (And.intro (by repeat' (first | exact hR | apply OKR.pI | apply OKR.pL | apply OKR.cpI)) ?_)
  refine And.intro (fun c3 => ?_) (fun c3 => ?_)
  · try dsimp only at c3
    refine And.intro trivial ?_
    exact kvi (by grind) h
  · try dsimp only at c3
    refine And.intro ⟨(by first | decide | assumption | omega), (by first | decide | assumption | omega)⟩ ?_
    refine And.intro (vp_lt (by grind) (by grind) (ln2_lt c)) ?_
    refine And.intro trivial ?_
    exact kvi (by grind) h

theorem m_X_refusalOfPlace {d : Nat} {m : Mem} {K : Option Vv → Mem → Prop} (hR : OKR m) {c : Nat} {i : Int32} (hm : gI m (0, 1, c) 1 = -1 → K (some (vi (-3))) (foundM m 1)) (hy : gI m (0, 1, c) 1 ≠ -1 → ¬ (0 ≤ i ∧ i < gI m (0, 1, c) 1) → K (some (vi (-3))) (foundM m 2)) (h : gI m (0, 1, c) 1 ≠ -1 → (0 ≤ i ∧ i < gI m (0, 1, c) 1) → K (some (vi 0)) m) : cW (d + 3) n_X_refusalOfPlace [vo 0 0 0, vo 0 1 c, vi i] m K := by
  refine w_X_refusalOfPlace (Go.runR (callT_mono MT _) [] 200 hR ?_)
  refine m_Ce_isMissing (by repeat' (first | exact hR | apply OKR.pI | apply OKR.pL | apply OKR.cpI)) (And.intro (by repeat' (first | exact hR | apply OKR.pI | apply OKR.pL | apply OKR.cpI)) ?_)
  refine And.intro (fun c2 => ?_) (fun c2 => ?_)
  · try dsimp only at c2
    refine m_Ce_has (by repeat' (first | exact hR | apply OKR.pI | apply OKR.pL | apply OKR.cpI)) (And.intro (by repeat' (first | exact hR | apply OKR.pI | apply OKR.pL | apply OKR.cpI)) ?_)
    refine And.intro (fun c10 => ?_) (fun c10 => ?_)
    · try dsimp only at c10
      refine m_X_found2 (by repeat' (first | exact hR | apply OKR.pI | apply OKR.pL | apply OKR.cpI)) (And.intro (by repeat' (first | exact hR | apply OKR.pI | apply OKR.pL | apply OKR.cpI)) ?_)
      refine And.intro trivial ?_
      first | exact hy (by grind) (by grind) | exact h (by grind) (by grind)
    · try dsimp only at c10
      refine And.intro trivial ?_
      first | exact hy (by grind) (by grind) | exact h (by grind) (by grind)
  · try dsimp only at c2
    refine m_X_found1 (by repeat' (first | exact hR | apply OKR.pI | apply OKR.pL | apply OKR.cpI)) (And.intro (by repeat' (first | exact hR | apply OKR.pI | apply OKR.pL | apply OKR.cpI)) ?_)
    refine And.intro trivial ?_
    exact hm (by grind)

theorem m_X_at {d : Nat} {m : Mem} {K : Option Vv → Mem → Prop} (hR : OKR m) {r i : Int32} (hs : ∀ a, a < 6 → gI m (0, 1, a) 1 ≤ nI 40) (hb : ¬ (0 ≤ r ∧ r ≤ 5) → K (some (vi (-1))) m) (hm : ∀ a, a < 6 → r = nI a → gI m (0, 1, a) 1 = -1 → K (some (vi (-3))) (foundM m 1)) (hy : ∀ a, a < 6 → r = nI a → gI m (0, 1, a) 1 ≠ -1 → ¬ (0 ≤ i ∧ i < gI m (0, 1, a) 1) → K (some (vi (-3))) (foundM m 2)) (h : ∀ a, a < 6 → r = nI a → gI m (0, 1, a) 1 ≠ -1 → (0 ≤ i ∧ i < gI m (0, 1, a) 1) → K (some (vi 1)) (tellM m (gI m (0, 2, a) i.toNatClampNeg))) : cW (d + 4) n_X_at [vo 0 0 0, vi r, vi i] m K := by
  refine w_X_at (Go.runR (callT_mono MT _) [] 200 hR ?_)
  refine m_X_isRow (by repeat' (first | exact hR | apply OKR.pI | apply OKR.pL | apply OKR.cpI)) (And.intro (by repeat' (first | exact hR | apply OKR.pI | apply OKR.pL | apply OKR.cpI)) ?_)
  refine And.intro (fun c3 => ?_) (fun c3 => ?_)
  · try dsimp only at c3
    refine And.intro trivial ?_
    exact hb (by grind)
  · try dsimp only at c3
    obtain ⟨a, ha, rfl⟩ := row_of c3
    have e0 : (nI a).toNatClampNeg = a := nI_clamp (by omega)
    refine And.intro ⟨(by first | decide | assumption | omega), (by first | decide | assumption | omega)⟩ ?_
    refine And.intro ⟨(by first | assumption | exact vp_nI (by dsimp only [ln, ln0, ln1]; omega) (by decide) | exact vp_lt (by grind) (by grind) (by decide)), ⟨rfl, by rw [e0]; exact ha⟩⟩ ?_
    refine m_X_refusalOfPlace (by repeat' (first | exact hR | apply OKR.pI | apply OKR.pL | apply OKR.cpI)) (fun q => And.intro (by repeat' (first | exact hR | apply OKR.pI | apply OKR.pL | apply OKR.cpI)) ?_) (fun q1 q2 => And.intro (by repeat' (first | exact hR | apply OKR.pI | apply OKR.pL | apply OKR.cpI)) ?_) (fun q1 q2 => And.intro (by repeat' (first | exact hR | apply OKR.pI | apply OKR.pL | apply OKR.cpI)) ?_)
    · refine And.intro (fun c15 => absurd c15 (by decide)) (fun c15 => And.intro trivial ?_)
      exact hm a ha rfl (by rw [e0] at q; exact q)
    · refine And.intro (fun c15 => absurd c15 (by decide)) (fun c15 => And.intro trivial ?_)
      exact hy a ha rfl (by rw [e0] at q1; exact q1) (by rw [e0] at q2; exact q2)
    · refine And.intro (fun c15 => ?_) (fun c15 => absurd rfl c15)
      refine And.intro ⟨(by decide), (by decide)⟩ ?_
      refine And.intro ⟨(vp_nI (N := 6) ha (by decide)), ⟨rfl, by rw [e0]; exact ha⟩⟩ ?_
      refine m_Ce_get (by repeat' (first | exact hR | apply OKR.pI | apply OKR.pL | apply OKR.cpI)) (by rw [e0]; omega) (by rw [e0]; have := hs a ha; rw [show ln (0, 2, a) = 40 from if_pos ha]; exact this) (And.intro (by repeat' (first | exact hR | apply OKR.pI | apply OKR.pL | apply OKR.cpI)) ?_)
      refine m_X_tell (by repeat' (first | exact hR | apply OKR.pI | apply OKR.pL | apply OKR.cpI)) (And.intro (by repeat' (first | exact hR | apply OKR.pI | apply OKR.pL | apply OKR.cpI)) ?_)
      refine And.intro trivial ?_
      rw [e0] at q1 q2 ⊢
      rw [if_pos q2]
      exact h a ha rfl q1 q2

theorem row_of2 {r : Int32} (h : 0 ≤ r ∧ r ≤ 5) : ∃ a, a < 6 ∧ r = nI a := by
  obtain ⟨j, h1, h2⟩ := nI_of2 (M := 5) (n := 5) rfl (Int32.not_lt.mpr h.1) h.2
  exact ⟨j, by omega, h2⟩
theorem below_of {i z : Int32} {n : Nat} (h : 0 ≤ i ∧ i ≤ z - 1) (h0 : 0 ≤ z) (hz : z ≤ nI n) (hn : n < 2 ^ 31) : ∃ j, j < n ∧ i = nI j ∧ nI j < z := by
  obtain ⟨j, hj, rfl⟩ := nI_of (Int32.not_lt.mpr h.1)
  obtain ⟨k, hk, rfl⟩ := nI_of (Int32.not_lt.mpr h0)
  have h2 : nI j < nI k := by grind
  exact ⟨j, Nat.lt_of_lt_of_le ((nI_ltI hj hk).mp h2) ((nI_leI hk hn).mp hz), rfl, h2⟩

theorem m_M_at {d : Nat} {m : Mem} {K : Option Vv → Mem → Prop} (hR : OKR m) {r i : Int32} (hs : ∀ a, a < 6 → gI m (1, 2, 0) a ≤ nI 40) (hb : ¬ (0 ≤ r ∧ r ≤ 5) → K (some (vi (-1))) m) (hm : ∀ a, a < 6 → r = nI a → gI m (1, 2, 0) a < 0 → K (some (vi (-3))) (meetM m 1)) (hy : ∀ a, a < 6 → r = nI a → 0 ≤ gI m (1, 2, 0) a → ¬ (0 ≤ i ∧ i < gI m (1, 2, 0) a) → K (some (vi (-3))) (meetM m 2)) (h : ∀ a j, a < 6 → j < 40 → r = nI a → i = nI j → nI j < gI m (1, 2, 0) a → K (some (vi 1)) (askM m (gI m (1, 3, 0) (40 * a + j)))) : cW (d + 4) n_M_at [vo 1 0 0, vi r, vi i] m K := by
  refine w_M_at (Go.runR (callT_mono MT _) [] 200 hR ?_)
  refine m_M_askedRow (by repeat' (first | exact hR | apply OKR.pI | apply OKR.pL | apply OKR.cpI)) (fun q => And.intro (by repeat' (first | exact hR | apply OKR.pI | apply OKR.pL | apply OKR.cpI)) ?_) (fun q1 q2 => And.intro (by repeat' (first | exact hR | apply OKR.pI | apply OKR.pL | apply OKR.cpI)) ?_) (fun q1 q2 => And.intro (by repeat' (first | exact hR | apply OKR.pI | apply OKR.pL | apply OKR.cpI)) ?_)
  · refine And.intro (fun c5 => ?_) (fun c5 => ?_)
    · first | exact absurd c5 (by decide) | exact absurd (by decide) c5 | (exfalso; grind)
    · try dsimp only at c5
      refine And.intro trivial ?_
      exact hb q
  · obtain ⟨a, ha, rfl⟩ := row_of2 q1; have e0 : (nI a).toNatClampNeg = a := nI_clamp (by omega); rw [e0] at q2
    refine And.intro (fun c5 => ?_) (fun c5 => ?_)
    · first | exact absurd c5 (by decide) | exact absurd (by decide) c5 | (exfalso; grind)
    · try dsimp only at c5
      refine And.intro trivial ?_
      exact hm a ha rfl q2
  · obtain ⟨a, ha, rfl⟩ := row_of2 q1; have e0 : (nI a).toNatClampNeg = a := nI_clamp (by omega); rw [e0] at q2
    refine And.intro (fun c5 => ?_) (fun c5 => ?_)
    · try dsimp only at c5
      refine And.intro ⟨rfl, rfl, rfl⟩ ?_
      refine And.intro (vp_nI (N := 6) ha (by decide)) ?_
      refine m_M_in (by repeat' (first | exact hR | apply OKR.pI | apply OKR.pL | apply OKR.cpI)) (And.intro (by repeat' (first | exact hR | apply OKR.pI | apply OKR.pL | apply OKR.cpI)) ?_)
      refine And.intro (fun c17 => ?_) (fun c17 => ?_)
      · try dsimp only at c17
        refine m_M_meet2 (by repeat' (first | exact hR | apply OKR.pI | apply OKR.pL | apply OKR.cpI)) (And.intro (by repeat' (first | exact hR | apply OKR.pI | apply OKR.pL | apply OKR.cpI)) ?_)
        refine And.intro trivial ?_
        first | exact hy a ha rfl q2 (by rw [e0] at c17; grind) | exact h a j ha hj rfl rfl hj2
      · try dsimp only at c17
        obtain ⟨j, hj, rfl, hj2⟩ := below_of (i := i) (z := gI m (1, 2, 0) a) (n := 40) (by rw [e0] at c17; grind) q2 (hs a ha) (by decide)
        refine m_M_rowAt (by repeat' (first | exact hR | apply OKR.pI | apply OKR.pL | apply OKR.cpI)) ha hj (And.intro (by repeat' (first | exact hR | apply OKR.pI | apply OKR.pL | apply OKR.cpI)) ?_)
        refine m_M_ask (by repeat' (first | exact hR | apply OKR.pI | apply OKR.pL | apply OKR.cpI)) (And.intro (by repeat' (first | exact hR | apply OKR.pI | apply OKR.pL | apply OKR.cpI)) ?_)
        refine And.intro trivial ?_
        first | exact hy a ha rfl q2 (by rw [e0] at c17; grind) | exact h a j ha hj rfl rfl hj2
    · exact absurd (by decide) c5

theorem RowsR.le {m : Mem} (R : RowsR m) : ∀ a, a < 6 → gI m (0, 1, a) 1 ≤ nI 40 := by
  intro a ha
  rcases R a ha with h | ⟨n, h1, h2, -⟩
  · rw [h.1]; decide
  · rw [h2]; exact nI_le h1 (by decide)
theorem RowsR.le2 {m : Mem} (R : RowsR m) : ∀ a, a < 6 → gI m (1, 2, 0) a ≤ nI 40 := by
  intro a ha
  rcases R a ha with h | ⟨n, h1, -, h2, -⟩
  · rw [h.2]; decide
  · rw [h2]; exact nI_le h1 (by decide)
theorem nI_in1 {a b : Nat} (ha : a < 2 ^ 31) (hb : b < 2 ^ 31) (h : nI a = nI b) : a = b := (nI_eq ha hb).mp h
theorem szneg {n : Nat} (h : n ≤ 80) : ¬ nI n < 0 ∧ 0 ≤ nI n ∧ nI n ≠ -1 := ⟨nI_pos (by omega), nI_pos' (by omega), fun e => absurd (nI_pos' (n := n) (by omega)) (by rw [e]; decide)⟩
theorem p_at {d : Nat} {m : Mem} {K : Option Vv → Option Vv → Mem → Prop} (R : RelAB m) {r i : Int32} (h : ∀ v m', RelAB m' → K v v m') : cW (d + 4) n_X_at [vo 0 0 0, vi r, vi i] m (fun v m1 => cW (d + 4) n_M_at [vo 1 0 0, vi r, vi i] m1 (fun w m2 => K v w m2)) := by
  have hA := R.2.1
  have hok := R.1
  refine m_X_at hok hA.le (fun q => ?_) (fun a ha e q => ?_) (fun a ha e q1 q2 => ?_) (fun a ha e q1 q2 => ?_)
  · exact m_M_at hok hA.le2 (fun _ => h _ _ R) (fun b hb e2 => absurd ⟨by rw [e2]; exact nI_pos' (by omega), by rw [e2]; exact nI_le (b := 5) (by omega) (by decide)⟩ q) (fun b hb e2 => absurd ⟨by rw [e2]; exact nI_pos' (by omega), by rw [e2]; exact nI_le (b := 5) (by omega) (by decide)⟩ q) (fun b j hb hj e2 => absurd ⟨by rw [e2]; exact nI_pos' (by omega), by rw [e2]; exact nI_le (b := 5) (by omega) (by decide)⟩ q)
  all_goals
    subst e
    have hr : 0 ≤ nI a ∧ nI a ≤ 5 := ⟨nI_pos' (by omega), nI_le (b := 5) (by omega) (by decide)⟩
    have hx : ∀ b, b < 6 → nI a = nI b → a = b := fun b hb e2 => nI_in1 (by omega) (by omega) e2
    have hAa := hA a ha
  · have s1 : gI m (1, 2, 0) a = -9 := by
      rcases hAa with hh | ⟨n, h1, h2, -⟩
      · exact hh.2
      · exact absurd (h2.symm.trans q) (szneg (by omega)).2.2
    refine m_M_at (m := foundM m 1) hok.pI.pI hA.le2 (fun z => absurd hr z) (fun b hb e2 z => h _ _ (R.meet (by omega) (by omega))) (fun b hb e2 z => ?_) (fun b j hb hj e2 e3 z => ?_)
    · obtain rfl := hx b hb e2
      have z : 0 ≤ gI m (1, 2, 0) a := z
      rw [s1] at z
      exact absurd z (by decide)
    · obtain rfl := hx b hb e2
      have z : nI j < gI m (1, 2, 0) a := z
      rw [s1] at z
      exact absurd z (fun y => by have := nI_pos' (n := j) (by omega); have := Int32.lt_of_le_of_lt this y; exact absurd this (by decide))
  · rcases hAa with hh | ⟨n, h1, h2, h3, h4⟩
    · exact absurd hh.1 q1
    rw [h2] at q2
    refine m_M_at (m := foundM m 2) hok.pI.pI hA.le2 (fun z => absurd hr z) (fun b hb e2 z => ?_) (fun b hb e2 z y => h _ _ (R.meet (by omega) (by omega))) (fun b j hb hj e2 e3 z => ?_)
    · obtain rfl := hx b hb e2
      have z : gI m (1, 2, 0) a < 0 := z
      rw [h3] at z
      exact absurd z (szneg (by omega)).1
    · obtain rfl := hx b hb e2
      have z : nI j < gI m (1, 2, 0) a := z
      rw [h3] at z
      exact absurd ⟨by rw [e3]; exact nI_pos' (by omega), by rw [e3]; exact z⟩ q2
  · rcases hAa with hh | ⟨n, h1, h2, h3, h4⟩
    · exact absurd hh.1 q1
    rw [h2] at q2
    refine m_M_at (m := tellM m (gI m (0, 2, a) i.toNatClampNeg)) hok.pI hA.le2 (fun z => absurd hr z) (fun b hb e2 z => ?_) (fun b hb e2 z y => ?_) (fun b j hb hj e2 e3 z => ?_)
    · obtain rfl := hx b hb e2
      have z : gI m (1, 2, 0) a < 0 := z
      rw [h3] at z
      exact absurd z (szneg (by omega)).1
    · obtain rfl := hx b hb e2
      have y : ¬ (0 ≤ i ∧ i < gI m (1, 2, 0) a) := y
      rw [h3] at y
      exact absurd q2 y
    · obtain rfl := hx b hb e2
      have z : nI j < gI m (1, 2, 0) a := z
      rw [h3] at z
      have hjn : j < n := (nI_ltI (by omega) (by omega)).mp z
      subst e3
      rw [nI_clamp (by omega), h4 j hjn]
      exact h _ _ (R.tell _)
end
section
/-! Written by a program (wip/whole/p25.py): whole contents written; renew, row. -/
def sI (m : Mem) (o : Id3) (f : Nat → Int32) : Mem := sS m o.1 (fun t i k => if t = o.2.1 ∧ i = o.2.2 then f k else (sd m o.1).1 t i k, (sd m o.1).2)
theorem sI00 (m : Mem) (t i : Nat) (f : Nat → Int32) (t' i' k' : Nat) : gI (sI m (0, t, i) f) (0, t', i') k' = if t' = t ∧ i' = i then f k' else gI m (0, t', i') k' := rfl
theorem sI11 (m : Mem) (t i : Nat) (f : Nat → Int32) (t' i' k' : Nat) : gI (sI m (1, t, i) f) (1, t', i') k' = if t' = t ∧ i' = i then f k' else gI m (1, t', i') k' := rfl
theorem sI01 (m : Mem) (t i : Nat) (f : Nat → Int32) (t' i' k' : Nat) : gI (sI m (0, t, i) f) (1, t', i') k' = gI m (1, t', i') k' := rfl
theorem sI10 (m : Mem) (t i : Nat) (f : Nat → Int32) (t' i' k' : Nat) : gI (sI m (1, t, i) f) (0, t', i') k' = gI m (0, t', i') k' := rfl
theorem gR_sI (m : Mem) (o : Id3) (f : Nat → Int32) (o' : Id3) (k : Nat) : gR (sI m o f) o' k = gR m o' k := by
  obtain ⟨a, t, i⟩ := o
  obtain ⟨a', t', i'⟩ := o'
  rcases a with _ | _ | a <;> rcases a' with _ | _ | a' <;> rfl
theorem OKR.wI {m : Mem} {o : Id3} {f : Nat → Int32} (H : OKR m) : OKR (sI m o f) := H.cg fun _ _ => gR_sI ..
theorem sI_pI0 (m : Mem) (t i k : Nat) (v : Int32) (f : Nat → Int32) : sI (pI m (0, t, i) k v) (0, t, i) f = sI m (0, t, i) f := by
  refine Prod.ext (Prod.ext ?_ rfl) rfl
  funext t' i' k'
  show (if t' = t ∧ i' = i then f k' else if t' = t ∧ i' = i ∧ k' = k then v else m.1.1 t' i' k') = if t' = t ∧ i' = i then f k' else m.1.1 t' i' k'
  grind
theorem sI_pI1 (m : Mem) (t i k : Nat) (v : Int32) (f : Nat → Int32) : sI (pI m (1, t, i) k v) (1, t, i) f = sI m (1, t, i) f := by
  refine Prod.ext rfl (Prod.ext (Prod.ext ?_ rfl) rfl)
  funext t' i' k'
  show (if t' = t ∧ i' = i then f k' else if t' = t ∧ i' = i ∧ k' = k then v else m.2.1.1 t' i' k') = if t' = t ∧ i' = i then f k' else m.2.1.1 t' i' k'
  grind
theorem sI_self0 (m : Mem) (t i : Nat) (f : Nat → Int32) (h : ∀ k, f k = gI m (0, t, i) k) : sI m (0, t, i) f = m := by
  refine Prod.ext (Prod.ext ?_ rfl) rfl
  funext t' i' k'
  show (if t' = t ∧ i' = i then f k' else m.1.1 t' i' k') = m.1.1 t' i' k'
  split
  · rename_i q
    obtain ⟨rfl, rfl⟩ := q
    exact h k'
  · rfl
theorem sI_self1 (m : Mem) (t i : Nat) (f : Nat → Int32) (h : ∀ k, f k = gI m (1, t, i) k) : sI m (1, t, i) f = m := by
  refine Prod.ext rfl (Prod.ext (Prod.ext ?_ rfl) rfl)
  funext t' i' k'
  show (if t' = t ∧ i' = i then f k' else m.2.1.1 t' i' k') = m.2.1.1 t' i' k'
  split
  · rename_i q
    obtain ⟨rfl, rfl⟩ := q
    exact h k'
  · rfl
theorem go_eq {C : CT} {cd : List Ins} {cap : Nat × Nat} {K : Option Vv → Mem → Prop} {ix : Nat} {ls ls' st : List Vv} {m m' : Mem} {uc us : Nat} (e : ls = ls') (e2 : m = m') (h : Go C cd cap K ix ls' st m' uc us) : Go C cd cap K ix ls st m uc us := by subst e; subst e2; exact h
theorem ln2_le (c : Nat) : ln (0, 2, c) ≤ 80 := by
  show (if c < 6 then 40 else 80) ≤ 80
  split <;> decide

theorem l_Ce_renew {d : Nat} {K : Option Vv → Mem → Prop} {c s : Nat} {v nn : Int32} (hc : c < 10) (hl : s ≤ ln (0, 2, c)) (k : Nat) (m : Mem) (hR : OKR m) (hs : gI m (0, 1, c) 1 = nI s) (hk : k ≤ s) (h : K none (sI m (0, 2, c) (fun j => if k ≤ j ∧ j < s then v else gI m (0, 2, c) j))) : Go (cW d) i_Ce_renew (0, 0) K 11 [vo 0 1 c, vi nn, vi v, vi (nI k)] [] m 0 0 := by
  have hs8 := Nat.le_trans hl (ln2_le c)
  refine Go.runR (callT_mono MT _) [11] 200 hR ?_
  refine And.intro (fun c14 => ?_) (fun c14 => ?_)
  · try dsimp only at c14
    refine And.intro trivial ?_
    have q : s ≤ k := (nI_leI (by omega) (by omega)).mp (by rw [← hs]; exact c14)
    rw [sI_self0] at h
    · exact h
    · intro j; rw [if_neg (by omega)]
  · try dsimp only at c14
    have q : k < s := by have := mt (nI_leI (a := s) (b := k) (by omega) (by omega)).mpr (by rw [← hs]; exact c14); omega
    refine And.intro ⟨(by first | decide | assumption | omega), (by first | decide | assumption | omega)⟩ ?_
    refine And.intro (vp_nI (by omega) (ln2_lt c)) ?_
    refine go_eq (ls' := [vo 0 1 c, vi nn, vi v, vi (nI (k + 1))]) (by rw [nI_succ]; rfl) (congrArg (fun z => pI m (0, 2, c) z v) (nI_clamp (n := k) (by omega))) (l_Ce_renew hc hl (k + 1) _ hR.pI hs (by omega) ?_)
    rw [sI_pI0]
    have e : (fun j => if k + 1 ≤ j ∧ j < s then v else gI (pI m (0, 2, c) k v) (0, 2, c) j) = (fun j => if k ≤ j ∧ j < s then v else gI m (0, 2, c) j) := by
      funext j
      rw [rd00]
      grind
    rw [e]
    exact h
termination_by s - k
decreasing_by omega
end
section
/-! Written by a program (wip/whole/p26.py): row. -/
theorem clampS {n L : Nat} (h : n ≤ L) (hL : L < 2 ^ 31) : (if (0 : Int32) < (if nI L < nI n then nI L else nI n) then (if nI L < nI n then nI L else nI n) else 0) = nI n := by
  rw [if_neg (nI_nlt h (by omega))]
  split
  · rfl
  · rename_i q
    have := nI_pos' (n := n) (by omega)
    grind
theorem isrow_in {a : Nat} (ha : a < 6) : 0 ≤ nI a ∧ nI a ≤ 5 := ⟨nI_pos' (by omega), nI_le (b := 5) (by omega) (by decide)⟩

theorem m_Ce_renew {d : Nat} {m : Mem} {K : Option Vv → Mem → Prop} (hR : OKR m) {c n : Nat} {v : Int32} (hc : c < 10) (hn : n ≤ ln (0, 2, c)) (h : K none (sI (pI m (0, 1, c) 1 (nI n)) (0, 2, c) (fun j => if j < n then v else gI m (0, 2, c) j))) : cW (d + 1) n_Ce_renew [vo 0 1 c, vi (nI n), vi v] m K := by
  have h80 := ln2_le c
  refine w_Ce_renew (Go.runR (callT_mono MT _) [11] 200 hR ?_)
  refine And.intro ⟨(by first | decide | assumption | omega), (by first | decide | assumption | omega)⟩ ?_
  refine go_eq (ls' := [vo 0 1 c, vi (nI n), vi v, vi (nI 0)]) rfl (congrArg (fun z => pI m (0, 1, c) 1 z) (clampS hn (by omega))) (l_Ce_renew hc hn 0 _ hR.pI (by rw [rd00]; simp) (by omega) ?_)
  rw [show (fun j => if 0 ≤ j ∧ j < n then v else gI (pI m (0, 1, c) 1 (nI n)) (0, 2, c) j) = (fun j => if j < n then v else gI m (0, 2, c) j) from funext fun j => by simp; rfl]
  exact h

theorem l_M_row {d : Nat} {K : Option Vv → Mem → Prop} {a : Nat} {n : Int32} (ha : a < 6) (k : Nat) (m : Mem) (hR : OKR m) (hk : k ≤ 40) (h : K (some (vi n)) (sI m (1, 3, 0) (fun j => if 40 * a + k ≤ j ∧ j < 40 * a + 40 then 0 else gI m (1, 3, 0) j))) : Go (cW (d + 1)) i_M_row (0, 0) K 21 [vo 1 0 0, vi (nI a), vi n, vi (nI k)] [] m 0 0 := by
  refine Go.runR (callT_mono MT _) [21] 200 hR ?_
  refine And.intro (fun c23 => ?_) (fun c23 => ?_)
  · try dsimp only at c23
    refine And.intro trivial ?_
    have q : 40 ≤ k := (nI_leI (a := 40) (by omega) (by omega)).mp c23
    rw [sI_self1] at h
    · exact h
    · intro j; rw [if_neg (by omega)]
  · try dsimp only at c23
    have q : k < 40 := by have := mt (nI_leI (a := 40) (b := k) (by omega) (by omega)).mpr c23; omega
    refine m_M_setRow (by repeat' (first | exact hR | apply OKR.pI | apply OKR.pL | apply OKR.cpI | apply OKR.wI)) ha q (And.intro (by repeat' (first | exact hR | apply OKR.pI | apply OKR.pL | apply OKR.cpI | apply OKR.wI)) ?_)
    refine go_eq (ls' := [vo 1 0 0, vi (nI a), vi n, vi (nI (k + 1))]) (by rw [nI_succ]; rfl) rfl (l_M_row ha (k + 1) _ hR.pI (by omega) ?_)
    rw [sI_pI1]
    have e : (fun j => if 40 * a + (k + 1) ≤ j ∧ j < 40 * a + 40 then 0 else gI (pI m (1, 3, 0) (40 * a + k) 0) (1, 3, 0) j) = (fun j => if 40 * a + k ≤ j ∧ j < 40 * a + 40 then 0 else gI m (1, 3, 0) j) := by
      funext j
      rw [rd11]
      grind
    rw [e]
    exact h
termination_by 40 - k
decreasing_by omega

theorem m_X_row {d : Nat} {m : Mem} {K : Option Vv → Mem → Prop} (hR : OKR m) {r n : Int32} (hb : ¬ ((0 ≤ r ∧ r ≤ 5) ∧ n ≤ 40) → K (some (vi (-1))) m) (hz : (0 ≤ r ∧ r ≤ 5) → n < 0 → K (some (vi (-3))) (foundM m 5)) (h : ∀ a k, a < 6 → k ≤ 40 → r = nI a → n = nI k → K (some (vi (nI k))) (sI (pI m (0, 1, a) 1 (nI k)) (0, 2, a) (fun j => if j < k then 0 else gI m (0, 2, a) j))) : cW (d + 3) n_X_row [vo 0 0 0, vi r, vi n] m K := by
  refine w_X_row (Go.runR (callT_mono MT _) [] 200 hR ?_)
  refine m_X_isRow (by repeat' (first | exact hR | apply OKR.pI | apply OKR.pL | apply OKR.cpI)) (And.intro (by repeat' (first | exact hR | apply OKR.pI | apply OKR.pL | apply OKR.cpI)) ?_)
  refine And.intro (fun c3 => ?_) (fun c3 => ?_)
  · try dsimp only at c3
    refine And.intro trivial ?_
    first | exact hb (by grind) | exact hz (by grind) (by grind) | exact h a k ha hk rfl rfl
  · try dsimp only at c3
    refine And.intro (fun c6 => ?_) (fun c6 => ?_)
    · try dsimp only at c6
      refine And.intro (fun c10 => ?_) (fun c10 => ?_)
      · try dsimp only at c10
        obtain ⟨a, ha, rfl⟩ := row_of2 (r := r) (by grind)
        obtain ⟨k, hk, rfl⟩ := nI_of2 (x := n) (M := 40) (n := 40) rfl (by grind) (by grind)
        have e0 : (nI a).toNatClampNeg = a := nI_clamp (by omega)
        refine And.intro ⟨(by first | decide | assumption | omega), (by first | decide | assumption | omega)⟩ ?_
        refine And.intro ⟨(vp_nI (N := 6) ha (by decide)), ⟨rfl, by rw [e0]; exact ha⟩⟩ ?_
        rw [show (nI a).toNatClampNeg = a from e0]
        refine m_Ce_renew (by repeat' (first | exact hR | apply OKR.pI | apply OKR.pL | apply OKR.cpI | apply OKR.wI)) (by omega) (by rw [show ln (0, 2, a) = 40 from if_pos ha]; exact hk) (And.intro (by repeat' (first | exact hR | apply OKR.pI | apply OKR.pL | apply OKR.cpI | apply OKR.wI)) ?_)
        refine And.intro trivial ?_
        first | exact hb (by grind) | exact hz (by grind) (by grind) | exact h a k ha hk rfl rfl
      · try dsimp only at c10
        refine m_X_found5 (by repeat' (first | exact hR | apply OKR.pI | apply OKR.pL | apply OKR.cpI | apply OKR.wI)) (And.intro (by repeat' (first | exact hR | apply OKR.pI | apply OKR.pL | apply OKR.cpI | apply OKR.wI)) ?_)
        refine And.intro trivial ?_
        first | exact hb (by grind) | exact hz (by grind) (by grind) | exact h a k ha hk rfl rfl
    · try dsimp only at c6
      refine And.intro trivial ?_
      first | exact hb (by grind) | exact hz (by grind) (by grind) | exact h a k ha hk rfl rfl

theorem m_M_row {d : Nat} {m : Mem} {K : Option Vv → Mem → Prop} (hR : OKR m) {r n : Int32} (hb : ¬ ((0 ≤ r ∧ r ≤ 5) ∧ n ≤ 40) → K (some (vi (-1))) m) (hz : (0 ≤ r ∧ r ≤ 5) → n < 0 → K (some (vi (-3))) (meetM m 5)) (h : ∀ a k, a < 6 → k ≤ 40 → r = nI a → n = nI k → K (some (vi (nI k))) (sI (pI m (1, 2, 0) a (nI k)) (1, 3, 0) (fun j => if 40 * a + 0 ≤ j ∧ j < 40 * a + 40 then 0 else gI m (1, 3, 0) j))) : cW (d + 3) n_M_row [vo 1 0 0, vi r, vi n] m K := by
  refine w_M_row (Go.runR (callT_mono MT _) [21] 200 hR ?_)
  refine m_M_isRow (by repeat' (first | exact hR | apply OKR.pI | apply OKR.pL | apply OKR.cpI)) (And.intro (by repeat' (first | exact hR | apply OKR.pI | apply OKR.pL | apply OKR.cpI)) ?_)
  refine And.intro (fun c2 => ?_) (fun c2 => ?_)
  · try dsimp only at c2
    refine And.intro trivial ?_
    first | exact hb (by grind) | exact hz (by grind) (by grind) | exact h a k ha hk rfl rfl
  · try dsimp only at c2
    refine And.intro (fun c5 => ?_) (fun c5 => ?_)
    · try dsimp only at c5
      refine And.intro (fun c9 => ?_) (fun c9 => ?_)
      · try dsimp only at c9
        obtain ⟨a, ha, rfl⟩ := row_of2 (r := r) (by grind)
        obtain ⟨k, hk, rfl⟩ := nI_of2 (x := n) (M := 40) (n := 40) rfl (by grind) (by grind)
        have e0 : (nI a).toNatClampNeg = a := nI_clamp (by omega)
        refine And.intro ⟨rfl, rfl, rfl⟩ ?_
        refine And.intro (vp_nI (N := 6) ha (by decide)) ?_
        refine go_eq (ls' := [vo 1 0 0, vi (nI a), vi (nI k), vi (nI 0)]) rfl (congrArg (fun z => pI m (1, 2, 0) z (nI k)) e0) (l_M_row ha 0 _ hR.pI (by omega) ?_)
        exact h a k ha hk rfl rfl
      · try dsimp only at c9
        refine m_M_meet5 (by repeat' (first | exact hR | apply OKR.pI | apply OKR.pL | apply OKR.cpI | apply OKR.wI)) (And.intro (by repeat' (first | exact hR | apply OKR.pI | apply OKR.pL | apply OKR.cpI | apply OKR.wI)) ?_)
        refine And.intro trivial ?_
        first | exact hb (by grind) | exact hz (by grind) (by grind) | exact h a k ha hk rfl rfl
    · try dsimp only at c5
      refine And.intro trivial ?_
      first | exact hb (by grind) | exact hz (by grind) (by grind) | exact h a k ha hk rfl rfl
end
section
/-! row: both sides. -/
theorem gL_sI (m : Mem) (o : Id3) (f : Nat → Int32) (o' : Id3) (k : Nat) : gL (sI m o f) o' k = gL m o' k := by
  obtain ⟨a, t, i⟩ := o
  obtain ⟨a', t', i'⟩ := o'
  rcases a with _ | _ | a <;> rcases a' with _ | _ | a' <;> rfl
theorem RelAB.row {m : Mem} (R : RelAB m) {a k : Nat} (ha : a < 6) (hk : k ≤ 40) {f g : Nat → Int32} (hf : ∀ j, j < k → f j = g (40 * a + j)) (hg : ∀ b j, b < 6 → b ≠ a → j < 40 → g (40 * b + j) = gI m (1, 3, 0) (40 * b + j)) : RelAB (sI (pI (sI (pI m (0, 1, a) 1 (nI k)) (0, 2, a) f) (1, 2, 0) a (nI k)) (1, 3, 0) g) := by
  refine R.cells R.1.pI.wI.pI.wI ?_ ?_ (fun t i q h1 h2 => ?_) (fun t i q h1 h2 h3 h4 h5 => ?_) (fun o q => by rw [gL_sI, gL_pI, gL_sI, gL_pI]) (fun o q => by rw [gR_sI, gR_pI, gR_sI, gR_pI])
  · intro r hr
    have e1 : gI (sI (pI (sI (pI m (0, 1, a) 1 (nI k)) (0, 2, a) f) (1, 2, 0) a (nI k)) (1, 3, 0) g) (0, 1, r) 1 = if r = a then nI k else gI m (0, 1, r) 1 := by
      rw [sI10, rd10, sI00, rd00]; simp
    have e2 : gI (sI (pI (sI (pI m (0, 1, a) 1 (nI k)) (0, 2, a) f) (1, 2, 0) a (nI k)) (1, 3, 0) g) (1, 2, 0) r = if r = a then nI k else gI m (1, 2, 0) r := by
      rw [sI11, rd11, sI01, rd01]; simp
    have e3 : ∀ j, gI (sI (pI (sI (pI m (0, 1, a) 1 (nI k)) (0, 2, a) f) (1, 2, 0) a (nI k)) (1, 3, 0) g) (0, 2, r) j = if r = a then f j else gI m (0, 2, r) j := fun j => by
      rw [sI10, rd10, sI00, rd00]; simp
    have e4 : ∀ j, gI (sI (pI (sI (pI m (0, 1, a) 1 (nI k)) (0, 2, a) f) (1, 2, 0) a (nI k)) (1, 3, 0) g) (1, 3, 0) j = g j := fun j => by
      rw [sI11]; simp
    rw [e1, e2]
    simp only [e3, e4]
    by_cases h : r = a
    · subst h
      simp only [if_true]
      exact Or.inr ⟨k, hk, rfl, rfl, hf⟩
    · simp only [if_neg h]
      rcases R.2.1 r hr with q | ⟨n, q1, q2, q3, q4⟩
      · exact Or.inl q
      · exact Or.inr ⟨n, q1, q2, q3, fun j hj => by rw [hg r j hr h (by omega)]; exact q4 j hj⟩
  · refine R.2.2.1.cg (fun r => ?_) (fun r j => ?_) (fun j => ?_) (fun j => ?_)
    · rw [sI10, rd10, sI00, rd00, if_neg (by omega), if_neg (by omega)]
    · rw [sI10, rd10, sI00, rd00, if_neg (by omega), if_neg (by omega)]
    · rfl
    · rfl
  · rw [sI10, rd10, sI00, rd00, if_neg (by omega), if_neg (by omega)]
  · rw [sI11, rd11, sI01, rd01, if_neg (by omega), if_neg (by omega)]
theorem p_row {d : Nat} {m : Mem} {K : Option Vv → Option Vv → Mem → Prop} (R : RelAB m) {r n : Int32} (h : ∀ v m', RelAB m' → K v v m') : cW (d + 3) n_X_row [vo 0 0 0, vi r, vi n] m (fun v m1 => cW (d + 3) n_M_row [vo 1 0 0, vi r, vi n] m1 (fun w m2 => K v w m2)) := by
  have hok := R.1
  have bad : ∀ b k : Nat, b < 6 → k ≤ 40 → r = nI b → n = nI k → ((0 ≤ r ∧ r ≤ 5) ∧ n ≤ 40) ∧ ¬ n < 0 := fun b k hb hk e1 e2 => by
    subst e1; subst e2
    exact ⟨⟨isrow_in hb, nI_le (b := 40) hk (by decide)⟩, nI_pos (by omega)⟩
  have neg : n < 0 → n ≤ 40 := fun q => by grind
  refine m_X_row hok (fun q => ?_) (fun q z => ?_) (fun a k ha hk e1 e2 => ?_)
  · exact m_M_row hok (fun _ => h _ _ R) (fun q2 z => absurd ⟨q2, neg z⟩ q) (fun b k hb hk e1 e2 => absurd (bad b k hb hk e1 e2).1 q)
  · exact m_M_row hok.pI.pI (fun q2 => absurd ⟨q, neg z⟩ q2) (fun _ _ => h _ _ (R.meet (by omega) (by omega))) (fun b k hb hk e1 e2 => absurd z (bad b k hb hk e1 e2).2)
  · refine m_M_row hok.pI.wI (fun q2 => absurd (bad a k ha hk e1 e2).1 q2) (fun _ z => absurd z (bad a k ha hk e1 e2).2) (fun b l hb hl e3 e4 => ?_)
    obtain rfl := nI_in1 (by omega) (by omega) (e1.symm.trans e3)
    obtain rfl := nI_in1 (by omega) (by omega) (e2.symm.trans e4)
    refine h _ _ (R.row ha hk (fun j hj => ?_) (fun b j hb hn hj => ?_))
    · rw [if_pos hj, if_pos (by omega)]
    · rw [if_neg (by omega)]
      rfl
end
section
/-! Written by a program (wip/whole/p28.py): rows, case by case; tear, lay. -/
theorem RelAB.rowCase {m : Mem} (R : RelAB m) (r : Int32) : ¬ (0 ≤ r ∧ r ≤ 5) ∨ (∃ a, a < 6 ∧ r = nI a ∧ gI m (0, 1, a) 1 = -1 ∧ gI m (1, 2, 0) a = -9) ∨ ∃ a n, a < 6 ∧ r = nI a ∧ n ≤ 40 ∧ gI m (0, 1, a) 1 = nI n ∧ gI m (1, 2, 0) a = nI n ∧ ∀ k, k < n → gI m (0, 2, a) k = gI m (1, 3, 0) (40 * a + k) := by
  by_cases h : 0 ≤ r ∧ r ≤ 5
  · obtain ⟨a, ha, rfl⟩ := row_of2 h
    rcases R.2.1 a ha with q | ⟨n, q⟩
    · exact Or.inr (Or.inl ⟨a, ha, rfl, q.1, q.2⟩)
    · exact Or.inr (Or.inr ⟨a, n, ha, rfl, q⟩)
  · exact Or.inl h
theorem m_X_isRow1 {d : Nat} {m : Mem} {K : Option Vv → Mem → Prop} (hR : OKR m) {a : Nat} (ha : a < 6) (h : K (some (vi 1)) m) : cW (d + 1) n_X_isRow [vo 0 0 0, vi (nI a)] m K := m_X_isRow hR (kvi (if_pos (isrow_in ha)) h)
theorem m_X_isRow0 {d : Nat} {m : Mem} {K : Option Vv → Mem → Prop} (hR : OKR m) {r : Int32} (q : ¬ (0 ≤ r ∧ r ≤ 5)) (h : K (some (vi 0)) m) : cW (d + 1) n_X_isRow [vo 0 0 0, vi r] m K := m_X_isRow hR (kvi (if_neg q) h)
theorem m_M_isRow1 {d : Nat} {m : Mem} {K : Option Vv → Mem → Prop} (hR : OKR m) {a : Nat} (ha : a < 6) (h : K (some (vi 1)) m) : cW (d + 2) n_M_isRow [vi (nI a)] m K := m_M_isRow hR (kvi (if_pos (isrow_in ha)) h)
theorem m_M_isRow0 {d : Nat} {m : Mem} {K : Option Vv → Mem → Prop} (hR : OKR m) {r : Int32} (q : ¬ (0 ≤ r ∧ r ≤ 5)) (h : K (some (vi 0)) m) : cW (d + 2) n_M_isRow [vi r] m K := m_M_isRow hR (kvi (if_neg q) h)
theorem m_M_askedRow0 {d : Nat} {m : Mem} {K : Option Vv → Mem → Prop} (hR : OKR m) {r : Int32} (q : ¬ (0 ≤ r ∧ r ≤ 5)) (h : K (some (vi (-1))) m) : cW (d + 3) n_M_askedRow [vo 1 0 0, vi r] m K := m_M_askedRow hR (fun _ => h) (fun z _ => absurd z q) (fun z _ => absurd z q)
theorem m_M_askedRow1 {d : Nat} {m : Mem} {K : Option Vv → Mem → Prop} (hR : OKR m) {a : Nat} (ha : a < 6) (q : gI m (1, 2, 0) a = -9) (h : K (some (vi (-3))) (meetM m 1)) : cW (d + 3) n_M_askedRow [vo 1 0 0, vi (nI a)] m K := m_M_askedRow hR (fun z => absurd (isrow_in ha) z) (fun _ _ => h) (fun _ z => by rw [nI_clamp (by omega), q] at z; exact absurd z (by decide))
theorem m_M_askedRow2 {d : Nat} {m : Mem} {K : Option Vv → Mem → Prop} (hR : OKR m) {a n : Nat} (ha : a < 6) (hn : n ≤ 80) (q : gI m (1, 2, 0) a = nI n) (h : K (some (vi 0)) m) : cW (d + 3) n_M_askedRow [vo 1 0 0, vi (nI a)] m K := m_M_askedRow hR (fun z => absurd (isrow_in ha) z) (fun _ z => by rw [nI_clamp (by omega), q] at z; exact absurd z (szneg hn).1) (fun _ _ => h)
theorem m_Ce_isMissing1 {d : Nat} {m : Mem} {K : Option Vv → Mem → Prop} (hR : OKR m) {c : Nat} (q : gI m (0, 1, c) 1 = -1) (h : K (some (vi 1)) m) : cW (d + 1) n_Ce_isMissing [vo 0 1 c] m K := m_Ce_isMissing hR (kvi (if_pos q) h)
theorem m_Ce_isMissing0 {d : Nat} {m : Mem} {K : Option Vv → Mem → Prop} (hR : OKR m) {c n : Nat} (hn : n ≤ 80) (q : gI m (0, 1, c) 1 = nI n) (h : K (some (vi 0)) m) : cW (d + 1) n_Ce_isMissing [vo 0 1 c] m K := m_Ce_isMissing hR (kvi (if_neg (by rw [q]; exact (szneg hn).2.2)) h)

theorem m_Ce_remove {d : Nat} {m : Mem} {K : Option Vv → Mem → Prop} (hR : OKR m) {c : Nat} (h : K none (pI m (0, 1, c) 1 (-1))) : cW (d + 1) n_Ce_remove [vo 0 1 c] m K := by
  refine w_Ce_remove (Go.runR (callT_mono MT _) [] 200 hR ?_)
  refine And.intro trivial ?_
  exact h

theorem RelAB.tear {m : Mem} (R : RelAB m) {a : Nat} (ha : a < 6) : RelAB (pI (pI m (0, 1, a) 1 (-1)) (1, 2, 0) a (-9)) := by
  refine R.cells R.1.pI.pI ?_ ?_ (fun t i q h1 h2 => ?_) (fun t i q h1 h2 h3 h4 h5 => ?_) (fun o q => by rw [gL_pI, gL_pI]) (fun o q => by rw [gR_pI, gR_pI])
  · intro r hr
    have e1 : gI (pI (pI m (0, 1, a) 1 (-1)) (1, 2, 0) a (-9)) (0, 1, r) 1 = if r = a then -1 else gI m (0, 1, r) 1 := by rw [rd10, rd00]; simp
    have e2 : gI (pI (pI m (0, 1, a) 1 (-1)) (1, 2, 0) a (-9)) (1, 2, 0) r = if r = a then -9 else gI m (1, 2, 0) r := by rw [rd11, rd01]; simp
    rw [e1, e2]
    by_cases h : r = a
    · rw [if_pos h, if_pos h]; exact Or.inl ⟨rfl, rfl⟩
    · rw [if_neg h, if_neg h]; exact R.2.1 r hr
  · refine TextsR.cg (m := m) (fun r => ?_) (fun r j => rfl) (fun j => rfl) (fun j => rfl) R.2.2.1
    rw [rd10, rd00, if_neg (by omega)]
  · rw [rd10, rd00, if_neg (by omega)]
  · rw [rd11, rd01, if_neg (by omega)]
theorem p_tear {d : Nat} {m : Mem} {K : Option Vv → Option Vv → Mem → Prop} (R : RelAB m) {r : Int32} (h : ∀ v m', RelAB m' → K v v m') : cW (d + 4) n_X_tear [vo 0 0 0, vi r] m (fun v m1 => cW (d + 4) n_M_tear [vo 1 0 0, vi r] m1 (fun w m2 => K v w m2)) := by
  have hR := R.1
  rcases R.rowCase r with q | ⟨a, ha, rfl, s1, s2⟩ | ⟨a, n, ha, rfl, hn, s1, s2, s3⟩
  · refine w_X_tear (Go.runR (callT_mono MT _) [] 200 (by repeat' (first | exact hR | apply OKR.pI | apply OKR.pL | apply OKR.cpI | apply OKR.wI)) ?_)
    refine m_X_isRow0 (by repeat' (first | exact hR | apply OKR.pI | apply OKR.pL | apply OKR.cpI | apply OKR.wI)) q (And.intro (by repeat' (first | exact hR | apply OKR.pI | apply OKR.pL | apply OKR.cpI | apply OKR.wI)) ?_)
    refine And.intro (fun c3 => ?_) (fun c3 => ?_)
    · try dsimp only at c3
      refine And.intro trivial ?_
      refine w_M_tear (Go.runR (callT_mono MT _) [] 200 (by repeat' (first | exact hR | apply OKR.pI | apply OKR.pL | apply OKR.cpI | apply OKR.wI)) ?_)
      refine m_M_askedRow0 (by repeat' (first | exact hR | apply OKR.pI | apply OKR.pL | apply OKR.cpI | apply OKR.wI)) q (And.intro (by repeat' (first | exact hR | apply OKR.pI | apply OKR.pL | apply OKR.cpI | apply OKR.wI)) ?_)
      refine And.intro (fun c5 => ?_) (fun c5 => ?_)
      · first | exact absurd c5 (by decide) | exact absurd (by decide) c5 | (exfalso; grind)
      · try dsimp only at c5
        refine And.intro trivial ?_
        exact h _ _ R
    · first | exact absurd c3 (by decide) | exact absurd (by decide) c3 | (exfalso; grind)
  · have e0 : (nI a).toNatClampNeg = a := nI_clamp (by omega)
    refine w_X_tear (Go.runR (callT_mono MT _) [] 200 (by repeat' (first | exact hR | apply OKR.pI | apply OKR.pL | apply OKR.cpI | apply OKR.wI)) ?_)
    refine m_X_isRow1 (by repeat' (first | exact hR | apply OKR.pI | apply OKR.pL | apply OKR.cpI | apply OKR.wI)) ha (And.intro (by repeat' (first | exact hR | apply OKR.pI | apply OKR.pL | apply OKR.cpI | apply OKR.wI)) ?_)
    refine And.intro (fun c3 => ?_) (fun c3 => ?_)
    · first | exact absurd c3 (by decide) | exact absurd (by decide) c3 | (exfalso; grind)
    · try dsimp only at c3
      refine And.intro ⟨(by first | decide | assumption | omega), (by first | decide | assumption | omega)⟩ ?_
      refine And.intro ⟨(vp_nI (N := 6) ha (by decide)), ⟨rfl, by rw [e0]; exact ha⟩⟩ ?_
      rw [show (nI a).toNatClampNeg = a from e0]
      refine m_Ce_isMissing1 (by repeat' (first | exact hR | apply OKR.pI | apply OKR.pL | apply OKR.cpI | apply OKR.wI)) s1 (And.intro (by repeat' (first | exact hR | apply OKR.pI | apply OKR.pL | apply OKR.cpI | apply OKR.wI)) ?_)
      refine And.intro (fun c11 => ?_) (fun c11 => ?_)
      · first | exact absurd c11 (by decide) | exact absurd (by decide) c11 | (exfalso; grind)
      · try dsimp only at c11
        refine m_X_found1 (by repeat' (first | exact hR | apply OKR.pI | apply OKR.pL | apply OKR.cpI | apply OKR.wI))  (And.intro (by repeat' (first | exact hR | apply OKR.pI | apply OKR.pL | apply OKR.cpI | apply OKR.wI)) ?_)
        refine And.intro trivial ?_
        refine w_M_tear (Go.runR (callT_mono MT _) [] 200 (by repeat' (first | exact hR | apply OKR.pI | apply OKR.pL | apply OKR.cpI | apply OKR.wI)) ?_)
        refine m_M_askedRow1 (by repeat' (first | exact hR | apply OKR.pI | apply OKR.pL | apply OKR.cpI | apply OKR.wI)) ha s2 (And.intro (by repeat' (first | exact hR | apply OKR.pI | apply OKR.pL | apply OKR.cpI | apply OKR.wI)) ?_)
        refine And.intro (fun c5 => ?_) (fun c5 => ?_)
        · first | exact absurd c5 (by decide) | exact absurd (by decide) c5 | (exfalso; grind)
        · try dsimp only at c5
          refine And.intro trivial ?_
          exact h _ _ (R.meet (by omega) (by omega))
  · have e0 : (nI a).toNatClampNeg = a := nI_clamp (by omega)
    refine w_X_tear (Go.runR (callT_mono MT _) [] 200 (by repeat' (first | exact hR | apply OKR.pI | apply OKR.pL | apply OKR.cpI | apply OKR.wI)) ?_)
    refine m_X_isRow1 (by repeat' (first | exact hR | apply OKR.pI | apply OKR.pL | apply OKR.cpI | apply OKR.wI)) ha (And.intro (by repeat' (first | exact hR | apply OKR.pI | apply OKR.pL | apply OKR.cpI | apply OKR.wI)) ?_)
    refine And.intro (fun c3 => ?_) (fun c3 => ?_)
    · first | exact absurd c3 (by decide) | exact absurd (by decide) c3 | (exfalso; grind)
    · try dsimp only at c3
      refine And.intro ⟨(by first | decide | assumption | omega), (by first | decide | assumption | omega)⟩ ?_
      refine And.intro ⟨(vp_nI (N := 6) ha (by decide)), ⟨rfl, by rw [e0]; exact ha⟩⟩ ?_
      rw [show (nI a).toNatClampNeg = a from e0]
      refine m_Ce_isMissing0 (by repeat' (first | exact hR | apply OKR.pI | apply OKR.pL | apply OKR.cpI | apply OKR.wI)) (n := n) (by omega) s1 (And.intro (by repeat' (first | exact hR | apply OKR.pI | apply OKR.pL | apply OKR.cpI | apply OKR.wI)) ?_)
      refine And.intro (fun c11 => ?_) (fun c11 => ?_)
      · try dsimp only at c11
        refine And.intro ⟨(by first | decide | assumption | omega), (by first | decide | assumption | omega)⟩ ?_
        refine And.intro ⟨(vp_nI (N := 6) ha (by decide)), ⟨rfl, by rw [e0]; exact ha⟩⟩ ?_
        rw [show (nI a).toNatClampNeg = a from e0]
        refine m_Ce_remove (by repeat' (first | exact hR | apply OKR.pI | apply OKR.pL | apply OKR.cpI | apply OKR.wI))  (And.intro (by repeat' (first | exact hR | apply OKR.pI | apply OKR.pL | apply OKR.cpI | apply OKR.wI)) ?_)
        refine And.intro trivial ?_
        refine w_M_tear (Go.runR (callT_mono MT _) [] 200 (by repeat' (first | exact hR | apply OKR.pI | apply OKR.pL | apply OKR.cpI | apply OKR.wI)) ?_)
        refine m_M_askedRow2 (by repeat' (first | exact hR | apply OKR.pI | apply OKR.pL | apply OKR.cpI | apply OKR.wI)) (n := n) ha (by omega) s2 (And.intro (by repeat' (first | exact hR | apply OKR.pI | apply OKR.pL | apply OKR.cpI | apply OKR.wI)) ?_)
        refine And.intro (fun c5 => ?_) (fun c5 => ?_)
        · try dsimp only at c5
          refine And.intro ⟨rfl, rfl, rfl⟩ ?_
          refine And.intro (vp_nI (N := 6) ha (by decide)) ?_
          refine And.intro trivial ?_
          rw [e0]
          exact h _ _ (R.tear ha)
        · first | exact absurd c5 (by decide) | exact absurd (by decide) c5 | (exfalso; grind)
      · first | exact absurd c11 (by decide) | exact absurd (by decide) c11 | (exfalso; grind)
end
section
/-! Written by a program (wip/whole/p29.py): lay. -/
theorem RelAB.placeCase {n : Nat} (hn : n ≤ 80) (i : Int32) : ¬ (0 ≤ i ∧ i < nI n) ∨ ∃ j, j < n ∧ i = nI j := by
  by_cases h : 0 ≤ i ∧ i < nI n
  · obtain ⟨j, hj, rfl⟩ := nI_of (Int32.not_lt.mpr h.1)
    exact Or.inr ⟨j, (nI_ltI hj (by omega)).mp h.2, rfl⟩
  · exact Or.inl h
theorem place_in {j n : Nat} (h : j < n) (hn : n ≤ 80) : 0 ≤ nI j ∧ nI j < nI n := ⟨nI_pos' (by omega), nI_lt h (by omega)⟩
theorem m_X_refusal1 {d : Nat} {m : Mem} {K : Option Vv → Mem → Prop} (hR : OKR m) {c : Nat} {i : Int32} (q : gI m (0, 1, c) 1 = -1) (h : K (some (vi (-3))) (foundM m 1)) : cW (d + 3) n_X_refusalOfPlace [vo 0 0 0, vo 0 1 c, vi i] m K := m_X_refusalOfPlace hR (fun _ => h) (fun z => absurd q z) (fun z => absurd q z)
theorem m_X_refusal2 {d : Nat} {m : Mem} {K : Option Vv → Mem → Prop} (hR : OKR m) {c n : Nat} {i : Int32} (hn : n ≤ 80) (q : gI m (0, 1, c) 1 = nI n) (hi : ¬ (0 ≤ i ∧ i < nI n)) (h : K (some (vi (-3))) (foundM m 2)) : cW (d + 3) n_X_refusalOfPlace [vo 0 0 0, vo 0 1 c, vi i] m K := m_X_refusalOfPlace hR (fun z => absurd (q.symm.trans z) (szneg hn).2.2) (fun _ _ => h) (fun _ z => absurd (by rw [q] at z; exact z) hi)
theorem m_X_refusal0 {d : Nat} {m : Mem} {K : Option Vv → Mem → Prop} (hR : OKR m) {c n j : Nat} (hn : n ≤ 80) (q : gI m (0, 1, c) 1 = nI n) (hj : j < n) (h : K (some (vi 0)) m) : cW (d + 3) n_X_refusalOfPlace [vo 0 0 0, vo 0 1 c, vi (nI j)] m K := m_X_refusalOfPlace hR (fun z => absurd (q.symm.trans z) (szneg hn).2.2) (fun _ z => absurd (by rw [q]; exact place_in hj hn) z) (fun _ _ => h)
theorem m_Ce_get1 {d : Nat} {m : Mem} {K : Option Vv → Mem → Prop} (hR : OKR m) {c n j : Nat} (hc : c < 10) (hn : n ≤ ln (0, 2, c)) (q : gI m (0, 1, c) 1 = nI n) (hj : j < n) (h : K (some (vi (gI m (0, 2, c) j))) m) : cW (d + 2) n_Ce_get [vo 0 1 c, vi (nI j)] m K := by
  have h80 := ln2_le c
  refine m_Ce_get hR hc (by rw [q]; exact nI_le hn (by omega)) (kvi ?_ h)
  rw [if_pos (by rw [q]; exact place_in hj (by omega)), nI_clamp (by omega)]
theorem m_M_at0 {d : Nat} {m : Mem} {K : Option Vv → Mem → Prop} (hR : OKR m) (hs : ∀ a, a < 6 → gI m (1, 2, 0) a ≤ nI 40) {r i : Int32} (q : ¬ (0 ≤ r ∧ r ≤ 5)) (h : K (some (vi (-1))) m) : cW (d + 4) n_M_at [vo 1 0 0, vi r, vi i] m K :=
  m_M_at hR hs (fun _ => h) (fun b hb e => absurd (by rw [e]; exact isrow_in hb) q) (fun b hb e => absurd (by rw [e]; exact isrow_in hb) q) (fun b j hb hj e => absurd (by rw [e]; exact isrow_in hb) q)
theorem m_M_at1 {d : Nat} {m : Mem} {K : Option Vv → Mem → Prop} (hR : OKR m) (hs : ∀ a, a < 6 → gI m (1, 2, 0) a ≤ nI 40) {a : Nat} {i : Int32} (ha : a < 6) (q : gI m (1, 2, 0) a = -9) (h : K (some (vi (-3))) (meetM m 1)) : cW (d + 4) n_M_at [vo 1 0 0, vi (nI a), vi i] m K :=
  m_M_at hR hs (fun z => absurd (isrow_in ha) z) (fun b hb e z => h) (fun b hb e z => by obtain rfl := nI_in1 (by omega) (by omega) e; rw [q] at z; exact absurd z (by decide)) (fun b j hb hj e e2 z => by
    obtain rfl := nI_in1 (by omega) (by omega) e
    rw [q] at z
    exact absurd (Int32.lt_of_le_of_lt (nI_pos' (n := j) (by omega)) z) (by decide))
theorem m_M_at2 {d : Nat} {m : Mem} {K : Option Vv → Mem → Prop} (hR : OKR m) (hs : ∀ a, a < 6 → gI m (1, 2, 0) a ≤ nI 40) {a n : Nat} {i : Int32} (ha : a < 6) (hn : n ≤ 40) (q : gI m (1, 2, 0) a = nI n) (hi : ¬ (0 ≤ i ∧ i < nI n)) (h : K (some (vi (-3))) (meetM m 2)) : cW (d + 4) n_M_at [vo 1 0 0, vi (nI a), vi i] m K :=
  m_M_at hR hs (fun z => absurd (isrow_in ha) z) (fun b hb e z => by obtain rfl := nI_in1 (by omega) (by omega) e; rw [q] at z; exact absurd z (szneg (by omega)).1) (fun b hb e z y => h) (fun b j hb hj e e2 z => by
    obtain rfl := nI_in1 (by omega) (by omega) e
    rw [q] at z
    exact absurd ⟨by rw [e2]; exact nI_pos' (by omega), by rw [e2]; exact z⟩ hi)
theorem m_M_at3 {d : Nat} {m : Mem} {K : Option Vv → Mem → Prop} (hR : OKR m) (hs : ∀ a, a < 6 → gI m (1, 2, 0) a ≤ nI 40) {a n j : Nat} (ha : a < 6) (hn : n ≤ 40) (q : gI m (1, 2, 0) a = nI n) (hj : j < n) (h : K (some (vi 1)) (askM m (gI m (1, 3, 0) (40 * a + j)))) : cW (d + 4) n_M_at [vo 1 0 0, vi (nI a), vi (nI j)] m K :=
  m_M_at hR hs (fun z => absurd (isrow_in ha) z) (fun b hb e z => by obtain rfl := nI_in1 (by omega) (by omega) e; rw [q] at z; exact absurd z (szneg (by omega)).1) (fun b hb e z y => by obtain rfl := nI_in1 (by omega) (by omega) e; rw [q] at y; exact absurd (place_in hj (by omega)) y) (fun b l hb hl e e2 z => by
    obtain rfl := nI_in1 (by omega) (by omega) e
    obtain rfl := nI_in1 (by omega) (by omega) e2
    exact h)

theorem m_Ce_set1 {d : Nat} {m : Mem} {K : Option Vv → Mem → Prop} (hR : OKR m) {c n j : Nat} {v : Int32} (hc : c < 10) (hn : n ≤ ln (0, 2, c)) (q : gI m (0, 1, c) 1 = nI n) (hj : j < n) (h : K none (pI m (0, 2, c) j v)) : cW (d + 2) n_Ce_set [vo 0 1 c, vi (nI j), vi v] m K := by
  have h80 := ln2_le c
  have e0 : (nI j).toNatClampNeg = j := nI_clamp (by omega)
  refine w_Ce_set (Go.runR (callT_mono MT _) [] 200 hR ?_)
  refine m_Ce_has (by repeat' (first | exact hR | apply OKR.pI | apply OKR.pL | apply OKR.cpI | apply OKR.wI)) (And.intro (by repeat' (first | exact hR | apply OKR.pI | apply OKR.pL | apply OKR.cpI | apply OKR.wI)) ?_)
  rw [show b2 (0 ≤ nI j ∧ nI j < gI m (0, 1, c) 1) = 1 from if_pos (by rw [q]; exact place_in hj (by omega))]
  refine And.intro (fun c3 => ?_) (fun c3 => ?_)
  · first | exact absurd c3 (by decide) | exact absurd (by decide) c3 | (exfalso; grind)
  · try dsimp only at c3
    refine And.intro ⟨(by first | decide | assumption | omega), (by first | decide | assumption | omega)⟩ ?_
    refine And.intro (vp_nI (by omega) (ln2_lt c)) ?_
    refine And.intro trivial ?_
    rw [e0]
    exact h

theorem pI_comm1 (m : Mem) (t i k : Nat) (v : Int32) (t' i' k' : Nat) (v' : Int32) (h : t ≠ t') : pI (pI m (1, t, i) k v) (1, t', i') k' v' = pI (pI m (1, t', i') k' v') (1, t, i) k v := by
  refine Prod.ext rfl (Prod.ext (Prod.ext ?_ rfl) rfl)
  funext a b c
  show (if a = t' ∧ b = i' ∧ c = k' then v' else if a = t ∧ b = i ∧ c = k then v else m.2.1.1 a b c) = if a = t ∧ b = i ∧ c = k then v else if a = t' ∧ b = i' ∧ c = k' then v' else m.2.1.1 a b c
  grind
theorem RelAB.lay {m : Mem} (R : RelAB m) {a n j : Nat} {v w : Int32} (ha : a < 6) (hn : n ≤ 40) (hj : j < n) (s : gI m (0, 1, a) 1 = nI n) (e : gI m (0, 2, a) j = w) : RelAB (pI (askM (tellM (pI m (0, 2, a) j v) w) w) (1, 3, 0) (40 * a + j) v) := by
  have R2 : RelAB (pI (pI m (0, 2, a) j v) (1, 3, 0) (40 * a + j) v) := by
    refine R.cells R.1.pI.pI ?_ ?_ (fun t i q h1 h2 => ?_) (fun t i q h1 h2 h3 h4 h5 => ?_) (fun o q => by rw [gL_pI, gL_pI]) (fun o q => by rw [gR_pI, gR_pI])
    · intro r hr
      have e3 : ∀ k, gI (pI (pI m (0, 2, a) j v) (1, 3, 0) (40 * a + j) v) (0, 2, r) k = if r = a ∧ k = j then v else gI m (0, 2, r) k := fun k => by rw [rd10, rd00]; simp
      have e4 : ∀ k, gI (pI (pI m (0, 2, a) j v) (1, 3, 0) (40 * a + j) v) (1, 3, 0) k = if k = 40 * a + j then v else gI m (1, 3, 0) k := fun k => by rw [rd11, rd01]; simp
      rcases R.2.1 r hr with q | ⟨l, q1, q2, q3, q4⟩
      · exact Or.inl q
      · refine Or.inr ⟨l, q1, q2, q3, fun k hk => ?_⟩
        rw [e3, e4, q4 k hk]
        by_cases h : r = a ∧ k = j
        · rw [if_pos h, if_pos (by omega)]
        · rw [if_neg h, if_neg (by omega)]
    · refine TextsR.cg (m := m) (fun r => rfl) (fun r k => ?_) (fun k => rfl) (fun k => rfl) R.2.2.1
      rw [rd10, rd00, if_neg (by omega)]
    · rw [rd10, rd00, if_neg (by omega)]
    · rw [rd11, rd01, if_neg (by omega)]
  unfold askM
  rw [pI_comm1 _ 0 0 2 w 3 0 (40 * a + j) v (by decide)]
  exact R2.tell w

theorem p_lay {d : Nat} {m : Mem} {K : Option Vv → Option Vv → Mem → Prop} (R : RelAB m) {r i v : Int32} (h : ∀ v m', RelAB m' → K v v m') : cW (d + 5) n_X_lay [vo 0 0 0, vi r, vi i, vi v] m (fun v' m1 => cW (d + 5) n_M_lay [vo 1 0 0, vi r, vi i, vi v] m1 (fun w m2 => K v' w m2)) := by
  have hR := R.1
  have hA := R.2.1.le2
  rcases R.rowCase r with q | ⟨a, ha, rfl, s1, s2⟩ | ⟨a, n, ha, rfl, hn, s1, s2, s3⟩
  · refine w_X_lay (Go.runR (callT_mono MT _) [] 200 (by repeat' (first | exact hR | apply OKR.pI | apply OKR.pL | apply OKR.cpI | apply OKR.wI)) ?_)
    refine m_X_isRow0 (by repeat' (first | exact hR | apply OKR.pI | apply OKR.pL | apply OKR.cpI | apply OKR.wI)) q (And.intro (by repeat' (first | exact hR | apply OKR.pI | apply OKR.pL | apply OKR.cpI | apply OKR.wI)) ?_)
    refine And.intro (fun c3 => ?_) (fun c3 => ?_)
    · try dsimp only at c3
      refine And.intro trivial ?_
      refine w_M_lay (Go.runR (callT_mono MT _) [] 200 (by repeat' (first | exact hR | apply OKR.pI | apply OKR.pL | apply OKR.cpI | apply OKR.wI)) ?_)
      refine m_M_at0 (by repeat' (first | exact hR | apply OKR.pI | apply OKR.pL | apply OKR.cpI | apply OKR.wI)) hA q (And.intro (by repeat' (first | exact hR | apply OKR.pI | apply OKR.pL | apply OKR.cpI | apply OKR.wI)) ?_)
      refine And.intro (fun c6 => ?_) (fun c6 => ?_)
      · first | exact absurd c6 (by decide) | exact absurd (by decide) c6 | (exfalso; grind)
      · try dsimp only at c6
        refine And.intro trivial ?_
        exact h _ _ R
    · first | exact absurd c3 (by decide) | exact absurd (by decide) c3 | (exfalso; grind)
  · have e0 : (nI a).toNatClampNeg = a := nI_clamp (by omega)
    refine w_X_lay (Go.runR (callT_mono MT _) [] 200 (by repeat' (first | exact hR | apply OKR.pI | apply OKR.pL | apply OKR.cpI | apply OKR.wI)) ?_)
    refine m_X_isRow1 (by repeat' (first | exact hR | apply OKR.pI | apply OKR.pL | apply OKR.cpI | apply OKR.wI)) ha (And.intro (by repeat' (first | exact hR | apply OKR.pI | apply OKR.pL | apply OKR.cpI | apply OKR.wI)) ?_)
    refine And.intro (fun c3 => ?_) (fun c3 => ?_)
    · first | exact absurd c3 (by decide) | exact absurd (by decide) c3 | (exfalso; grind)
    · try dsimp only at c3
      refine And.intro ⟨(by first | decide | assumption | omega), (by first | decide | assumption | omega)⟩ ?_
      refine And.intro ⟨(vp_nI (N := 6) ha (by decide)), ⟨rfl, by rw [e0]; exact ha⟩⟩ ?_
      rw [show (nI a).toNatClampNeg = a from e0]
      refine m_X_refusal1 (by repeat' (first | exact hR | apply OKR.pI | apply OKR.pL | apply OKR.cpI | apply OKR.wI)) s1 (And.intro (by repeat' (first | exact hR | apply OKR.pI | apply OKR.pL | apply OKR.cpI | apply OKR.wI)) ?_)
      refine And.intro (fun c15 => ?_) (fun c15 => ?_)
      · first | exact absurd c15 (by decide) | exact absurd (by decide) c15 | (exfalso; grind)
      · try dsimp only at c15
        refine And.intro trivial ?_
        refine w_M_lay (Go.runR (callT_mono MT _) [] 200 (by repeat' (first | exact hR | apply OKR.pI | apply OKR.pL | apply OKR.cpI | apply OKR.wI)) ?_)
        refine m_M_at1 (by repeat' (first | exact hR | apply OKR.pI | apply OKR.pL | apply OKR.cpI | apply OKR.wI)) (by exact hA) ha (by exact s2) (And.intro (by repeat' (first | exact hR | apply OKR.pI | apply OKR.pL | apply OKR.cpI | apply OKR.wI)) ?_)
        refine And.intro (fun c6 => ?_) (fun c6 => ?_)
        · first | exact absurd c6 (by decide) | exact absurd (by decide) c6 | (exfalso; grind)
        · try dsimp only at c6
          refine And.intro trivial ?_
          exact h _ _ (R.meet (by omega) (by omega))
  · have e0 : (nI a).toNatClampNeg = a := nI_clamp (by omega)
    have hl : n ≤ ln (0, 2, a) := by rw [show ln (0, 2, a) = 40 from if_pos ha]; exact hn
    rcases RelAB.placeCase (n := n) (by omega) i with q | ⟨j, hj, rfl⟩
    · refine w_X_lay (Go.runR (callT_mono MT _) [] 200 (by repeat' (first | exact hR | apply OKR.pI | apply OKR.pL | apply OKR.cpI | apply OKR.wI)) ?_)
      refine m_X_isRow1 (by repeat' (first | exact hR | apply OKR.pI | apply OKR.pL | apply OKR.cpI | apply OKR.wI)) ha (And.intro (by repeat' (first | exact hR | apply OKR.pI | apply OKR.pL | apply OKR.cpI | apply OKR.wI)) ?_)
      refine And.intro (fun c3 => ?_) (fun c3 => ?_)
      · first | exact absurd c3 (by decide) | exact absurd (by decide) c3 | (exfalso; grind)
      · try dsimp only at c3
        refine And.intro ⟨(by first | decide | assumption | omega), (by first | decide | assumption | omega)⟩ ?_
        refine And.intro ⟨(vp_nI (N := 6) ha (by decide)), ⟨rfl, by rw [e0]; exact ha⟩⟩ ?_
        rw [show (nI a).toNatClampNeg = a from e0]
        refine m_X_refusal2 (by repeat' (first | exact hR | apply OKR.pI | apply OKR.pL | apply OKR.cpI | apply OKR.wI)) (n := n) (by omega) s1 q (And.intro (by repeat' (first | exact hR | apply OKR.pI | apply OKR.pL | apply OKR.cpI | apply OKR.wI)) ?_)
        refine And.intro (fun c15 => ?_) (fun c15 => ?_)
        · first | exact absurd c15 (by decide) | exact absurd (by decide) c15 | (exfalso; grind)
        · try dsimp only at c15
          refine And.intro trivial ?_
          refine w_M_lay (Go.runR (callT_mono MT _) [] 200 (by repeat' (first | exact hR | apply OKR.pI | apply OKR.pL | apply OKR.cpI | apply OKR.wI)) ?_)
          refine m_M_at2 (by repeat' (first | exact hR | apply OKR.pI | apply OKR.pL | apply OKR.cpI | apply OKR.wI)) (by exact hA) (n := n) ha hn (by exact s2) q (And.intro (by repeat' (first | exact hR | apply OKR.pI | apply OKR.pL | apply OKR.cpI | apply OKR.wI)) ?_)
          refine And.intro (fun c6 => ?_) (fun c6 => ?_)
          · first | exact absurd c6 (by decide) | exact absurd (by decide) c6 | (exfalso; grind)
          · try dsimp only at c6
            refine And.intro trivial ?_
            exact h _ _ (R.meet (by omega) (by omega))
    · refine w_X_lay (Go.runR (callT_mono MT _) [] 200 (by repeat' (first | exact hR | apply OKR.pI | apply OKR.pL | apply OKR.cpI | apply OKR.wI)) ?_)
      refine m_X_isRow1 (by repeat' (first | exact hR | apply OKR.pI | apply OKR.pL | apply OKR.cpI | apply OKR.wI)) ha (And.intro (by repeat' (first | exact hR | apply OKR.pI | apply OKR.pL | apply OKR.cpI | apply OKR.wI)) ?_)
      refine And.intro (fun c3 => ?_) (fun c3 => ?_)
      · first | exact absurd c3 (by decide) | exact absurd (by decide) c3 | (exfalso; grind)
      · try dsimp only at c3
        refine And.intro ⟨(by first | decide | assumption | omega), (by first | decide | assumption | omega)⟩ ?_
        refine And.intro ⟨(vp_nI (N := 6) ha (by decide)), ⟨rfl, by rw [e0]; exact ha⟩⟩ ?_
        rw [show (nI a).toNatClampNeg = a from e0]
        refine m_X_refusal0 (by repeat' (first | exact hR | apply OKR.pI | apply OKR.pL | apply OKR.cpI | apply OKR.wI)) (n := n) (by omega) s1 hj (And.intro (by repeat' (first | exact hR | apply OKR.pI | apply OKR.pL | apply OKR.cpI | apply OKR.wI)) ?_)
        refine And.intro (fun c15 => ?_) (fun c15 => ?_)
        · try dsimp only at c15
          refine And.intro ⟨(by first | decide | assumption | omega), (by first | decide | assumption | omega)⟩ ?_
          refine And.intro ⟨(vp_nI (N := 6) ha (by decide)), ⟨rfl, by rw [e0]; exact ha⟩⟩ ?_
          rw [show (nI a).toNatClampNeg = a from e0]
          refine m_Ce_get1 (by repeat' (first | exact hR | apply OKR.pI | apply OKR.pL | apply OKR.cpI | apply OKR.wI)) (n := n) (by omega) hl s1 hj (And.intro (by repeat' (first | exact hR | apply OKR.pI | apply OKR.pL | apply OKR.cpI | apply OKR.wI)) ?_)
          refine And.intro ⟨(by first | decide | assumption | omega), (by first | decide | assumption | omega)⟩ ?_
          refine And.intro ⟨(vp_nI (N := 6) ha (by decide)), ⟨rfl, by rw [e0]; exact ha⟩⟩ ?_
          rw [show (nI a).toNatClampNeg = a from e0]
          refine m_Ce_set1 (by repeat' (first | exact hR | apply OKR.pI | apply OKR.pL | apply OKR.cpI | apply OKR.wI)) (n := n) (by omega) hl (by exact s1) hj (And.intro (by repeat' (first | exact hR | apply OKR.pI | apply OKR.pL | apply OKR.cpI | apply OKR.wI)) ?_)
          refine m_X_tell (by repeat' (first | exact hR | apply OKR.pI | apply OKR.pL | apply OKR.cpI | apply OKR.wI)) (And.intro (by repeat' (first | exact hR | apply OKR.pI | apply OKR.pL | apply OKR.cpI | apply OKR.wI)) ?_)
          refine And.intro trivial ?_
          refine w_M_lay (Go.runR (callT_mono MT _) [] 200 (by repeat' (first | exact hR | apply OKR.pI | apply OKR.pL | apply OKR.cpI | apply OKR.wI)) ?_)
          rw [s3 j hj]
          refine m_M_at3 (by repeat' (first | exact hR | apply OKR.pI | apply OKR.pL | apply OKR.cpI | apply OKR.wI)) (by exact hA) (n := n) ha hn (by exact s2) hj (And.intro (by repeat' (first | exact hR | apply OKR.pI | apply OKR.pL | apply OKR.cpI | apply OKR.wI)) ?_)
          refine And.intro (fun c6 => ?_) (fun c6 => ?_)
          · try dsimp only at c6
            refine m_M_setRow (by repeat' (first | exact hR | apply OKR.pI | apply OKR.pL | apply OKR.cpI | apply OKR.wI)) ha (by omega) (And.intro (by repeat' (first | exact hR | apply OKR.pI | apply OKR.pL | apply OKR.cpI | apply OKR.wI)) ?_)
            refine And.intro trivial ?_
            exact h _ _ (R.lay ha hn hj s1 (s3 j hj))
          · first | exact absurd c6 (by decide) | exact absurd (by decide) c6 | (exfalso; grind)
        · first | exact absurd c15 (by decide) | exact absurd (by decide) c15 | (exfalso; grind)
end
section
/-! Written by a program (wip/whole/p30.py): mean. -/
def sm (f : Nat → Int32) : Nat → Int64
  | 0 => 0
  | n + 1 => sm f n + (f n).toInt64
theorem sm_cg {f g : Nat → Int32} : ∀ {n : Nat}, (∀ k, k < n → f k = g k) → sm f n = sm g n
  | 0, _ => rfl
  | n + 1, h => by
    unfold sm
    rw [sm_cg (n := n) fun k hk => h k (by omega), h n (by omega)]
theorem szL {n : Nat} (h0 : 0 < n) (h : n ≤ 80) : ¬ (nI n).toInt64 = 0 := by
  rw [nI_l (by omega)]
  intro e
  have := congrArg Int64.toInt e
  rw [lN_toInt (by omega)] at this
  simp at this
  omega
theorem sz0 {n : Nat} (h0 : 0 < n) (h : n ≤ 80) : ¬ nI n = 0 := nI_ne0 h0 (by omega)

theorem l_Ce_sum {d : Nat} {K : Option Vv → Mem → Prop} {m : Mem} {c n : Nat} (hR : OKR m) (hc : c < 10) (hn : n ≤ ln (0, 2, c)) (q : gI m (0, 1, c) 1 = nI n) (h : K (some (vl (sm (gI m (0, 2, c)) n))) m) (k : Nat) (hk : k ≤ n) : Go (cW d) i_Ce_sum (0, 0) K 4 [vo 0 1 c, vl (sm (gI m (0, 2, c)) k), vu, vi (nI k)] [] m 0 0 := by
  have h80 := ln2_le c
  refine Go.runR (callT_mono MT _) [4] 200 hR ?_
  refine And.intro (fun c7 => ?_) (fun c7 => ?_)
  · try dsimp only at c7
    refine And.intro trivial ?_
    obtain rfl : k = n := by have := (nI_leI (a := n) (b := k) (by omega) (by omega)).mp (by rw [← q]; exact c7); omega
    exact h
  · try dsimp only at c7
    have hk2 : k < n := by have := mt (nI_leI (a := n) (b := k) (by omega) (by omega)).mpr (by rw [← q]; exact c7); omega
    refine And.intro ⟨(by first | decide | assumption | omega), (by first | decide | assumption | omega)⟩ ?_
    refine And.intro (vp_nI (by omega) (ln2_lt c)) ?_
    refine go_eq (ls' := [vo 0 1 c, vl (sm (gI m (0, 2, c)) (k + 1)), vu, vi (nI (k + 1))]) ?_ rfl (l_Ce_sum hR hc hn q h (k + 1) hk2)
    rw [nI_succ]
    show [vo 0 1 c, vl (sm (gI m (0, 2, c)) k + (gI m (0, 2, c) (nI k).toNatClampNeg).toInt64), vu, vi (nI k + 1)] = _
    rw [nI_clamp (by omega)]
    rfl
termination_by n - k
decreasing_by omega
theorem m_Ce_sum {d : Nat} {m : Mem} {K : Option Vv → Mem → Prop} (hR : OKR m) {c n : Nat} (hc : c < 10) (hn : n ≤ ln (0, 2, c)) (q : gI m (0, 1, c) 1 = nI n) (h : K (some (vl (sm (gI m (0, 2, c)) n))) m) : cW (d + 1) n_Ce_sum [vo 0 1 c] m K := by
  refine w_Ce_sum (Go.runR (callT_mono MT _) [4] 200 hR ?_)
  exact l_Ce_sum hR hc hn q h 0 (by omega)
theorem l_M_mean {d : Nat} {K : Option Vv → Mem → Prop} {m : Mem} {a n : Nat} (hR : OKR m) (ha : a < 6) (hn : n ≤ 40) (q : gI m (1, 2, 0) a = nI n) (hz : n = 0 → K (some (vi (-3))) (meetM m 4)) (h : 0 < n → K (some (vi 1)) (askM m (sm (fun k => gI m (1, 3, 0) (40 * a + k)) n / (nI n).toInt64).toInt32)) (k : Nat) (hk : k ≤ n) : Go (cW (d + 1)) i_M_mean (0, 0) K 12 [vo 1 0 0, vi (nI a), vi 0, vl (sm (fun k => gI m (1, 3, 0) (40 * a + k)) k), vu, vi (nI k)] [] m 0 0 := by
  have e0 : (nI a).toNatClampNeg = a := nI_clamp (by omega)
  have q0 : gI m (1, 2, 0) (nI a).toNatClampNeg = nI n := by rw [e0]; exact q
  refine Go.runR (callT_mono MT _) [12] 200 hR ?_
  refine And.intro ⟨rfl, rfl, rfl⟩ ?_
  refine And.intro (vp_nI (N := 6) ha (by decide)) ?_
  refine And.intro (fun c17 => ?_) (fun c17 => ?_)
  · try dsimp only at c17
    obtain rfl : k = n := by have := (nI_leI (a := n) (b := k) (by omega) (by omega)).mp (by rw [← q0]; exact c17); omega
    refine And.intro ⟨rfl, rfl, rfl⟩ ?_
    refine And.intro (vp_nI (N := 6) ha (by decide)) ?_
    refine And.intro (fun c32 => ?_) (fun c32 => ?_)
    · try dsimp only at c32
      have z : k = 0 := (Nat.eq_zero_or_pos k).elim id (fun z => absurd (by rw [← q0]; exact c32) (sz0 z (by omega)))
      refine m_M_meet4 (by repeat' (first | exact hR | apply OKR.pI | apply OKR.pL | apply OKR.cpI | apply OKR.wI))  (And.intro (by repeat' (first | exact hR | apply OKR.pI | apply OKR.pL | apply OKR.cpI | apply OKR.wI)) ?_)
      refine And.intro trivial ?_
      first | exact hz z | (rw [q0]; exact h z)
    · try dsimp only at c32
      have z : 0 < k := (Nat.eq_zero_or_pos k).elim (fun z => absurd (by rw [q0, z]; rfl) c32) id
      refine And.intro ⟨rfl, rfl, rfl⟩ ?_
      refine And.intro (vp_nI (N := 6) ha (by decide)) ?_
      refine And.intro (by rw [q0]; exact szL z (by omega)) ?_
      refine m_M_ask (by repeat' (first | exact hR | apply OKR.pI | apply OKR.pL | apply OKR.cpI)) (And.intro (by repeat' (first | exact hR | apply OKR.pI | apply OKR.pL | apply OKR.cpI)) ?_)
      refine And.intro trivial ?_
      first | exact hz z | (rw [q0]; exact h z)
  · try dsimp only at c17
    have hk2 : k < n := by have := mt (nI_leI (a := n) (b := k) (by omega) (by omega)).mpr (by rw [← q0]; exact c17); omega
    refine m_M_rowAt (by repeat' (first | exact hR | apply OKR.pI | apply OKR.pL | apply OKR.cpI | apply OKR.wI)) ha (by omega) (And.intro (by repeat' (first | exact hR | apply OKR.pI | apply OKR.pL | apply OKR.cpI | apply OKR.wI)) ?_)
    refine go_eq (ls' := [vo 1 0 0, vi (nI a), vi 0, vl (sm (fun k => gI m (1, 3, 0) (40 * a + k)) (k + 1)), vu, vi (nI (k + 1))]) (by rw [nI_succ]; rfl) rfl (l_M_mean hR ha hn q hz h (k + 1) hk2)
termination_by n - k
decreasing_by omega
theorem p_mean {d : Nat} {m : Mem} {K : Option Vv → Option Vv → Mem → Prop} (R : RelAB m) {r : Int32} (h : ∀ v m', RelAB m' → K v v m') : cW (d + 4) n_X_mean [vo 0 0 0, vi r] m (fun v m1 => cW (d + 4) n_M_mean [vo 1 0 0, vi r] m1 (fun w m2 => K v w m2)) := by
  have hR := R.1
  rcases R.rowCase r with q | ⟨a, ha, rfl, s1, s2⟩ | ⟨a, n, ha, rfl, hn, s1, s2, s3⟩
  · refine w_X_mean (Go.runR (callT_mono MT _) [] 200 (by repeat' (first | exact hR | apply OKR.pI | apply OKR.pL | apply OKR.cpI | apply OKR.wI)) ?_)
    refine m_X_isRow0 (by repeat' (first | exact hR | apply OKR.pI | apply OKR.pL | apply OKR.cpI | apply OKR.wI)) q (And.intro (by repeat' (first | exact hR | apply OKR.pI | apply OKR.pL | apply OKR.cpI | apply OKR.wI)) ?_)
    refine And.intro (fun c3 => ?_) (fun c3 => ?_)
    · try dsimp only at c3
      refine And.intro trivial ?_
      refine w_M_mean (Go.runR (callT_mono MT _) [12] 200 (by repeat' (first | exact hR | apply OKR.pI | apply OKR.pL | apply OKR.cpI | apply OKR.wI)) ?_)
      refine m_M_askedRow0 (by repeat' (first | exact hR | apply OKR.pI | apply OKR.pL | apply OKR.cpI | apply OKR.wI)) q (And.intro (by repeat' (first | exact hR | apply OKR.pI | apply OKR.pL | apply OKR.cpI | apply OKR.wI)) ?_)
      refine And.intro (fun c5 => ?_) (fun c5 => ?_)
      · first | exact absurd c5 (by decide) | exact absurd (by decide) c5 | (exfalso; grind)
      · try dsimp only at c5
        refine And.intro trivial ?_
        exact h _ _ R
    · first | exact absurd c3 (by decide) | exact absurd (by decide) c3 | (exfalso; grind)
  · have e0 : (nI a).toNatClampNeg = a := nI_clamp (by omega)
    refine w_X_mean (Go.runR (callT_mono MT _) [] 200 (by repeat' (first | exact hR | apply OKR.pI | apply OKR.pL | apply OKR.cpI | apply OKR.wI)) ?_)
    refine m_X_isRow1 (by repeat' (first | exact hR | apply OKR.pI | apply OKR.pL | apply OKR.cpI | apply OKR.wI)) ha (And.intro (by repeat' (first | exact hR | apply OKR.pI | apply OKR.pL | apply OKR.cpI | apply OKR.wI)) ?_)
    refine And.intro (fun c3 => ?_) (fun c3 => ?_)
    · first | exact absurd c3 (by decide) | exact absurd (by decide) c3 | (exfalso; grind)
    · try dsimp only at c3
      refine And.intro ⟨(by first | decide | assumption | omega), (by first | decide | assumption | omega)⟩ ?_
      refine And.intro ⟨(vp_nI (N := 6) ha (by decide)), ⟨rfl, by rw [e0]; exact ha⟩⟩ ?_
      rw [show (nI a).toNatClampNeg = a from e0]
      refine m_Ce_isMissing1 (by repeat' (first | exact hR | apply OKR.pI | apply OKR.pL | apply OKR.cpI | apply OKR.wI)) s1 (And.intro (by repeat' (first | exact hR | apply OKR.pI | apply OKR.pL | apply OKR.cpI | apply OKR.wI)) ?_)
      refine And.intro (fun c13 => ?_) (fun c13 => ?_)
      · first | exact absurd c13 (by decide) | exact absurd (by decide) c13 | (exfalso; grind)
      · try dsimp only at c13
        refine m_X_found1 (by repeat' (first | exact hR | apply OKR.pI | apply OKR.pL | apply OKR.cpI | apply OKR.wI))  (And.intro (by repeat' (first | exact hR | apply OKR.pI | apply OKR.pL | apply OKR.cpI | apply OKR.wI)) ?_)
        refine And.intro trivial ?_
        refine w_M_mean (Go.runR (callT_mono MT _) [12] 200 (by repeat' (first | exact hR | apply OKR.pI | apply OKR.pL | apply OKR.cpI | apply OKR.wI)) ?_)
        refine m_M_askedRow1 (by repeat' (first | exact hR | apply OKR.pI | apply OKR.pL | apply OKR.cpI | apply OKR.wI)) ha (by exact s2) (And.intro (by repeat' (first | exact hR | apply OKR.pI | apply OKR.pL | apply OKR.cpI | apply OKR.wI)) ?_)
        refine And.intro (fun c5 => ?_) (fun c5 => ?_)
        · first | exact absurd c5 (by decide) | exact absurd (by decide) c5 | (exfalso; grind)
        · try dsimp only at c5
          refine And.intro trivial ?_
          exact h _ _ (R.meet (by omega) (by omega))
  · have e0 : (nI a).toNatClampNeg = a := nI_clamp (by omega)
    have hl : n ≤ ln (0, 2, a) := by rw [show ln (0, 2, a) = 40 from if_pos ha]; exact hn
    have es := sm_cg (n := n) s3
    rcases Nat.eq_zero_or_pos n with z | z
    · subst z
      refine w_X_mean (Go.runR (callT_mono MT _) [] 200 (by repeat' (first | exact hR | apply OKR.pI | apply OKR.pL | apply OKR.cpI | apply OKR.wI)) ?_)
      refine m_X_isRow1 (by repeat' (first | exact hR | apply OKR.pI | apply OKR.pL | apply OKR.cpI | apply OKR.wI)) ha (And.intro (by repeat' (first | exact hR | apply OKR.pI | apply OKR.pL | apply OKR.cpI | apply OKR.wI)) ?_)
      refine And.intro (fun c3 => ?_) (fun c3 => ?_)
      · first | exact absurd c3 (by decide) | exact absurd (by decide) c3 | (exfalso; grind)
      · try dsimp only at c3
        refine And.intro ⟨(by first | decide | assumption | omega), (by first | decide | assumption | omega)⟩ ?_
        refine And.intro ⟨(vp_nI (N := 6) ha (by decide)), ⟨rfl, by rw [e0]; exact ha⟩⟩ ?_
        rw [show (nI a).toNatClampNeg = a from e0]
        refine m_Ce_isMissing0 (by repeat' (first | exact hR | apply OKR.pI | apply OKR.pL | apply OKR.cpI | apply OKR.wI)) (n := 0) (by omega) s1 (And.intro (by repeat' (first | exact hR | apply OKR.pI | apply OKR.pL | apply OKR.cpI | apply OKR.wI)) ?_)
        refine And.intro (fun c13 => ?_) (fun c13 => ?_)
        · try dsimp only at c13
          refine And.intro (fun c20 => ?_) (fun c20 => ?_)
          · try dsimp only at c20
            refine m_X_found4 (by repeat' (first | exact hR | apply OKR.pI | apply OKR.pL | apply OKR.cpI | apply OKR.wI))  (And.intro (by repeat' (first | exact hR | apply OKR.pI | apply OKR.pL | apply OKR.cpI | apply OKR.wI)) ?_)
            refine And.intro trivial ?_
            refine w_M_mean (Go.runR (callT_mono MT _) [12] 200 (by repeat' (first | exact hR | apply OKR.pI | apply OKR.pL | apply OKR.cpI | apply OKR.wI)) ?_)
            refine m_M_askedRow2 (by repeat' (first | exact hR | apply OKR.pI | apply OKR.pL | apply OKR.cpI | apply OKR.wI)) (n := 0) ha (by omega) (by exact s2) (And.intro (by repeat' (first | exact hR | apply OKR.pI | apply OKR.pL | apply OKR.cpI | apply OKR.wI)) ?_)
            refine And.intro (fun c5 => ?_) (fun c5 => ?_)
            · try dsimp only at c5
              refine go_eq (ls' := [vo 1 0 0, vi (nI a), vi 0, vl (sm (fun k => gI (foundM m 4) (1, 3, 0) (40 * a + k)) 0), vu, vi (nI 0)]) rfl rfl (l_M_mean (m := foundM m 4) hR.pI.pI ha (by omega) s2 (fun _ => h _ _ (R.meet (by omega) (by omega))) (fun y => absurd y (by omega)) 0 (by omega))
            · first | exact absurd c5 (by decide) | exact absurd (by decide) c5 | (exfalso; grind)
          · exact absurd (show gI m (0, 1, a) 1 = 0 from s1) c20
        · first | exact absurd c13 (by decide) | exact absurd (by decide) c13 | (exfalso; grind)
    · refine w_X_mean (Go.runR (callT_mono MT _) [] 200 (by repeat' (first | exact hR | apply OKR.pI | apply OKR.pL | apply OKR.cpI | apply OKR.wI)) ?_)
      refine m_X_isRow1 (by repeat' (first | exact hR | apply OKR.pI | apply OKR.pL | apply OKR.cpI | apply OKR.wI)) ha (And.intro (by repeat' (first | exact hR | apply OKR.pI | apply OKR.pL | apply OKR.cpI | apply OKR.wI)) ?_)
      refine And.intro (fun c3 => ?_) (fun c3 => ?_)
      · first | exact absurd c3 (by decide) | exact absurd (by decide) c3 | (exfalso; grind)
      · try dsimp only at c3
        refine And.intro ⟨(by first | decide | assumption | omega), (by first | decide | assumption | omega)⟩ ?_
        refine And.intro ⟨(vp_nI (N := 6) ha (by decide)), ⟨rfl, by rw [e0]; exact ha⟩⟩ ?_
        rw [show (nI a).toNatClampNeg = a from e0]
        refine m_Ce_isMissing0 (by repeat' (first | exact hR | apply OKR.pI | apply OKR.pL | apply OKR.cpI | apply OKR.wI)) (n := n) (by omega) s1 (And.intro (by repeat' (first | exact hR | apply OKR.pI | apply OKR.pL | apply OKR.cpI | apply OKR.wI)) ?_)
        refine And.intro (fun c13 => ?_) (fun c13 => ?_)
        · try dsimp only at c13
          refine And.intro (fun c20 => ?_) (fun c20 => ?_)
          · exact absurd (by rw [← s1]; exact c20) (sz0 z (by omega))
          · try dsimp only at c20
            refine m_Ce_sum (by repeat' (first | exact hR | apply OKR.pI | apply OKR.pL | apply OKR.cpI | apply OKR.wI)) (n := n) (by omega) hl s1 (And.intro (by repeat' (first | exact hR | apply OKR.pI | apply OKR.pL | apply OKR.cpI | apply OKR.wI)) ?_)
            refine And.intro (by rw [s1]; exact szL z (by omega)) ?_
            refine m_X_tell (by repeat' (first | exact hR | apply OKR.pI | apply OKR.pL | apply OKR.cpI | apply OKR.wI)) (And.intro (by repeat' (first | exact hR | apply OKR.pI | apply OKR.pL | apply OKR.cpI | apply OKR.wI)) ?_)
            refine And.intro trivial ?_
            refine w_M_mean (Go.runR (callT_mono MT _) [12] 200 (by repeat' (first | exact hR | apply OKR.pI | apply OKR.pL | apply OKR.cpI | apply OKR.wI)) ?_)
            refine m_M_askedRow2 (by repeat' (first | exact hR | apply OKR.pI | apply OKR.pL | apply OKR.cpI | apply OKR.wI)) (n := n) ha (by omega) (by exact s2) (And.intro (by repeat' (first | exact hR | apply OKR.pI | apply OKR.pL | apply OKR.cpI | apply OKR.wI)) ?_)
            refine And.intro (fun c5 => ?_) (fun c5 => ?_)
            · try dsimp only at c5
              refine go_eq (ls' := [vo 1 0 0, vi (nI a), vi 0, vl (sm (fun k => gI m (1, 3, 0) (40 * a + k)) 0), vu, vi (nI 0)]) rfl rfl (l_M_mean (n := n) hR.pI ha hn (by exact s2) (fun y => absurd y (by omega)) (fun _ => ?_) 0 (by omega))
              rw [s1, es]
              exact h _ _ (R.tell _)
            · first | exact absurd c5 (by decide) | exact absurd (by decide) c5 | (exfalso; grind)
        · first | exact absurd c13 (by decide) | exact absurd (by decide) c13 | (exfalso; grind)
end
section
/-! Written by a program (wip/whole/p31.py): text. -/
theorem istext_in {a : Nat} (ha : a < 4) : 0 ≤ nI a ∧ nI a ≤ 3 := ⟨nI_pos' (by omega), nI_le (b := 3) (by omega) (by decide)⟩
theorem text_of2 {r : Int32} (h : 0 ≤ r ∧ r ≤ 3) : ∃ a, a < 4 ∧ r = nI a := by
  obtain ⟨j, h1, h2⟩ := nI_of2 (M := 3) (n := 3) rfl (Int32.not_lt.mpr h.1) h.2
  exact ⟨j, by omega, h2⟩

theorem l_M_text {d : Nat} {K : Option Vv → Mem → Prop} {a : Nat} {n : Int32} (ha : a < 4) (k : Nat) (m : Mem) (hR : OKR m) (hk : k ≤ 80) (h : K (some (vi n)) (sI m (1, 6, 0) (fun j => if 80 * a + k ≤ j ∧ j < 80 * a + 80 then 32 else gI m (1, 6, 0) j))) : Go (cW d) i_M_text (0, 0) K 21 [vo 1 0 0, vi (nI a), vi n, vi (nI k)] [] m 0 0 := by
  have e1 : (80 : Int32) * nI a + nI k = nI (80 * a + k) := by rw [show (80 : Int32) = nI 80 from rfl, pk_mul, nI_add]
  refine Go.runR (callT_mono MT _) [21] 200 hR ?_
  refine And.intro (fun c23 => ?_) (fun c23 => ?_)
  · try dsimp only at c23
    refine And.intro trivial ?_
    have q : 80 ≤ k := (nI_leI (a := 80) (by omega) (by omega)).mp c23
    rw [sI_self1] at h
    · exact h
    · intro j; rw [if_neg (by omega)]
  · try dsimp only at c23
    have q : k < 80 := by have := mt (nI_leI (a := 80) (b := k) (by omega) (by omega)).mpr c23; omega
    refine And.intro ⟨rfl, rfl, rfl⟩ ?_
    refine And.intro (by dsimp only; rw [e1]; exact vp_nI (N := 320) (by omega) (by decide)) ?_
    refine go_eq (ls' := [vo 1 0 0, vi (nI a), vi n, vi (nI (k + 1))]) (by rw [nI_succ]; rfl) (m' := pI m (1, 6, 0) (80 * a + k) 32) (congrArg (fun z => pI m (1, 6, 0) z 32) (show (80 * nI a + nI k).toNatClampNeg = 80 * a + k by rw [e1, nI_clamp (by omega)])) (l_M_text ha (k + 1) _ hR.pI (by omega) ?_)
    rw [sI_pI1]
    have e : (fun j => if 80 * a + (k + 1) ≤ j ∧ j < 80 * a + 80 then 32 else gI (pI m (1, 6, 0) (80 * a + k) 32) (1, 6, 0) j) = (fun j => if 80 * a + k ≤ j ∧ j < 80 * a + 80 then 32 else gI m (1, 6, 0) j) := by
      funext j
      rw [rd11]
      grind
    rw [e]
    exact h
termination_by 80 - k
decreasing_by omega

theorem m_X_text {d : Nat} {m : Mem} {K : Option Vv → Mem → Prop} (hR : OKR m) {r n : Int32} (hb : ¬ ((0 ≤ r ∧ r ≤ 3) ∧ n ≤ 80) → K (some (vi (-1))) m) (hz : (0 ≤ r ∧ r ≤ 3) → n < 0 → K (some (vi (-3))) (foundM m 5)) (h : ∀ a k, a < 4 → k ≤ 80 → r = nI a → n = nI k → K (some (vi (nI k))) (sI (pI m (0, 1, 6 + a) 1 (nI k)) (0, 2, 6 + a) (fun j => if j < k then 32 else gI m (0, 2, 6 + a) j))) : cW (d + 3) n_X_text [vo 0 0 0, vi r, vi n] m K := by
  refine w_X_text (Go.runR (callT_mono MT _) [] 200 hR ?_)
  refine m_X_isText (by repeat' (first | exact hR | apply OKR.pI | apply OKR.pL | apply OKR.cpI)) (And.intro (by repeat' (first | exact hR | apply OKR.pI | apply OKR.pL | apply OKR.cpI)) ?_)
  refine And.intro (fun c3 => ?_) (fun c3 => ?_)
  · try dsimp only at c3
    refine And.intro trivial ?_
    first | exact hb (by grind) | exact hz (by grind) (by grind) | exact h a k ha hk rfl rfl
  · try dsimp only at c3
    refine And.intro (fun c6 => ?_) (fun c6 => ?_)
    · try dsimp only at c6
      refine And.intro (fun c10 => ?_) (fun c10 => ?_)
      · try dsimp only at c10
        obtain ⟨a, ha, rfl⟩ := text_of2 (r := r) (by grind)
        obtain ⟨k, hk, rfl⟩ := nI_of2 (x := n) (M := 80) (n := 80) rfl (by grind) (by grind)
        have e0 : (nI a).toNatClampNeg = a := nI_clamp (by omega)
        refine And.intro ⟨(by first | decide | assumption | omega), (by first | decide | assumption | omega)⟩ ?_
        refine And.intro ⟨(vp_nI (N := 4) ha (by decide)), ⟨rfl, by rw [e0]; exact ha⟩⟩ ?_
        rw [show (nI a).toNatClampNeg = a from e0]
        refine m_Ce_renew (by repeat' (first | exact hR | apply OKR.pI | apply OKR.pL | apply OKR.cpI | apply OKR.wI)) (by omega) (by rw [show ln (0, 2, 6 + a) = 80 from if_neg (show ¬ 6 + a < 6 by omega)]; exact hk) (And.intro (by repeat' (first | exact hR | apply OKR.pI | apply OKR.pL | apply OKR.cpI | apply OKR.wI)) ?_)
        refine And.intro trivial ?_
        first | exact hb (by grind) | exact hz (by grind) (by grind) | exact h a k ha hk rfl rfl
      · try dsimp only at c10
        refine m_X_found5 (by repeat' (first | exact hR | apply OKR.pI | apply OKR.pL | apply OKR.cpI | apply OKR.wI)) (And.intro (by repeat' (first | exact hR | apply OKR.pI | apply OKR.pL | apply OKR.cpI | apply OKR.wI)) ?_)
        refine And.intro trivial ?_
        first | exact hb (by grind) | exact hz (by grind) (by grind) | exact h a k ha hk rfl rfl
    · try dsimp only at c6
      refine And.intro trivial ?_
      first | exact hb (by grind) | exact hz (by grind) (by grind) | exact h a k ha hk rfl rfl

theorem m_M_text {d : Nat} {m : Mem} {K : Option Vv → Mem → Prop} (hR : OKR m) {r n : Int32} (hb : ¬ ((0 ≤ r ∧ r ≤ 3) ∧ n ≤ 80) → K (some (vi (-1))) m) (hz : (0 ≤ r ∧ r ≤ 3) → n < 0 → K (some (vi (-3))) (meetM m 5)) (h : ∀ a k, a < 4 → k ≤ 80 → r = nI a → n = nI k → K (some (vi (nI k))) (sI (pI m (1, 5, 0) a (nI k)) (1, 6, 0) (fun j => if 80 * a + 0 ≤ j ∧ j < 80 * a + 80 then 32 else gI m (1, 6, 0) j))) : cW (d + 3) n_M_text [vo 1 0 0, vi r, vi n] m K := by
  refine w_M_text (Go.runR (callT_mono MT _) [21] 200 hR ?_)
  refine m_M_isText (by repeat' (first | exact hR | apply OKR.pI | apply OKR.pL | apply OKR.cpI)) (And.intro (by repeat' (first | exact hR | apply OKR.pI | apply OKR.pL | apply OKR.cpI)) ?_)
  refine And.intro (fun c2 => ?_) (fun c2 => ?_)
  · try dsimp only at c2
    refine And.intro trivial ?_
    first | exact hb (by grind) | exact hz (by grind) (by grind) | exact h a k ha hk rfl rfl
  · try dsimp only at c2
    refine And.intro (fun c5 => ?_) (fun c5 => ?_)
    · try dsimp only at c5
      refine And.intro (fun c9 => ?_) (fun c9 => ?_)
      · try dsimp only at c9
        obtain ⟨a, ha, rfl⟩ := text_of2 (r := r) (by grind)
        obtain ⟨k, hk, rfl⟩ := nI_of2 (x := n) (M := 80) (n := 80) rfl (by grind) (by grind)
        have e0 : (nI a).toNatClampNeg = a := nI_clamp (by omega)
        refine And.intro ⟨rfl, rfl, rfl⟩ ?_
        refine And.intro (vp_nI (N := 4) ha (by decide)) ?_
        refine go_eq (ls' := [vo 1 0 0, vi (nI a), vi (nI k), vi (nI 0)]) rfl (congrArg (fun z => pI m (1, 5, 0) z (nI k)) e0) (l_M_text ha 0 _ hR.pI (by omega) ?_)
        exact h a k ha hk rfl rfl
      · try dsimp only at c9
        refine m_M_meet5 (by repeat' (first | exact hR | apply OKR.pI | apply OKR.pL | apply OKR.cpI | apply OKR.wI)) (And.intro (by repeat' (first | exact hR | apply OKR.pI | apply OKR.pL | apply OKR.cpI | apply OKR.wI)) ?_)
        refine And.intro trivial ?_
        first | exact hb (by grind) | exact hz (by grind) (by grind) | exact h a k ha hk rfl rfl
    · try dsimp only at c5
      refine And.intro trivial ?_
      first | exact hb (by grind) | exact hz (by grind) (by grind) | exact h a k ha hk rfl rfl

theorem RelAB.text {m : Mem} (R : RelAB m) {a k : Nat} (ha : a < 4) (hk : k ≤ 80) {f g : Nat → Int32} (hf : ∀ j, j < k → f j = g (80 * a + j)) (hg : ∀ b j, b < 4 → b ≠ a → j < 80 → g (80 * b + j) = gI m (1, 6, 0) (80 * b + j)) : RelAB (sI (pI (sI (pI m (0, 1, 6 + a) 1 (nI k)) (0, 2, 6 + a) f) (1, 5, 0) a (nI k)) (1, 6, 0) g) := by
  refine R.cells R.1.pI.wI.pI.wI ?_ ?_ (fun t i q h1 h2 => ?_) (fun t i q h1 h2 h3 h4 h5 => ?_) (fun o q => by rw [gL_sI, gL_pI, gL_sI, gL_pI]) (fun o q => by rw [gR_sI, gR_pI, gR_sI, gR_pI])
  · refine RowsR.cg (m := m) (fun r hr => ?_) (fun r j hr => ?_) (fun j => rfl) (fun j => rfl) R.2.1
    · rw [sI10, rd10, sI00, rd00, if_neg (by omega), if_neg (by omega)]
    · rw [sI10, rd10, sI00, rd00, if_neg (by omega), if_neg (by omega)]
  · intro r hr
    have e1 : gI (sI (pI (sI (pI m (0, 1, 6 + a) 1 (nI k)) (0, 2, 6 + a) f) (1, 5, 0) a (nI k)) (1, 6, 0) g) (0, 1, 6 + r) 1 = if r = a then nI k else gI m (0, 1, 6 + r) 1 := by
      rw [sI10, rd10, sI00, rd00]; simp
    have e2 : gI (sI (pI (sI (pI m (0, 1, 6 + a) 1 (nI k)) (0, 2, 6 + a) f) (1, 5, 0) a (nI k)) (1, 6, 0) g) (1, 5, 0) r = if r = a then nI k else gI m (1, 5, 0) r := by
      rw [sI11, rd11, sI01, rd01]; simp
    have e3 : ∀ j, gI (sI (pI (sI (pI m (0, 1, 6 + a) 1 (nI k)) (0, 2, 6 + a) f) (1, 5, 0) a (nI k)) (1, 6, 0) g) (0, 2, 6 + r) j = if r = a then f j else gI m (0, 2, 6 + r) j := fun j => by
      rw [sI10, rd10, sI00, rd00]; simp
    have e4 : ∀ j, gI (sI (pI (sI (pI m (0, 1, 6 + a) 1 (nI k)) (0, 2, 6 + a) f) (1, 5, 0) a (nI k)) (1, 6, 0) g) (1, 6, 0) j = g j := fun j => by
      rw [sI11]; simp
    rw [e1, e2]
    simp only [e3, e4]
    by_cases h : r = a
    · subst h
      simp only [if_true]
      exact Or.inr ⟨k, hk, rfl, rfl, hf⟩
    · simp only [if_neg h]
      rcases R.2.2.1 r hr with q | ⟨n, q1, q2, q3, q4⟩
      · exact Or.inl q
      · exact Or.inr ⟨n, q1, q2, q3, fun j hj => by rw [hg r j hr h (by omega)]; exact q4 j hj⟩
  · rw [sI10, rd10, sI00, rd00, if_neg (by omega), if_neg (by omega)]
  · rw [sI11, rd11, sI01, rd01, if_neg (by omega), if_neg (by omega)]
theorem p_text {d : Nat} {m : Mem} {K : Option Vv → Option Vv → Mem → Prop} (R : RelAB m) {r n : Int32} (h : ∀ v m', RelAB m' → K v v m') : cW (d + 3) n_X_text [vo 0 0 0, vi r, vi n] m (fun v m1 => cW (d + 3) n_M_text [vo 1 0 0, vi r, vi n] m1 (fun w m2 => K v w m2)) := by
  have hok := R.1
  have bad : ∀ b k : Nat, b < 4 → k ≤ 80 → r = nI b → n = nI k → ((0 ≤ r ∧ r ≤ 3) ∧ n ≤ 80) ∧ ¬ n < 0 := fun b k hb hk e1 e2 => by
    subst e1; subst e2
    exact ⟨⟨istext_in hb, nI_le (b := 80) hk (by decide)⟩, nI_pos (by omega)⟩
  have neg : n < 0 → n ≤ 80 := fun q => by grind
  refine m_X_text hok (fun q => ?_) (fun q z => ?_) (fun a k ha hk e1 e2 => ?_)
  · exact m_M_text hok (fun _ => h _ _ R) (fun q2 z => absurd ⟨q2, neg z⟩ q) (fun b k hb hk e1 e2 => absurd (bad b k hb hk e1 e2).1 q)
  · exact m_M_text hok.pI.pI (fun q2 => absurd ⟨q, neg z⟩ q2) (fun _ _ => h _ _ (R.meet (by omega) (by omega))) (fun b k hb hk e1 e2 => absurd z (bad b k hb hk e1 e2).2)
  · refine m_M_text hok.pI.wI (fun q2 => absurd (bad a k ha hk e1 e2).1 q2) (fun _ z => absurd z (bad a k ha hk e1 e2).2) (fun b l hb hl e3 e4 => ?_)
    obtain rfl := nI_in1 (by omega) (by omega) (e1.symm.trans e3)
    obtain rfl := nI_in1 (by omega) (by omega) (e2.symm.trans e4)
    refine h _ _ (R.text ha hk (fun j hj => ?_) (fun b j hb hn hj => ?_))
    · rw [if_pos hj, if_pos (by omega)]
    · rw [if_neg (by omega)]
      rfl
end
section
/-! Written by a program (wip/whole/p32.py): texts, case by case; put. -/
theorem RelAB.textCase {m : Mem} (R : RelAB m) (r : Int32) : ¬ (0 ≤ r ∧ r ≤ 3) ∨ (∃ a, a < 4 ∧ r = nI a ∧ gI m (0, 1, 6 + a) 1 = -1 ∧ gI m (1, 5, 0) a = -9) ∨ ∃ a n, a < 4 ∧ r = nI a ∧ n ≤ 80 ∧ gI m (0, 1, 6 + a) 1 = nI n ∧ gI m (1, 5, 0) a = nI n ∧ ∀ k, k < n → gI m (0, 2, 6 + a) k = gI m (1, 6, 0) (80 * a + k) := by
  by_cases h : 0 ≤ r ∧ r ≤ 3
  · obtain ⟨a, ha, rfl⟩ := text_of2 h
    rcases R.2.2.1 a ha with q | ⟨n, q⟩
    · exact Or.inr (Or.inl ⟨a, ha, rfl, q.1, q.2⟩)
    · exact Or.inr (Or.inr ⟨a, n, ha, rfl, q⟩)
  · exact Or.inl h
theorem m_X_isText1 {d : Nat} {m : Mem} {K : Option Vv → Mem → Prop} (hR : OKR m) {a : Nat} (ha : a < 4) (h : K (some (vi 1)) m) : cW (d + 1) n_X_isText [vo 0 0 0, vi (nI a)] m K := m_X_isText hR (kvi (if_pos (istext_in ha)) h)
theorem m_X_isText0 {d : Nat} {m : Mem} {K : Option Vv → Mem → Prop} (hR : OKR m) {r : Int32} (q : ¬ (0 ≤ r ∧ r ≤ 3)) (h : K (some (vi 0)) m) : cW (d + 1) n_X_isText [vo 0 0 0, vi r] m K := m_X_isText hR (kvi (if_neg q) h)
theorem fa4 : nI 4 = 4 := rfl

theorem m_M_askedText {d : Nat} {m : Mem} {K : Option Vv → Mem → Prop} (hR : OKR m) {r : Int32} (hb : ¬ (0 ≤ r ∧ r ≤ 3) → K (some (vi (-1))) m) (hm : (0 ≤ r ∧ r ≤ 3) → gI m (1, 5, 0) r.toNatClampNeg < 0 → K (some (vi (-3))) (meetM m 1)) (h : (0 ≤ r ∧ r ≤ 3) → 0 ≤ gI m (1, 5, 0) r.toNatClampNeg → K (some (vi 0)) m) : cW (d + 3) n_M_askedText [vo 1 0 0, vi r] m K := by
  refine w_M_askedText (Go.runR (callT_mono MT _) [] 200 hR ?_)
  refine m_M_isText (by repeat' (first | exact hR | apply OKR.pI | apply OKR.pL | apply OKR.cpI)) (And.intro (by repeat' (first | exact hR | apply OKR.pI | apply OKR.pL | apply OKR.cpI)) ?_)
  refine And.intro (fun c2 => ?_) (fun c2 => ?_)
  · try dsimp only at c2
    refine And.intro trivial ?_
    first | exact hb (by grind) | exact hm (by grind) (by grind) | exact h (by grind) (by grind)
  · try dsimp only at c2
    refine And.intro ⟨rfl, rfl, rfl⟩ ?_
    refine And.intro (vp_lt (N := 4) (by grind) (by grind [fa4]) (by decide)) ?_
    refine And.intro (fun c9 => ?_) (fun c9 => ?_)
    · try dsimp only at c9
      refine And.intro trivial ?_
      first | exact hb (by grind) | exact hm (by grind) (by grind) | exact h (by grind) (by grind)
    · try dsimp only at c9
      refine m_M_meet1 (by repeat' (first | exact hR | apply OKR.pI | apply OKR.pL | apply OKR.cpI | apply OKR.wI)) (And.intro (by repeat' (first | exact hR | apply OKR.pI | apply OKR.pL | apply OKR.cpI | apply OKR.wI)) ?_)
      refine And.intro trivial ?_
      first | exact hb (by grind) | exact hm (by grind) (by grind) | exact h (by grind) (by grind)

theorem m_M_askedText0 {d : Nat} {m : Mem} {K : Option Vv → Mem → Prop} (hR : OKR m) {r : Int32} (q : ¬ (0 ≤ r ∧ r ≤ 3)) (h : K (some (vi (-1))) m) : cW (d + 3) n_M_askedText [vo 1 0 0, vi r] m K := m_M_askedText hR (fun _ => h) (fun z _ => absurd z q) (fun z _ => absurd z q)
theorem m_M_askedText1 {d : Nat} {m : Mem} {K : Option Vv → Mem → Prop} (hR : OKR m) {a : Nat} (ha : a < 4) (q : gI m (1, 5, 0) a = -9) (h : K (some (vi (-3))) (meetM m 1)) : cW (d + 3) n_M_askedText [vo 1 0 0, vi (nI a)] m K := m_M_askedText hR (fun z => absurd (istext_in ha) z) (fun _ _ => h) (fun _ z => by rw [nI_clamp (by omega), q] at z; exact absurd z (by decide))
theorem m_M_askedText2 {d : Nat} {m : Mem} {K : Option Vv → Mem → Prop} (hR : OKR m) {a n : Nat} (ha : a < 4) (hn : n ≤ 80) (q : gI m (1, 5, 0) a = nI n) (h : K (some (vi 0)) m) : cW (d + 3) n_M_askedText [vo 1 0 0, vi (nI a)] m K := m_M_askedText hR (fun z => absurd (istext_in ha) z) (fun _ z => by rw [nI_clamp (by omega), q] at z; exact absurd z (szneg hn).1) (fun _ _ => h)
theorem sub1_in {i : Int32} {n : Nat} (hn : n ≤ 80) : (0 ≤ i ∧ i ≤ nI n - 1) ↔ (0 ≤ i ∧ i < nI n) := by
  have h0 := nI_pos' (n := n) (by omega)
  grind
theorem RelAB.put {m : Mem} (R : RelAB m) {a n j : Nat} {v : Int32} (ha : a < 4) (hn : n ≤ 80) (hj : j < n) (s : gI m (0, 1, 6 + a) 1 = nI n) : RelAB (pI (pI m (0, 2, 6 + a) j v) (1, 6, 0) (80 * a + j) v) := by
  refine R.cells R.1.pI.pI ?_ ?_ (fun t i q h1 h2 => ?_) (fun t i q h1 h2 h3 h4 h5 => ?_) (fun o q => by rw [gL_pI, gL_pI]) (fun o q => by rw [gR_pI, gR_pI])
  · refine RowsR.cg (m := m) (fun r _ => rfl) (fun r k hr => ?_) (fun k => rfl) (fun k => rfl) R.2.1
    rw [rd10, rd00, if_neg (by omega)]
  · intro r hr
    have e3 : ∀ k, gI (pI (pI m (0, 2, 6 + a) j v) (1, 6, 0) (80 * a + j) v) (0, 2, 6 + r) k = if r = a ∧ k = j then v else gI m (0, 2, 6 + r) k := fun k => by rw [rd10, rd00]; simp
    have e4 : ∀ k, gI (pI (pI m (0, 2, 6 + a) j v) (1, 6, 0) (80 * a + j) v) (1, 6, 0) k = if k = 80 * a + j then v else gI m (1, 6, 0) k := fun k => by rw [rd11, rd01]; simp
    rcases R.2.2.1 r hr with q | ⟨l, q1, q2, q3, q4⟩
    · exact Or.inl q
    · refine Or.inr ⟨l, q1, q2, q3, fun k hk => ?_⟩
      rw [e3, e4, q4 k hk]
      by_cases h : r = a ∧ k = j
      · rw [if_pos h, if_pos (by omega)]
      · rw [if_neg h, if_neg (by omega)]
  · rw [rd10, rd00, if_neg (by omega)]
  · rw [rd11, rd01, if_neg (by omega)]

theorem p_put {d : Nat} {m : Mem} {K : Option Vv → Option Vv → Mem → Prop} (R : RelAB m) {r i v : Int32} (h : ∀ v m', RelAB m' → K v v m') : cW (d + 5) n_X_put [vo 0 0 0, vi r, vi i, vi v] m (fun v' m1 => cW (d + 5) n_M_put [vo 1 0 0, vi r, vi i, vi v] m1 (fun w m2 => K v' w m2)) := by
  have hR := R.1
  rcases R.textCase r with q | ⟨a, ha, rfl, s1, s2⟩ | ⟨a, n, ha, rfl, hn, s1, s2, s3⟩
  · refine w_X_put (Go.runR (callT_mono MT _) [] 200 (by repeat' (first | exact hR | apply OKR.pI | apply OKR.pL | apply OKR.cpI | apply OKR.wI)) ?_)
    refine m_X_isText0 (by repeat' (first | exact hR | apply OKR.pI | apply OKR.pL | apply OKR.cpI | apply OKR.wI)) q (And.intro (by repeat' (first | exact hR | apply OKR.pI | apply OKR.pL | apply OKR.cpI | apply OKR.wI)) ?_)
    refine And.intro (fun c3 => ?_) (fun c3 => ?_)
    · try dsimp only at c3
      refine And.intro trivial ?_
      refine w_M_put (Go.runR (callT_mono MT _) [] 200 (by repeat' (first | exact hR | apply OKR.pI | apply OKR.pL | apply OKR.cpI | apply OKR.wI)) ?_)
      refine m_M_askedText0 (by repeat' (first | exact hR | apply OKR.pI | apply OKR.pL | apply OKR.cpI | apply OKR.wI)) q (And.intro (by repeat' (first | exact hR | apply OKR.pI | apply OKR.pL | apply OKR.cpI | apply OKR.wI)) ?_)
      refine And.intro (fun c5 => ?_) (fun c5 => ?_)
      · first | exact absurd c5 (by decide) | exact absurd (by decide) c5 | (exfalso; grind)
      · try dsimp only at c5
        refine And.intro trivial ?_
        exact h _ _ R
    · first | exact absurd c3 (by decide) | exact absurd (by decide) c3 | (exfalso; grind)
  · have e0 : (nI a).toNatClampNeg = a := nI_clamp (by omega)
    refine w_X_put (Go.runR (callT_mono MT _) [] 200 (by repeat' (first | exact hR | apply OKR.pI | apply OKR.pL | apply OKR.cpI | apply OKR.wI)) ?_)
    refine m_X_isText1 (by repeat' (first | exact hR | apply OKR.pI | apply OKR.pL | apply OKR.cpI | apply OKR.wI)) ha (And.intro (by repeat' (first | exact hR | apply OKR.pI | apply OKR.pL | apply OKR.cpI | apply OKR.wI)) ?_)
    refine And.intro (fun c3 => ?_) (fun c3 => ?_)
    · first | exact absurd c3 (by decide) | exact absurd (by decide) c3 | (exfalso; grind)
    · try dsimp only at c3
      refine And.intro ⟨(by first | decide | assumption | omega), (by first | decide | assumption | omega)⟩ ?_
      refine And.intro ⟨(vp_nI (N := 4) ha (by decide)), ⟨rfl, by rw [e0]; exact ha⟩⟩ ?_
      rw [show (nI a).toNatClampNeg = a from e0]
      refine m_X_refusal1 (by repeat' (first | exact hR | apply OKR.pI | apply OKR.pL | apply OKR.cpI | apply OKR.wI)) s1 (And.intro (by repeat' (first | exact hR | apply OKR.pI | apply OKR.pL | apply OKR.cpI | apply OKR.wI)) ?_)
      refine And.intro (fun c15 => ?_) (fun c15 => ?_)
      · first | exact absurd c15 (by decide) | exact absurd (by decide) c15 | (exfalso; grind)
      · try dsimp only at c15
        refine And.intro trivial ?_
        refine w_M_put (Go.runR (callT_mono MT _) [] 200 (by repeat' (first | exact hR | apply OKR.pI | apply OKR.pL | apply OKR.cpI | apply OKR.wI)) ?_)
        refine m_M_askedText1 (by repeat' (first | exact hR | apply OKR.pI | apply OKR.pL | apply OKR.cpI | apply OKR.wI)) ha (by exact s2) (And.intro (by repeat' (first | exact hR | apply OKR.pI | apply OKR.pL | apply OKR.cpI | apply OKR.wI)) ?_)
        refine And.intro (fun c5 => ?_) (fun c5 => ?_)
        · first | exact absurd c5 (by decide) | exact absurd (by decide) c5 | (exfalso; grind)
        · try dsimp only at c5
          refine And.intro trivial ?_
          exact h _ _ (R.meet (by omega) (by omega))
  · have e0 : (nI a).toNatClampNeg = a := nI_clamp (by omega)
    have hl : n ≤ ln (0, 2, 6 + a) := by rw [show ln (0, 2, 6 + a) = 80 from if_neg (show ¬ 6 + a < 6 by omega)]; exact hn
    rcases RelAB.placeCase (n := n) (by omega) i with q | ⟨j, hj, rfl⟩
    · refine w_X_put (Go.runR (callT_mono MT _) [] 200 (by repeat' (first | exact hR | apply OKR.pI | apply OKR.pL | apply OKR.cpI | apply OKR.wI)) ?_)
      refine m_X_isText1 (by repeat' (first | exact hR | apply OKR.pI | apply OKR.pL | apply OKR.cpI | apply OKR.wI)) ha (And.intro (by repeat' (first | exact hR | apply OKR.pI | apply OKR.pL | apply OKR.cpI | apply OKR.wI)) ?_)
      refine And.intro (fun c3 => ?_) (fun c3 => ?_)
      · first | exact absurd c3 (by decide) | exact absurd (by decide) c3 | (exfalso; grind)
      · try dsimp only at c3
        refine And.intro ⟨(by first | decide | assumption | omega), (by first | decide | assumption | omega)⟩ ?_
        refine And.intro ⟨(vp_nI (N := 4) ha (by decide)), ⟨rfl, by rw [e0]; exact ha⟩⟩ ?_
        rw [show (nI a).toNatClampNeg = a from e0]
        refine m_X_refusal2 (by repeat' (first | exact hR | apply OKR.pI | apply OKR.pL | apply OKR.cpI | apply OKR.wI)) (n := n) (by omega) s1 q (And.intro (by repeat' (first | exact hR | apply OKR.pI | apply OKR.pL | apply OKR.cpI | apply OKR.wI)) ?_)
        refine And.intro (fun c15 => ?_) (fun c15 => ?_)
        · first | exact absurd c15 (by decide) | exact absurd (by decide) c15 | (exfalso; grind)
        · try dsimp only at c15
          refine And.intro trivial ?_
          refine w_M_put (Go.runR (callT_mono MT _) [] 200 (by repeat' (first | exact hR | apply OKR.pI | apply OKR.pL | apply OKR.cpI | apply OKR.wI)) ?_)
          refine m_M_askedText2 (by repeat' (first | exact hR | apply OKR.pI | apply OKR.pL | apply OKR.cpI | apply OKR.wI)) (n := n) ha hn (by exact s2) (And.intro (by repeat' (first | exact hR | apply OKR.pI | apply OKR.pL | apply OKR.cpI | apply OKR.wI)) ?_)
          refine And.intro (fun c5 => ?_) (fun c5 => ?_)
          · try dsimp only at c5
            refine And.intro ⟨rfl, rfl, rfl⟩ ?_
            refine And.intro (vp_nI (N := 4) ha (by decide)) ?_
            refine m_M_in (by repeat' (first | exact hR | apply OKR.pI | apply OKR.pL | apply OKR.cpI | apply OKR.wI)) (And.intro (by repeat' (first | exact hR | apply OKR.pI | apply OKR.pL | apply OKR.cpI | apply OKR.wI)) ?_)
            rw [show b2 (0 ≤ i ∧ i ≤ gI (foundM m 2) (1, 5, 0) (nI a).toNatClampNeg - 1) = 0 from if_neg (by rw [e0, show gI (foundM m 2) (1, 5, 0) a = nI n from s2, sub1_in (by omega)]; exact q)]
            refine And.intro (fun c17 => ?_) (fun c17 => ?_)
            · try dsimp only at c17
              refine m_M_meet2 (by repeat' (first | exact hR | apply OKR.pI | apply OKR.pL | apply OKR.cpI | apply OKR.wI))  (And.intro (by repeat' (first | exact hR | apply OKR.pI | apply OKR.pL | apply OKR.cpI | apply OKR.wI)) ?_)
              refine And.intro trivial ?_
              exact h _ _ (R.meet (by omega) (by omega))
            · first | exact absurd c17 (by decide) | exact absurd (by decide) c17 | (exfalso; grind)
          · first | exact absurd c5 (by decide) | exact absurd (by decide) c5 | (exfalso; grind)
    · have e1 : (80 : Int32) * nI a + nI j = nI (80 * a + j) := by rw [show (80 : Int32) = nI 80 from rfl, pk_mul, nI_add]
      refine w_X_put (Go.runR (callT_mono MT _) [] 200 (by repeat' (first | exact hR | apply OKR.pI | apply OKR.pL | apply OKR.cpI | apply OKR.wI)) ?_)
      refine m_X_isText1 (by repeat' (first | exact hR | apply OKR.pI | apply OKR.pL | apply OKR.cpI | apply OKR.wI)) ha (And.intro (by repeat' (first | exact hR | apply OKR.pI | apply OKR.pL | apply OKR.cpI | apply OKR.wI)) ?_)
      refine And.intro (fun c3 => ?_) (fun c3 => ?_)
      · first | exact absurd c3 (by decide) | exact absurd (by decide) c3 | (exfalso; grind)
      · try dsimp only at c3
        refine And.intro ⟨(by first | decide | assumption | omega), (by first | decide | assumption | omega)⟩ ?_
        refine And.intro ⟨(vp_nI (N := 4) ha (by decide)), ⟨rfl, by rw [e0]; exact ha⟩⟩ ?_
        rw [show (nI a).toNatClampNeg = a from e0]
        refine m_X_refusal0 (by repeat' (first | exact hR | apply OKR.pI | apply OKR.pL | apply OKR.cpI | apply OKR.wI)) (n := n) (by omega) s1 hj (And.intro (by repeat' (first | exact hR | apply OKR.pI | apply OKR.pL | apply OKR.cpI | apply OKR.wI)) ?_)
        refine And.intro (fun c15 => ?_) (fun c15 => ?_)
        · try dsimp only at c15
          refine And.intro ⟨(by first | decide | assumption | omega), (by first | decide | assumption | omega)⟩ ?_
          refine And.intro ⟨(vp_nI (N := 4) ha (by decide)), ⟨rfl, by rw [e0]; exact ha⟩⟩ ?_
          rw [show (nI a).toNatClampNeg = a from e0]
          refine m_Ce_get1 (by repeat' (first | exact hR | apply OKR.pI | apply OKR.pL | apply OKR.cpI | apply OKR.wI)) (n := n) (by omega) hl s1 hj (And.intro (by repeat' (first | exact hR | apply OKR.pI | apply OKR.pL | apply OKR.cpI | apply OKR.wI)) ?_)
          refine And.intro ⟨(by first | decide | assumption | omega), (by first | decide | assumption | omega)⟩ ?_
          refine And.intro ⟨(vp_nI (N := 4) ha (by decide)), ⟨rfl, by rw [e0]; exact ha⟩⟩ ?_
          rw [show (nI a).toNatClampNeg = a from e0]
          refine m_Ce_set1 (by repeat' (first | exact hR | apply OKR.pI | apply OKR.pL | apply OKR.cpI | apply OKR.wI)) (n := n) (by omega) hl (by exact s1) hj (And.intro (by repeat' (first | exact hR | apply OKR.pI | apply OKR.pL | apply OKR.cpI | apply OKR.wI)) ?_)
          refine And.intro trivial ?_
          refine w_M_put (Go.runR (callT_mono MT _) [] 200 (by repeat' (first | exact hR | apply OKR.pI | apply OKR.pL | apply OKR.cpI | apply OKR.wI)) ?_)
          refine m_M_askedText2 (by repeat' (first | exact hR | apply OKR.pI | apply OKR.pL | apply OKR.cpI | apply OKR.wI)) (n := n) ha hn (by exact s2) (And.intro (by repeat' (first | exact hR | apply OKR.pI | apply OKR.pL | apply OKR.cpI | apply OKR.wI)) ?_)
          refine And.intro (fun c5 => ?_) (fun c5 => ?_)
          · try dsimp only at c5
            refine And.intro ⟨rfl, rfl, rfl⟩ ?_
            refine And.intro (vp_nI (N := 4) ha (by decide)) ?_
            refine m_M_in (by repeat' (first | exact hR | apply OKR.pI | apply OKR.pL | apply OKR.cpI | apply OKR.wI)) (And.intro (by repeat' (first | exact hR | apply OKR.pI | apply OKR.pL | apply OKR.cpI | apply OKR.wI)) ?_)
            rw [show b2 (0 ≤ nI j ∧ nI j ≤ gI (pI m (0, 2, 6 + a) j v.toInt8.toInt32) (1, 5, 0) (nI a).toNatClampNeg - 1) = 1 from if_pos (by rw [e0, show gI (pI m (0, 2, 6 + a) j v.toInt8.toInt32) (1, 5, 0) a = nI n from s2, sub1_in (by omega)]; exact place_in hj (by omega))]
            refine And.intro (fun c17 => ?_) (fun c17 => ?_)
            · first | exact absurd c17 (by decide) | exact absurd (by decide) c17 | (exfalso; grind)
            · try dsimp only at c17
              refine And.intro ⟨rfl, rfl, rfl⟩ ?_
              refine And.intro (by dsimp only; rw [e1]; exact vp_nI (N := 320) (by omega) (by decide)) ?_
              refine And.intro ⟨rfl, rfl, rfl⟩ ?_
              refine And.intro (by dsimp only; rw [e1]; exact vp_nI (N := 320) (by omega) (by decide)) ?_
              refine And.intro trivial ?_
              dsimp only
              rw [e1, nI_clamp (by omega)]
              rw [show gI (pI m (0, 2, 6 + a) j v.toInt8.toInt32) (1, 6, 0) (80 * a + j) = gI m (0, 2, 6 + a) j from (s3 j hj).symm]
              exact h _ _ (R.put ha hn hj s1)
          · first | exact absurd c5 (by decide) | exact absurd (by decide) c5 | (exfalso; grind)
        · first | exact absurd c15 (by decide) | exact absurd (by decide) c15 | (exfalso; grind)
end
section
/-! Written by a program (wip/whole/p33.py): asked, upper, lower, finding, findings, jar. -/
theorem CurR.jar {n : Nat} {m : Mem} (H : CurR n m) : gI m (0, 5, 0) 7 = gI m (1, 0, 0) 21 ∧ gI m (0, 5, 0) 8 = gI m (1, 0, 0) 22 := by
  obtain ⟨h8, hm, h0, h1⟩ := H
  rcases Nat.eq_zero_or_pos n with z | z
  · obtain ⟨-, -, -, a, b, c, d, -⟩ := h0 z
    exact ⟨a.trans b.symm, c.trans d.symm⟩
  · obtain ⟨-, ⟨H, -, -, -, -, -, ⟨a, -⟩, b, -⟩, -⟩ := h1 z
    exact ⟨a, b⟩

theorem p_asked {d : Nat} {m : Mem} {K : Option Vv → Option Vv → Mem → Prop} (R : RelAB m) (h : ∀ v m', RelAB m' → K v v m') : cW (d + 1) n_X_asked [vo 0 0 0] m (fun v m1 => cW (d + 1) n_M_asked [vo 1 0 0] m1 (fun w m2 => K v w m2)) := by
  have hR := R.1
  obtain ⟨n, hc⟩ := R.2.2.2.2
  have ht := R.2.2.2.1
  refine w_X_asked (Go.runR (callT_mono MT _) [] 200 (by repeat' (first | exact hR | apply OKR.pI | apply OKR.pL | apply OKR.cpI | apply OKR.wI)) ?_)
  refine And.intro trivial ?_
  refine w_M_asked (Go.runR (callT_mono MT _) [] 200 (by repeat' (first | exact hR | apply OKR.pI | apply OKR.pL | apply OKR.cpI | apply OKR.wI)) ?_)
  refine And.intro trivial ?_
  rw [show gI m (0, 0, 0) 8 = gI m (1, 0, 0) 2 from ht.2.1]
  exact h _ _ R

theorem p_finding {d : Nat} {m : Mem} {K : Option Vv → Option Vv → Mem → Prop} (R : RelAB m) (h : ∀ v m', RelAB m' → K v v m') : cW (d + 1) n_X_finding [vo 0 0 0] m (fun v m1 => cW (d + 1) n_M_finding [vo 1 0 0] m1 (fun w m2 => K v w m2)) := by
  have hR := R.1
  obtain ⟨n, hc⟩ := R.2.2.2.2
  have ht := R.2.2.2.1
  refine w_X_finding (Go.runR (callT_mono MT _) [] 200 (by repeat' (first | exact hR | apply OKR.pI | apply OKR.pL | apply OKR.cpI | apply OKR.wI)) ?_)
  refine And.intro trivial ?_
  refine w_M_finding (Go.runR (callT_mono MT _) [] 200 (by repeat' (first | exact hR | apply OKR.pI | apply OKR.pL | apply OKR.cpI | apply OKR.wI)) ?_)
  refine And.intro trivial ?_
  rw [show gI m (0, 0, 0) 7 = gI m (1, 0, 0) 0 from ht.1]
  exact h _ _ R

theorem p_upper {d : Nat} {m : Mem} {K : Option Vv → Option Vv → Mem → Prop} (R : RelAB m) (h : ∀ v m', RelAB m' → K v v m') : cW (d + 1) n_X_upper [vo 0 0 0] m (fun v m1 => cW (d + 1) n_M_upper [vo 1 0 0] m1 (fun w m2 => K v w m2)) := by
  have hR := R.1
  obtain ⟨n, hc⟩ := R.2.2.2.2
  have ht := R.2.2.2.1
  refine w_X_upper (Go.runR (callT_mono MT _) [] 200 (by repeat' (first | exact hR | apply OKR.pI | apply OKR.pL | apply OKR.cpI | apply OKR.wI)) ?_)
  refine And.intro ⟨(by first | decide | assumption | omega), (by first | decide | assumption | omega)⟩ ?_
  refine And.intro trivial ?_
  refine w_M_upper (Go.runR (callT_mono MT _) [] 200 (by repeat' (first | exact hR | apply OKR.pI | apply OKR.pL | apply OKR.cpI | apply OKR.wI)) ?_)
  refine And.intro trivial ?_
  rw [show gL m (0, 18, 0) 0 = gL m (1, 0, 0) 3 from ht.2.2.2.1]
  exact h _ _ R

theorem p_lower {d : Nat} {m : Mem} {K : Option Vv → Option Vv → Mem → Prop} (R : RelAB m) (h : ∀ v m', RelAB m' → K v v m') : cW (d + 1) n_X_lower [vo 0 0 0] m (fun v m1 => cW (d + 1) n_M_lower [vo 1 0 0] m1 (fun w m2 => K v w m2)) := by
  have hR := R.1
  obtain ⟨n, hc⟩ := R.2.2.2.2
  have ht := R.2.2.2.1
  refine w_X_lower (Go.runR (callT_mono MT _) [] 200 (by repeat' (first | exact hR | apply OKR.pI | apply OKR.pL | apply OKR.cpI | apply OKR.wI)) ?_)
  refine And.intro ⟨(by first | decide | assumption | omega), (by first | decide | assumption | omega)⟩ ?_
  refine And.intro trivial ?_
  refine w_M_lower (Go.runR (callT_mono MT _) [] 200 (by repeat' (first | exact hR | apply OKR.pI | apply OKR.pL | apply OKR.cpI | apply OKR.wI)) ?_)
  refine And.intro trivial ?_
  rw [show gL m (0, 18, 0) 1 = gL m (1, 0, 0) 4 from ht.2.2.2.2]
  exact h _ _ R

theorem p_jar {d : Nat} {m : Mem} {K : Option Vv → Option Vv → Mem → Prop} (R : RelAB m) (h : ∀ v m', RelAB m' → K v v m') : cW (d + 2) n_X_jar [vo 0 0 0] m (fun v m1 => cW (d + 2) n_M_jar [vo 1 0 0] m1 (fun w m2 => K v w m2)) := by
  have hR := R.1
  obtain ⟨n, hc⟩ := R.2.2.2.2
  have ht := R.2.2.2.1
  refine w_X_jar (Go.runR (callT_mono MT _) [] 200 (by repeat' (first | exact hR | apply OKR.pI | apply OKR.pL | apply OKR.cpI | apply OKR.wI)) ?_)
  refine And.intro ⟨(by first | decide | assumption | omega), (by first | decide | assumption | omega)⟩ ?_
  refine And.intro ⟨(by first | decide | assumption | omega), (by first | decide | assumption | omega)⟩ ?_
  refine m_X_tell (by repeat' (first | exact hR | apply OKR.pI | apply OKR.pL | apply OKR.cpI | apply OKR.wI))  (And.intro (by repeat' (first | exact hR | apply OKR.pI | apply OKR.pL | apply OKR.cpI | apply OKR.wI)) ?_)
  refine And.intro trivial ?_
  refine w_M_jar (Go.runR (callT_mono MT _) [] 200 (by repeat' (first | exact hR | apply OKR.pI | apply OKR.pL | apply OKR.cpI | apply OKR.wI)) ?_)
  refine m_M_ask (by repeat' (first | exact hR | apply OKR.pI | apply OKR.pL | apply OKR.cpI | apply OKR.wI))  (And.intro (by repeat' (first | exact hR | apply OKR.pI | apply OKR.pL | apply OKR.cpI | apply OKR.wI)) ?_)
  refine And.intro trivial ?_
  show K (some (vi (gI m (0, 5, 0) 7))) (some (vi (gI m (1, 0, 0) 21))) (askM (tellM m (gI m (0, 5, 0) 8)) (gI m (1, 0, 0) 22))
  rw [hc.jar.1, hc.jar.2]
  exact h _ _ (R.tell _)

theorem p_findings {d : Nat} {m : Mem} {K : Option Vv → Option Vv → Mem → Prop} (R : RelAB m) {f : Int32} (h : ∀ v m', RelAB m' → K v v m') : cW (d + 2) n_X_findings [vo 0 0 0, vi f] m (fun v m1 => cW (d + 2) n_M_findings [vo 1 0 0, vi f] m1 (fun w m2 => K v w m2)) := by
  have hR := R.1
  obtain ⟨n, hc⟩ := R.2.2.2.2
  have ht := R.2.2.2.1
  by_cases q : 1 ≤ f ∧ f ≤ 5
  · obtain ⟨a, ha, rfl⟩ : ∃ a, a ≤ 5 ∧ f = nI a := nI_of2 (M := 5) (n := 5) rfl (by grind) q.2
    have e0 : (nI a).toNatClampNeg = a := nI_clamp (by omega)
    have h1 : 1 ≤ a := (nI_leI (a := 1) (by omega) (by omega)).mp q.1
    refine w_X_findings (Go.runR (callT_mono MT _) [] 200 (by repeat' (first | exact hR | apply OKR.pI | apply OKR.pL | apply OKR.cpI | apply OKR.wI)) ?_)
    refine m_X_isWithin (by repeat' (first | exact hR | apply OKR.pI | apply OKR.pL | apply OKR.cpI | apply OKR.wI)) (And.intro (by repeat' (first | exact hR | apply OKR.pI | apply OKR.pL | apply OKR.cpI | apply OKR.wI)) ?_)
    rw [show b2 (1 ≤ nI a ∧ nI a ≤ 5) = 1 from if_pos q]
    refine And.intro (fun c4 => ?_) (fun c4 => ?_)
    · first | exact absurd c4 (by decide) | exact absurd (by decide) c4 | (exfalso; grind)
    · try dsimp only at c4
      refine And.intro ⟨(by first | decide | assumption | omega), (by first | decide | assumption | omega)⟩ ?_
      refine And.intro (vp_nI (N := 6) (by omega) (by decide)) ?_
      refine And.intro trivial ?_
      refine w_M_findings (Go.runR (callT_mono MT _) [] 200 (by repeat' (first | exact hR | apply OKR.pI | apply OKR.pL | apply OKR.cpI | apply OKR.wI)) ?_)
      refine m_M_in (by repeat' (first | exact hR | apply OKR.pI | apply OKR.pL | apply OKR.cpI | apply OKR.wI)) (And.intro (by repeat' (first | exact hR | apply OKR.pI | apply OKR.pL | apply OKR.cpI | apply OKR.wI)) ?_)
      rw [show b2 (1 ≤ nI a ∧ nI a ≤ 5) = 1 from if_pos q]
      refine And.intro (fun c4 => ?_) (fun c4 => ?_)
      · first | exact absurd c4 (by decide) | exact absurd (by decide) c4 | (exfalso; grind)
      · try dsimp only at c4
        refine And.intro ⟨rfl, rfl, rfl⟩ ?_
        refine And.intro (vp_nI (N := 6) (by omega) (by decide)) ?_
        refine And.intro trivial ?_
        rw [e0, show gI m (0, 19, 0) a = gI m (1, 1, 0) a from ht.2.2.1 a h1 ha]
        exact h _ _ R
  · refine w_X_findings (Go.runR (callT_mono MT _) [] 200 (by repeat' (first | exact hR | apply OKR.pI | apply OKR.pL | apply OKR.cpI | apply OKR.wI)) ?_)
    refine m_X_isWithin (by repeat' (first | exact hR | apply OKR.pI | apply OKR.pL | apply OKR.cpI | apply OKR.wI)) (And.intro (by repeat' (first | exact hR | apply OKR.pI | apply OKR.pL | apply OKR.cpI | apply OKR.wI)) ?_)
    rw [show b2 (1 ≤ f ∧ f ≤ 5) = 0 from if_neg q]
    refine And.intro (fun c4 => ?_) (fun c4 => ?_)
    · try dsimp only at c4
      refine And.intro trivial ?_
      refine w_M_findings (Go.runR (callT_mono MT _) [] 200 (by repeat' (first | exact hR | apply OKR.pI | apply OKR.pL | apply OKR.cpI | apply OKR.wI)) ?_)
      refine m_M_in (by repeat' (first | exact hR | apply OKR.pI | apply OKR.pL | apply OKR.cpI | apply OKR.wI)) (And.intro (by repeat' (first | exact hR | apply OKR.pI | apply OKR.pL | apply OKR.cpI | apply OKR.wI)) ?_)
      rw [show b2 (1 ≤ f ∧ f ≤ 5) = 0 from if_neg q]
      refine And.intro (fun c4 => ?_) (fun c4 => ?_)
      · try dsimp only at c4
        refine And.intro trivial ?_
        exact h _ _ R
      · first | exact absurd c4 (by decide) | exact absurd (by decide) c4 | (exfalso; grind)
    · first | exact absurd c4 (by decide) | exact absurd (by decide) c4 | (exfalso; grind)
end
section
/-! Written by a program (wip/whole/p34.py): HOUSES by number; made. -/
theorem CurR.le {n : Nat} {m : Mem} (H : CurR n m) : n ≤ 8 := H.1
theorem CurR.many {n : Nat} {m : Mem} (H : CurR n m) : gI m (0, 5, 0) 3 = nI n ∧ gI m (1, 0, 0) 10 = nI n := by
  obtain ⟨h8, hm, h0, h1⟩ := H
  rcases Nat.eq_zero_or_pos n with z | z
  · subst z
    exact ⟨(h0 rfl).1, hm⟩
  · obtain ⟨-, ⟨H, -, a, -⟩, -⟩ := h1 z
    exact ⟨a, hm⟩
theorem CurR.house {n : Nat} {m : Mem} (H : CurR n m) {j : Nat} (hj : j < n) : HoR j (gI m (1, 9, 0) j) (gI m (1, 10, 0) j) (gI m (1, 11, 0) j) m := by
  obtain ⟨-, ⟨H, -, -, -, -, -, -, -, a, -⟩, -⟩ := H.2.2.2 (by omega)
  have := a j hj
  rw [show 8 * 0 + j = j by omega] at this
  exact this

theorem m_St_hasHouse {d : Nat} {m : Mem} {K : Option Vv → Mem → Prop} (hR : OKR m) {s : Nat} {i : Int32} (h : K (some (vi (b2 (0 ≤ i ∧ i < gI m (0, 5, s) 3)))) m) : cW (d + 1) n_St_hasHouse [vo 0 5 s, vi i] m K := by
  refine w_St_hasHouse (Go.runR (callT_mono MT _) [] 200 hR ?_)
  refine And.intro (fun c1 => ?_) (fun c1 => ?_)
  · try dsimp only at c1
    refine And.intro (by first | exact Or.inl rfl | exact Or.inr rfl | grind) ?_
    exact kvi (by grind) h
  · try dsimp only at c1
    refine And.intro (fun c5 => ?_) (fun c5 => ?_)
    · try dsimp only at c5
      refine And.intro (by first | exact Or.inl rfl | exact Or.inr rfl | grind) ?_
      exact kvi (by grind) h
    · try dsimp only at c5
      refine And.intro (by first | exact Or.inl rfl | exact Or.inr rfl | grind) ?_
      exact kvi (by grind) h

theorem m_M_isHouse {d : Nat} {m : Mem} {K : Option Vv → Mem → Prop} (hR : OKR m) {i : Int32} (h : K (some (vi (b2 (0 ≤ i ∧ i ≤ gI m (1, 0, 0) 10 - 1)))) m) : cW (d + 2) n_M_isHouse [vo 1 0 0, vi i] m K := by
  refine w_M_isHouse (Go.runR (callT_mono MT _) [] 200 hR ?_)
  refine m_M_in (by repeat' (first | exact hR | apply OKR.pI | apply OKR.pL | apply OKR.cpI)) (And.intro (by repeat' (first | exact hR | apply OKR.pI | apply OKR.pL | apply OKR.cpI)) ?_)
  refine And.intro (by first | exact Or.inl rfl | exact Or.inr rfl | grind) ?_
  exact h

theorem m_St_hasHouse1 {d : Nat} {m : Mem} {K : Option Vv → Mem → Prop} (hR : OKR m) {s n j : Nat} (q : gI m (0, 5, s) 3 = nI n) (hn : n ≤ 8) (hj : j < n) (h : K (some (vi 1)) m) : cW (d + 1) n_St_hasHouse [vo 0 5 s, vi (nI j)] m K := m_St_hasHouse hR (kvi (if_pos (by rw [q]; exact place_in hj (by omega))) h)
theorem m_St_hasHouse0 {d : Nat} {m : Mem} {K : Option Vv → Mem → Prop} (hR : OKR m) {s n : Nat} {i : Int32} (q : gI m (0, 5, s) 3 = nI n) (hi : ¬ (0 ≤ i ∧ i < nI n)) (h : K (some (vi 0)) m) : cW (d + 1) n_St_hasHouse [vo 0 5 s, vi i] m K := m_St_hasHouse hR (kvi (if_neg (by rw [q]; exact hi)) h)
theorem m_M_isHouse1 {d : Nat} {m : Mem} {K : Option Vv → Mem → Prop} (hR : OKR m) {n j : Nat} (q : gI m (1, 0, 0) 10 = nI n) (hn : n ≤ 8) (hj : j < n) (h : K (some (vi 1)) m) : cW (d + 2) n_M_isHouse [vo 1 0 0, vi (nI j)] m K := m_M_isHouse hR (kvi (if_pos (by rw [q, sub1_in (by omega)]; exact place_in hj (by omega))) h)
theorem m_M_isHouse0 {d : Nat} {m : Mem} {K : Option Vv → Mem → Prop} (hR : OKR m) {n : Nat} {i : Int32} (q : gI m (1, 0, 0) 10 = nI n) (hn : n ≤ 8) (hi : ¬ (0 ≤ i ∧ i < nI n)) (h : K (some (vi 0)) m) : cW (d + 2) n_M_isHouse [vo 1 0 0, vi i] m K := m_M_isHouse hR (kvi (if_neg (by rw [q, sub1_in (by omega)]; exact hi)) h)

theorem p_made {d : Nat} {m : Mem} {K : Option Vv → Option Vv → Mem → Prop} (R : RelAB m) {i : Int32} (h : ∀ v m', RelAB m' → K v v m') : cW (d + 3) n_X_made [vo 0 0 0, vi i] m (fun v m1 => cW (d + 3) n_M_made [vo 1 0 0, vi i] m1 (fun w m2 => K v w m2)) := by
  have hR := R.1
  obtain ⟨n, hc⟩ := R.2.2.2.2
  have ht := R.2.2.2.1
  obtain ⟨q1, q2⟩ := hc.many
  have h8 := hc.le
  rcases RelAB.placeCase (n := n) (by omega) i with q | ⟨j, hj, rfl⟩
  · refine w_X_made (Go.runR (callT_mono MT _) [] 200 (by repeat' (first | exact hR | apply OKR.pI | apply OKR.pL | apply OKR.cpI | apply OKR.wI)) ?_)
    refine And.intro ⟨(by first | decide | assumption | omega), (by first | decide | assumption | omega)⟩ ?_
    refine m_St_hasHouse0 (by repeat' (first | exact hR | apply OKR.pI | apply OKR.pL | apply OKR.cpI | apply OKR.wI)) (n := n) q1 q (And.intro (by repeat' (first | exact hR | apply OKR.pI | apply OKR.pL | apply OKR.cpI | apply OKR.wI)) ?_)
    refine And.intro (fun c4 => ?_) (fun c4 => ?_)
    · try dsimp only at c4
      refine And.intro trivial ?_
      refine w_M_made (Go.runR (callT_mono MT _) [] 200 (by repeat' (first | exact hR | apply OKR.pI | apply OKR.pL | apply OKR.cpI | apply OKR.wI)) ?_)
      refine m_M_isHouse0 (by repeat' (first | exact hR | apply OKR.pI | apply OKR.pL | apply OKR.cpI | apply OKR.wI)) (n := n) q2 h8 q (And.intro (by repeat' (first | exact hR | apply OKR.pI | apply OKR.pL | apply OKR.cpI | apply OKR.wI)) ?_)
      refine And.intro (fun c3 => ?_) (fun c3 => ?_)
      · try dsimp only at c3
        refine And.intro trivial ?_
        exact h _ _ R
      · first | exact absurd c3 (by decide) | exact absurd (by decide) c3 | (exfalso; grind)
    · first | exact absurd c4 (by decide) | exact absurd (by decide) c4 | (exfalso; grind)
  · have e0 : (nI j).toNatClampNeg = j := nI_clamp (by omega)
    have hh := hc.house hj
    refine w_X_made (Go.runR (callT_mono MT _) [] 200 (by repeat' (first | exact hR | apply OKR.pI | apply OKR.pL | apply OKR.cpI | apply OKR.wI)) ?_)
    refine And.intro ⟨(by first | decide | assumption | omega), (by first | decide | assumption | omega)⟩ ?_
    refine m_St_hasHouse1 (by repeat' (first | exact hR | apply OKR.pI | apply OKR.pL | apply OKR.cpI | apply OKR.wI)) (n := n) q1 h8 hj (And.intro (by repeat' (first | exact hR | apply OKR.pI | apply OKR.pL | apply OKR.cpI | apply OKR.wI)) ?_)
    refine And.intro (fun c4 => ?_) (fun c4 => ?_)
    · first | exact absurd c4 (by decide) | exact absurd (by decide) c4 | (exfalso; grind)
    · try dsimp only at c4
      refine And.intro ⟨(by first | decide | assumption | omega), (by first | decide | assumption | omega)⟩ ?_
      refine And.intro ⟨(by first | decide | assumption | omega), (by first | decide | assumption | omega)⟩ ?_
      refine And.intro ⟨(vp_nI (N := 8) (by omega) (by decide)), ⟨(by decide), by rw [e0]; omega⟩⟩ ?_
      refine And.intro trivial ?_
      refine w_M_made (Go.runR (callT_mono MT _) [] 200 (by repeat' (first | exact hR | apply OKR.pI | apply OKR.pL | apply OKR.cpI | apply OKR.wI)) ?_)
      refine m_M_isHouse1 (by repeat' (first | exact hR | apply OKR.pI | apply OKR.pL | apply OKR.cpI | apply OKR.wI)) (n := n) q2 h8 hj (And.intro (by repeat' (first | exact hR | apply OKR.pI | apply OKR.pL | apply OKR.cpI | apply OKR.wI)) ?_)
      refine And.intro (fun c3 => ?_) (fun c3 => ?_)
      · first | exact absurd c3 (by decide) | exact absurd (by decide) c3 | (exfalso; grind)
      · try dsimp only at c3
        refine And.intro ⟨rfl, rfl, rfl⟩ ?_
        refine And.intro (vp_nI (N := 8) (by omega) (by decide)) ?_
        refine And.intro trivial ?_
        show K (some (vi (gI m (0, 8, 8 * 0 + (nI j).toNatClampNeg) 3))) (some (vi (gI m (1, 10, 0) (nI j).toNatClampNeg))) m
        rw [e0, show 8 * 0 + j = j by omega, hh.2.2.1]
        exact h _ _ R
end
section
/-! FRAMES: a street is left alone. -/
theorem SR.cg {s n H : Nat} {al wa ov : Int32} {wl md pd db nt : Nat → Int32} {m m' : Mem} (h8 : n ≤ 8) (e5 : ∀ k, gI m' (0, 5, s) k = gI m (0, 5, s) k) (e8 : ∀ i k, i < 8 → gI m' (0, 8, 8 * s + i) k = gI m (0, 8, 8 * s + i) k) (e10 : ∀ t k, t < 40 → gI m' (0, 10, 40 * s + t) k = gI m (0, 10, 40 * s + t) k) (e11 : ∀ t k, t < 40 → gI m' (0, 11, 40 * s + t) k = gI m (0, 11, 40 * s + t) k) (e13 : ∀ i k, i < 8 → gI m' (0, 13, 8 * s + i) k = gI m (0, 13, 8 * s + i) k) (R : SR s n H al wa ov wl md pd db nt m) : SR s n H al wa ov wl md pd db nt m' := by
  obtain ⟨a1, a2, a3, a4, a5, a6, a7, a8, a9⟩ := R
  refine ⟨by rw [e5]; exact a1, by rw [e5]; exact a2, a3, by rw [e5]; exact a4, by rw [e5]; exact a5, by rw [e5]; exact a6, fun i hi => ?_, fun i j hi hj => by rw [e13 i j (by omega)]; exact a8 i j hi hj, fun t ht => ?_⟩
  · have := a7 i hi
    unfold HoR at *
    rw [e8 i 2 (by omega), e8 i 3 (by omega), e8 i 4 (by omega)]
    exact this
  · have := a9 t ht
    unfold HrR at *
    rw [e10 t 1 (by omega), e10 t 2 (by omega), e10 t 3 (by omega), e10 t 4 (by omega)]
    refine ⟨this.1, this.2.1, this.2.2.1, this.2.2.2.1, this.2.2.2.2.1, fun i hi => ?_⟩
    rw [e11 t i (by omega)]
    exact this.2.2.2.2.2 i hi
theorem KeptR.cg {n k : Nat} {m m' : Mem} (h8 : n ≤ 8) (e5 : ∀ j, gI m' (0, 5, 1 + k) j = gI m (0, 5, 1 + k) j) (e8 : ∀ i j, i < 8 → gI m' (0, 8, 8 * (1 + k) + i) j = gI m (0, 8, 8 * (1 + k) + i) j) (e10 : ∀ t j, t < 40 → gI m' (0, 10, 40 * (1 + k) + t) j = gI m (0, 10, 40 * (1 + k) + t) j) (e11 : ∀ t j, t < 40 → gI m' (0, 11, 40 * (1 + k) + t) j = gI m (0, 11, 40 * (1 + k) + t) j) (e13 : ∀ i j, i < 8 → gI m' (0, 13, 8 * (1 + k) + i) j = gI m (0, 13, 8 * (1 + k) + i) j)
    (g13 : ∀ j, gI m' (1, 13, 0) j = gI m (1, 13, 0) j) (hk : ∀ i, kn m' i = kn m i) (l8 : ∀ i, i < 8 → gI m' (0, 8, i) 1 = gI m (0, 8, i) 1) (l5 : gI m' (0, 5, 0) 6 = gI m (0, 5, 0) 6) (R : KeptR n k m) : KeptR n k m' := by
  unfold KeptR at *
  simp only [g13, hk, l5, e5]
  rcases R with q | ⟨H, a, b, c, d⟩
  · exact Or.inl q
  · exact Or.inr ⟨H, a, b.cg h8 e5 e8 e10 e11 e13, fun i hi => ⟨(c i hi).1, by rw [e8 i 1 (by omega), l8 i (by omega)]; exact (c i hi).2⟩, d⟩
theorem LoudR.cg {n : Nat} {m m' : Mem} (h8 : n ≤ 8) (hk : ∀ i, kn m' i = kn m i) (g7 : ∀ i, gI m' (1, 7, 0) i = gI m (1, 7, 0) i) (g8 : ∀ i, gI m' (1, 8, 0) i = gI m (1, 8, 0) i) (l8 : ∀ i, i < 8 → gI m' (0, 8, i) 1 = gI m (0, 8, i) 1) (l5 : gI m' (0, 5, 0) 6 = gI m (0, 5, 0) 6) (g12 : gI m' (1, 0, 0) 12 = gI m (1, 0, 0) 12) (R : LoudR n m) : LoudR n m' := by
  unfold LoudR at *
  simp only [hk, g7, g8, l5, g12]
  exact ⟨fun i hi => ⟨(R.1 i hi).1, by rw [l8 i (by omega)]; exact (R.1 i hi).2.1, (R.1 i hi).2.2⟩, R.2⟩
end
section
/-! Written by a program (wip/whole/p36.py): altar. -/
theorem RelAB.ofCur {n : Nat} {m m' : Mem} (R : RelAB m) (hok : OKR m') (hc : CurR n m') (h0 : ∀ t i k, t = 1 ∨ t = 2 → gI m' (0, t, i) k = gI m (0, t, i) k) (h1 : ∀ t k, t = 2 ∨ t = 3 ∨ t = 5 ∨ t = 6 → gI m' (1, t, 0) k = gI m (1, t, 0) k) (ht : TellR m') : RelAB m' :=
  ⟨hok, R.2.1.cg (fun r _ => h0 1 r 1 (by omega)) (fun r k _ => h0 2 r k (by omega)) (fun k => h1 2 k (by omega)) (fun k => h1 3 k (by omega)), R.2.2.1.cg (fun r => h0 1 _ 1 (by omega)) (fun r k => h0 2 _ k (by omega)) (fun k => h1 5 k (by omega)) (fun k => h1 6 k (by omega)), ht, n, hc⟩
theorem RelAB.altar {m : Mem} (R : RelAB m) {n a : Nat} (hc : CurR n m) (hn : 0 < n) (ha : a ≤ 9) : RelAB (pI (pI m (0, 5, 0) 5 (nI a)) (1, 0, 0) 11 (nI a)) := by
  obtain ⟨h8, hm, -, h1⟩ := hc
  obtain ⟨hl, ⟨H, s1, s2⟩, hk⟩ := h1 hn
  have e5 : ∀ k j, gI (pI (pI m (0, 5, 0) 5 (nI a)) (1, 0, 0) 11 (nI a)) (0, 5, 1 + k) j = gI m (0, 5, 1 + k) j := fun k j => by rw [rd10, rd00, if_neg (by omega)]
  refine R.ofCur (n := n) R.1.pI.pI ⟨h8, hm, fun z => absurd z (by omega), fun _ => ⟨hl.cg h8 (fun i => kn_rw (fun _ => rfl) i) (fun _ => rfl) (fun _ => rfl) (fun _ _ => rfl) rfl rfl, ⟨H, s1, ?_⟩, fun k hk3 => (hk k hk3).cg h8 (e5 k) (fun _ _ _ => rfl) (fun _ _ _ => rfl) (fun _ _ _ => rfl) (fun _ _ _ => rfl) (fun _ => rfl) (fun i => kn_rw (fun _ => rfl) i) (fun _ _ => rfl) rfl⟩⟩ (fun t i k q => by rw [rd10, rd00, if_neg (by omega)]) (fun t k q => by rw [rd11, rd01, if_neg (by omega)]) R.2.2.2.1
  obtain ⟨a1, a2, a3, a4, a5, a6, a7, a8, a9⟩ := s2
  exact ⟨a1, a2, a3, ⟨rfl, a, ha, rfl⟩, a5, a6, a7, a8, a9⟩

theorem p_altar {d : Nat} {m : Mem} {K : Option Vv → Option Vv → Mem → Prop} (R : RelAB m) {v : Int32} (h : ∀ v m', RelAB m' → K v v m') : cW (d + 2) n_X_altar [vo 0 0 0, vi v] m (fun u m1 => cW (d + 2) n_M_altar [vo 1 0 0, vi v] m1 (fun w m2 => K u w m2)) := by
  have hR := R.1
  obtain ⟨n, hc⟩ := R.2.2.2.2
  have ht := R.2.2.2.1
  obtain ⟨q1, q2⟩ := hc.many
  have h8 := hc.le
  by_cases q : 0 ≤ v ∧ v ≤ 9
  · rcases Nat.eq_zero_or_pos n with z | z
    · subst z
      refine w_X_altar (Go.runR (callT_mono MT _) [] 200 (by repeat' (first | exact hR | apply OKR.pI | apply OKR.pL | apply OKR.cpI | apply OKR.wI)) ?_)
      refine m_X_isWithin (by repeat' (first | exact hR | apply OKR.pI | apply OKR.pL | apply OKR.cpI | apply OKR.wI)) (And.intro (by repeat' (first | exact hR | apply OKR.pI | apply OKR.pL | apply OKR.cpI | apply OKR.wI)) ?_)
      rw [show b2 (0 ≤ v ∧ v ≤ 9) = 1 from if_pos q]
      refine And.intro (fun c4 => ?_) (fun c4 => ?_)
      · first | exact absurd c4 (by decide) | exact absurd (by decide) c4 | (exfalso; grind)
      · try dsimp only at c4
        refine And.intro ⟨(by first | decide | assumption | omega), (by first | decide | assumption | omega)⟩ ?_
        refine And.intro (fun c10 => ?_) (fun c10 => ?_)
        · try dsimp only at c10
          refine And.intro trivial ?_
          refine w_M_altar (Go.runR (callT_mono MT _) [] 200 (by repeat' (first | exact hR | apply OKR.pI | apply OKR.pL | apply OKR.cpI | apply OKR.wI)) ?_)
          refine m_M_in (by repeat' (first | exact hR | apply OKR.pI | apply OKR.pL | apply OKR.cpI | apply OKR.wI)) (And.intro (by repeat' (first | exact hR | apply OKR.pI | apply OKR.pL | apply OKR.cpI | apply OKR.wI)) ?_)
          rw [show b2 (0 ≤ v ∧ v ≤ 9) = 1 from if_pos q]
          refine And.intro (fun c4 => ?_) (fun c4 => ?_)
          · first | exact absurd c4 (by decide) | exact absurd (by decide) c4 | (exfalso; grind)
          · try dsimp only at c4
            refine And.intro (fun c9 => ?_) (fun c9 => ?_)
            · try dsimp only at c9
              refine And.intro trivial ?_
              exact h _ _ R
            · exact absurd (show gI m (1, 0, 0) 10 = 0 from q2) c9
        · exact absurd (show gI m (0, 5, 0) 3 = 0 from q1) c10
    · obtain ⟨a, ha, rfl⟩ := nI_of2 (x := v) (M := 9) (n := 9) rfl (by grind) q.2
      have hq : gI m (0, 5, 0) 5 = gI m (1, 0, 0) 11 := by
        obtain ⟨-, ⟨H, -, -, -, -, ⟨w, -⟩, -⟩, -⟩ := hc.2.2.2 z
        exact w
      refine w_X_altar (Go.runR (callT_mono MT _) [] 200 (by repeat' (first | exact hR | apply OKR.pI | apply OKR.pL | apply OKR.cpI | apply OKR.wI)) ?_)
      refine m_X_isWithin (by repeat' (first | exact hR | apply OKR.pI | apply OKR.pL | apply OKR.cpI | apply OKR.wI)) (And.intro (by repeat' (first | exact hR | apply OKR.pI | apply OKR.pL | apply OKR.cpI | apply OKR.wI)) ?_)
      rw [show b2 (0 ≤ nI a ∧ nI a ≤ 9) = 1 from if_pos q]
      refine And.intro (fun c4 => ?_) (fun c4 => ?_)
      · first | exact absurd c4 (by decide) | exact absurd (by decide) c4 | (exfalso; grind)
      · try dsimp only at c4
        refine And.intro ⟨(by first | decide | assumption | omega), (by first | decide | assumption | omega)⟩ ?_
        refine And.intro (fun c10 => ?_) (fun c10 => ?_)
        · exact absurd (show nI n = 0 from q1.symm.trans c10) (sz0 z (by omega))
        · try dsimp only at c10
          refine And.intro ⟨(by first | decide | assumption | omega), (by first | decide | assumption | omega)⟩ ?_
          refine And.intro ⟨(by first | decide | assumption | omega), (by first | decide | assumption | omega)⟩ ?_
          refine And.intro trivial ?_
          refine w_M_altar (Go.runR (callT_mono MT _) [] 200 (by repeat' (first | exact hR | apply OKR.pI | apply OKR.pL | apply OKR.cpI | apply OKR.wI)) ?_)
          refine m_M_in (by repeat' (first | exact hR | apply OKR.pI | apply OKR.pL | apply OKR.cpI | apply OKR.wI)) (And.intro (by repeat' (first | exact hR | apply OKR.pI | apply OKR.pL | apply OKR.cpI | apply OKR.wI)) ?_)
          rw [show b2 (0 ≤ nI a ∧ nI a ≤ 9) = 1 from if_pos q]
          refine And.intro (fun c4 => ?_) (fun c4 => ?_)
          · first | exact absurd c4 (by decide) | exact absurd (by decide) c4 | (exfalso; grind)
          · try dsimp only at c4
            refine And.intro (fun c9 => ?_) (fun c9 => ?_)
            · exact absurd (show nI n = 0 from q2.symm.trans c9) (sz0 z (by omega))
            · try dsimp only at c9
              refine And.intro trivial ?_
              show K (some (vi (gI m (0, 5, 0) 5))) (some (vi (gI m (1, 0, 0) 11))) _
              rw [hq]
              exact h _ _ (R.altar hc z ha)
  · refine w_X_altar (Go.runR (callT_mono MT _) [] 200 (by repeat' (first | exact hR | apply OKR.pI | apply OKR.pL | apply OKR.cpI | apply OKR.wI)) ?_)
    refine m_X_isWithin (by repeat' (first | exact hR | apply OKR.pI | apply OKR.pL | apply OKR.cpI | apply OKR.wI)) (And.intro (by repeat' (first | exact hR | apply OKR.pI | apply OKR.pL | apply OKR.cpI | apply OKR.wI)) ?_)
    rw [show b2 (0 ≤ v ∧ v ≤ 9) = 0 from if_neg q]
    refine And.intro (fun c4 => ?_) (fun c4 => ?_)
    · try dsimp only at c4
      refine And.intro trivial ?_
      refine w_M_altar (Go.runR (callT_mono MT _) [] 200 (by repeat' (first | exact hR | apply OKR.pI | apply OKR.pL | apply OKR.cpI | apply OKR.wI)) ?_)
      refine m_M_in (by repeat' (first | exact hR | apply OKR.pI | apply OKR.pL | apply OKR.cpI | apply OKR.wI)) (And.intro (by repeat' (first | exact hR | apply OKR.pI | apply OKR.pL | apply OKR.cpI | apply OKR.wI)) ?_)
      rw [show b2 (0 ≤ v ∧ v ≤ 9) = 0 from if_neg q]
      refine And.intro (fun c4 => ?_) (fun c4 => ?_)
      · try dsimp only at c4
        refine And.intro trivial ?_
        exact h _ _ R
      · first | exact absurd c4 (by decide) | exact absurd (by decide) c4 | (exfalso; grind)
    · first | exact absurd c4 (by decide) | exact absurd (by decide) c4 | (exfalso; grind)
end
