section
/-- a private method of a class that the tables say can be made, by its rows of tables_1 -/
def lw_okq (q : MethodName × Nat) : Prop := (q.1.cls ≠ "java/lang/invoke/MethodHandle" ∧ q.1.cls ≠ "java/lang/invoke/VarHandle") ∧ Cond.instantiable q.1.cls q.2 ∈ tables_1 ∧ Cond.privateMethod q.1 ∈ tables_1 ∧ Cond.instanceMethod q.1 ∈ tables_1
theorem lw_p0 : lw_okq (⟨"ThreeStrandMaps", "keepMade", "(I)I"⟩, 10) := ⟨⟨by decide +kernel, by decide +kernel⟩, List.mem_of_getElem? (i := 18) (by decide +kernel), List.mem_of_getElem? (i := 203) (by decide +kernel), List.mem_of_getElem? (i := 204) (by decide +kernel)⟩
theorem lw_p1 : lw_okq (⟨"ThreeStrandMaps", "mapAt", "(I)LThreeStrandMaps$PairMap;"⟩, 10) := ⟨⟨by decide +kernel, by decide +kernel⟩, List.mem_of_getElem? (i := 18) (by decide +kernel), List.mem_of_getElem? (i := 306) (by decide +kernel), List.mem_of_getElem? (i := 307) (by decide +kernel)⟩
theorem lw_p2 : lw_okq (⟨"ThreeStrandMaps$PairMap", "setShifted", "(LThreeStrandMaps$PairMap;I)V"⟩, 2) := ⟨⟨by decide +kernel, by decide +kernel⟩, List.mem_of_getElem? (i := 29) (by decide +kernel), List.mem_of_getElem? (i := 375) (by decide +kernel), List.mem_of_getElem? (i := 376) (by decide +kernel)⟩
theorem lw_p3 : lw_okq (⟨"ThreeStrandMaps$PairMap", "setBlock", "(LThreeStrandMaps$PairMap;LThreeStrandMaps$PairMap;II)V"⟩, 2) := ⟨⟨by decide +kernel, by decide +kernel⟩, List.mem_of_getElem? (i := 29) (by decide +kernel), List.mem_of_getElem? (i := 389) (by decide +kernel), List.mem_of_getElem? (i := 390) (by decide +kernel)⟩
theorem lw_p4 : lw_okq (⟨"ThreeStrandMaps$RowGroup", "add", "(I)V"⟩, 3) := ⟨⟨by decide +kernel, by decide +kernel⟩, List.mem_of_getElem? (i := 93) (by decide +kernel), List.mem_of_getElem? (i := 501) (by decide +kernel), List.mem_of_getElem? (i := 502) (by decide +kernel)⟩
theorem lw_p5 : lw_okq (⟨"ThreeStrandMaps$Renamings", "start", "()V"⟩, 1) := ⟨⟨by decide +kernel, by decide +kernel⟩, List.mem_of_getElem? (i := 83) (by decide +kernel), List.mem_of_getElem? (i := 516) (by decide +kernel), List.mem_of_getElem? (i := 517) (by decide +kernel)⟩
theorem lw_p6 : lw_okq (⟨"ThreeStrandMaps$Renamings", "isIsomorphism", "(LThreeStrandMaps$PairMap;LThreeStrandMaps$PairMap;)Z"⟩, 1) := ⟨⟨by decide +kernel, by decide +kernel⟩, List.mem_of_getElem? (i := 83) (by decide +kernel), List.mem_of_getElem? (i := 523) (by decide +kernel), List.mem_of_getElem? (i := 524) (by decide +kernel)⟩
theorem lw_p7 : lw_okq (⟨"ThreeStrandMaps$Renamings", "imageOf", "(I)I"⟩, 1) := ⟨⟨by decide +kernel, by decide +kernel⟩, List.mem_of_getElem? (i := 83) (by decide +kernel), List.mem_of_getElem? (i := 527) (by decide +kernel), List.mem_of_getElem? (i := 528) (by decide +kernel)⟩
theorem lw_p8 : lw_okq (⟨"ThreeStrandMaps$Renamings", "step", "(I)V"⟩, 1) := ⟨⟨by decide +kernel, by decide +kernel⟩, List.mem_of_getElem? (i := 83) (by decide +kernel), List.mem_of_getElem? (i := 534) (by decide +kernel), List.mem_of_getElem? (i := 535) (by decide +kernel)⟩
theorem lw_p9 : lw_okq (⟨"ThreeStrandMaps$Renamings", "swap", "(II)V"⟩, 1) := ⟨⟨by decide +kernel, by decide +kernel⟩, List.mem_of_getElem? (i := 83) (by decide +kernel), List.mem_of_getElem? (i := 538) (by decide +kernel), List.mem_of_getElem? (i := 539) (by decide +kernel)⟩
theorem lw_p10 : lw_okq (⟨"ThreeStrandMaps$Renamings", "renamedRows", "(LThreeStrandMaps$PairMap;)J"⟩, 1) := ⟨⟨by decide +kernel, by decide +kernel⟩, List.mem_of_getElem? (i := 83) (by decide +kernel), List.mem_of_getElem? (i := 572) (by decide +kernel), List.mem_of_getElem? (i := 573) (by decide +kernel)⟩
theorem lw_p11 : lw_okq (⟨"ThreeStrandMaps$Renamings", "code", "(I)I"⟩, 1) := ⟨⟨by decide +kernel, by decide +kernel⟩, List.mem_of_getElem? (i := 83) (by decide +kernel), List.mem_of_getElem? (i := 630) (by decide +kernel), List.mem_of_getElem? (i := 631) (by decide +kernel)⟩
theorem lw_p12 : lw_okq (⟨"ThreeStrandMaps$WordClasses", "join", "(II)V"⟩, 2) := ⟨⟨by decide +kernel, by decide +kernel⟩, List.mem_of_getElem? (i := 110) (by decide +kernel), List.mem_of_getElem? (i := 645) (by decide +kernel), List.mem_of_getElem? (i := 646) (by decide +kernel)⟩
theorem lw_p13 : lw_okq (⟨"ThreeStrandMaps$WordClasses", "smallerOf", "(I)I"⟩, 2) := ⟨⟨by decide +kernel, by decide +kernel⟩, List.mem_of_getElem? (i := 110) (by decide +kernel), List.mem_of_getElem? (i := 653) (by decide +kernel), List.mem_of_getElem? (i := 654) (by decide +kernel)⟩
theorem lw_p14 : lw_okq (⟨"ThreeStrandMaps", "braidAt", "(I)LThreeStrandMaps$Braid;"⟩, 10) := ⟨⟨by decide +kernel, by decide +kernel⟩, List.mem_of_getElem? (i := 18) (by decide +kernel), List.mem_of_getElem? (i := 687) (by decide +kernel), List.mem_of_getElem? (i := 688) (by decide +kernel)⟩
theorem lw_p15 : lw_okq (⟨"ThreeStrandMaps", "actionError", "(III)I"⟩, 10) := ⟨⟨by decide +kernel, by decide +kernel⟩, List.mem_of_getElem? (i := 18) (by decide +kernel), List.mem_of_getElem? (i := 760) (by decide +kernel), List.mem_of_getElem? (i := 761) (by decide +kernel)⟩
def lw_privs_1 : List (MethodName × Nat) := [(⟨"ThreeStrandMaps", "keepMade", "(I)I"⟩, 10), (⟨"ThreeStrandMaps", "mapAt", "(I)LThreeStrandMaps$PairMap;"⟩, 10), (⟨"ThreeStrandMaps$PairMap", "setShifted", "(LThreeStrandMaps$PairMap;I)V"⟩, 2), (⟨"ThreeStrandMaps$PairMap", "setBlock", "(LThreeStrandMaps$PairMap;LThreeStrandMaps$PairMap;II)V"⟩, 2), (⟨"ThreeStrandMaps$RowGroup", "add", "(I)V"⟩, 3), (⟨"ThreeStrandMaps$Renamings", "start", "()V"⟩, 1), (⟨"ThreeStrandMaps$Renamings", "isIsomorphism", "(LThreeStrandMaps$PairMap;LThreeStrandMaps$PairMap;)Z"⟩, 1), (⟨"ThreeStrandMaps$Renamings", "imageOf", "(I)I"⟩, 1), (⟨"ThreeStrandMaps$Renamings", "step", "(I)V"⟩, 1), (⟨"ThreeStrandMaps$Renamings", "swap", "(II)V"⟩, 1), (⟨"ThreeStrandMaps$Renamings", "renamedRows", "(LThreeStrandMaps$PairMap;)J"⟩, 1), (⟨"ThreeStrandMaps$Renamings", "code", "(I)I"⟩, 1), (⟨"ThreeStrandMaps$WordClasses", "join", "(II)V"⟩, 2), (⟨"ThreeStrandMaps$WordClasses", "smallerOf", "(I)I"⟩, 2), (⟨"ThreeStrandMaps", "braidAt", "(I)LThreeStrandMaps$Braid;"⟩, 10), (⟨"ThreeStrandMaps", "actionError", "(III)I"⟩, 10)]
theorem lw_r1 : ∀ q ∈ lw_privs_1, lw_okq q := List.forall_mem_cons.mpr ⟨lw_p0, List.forall_mem_cons.mpr ⟨lw_p1, List.forall_mem_cons.mpr ⟨lw_p2, List.forall_mem_cons.mpr ⟨lw_p3, List.forall_mem_cons.mpr ⟨lw_p4, List.forall_mem_cons.mpr ⟨lw_p5, List.forall_mem_cons.mpr ⟨lw_p6, List.forall_mem_cons.mpr ⟨lw_p7, List.forall_mem_cons.mpr ⟨lw_p8, List.forall_mem_cons.mpr ⟨lw_p9, List.forall_mem_cons.mpr ⟨lw_p10, List.forall_mem_cons.mpr ⟨lw_p11, List.forall_mem_cons.mpr ⟨lw_p12, List.forall_mem_cons.mpr ⟨lw_p13, List.forall_mem_cons.mpr ⟨lw_p14, List.forall_mem_cons.mpr ⟨lw_p15, fun _ h => absurd h List.not_mem_nil⟩⟩⟩⟩⟩⟩⟩⟩⟩⟩⟩⟩⟩⟩⟩⟩
theorem lw_p16 : lw_okq (⟨"ThreeStrandMaps$BraidAction", "tuples", "(I)I"⟩, 3) := ⟨⟨by decide +kernel, by decide +kernel⟩, List.mem_of_getElem? (i := 123) (by decide +kernel), List.mem_of_getElem? (i := 768) (by decide +kernel), List.mem_of_getElem? (i := 769) (by decide +kernel)⟩
theorem lw_p17 : lw_okq (⟨"ThreeStrandMaps$BraidAction", "isSeen", "(I)Z"⟩, 3) := ⟨⟨by decide +kernel, by decide +kernel⟩, List.mem_of_getElem? (i := 123) (by decide +kernel), List.mem_of_getElem? (i := 786) (by decide +kernel), List.mem_of_getElem? (i := 787) (by decide +kernel)⟩
theorem lw_p18 : lw_okq (⟨"ThreeStrandMaps$BraidAction", "cycleLength", "(LThreeStrandMaps$Braid;II)I"⟩, 3) := ⟨⟨by decide +kernel, by decide +kernel⟩, List.mem_of_getElem? (i := 123) (by decide +kernel), List.mem_of_getElem? (i := 790) (by decide +kernel), List.mem_of_getElem? (i := 791) (by decide +kernel)⟩
theorem lw_p19 : lw_okq (⟨"ThreeStrandMaps$BraidAction", "see", "(I)V"⟩, 3) := ⟨⟨by decide +kernel, by decide +kernel⟩, List.mem_of_getElem? (i := 123) (by decide +kernel), List.mem_of_getElem? (i := 794) (by decide +kernel), List.mem_of_getElem? (i := 795) (by decide +kernel)⟩
theorem lw_p20 : lw_okq (⟨"ThreeStrandMaps", "mapsHeld", "()I"⟩, 10) := ⟨⟨by decide +kernel, by decide +kernel⟩, List.mem_of_getElem? (i := 18) (by decide +kernel), List.mem_of_getElem? (i := 833) (by decide +kernel), List.mem_of_getElem? (i := 834) (by decide +kernel)⟩
theorem lw_p21 : lw_okq (⟨"ThreeStrandMaps", "pointsHeld", "()I"⟩, 10) := ⟨⟨by decide +kernel, by decide +kernel⟩, List.mem_of_getElem? (i := 18) (by decide +kernel), List.mem_of_getElem? (i := 837) (by decide +kernel), List.mem_of_getElem? (i := 838) (by decide +kernel)⟩
theorem lw_p22 : lw_okq (⟨"ThreeStrandMapsModel", "lay", "(IIIII)V"⟩, 18) := ⟨⟨by decide +kernel, by decide +kernel⟩, List.mem_of_getElem? (i := 841) (by decide +kernel), List.mem_of_getElem? (i := 916) (by decide +kernel), List.mem_of_getElem? (i := 917) (by decide +kernel)⟩
theorem lw_p23 : lw_okq (⟨"ThreeStrandMapsModel", "comes", "(I)I"⟩, 18) := ⟨⟨by decide +kernel, by decide +kernel⟩, List.mem_of_getElem? (i := 841) (by decide +kernel), List.mem_of_getElem? (i := 920) (by decide +kernel), List.mem_of_getElem? (i := 921) (by decide +kernel)⟩
theorem lw_p24 : lw_okq (⟨"ThreeStrandMapsModel", "copies", "(II)V"⟩, 18) := ⟨⟨by decide +kernel, by decide +kernel⟩, List.mem_of_getElem? (i := 841) (by decide +kernel), List.mem_of_getElem? (i := 924) (by decide +kernel), List.mem_of_getElem? (i := 925) (by decide +kernel)⟩
theorem lw_p25 : lw_okq (⟨"ThreeStrandMapsModel", "isMap", "(I)Z"⟩, 18) := ⟨⟨by decide +kernel, by decide +kernel⟩, List.mem_of_getElem? (i := 841) (by decide +kernel), List.mem_of_getElem? (i := 977) (by decide +kernel), List.mem_of_getElem? (i := 978) (by decide +kernel)⟩
theorem lw_p26 : lw_okq (⟨"ThreeStrandMapsModel", "isPoint", "(II)Z"⟩, 18) := ⟨⟨by decide +kernel, by decide +kernel⟩, List.mem_of_getElem? (i := 841) (by decide +kernel), List.mem_of_getElem? (i := 981) (by decide +kernel), List.mem_of_getElem? (i := 982) (by decide +kernel)⟩
theorem lw_p27 : lw_okq (⟨"ThreeStrandMapsModel", "l", "(III)I"⟩, 18) := ⟨⟨by decide +kernel, by decide +kernel⟩, List.mem_of_getElem? (i := 841) (by decide +kernel), List.mem_of_getElem? (i := 985) (by decide +kernel), List.mem_of_getElem? (i := 986) (by decide +kernel)⟩
theorem lw_p28 : lw_okq (⟨"ThreeStrandMapsModel", "r", "(III)I"⟩, 18) := ⟨⟨by decide +kernel, by decide +kernel⟩, List.mem_of_getElem? (i := 841) (by decide +kernel), List.mem_of_getElem? (i := 989) (by decide +kernel), List.mem_of_getElem? (i := 990) (by decide +kernel)⟩
theorem lw_p29 : lw_okq (⟨"ThreeStrandMapsModel", "makeRetract", "(I)V"⟩, 18) := ⟨⟨by decide +kernel, by decide +kernel⟩, List.mem_of_getElem? (i := 841) (by decide +kernel), List.mem_of_getElem? (i := 997) (by decide +kernel), List.mem_of_getElem? (i := 998) (by decide +kernel)⟩
theorem lw_p30 : lw_okq (⟨"ThreeStrandMapsModel", "layClasses", "(I)I"⟩, 18) := ⟨⟨by decide +kernel, by decide +kernel⟩, List.mem_of_getElem? (i := 841) (by decide +kernel), List.mem_of_getElem? (i := 1001) (by decide +kernel), List.mem_of_getElem? (i := 1002) (by decide +kernel)⟩
theorem lw_p31 : lw_okq (⟨"ThreeStrandMapsModel", "areAlike", "(III)Z"⟩, 18) := ⟨⟨by decide +kernel, by decide +kernel⟩, List.mem_of_getElem? (i := 841) (by decide +kernel), List.mem_of_getElem? (i := 1005) (by decide +kernel), List.mem_of_getElem? (i := 1006) (by decide +kernel)⟩
def lw_privs_2 : List (MethodName × Nat) := [(⟨"ThreeStrandMaps$BraidAction", "tuples", "(I)I"⟩, 3), (⟨"ThreeStrandMaps$BraidAction", "isSeen", "(I)Z"⟩, 3), (⟨"ThreeStrandMaps$BraidAction", "cycleLength", "(LThreeStrandMaps$Braid;II)I"⟩, 3), (⟨"ThreeStrandMaps$BraidAction", "see", "(I)V"⟩, 3), (⟨"ThreeStrandMaps", "mapsHeld", "()I"⟩, 10), (⟨"ThreeStrandMaps", "pointsHeld", "()I"⟩, 10), (⟨"ThreeStrandMapsModel", "lay", "(IIIII)V"⟩, 18), (⟨"ThreeStrandMapsModel", "comes", "(I)I"⟩, 18), (⟨"ThreeStrandMapsModel", "copies", "(II)V"⟩, 18), (⟨"ThreeStrandMapsModel", "isMap", "(I)Z"⟩, 18), (⟨"ThreeStrandMapsModel", "isPoint", "(II)Z"⟩, 18), (⟨"ThreeStrandMapsModel", "l", "(III)I"⟩, 18), (⟨"ThreeStrandMapsModel", "r", "(III)I"⟩, 18), (⟨"ThreeStrandMapsModel", "makeRetract", "(I)V"⟩, 18), (⟨"ThreeStrandMapsModel", "layClasses", "(I)I"⟩, 18), (⟨"ThreeStrandMapsModel", "areAlike", "(III)Z"⟩, 18)]
theorem lw_r2 : ∀ q ∈ lw_privs_2, lw_okq q := List.forall_mem_cons.mpr ⟨lw_p16, List.forall_mem_cons.mpr ⟨lw_p17, List.forall_mem_cons.mpr ⟨lw_p18, List.forall_mem_cons.mpr ⟨lw_p19, List.forall_mem_cons.mpr ⟨lw_p20, List.forall_mem_cons.mpr ⟨lw_p21, List.forall_mem_cons.mpr ⟨lw_p22, List.forall_mem_cons.mpr ⟨lw_p23, List.forall_mem_cons.mpr ⟨lw_p24, List.forall_mem_cons.mpr ⟨lw_p25, List.forall_mem_cons.mpr ⟨lw_p26, List.forall_mem_cons.mpr ⟨lw_p27, List.forall_mem_cons.mpr ⟨lw_p28, List.forall_mem_cons.mpr ⟨lw_p29, List.forall_mem_cons.mpr ⟨lw_p30, List.forall_mem_cons.mpr ⟨lw_p31, fun _ h => absurd h List.not_mem_nil⟩⟩⟩⟩⟩⟩⟩⟩⟩⟩⟩⟩⟩⟩⟩⟩
theorem lw_p32 : lw_okq (⟨"ThreeStrandMapsModel", "isBijective", "(I)Z"⟩, 18) := ⟨⟨by decide +kernel, by decide +kernel⟩, List.mem_of_getElem? (i := 841) (by decide +kernel), List.mem_of_getElem? (i := 1022) (by decide +kernel), List.mem_of_getElem? (i := 1023) (by decide +kernel)⟩
theorem lw_p33 : lw_okq (⟨"ThreeStrandMapsModel", "manyFail", "(I)I"⟩, 18) := ⟨⟨by decide +kernel, by decide +kernel⟩, List.mem_of_getElem? (i := 841) (by decide +kernel), List.mem_of_getElem? (i := 1046) (by decide +kernel), List.mem_of_getElem? (i := 1047) (by decide +kernel)⟩
theorem lw_p34 : lw_okq (⟨"ThreeStrandMapsModel", "failsAt", "(II)Z"⟩, 18) := ⟨⟨by decide +kernel, by decide +kernel⟩, List.mem_of_getElem? (i := 841) (by decide +kernel), List.mem_of_getElem? (i := 1050) (by decide +kernel), List.mem_of_getElem? (i := 1051) (by decide +kernel)⟩
theorem lw_p35 : lw_okq (⟨"ThreeStrandMapsModel", "threeBy", "(III)I"⟩, 18) := ⟨⟨by decide +kernel, by decide +kernel⟩, List.mem_of_getElem? (i := 841) (by decide +kernel), List.mem_of_getElem? (i := 1054) (by decide +kernel), List.mem_of_getElem? (i := 1055) (by decide +kernel)⟩
theorem lw_p36 : lw_okq (⟨"ThreeStrandMapsModel", "crosses", "(II)V"⟩, 18) := ⟨⟨by decide +kernel, by decide +kernel⟩, List.mem_of_getElem? (i := 841) (by decide +kernel), List.mem_of_getElem? (i := 1058) (by decide +kernel), List.mem_of_getElem? (i := 1059) (by decide +kernel)⟩
theorem lw_p37 : lw_okq (⟨"ThreeStrandMapsModel", "comesBack", "(I)Z"⟩, 18) := ⟨⟨by decide +kernel, by decide +kernel⟩, List.mem_of_getElem? (i := 841) (by decide +kernel), List.mem_of_getElem? (i := 1065) (by decide +kernel), List.mem_of_getElem? (i := 1066) (by decide +kernel)⟩
theorem lw_p38 : lw_okq (⟨"ThreeStrandMapsModel", "isPlain", "(IZ)Z"⟩, 18) := ⟨⟨by decide +kernel, by decide +kernel⟩, List.mem_of_getElem? (i := 841) (by decide +kernel), List.mem_of_getElem? (i := 1069) (by decide +kernel), List.mem_of_getElem? (i := 1070) (by decide +kernel)⟩
theorem lw_p39 : lw_okq (⟨"ThreeStrandMapsModel", "doSquaresStay", "(I)Z"⟩, 18) := ⟨⟨by decide +kernel, by decide +kernel⟩, List.mem_of_getElem? (i := 841) (by decide +kernel), List.mem_of_getElem? (i := 1073) (by decide +kernel), List.mem_of_getElem? (i := 1074) (by decide +kernel)⟩
theorem lw_p40 : lw_okq (⟨"ThreeStrandMapsModel", "wholeLater", "(II)I"⟩, 18) := ⟨⟨by decide +kernel, by decide +kernel⟩, List.mem_of_getElem? (i := 841) (by decide +kernel), List.mem_of_getElem? (i := 1077) (by decide +kernel), List.mem_of_getElem? (i := 1078) (by decide +kernel)⟩
theorem lw_p41 : lw_okq (⟨"ThreeStrandMapsModel", "manyOrbits", "(I)I"⟩, 18) := ⟨⟨by decide +kernel, by decide +kernel⟩, List.mem_of_getElem? (i := 841) (by decide +kernel), List.mem_of_getElem? (i := 1081) (by decide +kernel), List.mem_of_getElem? (i := 1082) (by decide +kernel)⟩
theorem lw_p42 : lw_okq (⟨"ThreeStrandMapsModel", "orbitOf", "(II)I"⟩, 18) := ⟨⟨by decide +kernel, by decide +kernel⟩, List.mem_of_getElem? (i := 841) (by decide +kernel), List.mem_of_getElem? (i := 1085) (by decide +kernel), List.mem_of_getElem? (i := 1086) (by decide +kernel)⟩
theorem lw_p43 : lw_okq (⟨"ThreeStrandMapsModel", "level", "(I)I"⟩, 18) := ⟨⟨by decide +kernel, by decide +kernel⟩, List.mem_of_getElem? (i := 841) (by decide +kernel), List.mem_of_getElem? (i := 1089) (by decide +kernel), List.mem_of_getElem? (i := 1090) (by decide +kernel)⟩
theorem lw_p44 : lw_okq (⟨"ThreeStrandMapsModel", "groupSize", "(I)I"⟩, 18) := ⟨⟨by decide +kernel, by decide +kernel⟩, List.mem_of_getElem? (i := 841) (by decide +kernel), List.mem_of_getElem? (i := 1093) (by decide +kernel), List.mem_of_getElem? (i := 1094) (by decide +kernel)⟩
theorem lw_p45 : lw_okq (⟨"ThreeStrandMapsModel", "firstName", "(I)V"⟩, 18) := ⟨⟨by decide +kernel, by decide +kernel⟩, List.mem_of_getElem? (i := 841) (by decide +kernel), List.mem_of_getElem? (i := 1097) (by decide +kernel), List.mem_of_getElem? (i := 1098) (by decide +kernel)⟩
theorem lw_p46 : lw_okq (⟨"ThreeStrandMapsModel", "nameCode", "(I)I"⟩, 18) := ⟨⟨by decide +kernel, by decide +kernel⟩, List.mem_of_getElem? (i := 841) (by decide +kernel), List.mem_of_getElem? (i := 1101) (by decide +kernel), List.mem_of_getElem? (i := 1102) (by decide +kernel)⟩
theorem lw_p47 : lw_okq (⟨"ThreeStrandMapsModel", "behind", "(III)I"⟩, 18) := ⟨⟨by decide +kernel, by decide +kernel⟩, List.mem_of_getElem? (i := 841) (by decide +kernel), List.mem_of_getElem? (i := 1108) (by decide +kernel), List.mem_of_getElem? (i := 1109) (by decide +kernel)⟩
def lw_privs_3 : List (MethodName × Nat) := [(⟨"ThreeStrandMapsModel", "isBijective", "(I)Z"⟩, 18), (⟨"ThreeStrandMapsModel", "manyFail", "(I)I"⟩, 18), (⟨"ThreeStrandMapsModel", "failsAt", "(II)Z"⟩, 18), (⟨"ThreeStrandMapsModel", "threeBy", "(III)I"⟩, 18), (⟨"ThreeStrandMapsModel", "crosses", "(II)V"⟩, 18), (⟨"ThreeStrandMapsModel", "comesBack", "(I)Z"⟩, 18), (⟨"ThreeStrandMapsModel", "isPlain", "(IZ)Z"⟩, 18), (⟨"ThreeStrandMapsModel", "doSquaresStay", "(I)Z"⟩, 18), (⟨"ThreeStrandMapsModel", "wholeLater", "(II)I"⟩, 18), (⟨"ThreeStrandMapsModel", "manyOrbits", "(I)I"⟩, 18), (⟨"ThreeStrandMapsModel", "orbitOf", "(II)I"⟩, 18), (⟨"ThreeStrandMapsModel", "level", "(I)I"⟩, 18), (⟨"ThreeStrandMapsModel", "groupSize", "(I)I"⟩, 18), (⟨"ThreeStrandMapsModel", "firstName", "(I)V"⟩, 18), (⟨"ThreeStrandMapsModel", "nameCode", "(I)I"⟩, 18), (⟨"ThreeStrandMapsModel", "behind", "(III)I"⟩, 18)]
theorem lw_r3 : ∀ q ∈ lw_privs_3, lw_okq q := List.forall_mem_cons.mpr ⟨lw_p32, List.forall_mem_cons.mpr ⟨lw_p33, List.forall_mem_cons.mpr ⟨lw_p34, List.forall_mem_cons.mpr ⟨lw_p35, List.forall_mem_cons.mpr ⟨lw_p36, List.forall_mem_cons.mpr ⟨lw_p37, List.forall_mem_cons.mpr ⟨lw_p38, List.forall_mem_cons.mpr ⟨lw_p39, List.forall_mem_cons.mpr ⟨lw_p40, List.forall_mem_cons.mpr ⟨lw_p41, List.forall_mem_cons.mpr ⟨lw_p42, List.forall_mem_cons.mpr ⟨lw_p43, List.forall_mem_cons.mpr ⟨lw_p44, List.forall_mem_cons.mpr ⟨lw_p45, List.forall_mem_cons.mpr ⟨lw_p46, List.forall_mem_cons.mpr ⟨lw_p47, fun _ h => absurd h List.not_mem_nil⟩⟩⟩⟩⟩⟩⟩⟩⟩⟩⟩⟩⟩⟩⟩⟩
theorem lw_p48 : lw_okq (⟨"ThreeStrandMapsModel", "likenesses", "(III)I"⟩, 18) := ⟨⟨by decide +kernel, by decide +kernel⟩, List.mem_of_getElem? (i := 841) (by decide +kernel), List.mem_of_getElem? (i := 1112) (by decide +kernel), List.mem_of_getElem? (i := 1113) (by decide +kernel)⟩
theorem lw_p49 : lw_okq (⟨"ThreeStrandMapsModel", "isLike", "(II)Z"⟩, 18) := ⟨⟨by decide +kernel, by decide +kernel⟩, List.mem_of_getElem? (i := 841) (by decide +kernel), List.mem_of_getElem? (i := 1116) (by decide +kernel), List.mem_of_getElem? (i := 1117) (by decide +kernel)⟩
theorem lw_p50 : lw_okq (⟨"ThreeStrandMapsModel", "nextName", "(I)Z"⟩, 18) := ⟨⟨by decide +kernel, by decide +kernel⟩, List.mem_of_getElem? (i := 841) (by decide +kernel), List.mem_of_getElem? (i := 1120) (by decide +kernel), List.mem_of_getElem? (i := 1121) (by decide +kernel)⟩
theorem lw_p51 : lw_okq (⟨"ThreeStrandMapsModel", "order", "(I)I"⟩, 18) := ⟨⟨by decide +kernel, by decide +kernel⟩, List.mem_of_getElem? (i := 841) (by decide +kernel), List.mem_of_getElem? (i := 1124) (by decide +kernel), List.mem_of_getElem? (i := 1125) (by decide +kernel)⟩
theorem lw_p52 : lw_okq (⟨"ThreeStrandMapsModel", "manyClosed", "(I)I"⟩, 18) := ⟨⟨by decide +kernel, by decide +kernel⟩, List.mem_of_getElem? (i := 841) (by decide +kernel), List.mem_of_getElem? (i := 1131) (by decide +kernel), List.mem_of_getElem? (i := 1132) (by decide +kernel)⟩
theorem lw_p53 : lw_okq (⟨"ThreeStrandMapsModel", "isClosed", "(II)Z"⟩, 18) := ⟨⟨by decide +kernel, by decide +kernel⟩, List.mem_of_getElem? (i := 841) (by decide +kernel), List.mem_of_getElem? (i := 1135) (by decide +kernel), List.mem_of_getElem? (i := 1136) (by decide +kernel)⟩
theorem lw_p54 : lw_okq (⟨"ThreeStrandMapsModel", "listedAs", "(I)I"⟩, 18) := ⟨⟨by decide +kernel, by decide +kernel⟩, List.mem_of_getElem? (i := 841) (by decide +kernel), List.mem_of_getElem? (i := 1139) (by decide +kernel), List.mem_of_getElem? (i := 1140) (by decide +kernel)⟩
theorem lw_p55 : lw_okq (⟨"ThreeStrandMapsModel", "layList", "(I)I"⟩, 18) := ⟨⟨by decide +kernel, by decide +kernel⟩, List.mem_of_getElem? (i := 841) (by decide +kernel), List.mem_of_getElem? (i := 1143) (by decide +kernel), List.mem_of_getElem? (i := 1144) (by decide +kernel)⟩
theorem lw_p56 : lw_okq (⟨"ThreeStrandMapsModel", "layRows", "(I)I"⟩, 18) := ⟨⟨by decide +kernel, by decide +kernel⟩, List.mem_of_getElem? (i := 841) (by decide +kernel), List.mem_of_getElem? (i := 1147) (by decide +kernel), List.mem_of_getElem? (i := 1148) (by decide +kernel)⟩
theorem lw_p57 : lw_okq (⟨"ThreeStrandMapsModel", "layNumber", "(III)V"⟩, 18) := ⟨⟨by decide +kernel, by decide +kernel⟩, List.mem_of_getElem? (i := 841) (by decide +kernel), List.mem_of_getElem? (i := 1154) (by decide +kernel), List.mem_of_getElem? (i := 1155) (by decide +kernel)⟩
theorem lw_p58 : lw_okq (⟨"ThreeStrandMapsModel", "firstBad", "()I"⟩, 18) := ⟨⟨by decide +kernel, by decide +kernel⟩, List.mem_of_getElem? (i := 841) (by decide +kernel), List.mem_of_getElem? (i := 1158) (by decide +kernel), List.mem_of_getElem? (i := 1159) (by decide +kernel)⟩
theorem lw_p59 : lw_okq (⟨"ThreeStrandMapsModel", "failsWithin", "(III)Z"⟩, 18) := ⟨⟨by decide +kernel, by decide +kernel⟩, List.mem_of_getElem? (i := 841) (by decide +kernel), List.mem_of_getElem? (i := 1162) (by decide +kernel), List.mem_of_getElem? (i := 1163) (by decide +kernel)⟩
theorem lw_p60 : lw_okq (⟨"ThreeStrandMapsModel", "layRight", "()V"⟩, 18) := ⟨⟨by decide +kernel, by decide +kernel⟩, List.mem_of_getElem? (i := 841) (by decide +kernel), List.mem_of_getElem? (i := 1166) (by decide +kernel), List.mem_of_getElem? (i := 1167) (by decide +kernel)⟩
theorem lw_p61 : lw_okq (⟨"ThreeStrandMapsModel", "comesBackHere", "()Z"⟩, 18) := ⟨⟨by decide +kernel, by decide +kernel⟩, List.mem_of_getElem? (i := 841) (by decide +kernel), List.mem_of_getElem? (i := 1170) (by decide +kernel), List.mem_of_getElem? (i := 1171) (by decide +kernel)⟩
theorem lw_p62 : lw_okq (⟨"ThreeStrandMapsModel", "isFirst", "()Z"⟩, 18) := ⟨⟨by decide +kernel, by decide +kernel⟩, List.mem_of_getElem? (i := 841) (by decide +kernel), List.mem_of_getElem? (i := 1174) (by decide +kernel), List.mem_of_getElem? (i := 1175) (by decide +kernel)⟩
theorem lw_p63 : lw_okq (⟨"ThreeStrandMapsModel", "namedAs", "(II)I"⟩, 18) := ⟨⟨by decide +kernel, by decide +kernel⟩, List.mem_of_getElem? (i := 841) (by decide +kernel), List.mem_of_getElem? (i := 1178) (by decide +kernel), List.mem_of_getElem? (i := 1179) (by decide +kernel)⟩
def lw_privs_4 : List (MethodName × Nat) := [(⟨"ThreeStrandMapsModel", "likenesses", "(III)I"⟩, 18), (⟨"ThreeStrandMapsModel", "isLike", "(II)Z"⟩, 18), (⟨"ThreeStrandMapsModel", "nextName", "(I)Z"⟩, 18), (⟨"ThreeStrandMapsModel", "order", "(I)I"⟩, 18), (⟨"ThreeStrandMapsModel", "manyClosed", "(I)I"⟩, 18), (⟨"ThreeStrandMapsModel", "isClosed", "(II)Z"⟩, 18), (⟨"ThreeStrandMapsModel", "listedAs", "(I)I"⟩, 18), (⟨"ThreeStrandMapsModel", "layList", "(I)I"⟩, 18), (⟨"ThreeStrandMapsModel", "layRows", "(I)I"⟩, 18), (⟨"ThreeStrandMapsModel", "layNumber", "(III)V"⟩, 18), (⟨"ThreeStrandMapsModel", "firstBad", "()I"⟩, 18), (⟨"ThreeStrandMapsModel", "failsWithin", "(III)Z"⟩, 18), (⟨"ThreeStrandMapsModel", "layRight", "()V"⟩, 18), (⟨"ThreeStrandMapsModel", "comesBackHere", "()Z"⟩, 18), (⟨"ThreeStrandMapsModel", "isFirst", "()Z"⟩, 18), (⟨"ThreeStrandMapsModel", "namedAs", "(II)I"⟩, 18)]
theorem lw_r4 : ∀ q ∈ lw_privs_4, lw_okq q := List.forall_mem_cons.mpr ⟨lw_p48, List.forall_mem_cons.mpr ⟨lw_p49, List.forall_mem_cons.mpr ⟨lw_p50, List.forall_mem_cons.mpr ⟨lw_p51, List.forall_mem_cons.mpr ⟨lw_p52, List.forall_mem_cons.mpr ⟨lw_p53, List.forall_mem_cons.mpr ⟨lw_p54, List.forall_mem_cons.mpr ⟨lw_p55, List.forall_mem_cons.mpr ⟨lw_p56, List.forall_mem_cons.mpr ⟨lw_p57, List.forall_mem_cons.mpr ⟨lw_p58, List.forall_mem_cons.mpr ⟨lw_p59, List.forall_mem_cons.mpr ⟨lw_p60, List.forall_mem_cons.mpr ⟨lw_p61, List.forall_mem_cons.mpr ⟨lw_p62, List.forall_mem_cons.mpr ⟨lw_p63, fun _ h => absurd h List.not_mem_nil⟩⟩⟩⟩⟩⟩⟩⟩⟩⟩⟩⟩⟩⟩⟩⟩
theorem lw_p64 : lw_okq (⟨"ThreeStrandMapsModel", "layListed", "(II)V"⟩, 18) := ⟨⟨by decide +kernel, by decide +kernel⟩, List.mem_of_getElem? (i := 841) (by decide +kernel), List.mem_of_getElem? (i := 1182) (by decide +kernel), List.mem_of_getElem? (i := 1183) (by decide +kernel)⟩
theorem lw_p65 : lw_okq (⟨"ThreeStrandMapsModel", "layWords", "(II)V"⟩, 18) := ⟨⟨by decide +kernel, by decide +kernel⟩, List.mem_of_getElem? (i := 841) (by decide +kernel), List.mem_of_getElem? (i := 1216) (by decide +kernel), List.mem_of_getElem? (i := 1217) (by decide +kernel)⟩
theorem lw_p66 : lw_okq (⟨"ThreeStrandMapsModel", "layTuple", "(III)V"⟩, 18) := ⟨⟨by decide +kernel, by decide +kernel⟩, List.mem_of_getElem? (i := 841) (by decide +kernel), List.mem_of_getElem? (i := 1220) (by decide +kernel), List.mem_of_getElem? (i := 1221) (by decide +kernel)⟩
theorem lw_p67 : lw_okq (⟨"ThreeStrandMapsModel", "tupleNumber", "(II)I"⟩, 18) := ⟨⟨by decide +kernel, by decide +kernel⟩, List.mem_of_getElem? (i := 841) (by decide +kernel), List.mem_of_getElem? (i := 1224) (by decide +kernel), List.mem_of_getElem? (i := 1225) (by decide +kernel)⟩
theorem lw_p68 : lw_okq (⟨"ThreeStrandMapsModel", "layCode", "(II)V"⟩, 18) := ⟨⟨by decide +kernel, by decide +kernel⟩, List.mem_of_getElem? (i := 841) (by decide +kernel), List.mem_of_getElem? (i := 1232) (by decide +kernel), List.mem_of_getElem? (i := 1233) (by decide +kernel)⟩
theorem lw_p69 : lw_okq (⟨"ThreeStrandMapsModel", "tupleCode", "(I)I"⟩, 18) := ⟨⟨by decide +kernel, by decide +kernel⟩, List.mem_of_getElem? (i := 841) (by decide +kernel), List.mem_of_getElem? (i := 1236) (by decide +kernel), List.mem_of_getElem? (i := 1237) (by decide +kernel)⟩
theorem lw_p70 : lw_okq (⟨"ThreeStrandMapsModel", "refuses", "(III)I"⟩, 18) := ⟨⟨by decide +kernel, by decide +kernel⟩, List.mem_of_getElem? (i := 841) (by decide +kernel), List.mem_of_getElem? (i := 1259) (by decide +kernel), List.mem_of_getElem? (i := 1260) (by decide +kernel)⟩
theorem lw_p71 : lw_okq (⟨"ThreeStrandMapsModel", "doesFit", "(III)Z"⟩, 18) := ⟨⟨by decide +kernel, by decide +kernel⟩, List.mem_of_getElem? (i := 841) (by decide +kernel), List.mem_of_getElem? (i := 1263) (by decide +kernel), List.mem_of_getElem? (i := 1264) (by decide +kernel)⟩
theorem lw_p72 : lw_okq (⟨"ThreeStrandMapsModel", "goesThrough", "(II)V"⟩, 18) := ⟨⟨by decide +kernel, by decide +kernel⟩, List.mem_of_getElem? (i := 841) (by decide +kernel), List.mem_of_getElem? (i := 1267) (by decide +kernel), List.mem_of_getElem? (i := 1268) (by decide +kernel)⟩
theorem lw_p73 : lw_okq (⟨"ThreeStrandMapsModel", "goesBack", "(II)V"⟩, 18) := ⟨⟨by decide +kernel, by decide +kernel⟩, List.mem_of_getElem? (i := 841) (by decide +kernel), List.mem_of_getElem? (i := 1271) (by decide +kernel), List.mem_of_getElem? (i := 1272) (by decide +kernel)⟩
theorem lw_p74 : lw_okq (⟨"ThreeStrandMapsModel", "laySteps", "(III)V"⟩, 18) := ⟨⟨by decide +kernel, by decide +kernel⟩, List.mem_of_getElem? (i := 841) (by decide +kernel), List.mem_of_getElem? (i := 1279) (by decide +kernel), List.mem_of_getElem? (i := 1280) (by decide +kernel)⟩
def lw_privs_5 : List (MethodName × Nat) := [(⟨"ThreeStrandMapsModel", "layListed", "(II)V"⟩, 18), (⟨"ThreeStrandMapsModel", "layWords", "(II)V"⟩, 18), (⟨"ThreeStrandMapsModel", "layTuple", "(III)V"⟩, 18), (⟨"ThreeStrandMapsModel", "tupleNumber", "(II)I"⟩, 18), (⟨"ThreeStrandMapsModel", "layCode", "(II)V"⟩, 18), (⟨"ThreeStrandMapsModel", "tupleCode", "(I)I"⟩, 18), (⟨"ThreeStrandMapsModel", "refuses", "(III)I"⟩, 18), (⟨"ThreeStrandMapsModel", "doesFit", "(III)Z"⟩, 18), (⟨"ThreeStrandMapsModel", "goesThrough", "(II)V"⟩, 18), (⟨"ThreeStrandMapsModel", "goesBack", "(II)V"⟩, 18), (⟨"ThreeStrandMapsModel", "laySteps", "(III)V"⟩, 18)]
theorem lw_r5 : ∀ q ∈ lw_privs_5, lw_okq q := List.forall_mem_cons.mpr ⟨lw_p64, List.forall_mem_cons.mpr ⟨lw_p65, List.forall_mem_cons.mpr ⟨lw_p66, List.forall_mem_cons.mpr ⟨lw_p67, List.forall_mem_cons.mpr ⟨lw_p68, List.forall_mem_cons.mpr ⟨lw_p69, List.forall_mem_cons.mpr ⟨lw_p70, List.forall_mem_cons.mpr ⟨lw_p71, List.forall_mem_cons.mpr ⟨lw_p72, List.forall_mem_cons.mpr ⟨lw_p73, List.forall_mem_cons.mpr ⟨lw_p74, fun _ h => absurd h List.not_mem_nil⟩⟩⟩⟩⟩⟩⟩⟩⟩⟩⟩
def lw_privs : List (MethodName × Nat) := lw_privs_1 ++ (lw_privs_2 ++ (lw_privs_3 ++ (lw_privs_4 ++ (lw_privs_5))))
def lw_tbl : List Cond := k2_sels lw_privs ++ tables_1
theorem lw_privs_ok : ∀ q ∈ lw_privs, lw_okq q := by
  show ∀ q ∈ lw_privs_1 ++ (lw_privs_2 ++ (lw_privs_3 ++ (lw_privs_4 ++ (lw_privs_5)))), lw_okq q
  exact List.forall_mem_append.mpr ⟨lw_r1, List.forall_mem_append.mpr ⟨lw_r2, List.forall_mem_append.mpr ⟨lw_r3, List.forall_mem_append.mpr ⟨lw_r4, lw_r5⟩⟩⟩⟩
/-! THE CLAIM OUT OF ONE WALK OF THE LAW'S BODY. Your part is whole_start (and what it stands on); all else here is the same for every law, but numbers. -/
def R_law : String := "ThreeStrandMapsLaw"
def lw_P (b : Addr) (xs : List Int32) (args : Array Value) (s : State) : Prop := args = #[.ref b] ∧ s.IntsAt b xs ∧ xs.length ≤ 3072 ∧ (Jvm.Cond.and given_1 narrow_1).before args s = true
def lw_Q (_ : Array Value) (s : State) (o : Outcome) (t : State) : Prop := o = .returned (some (.int 1)) ∧ Framed s o t [] 600000 7302249
def lw_Z (below : List Frame) (a : Array Value) (s : State) : State → Prop := fun t => ∃ o, t.status = .running ∧ Ended t below o ∧ lw_Q a s o t
/-- the law's own end, with 1 on the stack, nothing written that was there before, its room as the claim has it -/
theorem lw_ret {p : Program} {l : Launch} {e : Env} {s : State} {m : MethodId} {below : List Frame} {meth : Method} {c : Code} {b : Nat} (hx : p.tables.exec = Jvm.exec) (hb : c.code = code) (hr : meth.sig.returnType = ret) (hlocks : meth.locks = false) {pc : Nat} {H : Heap} {ls : Array Slot} (hdg : decode code pc = .ok (.ireturn, 1)) : W p l e room_1 s m #[Value.ref b] below meth c H [] 600000 7302249 (lw_Z below #[Value.ref b] s) (F0 m pc ls [.int 1]) := by
  intro T hT X
  obtain ⟨fs, hret, hrun, hended, hW, hframe⟩ := X.leave (v := some (.int 1)) (hlocks := hlocks) (fun h => by rw [hr] at h; cases h)
  have hmeth' : T.vm.method? m = some meth := X.method'
  refine ⟨T.setFrames fs, ?_, .returned (some (.int 1)), hrun, hended, rfl, ⟨_, rfl⟩, hW, hframe⟩
  jvm_step X.here [X.here.top, hx, hb, hdg, hmeth', hr, ret, narrow_b1]
  (try refine ⟨rfl, ?_⟩); (try refine ⟨rfl, ?_⟩)
  first | (intro acts; rw [hret _ acts rfl rfl rfl]) | rw [hret _ _ rfl rfl rfl]
  exact Steps.refl _
/-- what holds at the law's entry: the machine, the code, the tables' words (any of lw_tbl by 'hts w (by decide +kernel)'), the script of L ints xs at the cell b, what the Statement gives of the start (any of its parts by flat_of_before) -/
def lw_At (p : Program) (s : State) (m : MethodId) (meth : Method) (c : Code) (b L : Nat) (xs : Nat → Int32) : Prop :=
  p.tables.exec = Jvm.exec ∧ c.code = code ∧ meth.sig.returnType = ret ∧ c.maxLocals = 4 ∧ s.vm.findClass R_law = some m.cls ∧ (∀ w ∈ lw_tbl, w.before #[Value.ref b] s = true) ∧ va_X b L xs s s.heap ∧ b < s.heap.size ∧ meth.locks = false ∧ (Jvm.Cond.and given_1 narrow_1).before #[Value.ref b] s = true
end
section
/-! values, memory, places: the cells of the whole world by kind and number -/
abbrev ZV : Type := Int32 ⊕ (Int64 ⊕ (Nat × Nat))
abbrev zi (x : Int32) : ZV := Sum.inl x
abbrev zl (x : Int64) : ZV := Sum.inr (Sum.inl x)
abbrev zr (k i : Nat) : ZV := Sum.inr (Sum.inr (k, i))
abbrev ZM : Type := (Nat → Nat → Nat → Int32) × (Nat → Nat → Nat → Int64)
abbrev ZL : Type := List (Nat × ZV)
abbrev ZG : Type := Launch × ((Nat → Nat → Nat) × (va_G × ((Nat → ClassId) × ((Nat → Prop) × (Nat × (Nat → Int32))))))
def gl (G : ZG) : Launch := G.1
def ga (G : ZG) : Nat → Nat → Nat := G.2.1
def gD (G : ZG) : va_G := G.2.2.1
def gc (G : ZG) : Nat → ClassId := G.2.2.2.1
def gA (G : ZG) : Nat → Prop := G.2.2.2.2.1
def gN (G : ZG) : Nat := G.2.2.2.2.2.1
def gX (G : ZG) : Nat → Int32 := G.2.2.2.2.2.2
def zc (G : ZG) (v : ZV) : Value := match v with
  | .inl x => .int x
  | .inr (.inl x) => .long x
  | .inr (.inr q) => .ref (ga G q.1 q.2)
def zcat (v : ZV) : Nat := match v with
  | .inl _ => 1
  | .inr (.inl _) => 2
  | .inr (.inr _) => 1
theorem zcat_eq (G : ZG) (v : ZV) : (zc G v).category = zcat v := by
  rcases v with x | x | x <;> rfl
def zct : List ZV → Nat
  | [] => 0
  | v :: r => zcat v + zct r
theorem zct_eq (G : ZG) (st : List ZV) : ((st.map (zc G)).map fun v => v.category).sum = zct st := by
  induction st with
  | nil => rfl
  | cons v r ih => simp only [List.map_cons, List.sum_cons, ih, zcat_eq, zct]
/-- a field: a number, or the cell that it holds for ever (its kind; its number; or the number of the object itself) -/
abbrev ZF : Type := Option (Nat × Nat × Bool)
/-- a kind: objects (class, fields) or arrays (0 int, 1 long, 2 boolean, 3 PairMap, 4 Braid; length) -/
abbrev ZK : Type := (Nat × List ZF) ⊕ (Nat × Nat)
def zKL : List (ZK × Nat) := [
  (.inl (0, [some (1, 0, true), none]), 10), (.inr (0, 64), 10),
  (.inl (1, [some (3, 0, true), some (4, 0, true), none]), 3), (.inr (0, 24), 3), (.inr (2, 24), 3),
  (.inl (2, [some (6, 0, false), some (7, 0, false), some (0, 4, false), some (2, 2, false), some (0, 5, false), some (8, 0, false), some (11, 0, false), some (13, 0, false), some (16, 0, false), some (18, 0, false)]), 1), (.inr (3, 4), 1), (.inr (4, 2), 1),
  (.inl (3, [some (9, 0, false), some (10, 0, false), none, some (0, 6, false), some (0, 7, false)]), 1), (.inr (0, 8), 1), (.inr (0, 8), 1),
  (.inl (4, [some (12, 0, false)]), 1), (.inr (0, 8), 1),
  (.inl (5, [some (14, 0, false), some (15, 0, false), none]), 1), (.inr (0, 720), 1), (.inr (1, 512), 1),
  (.inl (6, [some (17, 0, false), none]), 1), (.inr (0, 4096), 1),
  (.inl (7, [some (0, 8, false), some (0, 9, false), some (19, 0, false)]), 1), (.inr (1, 64), 1),
  (.inl (8, [some (21, 0, false), some (22, 0, false), some (23, 0, false), some (24, 0, false), some (25, 0, false), some (26, 0, false), some (27, 0, false), some (28, 0, false), some (29, 0, false), none, some (30, 0, false), some (31, 0, false), some (32, 0, false), some (33, 0, false), some (34, 0, false), some (35, 0, false), some (36, 0, false), some (37, 0, false)]), 1),
  (.inr (0, 6), 1), (.inr (0, 216), 1), (.inr (0, 216), 1), (.inr (0, 6), 1), (.inr (0, 6), 1), (.inr (0, 6), 1), (.inr (0, 4), 1), (.inr (2, 720), 1), (.inr (0, 720), 1), (.inr (0, 2560), 1), (.inr (0, 5), 1), (.inr (0, 96), 1), (.inr (0, 1296), 1), (.inr (0, 1296), 1), (.inr (0, 1296), 1), (.inr (0, 48), 1), (.inr (0, 2), 1)]
def zK (k : Nat) : ZK := (zKL.getD k (.inl (0, []), 0)).1
def zN (k : Nat) : Nat := (zKL.getD k (.inl (0, []), 0)).2
def zfv (k i j : Nat) (M : ZM) (f : ZF) : ZV := match f with
  | none => zi (M.1 k i j)
  | some (k', c, b) => match b with
    | true => zr k' i
    | false => zr k' c
def zfs (G : ZG) (M : ZM) (k i : Nat) (fs : List ZF) : List Value := fs.zipIdx.map (fun p => zc G (zfv k i p.2 M p.1))
def zarr (G : ZG) (M : ZM) (k i t n : Nat) : ClassId × vp_A := match t with
  | 0 => (gc G 0, n, .inl (M.1 k i))
  | 1 => (gc G 1, n, .inr (.inl (M.2 k i)))
  | 2 => (gc G 2, n, .inl (M.1 k i))
  | 3 => (gc G 3, n, .inr (.inr (.inr (.inr fun j => some (ga G 0 j)))))
  | _ => (gc G 4, n, .inr (.inr (.inr (.inr fun j => some (ga G 2 j)))))
def zent (G : ZG) (M : ZM) (k i : Nat) : va_E := match zK k with
  | .inl (ci, fs) => .inr (ci, zfs G M k i fs)
  | .inr (t, n) => .inl (zarr G M k i t n)
def zcells : List (Nat × Nat) := (List.range 38).flatMap fun k => (List.range (zN k)).map fun i => (k, i)
def zws (G : ZG) (M : ZM) : va_W := zcells.map fun c => (ga G c.1 c.2, zent G M c.1 c.2)
def ztys (G : ZG) : List (ClassId × FieldType) := [(gc G 0, .int), (gc G 1, .long), (gc G 2, .boolean), (gc G 3, .object "ThreeStrandMaps$PairMap"), (gc G 4, .object "ThreeStrandMaps$Braid")]
def zT0 : u_T := fun k => match k with
  | 0 => ("ThreeStrandMaps$PairMap", "images", "[I", true)
  | _ => ("ThreeStrandMaps$PairMap", "points", "I", false)
def zT1 : u_T := fun k => match k with
  | 0 => ("ThreeStrandMaps$Braid", "positions", "[I", true)
  | 1 => ("ThreeStrandMaps$Braid", "capitals", "[Z", true)
  | _ => ("ThreeStrandMaps$Braid", "length", "I", false)
def zT2 : u_T := fun k => match k with
  | 0 => ("ThreeStrandMaps", "places", "[LThreeStrandMaps$PairMap;", true)
  | 1 => ("ThreeStrandMaps", "braids", "[LThreeStrandMaps$Braid;", true)
  | 2 => ("ThreeStrandMaps", "noMap", "LThreeStrandMaps$PairMap;", true)
  | 3 => ("ThreeStrandMaps", "noBraid", "LThreeStrandMaps$Braid;", true)
  | 4 => ("ThreeStrandMaps", "made", "LThreeStrandMaps$PairMap;", true)
  | 5 => ("ThreeStrandMaps", "classes", "LThreeStrandMaps$AlikeClasses;", true)
  | 6 => ("ThreeStrandMaps", "renamings", "LThreeStrandMaps$Renamings;", true)
  | 7 => ("ThreeStrandMaps", "rowGroup", "LThreeStrandMaps$RowGroup;", true)
  | 8 => ("ThreeStrandMaps", "wordClasses", "LThreeStrandMaps$WordClasses;", true)
  | _ => ("ThreeStrandMaps", "action", "LThreeStrandMaps$BraidAction;", true)
def zT3 : u_T := fun k => match k with
  | 0 => ("ThreeStrandMaps$AlikeClasses", "classes", "[I", true)
  | 1 => ("ThreeStrandMaps$AlikeClasses", "smallest", "[I", true)
  | 2 => ("ThreeStrandMaps$AlikeClasses", "size", "I", false)
  | 3 => ("ThreeStrandMaps$AlikeClasses", "current", "LThreeStrandMaps$PairMap;", true)
  | _ => ("ThreeStrandMaps$AlikeClasses", "smaller", "LThreeStrandMaps$PairMap;", true)
def zT4 : u_T := fun k => match k with
  | _ => ("ThreeStrandMaps$Renamings", "images", "[I", true)
def zT5 : u_T := fun k => match k with
  | 0 => ("ThreeStrandMaps$RowGroup", "elements", "[I", true)
  | 1 => ("ThreeStrandMaps$RowGroup", "seen", "[J", true)
  | _ => ("ThreeStrandMaps$RowGroup", "size", "I", false)
def zT6 : u_T := fun k => match k with
  | 0 => ("ThreeStrandMaps$WordClasses", "smaller", "[I", true)
  | _ => ("ThreeStrandMaps$WordClasses", "size", "I", false)
def zT7 : u_T := fun k => match k with
  | 0 => ("ThreeStrandMaps$BraidAction", "map", "LThreeStrandMaps$PairMap;", true)
  | 1 => ("ThreeStrandMaps$BraidAction", "inverse", "LThreeStrandMaps$PairMap;", true)
  | _ => ("ThreeStrandMaps$BraidAction", "seen", "[J", true)
def zT8 : u_T := fun k => match k with
  | 0 => ("ThreeStrandMapsModel", "many", "[I", true)
  | 1 => ("ThreeStrandMapsModel", "left", "[I", true)
  | 2 => ("ThreeStrandMapsModel", "right", "[I", true)
  | 3 => ("ThreeStrandMapsModel", "name", "[I", true)
  | 4 => ("ThreeStrandMapsModel", "clazz", "[I", true)
  | 5 => ("ThreeStrandMapsModel", "least", "[I", true)
  | 6 => ("ThreeStrandMapsModel", "t", "[I", true)
  | 7 => ("ThreeStrandMapsModel", "seen", "[Z", true)
  | 8 => ("ThreeStrandMapsModel", "found", "[I", true)
  | 9 => ("ThreeStrandMapsModel", "theLikeness", "I", false)
  | 10 => ("ThreeStrandMapsModel", "listed", "[I", true)
  | 11 => ("ThreeStrandMapsModel", "manyListed", "[I", true)
  | 12 => ("ThreeStrandMapsModel", "row", "[I", true)
  | 13 => ("ThreeStrandMapsModel", "label", "[I", true)
  | 14 => ("ThreeStrandMapsModel", "step", "[I", true)
  | 15 => ("ThreeStrandMapsModel", "at", "[I", true)
  | 16 => ("ThreeStrandMapsModel", "braid", "[I", true)
  | _ => ("ThreeStrandMapsModel", "size", "[I", true)
def zcls : List vw_C := [("ThreeStrandMaps$PairMap", zT0, 2), ("ThreeStrandMaps$Braid", zT1, 3), ("ThreeStrandMaps", zT2, 10), ("ThreeStrandMaps$AlikeClasses", zT3, 5), ("ThreeStrandMaps$Renamings", zT4, 1), ("ThreeStrandMaps$RowGroup", zT5, 3), ("ThreeStrandMaps$WordClasses", zT6, 2), ("ThreeStrandMaps$BraidAction", zT7, 3), ("ThreeStrandMapsModel", zT8, 18)]
def zrowL : List Int64 := [0x0, 0x0101, 0x1010, 0x012012012, 0x012012102, 0x012021021, 0x021021021, 0x120120120, 0x0123012301230123, 0x0123012301230213, 0x0123012301231203, 0x0123012301320132, 0x0123012301321032, 0x0123012310231023, 0x0123012310321032, 0x0123013201320132, 0x0123023102310231, 0x0132013201320132, 0x0132013210231023, 0x0132013210321032, 0x0132231032011023, 0x0231023102310231, 0x0231031203120312, 0x1023102301320132, 0x1023102301321032, 0x1023102310321032, 0x1023231001323201, 0x1032103210321032, 0x1032230123011032, 0x1230123012301230, 0x1230301212303012]
def zrows (j : Nat) : Int64 := zrowL.getD j 0
def zTw : List Jvm.Cond := lw_tbl.filter goodWord
def znest : List Jvm.Cond := lw_tbl.filter (fun w => match w with | .methodLinkNest _ _ _ _ => true | _ => false)
theorem zTw_of {w : Jvm.Cond} (q : Nat) (h : lw_tbl[q]? = some w) (hg : goodWord w = true) : w ∈ zTw := List.mem_filter.mpr ⟨List.mem_of_getElem? h, hg⟩
/-! cells -/
def zval (k i : Nat) : Prop := k < 38 ∧ i < zN k
theorem zcells_mem {k i : Nat} (h : zval k i) : (k, i) ∈ zcells := by
  unfold zcells
  rw [List.mem_flatMap]
  exact ⟨k, List.mem_range.mpr h.1, List.mem_map.mpr ⟨i, List.mem_range.mpr h.2, rfl⟩⟩
theorem zcells_len : zcells.length = 62 := by decide +kernel
theorem zcells_inj0 : ∀ i, i < 62 → ∀ j, j < 62 → zcells[i]? = zcells[j]? → i = j := by decide +kernel
theorem zcells_inj {i j : Nat} {c : Nat × Nat} (hi : zcells[i]? = some c) (hj : zcells[j]? = some c) : i = j := by
  have h1 := (List.getElem?_eq_some_iff.mp hi).1
  have h2 := (List.getElem?_eq_some_iff.mp hj).1
  rw [zcells_len] at h1 h2
  exact zcells_inj0 i h1 j h2 (hi.trans hj.symm)
def zok (G : ZG) : Prop := (∀ c ∈ zcells, ∀ c' ∈ zcells, ga G c.1 c.2 = ga G c'.1 c'.2 → c = c') ∧ ∀ c ∈ zcells, gA G (ga G c.1 c.2)
theorem zws_at {G : ZG} {k i : Nat} (h : zval k i) : ∃ q0 : Nat, zcells[q0]? = some (k, i) ∧ ∀ M, (zws G M)[q0]? = some (ga G k i, zent G M k i) := by
  obtain ⟨q0, hq⟩ := List.getElem?_of_mem (zcells_mem h)
  refine ⟨q0, hq, fun M => ?_⟩
  unfold zws
  rw [List.getElem?_map, hq]
  rfl
theorem zws_D {G : ZG} (h : zok G) (M : ZM) : va_D (gA G) (zws G M) := by
  refine ⟨fun i j p q hi hj he => ?_, fun k q hk => ?_⟩
  · unfold zws at hi hj
    rw [List.getElem?_map, Option.map_eq_some_iff] at hi hj
    obtain ⟨c, hc, rfl⟩ := hi
    obtain ⟨c', hc', rfl⟩ := hj
    have h1 := h.1 c (List.mem_of_getElem? hc) c' (List.mem_of_getElem? hc') he
    subst h1
    exact zcells_inj hc hc'
  · unfold zws at hk
    rw [List.getElem?_map, Option.map_eq_some_iff] at hk
    obtain ⟨c, hc, rfl⟩ := hk
    exact h.2 c (List.mem_of_getElem? hc)
def zset (k i j : Nat) (v : Int32) (M : ZM) : ZM := (fun a b c => if a = k ∧ b = i ∧ c = j then v else M.1 a b c, M.2)
def zsetL (k i j : Nat) (v : Int64) (M : ZM) : ZM := (M.1, fun a b c => if a = k ∧ b = i ∧ c = j then v else M.2 a b c)
theorem zfs_congr {G : ZG} {M M' : ZM} {k i : Nat} (h : M.1 k i = M'.1 k i) (fs : List ZF) : zfs G M k i fs = zfs G M' k i fs := by
  unfold zfs
  apply List.map_congr_left
  intro p _
  rcases p with ⟨f, j⟩
  cases f with
  | none => simp only [zfv, h]
  | some f => rcases f with ⟨a, b, c⟩; cases c <;> rfl
theorem zent_congr {G : ZG} {M M' : ZM} {k i : Nat} (h1 : M.1 k i = M'.1 k i) (h2 : M.2 k i = M'.2 k i) : zent G M k i = zent G M' k i := by
  unfold zent
  split
  · rw [zfs_congr h1]
  · unfold zarr
    split <;> simp only [h1, h2]
theorem zset_row {k i j : Nat} {v : Int32} {M : ZM} : (zset k i j v M).1 k i = upd (M.1 k i) j v := by
  funext c
  simp [zset, upd]
theorem zsetL_row {k i j : Nat} {v : Int64} {M : ZM} : (zsetL k i j v M).2 k i = vp_updL (M.2 k i) j v := by
  funext c
  simp [zsetL, vp_updL]
theorem zset_off {k i j a b : Nat} {v : Int32} {M : ZM} (h : ¬ (a = k ∧ b = i)) : (zset k i j v M).1 a b = M.1 a b := by
  funext c
  simp only [zset]
  rw [if_neg (fun q => h ⟨q.1, q.2.1⟩)]
theorem zsetL_off {k i j a b : Nat} {v : Int64} {M : ZM} (h : ¬ (a = k ∧ b = i)) : (zsetL k i j v M).2 a b = M.2 a b := by
  funext c
  simp only [zsetL]
  rw [if_neg (fun q => h ⟨q.1, q.2.1⟩)]
theorem zws_set {G : ZG} {M M' : ZM} {k i q0 : Nat} {e' : va_E} (hq : zcells[q0]? = some (k, i)) (h1 : ∀ a b, ¬ (a = k ∧ b = i) → M.1 a b = M'.1 a b ∧ M.2 a b = M'.2 a b) (he : zent G M' k i = e') : (zws G M).set q0 (ga G k i, e') = zws G M' := by
  apply List.ext_getElem?
  intro n
  rw [List.getElem?_set]
  split
  · rename_i hn
    subst hn
    obtain ⟨hlt, -⟩ := List.getElem?_eq_some_iff.mp hq
    unfold zws
    rw [if_pos (by simpa using hlt), List.getElem?_map, hq]
    simp only [Option.map_some, he]
  · rename_i hn
    unfold zws
    rw [List.getElem?_map, List.getElem?_map]
    cases hc : zcells[n]? with
    | none => rfl
    | some c =>
      simp only [Option.map_some]
      have hne : ¬ (c.1 = k ∧ c.2 = i) := by
        intro hck
        apply hn
        exact zcells_inj hq (by rw [hc]; exact congrArg some (Prod.ext hck.1 hck.2))
      rw [zent_congr (h1 c.1 c.2 hne).1 (h1 c.1 c.2 hne).2]
/-! locals, sorted by their places -/
def lget : ZL → Nat → Option ZV
  | [], _ => none
  | q :: r, n => bif q.1 == n then some q.2 else lget r n
theorem lget_mem {l : ZL} {n : Nat} {v : ZV} (h : lget l n = some v) : (n, v) ∈ l := by
  induction l with
  | nil => simp [lget] at h
  | cons q r ih =>
    obtain ⟨a, b⟩ := q
    unfold lget at h
    cases hq : a == n with
    | true =>
      simp only [hq, cond_true, Option.some.injEq] at h
      rw [← h, ← beq_iff_eq.mp hq]
      exact List.mem_cons_self
    | false =>
      simp only [hq, cond_false] at h
      exact List.mem_cons_of_mem _ (ih h)
def lkp (n c : Nat) (q : Nat × ZV) : Bool := !(q.1 == n) && (!(c == 2 && q.1 == n + 1) && !(q.1 + 1 == n && zcat q.2 == 2))
def lflt (n c : Nat) : ZL → ZL
  | [] => []
  | q :: r => bif lkp n c q then q :: lflt n c r else lflt n c r
def lins (n : Nat) (v : ZV) : ZL → ZL
  | [] => [(n, v)]
  | q :: r => bif Nat.ble n q.1 then (n, v) :: q :: r else q :: lins n v r
def lput (n : Nat) (v : ZV) (l : ZL) : ZL := lins n v (lflt n (zcat v) l)
def zkeep (ks : List Nat) : ZL → ZL
  | [] => []
  | q :: r => bif ks.elem q.1 then q :: zkeep ks r else zkeep ks r
theorem lflt_mem {n c : Nat} {l : ZL} {q : Nat × ZV} (h : q ∈ lflt n c l) : q ∈ l ∧ lkp n c q = true := by
  induction l with
  | nil => simp [lflt] at h
  | cons a r ih =>
    unfold lflt at h
    cases hc : lkp n c a with
    | true =>
      rw [hc] at h
      simp only [cond_true, List.mem_cons] at h
      rcases h with h | h
      · subst h; exact ⟨List.mem_cons_self, hc⟩
      · exact ⟨List.mem_cons_of_mem _ (ih h).1, (ih h).2⟩
    | false =>
      rw [hc] at h
      simp only [cond_false] at h
      exact ⟨List.mem_cons_of_mem _ (ih h).1, (ih h).2⟩
theorem lins_mem {n : Nat} {v : ZV} {l : ZL} {q : Nat × ZV} (h : q ∈ lins n v l) : q = (n, v) ∨ q ∈ l := by
  induction l with
  | nil => simp [lins] at h; exact Or.inl h
  | cons a r ih =>
    unfold lins at h
    cases hc : Nat.ble n a.1 with
    | true =>
      rw [hc] at h
      simp only [cond_true, List.mem_cons] at h
      rcases h with h | h | h
      · exact Or.inl h
      · exact Or.inr (by rw [h]; exact List.mem_cons_self)
      · exact Or.inr (List.mem_cons_of_mem _ h)
    | false =>
      rw [hc] at h
      simp only [cond_false, List.mem_cons] at h
      rcases h with h | h
      · exact Or.inr (by rw [h]; exact List.mem_cons_self)
      · rcases ih h with h | h
        · exact Or.inl h
        · exact Or.inr (List.mem_cons_of_mem _ h)
theorem zkeep_mem {ks : List Nat} {l : ZL} {q : Nat × ZV} (h : q ∈ zkeep ks l) : q ∈ l := by
  induction l with
  | nil => simp [zkeep] at h
  | cons a r ih =>
    unfold zkeep at h
    cases hc : ks.elem a.1 with
    | true =>
      rw [hc] at h
      simp only [cond_true, List.mem_cons] at h
      rcases h with h | h
      · rw [h]; exact List.mem_cons_self
      · exact List.mem_cons_of_mem _ (ih h)
    | false =>
      rw [hc] at h
      simp only [cond_false] at h
      exact List.mem_cons_of_mem _ (ih h)
abbrev zlm (G : ZG) (l : ZL) : List (Nat × Value) := l.map fun q => (q.1, zc G q.2)
theorem lget_has {G : ZG} {ls : Array Slot} {nL n : Nat} {l : ZL} {v : ZV} (h : lv_has ls nL (zlm G l)) (hg : lget l n = some v) : ls[n]? = some (.val (zc G v)) :=
  h.2.2 (n, zc G v) (List.mem_map.mpr ⟨(n, v), lget_mem hg, rfl⟩)
theorem zkeep_has {G : ZG} {ls : Array Slot} {nL : Nat} {l l' : ZL} (h : lv_has ls nL (zlm G l)) (hs : ∀ q ∈ l', q ∈ l) : lv_has ls nL (zlm G l') := by
  refine ⟨h.1, h.2.1, fun q hq => ?_⟩
  obtain ⟨q', hq', rfl⟩ := List.mem_map.mp hq
  exact h.2.2 _ (List.mem_map.mpr ⟨q', hs q' hq', rfl⟩)
theorem lput_has1 {G : ZG} {ls : Array Slot} {nL n : Nat} {l : ZL} {v : ZV} (h : lv_has ls nL ((n, zc G v) :: (zlm G l).filter (fun q => !(q.1 == n) && !(q.1 + 1 == n && q.2.category == 2)))) : lv_has ls nL (zlm G (lput n v l)) := by
  refine ⟨h.1, h.2.1, fun q hq => h.2.2 q ?_⟩
  obtain ⟨q', hq', rfl⟩ := List.mem_map.mp hq
  rcases lins_mem hq' with h1 | h1
  · rw [h1]; exact List.mem_cons_self
  · obtain ⟨h2, h3⟩ := lflt_mem h1
    refine List.mem_cons_of_mem _ (List.mem_filter.mpr ⟨List.mem_map.mpr ⟨q', h2, rfl⟩, ?_⟩)
    simp only [lkp, Bool.and_eq_true] at h3
    simp only [Bool.and_eq_true, zcat_eq]
    exact ⟨h3.1, h3.2.2⟩
theorem lput_has2 {G : ZG} {ls : Array Slot} {nL n : Nat} {l : ZL} {x : Int64} (h : lv_has ls nL ((n, zc G (zl x)) :: (zlm G l).filter (fun q => !(q.1 == n) && (!(q.1 == n + 1) && !(q.1 + 1 == n && q.2.category == 2))))) : lv_has ls nL (zlm G (lput n (zl x) l)) := by
  refine ⟨h.1, h.2.1, fun q hq => h.2.2 q ?_⟩
  obtain ⟨q', hq', rfl⟩ := List.mem_map.mp hq
  rcases lins_mem hq' with h1 | h1
  · rw [h1]; exact List.mem_cons_self
  · obtain ⟨h2, h3⟩ := lflt_mem h1
    refine List.mem_cons_of_mem _ (List.mem_filter.mpr ⟨List.mem_map.mpr ⟨q', h2, rfl⟩, ?_⟩)
    simp only [lkp, zcat, Bool.and_eq_true, beq_self_eq_true, Bool.true_and] at h3
    simp only [Bool.and_eq_true, zcat_eq]
    exact ⟨h3.1, h3.2.1, h3.2.2⟩
/-! methods, their contracts, the walk's judgement -/
/-- name, code, locals, answer's type, arguments (the receiver apart), depth of its calls (11: the law) -/
abbrev ZI : Type := MethodName × (ByteArray × (Nat × (Option FieldType × (Nat × Nat))))
def iN (m : ZI) : MethodName := m.1
def iB (m : ZI) : ByteArray := m.2.1
def iL (m : ZI) : Nat := m.2.2.1
def iR (m : ZI) : Option FieldType := m.2.2.2.1
def iA (m : ZI) : Nat := m.2.2.2.2.1
def iD (m : ZI) : Nat := m.2.2.2.2.2
def zrm (m : ZI) : Room := { frames := iD m, cells := 0, slots := 0, locals := 39 * iD m }
def zR (m : ZI) : Room := bif iD m == 11 then room_1 else zrm m
def zC (m : ZI) : Nat := bif iD m == 11 then 600000 else 0
def zS (m : ZI) : Nat := bif iD m == 11 then 7302249 else 0
def zwm (m : ZI) : List Jvm.Cond := Jvm.Cond.code (iN m) (iB m) (iL m) (iR m) :: zTw
def zEnv (G : ZG) (U : State) (H : Heap) : Prop := va_K (gD G) zcls (ztys G) U ∧ va_Z "ThreeStrandMaps$SolutionList" "ROWS" "[J" (.ref (ga G 38 0)) (gA G) U H ∧ va_T .long (ga G 38 0) 31 (fun j => .long (zrows j)) (gA G) U H ∧ va_T .int (ga G 39 0) (gN G) (fun j => .int (gX G j)) (gA G) U H ∧ ∀ w ∈ znest, va_Nw w U
def zPc (G : ZG) (M : ZM) (av : List ZV) : Array Value → State → Prop := va_Pc (av.map (zc G)) (fun U => va_P (gD G) zcls (zws G M) U.heap ∧ zEnv G U U.heap)
def zQc (G : ZG) (Z : Option ZV → ZM → Prop) : Array Value → State → Outcome → State → Prop := fun _ st oc t => (∃ (r : Option ZV) (M' : ZM), oc = .returned (r.map (zc G)) ∧ Z r M' ∧ va_P (gD G) zcls (zws G M') t.heap) ∧ va_F (gA G) st t
def zZ (below : List Frame) (a : Array Value) (s : State) : State → Prop := fun t => ∃ o, t.status = .running ∧ Ended t below o ∧ lw_Q a s o t
def zQ (G : ZG) (m : ZI) (Z : Option ZV → ZM → Prop) (below : List Frame) (a : Array Value) (s : State) : State → Prop := bif iD m == 11 then zZ below a s else MQ below (zQc G Z) a s 0 0 (gA G)
/-- the contract of a method, from a memory M, with arguments av: it ends with an answer and a memory of which Z holds -/
def Ctr (n : Nat) (G : ZG) (mi : ZI) (av : List ZV) (M : ZM) (Z : Option ZV → ZM → Prop) : Prop :=
  if n = 0 then (zok G → Met (gl G) (iN mi) (zwm mi) (zrm mi) (zPc G M av) (zQc G Z) 0 0 (gA G)) else Ctr (n - 1) G mi av M Z
termination_by n
/-- from here in the method's body: it comes to an end of which Z holds -/
def V (n : Nat) (G : ZG) (mi : ZI) (Z : Option ZV → ZM → Prop) (pc : Nat) (l : ZL) (st : List ZV) (M : ZM) : Prop :=
  if n = 0 then (zok G → ∀ (p : Program) (e : Env) (s : State) (m : MethodId) (args : Array Value) (below : List Frame) (meth : Method) (c : Code) (H : Heap) (locs : List Loc) (ls : Array Slot),
    CallFix p m c (iB mi) (iL mi) s args zTw (iN mi).cls → meth.sig.returnType = iR mi → meth.locks = false → (iD mi = 11 → ∀ q, gA G q → s.heap.size ≤ q) → zEnv G s s.heap → va_P (gD G) zcls (zws G M) H → va_S (gA G) s.heap H locs → lv_has ls (iL mi) (zlm G l) →
    W p (gl G) e (zR mi) s m args below meth c H locs (zC mi) (zS mi) (zQ G mi Z below args s) (F0 m pc ls (st.map (zc G)))) else V (n - 1) G mi Z pc l st M
termination_by n
theorem Ctr_eq (G : ZG) (mi : ZI) (av : List ZV) (M : ZM) (Z : Option ZV → ZM → Prop) : Ctr 0 G mi av M Z = (zok G → Met (gl G) (iN mi) (zwm mi) (zrm mi) (zPc G M av) (zQc G Z) 0 0 (gA G)) := by
  rw [Ctr]; rfl
theorem V_eq (G : ZG) (mi : ZI) (Z : Option ZV → ZM → Prop) (pc : Nat) (l : ZL) (st : List ZV) (M : ZM) : V 0 G mi Z pc l st M = (zok G → ∀ (p : Program) (e : Env) (s : State) (m : MethodId) (args : Array Value) (below : List Frame) (meth : Method) (c : Code) (H : Heap) (locs : List Loc) (ls : Array Slot),
    CallFix p m c (iB mi) (iL mi) s args zTw (iN mi).cls → meth.sig.returnType = iR mi → meth.locks = false → (iD mi = 11 → ∀ q, gA G q → s.heap.size ≤ q) → zEnv G s s.heap → va_P (gD G) zcls (zws G M) H → va_S (gA G) s.heap H locs → lv_has ls (iL mi) (zlm G l) →
    W p (gl G) e (zR mi) s m args below meth c H locs (zC mi) (zS mi) (zQ G mi Z below args s) (F0 m pc ls (st.map (zc G)))) := by
  rw [V]; rfl
section
variable {G : ZG} {mi : ZI} {Z : Option ZV → ZM → Prop} {pc : Nat} {l : ZL} {st : List ZV} {M : ZM}
set_option maxHeartbeats 1000000 in
theorem z_iconst {n : Int} {v : Int32} (hd : decode (iB mi) pc = .ok (.iconst n, 1)) (hv : Int32.ofInt n = v) (hk : V 0 G mi Z (pc + 1) l (zi v :: st) M) : V 0 G mi Z pc l st M := by
  rw [V_eq] at hk ⊢; intro hok p e s m args below meth c H locs ls hf hr hlk hfr hE hP hS hl
  exact lv_iconst hf.1 hf.2.1 hd hv (hk hok p e s m args below meth c H locs ls hf hr hlk hfr hE hP hS hl)
set_option maxHeartbeats 1000000 in
theorem z_bipush {n : Int} {v : Int32} (hd : decode (iB mi) pc = .ok (.bipush n, 2)) (hv : (Int8.ofInt n).toInt32 = v) (hk : V 0 G mi Z (pc + 2) l (zi v :: st) M) : V 0 G mi Z pc l st M := by
  rw [V_eq] at hk ⊢; intro hok p e s m args below meth c H locs ls hf hr hlk hfr hE hP hS hl
  exact lv_bipush hf.1 hf.2.1 hd hv (hk hok p e s m args below meth c H locs ls hf hr hlk hfr hE hP hS hl)
set_option maxHeartbeats 1000000 in
theorem z_sipush {n : Int} {v : Int32} (hd : decode (iB mi) pc = .ok (.sipush n, 3)) (hv : (Int16.ofInt n).toInt32 = v) (hk : V 0 G mi Z (pc + 3) l (zi v :: st) M) : V 0 G mi Z pc l st M := by
  rw [V_eq] at hk ⊢; intro hok p e s m args below meth c H locs ls hf hr hlk hfr hE hP hS hl
  exact lv_sipush hf.1 hf.2.1 hd hv (hk hok p e s m args below meth c H locs ls hf hr hlk hfr hE hP hS hl)
set_option maxHeartbeats 1000000 in
theorem z_lconst {n : Fin 2} {v : Int64} (hd : decode (iB mi) pc = .ok (.lconst n, 1)) (hv : Int64.ofNat (n : Nat) = v) (hk : V 0 G mi Z (pc + 1) l (zl v :: st) M) : V 0 G mi Z pc l st M := by
  rw [V_eq] at hk ⊢; intro hok p e s m args below meth c H locs ls hf hr hlk hfr hE hP hS hl
  exact lv_lconst hf.1 hf.2.1 hd hv (hk hok p e s m args below meth c H locs ls hf hr hlk hfr hE hP hS hl)
set_option maxHeartbeats 1000000 in
theorem z_ldc {n : Nat} {v : Int32} (hd : decode (iB mi) pc = .ok (.ldc n, 2)) (hw : Jvm.Cond.constant (iN mi).cls n v ∈ zTw) (hk : V 0 G mi Z (pc + 2) l (zi v :: st) M) : V 0 G mi Z pc l st M := by
  rw [V_eq] at hk ⊢; intro hok p e s m args below meth c H locs ls hf hr hlk hfr hE hP hS hl
  exact lv_ldc hf.1 hf.2.1 hf.2.2.2.1 (hf.2.2.2.2 _ hw) hd (hk hok p e s m args below meth c H locs ls hf hr hlk hfr hE hP hS hl)
set_option maxHeartbeats 1000000 in
theorem z_ldc2_w {n : Nat} {v : Int64} (hd : decode (iB mi) pc = .ok (.ldc2_w n, 3)) (hw : Jvm.Cond.constantLong (iN mi).cls n v ∈ zTw) (hk : V 0 G mi Z (pc + 3) l (zl v :: st) M) : V 0 G mi Z pc l st M := by
  rw [V_eq] at hk ⊢; intro hok p e s m args below meth c H locs ls hf hr hlk hfr hE hP hS hl
  exact lv_ldc2 hf.1 hf.2.1 hf.2.2.2.1 (hf.2.2.2.2 _ hw) hd (hk hok p e s m args below meth c H locs ls hf hr hlk hfr hE hP hS hl)
set_option maxHeartbeats 1000000 in
theorem z_iload {n : Nat} {x : Int32} (hd : decode (iB mi) pc = .ok (.iload n, 2)) (hg : lget l n = some (zi x)) (hk : V 0 G mi Z (pc + 2) l (zi x :: st) M) : V 0 G mi Z pc l st M := by
  rw [V_eq] at hk ⊢; intro hok p e s m args below meth c H locs ls hf hr hlk hfr hE hP hS hl
  exact lv_iload hf.1 hf.2.1 hd (lget_has hl hg) (hk hok p e s m args below meth c H locs ls hf hr hlk hfr hE hP hS hl)
set_option maxHeartbeats 1000000 in
theorem z_iload_n {n : Fin 4} {x : Int32} (hd : decode (iB mi) pc = .ok (.iload_n n, 1)) (hg : lget l n.val = some (zi x)) (hk : V 0 G mi Z (pc + 1) l (zi x :: st) M) : V 0 G mi Z pc l st M := by
  rw [V_eq] at hk ⊢; intro hok p e s m args below meth c H locs ls hf hr hlk hfr hE hP hS hl
  exact lv_iload_n hf.1 hf.2.1 hd rfl (lget_has hl hg) (hk hok p e s m args below meth c H locs ls hf hr hlk hfr hE hP hS hl)
set_option maxHeartbeats 1000000 in
theorem z_lload {n : Nat} {x : Int64} (hd : decode (iB mi) pc = .ok (.lload n, 2)) (hg : lget l n = some (zl x)) (hk : V 0 G mi Z (pc + 2) l (zl x :: st) M) : V 0 G mi Z pc l st M := by
  rw [V_eq] at hk ⊢; intro hok p e s m args below meth c H locs ls hf hr hlk hfr hE hP hS hl
  exact lv_lload hf.1 hf.2.1 hd (lget_has hl hg) (hk hok p e s m args below meth c H locs ls hf hr hlk hfr hE hP hS hl)
set_option maxHeartbeats 1000000 in
theorem z_lload_n {n : Fin 4} {x : Int64} (hd : decode (iB mi) pc = .ok (.lload_n n, 1)) (hg : lget l n.val = some (zl x)) (hk : V 0 G mi Z (pc + 1) l (zl x :: st) M) : V 0 G mi Z pc l st M := by
  rw [V_eq] at hk ⊢; intro hok p e s m args below meth c H locs ls hf hr hlk hfr hE hP hS hl
  exact lv_lload_n hf.1 hf.2.1 hd rfl (lget_has hl hg) (hk hok p e s m args below meth c H locs ls hf hr hlk hfr hE hP hS hl)
set_option maxHeartbeats 1000000 in
theorem z_aload {n a b : Nat} (hd : decode (iB mi) pc = .ok (.aload n, 2)) (hg : lget l n = some (zr a b)) (hk : V 0 G mi Z (pc + 2) l (zr a b :: st) M) : V 0 G mi Z pc l st M := by
  rw [V_eq] at hk ⊢; intro hok p e s m args below meth c H locs ls hf hr hlk hfr hE hP hS hl
  exact lv_aload hf.1 hf.2.1 hd (lget_has hl hg) (hk hok p e s m args below meth c H locs ls hf hr hlk hfr hE hP hS hl)
set_option maxHeartbeats 1000000 in
theorem z_aload_n {n : Fin 4} {a b : Nat} (hd : decode (iB mi) pc = .ok (.aload_n n, 1)) (hg : lget l n.val = some (zr a b)) (hk : V 0 G mi Z (pc + 1) l (zr a b :: st) M) : V 0 G mi Z pc l st M := by
  rw [V_eq] at hk ⊢; intro hok p e s m args below meth c H locs ls hf hr hlk hfr hE hP hS hl
  exact lv_aload_n hf.1 hf.2.1 hd rfl (lget_has hl hg) (hk hok p e s m args below meth c H locs ls hf hr hlk hfr hE hP hS hl)
set_option maxHeartbeats 1000000 in
theorem z_istore {n : Nat} {x : Int32} (hd : decode (iB mi) pc = .ok (.istore n, 2)) (hn : n < iL mi) (hk : V 0 G mi Z (pc + 2) (lput n (zi x) l) st M) : V 0 G mi Z pc l (zi x :: st) M := by
  rw [V_eq] at hk ⊢; intro hok p e s m args below meth c H locs ls0 hf hr hlk hfr hE hP hS hl
  exact lv_istore hf.1 hf.2.1 hd hl hn rfl (fun ls hl2 => hk hok p e s m args below meth c H locs ls hf hr hlk hfr hE hP hS (lput_has1 hl2))
set_option maxHeartbeats 1000000 in
theorem z_istore_n {n : Fin 4} {x : Int32} (hd : decode (iB mi) pc = .ok (.istore_n n, 1)) (hn : n.val < iL mi) (hk : V 0 G mi Z (pc + 1) (lput n.val (zi x) l) st M) : V 0 G mi Z pc l (zi x :: st) M := by
  rw [V_eq] at hk ⊢; intro hok p e s m args below meth c H locs ls0 hf hr hlk hfr hE hP hS hl
  exact lv_istore_n hf.1 hf.2.1 hd rfl hl hn rfl (fun ls hl2 => hk hok p e s m args below meth c H locs ls hf hr hlk hfr hE hP hS (lput_has1 hl2))
set_option maxHeartbeats 1000000 in
theorem z_lstore {n : Nat} {x : Int64} (hd : decode (iB mi) pc = .ok (.lstore n, 2)) (hn : n + 1 < iL mi) (hk : V 0 G mi Z (pc + 2) (lput n (zl x) l) st M) : V 0 G mi Z pc l (zl x :: st) M := by
  rw [V_eq] at hk ⊢; intro hok p e s m args below meth c H locs ls0 hf hr hlk hfr hE hP hS hl
  exact lv_lstore hf.1 hf.2.1 hd hl hn rfl (fun ls hl2 => hk hok p e s m args below meth c H locs ls hf hr hlk hfr hE hP hS (lput_has2 hl2))
set_option maxHeartbeats 1000000 in
theorem z_lstore_n {n : Fin 4} {x : Int64} (hd : decode (iB mi) pc = .ok (.lstore_n n, 1)) (hn : n.val + 1 < iL mi) (hk : V 0 G mi Z (pc + 1) (lput n.val (zl x) l) st M) : V 0 G mi Z pc l (zl x :: st) M := by
  rw [V_eq] at hk ⊢; intro hok p e s m args below meth c H locs ls0 hf hr hlk hfr hE hP hS hl
  exact lv_lstore_n hf.1 hf.2.1 hd rfl hl hn rfl (fun ls hl2 => hk hok p e s m args below meth c H locs ls hf hr hlk hfr hE hP hS (lput_has2 hl2))
set_option maxHeartbeats 1000000 in
theorem z_astore {n : Nat} {x y : Nat} (hd : decode (iB mi) pc = .ok (.astore n, 2)) (hn : n < iL mi) (hk : V 0 G mi Z (pc + 2) (lput n (zr x y) l) st M) : V 0 G mi Z pc l (zr x y :: st) M := by
  rw [V_eq] at hk ⊢; intro hok p e s m args below meth c H locs ls0 hf hr hlk hfr hE hP hS hl
  exact lv_astore hf.1 hf.2.1 hd hl hn rfl (fun ls hl2 => hk hok p e s m args below meth c H locs ls hf hr hlk hfr hE hP hS (lput_has1 hl2))
set_option maxHeartbeats 1000000 in
theorem z_astore_n {n : Fin 4} {x y : Nat} (hd : decode (iB mi) pc = .ok (.astore_n n, 1)) (hn : n.val < iL mi) (hk : V 0 G mi Z (pc + 1) (lput n.val (zr x y) l) st M) : V 0 G mi Z pc l (zr x y :: st) M := by
  rw [V_eq] at hk ⊢; intro hok p e s m args below meth c H locs ls0 hf hr hlk hfr hE hP hS hl
  exact lv_astore_n hf.1 hf.2.1 hd rfl hl hn rfl (fun ls hl2 => hk hok p e s m args below meth c H locs ls hf hr hlk hfr hE hP hS (lput_has1 hl2))
set_option maxHeartbeats 1000000 in
theorem z_iadd {x : Int32} {y : Int32} (hd : decode (iB mi) pc = .ok (.iadd, 1)) (hk : V 0 G mi Z (pc + 1) l (zi (x + y) :: st) M) : V 0 G mi Z pc l (zi y :: zi x :: st) M := by
  rw [V_eq] at hk ⊢; intro hok p e s m args below meth c H locs ls hf hr hlk hfr hE hP hS hl
  exact lv_iadd hf.1 hf.2.1 hd  (hk hok p e s m args below meth c H locs ls hf hr hlk hfr hE hP hS hl)
set_option maxHeartbeats 1000000 in
theorem z_isub {x : Int32} {y : Int32} (hd : decode (iB mi) pc = .ok (.isub, 1)) (hk : V 0 G mi Z (pc + 1) l (zi (x - y) :: st) M) : V 0 G mi Z pc l (zi y :: zi x :: st) M := by
  rw [V_eq] at hk ⊢; intro hok p e s m args below meth c H locs ls hf hr hlk hfr hE hP hS hl
  exact lv_isub hf.1 hf.2.1 hd  (hk hok p e s m args below meth c H locs ls hf hr hlk hfr hE hP hS hl)
set_option maxHeartbeats 1000000 in
theorem z_imul {x : Int32} {y : Int32} (hd : decode (iB mi) pc = .ok (.imul, 1)) (hk : V 0 G mi Z (pc + 1) l (zi (x * y) :: st) M) : V 0 G mi Z pc l (zi y :: zi x :: st) M := by
  rw [V_eq] at hk ⊢; intro hok p e s m args below meth c H locs ls hf hr hlk hfr hE hP hS hl
  exact lv_imul hf.1 hf.2.1 hd  (hk hok p e s m args below meth c H locs ls hf hr hlk hfr hE hP hS hl)
set_option maxHeartbeats 1000000 in
theorem z_iand {x : Int32} {y : Int32} (hd : decode (iB mi) pc = .ok (.iand, 1)) (hk : V 0 G mi Z (pc + 1) l (zi (x &&& y) :: st) M) : V 0 G mi Z pc l (zi y :: zi x :: st) M := by
  rw [V_eq] at hk ⊢; intro hok p e s m args below meth c H locs ls hf hr hlk hfr hE hP hS hl
  exact lv_iand hf.1 hf.2.1 hd  (hk hok p e s m args below meth c H locs ls hf hr hlk hfr hE hP hS hl)
set_option maxHeartbeats 1000000 in
theorem z_ior {x : Int32} {y : Int32} (hd : decode (iB mi) pc = .ok (.ior, 1)) (hk : V 0 G mi Z (pc + 1) l (zi (x ||| y) :: st) M) : V 0 G mi Z pc l (zi y :: zi x :: st) M := by
  rw [V_eq] at hk ⊢; intro hok p e s m args below meth c H locs ls hf hr hlk hfr hE hP hS hl
  exact lv_ior hf.1 hf.2.1 hd  (hk hok p e s m args below meth c H locs ls hf hr hlk hfr hE hP hS hl)
set_option maxHeartbeats 1000000 in
theorem z_ixor {x : Int32} {y : Int32} (hd : decode (iB mi) pc = .ok (.ixor, 1)) (hk : V 0 G mi Z (pc + 1) l (zi (x ^^^ y) :: st) M) : V 0 G mi Z pc l (zi y :: zi x :: st) M := by
  rw [V_eq] at hk ⊢; intro hok p e s m args below meth c H locs ls hf hr hlk hfr hE hP hS hl
  exact lv_ixor hf.1 hf.2.1 hd  (hk hok p e s m args below meth c H locs ls hf hr hlk hfr hE hP hS hl)
set_option maxHeartbeats 1000000 in
theorem z_ishl {x : Int32} {y : Int32} (hd : decode (iB mi) pc = .ok (.ishl, 1)) (hk : V 0 G mi Z (pc + 1) l (zi (x <<< (y &&& 31)) :: st) M) : V 0 G mi Z pc l (zi y :: zi x :: st) M := by
  rw [V_eq] at hk ⊢; intro hok p e s m args below meth c H locs ls hf hr hlk hfr hE hP hS hl
  exact lv_ishl hf.1 hf.2.1 hd  (hk hok p e s m args below meth c H locs ls hf hr hlk hfr hE hP hS hl)
set_option maxHeartbeats 1000000 in
theorem z_ishr {x : Int32} {y : Int32} (hd : decode (iB mi) pc = .ok (.ishr, 1)) (hk : V 0 G mi Z (pc + 1) l (zi (x >>> (y &&& 31)) :: st) M) : V 0 G mi Z pc l (zi y :: zi x :: st) M := by
  rw [V_eq] at hk ⊢; intro hok p e s m args below meth c H locs ls hf hr hlk hfr hE hP hS hl
  exact lv_ishr hf.1 hf.2.1 hd  (hk hok p e s m args below meth c H locs ls hf hr hlk hfr hE hP hS hl)
set_option maxHeartbeats 1000000 in
theorem z_ladd {x : Int64} {y : Int64} (hd : decode (iB mi) pc = .ok (.ladd, 1)) (hk : V 0 G mi Z (pc + 1) l (zl (x + y) :: st) M) : V 0 G mi Z pc l (zl y :: zl x :: st) M := by
  rw [V_eq] at hk ⊢; intro hok p e s m args below meth c H locs ls hf hr hlk hfr hE hP hS hl
  exact lv_ladd hf.1 hf.2.1 hd  (hk hok p e s m args below meth c H locs ls hf hr hlk hfr hE hP hS hl)
set_option maxHeartbeats 1000000 in
theorem z_lsub {x : Int64} {y : Int64} (hd : decode (iB mi) pc = .ok (.lsub, 1)) (hk : V 0 G mi Z (pc + 1) l (zl (x - y) :: st) M) : V 0 G mi Z pc l (zl y :: zl x :: st) M := by
  rw [V_eq] at hk ⊢; intro hok p e s m args below meth c H locs ls hf hr hlk hfr hE hP hS hl
  exact lv_lsub hf.1 hf.2.1 hd  (hk hok p e s m args below meth c H locs ls hf hr hlk hfr hE hP hS hl)
set_option maxHeartbeats 1000000 in
theorem z_land {x : Int64} {y : Int64} (hd : decode (iB mi) pc = .ok (.land, 1)) (hk : V 0 G mi Z (pc + 1) l (zl (x &&& y) :: st) M) : V 0 G mi Z pc l (zl y :: zl x :: st) M := by
  rw [V_eq] at hk ⊢; intro hok p e s m args below meth c H locs ls hf hr hlk hfr hE hP hS hl
  exact lv_land hf.1 hf.2.1 hd  (hk hok p e s m args below meth c H locs ls hf hr hlk hfr hE hP hS hl)
set_option maxHeartbeats 1000000 in
theorem z_lor {x : Int64} {y : Int64} (hd : decode (iB mi) pc = .ok (.lor, 1)) (hk : V 0 G mi Z (pc + 1) l (zl (x ||| y) :: st) M) : V 0 G mi Z pc l (zl y :: zl x :: st) M := by
  rw [V_eq] at hk ⊢; intro hok p e s m args below meth c H locs ls hf hr hlk hfr hE hP hS hl
  exact lv_lor hf.1 hf.2.1 hd  (hk hok p e s m args below meth c H locs ls hf hr hlk hfr hE hP hS hl)
set_option maxHeartbeats 1000000 in
theorem z_iushr {x : Int32} {y : Int32} (hd : decode (iB mi) pc = .ok (.iushr, 1)) (hk : V 0 G mi Z (pc + 1) l (zi ((x.toUInt32 >>> (y.toUInt32 &&& Int32.toUInt32 31)).toInt32) :: st) M) : V 0 G mi Z pc l (zi y :: zi x :: st) M := by
  rw [V_eq] at hk ⊢; intro hok p e s m args below meth c H locs ls hf hr hlk hfr hE hP hS hl
  exact lv_iushr hf.1 hf.2.1 hd rfl (hk hok p e s m args below meth c H locs ls hf hr hlk hfr hE hP hS hl)
set_option maxHeartbeats 1000000 in
theorem z_lshl {x : Int64} {y : Int32} (hd : decode (iB mi) pc = .ok (.lshl, 1)) (hk : V 0 G mi Z (pc + 1) l (zl (x <<< (y.toInt64 &&& 63)) :: st) M) : V 0 G mi Z pc l (zi y :: zl x :: st) M := by
  rw [V_eq] at hk ⊢; intro hok p e s m args below meth c H locs ls hf hr hlk hfr hE hP hS hl
  exact lv_lshl hf.1 hf.2.1 hd rfl (hk hok p e s m args below meth c H locs ls hf hr hlk hfr hE hP hS hl)
set_option maxHeartbeats 1000000 in
theorem z_lshr {x : Int64} {y : Int32} (hd : decode (iB mi) pc = .ok (.lshr, 1)) (hk : V 0 G mi Z (pc + 1) l (zl (x >>> (y.toInt64 &&& 63)) :: st) M) : V 0 G mi Z pc l (zi y :: zl x :: st) M := by
  rw [V_eq] at hk ⊢; intro hok p e s m args below meth c H locs ls hf hr hlk hfr hE hP hS hl
  exact lv_lshr hf.1 hf.2.1 hd rfl (hk hok p e s m args below meth c H locs ls hf hr hlk hfr hE hP hS hl)
set_option maxHeartbeats 1000000 in
theorem z_lushr {x : Int64} {y : Int32} (hd : decode (iB mi) pc = .ok (.lushr, 1)) (hk : V 0 G mi Z (pc + 1) l (zl ((x.toUInt64 >>> (y.toInt64.toUInt64 &&& Int64.toUInt64 63)).toInt64) :: st) M) : V 0 G mi Z pc l (zi y :: zl x :: st) M := by
  rw [V_eq] at hk ⊢; intro hok p e s m args below meth c H locs ls hf hr hlk hfr hE hP hS hl
  exact lv_lushr hf.1 hf.2.1 hd rfl (hk hok p e s m args below meth c H locs ls hf hr hlk hfr hE hP hS hl)
set_option maxHeartbeats 1000000 in
theorem z_idiv {x : Int32} {y : Int32} (hd : decode (iB mi) pc = .ok (.idiv, 1)) (hne : ¬ y = 0) (hk : V 0 G mi Z (pc + 1) l (zi (x / y) :: st) M) : V 0 G mi Z pc l (zi y :: zi x :: st) M := by
  rw [V_eq] at hk ⊢; intro hok p e s m args below meth c H locs ls hf hr hlk hfr hE hP hS hl
  exact lv_idiv hf.1 hf.2.1 hd hne (hk hok p e s m args below meth c H locs ls hf hr hlk hfr hE hP hS hl)
set_option maxHeartbeats 1000000 in
theorem z_lcmp {x : Int64} {y : Int64} (hd : decode (iB mi) pc = .ok (.lcmp, 1)) (hk : V 0 G mi Z (pc + 1) l (zi (lg_cmp x y) :: st) M) : V 0 G mi Z pc l (zl y :: zl x :: st) M := by
  rw [V_eq] at hk ⊢; intro hok p e s m args below meth c H locs ls hf hr hlk hfr hE hP hS hl
  exact W.lcmp hf.1 hf.2.1 hd  (hk hok p e s m args below meth c H locs ls hf hr hlk hfr hE hP hS hl)
set_option maxHeartbeats 1000000 in
theorem z_irem {x y : Int32} (hd : decode (iB mi) pc = .ok (.irem, 1)) (hne : ¬ y = 0) (hk : V 0 G mi Z (pc + 1) l (zi (x % y) :: st) M) : V 0 G mi Z pc l (zi y :: zi x :: st) M := by
  rw [← irem_eq_mod x y] at hk
  rw [V_eq] at hk ⊢; intro hok p e s m args below meth c H locs ls hf hr hlk hfr hE hP hS hl
  exact lv_irem hf.1 hf.2.1 hd hne (hk hok p e s m args below meth c H locs ls hf hr hlk hfr hE hP hS hl)
set_option maxHeartbeats 1000000 in
theorem z_i2l {x : Int32} (hd : decode (iB mi) pc = .ok (.i2l, 1)) (hk : V 0 G mi Z (pc + 1) l (zl x.toInt64 :: st) M) : V 0 G mi Z pc l (zi x :: st) M := by
  rw [V_eq] at hk ⊢; intro hok p e s m args below meth c H locs ls hf hr hlk hfr hE hP hS hl
  exact lv_i2l hf.1 hf.2.1 hd rfl (hk hok p e s m args below meth c H locs ls hf hr hlk hfr hE hP hS hl)
set_option maxHeartbeats 1000000 in
theorem z_l2i {x : Int64} (hd : decode (iB mi) pc = .ok (.l2i, 1)) (hk : V 0 G mi Z (pc + 1) l (zi x.toInt32 :: st) M) : V 0 G mi Z pc l (zl x :: st) M := by
  rw [V_eq] at hk ⊢; intro hok p e s m args below meth c H locs ls hf hr hlk hfr hE hP hS hl
  exact lv_l2i hf.1 hf.2.1 hd rfl (hk hok p e s m args below meth c H locs ls hf hr hlk hfr hE hP hS hl)
set_option maxHeartbeats 1000000 in
theorem z_if_eq {x : Int32} {off : Int} {tgt : Nat} (hd : decode (iB mi) pc = .ok (.ifCond .eq off, 3)) (ht : (pc : Int) + off = (tgt : Int)) (h1 : x = 0 → V 0 G mi Z tgt l st M) (h2 : ¬ (x = 0) → V 0 G mi Z (pc + 3) l st M) : V 0 G mi Z pc l (zi x :: st) M := by
  rw [V_eq]; intro hok p e s m args below meth c H locs ls hf hr hlk hfr hE hP hS hl
  refine lv_if_eq hf.1 hf.2.1 hd ht (fun h => ?_) (fun h => ?_)
  · have hk := h1 h
    rw [V_eq] at hk
    exact hk hok p e s m args below meth c H locs ls hf hr hlk hfr hE hP hS hl
  · have hk := h2 h
    rw [V_eq] at hk
    exact hk hok p e s m args below meth c H locs ls hf hr hlk hfr hE hP hS hl
set_option maxHeartbeats 1000000 in
theorem z_icmp_eq {x y : Int32} {off : Int} {tgt : Nat} (hd : decode (iB mi) pc = .ok (.if_icmp .eq off, 3)) (ht : (pc : Int) + off = (tgt : Int)) (h1 : x = y → V 0 G mi Z tgt l st M) (h2 : ¬ (x = y) → V 0 G mi Z (pc + 3) l st M) : V 0 G mi Z pc l (zi y :: zi x :: st) M := by
  rw [V_eq]; intro hok p e s m args below meth c H locs ls hf hr hlk hfr hE hP hS hl
  refine lv_icmp_eq hf.1 hf.2.1 hd ht (fun h => ?_) (fun h => ?_)
  · have hk := h1 h
    rw [V_eq] at hk
    exact hk hok p e s m args below meth c H locs ls hf hr hlk hfr hE hP hS hl
  · have hk := h2 h
    rw [V_eq] at hk
    exact hk hok p e s m args below meth c H locs ls hf hr hlk hfr hE hP hS hl
set_option maxHeartbeats 1000000 in
theorem z_if_ne {x : Int32} {off : Int} {tgt : Nat} (hd : decode (iB mi) pc = .ok (.ifCond .ne off, 3)) (ht : (pc : Int) + off = (tgt : Int)) (h1 : ¬ x = 0 → V 0 G mi Z tgt l st M) (h2 : ¬ (¬ x = 0) → V 0 G mi Z (pc + 3) l st M) : V 0 G mi Z pc l (zi x :: st) M := by
  rw [V_eq]; intro hok p e s m args below meth c H locs ls hf hr hlk hfr hE hP hS hl
  refine lv_if_ne hf.1 hf.2.1 hd ht (fun h => ?_) (fun h => ?_)
  · have hk := h1 h
    rw [V_eq] at hk
    exact hk hok p e s m args below meth c H locs ls hf hr hlk hfr hE hP hS hl
  · have hk := h2 (fun q => q h)
    rw [V_eq] at hk
    exact hk hok p e s m args below meth c H locs ls hf hr hlk hfr hE hP hS hl
set_option maxHeartbeats 1000000 in
theorem z_icmp_ne {x y : Int32} {off : Int} {tgt : Nat} (hd : decode (iB mi) pc = .ok (.if_icmp .ne off, 3)) (ht : (pc : Int) + off = (tgt : Int)) (h1 : ¬ x = y → V 0 G mi Z tgt l st M) (h2 : ¬ (¬ x = y) → V 0 G mi Z (pc + 3) l st M) : V 0 G mi Z pc l (zi y :: zi x :: st) M := by
  rw [V_eq]; intro hok p e s m args below meth c H locs ls hf hr hlk hfr hE hP hS hl
  refine lv_icmp_ne hf.1 hf.2.1 hd ht (fun h => ?_) (fun h => ?_)
  · have hk := h1 h
    rw [V_eq] at hk
    exact hk hok p e s m args below meth c H locs ls hf hr hlk hfr hE hP hS hl
  · have hk := h2 (fun q => q h)
    rw [V_eq] at hk
    exact hk hok p e s m args below meth c H locs ls hf hr hlk hfr hE hP hS hl
set_option maxHeartbeats 1000000 in
theorem z_if_lt {x : Int32} {off : Int} {tgt : Nat} (hd : decode (iB mi) pc = .ok (.ifCond .lt off, 3)) (ht : (pc : Int) + off = (tgt : Int)) (h1 : x < 0 → V 0 G mi Z tgt l st M) (h2 : ¬ (x < 0) → V 0 G mi Z (pc + 3) l st M) : V 0 G mi Z pc l (zi x :: st) M := by
  rw [V_eq]; intro hok p e s m args below meth c H locs ls hf hr hlk hfr hE hP hS hl
  refine lv_if_lt hf.1 hf.2.1 hd ht (fun h => ?_) (fun h => ?_)
  · have hk := h1 h
    rw [V_eq] at hk
    exact hk hok p e s m args below meth c H locs ls hf hr hlk hfr hE hP hS hl
  · have hk := h2 h
    rw [V_eq] at hk
    exact hk hok p e s m args below meth c H locs ls hf hr hlk hfr hE hP hS hl
set_option maxHeartbeats 1000000 in
theorem z_icmp_lt {x y : Int32} {off : Int} {tgt : Nat} (hd : decode (iB mi) pc = .ok (.if_icmp .lt off, 3)) (ht : (pc : Int) + off = (tgt : Int)) (h1 : x < y → V 0 G mi Z tgt l st M) (h2 : ¬ (x < y) → V 0 G mi Z (pc + 3) l st M) : V 0 G mi Z pc l (zi y :: zi x :: st) M := by
  rw [V_eq]; intro hok p e s m args below meth c H locs ls hf hr hlk hfr hE hP hS hl
  refine lv_icmp_lt hf.1 hf.2.1 hd ht (fun h => ?_) (fun h => ?_)
  · have hk := h1 h
    rw [V_eq] at hk
    exact hk hok p e s m args below meth c H locs ls hf hr hlk hfr hE hP hS hl
  · have hk := h2 h
    rw [V_eq] at hk
    exact hk hok p e s m args below meth c H locs ls hf hr hlk hfr hE hP hS hl
set_option maxHeartbeats 1000000 in
theorem z_if_ge {x : Int32} {off : Int} {tgt : Nat} (hd : decode (iB mi) pc = .ok (.ifCond .ge off, 3)) (ht : (pc : Int) + off = (tgt : Int)) (h1 : 0 ≤ x → V 0 G mi Z tgt l st M) (h2 : ¬ (0 ≤ x) → V 0 G mi Z (pc + 3) l st M) : V 0 G mi Z pc l (zi x :: st) M := by
  rw [V_eq]; intro hok p e s m args below meth c H locs ls hf hr hlk hfr hE hP hS hl
  refine lv_if_ge hf.1 hf.2.1 hd ht (fun h => ?_) (fun h => ?_)
  · have hk := h1 h
    rw [V_eq] at hk
    exact hk hok p e s m args below meth c H locs ls hf hr hlk hfr hE hP hS hl
  · have hk := h2 h
    rw [V_eq] at hk
    exact hk hok p e s m args below meth c H locs ls hf hr hlk hfr hE hP hS hl
set_option maxHeartbeats 1000000 in
theorem z_icmp_ge {x y : Int32} {off : Int} {tgt : Nat} (hd : decode (iB mi) pc = .ok (.if_icmp .ge off, 3)) (ht : (pc : Int) + off = (tgt : Int)) (h1 : y ≤ x → V 0 G mi Z tgt l st M) (h2 : ¬ (y ≤ x) → V 0 G mi Z (pc + 3) l st M) : V 0 G mi Z pc l (zi y :: zi x :: st) M := by
  rw [V_eq]; intro hok p e s m args below meth c H locs ls hf hr hlk hfr hE hP hS hl
  refine lv_icmp_ge hf.1 hf.2.1 hd ht (fun h => ?_) (fun h => ?_)
  · have hk := h1 h
    rw [V_eq] at hk
    exact hk hok p e s m args below meth c H locs ls hf hr hlk hfr hE hP hS hl
  · have hk := h2 h
    rw [V_eq] at hk
    exact hk hok p e s m args below meth c H locs ls hf hr hlk hfr hE hP hS hl
set_option maxHeartbeats 1000000 in
theorem z_if_gt {x : Int32} {off : Int} {tgt : Nat} (hd : decode (iB mi) pc = .ok (.ifCond .gt off, 3)) (ht : (pc : Int) + off = (tgt : Int)) (h1 : 0 < x → V 0 G mi Z tgt l st M) (h2 : ¬ (0 < x) → V 0 G mi Z (pc + 3) l st M) : V 0 G mi Z pc l (zi x :: st) M := by
  rw [V_eq]; intro hok p e s m args below meth c H locs ls hf hr hlk hfr hE hP hS hl
  refine lv_if_gt hf.1 hf.2.1 hd ht (fun h => ?_) (fun h => ?_)
  · have hk := h1 h
    rw [V_eq] at hk
    exact hk hok p e s m args below meth c H locs ls hf hr hlk hfr hE hP hS hl
  · have hk := h2 h
    rw [V_eq] at hk
    exact hk hok p e s m args below meth c H locs ls hf hr hlk hfr hE hP hS hl
set_option maxHeartbeats 1000000 in
theorem z_icmp_gt {x y : Int32} {off : Int} {tgt : Nat} (hd : decode (iB mi) pc = .ok (.if_icmp .gt off, 3)) (ht : (pc : Int) + off = (tgt : Int)) (h1 : y < x → V 0 G mi Z tgt l st M) (h2 : ¬ (y < x) → V 0 G mi Z (pc + 3) l st M) : V 0 G mi Z pc l (zi y :: zi x :: st) M := by
  rw [V_eq]; intro hok p e s m args below meth c H locs ls hf hr hlk hfr hE hP hS hl
  refine lv_icmp_gt hf.1 hf.2.1 hd ht (fun h => ?_) (fun h => ?_)
  · have hk := h1 h
    rw [V_eq] at hk
    exact hk hok p e s m args below meth c H locs ls hf hr hlk hfr hE hP hS hl
  · have hk := h2 h
    rw [V_eq] at hk
    exact hk hok p e s m args below meth c H locs ls hf hr hlk hfr hE hP hS hl
set_option maxHeartbeats 1000000 in
theorem z_if_le {x : Int32} {off : Int} {tgt : Nat} (hd : decode (iB mi) pc = .ok (.ifCond .le off, 3)) (ht : (pc : Int) + off = (tgt : Int)) (h1 : x ≤ 0 → V 0 G mi Z tgt l st M) (h2 : ¬ (x ≤ 0) → V 0 G mi Z (pc + 3) l st M) : V 0 G mi Z pc l (zi x :: st) M := by
  rw [V_eq]; intro hok p e s m args below meth c H locs ls hf hr hlk hfr hE hP hS hl
  refine lv_if_le hf.1 hf.2.1 hd ht (fun h => ?_) (fun h => ?_)
  · have hk := h1 h
    rw [V_eq] at hk
    exact hk hok p e s m args below meth c H locs ls hf hr hlk hfr hE hP hS hl
  · have hk := h2 h
    rw [V_eq] at hk
    exact hk hok p e s m args below meth c H locs ls hf hr hlk hfr hE hP hS hl
set_option maxHeartbeats 1000000 in
theorem z_icmp_le {x y : Int32} {off : Int} {tgt : Nat} (hd : decode (iB mi) pc = .ok (.if_icmp .le off, 3)) (ht : (pc : Int) + off = (tgt : Int)) (h1 : x ≤ y → V 0 G mi Z tgt l st M) (h2 : ¬ (x ≤ y) → V 0 G mi Z (pc + 3) l st M) : V 0 G mi Z pc l (zi y :: zi x :: st) M := by
  rw [V_eq]; intro hok p e s m args below meth c H locs ls hf hr hlk hfr hE hP hS hl
  refine lv_icmp_le hf.1 hf.2.1 hd ht (fun h => ?_) (fun h => ?_)
  · have hk := h1 h
    rw [V_eq] at hk
    exact hk hok p e s m args below meth c H locs ls hf hr hlk hfr hE hP hS hl
  · have hk := h2 h
    rw [V_eq] at hk
    exact hk hok p e s m args below meth c H locs ls hf hr hlk hfr hE hP hS hl
end
end
section
theorem zTw_good : ∀ w ∈ zTw, (w.onTables && w.keeps) = true ∨ ∃ ty, w = .arrayClass ty := fun w h => good_of_word (List.mem_filter.mp h).2
theorem zuws0 : ∀ q ∈ zcls, ∀ w ∈ u_ws q.1 q.2.1 q.2.2, w ∈ lw_tbl := by decide +kernel
theorem zuws1 : ∀ q ∈ zcls, ∀ w ∈ u_ws q.1 q.2.1 q.2.2, goodWord w = true := by decide +kernel
theorem zuws {ci : Nat} {C : String} {T : u_T} {N : Nat} (h : zcls[ci]? = some (C, T, N)) : ∀ w ∈ u_ws C T N, w ∈ zTw := fun w hw =>
  List.mem_filter.mpr ⟨zuws0 _ (List.mem_of_getElem? h) w hw, zuws1 _ (List.mem_of_getElem? h) w hw⟩
theorem ztyp : ∀ q ∈ zcls, ∀ k, k < q.2.2 → (parseFieldDescriptor (q.2.1 k).2.2.1).isSome = true := by decide +kernel
theorem zname : ∀ q ∈ zcls, ∀ a, a < q.2.2 → ∀ b, b < q.2.2 → a ≠ b → (q.2.1 a).2.1 ≠ (q.2.1 b).2.1 := by decide +kernel
theorem zfs_get {G : ZG} {M : ZM} {k i f : Nat} {fs : List ZF} {fd : ZF} (h : fs[f]? = some fd) : (zfs G M k i fs)[f]? = some (zc G (zfv k i f M fd)) := by
  unfold zfs
  rw [List.getElem?_map, List.getElem?_zipIdx, h]
  simp
theorem zfs_len {G : ZG} {M : ZM} {k i : Nat} {fs : List ZF} : (zfs G M k i fs).length = fs.length := by
  unfold zfs
  simp
theorem zfs_set {G : ZG} {M : ZM} {k i f : Nat} {x : Int32} {fs : List ZF} (h : fs[f]? = some none) : zfs G (zset k i f x M) k i fs = (zfs G M k i fs).set f (.int x) := by
  apply List.ext_getElem?
  intro n
  rw [List.getElem?_set]
  by_cases hn : f = n
  · subst hn
    have hlt := (List.getElem?_eq_some_iff.mp h).1
    rw [if_pos rfl, if_pos (by rw [zfs_len]; exact hlt), zfs_get h]
    simp [zfv, zset, zc]
  · rw [if_neg hn]
    cases hc : fs[n]? with
    | none =>
      have h1 : fs.length ≤ n := List.getElem?_eq_none_iff.mp hc
      rw [List.getElem?_eq_none_iff.mpr (by rw [zfs_len]; exact h1), List.getElem?_eq_none_iff.mpr (by rw [zfs_len]; exact h1)]
    | some fd =>
      rw [zfs_get hc, zfs_get hc]
      cases fd with
      | none =>
        simp only [zfv, zset]
        rw [if_neg (fun q => hn q.2.2.symm)]
      | some fd => rcases fd with ⟨a, b, c⟩; cases c <;> rfl
theorem zent_obj {G : ZG} {M : ZM} {k i ci : Nat} {fs : List ZF} (h : zK k = .inl (ci, fs)) : zent G M k i = .inr (ci, zfs G M k i fs) := by
  unfold zent; rw [h]
theorem zent_arr {G : ZG} {M : ZM} {k i t n : Nat} (h : zK k = .inr (t, n)) : zent G M k i = .inl (zarr G M k i t n) := by
  unfold zent; rw [h]
theorem zset_heap {G : ZG} {M : ZM} {k i j q0 : Nat} {v : Int32} {e' : va_E} (hq : zcells[q0]? = some (k, i)) (he : zent G (zset k i j v M) k i = e') : (zws G M).set q0 (ga G k i, e') = zws G (zset k i j v M) :=
  zws_set hq (fun a b h => ⟨(zset_off h).symm, rfl⟩) he
theorem zsetL_heap {G : ZG} {M : ZM} {k i j q0 : Nat} {v : Int64} {e' : va_E} (hq : zcells[q0]? = some (k, i)) (he : zent G (zsetL k i j v M) k i = e') : (zws G M).set q0 (ga G k i, e') = zws G (zsetL k i j v M) :=
  zws_set hq (fun a b h => ⟨rfl, (zsetL_off h).symm⟩) he
section
variable {G : ZG} {mi : ZI} {Z : Option ZV → ZM → Prop} {pc : Nat} {l : ZL} {st : List ZV} {M : ZM}
set_option maxHeartbeats 1000000 in
theorem z_getfield {n kd ix ci f N : Nat} {fs : List ZF} {fd : ZF} {C : String} {T : u_T} (hd : decode (iB mi) pc = .ok (.getfield n, 3)) (hk0 : zK kd = .inl (ci, fs)) (hv : zval kd ix) (hfd : fs[f]? = some fd) (hc : zcls[ci]? = some (C, T, N)) (hN : f < N)
    (hw : Jvm.Cond.fieldLink (iN mi).cls n (T f).1 (T f).2.1 (T f).2.2.1 ∈ zTw) (hk : V 0 G mi Z (pc + 3) l (zfv kd ix f M fd :: st) M) : V 0 G mi Z pc l (zr kd ix :: st) M := by
  rw [V_eq] at hk ⊢; intro hok p e s m args below meth c H locs ls hf hr hlk hfr hE hP hS hl
  obtain ⟨q0, hq0, hq1⟩ := zws_at (G := G) hv
  have he := hq1 M
  rw [zent_obj hk0] at he
  exact va_get (D := gD G) (ci := ci) (C := C) (T := T) (N := N) hf.1 hf.2.1 hf.2.2.2.2 (zuws hc) hf.2.2.2.1 hE.1 hP q0 he hc f hN (hf.2.2.2.2 _ hw) (fun _ h => h) (zfs_get hfd) hd (hk hok p e s m args below meth c H locs ls hf hr hlk hfr hE hP hS hl)
set_option maxHeartbeats 1000000 in
theorem z_putfield {n kd ix ci f N : Nat} {fs : List ZF} {C : String} {T : u_T} {x : Int32} (hd : decode (iB mi) pc = .ok (.putfield n, 3)) (hk0 : zK kd = .inl (ci, fs)) (hv : zval kd ix) (hfd : fs[f]? = some none) (hc : zcls[ci]? = some (C, T, N)) (hN : f < N)
    (hw : Jvm.Cond.fieldLink (iN mi).cls n (T f).1 (T f).2.1 (T f).2.2.1 ∈ zTw) (hfin : (T f).2.2.2 = false) (hty : parseFieldDescriptor (T f).2.2.1 = some .int) (hk : V 0 G mi Z (pc + 3) l st (zset kd ix f x M)) : V 0 G mi Z pc l (zi x :: zr kd ix :: st) M := by
  rw [V_eq] at hk ⊢; intro hok p e s m args below meth c H locs ls hf hr hlk hfr hE hP hS hl
  obtain ⟨q0, hq0, hq1⟩ := zws_at (G := G) hv
  have he := hq1 M
  rw [zent_obj hk0] at he
  have hlt : f < (zfs G M kd ix fs).length := by rw [zfs_len]; exact (List.getElem?_eq_some_iff.mp hfd).1
  have hcm := List.mem_of_getElem? hc
  refine va_put (D := gD G) (ci := ci) (C := C) (T := T) (N := N) (ty := .int) (v := .int x) hf.1 hf.2.1 hf.2.2.2.2 (zuws hc) (fun k => (parseFieldDescriptor (T k).2.2.1).getD .int) (fun k hk => ?_) (zname _ hcm) hf.2.2.2.1 hE.1 hP (zws_D hok M) hS q0 he hc f hN (hf.2.2.2.2 _ hw) (fun _ h => h) hfin hty rfl rfl hlt hd (fun H1 locs1 hP1 hD1 hS1 => ?_)
  · have h := ztyp _ hcm k hk
    obtain ⟨t, ht⟩ := Option.isSome_iff_exists.mp h
    rw [ht]; rfl
  · rw [zset_heap hq0 (by rw [zent_obj hk0, zfs_set hfd])] at hP1
    exact hk hok p e s m args below meth c H1 locs1 ls hf hr hlk hfr hE hP1 hS1 hl
set_option maxHeartbeats 1000000 in
theorem z_iaload {kd ix n : Nat} {i : Int32} (hd : decode (iB mi) pc = .ok (.iaload, 1)) (hk0 : zK kd = .inr (0, n)) (hv : zval kd ix) (hin : vp_in i n) (hk : V 0 G mi Z (pc + 1) l (zi (M.1 kd ix i.toNatClampNeg) :: st) M) : V 0 G mi Z pc l (zi i :: zr kd ix :: st) M := by
  rw [V_eq] at hk ⊢; intro hok p e s m args below meth c H locs ls hf hr hlk hfr hE hP hS hl
  obtain ⟨q0, hq0, hq1⟩ := zws_at (G := G) hv
  have he := hq1 M
  rw [zent_arr hk0] at he
  exact va_iald (D := gD G) hf.1 hf.2.1 hE.1 hP q0 0 he rfl hin hd (hk hok p e s m args below meth c H locs ls hf hr hlk hfr hE hP hS hl)
set_option maxHeartbeats 1000000 in
theorem z_baload {kd ix n : Nat} {i : Int32} (hd : decode (iB mi) pc = .ok (.baload, 1)) (hk0 : zK kd = .inr (2, n)) (hv : zval kd ix) (hin : vp_in i n) (hk : V 0 G mi Z (pc + 1) l (zi (M.1 kd ix i.toNatClampNeg) :: st) M) : V 0 G mi Z pc l (zi i :: zr kd ix :: st) M := by
  rw [V_eq] at hk ⊢; intro hok p e s m args below meth c H locs ls hf hr hlk hfr hE hP hS hl
  obtain ⟨q0, hq0, hq1⟩ := zws_at (G := G) hv
  have he := hq1 M
  rw [zent_arr hk0] at he
  exact va_zald (D := gD G) hf.1 hf.2.1 hE.1 hP q0 2 he rfl hin hd (hk hok p e s m args below meth c H locs ls hf hr hlk hfr hE hP hS hl)
set_option maxHeartbeats 1000000 in
theorem z_laload {kd ix n : Nat} {i : Int32} (hd : decode (iB mi) pc = .ok (.laload, 1)) (hk0 : zK kd = .inr (1, n)) (hv : zval kd ix) (hin : vp_in i n) (hk : V 0 G mi Z (pc + 1) l (zl (M.2 kd ix i.toNatClampNeg) :: st) M) : V 0 G mi Z pc l (zi i :: zr kd ix :: st) M := by
  rw [V_eq] at hk ⊢; intro hok p e s m args below meth c H locs ls hf hr hlk hfr hE hP hS hl
  obtain ⟨q0, hq0, hq1⟩ := zws_at (G := G) hv
  have he := hq1 M
  rw [zent_arr hk0] at he
  exact va_lald (D := gD G) hf.1 hf.2.1 hE.1 hP q0 1 he rfl hin hd (hk hok p e s m args below meth c H locs ls hf hr hlk hfr hE hP hS hl)
set_option maxHeartbeats 1000000 in
theorem z_aaload3 {kd ix n : Nat} {i : Int32} (hd : decode (iB mi) pc = .ok (.aaload, 1)) (hk0 : zK kd = .inr (3, n)) (hv : zval kd ix) (hin : vp_in i n) (hk : V 0 G mi Z (pc + 1) l (zr 0 i.toNatClampNeg :: st) M) : V 0 G mi Z pc l (zi i :: zr kd ix :: st) M := by
  rw [V_eq] at hk ⊢; intro hok p e s m args below meth c H locs ls hf hr hlk hfr hE hP hS hl
  obtain ⟨q0, hq0, hq1⟩ := zws_at (G := G) hv
  have he := hq1 M
  rw [zent_arr hk0] at he
  exact va_aldq (D := gD G) hf.1 hf.2.1 hE.1 hP q0 3 he rfl hin hd (hk hok p e s m args below meth c H locs ls hf hr hlk hfr hE hP hS hl)
set_option maxHeartbeats 1000000 in
theorem z_aaload4 {kd ix n : Nat} {i : Int32} (hd : decode (iB mi) pc = .ok (.aaload, 1)) (hk0 : zK kd = .inr (4, n)) (hv : zval kd ix) (hin : vp_in i n) (hk : V 0 G mi Z (pc + 1) l (zr 2 i.toNatClampNeg :: st) M) : V 0 G mi Z pc l (zi i :: zr kd ix :: st) M := by
  rw [V_eq] at hk ⊢; intro hok p e s m args below meth c H locs ls hf hr hlk hfr hE hP hS hl
  obtain ⟨q0, hq0, hq1⟩ := zws_at (G := G) hv
  have he := hq1 M
  rw [zent_arr hk0] at he
  exact va_aldq (D := gD G) hf.1 hf.2.1 hE.1 hP q0 4 he rfl hin hd (hk hok p e s m args below meth c H locs ls hf hr hlk hfr hE hP hS hl)
set_option maxHeartbeats 1000000 in
theorem z_iastore {kd ix n : Nat} {i x : Int32} (hd : decode (iB mi) pc = .ok (.iastore, 1)) (hk0 : zK kd = .inr (0, n)) (hv : zval kd ix) (hin : vp_in i n) (hk : V 0 G mi Z (pc + 1) l st (zset kd ix i.toNatClampNeg x M)) : V 0 G mi Z pc l (zi x :: zi i :: zr kd ix :: st) M := by
  rw [V_eq] at hk ⊢; intro hok p e s m args below meth c H locs ls hf hr hlk hfr hE hP hS hl
  obtain ⟨q0, hq0, hq1⟩ := zws_at (G := G) hv
  have he := hq1 M
  rw [zent_arr hk0] at he
  refine va_iast (D := gD G) hf.1 hf.2.1 hE.1 hP (zws_D hok M) hS q0 0 he rfl hin hd (fun H1 locs1 hP1 hD1 hS1 => ?_)
  rw [zset_heap (j := i.toNatClampNeg) (v := x) hq0 (by rw [zent_arr hk0]; simp only [zarr, zset_row])] at hP1
  exact hk hok p e s m args below meth c H1 locs1 ls hf hr hlk hfr hE hP1 hS1 hl
set_option maxHeartbeats 1000000 in
theorem z_bastore {kd ix n : Nat} {i x : Int32} (hd : decode (iB mi) pc = .ok (.bastore, 1)) (hk0 : zK kd = .inr (2, n)) (hv : zval kd ix) (hin : vp_in i n) (hx : x = 0 ∨ x = 1) (hk : V 0 G mi Z (pc + 1) l st (zset kd ix i.toNatClampNeg x M)) : V 0 G mi Z pc l (zi x :: zi i :: zr kd ix :: st) M := by
  rw [V_eq] at hk ⊢; intro hok p e s m args below meth c H locs ls hf hr hlk hfr hE hP hS hl
  obtain ⟨q0, hq0, hq1⟩ := zws_at (G := G) hv
  have he := hq1 M
  rw [zent_arr hk0] at he
  have hx2 : vp_nar .boolean x = x := by rcases hx with rfl | rfl <;> rfl
  refine va_zast (D := gD G) hf.1 hf.2.1 hE.1 hP (zws_D hok M) hS q0 2 he rfl hin hd (fun H1 locs1 hP1 hD1 hS1 => ?_)
  rw [hx2, zset_heap (j := i.toNatClampNeg) (v := x) hq0 (by rw [zent_arr hk0]; simp only [zarr, zset_row])] at hP1
  exact hk hok p e s m args below meth c H1 locs1 ls hf hr hlk hfr hE hP1 hS1 hl
set_option maxHeartbeats 1000000 in
theorem z_lastore {kd ix n : Nat} {i : Int32} {x : Int64} (hd : decode (iB mi) pc = .ok (.lastore, 1)) (hk0 : zK kd = .inr (1, n)) (hv : zval kd ix) (hin : vp_in i n) (hk : V 0 G mi Z (pc + 1) l st (zsetL kd ix i.toNatClampNeg x M)) : V 0 G mi Z pc l (zl x :: zi i :: zr kd ix :: st) M := by
  rw [V_eq] at hk ⊢; intro hok p e s m args below meth c H locs ls hf hr hlk hfr hE hP hS hl
  obtain ⟨q0, hq0, hq1⟩ := zws_at (G := G) hv
  have he := hq1 M
  rw [zent_arr hk0] at he
  refine va_last (D := gD G) hf.1 hf.2.1 hE.1 hP (zws_D hok M) hS q0 1 he rfl hin hd (fun H1 locs1 hP1 hD1 hS1 => ?_)
  rw [zsetL_heap (j := i.toNatClampNeg) (v := x) hq0 (by rw [zent_arr hk0]; simp only [zarr, zsetL_row])] at hP1
  exact hk hok p e s m args below meth c H1 locs1 ls hf hr hlk hfr hE hP1 hS1 hl
set_option maxHeartbeats 1000000 in
theorem z_alen {kd ix t n : Nat} (hd : decode (iB mi) pc = .ok (.arraylength, 1)) (hk0 : zK kd = .inr (t, n)) (ht : t < 3) (hv : zval kd ix) (hk : V 0 G mi Z (pc + 1) l (zi (Int32.ofNat n) :: st) M) : V 0 G mi Z pc l (zr kd ix :: st) M := by
  rw [V_eq] at hk ⊢; intro hok p e s m args below meth c H locs ls hf hr hlk hfr hE hP hS hl
  obtain ⟨q0, hq0, hq1⟩ := zws_at (G := G) hv
  have he := hq1 M
  rw [zent_arr hk0] at he
  match t, ht with
  | 0, _ => exact va_alen (D := gD G) hf.1 hf.2.1 hE.1 hP q0 0 he rfl rfl hd (hk hok p e s m args below meth c H locs ls hf hr hlk hfr hE hP hS hl)
  | 1, _ => exact va_alen (D := gD G) hf.1 hf.2.1 hE.1 hP q0 1 he rfl rfl hd (hk hok p e s m args below meth c H locs ls hf hr hlk hfr hE hP hS hl)
  | 2, _ => exact va_alen (D := gD G) hf.1 hf.2.1 hE.1 hP q0 2 he rfl rfl hd (hk hok p e s m args below meth c H locs ls hf hr hlk hfr hE hP hS hl)
set_option maxHeartbeats 1000000 in
theorem z_rows {i : Int32} (hd : decode (iB mi) pc = .ok (.laload, 1)) (hin : vp_in i 31) (hk : V 0 G mi Z (pc + 1) l (zl (zrows i.toNatClampNeg) :: st) M) : V 0 G mi Z pc l (zi i :: zr 38 0 :: st) M := by
  rw [V_eq] at hk ⊢; intro hok p e s m args below meth c H locs ls hf hr hlk hfr hE hP hS hl
  exact va_tl hf.1 hf.2.1 hE.2.2.1 hS hin rfl hd (hk hok p e s m args below meth c H locs ls hf hr hlk hfr hE hP hS hl)
set_option maxHeartbeats 1000000 in
theorem z_script {i : Int32} (hd : decode (iB mi) pc = .ok (.iaload, 1)) (hin : vp_in i (gN G)) (hk : V 0 G mi Z (pc + 1) l (zi (gX G i.toNatClampNeg) :: st) M) : V 0 G mi Z pc l (zi i :: zr 39 0 :: st) M := by
  rw [V_eq] at hk ⊢; intro hok p e s m args below meth c H locs ls hf hr hlk hfr hE hP hS hl
  exact va_ti hf.1 hf.2.1 hE.2.2.2.1 hS hin rfl hd (hk hok p e s m args below meth c H locs ls hf hr hlk hfr hE hP hS hl)
set_option maxHeartbeats 1000000 in
theorem z_scriptlen (hd : decode (iB mi) pc = .ok (.arraylength, 1)) (hk : V 0 G mi Z (pc + 1) l (zi (Int32.ofNat (gN G)) :: st) M) : V 0 G mi Z pc l (zr 39 0 :: st) M := by
  rw [V_eq] at hk ⊢; intro hok p e s m args below meth c H locs ls hf hr hlk hfr hE hP hS hl
  exact va_tlen hf.1 hf.2.1 hE.2.2.2.1 hS rfl hd (hk hok p e s m args below meth c H locs ls hf hr hlk hfr hE hP hS hl)
set_option maxHeartbeats 1000000 in
theorem z_getrows {n : Nat} (hd : decode (iB mi) pc = .ok (.getstatic n, 3)) (hw : Jvm.Cond.fieldLink (iN mi).cls n "ThreeStrandMaps$SolutionList" "ROWS" "[J" ∈ zTw) (hk : V 0 G mi Z (pc + 3) l (zr 38 0 :: st) M) : V 0 G mi Z pc l st M := by
  rw [V_eq] at hk ⊢; intro hok p e s m args below meth c H locs ls hf hr hlk hfr hE hP hS hl
  exact va_gets hf.1 hf.2.1 hE.2.1 hS hf.2.2.2.1 (hf.2.2.2.2 _ hw) (fun _ h => h) hd (hk hok p e s m args below meth c H locs ls hf hr hlk hfr hE hP hS hl)
set_option maxHeartbeats 1000000 in
theorem z_dup {v : ZV} (hd : decode (iB mi) pc = .ok (.dup, 1)) (hv : zcat v = 1) (hk : V 0 G mi Z (pc + 1) l (v :: v :: st) M) : V 0 G mi Z pc l (v :: st) M := by
  rw [V_eq] at hk ⊢; intro hok p e s m args below meth c H locs ls hf hr hlk hfr hE hP hS hl
  exact lv_dup hf.1 hf.2.1 hd (by rw [zcat_eq]; exact hv) (hk hok p e s m args below meth c H locs ls hf hr hlk hfr hE hP hS hl)
set_option maxHeartbeats 1000000 in
theorem z_dup2 {v w : ZV} (hd : decode (iB mi) pc = .ok (.dup2, 1)) (hv : zcat v = 1) (hw : zcat w = 1) (hk : V 0 G mi Z (pc + 1) l (v :: w :: v :: w :: st) M) : V 0 G mi Z pc l (v :: w :: st) M := by
  rw [V_eq] at hk ⊢; intro hok p e s m args below meth c H locs ls hf hr hlk hfr hE hP hS hl
  exact lv_dup2_11 hf.1 hf.2.1 hd (by rw [zcat_eq]; exact hv) (by rw [zcat_eq]; exact hw) (hk hok p e s m args below meth c H locs ls hf hr hlk hfr hE hP hS hl)
set_option maxHeartbeats 1000000 in
theorem z_goto {off : Int} {tgt : Nat} (hd : decode (iB mi) pc = .ok (.goto off, 3)) (ht : (pc : Int) + off = (tgt : Int)) (hk : V 0 G mi Z tgt l st M) : V 0 G mi Z pc l st M := by
  rw [V_eq] at hk ⊢; intro hok p e s m args below meth c H locs ls hf hr hlk hfr hE hP hS hl
  exact lv_goto hf.1 hf.2.1 hd ht (hk hok p e s m args below meth c H locs ls hf hr hlk hfr hE hP hS hl)
set_option maxHeartbeats 1000000 in
theorem z_iinc {n : Nat} {a : Int} {x y : Int32} (hd : decode (iB mi) pc = .ok (.iinc n a, 3)) (hg : lget l n = some (zi x)) (hy : Int32.ofInt a = y) (hn : n < iL mi) (hk : V 0 G mi Z (pc + 3) (lput n (zi (x + y)) l) st M) : V 0 G mi Z pc l st M := by
  rw [V_eq] at hk ⊢
  intro hok p e s m args below meth c H locs ls0 hf hr hlk hfr hE hP hS hl
  obtain ⟨k, hk9⟩ := List.getElem?_of_mem (List.mem_map.mpr ⟨(n, zi x), lget_mem hg, rfl⟩ : (n, zc G (zi x)) ∈ zlm G l)
  exact lv_iinc hf.1 hf.2.1 hd hl (k := k) hk9 (by rw [hy]) hn rfl (fun ls hl2 => hk hok p e s m args below meth c H locs ls hf hr hlk hfr hE hP hS (lput_has1 hl2))
theorem V_sub {l' : ZL} (hs : ∀ q ∈ l', q ∈ l) (hk : V 0 G mi Z pc l' st M) : V 0 G mi Z pc l st M := by
  rw [V_eq] at hk ⊢; intro hok p e s m args below meth c H locs ls hf hr hlk hfr hE hP hS hl
  exact hk hok p e s m args below meth c H locs ls hf hr hlk hfr hE hP hS (zkeep_has hl hs)
end
end
section
theorem zEnv_keep {G : ZG} {s U : State} {H H' : Heap} (hE : zEnv G s H) (hq : ∀ a : Nat, a < H.size → ¬ gA G a → H'[a]? = H[a]?) (hvm : s.vm.Alike U.vm) (hn : ∀ w ∈ znest, va_Nw w U) : zEnv G U H' :=
  ⟨va_K.moved hvm hE.1, (hE.2.1.moved hvm).kept hq, (hE.2.2.1.moved hvm).kept hq, (hE.2.2.2.1.moved hvm).kept hq, hn⟩
theorem znest_form : ∀ w ∈ znest, ∃ a i x h, w = .methodLinkNest a i x h := by
  intro w hw
  have h := (List.mem_filter.mp hw).2
  cases w <;> first | exact ⟨_, _, _, _, rfl⟩ | cases h
theorem znest_warm {s U : State} (hW : s.WarmedH U.vm) (h : ∀ w ∈ znest, va_Nw w s) : ∀ w ∈ znest, va_Nw w U := by
  intro w hw
  have h2 := h w hw
  obtain ⟨a, i, x, h9, rfl⟩ := znest_form w hw
  exact va_Nw.warmM hW h2
theorem zEnv_call {G : ZG} {s U : State} {H : Heap} {locs : List Loc} (hE : zEnv G s s.heap) (hS : va_S (gA G) s.heap H locs) (hU : U.heap = H) (hW : s.WarmedH U.vm) : zEnv G U U.heap := by
  rw [hU]
  exact zEnv_keep hE (fun a h1 h2 => hS.2.1 a h1 h2) hW.alike (znest_warm hW hE.2.2.2.2)
theorem zPc_blind (G : ZG) (M : ZM) (av : List ZV) : FrameBlind (zPc G M av) := fun a U g mk q => ⟨q.1, q.2.1, zEnv_keep (s := U) (U := U.calling g mk a) q.2.2 (fun _ _ _ => rfl) (Vm.Alike.refl U.vm) (fun w hw => by
  have h2 := q.2.2.2.2.2.2 w hw
  obtain ⟨a, i, x, h9, rfl⟩ := znest_form w hw
  exact va_Nw.same rfl (U := U.calling g mk _) rfl h2)⟩
section
variable {p : Program} {l : Launch} {e : Env} {R : Room} {s : State} {m : MethodId} {args : Array Value} {below : List Frame} {meth : Method} {c : Code} {H : Heap} {locs : List Loc} {cells slots : Nat} {Q : State → Prop}
theorem zcall {G : ZG} {Z : Option ZV → ZM → Prop} {pc : Nat} {ls : Array Slot} {st0 rest : List Value} {av : Array Value} {H0 : Heap} (hr : va_Run p l e R s m args below meth c H locs cells slots 0 0 (F0 m pc ls st0) rest (zQc G Z av) (gA G)) (hS : va_S (gA G) H0 H locs)
    (kk : ∀ (r : Option ZV) (M' : ZM) (H1 : Heap) (locs1 : List Loc), Z r M' → va_P (gD G) zcls (zws G M') H1 → va_S (gA G) H0 H1 locs1 → W p l e R s m args below meth c H1 locs1 cells slots Q (F0 m (pc + 3) ls ((r.map (zc G)).toList ++ rest))) : W p l e R s m args below meth c H locs cells slots Q (F0 m pc ls st0) := by
  intro T hT X
  obtain ⟨v, st₀, t, T', L, h0, X', hL, hT', hvm, hQ, hg⟩ := hr T hT X
  obtain ⟨⟨r, M', hv, hZ, hP⟩, hF1, hF2⟩ := hQ
  have hv2 : v = r.map (zc G) := Outcome.returned.inj hv
  subst hv2
  have hS1 : va_S (gA G) H0 t.heap (locs ++ L) := by
    refine ⟨Nat.le_trans hS.1 (by rw [← h0]; exact hF1), fun q h1 h2 => ?_, fun q hq => ?_⟩
    · rw [hF2 q (by rw [h0]; exact Nat.lt_of_lt_of_le h1 hS.1) h2, h0]
      exact hS.2.1 q h1 h2
    · rcases List.mem_append.mp hq with h | h
      · exact hS.2.2 q h
      · exact hL q h
  obtain ⟨t2, a1, b1⟩ := kk r M' t.heap (locs ++ L) hZ hP hS1 T' hT' X'
  exact ⟨t2, hg t2 a1, b1⟩
end
/-- a method's row of the tables: its code's word, its class initialised, how many arguments -/
def zmOk (cm : ZI) : Prop := Jvm.Cond.code (iN cm) (iB cm) (iL cm) (iR cm) ∈ zTw ∧ Jvm.Cond.initialized (iN cm).cls ∈ zTw ∧ ((iN cm).cls ≠ "java/lang/invoke/MethodHandle" ∧ (iN cm).cls ≠ "java/lang/invoke/VarHandle" ∧ (parseMethodDescriptor (iN cm).desc).map (fun d => d.parameters.length) = some (iA cm))
def zfit (mi cm : ZI) : Prop := iD cm + 1 ≤ (zR mi).frames ∧ 8 + (iL cm + 11) + 39 * iD cm ≤ (zR mi).locals
theorem zwm_good {cm : ZI} (h : zmOk cm) {w : Jvm.Cond} (hw : w ∈ zwm cm) : w ∈ zTw := by
  rcases List.mem_cons.mp hw with h1 | h1
  · rw [h1]; exact h.1
  · exact h1
theorem zgood {ws : List Jvm.Cond} (h : ∀ w ∈ ws, w ∈ zTw) : GoodIn zTw ws := fun w hw => ⟨h w hw, zTw_good w (h w hw)⟩
theorem zcs_le (mi : ZI) : zC mi + 0 ≤ (zR mi).cells ∧ zS mi + 0 ≤ (zR mi).slots := by
  unfold zC zS zR
  cases (iD mi == 11) <;> exact ⟨Nat.le_refl _, Nat.le_refl _⟩
section
variable {G : ZG} {mi : ZI} {Z : Option ZV → ZM → Prop} {pc : Nat} {l : ZL} {st : List ZV} {M : ZM}
set_option maxHeartbeats 1000000 in
theorem z_virt {n kd ix ci N : Nat} {fs : List ZF} {C : String} {T : u_T} {cm : ZI} {as : List ZV} (hd : decode (iB mi) pc = .ok (.invokevirtual n, 3)) (hm : zmOk cm) (hfit : zfit mi cm) (has : as.length = iA cm) (hst : zct st ≤ 8) (hk0 : zK kd = .inl (ci, fs)) (hv : zval kd ix) (hc : zcls[ci]? = some (C, T, N)) (hC : (iN cm).cls = C)
    (hw1 : Jvm.Cond.methodLink (iN mi).cls n (iN cm) ∈ zTw) (hw2 : Jvm.Cond.instanceMethod (iN cm) ∈ zTw) (hw3 : Jvm.Cond.selects C (iN cm) (iN cm) ∈ zTw)
    (hk : Ctr 0 G cm (zr kd ix :: as) M (fun r M' => V 0 G mi Z (pc + 3) l (r.toList ++ st) M')) : V 0 G mi Z pc l (as.reverse ++ zr kd ix :: st) M := by
  rw [V_eq]
  rw [Ctr_eq] at hk
  intro hok p e s m args below meth c H locs ls hf hr hlk hfr hE hP hS hl
  obtain ⟨q0, hq0, hq1⟩ := zws_at (G := G) hv
  have he := hq1 M
  rw [zent_obj hk0] at he
  have hT : GoodIn zTw (wsV (iN mi).cls n C (iN cm) (zwm cm)) := zgood (fun w hw => by
    unfold wsV at hw
    simp only [List.cons_append, List.nil_append, List.mem_cons] at hw
    rcases hw with rfl | rfl | rfl | rfl | hw
    · exact hw1
    · exact hw2
    · exact hw3
    · rw [← hC]; exact hm.2.1
    · exact zwm_good hm hw)
  refine zcall (Z := fun r M' => V 0 G mi Z (pc + 3) l (r.toList ++ st) M') (rest := st.map (zc G)) (va_runV (As := as.map (zc G)) (rest := st.map (zc G)) hf (hk hok) (cwV (iA cm) hf.2.2.2.2 hT rfl rfl rfl ⟨hC, hm.2.2.1, hm.2.2.2.1, hm.2.2.2.2⟩ hfit) ⟨zPc_blind G M _, va_recv hE.1 hP hc he, fun U hU hW => ⟨rfl, by rw [hU]; exact hP, zEnv_call hE hS hU hW⟩⟩ rfl (by rw [List.length_map]; exact has) hl.1 (by simp [List.map_append, List.map_reverse, zc]) (lv_room (by rw [zct_eq]; exact hst)) hd (zcs_le mi)) hS (fun r M' H1 locs1 hZ hP1 hS1 => ?_)
  rw [V_eq] at hZ
  have h := hZ hok p e s m args below meth c H1 locs1 ls hf hr hlk hfr hE hP1 hS1 hl
  cases r with
  | none => exact h
  | some r => exact h
set_option maxHeartbeats 1000000 in
theorem z_stat {n : Nat} {cm : ZI} {as : List ZV} (hd : decode (iB mi) pc = .ok (.invokestatic n, 3)) (hm : zmOk cm) (hfit : zfit mi cm) (has : as.length = iA cm) (hst : zct st ≤ 8)
    (hw1 : Jvm.Cond.methodLink (iN mi).cls n (iN cm) ∈ zTw) (hw2 : Jvm.Cond.static (iN cm) ∈ zTw)
    (hk : Ctr 0 G cm as M (fun r M' => V 0 G mi Z (pc + 3) l (r.toList ++ st) M')) : V 0 G mi Z pc l (as.reverse ++ st) M := by
  rw [V_eq]
  rw [Ctr_eq] at hk
  intro hok p e s m args below meth c H locs ls hf hr hlk hfr hE hP hS hl
  have hT : GoodIn zTw (va_wsS (iN mi).cls n (iN cm) (zwm cm)) := zgood (fun w hw => by
    unfold va_wsS at hw
    simp only [List.cons_append, List.nil_append, List.mem_cons] at hw
    rcases hw with rfl | rfl | rfl | hw
    · exact hw1
    · exact hw2
    · exact hm.2.1
    · exact zwm_good hm hw)
  refine zcall (Z := fun r M' => V 0 G mi Z (pc + 3) l (r.toList ++ st) M') (rest := st.map (zc G)) (va_runS (As := as.map (zc G)) (rest := st.map (zc G)) hf (hk hok) (va_cwS (iA cm) hf.2.2.2.2 hT rfl rfl rfl hm.2.2 hfit) ⟨zPc_blind G M _, fun U hU hW => ⟨rfl, by rw [hU]; exact hP, zEnv_call hE hS hU hW⟩⟩ rfl (by rw [List.length_map]; exact has) hl.1 (by simp [List.map_append, List.map_reverse]) (lv_room (by rw [zct_eq]; exact hst)) hd (zcs_le mi)) hS (fun r M' H1 locs1 hZ hP1 hS1 => ?_)
  rw [V_eq] at hZ
  have h := hZ hok p e s m args below meth c H1 locs1 ls hf hr hlk hfr hE hP1 hS1 hl
  cases r with
  | none => exact h
  | some r => exact h
set_option maxHeartbeats 1000000 in
theorem z_nest {n : Nat} {cm : ZI} {host : String} {as : List ZV} (hd : decode (iB mi) pc = .ok (.invokestatic n, 3)) (hm : zmOk cm) (hfit : zfit mi cm) (has : as.length = iA cm) (hst : zct st ≤ 8)
    (hw1 : Jvm.Cond.methodLinkNest (iN mi).cls n (iN cm) host ∈ znest) (hw2 : Jvm.Cond.static (iN cm) ∈ zTw)
    (hk : Ctr 0 G cm as M (fun r M' => V 0 G mi Z (pc + 3) l (r.toList ++ st) M')) : V 0 G mi Z pc l (as.reverse ++ st) M := by
  rw [V_eq]
  rw [Ctr_eq] at hk
  intro hok p e s m args below meth c H locs ls hf hr hlk hfr hE hP hS hl
  have hT : GoodIn zTw (zwm cm) := zgood (fun w hw => zwm_good hm hw)
  refine zcall (Z := fun r M' => V 0 G mi Z (pc + 3) l (r.toList ++ st) M') (rest := st.map (zc G)) (va_runSN (As := as.map (zc G)) (rest := st.map (zc G)) hf (hk hok) ⟨va_cnB (iA cm) hf.2.2.2.2 hT rfl rfl rfl (hE.2.2.2.2 _ hw1) (hf.2.2.2.2 _ hm.2.1) hm.2.2 hfit, hf.2.2.2.2 _ hw2, trivial⟩ ⟨zPc_blind G M _, fun U hU hW => ⟨rfl, by rw [hU]; exact hP, zEnv_call hE hS hU hW⟩⟩ rfl (by rw [List.length_map]; exact has) hl.1 (by simp [List.map_append, List.map_reverse]) (lv_room (by rw [zct_eq]; exact hst)) hd (zcs_le mi)) hS (fun r M' H1 locs1 hZ hP1 hS1 => ?_)
  rw [V_eq] at hZ
  have h := hZ hok p e s m args below meth c H1 locs1 ls hf hr hlk hfr hE hP1 hS1 hl
  cases r with
  | none => exact h
  | some r => exact h
theorem zlaw_no (h : iD mi ≠ 11) : (iD mi == 11) = false := by simpa using h
set_option maxHeartbeats 1000000 in
theorem z_ireturn {x : Int32} (hd : decode (iB mi) pc = .ok (.ireturn, 1)) (hD : iD mi ≠ 11) (hR : iR mi = some .int) (hk : Z (some (zi x)) M) : V 0 G mi Z pc l [zi x] M := by
  rw [V_eq]
  intro hok p e s m args below meth c H locs ls hf hr hlk hfr hE hP hS hl
  simp only [zQ, zC, zS, zR, zlaw_no hD, cond_false]
  exact W.iret (v := x) hf.1 hf.2.1 (hr.trans hR) (fun t ht hW => ⟨⟨some (zi x), M, rfl, hk, by rw [ht]; exact hP⟩, hS.F ht⟩) hS.2.2 hd hlk
set_option maxHeartbeats 1000000 in
theorem z_zreturn {x : Int32} (hd : decode (iB mi) pc = .ok (.ireturn, 1)) (hD : iD mi ≠ 11) (hR : iR mi = some .boolean) (hx : x = 0 ∨ x = 1) (hk : Z (some (zi x)) M) : V 0 G mi Z pc l [zi x] M := by
  rw [V_eq]
  intro hok p e s m args below meth c H locs ls hf hr hlk hfr hE hP hS hl
  simp only [zQ, zC, zS, zR, zlaw_no hD, cond_false]
  exact W.zret (v := x) (ty := .boolean) hf.1 hf.2.1 (hr.trans hR) (by rcases hx with rfl | rfl <;> rfl) (fun t ht hW => ⟨⟨some (zi x), M, rfl, hk, by rw [ht]; exact hP⟩, hS.F ht⟩) hS.2.2 hd hlk
set_option maxHeartbeats 1000000 in
theorem z_lreturn {x : Int64} (hd : decode (iB mi) pc = .ok (.lreturn, 1)) (hD : iD mi ≠ 11) (hR : iR mi = some .long) (hk : Z (some (zl x)) M) : V 0 G mi Z pc l [zl x] M := by
  rw [V_eq]
  intro hok p e s m args below meth c H locs ls hf hr hlk hfr hE hP hS hl
  simp only [zQ, zC, zS, zR, zlaw_no hD, cond_false]
  exact W.lret (v := x) hf.1 hf.2.1 (hr.trans hR) (fun t ht hW => ⟨⟨some (zl x), M, rfl, hk, by rw [ht]; exact hP⟩, hS.F ht⟩) hS.2.2 hd hlk
set_option maxHeartbeats 1000000 in
theorem z_areturn {a b : Nat} {n : String} (hd : decode (iB mi) pc = .ok (.areturn, 1)) (hD : iD mi ≠ 11) (hR : iR mi = some (.object n)) (hk : Z (some (zr a b)) M) : V 0 G mi Z pc l [zr a b] M := by
  rw [V_eq]
  intro hok p e s m args below meth c H locs ls hf hr hlk hfr hE hP hS hl
  simp only [zQ, zC, zS, zR, zlaw_no hD, cond_false]
  exact W.aret (v := .ref (ga G a b)) hf.1 hf.2.1 (hr.trans hR) (Or.inl ⟨n, rfl⟩) (Or.inr ⟨_, rfl⟩) (fun t ht hW => ⟨⟨some (zr a b), M, rfl, hk, by rw [ht]; exact hP⟩, hS.F ht⟩) hS.2.2 hd hlk
set_option maxHeartbeats 1000000 in
theorem z_return (hd : decode (iB mi) pc = .ok (.return_, 1)) (hD : iD mi ≠ 11) (hR : iR mi = none) (hk : Z none M) : V 0 G mi Z pc l [] M := by
  rw [V_eq]
  intro hok p e s m args below meth c H locs ls hf hr hlk hfr hE hP hS hl
  simp only [zQ, zC, zS, zR, zlaw_no hD, cond_false]
  exact W.vret hf.1 hf.2.1 (hr.trans hR) (fun t ht hW => ⟨⟨none, M, rfl, hk, by rw [ht]; exact hP⟩, hS.F ht⟩) hS.2.2 hd hlk
end
theorem zlaw_end {p : Program} {l : Launch} {e : Env} {R : Room} {s : State} {m : MethodId} {args : Array Value} {below : List Frame} {meth : Method} {c : Code} {H : Heap} {cc : ByteArray} {ls : Array Slot} {pc : Nat} (hx : p.tables.exec = Jvm.exec) (hb : c.code = cc) (hr : meth.sig.returnType = some .boolean) (hlocks : meth.locks = false) (hdg : decode cc pc = .ok (.ireturn, 1)) : W p l e R s m args below meth c H [] 600000 7302249 (zZ below args s) (F0 m pc ls [.int 1]) := by
  intro T hT X
  obtain ⟨fs, hret, hrun, hended, hW, hframe⟩ := X.leave (v := some (.int 1)) (hlocks := hlocks) (fun h => by rw [hr] at h; cases h)
  have hmeth' : T.vm.method? m = some meth := X.method'
  refine ⟨T.setFrames fs, ?_, .returned (some (.int 1)), hrun, hended, rfl, ⟨_, rfl⟩, hW, hframe⟩
  jvm_step X.here [X.here.top, hx, hb, hdg, hmeth', hr, narrow_b1]
  (try refine ⟨rfl, ?_⟩); (try refine ⟨rfl, ?_⟩)
  first | (intro acts; rw [hret _ acts rfl rfl rfl]) | rw [hret _ _ rfl rfl rfl]
  exact Steps.refl _
set_option maxHeartbeats 1000000 in
theorem z_lawret {G : ZG} {mi : ZI} {Z : Option ZV → ZM → Prop} {pc : Nat} {l : ZL} {M : ZM} (hd : decode (iB mi) pc = .ok (.ireturn, 1)) (hD : iD mi = 11) (hR : iR mi = some .boolean) : V 0 G mi Z pc l [zi 1] M := by
  rw [V_eq]
  intro hok p e s m args below meth c H locs ls hf hr hlk hfr hE hP hS hl
  have h11 : (iD mi == 11) = true := by simpa using hD
  simp only [zQ, zC, zS, zR, h11, cond_true]
  exact va_forget (fun q hq => hfr hD _ (hS.2.2 q hq)) (zlaw_end hf.1 hf.2.1 (hr.trans hR) hlk hd)
theorem Ctr_mono {G : ZG} {cm : ZI} {av : List ZV} {M : ZM} {Z Z' : Option ZV → ZM → Prop} (h : Ctr 0 G cm av M Z) (hz : ∀ r M', Z r M' → Z' r M') : Ctr 0 G cm av M Z' := by
  rw [Ctr_eq] at *
  intro hok p e ha hc hk s m args below hf hap hpre hK
  obtain ⟨t, o, h1, h2, h3, ⟨⟨r, M', e1, e2, e3⟩, hF⟩, hL⟩ := h hok p e ha hc hk s m args below hf hap hpre hK
  exact ⟨t, o, h1, h2, h3, ⟨⟨r, M', e1, hz r M' e2, e3⟩, hF⟩, hL⟩
def zargs : Nat → List ZV → ZL
  | _, [] => []
  | n, v :: r => (n, v) :: zargs (match v with | .inr (.inl _) => n + 2 | _ => n + 1) r
theorem zargs_eq (G : ZG) (av : List ZV) : ∀ n, lv_args n (av.map (zc G)) = zlm G (zargs n av) := by
  induction av with
  | nil => intro n; rfl
  | cons v r ih =>
    intro n
    rcases v with x | x | x <;> exact congrArg _ (ih _)
theorem zlen_eq (G : ZG) (av : List ZV) : (lg_sl (av.map (zc G))).length = zct av := by
  induction av with
  | nil => rfl
  | cons v r ih =>
    have h : lg_sl ((v :: r).map (zc G)) = (if (zc G v).category = 2 then [.val (zc G v), .second] else [.val (zc G v)]) ++ lg_sl (r.map (zc G)) := rfl
    rw [h, List.length_append, ih]
    rcases v with x | x | x <;> rfl
set_option maxHeartbeats 1000000 in
theorem z_enter {G : ZG} {mi : ZI} {av : List ZV} {M : ZM} {Z : Option ZV → ZM → Prop} (hpl : plainName (iN mi).cls = true) (hD : iD mi ≠ 11) (hlen : zct av ≤ iL mi) (hk : V 0 G mi Z 0 (zargs 0 av) [] M) : Ctr 0 G mi av M Z := by
  rw [Ctr_eq]
  rw [V_eq] at hk
  intro hok
  refine Met.ofW (cc := iB mi) (maxL := iL mi) (ret := iR mi) hpl rfl ?_
  intro p e s m args below meth c s₁ B hml hv
  obtain ⟨rfl, hP, hE⟩ := hv
  have hts := atoms_spec (ws := zwm mi) B.pre
  have hown : s.vm.findClass (iN mi).cls = some m.cls := findClass_of_methodNamed B.named
  have hl := lv_entry (av.map (zc G)) (n := iL mi) (by rw [zlen_eq]; exact hlen)
  rw [zargs_eq] at hl
  have h := hk hok p e s m (av.map (zc G)).toArray below meth c s.heap [] _ ⟨B.exec, B.bytes, hml, hown, fun w hw => hts w (List.mem_cons_of_mem _ hw)⟩ B.returns B.notSynchronized (fun h => absurd h hD) hE hP va_S.rf hl
  simp only [zQ, zC, zS, zR, zlaw_no hD, cond_false] at h
  rw [lg_entry_eq]
  exact h
end
section
/-! the walk as a function: what is owed at each instruction -/
abbrev ZX : Type := List Nat × (Int32 × (Int64 × List (Int32 × Nat)))
/-- a row of a method's table: where, what, what its pool's entry says, the method that it calls -/
abbrev ZE : Type := Nat × (Instr × (ZX × ZI))
def zq (x : ZX) (i : Nat) : Nat := x.1.getD i 0
def zpI (st : List ZV) (k : Int32 → List ZV → Prop) : Prop := match st with
  | .inl x :: r => k x r
  | _ => False
def zpL (st : List ZV) (k : Int64 → List ZV → Prop) : Prop := match st with
  | .inr (.inl x) :: r => k x r
  | _ => False
def zpR (st : List ZV) (k : Nat → Nat → List ZV → Prop) : Prop := match st with
  | .inr (.inr (a, b)) :: r => k a b r
  | _ => False
def zgI (l : ZL) (n : Nat) (k : Int32 → Prop) : Prop := match lget l n with
  | some (.inl x) => k x
  | _ => False
def zgL (l : ZL) (n : Nat) (k : Int64 → Prop) : Prop := match lget l n with
  | some (.inr (.inl x)) => k x
  | _ => False
def zgR (l : ZL) (n : Nat) (k : Nat → Nat → Prop) : Prop := match lget l n with
  | some (.inr (.inr (a, b))) => k a b
  | _ => False
theorem zpI_ex {st : List ZV} {k : Int32 → List ZV → Prop} (h : zpI st k) : ∃ x r, st = zi x :: r ∧ k x r := by
  unfold zpI at h
  split at h
  · exact ⟨_, _, rfl, h⟩
  · exact h.elim
theorem zpL_ex {st : List ZV} {k : Int64 → List ZV → Prop} (h : zpL st k) : ∃ x r, st = zl x :: r ∧ k x r := by
  unfold zpL at h
  split at h
  · exact ⟨_, _, rfl, h⟩
  · exact h.elim
theorem zpR_ex {st : List ZV} {k : Nat → Nat → List ZV → Prop} (h : zpR st k) : ∃ a b r, st = zr a b :: r ∧ k a b r := by
  unfold zpR at h
  split at h
  · exact ⟨_, _, _, rfl, h⟩
  · exact h.elim
theorem zgI_ex {l : ZL} {n : Nat} {k : Int32 → Prop} (h : zgI l n k) : ∃ x, lget l n = some (zi x) ∧ k x := by
  unfold zgI at h
  split at h
  · exact ⟨_, by assumption, h⟩
  · exact h.elim
theorem zgL_ex {l : ZL} {n : Nat} {k : Int64 → Prop} (h : zgL l n k) : ∃ x, lget l n = some (zl x) ∧ k x := by
  unfold zgL at h
  split at h
  · exact ⟨_, by assumption, h⟩
  · exact h.elim
theorem zgR_ex {l : ZL} {n : Nat} {k : Nat → Nat → Prop} (h : zgR l n k) : ∃ a b, lget l n = some (zr a b) ∧ k a b := by
  unfold zgR at h
  split at h
  · exact ⟨_, _, by assumption, h⟩
  · exact h.elim
theorem zany_ex {st : List ZV} {k : ZV → List ZV → Prop} (h : match st with | v :: st => k v st | _ => False) : ∃ v r, st = v :: r ∧ k v r := by
  split at h
  · exact ⟨_, _, rfl, h⟩
  · exact h.elim
theorem zany2_ex {st : List ZV} {k : ZV → ZV → List ZV → Prop} (h : match st with | v :: w :: st => k v w st | _ => False) : ∃ v w r, st = v :: w :: r ∧ k v w r := by
  split at h
  · exact ⟨_, _, _, rfl, h⟩
  · exact h.elim
theorem znil_ex {st : List ZV} {P : Prop} (h : match st with | [] => P | _ => False) : st = [] ∧ P := by
  split at h
  · exact ⟨rfl, h⟩
  · exact h.elim
theorem zzero_ex {n : Nat} {P : Prop} (h : match n with | 0 => P | _ => False) : n = 0 ∧ P := by
  split at h
  · exact ⟨rfl, h⟩
  · exact h.elim
theorem zbif_ex {b : Bool} {P : Prop} (h : bif b then P else False) : b = true ∧ P := by
  cases b with
  | true => exact ⟨rfl, h⟩
  | false => exact h.elim
theorem zbif_or {b : Bool} {P Q : Prop} (h : bif b then P else Q) : (b = true ∧ P) ∨ (b = false ∧ Q) := by
  cases b with
  | true => exact Or.inl ⟨rfl, h⟩
  | false => exact Or.inr ⟨rfl, h⟩
theorem zobj_ex {kd : Nat} {k : Nat → List ZF → Prop} (h : match zK kd with | .inl (ci, fs) => k ci fs | _ => False) : ∃ ci fs, zK kd = .inl (ci, fs) ∧ k ci fs := by
  split at h
  · exact ⟨_, _, by assumption, h⟩
  · exact h.elim
theorem zopt_ex {o : Option ZF} {k : ZF → Prop} (h : match o with | some fd => k fd | none => False) : ∃ fd, o = some fd ∧ k fd := by
  split at h
  · exact ⟨_, rfl, h⟩
  · exact h.elim
theorem zopt2_ex {o : Option ZF} {P : Prop} (h : match o with | some none => P | _ => False) : o = some none ∧ P := by
  split at h
  · exact ⟨rfl, h⟩
  · exact h.elim
theorem zarr0_ex {kd : Nat} {k : Nat → Prop} (h : match zK kd with | .inr (0, n) => k n | _ => False) : ∃ n, zK kd = .inr (0, n) ∧ k n := by
  split at h
  · exact ⟨_, by assumption, h⟩
  · exact h.elim
theorem zarr1_ex {kd : Nat} {k : Nat → Prop} (h : match zK kd with | .inr (1, n) => k n | _ => False) : ∃ n, zK kd = .inr (1, n) ∧ k n := by
  split at h
  · exact ⟨_, by assumption, h⟩
  · exact h.elim
theorem zarr2_ex {kd : Nat} {k : Nat → Prop} (h : match zK kd with | .inr (2, n) => k n | _ => False) : ∃ n, zK kd = .inr (2, n) ∧ k n := by
  split at h
  · exact ⟨_, by assumption, h⟩
  · exact h.elim
theorem zarr34_ex {kd : Nat} {k k' : Nat → Prop} (h : match zK kd with | .inr (3, n) => k n | .inr (4, n) => k' n | _ => False) : (∃ n, zK kd = .inr (3, n) ∧ k n) ∨ ∃ n, zK kd = .inr (4, n) ∧ k' n := by
  split at h
  · exact Or.inl ⟨_, by assumption, h⟩
  · exact Or.inr ⟨_, by assumption, h⟩
  · exact h.elim
theorem zarrT_ex {kd : Nat} {k : Nat → Nat → Prop} (h : match zK kd with | .inr (t, n) => k t n | _ => False) : ∃ t n, zK kd = .inr (t, n) ∧ k t n := by
  split at h
  · exact ⟨_, _, by assumption, h⟩
  · exact h.elim
theorem zret_ex {o : Option FieldType} {P Q : Prop} (h : match o with | some .int => P | some .boolean => Q | _ => False) : (o = some .int ∧ P) ∨ (o = some .boolean ∧ Q) := by
  split at h
  · exact Or.inl ⟨rfl, h⟩
  · exact Or.inr ⟨rfl, h⟩
  · exact h.elim
/-- a cell that is there: of a kind with one cell it's seen, of others it's owed -/
def zvd (kd ix : Nat) (P : Prop) : Prop := bif zN kd == 1 then (match ix with | 0 => P | _ => False) else (ix < zN kd ∧ P)
theorem zN_lt {kd : Nat} (h : zN kd ≠ 0) : kd < 38 := by
  rcases Nat.lt_or_ge kd 38 with q | q
  · exact q
  · exfalso
    apply h
    have hl : zKL.length = 38 := by decide +kernel
    unfold zN
    rw [List.getD_eq_getElem?_getD, List.getElem?_eq_none_iff.mpr (by rw [hl]; exact q)]
    rfl
theorem zvd_ex {kd ix : Nat} {P : Prop} (h : zvd kd ix P) : zval kd ix ∧ P := by
  unfold zvd at h
  rcases zbif_or h with ⟨h1, h⟩ | ⟨h1, h⟩
  · have h2 := beq_iff_eq.mp h1
    obtain ⟨rfl, h⟩ := zzero_ex h
    exact ⟨⟨zN_lt (by rw [h2]; decide), by rw [h2]; decide⟩, h⟩
  · exact ⟨⟨zN_lt (by intro q; rw [q] at h; exact absurd h.1 (Nat.not_lt_zero _)), h.1⟩, h.2⟩
abbrev zbr (c A B : Prop) : Prop := (c → A) ∧ (¬ c → B)
def zb0 (c : ClassFile.Cond) (x : Int32) (A B : Prop) : Prop := match c with
  | .eq => zbr (x = nI 0) A B
  | .ne => zbr (¬ x = nI 0) A B
  | .lt => zbr (x < nI 0) A B
  | .ge => zbr (nI 0 ≤ x) A B
  | .gt => zbr (nI 0 < x) A B
  | .le => zbr (x ≤ nI 0) A B
def zb2 (c : ClassFile.Cond) (x y : Int32) (A B : Prop) : Prop := match c with
  | .eq => zbr (x = y) A B
  | .ne => zbr (¬ x = y) A B
  | .lt => zbr (x < y) A B
  | .ge => zbr (y ≤ x) A B
  | .gt => zbr (y < x) A B
  | .le => zbr (x ≤ y) A B
def zqn : List Nat → Nat → (Nat → Prop) → Prop
  | [], _, _ => False
  | a :: r, n, k => match n with
    | 0 => k a
    | n + 1 => zqn r n k
theorem zqn_ex {k : Nat → Prop} : ∀ (qs : List Nat) (n : Nat), zqn qs n k → k (qs.getD n 0) := by
  intro qs
  induction qs with
  | nil => intro n h; exact h.elim
  | cons a r ih =>
    intro n h
    cases n with
    | zero => exact h
    | succ n => exact ih n h
def zfvk (k i j : Nat) (M : ZM) (f : ZF) (K : ZV → Prop) : Prop := match f with
  | none => K (zi (M.1 k i j))
  | some (k', c, b) => match b with
    | true => K (zr k' i)
    | false => K (zr k' c)
theorem zfvk_ex {k i j : Nat} {M : ZM} {f : ZF} {K : ZV → Prop} (h : zfvk k i j M f K) : K (zfv k i j M f) := by
  cases f with
  | none => exact h
  | some f => rcases f with ⟨a, b, c⟩; cases c <;> exact h
def zforce : ZL → (ZL → Prop) → Prop
  | [], k => k []
  | (a, b) :: r, k => zforce r fun r => k ((a, b) :: r)
theorem zforce_ex : ∀ (l : ZL) (k : ZL → Prop), zforce l k → k l := by
  intro l
  induction l with
  | nil => intro k h; exact h
  | cons q r ih => intro k h; exact ih _ h
def zsw (sw : List (Int32 × Nat)) (v : Int32) (k : Nat → Prop) (d : Prop) : Prop := match sw with
  | [] => d
  | q :: r => zbr (v = q.1) (k q.2) (zsw r v k d)
def zpn : Nat → List ZV → List ZV → (List ZV → List ZV → Prop) → Prop
  | 0, acc, st, k => k acc st
  | n + 1, acc, st, k => match st with
    | v :: st => zpn n (v :: acc) st k
    | [] => False
theorem zpn_ex1 {k : List ZV → List ZV → Prop} : ∀ (n : Nat) (acc st : List ZV), zpn n acc st k → ∃ as r, as.length = n + acc.length ∧ acc.reverse ++ st = as.reverse ++ r ∧ k as r := by
  intro n
  induction n with
  | zero => intro acc st h; exact ⟨acc, st, by simp, rfl, h⟩
  | succ n ih =>
    intro acc st h
    unfold zpn at h
    split at h
    · rename_i v st
      obtain ⟨as, r, h1, h2, h3⟩ := ih (v :: acc) st h
      refine ⟨as, r, by rw [h1]; simp; omega, ?_, h3⟩
      rw [← h2]
      simp
    · exact h.elim
theorem zpn_ex {n : Nat} {st : List ZV} {k : List ZV → List ZV → Prop} (h : zpn n [] st k) : ∃ as r, as.length = n ∧ st = as.reverse ++ r ∧ k as r := by
  obtain ⟨as, r, h1, h2, h3⟩ := zpn_ex1 n [] st h
  exact ⟨as, r, by simpa using h1, by simpa using h2, h3⟩
set_option maxRecDepth 10000 in
def zex1 (G : ZG) (mi : ZI) (Z : Option ZV → ZM → Prop) (i : Instr) (qs : List Nat) (cv : Int32) (cw : Int64) (sw : List (Int32 × Nat)) (cm : ZI) (pc : Nat) (l : ZL) (st : List ZV) (M : ZM) (k : Nat → ZL → List ZV → ZM → Prop) : Prop := match i with
  | .iconst _ => k (pc + 1) l (zi cv :: st) M
  | .bipush _ => k (pc + 2) l (zi cv :: st) M
  | .sipush _ => k (pc + 3) l (zi cv :: st) M
  | .lconst _ => k (pc + 1) l (zl cw :: st) M
  | .ldc _ => k (pc + 2) l (zi cv :: st) M
  | .ldc2_w _ => k (pc + 3) l (zl cw :: st) M
  | .iload n => zgI l n fun v => k (pc + 2) l (zi v :: st) M
  | .iload_n _ => zqn qs 0 fun n => zgI l n fun v => k (pc + 1) l (zi v :: st) M
  | .lload n => zgL l n fun v => k (pc + 2) l (zl v :: st) M
  | .lload_n _ => zqn qs 0 fun n => zgL l n fun v => k (pc + 1) l (zl v :: st) M
  | .aload n => zgR l n fun a b => k (pc + 2) l (zr a b :: st) M
  | .aload_n _ => zqn qs 0 fun n => zgR l n fun a b => k (pc + 1) l (zr a b :: st) M
  | .istore n => zpI st fun v st => k (pc + 2) (lput n (zi v) l) st M
  | .istore_n _ => zqn qs 0 fun n => zpI st fun v st => k (pc + 1) (lput n (zi v) l) st M
  | .lstore n => zpL st fun v st => k (pc + 2) (lput n (zl v) l) st M
  | .lstore_n _ => zqn qs 0 fun n => zpL st fun v st => k (pc + 1) (lput n (zl v) l) st M
  | .astore n => zpR st fun a b st => k (pc + 2) (lput n (zr a b) l) st M
  | .astore_n _ => zqn qs 0 fun n => zpR st fun a b st => k (pc + 1) (lput n (zr a b) l) st M
  | .iinc n _ => zgI l n fun v => k (pc + 3) (lput n (zi (v + cv)) l) st M
  | .iadd => zpI st fun y st => zpI st fun x st => k (pc + 1) l (zi (x + y) :: st) M
  | .isub => zpI st fun y st => zpI st fun x st => k (pc + 1) l (zi (x - y) :: st) M
  | .imul => zpI st fun y st => zpI st fun x st => k (pc + 1) l (zi (x * y) :: st) M
  | .iand => zpI st fun y st => zpI st fun x st => k (pc + 1) l (zi (x &&& y) :: st) M
  | .ior => zpI st fun y st => zpI st fun x st => k (pc + 1) l (zi (x ||| y) :: st) M
  | .ixor => zpI st fun y st => zpI st fun x st => k (pc + 1) l (zi (x ^^^ y) :: st) M
  | .ishl => zpI st fun y st => zpI st fun x st => k (pc + 1) l (zi (x <<< (y &&& 31)) :: st) M
  | .ishr => zpI st fun y st => zpI st fun x st => k (pc + 1) l (zi (x >>> (y &&& 31)) :: st) M
  | .iushr => zpI st fun y st => zpI st fun x st => k (pc + 1) l (zi ((x.toUInt32 >>> (y.toUInt32 &&& Int32.toUInt32 31)).toInt32) :: st) M
  | .ladd => zpL st fun y st => zpL st fun x st => k (pc + 1) l (zl (x + y) :: st) M
  | .lsub => zpL st fun y st => zpL st fun x st => k (pc + 1) l (zl (x - y) :: st) M
  | .land => zpL st fun y st => zpL st fun x st => k (pc + 1) l (zl (x &&& y) :: st) M
  | .lor => zpL st fun y st => zpL st fun x st => k (pc + 1) l (zl (x ||| y) :: st) M
  | .lshl => zpI st fun y st => zpL st fun x st => k (pc + 1) l (zl (x <<< (y.toInt64 &&& 63)) :: st) M
  | .lshr => zpI st fun y st => zpL st fun x st => k (pc + 1) l (zl (x >>> (y.toInt64 &&& 63)) :: st) M
  | .lushr => zpI st fun y st => zpL st fun x st => k (pc + 1) l (zl ((x.toUInt64 >>> (y.toInt64.toUInt64 &&& Int64.toUInt64 63)).toInt64) :: st) M
  | .lcmp => zpL st fun y st => zpL st fun x st => k (pc + 1) l (zi (lg_cmp x y) :: st) M
  | .idiv => zpI st fun y st => zpI st fun x st => (¬ y = nI 0) ∧ k (pc + 1) l (zi (x / y) :: st) M
  | .irem => zpI st fun y st => zpI st fun x st => (¬ y = nI 0) ∧ k (pc + 1) l (zi (x % y) :: st) M
  | .i2l => zpI st fun x st => k (pc + 1) l (zl x.toInt64 :: st) M
  | .l2i => zpL st fun x st => k (pc + 1) l (zi x.toInt32 :: st) M
  | .goto _ => zqn qs 0 fun t => k t l st M
  | .ifCond c _ => zpI st fun v st => zqn qs 0 fun t => zb0 c v (k t l st M) (k (pc + 3) l st M)
  | .if_icmp c _ => zpI st fun w st => zpI st fun v st => zqn qs 0 fun t => zb2 c v w (k t l st M) (k (pc + 3) l st M)
  | .tableswitch _ _ _ _ => zpI st fun v st => zqn qs 0 fun d => zsw sw v (fun t => k t l st M) (k d l st M)
  | .getfield _ => zpR st fun kd ix st => zqn qs 0 fun q => zqn qs 1 fun f => match zK kd with
    | .inl (ci, fs) => bif ci == q then (match fs[f]? with
      | some fd => zvd kd ix (zfvk kd ix f M fd fun v => k (pc + 3) l (v :: st) M)
      | none => False) else False
    | _ => False
  | .putfield _ => zpI st fun v st => zpR st fun kd ix st => zqn qs 0 fun q => zqn qs 1 fun f => match zK kd with
    | .inl (ci, fs) => bif ci == q then (match fs[f]? with
      | some none => zvd kd ix (k (pc + 3) l st (zset kd ix f v M))
      | _ => False) else False
    | _ => False
  | .iaload => zpI st fun i st => zpR st fun kd ix st => bif kd == 39 then (match ix with
    | 0 => vp_in i (gN G) ∧ k (pc + 1) l (zi (gX G i.toNatClampNeg) :: st) M
    | _ => False) else (match zK kd with
    | .inr (0, n) => zvd kd ix (vp_in i n ∧ k (pc + 1) l (zi (M.1 kd ix i.toNatClampNeg) :: st) M)
    | _ => False)
  | .baload => zpI st fun i st => zpR st fun kd ix st => match zK kd with
    | .inr (2, n) => zvd kd ix (vp_in i n ∧ k (pc + 1) l (zi (M.1 kd ix i.toNatClampNeg) :: st) M)
    | _ => False
  | .laload => zpI st fun i st => zpR st fun kd ix st => bif kd == 38 then (match ix with
    | 0 => vp_in i 31 ∧ k (pc + 1) l (zl (zrows i.toNatClampNeg) :: st) M
    | _ => False) else (match zK kd with
    | .inr (1, n) => zvd kd ix (vp_in i n ∧ k (pc + 1) l (zl (M.2 kd ix i.toNatClampNeg) :: st) M)
    | _ => False)
  | .aaload => zpI st fun i st => zpR st fun kd ix st => match zK kd with
    | .inr (3, n) => zvd kd ix (vp_in i n ∧ k (pc + 1) l (zr 0 i.toNatClampNeg :: st) M)
    | .inr (4, n) => zvd kd ix (vp_in i n ∧ k (pc + 1) l (zr 2 i.toNatClampNeg :: st) M)
    | _ => False
  | .iastore => zpI st fun v st => zpI st fun i st => zpR st fun kd ix st => match zK kd with
    | .inr (0, n) => zvd kd ix (vp_in i n ∧ k (pc + 1) l st (zset kd ix i.toNatClampNeg v M))
    | _ => False
  | .bastore => zpI st fun v st => zpI st fun i st => zpR st fun kd ix st => match zK kd with
    | .inr (2, n) => zvd kd ix ((v = nI 0 ∨ v = nI 1) ∧ vp_in i n ∧ k (pc + 1) l st (zset kd ix i.toNatClampNeg v M))
    | _ => False
  | .lastore => zpL st fun v st => zpI st fun i st => zpR st fun kd ix st => match zK kd with
    | .inr (1, n) => zvd kd ix (vp_in i n ∧ k (pc + 1) l st (zsetL kd ix i.toNatClampNeg v M))
    | _ => False
  | .arraylength => zpR st fun kd ix st => bif kd == 39 then (match ix with
    | 0 => k (pc + 1) l (zi (nI (gN G)) :: st) M
    | _ => False) else (match zK kd with
    | .inr (t, n) => bif Nat.ble t 2 then zvd kd ix (k (pc + 1) l (zi (nI n) :: st) M) else False
    | _ => False)
  | .getstatic _ => k (pc + 3) l (zr 38 0 :: st) M
  | .dup => match st with
    | v :: st => bif zcat v == 1 then k (pc + 1) l (v :: v :: st) M else False
    | _ => False
  | .dup2 => match st with
    | v :: w :: st => bif zcat v == 1 && zcat w == 1 then k (pc + 1) l (v :: w :: v :: w :: st) M else False
    | _ => False
  | .ireturn => zpI st fun v st => match st with
    | [] => bif iD mi == 11 then v = nI 1 else (match iR mi with
      | some .int => Z (some (zi v)) M
      | some .boolean => (v = nI 0 ∨ v = nI 1) ∧ Z (some (zi v)) M
      | _ => False)
    | _ => False
  | .lreturn => zpL st fun v st => match st with
    | [] => Z (some (zl v)) M
    | _ => False
  | .areturn => zpR st fun a b st => match st with
    | [] => Z (some (zr a b)) M
    | _ => False
  | .return_ => match st with
    | [] => Z none M
    | _ => False
  | .invokevirtual _ => zpn (iA cm) [] st fun as st => zpR st fun kd ix st => zqn qs 0 fun q => match zK kd with
    | .inl (ci, _) => bif ci == q then (bif Nat.ble (zct st) 8 then zvd kd ix (Ctr 0 G cm (zr kd ix :: as) M fun r M => k (pc + 3) l (r.toList ++ st) M) else False) else False
    | _ => False
  | .invokestatic _ => bif iD cm == 100 then (zpI st fun y st => zpI st fun x st => bif Nat.ble (zct st) 8 then k (pc + 3) l (zi (if x < y then y else x) :: st) M else False) else bif iD cm == 101 then (zpI st fun y st => zpI st fun x st => bif Nat.ble (zct st) 8 then k (pc + 3) l (zi (if y < x then y else x) :: st) M else False) else bif iD cm == 102 then (zpL st fun y st => zpL st fun x st => bif Nat.ble (zct st) 8 then k (pc + 3) l (zl (if y < x then y else x) :: st) M else False) else zpn (iA cm) [] st fun as st => bif Nat.ble (zct st) 8 then (Ctr 0 G cm as M fun r M => k (pc + 3) l (r.toList ++ st) M) else False
  | _ => False
/-! the tables' rows, checked by counting (numbers) and by rfl (words) -/
def znth : List Jvm.Cond → Nat → Option Jvm.Cond
  | [], _ => none
  | a :: r, n => match n with
    | 0 => some a
    | n + 1 => znth r n
theorem znth_mem {w : Jvm.Cond} : ∀ (l : List Jvm.Cond) (n : Nat), znth l n = some w → w ∈ l := by
  intro l
  induction l with
  | nil => intro n h; cases h
  | cons a r ih =>
    intro n h
    cases n with
    | zero => cases h; exact List.mem_cons_self
    | succ n => exact List.mem_cons_of_mem _ (ih n h)
def zTabs : List (List Jvm.Cond) := [tables_1_1, tables_1_2, tables_1_3, tables_1_4, tables_1_5, tables_1_6, k2_sels lw_privs]
theorem zTabs_mem : ∀ t ∈ zTabs, ∀ w ∈ t, w ∈ lw_tbl := by
  intro t ht w hw
  simp only [zTabs, List.mem_cons, List.not_mem_nil, or_false] at ht
  simp only [lw_tbl, tables_1, List.mem_append]
  rcases ht with rfl | rfl | rfl | rfl | rfl | rfl | rfl <;> simp only [hw, true_or, or_true]
def zlook (t n : Nat) : Option Jvm.Cond := match zTabs[t]? with
  | some l => znth l n
  | none => none
theorem zw_of {w : Jvm.Cond} (t n : Nat) (h : zlook t n = some w) (hg : goodWord w = true) : w ∈ zTw := by
  unfold zlook at h
  split at h
  · rename_i l hl
    exact List.mem_filter.mpr ⟨zTabs_mem _ (List.mem_of_getElem? hl) _ (znth_mem _ _ h), hg⟩
  · cases h
theorem zn_of {a : String} {i : Nat} {y : MethodName} {hs : String} (t n : Nat) (h : zlook t n = some (.methodLinkNest a i y hs)) : Jvm.Cond.methodLinkNest a i y hs ∈ znest := by
  unfold zlook at h
  split at h
  · rename_i l hl
    exact List.mem_filter.mpr ⟨zTabs_mem _ (List.mem_of_getElem? hl) _ (znth_mem _ _ h), rfl⟩
  · cases h
def zlen (i : Instr) (x : ZX) : Nat := match i with
  | .iload _ | .lload _ | .aload _ | .istore _ | .lstore _ | .astore _ | .bipush _ | .ldc _ => 2
  | .sipush _ | .ldc2_w _ | .goto _ | .ifCond _ _ | .if_icmp _ _ | .iinc _ _ | .getfield _ | .putfield _ | .getstatic _ | .invokevirtual _ | .invokestatic _ => 3
  | .tableswitch _ _ _ _ => zq x 1
  | _ => 1
/-- the class of a number: name, fields, how many -/
def zcl (ci : Nat) : vw_C := zcls.getD ci ("", zT0, 0)
theorem zcl_ex {ci : Nat} (h : ci < 9) : zcls[ci]? = some ((zcl ci).1, (zcl ci).2.1, (zcl ci).2.2) := by
  have hl : zcls.length = 9 := rfl
  unfold zcl
  rw [List.getD_eq_getElem?_getD, List.getElem?_eq_getElem (by rw [hl]; exact h)]
  rfl
/-- a method's words, for those that call it: virtual; static -/
def zmV (cm : ZI) : Prop := zmOk cm ∧ Jvm.Cond.instanceMethod (iN cm) ∈ zTw ∧ Jvm.Cond.selects (iN cm).cls (iN cm) (iN cm) ∈ zTw
def zmS (cm : ZI) : Prop := zmOk cm ∧ Jvm.Cond.static (iN cm) ∈ zTw
def zlk (x : ZX) (i : Nat) : Option Jvm.Cond := zlook (zq x i) (zq x (i + 1))
def zW (mi : ZI) (i : Instr) (x : ZX) (cm : ZI) : Prop := match i with
  | .ldc n => zlk x 0 = some (.constant (iN mi).cls n x.2.1)
  | .ldc2_w n => zlk x 0 = some (.constantLong (iN mi).cls n x.2.2.1)
  | .getfield n => zlk x 2 = some (.fieldLink (iN mi).cls n ((zcl (zq x 0)).2.1 (zq x 1)).1 ((zcl (zq x 0)).2.1 (zq x 1)).2.1 ((zcl (zq x 0)).2.1 (zq x 1)).2.2.1)
  | .putfield n => zlk x 2 = some (.fieldLink (iN mi).cls n ((zcl (zq x 0)).2.1 (zq x 1)).1 ((zcl (zq x 0)).2.1 (zq x 1)).2.1 ((zcl (zq x 0)).2.1 (zq x 1)).2.2.1) ∧ ((zcl (zq x 0)).2.1 (zq x 1)).2.2.1 = "I"
  | .getstatic n => zlk x 0 = some (.fieldLink (iN mi).cls n "ThreeStrandMaps$SolutionList" "ROWS" "[J")
  | .invokevirtual n => zlk x 1 = some (.methodLink (iN mi).cls n (iN cm)) ∧ ((zcl (zq x 0)).1 = (iN cm).cls ∧ zmV cm)
  | .invokestatic n => bif iD cm == 100 then zlk x 1 = some (.methodLink (iN mi).cls n Lib.Math.max.name) else bif iD cm == 101 then zlk x 1 = some (.methodLink (iN mi).cls n Lib.Math.min.name) else bif iD cm == 102 then zlk x 1 = some (.methodLink (iN mi).cls n Lib.MathLoose.min_long.x) else (bif zq x 0 == 0 then zlk x 1 = some (.methodLink (iN mi).cls n (iN cm)) else zlk x 1 = some (.methodLinkNest (iN mi).cls n (iN cm) "ThreeStrandMaps")) ∧ zmS cm
  | _ => True
def zWs (mi : ZI) : List ZE → Prop
  | [] => True
  | e :: r => zW mi e.2.1 e.2.2.1 e.2.2.2 ∧ zWs mi r
theorem zWs_mem {mi : ZI} {cd : List ZE} (h : zWs mi cd) : ∀ e ∈ cd, zW mi e.2.1 e.2.2.1 e.2.2.2 := by
  induction cd with
  | nil => intro e he; cases he
  | cons a r ih =>
    intro e he
    rcases List.mem_cons.mp he with h1 | h1
    · rw [h1]; exact h.1
    · exact ih h.2 e h1
def zchkR (mi cm : ZI) : Bool := decide (iD cm + 1 ≤ (zR mi).frames) && decide (8 + (iL cm + 11) + 39 * iD cm ≤ (zR mi).locals)
theorem zchkR_ex {mi cm : ZI} (h : zchkR mi cm = true) : zfit mi cm := by
  unfold zchkR at h
  simp only [Bool.and_eq_true, decide_eq_true_eq] at h
  exact h
def zchkT (pc : Nat) (d lo hi : Int) (offs : Array Int) (x : ZX) : Bool := decide ((pc : Int) + d = (zq x 0 : Int)) && (decide (hi + 1 = lo + offs.size) && (List.range offs.size).all fun j => decide ((x.2.2.2[j]?).map (fun q => q.1.toInt) = some (lo + j)) && decide ((x.2.2.2[j]?).map (fun q => (q.2 : Int)) = (offs[j]?).map (fun o => (pc : Int) + o))) && decide (x.2.2.2.length = offs.size)
def zobjT (o : Option FieldType) : Bool := match o with
  | some (.object _) => true
  | _ => false
theorem zobjT_ex {o : Option FieldType} (h : zobjT o = true) : ∃ n, o = some (.object n) := by
  unfold zobjT at h
  split at h
  · exact ⟨_, rfl⟩
  · cases h
def zchk1 (mi : ZI) (pc : Nat) (i : Instr) (x : ZX) (cm : ZI) : Bool := match i with
  | .iconst n => decide (Int32.ofInt n = x.2.1)
  | .bipush n => decide ((Int8.ofInt n).toInt32 = x.2.1)
  | .sipush n => decide ((Int16.ofInt n).toInt32 = x.2.1)
  | .lconst n => decide (Int64.ofNat (n : Nat) = x.2.2.1)
  | .istore n => decide (n < iL mi)
  | .astore n => decide (n < iL mi)
  | .lstore n => decide (n + 1 < iL mi)
  | .istore_n n => decide (n.val < iL mi) && decide (n.val = zq x 0)
  | .astore_n n => decide (n.val < iL mi) && decide (n.val = zq x 0)
  | .lstore_n n => decide (n.val + 1 < iL mi) && decide (n.val = zq x 0)
  | .iload_n n => decide (n.val = zq x 0)
  | .aload_n n => decide (n.val = zq x 0)
  | .lload_n n => decide (n.val = zq x 0)
  | .iinc n a => decide (Int32.ofInt a = x.2.1) && decide (n < iL mi)
  | .goto off => decide ((pc : Int) + off = (zq x 0 : Int))
  | .ifCond _ off => decide ((pc : Int) + off = (zq x 0 : Int))
  | .if_icmp _ off => decide ((pc : Int) + off = (zq x 0 : Int))
  | .tableswitch d lo hi offs => zchkT pc d lo hi offs x
  | .getfield _ => Nat.blt (zq x 0) 9 && Nat.blt (zq x 1) (zcl (zq x 0)).2.2
  | .putfield _ => Nat.blt (zq x 0) 9 && (Nat.blt (zq x 1) (zcl (zq x 0)).2.2 && !((zcl (zq x 0)).2.1 (zq x 1)).2.2.2)
  | .invokevirtual _ => Nat.blt (zq x 0) 9 && zchkR mi cm
  | .invokestatic _ => bif (iD cm == 100 || (iD cm == 101 || iD cm == 102)) then decide (0 < (zR mi).frames) && decide (23 ≤ (zR mi).locals) else zchkR mi cm
  | .ireturn => !(iD mi == 11) || decide (iR mi = some .boolean)
  | .lreturn => decide (iD mi ≠ 11) && decide (iR mi = some .long)
  | .areturn => decide (iD mi ≠ 11) && zobjT (iR mi)
  | .return_ => decide (iD mi ≠ 11) && decide (iR mi = none)
  | _ => true
def zchk (mi : ZI) (e : ZE) : Bool := decide (decode (iB mi) e.1 = .ok (e.2.1, zlen e.2.1 e.2.2.1)) && zchk1 mi e.1 e.2.1 e.2.2.1 e.2.2.2
/-- a method's table is right -/
def zgood2 (mi : ZI) (cd : List ZE) : Prop := cd.all (zchk mi) = true ∧ zWs mi cd
theorem zsw_no {v : Int32} {k : Nat → Prop} {d : Prop} (sw : List (Int32 × Nat)) (h1 : ∀ q ∈ sw, ¬ v = q.1) (h : zsw sw v k d) : d := by
  induction sw with
  | nil => exact h
  | cons a r ih => exact ih (fun q hq => h1 q (List.mem_cons_of_mem _ hq)) (h.2 (h1 a List.mem_cons_self))
theorem zsw_in {v : Int32} {k : Nat → Prop} {d : Prop} {q0 : Int32 × Nat} (hv : v = q0.1) (sw : List (Int32 × Nat)) (h1 : q0 ∈ sw) (h : zsw sw v k d) : ∃ q ∈ sw, v = q.1 ∧ k q.2 := by
  induction sw with
  | nil => cases h1
  | cons a r ih =>
    by_cases ha : v = a.1
    · exact ⟨a, List.mem_cons_self, ha, h.1 ha⟩
    · rcases List.mem_cons.mp h1 with h2 | h2
      · exact absurd (by rw [← h2]; exact hv) ha
      · obtain ⟨q, hq, hq2⟩ := ih h2 (h.2 ha)
        exact ⟨q, List.mem_cons_of_mem _ hq, hq2⟩
theorem zw_z_mmax : Jvm.Cond.static Lib.Math.max.name ∈ zTw ∧ Jvm.Cond.initialized "java/lang/Math" ∈ zTw ∧ Jvm.Cond.code Lib.Math.max.name Lib.Math.max.code 2 (some .int) ∈ zTw := ⟨zw_of 2 177 rfl rfl, zw_of 0 16 rfl rfl, zw_of 2 178 rfl rfl⟩
theorem zw_z_mmin : Jvm.Cond.static Lib.Math.min.name ∈ zTw ∧ Jvm.Cond.initialized "java/lang/Math" ∈ zTw ∧ Jvm.Cond.code Lib.Math.min.name Lib.Math.min.code 2 (some .int) ∈ zTw := ⟨zw_of 2 180 rfl rfl, zw_of 0 16 rfl rfl, zw_of 2 181 rfl rfl⟩
theorem zw_z_mminL : Jvm.Cond.static Lib.MathLoose.min_long.x ∈ zTw ∧ Jvm.Cond.initialized "java/lang/Math" ∈ zTw ∧ Jvm.Cond.code Lib.MathLoose.min_long.x Lib.MathLoose.min_long.code 4 (some .long) ∈ zTw := ⟨zw_of 2 100 rfl rfl, zw_of 0 16 rfl rfl, zw_of 2 101 rfl rfl⟩
section
variable {G : ZG} {mi : ZI} {Z : Option ZV → ZM → Prop} {pc : Nat} {l : ZL} {st : List ZV} {M : ZM}
set_option maxHeartbeats 1000000 in
theorem z_mmax {n : Nat} {x y : Int32} (hd : decode (iB mi) pc = .ok (.invokestatic n, 3)) (h1 : 0 < (zR mi).frames) (h2 : 23 ≤ (zR mi).locals) (hst : zct st ≤ 8) (hw : Jvm.Cond.methodLink (iN mi).cls n Lib.Math.max.name ∈ zTw) (hk : V 0 G mi Z (pc + 3) l (zi (if x < y then y else x) :: st) M) : V 0 G mi Z pc l (zi y :: zi x :: st) M := by
  rw [V_eq] at hk ⊢
  intro hok p e s m args below meth c H locs ls hf hr hlk hfr hE hP hS hl
  exact va_mmax hf.1 hf.2.1 (by rw [hf.2.2.1]; exact hl.1.symm) hf.2.2.2.1 (hf.2.2.2.2 _ hw) (hf.2.2.2.2 _ zw_z_mmax.1) (hf.2.2.2.2 _ zw_z_mmax.2.1) (hf.2.2.2.2 _ zw_z_mmax.2.2) h1 (by rw [zct_eq]; omega) (zcs_le mi).1 (zcs_le mi).2 hd (hk hok p e s m args below meth c H locs ls hf hr hlk hfr hE hP hS hl)
set_option maxHeartbeats 1000000 in
theorem z_mmin {n : Nat} {x y : Int32} (hd : decode (iB mi) pc = .ok (.invokestatic n, 3)) (h1 : 0 < (zR mi).frames) (h2 : 23 ≤ (zR mi).locals) (hst : zct st ≤ 8) (hw : Jvm.Cond.methodLink (iN mi).cls n Lib.Math.min.name ∈ zTw) (hk : V 0 G mi Z (pc + 3) l (zi (if y < x then y else x) :: st) M) : V 0 G mi Z pc l (zi y :: zi x :: st) M := by
  rw [V_eq] at hk ⊢
  intro hok p e s m args below meth c H locs ls hf hr hlk hfr hE hP hS hl
  exact va_mmin hf.1 hf.2.1 (by rw [hf.2.2.1]; exact hl.1.symm) hf.2.2.2.1 (hf.2.2.2.2 _ hw) (hf.2.2.2.2 _ zw_z_mmin.1) (hf.2.2.2.2 _ zw_z_mmin.2.1) (hf.2.2.2.2 _ zw_z_mmin.2.2) h1 (by rw [zct_eq]; omega) (zcs_le mi).1 (zcs_le mi).2 hd (hk hok p e s m args below meth c H locs ls hf hr hlk hfr hE hP hS hl)
set_option maxHeartbeats 1000000 in
theorem z_mminL {n : Nat} {x y : Int64} (hd : decode (iB mi) pc = .ok (.invokestatic n, 3)) (h1 : 0 < (zR mi).frames) (h2 : 23 ≤ (zR mi).locals) (hst : zct st ≤ 8) (hw : Jvm.Cond.methodLink (iN mi).cls n Lib.MathLoose.min_long.x ∈ zTw) (hk : V 0 G mi Z (pc + 3) l (zl (if y < x then y else x) :: st) M) : V 0 G mi Z pc l (zl y :: zl x :: st) M := by
  rw [V_eq] at hk ⊢
  intro hok p e s m args below meth c H locs ls hf hr hlk hfr hE hP hS hl
  exact va_mmin_long hf.1 hf.2.1 (by rw [hf.2.2.1]; exact hl.1.symm) hf.2.2.2.1 (hf.2.2.2.2 _ hw) (hf.2.2.2.2 _ zw_z_mminL.1) (hf.2.2.2.2 _ zw_z_mminL.2.1) (hf.2.2.2.2 _ zw_z_mminL.2.2) h1 (by rw [zct_eq]; omega) (zcs_le mi).1 (zcs_le mi).2 hd (hk hok p e s m args below meth c H locs ls hf hr hlk hfr hE hP hS hl)
set_option maxHeartbeats 1000000 in
theorem z_tabIn {d lo hi : Int} {offs : Array Int} {len : Nat} {v : Int32} {off : Int} {tgt : Nat} (hd : decode (iB mi) pc = .ok (.tableswitch d lo hi offs, len)) (h1 : ¬ v.toInt < lo) (h2 : ¬ hi < v.toInt) (ho : offs[(v.toInt - lo).toNat]? = some off) (ht : (pc : Int) + off = (tgt : Int)) (hk : V 0 G mi Z tgt l st M) : V 0 G mi Z pc l (zi v :: st) M := by
  rw [V_eq] at hk ⊢
  intro hok p e s m args below meth c H locs ls hf hr hlk hfr hE hP hS hl
  exact lv_tableIn hf.1 hf.2.1 hd h1 h2 ho ht (hk hok p e s m args below meth c H locs ls hf hr hlk hfr hE hP hS hl)
set_option maxHeartbeats 1000000 in
theorem z_tabOut {d lo hi : Int} {offs : Array Int} {len : Nat} {v : Int32} {tgt : Nat} (hd : decode (iB mi) pc = .ok (.tableswitch d lo hi offs, len)) (h1 : v.toInt < lo ∨ hi < v.toInt) (ht : (pc : Int) + d = (tgt : Int)) (hk : V 0 G mi Z tgt l st M) : V 0 G mi Z pc l (zi v :: st) M := by
  rw [V_eq] at hk ⊢
  intro hok p e s m args below meth c H locs ls hf hr hlk hfr hE hP hS hl
  exact lv_tableOut hf.1 hf.2.1 hd h1 ht (hk hok p e s m args below meth c H locs ls hf hr hlk hfr hE hP hS hl)
set_option maxHeartbeats 1000000 in
theorem z_switch {d lo hi : Int} {offs : Array Int} {len : Nat} {v : Int32} {x : ZX} {k : Nat → Prop} (hd : decode (iB mi) pc = .ok (.tableswitch d lo hi offs, len)) (hc : zchkT pc d lo hi offs x = true) (hk : ∀ t, k t → V 0 G mi Z t l st M) (h : zsw x.2.2.2 v k (k (zq x 0))) : V 0 G mi Z pc l (zi v :: st) M := by
  unfold zchkT at hc
  simp only [Bool.and_eq_true, decide_eq_true_eq, List.all_eq_true, List.mem_range] at hc
  obtain ⟨⟨hc1, hc2, hc3⟩, hc4⟩ := hc
  by_cases hin : v.toInt < lo ∨ hi < v.toInt
  · have hno : ∀ q ∈ x.2.2.2, ¬ v = q.1 := by
      intro q hq hv
      obtain ⟨j, hj⟩ := List.getElem?_of_mem hq
      have hlt := (List.getElem?_eq_some_iff.mp hj).1
      have h1 := (hc3 j (by omega)).1
      rw [hj] at h1
      simp only [Option.map_some, Option.some.injEq] at h1
      rw [hv] at hin
      omega
    exact z_tabOut hd hin hc1 (hk _ (zsw_no _ hno h))
  · have hj1 : (v.toInt - lo).toNat < offs.size := by omega
    have hj2 := hc3 _ hj1
    obtain ⟨q0, hq0⟩ : ∃ q0, x.2.2.2[(v.toInt - lo).toNat]? = some q0 := ⟨_, List.getElem?_eq_getElem (by omega)⟩
    rw [hq0] at hj2
    simp only [Option.map_some, Option.some.injEq] at hj2
    have hv0 : v = q0.1 := Int32.toInt_inj.mp (by rw [hj2.1]; omega)
    obtain ⟨q, hq, hv, hkq⟩ := zsw_in hv0 _ (List.mem_of_getElem? hq0) h
    obtain ⟨j, hj⟩ := List.getElem?_of_mem hq
    have hlt := (List.getElem?_eq_some_iff.mp hj).1
    have h1 := hc3 j (by omega)
    rw [hj] at h1
    simp only [Option.map_some, Option.some.injEq] at h1
    have hjv : j = (v.toInt - lo).toNat := by rw [hv, h1.1]; omega
    obtain ⟨off, ho⟩ : ∃ off, offs[j]? = some off := ⟨_, Array.getElem?_eq_getElem (by omega)⟩
    rw [ho] at h1
    simp only [Option.map_some, Option.some.injEq] at h1
    exact z_tabIn hd (fun q => hin (Or.inl q)) (fun q => hin (Or.inr q)) (by rw [← hjv]; exact ho) h1.2.symm (hk _ hkq)
set_option maxHeartbeats 4000000 in
theorem z_ex1 {i : Instr} {qs : List Nat} {cv : Int32} {cw : Int64} {sw : List (Int32 × Nat)} {cm : ZI} {k : Nat → ZL → List ZV → ZM → Prop} (hd : decode (iB mi) pc = .ok (i, zlen i (qs, cv, cw, sw))) (hc : zchk1 mi pc i (qs, cv, cw, sw) cm = true) (hw : zW mi i (qs, cv, cw, sw) cm) (hk : ∀ pc l st M, k pc l st M → V 0 G mi Z pc l st M) (h : zex1 G mi Z i qs cv cw sw cm pc l st M k) : V 0 G mi Z pc l st M := by
  cases i
  case iconst n =>
    exact z_iconst hd (of_decide_eq_true hc) (hk _ _ _ _ h)
  case bipush n =>
    exact z_bipush hd (of_decide_eq_true hc) (hk _ _ _ _ h)
  case sipush n =>
    exact z_sipush hd (of_decide_eq_true hc) (hk _ _ _ _ h)
  case lconst n =>
    exact z_lconst hd (of_decide_eq_true hc) (hk _ _ _ _ h)
  case ldc n =>
    exact z_ldc hd (zw_of _ _ hw rfl) (hk _ _ _ _ h)
  case ldc2_w n =>
    exact z_ldc2_w hd (zw_of _ _ hw rfl) (hk _ _ _ _ h)
  case iload n =>
    obtain ⟨v, hg, h⟩ := zgI_ex h
    exact z_iload hd hg (hk _ _ _ _ h)
  case iload_n n =>
    obtain ⟨v, hg, h⟩ := zgI_ex (zqn_ex _ _ h)
    exact z_iload_n hd (by rw [show n.val = qs.getD 0 0 from of_decide_eq_true hc]; exact hg) (hk _ _ _ _ h)
  case lload n =>
    obtain ⟨v, hg, h⟩ := zgL_ex h
    exact z_lload hd hg (hk _ _ _ _ h)
  case lload_n n =>
    obtain ⟨v, hg, h⟩ := zgL_ex (zqn_ex _ _ h)
    exact z_lload_n hd (by rw [show n.val = qs.getD 0 0 from of_decide_eq_true hc]; exact hg) (hk _ _ _ _ h)
  case aload n =>
    obtain ⟨a, b, hg, h⟩ := zgR_ex h
    exact z_aload hd hg (hk _ _ _ _ h)
  case aload_n n =>
    obtain ⟨a, b, hg, h⟩ := zgR_ex (zqn_ex _ _ h)
    exact z_aload_n hd (by rw [show n.val = qs.getD 0 0 from of_decide_eq_true hc]; exact hg) (hk _ _ _ _ h)
  case istore n =>
    obtain ⟨v, r, rfl, h⟩ := zpI_ex h
    exact z_istore hd (of_decide_eq_true hc) (hk _ _ _ _ h)
  case istore_n n =>
    obtain ⟨v, r, hst, h9⟩ := zpI_ex (zqn_ex _ _ h)
    subst hst
    simp only [zchk1, Bool.and_eq_true, decide_eq_true_eq] at hc
    exact z_istore_n hd hc.1 (hk _ _ _ _ (by rw [show n.val = qs.getD 0 0 from hc.2]; exact h9))
  case lstore n =>
    obtain ⟨v, r, rfl, h⟩ := zpL_ex h
    exact z_lstore hd (of_decide_eq_true hc) (hk _ _ _ _ h)
  case lstore_n n =>
    obtain ⟨v, r, hst, h9⟩ := zpL_ex (zqn_ex _ _ h)
    subst hst
    simp only [zchk1, Bool.and_eq_true, decide_eq_true_eq] at hc
    exact z_lstore_n hd hc.1 (hk _ _ _ _ (by rw [show n.val = qs.getD 0 0 from hc.2]; exact h9))
  case astore n =>
    obtain ⟨a, b, r, rfl, h⟩ := zpR_ex h
    exact z_astore hd (of_decide_eq_true hc) (hk _ _ _ _ h)
  case astore_n n =>
    obtain ⟨a, b, r, hst, h9⟩ := zpR_ex (zqn_ex _ _ h)
    subst hst
    simp only [zchk1, Bool.and_eq_true, decide_eq_true_eq] at hc
    exact z_astore_n hd hc.1 (hk _ _ _ _ (by rw [show n.val = qs.getD 0 0 from hc.2]; exact h9))
  case iinc n a =>
    obtain ⟨v, hg, h⟩ := zgI_ex h
    simp only [zchk1, Bool.and_eq_true, decide_eq_true_eq] at hc
    exact z_iinc hd hg hc.1 hc.2 (hk _ _ _ _ h)
  case iadd =>
    obtain ⟨y, r, rfl, h⟩ := zpI_ex h
    obtain ⟨x, r, rfl, h⟩ := zpI_ex h
    exact z_iadd hd (hk _ _ _ _ h)
  case isub =>
    obtain ⟨y, r, rfl, h⟩ := zpI_ex h
    obtain ⟨x, r, rfl, h⟩ := zpI_ex h
    exact z_isub hd (hk _ _ _ _ h)
  case imul =>
    obtain ⟨y, r, rfl, h⟩ := zpI_ex h
    obtain ⟨x, r, rfl, h⟩ := zpI_ex h
    exact z_imul hd (hk _ _ _ _ h)
  case iand =>
    obtain ⟨y, r, rfl, h⟩ := zpI_ex h
    obtain ⟨x, r, rfl, h⟩ := zpI_ex h
    exact z_iand hd (hk _ _ _ _ h)
  case ior =>
    obtain ⟨y, r, rfl, h⟩ := zpI_ex h
    obtain ⟨x, r, rfl, h⟩ := zpI_ex h
    exact z_ior hd (hk _ _ _ _ h)
  case ixor =>
    obtain ⟨y, r, rfl, h⟩ := zpI_ex h
    obtain ⟨x, r, rfl, h⟩ := zpI_ex h
    exact z_ixor hd (hk _ _ _ _ h)
  case ishl =>
    obtain ⟨y, r, rfl, h⟩ := zpI_ex h
    obtain ⟨x, r, rfl, h⟩ := zpI_ex h
    exact z_ishl hd (hk _ _ _ _ h)
  case ishr =>
    obtain ⟨y, r, rfl, h⟩ := zpI_ex h
    obtain ⟨x, r, rfl, h⟩ := zpI_ex h
    exact z_ishr hd (hk _ _ _ _ h)
  case iushr =>
    obtain ⟨y, r, rfl, h⟩ := zpI_ex h
    obtain ⟨x, r, rfl, h⟩ := zpI_ex h
    exact z_iushr hd (hk _ _ _ _ h)
  case ladd =>
    obtain ⟨y, r, rfl, h⟩ := zpL_ex h
    obtain ⟨x, r, rfl, h⟩ := zpL_ex h
    exact z_ladd hd (hk _ _ _ _ h)
  case lsub =>
    obtain ⟨y, r, rfl, h⟩ := zpL_ex h
    obtain ⟨x, r, rfl, h⟩ := zpL_ex h
    exact z_lsub hd (hk _ _ _ _ h)
  case land =>
    obtain ⟨y, r, rfl, h⟩ := zpL_ex h
    obtain ⟨x, r, rfl, h⟩ := zpL_ex h
    exact z_land hd (hk _ _ _ _ h)
  case lor =>
    obtain ⟨y, r, rfl, h⟩ := zpL_ex h
    obtain ⟨x, r, rfl, h⟩ := zpL_ex h
    exact z_lor hd (hk _ _ _ _ h)
  case lshl =>
    obtain ⟨y, r, rfl, h⟩ := zpI_ex h
    obtain ⟨x, r, rfl, h⟩ := zpL_ex h
    exact z_lshl hd (hk _ _ _ _ h)
  case lshr =>
    obtain ⟨y, r, rfl, h⟩ := zpI_ex h
    obtain ⟨x, r, rfl, h⟩ := zpL_ex h
    exact z_lshr hd (hk _ _ _ _ h)
  case lushr =>
    obtain ⟨y, r, rfl, h⟩ := zpI_ex h
    obtain ⟨x, r, rfl, h⟩ := zpL_ex h
    exact z_lushr hd (hk _ _ _ _ h)
  case lcmp =>
    obtain ⟨y, r, rfl, h⟩ := zpL_ex h
    obtain ⟨x, r, rfl, h⟩ := zpL_ex h
    exact z_lcmp hd (hk _ _ _ _ h)
  case idiv =>
    obtain ⟨y, r, rfl, h⟩ := zpI_ex h
    obtain ⟨x, r, rfl, h⟩ := zpI_ex h
    exact z_idiv hd h.1 (hk _ _ _ _ h.2)
  case irem =>
    obtain ⟨y, r, rfl, h⟩ := zpI_ex h
    obtain ⟨x, r, rfl, h⟩ := zpI_ex h
    exact z_irem hd h.1 (hk _ _ _ _ h.2)
  case i2l =>
    obtain ⟨x, r, rfl, h⟩ := zpI_ex h
    exact z_i2l hd (hk _ _ _ _ h)
  case l2i =>
    obtain ⟨x, r, rfl, h⟩ := zpL_ex h
    exact z_l2i hd (hk _ _ _ _ h)
  case goto off =>
    exact z_goto hd (of_decide_eq_true hc) (hk _ _ _ _ (zqn_ex _ _ h))
  case ifCond c off =>
    obtain ⟨x, r, rfl, h⟩ := zpI_ex h
    have h := zqn_ex _ _ h
    cases c
    case eq => exact z_if_eq hd (of_decide_eq_true hc) (fun q => hk _ _ _ _ (h.1 q)) (fun q => hk _ _ _ _ (h.2 q))
    case ne => exact z_if_ne hd (of_decide_eq_true hc) (fun q => hk _ _ _ _ (h.1 q)) (fun q => hk _ _ _ _ (h.2 q))
    case lt => exact z_if_lt hd (of_decide_eq_true hc) (fun q => hk _ _ _ _ (h.1 q)) (fun q => hk _ _ _ _ (h.2 q))
    case ge => exact z_if_ge hd (of_decide_eq_true hc) (fun q => hk _ _ _ _ (h.1 q)) (fun q => hk _ _ _ _ (h.2 q))
    case gt => exact z_if_gt hd (of_decide_eq_true hc) (fun q => hk _ _ _ _ (h.1 q)) (fun q => hk _ _ _ _ (h.2 q))
    case le => exact z_if_le hd (of_decide_eq_true hc) (fun q => hk _ _ _ _ (h.1 q)) (fun q => hk _ _ _ _ (h.2 q))
  case if_icmp c off =>
    obtain ⟨y, r, rfl, h⟩ := zpI_ex h
    obtain ⟨x, r, rfl, h⟩ := zpI_ex h
    have h := zqn_ex _ _ h
    cases c
    case eq => exact z_icmp_eq hd (of_decide_eq_true hc) (fun q => hk _ _ _ _ (h.1 q)) (fun q => hk _ _ _ _ (h.2 q))
    case ne => exact z_icmp_ne hd (of_decide_eq_true hc) (fun q => hk _ _ _ _ (h.1 q)) (fun q => hk _ _ _ _ (h.2 q))
    case lt => exact z_icmp_lt hd (of_decide_eq_true hc) (fun q => hk _ _ _ _ (h.1 q)) (fun q => hk _ _ _ _ (h.2 q))
    case ge => exact z_icmp_ge hd (of_decide_eq_true hc) (fun q => hk _ _ _ _ (h.1 q)) (fun q => hk _ _ _ _ (h.2 q))
    case gt => exact z_icmp_gt hd (of_decide_eq_true hc) (fun q => hk _ _ _ _ (h.1 q)) (fun q => hk _ _ _ _ (h.2 q))
    case le => exact z_icmp_le hd (of_decide_eq_true hc) (fun q => hk _ _ _ _ (h.1 q)) (fun q => hk _ _ _ _ (h.2 q))
  case tableswitch d lo hi offs =>
    obtain ⟨v, r, rfl, h⟩ := zpI_ex h
    exact z_switch hd hc (fun t q => hk _ _ _ _ q) (zqn_ex _ _ h)
  case getfield n =>
    obtain ⟨kd, ix, r, rfl, h⟩ := zpR_ex h
    obtain ⟨ci, fs, hk0, h⟩ := zobj_ex (zqn_ex _ _ (zqn_ex _ _ h))
    obtain ⟨hci, h⟩ := zbif_ex h
    obtain ⟨fd, hfd, h⟩ := zopt_ex h
    obtain ⟨hv, h⟩ := zvd_ex h
    simp only [zchk1, Bool.and_eq_true, Nat.blt_eq] at hc
    have hcl := zcl_ex hc.1
    have he := beq_iff_eq.mp hci
    rw [he] at hk0
    exact z_getfield hd hk0 hv hfd hcl hc.2 (zw_of _ _ hw rfl) (hk _ _ _ _ (zfvk_ex h))
  case putfield n =>
    obtain ⟨v, r, rfl, h⟩ := zpI_ex h
    obtain ⟨kd, ix, r, rfl, h⟩ := zpR_ex h
    obtain ⟨ci, fs, hk0, h⟩ := zobj_ex (zqn_ex _ _ (zqn_ex _ _ h))
    obtain ⟨hci, h⟩ := zbif_ex h
    obtain ⟨hfd, h⟩ := zopt2_ex h
    obtain ⟨hv, h⟩ := zvd_ex h
    simp only [zchk1, Bool.and_eq_true, Nat.blt_eq, Bool.not_eq_true'] at hc
    have hcl := zcl_ex hc.1
    have he := beq_iff_eq.mp hci
    rw [he] at hk0
    obtain ⟨hw1, hw2⟩ : _ ∧ _ := hw
    exact z_putfield hd hk0 hv hfd hcl hc.2.1 (zw_of _ _ hw1 rfl) hc.2.2 ((congrArg parseFieldDescriptor hw2).trans (by decide +kernel)) (hk _ _ _ _ h)
  case iaload =>
    obtain ⟨i, r, rfl, h⟩ := zpI_ex h
    obtain ⟨kd, ix, r, rfl, h⟩ := zpR_ex h
    rcases zbif_or h with ⟨h39, h⟩ | ⟨h39, h⟩
    · obtain rfl := beq_iff_eq.mp h39
      obtain ⟨rfl, h⟩ := zzero_ex h
      exact z_script hd h.1 (hk _ _ _ _ h.2)
    · obtain ⟨n, hk0, h⟩ := zarr0_ex h
      obtain ⟨hv, h⟩ := zvd_ex h
      exact z_iaload hd hk0 hv h.1 (hk _ _ _ _ h.2)
  case baload =>
    obtain ⟨i, r, rfl, h⟩ := zpI_ex h
    obtain ⟨kd, ix, r, rfl, h⟩ := zpR_ex h
    obtain ⟨n, hk0, h⟩ := zarr2_ex h
    obtain ⟨hv, h⟩ := zvd_ex h
    exact z_baload hd hk0 hv h.1 (hk _ _ _ _ h.2)
  case laload =>
    obtain ⟨i, r, rfl, h⟩ := zpI_ex h
    obtain ⟨kd, ix, r, rfl, h⟩ := zpR_ex h
    rcases zbif_or h with ⟨h39, h⟩ | ⟨h39, h⟩
    · obtain rfl := beq_iff_eq.mp h39
      obtain ⟨rfl, h⟩ := zzero_ex h
      exact z_rows hd h.1 (hk _ _ _ _ h.2)
    · obtain ⟨n, hk0, h⟩ := zarr1_ex h
      obtain ⟨hv, h⟩ := zvd_ex h
      exact z_laload hd hk0 hv h.1 (hk _ _ _ _ h.2)
  case aaload =>
    obtain ⟨i, r, rfl, h⟩ := zpI_ex h
    obtain ⟨kd, ix, r, rfl, h⟩ := zpR_ex h
    rcases zarr34_ex h with ⟨n, hk0, h⟩ | ⟨n, hk0, h⟩
    · obtain ⟨hv, h⟩ := zvd_ex h
      exact z_aaload3 hd hk0 hv h.1 (hk _ _ _ _ h.2)
    · obtain ⟨hv, h⟩ := zvd_ex h
      exact z_aaload4 hd hk0 hv h.1 (hk _ _ _ _ h.2)
  case iastore =>
    obtain ⟨v, r, rfl, h⟩ := zpI_ex h
    obtain ⟨i, r, rfl, h⟩ := zpI_ex h
    obtain ⟨kd, ix, r, rfl, h⟩ := zpR_ex h
    obtain ⟨n, hk0, h⟩ := zarr0_ex h
    obtain ⟨hv, h⟩ := zvd_ex h
    exact z_iastore hd hk0 hv h.1 (hk _ _ _ _ h.2)
  case bastore =>
    obtain ⟨v, r, rfl, h⟩ := zpI_ex h
    obtain ⟨i, r, rfl, h⟩ := zpI_ex h
    obtain ⟨kd, ix, r, rfl, h⟩ := zpR_ex h
    obtain ⟨n, hk0, h⟩ := zarr2_ex h
    obtain ⟨hv, h⟩ := zvd_ex h
    exact z_bastore hd hk0 hv h.2.1 h.1 (hk _ _ _ _ h.2.2)
  case lastore =>
    obtain ⟨v, r, rfl, h⟩ := zpL_ex h
    obtain ⟨i, r, rfl, h⟩ := zpI_ex h
    obtain ⟨kd, ix, r, rfl, h⟩ := zpR_ex h
    obtain ⟨n, hk0, h⟩ := zarr1_ex h
    obtain ⟨hv, h⟩ := zvd_ex h
    exact z_lastore hd hk0 hv h.1 (hk _ _ _ _ h.2)
  case arraylength =>
    obtain ⟨kd, ix, r, rfl, h⟩ := zpR_ex h
    rcases zbif_or h with ⟨h39, h⟩ | ⟨h39, h⟩
    · obtain rfl := beq_iff_eq.mp h39
      obtain ⟨rfl, h⟩ := zzero_ex h
      exact z_scriptlen hd (hk _ _ _ _ h)
    · obtain ⟨t, n, hk0, h⟩ := zarrT_ex h
      obtain ⟨ht, h⟩ := zbif_ex h
      obtain ⟨hv, h⟩ := zvd_ex h
      exact z_alen hd hk0 (Nat.lt_succ_of_le (Nat.le_of_ble_eq_true ht)) hv (hk _ _ _ _ h)
  case getstatic n =>
    exact z_getrows hd (zw_of _ _ hw rfl) (hk _ _ _ _ h)
  case dup =>
    obtain ⟨v, r, rfl, h⟩ := zany_ex h
    obtain ⟨h1, h⟩ := zbif_ex h
    exact z_dup hd (beq_iff_eq.mp h1) (hk _ _ _ _ h)
  case dup2 =>
    obtain ⟨v, w, r, rfl, h⟩ := zany2_ex h
    obtain ⟨h1, h⟩ := zbif_ex h
    simp only [Bool.and_eq_true, beq_iff_eq] at h1
    exact z_dup2 hd h1.1 h1.2 (hk _ _ _ _ h)
  case ireturn =>
    obtain ⟨v, r, rfl, h⟩ := zpI_ex h
    obtain ⟨rfl, h⟩ := znil_ex h
    rcases zbif_or h with ⟨h11, h⟩ | ⟨h11, h⟩
    · simp only [zchk1, h11, Bool.not_true, Bool.false_or, decide_eq_true_eq] at hc
      have h2 : v = 1 := h
      rw [h2]
      exact z_lawret hd (beq_iff_eq.mp h11) hc
    · have hD : iD mi ≠ 11 := fun q => by rw [q] at h11; cases h11
      rcases zret_ex h with ⟨hR, h⟩ | ⟨hR, h⟩
      · exact z_ireturn hd hD hR h
      · exact z_zreturn hd hD hR h.1 h.2
  case lreturn =>
    obtain ⟨v, r, rfl, h⟩ := zpL_ex h
    obtain ⟨rfl, h⟩ := znil_ex h
    simp only [zchk1, Bool.and_eq_true, decide_eq_true_eq] at hc
    exact z_lreturn hd hc.1 hc.2 h
  case areturn =>
    obtain ⟨a, b, r, rfl, h⟩ := zpR_ex h
    obtain ⟨rfl, h⟩ := znil_ex h
    simp only [zchk1, Bool.and_eq_true, decide_eq_true_eq] at hc
    obtain ⟨n, hR⟩ := zobjT_ex hc.2
    exact z_areturn hd hc.1 hR h
  case return_ =>
    obtain ⟨rfl, h⟩ := znil_ex h
    simp only [zchk1, Bool.and_eq_true, decide_eq_true_eq] at hc
    exact z_return hd hc.1 hc.2 h
  case invokevirtual n =>
    obtain ⟨as, r0, has, hst, h2⟩ := zpn_ex h
    subst hst
    clear h
    obtain ⟨kd, ix, r, hr0, h⟩ := zpR_ex h2
    subst hr0
    clear h2
    obtain ⟨ci, fs, hk0, h⟩ := zobj_ex (zqn_ex _ _ h)
    obtain ⟨hci, h⟩ := zbif_ex h
    obtain ⟨hct, h⟩ := zbif_ex h
    obtain ⟨hv, h⟩ := zvd_ex h
    simp only [zchk1, Bool.and_eq_true, Nat.blt_eq] at hc
    have hcl := zcl_ex hc.1
    have he := beq_iff_eq.mp hci
    rw [he] at hk0
    obtain ⟨hw1, hw2, hm, hw3, hw4⟩ : _ ∧ (_ ∧ zmV cm) := hw
    exact z_virt hd hm (zchkR_ex hc.2) has (Nat.le_of_ble_eq_true hct) hk0 hv hcl hw2.symm (zw_of _ _ hw1 rfl) hw3 (by rw [hw2]; exact hw4) (Ctr_mono h fun r M' q => hk _ _ _ _ q)
  case invokestatic n =>
    rcases zbif_or h with ⟨hb, h⟩ | ⟨hb, h⟩
    · obtain ⟨y, r, hst, h9⟩ := zpI_ex h
      subst hst
      obtain ⟨x, r, hst, h8⟩ := zpI_ex h9
      subst hst
      clear h9
      obtain ⟨hct, h7⟩ := zbif_ex h8
      have hD : iD cm = 100 := beq_iff_eq.mp hb
      have hc2 : 0 < (zR mi).frames ∧ 23 ≤ (zR mi).locals := by simpa [zchk1, hD] using hc
      simp only [zW, hD] at hw
      exact z_mmax hd hc2.1 hc2.2 (Nat.le_of_ble_eq_true hct) (zw_of _ _ hw rfl) (hk _ _ _ _ h7)
    have hb1 := hb
    clear hb
    rcases zbif_or h with ⟨hb, h⟩ | ⟨hb, h⟩
    · obtain ⟨y, r, hst, h9⟩ := zpI_ex h
      subst hst
      obtain ⟨x, r, hst, h8⟩ := zpI_ex h9
      subst hst
      clear h9
      obtain ⟨hct, h7⟩ := zbif_ex h8
      have hD : iD cm = 101 := beq_iff_eq.mp hb
      have hc2 : 0 < (zR mi).frames ∧ 23 ≤ (zR mi).locals := by simpa [zchk1, hD] using hc
      simp only [zW, hD] at hw
      exact z_mmin hd hc2.1 hc2.2 (Nat.le_of_ble_eq_true hct) (zw_of _ _ hw rfl) (hk _ _ _ _ h7)
    have hb2 := hb
    clear hb
    rcases zbif_or h with ⟨hb, h⟩ | ⟨hb, h⟩
    · obtain ⟨y, r, hst, h9⟩ := zpL_ex h
      subst hst
      obtain ⟨x, r, hst, h8⟩ := zpL_ex h9
      subst hst
      clear h9
      obtain ⟨hct, h7⟩ := zbif_ex h8
      have hD : iD cm = 102 := beq_iff_eq.mp hb
      have hc2 : 0 < (zR mi).frames ∧ 23 ≤ (zR mi).locals := by simpa [zchk1, hD] using hc
      simp only [zW, hD] at hw
      exact z_mminL hd hc2.1 hc2.2 (Nat.le_of_ble_eq_true hct) (zw_of _ _ hw rfl) (hk _ _ _ _ h7)
    have hb3 := hb
    clear hb
    simp only [zW, hb1, hb2, hb3, cond_false] at hw
    simp only [zchk1, hb1, hb2, hb3, Bool.or_false, cond_false] at hc
    obtain ⟨as, r, has, hst, h2⟩ := zpn_ex h
    subst hst
    clear h
    obtain ⟨hct, h⟩ := zbif_ex h2
    obtain ⟨hw1, hm, hw2⟩ : _ ∧ zmS cm := hw
    rcases zbif_or hw1 with ⟨-, hw1⟩ | ⟨-, hw1⟩
    · exact z_stat hd hm (zchkR_ex hc) has (Nat.le_of_ble_eq_true hct) (zw_of _ _ hw1 rfl) hw2 (Ctr_mono h fun r M' q => hk _ _ _ _ q)
    · exact z_nest hd hm (zchkR_ex hc) has (Nat.le_of_ble_eq_true hct) (zn_of _ _ hw1) hw2 (Ctr_mono h fun r M' q => hk _ _ _ _ q)
  all_goals exact False.elim h
end
def zfind (pc : Nat) : List ZE → Option ZE
  | [] => none
  | e :: r => bif Nat.beq e.1 pc then some e else zfind pc r
theorem zfind_ex {pc : Nat} {cd : List ZE} {e : ZE} (h : zfind pc cd = some e) : e ∈ cd ∧ e.1 = pc := by
  induction cd with
  | nil => cases h
  | cons a r ih =>
    unfold zfind at h
    cases hb : Nat.beq a.1 pc with
    | true =>
      rw [hb] at h
      have h2 : a = e := Option.some.inj h
      rw [← h2]
      exact ⟨List.mem_cons_self, Nat.eq_of_beq_eq_true hb⟩
    | false =>
      rw [hb] at h
      exact ⟨List.mem_cons_of_mem _ (ih h).1, (ih h).2⟩
def zcut (pc : Nat) : List (Nat × List Nat) → Option (List Nat)
  | [] => none
  | q :: r => bif Nat.beq q.1 pc then some q.2 else zcut pc r
/-- the walk from pc on, to the next place of 'cuts' (there with the locals that live), a call, an end -/
def zex (G : ZG) (mi : ZI) (Z : Option ZV → ZM → Prop) (cuts : List (Nat × List Nat)) (cd : List ZE) : Nat → Nat → ZL → List ZV → ZM → (Nat → ZL → List ZV → ZM → Prop) → Prop
  | 0, _, _, _, _, _ => False
  | f + 1, pc, l, st, M, K => match zfind pc cd with
    | none => False
    | some (pc, i, (qs, cv, cw, sw), cm) => zex1 G mi Z i qs cv cw sw cm pc l st M fun pc l st M => match zcut pc cuts with
      | some ks => zforce (zkeep ks l) fun l => K pc l st M
      | none => zex G mi Z cuts cd f pc l st M K
theorem z_ex {G : ZG} {mi : ZI} {Z : Option ZV → ZM → Prop} {cuts : List (Nat × List Nat)} {cd : List ZE} {K : Nat → ZL → List ZV → ZM → Prop} (hcd : zgood2 mi cd) (hK : ∀ pc l st M, K pc l st M → V 0 G mi Z pc l st M) : ∀ (f pc : Nat) (l : ZL) (st : List ZV) (M : ZM), zex G mi Z cuts cd f pc l st M K → V 0 G mi Z pc l st M := by
  intro f
  induction f with
  | zero => intro pc l st M h; exact h.elim
  | succ f ih =>
    intro pc l st M h
    unfold zex at h
    split at h
    · exact h.elim
    · rename_i pc0 i qs cv cw sw cm he
      obtain ⟨h1, h2⟩ := zfind_ex he
      have h2 : pc0 = pc := h2
      subst h2
      have h3 := List.all_eq_true.mp hcd.1 _ h1
      unfold zchk at h3
      simp only [Bool.and_eq_true, decide_eq_true_eq] at h3
      refine z_ex1 h3.1 h3.2 (zWs_mem hcd.2 _ h1) (fun pc l st M q => ?_) h
      split at q
      · exact V_sub (fun q hq => zkeep_mem hq) (hK _ _ _ _ (zforce_ex _ _ q))
      · exact ih _ _ _ _ q
/-- the walk's goal, its end a name that nothing opens -/
theorem z_run {G : ZG} {mi : ZI} {Z : Option ZV → ZM → Prop} {cuts : List (Nat × List Nat)} {cd : List ZE} {pc : Nat} {l : ZL} {st : List ZV} {M : ZM} (hcd : zgood2 mi cd) (h : ∀ K : Nat → ZL → List ZV → ZM → Prop, (∀ pc l st M, V 0 G mi Z pc l st M → K pc l st M) → zex G mi Z cuts cd 300 pc l st M K) : V 0 G mi Z pc l st M :=
  z_ex hcd (fun _ _ _ _ q => q) 300 pc l st M (h _ (fun _ _ _ _ q => q))
theorem z_start {G : ZG} {mi : ZI} {Z : Option ZV → ZM → Prop} {cuts : List (Nat × List Nat)} {cd : List ZE} {av : List ZV} {M : ZM} (hcd : zgood2 mi cd) (hpl : (plainName (iN mi).cls && !(iD mi == 11)) = true) (hlen : Nat.ble (zct av) (iL mi) = true) (h : ∀ K : Nat → ZL → List ZV → ZM → Prop, (∀ pc l st M, V 0 G mi Z pc l st M → K pc l st M) → zex G mi Z cuts cd 300 0 (zargs 0 av) [] M K) : Ctr 0 G mi av M Z := by
  simp only [Bool.and_eq_true, Bool.not_eq_true', beq_eq_false_iff_ne] at hpl
  exact z_enter hpl.1 hpl.2 (Nat.le_of_ble_eq_true hlen) (z_run hcd h)
end
section
def zi0 : ZI := (⟨"", "", ""⟩, .empty, 0, none, 0, 0)
def mi_T_flip : ZI := (⟨"ThreeStrandMaps", "flip", "(II)I"⟩, prog_1_method_2_code, 3, some .int, 2, 4)
def mi_T_isPlace : ZI := (⟨"ThreeStrandMaps", "isPlace", "(I)Z"⟩, prog_1_method_34_code, 1, some .boolean, 1, 1)
def mi_T_isWithin : ZI := (⟨"ThreeStrandMaps", "isWithin", "(III)Z"⟩, prog_1_method_37_code, 3, some .boolean, 3, 0)
def mi_PM_becomeFlip : ZI := (⟨"ThreeStrandMaps$PairMap", "becomeFlip", "(I)V"⟩, prog_8_method_13_code, 2, none, 1, 3)
def mi_PM_becomeTwist : ZI := (⟨"ThreeStrandMaps$PairMap", "becomeTwist", "(III)V"⟩, prog_8_method_12_code, 6, none, 3, 2)
def mi_CO_digit : ZI := (⟨"ThreeStrandMaps$Codes", "digit", "(II)I"⟩, prog_7_method_2_code, 2, some .int, 2, 0)
def mi_PM_setImage : ZI := (⟨"ThreeStrandMaps$PairMap", "setImage", "(IIII)V"⟩, prog_8_method_9_code, 5, none, 4, 1)
def mi_CO_pairOf : ZI := (⟨"ThreeStrandMaps$Codes", "pairOf", "(II)I"⟩, prog_7_method_4_code, 2, some .int, 2, 0)
def mi_T_keepMade : ZI := (⟨"ThreeStrandMaps", "keepMade", "(I)I"⟩, prog_1_method_41_code, 2, some .int, 1, 2)
def mi_PM_copy : ZI := (⟨"ThreeStrandMaps$PairMap", "copy", "(LThreeStrandMaps$PairMap;)V"⟩, prog_8_method_10_code, 3, none, 1, 0)
def mi_PM_points : ZI := (⟨"ThreeStrandMaps$PairMap", "points", "()I"⟩, prog_8_method_2_code, 1, some .int, 0, 0)
def mi_T_twist : ZI := (⟨"ThreeStrandMaps", "twist", "(IIII)I"⟩, prog_1_method_3_code, 5, some .int, 4, 3)
def mi_CO_isPermutation : ZI := (⟨"ThreeStrandMaps$Codes", "isPermutation", "(II)Z"⟩, prog_7_method_6_code, 4, some .boolean, 2, 2)
def mi_CO_isCode : ZI := (⟨"ThreeStrandMaps$Codes", "isCode", "(III)Z"⟩, prog_7_method_5_code, 4, some .boolean, 3, 1)
def mi_T_group : ZI := (⟨"ThreeStrandMaps", "group", "(III)I"⟩, prog_1_method_4_code, 4, some .int, 3, 3)
def mi_AL_isGroup : ZI := (⟨"ThreeStrandMaps$Algebras", "isGroup", "(II)Z"⟩, prog_2_method_2_code, 2, some .boolean, 2, 0)
def mi_AL_makeGroupMap : ZI := (⟨"ThreeStrandMaps$Algebras", "makeGroupMap", "(LThreeStrandMaps$PairMap;II)V"⟩, prog_2_method_3_code, 6, none, 3, 2)
def mi_PM_resize : ZI := (⟨"ThreeStrandMaps$PairMap", "resize", "(I)V"⟩, prog_8_method_5_code, 2, none, 1, 0)
def mi_AL_inverse : ZI := (⟨"ThreeStrandMaps$Algebras", "inverse", "(III)I"⟩, prog_2_method_5_code, 4, some .int, 3, 1)
def mi_AL_product : ZI := (⟨"ThreeStrandMaps$Algebras", "product", "(IIII)I"⟩, prog_2_method_4_code, 6, some .int, 4, 0)
def mi_T_brace : ZI := (⟨"ThreeStrandMaps", "brace", "(III)I"⟩, prog_1_method_5_code, 4, some .int, 3, 3)
def mi_AL_areUnits : ZI := (⟨"ThreeStrandMaps$Algebras", "areUnits", "(II)Z"⟩, prog_2_method_6_code, 3, some .boolean, 2, 2)
def mi_AL_isUnit : ZI := (⟨"ThreeStrandMaps$Algebras", "isUnit", "(II)Z"⟩, prog_2_method_7_code, 3, some .boolean, 2, 0)
def mi_AL_isBrace : ZI := (⟨"ThreeStrandMaps$Algebras", "isBrace", "(II)Z"⟩, prog_2_method_8_code, 5, some .boolean, 2, 1)
def mi_AL_rest : ZI := (⟨"ThreeStrandMaps$Algebras", "rest", "(II)I"⟩, prog_2_method_17_code, 2, some .int, 2, 0)
def mi_AL_makeBraceMap : ZI := (⟨"ThreeStrandMaps$Algebras", "makeBraceMap", "(LThreeStrandMaps$PairMap;II)V"⟩, prog_2_method_9_code, 6, none, 3, 2)
def mi_AL_quotient : ZI := (⟨"ThreeStrandMaps$Algebras", "quotient", "(III)I"⟩, prog_2_method_10_code, 4, some .int, 3, 1)
def mi_T_braces : ZI := (⟨"ThreeStrandMaps", "braces", "(II)I"⟩, prog_1_method_6_code, 3, some .int, 2, 4)
def mi_AL_braceNumber : ZI := (⟨"ThreeStrandMaps$Algebras", "braceNumber", "(I)I"⟩, prog_2_method_11_code, 4, some .int, 1, 3)
def mi_AL_allOnes : ZI := (⟨"ThreeStrandMaps$Algebras", "allOnes", "(I)I"⟩, prog_2_method_14_code, 3, some .int, 1, 0)
def mi_AL_candidates : ZI := (⟨"ThreeStrandMaps$Algebras", "candidates", "(I)I"⟩, prog_2_method_13_code, 3, some .int, 1, 1)
def mi_T_oneIf : ZI := (⟨"ThreeStrandMaps", "oneIf", "(Z)I"⟩, prog_1_method_38_code, 1, some .int, 1, 0)
def mi_CO_sequences : ZI := (⟨"ThreeStrandMaps$Codes", "sequences", "(II)I"⟩, prog_7_method_7_code, 4, some .int, 2, 0)
def mi_AL_nextUnits : ZI := (⟨"ThreeStrandMaps$Algebras", "nextUnits", "(II)I"⟩, prog_2_method_15_code, 6, some .int, 2, 2)
def mi_AL_unitAfter : ZI := (⟨"ThreeStrandMaps$Algebras", "unitAfter", "(II)I"⟩, prog_2_method_16_code, 3, some .int, 2, 1)
def mi_AL_braceAt : ZI := (⟨"ThreeStrandMaps$Algebras", "braceAt", "(II)I"⟩, prog_2_method_12_code, 5, some .int, 2, 3)
def mi_T_put : ZI := (⟨"ThreeStrandMaps", "put", "(IIIII)I"⟩, prog_1_method_7_code, 8, some .int, 5, 3)
def mi_T_mapAt : ZI := (⟨"ThreeStrandMaps", "mapAt", "(I)LThreeStrandMaps$PairMap;"⟩, prog_1_method_39_code, 2, some (.object "ThreeStrandMaps$PairMap"), 1, 2)
def mi_PM_hasPoint : ZI := (⟨"ThreeStrandMaps$PairMap", "hasPoint", "(I)Z"⟩, prog_8_method_4_code, 2, some .boolean, 1, 0)
def mi_PM_imageOf : ZI := (⟨"ThreeStrandMaps$PairMap", "imageOf", "(I)I"⟩, prog_8_method_6_code, 2, some .int, 1, 0)
def mi_CO_turned : ZI := (⟨"ThreeStrandMaps$Codes", "turned", "(II)I"⟩, prog_7_method_3_code, 4, some .int, 2, 1)
def mi_T_retract : ZI := (⟨"ThreeStrandMaps", "retract", "(II)I"⟩, prog_1_method_8_code, 4, some .int, 2, 5)
def mi_PM_isEmpty : ZI := (⟨"ThreeStrandMaps$PairMap", "isEmpty", "()Z"⟩, prog_8_method_3_code, 1, some .boolean, 0, 0)
def mi_AC_find : ZI := (⟨"ThreeStrandMaps$AlikeClasses", "find", "(LThreeStrandMaps$PairMap;)V"⟩, prog_3_method_4_code, 4, none, 1, 4)
def mi_AC_smallestTwin : ZI := (⟨"ThreeStrandMaps$AlikeClasses", "smallestTwin", "(LThreeStrandMaps$PairMap;I)I"⟩, prog_3_method_5_code, 3, some .int, 2, 3)
def mi_AC_areTwins : ZI := (⟨"ThreeStrandMaps$AlikeClasses", "areTwins", "(LThreeStrandMaps$PairMap;II)Z"⟩, prog_3_method_6_code, 4, some .boolean, 3, 2)
def mi_PM_left : ZI := (⟨"ThreeStrandMaps$PairMap", "left", "(II)I"⟩, prog_8_method_7_code, 3, some .int, 2, 1)
def mi_PM_right : ZI := (⟨"ThreeStrandMaps$PairMap", "right", "(II)I"⟩, prog_8_method_8_code, 3, some .int, 2, 1)
def mi_AC_classOf : ZI := (⟨"ThreeStrandMaps$AlikeClasses", "classOf", "(I)I"⟩, prog_3_method_2_code, 2, some .int, 1, 0)
def mi_AC_makeRetraction : ZI := (⟨"ThreeStrandMaps$AlikeClasses", "makeRetraction", "(LThreeStrandMaps$PairMap;LThreeStrandMaps$PairMap;)V"⟩, prog_3_method_7_code, 7, none, 2, 2)
def mi_AC_smallestOf : ZI := (⟨"ThreeStrandMaps$AlikeClasses", "smallestOf", "(I)I"⟩, prog_3_method_3_code, 2, some .int, 1, 0)
def mi_T_unite : ZI := (⟨"ThreeStrandMaps", "unite", "(III)I"⟩, prog_1_method_9_code, 6, some .int, 3, 5)
def mi_PM_becomeUnion : ZI := (⟨"ThreeStrandMaps$PairMap", "becomeUnion", "(LThreeStrandMaps$PairMap;LThreeStrandMaps$PairMap;)V"⟩, prog_8_method_14_code, 3, none, 2, 4)
def mi_PM_setShifted : ZI := (⟨"ThreeStrandMaps$PairMap", "setShifted", "(LThreeStrandMaps$PairMap;I)V"⟩, prog_8_method_15_code, 5, none, 2, 2)
def mi_T_pair : ZI := (⟨"ThreeStrandMaps", "pair", "(III)I"⟩, prog_1_method_10_code, 6, some .int, 3, 4)
def mi_PM_becomeProduct : ZI := (⟨"ThreeStrandMaps$PairMap", "becomeProduct", "(LThreeStrandMaps$PairMap;LThreeStrandMaps$PairMap;)V"⟩, prog_8_method_16_code, 5, none, 2, 3)
def mi_PM_setBlock : ZI := (⟨"ThreeStrandMaps$PairMap", "setBlock", "(LThreeStrandMaps$PairMap;LThreeStrandMaps$PairMap;II)V"⟩, prog_8_method_17_code, 10, none, 4, 2)
def mi_T_invert : ZI := (⟨"ThreeStrandMaps", "invert", "(II)I"⟩, prog_1_method_11_code, 4, some .int, 2, 3)
def mi_CH_isBijective : ZI := (⟨"ThreeStrandMaps$Checks", "isBijective", "(LThreeStrandMaps$PairMap;)Z"⟩, prog_6_method_2_code, 6, some .boolean, 1, 1)
def mi_JL_bitCount : ZI := (⟨"java/lang/Long", "bitCount", "(J)I"⟩, prog_15_method_50_code, 2, some .int, 1, 0)
def mi_PM_becomeInverse : ZI := (⟨"ThreeStrandMaps$PairMap", "becomeInverse", "(LThreeStrandMaps$PairMap;)V"⟩, prog_8_method_18_code, 4, none, 1, 2)
def mi_T_mirror : ZI := (⟨"ThreeStrandMaps", "mirror", "(II)I"⟩, prog_1_method_12_code, 4, some .int, 2, 3)
def mi_PM_becomeMirror : ZI := (⟨"ThreeStrandMaps$PairMap", "becomeMirror", "(LThreeStrandMaps$PairMap;)V"⟩, prog_8_method_19_code, 4, none, 1, 2)
def mi_T_rename : ZI := (⟨"ThreeStrandMaps", "rename", "(III)I"⟩, prog_1_method_13_code, 5, some .int, 3, 3)
def mi_PM_becomeRenamed : ZI := (⟨"ThreeStrandMaps$PairMap", "becomeRenamed", "(LThreeStrandMaps$PairMap;I)V"⟩, prog_8_method_20_code, 7, none, 2, 2)
def mi_T_drop : ZI := (⟨"ThreeStrandMaps", "drop", "(I)I"⟩, prog_1_method_14_code, 4, some .int, 1, 3)
def mi_T_cell : ZI := (⟨"ThreeStrandMaps", "cell", "(IIII)I"⟩, prog_1_method_15_code, 6, some .int, 4, 3)
def mi_T_whole : ZI := (⟨"ThreeStrandMaps", "whole", "(II)I"⟩, prog_1_method_16_code, 4, some .int, 2, 6)
def mi_CH_brokenTriples : ZI := (⟨"ThreeStrandMaps$Checks", "brokenTriples", "(LThreeStrandMaps$PairMap;)I"⟩, prog_6_method_8_code, 5, some .int, 1, 3)
def mi_CH_isBroken : ZI := (⟨"ThreeStrandMaps$Checks", "isBroken", "(LThreeStrandMaps$PairMap;I)Z"⟩, prog_6_method_7_code, 4, some .boolean, 2, 2)
def mi_PM_appliedAt : ZI := (⟨"ThreeStrandMaps$PairMap", "appliedAt", "(II)I"⟩, prog_8_method_11_code, 4, some .int, 2, 1)
def mi_CO_next : ZI := (⟨"ThreeStrandMaps$Codes", "next", "(III)I"⟩, prog_7_method_8_code, 5, some .int, 3, 1)
def mi_CH_isInvolutive : ZI := (⟨"ThreeStrandMaps$Checks", "isInvolutive", "(LThreeStrandMaps$PairMap;)Z"⟩, prog_6_method_3_code, 5, some .boolean, 1, 1)
def mi_CH_isLeftNondegenerate : ZI := (⟨"ThreeStrandMaps$Checks", "isLeftNondegenerate", "(LThreeStrandMaps$PairMap;)Z"⟩, prog_6_method_4_code, 5, some .boolean, 1, 2)
def mi_CH_isRightNondegenerate : ZI := (⟨"ThreeStrandMaps$Checks", "isRightNondegenerate", "(LThreeStrandMaps$PairMap;)Z"⟩, prog_6_method_5_code, 5, some .boolean, 1, 2)
def mi_CH_isSquareFree : ZI := (⟨"ThreeStrandMaps$Checks", "isSquareFree", "(LThreeStrandMaps$PairMap;)Z"⟩, prog_6_method_6_code, 3, some .boolean, 1, 1)
def mi_CH_orbits : ZI := (⟨"ThreeStrandMaps$Checks", "orbits", "(LThreeStrandMaps$PairMap;)I"⟩, prog_6_method_15_code, 4, some .int, 1, 4)
def mi_CH_orbitOf : ZI := (⟨"ThreeStrandMaps$Checks", "orbitOf", "(LThreeStrandMaps$PairMap;I)I"⟩, prog_6_method_12_code, 4, some .int, 2, 3)
def mi_CH_withLinked : ZI := (⟨"ThreeStrandMaps$Checks", "withLinked", "(LThreeStrandMaps$PairMap;I)I"⟩, prog_6_method_13_code, 6, some .int, 2, 2)
def mi_CH_joined : ZI := (⟨"ThreeStrandMaps$Checks", "joined", "(III)I"⟩, prog_6_method_14_code, 4, some .int, 3, 0)
def mi_AC_levelOf : ZI := (⟨"ThreeStrandMaps$AlikeClasses", "levelOf", "(LThreeStrandMaps$PairMap;)I"⟩, prog_3_method_8_code, 3, some .int, 1, 5)
def mi_RG_orderFor : ZI := (⟨"ThreeStrandMaps$RowGroup", "orderFor", "(LThreeStrandMaps$PairMap;)I"⟩, prog_10_method_2_code, 4, some .int, 1, 3)
def mi_JA_fill : ZI := (⟨"java/util/Arrays", "fill", "([JJ)V"⟩, prog_17_method_101_code, 5, none, 2, 0)
def mi_RG_add : ZI := (⟨"ThreeStrandMaps$RowGroup", "add", "(I)V"⟩, prog_10_method_4_code, 6, none, 1, 0)
def mi_RG_followedBy : ZI := (⟨"ThreeStrandMaps$RowGroup", "followedBy", "(ILThreeStrandMaps$PairMap;I)I"⟩, prog_10_method_3_code, 7, some .int, 3, 2)
def mi_RN_isomorphisms : ZI := (⟨"ThreeStrandMaps$Renamings", "isomorphisms", "(LThreeStrandMaps$PairMap;LThreeStrandMaps$PairMap;)I"⟩, prog_9_method_2_code, 6, some .int, 2, 3)
def mi_RN_start : ZI := (⟨"ThreeStrandMaps$Renamings", "start", "()V"⟩, prog_9_method_10_code, 2, none, 0, 0)
def mi_RN_permutations : ZI := (⟨"ThreeStrandMaps$Renamings", "permutations", "(I)I"⟩, prog_9_method_9_code, 3, some .int, 1, 0)
def mi_RN_isIsomorphism : ZI := (⟨"ThreeStrandMaps$Renamings", "isIsomorphism", "(LThreeStrandMaps$PairMap;LThreeStrandMaps$PairMap;)Z"⟩, prog_9_method_6_code, 9, some .boolean, 2, 1)
def mi_RN_imageOf : ZI := (⟨"ThreeStrandMaps$Renamings", "imageOf", "(I)I"⟩, prog_9_method_7_code, 2, some .int, 1, 0)
def mi_RN_step : ZI := (⟨"ThreeStrandMaps$Renamings", "step", "(I)V"⟩, prog_9_method_11_code, 6, none, 1, 2)
def mi_RN_swap : ZI := (⟨"ThreeStrandMaps$Renamings", "swap", "(II)V"⟩, prog_9_method_12_code, 4, none, 2, 1)
def mi_CH_periodOf : ZI := (⟨"ThreeStrandMaps$Checks", "periodOf", "(LThreeStrandMaps$PairMap;)I"⟩, prog_6_method_10_code, 5, some .int, 1, 2)
def mi_CH_cycleLength : ZI := (⟨"ThreeStrandMaps$Checks", "cycleLength", "(LThreeStrandMaps$PairMap;I)I"⟩, prog_6_method_11_code, 5, some .int, 2, 1)
def mi_CO_commonMultiple : ZI := (⟨"ThreeStrandMaps$Codes", "commonMultiple", "(II)I"⟩, prog_7_method_9_code, 3, some .int, 2, 0)
def mi_CH_closedSets : ZI := (⟨"ThreeStrandMaps$Checks", "closedSets", "(LThreeStrandMaps$PairMap;)I"⟩, prog_6_method_18_code, 3, some .int, 1, 3)
def mi_CH_withImages : ZI := (⟨"ThreeStrandMaps$Checks", "withImages", "(LThreeStrandMaps$PairMap;I)I"⟩, prog_6_method_17_code, 6, some .int, 2, 2)
def mi_SL_indexOf : ZI := (⟨"ThreeStrandMaps$SolutionList", "indexOf", "(LThreeStrandMaps$PairMap;LThreeStrandMaps$Renamings;)I"⟩, prog_11_method_10_code, 6, some .int, 2, 4)
def mi_SL_hasPoints : ZI := (⟨"ThreeStrandMaps$SolutionList", "hasPoints", "(I)Z"⟩, prog_11_method_2_code, 1, some .boolean, 1, 0)
def mi_RN_smallestRows : ZI := (⟨"ThreeStrandMaps$Renamings", "smallestRows", "(LThreeStrandMaps$PairMap;)J"⟩, prog_9_method_4_code, 6, some .long, 1, 3)
def mi_RN_renamedRows : ZI := (⟨"ThreeStrandMaps$Renamings", "renamedRows", "(LThreeStrandMaps$PairMap;)J"⟩, prog_9_method_5_code, 8, some .long, 1, 2)
def mi_SL_shiftOf : ZI := (⟨"ThreeStrandMaps$SolutionList", "shiftOf", "(II)I"⟩, prog_11_method_6_code, 2, some .int, 2, 0)
def mi_JM_minL : ZI := (Lib.MathLoose.min_long.x, Lib.MathLoose.min_long.code, 4, some .long, 2, 102)
def mi_SL_size : ZI := (⟨"ThreeStrandMaps$SolutionList", "size", "(I)I"⟩, prog_11_method_4_code, 1, some .int, 1, 1)
def mi_SL_start : ZI := (⟨"ThreeStrandMaps$SolutionList", "start", "(I)I"⟩, prog_11_method_3_code, 1, some .int, 1, 0)
def mi_SL_rowsAt : ZI := (⟨"ThreeStrandMaps$SolutionList", "rowsAt", "(II)J"⟩, prog_11_method_5_code, 3, some .long, 2, 1)
def mi_T_fails : ZI := (⟨"ThreeStrandMaps", "fails", "(II)I"⟩, prog_1_method_17_code, 5, some .int, 2, 4)
def mi_CH_brokenTripleAt : ZI := (⟨"ThreeStrandMaps$Checks", "brokenTripleAt", "(LThreeStrandMaps$PairMap;I)I"⟩, prog_6_method_9_code, 6, some .int, 2, 3)
def mi_T_orbit : ZI := (⟨"ThreeStrandMaps", "orbit", "(II)I"⟩, prog_1_method_18_code, 4, some .int, 2, 4)
def mi_T_shut : ZI := (⟨"ThreeStrandMaps", "shut", "(II)I"⟩, prog_1_method_19_code, 4, some .int, 2, 4)
def mi_CH_closureOf : ZI := (⟨"ThreeStrandMaps$Checks", "closureOf", "(LThreeStrandMaps$PairMap;I)I"⟩, prog_6_method_16_code, 4, some .int, 2, 3)
def mi_T_alike : ZI := (⟨"ThreeStrandMaps", "alike", "(II)I"⟩, prog_1_method_20_code, 4, some .int, 2, 5)
def mi_T_power : ZI := (⟨"ThreeStrandMaps", "power", "(IIII)I"⟩, prog_1_method_21_code, 8, some .int, 4, 3)
def mi_T_like : ZI := (⟨"ThreeStrandMaps", "like", "(III)I"⟩, prog_1_method_22_code, 6, some .int, 3, 4)
def mi_RN_isomorphismAt : ZI := (⟨"ThreeStrandMaps$Renamings", "isomorphismAt", "(LThreeStrandMaps$PairMap;LThreeStrandMaps$PairMap;I)I"⟩, prog_9_method_3_code, 7, some .int, 3, 3)
def mi_RN_code : ZI := (⟨"ThreeStrandMaps$Renamings", "code", "(I)I"⟩, prog_9_method_8_code, 4, some .int, 1, 1)
def mi_T_words : ZI := (⟨"ThreeStrandMaps", "words", "(II)I"⟩, prog_1_method_23_code, 4, some .int, 2, 4)
def mi_WC_find : ZI := (⟨"ThreeStrandMaps$WordClasses", "find", "(LThreeStrandMaps$PairMap;I)V"⟩, prog_12_method_2_code, 7, none, 2, 3)
def mi_WC_join : ZI := (⟨"ThreeStrandMaps$WordClasses", "join", "(II)V"⟩, prog_12_method_6_code, 5, none, 2, 2)
def mi_WC_smallest : ZI := (⟨"ThreeStrandMaps$WordClasses", "smallest", "(I)I"⟩, prog_12_method_4_code, 4, some .int, 1, 1)
def mi_WC_smallerOf : ZI := (⟨"ThreeStrandMaps$WordClasses", "smallerOf", "(I)I"⟩, prog_12_method_5_code, 2, some .int, 1, 0)
def mi_JM_max : ZI := (Lib.Math.max.name, Lib.Math.max.code, 2, some .int, 2, 100)
def mi_JM_min : ZI := (Lib.Math.min.name, Lib.Math.min.code, 2, some .int, 2, 101)
def mi_WC_number : ZI := (⟨"ThreeStrandMaps$WordClasses", "number", "()I"⟩, prog_12_method_3_code, 1, some .int, 0, 0)
def mi_T_least : ZI := (⟨"ThreeStrandMaps", "least", "(III)I"⟩, prog_1_method_24_code, 5, some .int, 3, 4)
def mi_T_write : ZI := (⟨"ThreeStrandMaps", "write", "(II)I"⟩, prog_1_method_25_code, 4, some .int, 2, 3)
def mi_T_isBraid : ZI := (⟨"ThreeStrandMaps", "isBraid", "(I)Z"⟩, prog_1_method_35_code, 1, some .boolean, 1, 1)
def mi_BR_isLetter : ZI := (⟨"ThreeStrandMaps$Braid", "isLetter", "(I)Z"⟩, prog_4_method_2_code, 1, some .boolean, 1, 1)
def mi_BR_isCapital : ZI := (⟨"ThreeStrandMaps$Braid", "isCapital", "(I)Z"⟩, prog_4_method_3_code, 1, some .boolean, 1, 0)
def mi_T_braidAt : ZI := (⟨"ThreeStrandMaps", "braidAt", "(I)LThreeStrandMaps$Braid;"⟩, prog_1_method_40_code, 2, some (.object "ThreeStrandMaps$Braid"), 1, 2)
def mi_BR_isFull : ZI := (⟨"ThreeStrandMaps$Braid", "isFull", "()Z"⟩, prog_4_method_8_code, 1, some .boolean, 0, 0)
def mi_BR_append : ZI := (⟨"ThreeStrandMaps$Braid", "append", "(I)V"⟩, prog_4_method_9_code, 3, none, 1, 1)
def mi_BR_hasIndex : ZI := (⟨"ThreeStrandMaps$Braid", "hasIndex", "(I)Z"⟩, prog_4_method_7_code, 1, some .boolean, 1, 0)
def mi_BR_length : ZI := (⟨"ThreeStrandMaps$Braid", "length", "()I"⟩, prog_4_method_4_code, 1, some .int, 0, 0)
def mi_T_erase : ZI := (⟨"ThreeStrandMaps", "erase", "(I)I"⟩, prog_1_method_26_code, 4, some .int, 1, 3)
def mi_BR_clear : ZI := (⟨"ThreeStrandMaps$Braid", "clear", "()V"⟩, prog_4_method_10_code, 1, none, 0, 0)
def mi_T_through : ZI := (⟨"ThreeStrandMaps", "through", "(IIII)I"⟩, prog_1_method_27_code, 7, some .int, 4, 4)
def mi_T_isTupleLength : ZI := (⟨"ThreeStrandMaps", "isTupleLength", "(I)Z"⟩, prog_1_method_36_code, 1, some .boolean, 1, 1)
def mi_BA_isFit : ZI := (⟨"ThreeStrandMaps$BraidAction", "isFit", "(LThreeStrandMaps$PairMap;LThreeStrandMaps$Braid;I)Z"⟩, prog_5_method_2_code, 3, some .boolean, 3, 3)
def mi_BR_strands : ZI := (⟨"ThreeStrandMaps$Braid", "strands", "()I"⟩, prog_4_method_12_code, 3, some .int, 0, 2)
def mi_BR_position : ZI := (⟨"ThreeStrandMaps$Braid", "position", "(I)I"⟩, prog_4_method_5_code, 2, some .int, 1, 1)
def mi_BR_hasCapital : ZI := (⟨"ThreeStrandMaps$Braid", "hasCapital", "()Z"⟩, prog_4_method_11_code, 2, some .boolean, 0, 2)
def mi_BR_isCapitalAt : ZI := (⟨"ThreeStrandMaps$Braid", "isCapitalAt", "(I)Z"⟩, prog_4_method_6_code, 2, some .boolean, 1, 1)
def mi_BA_prepare : ZI := (⟨"ThreeStrandMaps$BraidAction", "prepare", "(LThreeStrandMaps$PairMap;)V"⟩, prog_5_method_3_code, 2, none, 1, 3)
def mi_BA_resultOf : ZI := (⟨"ThreeStrandMaps$BraidAction", "resultOf", "(LThreeStrandMaps$Braid;II)I"⟩, prog_5_method_4_code, 7, some .int, 3, 2)
def mi_T_stays : ZI := (⟨"ThreeStrandMaps", "stays", "(III)I"⟩, prog_1_method_28_code, 5, some .int, 3, 5)
def mi_T_actionError : ZI := (⟨"ThreeStrandMaps", "actionError", "(III)I"⟩, prog_1_method_42_code, 5, some .int, 3, 4)
def mi_BA_fixedTuples : ZI := (⟨"ThreeStrandMaps$BraidAction", "fixedTuples", "(LThreeStrandMaps$Braid;I)I"⟩, prog_5_method_5_code, 6, some .int, 2, 3)
def mi_BA_tuples : ZI := (⟨"ThreeStrandMaps$BraidAction", "tuples", "(I)I"⟩, prog_5_method_8_code, 2, some .int, 1, 1)
def mi_T_rounds : ZI := (⟨"ThreeStrandMaps", "rounds", "(III)I"⟩, prog_1_method_29_code, 5, some .int, 3, 5)
def mi_BA_periodOf : ZI := (⟨"ThreeStrandMaps$BraidAction", "periodOf", "(LThreeStrandMaps$Braid;I)I"⟩, prog_5_method_6_code, 7, some .int, 2, 4)
def mi_BA_isSeen : ZI := (⟨"ThreeStrandMaps$BraidAction", "isSeen", "(I)Z"⟩, prog_5_method_10_code, 2, some .boolean, 1, 0)
def mi_BA_cycleLength : ZI := (⟨"ThreeStrandMaps$BraidAction", "cycleLength", "(LThreeStrandMaps$Braid;II)I"⟩, prog_5_method_9_code, 6, some .int, 3, 3)
def mi_BA_see : ZI := (⟨"ThreeStrandMaps$BraidAction", "see", "(I)V"⟩, prog_5_method_11_code, 2, none, 1, 0)
def mi_T_part : ZI := (⟨"ThreeStrandMaps", "part", "(II)I"⟩, prog_1_method_30_code, 7, some .int, 2, 4)
def mi_BA_firstDifference : ZI := (⟨"ThreeStrandMaps$BraidAction", "firstDifference", "(LThreeStrandMaps$Braid;LThreeStrandMaps$Braid;I)I"⟩, prog_5_method_7_code, 6, some .int, 3, 3)
def mi_T_listed : ZI := (⟨"ThreeStrandMaps", "listed", "(I)I"⟩, prog_1_method_31_code, 2, some .int, 1, 2)
def mi_T_take : ZI := (⟨"ThreeStrandMaps", "take", "(III)I"⟩, prog_1_method_32_code, 4, some .int, 3, 4)
def mi_SL_makeMap : ZI := (⟨"ThreeStrandMaps$SolutionList", "makeMap", "(LThreeStrandMaps$PairMap;II)V"⟩, prog_11_method_7_code, 8, none, 3, 3)
def mi_SL_pointAt : ZI := (⟨"ThreeStrandMaps$SolutionList", "pointAt", "(JIII)I"⟩, prog_11_method_8_code, 5, some .int, 4, 1)
def mi_SL_columnOf : ZI := (⟨"ThreeStrandMaps$SolutionList", "columnOf", "(JIII)I"⟩, prog_11_method_9_code, 6, some .int, 4, 2)
def mi_T_count : ZI := (⟨"ThreeStrandMaps", "count", "(I)I"⟩, prog_1_method_33_code, 2, some .int, 1, 4)
def mi_T_mapsHeld : ZI := (⟨"ThreeStrandMaps", "mapsHeld", "()I"⟩, prog_1_method_43_code, 3, some .int, 0, 3)
def mi_T_pointsHeld : ZI := (⟨"ThreeStrandMaps", "pointsHeld", "()I"⟩, prog_1_method_44_code, 3, some .int, 0, 3)
def mi_R_flip : ZI := (⟨"ThreeStrandMapsModel", "flip", "(II)I"⟩, prog_14_method_18_code, 4, some .int, 2, 2)
def mi_R_isPlace : ZI := (⟨"ThreeStrandMapsModel", "isPlace", "(I)Z"⟩, prog_14_method_3_code, 1, some .boolean, 1, 1)
def mi_R_in : ZI := (⟨"ThreeStrandMapsModel", "in", "(JJJ)Z"⟩, prog_14_method_2_code, 6, some .boolean, 3, 0)
def mi_R_lay : ZI := (⟨"ThreeStrandMapsModel", "lay", "(IIIII)V"⟩, prog_14_method_8_code, 6, none, 5, 0)
def mi_R_comes : ZI := (⟨"ThreeStrandMapsModel", "comes", "(I)I"⟩, prog_14_method_10_code, 2, some .int, 1, 1)
def mi_R_copies : ZI := (⟨"ThreeStrandMapsModel", "copies", "(II)V"⟩, prog_14_method_9_code, 4, none, 2, 0)
def mi_R_twist : ZI := (⟨"ThreeStrandMapsModel", "twist", "(IIII)I"⟩, prog_14_method_19_code, 6, some .int, 4, 4)
def mi_R_isPermutation : ZI := (⟨"ThreeStrandMapsModel", "isPermutation", "(II)Z"⟩, prog_14_method_14_code, 4, some .boolean, 2, 3)
def mi_R_digit : ZI := (⟨"ThreeStrandMapsModel", "digit", "(II)I"⟩, prog_14_method_11_code, 2, some .int, 2, 0)
def mi_R_arePoints : ZI := (⟨"ThreeStrandMapsModel", "arePoints", "(III)Z"⟩, prog_14_method_13_code, 5, some .boolean, 3, 2)
def mi_R_isCode : ZI := (⟨"ThreeStrandMapsModel", "isCode", "(II)Z"⟩, prog_14_method_12_code, 2, some .boolean, 2, 1)
def mi_R_group : ZI := (⟨"ThreeStrandMapsModel", "group", "(III)I"⟩, prog_14_method_22_code, 8, some .int, 3, 2)
def mi_R_times : ZI := (⟨"ThreeStrandMapsModel", "times", "(IIII)I"⟩, prog_14_method_20_code, 5, some .int, 4, 0)
def mi_R_backFrom : ZI := (⟨"ThreeStrandMapsModel", "backFrom", "(III)I"⟩, prog_14_method_21_code, 5, some .int, 3, 1)
def mi_R_brace : ZI := (⟨"ThreeStrandMapsModel", "brace", "(III)I"⟩, prog_14_method_26_code, 9, some .int, 3, 4)
def mi_R_areUnits : ZI := (⟨"ThreeStrandMapsModel", "areUnits", "(II)Z"⟩, prog_14_method_24_code, 4, some .boolean, 2, 2)
def mi_R_isUnit : ZI := (⟨"ThreeStrandMapsModel", "isUnit", "(II)Z"⟩, prog_14_method_23_code, 4, some .boolean, 2, 1)
def mi_R_isBrace : ZI := (⟨"ThreeStrandMapsModel", "isBrace", "(II)Z"⟩, prog_14_method_25_code, 6, some .boolean, 2, 3)
def mi_R_braces : ZI := (⟨"ThreeStrandMapsModel", "braces", "(II)I"⟩, prog_14_method_27_code, 6, some .int, 2, 4)
def mi_R_put : ZI := (⟨"ThreeStrandMapsModel", "put", "(IIIII)I"⟩, prog_14_method_28_code, 7, some .int, 5, 3)
def mi_R_isMap : ZI := (⟨"ThreeStrandMapsModel", "isMap", "(I)Z"⟩, prog_14_method_4_code, 2, some .boolean, 1, 2)
def mi_R_isPoint : ZI := (⟨"ThreeStrandMapsModel", "isPoint", "(II)Z"⟩, prog_14_method_5_code, 3, some .boolean, 2, 1)
def mi_R_l : ZI := (⟨"ThreeStrandMapsModel", "l", "(III)I"⟩, prog_14_method_6_code, 4, some .int, 3, 0)
def mi_R_r : ZI := (⟨"ThreeStrandMapsModel", "r", "(III)I"⟩, prog_14_method_7_code, 4, some .int, 3, 0)
def mi_R_retract : ZI := (⟨"ThreeStrandMapsModel", "retract", "(II)I"⟩, prog_14_method_32_code, 3, some .int, 2, 4)
def mi_R_makeRetract : ZI := (⟨"ThreeStrandMapsModel", "makeRetract", "(I)V"⟩, prog_14_method_31_code, 6, none, 1, 3)
def mi_R_layClasses : ZI := (⟨"ThreeStrandMapsModel", "layClasses", "(I)I"⟩, prog_14_method_30_code, 5, some .int, 1, 2)
def mi_R_areAlike : ZI := (⟨"ThreeStrandMapsModel", "areAlike", "(III)Z"⟩, prog_14_method_29_code, 6, some .boolean, 3, 1)
def mi_R_unite : ZI := (⟨"ThreeStrandMapsModel", "unite", "(III)I"⟩, prog_14_method_33_code, 9, some .int, 3, 3)
def mi_R_pair : ZI := (⟨"ThreeStrandMapsModel", "pair", "(III)I"⟩, prog_14_method_34_code, 11, some .int, 3, 3)
def mi_R_invert : ZI := (⟨"ThreeStrandMapsModel", "invert", "(II)I"⟩, prog_14_method_36_code, 5, some .int, 2, 3)
def mi_R_isBijective : ZI := (⟨"ThreeStrandMapsModel", "isBijective", "(I)Z"⟩, prog_14_method_35_code, 7, some .boolean, 1, 1)
def mi_R_mirror : ZI := (⟨"ThreeStrandMapsModel", "mirror", "(II)I"⟩, prog_14_method_37_code, 5, some .int, 2, 3)
def mi_R_rename : ZI := (⟨"ThreeStrandMapsModel", "rename", "(III)I"⟩, prog_14_method_38_code, 8, some .int, 3, 4)
def mi_R_drop : ZI := (⟨"ThreeStrandMapsModel", "drop", "(I)I"⟩, prog_14_method_39_code, 3, some .int, 1, 3)
def mi_R_cell : ZI := (⟨"ThreeStrandMapsModel", "cell", "(IIII)I"⟩, prog_14_method_40_code, 5, some .int, 4, 3)
def mi_R_whole : ZI := (⟨"ThreeStrandMapsModel", "whole", "(II)I"⟩, prog_14_method_74_code, 3, some .int, 2, 8)
def mi_R_manyFail : ZI := (⟨"ThreeStrandMapsModel", "manyFail", "(I)I"⟩, prog_14_method_45_code, 5, some .int, 1, 4)
def mi_R_failsAt : ZI := (⟨"ThreeStrandMapsModel", "failsAt", "(II)Z"⟩, prog_14_method_44_code, 4, some .boolean, 2, 3)
def mi_R_threeBy : ZI := (⟨"ThreeStrandMapsModel", "threeBy", "(III)I"⟩, prog_14_method_43_code, 5, some .int, 3, 2)
def mi_R_crosses : ZI := (⟨"ThreeStrandMapsModel", "crosses", "(II)V"⟩, prog_14_method_41_code, 5, none, 2, 1)
def mi_R_asNumber : ZI := (⟨"ThreeStrandMapsModel", "asNumber", "(Z)I"⟩, prog_14_method_73_code, 1, some .int, 1, 0)
def mi_R_comesBack : ZI := (⟨"ThreeStrandMapsModel", "comesBack", "(I)Z"⟩, prog_14_method_46_code, 5, some .boolean, 1, 2)
def mi_R_isPlain : ZI := (⟨"ThreeStrandMapsModel", "isPlain", "(IZ)Z"⟩, prog_14_method_47_code, 8, some .boolean, 2, 1)
def mi_R_doSquaresStay : ZI := (⟨"ThreeStrandMapsModel", "doSquaresStay", "(I)Z"⟩, prog_14_method_48_code, 4, some .boolean, 1, 1)
def mi_R_wholeLater : ZI := (⟨"ThreeStrandMapsModel", "wholeLater", "(II)I"⟩, prog_14_method_75_code, 3, some .int, 2, 7)
def mi_R_manyOrbits : ZI := (⟨"ThreeStrandMapsModel", "manyOrbits", "(I)I"⟩, prog_14_method_50_code, 4, some .int, 1, 2)
def mi_R_orbitOf : ZI := (⟨"ThreeStrandMapsModel", "orbitOf", "(II)I"⟩, prog_14_method_49_code, 10, some .int, 2, 1)
def mi_R_level : ZI := (⟨"ThreeStrandMapsModel", "level", "(I)I"⟩, prog_14_method_53_code, 3, some .int, 1, 4)
def mi_R_groupSize : ZI := (⟨"ThreeStrandMapsModel", "groupSize", "(I)I"⟩, prog_14_method_56_code, 7, some .int, 1, 2)
def mi_R_firstName : ZI := (⟨"ThreeStrandMapsModel", "firstName", "(I)V"⟩, prog_14_method_15_code, 3, none, 1, 0)
def mi_R_nameCode : ZI := (⟨"ThreeStrandMapsModel", "nameCode", "(I)I"⟩, prog_14_method_17_code, 4, some .int, 1, 0)
def mi_R_numberOf : ZI := (⟨"ThreeStrandMapsModel", "numberOf", "(II)I"⟩, prog_14_method_54_code, 6, some .int, 2, 1)
def mi_R_behind : ZI := (⟨"ThreeStrandMapsModel", "behind", "(III)I"⟩, prog_14_method_55_code, 6, some .int, 3, 1)
def mi_R_likenesses : ZI := (⟨"ThreeStrandMapsModel", "likenesses", "(III)I"⟩, prog_14_method_58_code, 7, some .int, 3, 2)
def mi_R_isLike : ZI := (⟨"ThreeStrandMapsModel", "isLike", "(II)Z"⟩, prog_14_method_57_code, 10, some .boolean, 2, 1)
def mi_R_nextName : ZI := (⟨"ThreeStrandMapsModel", "nextName", "(I)Z"⟩, prog_14_method_16_code, 6, some .boolean, 1, 0)
def mi_R_order : ZI := (⟨"ThreeStrandMapsModel", "order", "(I)I"⟩, prog_14_method_60_code, 6, some .int, 1, 2)
def mi_R_commonOf : ZI := (⟨"ThreeStrandMapsModel", "commonOf", "(II)I"⟩, prog_14_method_59_code, 5, some .int, 2, 0)
def mi_R_manyClosed : ZI := (⟨"ThreeStrandMapsModel", "manyClosed", "(I)I"⟩, prog_14_method_52_code, 4, some .int, 1, 2)
def mi_R_isClosed : ZI := (⟨"ThreeStrandMapsModel", "isClosed", "(II)Z"⟩, prog_14_method_51_code, 7, some .boolean, 2, 1)
def mi_R_listedAs : ZI := (⟨"ThreeStrandMapsModel", "listedAs", "(I)I"⟩, prog_14_method_72_code, 6, some .int, 1, 6)
def mi_R_layList : ZI := (⟨"ThreeStrandMapsModel", "layList", "(I)I"⟩, prog_14_method_70_code, 9, some .int, 1, 5)
def mi_R_layRows : ZI := (⟨"ThreeStrandMapsModel", "layRows", "(I)I"⟩, prog_14_method_65_code, 5, some .int, 1, 1)
def mi_R_rowsTo : ZI := (⟨"ThreeStrandMapsModel", "rowsTo", "(II)I"⟩, prog_14_method_69_code, 4, some .int, 2, 0)
def mi_R_layNumber : ZI := (⟨"ThreeStrandMapsModel", "layNumber", "(III)V"⟩, prog_14_method_68_code, 7, none, 3, 1)
def mi_R_firstBad : ZI := (⟨"ThreeStrandMapsModel", "firstBad", "()I"⟩, prog_14_method_66_code, 5, some .int, 0, 2)
def mi_R_failsWithin : ZI := (⟨"ThreeStrandMapsModel", "failsWithin", "(III)Z"⟩, prog_14_method_67_code, 11, some .boolean, 3, 1)
def mi_R_layRight : ZI := (⟨"ThreeStrandMapsModel", "layRight", "()V"⟩, prog_14_method_61_code, 6, none, 0, 1)
def mi_R_comesBackHere : ZI := (⟨"ThreeStrandMapsModel", "comesBackHere", "()Z"⟩, prog_14_method_71_code, 6, some .boolean, 0, 1)
def mi_R_isFirst : ZI := (⟨"ThreeStrandMapsModel", "isFirst", "()Z"⟩, prog_14_method_63_code, 8, some .boolean, 0, 1)
def mi_R_namedAs : ZI := (⟨"ThreeStrandMapsModel", "namedAs", "(II)I"⟩, prog_14_method_64_code, 5, some .int, 2, 0)
def mi_R_layListed : ZI := (⟨"ThreeStrandMapsModel", "layListed", "(II)V"⟩, prog_14_method_62_code, 4, none, 2, 2)
def mi_R_fails : ZI := (⟨"ThreeStrandMapsModel", "fails", "(II)I"⟩, prog_14_method_76_code, 7, some .int, 2, 4)
def mi_R_orbit : ZI := (⟨"ThreeStrandMapsModel", "orbit", "(II)I"⟩, prog_14_method_77_code, 3, some .int, 2, 3)
def mi_R_shut : ZI := (⟨"ThreeStrandMapsModel", "shut", "(II)I"⟩, prog_14_method_78_code, 8, some .int, 2, 3)
def mi_R_alike : ZI := (⟨"ThreeStrandMapsModel", "alike", "(II)I"⟩, prog_14_method_79_code, 4, some .int, 2, 3)
def mi_R_power : ZI := (⟨"ThreeStrandMapsModel", "power", "(IIII)I"⟩, prog_14_method_80_code, 6, some .int, 4, 3)
def mi_R_like : ZI := (⟨"ThreeStrandMapsModel", "like", "(III)I"⟩, prog_14_method_81_code, 5, some .int, 3, 3)
def mi_R_words : ZI := (⟨"ThreeStrandMapsModel", "words", "(II)I"⟩, prog_14_method_87_code, 5, some .int, 2, 3)
def mi_R_layWords : ZI := (⟨"ThreeStrandMapsModel", "layWords", "(II)V"⟩, prog_14_method_86_code, 11, none, 2, 2)
def mi_R_layTuple : ZI := (⟨"ThreeStrandMapsModel", "layTuple", "(III)V"⟩, prog_14_method_82_code, 6, none, 3, 0)
def mi_R_tupleNumber : ZI := (⟨"ThreeStrandMapsModel", "tupleNumber", "(II)I"⟩, prog_14_method_83_code, 5, some .int, 2, 0)
def mi_R_least : ZI := (⟨"ThreeStrandMapsModel", "least", "(III)I"⟩, prog_14_method_88_code, 5, some .int, 3, 3)
def mi_R_layCode : ZI := (⟨"ThreeStrandMapsModel", "layCode", "(II)V"⟩, prog_14_method_85_code, 4, none, 2, 1)
def mi_R_tupleCode : ZI := (⟨"ThreeStrandMapsModel", "tupleCode", "(I)I"⟩, prog_14_method_84_code, 4, some .int, 1, 0)
def mi_R_write : ZI := (⟨"ThreeStrandMapsModel", "write", "(II)I"⟩, prog_14_method_90_code, 3, some .int, 2, 2)
def mi_R_isBraid : ZI := (⟨"ThreeStrandMapsModel", "isBraid", "(I)Z"⟩, prog_14_method_89_code, 1, some .boolean, 1, 1)
def mi_R_erase : ZI := (⟨"ThreeStrandMapsModel", "erase", "(I)I"⟩, prog_14_method_91_code, 3, some .int, 1, 2)
def mi_R_through : ZI := (⟨"ThreeStrandMapsModel", "through", "(IIII)I"⟩, prog_14_method_95_code, 6, some .int, 4, 4)
def mi_R_refuses : ZI := (⟨"ThreeStrandMapsModel", "refuses", "(III)I"⟩, prog_14_method_94_code, 4, some .int, 3, 3)
def mi_R_doesFit : ZI := (⟨"ThreeStrandMapsModel", "doesFit", "(III)Z"⟩, prog_14_method_92_code, 9, some .boolean, 3, 2)
def mi_R_goesThrough : ZI := (⟨"ThreeStrandMapsModel", "goesThrough", "(II)V"⟩, prog_14_method_93_code, 5, none, 2, 2)
def mi_R_goesBack : ZI := (⟨"ThreeStrandMapsModel", "goesBack", "(II)V"⟩, prog_14_method_42_code, 7, none, 2, 1)
def mi_R_stays : ZI := (⟨"ThreeStrandMapsModel", "stays", "(III)I"⟩, prog_14_method_97_code, 7, some .int, 3, 4)
def mi_R_laySteps : ZI := (⟨"ThreeStrandMapsModel", "laySteps", "(III)V"⟩, prog_14_method_96_code, 6, none, 3, 3)
def mi_R_rounds : ZI := (⟨"ThreeStrandMapsModel", "rounds", "(III)I"⟩, prog_14_method_98_code, 9, some .int, 3, 4)
def mi_R_part : ZI := (⟨"ThreeStrandMapsModel", "part", "(II)I"⟩, prog_14_method_99_code, 6, some .int, 2, 4)
def mi_R_listed : ZI := (⟨"ThreeStrandMapsModel", "listed", "(I)I"⟩, prog_14_method_100_code, 2, some .int, 1, 6)
def mi_R_take : ZI := (⟨"ThreeStrandMapsModel", "take", "(III)I"⟩, prog_14_method_101_code, 4, some .int, 3, 6)
def mi_R_count : ZI := (⟨"ThreeStrandMapsModel", "count", "(I)I"⟩, prog_14_method_102_code, 4, some .int, 1, 0)
theorem ms_T_isPlace : zmS mi_T_isPlace := ⟨⟨zw_of 0 177 rfl rfl, zw_of 0 1 rfl rfl, by decide +kernel⟩, zw_of 0 176 rfl rfl⟩
theorem ms_T_isWithin : zmS mi_T_isWithin := ⟨⟨zw_of 0 180 rfl rfl, zw_of 0 1 rfl rfl, by decide +kernel⟩, zw_of 0 179 rfl rfl⟩
theorem mv_PM_becomeFlip : zmV mi_PM_becomeFlip := ⟨⟨zw_of 0 186 rfl rfl, zw_of 0 2 rfl rfl, by decide +kernel⟩, zw_of 0 184 rfl rfl, zw_of 0 185 rfl rfl⟩
theorem mv_PM_becomeTwist : zmV mi_PM_becomeTwist := ⟨⟨zw_of 0 191 rfl rfl, zw_of 0 2 rfl rfl, by decide +kernel⟩, zw_of 0 189 rfl rfl, zw_of 0 190 rfl rfl⟩
theorem ms_CO_digit : zmS mi_CO_digit := ⟨⟨zw_of 0 194 rfl rfl, zw_of 0 10 rfl rfl, by decide +kernel⟩, zw_of 0 193 rfl rfl⟩
theorem mv_PM_setImage : zmV mi_PM_setImage := ⟨⟨zw_of 0 198 rfl rfl, zw_of 0 2 rfl rfl, by decide +kernel⟩, zw_of 0 196 rfl rfl, zw_of 0 197 rfl rfl⟩
theorem ms_CO_pairOf : zmS mi_CO_pairOf := ⟨⟨zw_of 0 201 rfl rfl, zw_of 0 10 rfl rfl, by decide +kernel⟩, zw_of 0 200 rfl rfl⟩
theorem mv_T_keepMade : zmV mi_T_keepMade := ⟨⟨zw_of 0 205 rfl rfl, zw_of 0 1 rfl rfl, by decide +kernel⟩, zw_of 0 204 rfl rfl, zw_of 6 0 rfl rfl⟩
theorem mv_PM_copy : zmV mi_PM_copy := ⟨⟨zw_of 0 209 rfl rfl, zw_of 0 2 rfl rfl, by decide +kernel⟩, zw_of 0 207 rfl rfl, zw_of 0 208 rfl rfl⟩
theorem mv_PM_points : zmV mi_PM_points := ⟨⟨zw_of 0 213 rfl rfl, zw_of 0 2 rfl rfl, by decide +kernel⟩, zw_of 0 211 rfl rfl, zw_of 0 212 rfl rfl⟩
theorem ms_CO_isPermutation : zmS mi_CO_isPermutation := ⟨⟨zw_of 0 220 rfl rfl, zw_of 0 10 rfl rfl, by decide +kernel⟩, zw_of 0 219 rfl rfl⟩
theorem ms_CO_isCode : zmS mi_CO_isCode := ⟨⟨zw_of 0 224 rfl rfl, zw_of 0 10 rfl rfl, by decide +kernel⟩, zw_of 0 223 rfl rfl⟩
theorem ms_AL_isGroup : zmS mi_AL_isGroup := ⟨⟨zw_of 0 232 rfl rfl, zw_of 0 11 rfl rfl, by decide +kernel⟩, zw_of 0 231 rfl rfl⟩
theorem ms_AL_makeGroupMap : zmS mi_AL_makeGroupMap := ⟨⟨zw_of 0 235 rfl rfl, zw_of 0 11 rfl rfl, by decide +kernel⟩, zw_of 0 234 rfl rfl⟩
theorem mv_PM_resize : zmV mi_PM_resize := ⟨⟨zw_of 0 239 rfl rfl, zw_of 0 2 rfl rfl, by decide +kernel⟩, zw_of 0 237 rfl rfl, zw_of 0 238 rfl rfl⟩
theorem ms_AL_inverse : zmS mi_AL_inverse := ⟨⟨zw_of 1 2 rfl rfl, zw_of 0 11 rfl rfl, by decide +kernel⟩, zw_of 1 1 rfl rfl⟩
theorem ms_AL_product : zmS mi_AL_product := ⟨⟨zw_of 1 5 rfl rfl, zw_of 0 11 rfl rfl, by decide +kernel⟩, zw_of 1 4 rfl rfl⟩
theorem ms_AL_areUnits : zmS mi_AL_areUnits := ⟨⟨zw_of 1 13 rfl rfl, zw_of 0 11 rfl rfl, by decide +kernel⟩, zw_of 1 12 rfl rfl⟩
theorem ms_AL_isUnit : zmS mi_AL_isUnit := ⟨⟨zw_of 1 17 rfl rfl, zw_of 0 11 rfl rfl, by decide +kernel⟩, zw_of 1 16 rfl rfl⟩
theorem ms_AL_isBrace : zmS mi_AL_isBrace := ⟨⟨zw_of 1 21 rfl rfl, zw_of 0 11 rfl rfl, by decide +kernel⟩, zw_of 1 20 rfl rfl⟩
theorem ms_AL_rest : zmS mi_AL_rest := ⟨⟨zw_of 1 24 rfl rfl, zw_of 0 11 rfl rfl, by decide +kernel⟩, zw_of 1 23 rfl rfl⟩
theorem ms_AL_makeBraceMap : zmS mi_AL_makeBraceMap := ⟨⟨zw_of 1 28 rfl rfl, zw_of 0 11 rfl rfl, by decide +kernel⟩, zw_of 1 27 rfl rfl⟩
theorem ms_AL_quotient : zmS mi_AL_quotient := ⟨⟨zw_of 1 31 rfl rfl, zw_of 0 11 rfl rfl, by decide +kernel⟩, zw_of 1 30 rfl rfl⟩
theorem ms_AL_braceNumber : zmS mi_AL_braceNumber := ⟨⟨zw_of 1 38 rfl rfl, zw_of 0 11 rfl rfl, by decide +kernel⟩, zw_of 1 37 rfl rfl⟩
theorem ms_AL_allOnes : zmS mi_AL_allOnes := ⟨⟨zw_of 1 41 rfl rfl, zw_of 0 11 rfl rfl, by decide +kernel⟩, zw_of 1 40 rfl rfl⟩
theorem ms_AL_candidates : zmS mi_AL_candidates := ⟨⟨zw_of 1 44 rfl rfl, zw_of 0 11 rfl rfl, by decide +kernel⟩, zw_of 1 43 rfl rfl⟩
theorem ms_T_oneIf : zmS mi_T_oneIf := ⟨⟨zw_of 1 47 rfl rfl, zw_of 0 1 rfl rfl, by decide +kernel⟩, zw_of 1 46 rfl rfl⟩
theorem ms_CO_sequences : zmS mi_CO_sequences := ⟨⟨zw_of 1 50 rfl rfl, zw_of 0 10 rfl rfl, by decide +kernel⟩, zw_of 1 49 rfl rfl⟩
theorem ms_AL_nextUnits : zmS mi_AL_nextUnits := ⟨⟨zw_of 1 54 rfl rfl, zw_of 0 11 rfl rfl, by decide +kernel⟩, zw_of 1 53 rfl rfl⟩
theorem ms_AL_unitAfter : zmS mi_AL_unitAfter := ⟨⟨zw_of 1 57 rfl rfl, zw_of 0 11 rfl rfl, by decide +kernel⟩, zw_of 1 56 rfl rfl⟩
theorem ms_AL_braceAt : zmS mi_AL_braceAt := ⟨⟨zw_of 1 60 rfl rfl, zw_of 0 11 rfl rfl, by decide +kernel⟩, zw_of 1 59 rfl rfl⟩
theorem mv_T_mapAt : zmV mi_T_mapAt := ⟨⟨zw_of 1 68 rfl rfl, zw_of 0 1 rfl rfl, by decide +kernel⟩, zw_of 1 67 rfl rfl, zw_of 6 1 rfl rfl⟩
theorem mv_PM_hasPoint : zmV mi_PM_hasPoint := ⟨⟨zw_of 1 72 rfl rfl, zw_of 0 2 rfl rfl, by decide +kernel⟩, zw_of 1 70 rfl rfl, zw_of 1 71 rfl rfl⟩
theorem mv_PM_imageOf : zmV mi_PM_imageOf := ⟨⟨zw_of 1 77 rfl rfl, zw_of 0 2 rfl rfl, by decide +kernel⟩, zw_of 1 75 rfl rfl, zw_of 1 76 rfl rfl⟩
theorem ms_CO_turned : zmS mi_CO_turned := ⟨⟨zw_of 1 80 rfl rfl, zw_of 0 10 rfl rfl, by decide +kernel⟩, zw_of 1 79 rfl rfl⟩
theorem mv_PM_isEmpty : zmV mi_PM_isEmpty := ⟨⟨zw_of 1 89 rfl rfl, zw_of 0 2 rfl rfl, by decide +kernel⟩, zw_of 1 87 rfl rfl, zw_of 1 88 rfl rfl⟩
theorem mv_AC_find : zmV mi_AC_find := ⟨⟨zw_of 1 93 rfl rfl, zw_of 0 4 rfl rfl, by decide +kernel⟩, zw_of 1 91 rfl rfl, zw_of 1 92 rfl rfl⟩
theorem ms_AC_smallestTwin : zmS mi_AC_smallestTwin := ⟨⟨zw_of 1 97 rfl rfl, zw_of 0 4 rfl rfl, by decide +kernel⟩, zw_of 1 96 rfl rfl⟩
theorem ms_AC_areTwins : zmS mi_AC_areTwins := ⟨⟨zw_of 1 100 rfl rfl, zw_of 0 4 rfl rfl, by decide +kernel⟩, zw_of 1 99 rfl rfl⟩
theorem mv_PM_left : zmV mi_PM_left := ⟨⟨zw_of 1 104 rfl rfl, zw_of 0 2 rfl rfl, by decide +kernel⟩, zw_of 1 102 rfl rfl, zw_of 1 103 rfl rfl⟩
theorem mv_PM_right : zmV mi_PM_right := ⟨⟨zw_of 1 109 rfl rfl, zw_of 0 2 rfl rfl, by decide +kernel⟩, zw_of 1 107 rfl rfl, zw_of 1 108 rfl rfl⟩
theorem mv_AC_classOf : zmV mi_AC_classOf := ⟨⟨zw_of 1 113 rfl rfl, zw_of 0 4 rfl rfl, by decide +kernel⟩, zw_of 1 111 rfl rfl, zw_of 1 112 rfl rfl⟩
theorem mv_AC_makeRetraction : zmV mi_AC_makeRetraction := ⟨⟨zw_of 1 117 rfl rfl, zw_of 0 4 rfl rfl, by decide +kernel⟩, zw_of 1 115 rfl rfl, zw_of 1 116 rfl rfl⟩
theorem mv_AC_smallestOf : zmV mi_AC_smallestOf := ⟨⟨zw_of 1 122 rfl rfl, zw_of 0 4 rfl rfl, by decide +kernel⟩, zw_of 1 120 rfl rfl, zw_of 1 121 rfl rfl⟩
theorem mv_PM_becomeUnion : zmV mi_PM_becomeUnion := ⟨⟨zw_of 1 132 rfl rfl, zw_of 0 2 rfl rfl, by decide +kernel⟩, zw_of 1 130 rfl rfl, zw_of 1 131 rfl rfl⟩
theorem mv_PM_setShifted : zmV mi_PM_setShifted := ⟨⟨zw_of 1 137 rfl rfl, zw_of 0 2 rfl rfl, by decide +kernel⟩, zw_of 1 136 rfl rfl, zw_of 6 2 rfl rfl⟩
theorem mv_PM_becomeProduct : zmV mi_PM_becomeProduct := ⟨⟨zw_of 1 147 rfl rfl, zw_of 0 2 rfl rfl, by decide +kernel⟩, zw_of 1 145 rfl rfl, zw_of 1 146 rfl rfl⟩
theorem mv_PM_setBlock : zmV mi_PM_setBlock := ⟨⟨zw_of 1 151 rfl rfl, zw_of 0 2 rfl rfl, by decide +kernel⟩, zw_of 1 150 rfl rfl, zw_of 6 3 rfl rfl⟩
theorem ms_CH_isBijective : zmS mi_CH_isBijective := ⟨⟨zw_of 1 158 rfl rfl, zw_of 0 12 rfl rfl, by decide +kernel⟩, zw_of 1 157 rfl rfl⟩
theorem ms_JL_bitCount : zmS mi_JL_bitCount := ⟨⟨zw_of 1 164 rfl rfl, zw_of 0 13 rfl rfl, by decide +kernel⟩, zw_of 1 163 rfl rfl⟩
theorem mv_PM_becomeInverse : zmV mi_PM_becomeInverse := ⟨⟨zw_of 1 171 rfl rfl, zw_of 0 2 rfl rfl, by decide +kernel⟩, zw_of 1 169 rfl rfl, zw_of 1 170 rfl rfl⟩
theorem mv_PM_becomeMirror : zmV mi_PM_becomeMirror := ⟨⟨zw_of 1 179 rfl rfl, zw_of 0 2 rfl rfl, by decide +kernel⟩, zw_of 1 177 rfl rfl, zw_of 1 178 rfl rfl⟩
theorem mv_PM_becomeRenamed : zmV mi_PM_becomeRenamed := ⟨⟨zw_of 1 187 rfl rfl, zw_of 0 2 rfl rfl, by decide +kernel⟩, zw_of 1 185 rfl rfl, zw_of 1 186 rfl rfl⟩
theorem ms_CH_brokenTriples : zmS mi_CH_brokenTriples := ⟨⟨zw_of 1 205 rfl rfl, zw_of 0 12 rfl rfl, by decide +kernel⟩, zw_of 1 204 rfl rfl⟩
theorem ms_CH_isBroken : zmS mi_CH_isBroken := ⟨⟨zw_of 1 208 rfl rfl, zw_of 0 12 rfl rfl, by decide +kernel⟩, zw_of 1 207 rfl rfl⟩
theorem mv_PM_appliedAt : zmV mi_PM_appliedAt := ⟨⟨zw_of 1 212 rfl rfl, zw_of 0 2 rfl rfl, by decide +kernel⟩, zw_of 1 210 rfl rfl, zw_of 1 211 rfl rfl⟩
theorem ms_CO_next : zmS mi_CO_next := ⟨⟨zw_of 1 216 rfl rfl, zw_of 0 10 rfl rfl, by decide +kernel⟩, zw_of 1 215 rfl rfl⟩
theorem ms_CH_isInvolutive : zmS mi_CH_isInvolutive := ⟨⟨zw_of 1 220 rfl rfl, zw_of 0 12 rfl rfl, by decide +kernel⟩, zw_of 1 219 rfl rfl⟩
theorem ms_CH_isLeftNondegenerate : zmS mi_CH_isLeftNondegenerate := ⟨⟨zw_of 1 223 rfl rfl, zw_of 0 12 rfl rfl, by decide +kernel⟩, zw_of 1 222 rfl rfl⟩
theorem ms_CH_isRightNondegenerate : zmS mi_CH_isRightNondegenerate := ⟨⟨zw_of 1 227 rfl rfl, zw_of 0 12 rfl rfl, by decide +kernel⟩, zw_of 1 226 rfl rfl⟩
theorem ms_CH_isSquareFree : zmS mi_CH_isSquareFree := ⟨⟨zw_of 1 231 rfl rfl, zw_of 0 12 rfl rfl, by decide +kernel⟩, zw_of 1 230 rfl rfl⟩
theorem ms_CH_orbits : zmS mi_CH_orbits := ⟨⟨zw_of 1 234 rfl rfl, zw_of 0 12 rfl rfl, by decide +kernel⟩, zw_of 1 233 rfl rfl⟩
theorem ms_CH_orbitOf : zmS mi_CH_orbitOf := ⟨⟨zw_of 1 237 rfl rfl, zw_of 0 12 rfl rfl, by decide +kernel⟩, zw_of 1 236 rfl rfl⟩
theorem ms_CH_withLinked : zmS mi_CH_withLinked := ⟨⟨zw_of 2 0 rfl rfl, zw_of 0 12 rfl rfl, by decide +kernel⟩, zw_of 1 239 rfl rfl⟩
theorem ms_CH_joined : zmS mi_CH_joined := ⟨⟨zw_of 2 3 rfl rfl, zw_of 0 12 rfl rfl, by decide +kernel⟩, zw_of 2 2 rfl rfl⟩
theorem mv_AC_levelOf : zmV mi_AC_levelOf := ⟨⟨zw_of 2 7 rfl rfl, zw_of 0 4 rfl rfl, by decide +kernel⟩, zw_of 2 5 rfl rfl, zw_of 2 6 rfl rfl⟩
theorem mv_RG_orderFor : zmV mi_RG_orderFor := ⟨⟨zw_of 2 14 rfl rfl, zw_of 0 6 rfl rfl, by decide +kernel⟩, zw_of 2 12 rfl rfl, zw_of 2 13 rfl rfl⟩
theorem ms_JA_fill : zmS mi_JA_fill := ⟨⟨zw_of 2 18 rfl rfl, zw_of 0 14 rfl rfl, by decide +kernel⟩, zw_of 2 17 rfl rfl⟩
theorem mv_RG_add : zmV mi_RG_add := ⟨⟨zw_of 2 23 rfl rfl, zw_of 0 6 rfl rfl, by decide +kernel⟩, zw_of 2 22 rfl rfl, zw_of 6 4 rfl rfl⟩
theorem ms_RG_followedBy : zmS mi_RG_followedBy := ⟨⟨zw_of 2 27 rfl rfl, zw_of 0 6 rfl rfl, by decide +kernel⟩, zw_of 2 26 rfl rfl⟩
theorem mv_RN_isomorphisms : zmV mi_RN_isomorphisms := ⟨⟨zw_of 2 33 rfl rfl, zw_of 0 5 rfl rfl, by decide +kernel⟩, zw_of 2 31 rfl rfl, zw_of 2 32 rfl rfl⟩
theorem mv_RN_start : zmV mi_RN_start := ⟨⟨zw_of 2 38 rfl rfl, zw_of 0 5 rfl rfl, by decide +kernel⟩, zw_of 2 37 rfl rfl, zw_of 6 5 rfl rfl⟩
theorem ms_RN_permutations : zmS mi_RN_permutations := ⟨⟨zw_of 2 41 rfl rfl, zw_of 0 5 rfl rfl, by decide +kernel⟩, zw_of 2 40 rfl rfl⟩
theorem mv_RN_isIsomorphism : zmV mi_RN_isIsomorphism := ⟨⟨zw_of 2 45 rfl rfl, zw_of 0 5 rfl rfl, by decide +kernel⟩, zw_of 2 44 rfl rfl, zw_of 6 6 rfl rfl⟩
theorem mv_RN_imageOf : zmV mi_RN_imageOf := ⟨⟨zw_of 2 49 rfl rfl, zw_of 0 5 rfl rfl, by decide +kernel⟩, zw_of 2 48 rfl rfl, zw_of 6 7 rfl rfl⟩
theorem mv_RN_step : zmV mi_RN_step := ⟨⟨zw_of 2 56 rfl rfl, zw_of 0 5 rfl rfl, by decide +kernel⟩, zw_of 2 55 rfl rfl, zw_of 6 8 rfl rfl⟩
theorem mv_RN_swap : zmV mi_RN_swap := ⟨⟨zw_of 2 60 rfl rfl, zw_of 0 5 rfl rfl, by decide +kernel⟩, zw_of 2 59 rfl rfl, zw_of 6 9 rfl rfl⟩
theorem ms_CH_periodOf : zmS mi_CH_periodOf := ⟨⟨zw_of 2 63 rfl rfl, zw_of 0 12 rfl rfl, by decide +kernel⟩, zw_of 2 62 rfl rfl⟩
theorem ms_CH_cycleLength : zmS mi_CH_cycleLength := ⟨⟨zw_of 2 67 rfl rfl, zw_of 0 12 rfl rfl, by decide +kernel⟩, zw_of 2 66 rfl rfl⟩
theorem ms_CO_commonMultiple : zmS mi_CO_commonMultiple := ⟨⟨zw_of 2 70 rfl rfl, zw_of 0 10 rfl rfl, by decide +kernel⟩, zw_of 2 69 rfl rfl⟩
theorem ms_CH_closedSets : zmS mi_CH_closedSets := ⟨⟨zw_of 2 73 rfl rfl, zw_of 0 12 rfl rfl, by decide +kernel⟩, zw_of 2 72 rfl rfl⟩
theorem ms_CH_withImages : zmS mi_CH_withImages := ⟨⟨zw_of 2 76 rfl rfl, zw_of 0 12 rfl rfl, by decide +kernel⟩, zw_of 2 75 rfl rfl⟩
theorem ms_SL_indexOf : zmS mi_SL_indexOf := ⟨⟨zw_of 2 79 rfl rfl, zw_of 0 15 rfl rfl, by decide +kernel⟩, zw_of 2 78 rfl rfl⟩
theorem ms_SL_hasPoints : zmS mi_SL_hasPoints := ⟨⟨zw_of 2 83 rfl rfl, zw_of 0 15 rfl rfl, by decide +kernel⟩, zw_of 2 82 rfl rfl⟩
theorem mv_RN_smallestRows : zmV mi_RN_smallestRows := ⟨⟨zw_of 2 89 rfl rfl, zw_of 0 5 rfl rfl, by decide +kernel⟩, zw_of 2 87 rfl rfl, zw_of 2 88 rfl rfl⟩
theorem mv_RN_renamedRows : zmV mi_RN_renamedRows := ⟨⟨zw_of 2 94 rfl rfl, zw_of 0 5 rfl rfl, by decide +kernel⟩, zw_of 2 93 rfl rfl, zw_of 6 10 rfl rfl⟩
theorem ms_SL_shiftOf : zmS mi_SL_shiftOf := ⟨⟨zw_of 2 98 rfl rfl, zw_of 0 15 rfl rfl, by decide +kernel⟩, zw_of 2 97 rfl rfl⟩
theorem ms_SL_size : zmS mi_SL_size := ⟨⟨zw_of 2 104 rfl rfl, zw_of 0 15 rfl rfl, by decide +kernel⟩, zw_of 2 103 rfl rfl⟩
theorem ms_SL_start : zmS mi_SL_start := ⟨⟨zw_of 2 107 rfl rfl, zw_of 0 15 rfl rfl, by decide +kernel⟩, zw_of 2 106 rfl rfl⟩
theorem ms_SL_rowsAt : zmS mi_SL_rowsAt := ⟨⟨zw_of 2 110 rfl rfl, zw_of 0 15 rfl rfl, by decide +kernel⟩, zw_of 2 109 rfl rfl⟩
theorem ms_CH_brokenTripleAt : zmS mi_CH_brokenTripleAt := ⟨⟨zw_of 2 119 rfl rfl, zw_of 0 12 rfl rfl, by decide +kernel⟩, zw_of 2 118 rfl rfl⟩
theorem ms_CH_closureOf : zmS mi_CH_closureOf := ⟨⟨zw_of 2 131 rfl rfl, zw_of 0 12 rfl rfl, by decide +kernel⟩, zw_of 2 130 rfl rfl⟩
theorem mv_RN_isomorphismAt : zmV mi_RN_isomorphismAt := ⟨⟨zw_of 2 148 rfl rfl, zw_of 0 5 rfl rfl, by decide +kernel⟩, zw_of 2 146 rfl rfl, zw_of 2 147 rfl rfl⟩
theorem mv_RN_code : zmV mi_RN_code := ⟨⟨zw_of 2 152 rfl rfl, zw_of 0 5 rfl rfl, by decide +kernel⟩, zw_of 2 151 rfl rfl, zw_of 6 11 rfl rfl⟩
theorem mv_WC_find : zmV mi_WC_find := ⟨⟨zw_of 2 160 rfl rfl, zw_of 0 7 rfl rfl, by decide +kernel⟩, zw_of 2 158 rfl rfl, zw_of 2 159 rfl rfl⟩
theorem mv_WC_join : zmV mi_WC_join := ⟨⟨zw_of 2 167 rfl rfl, zw_of 0 7 rfl rfl, by decide +kernel⟩, zw_of 2 166 rfl rfl, zw_of 6 12 rfl rfl⟩
theorem mv_WC_smallest : zmV mi_WC_smallest := ⟨⟨zw_of 2 171 rfl rfl, zw_of 0 7 rfl rfl, by decide +kernel⟩, zw_of 2 169 rfl rfl, zw_of 2 170 rfl rfl⟩
theorem mv_WC_smallerOf : zmV mi_WC_smallerOf := ⟨⟨zw_of 2 175 rfl rfl, zw_of 0 7 rfl rfl, by decide +kernel⟩, zw_of 2 174 rfl rfl, zw_of 6 13 rfl rfl⟩
theorem mv_WC_number : zmV mi_WC_number := ⟨⟨zw_of 2 186 rfl rfl, zw_of 0 7 rfl rfl, by decide +kernel⟩, zw_of 2 184 rfl rfl, zw_of 2 185 rfl rfl⟩
theorem ms_T_isBraid : zmS mi_T_isBraid := ⟨⟨zw_of 2 199 rfl rfl, zw_of 0 1 rfl rfl, by decide +kernel⟩, zw_of 2 198 rfl rfl⟩
theorem ms_BR_isLetter : zmS mi_BR_isLetter := ⟨⟨zw_of 2 202 rfl rfl, zw_of 0 3 rfl rfl, by decide +kernel⟩, zw_of 2 201 rfl rfl⟩
theorem ms_BR_isCapital : zmS mi_BR_isCapital := ⟨⟨zw_of 2 205 rfl rfl, zw_of 0 3 rfl rfl, by decide +kernel⟩, zw_of 2 204 rfl rfl⟩
theorem mv_T_braidAt : zmV mi_T_braidAt := ⟨⟨zw_of 2 209 rfl rfl, zw_of 0 1 rfl rfl, by decide +kernel⟩, zw_of 2 208 rfl rfl, zw_of 6 14 rfl rfl⟩
theorem mv_BR_isFull : zmV mi_BR_isFull := ⟨⟨zw_of 2 213 rfl rfl, zw_of 0 3 rfl rfl, by decide +kernel⟩, zw_of 2 211 rfl rfl, zw_of 2 212 rfl rfl⟩
theorem mv_BR_append : zmV mi_BR_append := ⟨⟨zw_of 2 217 rfl rfl, zw_of 0 3 rfl rfl, by decide +kernel⟩, zw_of 2 215 rfl rfl, zw_of 2 216 rfl rfl⟩
theorem ms_BR_hasIndex : zmS mi_BR_hasIndex := ⟨⟨zw_of 2 220 rfl rfl, zw_of 0 3 rfl rfl, by decide +kernel⟩, zw_of 2 219 rfl rfl⟩
theorem mv_BR_length : zmV mi_BR_length := ⟨⟨zw_of 2 224 rfl rfl, zw_of 0 3 rfl rfl, by decide +kernel⟩, zw_of 2 222 rfl rfl, zw_of 2 223 rfl rfl⟩
theorem mv_BR_clear : zmV mi_BR_clear := ⟨⟨zw_of 2 232 rfl rfl, zw_of 0 3 rfl rfl, by decide +kernel⟩, zw_of 2 230 rfl rfl, zw_of 2 231 rfl rfl⟩
theorem ms_T_isTupleLength : zmS mi_T_isTupleLength := ⟨⟨zw_of 2 239 rfl rfl, zw_of 0 1 rfl rfl, by decide +kernel⟩, zw_of 2 238 rfl rfl⟩
theorem ms_BA_isFit : zmS mi_BA_isFit := ⟨⟨zw_of 3 2 rfl rfl, zw_of 0 8 rfl rfl, by decide +kernel⟩, zw_of 3 1 rfl rfl⟩
theorem mv_BR_strands : zmV mi_BR_strands := ⟨⟨zw_of 3 6 rfl rfl, zw_of 0 3 rfl rfl, by decide +kernel⟩, zw_of 3 4 rfl rfl, zw_of 3 5 rfl rfl⟩
theorem mv_BR_position : zmV mi_BR_position := ⟨⟨zw_of 3 10 rfl rfl, zw_of 0 3 rfl rfl, by decide +kernel⟩, zw_of 3 8 rfl rfl, zw_of 3 9 rfl rfl⟩
theorem mv_BR_hasCapital : zmV mi_BR_hasCapital := ⟨⟨zw_of 3 15 rfl rfl, zw_of 0 3 rfl rfl, by decide +kernel⟩, zw_of 3 13 rfl rfl, zw_of 3 14 rfl rfl⟩
theorem mv_BR_isCapitalAt : zmV mi_BR_isCapitalAt := ⟨⟨zw_of 3 19 rfl rfl, zw_of 0 3 rfl rfl, by decide +kernel⟩, zw_of 3 17 rfl rfl, zw_of 3 18 rfl rfl⟩
theorem mv_BA_prepare : zmV mi_BA_prepare := ⟨⟨zw_of 3 24 rfl rfl, zw_of 0 8 rfl rfl, by decide +kernel⟩, zw_of 3 22 rfl rfl, zw_of 3 23 rfl rfl⟩
theorem mv_BA_resultOf : zmV mi_BA_resultOf := ⟨⟨zw_of 3 30 rfl rfl, zw_of 0 8 rfl rfl, by decide +kernel⟩, zw_of 3 28 rfl rfl, zw_of 3 29 rfl rfl⟩
theorem mv_T_actionError : zmV mi_T_actionError := ⟨⟨zw_of 3 42 rfl rfl, zw_of 0 1 rfl rfl, by decide +kernel⟩, zw_of 3 41 rfl rfl, zw_of 6 15 rfl rfl⟩
theorem mv_BA_fixedTuples : zmV mi_BA_fixedTuples := ⟨⟨zw_of 3 46 rfl rfl, zw_of 0 8 rfl rfl, by decide +kernel⟩, zw_of 3 44 rfl rfl, zw_of 3 45 rfl rfl⟩
theorem mv_BA_tuples : zmV mi_BA_tuples := ⟨⟨zw_of 3 50 rfl rfl, zw_of 0 8 rfl rfl, by decide +kernel⟩, zw_of 3 49 rfl rfl, zw_of 6 16 rfl rfl⟩
theorem mv_BA_periodOf : zmV mi_BA_periodOf := ⟨⟨zw_of 3 63 rfl rfl, zw_of 0 8 rfl rfl, by decide +kernel⟩, zw_of 3 61 rfl rfl, zw_of 3 62 rfl rfl⟩
theorem mv_BA_isSeen : zmV mi_BA_isSeen := ⟨⟨zw_of 3 68 rfl rfl, zw_of 0 8 rfl rfl, by decide +kernel⟩, zw_of 3 67 rfl rfl, zw_of 6 17 rfl rfl⟩
theorem mv_BA_cycleLength : zmV mi_BA_cycleLength := ⟨⟨zw_of 3 72 rfl rfl, zw_of 0 8 rfl rfl, by decide +kernel⟩, zw_of 3 71 rfl rfl, zw_of 6 18 rfl rfl⟩
theorem mv_BA_see : zmV mi_BA_see := ⟨⟨zw_of 3 76 rfl rfl, zw_of 0 8 rfl rfl, by decide +kernel⟩, zw_of 3 75 rfl rfl, zw_of 6 19 rfl rfl⟩
theorem mv_BA_firstDifference : zmV mi_BA_firstDifference := ⟨⟨zw_of 3 85 rfl rfl, zw_of 0 8 rfl rfl, by decide +kernel⟩, zw_of 3 83 rfl rfl, zw_of 3 84 rfl rfl⟩
theorem ms_SL_makeMap : zmS mi_SL_makeMap := ⟨⟨zw_of 3 98 rfl rfl, zw_of 0 15 rfl rfl, by decide +kernel⟩, zw_of 3 97 rfl rfl⟩
theorem ms_SL_pointAt : zmS mi_SL_pointAt := ⟨⟨zw_of 3 102 rfl rfl, zw_of 0 15 rfl rfl, by decide +kernel⟩, zw_of 3 101 rfl rfl⟩
theorem ms_SL_columnOf : zmS mi_SL_columnOf := ⟨⟨zw_of 3 106 rfl rfl, zw_of 0 15 rfl rfl, by decide +kernel⟩, zw_of 3 105 rfl rfl⟩
theorem mv_T_mapsHeld : zmV mi_T_mapsHeld := ⟨⟨zw_of 3 115 rfl rfl, zw_of 0 1 rfl rfl, by decide +kernel⟩, zw_of 3 114 rfl rfl, zw_of 6 20 rfl rfl⟩
theorem mv_T_pointsHeld : zmV mi_T_pointsHeld := ⟨⟨zw_of 3 119 rfl rfl, zw_of 0 1 rfl rfl, by decide +kernel⟩, zw_of 3 118 rfl rfl, zw_of 6 21 rfl rfl⟩
theorem ms_R_isPlace : zmS mi_R_isPlace := ⟨⟨zw_of 3 187 rfl rfl, zw_of 0 9 rfl rfl, by decide +kernel⟩, zw_of 3 186 rfl rfl⟩
theorem ms_R_in : zmS mi_R_in := ⟨⟨zw_of 3 191 rfl rfl, zw_of 0 9 rfl rfl, by decide +kernel⟩, zw_of 3 190 rfl rfl⟩
theorem mv_R_lay : zmV mi_R_lay := ⟨⟨zw_of 3 198 rfl rfl, zw_of 0 9 rfl rfl, by decide +kernel⟩, zw_of 3 197 rfl rfl, zw_of 6 22 rfl rfl⟩
theorem mv_R_comes : zmV mi_R_comes := ⟨⟨zw_of 3 202 rfl rfl, zw_of 0 9 rfl rfl, by decide +kernel⟩, zw_of 3 201 rfl rfl, zw_of 6 23 rfl rfl⟩
theorem mv_R_copies : zmV mi_R_copies := ⟨⟨zw_of 3 206 rfl rfl, zw_of 0 9 rfl rfl, by decide +kernel⟩, zw_of 3 205 rfl rfl, zw_of 6 24 rfl rfl⟩
theorem ms_R_isPermutation : zmS mi_R_isPermutation := ⟨⟨zw_of 3 213 rfl rfl, zw_of 0 9 rfl rfl, by decide +kernel⟩, zw_of 3 212 rfl rfl⟩
theorem ms_R_digit : zmS mi_R_digit := ⟨⟨zw_of 3 216 rfl rfl, zw_of 0 9 rfl rfl, by decide +kernel⟩, zw_of 3 215 rfl rfl⟩
theorem ms_R_arePoints : zmS mi_R_arePoints := ⟨⟨zw_of 3 219 rfl rfl, zw_of 0 9 rfl rfl, by decide +kernel⟩, zw_of 3 218 rfl rfl⟩
theorem ms_R_isCode : zmS mi_R_isCode := ⟨⟨zw_of 3 222 rfl rfl, zw_of 0 9 rfl rfl, by decide +kernel⟩, zw_of 3 221 rfl rfl⟩
theorem ms_R_times : zmS mi_R_times := ⟨⟨zw_of 3 230 rfl rfl, zw_of 0 9 rfl rfl, by decide +kernel⟩, zw_of 3 229 rfl rfl⟩
theorem ms_R_backFrom : zmS mi_R_backFrom := ⟨⟨zw_of 3 233 rfl rfl, zw_of 0 9 rfl rfl, by decide +kernel⟩, zw_of 3 232 rfl rfl⟩
theorem ms_R_areUnits : zmS mi_R_areUnits := ⟨⟨zw_of 4 0 rfl rfl, zw_of 0 9 rfl rfl, by decide +kernel⟩, zw_of 3 239 rfl rfl⟩
theorem ms_R_isUnit : zmS mi_R_isUnit := ⟨⟨zw_of 4 3 rfl rfl, zw_of 0 9 rfl rfl, by decide +kernel⟩, zw_of 4 2 rfl rfl⟩
theorem ms_R_isBrace : zmS mi_R_isBrace := ⟨⟨zw_of 4 6 rfl rfl, zw_of 0 9 rfl rfl, by decide +kernel⟩, zw_of 4 5 rfl rfl⟩
theorem mv_R_isMap : zmV mi_R_isMap := ⟨⟨zw_of 4 19 rfl rfl, zw_of 0 9 rfl rfl, by decide +kernel⟩, zw_of 4 18 rfl rfl, zw_of 6 25 rfl rfl⟩
theorem mv_R_isPoint : zmV mi_R_isPoint := ⟨⟨zw_of 4 23 rfl rfl, zw_of 0 9 rfl rfl, by decide +kernel⟩, zw_of 4 22 rfl rfl, zw_of 6 26 rfl rfl⟩
theorem mv_R_l : zmV mi_R_l := ⟨⟨zw_of 4 27 rfl rfl, zw_of 0 9 rfl rfl, by decide +kernel⟩, zw_of 4 26 rfl rfl, zw_of 6 27 rfl rfl⟩
theorem mv_R_r : zmV mi_R_r := ⟨⟨zw_of 4 31 rfl rfl, zw_of 0 9 rfl rfl, by decide +kernel⟩, zw_of 4 30 rfl rfl, zw_of 6 28 rfl rfl⟩
theorem mv_R_makeRetract : zmV mi_R_makeRetract := ⟨⟨zw_of 4 39 rfl rfl, zw_of 0 9 rfl rfl, by decide +kernel⟩, zw_of 4 38 rfl rfl, zw_of 6 29 rfl rfl⟩
theorem mv_R_layClasses : zmV mi_R_layClasses := ⟨⟨zw_of 4 43 rfl rfl, zw_of 0 9 rfl rfl, by decide +kernel⟩, zw_of 4 42 rfl rfl, zw_of 6 30 rfl rfl⟩
theorem mv_R_areAlike : zmV mi_R_areAlike := ⟨⟨zw_of 4 47 rfl rfl, zw_of 0 9 rfl rfl, by decide +kernel⟩, zw_of 4 46 rfl rfl, zw_of 6 31 rfl rfl⟩
theorem mv_R_isBijective : zmV mi_R_isBijective := ⟨⟨zw_of 4 64 rfl rfl, zw_of 0 9 rfl rfl, by decide +kernel⟩, zw_of 4 63 rfl rfl, zw_of 6 32 rfl rfl⟩
theorem mv_R_manyFail : zmV mi_R_manyFail := ⟨⟨zw_of 4 88 rfl rfl, zw_of 0 9 rfl rfl, by decide +kernel⟩, zw_of 4 87 rfl rfl, zw_of 6 33 rfl rfl⟩
theorem mv_R_failsAt : zmV mi_R_failsAt := ⟨⟨zw_of 4 92 rfl rfl, zw_of 0 9 rfl rfl, by decide +kernel⟩, zw_of 4 91 rfl rfl, zw_of 6 34 rfl rfl⟩
theorem mv_R_threeBy : zmV mi_R_threeBy := ⟨⟨zw_of 4 96 rfl rfl, zw_of 0 9 rfl rfl, by decide +kernel⟩, zw_of 4 95 rfl rfl, zw_of 6 35 rfl rfl⟩
theorem mv_R_crosses : zmV mi_R_crosses := ⟨⟨zw_of 4 100 rfl rfl, zw_of 0 9 rfl rfl, by decide +kernel⟩, zw_of 4 99 rfl rfl, zw_of 6 36 rfl rfl⟩
theorem ms_R_asNumber : zmS mi_R_asNumber := ⟨⟨zw_of 4 103 rfl rfl, zw_of 0 9 rfl rfl, by decide +kernel⟩, zw_of 4 102 rfl rfl⟩
theorem mv_R_comesBack : zmV mi_R_comesBack := ⟨⟨zw_of 4 107 rfl rfl, zw_of 0 9 rfl rfl, by decide +kernel⟩, zw_of 4 106 rfl rfl, zw_of 6 37 rfl rfl⟩
theorem mv_R_isPlain : zmV mi_R_isPlain := ⟨⟨zw_of 4 111 rfl rfl, zw_of 0 9 rfl rfl, by decide +kernel⟩, zw_of 4 110 rfl rfl, zw_of 6 38 rfl rfl⟩
theorem mv_R_doSquaresStay : zmV mi_R_doSquaresStay := ⟨⟨zw_of 4 115 rfl rfl, zw_of 0 9 rfl rfl, by decide +kernel⟩, zw_of 4 114 rfl rfl, zw_of 6 39 rfl rfl⟩
theorem mv_R_wholeLater : zmV mi_R_wholeLater := ⟨⟨zw_of 4 119 rfl rfl, zw_of 0 9 rfl rfl, by decide +kernel⟩, zw_of 4 118 rfl rfl, zw_of 6 40 rfl rfl⟩
theorem mv_R_manyOrbits : zmV mi_R_manyOrbits := ⟨⟨zw_of 4 123 rfl rfl, zw_of 0 9 rfl rfl, by decide +kernel⟩, zw_of 4 122 rfl rfl, zw_of 6 41 rfl rfl⟩
theorem mv_R_orbitOf : zmV mi_R_orbitOf := ⟨⟨zw_of 4 127 rfl rfl, zw_of 0 9 rfl rfl, by decide +kernel⟩, zw_of 4 126 rfl rfl, zw_of 6 42 rfl rfl⟩
theorem mv_R_level : zmV mi_R_level := ⟨⟨zw_of 4 131 rfl rfl, zw_of 0 9 rfl rfl, by decide +kernel⟩, zw_of 4 130 rfl rfl, zw_of 6 43 rfl rfl⟩
theorem mv_R_groupSize : zmV mi_R_groupSize := ⟨⟨zw_of 4 135 rfl rfl, zw_of 0 9 rfl rfl, by decide +kernel⟩, zw_of 4 134 rfl rfl, zw_of 6 44 rfl rfl⟩
theorem mv_R_firstName : zmV mi_R_firstName := ⟨⟨zw_of 4 139 rfl rfl, zw_of 0 9 rfl rfl, by decide +kernel⟩, zw_of 4 138 rfl rfl, zw_of 6 45 rfl rfl⟩
theorem mv_R_nameCode : zmV mi_R_nameCode := ⟨⟨zw_of 4 143 rfl rfl, zw_of 0 9 rfl rfl, by decide +kernel⟩, zw_of 4 142 rfl rfl, zw_of 6 46 rfl rfl⟩
theorem ms_R_numberOf : zmS mi_R_numberOf := ⟨⟨zw_of 4 146 rfl rfl, zw_of 0 9 rfl rfl, by decide +kernel⟩, zw_of 4 145 rfl rfl⟩
theorem mv_R_behind : zmV mi_R_behind := ⟨⟨zw_of 4 150 rfl rfl, zw_of 0 9 rfl rfl, by decide +kernel⟩, zw_of 4 149 rfl rfl, zw_of 6 47 rfl rfl⟩
theorem mv_R_likenesses : zmV mi_R_likenesses := ⟨⟨zw_of 4 154 rfl rfl, zw_of 0 9 rfl rfl, by decide +kernel⟩, zw_of 4 153 rfl rfl, zw_of 6 48 rfl rfl⟩
theorem mv_R_isLike : zmV mi_R_isLike := ⟨⟨zw_of 4 158 rfl rfl, zw_of 0 9 rfl rfl, by decide +kernel⟩, zw_of 4 157 rfl rfl, zw_of 6 49 rfl rfl⟩
theorem mv_R_nextName : zmV mi_R_nextName := ⟨⟨zw_of 4 162 rfl rfl, zw_of 0 9 rfl rfl, by decide +kernel⟩, zw_of 4 161 rfl rfl, zw_of 6 50 rfl rfl⟩
theorem mv_R_order : zmV mi_R_order := ⟨⟨zw_of 4 166 rfl rfl, zw_of 0 9 rfl rfl, by decide +kernel⟩, zw_of 4 165 rfl rfl, zw_of 6 51 rfl rfl⟩
theorem ms_R_commonOf : zmS mi_R_commonOf := ⟨⟨zw_of 4 169 rfl rfl, zw_of 0 9 rfl rfl, by decide +kernel⟩, zw_of 4 168 rfl rfl⟩
theorem mv_R_manyClosed : zmV mi_R_manyClosed := ⟨⟨zw_of 4 173 rfl rfl, zw_of 0 9 rfl rfl, by decide +kernel⟩, zw_of 4 172 rfl rfl, zw_of 6 52 rfl rfl⟩
theorem mv_R_isClosed : zmV mi_R_isClosed := ⟨⟨zw_of 4 177 rfl rfl, zw_of 0 9 rfl rfl, by decide +kernel⟩, zw_of 4 176 rfl rfl, zw_of 6 53 rfl rfl⟩
theorem mv_R_listedAs : zmV mi_R_listedAs := ⟨⟨zw_of 4 181 rfl rfl, zw_of 0 9 rfl rfl, by decide +kernel⟩, zw_of 4 180 rfl rfl, zw_of 6 54 rfl rfl⟩
theorem mv_R_layList : zmV mi_R_layList := ⟨⟨zw_of 4 185 rfl rfl, zw_of 0 9 rfl rfl, by decide +kernel⟩, zw_of 4 184 rfl rfl, zw_of 6 55 rfl rfl⟩
theorem mv_R_layRows : zmV mi_R_layRows := ⟨⟨zw_of 4 189 rfl rfl, zw_of 0 9 rfl rfl, by decide +kernel⟩, zw_of 4 188 rfl rfl, zw_of 6 56 rfl rfl⟩
theorem ms_R_rowsTo : zmS mi_R_rowsTo := ⟨⟨zw_of 4 192 rfl rfl, zw_of 0 9 rfl rfl, by decide +kernel⟩, zw_of 4 191 rfl rfl⟩
theorem mv_R_layNumber : zmV mi_R_layNumber := ⟨⟨zw_of 4 196 rfl rfl, zw_of 0 9 rfl rfl, by decide +kernel⟩, zw_of 4 195 rfl rfl, zw_of 6 57 rfl rfl⟩
theorem mv_R_firstBad : zmV mi_R_firstBad := ⟨⟨zw_of 4 200 rfl rfl, zw_of 0 9 rfl rfl, by decide +kernel⟩, zw_of 4 199 rfl rfl, zw_of 6 58 rfl rfl⟩
theorem mv_R_failsWithin : zmV mi_R_failsWithin := ⟨⟨zw_of 4 204 rfl rfl, zw_of 0 9 rfl rfl, by decide +kernel⟩, zw_of 4 203 rfl rfl, zw_of 6 59 rfl rfl⟩
theorem mv_R_layRight : zmV mi_R_layRight := ⟨⟨zw_of 4 208 rfl rfl, zw_of 0 9 rfl rfl, by decide +kernel⟩, zw_of 4 207 rfl rfl, zw_of 6 60 rfl rfl⟩
theorem mv_R_comesBackHere : zmV mi_R_comesBackHere := ⟨⟨zw_of 4 212 rfl rfl, zw_of 0 9 rfl rfl, by decide +kernel⟩, zw_of 4 211 rfl rfl, zw_of 6 61 rfl rfl⟩
theorem mv_R_isFirst : zmV mi_R_isFirst := ⟨⟨zw_of 4 216 rfl rfl, zw_of 0 9 rfl rfl, by decide +kernel⟩, zw_of 4 215 rfl rfl, zw_of 6 62 rfl rfl⟩
theorem mv_R_namedAs : zmV mi_R_namedAs := ⟨⟨zw_of 4 220 rfl rfl, zw_of 0 9 rfl rfl, by decide +kernel⟩, zw_of 4 219 rfl rfl, zw_of 6 63 rfl rfl⟩
theorem mv_R_layListed : zmV mi_R_layListed := ⟨⟨zw_of 4 224 rfl rfl, zw_of 0 9 rfl rfl, by decide +kernel⟩, zw_of 4 223 rfl rfl, zw_of 6 64 rfl rfl⟩
theorem mv_R_layWords : zmV mi_R_layWords := ⟨⟨zw_of 5 18 rfl rfl, zw_of 0 9 rfl rfl, by decide +kernel⟩, zw_of 5 17 rfl rfl, zw_of 6 65 rfl rfl⟩
theorem mv_R_layTuple : zmV mi_R_layTuple := ⟨⟨zw_of 5 22 rfl rfl, zw_of 0 9 rfl rfl, by decide +kernel⟩, zw_of 5 21 rfl rfl, zw_of 6 66 rfl rfl⟩
theorem mv_R_tupleNumber : zmV mi_R_tupleNumber := ⟨⟨zw_of 5 26 rfl rfl, zw_of 0 9 rfl rfl, by decide +kernel⟩, zw_of 5 25 rfl rfl, zw_of 6 67 rfl rfl⟩
theorem mv_R_layCode : zmV mi_R_layCode := ⟨⟨zw_of 5 34 rfl rfl, zw_of 0 9 rfl rfl, by decide +kernel⟩, zw_of 5 33 rfl rfl, zw_of 6 68 rfl rfl⟩
theorem mv_R_tupleCode : zmV mi_R_tupleCode := ⟨⟨zw_of 5 38 rfl rfl, zw_of 0 9 rfl rfl, by decide +kernel⟩, zw_of 5 37 rfl rfl, zw_of 6 69 rfl rfl⟩
theorem ms_R_isBraid : zmS mi_R_isBraid := ⟨⟨zw_of 5 45 rfl rfl, zw_of 0 9 rfl rfl, by decide +kernel⟩, zw_of 5 44 rfl rfl⟩
theorem mv_R_refuses : zmV mi_R_refuses := ⟨⟨zw_of 5 61 rfl rfl, zw_of 0 9 rfl rfl, by decide +kernel⟩, zw_of 5 60 rfl rfl, zw_of 6 70 rfl rfl⟩
theorem mv_R_doesFit : zmV mi_R_doesFit := ⟨⟨zw_of 5 65 rfl rfl, zw_of 0 9 rfl rfl, by decide +kernel⟩, zw_of 5 64 rfl rfl, zw_of 6 71 rfl rfl⟩
theorem mv_R_goesThrough : zmV mi_R_goesThrough := ⟨⟨zw_of 5 69 rfl rfl, zw_of 0 9 rfl rfl, by decide +kernel⟩, zw_of 5 68 rfl rfl, zw_of 6 72 rfl rfl⟩
theorem mv_R_goesBack : zmV mi_R_goesBack := ⟨⟨zw_of 5 73 rfl rfl, zw_of 0 9 rfl rfl, by decide +kernel⟩, zw_of 5 72 rfl rfl, zw_of 6 73 rfl rfl⟩
theorem mv_R_laySteps : zmV mi_R_laySteps := ⟨⟨zw_of 5 81 rfl rfl, zw_of 0 9 rfl rfl, by decide +kernel⟩, zw_of 5 80 rfl rfl, zw_of 6 74 rfl rfl⟩
def cd_AC_classOf : List ZE := [(0, .aload_n 0, ([0], 0, 0, []), zi0), (1, .getfield 11, ([3, 0, 0, 66], 0, 0, []), zi0), (4, .iload_n 1, ([1], 0, 0, []), zi0), (5, .bipush 7, ([], nI 7, 0, []), zi0), (7, .iand, ([], 0, 0, []), zi0), (8, .iaload, ([], 0, 0, []), zi0), (9, .ireturn, ([], 0, 0, []), zi0)]
def cu_AC_classOf : List (Nat × List Nat) := []
set_option maxRecDepth 100000 in
theorem oc_AC_classOf : cd_AC_classOf.all (zchk mi_AC_classOf) = true := by decide +kernel
set_option maxRecDepth 100000 in
theorem ow_AC_classOf : zWs mi_AC_classOf cd_AC_classOf := ⟨trivial, rfl, trivial, trivial, trivial, trivial, trivial, trivial⟩
theorem ok_AC_classOf : zgood2 mi_AC_classOf cd_AC_classOf := ⟨oc_AC_classOf, ow_AC_classOf⟩
def cd_AC_smallestOf : List ZE := [(0, .aload_n 0, ([0], 0, 0, []), zi0), (1, .getfield 15, ([3, 1, 0, 67], 0, 0, []), zi0), (4, .iload_n 1, ([1], 0, 0, []), zi0), (5, .bipush 7, ([], nI 7, 0, []), zi0), (7, .iand, ([], 0, 0, []), zi0), (8, .iaload, ([], 0, 0, []), zi0), (9, .ireturn, ([], 0, 0, []), zi0)]
def cu_AC_smallestOf : List (Nat × List Nat) := []
set_option maxRecDepth 100000 in
theorem oc_AC_smallestOf : cd_AC_smallestOf.all (zchk mi_AC_smallestOf) = true := by decide +kernel
set_option maxRecDepth 100000 in
theorem ow_AC_smallestOf : zWs mi_AC_smallestOf cd_AC_smallestOf := ⟨trivial, rfl, trivial, trivial, trivial, trivial, trivial, trivial⟩
theorem ok_AC_smallestOf : zgood2 mi_AC_smallestOf cd_AC_smallestOf := ⟨oc_AC_smallestOf, ow_AC_smallestOf⟩
def cd_AL_allOnes : List ZE := [(0, .iconst 0, ([], nI 0, 0, []), zi0), (1, .istore_n 1, ([1], 0, 0, []), zi0), (2, .iconst 0, ([], nI 0, 0, []), zi0), (3, .istore_n 2, ([2], 0, 0, []), zi0), (4, .iload_n 2, ([2], 0, 0, []), zi0), (5, .iload_n 0, ([0], 0, 0, []), zi0), (6, .if_icmp .ge 17, ([23], 0, 0, []), zi0), (9, .iload_n 1, ([1], 0, 0, []), zi0), (10, .iconst 1, ([], nI 1, 0, []), zi0), (11, .iconst 3, ([], nI 3, 0, []), zi0), (12, .iload_n 2, ([2], 0, 0, []), zi0), (13, .imul, ([], 0, 0, []), zi0), (14, .ishl, ([], 0, 0, []), zi0), (15, .ior, ([], 0, 0, []), zi0), (16, .istore_n 1, ([1], 0, 0, []), zi0), (17, .iinc 2 1, ([], nI 1, 0, []), zi0), (20, .goto (-16), ([4], 0, 0, []), zi0), (23, .iload_n 1, ([1], 0, 0, []), zi0), (24, .ireturn, ([], 0, 0, []), zi0)]
def cu_AL_allOnes : List (Nat × List Nat) := [(4, [0, 1, 2])]
set_option maxRecDepth 100000 in
theorem oc_AL_allOnes : cd_AL_allOnes.all (zchk mi_AL_allOnes) = true := by decide +kernel
set_option maxRecDepth 100000 in
theorem ow_AL_allOnes : zWs mi_AL_allOnes cd_AL_allOnes := ⟨trivial, trivial, trivial, trivial, trivial, trivial, trivial, trivial, trivial, trivial, trivial, trivial, trivial, trivial, trivial, trivial, trivial, trivial, trivial, trivial⟩
theorem ok_AL_allOnes : zgood2 mi_AL_allOnes cd_AL_allOnes := ⟨oc_AL_allOnes, ow_AL_allOnes⟩
def cd_AL_isGroup : List ZE := [(0, .iload_n 0, ([0], 0, 0, []), zi0), (1, .tableswitch 67 0 2 #[27, 44, 55], ([68, 27], 0, 0, [(nI 0, 28), (nI 1, 45), (nI 2, 56)]), zi0), (28, .iload_n 1, ([1], 0, 0, []), zi0), (29, .iconst 1, ([], nI 1, 0, []), zi0), (30, .if_icmp .lt 13, ([43], 0, 0, []), zi0), (33, .iload_n 1, ([1], 0, 0, []), zi0), (34, .bipush 6, ([], nI 6, 0, []), zi0), (36, .if_icmp .gt 7, ([43], 0, 0, []), zi0), (39, .iconst 1, ([], nI 1, 0, []), zi0), (40, .goto 4, ([44], 0, 0, []), zi0), (43, .iconst 0, ([], nI 0, 0, []), zi0), (44, .ireturn, ([], 0, 0, []), zi0), (45, .iload_n 1, ([1], 0, 0, []), zi0), (46, .iconst 4, ([], nI 4, 0, []), zi0), (47, .if_icmp .ne 7, ([54], 0, 0, []), zi0), (50, .iconst 1, ([], nI 1, 0, []), zi0), (51, .goto 4, ([55], 0, 0, []), zi0), (54, .iconst 0, ([], nI 0, 0, []), zi0), (55, .ireturn, ([], 0, 0, []), zi0), (56, .iload_n 1, ([1], 0, 0, []), zi0), (57, .bipush 6, ([], nI 6, 0, []), zi0), (59, .if_icmp .ne 7, ([66], 0, 0, []), zi0), (62, .iconst 1, ([], nI 1, 0, []), zi0), (63, .goto 4, ([67], 0, 0, []), zi0), (66, .iconst 0, ([], nI 0, 0, []), zi0), (67, .ireturn, ([], 0, 0, []), zi0), (68, .iconst 0, ([], nI 0, 0, []), zi0), (69, .ireturn, ([], 0, 0, []), zi0)]
def cu_AL_isGroup : List (Nat × List Nat) := []
set_option maxRecDepth 100000 in
theorem oc_AL_isGroup : cd_AL_isGroup.all (zchk mi_AL_isGroup) = true := by decide +kernel
set_option maxRecDepth 100000 in
theorem ow_AL_isGroup : zWs mi_AL_isGroup cd_AL_isGroup := ⟨trivial, trivial, trivial, trivial, trivial, trivial, trivial, trivial, trivial, trivial, trivial, trivial, trivial, trivial, trivial, trivial, trivial, trivial, trivial, trivial, trivial, trivial, trivial, trivial, trivial, trivial, trivial, trivial, trivial⟩
theorem ok_AL_isGroup : zgood2 mi_AL_isGroup cd_AL_isGroup := ⟨oc_AL_isGroup, ow_AL_isGroup⟩
def cd_AL_isUnit : List ZE := [(0, .iconst 2, ([], nI 2, 0, []), zi0), (1, .istore_n 2, ([2], 0, 0, []), zi0), (2, .iload_n 2, ([2], 0, 0, []), zi0), (3, .iload_n 0, ([0], 0, 0, []), zi0), (4, .if_icmp .ge 23, ([27], 0, 0, []), zi0), (7, .iload_n 0, ([0], 0, 0, []), zi0), (8, .iload_n 2, ([2], 0, 0, []), zi0), (9, .irem, ([], 0, 0, []), zi0), (10, .ifCond .ne 11, ([21], 0, 0, []), zi0), (13, .iload_n 1, ([1], 0, 0, []), zi0), (14, .iload_n 2, ([2], 0, 0, []), zi0), (15, .irem, ([], 0, 0, []), zi0), (16, .ifCond .ne 5, ([21], 0, 0, []), zi0), (19, .iconst 0, ([], nI 0, 0, []), zi0), (20, .ireturn, ([], 0, 0, []), zi0), (21, .iinc 2 1, ([], nI 1, 0, []), zi0), (24, .goto (-22), ([2], 0, 0, []), zi0), (27, .iload_n 1, ([1], 0, 0, []), zi0), (28, .ifCond .le 12, ([40], 0, 0, []), zi0), (31, .iload_n 1, ([1], 0, 0, []), zi0), (32, .iload_n 0, ([0], 0, 0, []), zi0), (33, .if_icmp .ge 7, ([40], 0, 0, []), zi0), (36, .iconst 1, ([], nI 1, 0, []), zi0), (37, .goto 4, ([41], 0, 0, []), zi0), (40, .iconst 0, ([], nI 0, 0, []), zi0), (41, .ireturn, ([], 0, 0, []), zi0)]
def cu_AL_isUnit : List (Nat × List Nat) := [(2, [0, 1, 2])]
set_option maxRecDepth 100000 in
theorem oc_AL_isUnit : cd_AL_isUnit.all (zchk mi_AL_isUnit) = true := by decide +kernel
set_option maxRecDepth 100000 in
theorem ow_AL_isUnit : zWs mi_AL_isUnit cd_AL_isUnit := ⟨trivial, trivial, trivial, trivial, trivial, trivial, trivial, trivial, trivial, trivial, trivial, trivial, trivial, trivial, trivial, trivial, trivial, trivial, trivial, trivial, trivial, trivial, trivial, trivial, trivial, trivial, trivial⟩
theorem ok_AL_isUnit : zgood2 mi_AL_isUnit cd_AL_isUnit := ⟨oc_AL_isUnit, ow_AL_isUnit⟩
def cd_AL_product : List ZE := [(0, .iload_n 0, ([0], 0, 0, []), zi0), (1, .ifCond .ne 22, ([23], 0, 0, []), zi0), (4, .iload_n 2, ([2], 0, 0, []), zi0), (5, .iload_n 3, ([3], 0, 0, []), zi0), (6, .iadd, ([], 0, 0, []), zi0), (7, .iload_n 1, ([1], 0, 0, []), zi0), (8, .if_icmp .ge 9, ([17], 0, 0, []), zi0), (11, .iload_n 2, ([2], 0, 0, []), zi0), (12, .iload_n 3, ([3], 0, 0, []), zi0), (13, .iadd, ([], 0, 0, []), zi0), (14, .goto 8, ([22], 0, 0, []), zi0), (17, .iload_n 2, ([2], 0, 0, []), zi0), (18, .iload_n 3, ([3], 0, 0, []), zi0), (19, .iadd, ([], 0, 0, []), zi0), (20, .iload_n 1, ([1], 0, 0, []), zi0), (21, .isub, ([], 0, 0, []), zi0), (22, .ireturn, ([], 0, 0, []), zi0), (23, .iload_n 0, ([0], 0, 0, []), zi0), (24, .iconst 1, ([], nI 1, 0, []), zi0), (25, .if_icmp .ne 7, ([32], 0, 0, []), zi0), (28, .iload_n 2, ([2], 0, 0, []), zi0), (29, .iload_n 3, ([3], 0, 0, []), zi0), (30, .ixor, ([], 0, 0, []), zi0), (31, .ireturn, ([], 0, 0, []), zi0), (32, .iload_n 2, ([2], 0, 0, []), zi0), (33, .iconst 3, ([], nI 3, 0, []), zi0), (34, .if_icmp .ge 13, ([47], 0, 0, []), zi0), (37, .iload_n 2, ([2], 0, 0, []), zi0), (38, .iconst 3, ([], nI 3, 0, []), zi0), (39, .irem, ([], 0, 0, []), zi0), (40, .iload_n 3, ([3], 0, 0, []), zi0), (41, .iconst 3, ([], nI 3, 0, []), zi0), (42, .irem, ([], 0, 0, []), zi0), (43, .iadd, ([], 0, 0, []), zi0), (44, .goto 12, ([56], 0, 0, []), zi0), (47, .iload_n 2, ([2], 0, 0, []), zi0), (48, .iconst 3, ([], nI 3, 0, []), zi0), (49, .irem, ([], 0, 0, []), zi0), (50, .iload_n 3, ([3], 0, 0, []), zi0), (51, .iconst 3, ([], nI 3, 0, []), zi0), (52, .irem, ([], 0, 0, []), zi0), (53, .isub, ([], 0, 0, []), zi0), (54, .iconst 3, ([], nI 3, 0, []), zi0), (55, .iadd, ([], 0, 0, []), zi0), (56, .istore 4, ([], 0, 0, []), zi0), (58, .iload_n 2, ([2], 0, 0, []), zi0), (59, .iconst 3, ([], nI 3, 0, []), zi0), (60, .idiv, ([], 0, 0, []), zi0), (61, .iload_n 3, ([3], 0, 0, []), zi0), (62, .iconst 3, ([], nI 3, 0, []), zi0), (63, .idiv, ([], 0, 0, []), zi0), (64, .iadd, ([], 0, 0, []), zi0), (65, .istore 5, ([], 0, 0, []), zi0), (67, .iload 4, ([], 0, 0, []), zi0), (69, .iconst 3, ([], nI 3, 0, []), zi0), (70, .irem, ([], 0, 0, []), zi0), (71, .iconst 3, ([], nI 3, 0, []), zi0), (72, .iload 5, ([], 0, 0, []), zi0), (74, .iconst 2, ([], nI 2, 0, []), zi0), (75, .irem, ([], 0, 0, []), zi0), (76, .imul, ([], 0, 0, []), zi0), (77, .iadd, ([], 0, 0, []), zi0), (78, .ireturn, ([], 0, 0, []), zi0)]
def cu_AL_product : List (Nat × List Nat) := []
set_option maxRecDepth 100000 in
theorem oc_AL_product : cd_AL_product.all (zchk mi_AL_product) = true := by decide +kernel
set_option maxRecDepth 100000 in
theorem ow_AL_product : zWs mi_AL_product cd_AL_product := ⟨trivial, trivial, trivial, trivial, trivial, trivial, trivial, trivial, trivial, trivial, trivial, trivial, trivial, trivial, trivial, trivial, trivial, trivial, trivial, trivial, trivial, trivial, trivial, trivial, trivial, trivial, trivial, trivial, trivial, trivial, trivial, trivial, trivial, trivial, trivial, trivial, trivial, trivial, trivial, trivial, trivial, trivial, trivial, trivial, trivial, trivial, trivial, trivial, trivial, trivial, trivial, trivial, trivial, trivial, trivial, trivial, trivial, trivial, trivial, trivial, trivial, trivial, trivial, trivial⟩
theorem ok_AL_product : zgood2 mi_AL_product cd_AL_product := ⟨oc_AL_product, ow_AL_product⟩
def cd_AL_rest : List ZE := [(0, .iload_n 1, ([1], 0, 0, []), zi0), (1, .ifCond .le 9, ([10], 0, 0, []), zi0), (4, .iload_n 0, ([0], 0, 0, []), zi0), (5, .iload_n 1, ([1], 0, 0, []), zi0), (6, .irem, ([], 0, 0, []), zi0), (7, .goto 4, ([11], 0, 0, []), zi0), (10, .iconst 0, ([], nI 0, 0, []), zi0), (11, .ireturn, ([], 0, 0, []), zi0)]
def cu_AL_rest : List (Nat × List Nat) := []
set_option maxRecDepth 100000 in
theorem oc_AL_rest : cd_AL_rest.all (zchk mi_AL_rest) = true := by decide +kernel
set_option maxRecDepth 100000 in
theorem ow_AL_rest : zWs mi_AL_rest cd_AL_rest := ⟨trivial, trivial, trivial, trivial, trivial, trivial, trivial, trivial, trivial⟩
theorem ok_AL_rest : zgood2 mi_AL_rest cd_AL_rest := ⟨oc_AL_rest, ow_AL_rest⟩
def cd_BA_isSeen : List ZE := [(0, .aload_n 0, ([0], 0, 0, []), zi0), (1, .getfield 21, ([7, 2, 0, 132], 0, 0, []), zi0), (4, .iload_n 1, ([1], 0, 0, []), zi0), (5, .bipush 6, ([], nI 6, 0, []), zi0), (7, .ishr, ([], 0, 0, []), zi0), (8, .bipush 63, ([], nI 63, 0, []), zi0), (10, .iand, ([], 0, 0, []), zi0), (11, .laload, ([], 0, 0, []), zi0), (12, .iload_n 1, ([1], 0, 0, []), zi0), (13, .lshr, ([], 0, 0, []), zi0), (14, .lconst 1, ([], 0, lN 1, []), zi0), (15, .land, ([], 0, 0, []), zi0), (16, .lconst 0, ([], 0, lN 0, []), zi0), (17, .lcmp, ([], 0, 0, []), zi0), (18, .ifCond .eq 7, ([25], 0, 0, []), zi0), (21, .iconst 1, ([], nI 1, 0, []), zi0), (22, .goto 4, ([26], 0, 0, []), zi0), (25, .iconst 0, ([], nI 0, 0, []), zi0), (26, .ireturn, ([], 0, 0, []), zi0)]
def cu_BA_isSeen : List (Nat × List Nat) := []
set_option maxRecDepth 100000 in
theorem oc_BA_isSeen : cd_BA_isSeen.all (zchk mi_BA_isSeen) = true := by decide +kernel
set_option maxRecDepth 100000 in
theorem ow_BA_isSeen : zWs mi_BA_isSeen cd_BA_isSeen := ⟨trivial, rfl, trivial, trivial, trivial, trivial, trivial, trivial, trivial, trivial, trivial, trivial, trivial, trivial, trivial, trivial, trivial, trivial, trivial, trivial⟩
theorem ok_BA_isSeen : zgood2 mi_BA_isSeen cd_BA_isSeen := ⟨oc_BA_isSeen, ow_BA_isSeen⟩
def cd_BA_see : List ZE := [(0, .aload_n 0, ([0], 0, 0, []), zi0), (1, .getfield 21, ([7, 2, 0, 132], 0, 0, []), zi0), (4, .iload_n 1, ([1], 0, 0, []), zi0), (5, .bipush 6, ([], nI 6, 0, []), zi0), (7, .ishr, ([], 0, 0, []), zi0), (8, .bipush 63, ([], nI 63, 0, []), zi0), (10, .iand, ([], 0, 0, []), zi0), (11, .dup2, ([], 0, 0, []), zi0), (12, .laload, ([], 0, 0, []), zi0), (13, .lconst 1, ([], 0, lN 1, []), zi0), (14, .iload_n 1, ([1], 0, 0, []), zi0), (15, .lshl, ([], 0, 0, []), zi0), (16, .lor, ([], 0, 0, []), zi0), (17, .lastore, ([], 0, 0, []), zi0), (18, .return_, ([], 0, 0, []), zi0)]
def cu_BA_see : List (Nat × List Nat) := []
set_option maxRecDepth 100000 in
theorem oc_BA_see : cd_BA_see.all (zchk mi_BA_see) = true := by decide +kernel
set_option maxRecDepth 100000 in
theorem ow_BA_see : zWs mi_BA_see cd_BA_see := ⟨trivial, rfl, trivial, trivial, trivial, trivial, trivial, trivial, trivial, trivial, trivial, trivial, trivial, trivial, trivial, trivial⟩
theorem ok_BA_see : zgood2 mi_BA_see cd_BA_see := ⟨oc_BA_see, ow_BA_see⟩
def cd_BR_clear : List ZE := [(0, .aload_n 0, ([0], 0, 0, []), zi0), (1, .iconst 0, ([], nI 0, 0, []), zi0), (2, .putfield 17, ([1, 2, 0, 49], 0, 0, []), zi0), (5, .return_, ([], 0, 0, []), zi0)]
def cu_BR_clear : List (Nat × List Nat) := []
set_option maxRecDepth 100000 in
theorem oc_BR_clear : cd_BR_clear.all (zchk mi_BR_clear) = true := by decide +kernel
set_option maxRecDepth 100000 in
theorem ow_BR_clear : zWs mi_BR_clear cd_BR_clear := ⟨trivial, trivial, ⟨rfl, rfl⟩, trivial, trivial⟩
theorem ok_BR_clear : zgood2 mi_BR_clear cd_BR_clear := ⟨oc_BR_clear, ow_BR_clear⟩
def cd_BR_hasIndex : List ZE := [(0, .iload_n 0, ([0], 0, 0, []), zi0), (1, .ifCond .lt 13, ([14], 0, 0, []), zi0), (4, .iload_n 0, ([0], 0, 0, []), zi0), (5, .bipush 24, ([], nI 24, 0, []), zi0), (7, .if_icmp .ge 7, ([14], 0, 0, []), zi0), (10, .iconst 1, ([], nI 1, 0, []), zi0), (11, .goto 4, ([15], 0, 0, []), zi0), (14, .iconst 0, ([], nI 0, 0, []), zi0), (15, .ireturn, ([], 0, 0, []), zi0)]
def cu_BR_hasIndex : List (Nat × List Nat) := []
set_option maxRecDepth 100000 in
theorem oc_BR_hasIndex : cd_BR_hasIndex.all (zchk mi_BR_hasIndex) = true := by decide +kernel
set_option maxRecDepth 100000 in
theorem ow_BR_hasIndex : zWs mi_BR_hasIndex cd_BR_hasIndex := ⟨trivial, trivial, trivial, trivial, trivial, trivial, trivial, trivial, trivial, trivial⟩
theorem ok_BR_hasIndex : zgood2 mi_BR_hasIndex cd_BR_hasIndex := ⟨oc_BR_hasIndex, ow_BR_hasIndex⟩
def cd_BR_isCapital : List ZE := [(0, .iload_n 0, ([0], 0, 0, []), zi0), (1, .bipush 65, ([], nI 65, 0, []), zi0), (3, .if_icmp .lt 13, ([16], 0, 0, []), zi0), (6, .iload_n 0, ([0], 0, 0, []), zi0), (7, .bipush 68, ([], nI 68, 0, []), zi0), (9, .if_icmp .ge 7, ([16], 0, 0, []), zi0), (12, .iconst 1, ([], nI 1, 0, []), zi0), (13, .goto 4, ([17], 0, 0, []), zi0), (16, .iconst 0, ([], nI 0, 0, []), zi0), (17, .ireturn, ([], 0, 0, []), zi0)]
def cu_BR_isCapital : List (Nat × List Nat) := []
set_option maxRecDepth 100000 in
theorem oc_BR_isCapital : cd_BR_isCapital.all (zchk mi_BR_isCapital) = true := by decide +kernel
set_option maxRecDepth 100000 in
theorem ow_BR_isCapital : zWs mi_BR_isCapital cd_BR_isCapital := ⟨trivial, trivial, trivial, trivial, trivial, trivial, trivial, trivial, trivial, trivial, trivial⟩
theorem ok_BR_isCapital : zgood2 mi_BR_isCapital cd_BR_isCapital := ⟨oc_BR_isCapital, ow_BR_isCapital⟩
def cd_BR_isFull : List ZE := [(0, .aload_n 0, ([0], 0, 0, []), zi0), (1, .getfield 17, ([1, 2, 0, 49], 0, 0, []), zi0), (4, .bipush 24, ([], nI 24, 0, []), zi0), (6, .if_icmp .lt 7, ([13], 0, 0, []), zi0), (9, .iconst 1, ([], nI 1, 0, []), zi0), (10, .goto 4, ([14], 0, 0, []), zi0), (13, .iconst 0, ([], nI 0, 0, []), zi0), (14, .ireturn, ([], 0, 0, []), zi0)]
def cu_BR_isFull : List (Nat × List Nat) := []
set_option maxRecDepth 100000 in
theorem oc_BR_isFull : cd_BR_isFull.all (zchk mi_BR_isFull) = true := by decide +kernel
set_option maxRecDepth 100000 in
theorem ow_BR_isFull : zWs mi_BR_isFull cd_BR_isFull := ⟨trivial, rfl, trivial, trivial, trivial, trivial, trivial, trivial, trivial⟩
theorem ok_BR_isFull : zgood2 mi_BR_isFull cd_BR_isFull := ⟨oc_BR_isFull, ow_BR_isFull⟩
def cd_BR_length : List ZE := [(0, .aload_n 0, ([0], 0, 0, []), zi0), (1, .getfield 17, ([1, 2, 0, 49], 0, 0, []), zi0), (4, .ireturn, ([], 0, 0, []), zi0)]
def cu_BR_length : List (Nat × List Nat) := []
set_option maxRecDepth 100000 in
theorem oc_BR_length : cd_BR_length.all (zchk mi_BR_length) = true := by decide +kernel
set_option maxRecDepth 100000 in
theorem ow_BR_length : zWs mi_BR_length cd_BR_length := ⟨trivial, rfl, trivial, trivial⟩
theorem ok_BR_length : zgood2 mi_BR_length cd_BR_length := ⟨oc_BR_length, ow_BR_length⟩
def cd_CH_joined : List ZE := [(0, .iconst 1, ([], nI 1, 0, []), zi0), (1, .iload_n 1, ([1], 0, 0, []), zi0), (2, .ishl, ([], 0, 0, []), zi0), (3, .iconst 1, ([], nI 1, 0, []), zi0), (4, .iload_n 2, ([2], 0, 0, []), zi0), (5, .ishl, ([], 0, 0, []), zi0), (6, .ior, ([], 0, 0, []), zi0), (7, .istore_n 3, ([3], 0, 0, []), zi0), (8, .iload_n 0, ([0], 0, 0, []), zi0), (9, .iload_n 3, ([3], 0, 0, []), zi0), (10, .iand, ([], 0, 0, []), zi0), (11, .ifCond .ne 7, ([18], 0, 0, []), zi0), (14, .iload_n 0, ([0], 0, 0, []), zi0), (15, .goto 6, ([21], 0, 0, []), zi0), (18, .iload_n 0, ([0], 0, 0, []), zi0), (19, .iload_n 3, ([3], 0, 0, []), zi0), (20, .ior, ([], 0, 0, []), zi0), (21, .ireturn, ([], 0, 0, []), zi0)]
def cu_CH_joined : List (Nat × List Nat) := []
set_option maxRecDepth 100000 in
theorem oc_CH_joined : cd_CH_joined.all (zchk mi_CH_joined) = true := by decide +kernel
set_option maxRecDepth 100000 in
theorem ow_CH_joined : zWs mi_CH_joined cd_CH_joined := ⟨trivial, trivial, trivial, trivial, trivial, trivial, trivial, trivial, trivial, trivial, trivial, trivial, trivial, trivial, trivial, trivial, trivial, trivial, trivial⟩
theorem ok_CH_joined : zgood2 mi_CH_joined cd_CH_joined := ⟨oc_CH_joined, ow_CH_joined⟩
def cd_CO_commonMultiple : List ZE := [(0, .iconst 1, ([], nI 1, 0, []), zi0), (1, .istore_n 2, ([2], 0, 0, []), zi0), (2, .iload_n 2, ([2], 0, 0, []), zi0), (3, .iload_n 1, ([1], 0, 0, []), zi0), (4, .if_icmp .ge 21, ([25], 0, 0, []), zi0), (7, .iload_n 0, ([0], 0, 0, []), zi0), (8, .iload_n 2, ([2], 0, 0, []), zi0), (9, .imul, ([], 0, 0, []), zi0), (10, .iload_n 1, ([1], 0, 0, []), zi0), (11, .irem, ([], 0, 0, []), zi0), (12, .ifCond .ne 7, ([19], 0, 0, []), zi0), (15, .iload_n 0, ([0], 0, 0, []), zi0), (16, .iload_n 2, ([2], 0, 0, []), zi0), (17, .imul, ([], 0, 0, []), zi0), (18, .ireturn, ([], 0, 0, []), zi0), (19, .iinc 2 1, ([], nI 1, 0, []), zi0), (22, .goto (-20), ([2], 0, 0, []), zi0), (25, .iload_n 0, ([0], 0, 0, []), zi0), (26, .iload_n 1, ([1], 0, 0, []), zi0), (27, .imul, ([], 0, 0, []), zi0), (28, .ireturn, ([], 0, 0, []), zi0)]
def cu_CO_commonMultiple : List (Nat × List Nat) := [(2, [0, 1, 2])]
set_option maxRecDepth 100000 in
theorem oc_CO_commonMultiple : cd_CO_commonMultiple.all (zchk mi_CO_commonMultiple) = true := by decide +kernel
set_option maxRecDepth 100000 in
theorem ow_CO_commonMultiple : zWs mi_CO_commonMultiple cd_CO_commonMultiple := ⟨trivial, trivial, trivial, trivial, trivial, trivial, trivial, trivial, trivial, trivial, trivial, trivial, trivial, trivial, trivial, trivial, trivial, trivial, trivial, trivial, trivial, trivial⟩
theorem ok_CO_commonMultiple : zgood2 mi_CO_commonMultiple cd_CO_commonMultiple := ⟨oc_CO_commonMultiple, ow_CO_commonMultiple⟩
def cd_CO_digit : List ZE := [(0, .iload_n 0, ([0], 0, 0, []), zi0), (1, .iconst 3, ([], nI 3, 0, []), zi0), (2, .iload_n 1, ([1], 0, 0, []), zi0), (3, .imul, ([], 0, 0, []), zi0), (4, .ishr, ([], 0, 0, []), zi0), (5, .bipush 7, ([], nI 7, 0, []), zi0), (7, .iand, ([], 0, 0, []), zi0), (8, .ireturn, ([], 0, 0, []), zi0)]
def cu_CO_digit : List (Nat × List Nat) := []
set_option maxRecDepth 100000 in
theorem oc_CO_digit : cd_CO_digit.all (zchk mi_CO_digit) = true := by decide +kernel
set_option maxRecDepth 100000 in
theorem ow_CO_digit : zWs mi_CO_digit cd_CO_digit := ⟨trivial, trivial, trivial, trivial, trivial, trivial, trivial, trivial, trivial⟩
theorem ok_CO_digit : zgood2 mi_CO_digit cd_CO_digit := ⟨oc_CO_digit, ow_CO_digit⟩
def cd_CO_pairOf : List ZE := [(0, .iload_n 0, ([0], 0, 0, []), zi0), (1, .iconst 3, ([], nI 3, 0, []), zi0), (2, .ishl, ([], 0, 0, []), zi0), (3, .iload_n 1, ([1], 0, 0, []), zi0), (4, .ior, ([], 0, 0, []), zi0), (5, .ireturn, ([], 0, 0, []), zi0)]
def cu_CO_pairOf : List (Nat × List Nat) := []
set_option maxRecDepth 100000 in
theorem oc_CO_pairOf : cd_CO_pairOf.all (zchk mi_CO_pairOf) = true := by decide +kernel
set_option maxRecDepth 100000 in
theorem ow_CO_pairOf : zWs mi_CO_pairOf cd_CO_pairOf := ⟨trivial, trivial, trivial, trivial, trivial, trivial, trivial⟩
theorem ok_CO_pairOf : zgood2 mi_CO_pairOf cd_CO_pairOf := ⟨oc_CO_pairOf, ow_CO_pairOf⟩
def cd_CO_sequences : List ZE := [(0, .iconst 1, ([], nI 1, 0, []), zi0), (1, .istore_n 2, ([2], 0, 0, []), zi0), (2, .iconst 0, ([], nI 0, 0, []), zi0), (3, .istore_n 3, ([3], 0, 0, []), zi0), (4, .iload_n 3, ([3], 0, 0, []), zi0), (5, .iload_n 0, ([0], 0, 0, []), zi0), (6, .if_icmp .ge 13, ([19], 0, 0, []), zi0), (9, .iload_n 2, ([2], 0, 0, []), zi0), (10, .iload_n 1, ([1], 0, 0, []), zi0), (11, .imul, ([], 0, 0, []), zi0), (12, .istore_n 2, ([2], 0, 0, []), zi0), (13, .iinc 3 1, ([], nI 1, 0, []), zi0), (16, .goto (-12), ([4], 0, 0, []), zi0), (19, .iload_n 2, ([2], 0, 0, []), zi0), (20, .ireturn, ([], 0, 0, []), zi0)]
def cu_CO_sequences : List (Nat × List Nat) := [(4, [0, 1, 2, 3])]
set_option maxRecDepth 100000 in
theorem oc_CO_sequences : cd_CO_sequences.all (zchk mi_CO_sequences) = true := by decide +kernel
set_option maxRecDepth 100000 in
theorem ow_CO_sequences : zWs mi_CO_sequences cd_CO_sequences := ⟨trivial, trivial, trivial, trivial, trivial, trivial, trivial, trivial, trivial, trivial, trivial, trivial, trivial, trivial, trivial, trivial⟩
theorem ok_CO_sequences : zgood2 mi_CO_sequences cd_CO_sequences := ⟨oc_CO_sequences, ow_CO_sequences⟩
def cd_JA_fill : List ZE := [(0, .iconst 0, ([], nI 0, 0, []), zi0), (1, .istore_n 3, ([3], 0, 0, []), zi0), (2, .aload_n 0, ([0], 0, 0, []), zi0), (3, .arraylength, ([], 0, 0, []), zi0), (4, .istore 4, ([], 0, 0, []), zi0), (6, .iload_n 3, ([3], 0, 0, []), zi0), (7, .iload 4, ([], 0, 0, []), zi0), (9, .if_icmp .ge 13, ([22], 0, 0, []), zi0), (12, .aload_n 0, ([0], 0, 0, []), zi0), (13, .iload_n 3, ([3], 0, 0, []), zi0), (14, .lload_n 1, ([1], 0, 0, []), zi0), (15, .lastore, ([], 0, 0, []), zi0), (16, .iinc 3 1, ([], nI 1, 0, []), zi0), (19, .goto (-13), ([6], 0, 0, []), zi0), (22, .return_, ([], 0, 0, []), zi0)]
def cu_JA_fill : List (Nat × List Nat) := [(6, [0, 1, 3, 4])]
set_option maxRecDepth 100000 in
theorem oc_JA_fill : cd_JA_fill.all (zchk mi_JA_fill) = true := by decide +kernel
set_option maxRecDepth 100000 in
theorem ow_JA_fill : zWs mi_JA_fill cd_JA_fill := ⟨trivial, trivial, trivial, trivial, trivial, trivial, trivial, trivial, trivial, trivial, trivial, trivial, trivial, trivial, trivial, trivial⟩
theorem ok_JA_fill : zgood2 mi_JA_fill cd_JA_fill := ⟨oc_JA_fill, ow_JA_fill⟩
def cd_JL_bitCount : List ZE := [(0, .lload_n 0, ([0], 0, 0, []), zi0), (1, .lload_n 0, ([0], 0, 0, []), zi0), (2, .iconst 1, ([], nI 1, 0, []), zi0), (3, .lushr, ([], 0, 0, []), zi0), (4, .ldc2_w 314, ([1, 165], 0, lN 6148914691236517205, []), zi0), (7, .land, ([], 0, 0, []), zi0), (8, .lsub, ([], 0, 0, []), zi0), (9, .lstore_n 0, ([0], 0, 0, []), zi0), (10, .lload_n 0, ([0], 0, 0, []), zi0), (11, .ldc2_w 316, ([1, 166], 0, lN 3689348814741910323, []), zi0), (14, .land, ([], 0, 0, []), zi0), (15, .lload_n 0, ([0], 0, 0, []), zi0), (16, .iconst 2, ([], nI 2, 0, []), zi0), (17, .lushr, ([], 0, 0, []), zi0), (18, .ldc2_w 316, ([1, 166], 0, lN 3689348814741910323, []), zi0), (21, .land, ([], 0, 0, []), zi0), (22, .ladd, ([], 0, 0, []), zi0), (23, .lstore_n 0, ([0], 0, 0, []), zi0), (24, .lload_n 0, ([0], 0, 0, []), zi0), (25, .lload_n 0, ([0], 0, 0, []), zi0), (26, .iconst 4, ([], nI 4, 0, []), zi0), (27, .lushr, ([], 0, 0, []), zi0), (28, .ladd, ([], 0, 0, []), zi0), (29, .ldc2_w 318, ([1, 167], 0, lN 1085102592571150095, []), zi0), (32, .land, ([], 0, 0, []), zi0), (33, .lstore_n 0, ([0], 0, 0, []), zi0), (34, .lload_n 0, ([0], 0, 0, []), zi0), (35, .lload_n 0, ([0], 0, 0, []), zi0), (36, .bipush 8, ([], nI 8, 0, []), zi0), (38, .lushr, ([], 0, 0, []), zi0), (39, .ladd, ([], 0, 0, []), zi0), (40, .lstore_n 0, ([0], 0, 0, []), zi0), (41, .lload_n 0, ([0], 0, 0, []), zi0), (42, .lload_n 0, ([0], 0, 0, []), zi0), (43, .bipush 16, ([], nI 16, 0, []), zi0), (45, .lushr, ([], 0, 0, []), zi0), (46, .ladd, ([], 0, 0, []), zi0), (47, .lstore_n 0, ([0], 0, 0, []), zi0), (48, .lload_n 0, ([0], 0, 0, []), zi0), (49, .lload_n 0, ([0], 0, 0, []), zi0), (50, .bipush 32, ([], nI 32, 0, []), zi0), (52, .lushr, ([], 0, 0, []), zi0), (53, .ladd, ([], 0, 0, []), zi0), (54, .lstore_n 0, ([0], 0, 0, []), zi0), (55, .lload_n 0, ([0], 0, 0, []), zi0), (56, .l2i, ([], 0, 0, []), zi0), (57, .bipush 127, ([], nI 127, 0, []), zi0), (59, .iand, ([], 0, 0, []), zi0), (60, .ireturn, ([], 0, 0, []), zi0)]
def cu_JL_bitCount : List (Nat × List Nat) := []
set_option maxRecDepth 100000 in
theorem oc_JL_bitCount : cd_JL_bitCount.all (zchk mi_JL_bitCount) = true := by decide +kernel
set_option maxRecDepth 100000 in
theorem ow_JL_bitCount : zWs mi_JL_bitCount cd_JL_bitCount := ⟨trivial, trivial, trivial, trivial, rfl, trivial, trivial, trivial, trivial, rfl, trivial, trivial, trivial, trivial, rfl, trivial, trivial, trivial, trivial, trivial, trivial, trivial, trivial, rfl, trivial, trivial, trivial, trivial, trivial, trivial, trivial, trivial, trivial, trivial, trivial, trivial, trivial, trivial, trivial, trivial, trivial, trivial, trivial, trivial, trivial, trivial, trivial, trivial, trivial, trivial⟩
theorem ok_JL_bitCount : zgood2 mi_JL_bitCount cd_JL_bitCount := ⟨oc_JL_bitCount, ow_JL_bitCount⟩
def cd_PM_copy : List ZE := [(0, .aload_n 0, ([0], 0, 0, []), zi0), (1, .aload_n 1, ([1], 0, 0, []), zi0), (2, .getfield 13, ([0, 1, 0, 35], 0, 0, []), zi0), (5, .putfield 13, ([0, 1, 0, 35], 0, 0, []), zi0), (8, .iconst 0, ([], nI 0, 0, []), zi0), (9, .istore_n 2, ([2], 0, 0, []), zi0), (10, .iload_n 2, ([2], 0, 0, []), zi0), (11, .bipush 63, ([], nI 63, 0, []), zi0), (13, .if_icmp .gt 21, ([34], 0, 0, []), zi0), (16, .aload_n 0, ([0], 0, 0, []), zi0), (17, .getfield 9, ([0, 0, 0, 34], 0, 0, []), zi0), (20, .iload_n 2, ([2], 0, 0, []), zi0), (21, .aload_n 1, ([1], 0, 0, []), zi0), (22, .getfield 9, ([0, 0, 0, 34], 0, 0, []), zi0), (25, .iload_n 2, ([2], 0, 0, []), zi0), (26, .iaload, ([], 0, 0, []), zi0), (27, .iastore, ([], 0, 0, []), zi0), (28, .iinc 2 1, ([], nI 1, 0, []), zi0), (31, .goto (-21), ([10], 0, 0, []), zi0), (34, .return_, ([], 0, 0, []), zi0)]
def cu_PM_copy : List (Nat × List Nat) := [(10, [0, 1, 2])]
set_option maxRecDepth 100000 in
theorem oc_PM_copy : cd_PM_copy.all (zchk mi_PM_copy) = true := by decide +kernel
set_option maxRecDepth 100000 in
theorem ow_PM_copy : zWs mi_PM_copy cd_PM_copy := ⟨trivial, trivial, rfl, ⟨rfl, rfl⟩, trivial, trivial, trivial, trivial, trivial, trivial, rfl, trivial, trivial, rfl, trivial, trivial, trivial, trivial, trivial, trivial, trivial⟩
theorem ok_PM_copy : zgood2 mi_PM_copy cd_PM_copy := ⟨oc_PM_copy, ow_PM_copy⟩
def cd_PM_hasPoint : List ZE := [(0, .iload_n 1, ([1], 0, 0, []), zi0), (1, .ifCond .lt 15, ([16], 0, 0, []), zi0), (4, .iload_n 1, ([1], 0, 0, []), zi0), (5, .aload_n 0, ([0], 0, 0, []), zi0), (6, .getfield 13, ([0, 1, 0, 35], 0, 0, []), zi0), (9, .if_icmp .ge 7, ([16], 0, 0, []), zi0), (12, .iconst 1, ([], nI 1, 0, []), zi0), (13, .goto 4, ([17], 0, 0, []), zi0), (16, .iconst 0, ([], nI 0, 0, []), zi0), (17, .ireturn, ([], 0, 0, []), zi0)]
def cu_PM_hasPoint : List (Nat × List Nat) := []
set_option maxRecDepth 100000 in
theorem oc_PM_hasPoint : cd_PM_hasPoint.all (zchk mi_PM_hasPoint) = true := by decide +kernel
set_option maxRecDepth 100000 in
theorem ow_PM_hasPoint : zWs mi_PM_hasPoint cd_PM_hasPoint := ⟨trivial, trivial, trivial, trivial, rfl, trivial, trivial, trivial, trivial, trivial, trivial⟩
theorem ok_PM_hasPoint : zgood2 mi_PM_hasPoint cd_PM_hasPoint := ⟨oc_PM_hasPoint, ow_PM_hasPoint⟩
def cd_PM_imageOf : List ZE := [(0, .aload_n 0, ([0], 0, 0, []), zi0), (1, .getfield 9, ([0, 0, 0, 34], 0, 0, []), zi0), (4, .iload_n 1, ([1], 0, 0, []), zi0), (5, .bipush 63, ([], nI 63, 0, []), zi0), (7, .iand, ([], 0, 0, []), zi0), (8, .iaload, ([], 0, 0, []), zi0), (9, .ireturn, ([], 0, 0, []), zi0)]
def cu_PM_imageOf : List (Nat × List Nat) := []
set_option maxRecDepth 100000 in
theorem oc_PM_imageOf : cd_PM_imageOf.all (zchk mi_PM_imageOf) = true := by decide +kernel
set_option maxRecDepth 100000 in
theorem ow_PM_imageOf : zWs mi_PM_imageOf cd_PM_imageOf := ⟨trivial, rfl, trivial, trivial, trivial, trivial, trivial, trivial⟩
theorem ok_PM_imageOf : zgood2 mi_PM_imageOf cd_PM_imageOf := ⟨oc_PM_imageOf, ow_PM_imageOf⟩
def cd_PM_isEmpty : List ZE := [(0, .aload_n 0, ([0], 0, 0, []), zi0), (1, .getfield 13, ([0, 1, 0, 35], 0, 0, []), zi0), (4, .ifCond .ne 7, ([11], 0, 0, []), zi0), (7, .iconst 1, ([], nI 1, 0, []), zi0), (8, .goto 4, ([12], 0, 0, []), zi0), (11, .iconst 0, ([], nI 0, 0, []), zi0), (12, .ireturn, ([], 0, 0, []), zi0)]
def cu_PM_isEmpty : List (Nat × List Nat) := []
set_option maxRecDepth 100000 in
theorem oc_PM_isEmpty : cd_PM_isEmpty.all (zchk mi_PM_isEmpty) = true := by decide +kernel
set_option maxRecDepth 100000 in
theorem ow_PM_isEmpty : zWs mi_PM_isEmpty cd_PM_isEmpty := ⟨trivial, rfl, trivial, trivial, trivial, trivial, trivial, trivial⟩
theorem ok_PM_isEmpty : zgood2 mi_PM_isEmpty cd_PM_isEmpty := ⟨oc_PM_isEmpty, ow_PM_isEmpty⟩
def cd_PM_points : List ZE := [(0, .aload_n 0, ([0], 0, 0, []), zi0), (1, .getfield 13, ([0, 1, 0, 35], 0, 0, []), zi0), (4, .ireturn, ([], 0, 0, []), zi0)]
def cu_PM_points : List (Nat × List Nat) := []
set_option maxRecDepth 100000 in
theorem oc_PM_points : cd_PM_points.all (zchk mi_PM_points) = true := by decide +kernel
set_option maxRecDepth 100000 in
theorem ow_PM_points : zWs mi_PM_points cd_PM_points := ⟨trivial, rfl, trivial, trivial⟩
theorem ok_PM_points : zgood2 mi_PM_points cd_PM_points := ⟨oc_PM_points, ow_PM_points⟩
def cd_PM_resize : List ZE := [(0, .aload_n 0, ([0], 0, 0, []), zi0), (1, .iload_n 1, ([1], 0, 0, []), zi0), (2, .putfield 13, ([0, 1, 0, 35], 0, 0, []), zi0), (5, .return_, ([], 0, 0, []), zi0)]
def cu_PM_resize : List (Nat × List Nat) := []
set_option maxRecDepth 100000 in
theorem oc_PM_resize : cd_PM_resize.all (zchk mi_PM_resize) = true := by decide +kernel
set_option maxRecDepth 100000 in
theorem ow_PM_resize : zWs mi_PM_resize cd_PM_resize := ⟨trivial, trivial, ⟨rfl, rfl⟩, trivial, trivial⟩
theorem ok_PM_resize : zgood2 mi_PM_resize cd_PM_resize := ⟨oc_PM_resize, ow_PM_resize⟩
def cd_RG_add : List ZE := [(0, .iload_n 1, ([1], 0, 0, []), zi0), (1, .sipush 32767, ([], nI 32767, 0, []), zi0), (4, .iand, ([], 0, 0, []), zi0), (5, .istore_n 2, ([2], 0, 0, []), zi0), (6, .iload_n 2, ([2], 0, 0, []), zi0), (7, .bipush 6, ([], nI 6, 0, []), zi0), (9, .ishr, ([], 0, 0, []), zi0), (10, .sipush 511, ([], nI 511, 0, []), zi0), (13, .iand, ([], 0, 0, []), zi0), (14, .istore_n 3, ([3], 0, 0, []), zi0), (15, .lconst 1, ([], 0, lN 1, []), zi0), (16, .iload_n 2, ([2], 0, 0, []), zi0), (17, .lshl, ([], 0, 0, []), zi0), (18, .lstore 4, ([], 0, 0, []), zi0), (20, .aload_n 0, ([0], 0, 0, []), zi0), (21, .getfield 15, ([5, 1, 0, 99], 0, 0, []), zi0), (24, .iload_n 3, ([3], 0, 0, []), zi0), (25, .laload, ([], 0, 0, []), zi0), (26, .lload 4, ([], 0, 0, []), zi0), (28, .land, ([], 0, 0, []), zi0), (29, .lconst 0, ([], 0, lN 0, []), zi0), (30, .lcmp, ([], 0, 0, []), zi0), (31, .ifCond .ne 44, ([75], 0, 0, []), zi0), (34, .aload_n 0, ([0], 0, 0, []), zi0), (35, .getfield 19, ([5, 2, 0, 100], 0, 0, []), zi0), (38, .sipush 720, ([], nI 720, 0, []), zi0), (41, .if_icmp .ge 34, ([75], 0, 0, []), zi0), (44, .aload_n 0, ([0], 0, 0, []), zi0), (45, .getfield 15, ([5, 1, 0, 99], 0, 0, []), zi0), (48, .iload_n 3, ([3], 0, 0, []), zi0), (49, .dup2, ([], 0, 0, []), zi0), (50, .laload, ([], 0, 0, []), zi0), (51, .lload 4, ([], 0, 0, []), zi0), (53, .lor, ([], 0, 0, []), zi0), (54, .lastore, ([], 0, 0, []), zi0), (55, .aload_n 0, ([0], 0, 0, []), zi0), (56, .getfield 11, ([5, 0, 0, 98], 0, 0, []), zi0), (59, .aload_n 0, ([0], 0, 0, []), zi0), (60, .getfield 19, ([5, 2, 0, 100], 0, 0, []), zi0), (63, .iload_n 1, ([1], 0, 0, []), zi0), (64, .iastore, ([], 0, 0, []), zi0), (65, .aload_n 0, ([0], 0, 0, []), zi0), (66, .dup, ([], 0, 0, []), zi0), (67, .getfield 19, ([5, 2, 0, 100], 0, 0, []), zi0), (70, .iconst 1, ([], nI 1, 0, []), zi0), (71, .iadd, ([], 0, 0, []), zi0), (72, .putfield 19, ([5, 2, 0, 100], 0, 0, []), zi0), (75, .return_, ([], 0, 0, []), zi0)]
def cu_RG_add : List (Nat × List Nat) := []
set_option maxRecDepth 100000 in
theorem oc_RG_add : cd_RG_add.all (zchk mi_RG_add) = true := by decide +kernel
set_option maxRecDepth 100000 in
theorem ow_RG_add : zWs mi_RG_add cd_RG_add := ⟨trivial, trivial, trivial, trivial, trivial, trivial, trivial, trivial, trivial, trivial, trivial, trivial, trivial, trivial, trivial, rfl, trivial, trivial, trivial, trivial, trivial, trivial, trivial, trivial, rfl, trivial, trivial, trivial, rfl, trivial, trivial, trivial, trivial, trivial, trivial, trivial, rfl, trivial, rfl, trivial, trivial, trivial, trivial, rfl, trivial, trivial, ⟨rfl, rfl⟩, trivial, trivial⟩
theorem ok_RG_add : zgood2 mi_RG_add cd_RG_add := ⟨oc_RG_add, ow_RG_add⟩
def cd_RN_imageOf : List ZE := [(0, .aload_n 0, ([0], 0, 0, []), zi0), (1, .getfield 11, ([4, 0, 0, 88], 0, 0, []), zi0), (4, .iload_n 1, ([1], 0, 0, []), zi0), (5, .bipush 7, ([], nI 7, 0, []), zi0), (7, .iand, ([], 0, 0, []), zi0), (8, .iaload, ([], 0, 0, []), zi0), (9, .ireturn, ([], 0, 0, []), zi0)]
def cu_RN_imageOf : List (Nat × List Nat) := []
set_option maxRecDepth 100000 in
theorem oc_RN_imageOf : cd_RN_imageOf.all (zchk mi_RN_imageOf) = true := by decide +kernel
set_option maxRecDepth 100000 in
theorem ow_RN_imageOf : zWs mi_RN_imageOf cd_RN_imageOf := ⟨trivial, rfl, trivial, trivial, trivial, trivial, trivial, trivial⟩
theorem ok_RN_imageOf : zgood2 mi_RN_imageOf cd_RN_imageOf := ⟨oc_RN_imageOf, ow_RN_imageOf⟩
def cd_RN_permutations : List ZE := [(0, .iconst 1, ([], nI 1, 0, []), zi0), (1, .istore_n 1, ([1], 0, 0, []), zi0), (2, .iconst 2, ([], nI 2, 0, []), zi0), (3, .istore_n 2, ([2], 0, 0, []), zi0), (4, .iload_n 2, ([2], 0, 0, []), zi0), (5, .iload_n 0, ([0], 0, 0, []), zi0), (6, .if_icmp .gt 13, ([19], 0, 0, []), zi0), (9, .iload_n 1, ([1], 0, 0, []), zi0), (10, .iload_n 2, ([2], 0, 0, []), zi0), (11, .imul, ([], 0, 0, []), zi0), (12, .istore_n 1, ([1], 0, 0, []), zi0), (13, .iinc 2 1, ([], nI 1, 0, []), zi0), (16, .goto (-12), ([4], 0, 0, []), zi0), (19, .iload_n 1, ([1], 0, 0, []), zi0), (20, .ireturn, ([], 0, 0, []), zi0)]
def cu_RN_permutations : List (Nat × List Nat) := [(4, [0, 1, 2])]
set_option maxRecDepth 100000 in
theorem oc_RN_permutations : cd_RN_permutations.all (zchk mi_RN_permutations) = true := by decide +kernel
set_option maxRecDepth 100000 in
theorem ow_RN_permutations : zWs mi_RN_permutations cd_RN_permutations := ⟨trivial, trivial, trivial, trivial, trivial, trivial, trivial, trivial, trivial, trivial, trivial, trivial, trivial, trivial, trivial, trivial⟩
theorem ok_RN_permutations : zgood2 mi_RN_permutations cd_RN_permutations := ⟨oc_RN_permutations, ow_RN_permutations⟩
def cd_RN_start : List ZE := [(0, .iconst 0, ([], nI 0, 0, []), zi0), (1, .istore_n 1, ([1], 0, 0, []), zi0), (2, .iload_n 1, ([1], 0, 0, []), zi0), (3, .bipush 7, ([], nI 7, 0, []), zi0), (5, .if_icmp .gt 16, ([21], 0, 0, []), zi0), (8, .aload_n 0, ([0], 0, 0, []), zi0), (9, .getfield 11, ([4, 0, 0, 88], 0, 0, []), zi0), (12, .iload_n 1, ([1], 0, 0, []), zi0), (13, .iload_n 1, ([1], 0, 0, []), zi0), (14, .iastore, ([], 0, 0, []), zi0), (15, .iinc 1 1, ([], nI 1, 0, []), zi0), (18, .goto (-16), ([2], 0, 0, []), zi0), (21, .return_, ([], 0, 0, []), zi0)]
def cu_RN_start : List (Nat × List Nat) := [(2, [0, 1])]
set_option maxRecDepth 100000 in
theorem oc_RN_start : cd_RN_start.all (zchk mi_RN_start) = true := by decide +kernel
set_option maxRecDepth 100000 in
theorem ow_RN_start : zWs mi_RN_start cd_RN_start := ⟨trivial, trivial, trivial, trivial, trivial, trivial, rfl, trivial, trivial, trivial, trivial, trivial, trivial, trivial⟩
theorem ok_RN_start : zgood2 mi_RN_start cd_RN_start := ⟨oc_RN_start, ow_RN_start⟩
def cd_SL_hasPoints : List ZE := [(0, .iload_n 0, ([0], 0, 0, []), zi0), (1, .iconst 1, ([], nI 1, 0, []), zi0), (2, .if_icmp .lt 12, ([14], 0, 0, []), zi0), (5, .iload_n 0, ([0], 0, 0, []), zi0), (6, .iconst 4, ([], nI 4, 0, []), zi0), (7, .if_icmp .gt 7, ([14], 0, 0, []), zi0), (10, .iconst 1, ([], nI 1, 0, []), zi0), (11, .goto 4, ([15], 0, 0, []), zi0), (14, .iconst 0, ([], nI 0, 0, []), zi0), (15, .ireturn, ([], 0, 0, []), zi0)]
def cu_SL_hasPoints : List (Nat × List Nat) := []
set_option maxRecDepth 100000 in
theorem oc_SL_hasPoints : cd_SL_hasPoints.all (zchk mi_SL_hasPoints) = true := by decide +kernel
set_option maxRecDepth 100000 in
theorem ow_SL_hasPoints : zWs mi_SL_hasPoints cd_SL_hasPoints := ⟨trivial, trivial, trivial, trivial, trivial, trivial, trivial, trivial, trivial, trivial, trivial⟩
theorem ok_SL_hasPoints : zgood2 mi_SL_hasPoints cd_SL_hasPoints := ⟨oc_SL_hasPoints, ow_SL_hasPoints⟩
def cd_SL_shiftOf : List ZE := [(0, .iconst 4, ([], nI 4, 0, []), zi0), (1, .iload_n 1, ([1], 0, 0, []), zi0), (2, .iload_n 1, ([1], 0, 0, []), zi0), (3, .imul, ([], 0, 0, []), zi0), (4, .iconst 1, ([], nI 1, 0, []), zi0), (5, .isub, ([], 0, 0, []), zi0), (6, .iload_n 0, ([0], 0, 0, []), zi0), (7, .isub, ([], 0, 0, []), zi0), (8, .imul, ([], 0, 0, []), zi0), (9, .ireturn, ([], 0, 0, []), zi0)]
def cu_SL_shiftOf : List (Nat × List Nat) := []
set_option maxRecDepth 100000 in
theorem oc_SL_shiftOf : cd_SL_shiftOf.all (zchk mi_SL_shiftOf) = true := by decide +kernel
set_option maxRecDepth 100000 in
theorem ow_SL_shiftOf : zWs mi_SL_shiftOf cd_SL_shiftOf := ⟨trivial, trivial, trivial, trivial, trivial, trivial, trivial, trivial, trivial, trivial, trivial⟩
theorem ok_SL_shiftOf : zgood2 mi_SL_shiftOf cd_SL_shiftOf := ⟨oc_SL_shiftOf, ow_SL_shiftOf⟩
def cd_SL_start : List ZE := [(0, .iload_n 0, ([0], 0, 0, []), zi0), (1, .tableswitch 40 1 4 #[31, 33, 35, 37], ([41, 31], 0, 0, [(nI 1, 32), (nI 2, 34), (nI 3, 36), (nI 4, 38)]), zi0), (32, .iconst 0, ([], nI 0, 0, []), zi0), (33, .ireturn, ([], 0, 0, []), zi0), (34, .iconst 1, ([], nI 1, 0, []), zi0), (35, .ireturn, ([], 0, 0, []), zi0), (36, .iconst 3, ([], nI 3, 0, []), zi0), (37, .ireturn, ([], 0, 0, []), zi0), (38, .bipush 8, ([], nI 8, 0, []), zi0), (40, .ireturn, ([], 0, 0, []), zi0), (41, .bipush 31, ([], nI 31, 0, []), zi0), (43, .ireturn, ([], 0, 0, []), zi0)]
def cu_SL_start : List (Nat × List Nat) := []
set_option maxRecDepth 100000 in
theorem oc_SL_start : cd_SL_start.all (zchk mi_SL_start) = true := by decide +kernel
set_option maxRecDepth 100000 in
theorem ow_SL_start : zWs mi_SL_start cd_SL_start := ⟨trivial, trivial, trivial, trivial, trivial, trivial, trivial, trivial, trivial, trivial, trivial, trivial, trivial⟩
theorem ok_SL_start : zgood2 mi_SL_start cd_SL_start := ⟨oc_SL_start, ow_SL_start⟩
def cd_T_isWithin : List ZE := [(0, .iload_n 0, ([0], 0, 0, []), zi0), (1, .iload_n 1, ([1], 0, 0, []), zi0), (2, .if_icmp .lt 12, ([14], 0, 0, []), zi0), (5, .iload_n 0, ([0], 0, 0, []), zi0), (6, .iload_n 2, ([2], 0, 0, []), zi0), (7, .if_icmp .gt 7, ([14], 0, 0, []), zi0), (10, .iconst 1, ([], nI 1, 0, []), zi0), (11, .goto 4, ([15], 0, 0, []), zi0), (14, .iconst 0, ([], nI 0, 0, []), zi0), (15, .ireturn, ([], 0, 0, []), zi0)]
def cu_T_isWithin : List (Nat × List Nat) := []
set_option maxRecDepth 100000 in
theorem oc_T_isWithin : cd_T_isWithin.all (zchk mi_T_isWithin) = true := by decide +kernel
set_option maxRecDepth 100000 in
theorem ow_T_isWithin : zWs mi_T_isWithin cd_T_isWithin := ⟨trivial, trivial, trivial, trivial, trivial, trivial, trivial, trivial, trivial, trivial, trivial⟩
theorem ok_T_isWithin : zgood2 mi_T_isWithin cd_T_isWithin := ⟨oc_T_isWithin, ow_T_isWithin⟩
def cd_T_oneIf : List ZE := [(0, .iload_n 0, ([0], 0, 0, []), zi0), (1, .ifCond .eq 7, ([8], 0, 0, []), zi0), (4, .iconst 1, ([], nI 1, 0, []), zi0), (5, .goto 4, ([9], 0, 0, []), zi0), (8, .iconst 0, ([], nI 0, 0, []), zi0), (9, .ireturn, ([], 0, 0, []), zi0)]
def cu_T_oneIf : List (Nat × List Nat) := []
set_option maxRecDepth 100000 in
theorem oc_T_oneIf : cd_T_oneIf.all (zchk mi_T_oneIf) = true := by decide +kernel
set_option maxRecDepth 100000 in
theorem ow_T_oneIf : zWs mi_T_oneIf cd_T_oneIf := ⟨trivial, trivial, trivial, trivial, trivial, trivial, trivial⟩
theorem ok_T_oneIf : zgood2 mi_T_oneIf cd_T_oneIf := ⟨oc_T_oneIf, ow_T_oneIf⟩
def cd_WC_number : List ZE := [(0, .aload_n 0, ([0], 0, 0, []), zi0), (1, .getfield 13, ([6, 1, 0, 116], 0, 0, []), zi0), (4, .ireturn, ([], 0, 0, []), zi0)]
def cu_WC_number : List (Nat × List Nat) := []
set_option maxRecDepth 100000 in
theorem oc_WC_number : cd_WC_number.all (zchk mi_WC_number) = true := by decide +kernel
set_option maxRecDepth 100000 in
theorem ow_WC_number : zWs mi_WC_number cd_WC_number := ⟨trivial, rfl, trivial, trivial⟩
theorem ok_WC_number : zgood2 mi_WC_number cd_WC_number := ⟨oc_WC_number, ow_WC_number⟩
def cd_WC_smallerOf : List ZE := [(0, .aload_n 0, ([0], 0, 0, []), zi0), (1, .getfield 9, ([6, 0, 0, 115], 0, 0, []), zi0), (4, .iload_n 1, ([1], 0, 0, []), zi0), (5, .sipush 4095, ([], nI 4095, 0, []), zi0), (8, .iand, ([], 0, 0, []), zi0), (9, .iaload, ([], 0, 0, []), zi0), (10, .ireturn, ([], 0, 0, []), zi0)]
def cu_WC_smallerOf : List (Nat × List Nat) := []
set_option maxRecDepth 100000 in
theorem oc_WC_smallerOf : cd_WC_smallerOf.all (zchk mi_WC_smallerOf) = true := by decide +kernel
set_option maxRecDepth 100000 in
theorem ow_WC_smallerOf : zWs mi_WC_smallerOf cd_WC_smallerOf := ⟨trivial, rfl, trivial, trivial, trivial, trivial, trivial, trivial⟩
theorem ok_WC_smallerOf : zgood2 mi_WC_smallerOf cd_WC_smallerOf := ⟨oc_WC_smallerOf, ow_WC_smallerOf⟩
def cd_AL_candidates : List ZE := [(0, .iconst 0, ([], nI 0, 0, []), zi0), (1, .istore_n 1, ([1], 0, 0, []), zi0), (2, .iconst 1, ([], nI 1, 0, []), zi0), (3, .istore_n 2, ([2], 0, 0, []), zi0), (4, .iload_n 2, ([2], 0, 0, []), zi0), (5, .iload_n 0, ([0], 0, 0, []), zi0), (6, .if_icmp .ge 20, ([26], 0, 0, []), zi0), (9, .iload_n 1, ([1], 0, 0, []), zi0), (10, .iload_n 0, ([0], 0, 0, []), zi0), (11, .iload_n 2, ([2], 0, 0, []), zi0), (12, .invokestatic 35, ([0, 1, 15], 0, 0, []), mi_AL_isUnit), (15, .invokestatic 59, ([1, 1, 45], 0, 0, []), mi_T_oneIf), (18, .iadd, ([], 0, 0, []), zi0), (19, .istore_n 1, ([1], 0, 0, []), zi0), (20, .iinc 2 1, ([], nI 1, 0, []), zi0), (23, .goto (-19), ([4], 0, 0, []), zi0), (26, .iload_n 0, ([0], 0, 0, []), zi0), (27, .iload_n 1, ([1], 0, 0, []), zi0), (28, .invokestatic 66, ([0, 1, 48], 0, 0, []), mi_CO_sequences), (31, .ireturn, ([], 0, 0, []), zi0)]
def cu_AL_candidates : List (Nat × List Nat) := [(4, [0, 1, 2])]
set_option maxRecDepth 100000 in
theorem oc_AL_candidates : cd_AL_candidates.all (zchk mi_AL_candidates) = true := by decide +kernel
set_option maxRecDepth 100000 in
theorem ow_AL_candidates : zWs mi_AL_candidates cd_AL_candidates := ⟨trivial, trivial, trivial, trivial, trivial, trivial, trivial, trivial, trivial, trivial, ⟨rfl, ms_AL_isUnit⟩, ⟨rfl, ms_T_oneIf⟩, trivial, trivial, trivial, trivial, trivial, trivial, ⟨rfl, ms_CO_sequences⟩, trivial, trivial⟩
theorem ok_AL_candidates : zgood2 mi_AL_candidates cd_AL_candidates := ⟨oc_AL_candidates, ow_AL_candidates⟩
def cd_AL_inverse : List ZE := [(0, .iconst 0, ([], nI 0, 0, []), zi0), (1, .istore_n 3, ([3], 0, 0, []), zi0), (2, .iload_n 3, ([3], 0, 0, []), zi0), (3, .iload_n 1, ([1], 0, 0, []), zi0), (4, .if_icmp .ge 21, ([25], 0, 0, []), zi0), (7, .iload_n 0, ([0], 0, 0, []), zi0), (8, .iload_n 1, ([1], 0, 0, []), zi0), (9, .iload_n 2, ([2], 0, 0, []), zi0), (10, .iload_n 3, ([3], 0, 0, []), zi0), (11, .invokestatic 21, ([0, 1, 3], 0, 0, []), mi_AL_product), (14, .ifCond .ne 5, ([19], 0, 0, []), zi0), (17, .iload_n 3, ([3], 0, 0, []), zi0), (18, .ireturn, ([], 0, 0, []), zi0), (19, .iinc 3 1, ([], nI 1, 0, []), zi0), (22, .goto (-20), ([2], 0, 0, []), zi0), (25, .iconst 0, ([], nI 0, 0, []), zi0), (26, .ireturn, ([], 0, 0, []), zi0)]
def cu_AL_inverse : List (Nat × List Nat) := [(2, [0, 1, 2, 3])]
set_option maxRecDepth 100000 in
theorem oc_AL_inverse : cd_AL_inverse.all (zchk mi_AL_inverse) = true := by decide +kernel
set_option maxRecDepth 100000 in
theorem ow_AL_inverse : zWs mi_AL_inverse cd_AL_inverse := ⟨trivial, trivial, trivial, trivial, trivial, trivial, trivial, trivial, trivial, ⟨rfl, ms_AL_product⟩, trivial, trivial, trivial, trivial, trivial, trivial, trivial, trivial⟩
theorem ok_AL_inverse : zgood2 mi_AL_inverse cd_AL_inverse := ⟨oc_AL_inverse, ow_AL_inverse⟩
def cd_AL_isBrace : List ZE := [(0, .iconst 0, ([], nI 0, 0, []), zi0), (1, .istore_n 2, ([2], 0, 0, []), zi0), (2, .iload_n 2, ([2], 0, 0, []), zi0), (3, .iload_n 0, ([0], 0, 0, []), zi0), (4, .if_icmp .ge 63, ([67], 0, 0, []), zi0), (7, .iconst 0, ([], nI 0, 0, []), zi0), (8, .istore_n 3, ([3], 0, 0, []), zi0), (9, .iload_n 3, ([3], 0, 0, []), zi0), (10, .iload_n 0, ([0], 0, 0, []), zi0), (11, .if_icmp .ge 50, ([61], 0, 0, []), zi0), (14, .iload_n 1, ([1], 0, 0, []), zi0), (15, .iload_n 2, ([2], 0, 0, []), zi0), (16, .iload_n 1, ([1], 0, 0, []), zi0), (17, .iload_n 2, ([2], 0, 0, []), zi0), (18, .invokestatic 29, ([0, 1, 14], 0, 0, []), mi_CO_digit), (21, .iload_n 3, ([3], 0, 0, []), zi0), (22, .imul, ([], 0, 0, []), zi0), (23, .iadd, ([], 0, 0, []), zi0), (24, .iload_n 0, ([0], 0, 0, []), zi0), (25, .invokestatic 43, ([0, 1, 22], 0, 0, []), mi_AL_rest), (28, .invokestatic 29, ([0, 1, 14], 0, 0, []), mi_CO_digit), (31, .istore 4, ([], 0, 0, []), zi0), (33, .iload 4, ([], 0, 0, []), zi0), (35, .iload_n 1, ([1], 0, 0, []), zi0), (36, .iload_n 2, ([2], 0, 0, []), zi0), (37, .invokestatic 29, ([0, 1, 14], 0, 0, []), mi_CO_digit), (40, .iload_n 1, ([1], 0, 0, []), zi0), (41, .iload_n 3, ([3], 0, 0, []), zi0), (42, .invokestatic 29, ([0, 1, 14], 0, 0, []), mi_CO_digit), (45, .imul, ([], 0, 0, []), zi0), (46, .iload_n 0, ([0], 0, 0, []), zi0), (47, .invokestatic 43, ([0, 1, 22], 0, 0, []), mi_AL_rest), (50, .if_icmp .eq 5, ([55], 0, 0, []), zi0), (53, .iconst 0, ([], nI 0, 0, []), zi0), (54, .ireturn, ([], 0, 0, []), zi0), (55, .iinc 3 1, ([], nI 1, 0, []), zi0), (58, .goto (-49), ([9], 0, 0, []), zi0), (61, .iinc 2 1, ([], nI 1, 0, []), zi0), (64, .goto (-62), ([2], 0, 0, []), zi0), (67, .iconst 1, ([], nI 1, 0, []), zi0), (68, .ireturn, ([], 0, 0, []), zi0)]
def cu_AL_isBrace : List (Nat × List Nat) := [(2, [0, 1, 2]), (9, [0, 1, 2, 3])]
set_option maxRecDepth 100000 in
theorem oc_AL_isBrace : cd_AL_isBrace.all (zchk mi_AL_isBrace) = true := by decide +kernel
set_option maxRecDepth 100000 in
theorem ow_AL_isBrace : zWs mi_AL_isBrace cd_AL_isBrace := ⟨trivial, trivial, trivial, trivial, trivial, trivial, trivial, trivial, trivial, trivial, trivial, trivial, trivial, trivial, ⟨rfl, ms_CO_digit⟩, trivial, trivial, trivial, trivial, ⟨rfl, ms_AL_rest⟩, ⟨rfl, ms_CO_digit⟩, trivial, trivial, trivial, trivial, ⟨rfl, ms_CO_digit⟩, trivial, trivial, ⟨rfl, ms_CO_digit⟩, trivial, trivial, ⟨rfl, ms_AL_rest⟩, trivial, trivial, trivial, trivial, trivial, trivial, trivial, trivial, trivial, trivial⟩
theorem ok_AL_isBrace : zgood2 mi_AL_isBrace cd_AL_isBrace := ⟨oc_AL_isBrace, ow_AL_isBrace⟩
def cd_AL_quotient : List ZE := [(0, .iconst 0, ([], nI 0, 0, []), zi0), (1, .istore_n 3, ([3], 0, 0, []), zi0), (2, .iload_n 3, ([3], 0, 0, []), zi0), (3, .iload_n 0, ([0], 0, 0, []), zi0), (4, .if_icmp .ge 22, ([26], 0, 0, []), zi0), (7, .iload_n 2, ([2], 0, 0, []), zi0), (8, .iload_n 3, ([3], 0, 0, []), zi0), (9, .imul, ([], 0, 0, []), zi0), (10, .iload_n 0, ([0], 0, 0, []), zi0), (11, .invokestatic 43, ([0, 1, 22], 0, 0, []), mi_AL_rest), (14, .iload_n 1, ([1], 0, 0, []), zi0), (15, .if_icmp .ne 5, ([20], 0, 0, []), zi0), (18, .iload_n 3, ([3], 0, 0, []), zi0), (19, .ireturn, ([], 0, 0, []), zi0), (20, .iinc 3 1, ([], nI 1, 0, []), zi0), (23, .goto (-21), ([2], 0, 0, []), zi0), (26, .iconst 0, ([], nI 0, 0, []), zi0), (27, .ireturn, ([], 0, 0, []), zi0)]
def cu_AL_quotient : List (Nat × List Nat) := [(2, [0, 1, 2, 3])]
set_option maxRecDepth 100000 in
theorem oc_AL_quotient : cd_AL_quotient.all (zchk mi_AL_quotient) = true := by decide +kernel
set_option maxRecDepth 100000 in
theorem ow_AL_quotient : zWs mi_AL_quotient cd_AL_quotient := ⟨trivial, trivial, trivial, trivial, trivial, trivial, trivial, trivial, trivial, ⟨rfl, ms_AL_rest⟩, trivial, trivial, trivial, trivial, trivial, trivial, trivial, trivial, trivial⟩
theorem ok_AL_quotient : zgood2 mi_AL_quotient cd_AL_quotient := ⟨oc_AL_quotient, ow_AL_quotient⟩
def cd_AL_unitAfter : List ZE := [(0, .iload_n 1, ([1], 0, 0, []), zi0), (1, .iconst 1, ([], nI 1, 0, []), zi0), (2, .iadd, ([], 0, 0, []), zi0), (3, .istore_n 2, ([2], 0, 0, []), zi0), (4, .iload_n 2, ([2], 0, 0, []), zi0), (5, .iload_n 0, ([0], 0, 0, []), zi0), (6, .if_icmp .ge 19, ([25], 0, 0, []), zi0), (9, .iload_n 0, ([0], 0, 0, []), zi0), (10, .iload_n 2, ([2], 0, 0, []), zi0), (11, .invokestatic 35, ([0, 1, 15], 0, 0, []), mi_AL_isUnit), (14, .ifCond .eq 5, ([19], 0, 0, []), zi0), (17, .iload_n 2, ([2], 0, 0, []), zi0), (18, .ireturn, ([], 0, 0, []), zi0), (19, .iinc 2 1, ([], nI 1, 0, []), zi0), (22, .goto (-18), ([4], 0, 0, []), zi0), (25, .iconst 1, ([], nI 1, 0, []), zi0), (26, .ireturn, ([], 0, 0, []), zi0)]
def cu_AL_unitAfter : List (Nat × List Nat) := [(4, [0, 2])]
set_option maxRecDepth 100000 in
theorem oc_AL_unitAfter : cd_AL_unitAfter.all (zchk mi_AL_unitAfter) = true := by decide +kernel
set_option maxRecDepth 100000 in
theorem ow_AL_unitAfter : zWs mi_AL_unitAfter cd_AL_unitAfter := ⟨trivial, trivial, trivial, trivial, trivial, trivial, trivial, trivial, trivial, ⟨rfl, ms_AL_isUnit⟩, trivial, trivial, trivial, trivial, trivial, trivial, trivial, trivial⟩
theorem ok_AL_unitAfter : zgood2 mi_AL_unitAfter cd_AL_unitAfter := ⟨oc_AL_unitAfter, ow_AL_unitAfter⟩
def cd_BA_tuples : List ZE := [(0, .iload_n 1, ([1], 0, 0, []), zi0), (1, .aload_n 0, ([0], 0, 0, []), zi0), (2, .getfield 12, ([7, 0, 0, 130], 0, 0, []), zi0), (5, .invokevirtual 74, ([0, 3, 51], 0, 0, []), mi_PM_points), (8, .invokestatic 98, ([0, 3, 52], 0, 0, []), mi_CO_sequences), (11, .ireturn, ([], 0, 0, []), zi0)]
def cu_BA_tuples : List (Nat × List Nat) := []
set_option maxRecDepth 100000 in
theorem oc_BA_tuples : cd_BA_tuples.all (zchk mi_BA_tuples) = true := by decide +kernel
set_option maxRecDepth 100000 in
theorem ow_BA_tuples : zWs mi_BA_tuples cd_BA_tuples := ⟨trivial, trivial, rfl, ⟨rfl, rfl, mv_PM_points⟩, ⟨rfl, ms_CO_sequences⟩, trivial, trivial⟩
theorem ok_BA_tuples : zgood2 mi_BA_tuples cd_BA_tuples := ⟨oc_BA_tuples, ow_BA_tuples⟩
def cd_BR_append : List ZE := [(0, .aload_n 0, ([0], 0, 0, []), zi0), (1, .getfield 17, ([1, 2, 0, 49], 0, 0, []), zi0), (4, .invokestatic 25, ([0, 2, 218], 0, 0, []), mi_BR_hasIndex), (7, .ifCond .eq 50, ([57], 0, 0, []), zi0), (10, .iload_n 1, ([1], 0, 0, []), zi0), (11, .invokestatic 21, ([0, 2, 203], 0, 0, []), mi_BR_isCapital), (14, .istore_n 2, ([2], 0, 0, []), zi0), (15, .aload_n 0, ([0], 0, 0, []), zi0), (16, .getfield 9, ([1, 0, 0, 47], 0, 0, []), zi0), (19, .aload_n 0, ([0], 0, 0, []), zi0), (20, .getfield 17, ([1, 2, 0, 49], 0, 0, []), zi0), (23, .iload_n 1, ([1], 0, 0, []), zi0), (24, .iload_n 2, ([2], 0, 0, []), zi0), (25, .ifCond .eq 8, ([33], 0, 0, []), zi0), (28, .bipush 65, ([], nI 65, 0, []), zi0), (30, .goto 5, ([35], 0, 0, []), zi0), (33, .bipush 97, ([], nI 97, 0, []), zi0), (35, .isub, ([], 0, 0, []), zi0), (36, .iastore, ([], 0, 0, []), zi0), (37, .aload_n 0, ([0], 0, 0, []), zi0), (38, .getfield 13, ([1, 1, 0, 48], 0, 0, []), zi0), (41, .aload_n 0, ([0], 0, 0, []), zi0), (42, .getfield 17, ([1, 2, 0, 49], 0, 0, []), zi0), (45, .iload_n 2, ([2], 0, 0, []), zi0), (46, .bastore, ([], 0, 0, []), zi0), (47, .aload_n 0, ([0], 0, 0, []), zi0), (48, .dup, ([], 0, 0, []), zi0), (49, .getfield 17, ([1, 2, 0, 49], 0, 0, []), zi0), (52, .iconst 1, ([], nI 1, 0, []), zi0), (53, .iadd, ([], 0, 0, []), zi0), (54, .putfield 17, ([1, 2, 0, 49], 0, 0, []), zi0), (57, .return_, ([], 0, 0, []), zi0)]
def cu_BR_append : List (Nat × List Nat) := []
set_option maxRecDepth 100000 in
theorem oc_BR_append : cd_BR_append.all (zchk mi_BR_append) = true := by decide +kernel
set_option maxRecDepth 100000 in
theorem ow_BR_append : zWs mi_BR_append cd_BR_append := ⟨trivial, rfl, ⟨rfl, ms_BR_hasIndex⟩, trivial, trivial, ⟨rfl, ms_BR_isCapital⟩, trivial, trivial, rfl, trivial, rfl, trivial, trivial, trivial, trivial, trivial, trivial, trivial, trivial, trivial, rfl, trivial, rfl, trivial, trivial, trivial, trivial, rfl, trivial, trivial, ⟨rfl, rfl⟩, trivial, trivial⟩
theorem ok_BR_append : zgood2 mi_BR_append cd_BR_append := ⟨oc_BR_append, ow_BR_append⟩
def cd_BR_isCapitalAt : List ZE := [(0, .iload_n 1, ([1], 0, 0, []), zi0), (1, .invokestatic 25, ([0, 2, 218], 0, 0, []), mi_BR_hasIndex), (4, .ifCond .eq 16, ([20], 0, 0, []), zi0), (7, .aload_n 0, ([0], 0, 0, []), zi0), (8, .getfield 13, ([1, 1, 0, 48], 0, 0, []), zi0), (11, .iload_n 1, ([1], 0, 0, []), zi0), (12, .baload, ([], 0, 0, []), zi0), (13, .ifCond .eq 7, ([20], 0, 0, []), zi0), (16, .iconst 1, ([], nI 1, 0, []), zi0), (17, .goto 4, ([21], 0, 0, []), zi0), (20, .iconst 0, ([], nI 0, 0, []), zi0), (21, .ireturn, ([], 0, 0, []), zi0)]
def cu_BR_isCapitalAt : List (Nat × List Nat) := []
set_option maxRecDepth 100000 in
theorem oc_BR_isCapitalAt : cd_BR_isCapitalAt.all (zchk mi_BR_isCapitalAt) = true := by decide +kernel
set_option maxRecDepth 100000 in
theorem ow_BR_isCapitalAt : zWs mi_BR_isCapitalAt cd_BR_isCapitalAt := ⟨trivial, ⟨rfl, ms_BR_hasIndex⟩, trivial, trivial, rfl, trivial, trivial, trivial, trivial, trivial, trivial, trivial, trivial⟩
theorem ok_BR_isCapitalAt : zgood2 mi_BR_isCapitalAt cd_BR_isCapitalAt := ⟨oc_BR_isCapitalAt, ow_BR_isCapitalAt⟩
def cd_BR_isLetter : List ZE := [(0, .iload_n 0, ([0], 0, 0, []), zi0), (1, .bipush 97, ([], nI 97, 0, []), zi0), (3, .if_icmp .lt 9, ([12], 0, 0, []), zi0), (6, .iload_n 0, ([0], 0, 0, []), zi0), (7, .bipush 100, ([], nI 100, 0, []), zi0), (9, .if_icmp .lt 10, ([19], 0, 0, []), zi0), (12, .iload_n 0, ([0], 0, 0, []), zi0), (13, .invokestatic 21, ([0, 2, 203], 0, 0, []), mi_BR_isCapital), (16, .ifCond .eq 7, ([23], 0, 0, []), zi0), (19, .iconst 1, ([], nI 1, 0, []), zi0), (20, .goto 4, ([24], 0, 0, []), zi0), (23, .iconst 0, ([], nI 0, 0, []), zi0), (24, .ireturn, ([], 0, 0, []), zi0)]
def cu_BR_isLetter : List (Nat × List Nat) := []
set_option maxRecDepth 100000 in
theorem oc_BR_isLetter : cd_BR_isLetter.all (zchk mi_BR_isLetter) = true := by decide +kernel
set_option maxRecDepth 100000 in
theorem ow_BR_isLetter : zWs mi_BR_isLetter cd_BR_isLetter := ⟨trivial, trivial, trivial, trivial, trivial, trivial, trivial, ⟨rfl, ms_BR_isCapital⟩, trivial, trivial, trivial, trivial, trivial, trivial⟩
theorem ok_BR_isLetter : zgood2 mi_BR_isLetter cd_BR_isLetter := ⟨oc_BR_isLetter, ow_BR_isLetter⟩
def cd_BR_position : List ZE := [(0, .iload_n 1, ([1], 0, 0, []), zi0), (1, .invokestatic 25, ([0, 2, 218], 0, 0, []), mi_BR_hasIndex), (4, .ifCond .eq 12, ([16], 0, 0, []), zi0), (7, .aload_n 0, ([0], 0, 0, []), zi0), (8, .getfield 9, ([1, 0, 0, 47], 0, 0, []), zi0), (11, .iload_n 1, ([1], 0, 0, []), zi0), (12, .iaload, ([], 0, 0, []), zi0), (13, .goto 4, ([17], 0, 0, []), zi0), (16, .iconst 0, ([], nI 0, 0, []), zi0), (17, .ireturn, ([], 0, 0, []), zi0)]
def cu_BR_position : List (Nat × List Nat) := []
set_option maxRecDepth 100000 in
theorem oc_BR_position : cd_BR_position.all (zchk mi_BR_position) = true := by decide +kernel
set_option maxRecDepth 100000 in
theorem ow_BR_position : zWs mi_BR_position cd_BR_position := ⟨trivial, ⟨rfl, ms_BR_hasIndex⟩, trivial, trivial, rfl, trivial, trivial, trivial, trivial, trivial, trivial⟩
theorem ok_BR_position : zgood2 mi_BR_position cd_BR_position := ⟨oc_BR_position, ow_BR_position⟩
def cd_CH_cycleLength : List ZE := [(0, .aload_n 0, ([0], 0, 0, []), zi0), (1, .invokevirtual 9, ([0, 1, 159], 0, 0, []), mi_PM_points), (4, .aload_n 0, ([0], 0, 0, []), zi0), (5, .invokevirtual 9, ([0, 1, 159], 0, 0, []), mi_PM_points), (8, .imul, ([], 0, 0, []), zi0), (9, .istore_n 2, ([2], 0, 0, []), zi0), (10, .aload_n 0, ([0], 0, 0, []), zi0), (11, .iload_n 1, ([1], 0, 0, []), zi0), (12, .invokevirtual 21, ([0, 1, 161], 0, 0, []), mi_PM_imageOf), (15, .istore_n 3, ([3], 0, 0, []), zi0), (16, .iconst 1, ([], nI 1, 0, []), zi0), (17, .istore 4, ([], 0, 0, []), zi0), (19, .iload 4, ([], 0, 0, []), zi0), (21, .iload_n 2, ([2], 0, 0, []), zi0), (22, .if_icmp .ge 20, ([42], 0, 0, []), zi0), (25, .iload_n 3, ([3], 0, 0, []), zi0), (26, .iload_n 1, ([1], 0, 0, []), zi0), (27, .if_icmp .eq 15, ([42], 0, 0, []), zi0), (30, .aload_n 0, ([0], 0, 0, []), zi0), (31, .iload_n 3, ([3], 0, 0, []), zi0), (32, .invokevirtual 21, ([0, 1, 161], 0, 0, []), mi_PM_imageOf), (35, .istore_n 3, ([3], 0, 0, []), zi0), (36, .iinc 4 1, ([], nI 1, 0, []), zi0), (39, .goto (-20), ([19], 0, 0, []), zi0), (42, .iload 4, ([], 0, 0, []), zi0), (44, .ireturn, ([], 0, 0, []), zi0)]
def cu_CH_cycleLength : List (Nat × List Nat) := [(19, [0, 1, 2, 3, 4])]
set_option maxRecDepth 100000 in
theorem oc_CH_cycleLength : cd_CH_cycleLength.all (zchk mi_CH_cycleLength) = true := by decide +kernel
set_option maxRecDepth 100000 in
theorem ow_CH_cycleLength : zWs mi_CH_cycleLength cd_CH_cycleLength := ⟨trivial, ⟨rfl, rfl, mv_PM_points⟩, trivial, ⟨rfl, rfl, mv_PM_points⟩, trivial, trivial, trivial, trivial, ⟨rfl, rfl, mv_PM_imageOf⟩, trivial, trivial, trivial, trivial, trivial, trivial, trivial, trivial, trivial, trivial, trivial, ⟨rfl, rfl, mv_PM_imageOf⟩, trivial, trivial, trivial, trivial, trivial, trivial⟩
theorem ok_CH_cycleLength : zgood2 mi_CH_cycleLength cd_CH_cycleLength := ⟨oc_CH_cycleLength, ow_CH_cycleLength⟩
def cd_CH_isBijective : List ZE := [(0, .aload_n 0, ([0], 0, 0, []), zi0), (1, .invokevirtual 9, ([0, 1, 159], 0, 0, []), mi_PM_points), (4, .istore_n 1, ([1], 0, 0, []), zi0), (5, .lconst 0, ([], 0, lN 0, []), zi0), (6, .lstore_n 2, ([2], 0, 0, []), zi0), (7, .iconst 0, ([], nI 0, 0, []), zi0), (8, .istore 4, ([], 0, 0, []), zi0), (10, .iload 4, ([], 0, 0, []), zi0), (12, .iload_n 1, ([1], 0, 0, []), zi0), (13, .if_icmp .ge 40, ([53], 0, 0, []), zi0), (16, .iconst 0, ([], nI 0, 0, []), zi0), (17, .istore 5, ([], 0, 0, []), zi0), (19, .iload 5, ([], 0, 0, []), zi0), (21, .iload_n 1, ([1], 0, 0, []), zi0), (22, .if_icmp .ge 25, ([47], 0, 0, []), zi0), (25, .lload_n 2, ([2], 0, 0, []), zi0), (26, .lconst 1, ([], 0, lN 1, []), zi0), (27, .aload_n 0, ([0], 0, 0, []), zi0), (28, .iload 4, ([], 0, 0, []), zi0), (30, .iload 5, ([], 0, 0, []), zi0), (32, .invokestatic 15, ([0, 1, 160], 0, 0, []), mi_CO_pairOf), (35, .invokevirtual 21, ([0, 1, 161], 0, 0, []), mi_PM_imageOf), (38, .lshl, ([], 0, 0, []), zi0), (39, .lor, ([], 0, 0, []), zi0), (40, .lstore_n 2, ([2], 0, 0, []), zi0), (41, .iinc 5 1, ([], nI 1, 0, []), zi0), (44, .goto (-25), ([19], 0, 0, []), zi0), (47, .iinc 4 1, ([], nI 1, 0, []), zi0), (50, .goto (-40), ([10], 0, 0, []), zi0), (53, .lload_n 2, ([2], 0, 0, []), zi0), (54, .invokestatic 25, ([0, 1, 162], 0, 0, []), mi_JL_bitCount), (57, .iload_n 1, ([1], 0, 0, []), zi0), (58, .iload_n 1, ([1], 0, 0, []), zi0), (59, .imul, ([], 0, 0, []), zi0), (60, .if_icmp .ne 7, ([67], 0, 0, []), zi0), (63, .iconst 1, ([], nI 1, 0, []), zi0), (64, .goto 4, ([68], 0, 0, []), zi0), (67, .iconst 0, ([], nI 0, 0, []), zi0), (68, .ireturn, ([], 0, 0, []), zi0)]
def cu_CH_isBijective : List (Nat × List Nat) := [(10, [0, 1, 2, 4]), (19, [0, 1, 2, 4, 5])]
set_option maxRecDepth 100000 in
theorem oc_CH_isBijective : cd_CH_isBijective.all (zchk mi_CH_isBijective) = true := by decide +kernel
set_option maxRecDepth 100000 in
theorem ow_CH_isBijective : zWs mi_CH_isBijective cd_CH_isBijective := ⟨trivial, ⟨rfl, rfl, mv_PM_points⟩, trivial, trivial, trivial, trivial, trivial, trivial, trivial, trivial, trivial, trivial, trivial, trivial, trivial, trivial, trivial, trivial, trivial, trivial, ⟨rfl, ms_CO_pairOf⟩, ⟨rfl, rfl, mv_PM_imageOf⟩, trivial, trivial, trivial, trivial, trivial, trivial, trivial, trivial, ⟨rfl, ms_JL_bitCount⟩, trivial, trivial, trivial, trivial, trivial, trivial, trivial, trivial, trivial⟩
theorem ok_CH_isBijective : zgood2 mi_CH_isBijective cd_CH_isBijective := ⟨oc_CH_isBijective, ow_CH_isBijective⟩
def cd_CH_isInvolutive : List ZE := [(0, .aload_n 0, ([0], 0, 0, []), zi0), (1, .invokevirtual 9, ([0, 1, 159], 0, 0, []), mi_PM_points), (4, .istore_n 1, ([1], 0, 0, []), zi0), (5, .iconst 0, ([], nI 0, 0, []), zi0), (6, .istore_n 2, ([2], 0, 0, []), zi0), (7, .iload_n 2, ([2], 0, 0, []), zi0), (8, .iload_n 1, ([1], 0, 0, []), zi0), (9, .if_icmp .ge 46, ([55], 0, 0, []), zi0), (12, .iconst 0, ([], nI 0, 0, []), zi0), (13, .istore_n 3, ([3], 0, 0, []), zi0), (14, .iload_n 3, ([3], 0, 0, []), zi0), (15, .iload_n 1, ([1], 0, 0, []), zi0), (16, .if_icmp .ge 33, ([49], 0, 0, []), zi0), (19, .iload_n 2, ([2], 0, 0, []), zi0), (20, .iload_n 3, ([3], 0, 0, []), zi0), (21, .invokestatic 15, ([0, 1, 160], 0, 0, []), mi_CO_pairOf), (24, .istore 4, ([], 0, 0, []), zi0), (26, .aload_n 0, ([0], 0, 0, []), zi0), (27, .aload_n 0, ([0], 0, 0, []), zi0), (28, .iload 4, ([], 0, 0, []), zi0), (30, .invokevirtual 21, ([0, 1, 161], 0, 0, []), mi_PM_imageOf), (33, .invokevirtual 21, ([0, 1, 161], 0, 0, []), mi_PM_imageOf), (36, .iload 4, ([], 0, 0, []), zi0), (38, .if_icmp .eq 5, ([43], 0, 0, []), zi0), (41, .iconst 0, ([], nI 0, 0, []), zi0), (42, .ireturn, ([], 0, 0, []), zi0), (43, .iinc 3 1, ([], nI 1, 0, []), zi0), (46, .goto (-32), ([14], 0, 0, []), zi0), (49, .iinc 2 1, ([], nI 1, 0, []), zi0), (52, .goto (-45), ([7], 0, 0, []), zi0), (55, .iconst 1, ([], nI 1, 0, []), zi0), (56, .ireturn, ([], 0, 0, []), zi0)]
def cu_CH_isInvolutive : List (Nat × List Nat) := [(7, [0, 1, 2]), (14, [0, 1, 2, 3])]
set_option maxRecDepth 100000 in
theorem oc_CH_isInvolutive : cd_CH_isInvolutive.all (zchk mi_CH_isInvolutive) = true := by decide +kernel
set_option maxRecDepth 100000 in
theorem ow_CH_isInvolutive : zWs mi_CH_isInvolutive cd_CH_isInvolutive := ⟨trivial, ⟨rfl, rfl, mv_PM_points⟩, trivial, trivial, trivial, trivial, trivial, trivial, trivial, trivial, trivial, trivial, trivial, trivial, trivial, ⟨rfl, ms_CO_pairOf⟩, trivial, trivial, trivial, trivial, ⟨rfl, rfl, mv_PM_imageOf⟩, ⟨rfl, rfl, mv_PM_imageOf⟩, trivial, trivial, trivial, trivial, trivial, trivial, trivial, trivial, trivial, trivial, trivial⟩
theorem ok_CH_isInvolutive : zgood2 mi_CH_isInvolutive cd_CH_isInvolutive := ⟨oc_CH_isInvolutive, ow_CH_isInvolutive⟩
def cd_CH_isSquareFree : List ZE := [(0, .iconst 0, ([], nI 0, 0, []), zi0), (1, .istore_n 1, ([1], 0, 0, []), zi0), (2, .iload_n 1, ([1], 0, 0, []), zi0), (3, .aload_n 0, ([0], 0, 0, []), zi0), (4, .invokevirtual 9, ([0, 1, 159], 0, 0, []), mi_PM_points), (7, .if_icmp .ge 26, ([33], 0, 0, []), zi0), (10, .iload_n 1, ([1], 0, 0, []), zi0), (11, .iload_n 1, ([1], 0, 0, []), zi0), (12, .invokestatic 15, ([0, 1, 160], 0, 0, []), mi_CO_pairOf), (15, .istore_n 2, ([2], 0, 0, []), zi0), (16, .aload_n 0, ([0], 0, 0, []), zi0), (17, .iload_n 2, ([2], 0, 0, []), zi0), (18, .invokevirtual 21, ([0, 1, 161], 0, 0, []), mi_PM_imageOf), (21, .iload_n 2, ([2], 0, 0, []), zi0), (22, .if_icmp .eq 5, ([27], 0, 0, []), zi0), (25, .iconst 0, ([], nI 0, 0, []), zi0), (26, .ireturn, ([], 0, 0, []), zi0), (27, .iinc 1 1, ([], nI 1, 0, []), zi0), (30, .goto (-28), ([2], 0, 0, []), zi0), (33, .iconst 1, ([], nI 1, 0, []), zi0), (34, .ireturn, ([], 0, 0, []), zi0)]
def cu_CH_isSquareFree : List (Nat × List Nat) := [(2, [0, 1])]
set_option maxRecDepth 100000 in
theorem oc_CH_isSquareFree : cd_CH_isSquareFree.all (zchk mi_CH_isSquareFree) = true := by decide +kernel
set_option maxRecDepth 100000 in
theorem ow_CH_isSquareFree : zWs mi_CH_isSquareFree cd_CH_isSquareFree := ⟨trivial, trivial, trivial, trivial, ⟨rfl, rfl, mv_PM_points⟩, trivial, trivial, trivial, ⟨rfl, ms_CO_pairOf⟩, trivial, trivial, trivial, ⟨rfl, rfl, mv_PM_imageOf⟩, trivial, trivial, trivial, trivial, trivial, trivial, trivial, trivial, trivial⟩
theorem ok_CH_isSquareFree : zgood2 mi_CH_isSquareFree cd_CH_isSquareFree := ⟨oc_CH_isSquareFree, ow_CH_isSquareFree⟩
def cd_CO_isCode : List ZE := [(0, .iconst 0, ([], nI 0, 0, []), zi0), (1, .istore_n 3, ([3], 0, 0, []), zi0), (2, .iload_n 3, ([3], 0, 0, []), zi0), (3, .iload_n 1, ([1], 0, 0, []), zi0), (4, .if_icmp .ge 20, ([24], 0, 0, []), zi0), (7, .iload_n 0, ([0], 0, 0, []), zi0), (8, .iload_n 3, ([3], 0, 0, []), zi0), (9, .invokestatic 7, ([0, 0, 221], 0, 0, []), mi_CO_digit), (12, .iload_n 2, ([2], 0, 0, []), zi0), (13, .if_icmp .lt 5, ([18], 0, 0, []), zi0), (16, .iconst 0, ([], nI 0, 0, []), zi0), (17, .ireturn, ([], 0, 0, []), zi0), (18, .iinc 3 1, ([], nI 1, 0, []), zi0), (21, .goto (-19), ([2], 0, 0, []), zi0), (24, .iload_n 0, ([0], 0, 0, []), zi0), (25, .iconst 3, ([], nI 3, 0, []), zi0), (26, .iload_n 1, ([1], 0, 0, []), zi0), (27, .imul, ([], 0, 0, []), zi0), (28, .iushr, ([], 0, 0, []), zi0), (29, .ifCond .ne 7, ([36], 0, 0, []), zi0), (32, .iconst 1, ([], nI 1, 0, []), zi0), (33, .goto 4, ([37], 0, 0, []), zi0), (36, .iconst 0, ([], nI 0, 0, []), zi0), (37, .ireturn, ([], 0, 0, []), zi0)]
def cu_CO_isCode : List (Nat × List Nat) := [(2, [0, 1, 2, 3])]
set_option maxRecDepth 100000 in
theorem oc_CO_isCode : cd_CO_isCode.all (zchk mi_CO_isCode) = true := by decide +kernel
set_option maxRecDepth 100000 in
theorem ow_CO_isCode : zWs mi_CO_isCode cd_CO_isCode := ⟨trivial, trivial, trivial, trivial, trivial, trivial, trivial, ⟨rfl, ms_CO_digit⟩, trivial, trivial, trivial, trivial, trivial, trivial, trivial, trivial, trivial, trivial, trivial, trivial, trivial, trivial, trivial, trivial, trivial⟩
theorem ok_CO_isCode : zgood2 mi_CO_isCode cd_CO_isCode := ⟨oc_CO_isCode, ow_CO_isCode⟩
def cd_CO_next : List ZE := [(0, .iload_n 0, ([0], 0, 0, []), zi0), (1, .istore_n 3, ([3], 0, 0, []), zi0), (2, .iconst 0, ([], nI 0, 0, []), zi0), (3, .istore 4, ([], 0, 0, []), zi0), (5, .iload 4, ([], 0, 0, []), zi0), (7, .iload_n 1, ([1], 0, 0, []), zi0), (8, .if_icmp .ge 42, ([50], 0, 0, []), zi0), (11, .iload_n 3, ([3], 0, 0, []), zi0), (12, .iload 4, ([], 0, 0, []), zi0), (14, .invokestatic 7, ([0, 0, 221], 0, 0, []), mi_CO_digit), (17, .iconst 1, ([], nI 1, 0, []), zi0), (18, .iadd, ([], 0, 0, []), zi0), (19, .iload_n 2, ([2], 0, 0, []), zi0), (20, .if_icmp .ge 12, ([32], 0, 0, []), zi0), (23, .iload_n 3, ([3], 0, 0, []), zi0), (24, .iconst 1, ([], nI 1, 0, []), zi0), (25, .iconst 3, ([], nI 3, 0, []), zi0), (26, .iload 4, ([], 0, 0, []), zi0), (28, .imul, ([], 0, 0, []), zi0), (29, .ishl, ([], 0, 0, []), zi0), (30, .iadd, ([], 0, 0, []), zi0), (31, .ireturn, ([], 0, 0, []), zi0), (32, .iload_n 3, ([3], 0, 0, []), zi0), (33, .bipush 7, ([], nI 7, 0, []), zi0), (35, .iconst 3, ([], nI 3, 0, []), zi0), (36, .iload 4, ([], 0, 0, []), zi0), (38, .imul, ([], 0, 0, []), zi0), (39, .ishl, ([], 0, 0, []), zi0), (40, .iconst (-1), ([], (-1), 0, []), zi0), (41, .ixor, ([], 0, 0, []), zi0), (42, .iand, ([], 0, 0, []), zi0), (43, .istore_n 3, ([3], 0, 0, []), zi0), (44, .iinc 4 1, ([], nI 1, 0, []), zi0), (47, .goto (-42), ([5], 0, 0, []), zi0), (50, .iload_n 3, ([3], 0, 0, []), zi0), (51, .ireturn, ([], 0, 0, []), zi0)]
def cu_CO_next : List (Nat × List Nat) := [(5, [1, 2, 3, 4])]
set_option maxRecDepth 100000 in
theorem oc_CO_next : cd_CO_next.all (zchk mi_CO_next) = true := by decide +kernel
set_option maxRecDepth 100000 in
theorem ow_CO_next : zWs mi_CO_next cd_CO_next := ⟨trivial, trivial, trivial, trivial, trivial, trivial, trivial, trivial, trivial, ⟨rfl, ms_CO_digit⟩, trivial, trivial, trivial, trivial, trivial, trivial, trivial, trivial, trivial, trivial, trivial, trivial, trivial, trivial, trivial, trivial, trivial, trivial, trivial, trivial, trivial, trivial, trivial, trivial, trivial, trivial, trivial⟩
theorem ok_CO_next : zgood2 mi_CO_next cd_CO_next := ⟨oc_CO_next, ow_CO_next⟩
def cd_CO_turned : List ZE := [(0, .iconst 0, ([], nI 0, 0, []), zi0), (1, .istore_n 2, ([2], 0, 0, []), zi0), (2, .iconst 0, ([], nI 0, 0, []), zi0), (3, .istore_n 3, ([3], 0, 0, []), zi0), (4, .iload_n 3, ([3], 0, 0, []), zi0), (5, .iload_n 1, ([1], 0, 0, []), zi0), (6, .if_icmp .ge 19, ([25], 0, 0, []), zi0), (9, .iload_n 2, ([2], 0, 0, []), zi0), (10, .iconst 3, ([], nI 3, 0, []), zi0), (11, .ishl, ([], 0, 0, []), zi0), (12, .iload_n 0, ([0], 0, 0, []), zi0), (13, .iload_n 3, ([3], 0, 0, []), zi0), (14, .invokestatic 7, ([0, 0, 221], 0, 0, []), mi_CO_digit), (17, .ior, ([], 0, 0, []), zi0), (18, .istore_n 2, ([2], 0, 0, []), zi0), (19, .iinc 3 1, ([], nI 1, 0, []), zi0), (22, .goto (-18), ([4], 0, 0, []), zi0), (25, .iload_n 2, ([2], 0, 0, []), zi0), (26, .ireturn, ([], 0, 0, []), zi0)]
def cu_CO_turned : List (Nat × List Nat) := [(4, [0, 1, 2, 3])]
set_option maxRecDepth 100000 in
theorem oc_CO_turned : cd_CO_turned.all (zchk mi_CO_turned) = true := by decide +kernel
set_option maxRecDepth 100000 in
theorem ow_CO_turned : zWs mi_CO_turned cd_CO_turned := ⟨trivial, trivial, trivial, trivial, trivial, trivial, trivial, trivial, trivial, trivial, trivial, trivial, ⟨rfl, ms_CO_digit⟩, trivial, trivial, trivial, trivial, trivial, trivial, trivial⟩
theorem ok_CO_turned : zgood2 mi_CO_turned cd_CO_turned := ⟨oc_CO_turned, ow_CO_turned⟩
def cd_PM_appliedAt : List ZE := [(0, .iload_n 1, ([1], 0, 0, []), zi0), (1, .iload_n 2, ([2], 0, 0, []), zi0), (2, .ishr, ([], 0, 0, []), zi0), (3, .bipush 63, ([], nI 63, 0, []), zi0), (5, .iand, ([], 0, 0, []), zi0), (6, .istore_n 3, ([3], 0, 0, []), zi0), (7, .iload_n 1, ([1], 0, 0, []), zi0), (8, .iload_n 3, ([3], 0, 0, []), zi0), (9, .aload_n 0, ([0], 0, 0, []), zi0), (10, .iload_n 3, ([3], 0, 0, []), zi0), (11, .invokevirtual 23, ([0, 1, 105], 0, 0, []), mi_PM_imageOf), (14, .ixor, ([], 0, 0, []), zi0), (15, .iload_n 2, ([2], 0, 0, []), zi0), (16, .ishl, ([], 0, 0, []), zi0), (17, .ixor, ([], 0, 0, []), zi0), (18, .ireturn, ([], 0, 0, []), zi0)]
def cu_PM_appliedAt : List (Nat × List Nat) := []
set_option maxRecDepth 100000 in
theorem oc_PM_appliedAt : cd_PM_appliedAt.all (zchk mi_PM_appliedAt) = true := by decide +kernel
set_option maxRecDepth 100000 in
theorem ow_PM_appliedAt : zWs mi_PM_appliedAt cd_PM_appliedAt := ⟨trivial, trivial, trivial, trivial, trivial, trivial, trivial, trivial, trivial, trivial, ⟨rfl, rfl, mv_PM_imageOf⟩, trivial, trivial, trivial, trivial, trivial, trivial⟩
theorem ok_PM_appliedAt : zgood2 mi_PM_appliedAt cd_PM_appliedAt := ⟨oc_PM_appliedAt, ow_PM_appliedAt⟩
def cd_PM_left : List ZE := [(0, .aload_n 0, ([0], 0, 0, []), zi0), (1, .iload_n 1, ([1], 0, 0, []), zi0), (2, .iload_n 2, ([2], 0, 0, []), zi0), (3, .invokestatic 17, ([0, 0, 199], 0, 0, []), mi_CO_pairOf), (6, .invokevirtual 23, ([0, 1, 105], 0, 0, []), mi_PM_imageOf), (9, .iconst 3, ([], nI 3, 0, []), zi0), (10, .ishr, ([], 0, 0, []), zi0), (11, .ireturn, ([], 0, 0, []), zi0)]
def cu_PM_left : List (Nat × List Nat) := []
set_option maxRecDepth 100000 in
theorem oc_PM_left : cd_PM_left.all (zchk mi_PM_left) = true := by decide +kernel
set_option maxRecDepth 100000 in
theorem ow_PM_left : zWs mi_PM_left cd_PM_left := ⟨trivial, trivial, trivial, ⟨rfl, ms_CO_pairOf⟩, ⟨rfl, rfl, mv_PM_imageOf⟩, trivial, trivial, trivial, trivial⟩
theorem ok_PM_left : zgood2 mi_PM_left cd_PM_left := ⟨oc_PM_left, ow_PM_left⟩
def cd_PM_right : List ZE := [(0, .aload_n 0, ([0], 0, 0, []), zi0), (1, .iload_n 1, ([1], 0, 0, []), zi0), (2, .iload_n 2, ([2], 0, 0, []), zi0), (3, .invokestatic 17, ([0, 0, 199], 0, 0, []), mi_CO_pairOf), (6, .invokevirtual 23, ([0, 1, 105], 0, 0, []), mi_PM_imageOf), (9, .bipush 7, ([], nI 7, 0, []), zi0), (11, .iand, ([], 0, 0, []), zi0), (12, .ireturn, ([], 0, 0, []), zi0)]
def cu_PM_right : List (Nat × List Nat) := []
set_option maxRecDepth 100000 in
theorem oc_PM_right : cd_PM_right.all (zchk mi_PM_right) = true := by decide +kernel
set_option maxRecDepth 100000 in
theorem ow_PM_right : zWs mi_PM_right cd_PM_right := ⟨trivial, trivial, trivial, ⟨rfl, ms_CO_pairOf⟩, ⟨rfl, rfl, mv_PM_imageOf⟩, trivial, trivial, trivial, trivial⟩
theorem ok_PM_right : zgood2 mi_PM_right cd_PM_right := ⟨oc_PM_right, ow_PM_right⟩
def cd_PM_setImage : List ZE := [(0, .aload_n 0, ([0], 0, 0, []), zi0), (1, .getfield 9, ([0, 0, 0, 34], 0, 0, []), zi0), (4, .iload_n 1, ([1], 0, 0, []), zi0), (5, .iload_n 2, ([2], 0, 0, []), zi0), (6, .invokestatic 17, ([0, 0, 199], 0, 0, []), mi_CO_pairOf), (9, .bipush 63, ([], nI 63, 0, []), zi0), (11, .iand, ([], 0, 0, []), zi0), (12, .iload_n 3, ([3], 0, 0, []), zi0), (13, .iload 4, ([], 0, 0, []), zi0), (15, .invokestatic 17, ([0, 0, 199], 0, 0, []), mi_CO_pairOf), (18, .iastore, ([], 0, 0, []), zi0), (19, .return_, ([], 0, 0, []), zi0)]
def cu_PM_setImage : List (Nat × List Nat) := []
set_option maxRecDepth 100000 in
theorem oc_PM_setImage : cd_PM_setImage.all (zchk mi_PM_setImage) = true := by decide +kernel
set_option maxRecDepth 100000 in
theorem ow_PM_setImage : zWs mi_PM_setImage cd_PM_setImage := ⟨trivial, rfl, trivial, trivial, ⟨rfl, ms_CO_pairOf⟩, trivial, trivial, trivial, trivial, ⟨rfl, ms_CO_pairOf⟩, trivial, trivial, trivial⟩
theorem ok_PM_setImage : zgood2 mi_PM_setImage cd_PM_setImage := ⟨oc_PM_setImage, ow_PM_setImage⟩
def cd_RN_code : List ZE := [(0, .iconst 0, ([], nI 0, 0, []), zi0), (1, .istore_n 2, ([2], 0, 0, []), zi0), (2, .iconst 0, ([], nI 0, 0, []), zi0), (3, .istore_n 3, ([3], 0, 0, []), zi0), (4, .iload_n 3, ([3], 0, 0, []), zi0), (5, .iload_n 1, ([1], 0, 0, []), zi0), (6, .if_icmp .ge 21, ([27], 0, 0, []), zi0), (9, .iload_n 2, ([2], 0, 0, []), zi0), (10, .aload_n 0, ([0], 0, 0, []), zi0), (11, .iload_n 3, ([3], 0, 0, []), zi0), (12, .invokevirtual 57, ([4, 2, 46], 0, 0, []), mi_RN_imageOf), (15, .iconst 3, ([], nI 3, 0, []), zi0), (16, .iload_n 3, ([3], 0, 0, []), zi0), (17, .imul, ([], 0, 0, []), zi0), (18, .ishl, ([], 0, 0, []), zi0), (19, .ior, ([], 0, 0, []), zi0), (20, .istore_n 2, ([2], 0, 0, []), zi0), (21, .iinc 3 1, ([], nI 1, 0, []), zi0), (24, .goto (-20), ([4], 0, 0, []), zi0), (27, .iload_n 2, ([2], 0, 0, []), zi0), (28, .ireturn, ([], 0, 0, []), zi0)]
def cu_RN_code : List (Nat × List Nat) := [(4, [0, 1, 2, 3])]
set_option maxRecDepth 100000 in
theorem oc_RN_code : cd_RN_code.all (zchk mi_RN_code) = true := by decide +kernel
set_option maxRecDepth 100000 in
theorem ow_RN_code : zWs mi_RN_code cd_RN_code := ⟨trivial, trivial, trivial, trivial, trivial, trivial, trivial, trivial, trivial, trivial, ⟨rfl, rfl, mv_RN_imageOf⟩, trivial, trivial, trivial, trivial, trivial, trivial, trivial, trivial, trivial, trivial, trivial⟩
theorem ok_RN_code : zgood2 mi_RN_code cd_RN_code := ⟨oc_RN_code, ow_RN_code⟩
def cd_RN_isIsomorphism : List ZE := [(0, .aload_n 1, ([1], 0, 0, []), zi0), (1, .invokevirtual 15, ([0, 2, 34], 0, 0, []), mi_PM_points), (4, .istore_n 3, ([3], 0, 0, []), zi0), (5, .iconst 0, ([], nI 0, 0, []), zi0), (6, .istore 4, ([], 0, 0, []), zi0), (8, .iload 4, ([], 0, 0, []), zi0), (10, .iload_n 3, ([3], 0, 0, []), zi0), (11, .if_icmp .ge 86, ([97], 0, 0, []), zi0), (14, .aload_n 0, ([0], 0, 0, []), zi0), (15, .iload 4, ([], 0, 0, []), zi0), (17, .invokevirtual 57, ([4, 2, 46], 0, 0, []), mi_RN_imageOf), (20, .istore 5, ([], 0, 0, []), zi0), (22, .iconst 0, ([], nI 0, 0, []), zi0), (23, .istore 6, ([], 0, 0, []), zi0), (25, .iload 6, ([], 0, 0, []), zi0), (27, .iload_n 3, ([3], 0, 0, []), zi0), (28, .if_icmp .ge 63, ([91], 0, 0, []), zi0), (31, .aload_n 1, ([1], 0, 0, []), zi0), (32, .iload 4, ([], 0, 0, []), zi0), (34, .iload 6, ([], 0, 0, []), zi0), (36, .invokestatic 69, ([0, 2, 50], 0, 0, []), mi_CO_pairOf), (39, .invokevirtual 74, ([0, 2, 51], 0, 0, []), mi_PM_imageOf), (42, .istore 7, ([], 0, 0, []), zi0), (44, .aload_n 0, ([0], 0, 0, []), zi0), (45, .iload 7, ([], 0, 0, []), zi0), (47, .iconst 3, ([], nI 3, 0, []), zi0), (48, .ishr, ([], 0, 0, []), zi0), (49, .invokevirtual 57, ([4, 2, 46], 0, 0, []), mi_RN_imageOf), (52, .aload_n 0, ([0], 0, 0, []), zi0), (53, .iload 7, ([], 0, 0, []), zi0), (55, .invokevirtual 57, ([4, 2, 46], 0, 0, []), mi_RN_imageOf), (58, .invokestatic 69, ([0, 2, 50], 0, 0, []), mi_CO_pairOf), (61, .istore 8, ([], 0, 0, []), zi0), (63, .aload_n 2, ([2], 0, 0, []), zi0), (64, .iload 5, ([], 0, 0, []), zi0), (66, .aload_n 0, ([0], 0, 0, []), zi0), (67, .iload 6, ([], 0, 0, []), zi0), (69, .invokevirtual 57, ([4, 2, 46], 0, 0, []), mi_RN_imageOf), (72, .invokestatic 69, ([0, 2, 50], 0, 0, []), mi_CO_pairOf), (75, .invokevirtual 74, ([0, 2, 51], 0, 0, []), mi_PM_imageOf), (78, .iload 8, ([], 0, 0, []), zi0), (80, .if_icmp .eq 5, ([85], 0, 0, []), zi0), (83, .iconst 0, ([], nI 0, 0, []), zi0), (84, .ireturn, ([], 0, 0, []), zi0), (85, .iinc 6 1, ([], nI 1, 0, []), zi0), (88, .goto (-63), ([25], 0, 0, []), zi0), (91, .iinc 4 1, ([], nI 1, 0, []), zi0), (94, .goto (-86), ([8], 0, 0, []), zi0), (97, .iconst 1, ([], nI 1, 0, []), zi0), (98, .ireturn, ([], 0, 0, []), zi0)]
def cu_RN_isIsomorphism : List (Nat × List Nat) := [(8, [0, 1, 2, 3, 4]), (25, [0, 1, 2, 3, 4, 5, 6])]
set_option maxRecDepth 100000 in
theorem oc_RN_isIsomorphism : cd_RN_isIsomorphism.all (zchk mi_RN_isIsomorphism) = true := by decide +kernel
set_option maxRecDepth 100000 in
theorem ow_RN_isIsomorphism : zWs mi_RN_isIsomorphism cd_RN_isIsomorphism := ⟨trivial, ⟨rfl, rfl, mv_PM_points⟩, trivial, trivial, trivial, trivial, trivial, trivial, trivial, trivial, ⟨rfl, rfl, mv_RN_imageOf⟩, trivial, trivial, trivial, trivial, trivial, trivial, trivial, trivial, trivial, ⟨rfl, ms_CO_pairOf⟩, ⟨rfl, rfl, mv_PM_imageOf⟩, trivial, trivial, trivial, trivial, trivial, ⟨rfl, rfl, mv_RN_imageOf⟩, trivial, trivial, ⟨rfl, rfl, mv_RN_imageOf⟩, ⟨rfl, ms_CO_pairOf⟩, trivial, trivial, trivial, trivial, trivial, ⟨rfl, rfl, mv_RN_imageOf⟩, ⟨rfl, ms_CO_pairOf⟩, ⟨rfl, rfl, mv_PM_imageOf⟩, trivial, trivial, trivial, trivial, trivial, trivial, trivial, trivial, trivial, trivial, trivial⟩
theorem ok_RN_isIsomorphism : zgood2 mi_RN_isIsomorphism cd_RN_isIsomorphism := ⟨oc_RN_isIsomorphism, ow_RN_isIsomorphism⟩
def cd_RN_swap : List ZE := [(0, .aload_n 0, ([0], 0, 0, []), zi0), (1, .iload_n 1, ([1], 0, 0, []), zi0), (2, .invokevirtual 57, ([4, 2, 46], 0, 0, []), mi_RN_imageOf), (5, .istore_n 3, ([3], 0, 0, []), zi0), (6, .aload_n 0, ([0], 0, 0, []), zi0), (7, .getfield 11, ([4, 0, 0, 88], 0, 0, []), zi0), (10, .iload_n 1, ([1], 0, 0, []), zi0), (11, .bipush 7, ([], nI 7, 0, []), zi0), (13, .iand, ([], 0, 0, []), zi0), (14, .aload_n 0, ([0], 0, 0, []), zi0), (15, .iload_n 2, ([2], 0, 0, []), zi0), (16, .invokevirtual 57, ([4, 2, 46], 0, 0, []), mi_RN_imageOf), (19, .iastore, ([], 0, 0, []), zi0), (20, .aload_n 0, ([0], 0, 0, []), zi0), (21, .getfield 11, ([4, 0, 0, 88], 0, 0, []), zi0), (24, .iload_n 2, ([2], 0, 0, []), zi0), (25, .bipush 7, ([], nI 7, 0, []), zi0), (27, .iand, ([], 0, 0, []), zi0), (28, .iload_n 3, ([3], 0, 0, []), zi0), (29, .iastore, ([], 0, 0, []), zi0), (30, .return_, ([], 0, 0, []), zi0)]
def cu_RN_swap : List (Nat × List Nat) := []
set_option maxRecDepth 100000 in
theorem oc_RN_swap : cd_RN_swap.all (zchk mi_RN_swap) = true := by decide +kernel
set_option maxRecDepth 100000 in
theorem ow_RN_swap : zWs mi_RN_swap cd_RN_swap := ⟨trivial, trivial, ⟨rfl, rfl, mv_RN_imageOf⟩, trivial, trivial, rfl, trivial, trivial, trivial, trivial, trivial, ⟨rfl, rfl, mv_RN_imageOf⟩, trivial, trivial, rfl, trivial, trivial, trivial, trivial, trivial, trivial, trivial⟩
theorem ok_RN_swap : zgood2 mi_RN_swap cd_RN_swap := ⟨oc_RN_swap, ow_RN_swap⟩
def cd_SL_pointAt : List ZE := [(0, .lload_n 0, ([0], 0, 0, []), zi0), (1, .iload_n 3, ([3], 0, 0, []), zi0), (2, .iload_n 2, ([2], 0, 0, []), zi0), (3, .imul, ([], 0, 0, []), zi0), (4, .iload 4, ([], 0, 0, []), zi0), (6, .iadd, ([], 0, 0, []), zi0), (7, .iload_n 2, ([2], 0, 0, []), zi0), (8, .invokestatic 40, ([0, 3, 103], 0, 0, []), mi_SL_shiftOf), (11, .lshr, ([], 0, 0, []), zi0), (12, .l2i, ([], 0, 0, []), zi0), (13, .bipush 7, ([], nI 7, 0, []), zi0), (15, .iand, ([], 0, 0, []), zi0), (16, .ireturn, ([], 0, 0, []), zi0)]
def cu_SL_pointAt : List (Nat × List Nat) := []
set_option maxRecDepth 100000 in
theorem oc_SL_pointAt : cd_SL_pointAt.all (zchk mi_SL_pointAt) = true := by decide +kernel
set_option maxRecDepth 100000 in
theorem ow_SL_pointAt : zWs mi_SL_pointAt cd_SL_pointAt := ⟨trivial, trivial, trivial, trivial, trivial, trivial, trivial, ⟨rfl, ms_SL_shiftOf⟩, trivial, trivial, trivial, trivial, trivial, trivial⟩
theorem ok_SL_pointAt : zgood2 mi_SL_pointAt cd_SL_pointAt := ⟨oc_SL_pointAt, ow_SL_pointAt⟩
def cd_SL_rowsAt : List ZE := [(0, .iload_n 0, ([0], 0, 0, []), zi0), (1, .invokestatic 11, ([0, 2, 105], 0, 0, []), mi_SL_start), (4, .iload_n 1, ([1], 0, 0, []), zi0), (5, .iadd, ([], 0, 0, []), zi0), (6, .istore_n 2, ([2], 0, 0, []), zi0), (7, .iload_n 2, ([2], 0, 0, []), zi0), (8, .ifCond .lt 17, ([25], 0, 0, []), zi0), (11, .iload_n 2, ([2], 0, 0, []), zi0), (12, .bipush 31, ([], nI 31, 0, []), zi0), (14, .if_icmp .ge 11, ([25], 0, 0, []), zi0), (17, .getstatic 15, ([2, 111], 0, 0, []), zi0), (20, .iload_n 2, ([2], 0, 0, []), zi0), (21, .laload, ([], 0, 0, []), zi0), (22, .goto 4, ([26], 0, 0, []), zi0), (25, .lconst 0, ([], 0, lN 0, []), zi0), (26, .lreturn, ([], 0, 0, []), zi0)]
def cu_SL_rowsAt : List (Nat × List Nat) := []
set_option maxRecDepth 100000 in
theorem oc_SL_rowsAt : cd_SL_rowsAt.all (zchk mi_SL_rowsAt) = true := by decide +kernel
set_option maxRecDepth 100000 in
theorem ow_SL_rowsAt : zWs mi_SL_rowsAt cd_SL_rowsAt := ⟨trivial, ⟨rfl, ms_SL_start⟩, trivial, trivial, trivial, trivial, trivial, trivial, trivial, trivial, rfl, trivial, trivial, trivial, trivial, trivial, trivial⟩
theorem ok_SL_rowsAt : zgood2 mi_SL_rowsAt cd_SL_rowsAt := ⟨oc_SL_rowsAt, ow_SL_rowsAt⟩
def cd_SL_size : List ZE := [(0, .iload_n 0, ([0], 0, 0, []), zi0), (1, .iconst 1, ([], nI 1, 0, []), zi0), (2, .iadd, ([], 0, 0, []), zi0), (3, .invokestatic 11, ([0, 2, 105], 0, 0, []), mi_SL_start), (6, .iload_n 0, ([0], 0, 0, []), zi0), (7, .invokestatic 11, ([0, 2, 105], 0, 0, []), mi_SL_start), (10, .isub, ([], 0, 0, []), zi0), (11, .ireturn, ([], 0, 0, []), zi0)]
def cu_SL_size : List (Nat × List Nat) := []
set_option maxRecDepth 100000 in
theorem oc_SL_size : cd_SL_size.all (zchk mi_SL_size) = true := by decide +kernel
set_option maxRecDepth 100000 in
theorem ow_SL_size : zWs mi_SL_size cd_SL_size := ⟨trivial, trivial, trivial, ⟨rfl, ms_SL_start⟩, trivial, ⟨rfl, ms_SL_start⟩, trivial, trivial, trivial⟩
theorem ok_SL_size : zgood2 mi_SL_size cd_SL_size := ⟨oc_SL_size, ow_SL_size⟩
def cd_T_isBraid : List ZE := [(0, .iload_n 0, ([0], 0, 0, []), zi0), (1, .iconst 0, ([], nI 0, 0, []), zi0), (2, .iconst 1, ([], nI 1, 0, []), zi0), (3, .invokestatic 74, ([0, 0, 178], 0, 0, []), mi_T_isWithin), (6, .ireturn, ([], 0, 0, []), zi0)]
def cu_T_isBraid : List (Nat × List Nat) := []
set_option maxRecDepth 100000 in
theorem oc_T_isBraid : cd_T_isBraid.all (zchk mi_T_isBraid) = true := by decide +kernel
set_option maxRecDepth 100000 in
theorem ow_T_isBraid : zWs mi_T_isBraid cd_T_isBraid := ⟨trivial, trivial, trivial, ⟨rfl, ms_T_isWithin⟩, trivial, trivial⟩
theorem ok_T_isBraid : zgood2 mi_T_isBraid cd_T_isBraid := ⟨oc_T_isBraid, ow_T_isBraid⟩
def cd_T_isPlace : List ZE := [(0, .iload_n 0, ([0], 0, 0, []), zi0), (1, .iconst 0, ([], nI 0, 0, []), zi0), (2, .iconst 3, ([], nI 3, 0, []), zi0), (3, .invokestatic 74, ([0, 0, 178], 0, 0, []), mi_T_isWithin), (6, .ireturn, ([], 0, 0, []), zi0)]
def cu_T_isPlace : List (Nat × List Nat) := []
set_option maxRecDepth 100000 in
theorem oc_T_isPlace : cd_T_isPlace.all (zchk mi_T_isPlace) = true := by decide +kernel
set_option maxRecDepth 100000 in
theorem ow_T_isPlace : zWs mi_T_isPlace cd_T_isPlace := ⟨trivial, trivial, trivial, ⟨rfl, ms_T_isWithin⟩, trivial, trivial⟩
theorem ok_T_isPlace : zgood2 mi_T_isPlace cd_T_isPlace := ⟨oc_T_isPlace, ow_T_isPlace⟩
def cd_T_isTupleLength : List ZE := [(0, .iload_n 0, ([0], 0, 0, []), zi0), (1, .iconst 2, ([], nI 2, 0, []), zi0), (2, .iconst 4, ([], nI 4, 0, []), zi0), (3, .invokestatic 74, ([0, 0, 178], 0, 0, []), mi_T_isWithin), (6, .ireturn, ([], 0, 0, []), zi0)]
def cu_T_isTupleLength : List (Nat × List Nat) := []
set_option maxRecDepth 100000 in
theorem oc_T_isTupleLength : cd_T_isTupleLength.all (zchk mi_T_isTupleLength) = true := by decide +kernel
set_option maxRecDepth 100000 in
theorem ow_T_isTupleLength : zWs mi_T_isTupleLength cd_T_isTupleLength := ⟨trivial, trivial, trivial, ⟨rfl, ms_T_isWithin⟩, trivial, trivial⟩
theorem ok_T_isTupleLength : zgood2 mi_T_isTupleLength cd_T_isTupleLength := ⟨oc_T_isTupleLength, ow_T_isTupleLength⟩
def cd_WC_smallest : List ZE := [(0, .iload_n 1, ([1], 0, 0, []), zi0), (1, .sipush 4095, ([], nI 4095, 0, []), zi0), (4, .iand, ([], 0, 0, []), zi0), (5, .istore_n 2, ([2], 0, 0, []), zi0), (6, .iconst 0, ([], nI 0, 0, []), zi0), (7, .istore_n 3, ([3], 0, 0, []), zi0), (8, .iload_n 3, ([3], 0, 0, []), zi0), (9, .sipush 4095, ([], nI 4095, 0, []), zi0), (12, .if_icmp .ge 40, ([52], 0, 0, []), zi0), (15, .aload_n 0, ([0], 0, 0, []), zi0), (16, .getfield 9, ([6, 0, 0, 115], 0, 0, []), zi0), (19, .iload_n 2, ([2], 0, 0, []), zi0), (20, .iaload, ([], 0, 0, []), zi0), (21, .iload_n 2, ([2], 0, 0, []), zi0), (22, .if_icmp .eq 30, ([52], 0, 0, []), zi0), (25, .aload_n 0, ([0], 0, 0, []), zi0), (26, .getfield 9, ([6, 0, 0, 115], 0, 0, []), zi0), (29, .iload_n 2, ([2], 0, 0, []), zi0), (30, .aload_n 0, ([0], 0, 0, []), zi0), (31, .aload_n 0, ([0], 0, 0, []), zi0), (32, .iload_n 2, ([2], 0, 0, []), zi0), (33, .invokevirtual 40, ([6, 2, 172], 0, 0, []), mi_WC_smallerOf), (36, .invokevirtual 40, ([6, 2, 172], 0, 0, []), mi_WC_smallerOf), (39, .iastore, ([], 0, 0, []), zi0), (40, .aload_n 0, ([0], 0, 0, []), zi0), (41, .iload_n 2, ([2], 0, 0, []), zi0), (42, .invokevirtual 40, ([6, 2, 172], 0, 0, []), mi_WC_smallerOf), (45, .istore_n 2, ([2], 0, 0, []), zi0), (46, .iinc 3 1, ([], nI 1, 0, []), zi0), (49, .goto (-41), ([8], 0, 0, []), zi0), (52, .iload_n 2, ([2], 0, 0, []), zi0), (53, .ireturn, ([], 0, 0, []), zi0)]
def cu_WC_smallest : List (Nat × List Nat) := [(8, [0, 2, 3])]
set_option maxRecDepth 100000 in
theorem oc_WC_smallest : cd_WC_smallest.all (zchk mi_WC_smallest) = true := by decide +kernel
set_option maxRecDepth 100000 in
theorem ow_WC_smallest : zWs mi_WC_smallest cd_WC_smallest := ⟨trivial, trivial, trivial, trivial, trivial, trivial, trivial, trivial, trivial, trivial, rfl, trivial, trivial, trivial, trivial, trivial, rfl, trivial, trivial, trivial, trivial, ⟨rfl, rfl, mv_WC_smallerOf⟩, ⟨rfl, rfl, mv_WC_smallerOf⟩, trivial, trivial, trivial, ⟨rfl, rfl, mv_WC_smallerOf⟩, trivial, trivial, trivial, trivial, trivial, trivial⟩
theorem ok_WC_smallest : zgood2 mi_WC_smallest cd_WC_smallest := ⟨oc_WC_smallest, ow_WC_smallest⟩
def cd_AC_areTwins : List ZE := [(0, .iconst 0, ([], nI 0, 0, []), zi0), (1, .istore_n 3, ([3], 0, 0, []), zi0), (2, .iload_n 3, ([3], 0, 0, []), zi0), (3, .aload_n 0, ([0], 0, 0, []), zi0), (4, .invokevirtual 32, ([0, 1, 94], 0, 0, []), mi_PM_points), (7, .if_icmp .ge 41, ([48], 0, 0, []), zi0), (10, .aload_n 0, ([0], 0, 0, []), zi0), (11, .iload_n 1, ([1], 0, 0, []), zi0), (12, .iload_n 3, ([3], 0, 0, []), zi0), (13, .invokevirtual 48, ([0, 1, 101], 0, 0, []), mi_PM_left), (16, .aload_n 0, ([0], 0, 0, []), zi0), (17, .iload_n 2, ([2], 0, 0, []), zi0), (18, .iload_n 3, ([3], 0, 0, []), zi0), (19, .invokevirtual 48, ([0, 1, 101], 0, 0, []), mi_PM_left), (22, .if_icmp .ne 18, ([40], 0, 0, []), zi0), (25, .aload_n 0, ([0], 0, 0, []), zi0), (26, .iload_n 3, ([3], 0, 0, []), zi0), (27, .iload_n 1, ([1], 0, 0, []), zi0), (28, .invokevirtual 52, ([0, 1, 106], 0, 0, []), mi_PM_right), (31, .aload_n 0, ([0], 0, 0, []), zi0), (32, .iload_n 3, ([3], 0, 0, []), zi0), (33, .iload_n 2, ([2], 0, 0, []), zi0), (34, .invokevirtual 52, ([0, 1, 106], 0, 0, []), mi_PM_right), (37, .if_icmp .eq 5, ([42], 0, 0, []), zi0), (40, .iconst 0, ([], nI 0, 0, []), zi0), (41, .ireturn, ([], 0, 0, []), zi0), (42, .iinc 3 1, ([], nI 1, 0, []), zi0), (45, .goto (-43), ([2], 0, 0, []), zi0), (48, .iconst 1, ([], nI 1, 0, []), zi0), (49, .ireturn, ([], 0, 0, []), zi0)]
def cu_AC_areTwins : List (Nat × List Nat) := [(2, [0, 1, 2, 3])]
set_option maxRecDepth 100000 in
theorem oc_AC_areTwins : cd_AC_areTwins.all (zchk mi_AC_areTwins) = true := by decide +kernel
set_option maxRecDepth 100000 in
theorem ow_AC_areTwins : zWs mi_AC_areTwins cd_AC_areTwins := ⟨trivial, trivial, trivial, trivial, ⟨rfl, rfl, mv_PM_points⟩, trivial, trivial, trivial, trivial, ⟨rfl, rfl, mv_PM_left⟩, trivial, trivial, trivial, ⟨rfl, rfl, mv_PM_left⟩, trivial, trivial, trivial, trivial, ⟨rfl, rfl, mv_PM_right⟩, trivial, trivial, trivial, ⟨rfl, rfl, mv_PM_right⟩, trivial, trivial, trivial, trivial, trivial, trivial, trivial, trivial⟩
theorem ok_AC_areTwins : zgood2 mi_AC_areTwins cd_AC_areTwins := ⟨oc_AC_areTwins, ow_AC_areTwins⟩
def cd_AC_makeRetraction : List ZE := [(0, .aload_n 1, ([1], 0, 0, []), zi0), (1, .aload_n 0, ([0], 0, 0, []), zi0), (2, .getfield 18, ([3, 2, 0, 68], 0, 0, []), zi0), (5, .invokevirtual 55, ([0, 1, 118], 0, 0, []), mi_PM_resize), (8, .iconst 0, ([], nI 0, 0, []), zi0), (9, .istore_n 3, ([3], 0, 0, []), zi0), (10, .iload_n 3, ([3], 0, 0, []), zi0), (11, .aload_n 0, ([0], 0, 0, []), zi0), (12, .getfield 18, ([3, 2, 0, 68], 0, 0, []), zi0), (15, .if_icmp .ge 73, ([88], 0, 0, []), zi0), (18, .iconst 0, ([], nI 0, 0, []), zi0), (19, .istore 4, ([], 0, 0, []), zi0), (21, .iload 4, ([], 0, 0, []), zi0), (23, .aload_n 0, ([0], 0, 0, []), zi0), (24, .getfield 18, ([3, 2, 0, 68], 0, 0, []), zi0), (27, .if_icmp .ge 55, ([82], 0, 0, []), zi0), (30, .aload_n 0, ([0], 0, 0, []), zi0), (31, .iload_n 3, ([3], 0, 0, []), zi0), (32, .invokevirtual 59, ([3, 1, 119], 0, 0, []), mi_AC_smallestOf), (35, .istore 5, ([], 0, 0, []), zi0), (37, .aload_n 0, ([0], 0, 0, []), zi0), (38, .iload 4, ([], 0, 0, []), zi0), (40, .invokevirtual 59, ([3, 1, 119], 0, 0, []), mi_AC_smallestOf), (43, .istore 6, ([], 0, 0, []), zi0), (45, .aload_n 1, ([1], 0, 0, []), zi0), (46, .iload_n 3, ([3], 0, 0, []), zi0), (47, .iload 4, ([], 0, 0, []), zi0), (49, .aload_n 0, ([0], 0, 0, []), zi0), (50, .aload_n 2, ([2], 0, 0, []), zi0), (51, .iload 5, ([], 0, 0, []), zi0), (53, .iload 6, ([], 0, 0, []), zi0), (55, .invokevirtual 48, ([0, 1, 101], 0, 0, []), mi_PM_left), (58, .invokevirtual 40, ([3, 1, 110], 0, 0, []), mi_AC_classOf), (61, .aload_n 0, ([0], 0, 0, []), zi0), (62, .aload_n 2, ([2], 0, 0, []), zi0), (63, .iload 5, ([], 0, 0, []), zi0), (65, .iload 6, ([], 0, 0, []), zi0), (67, .invokevirtual 52, ([0, 1, 106], 0, 0, []), mi_PM_right), (70, .invokevirtual 40, ([3, 1, 110], 0, 0, []), mi_AC_classOf), (73, .invokevirtual 62, ([0, 1, 123], 0, 0, []), mi_PM_setImage), (76, .iinc 4 1, ([], nI 1, 0, []), zi0), (79, .goto (-58), ([21], 0, 0, []), zi0), (82, .iinc 3 1, ([], nI 1, 0, []), zi0), (85, .goto (-75), ([10], 0, 0, []), zi0), (88, .return_, ([], 0, 0, []), zi0)]
def cu_AC_makeRetraction : List (Nat × List Nat) := [(10, [0, 1, 2, 3]), (21, [0, 1, 2, 3, 4])]
set_option maxRecDepth 100000 in
theorem oc_AC_makeRetraction : cd_AC_makeRetraction.all (zchk mi_AC_makeRetraction) = true := by decide +kernel
set_option maxRecDepth 100000 in
theorem ow_AC_makeRetraction : zWs mi_AC_makeRetraction cd_AC_makeRetraction := ⟨trivial, trivial, rfl, ⟨rfl, rfl, mv_PM_resize⟩, trivial, trivial, trivial, trivial, rfl, trivial, trivial, trivial, trivial, trivial, rfl, trivial, trivial, trivial, ⟨rfl, rfl, mv_AC_smallestOf⟩, trivial, trivial, trivial, ⟨rfl, rfl, mv_AC_smallestOf⟩, trivial, trivial, trivial, trivial, trivial, trivial, trivial, trivial, ⟨rfl, rfl, mv_PM_left⟩, ⟨rfl, rfl, mv_AC_classOf⟩, trivial, trivial, trivial, trivial, ⟨rfl, rfl, mv_PM_right⟩, ⟨rfl, rfl, mv_AC_classOf⟩, ⟨rfl, rfl, mv_PM_setImage⟩, trivial, trivial, trivial, trivial, trivial, trivial⟩
theorem ok_AC_makeRetraction : zgood2 mi_AC_makeRetraction cd_AC_makeRetraction := ⟨oc_AC_makeRetraction, ow_AC_makeRetraction⟩
def cd_AL_areUnits : List ZE := [(0, .iconst 0, ([], nI 0, 0, []), zi0), (1, .istore_n 2, ([2], 0, 0, []), zi0), (2, .iload_n 2, ([2], 0, 0, []), zi0), (3, .iload_n 0, ([0], 0, 0, []), zi0), (4, .if_icmp .ge 23, ([27], 0, 0, []), zi0), (7, .iload_n 0, ([0], 0, 0, []), zi0), (8, .iload_n 1, ([1], 0, 0, []), zi0), (9, .iload_n 2, ([2], 0, 0, []), zi0), (10, .invokestatic 29, ([0, 1, 14], 0, 0, []), mi_CO_digit), (13, .invokestatic 35, ([0, 1, 15], 0, 0, []), mi_AL_isUnit), (16, .ifCond .ne 5, ([21], 0, 0, []), zi0), (19, .iconst 0, ([], nI 0, 0, []), zi0), (20, .ireturn, ([], 0, 0, []), zi0), (21, .iinc 2 1, ([], nI 1, 0, []), zi0), (24, .goto (-22), ([2], 0, 0, []), zi0), (27, .iload_n 1, ([1], 0, 0, []), zi0), (28, .iload_n 0, ([0], 0, 0, []), zi0), (29, .iload_n 0, ([0], 0, 0, []), zi0), (30, .invokestatic 39, ([0, 1, 18], 0, 0, []), mi_CO_isCode), (33, .ireturn, ([], 0, 0, []), zi0)]
def cu_AL_areUnits : List (Nat × List Nat) := [(2, [0, 1, 2])]
set_option maxRecDepth 100000 in
theorem oc_AL_areUnits : cd_AL_areUnits.all (zchk mi_AL_areUnits) = true := by decide +kernel
set_option maxRecDepth 100000 in
theorem ow_AL_areUnits : zWs mi_AL_areUnits cd_AL_areUnits := ⟨trivial, trivial, trivial, trivial, trivial, trivial, trivial, trivial, ⟨rfl, ms_CO_digit⟩, ⟨rfl, ms_AL_isUnit⟩, trivial, trivial, trivial, trivial, trivial, trivial, trivial, trivial, ⟨rfl, ms_CO_isCode⟩, trivial, trivial⟩
theorem ok_AL_areUnits : zgood2 mi_AL_areUnits cd_AL_areUnits := ⟨oc_AL_areUnits, ow_AL_areUnits⟩
def cd_AL_makeBraceMap : List ZE := [(0, .aload_n 0, ([0], 0, 0, []), zi0), (1, .iload_n 1, ([1], 0, 0, []), zi0), (2, .invokevirtual 9, ([0, 0, 236], 0, 0, []), mi_PM_resize), (5, .iconst 0, ([], nI 0, 0, []), zi0), (6, .istore_n 3, ([3], 0, 0, []), zi0), (7, .iload_n 3, ([3], 0, 0, []), zi0), (8, .iload_n 1, ([1], 0, 0, []), zi0), (9, .if_icmp .ge 58, ([67], 0, 0, []), zi0), (12, .iconst 0, ([], nI 0, 0, []), zi0), (13, .istore 4, ([], 0, 0, []), zi0), (15, .iload 4, ([], 0, 0, []), zi0), (17, .iload_n 1, ([1], 0, 0, []), zi0), (18, .if_icmp .ge 43, ([61], 0, 0, []), zi0), (21, .iload_n 2, ([2], 0, 0, []), zi0), (22, .iload_n 3, ([3], 0, 0, []), zi0), (23, .invokestatic 29, ([0, 1, 14], 0, 0, []), mi_CO_digit), (26, .iload 4, ([], 0, 0, []), zi0), (28, .imul, ([], 0, 0, []), zi0), (29, .iload_n 1, ([1], 0, 0, []), zi0), (30, .invokestatic 43, ([0, 1, 22], 0, 0, []), mi_AL_rest), (33, .istore 5, ([], 0, 0, []), zi0), (35, .aload_n 0, ([0], 0, 0, []), zi0), (36, .iload_n 3, ([3], 0, 0, []), zi0), (37, .iload 4, ([], 0, 0, []), zi0), (39, .iload 5, ([], 0, 0, []), zi0), (41, .iload_n 1, ([1], 0, 0, []), zi0), (42, .iload_n 3, ([3], 0, 0, []), zi0), (43, .iload_n 2, ([2], 0, 0, []), zi0), (44, .iload 5, ([], 0, 0, []), zi0), (46, .invokestatic 29, ([0, 1, 14], 0, 0, []), mi_CO_digit), (49, .invokestatic 46, ([0, 1, 29], 0, 0, []), mi_AL_quotient), (52, .invokevirtual 25, ([0, 1, 6], 0, 0, []), mi_PM_setImage), (55, .iinc 4 1, ([], nI 1, 0, []), zi0), (58, .goto (-43), ([15], 0, 0, []), zi0), (61, .iinc 3 1, ([], nI 1, 0, []), zi0), (64, .goto (-57), ([7], 0, 0, []), zi0), (67, .return_, ([], 0, 0, []), zi0)]
def cu_AL_makeBraceMap : List (Nat × List Nat) := [(7, [0, 1, 2, 3]), (15, [0, 1, 2, 3, 4])]
set_option maxRecDepth 100000 in
theorem oc_AL_makeBraceMap : cd_AL_makeBraceMap.all (zchk mi_AL_makeBraceMap) = true := by decide +kernel
set_option maxRecDepth 100000 in
theorem ow_AL_makeBraceMap : zWs mi_AL_makeBraceMap cd_AL_makeBraceMap := ⟨trivial, trivial, ⟨rfl, rfl, mv_PM_resize⟩, trivial, trivial, trivial, trivial, trivial, trivial, trivial, trivial, trivial, trivial, trivial, trivial, ⟨rfl, ms_CO_digit⟩, trivial, trivial, trivial, ⟨rfl, ms_AL_rest⟩, trivial, trivial, trivial, trivial, trivial, trivial, trivial, trivial, trivial, ⟨rfl, ms_CO_digit⟩, ⟨rfl, ms_AL_quotient⟩, ⟨rfl, rfl, mv_PM_setImage⟩, trivial, trivial, trivial, trivial, trivial, trivial⟩
theorem ok_AL_makeBraceMap : zgood2 mi_AL_makeBraceMap cd_AL_makeBraceMap := ⟨oc_AL_makeBraceMap, ow_AL_makeBraceMap⟩
def cd_AL_makeGroupMap : List ZE := [(0, .aload_n 0, ([0], 0, 0, []), zi0), (1, .iload_n 2, ([2], 0, 0, []), zi0), (2, .invokevirtual 9, ([0, 0, 236], 0, 0, []), mi_PM_resize), (5, .iconst 0, ([], nI 0, 0, []), zi0), (6, .istore_n 3, ([3], 0, 0, []), zi0), (7, .iload_n 3, ([3], 0, 0, []), zi0), (8, .iload_n 2, ([2], 0, 0, []), zi0), (9, .if_icmp .ge 55, ([64], 0, 0, []), zi0), (12, .iload_n 1, ([1], 0, 0, []), zi0), (13, .iload_n 2, ([2], 0, 0, []), zi0), (14, .iload_n 3, ([3], 0, 0, []), zi0), (15, .invokestatic 15, ([0, 1, 0], 0, 0, []), mi_AL_inverse), (18, .istore 4, ([], 0, 0, []), zi0), (20, .iconst 0, ([], nI 0, 0, []), zi0), (21, .istore 5, ([], 0, 0, []), zi0), (23, .iload 5, ([], 0, 0, []), zi0), (25, .iload_n 2, ([2], 0, 0, []), zi0), (26, .if_icmp .ge 32, ([58], 0, 0, []), zi0), (29, .aload_n 0, ([0], 0, 0, []), zi0), (30, .iload_n 3, ([3], 0, 0, []), zi0), (31, .iload 5, ([], 0, 0, []), zi0), (33, .iload_n 1, ([1], 0, 0, []), zi0), (34, .iload_n 2, ([2], 0, 0, []), zi0), (35, .iload_n 1, ([1], 0, 0, []), zi0), (36, .iload_n 2, ([2], 0, 0, []), zi0), (37, .iload_n 3, ([3], 0, 0, []), zi0), (38, .iload 5, ([], 0, 0, []), zi0), (40, .invokestatic 21, ([0, 1, 3], 0, 0, []), mi_AL_product), (43, .iload 4, ([], 0, 0, []), zi0), (45, .invokestatic 21, ([0, 1, 3], 0, 0, []), mi_AL_product), (48, .iload_n 3, ([3], 0, 0, []), zi0), (49, .invokevirtual 25, ([0, 1, 6], 0, 0, []), mi_PM_setImage), (52, .iinc 5 1, ([], nI 1, 0, []), zi0), (55, .goto (-32), ([23], 0, 0, []), zi0), (58, .iinc 3 1, ([], nI 1, 0, []), zi0), (61, .goto (-54), ([7], 0, 0, []), zi0), (64, .return_, ([], 0, 0, []), zi0)]
def cu_AL_makeGroupMap : List (Nat × List Nat) := [(7, [0, 1, 2, 3]), (23, [0, 1, 2, 3, 4, 5])]
set_option maxRecDepth 100000 in
theorem oc_AL_makeGroupMap : cd_AL_makeGroupMap.all (zchk mi_AL_makeGroupMap) = true := by decide +kernel
set_option maxRecDepth 100000 in
theorem ow_AL_makeGroupMap : zWs mi_AL_makeGroupMap cd_AL_makeGroupMap := ⟨trivial, trivial, ⟨rfl, rfl, mv_PM_resize⟩, trivial, trivial, trivial, trivial, trivial, trivial, trivial, trivial, ⟨rfl, ms_AL_inverse⟩, trivial, trivial, trivial, trivial, trivial, trivial, trivial, trivial, trivial, trivial, trivial, trivial, trivial, trivial, trivial, ⟨rfl, ms_AL_product⟩, trivial, ⟨rfl, ms_AL_product⟩, trivial, ⟨rfl, rfl, mv_PM_setImage⟩, trivial, trivial, trivial, trivial, trivial, trivial⟩
theorem ok_AL_makeGroupMap : zgood2 mi_AL_makeGroupMap cd_AL_makeGroupMap := ⟨oc_AL_makeGroupMap, ow_AL_makeGroupMap⟩
def cd_AL_nextUnits : List ZE := [(0, .iload_n 1, ([1], 0, 0, []), zi0), (1, .istore_n 2, ([2], 0, 0, []), zi0), (2, .iconst 0, ([], nI 0, 0, []), zi0), (3, .istore_n 3, ([3], 0, 0, []), zi0), (4, .iload_n 3, ([3], 0, 0, []), zi0), (5, .iload_n 0, ([0], 0, 0, []), zi0), (6, .if_icmp .ge 45, ([51], 0, 0, []), zi0), (9, .iload_n 2, ([2], 0, 0, []), zi0), (10, .iload_n 3, ([3], 0, 0, []), zi0), (11, .invokestatic 29, ([0, 1, 14], 0, 0, []), mi_CO_digit), (14, .istore 4, ([], 0, 0, []), zi0), (16, .iload_n 0, ([0], 0, 0, []), zi0), (17, .iload 4, ([], 0, 0, []), zi0), (19, .invokestatic 69, ([0, 1, 55], 0, 0, []), mi_AL_unitAfter), (22, .istore 5, ([], 0, 0, []), zi0), (24, .iload_n 2, ([2], 0, 0, []), zi0), (25, .iload 5, ([], 0, 0, []), zi0), (27, .iload 4, ([], 0, 0, []), zi0), (29, .isub, ([], 0, 0, []), zi0), (30, .iconst 3, ([], nI 3, 0, []), zi0), (31, .iload_n 3, ([3], 0, 0, []), zi0), (32, .imul, ([], 0, 0, []), zi0), (33, .ishl, ([], 0, 0, []), zi0), (34, .iadd, ([], 0, 0, []), zi0), (35, .istore_n 2, ([2], 0, 0, []), zi0), (36, .iload 5, ([], 0, 0, []), zi0), (38, .iload 4, ([], 0, 0, []), zi0), (40, .if_icmp .le 5, ([45], 0, 0, []), zi0), (43, .iload_n 2, ([2], 0, 0, []), zi0), (44, .ireturn, ([], 0, 0, []), zi0), (45, .iinc 3 1, ([], nI 1, 0, []), zi0), (48, .goto (-44), ([4], 0, 0, []), zi0), (51, .iload_n 2, ([2], 0, 0, []), zi0), (52, .ireturn, ([], 0, 0, []), zi0)]
def cu_AL_nextUnits : List (Nat × List Nat) := [(4, [0, 2, 3])]
set_option maxRecDepth 100000 in
theorem oc_AL_nextUnits : cd_AL_nextUnits.all (zchk mi_AL_nextUnits) = true := by decide +kernel
set_option maxRecDepth 100000 in
theorem ow_AL_nextUnits : zWs mi_AL_nextUnits cd_AL_nextUnits := ⟨trivial, trivial, trivial, trivial, trivial, trivial, trivial, trivial, trivial, ⟨rfl, ms_CO_digit⟩, trivial, trivial, trivial, ⟨rfl, ms_AL_unitAfter⟩, trivial, trivial, trivial, trivial, trivial, trivial, trivial, trivial, trivial, trivial, trivial, trivial, trivial, trivial, trivial, trivial, trivial, trivial, trivial, trivial, trivial⟩
theorem ok_AL_nextUnits : zgood2 mi_AL_nextUnits cd_AL_nextUnits := ⟨oc_AL_nextUnits, ow_AL_nextUnits⟩
def cd_BA_resultOf : List ZE := [(0, .iload_n 3, ([3], 0, 0, []), zi0), (1, .istore 4, ([], 0, 0, []), zi0), (3, .iconst 0, ([], nI 0, 0, []), zi0), (4, .istore 5, ([], 0, 0, []), zi0), (6, .iload 5, ([], 0, 0, []), zi0), (8, .aload_n 1, ([1], 0, 0, []), zi0), (9, .invokevirtual 48, ([1, 3, 31], 0, 0, []), mi_BR_length), (12, .if_icmp .ge 52, ([64], 0, 0, []), zi0), (15, .iconst 3, ([], nI 3, 0, []), zi0), (16, .iload_n 2, ([2], 0, 0, []), zi0), (17, .iconst 2, ([], nI 2, 0, []), zi0), (18, .isub, ([], 0, 0, []), zi0), (19, .aload_n 1, ([1], 0, 0, []), zi0), (20, .iload 5, ([], 0, 0, []), zi0), (22, .invokevirtual 51, ([1, 3, 32], 0, 0, []), mi_BR_position), (25, .isub, ([], 0, 0, []), zi0), (26, .imul, ([], 0, 0, []), zi0), (27, .istore 6, ([], 0, 0, []), zi0), (29, .aload_n 1, ([1], 0, 0, []), zi0), (30, .iload 5, ([], 0, 0, []), zi0), (32, .invokevirtual 55, ([1, 3, 33], 0, 0, []), mi_BR_isCapitalAt), (35, .ifCond .eq 10, ([45], 0, 0, []), zi0), (38, .aload_n 0, ([0], 0, 0, []), zi0), (39, .getfield 18, ([7, 1, 0, 131], 0, 0, []), zi0), (42, .goto 7, ([49], 0, 0, []), zi0), (45, .aload_n 0, ([0], 0, 0, []), zi0), (46, .getfield 12, ([7, 0, 0, 130], 0, 0, []), zi0), (49, .iload 4, ([], 0, 0, []), zi0), (51, .iload 6, ([], 0, 0, []), zi0), (53, .invokevirtual 59, ([0, 3, 34], 0, 0, []), mi_PM_appliedAt), (56, .istore 4, ([], 0, 0, []), zi0), (58, .iinc 5 1, ([], nI 1, 0, []), zi0), (61, .goto (-55), ([6], 0, 0, []), zi0), (64, .iload 4, ([], 0, 0, []), zi0), (66, .ireturn, ([], 0, 0, []), zi0)]
def cu_BA_resultOf : List (Nat × List Nat) := [(6, [0, 1, 2, 4, 5])]
set_option maxRecDepth 100000 in
theorem oc_BA_resultOf : cd_BA_resultOf.all (zchk mi_BA_resultOf) = true := by decide +kernel
set_option maxRecDepth 100000 in
theorem ow_BA_resultOf : zWs mi_BA_resultOf cd_BA_resultOf := ⟨trivial, trivial, trivial, trivial, trivial, trivial, ⟨rfl, rfl, mv_BR_length⟩, trivial, trivial, trivial, trivial, trivial, trivial, trivial, ⟨rfl, rfl, mv_BR_position⟩, trivial, trivial, trivial, trivial, trivial, ⟨rfl, rfl, mv_BR_isCapitalAt⟩, trivial, trivial, rfl, trivial, trivial, rfl, trivial, trivial, ⟨rfl, rfl, mv_PM_appliedAt⟩, trivial, trivial, trivial, trivial, trivial, trivial⟩
theorem ok_BA_resultOf : zgood2 mi_BA_resultOf cd_BA_resultOf := ⟨oc_BA_resultOf, ow_BA_resultOf⟩
def cd_BR_hasCapital : List ZE := [(0, .iconst 0, ([], nI 0, 0, []), zi0), (1, .istore_n 1, ([1], 0, 0, []), zi0), (2, .iload_n 1, ([1], 0, 0, []), zi0), (3, .aload_n 0, ([0], 0, 0, []), zi0), (4, .getfield 17, ([1, 2, 0, 49], 0, 0, []), zi0), (7, .if_icmp .ge 19, ([26], 0, 0, []), zi0), (10, .aload_n 0, ([0], 0, 0, []), zi0), (11, .iload_n 1, ([1], 0, 0, []), zi0), (12, .invokevirtual 28, ([1, 3, 16], 0, 0, []), mi_BR_isCapitalAt), (15, .ifCond .eq 5, ([20], 0, 0, []), zi0), (18, .iconst 1, ([], nI 1, 0, []), zi0), (19, .ireturn, ([], 0, 0, []), zi0), (20, .iinc 1 1, ([], nI 1, 0, []), zi0), (23, .goto (-21), ([2], 0, 0, []), zi0), (26, .iconst 0, ([], nI 0, 0, []), zi0), (27, .ireturn, ([], 0, 0, []), zi0)]
def cu_BR_hasCapital : List (Nat × List Nat) := [(2, [0, 1])]
set_option maxRecDepth 100000 in
theorem oc_BR_hasCapital : cd_BR_hasCapital.all (zchk mi_BR_hasCapital) = true := by decide +kernel
set_option maxRecDepth 100000 in
theorem ow_BR_hasCapital : zWs mi_BR_hasCapital cd_BR_hasCapital := ⟨trivial, trivial, trivial, trivial, rfl, trivial, trivial, trivial, ⟨rfl, rfl, mv_BR_isCapitalAt⟩, trivial, trivial, trivial, trivial, trivial, trivial, trivial, trivial⟩
theorem ok_BR_hasCapital : zgood2 mi_BR_hasCapital cd_BR_hasCapital := ⟨oc_BR_hasCapital, ow_BR_hasCapital⟩
def cd_BR_strands : List ZE := [(0, .iconst 0, ([], nI 0, 0, []), zi0), (1, .istore_n 1, ([1], 0, 0, []), zi0), (2, .iconst 0, ([], nI 0, 0, []), zi0), (3, .istore_n 2, ([2], 0, 0, []), zi0), (4, .iload_n 2, ([2], 0, 0, []), zi0), (5, .aload_n 0, ([0], 0, 0, []), zi0), (6, .getfield 17, ([1, 2, 0, 49], 0, 0, []), zi0), (9, .if_icmp .ge 21, ([30], 0, 0, []), zi0), (12, .iload_n 1, ([1], 0, 0, []), zi0), (13, .aload_n 0, ([0], 0, 0, []), zi0), (14, .iload_n 2, ([2], 0, 0, []), zi0), (15, .invokevirtual 31, ([1, 3, 7], 0, 0, []), mi_BR_position), (18, .iconst 2, ([], nI 2, 0, []), zi0), (19, .iadd, ([], 0, 0, []), zi0), (20, .invokestatic 35, ([0, 3, 11], 0, 0, []), mi_JM_max), (23, .istore_n 1, ([1], 0, 0, []), zi0), (24, .iinc 2 1, ([], nI 1, 0, []), zi0), (27, .goto (-23), ([4], 0, 0, []), zi0), (30, .iload_n 1, ([1], 0, 0, []), zi0), (31, .ireturn, ([], 0, 0, []), zi0)]
def cu_BR_strands : List (Nat × List Nat) := [(4, [0, 1, 2])]
set_option maxRecDepth 100000 in
theorem oc_BR_strands : cd_BR_strands.all (zchk mi_BR_strands) = true := by decide +kernel
set_option maxRecDepth 100000 in
theorem ow_BR_strands : zWs mi_BR_strands cd_BR_strands := ⟨trivial, trivial, trivial, trivial, trivial, trivial, rfl, trivial, trivial, trivial, trivial, ⟨rfl, rfl, mv_BR_position⟩, trivial, trivial, rfl, trivial, trivial, trivial, trivial, trivial, trivial⟩
theorem ok_BR_strands : zgood2 mi_BR_strands cd_BR_strands := ⟨oc_BR_strands, ow_BR_strands⟩
def cd_CH_isBroken : List ZE := [(0, .aload_n 0, ([0], 0, 0, []), zi0), (1, .aload_n 0, ([0], 0, 0, []), zi0), (2, .aload_n 0, ([0], 0, 0, []), zi0), (3, .iload_n 1, ([1], 0, 0, []), zi0), (4, .iconst 3, ([], nI 3, 0, []), zi0), (5, .invokevirtual 37, ([0, 1, 209], 0, 0, []), mi_PM_appliedAt), (8, .iconst 0, ([], nI 0, 0, []), zi0), (9, .invokevirtual 37, ([0, 1, 209], 0, 0, []), mi_PM_appliedAt), (12, .iconst 3, ([], nI 3, 0, []), zi0), (13, .invokevirtual 37, ([0, 1, 209], 0, 0, []), mi_PM_appliedAt), (16, .istore_n 2, ([2], 0, 0, []), zi0), (17, .aload_n 0, ([0], 0, 0, []), zi0), (18, .aload_n 0, ([0], 0, 0, []), zi0), (19, .aload_n 0, ([0], 0, 0, []), zi0), (20, .iload_n 1, ([1], 0, 0, []), zi0), (21, .iconst 0, ([], nI 0, 0, []), zi0), (22, .invokevirtual 37, ([0, 1, 209], 0, 0, []), mi_PM_appliedAt), (25, .iconst 3, ([], nI 3, 0, []), zi0), (26, .invokevirtual 37, ([0, 1, 209], 0, 0, []), mi_PM_appliedAt), (29, .iconst 0, ([], nI 0, 0, []), zi0), (30, .invokevirtual 37, ([0, 1, 209], 0, 0, []), mi_PM_appliedAt), (33, .istore_n 3, ([3], 0, 0, []), zi0), (34, .iload_n 2, ([2], 0, 0, []), zi0), (35, .iload_n 3, ([3], 0, 0, []), zi0), (36, .if_icmp .eq 7, ([43], 0, 0, []), zi0), (39, .iconst 1, ([], nI 1, 0, []), zi0), (40, .goto 4, ([44], 0, 0, []), zi0), (43, .iconst 0, ([], nI 0, 0, []), zi0), (44, .ireturn, ([], 0, 0, []), zi0)]
def cu_CH_isBroken : List (Nat × List Nat) := []
set_option maxRecDepth 100000 in
theorem oc_CH_isBroken : cd_CH_isBroken.all (zchk mi_CH_isBroken) = true := by decide +kernel
set_option maxRecDepth 100000 in
theorem ow_CH_isBroken : zWs mi_CH_isBroken cd_CH_isBroken := ⟨trivial, trivial, trivial, trivial, trivial, ⟨rfl, rfl, mv_PM_appliedAt⟩, trivial, ⟨rfl, rfl, mv_PM_appliedAt⟩, trivial, ⟨rfl, rfl, mv_PM_appliedAt⟩, trivial, trivial, trivial, trivial, trivial, trivial, ⟨rfl, rfl, mv_PM_appliedAt⟩, trivial, ⟨rfl, rfl, mv_PM_appliedAt⟩, trivial, ⟨rfl, rfl, mv_PM_appliedAt⟩, trivial, trivial, trivial, trivial, trivial, trivial, trivial, trivial, trivial⟩
theorem ok_CH_isBroken : zgood2 mi_CH_isBroken cd_CH_isBroken := ⟨oc_CH_isBroken, ow_CH_isBroken⟩
def cd_CH_isLeftNondegenerate : List ZE := [(0, .aload_n 0, ([0], 0, 0, []), zi0), (1, .invokevirtual 9, ([0, 1, 159], 0, 0, []), mi_PM_points), (4, .istore_n 1, ([1], 0, 0, []), zi0), (5, .iconst 0, ([], nI 0, 0, []), zi0), (6, .istore_n 2, ([2], 0, 0, []), zi0), (7, .iload_n 2, ([2], 0, 0, []), zi0), (8, .iload_n 1, ([1], 0, 0, []), zi0), (9, .if_icmp .ge 49, ([58], 0, 0, []), zi0), (12, .iconst 0, ([], nI 0, 0, []), zi0), (13, .istore_n 3, ([3], 0, 0, []), zi0), (14, .iconst 0, ([], nI 0, 0, []), zi0), (15, .istore 4, ([], 0, 0, []), zi0), (17, .iload 4, ([], 0, 0, []), zi0), (19, .iload_n 1, ([1], 0, 0, []), zi0), (20, .if_icmp .ge 21, ([41], 0, 0, []), zi0), (23, .iload_n 3, ([3], 0, 0, []), zi0), (24, .iconst 1, ([], nI 1, 0, []), zi0), (25, .aload_n 0, ([0], 0, 0, []), zi0), (26, .iload_n 2, ([2], 0, 0, []), zi0), (27, .iload 4, ([], 0, 0, []), zi0), (29, .invokevirtual 31, ([0, 1, 224], 0, 0, []), mi_PM_left), (32, .ishl, ([], 0, 0, []), zi0), (33, .ior, ([], 0, 0, []), zi0), (34, .istore_n 3, ([3], 0, 0, []), zi0), (35, .iinc 4 1, ([], nI 1, 0, []), zi0), (38, .goto (-21), ([17], 0, 0, []), zi0), (41, .iload_n 3, ([3], 0, 0, []), zi0), (42, .iconst 1, ([], nI 1, 0, []), zi0), (43, .iload_n 1, ([1], 0, 0, []), zi0), (44, .ishl, ([], 0, 0, []), zi0), (45, .iconst 1, ([], nI 1, 0, []), zi0), (46, .isub, ([], 0, 0, []), zi0), (47, .if_icmp .eq 5, ([52], 0, 0, []), zi0), (50, .iconst 0, ([], nI 0, 0, []), zi0), (51, .ireturn, ([], 0, 0, []), zi0), (52, .iinc 2 1, ([], nI 1, 0, []), zi0), (55, .goto (-48), ([7], 0, 0, []), zi0), (58, .iconst 1, ([], nI 1, 0, []), zi0), (59, .ireturn, ([], 0, 0, []), zi0)]
def cu_CH_isLeftNondegenerate : List (Nat × List Nat) := [(7, [0, 1, 2]), (17, [0, 1, 2, 3, 4])]
set_option maxRecDepth 100000 in
theorem oc_CH_isLeftNondegenerate : cd_CH_isLeftNondegenerate.all (zchk mi_CH_isLeftNondegenerate) = true := by decide +kernel
set_option maxRecDepth 100000 in
theorem ow_CH_isLeftNondegenerate : zWs mi_CH_isLeftNondegenerate cd_CH_isLeftNondegenerate := ⟨trivial, ⟨rfl, rfl, mv_PM_points⟩, trivial, trivial, trivial, trivial, trivial, trivial, trivial, trivial, trivial, trivial, trivial, trivial, trivial, trivial, trivial, trivial, trivial, trivial, ⟨rfl, rfl, mv_PM_left⟩, trivial, trivial, trivial, trivial, trivial, trivial, trivial, trivial, trivial, trivial, trivial, trivial, trivial, trivial, trivial, trivial, trivial, trivial, trivial⟩
theorem ok_CH_isLeftNondegenerate : zgood2 mi_CH_isLeftNondegenerate cd_CH_isLeftNondegenerate := ⟨oc_CH_isLeftNondegenerate, ow_CH_isLeftNondegenerate⟩
def cd_CH_isRightNondegenerate : List ZE := [(0, .aload_n 0, ([0], 0, 0, []), zi0), (1, .invokevirtual 9, ([0, 1, 159], 0, 0, []), mi_PM_points), (4, .istore_n 1, ([1], 0, 0, []), zi0), (5, .iconst 0, ([], nI 0, 0, []), zi0), (6, .istore_n 2, ([2], 0, 0, []), zi0), (7, .iload_n 2, ([2], 0, 0, []), zi0), (8, .iload_n 1, ([1], 0, 0, []), zi0), (9, .if_icmp .ge 49, ([58], 0, 0, []), zi0), (12, .iconst 0, ([], nI 0, 0, []), zi0), (13, .istore_n 3, ([3], 0, 0, []), zi0), (14, .iconst 0, ([], nI 0, 0, []), zi0), (15, .istore 4, ([], 0, 0, []), zi0), (17, .iload 4, ([], 0, 0, []), zi0), (19, .iload_n 1, ([1], 0, 0, []), zi0), (20, .if_icmp .ge 21, ([41], 0, 0, []), zi0), (23, .iload_n 3, ([3], 0, 0, []), zi0), (24, .iconst 1, ([], nI 1, 0, []), zi0), (25, .aload_n 0, ([0], 0, 0, []), zi0), (26, .iload 4, ([], 0, 0, []), zi0), (28, .iload_n 2, ([2], 0, 0, []), zi0), (29, .invokevirtual 34, ([0, 1, 228], 0, 0, []), mi_PM_right), (32, .ishl, ([], 0, 0, []), zi0), (33, .ior, ([], 0, 0, []), zi0), (34, .istore_n 3, ([3], 0, 0, []), zi0), (35, .iinc 4 1, ([], nI 1, 0, []), zi0), (38, .goto (-21), ([17], 0, 0, []), zi0), (41, .iload_n 3, ([3], 0, 0, []), zi0), (42, .iconst 1, ([], nI 1, 0, []), zi0), (43, .iload_n 1, ([1], 0, 0, []), zi0), (44, .ishl, ([], 0, 0, []), zi0), (45, .iconst 1, ([], nI 1, 0, []), zi0), (46, .isub, ([], 0, 0, []), zi0), (47, .if_icmp .eq 5, ([52], 0, 0, []), zi0), (50, .iconst 0, ([], nI 0, 0, []), zi0), (51, .ireturn, ([], 0, 0, []), zi0), (52, .iinc 2 1, ([], nI 1, 0, []), zi0), (55, .goto (-48), ([7], 0, 0, []), zi0), (58, .iconst 1, ([], nI 1, 0, []), zi0), (59, .ireturn, ([], 0, 0, []), zi0)]
def cu_CH_isRightNondegenerate : List (Nat × List Nat) := [(7, [0, 1, 2]), (17, [0, 1, 2, 3, 4])]
set_option maxRecDepth 100000 in
theorem oc_CH_isRightNondegenerate : cd_CH_isRightNondegenerate.all (zchk mi_CH_isRightNondegenerate) = true := by decide +kernel
set_option maxRecDepth 100000 in
theorem ow_CH_isRightNondegenerate : zWs mi_CH_isRightNondegenerate cd_CH_isRightNondegenerate := ⟨trivial, ⟨rfl, rfl, mv_PM_points⟩, trivial, trivial, trivial, trivial, trivial, trivial, trivial, trivial, trivial, trivial, trivial, trivial, trivial, trivial, trivial, trivial, trivial, trivial, ⟨rfl, rfl, mv_PM_right⟩, trivial, trivial, trivial, trivial, trivial, trivial, trivial, trivial, trivial, trivial, trivial, trivial, trivial, trivial, trivial, trivial, trivial, trivial, trivial⟩
theorem ok_CH_isRightNondegenerate : zgood2 mi_CH_isRightNondegenerate cd_CH_isRightNondegenerate := ⟨oc_CH_isRightNondegenerate, ow_CH_isRightNondegenerate⟩
def cd_CH_periodOf : List ZE := [(0, .aload_n 0, ([0], 0, 0, []), zi0), (1, .invokestatic 54, ([0, 2, 64], 0, 0, []), mi_CH_isBijective), (4, .ifCond .ne 5, ([9], 0, 0, []), zi0), (7, .iconst (-1), ([], (-1), 0, []), zi0), (8, .ireturn, ([], 0, 0, []), zi0), (9, .aload_n 0, ([0], 0, 0, []), zi0), (10, .invokevirtual 9, ([0, 1, 159], 0, 0, []), mi_PM_points), (13, .istore_n 1, ([1], 0, 0, []), zi0), (14, .iconst 1, ([], nI 1, 0, []), zi0), (15, .istore_n 2, ([2], 0, 0, []), zi0), (16, .iconst 0, ([], nI 0, 0, []), zi0), (17, .istore_n 3, ([3], 0, 0, []), zi0), (18, .iload_n 3, ([3], 0, 0, []), zi0), (19, .iload_n 1, ([1], 0, 0, []), zi0), (20, .if_icmp .ge 39, ([59], 0, 0, []), zi0), (23, .iconst 0, ([], nI 0, 0, []), zi0), (24, .istore 4, ([], 0, 0, []), zi0), (26, .iload 4, ([], 0, 0, []), zi0), (28, .iload_n 1, ([1], 0, 0, []), zi0), (29, .if_icmp .ge 24, ([53], 0, 0, []), zi0), (32, .iload_n 2, ([2], 0, 0, []), zi0), (33, .aload_n 0, ([0], 0, 0, []), zi0), (34, .iload_n 3, ([3], 0, 0, []), zi0), (35, .iload 4, ([], 0, 0, []), zi0), (37, .invokestatic 15, ([0, 1, 160], 0, 0, []), mi_CO_pairOf), (40, .invokestatic 58, ([0, 2, 65], 0, 0, []), mi_CH_cycleLength), (43, .invokestatic 62, ([0, 2, 68], 0, 0, []), mi_CO_commonMultiple), (46, .istore_n 2, ([2], 0, 0, []), zi0), (47, .iinc 4 1, ([], nI 1, 0, []), zi0), (50, .goto (-24), ([26], 0, 0, []), zi0), (53, .iinc 3 1, ([], nI 1, 0, []), zi0), (56, .goto (-38), ([18], 0, 0, []), zi0), (59, .iload_n 2, ([2], 0, 0, []), zi0), (60, .ireturn, ([], 0, 0, []), zi0)]
def cu_CH_periodOf : List (Nat × List Nat) := [(18, [0, 1, 2, 3]), (26, [0, 1, 2, 3, 4])]
set_option maxRecDepth 100000 in
theorem oc_CH_periodOf : cd_CH_periodOf.all (zchk mi_CH_periodOf) = true := by decide +kernel
set_option maxRecDepth 100000 in
theorem ow_CH_periodOf : zWs mi_CH_periodOf cd_CH_periodOf := ⟨trivial, ⟨rfl, ms_CH_isBijective⟩, trivial, trivial, trivial, trivial, ⟨rfl, rfl, mv_PM_points⟩, trivial, trivial, trivial, trivial, trivial, trivial, trivial, trivial, trivial, trivial, trivial, trivial, trivial, trivial, trivial, trivial, trivial, ⟨rfl, ms_CO_pairOf⟩, ⟨rfl, ms_CH_cycleLength⟩, ⟨rfl, ms_CO_commonMultiple⟩, trivial, trivial, trivial, trivial, trivial, trivial, trivial, trivial⟩
theorem ok_CH_periodOf : zgood2 mi_CH_periodOf cd_CH_periodOf := ⟨oc_CH_periodOf, ow_CH_periodOf⟩
def cd_CH_withImages : List ZE := [(0, .aload_n 0, ([0], 0, 0, []), zi0), (1, .invokevirtual 9, ([0, 1, 159], 0, 0, []), mi_PM_points), (4, .istore_n 2, ([2], 0, 0, []), zi0), (5, .iload_n 1, ([1], 0, 0, []), zi0), (6, .istore_n 3, ([3], 0, 0, []), zi0), (7, .iconst 0, ([], nI 0, 0, []), zi0), (8, .istore 4, ([], 0, 0, []), zi0), (10, .iload 4, ([], 0, 0, []), zi0), (12, .iload_n 2, ([2], 0, 0, []), zi0), (13, .if_icmp .ge 62, ([75], 0, 0, []), zi0), (16, .iconst 0, ([], nI 0, 0, []), zi0), (17, .istore 5, ([], 0, 0, []), zi0), (19, .iload 5, ([], 0, 0, []), zi0), (21, .iload_n 2, ([2], 0, 0, []), zi0), (22, .if_icmp .ge 47, ([69], 0, 0, []), zi0), (25, .iload_n 1, ([1], 0, 0, []), zi0), (26, .iload 4, ([], 0, 0, []), zi0), (28, .ishr, ([], 0, 0, []), zi0), (29, .iload_n 1, ([1], 0, 0, []), zi0), (30, .iload 5, ([], 0, 0, []), zi0), (32, .ishr, ([], 0, 0, []), zi0), (33, .iand, ([], 0, 0, []), zi0), (34, .iconst 1, ([], nI 1, 0, []), zi0), (35, .iand, ([], 0, 0, []), zi0), (36, .ifCond .eq 27, ([63], 0, 0, []), zi0), (39, .iload_n 3, ([3], 0, 0, []), zi0), (40, .iconst 1, ([], nI 1, 0, []), zi0), (41, .aload_n 0, ([0], 0, 0, []), zi0), (42, .iload 4, ([], 0, 0, []), zi0), (44, .iload 5, ([], 0, 0, []), zi0), (46, .invokevirtual 31, ([0, 1, 224], 0, 0, []), mi_PM_left), (49, .ishl, ([], 0, 0, []), zi0), (50, .iconst 1, ([], nI 1, 0, []), zi0), (51, .aload_n 0, ([0], 0, 0, []), zi0), (52, .iload 4, ([], 0, 0, []), zi0), (54, .iload 5, ([], 0, 0, []), zi0), (56, .invokevirtual 34, ([0, 1, 228], 0, 0, []), mi_PM_right), (59, .ishl, ([], 0, 0, []), zi0), (60, .ior, ([], 0, 0, []), zi0), (61, .ior, ([], 0, 0, []), zi0), (62, .istore_n 3, ([3], 0, 0, []), zi0), (63, .iinc 5 1, ([], nI 1, 0, []), zi0), (66, .goto (-47), ([19], 0, 0, []), zi0), (69, .iinc 4 1, ([], nI 1, 0, []), zi0), (72, .goto (-62), ([10], 0, 0, []), zi0), (75, .iload_n 3, ([3], 0, 0, []), zi0), (76, .ireturn, ([], 0, 0, []), zi0)]
def cu_CH_withImages : List (Nat × List Nat) := [(10, [0, 1, 2, 3, 4]), (19, [0, 1, 2, 3, 4, 5])]
set_option maxRecDepth 100000 in
theorem oc_CH_withImages : cd_CH_withImages.all (zchk mi_CH_withImages) = true := by decide +kernel
set_option maxRecDepth 100000 in
theorem ow_CH_withImages : zWs mi_CH_withImages cd_CH_withImages := ⟨trivial, ⟨rfl, rfl, mv_PM_points⟩, trivial, trivial, trivial, trivial, trivial, trivial, trivial, trivial, trivial, trivial, trivial, trivial, trivial, trivial, trivial, trivial, trivial, trivial, trivial, trivial, trivial, trivial, trivial, trivial, trivial, trivial, trivial, trivial, ⟨rfl, rfl, mv_PM_left⟩, trivial, trivial, trivial, trivial, trivial, ⟨rfl, rfl, mv_PM_right⟩, trivial, trivial, trivial, trivial, trivial, trivial, trivial, trivial, trivial, trivial, trivial⟩
theorem ok_CH_withImages : zgood2 mi_CH_withImages cd_CH_withImages := ⟨oc_CH_withImages, ow_CH_withImages⟩
def cd_CH_withLinked : List ZE := [(0, .aload_n 0, ([0], 0, 0, []), zi0), (1, .invokevirtual 9, ([0, 1, 159], 0, 0, []), mi_PM_points), (4, .istore_n 2, ([2], 0, 0, []), zi0), (5, .iload_n 1, ([1], 0, 0, []), zi0), (6, .istore_n 3, ([3], 0, 0, []), zi0), (7, .iconst 0, ([], nI 0, 0, []), zi0), (8, .istore 4, ([], 0, 0, []), zi0), (10, .iload 4, ([], 0, 0, []), zi0), (12, .iload_n 2, ([2], 0, 0, []), zi0), (13, .if_icmp .ge 54, ([67], 0, 0, []), zi0), (16, .iconst 0, ([], nI 0, 0, []), zi0), (17, .istore 5, ([], 0, 0, []), zi0), (19, .iload 5, ([], 0, 0, []), zi0), (21, .iload_n 2, ([2], 0, 0, []), zi0), (22, .if_icmp .ge 39, ([61], 0, 0, []), zi0), (25, .iload_n 3, ([3], 0, 0, []), zi0), (26, .iload 5, ([], 0, 0, []), zi0), (28, .aload_n 0, ([0], 0, 0, []), zi0), (29, .iload 4, ([], 0, 0, []), zi0), (31, .iload 5, ([], 0, 0, []), zi0), (33, .invokevirtual 31, ([0, 1, 224], 0, 0, []), mi_PM_left), (36, .invokestatic 68, ([0, 2, 1], 0, 0, []), mi_CH_joined), (39, .istore_n 3, ([3], 0, 0, []), zi0), (40, .iload_n 3, ([3], 0, 0, []), zi0), (41, .iload 4, ([], 0, 0, []), zi0), (43, .aload_n 0, ([0], 0, 0, []), zi0), (44, .iload 4, ([], 0, 0, []), zi0), (46, .iload 5, ([], 0, 0, []), zi0), (48, .invokevirtual 34, ([0, 1, 228], 0, 0, []), mi_PM_right), (51, .invokestatic 68, ([0, 2, 1], 0, 0, []), mi_CH_joined), (54, .istore_n 3, ([3], 0, 0, []), zi0), (55, .iinc 5 1, ([], nI 1, 0, []), zi0), (58, .goto (-39), ([19], 0, 0, []), zi0), (61, .iinc 4 1, ([], nI 1, 0, []), zi0), (64, .goto (-54), ([10], 0, 0, []), zi0), (67, .iload_n 3, ([3], 0, 0, []), zi0), (68, .ireturn, ([], 0, 0, []), zi0)]
def cu_CH_withLinked : List (Nat × List Nat) := [(10, [0, 2, 3, 4]), (19, [0, 2, 3, 4, 5])]
set_option maxRecDepth 100000 in
theorem oc_CH_withLinked : cd_CH_withLinked.all (zchk mi_CH_withLinked) = true := by decide +kernel
set_option maxRecDepth 100000 in
theorem ow_CH_withLinked : zWs mi_CH_withLinked cd_CH_withLinked := ⟨trivial, ⟨rfl, rfl, mv_PM_points⟩, trivial, trivial, trivial, trivial, trivial, trivial, trivial, trivial, trivial, trivial, trivial, trivial, trivial, trivial, trivial, trivial, trivial, trivial, ⟨rfl, rfl, mv_PM_left⟩, ⟨rfl, ms_CH_joined⟩, trivial, trivial, trivial, trivial, trivial, trivial, ⟨rfl, rfl, mv_PM_right⟩, ⟨rfl, ms_CH_joined⟩, trivial, trivial, trivial, trivial, trivial, trivial, trivial, trivial⟩
theorem ok_CH_withLinked : zgood2 mi_CH_withLinked cd_CH_withLinked := ⟨oc_CH_withLinked, ow_CH_withLinked⟩
def cd_CO_isPermutation : List ZE := [(0, .iconst 0, ([], nI 0, 0, []), zi0), (1, .istore_n 2, ([2], 0, 0, []), zi0), (2, .iconst 0, ([], nI 0, 0, []), zi0), (3, .istore_n 3, ([3], 0, 0, []), zi0), (4, .iload_n 3, ([3], 0, 0, []), zi0), (5, .iload_n 1, ([1], 0, 0, []), zi0), (6, .if_icmp .ge 19, ([25], 0, 0, []), zi0), (9, .iload_n 2, ([2], 0, 0, []), zi0), (10, .iconst 1, ([], nI 1, 0, []), zi0), (11, .iload_n 0, ([0], 0, 0, []), zi0), (12, .iload_n 3, ([3], 0, 0, []), zi0), (13, .invokestatic 7, ([0, 0, 221], 0, 0, []), mi_CO_digit), (16, .ishl, ([], 0, 0, []), zi0), (17, .ior, ([], 0, 0, []), zi0), (18, .istore_n 2, ([2], 0, 0, []), zi0), (19, .iinc 3 1, ([], nI 1, 0, []), zi0), (22, .goto (-18), ([4], 0, 0, []), zi0), (25, .iload_n 0, ([0], 0, 0, []), zi0), (26, .iload_n 1, ([1], 0, 0, []), zi0), (27, .iload_n 1, ([1], 0, 0, []), zi0), (28, .invokestatic 13, ([0, 0, 222], 0, 0, []), mi_CO_isCode), (31, .ifCond .eq 16, ([47], 0, 0, []), zi0), (34, .iload_n 2, ([2], 0, 0, []), zi0), (35, .iconst 1, ([], nI 1, 0, []), zi0), (36, .iload_n 1, ([1], 0, 0, []), zi0), (37, .ishl, ([], 0, 0, []), zi0), (38, .iconst 1, ([], nI 1, 0, []), zi0), (39, .isub, ([], 0, 0, []), zi0), (40, .if_icmp .ne 7, ([47], 0, 0, []), zi0), (43, .iconst 1, ([], nI 1, 0, []), zi0), (44, .goto 4, ([48], 0, 0, []), zi0), (47, .iconst 0, ([], nI 0, 0, []), zi0), (48, .ireturn, ([], 0, 0, []), zi0)]
def cu_CO_isPermutation : List (Nat × List Nat) := [(4, [0, 1, 2, 3])]
set_option maxRecDepth 100000 in
theorem oc_CO_isPermutation : cd_CO_isPermutation.all (zchk mi_CO_isPermutation) = true := by decide +kernel
set_option maxRecDepth 100000 in
theorem ow_CO_isPermutation : zWs mi_CO_isPermutation cd_CO_isPermutation := ⟨trivial, trivial, trivial, trivial, trivial, trivial, trivial, trivial, trivial, trivial, trivial, ⟨rfl, ms_CO_digit⟩, trivial, trivial, trivial, trivial, trivial, trivial, trivial, trivial, ⟨rfl, ms_CO_isCode⟩, trivial, trivial, trivial, trivial, trivial, trivial, trivial, trivial, trivial, trivial, trivial, trivial, trivial⟩
theorem ok_CO_isPermutation : zgood2 mi_CO_isPermutation cd_CO_isPermutation := ⟨oc_CO_isPermutation, ow_CO_isPermutation⟩
def cd_PM_becomeInverse : List ZE := [(0, .aload_n 0, ([0], 0, 0, []), zi0), (1, .aload_n 1, ([1], 0, 0, []), zi0), (2, .getfield 13, ([0, 1, 0, 35], 0, 0, []), zi0), (5, .putfield 13, ([0, 1, 0, 35], 0, 0, []), zi0), (8, .iconst 0, ([], nI 0, 0, []), zi0), (9, .istore_n 2, ([2], 0, 0, []), zi0), (10, .iload_n 2, ([2], 0, 0, []), zi0), (11, .aload_n 0, ([0], 0, 0, []), zi0), (12, .getfield 13, ([0, 1, 0, 35], 0, 0, []), zi0), (15, .if_icmp .ge 43, ([58], 0, 0, []), zi0), (18, .iconst 0, ([], nI 0, 0, []), zi0), (19, .istore_n 3, ([3], 0, 0, []), zi0), (20, .iload_n 3, ([3], 0, 0, []), zi0), (21, .aload_n 0, ([0], 0, 0, []), zi0), (22, .getfield 13, ([0, 1, 0, 35], 0, 0, []), zi0), (25, .if_icmp .ge 27, ([52], 0, 0, []), zi0), (28, .aload_n 0, ([0], 0, 0, []), zi0), (29, .aload_n 1, ([1], 0, 0, []), zi0), (30, .iload_n 2, ([2], 0, 0, []), zi0), (31, .iload_n 3, ([3], 0, 0, []), zi0), (32, .invokevirtual 47, ([0, 1, 138], 0, 0, []), mi_PM_left), (35, .aload_n 1, ([1], 0, 0, []), zi0), (36, .iload_n 2, ([2], 0, 0, []), zi0), (37, .iload_n 3, ([3], 0, 0, []), zi0), (38, .invokevirtual 50, ([0, 1, 139], 0, 0, []), mi_PM_right), (41, .iload_n 2, ([2], 0, 0, []), zi0), (42, .iload_n 3, ([3], 0, 0, []), zi0), (43, .invokevirtual 30, ([0, 0, 195], 0, 0, []), mi_PM_setImage), (46, .iinc 3 1, ([], nI 1, 0, []), zi0), (49, .goto (-29), ([20], 0, 0, []), zi0), (52, .iinc 2 1, ([], nI 1, 0, []), zi0), (55, .goto (-45), ([10], 0, 0, []), zi0), (58, .return_, ([], 0, 0, []), zi0)]
def cu_PM_becomeInverse : List (Nat × List Nat) := [(10, [0, 1, 2]), (20, [0, 1, 2, 3])]
set_option maxRecDepth 100000 in
theorem oc_PM_becomeInverse : cd_PM_becomeInverse.all (zchk mi_PM_becomeInverse) = true := by decide +kernel
set_option maxRecDepth 100000 in
theorem ow_PM_becomeInverse : zWs mi_PM_becomeInverse cd_PM_becomeInverse := ⟨trivial, trivial, rfl, ⟨rfl, rfl⟩, trivial, trivial, trivial, trivial, rfl, trivial, trivial, trivial, trivial, trivial, rfl, trivial, trivial, trivial, trivial, trivial, ⟨rfl, rfl, mv_PM_left⟩, trivial, trivial, trivial, ⟨rfl, rfl, mv_PM_right⟩, trivial, trivial, ⟨rfl, rfl, mv_PM_setImage⟩, trivial, trivial, trivial, trivial, trivial, trivial⟩
theorem ok_PM_becomeInverse : zgood2 mi_PM_becomeInverse cd_PM_becomeInverse := ⟨oc_PM_becomeInverse, ow_PM_becomeInverse⟩
def cd_PM_becomeMirror : List ZE := [(0, .aload_n 0, ([0], 0, 0, []), zi0), (1, .aload_n 1, ([1], 0, 0, []), zi0), (2, .getfield 13, ([0, 1, 0, 35], 0, 0, []), zi0), (5, .putfield 13, ([0, 1, 0, 35], 0, 0, []), zi0), (8, .iconst 0, ([], nI 0, 0, []), zi0), (9, .istore_n 2, ([2], 0, 0, []), zi0), (10, .iload_n 2, ([2], 0, 0, []), zi0), (11, .aload_n 0, ([0], 0, 0, []), zi0), (12, .getfield 13, ([0, 1, 0, 35], 0, 0, []), zi0), (15, .if_icmp .ge 43, ([58], 0, 0, []), zi0), (18, .iconst 0, ([], nI 0, 0, []), zi0), (19, .istore_n 3, ([3], 0, 0, []), zi0), (20, .iload_n 3, ([3], 0, 0, []), zi0), (21, .aload_n 0, ([0], 0, 0, []), zi0), (22, .getfield 13, ([0, 1, 0, 35], 0, 0, []), zi0), (25, .if_icmp .ge 27, ([52], 0, 0, []), zi0), (28, .aload_n 0, ([0], 0, 0, []), zi0), (29, .iload_n 2, ([2], 0, 0, []), zi0), (30, .iload_n 3, ([3], 0, 0, []), zi0), (31, .aload_n 1, ([1], 0, 0, []), zi0), (32, .iload_n 3, ([3], 0, 0, []), zi0), (33, .iload_n 2, ([2], 0, 0, []), zi0), (34, .invokevirtual 50, ([0, 1, 139], 0, 0, []), mi_PM_right), (37, .aload_n 1, ([1], 0, 0, []), zi0), (38, .iload_n 3, ([3], 0, 0, []), zi0), (39, .iload_n 2, ([2], 0, 0, []), zi0), (40, .invokevirtual 47, ([0, 1, 138], 0, 0, []), mi_PM_left), (43, .invokevirtual 30, ([0, 0, 195], 0, 0, []), mi_PM_setImage), (46, .iinc 3 1, ([], nI 1, 0, []), zi0), (49, .goto (-29), ([20], 0, 0, []), zi0), (52, .iinc 2 1, ([], nI 1, 0, []), zi0), (55, .goto (-45), ([10], 0, 0, []), zi0), (58, .return_, ([], 0, 0, []), zi0)]
def cu_PM_becomeMirror : List (Nat × List Nat) := [(10, [0, 1, 2]), (20, [0, 1, 2, 3])]
set_option maxRecDepth 100000 in
theorem oc_PM_becomeMirror : cd_PM_becomeMirror.all (zchk mi_PM_becomeMirror) = true := by decide +kernel
set_option maxRecDepth 100000 in
theorem ow_PM_becomeMirror : zWs mi_PM_becomeMirror cd_PM_becomeMirror := ⟨trivial, trivial, rfl, ⟨rfl, rfl⟩, trivial, trivial, trivial, trivial, rfl, trivial, trivial, trivial, trivial, trivial, rfl, trivial, trivial, trivial, trivial, trivial, trivial, trivial, ⟨rfl, rfl, mv_PM_right⟩, trivial, trivial, trivial, ⟨rfl, rfl, mv_PM_left⟩, ⟨rfl, rfl, mv_PM_setImage⟩, trivial, trivial, trivial, trivial, trivial, trivial⟩
theorem ok_PM_becomeMirror : zgood2 mi_PM_becomeMirror cd_PM_becomeMirror := ⟨oc_PM_becomeMirror, ow_PM_becomeMirror⟩
def cd_PM_becomeRenamed : List ZE := [(0, .aload_n 0, ([0], 0, 0, []), zi0), (1, .aload_n 1, ([1], 0, 0, []), zi0), (2, .getfield 13, ([0, 1, 0, 35], 0, 0, []), zi0), (5, .putfield 13, ([0, 1, 0, 35], 0, 0, []), zi0), (8, .iconst 0, ([], nI 0, 0, []), zi0), (9, .istore_n 3, ([3], 0, 0, []), zi0), (10, .iload_n 3, ([3], 0, 0, []), zi0), (11, .aload_n 0, ([0], 0, 0, []), zi0), (12, .getfield 13, ([0, 1, 0, 35], 0, 0, []), zi0), (15, .if_icmp .ge 72, ([87], 0, 0, []), zi0), (18, .iconst 0, ([], nI 0, 0, []), zi0), (19, .istore 4, ([], 0, 0, []), zi0), (21, .iload 4, ([], 0, 0, []), zi0), (23, .aload_n 0, ([0], 0, 0, []), zi0), (24, .getfield 13, ([0, 1, 0, 35], 0, 0, []), zi0), (27, .if_icmp .ge 54, ([81], 0, 0, []), zi0), (30, .iload_n 2, ([2], 0, 0, []), zi0), (31, .aload_n 1, ([1], 0, 0, []), zi0), (32, .iload_n 3, ([3], 0, 0, []), zi0), (33, .iload 4, ([], 0, 0, []), zi0), (35, .invokevirtual 47, ([0, 1, 138], 0, 0, []), mi_PM_left), (38, .invokestatic 27, ([0, 0, 192], 0, 0, []), mi_CO_digit), (41, .istore 5, ([], 0, 0, []), zi0), (43, .iload_n 2, ([2], 0, 0, []), zi0), (44, .aload_n 1, ([1], 0, 0, []), zi0), (45, .iload_n 3, ([3], 0, 0, []), zi0), (46, .iload 4, ([], 0, 0, []), zi0), (48, .invokevirtual 50, ([0, 1, 139], 0, 0, []), mi_PM_right), (51, .invokestatic 27, ([0, 0, 192], 0, 0, []), mi_CO_digit), (54, .istore 6, ([], 0, 0, []), zi0), (56, .aload_n 0, ([0], 0, 0, []), zi0), (57, .iload_n 2, ([2], 0, 0, []), zi0), (58, .iload_n 3, ([3], 0, 0, []), zi0), (59, .invokestatic 27, ([0, 0, 192], 0, 0, []), mi_CO_digit), (62, .iload_n 2, ([2], 0, 0, []), zi0), (63, .iload 4, ([], 0, 0, []), zi0), (65, .invokestatic 27, ([0, 0, 192], 0, 0, []), mi_CO_digit), (68, .iload 5, ([], 0, 0, []), zi0), (70, .iload 6, ([], 0, 0, []), zi0), (72, .invokevirtual 30, ([0, 0, 195], 0, 0, []), mi_PM_setImage), (75, .iinc 4 1, ([], nI 1, 0, []), zi0), (78, .goto (-57), ([21], 0, 0, []), zi0), (81, .iinc 3 1, ([], nI 1, 0, []), zi0), (84, .goto (-74), ([10], 0, 0, []), zi0), (87, .return_, ([], 0, 0, []), zi0)]
def cu_PM_becomeRenamed : List (Nat × List Nat) := [(10, [0, 1, 2, 3]), (21, [0, 1, 2, 3, 4])]
set_option maxRecDepth 100000 in
theorem oc_PM_becomeRenamed : cd_PM_becomeRenamed.all (zchk mi_PM_becomeRenamed) = true := by decide +kernel
set_option maxRecDepth 100000 in
theorem ow_PM_becomeRenamed : zWs mi_PM_becomeRenamed cd_PM_becomeRenamed := ⟨trivial, trivial, rfl, ⟨rfl, rfl⟩, trivial, trivial, trivial, trivial, rfl, trivial, trivial, trivial, trivial, trivial, rfl, trivial, trivial, trivial, trivial, trivial, ⟨rfl, rfl, mv_PM_left⟩, ⟨rfl, ms_CO_digit⟩, trivial, trivial, trivial, trivial, trivial, ⟨rfl, rfl, mv_PM_right⟩, ⟨rfl, ms_CO_digit⟩, trivial, trivial, trivial, trivial, ⟨rfl, ms_CO_digit⟩, trivial, trivial, ⟨rfl, ms_CO_digit⟩, trivial, trivial, ⟨rfl, rfl, mv_PM_setImage⟩, trivial, trivial, trivial, trivial, trivial, trivial⟩
theorem ok_PM_becomeRenamed : zgood2 mi_PM_becomeRenamed cd_PM_becomeRenamed := ⟨oc_PM_becomeRenamed, ow_PM_becomeRenamed⟩
def cd_PM_becomeTwist : List ZE := [(0, .aload_n 0, ([0], 0, 0, []), zi0), (1, .iload_n 1, ([1], 0, 0, []), zi0), (2, .putfield 13, ([0, 1, 0, 35], 0, 0, []), zi0), (5, .iconst 0, ([], nI 0, 0, []), zi0), (6, .istore 4, ([], 0, 0, []), zi0), (8, .iload 4, ([], 0, 0, []), zi0), (10, .iload_n 1, ([1], 0, 0, []), zi0), (11, .if_icmp .ge 44, ([55], 0, 0, []), zi0), (14, .iconst 0, ([], nI 0, 0, []), zi0), (15, .istore 5, ([], 0, 0, []), zi0), (17, .iload 5, ([], 0, 0, []), zi0), (19, .iload_n 1, ([1], 0, 0, []), zi0), (20, .if_icmp .ge 29, ([49], 0, 0, []), zi0), (23, .aload_n 0, ([0], 0, 0, []), zi0), (24, .iload 4, ([], 0, 0, []), zi0), (26, .iload 5, ([], 0, 0, []), zi0), (28, .iload_n 2, ([2], 0, 0, []), zi0), (29, .iload 5, ([], 0, 0, []), zi0), (31, .invokestatic 27, ([0, 0, 192], 0, 0, []), mi_CO_digit), (34, .iload_n 3, ([3], 0, 0, []), zi0), (35, .iload 4, ([], 0, 0, []), zi0), (37, .invokestatic 27, ([0, 0, 192], 0, 0, []), mi_CO_digit), (40, .invokevirtual 30, ([0, 0, 195], 0, 0, []), mi_PM_setImage), (43, .iinc 5 1, ([], nI 1, 0, []), zi0), (46, .goto (-29), ([17], 0, 0, []), zi0), (49, .iinc 4 1, ([], nI 1, 0, []), zi0), (52, .goto (-44), ([8], 0, 0, []), zi0), (55, .return_, ([], 0, 0, []), zi0)]
def cu_PM_becomeTwist : List (Nat × List Nat) := [(8, [0, 1, 2, 3, 4]), (17, [0, 1, 2, 3, 4, 5])]
set_option maxRecDepth 100000 in
theorem oc_PM_becomeTwist : cd_PM_becomeTwist.all (zchk mi_PM_becomeTwist) = true := by decide +kernel
set_option maxRecDepth 100000 in
theorem ow_PM_becomeTwist : zWs mi_PM_becomeTwist cd_PM_becomeTwist := ⟨trivial, trivial, ⟨rfl, rfl⟩, trivial, trivial, trivial, trivial, trivial, trivial, trivial, trivial, trivial, trivial, trivial, trivial, trivial, trivial, trivial, ⟨rfl, ms_CO_digit⟩, trivial, trivial, ⟨rfl, ms_CO_digit⟩, ⟨rfl, rfl, mv_PM_setImage⟩, trivial, trivial, trivial, trivial, trivial, trivial⟩
theorem ok_PM_becomeTwist : zgood2 mi_PM_becomeTwist cd_PM_becomeTwist := ⟨oc_PM_becomeTwist, ow_PM_becomeTwist⟩
def cd_PM_setBlock : List ZE := [(0, .aload_n 2, ([2], 0, 0, []), zi0), (1, .getfield 13, ([0, 1, 0, 35], 0, 0, []), zi0), (4, .istore 5, ([], 0, 0, []), zi0), (6, .aload_n 1, ([1], 0, 0, []), zi0), (7, .iload_n 3, ([3], 0, 0, []), zi0), (8, .iload 4, ([], 0, 0, []), zi0), (10, .invokevirtual 47, ([0, 1, 138], 0, 0, []), mi_PM_left), (13, .iload 5, ([], 0, 0, []), zi0), (15, .imul, ([], 0, 0, []), zi0), (16, .istore 6, ([], 0, 0, []), zi0), (18, .aload_n 1, ([1], 0, 0, []), zi0), (19, .iload_n 3, ([3], 0, 0, []), zi0), (20, .iload 4, ([], 0, 0, []), zi0), (22, .invokevirtual 50, ([0, 1, 139], 0, 0, []), mi_PM_right), (25, .iload 5, ([], 0, 0, []), zi0), (27, .imul, ([], 0, 0, []), zi0), (28, .istore 7, ([], 0, 0, []), zi0), (30, .iconst 0, ([], nI 0, 0, []), zi0), (31, .istore 8, ([], 0, 0, []), zi0), (33, .iload 8, ([], 0, 0, []), zi0), (35, .iload 5, ([], 0, 0, []), zi0), (37, .if_icmp .ge 66, ([103], 0, 0, []), zi0), (40, .iconst 0, ([], nI 0, 0, []), zi0), (41, .istore 9, ([], 0, 0, []), zi0), (43, .iload 9, ([], 0, 0, []), zi0), (45, .iload 5, ([], 0, 0, []), zi0), (47, .if_icmp .ge 50, ([97], 0, 0, []), zi0), (50, .aload_n 0, ([0], 0, 0, []), zi0), (51, .iload_n 3, ([3], 0, 0, []), zi0), (52, .iload 5, ([], 0, 0, []), zi0), (54, .imul, ([], 0, 0, []), zi0), (55, .iload 8, ([], 0, 0, []), zi0), (57, .iadd, ([], 0, 0, []), zi0), (58, .iload 4, ([], 0, 0, []), zi0), (60, .iload 5, ([], 0, 0, []), zi0), (62, .imul, ([], 0, 0, []), zi0), (63, .iload 9, ([], 0, 0, []), zi0), (65, .iadd, ([], 0, 0, []), zi0), (66, .iload 6, ([], 0, 0, []), zi0), (68, .aload_n 2, ([2], 0, 0, []), zi0), (69, .iload 8, ([], 0, 0, []), zi0), (71, .iload 9, ([], 0, 0, []), zi0), (73, .invokevirtual 47, ([0, 1, 138], 0, 0, []), mi_PM_left), (76, .iadd, ([], 0, 0, []), zi0), (77, .iload 7, ([], 0, 0, []), zi0), (79, .aload_n 2, ([2], 0, 0, []), zi0), (80, .iload 8, ([], 0, 0, []), zi0), (82, .iload 9, ([], 0, 0, []), zi0), (84, .invokevirtual 50, ([0, 1, 139], 0, 0, []), mi_PM_right), (87, .iadd, ([], 0, 0, []), zi0), (88, .invokevirtual 30, ([0, 0, 195], 0, 0, []), mi_PM_setImage), (91, .iinc 9 1, ([], nI 1, 0, []), zi0), (94, .goto (-51), ([43], 0, 0, []), zi0), (97, .iinc 8 1, ([], nI 1, 0, []), zi0), (100, .goto (-67), ([33], 0, 0, []), zi0), (103, .return_, ([], 0, 0, []), zi0)]
def cu_PM_setBlock : List (Nat × List Nat) := [(33, [0, 2, 3, 4, 5, 6, 7, 8]), (43, [0, 2, 3, 4, 5, 6, 7, 8, 9])]
set_option maxRecDepth 100000 in
theorem oc_PM_setBlock : cd_PM_setBlock.all (zchk mi_PM_setBlock) = true := by decide +kernel
set_option maxRecDepth 100000 in
theorem ow_PM_setBlock : zWs mi_PM_setBlock cd_PM_setBlock := ⟨trivial, rfl, trivial, trivial, trivial, trivial, ⟨rfl, rfl, mv_PM_left⟩, trivial, trivial, trivial, trivial, trivial, trivial, ⟨rfl, rfl, mv_PM_right⟩, trivial, trivial, trivial, trivial, trivial, trivial, trivial, trivial, trivial, trivial, trivial, trivial, trivial, trivial, trivial, trivial, trivial, trivial, trivial, trivial, trivial, trivial, trivial, trivial, trivial, trivial, trivial, trivial, ⟨rfl, rfl, mv_PM_left⟩, trivial, trivial, trivial, trivial, trivial, ⟨rfl, rfl, mv_PM_right⟩, trivial, ⟨rfl, rfl, mv_PM_setImage⟩, trivial, trivial, trivial, trivial, trivial, trivial⟩
theorem ok_PM_setBlock : zgood2 mi_PM_setBlock cd_PM_setBlock := ⟨oc_PM_setBlock, ow_PM_setBlock⟩
def cd_PM_setShifted : List ZE := [(0, .iconst 0, ([], nI 0, 0, []), zi0), (1, .istore_n 3, ([3], 0, 0, []), zi0), (2, .iload_n 3, ([3], 0, 0, []), zi0), (3, .aload_n 1, ([1], 0, 0, []), zi0), (4, .getfield 13, ([0, 1, 0, 35], 0, 0, []), zi0), (7, .if_icmp .ge 56, ([63], 0, 0, []), zi0), (10, .iconst 0, ([], nI 0, 0, []), zi0), (11, .istore 4, ([], 0, 0, []), zi0), (13, .iload 4, ([], 0, 0, []), zi0), (15, .aload_n 1, ([1], 0, 0, []), zi0), (16, .getfield 13, ([0, 1, 0, 35], 0, 0, []), zi0), (19, .if_icmp .ge 38, ([57], 0, 0, []), zi0), (22, .aload_n 0, ([0], 0, 0, []), zi0), (23, .iload_n 2, ([2], 0, 0, []), zi0), (24, .iload_n 3, ([3], 0, 0, []), zi0), (25, .iadd, ([], 0, 0, []), zi0), (26, .iload_n 2, ([2], 0, 0, []), zi0), (27, .iload 4, ([], 0, 0, []), zi0), (29, .iadd, ([], 0, 0, []), zi0), (30, .iload_n 2, ([2], 0, 0, []), zi0), (31, .aload_n 1, ([1], 0, 0, []), zi0), (32, .iload_n 3, ([3], 0, 0, []), zi0), (33, .iload 4, ([], 0, 0, []), zi0), (35, .invokevirtual 47, ([0, 1, 138], 0, 0, []), mi_PM_left), (38, .iadd, ([], 0, 0, []), zi0), (39, .iload_n 2, ([2], 0, 0, []), zi0), (40, .aload_n 1, ([1], 0, 0, []), zi0), (41, .iload_n 3, ([3], 0, 0, []), zi0), (42, .iload 4, ([], 0, 0, []), zi0), (44, .invokevirtual 50, ([0, 1, 139], 0, 0, []), mi_PM_right), (47, .iadd, ([], 0, 0, []), zi0), (48, .invokevirtual 30, ([0, 0, 195], 0, 0, []), mi_PM_setImage), (51, .iinc 4 1, ([], nI 1, 0, []), zi0), (54, .goto (-41), ([13], 0, 0, []), zi0), (57, .iinc 3 1, ([], nI 1, 0, []), zi0), (60, .goto (-58), ([2], 0, 0, []), zi0), (63, .return_, ([], 0, 0, []), zi0)]
def cu_PM_setShifted : List (Nat × List Nat) := [(2, [0, 1, 2, 3]), (13, [0, 1, 2, 3, 4])]
set_option maxRecDepth 100000 in
theorem oc_PM_setShifted : cd_PM_setShifted.all (zchk mi_PM_setShifted) = true := by decide +kernel
set_option maxRecDepth 100000 in
theorem ow_PM_setShifted : zWs mi_PM_setShifted cd_PM_setShifted := ⟨trivial, trivial, trivial, trivial, rfl, trivial, trivial, trivial, trivial, trivial, rfl, trivial, trivial, trivial, trivial, trivial, trivial, trivial, trivial, trivial, trivial, trivial, trivial, ⟨rfl, rfl, mv_PM_left⟩, trivial, trivial, trivial, trivial, trivial, ⟨rfl, rfl, mv_PM_right⟩, trivial, ⟨rfl, rfl, mv_PM_setImage⟩, trivial, trivial, trivial, trivial, trivial, trivial⟩
theorem ok_PM_setShifted : zgood2 mi_PM_setShifted cd_PM_setShifted := ⟨oc_PM_setShifted, ow_PM_setShifted⟩
def cd_RG_followedBy : List ZE := [(0, .aload_n 1, ([1], 0, 0, []), zi0), (1, .invokevirtual 42, ([0, 2, 24], 0, 0, []), mi_PM_points), (4, .istore_n 3, ([3], 0, 0, []), zi0), (5, .iconst 0, ([], nI 0, 0, []), zi0), (6, .istore 4, ([], 0, 0, []), zi0), (8, .iconst 0, ([], nI 0, 0, []), zi0), (9, .istore 5, ([], 0, 0, []), zi0), (11, .iload 5, ([], 0, 0, []), zi0), (13, .bipush 6, ([], nI 6, 0, []), zi0), (15, .if_icmp .ge 45, ([60], 0, 0, []), zi0), (18, .iload_n 0, ([0], 0, 0, []), zi0), (19, .iload 5, ([], 0, 0, []), zi0), (21, .invokestatic 52, ([0, 2, 28], 0, 0, []), mi_CO_digit), (24, .istore 6, ([], 0, 0, []), zi0), (26, .iload 4, ([], 0, 0, []), zi0), (28, .iload 6, ([], 0, 0, []), zi0), (30, .iload_n 3, ([3], 0, 0, []), zi0), (31, .if_icmp .ge 13, ([44], 0, 0, []), zi0), (34, .aload_n 1, ([1], 0, 0, []), zi0), (35, .iload_n 2, ([2], 0, 0, []), zi0), (36, .iload 6, ([], 0, 0, []), zi0), (38, .invokevirtual 56, ([0, 2, 29], 0, 0, []), mi_PM_left), (41, .goto 5, ([46], 0, 0, []), zi0), (44, .iload 6, ([], 0, 0, []), zi0), (46, .iconst 3, ([], nI 3, 0, []), zi0), (47, .iload 5, ([], 0, 0, []), zi0), (49, .imul, ([], 0, 0, []), zi0), (50, .ishl, ([], 0, 0, []), zi0), (51, .ior, ([], 0, 0, []), zi0), (52, .istore 4, ([], 0, 0, []), zi0), (54, .iinc 5 1, ([], nI 1, 0, []), zi0), (57, .goto (-46), ([11], 0, 0, []), zi0), (60, .iload 4, ([], 0, 0, []), zi0), (62, .ireturn, ([], 0, 0, []), zi0)]
def cu_RG_followedBy : List (Nat × List Nat) := [(11, [0, 1, 2, 3, 4, 5])]
set_option maxRecDepth 100000 in
theorem oc_RG_followedBy : cd_RG_followedBy.all (zchk mi_RG_followedBy) = true := by decide +kernel
set_option maxRecDepth 100000 in
theorem ow_RG_followedBy : zWs mi_RG_followedBy cd_RG_followedBy := ⟨trivial, ⟨rfl, rfl, mv_PM_points⟩, trivial, trivial, trivial, trivial, trivial, trivial, trivial, trivial, trivial, trivial, ⟨rfl, ms_CO_digit⟩, trivial, trivial, trivial, trivial, trivial, trivial, trivial, trivial, ⟨rfl, rfl, mv_PM_left⟩, trivial, trivial, trivial, trivial, trivial, trivial, trivial, trivial, trivial, trivial, trivial, trivial, trivial⟩
theorem ok_RG_followedBy : zgood2 mi_RG_followedBy cd_RG_followedBy := ⟨oc_RG_followedBy, ow_RG_followedBy⟩
def cd_RN_renamedRows : List ZE := [(0, .aload_n 1, ([1], 0, 0, []), zi0), (1, .invokevirtual 15, ([0, 2, 34], 0, 0, []), mi_PM_points), (4, .istore_n 2, ([2], 0, 0, []), zi0), (5, .lconst 0, ([], 0, lN 0, []), zi0), (6, .lstore_n 3, ([3], 0, 0, []), zi0), (7, .iconst 0, ([], nI 0, 0, []), zi0), (8, .istore 5, ([], 0, 0, []), zi0), (10, .iload 5, ([], 0, 0, []), zi0), (12, .iload_n 2, ([2], 0, 0, []), zi0), (13, .if_icmp .ge 64, ([77], 0, 0, []), zi0), (16, .iconst 0, ([], nI 0, 0, []), zi0), (17, .istore 6, ([], 0, 0, []), zi0), (19, .iload 6, ([], 0, 0, []), zi0), (21, .iload_n 2, ([2], 0, 0, []), zi0), (22, .if_icmp .ge 49, ([71], 0, 0, []), zi0), (25, .aload_n 0, ([0], 0, 0, []), zi0), (26, .iload 5, ([], 0, 0, []), zi0), (28, .invokevirtual 57, ([4, 2, 46], 0, 0, []), mi_RN_imageOf), (31, .iload_n 2, ([2], 0, 0, []), zi0), (32, .imul, ([], 0, 0, []), zi0), (33, .aload_n 0, ([0], 0, 0, []), zi0), (34, .iload 6, ([], 0, 0, []), zi0), (36, .invokevirtual 57, ([4, 2, 46], 0, 0, []), mi_RN_imageOf), (39, .iadd, ([], 0, 0, []), zi0), (40, .istore 7, ([], 0, 0, []), zi0), (42, .lload_n 3, ([3], 0, 0, []), zi0), (43, .aload_n 0, ([0], 0, 0, []), zi0), (44, .aload_n 1, ([1], 0, 0, []), zi0), (45, .iload 5, ([], 0, 0, []), zi0), (47, .iload 6, ([], 0, 0, []), zi0), (49, .invokevirtual 60, ([0, 2, 95], 0, 0, []), mi_PM_left), (52, .invokevirtual 57, ([4, 2, 46], 0, 0, []), mi_RN_imageOf), (55, .i2l, ([], 0, 0, []), zi0), (56, .iload 7, ([], 0, 0, []), zi0), (58, .iload_n 2, ([2], 0, 0, []), zi0), (59, .invokestatic 64, ([0, 2, 96], 0, 0, []), mi_SL_shiftOf), (62, .lshl, ([], 0, 0, []), zi0), (63, .lor, ([], 0, 0, []), zi0), (64, .lstore_n 3, ([3], 0, 0, []), zi0), (65, .iinc 6 1, ([], nI 1, 0, []), zi0), (68, .goto (-49), ([19], 0, 0, []), zi0), (71, .iinc 5 1, ([], nI 1, 0, []), zi0), (74, .goto (-64), ([10], 0, 0, []), zi0), (77, .lload_n 3, ([3], 0, 0, []), zi0), (78, .lreturn, ([], 0, 0, []), zi0)]
def cu_RN_renamedRows : List (Nat × List Nat) := [(10, [0, 1, 2, 3, 5]), (19, [0, 1, 2, 3, 5, 6])]
set_option maxRecDepth 100000 in
theorem oc_RN_renamedRows : cd_RN_renamedRows.all (zchk mi_RN_renamedRows) = true := by decide +kernel
set_option maxRecDepth 100000 in
theorem ow_RN_renamedRows : zWs mi_RN_renamedRows cd_RN_renamedRows := ⟨trivial, ⟨rfl, rfl, mv_PM_points⟩, trivial, trivial, trivial, trivial, trivial, trivial, trivial, trivial, trivial, trivial, trivial, trivial, trivial, trivial, trivial, ⟨rfl, rfl, mv_RN_imageOf⟩, trivial, trivial, trivial, trivial, ⟨rfl, rfl, mv_RN_imageOf⟩, trivial, trivial, trivial, trivial, trivial, trivial, trivial, ⟨rfl, rfl, mv_PM_left⟩, ⟨rfl, rfl, mv_RN_imageOf⟩, trivial, trivial, trivial, ⟨rfl, ms_SL_shiftOf⟩, trivial, trivial, trivial, trivial, trivial, trivial, trivial, trivial, trivial, trivial⟩
theorem ok_RN_renamedRows : zgood2 mi_RN_renamedRows cd_RN_renamedRows := ⟨oc_RN_renamedRows, ow_RN_renamedRows⟩
def cd_RN_step : List ZE := [(0, .iload_n 1, ([1], 0, 0, []), zi0), (1, .iconst 2, ([], nI 2, 0, []), zi0), (2, .isub, ([], 0, 0, []), zi0), (3, .istore_n 2, ([2], 0, 0, []), zi0), (4, .iload_n 2, ([2], 0, 0, []), zi0), (5, .ifCond .lt 24, ([29], 0, 0, []), zi0), (8, .aload_n 0, ([0], 0, 0, []), zi0), (9, .iload_n 2, ([2], 0, 0, []), zi0), (10, .invokevirtual 57, ([4, 2, 46], 0, 0, []), mi_RN_imageOf), (13, .aload_n 0, ([0], 0, 0, []), zi0), (14, .iload_n 2, ([2], 0, 0, []), zi0), (15, .iconst 1, ([], nI 1, 0, []), zi0), (16, .iadd, ([], 0, 0, []), zi0), (17, .invokevirtual 57, ([4, 2, 46], 0, 0, []), mi_RN_imageOf), (20, .if_icmp .le 9, ([29], 0, 0, []), zi0), (23, .iinc 2 (-1), ([], (-1), 0, []), zi0), (26, .goto (-22), ([4], 0, 0, []), zi0), (29, .iload_n 2, ([2], 0, 0, []), zi0), (30, .ifCond .ge 4, ([34], 0, 0, []), zi0), (33, .return_, ([], 0, 0, []), zi0), (34, .iload_n 1, ([1], 0, 0, []), zi0), (35, .iconst 1, ([], nI 1, 0, []), zi0), (36, .isub, ([], 0, 0, []), zi0), (37, .istore_n 3, ([3], 0, 0, []), zi0), (38, .iload_n 3, ([3], 0, 0, []), zi0), (39, .iload_n 2, ([2], 0, 0, []), zi0), (40, .if_icmp .le 22, ([62], 0, 0, []), zi0), (43, .aload_n 0, ([0], 0, 0, []), zi0), (44, .iload_n 3, ([3], 0, 0, []), zi0), (45, .invokevirtual 57, ([4, 2, 46], 0, 0, []), mi_RN_imageOf), (48, .aload_n 0, ([0], 0, 0, []), zi0), (49, .iload_n 2, ([2], 0, 0, []), zi0), (50, .invokevirtual 57, ([4, 2, 46], 0, 0, []), mi_RN_imageOf), (53, .if_icmp .ge 9, ([62], 0, 0, []), zi0), (56, .iinc 3 (-1), ([], (-1), 0, []), zi0), (59, .goto (-21), ([38], 0, 0, []), zi0), (62, .aload_n 0, ([0], 0, 0, []), zi0), (63, .iload_n 2, ([2], 0, 0, []), zi0), (64, .iload_n 3, ([3], 0, 0, []), zi0), (65, .invokevirtual 75, ([4, 2, 57], 0, 0, []), mi_RN_swap), (68, .iload_n 1, ([1], 0, 0, []), zi0), (69, .iconst 1, ([], nI 1, 0, []), zi0), (70, .isub, ([], 0, 0, []), zi0), (71, .istore 4, ([], 0, 0, []), zi0), (73, .iload_n 2, ([2], 0, 0, []), zi0), (74, .iconst 1, ([], nI 1, 0, []), zi0), (75, .iadd, ([], 0, 0, []), zi0), (76, .istore 5, ([], 0, 0, []), zi0), (78, .iload 5, ([], 0, 0, []), zi0), (80, .iload 4, ([], 0, 0, []), zi0), (82, .if_icmp .ge 20, ([102], 0, 0, []), zi0), (85, .aload_n 0, ([0], 0, 0, []), zi0), (86, .iload 5, ([], 0, 0, []), zi0), (88, .iload 4, ([], 0, 0, []), zi0), (90, .invokevirtual 75, ([4, 2, 57], 0, 0, []), mi_RN_swap), (93, .iinc 4 (-1), ([], (-1), 0, []), zi0), (96, .iinc 5 1, ([], nI 1, 0, []), zi0), (99, .goto (-21), ([78], 0, 0, []), zi0), (102, .return_, ([], 0, 0, []), zi0)]
def cu_RN_step : List (Nat × List Nat) := [(4, [0, 1, 2]), (38, [0, 1, 2, 3]), (78, [0, 4, 5])]
set_option maxRecDepth 100000 in
theorem oc_RN_step : cd_RN_step.all (zchk mi_RN_step) = true := by decide +kernel
set_option maxRecDepth 100000 in
theorem ow_RN_step : zWs mi_RN_step cd_RN_step := ⟨trivial, trivial, trivial, trivial, trivial, trivial, trivial, trivial, ⟨rfl, rfl, mv_RN_imageOf⟩, trivial, trivial, trivial, trivial, ⟨rfl, rfl, mv_RN_imageOf⟩, trivial, trivial, trivial, trivial, trivial, trivial, trivial, trivial, trivial, trivial, trivial, trivial, trivial, trivial, trivial, ⟨rfl, rfl, mv_RN_imageOf⟩, trivial, trivial, ⟨rfl, rfl, mv_RN_imageOf⟩, trivial, trivial, trivial, trivial, trivial, trivial, ⟨rfl, rfl, mv_RN_swap⟩, trivial, trivial, trivial, trivial, trivial, trivial, trivial, trivial, trivial, trivial, trivial, trivial, trivial, trivial, ⟨rfl, rfl, mv_RN_swap⟩, trivial, trivial, trivial, trivial, trivial⟩
theorem ok_RN_step : zgood2 mi_RN_step cd_RN_step := ⟨oc_RN_step, ow_RN_step⟩
def cd_SL_columnOf : List ZE := [(0, .iconst 0, ([], nI 0, 0, []), zi0), (1, .istore 5, ([], 0, 0, []), zi0), (3, .iload 5, ([], 0, 0, []), zi0), (5, .iload_n 2, ([2], 0, 0, []), zi0), (6, .if_icmp .ge 25, ([31], 0, 0, []), zi0), (9, .lload_n 0, ([0], 0, 0, []), zi0), (10, .iload_n 2, ([2], 0, 0, []), zi0), (11, .iload_n 3, ([3], 0, 0, []), zi0), (12, .iload 5, ([], 0, 0, []), zi0), (14, .invokestatic 29, ([0, 3, 100], 0, 0, []), mi_SL_pointAt), (17, .iload 4, ([], 0, 0, []), zi0), (19, .if_icmp .ne 6, ([25], 0, 0, []), zi0), (22, .iload 5, ([], 0, 0, []), zi0), (24, .ireturn, ([], 0, 0, []), zi0), (25, .iinc 5 1, ([], nI 1, 0, []), zi0), (28, .goto (-25), ([3], 0, 0, []), zi0), (31, .iconst 0, ([], nI 0, 0, []), zi0), (32, .ireturn, ([], 0, 0, []), zi0)]
def cu_SL_columnOf : List (Nat × List Nat) := [(3, [0, 2, 3, 4, 5])]
set_option maxRecDepth 100000 in
theorem oc_SL_columnOf : cd_SL_columnOf.all (zchk mi_SL_columnOf) = true := by decide +kernel
set_option maxRecDepth 100000 in
theorem ow_SL_columnOf : zWs mi_SL_columnOf cd_SL_columnOf := ⟨trivial, trivial, trivial, trivial, trivial, trivial, trivial, trivial, trivial, ⟨rfl, ms_SL_pointAt⟩, trivial, trivial, trivial, trivial, trivial, trivial, trivial, trivial, trivial⟩
theorem ok_SL_columnOf : zgood2 mi_SL_columnOf cd_SL_columnOf := ⟨oc_SL_columnOf, ow_SL_columnOf⟩
def cd_T_braidAt : List ZE := [(0, .iload_n 1, ([1], 0, 0, []), zi0), (1, .invokestatic 264, ([0, 2, 197], 0, 0, []), mi_T_isBraid), (4, .ifCond .eq 12, ([16], 0, 0, []), zi0), (7, .aload_n 0, ([0], 0, 0, []), zi0), (8, .getfield 17, ([2, 1, 0, 141], 0, 0, []), zi0), (11, .iload_n 1, ([1], 0, 0, []), zi0), (12, .aaload, ([], 0, 0, []), zi0), (13, .goto 7, ([20], 0, 0, []), zi0), (16, .aload_n 0, ([0], 0, 0, []), zi0), (17, .getfield 27, ([2, 3, 0, 143], 0, 0, []), zi0), (20, .areturn, ([], 0, 0, []), zi0)]
def cu_T_braidAt : List (Nat × List Nat) := []
set_option maxRecDepth 100000 in
theorem oc_T_braidAt : cd_T_braidAt.all (zchk mi_T_braidAt) = true := by decide +kernel
set_option maxRecDepth 100000 in
theorem ow_T_braidAt : zWs mi_T_braidAt cd_T_braidAt := ⟨trivial, ⟨rfl, ms_T_isBraid⟩, trivial, trivial, rfl, trivial, trivial, trivial, trivial, rfl, trivial, trivial⟩
theorem ok_T_braidAt : zgood2 mi_T_braidAt cd_T_braidAt := ⟨oc_T_braidAt, ow_T_braidAt⟩
def cd_T_keepMade : List ZE := [(0, .iload_n 1, ([1], 0, 0, []), zi0), (1, .invokestatic 69, ([0, 0, 175], 0, 0, []), mi_T_isPlace), (4, .ifCond .ne 6, ([10], 0, 0, []), zi0), (7, .ldc 73, ([0, 181], (-1000001), 0, []), zi0), (9, .ireturn, ([], 0, 0, []), zi0), (10, .aload_n 0, ([0], 0, 0, []), zi0), (11, .getfield 11, ([2, 0, 0, 140], 0, 0, []), zi0), (14, .iload_n 1, ([1], 0, 0, []), zi0), (15, .aaload, ([], 0, 0, []), zi0), (16, .aload_n 0, ([0], 0, 0, []), zi0), (17, .getfield 31, ([2, 4, 0, 144], 0, 0, []), zi0), (20, .invokevirtual 329, ([0, 0, 206], 0, 0, []), mi_PM_copy), (23, .aload_n 0, ([0], 0, 0, []), zi0), (24, .getfield 31, ([2, 4, 0, 144], 0, 0, []), zi0), (27, .invokevirtual 155, ([0, 0, 210], 0, 0, []), mi_PM_points), (30, .ireturn, ([], 0, 0, []), zi0)]
def cu_T_keepMade : List (Nat × List Nat) := []
set_option maxRecDepth 100000 in
theorem oc_T_keepMade : cd_T_keepMade.all (zchk mi_T_keepMade) = true := by decide +kernel
set_option maxRecDepth 100000 in
theorem ow_T_keepMade : zWs mi_T_keepMade cd_T_keepMade := ⟨trivial, ⟨rfl, ms_T_isPlace⟩, trivial, rfl, trivial, trivial, rfl, trivial, trivial, trivial, rfl, ⟨rfl, rfl, mv_PM_copy⟩, trivial, rfl, ⟨rfl, rfl, mv_PM_points⟩, trivial, trivial⟩
theorem ok_T_keepMade : zgood2 mi_T_keepMade cd_T_keepMade := ⟨oc_T_keepMade, ow_T_keepMade⟩
def cd_T_listed : List ZE := [(0, .iload_n 1, ([1], 0, 0, []), zi0), (1, .invokestatic 314, ([0, 3, 90], 0, 0, []), mi_SL_hasPoints), (4, .ifCond .eq 10, ([14], 0, 0, []), zi0), (7, .iload_n 1, ([1], 0, 0, []), zi0), (8, .invokestatic 317, ([0, 3, 91], 0, 0, []), mi_SL_size), (11, .goto 5, ([16], 0, 0, []), zi0), (14, .ldc 78, ([0, 182], (-1000002), 0, []), zi0), (16, .ireturn, ([], 0, 0, []), zi0)]
def cu_T_listed : List (Nat × List Nat) := []
set_option maxRecDepth 100000 in
theorem oc_T_listed : cd_T_listed.all (zchk mi_T_listed) = true := by decide +kernel
set_option maxRecDepth 100000 in
theorem ow_T_listed : zWs mi_T_listed cd_T_listed := ⟨trivial, ⟨rfl, ms_SL_hasPoints⟩, trivial, trivial, ⟨rfl, ms_SL_size⟩, trivial, rfl, trivial, trivial⟩
theorem ok_T_listed : zgood2 mi_T_listed cd_T_listed := ⟨oc_T_listed, ow_T_listed⟩
def cd_T_mapAt : List ZE := [(0, .iload_n 1, ([1], 0, 0, []), zi0), (1, .invokestatic 69, ([0, 0, 175], 0, 0, []), mi_T_isPlace), (4, .ifCond .eq 12, ([16], 0, 0, []), zi0), (7, .aload_n 0, ([0], 0, 0, []), zi0), (8, .getfield 11, ([2, 0, 0, 140], 0, 0, []), zi0), (11, .iload_n 1, ([1], 0, 0, []), zi0), (12, .aaload, ([], 0, 0, []), zi0), (13, .goto 7, ([20], 0, 0, []), zi0), (16, .aload_n 0, ([0], 0, 0, []), zi0), (17, .getfield 22, ([2, 2, 0, 142], 0, 0, []), zi0), (20, .areturn, ([], 0, 0, []), zi0)]
def cu_T_mapAt : List (Nat × List Nat) := []
set_option maxRecDepth 100000 in
theorem oc_T_mapAt : cd_T_mapAt.all (zchk mi_T_mapAt) = true := by decide +kernel
set_option maxRecDepth 100000 in
theorem ow_T_mapAt : zWs mi_T_mapAt cd_T_mapAt := ⟨trivial, ⟨rfl, ms_T_isPlace⟩, trivial, trivial, rfl, trivial, trivial, trivial, trivial, rfl, trivial, trivial⟩
theorem ok_T_mapAt : zgood2 mi_T_mapAt cd_T_mapAt := ⟨oc_T_mapAt, ow_T_mapAt⟩
def cd_WC_join : List ZE := [(0, .aload_n 0, ([0], 0, 0, []), zi0), (1, .iload_n 1, ([1], 0, 0, []), zi0), (2, .invokevirtual 44, ([6, 2, 168], 0, 0, []), mi_WC_smallest), (5, .istore_n 3, ([3], 0, 0, []), zi0), (6, .aload_n 0, ([0], 0, 0, []), zi0), (7, .iload_n 2, ([2], 0, 0, []), zi0), (8, .invokevirtual 44, ([6, 2, 168], 0, 0, []), mi_WC_smallest), (11, .istore 4, ([], 0, 0, []), zi0), (13, .iload_n 3, ([3], 0, 0, []), zi0), (14, .iload 4, ([], 0, 0, []), zi0), (16, .if_icmp .eq 34, ([50], 0, 0, []), zi0), (19, .aload_n 0, ([0], 0, 0, []), zi0), (20, .getfield 9, ([6, 0, 0, 115], 0, 0, []), zi0), (23, .iload_n 3, ([3], 0, 0, []), zi0), (24, .iload 4, ([], 0, 0, []), zi0), (26, .invokestatic 47, ([0, 2, 176], 0, 0, []), mi_JM_max), (29, .sipush 4095, ([], nI 4095, 0, []), zi0), (32, .iand, ([], 0, 0, []), zi0), (33, .iload_n 3, ([3], 0, 0, []), zi0), (34, .iload 4, ([], 0, 0, []), zi0), (36, .invokestatic 52, ([0, 2, 179], 0, 0, []), mi_JM_min), (39, .iastore, ([], 0, 0, []), zi0), (40, .aload_n 0, ([0], 0, 0, []), zi0), (41, .dup, ([], 0, 0, []), zi0), (42, .getfield 13, ([6, 1, 0, 116], 0, 0, []), zi0), (45, .iconst 1, ([], nI 1, 0, []), zi0), (46, .isub, ([], 0, 0, []), zi0), (47, .putfield 13, ([6, 1, 0, 116], 0, 0, []), zi0), (50, .return_, ([], 0, 0, []), zi0)]
def cu_WC_join : List (Nat × List Nat) := []
set_option maxRecDepth 100000 in
theorem oc_WC_join : cd_WC_join.all (zchk mi_WC_join) = true := by decide +kernel
set_option maxRecDepth 100000 in
theorem ow_WC_join : zWs mi_WC_join cd_WC_join := ⟨trivial, trivial, ⟨rfl, rfl, mv_WC_smallest⟩, trivial, trivial, trivial, ⟨rfl, rfl, mv_WC_smallest⟩, trivial, trivial, trivial, trivial, trivial, rfl, trivial, trivial, rfl, trivial, trivial, trivial, trivial, rfl, trivial, trivial, trivial, rfl, trivial, trivial, ⟨rfl, rfl⟩, trivial, trivial⟩
theorem ok_WC_join : zgood2 mi_WC_join cd_WC_join := ⟨oc_WC_join, ow_WC_join⟩
def cd_AC_smallestTwin : List ZE := [(0, .iconst 0, ([], nI 0, 0, []), zi0), (1, .istore_n 2, ([2], 0, 0, []), zi0), (2, .iload_n 2, ([2], 0, 0, []), zi0), (3, .iload_n 1, ([1], 0, 0, []), zi0), (4, .if_icmp .ge 20, ([24], 0, 0, []), zi0), (7, .aload_n 0, ([0], 0, 0, []), zi0), (8, .iload_n 1, ([1], 0, 0, []), zi0), (9, .iload_n 2, ([2], 0, 0, []), zi0), (10, .invokestatic 44, ([0, 1, 98], 0, 0, []), mi_AC_areTwins), (13, .ifCond .eq 5, ([18], 0, 0, []), zi0), (16, .iload_n 2, ([2], 0, 0, []), zi0), (17, .ireturn, ([], 0, 0, []), zi0), (18, .iinc 2 1, ([], nI 1, 0, []), zi0), (21, .goto (-19), ([2], 0, 0, []), zi0), (24, .iload_n 1, ([1], 0, 0, []), zi0), (25, .ireturn, ([], 0, 0, []), zi0)]
def cu_AC_smallestTwin : List (Nat × List Nat) := [(2, [0, 1, 2])]
set_option maxRecDepth 100000 in
theorem oc_AC_smallestTwin : cd_AC_smallestTwin.all (zchk mi_AC_smallestTwin) = true := by decide +kernel
set_option maxRecDepth 100000 in
theorem ow_AC_smallestTwin : zWs mi_AC_smallestTwin cd_AC_smallestTwin := ⟨trivial, trivial, trivial, trivial, trivial, trivial, trivial, trivial, ⟨rfl, ms_AC_areTwins⟩, trivial, trivial, trivial, trivial, trivial, trivial, trivial, trivial⟩
theorem ok_AC_smallestTwin : zgood2 mi_AC_smallestTwin cd_AC_smallestTwin := ⟨oc_AC_smallestTwin, ow_AC_smallestTwin⟩
def cd_AL_braceAt : List ZE := [(0, .iload_n 1, ([1], 0, 0, []), zi0), (1, .istore_n 2, ([2], 0, 0, []), zi0), (2, .iload_n 0, ([0], 0, 0, []), zi0), (3, .invokestatic 49, ([0, 1, 39], 0, 0, []), mi_AL_allOnes), (6, .istore_n 3, ([3], 0, 0, []), zi0), (7, .iload_n 0, ([0], 0, 0, []), zi0), (8, .invokestatic 53, ([0, 1, 42], 0, 0, []), mi_AL_candidates), (11, .istore 4, ([], 0, 0, []), zi0), (13, .iload 4, ([], 0, 0, []), zi0), (15, .ifCond .le 32, ([47], 0, 0, []), zi0), (18, .iload_n 0, ([0], 0, 0, []), zi0), (19, .iload_n 3, ([3], 0, 0, []), zi0), (20, .invokestatic 56, ([0, 1, 51], 0, 0, []), mi_AL_isBrace), (23, .ifCond .eq 12, ([35], 0, 0, []), zi0), (26, .iload_n 2, ([2], 0, 0, []), zi0), (27, .ifCond .ne 5, ([32], 0, 0, []), zi0), (30, .iload_n 3, ([3], 0, 0, []), zi0), (31, .ireturn, ([], 0, 0, []), zi0), (32, .iinc 2 (-1), ([], (-1), 0, []), zi0), (35, .iload_n 0, ([0], 0, 0, []), zi0), (36, .iload_n 3, ([3], 0, 0, []), zi0), (37, .invokestatic 63, ([0, 1, 52], 0, 0, []), mi_AL_nextUnits), (40, .istore_n 3, ([3], 0, 0, []), zi0), (41, .iinc 4 (-1), ([], (-1), 0, []), zi0), (44, .goto (-31), ([13], 0, 0, []), zi0), (47, .iconst (-1), ([], (-1), 0, []), zi0), (48, .ireturn, ([], 0, 0, []), zi0)]
def cu_AL_braceAt : List (Nat × List Nat) := [(13, [0, 2, 3, 4])]
set_option maxRecDepth 100000 in
theorem oc_AL_braceAt : cd_AL_braceAt.all (zchk mi_AL_braceAt) = true := by decide +kernel
set_option maxRecDepth 100000 in
theorem ow_AL_braceAt : zWs mi_AL_braceAt cd_AL_braceAt := ⟨trivial, trivial, trivial, ⟨rfl, ms_AL_allOnes⟩, trivial, trivial, ⟨rfl, ms_AL_candidates⟩, trivial, trivial, trivial, trivial, trivial, ⟨rfl, ms_AL_isBrace⟩, trivial, trivial, trivial, trivial, trivial, trivial, trivial, trivial, ⟨rfl, ms_AL_nextUnits⟩, trivial, trivial, trivial, trivial, trivial, trivial⟩
theorem ok_AL_braceAt : zgood2 mi_AL_braceAt cd_AL_braceAt := ⟨oc_AL_braceAt, ow_AL_braceAt⟩
def cd_AL_braceNumber : List ZE := [(0, .iconst 0, ([], nI 0, 0, []), zi0), (1, .istore_n 1, ([1], 0, 0, []), zi0), (2, .iload_n 0, ([0], 0, 0, []), zi0), (3, .invokestatic 49, ([0, 1, 39], 0, 0, []), mi_AL_allOnes), (6, .istore_n 2, ([2], 0, 0, []), zi0), (7, .iload_n 0, ([0], 0, 0, []), zi0), (8, .invokestatic 53, ([0, 1, 42], 0, 0, []), mi_AL_candidates), (11, .istore_n 3, ([3], 0, 0, []), zi0), (12, .iload_n 3, ([3], 0, 0, []), zi0), (13, .ifCond .le 26, ([39], 0, 0, []), zi0), (16, .iload_n 1, ([1], 0, 0, []), zi0), (17, .iload_n 0, ([0], 0, 0, []), zi0), (18, .iload_n 2, ([2], 0, 0, []), zi0), (19, .invokestatic 56, ([0, 1, 51], 0, 0, []), mi_AL_isBrace), (22, .invokestatic 59, ([1, 1, 45], 0, 0, []), mi_T_oneIf), (25, .iadd, ([], 0, 0, []), zi0), (26, .istore_n 1, ([1], 0, 0, []), zi0), (27, .iload_n 0, ([0], 0, 0, []), zi0), (28, .iload_n 2, ([2], 0, 0, []), zi0), (29, .invokestatic 63, ([0, 1, 52], 0, 0, []), mi_AL_nextUnits), (32, .istore_n 2, ([2], 0, 0, []), zi0), (33, .iinc 3 (-1), ([], (-1), 0, []), zi0), (36, .goto (-24), ([12], 0, 0, []), zi0), (39, .iload_n 1, ([1], 0, 0, []), zi0), (40, .ireturn, ([], 0, 0, []), zi0)]
def cu_AL_braceNumber : List (Nat × List Nat) := [(12, [0, 1, 2, 3])]
set_option maxRecDepth 100000 in
theorem oc_AL_braceNumber : cd_AL_braceNumber.all (zchk mi_AL_braceNumber) = true := by decide +kernel
set_option maxRecDepth 100000 in
theorem ow_AL_braceNumber : zWs mi_AL_braceNumber cd_AL_braceNumber := ⟨trivial, trivial, trivial, ⟨rfl, ms_AL_allOnes⟩, trivial, trivial, ⟨rfl, ms_AL_candidates⟩, trivial, trivial, trivial, trivial, trivial, trivial, ⟨rfl, ms_AL_isBrace⟩, ⟨rfl, ms_T_oneIf⟩, trivial, trivial, trivial, trivial, ⟨rfl, ms_AL_nextUnits⟩, trivial, trivial, trivial, trivial, trivial, trivial⟩
theorem ok_AL_braceNumber : zgood2 mi_AL_braceNumber cd_AL_braceNumber := ⟨oc_AL_braceNumber, ow_AL_braceNumber⟩
def cd_BA_cycleLength : List ZE := [(0, .iload_n 3, ([3], 0, 0, []), zi0), (1, .istore 4, ([], 0, 0, []), zi0), (3, .iconst 1, ([], nI 1, 0, []), zi0), (4, .istore 5, ([], 0, 0, []), zi0), (6, .iload 5, ([], 0, 0, []), zi0), (8, .bipush 60, ([], nI 60, 0, []), zi0), (10, .if_icmp .gt 34, ([44], 0, 0, []), zi0), (13, .aload_n 0, ([0], 0, 0, []), zi0), (14, .aload_n 1, ([1], 0, 0, []), zi0), (15, .iload_n 2, ([2], 0, 0, []), zi0), (16, .iload 4, ([], 0, 0, []), zi0), (18, .invokevirtual 66, ([7, 3, 53], 0, 0, []), mi_BA_resultOf), (21, .istore 4, ([], 0, 0, []), zi0), (23, .aload_n 0, ([0], 0, 0, []), zi0), (24, .iload 4, ([], 0, 0, []), zi0), (26, .invokevirtual 101, ([7, 3, 73], 0, 0, []), mi_BA_see), (29, .iload 4, ([], 0, 0, []), zi0), (31, .iload_n 3, ([3], 0, 0, []), zi0), (32, .if_icmp .ne 6, ([38], 0, 0, []), zi0), (35, .iload 5, ([], 0, 0, []), zi0), (37, .ireturn, ([], 0, 0, []), zi0), (38, .iinc 5 1, ([], nI 1, 0, []), zi0), (41, .goto (-35), ([6], 0, 0, []), zi0), (44, .iconst (-1), ([], (-1), 0, []), zi0), (45, .ireturn, ([], 0, 0, []), zi0)]
def cu_BA_cycleLength : List (Nat × List Nat) := [(6, [0, 1, 2, 3, 4, 5])]
set_option maxRecDepth 100000 in
theorem oc_BA_cycleLength : cd_BA_cycleLength.all (zchk mi_BA_cycleLength) = true := by decide +kernel
set_option maxRecDepth 100000 in
theorem ow_BA_cycleLength : zWs mi_BA_cycleLength cd_BA_cycleLength := ⟨trivial, trivial, trivial, trivial, trivial, trivial, trivial, trivial, trivial, trivial, trivial, ⟨rfl, rfl, mv_BA_resultOf⟩, trivial, trivial, trivial, ⟨rfl, rfl, mv_BA_see⟩, trivial, trivial, trivial, trivial, trivial, trivial, trivial, trivial, trivial, trivial⟩
theorem ok_BA_cycleLength : zgood2 mi_BA_cycleLength cd_BA_cycleLength := ⟨oc_BA_cycleLength, ow_BA_cycleLength⟩
def cd_BA_firstDifference : List ZE := [(0, .iconst 0, ([], nI 0, 0, []), zi0), (1, .istore 4, ([], 0, 0, []), zi0), (3, .aload_n 0, ([0], 0, 0, []), zi0), (4, .iload_n 3, ([3], 0, 0, []), zi0), (5, .invokevirtual 63, ([7, 3, 47], 0, 0, []), mi_BA_tuples), (8, .istore 5, ([], 0, 0, []), zi0), (10, .iload 5, ([], 0, 0, []), zi0), (12, .ifCond .le 46, ([58], 0, 0, []), zi0), (15, .aload_n 0, ([0], 0, 0, []), zi0), (16, .aload_n 1, ([1], 0, 0, []), zi0), (17, .iload_n 3, ([3], 0, 0, []), zi0), (18, .iload 4, ([], 0, 0, []), zi0), (20, .invokevirtual 66, ([7, 3, 53], 0, 0, []), mi_BA_resultOf), (23, .aload_n 0, ([0], 0, 0, []), zi0), (24, .aload_n 2, ([2], 0, 0, []), zi0), (25, .iload_n 3, ([3], 0, 0, []), zi0), (26, .iload 4, ([], 0, 0, []), zi0), (28, .invokevirtual 66, ([7, 3, 53], 0, 0, []), mi_BA_resultOf), (31, .if_icmp .eq 6, ([37], 0, 0, []), zi0), (34, .iload 4, ([], 0, 0, []), zi0), (36, .ireturn, ([], 0, 0, []), zi0), (37, .iload 4, ([], 0, 0, []), zi0), (39, .iload_n 3, ([3], 0, 0, []), zi0), (40, .aload_n 0, ([0], 0, 0, []), zi0), (41, .getfield 12, ([7, 0, 0, 130], 0, 0, []), zi0), (44, .invokevirtual 74, ([0, 3, 51], 0, 0, []), mi_PM_points), (47, .invokestatic 77, ([0, 3, 55], 0, 0, []), mi_CO_next), (50, .istore 4, ([], 0, 0, []), zi0), (52, .iinc 5 (-1), ([], (-1), 0, []), zi0), (55, .goto (-45), ([10], 0, 0, []), zi0), (58, .iconst (-1), ([], (-1), 0, []), zi0), (59, .ireturn, ([], 0, 0, []), zi0)]
def cu_BA_firstDifference : List (Nat × List Nat) := [(10, [0, 1, 2, 3, 4, 5])]
set_option maxRecDepth 100000 in
theorem oc_BA_firstDifference : cd_BA_firstDifference.all (zchk mi_BA_firstDifference) = true := by decide +kernel
set_option maxRecDepth 100000 in
theorem ow_BA_firstDifference : zWs mi_BA_firstDifference cd_BA_firstDifference := ⟨trivial, trivial, trivial, trivial, ⟨rfl, rfl, mv_BA_tuples⟩, trivial, trivial, trivial, trivial, trivial, trivial, trivial, ⟨rfl, rfl, mv_BA_resultOf⟩, trivial, trivial, trivial, trivial, ⟨rfl, rfl, mv_BA_resultOf⟩, trivial, trivial, trivial, trivial, trivial, trivial, rfl, ⟨rfl, rfl, mv_PM_points⟩, ⟨rfl, ms_CO_next⟩, trivial, trivial, trivial, trivial, trivial, trivial⟩
theorem ok_BA_firstDifference : zgood2 mi_BA_firstDifference cd_BA_firstDifference := ⟨oc_BA_firstDifference, ow_BA_firstDifference⟩
def cd_BA_fixedTuples : List ZE := [(0, .iconst 0, ([], nI 0, 0, []), zi0), (1, .istore_n 3, ([3], 0, 0, []), zi0), (2, .iconst 0, ([], nI 0, 0, []), zi0), (3, .istore 4, ([], 0, 0, []), zi0), (5, .aload_n 0, ([0], 0, 0, []), zi0), (6, .iload_n 2, ([2], 0, 0, []), zi0), (7, .invokevirtual 63, ([7, 3, 47], 0, 0, []), mi_BA_tuples), (10, .istore 5, ([], 0, 0, []), zi0), (12, .iload 5, ([], 0, 0, []), zi0), (14, .ifCond .le 48, ([62], 0, 0, []), zi0), (17, .iload_n 3, ([3], 0, 0, []), zi0), (18, .aload_n 0, ([0], 0, 0, []), zi0), (19, .aload_n 1, ([1], 0, 0, []), zi0), (20, .iload_n 2, ([2], 0, 0, []), zi0), (21, .iload 4, ([], 0, 0, []), zi0), (23, .invokevirtual 66, ([7, 3, 53], 0, 0, []), mi_BA_resultOf), (26, .iload 4, ([], 0, 0, []), zi0), (28, .if_icmp .ne 7, ([35], 0, 0, []), zi0), (31, .iconst 1, ([], nI 1, 0, []), zi0), (32, .goto 4, ([36], 0, 0, []), zi0), (35, .iconst 0, ([], nI 0, 0, []), zi0), (36, .invokestatic 70, ([1, 3, 54], 0, 0, []), mi_T_oneIf), (39, .iadd, ([], 0, 0, []), zi0), (40, .istore_n 3, ([3], 0, 0, []), zi0), (41, .iload 4, ([], 0, 0, []), zi0), (43, .iload_n 2, ([2], 0, 0, []), zi0), (44, .aload_n 0, ([0], 0, 0, []), zi0), (45, .getfield 12, ([7, 0, 0, 130], 0, 0, []), zi0), (48, .invokevirtual 74, ([0, 3, 51], 0, 0, []), mi_PM_points), (51, .invokestatic 77, ([0, 3, 55], 0, 0, []), mi_CO_next), (54, .istore 4, ([], 0, 0, []), zi0), (56, .iinc 5 (-1), ([], (-1), 0, []), zi0), (59, .goto (-47), ([12], 0, 0, []), zi0), (62, .iload_n 3, ([3], 0, 0, []), zi0), (63, .ireturn, ([], 0, 0, []), zi0)]
def cu_BA_fixedTuples : List (Nat × List Nat) := [(12, [0, 1, 2, 3, 4, 5])]
set_option maxRecDepth 100000 in
theorem oc_BA_fixedTuples : cd_BA_fixedTuples.all (zchk mi_BA_fixedTuples) = true := by decide +kernel
set_option maxRecDepth 100000 in
theorem ow_BA_fixedTuples : zWs mi_BA_fixedTuples cd_BA_fixedTuples := ⟨trivial, trivial, trivial, trivial, trivial, trivial, ⟨rfl, rfl, mv_BA_tuples⟩, trivial, trivial, trivial, trivial, trivial, trivial, trivial, trivial, ⟨rfl, rfl, mv_BA_resultOf⟩, trivial, trivial, trivial, trivial, trivial, ⟨rfl, ms_T_oneIf⟩, trivial, trivial, trivial, trivial, trivial, rfl, ⟨rfl, rfl, mv_PM_points⟩, ⟨rfl, ms_CO_next⟩, trivial, trivial, trivial, trivial, trivial, trivial⟩
theorem ok_BA_fixedTuples : zgood2 mi_BA_fixedTuples cd_BA_fixedTuples := ⟨oc_BA_fixedTuples, ow_BA_fixedTuples⟩
def cd_BA_isFit : List ZE := [(0, .aload_n 1, ([1], 0, 0, []), zi0), (1, .invokevirtual 25, ([1, 3, 3], 0, 0, []), mi_BR_strands), (4, .iload_n 2, ([2], 0, 0, []), zi0), (5, .if_icmp .gt 21, ([26], 0, 0, []), zi0), (8, .aload_n 1, ([1], 0, 0, []), zi0), (9, .invokevirtual 31, ([1, 3, 12], 0, 0, []), mi_BR_hasCapital), (12, .ifCond .eq 10, ([22], 0, 0, []), zi0), (15, .aload_n 0, ([0], 0, 0, []), zi0), (16, .invokestatic 35, ([0, 3, 20], 0, 0, []), mi_CH_isBijective), (19, .ifCond .eq 7, ([26], 0, 0, []), zi0), (22, .iconst 1, ([], nI 1, 0, []), zi0), (23, .goto 4, ([27], 0, 0, []), zi0), (26, .iconst 0, ([], nI 0, 0, []), zi0), (27, .ireturn, ([], 0, 0, []), zi0)]
def cu_BA_isFit : List (Nat × List Nat) := []
set_option maxRecDepth 100000 in
theorem oc_BA_isFit : cd_BA_isFit.all (zchk mi_BA_isFit) = true := by decide +kernel
set_option maxRecDepth 100000 in
theorem ow_BA_isFit : zWs mi_BA_isFit cd_BA_isFit := ⟨trivial, ⟨rfl, rfl, mv_BR_strands⟩, trivial, trivial, trivial, ⟨rfl, rfl, mv_BR_hasCapital⟩, trivial, trivial, ⟨rfl, ms_CH_isBijective⟩, trivial, trivial, trivial, trivial, trivial, trivial⟩
theorem ok_BA_isFit : zgood2 mi_BA_isFit cd_BA_isFit := ⟨oc_BA_isFit, ow_BA_isFit⟩
def cd_BA_prepare : List ZE := [(0, .aload_n 0, ([0], 0, 0, []), zi0), (1, .getfield 12, ([7, 0, 0, 130], 0, 0, []), zi0), (4, .aload_n 1, ([1], 0, 0, []), zi0), (5, .invokevirtual 41, ([0, 3, 25], 0, 0, []), mi_PM_copy), (8, .aload_n 0, ([0], 0, 0, []), zi0), (9, .getfield 18, ([7, 1, 0, 131], 0, 0, []), zi0), (12, .aload_n 1, ([1], 0, 0, []), zi0), (13, .invokevirtual 45, ([0, 3, 26], 0, 0, []), mi_PM_becomeInverse), (16, .return_, ([], 0, 0, []), zi0)]
def cu_BA_prepare : List (Nat × List Nat) := []
set_option maxRecDepth 100000 in
theorem oc_BA_prepare : cd_BA_prepare.all (zchk mi_BA_prepare) = true := by decide +kernel
set_option maxRecDepth 100000 in
theorem ow_BA_prepare : zWs mi_BA_prepare cd_BA_prepare := ⟨trivial, rfl, trivial, ⟨rfl, rfl, mv_PM_copy⟩, trivial, rfl, trivial, ⟨rfl, rfl, mv_PM_becomeInverse⟩, trivial, trivial⟩
theorem ok_BA_prepare : zgood2 mi_BA_prepare cd_BA_prepare := ⟨oc_BA_prepare, ow_BA_prepare⟩
def cd_CH_brokenTripleAt : List ZE := [(0, .aload_n 0, ([0], 0, 0, []), zi0), (1, .invokevirtual 9, ([0, 1, 159], 0, 0, []), mi_PM_points), (4, .istore_n 2, ([2], 0, 0, []), zi0), (5, .iload_n 1, ([1], 0, 0, []), zi0), (6, .istore_n 3, ([3], 0, 0, []), zi0), (7, .iconst 0, ([], nI 0, 0, []), zi0), (8, .istore 4, ([], 0, 0, []), zi0), (10, .iconst 0, ([], nI 0, 0, []), zi0), (11, .istore 5, ([], 0, 0, []), zi0), (13, .iload 5, ([], 0, 0, []), zi0), (15, .iload_n 2, ([2], 0, 0, []), zi0), (16, .iload_n 2, ([2], 0, 0, []), zi0), (17, .imul, ([], 0, 0, []), zi0), (18, .iload_n 2, ([2], 0, 0, []), zi0), (19, .imul, ([], 0, 0, []), zi0), (20, .if_icmp .ge 37, ([57], 0, 0, []), zi0), (23, .aload_n 0, ([0], 0, 0, []), zi0), (24, .iload 4, ([], 0, 0, []), zi0), (26, .invokestatic 40, ([0, 1, 206], 0, 0, []), mi_CH_isBroken), (29, .ifCond .eq 13, ([42], 0, 0, []), zi0), (32, .iload_n 3, ([3], 0, 0, []), zi0), (33, .ifCond .ne 6, ([39], 0, 0, []), zi0), (36, .iload 4, ([], 0, 0, []), zi0), (38, .ireturn, ([], 0, 0, []), zi0), (39, .iinc 3 (-1), ([], (-1), 0, []), zi0), (42, .iload 4, ([], 0, 0, []), zi0), (44, .iconst 3, ([], nI 3, 0, []), zi0), (45, .iload_n 2, ([2], 0, 0, []), zi0), (46, .invokestatic 50, ([0, 1, 214], 0, 0, []), mi_CO_next), (49, .istore 4, ([], 0, 0, []), zi0), (51, .iinc 5 1, ([], nI 1, 0, []), zi0), (54, .goto (-41), ([13], 0, 0, []), zi0), (57, .iconst (-1), ([], (-1), 0, []), zi0), (58, .ireturn, ([], 0, 0, []), zi0)]
def cu_CH_brokenTripleAt : List (Nat × List Nat) := [(13, [0, 2, 3, 4, 5])]
set_option maxRecDepth 100000 in
theorem oc_CH_brokenTripleAt : cd_CH_brokenTripleAt.all (zchk mi_CH_brokenTripleAt) = true := by decide +kernel
set_option maxRecDepth 100000 in
theorem ow_CH_brokenTripleAt : zWs mi_CH_brokenTripleAt cd_CH_brokenTripleAt := ⟨trivial, ⟨rfl, rfl, mv_PM_points⟩, trivial, trivial, trivial, trivial, trivial, trivial, trivial, trivial, trivial, trivial, trivial, trivial, trivial, trivial, trivial, trivial, ⟨rfl, ms_CH_isBroken⟩, trivial, trivial, trivial, trivial, trivial, trivial, trivial, trivial, trivial, ⟨rfl, ms_CO_next⟩, trivial, trivial, trivial, trivial, trivial, trivial⟩
theorem ok_CH_brokenTripleAt : zgood2 mi_CH_brokenTripleAt cd_CH_brokenTripleAt := ⟨oc_CH_brokenTripleAt, ow_CH_brokenTripleAt⟩
def cd_CH_brokenTriples : List ZE := [(0, .aload_n 0, ([0], 0, 0, []), zi0), (1, .invokevirtual 9, ([0, 1, 159], 0, 0, []), mi_PM_points), (4, .istore_n 1, ([1], 0, 0, []), zi0), (5, .iconst 0, ([], nI 0, 0, []), zi0), (6, .istore_n 2, ([2], 0, 0, []), zi0), (7, .iconst 0, ([], nI 0, 0, []), zi0), (8, .istore_n 3, ([3], 0, 0, []), zi0), (9, .iconst 0, ([], nI 0, 0, []), zi0), (10, .istore 4, ([], 0, 0, []), zi0), (12, .iload 4, ([], 0, 0, []), zi0), (14, .iload_n 1, ([1], 0, 0, []), zi0), (15, .iload_n 1, ([1], 0, 0, []), zi0), (16, .imul, ([], 0, 0, []), zi0), (17, .iload_n 1, ([1], 0, 0, []), zi0), (18, .imul, ([], 0, 0, []), zi0), (19, .if_icmp .ge 27, ([46], 0, 0, []), zi0), (22, .iload_n 2, ([2], 0, 0, []), zi0), (23, .aload_n 0, ([0], 0, 0, []), zi0), (24, .iload_n 3, ([3], 0, 0, []), zi0), (25, .invokestatic 40, ([0, 1, 206], 0, 0, []), mi_CH_isBroken), (28, .invokestatic 46, ([1, 1, 213], 0, 0, []), mi_T_oneIf), (31, .iadd, ([], 0, 0, []), zi0), (32, .istore_n 2, ([2], 0, 0, []), zi0), (33, .iload_n 3, ([3], 0, 0, []), zi0), (34, .iconst 3, ([], nI 3, 0, []), zi0), (35, .iload_n 1, ([1], 0, 0, []), zi0), (36, .invokestatic 50, ([0, 1, 214], 0, 0, []), mi_CO_next), (39, .istore_n 3, ([3], 0, 0, []), zi0), (40, .iinc 4 1, ([], nI 1, 0, []), zi0), (43, .goto (-31), ([12], 0, 0, []), zi0), (46, .iload_n 2, ([2], 0, 0, []), zi0), (47, .ireturn, ([], 0, 0, []), zi0)]
def cu_CH_brokenTriples : List (Nat × List Nat) := [(12, [0, 1, 2, 3, 4])]
set_option maxRecDepth 100000 in
theorem oc_CH_brokenTriples : cd_CH_brokenTriples.all (zchk mi_CH_brokenTriples) = true := by decide +kernel
set_option maxRecDepth 100000 in
theorem ow_CH_brokenTriples : zWs mi_CH_brokenTriples cd_CH_brokenTriples := ⟨trivial, ⟨rfl, rfl, mv_PM_points⟩, trivial, trivial, trivial, trivial, trivial, trivial, trivial, trivial, trivial, trivial, trivial, trivial, trivial, trivial, trivial, trivial, trivial, ⟨rfl, ms_CH_isBroken⟩, ⟨rfl, ms_T_oneIf⟩, trivial, trivial, trivial, trivial, trivial, ⟨rfl, ms_CO_next⟩, trivial, trivial, trivial, trivial, trivial, trivial⟩
theorem ok_CH_brokenTriples : zgood2 mi_CH_brokenTriples cd_CH_brokenTriples := ⟨oc_CH_brokenTriples, ow_CH_brokenTriples⟩
def cd_CH_closedSets : List ZE := [(0, .iconst 0, ([], nI 0, 0, []), zi0), (1, .istore_n 1, ([1], 0, 0, []), zi0), (2, .iconst 0, ([], nI 0, 0, []), zi0), (3, .istore_n 2, ([2], 0, 0, []), zi0), (4, .iload_n 2, ([2], 0, 0, []), zi0), (5, .iconst 1, ([], nI 1, 0, []), zi0), (6, .aload_n 0, ([0], 0, 0, []), zi0), (7, .invokevirtual 9, ([0, 1, 159], 0, 0, []), mi_PM_points), (10, .ishl, ([], 0, 0, []), zi0), (11, .if_icmp .ge 29, ([40], 0, 0, []), zi0), (14, .iload_n 1, ([1], 0, 0, []), zi0), (15, .aload_n 0, ([0], 0, 0, []), zi0), (16, .iload_n 2, ([2], 0, 0, []), zi0), (17, .invokestatic 74, ([0, 2, 74], 0, 0, []), mi_CH_withImages), (20, .iload_n 2, ([2], 0, 0, []), zi0), (21, .if_icmp .ne 7, ([28], 0, 0, []), zi0), (24, .iconst 1, ([], nI 1, 0, []), zi0), (25, .goto 4, ([29], 0, 0, []), zi0), (28, .iconst 0, ([], nI 0, 0, []), zi0), (29, .invokestatic 46, ([1, 1, 213], 0, 0, []), mi_T_oneIf), (32, .iadd, ([], 0, 0, []), zi0), (33, .istore_n 1, ([1], 0, 0, []), zi0), (34, .iinc 2 1, ([], nI 1, 0, []), zi0), (37, .goto (-33), ([4], 0, 0, []), zi0), (40, .iload_n 1, ([1], 0, 0, []), zi0), (41, .ireturn, ([], 0, 0, []), zi0)]
def cu_CH_closedSets : List (Nat × List Nat) := [(4, [0, 1, 2])]
set_option maxRecDepth 100000 in
theorem oc_CH_closedSets : cd_CH_closedSets.all (zchk mi_CH_closedSets) = true := by decide +kernel
set_option maxRecDepth 100000 in
theorem ow_CH_closedSets : zWs mi_CH_closedSets cd_CH_closedSets := ⟨trivial, trivial, trivial, trivial, trivial, trivial, trivial, ⟨rfl, rfl, mv_PM_points⟩, trivial, trivial, trivial, trivial, trivial, ⟨rfl, ms_CH_withImages⟩, trivial, trivial, trivial, trivial, trivial, ⟨rfl, ms_T_oneIf⟩, trivial, trivial, trivial, trivial, trivial, trivial, trivial⟩
theorem ok_CH_closedSets : zgood2 mi_CH_closedSets cd_CH_closedSets := ⟨oc_CH_closedSets, ow_CH_closedSets⟩
def cd_CH_closureOf : List ZE := [(0, .iload_n 1, ([1], 0, 0, []), zi0), (1, .istore_n 2, ([2], 0, 0, []), zi0), (2, .iconst 0, ([], nI 0, 0, []), zi0), (3, .istore_n 3, ([3], 0, 0, []), zi0), (4, .iload_n 3, ([3], 0, 0, []), zi0), (5, .aload_n 0, ([0], 0, 0, []), zi0), (6, .invokevirtual 9, ([0, 1, 159], 0, 0, []), mi_PM_points), (9, .if_icmp .ge 15, ([24], 0, 0, []), zi0), (12, .aload_n 0, ([0], 0, 0, []), zi0), (13, .iload_n 2, ([2], 0, 0, []), zi0), (14, .invokestatic 74, ([0, 2, 74], 0, 0, []), mi_CH_withImages), (17, .istore_n 2, ([2], 0, 0, []), zi0), (18, .iinc 3 1, ([], nI 1, 0, []), zi0), (21, .goto (-17), ([4], 0, 0, []), zi0), (24, .iload_n 2, ([2], 0, 0, []), zi0), (25, .ireturn, ([], 0, 0, []), zi0)]
def cu_CH_closureOf : List (Nat × List Nat) := [(4, [0, 2, 3])]
set_option maxRecDepth 100000 in
theorem oc_CH_closureOf : cd_CH_closureOf.all (zchk mi_CH_closureOf) = true := by decide +kernel
set_option maxRecDepth 100000 in
theorem ow_CH_closureOf : zWs mi_CH_closureOf cd_CH_closureOf := ⟨trivial, trivial, trivial, trivial, trivial, trivial, ⟨rfl, rfl, mv_PM_points⟩, trivial, trivial, trivial, ⟨rfl, ms_CH_withImages⟩, trivial, trivial, trivial, trivial, trivial, trivial⟩
theorem ok_CH_closureOf : zgood2 mi_CH_closureOf cd_CH_closureOf := ⟨oc_CH_closureOf, ow_CH_closureOf⟩
def cd_CH_orbitOf : List ZE := [(0, .iconst 1, ([], nI 1, 0, []), zi0), (1, .iload_n 1, ([1], 0, 0, []), zi0), (2, .ishl, ([], 0, 0, []), zi0), (3, .istore_n 2, ([2], 0, 0, []), zi0), (4, .iconst 0, ([], nI 0, 0, []), zi0), (5, .istore_n 3, ([3], 0, 0, []), zi0), (6, .iload_n 3, ([3], 0, 0, []), zi0), (7, .aload_n 0, ([0], 0, 0, []), zi0), (8, .invokevirtual 9, ([0, 1, 159], 0, 0, []), mi_PM_points), (11, .if_icmp .ge 15, ([26], 0, 0, []), zi0), (14, .aload_n 0, ([0], 0, 0, []), zi0), (15, .iload_n 2, ([2], 0, 0, []), zi0), (16, .invokestatic 65, ([0, 1, 238], 0, 0, []), mi_CH_withLinked), (19, .istore_n 2, ([2], 0, 0, []), zi0), (20, .iinc 3 1, ([], nI 1, 0, []), zi0), (23, .goto (-17), ([6], 0, 0, []), zi0), (26, .iload_n 2, ([2], 0, 0, []), zi0), (27, .ireturn, ([], 0, 0, []), zi0)]
def cu_CH_orbitOf : List (Nat × List Nat) := [(6, [0, 2, 3])]
set_option maxRecDepth 100000 in
theorem oc_CH_orbitOf : cd_CH_orbitOf.all (zchk mi_CH_orbitOf) = true := by decide +kernel
set_option maxRecDepth 100000 in
theorem ow_CH_orbitOf : zWs mi_CH_orbitOf cd_CH_orbitOf := ⟨trivial, trivial, trivial, trivial, trivial, trivial, trivial, trivial, ⟨rfl, rfl, mv_PM_points⟩, trivial, trivial, trivial, ⟨rfl, ms_CH_withLinked⟩, trivial, trivial, trivial, trivial, trivial, trivial⟩
theorem ok_CH_orbitOf : zgood2 mi_CH_orbitOf cd_CH_orbitOf := ⟨oc_CH_orbitOf, ow_CH_orbitOf⟩
def cd_PM_becomeFlip : List ZE := [(0, .aload_n 0, ([0], 0, 0, []), zi0), (1, .iload_n 1, ([1], 0, 0, []), zi0), (2, .ldc 34, ([0, 187], nI 181896, 0, []), zi0), (4, .ldc 34, ([0, 187], nI 181896, 0, []), zi0), (6, .invokevirtual 35, ([0, 0, 188], 0, 0, []), mi_PM_becomeTwist), (9, .return_, ([], 0, 0, []), zi0)]
def cu_PM_becomeFlip : List (Nat × List Nat) := []
set_option maxRecDepth 100000 in
theorem oc_PM_becomeFlip : cd_PM_becomeFlip.all (zchk mi_PM_becomeFlip) = true := by decide +kernel
set_option maxRecDepth 100000 in
theorem ow_PM_becomeFlip : zWs mi_PM_becomeFlip cd_PM_becomeFlip := ⟨trivial, trivial, rfl, rfl, ⟨rfl, rfl, mv_PM_becomeTwist⟩, trivial, trivial⟩
theorem ok_PM_becomeFlip : zgood2 mi_PM_becomeFlip cd_PM_becomeFlip := ⟨oc_PM_becomeFlip, ow_PM_becomeFlip⟩
def cd_PM_becomeProduct : List ZE := [(0, .aload_n 0, ([0], 0, 0, []), zi0), (1, .aload_n 1, ([1], 0, 0, []), zi0), (2, .getfield 13, ([0, 1, 0, 35], 0, 0, []), zi0), (5, .aload_n 2, ([2], 0, 0, []), zi0), (6, .getfield 13, ([0, 1, 0, 35], 0, 0, []), zi0), (9, .imul, ([], 0, 0, []), zi0), (10, .putfield 13, ([0, 1, 0, 35], 0, 0, []), zi0), (13, .iconst 0, ([], nI 0, 0, []), zi0), (14, .istore_n 3, ([3], 0, 0, []), zi0), (15, .iload_n 3, ([3], 0, 0, []), zi0), (16, .aload_n 1, ([1], 0, 0, []), zi0), (17, .getfield 13, ([0, 1, 0, 35], 0, 0, []), zi0), (20, .if_icmp .ge 36, ([56], 0, 0, []), zi0), (23, .iconst 0, ([], nI 0, 0, []), zi0), (24, .istore 4, ([], 0, 0, []), zi0), (26, .iload 4, ([], 0, 0, []), zi0), (28, .aload_n 1, ([1], 0, 0, []), zi0), (29, .getfield 13, ([0, 1, 0, 35], 0, 0, []), zi0), (32, .if_icmp .ge 18, ([50], 0, 0, []), zi0), (35, .aload_n 0, ([0], 0, 0, []), zi0), (36, .aload_n 1, ([1], 0, 0, []), zi0), (37, .aload_n 2, ([2], 0, 0, []), zi0), (38, .iload_n 3, ([3], 0, 0, []), zi0), (39, .iload 4, ([], 0, 0, []), zi0), (41, .invokevirtual 53, ([0, 1, 148], 0, 0, []), mi_PM_setBlock), (44, .iinc 4 1, ([], nI 1, 0, []), zi0), (47, .goto (-21), ([26], 0, 0, []), zi0), (50, .iinc 3 1, ([], nI 1, 0, []), zi0), (53, .goto (-38), ([15], 0, 0, []), zi0), (56, .return_, ([], 0, 0, []), zi0)]
def cu_PM_becomeProduct : List (Nat × List Nat) := [(15, [0, 1, 2, 3]), (26, [0, 1, 2, 3, 4])]
set_option maxRecDepth 100000 in
theorem oc_PM_becomeProduct : cd_PM_becomeProduct.all (zchk mi_PM_becomeProduct) = true := by decide +kernel
set_option maxRecDepth 100000 in
theorem ow_PM_becomeProduct : zWs mi_PM_becomeProduct cd_PM_becomeProduct := ⟨trivial, trivial, rfl, trivial, rfl, trivial, ⟨rfl, rfl⟩, trivial, trivial, trivial, trivial, rfl, trivial, trivial, trivial, trivial, trivial, rfl, trivial, trivial, trivial, trivial, trivial, trivial, ⟨rfl, rfl, mv_PM_setBlock⟩, trivial, trivial, trivial, trivial, trivial, trivial⟩
theorem ok_PM_becomeProduct : zgood2 mi_PM_becomeProduct cd_PM_becomeProduct := ⟨oc_PM_becomeProduct, ow_PM_becomeProduct⟩
def cd_RG_orderFor : List ZE := [(0, .aload_n 1, ([1], 0, 0, []), zi0), (1, .invokestatic 23, ([0, 2, 15], 0, 0, []), mi_CH_isLeftNondegenerate), (4, .ifCond .ne 5, ([9], 0, 0, []), zi0), (7, .iconst (-1), ([], (-1), 0, []), zi0), (8, .ireturn, ([], 0, 0, []), zi0), (9, .aload_n 0, ([0], 0, 0, []), zi0), (10, .getfield 15, ([5, 1, 0, 99], 0, 0, []), zi0), (13, .lconst 0, ([], 0, lN 0, []), zi0), (14, .invokestatic 29, ([0, 2, 16], 0, 0, []), mi_JA_fill), (17, .aload_n 0, ([0], 0, 0, []), zi0), (18, .iconst 0, ([], nI 0, 0, []), zi0), (19, .putfield 19, ([5, 2, 0, 100], 0, 0, []), zi0), (22, .aload_n 0, ([0], 0, 0, []), zi0), (23, .ldc 37, ([2, 19], nI 181896, 0, []), zi0), (25, .invokevirtual 38, ([5, 2, 20], 0, 0, []), mi_RG_add), (28, .iconst 0, ([], nI 0, 0, []), zi0), (29, .istore_n 2, ([2], 0, 0, []), zi0), (30, .iload_n 2, ([2], 0, 0, []), zi0), (31, .sipush 720, ([], nI 720, 0, []), zi0), (34, .if_icmp .ge 48, ([82], 0, 0, []), zi0), (37, .iload_n 2, ([2], 0, 0, []), zi0), (38, .aload_n 0, ([0], 0, 0, []), zi0), (39, .getfield 19, ([5, 2, 0, 100], 0, 0, []), zi0), (42, .if_icmp .ge 40, ([82], 0, 0, []), zi0), (45, .iconst 0, ([], nI 0, 0, []), zi0), (46, .istore_n 3, ([3], 0, 0, []), zi0), (47, .iload_n 3, ([3], 0, 0, []), zi0), (48, .aload_n 1, ([1], 0, 0, []), zi0), (49, .invokevirtual 42, ([0, 2, 24], 0, 0, []), mi_PM_points), (52, .if_icmp .ge 24, ([76], 0, 0, []), zi0), (55, .aload_n 0, ([0], 0, 0, []), zi0), (56, .aload_n 0, ([0], 0, 0, []), zi0), (57, .getfield 11, ([5, 0, 0, 98], 0, 0, []), zi0), (60, .iload_n 2, ([2], 0, 0, []), zi0), (61, .iaload, ([], 0, 0, []), zi0), (62, .aload_n 1, ([1], 0, 0, []), zi0), (63, .iload_n 3, ([3], 0, 0, []), zi0), (64, .invokestatic 48, ([0, 2, 25], 0, 0, []), mi_RG_followedBy), (67, .invokevirtual 38, ([5, 2, 20], 0, 0, []), mi_RG_add), (70, .iinc 3 1, ([], nI 1, 0, []), zi0), (73, .goto (-26), ([47], 0, 0, []), zi0), (76, .iinc 2 1, ([], nI 1, 0, []), zi0), (79, .goto (-49), ([30], 0, 0, []), zi0), (82, .aload_n 0, ([0], 0, 0, []), zi0), (83, .getfield 19, ([5, 2, 0, 100], 0, 0, []), zi0), (86, .ireturn, ([], 0, 0, []), zi0)]
def cu_RG_orderFor : List (Nat × List Nat) := [(30, [0, 1, 2]), (47, [0, 1, 2, 3])]
set_option maxRecDepth 100000 in
theorem oc_RG_orderFor : cd_RG_orderFor.all (zchk mi_RG_orderFor) = true := by decide +kernel
set_option maxRecDepth 100000 in
theorem ow_RG_orderFor : zWs mi_RG_orderFor cd_RG_orderFor := ⟨trivial, ⟨rfl, ms_CH_isLeftNondegenerate⟩, trivial, trivial, trivial, trivial, rfl, trivial, ⟨rfl, ms_JA_fill⟩, trivial, trivial, ⟨rfl, rfl⟩, trivial, rfl, ⟨rfl, rfl, mv_RG_add⟩, trivial, trivial, trivial, trivial, trivial, trivial, trivial, rfl, trivial, trivial, trivial, trivial, trivial, ⟨rfl, rfl, mv_PM_points⟩, trivial, trivial, trivial, rfl, trivial, trivial, trivial, trivial, ⟨rfl, ms_RG_followedBy⟩, ⟨rfl, rfl, mv_RG_add⟩, trivial, trivial, trivial, trivial, trivial, rfl, trivial, trivial⟩
theorem ok_RG_orderFor : zgood2 mi_RG_orderFor cd_RG_orderFor := ⟨oc_RG_orderFor, ow_RG_orderFor⟩
def cd_RN_isomorphismAt : List ZE := [(0, .aload_n 1, ([1], 0, 0, []), zi0), (1, .invokevirtual 15, ([0, 2, 34], 0, 0, []), mi_PM_points), (4, .istore 4, ([], 0, 0, []), zi0), (6, .iload 4, ([], 0, 0, []), zi0), (8, .aload_n 2, ([2], 0, 0, []), zi0), (9, .invokevirtual 15, ([0, 2, 34], 0, 0, []), mi_PM_points), (12, .if_icmp .eq 5, ([17], 0, 0, []), zi0), (15, .iconst (-1), ([], (-1), 0, []), zi0), (16, .ireturn, ([], 0, 0, []), zi0), (17, .iload_n 3, ([3], 0, 0, []), zi0), (18, .istore 5, ([], 0, 0, []), zi0), (20, .aload_n 0, ([0], 0, 0, []), zi0), (21, .invokevirtual 21, ([4, 2, 35], 0, 0, []), mi_RN_start), (24, .iload 4, ([], 0, 0, []), zi0), (26, .invokestatic 24, ([0, 2, 39], 0, 0, []), mi_RN_permutations), (29, .istore 6, ([], 0, 0, []), zi0), (31, .iload 6, ([], 0, 0, []), zi0), (33, .ifCond .le 39, ([72], 0, 0, []), zi0), (36, .aload_n 0, ([0], 0, 0, []), zi0), (37, .aload_n 1, ([1], 0, 0, []), zi0), (38, .aload_n 2, ([2], 0, 0, []), zi0), (39, .invokevirtual 28, ([4, 2, 42], 0, 0, []), mi_RN_isIsomorphism), (42, .ifCond .eq 18, ([60], 0, 0, []), zi0), (45, .iload 5, ([], 0, 0, []), zi0), (47, .ifCond .ne 10, ([57], 0, 0, []), zi0), (50, .aload_n 0, ([0], 0, 0, []), zi0), (51, .iload 4, ([], 0, 0, []), zi0), (53, .invokevirtual 40, ([4, 2, 149], 0, 0, []), mi_RN_code), (56, .ireturn, ([], 0, 0, []), zi0), (57, .iinc 5 (-1), ([], (-1), 0, []), zi0), (60, .aload_n 0, ([0], 0, 0, []), zi0), (61, .iload 4, ([], 0, 0, []), zi0), (63, .invokevirtual 36, ([4, 2, 53], 0, 0, []), mi_RN_step), (66, .iinc 6 (-1), ([], (-1), 0, []), zi0), (69, .goto (-38), ([31], 0, 0, []), zi0), (72, .iconst (-1), ([], (-1), 0, []), zi0), (73, .ireturn, ([], 0, 0, []), zi0)]
def cu_RN_isomorphismAt : List (Nat × List Nat) := [(31, [0, 1, 2, 4, 5, 6])]
set_option maxRecDepth 100000 in
theorem oc_RN_isomorphismAt : cd_RN_isomorphismAt.all (zchk mi_RN_isomorphismAt) = true := by decide +kernel
set_option maxRecDepth 100000 in
theorem ow_RN_isomorphismAt : zWs mi_RN_isomorphismAt cd_RN_isomorphismAt := ⟨trivial, ⟨rfl, rfl, mv_PM_points⟩, trivial, trivial, trivial, ⟨rfl, rfl, mv_PM_points⟩, trivial, trivial, trivial, trivial, trivial, trivial, ⟨rfl, rfl, mv_RN_start⟩, trivial, ⟨rfl, ms_RN_permutations⟩, trivial, trivial, trivial, trivial, trivial, trivial, ⟨rfl, rfl, mv_RN_isIsomorphism⟩, trivial, trivial, trivial, trivial, trivial, ⟨rfl, rfl, mv_RN_code⟩, trivial, trivial, trivial, trivial, ⟨rfl, rfl, mv_RN_step⟩, trivial, trivial, trivial, trivial, trivial⟩
theorem ok_RN_isomorphismAt : zgood2 mi_RN_isomorphismAt cd_RN_isomorphismAt := ⟨oc_RN_isomorphismAt, ow_RN_isomorphismAt⟩
def cd_RN_isomorphisms : List ZE := [(0, .aload_n 1, ([1], 0, 0, []), zi0), (1, .invokevirtual 15, ([0, 2, 34], 0, 0, []), mi_PM_points), (4, .istore_n 3, ([3], 0, 0, []), zi0), (5, .iload_n 3, ([3], 0, 0, []), zi0), (6, .aload_n 2, ([2], 0, 0, []), zi0), (7, .invokevirtual 15, ([0, 2, 34], 0, 0, []), mi_PM_points), (10, .if_icmp .eq 5, ([15], 0, 0, []), zi0), (13, .iconst 0, ([], nI 0, 0, []), zi0), (14, .ireturn, ([], 0, 0, []), zi0), (15, .iconst 0, ([], nI 0, 0, []), zi0), (16, .istore 4, ([], 0, 0, []), zi0), (18, .aload_n 0, ([0], 0, 0, []), zi0), (19, .invokevirtual 21, ([4, 2, 35], 0, 0, []), mi_RN_start), (22, .iload_n 3, ([3], 0, 0, []), zi0), (23, .invokestatic 24, ([0, 2, 39], 0, 0, []), mi_RN_permutations), (26, .istore 5, ([], 0, 0, []), zi0), (28, .iload 5, ([], 0, 0, []), zi0), (30, .ifCond .le 28, ([58], 0, 0, []), zi0), (33, .iload 4, ([], 0, 0, []), zi0), (35, .aload_n 0, ([0], 0, 0, []), zi0), (36, .aload_n 1, ([1], 0, 0, []), zi0), (37, .aload_n 2, ([2], 0, 0, []), zi0), (38, .invokevirtual 28, ([4, 2, 42], 0, 0, []), mi_RN_isIsomorphism), (41, .invokestatic 32, ([1, 2, 52], 0, 0, []), mi_T_oneIf), (44, .iadd, ([], 0, 0, []), zi0), (45, .istore 4, ([], 0, 0, []), zi0), (47, .aload_n 0, ([0], 0, 0, []), zi0), (48, .iload_n 3, ([3], 0, 0, []), zi0), (49, .invokevirtual 36, ([4, 2, 53], 0, 0, []), mi_RN_step), (52, .iinc 5 (-1), ([], (-1), 0, []), zi0), (55, .goto (-27), ([28], 0, 0, []), zi0), (58, .iload 4, ([], 0, 0, []), zi0), (60, .ireturn, ([], 0, 0, []), zi0)]
def cu_RN_isomorphisms : List (Nat × List Nat) := [(28, [0, 1, 2, 3, 4, 5])]
set_option maxRecDepth 100000 in
theorem oc_RN_isomorphisms : cd_RN_isomorphisms.all (zchk mi_RN_isomorphisms) = true := by decide +kernel
set_option maxRecDepth 100000 in
theorem ow_RN_isomorphisms : zWs mi_RN_isomorphisms cd_RN_isomorphisms := ⟨trivial, ⟨rfl, rfl, mv_PM_points⟩, trivial, trivial, trivial, ⟨rfl, rfl, mv_PM_points⟩, trivial, trivial, trivial, trivial, trivial, trivial, ⟨rfl, rfl, mv_RN_start⟩, trivial, ⟨rfl, ms_RN_permutations⟩, trivial, trivial, trivial, trivial, trivial, trivial, trivial, ⟨rfl, rfl, mv_RN_isIsomorphism⟩, ⟨rfl, ms_T_oneIf⟩, trivial, trivial, trivial, trivial, ⟨rfl, rfl, mv_RN_step⟩, trivial, trivial, trivial, trivial, trivial⟩
theorem ok_RN_isomorphisms : zgood2 mi_RN_isomorphisms cd_RN_isomorphisms := ⟨oc_RN_isomorphisms, ow_RN_isomorphisms⟩
def cd_RN_smallestRows : List ZE := [(0, .aload_n 1, ([1], 0, 0, []), zi0), (1, .invokevirtual 15, ([0, 2, 34], 0, 0, []), mi_PM_points), (4, .istore_n 2, ([2], 0, 0, []), zi0), (5, .ldc2_w 45, ([2, 90], 0, lN 9223372036854775807, []), zi0), (8, .lstore_n 3, ([3], 0, 0, []), zi0), (9, .aload_n 0, ([0], 0, 0, []), zi0), (10, .invokevirtual 21, ([4, 2, 35], 0, 0, []), mi_RN_start), (13, .iload_n 2, ([2], 0, 0, []), zi0), (14, .invokestatic 24, ([0, 2, 39], 0, 0, []), mi_RN_permutations), (17, .istore 5, ([], 0, 0, []), zi0), (19, .iload 5, ([], 0, 0, []), zi0), (21, .ifCond .le 24, ([45], 0, 0, []), zi0), (24, .lload_n 3, ([3], 0, 0, []), zi0), (25, .aload_n 0, ([0], 0, 0, []), zi0), (26, .aload_n 1, ([1], 0, 0, []), zi0), (27, .invokevirtual 47, ([4, 2, 91], 0, 0, []), mi_RN_renamedRows), (30, .invokestatic 51, ([0, 2, 99], 0, 0, []), mi_JM_minL), (33, .lstore_n 3, ([3], 0, 0, []), zi0), (34, .aload_n 0, ([0], 0, 0, []), zi0), (35, .iload_n 2, ([2], 0, 0, []), zi0), (36, .invokevirtual 36, ([4, 2, 53], 0, 0, []), mi_RN_step), (39, .iinc 5 (-1), ([], (-1), 0, []), zi0), (42, .goto (-23), ([19], 0, 0, []), zi0), (45, .lload_n 3, ([3], 0, 0, []), zi0), (46, .lreturn, ([], 0, 0, []), zi0)]
def cu_RN_smallestRows : List (Nat × List Nat) := [(19, [0, 1, 2, 3, 5])]
set_option maxRecDepth 100000 in
theorem oc_RN_smallestRows : cd_RN_smallestRows.all (zchk mi_RN_smallestRows) = true := by decide +kernel
set_option maxRecDepth 100000 in
theorem ow_RN_smallestRows : zWs mi_RN_smallestRows cd_RN_smallestRows := ⟨trivial, ⟨rfl, rfl, mv_PM_points⟩, trivial, rfl, trivial, trivial, ⟨rfl, rfl, mv_RN_start⟩, trivial, ⟨rfl, ms_RN_permutations⟩, trivial, trivial, trivial, trivial, trivial, trivial, ⟨rfl, rfl, mv_RN_renamedRows⟩, rfl, trivial, trivial, trivial, ⟨rfl, rfl, mv_RN_step⟩, trivial, trivial, trivial, trivial, trivial⟩
theorem ok_RN_smallestRows : zgood2 mi_RN_smallestRows cd_RN_smallestRows := ⟨oc_RN_smallestRows, ow_RN_smallestRows⟩
def cd_SL_makeMap : List ZE := [(0, .iload_n 1, ([1], 0, 0, []), zi0), (1, .iload_n 2, ([2], 0, 0, []), zi0), (2, .invokestatic 19, ([0, 2, 108], 0, 0, []), mi_SL_rowsAt), (5, .lstore_n 3, ([3], 0, 0, []), zi0), (6, .aload_n 0, ([0], 0, 0, []), zi0), (7, .iload_n 1, ([1], 0, 0, []), zi0), (8, .invokevirtual 23, ([0, 3, 99], 0, 0, []), mi_PM_resize), (11, .iconst 0, ([], nI 0, 0, []), zi0), (12, .istore 5, ([], 0, 0, []), zi0), (14, .iload 5, ([], 0, 0, []), zi0), (16, .iload_n 1, ([1], 0, 0, []), zi0), (17, .if_icmp .ge 54, ([71], 0, 0, []), zi0), (20, .iconst 0, ([], nI 0, 0, []), zi0), (21, .istore 6, ([], 0, 0, []), zi0), (23, .iload 6, ([], 0, 0, []), zi0), (25, .iload_n 1, ([1], 0, 0, []), zi0), (26, .if_icmp .ge 39, ([65], 0, 0, []), zi0), (29, .lload_n 3, ([3], 0, 0, []), zi0), (30, .iload_n 1, ([1], 0, 0, []), zi0), (31, .iload 5, ([], 0, 0, []), zi0), (33, .iload 6, ([], 0, 0, []), zi0), (35, .invokestatic 29, ([0, 3, 100], 0, 0, []), mi_SL_pointAt), (38, .istore 7, ([], 0, 0, []), zi0), (40, .aload_n 0, ([0], 0, 0, []), zi0), (41, .iload 5, ([], 0, 0, []), zi0), (43, .iload 6, ([], 0, 0, []), zi0), (45, .iload 7, ([], 0, 0, []), zi0), (47, .lload_n 3, ([3], 0, 0, []), zi0), (48, .iload_n 1, ([1], 0, 0, []), zi0), (49, .iload 7, ([], 0, 0, []), zi0), (51, .iload 5, ([], 0, 0, []), zi0), (53, .invokestatic 33, ([0, 3, 104], 0, 0, []), mi_SL_columnOf), (56, .invokevirtual 36, ([0, 3, 107], 0, 0, []), mi_PM_setImage), (59, .iinc 6 1, ([], nI 1, 0, []), zi0), (62, .goto (-39), ([23], 0, 0, []), zi0), (65, .iinc 5 1, ([], nI 1, 0, []), zi0), (68, .goto (-54), ([14], 0, 0, []), zi0), (71, .return_, ([], 0, 0, []), zi0)]
def cu_SL_makeMap : List (Nat × List Nat) := [(14, [0, 1, 3, 5]), (23, [0, 1, 3, 5, 6])]
set_option maxRecDepth 100000 in
theorem oc_SL_makeMap : cd_SL_makeMap.all (zchk mi_SL_makeMap) = true := by decide +kernel
set_option maxRecDepth 100000 in
theorem ow_SL_makeMap : zWs mi_SL_makeMap cd_SL_makeMap := ⟨trivial, trivial, ⟨rfl, ms_SL_rowsAt⟩, trivial, trivial, trivial, ⟨rfl, rfl, mv_PM_resize⟩, trivial, trivial, trivial, trivial, trivial, trivial, trivial, trivial, trivial, trivial, trivial, trivial, trivial, trivial, ⟨rfl, ms_SL_pointAt⟩, trivial, trivial, trivial, trivial, trivial, trivial, trivial, trivial, trivial, ⟨rfl, ms_SL_columnOf⟩, ⟨rfl, rfl, mv_PM_setImage⟩, trivial, trivial, trivial, trivial, trivial, trivial⟩
theorem ok_SL_makeMap : zgood2 mi_SL_makeMap cd_SL_makeMap := ⟨oc_SL_makeMap, ow_SL_makeMap⟩
def cd_T_brace : List ZE := [(0, .iload_n 1, ([1], 0, 0, []), zi0), (1, .invokestatic 69, ([0, 0, 175], 0, 0, []), mi_T_isPlace), (4, .ifCond .ne 6, ([10], 0, 0, []), zi0), (7, .ldc 73, ([0, 181], (-1000001), 0, []), zi0), (9, .ireturn, ([], 0, 0, []), zi0), (10, .iload_n 2, ([2], 0, 0, []), zi0), (11, .iconst 2, ([], nI 2, 0, []), zi0), (12, .bipush 6, ([], nI 6, 0, []), zi0), (14, .invokestatic 74, ([0, 0, 178], 0, 0, []), mi_T_isWithin), (17, .ifCond .eq 11, ([28], 0, 0, []), zi0), (20, .iload_n 2, ([2], 0, 0, []), zi0), (21, .iload_n 3, ([3], 0, 0, []), zi0), (22, .invokestatic 106, ([0, 1, 11], 0, 0, []), mi_AL_areUnits), (25, .ifCond .ne 6, ([31], 0, 0, []), zi0), (28, .ldc 78, ([0, 182], (-1000002), 0, []), zi0), (30, .ireturn, ([], 0, 0, []), zi0), (31, .iload_n 2, ([2], 0, 0, []), zi0), (32, .iload_n 3, ([3], 0, 0, []), zi0), (33, .invokestatic 109, ([0, 1, 19], 0, 0, []), mi_AL_isBrace), (36, .ifCond .ne 6, ([42], 0, 0, []), zi0), (39, .ldc 112, ([1, 25], (-1000003), 0, []), zi0), (41, .ireturn, ([], 0, 0, []), zi0), (42, .aload_n 0, ([0], 0, 0, []), zi0), (43, .getfield 31, ([2, 4, 0, 144], 0, 0, []), zi0), (46, .iload_n 2, ([2], 0, 0, []), zi0), (47, .iload_n 3, ([3], 0, 0, []), zi0), (48, .invokestatic 113, ([0, 1, 26], 0, 0, []), mi_AL_makeBraceMap), (51, .aload_n 0, ([0], 0, 0, []), zi0), (52, .iload_n 1, ([1], 0, 0, []), zi0), (53, .invokevirtual 83, ([2, 0, 202], 0, 0, []), mi_T_keepMade), (56, .ireturn, ([], 0, 0, []), zi0)]
def cu_T_brace : List (Nat × List Nat) := []
set_option maxRecDepth 100000 in
theorem oc_T_brace : cd_T_brace.all (zchk mi_T_brace) = true := by decide +kernel
set_option maxRecDepth 100000 in
theorem ow_T_brace : zWs mi_T_brace cd_T_brace := ⟨trivial, ⟨rfl, ms_T_isPlace⟩, trivial, rfl, trivial, trivial, trivial, trivial, ⟨rfl, ms_T_isWithin⟩, trivial, trivial, trivial, ⟨rfl, ms_AL_areUnits⟩, trivial, rfl, trivial, trivial, trivial, ⟨rfl, ms_AL_isBrace⟩, trivial, rfl, trivial, trivial, rfl, trivial, trivial, ⟨rfl, ms_AL_makeBraceMap⟩, trivial, trivial, ⟨rfl, rfl, mv_T_keepMade⟩, trivial, trivial⟩
theorem ok_T_brace : zgood2 mi_T_brace cd_T_brace := ⟨oc_T_brace, ow_T_brace⟩
def cd_T_cell : List ZE := [(0, .aload_n 0, ([0], 0, 0, []), zi0), (1, .iload_n 1, ([1], 0, 0, []), zi0), (2, .invokevirtual 123, ([2, 1, 65], 0, 0, []), mi_T_mapAt), (5, .astore 5, ([], 0, 0, []), zi0), (7, .aload 5, ([], 0, 0, []), zi0), (9, .iload_n 2, ([2], 0, 0, []), zi0), (10, .invokevirtual 127, ([0, 1, 69], 0, 0, []), mi_PM_hasPoint), (13, .ifCond .eq 12, ([25], 0, 0, []), zi0), (16, .aload 5, ([], 0, 0, []), zi0), (18, .iload_n 3, ([3], 0, 0, []), zi0), (19, .invokevirtual 127, ([0, 1, 69], 0, 0, []), mi_PM_hasPoint), (22, .ifCond .ne 6, ([28], 0, 0, []), zi0), (25, .ldc 73, ([0, 181], (-1000001), 0, []), zi0), (27, .ireturn, ([], 0, 0, []), zi0), (28, .iload 4, ([], 0, 0, []), zi0), (30, .iconst 0, ([], nI 0, 0, []), zi0), (31, .iconst 1, ([], nI 1, 0, []), zi0), (32, .invokestatic 74, ([0, 0, 178], 0, 0, []), mi_T_isWithin), (35, .ifCond .ne 6, ([41], 0, 0, []), zi0), (38, .ldc 78, ([0, 182], (-1000002), 0, []), zi0), (40, .ireturn, ([], 0, 0, []), zi0), (41, .iload 4, ([], 0, 0, []), zi0), (43, .ifCond .ne 13, ([56], 0, 0, []), zi0), (46, .aload 5, ([], 0, 0, []), zi0), (48, .iload_n 2, ([2], 0, 0, []), zi0), (49, .iload_n 3, ([3], 0, 0, []), zi0), (50, .invokevirtual 185, ([0, 1, 197], 0, 0, []), mi_PM_left), (53, .goto 10, ([63], 0, 0, []), zi0), (56, .aload 5, ([], 0, 0, []), zi0), (58, .iload_n 2, ([2], 0, 0, []), zi0), (59, .iload_n 3, ([3], 0, 0, []), zi0), (60, .invokevirtual 188, ([0, 1, 198], 0, 0, []), mi_PM_right), (63, .ireturn, ([], 0, 0, []), zi0)]
def cu_T_cell : List (Nat × List Nat) := []
set_option maxRecDepth 100000 in
theorem oc_T_cell : cd_T_cell.all (zchk mi_T_cell) = true := by decide +kernel
set_option maxRecDepth 100000 in
theorem ow_T_cell : zWs mi_T_cell cd_T_cell := ⟨trivial, trivial, ⟨rfl, rfl, mv_T_mapAt⟩, trivial, trivial, trivial, ⟨rfl, rfl, mv_PM_hasPoint⟩, trivial, trivial, trivial, ⟨rfl, rfl, mv_PM_hasPoint⟩, trivial, rfl, trivial, trivial, trivial, trivial, ⟨rfl, ms_T_isWithin⟩, trivial, rfl, trivial, trivial, trivial, trivial, trivial, trivial, ⟨rfl, rfl, mv_PM_left⟩, trivial, trivial, trivial, trivial, ⟨rfl, rfl, mv_PM_right⟩, trivial, trivial⟩
theorem ok_T_cell : zgood2 mi_T_cell cd_T_cell := ⟨oc_T_cell, ow_T_cell⟩
def cd_T_drop : List ZE := [(0, .aload_n 0, ([0], 0, 0, []), zi0), (1, .iload_n 1, ([1], 0, 0, []), zi0), (2, .invokevirtual 123, ([2, 1, 65], 0, 0, []), mi_T_mapAt), (5, .astore_n 2, ([2], 0, 0, []), zi0), (6, .aload_n 2, ([2], 0, 0, []), zi0), (7, .invokevirtual 143, ([0, 1, 86], 0, 0, []), mi_PM_isEmpty), (10, .ifCond .eq 6, ([16], 0, 0, []), zi0), (13, .ldc 73, ([0, 181], (-1000001), 0, []), zi0), (15, .ireturn, ([], 0, 0, []), zi0), (16, .aload_n 2, ([2], 0, 0, []), zi0), (17, .invokevirtual 155, ([0, 0, 210], 0, 0, []), mi_PM_points), (20, .istore_n 3, ([3], 0, 0, []), zi0), (21, .aload_n 2, ([2], 0, 0, []), zi0), (22, .iconst 0, ([], nI 0, 0, []), zi0), (23, .invokevirtual 182, ([0, 1, 192], 0, 0, []), mi_PM_resize), (26, .iload_n 3, ([3], 0, 0, []), zi0), (27, .ireturn, ([], 0, 0, []), zi0)]
def cu_T_drop : List (Nat × List Nat) := []
set_option maxRecDepth 100000 in
theorem oc_T_drop : cd_T_drop.all (zchk mi_T_drop) = true := by decide +kernel
set_option maxRecDepth 100000 in
theorem ow_T_drop : zWs mi_T_drop cd_T_drop := ⟨trivial, trivial, ⟨rfl, rfl, mv_T_mapAt⟩, trivial, trivial, ⟨rfl, rfl, mv_PM_isEmpty⟩, trivial, rfl, trivial, trivial, ⟨rfl, rfl, mv_PM_points⟩, trivial, trivial, trivial, ⟨rfl, rfl, mv_PM_resize⟩, trivial, trivial, trivial⟩
theorem ok_T_drop : zgood2 mi_T_drop cd_T_drop := ⟨oc_T_drop, ow_T_drop⟩
def cd_T_erase : List ZE := [(0, .iload_n 1, ([1], 0, 0, []), zi0), (1, .invokestatic 264, ([0, 2, 197], 0, 0, []), mi_T_isBraid), (4, .ifCond .ne 6, ([10], 0, 0, []), zi0), (7, .ldc 73, ([0, 181], (-1000001), 0, []), zi0), (9, .ireturn, ([], 0, 0, []), zi0), (10, .aload_n 0, ([0], 0, 0, []), zi0), (11, .iload_n 1, ([1], 0, 0, []), zi0), (12, .invokevirtual 270, ([2, 2, 206], 0, 0, []), mi_T_braidAt), (15, .astore_n 2, ([2], 0, 0, []), zi0), (16, .aload_n 2, ([2], 0, 0, []), zi0), (17, .invokevirtual 280, ([1, 2, 221], 0, 0, []), mi_BR_length), (20, .istore_n 3, ([3], 0, 0, []), zi0), (21, .aload_n 2, ([2], 0, 0, []), zi0), (22, .invokevirtual 283, ([1, 2, 229], 0, 0, []), mi_BR_clear), (25, .iload_n 3, ([3], 0, 0, []), zi0), (26, .ireturn, ([], 0, 0, []), zi0)]
def cu_T_erase : List (Nat × List Nat) := []
set_option maxRecDepth 100000 in
theorem oc_T_erase : cd_T_erase.all (zchk mi_T_erase) = true := by decide +kernel
set_option maxRecDepth 100000 in
theorem ow_T_erase : zWs mi_T_erase cd_T_erase := ⟨trivial, ⟨rfl, ms_T_isBraid⟩, trivial, rfl, trivial, trivial, trivial, ⟨rfl, rfl, mv_T_braidAt⟩, trivial, trivial, ⟨rfl, rfl, mv_BR_length⟩, trivial, trivial, ⟨rfl, rfl, mv_BR_clear⟩, trivial, trivial, trivial⟩
theorem ok_T_erase : zgood2 mi_T_erase cd_T_erase := ⟨oc_T_erase, ow_T_erase⟩
def cd_T_group : List ZE := [(0, .iload_n 1, ([1], 0, 0, []), zi0), (1, .invokestatic 69, ([0, 0, 175], 0, 0, []), mi_T_isPlace), (4, .ifCond .ne 6, ([10], 0, 0, []), zi0), (7, .ldc 73, ([0, 181], (-1000001), 0, []), zi0), (9, .ireturn, ([], 0, 0, []), zi0), (10, .iload_n 2, ([2], 0, 0, []), zi0), (11, .iload_n 3, ([3], 0, 0, []), zi0), (12, .invokestatic 97, ([0, 0, 230], 0, 0, []), mi_AL_isGroup), (15, .ifCond .ne 6, ([21], 0, 0, []), zi0), (18, .ldc 78, ([0, 182], (-1000002), 0, []), zi0), (20, .ireturn, ([], 0, 0, []), zi0), (21, .aload_n 0, ([0], 0, 0, []), zi0), (22, .getfield 31, ([2, 4, 0, 144], 0, 0, []), zi0), (25, .iload_n 2, ([2], 0, 0, []), zi0), (26, .iload_n 3, ([3], 0, 0, []), zi0), (27, .invokestatic 102, ([0, 0, 233], 0, 0, []), mi_AL_makeGroupMap), (30, .aload_n 0, ([0], 0, 0, []), zi0), (31, .iload_n 1, ([1], 0, 0, []), zi0), (32, .invokevirtual 83, ([2, 0, 202], 0, 0, []), mi_T_keepMade), (35, .ireturn, ([], 0, 0, []), zi0)]
def cu_T_group : List (Nat × List Nat) := []
set_option maxRecDepth 100000 in
theorem oc_T_group : cd_T_group.all (zchk mi_T_group) = true := by decide +kernel
set_option maxRecDepth 100000 in
theorem ow_T_group : zWs mi_T_group cd_T_group := ⟨trivial, ⟨rfl, ms_T_isPlace⟩, trivial, rfl, trivial, trivial, trivial, ⟨rfl, ms_AL_isGroup⟩, trivial, rfl, trivial, trivial, rfl, trivial, trivial, ⟨rfl, ms_AL_makeGroupMap⟩, trivial, trivial, ⟨rfl, rfl, mv_T_keepMade⟩, trivial, trivial⟩
theorem ok_T_group : zgood2 mi_T_group cd_T_group := ⟨oc_T_group, ow_T_group⟩
def cd_T_invert : List ZE := [(0, .aload_n 0, ([0], 0, 0, []), zi0), (1, .iload_n 1, ([1], 0, 0, []), zi0), (2, .invokevirtual 123, ([2, 1, 65], 0, 0, []), mi_T_mapAt), (5, .astore_n 3, ([3], 0, 0, []), zi0), (6, .aload_n 3, ([3], 0, 0, []), zi0), (7, .invokevirtual 143, ([0, 1, 86], 0, 0, []), mi_PM_isEmpty), (10, .ifCond .ne 10, ([20], 0, 0, []), zi0), (13, .iload_n 2, ([2], 0, 0, []), zi0), (14, .invokestatic 69, ([0, 0, 175], 0, 0, []), mi_T_isPlace), (17, .ifCond .ne 6, ([23], 0, 0, []), zi0), (20, .ldc 73, ([0, 181], (-1000001), 0, []), zi0), (22, .ireturn, ([], 0, 0, []), zi0), (23, .aload_n 3, ([3], 0, 0, []), zi0), (24, .invokestatic 166, ([0, 1, 156], 0, 0, []), mi_CH_isBijective), (27, .ifCond .ne 6, ([33], 0, 0, []), zi0), (30, .ldc 112, ([1, 25], (-1000003), 0, []), zi0), (32, .ireturn, ([], 0, 0, []), zi0), (33, .aload_n 0, ([0], 0, 0, []), zi0), (34, .getfield 31, ([2, 4, 0, 144], 0, 0, []), zi0), (37, .aload_n 3, ([3], 0, 0, []), zi0), (38, .invokevirtual 172, ([0, 1, 168], 0, 0, []), mi_PM_becomeInverse), (41, .aload_n 0, ([0], 0, 0, []), zi0), (42, .iload_n 2, ([2], 0, 0, []), zi0), (43, .invokevirtual 83, ([2, 0, 202], 0, 0, []), mi_T_keepMade), (46, .ireturn, ([], 0, 0, []), zi0)]
def cu_T_invert : List (Nat × List Nat) := []
set_option maxRecDepth 100000 in
theorem oc_T_invert : cd_T_invert.all (zchk mi_T_invert) = true := by decide +kernel
set_option maxRecDepth 100000 in
theorem ow_T_invert : zWs mi_T_invert cd_T_invert := ⟨trivial, trivial, ⟨rfl, rfl, mv_T_mapAt⟩, trivial, trivial, ⟨rfl, rfl, mv_PM_isEmpty⟩, trivial, trivial, ⟨rfl, ms_T_isPlace⟩, trivial, rfl, trivial, trivial, ⟨rfl, ms_CH_isBijective⟩, trivial, rfl, trivial, trivial, rfl, trivial, ⟨rfl, rfl, mv_PM_becomeInverse⟩, trivial, trivial, ⟨rfl, rfl, mv_T_keepMade⟩, trivial, trivial⟩
theorem ok_T_invert : zgood2 mi_T_invert cd_T_invert := ⟨oc_T_invert, ow_T_invert⟩
def cd_T_mapsHeld : List ZE := [(0, .iconst 0, ([], nI 0, 0, []), zi0), (1, .istore_n 1, ([1], 0, 0, []), zi0), (2, .iconst 0, ([], nI 0, 0, []), zi0), (3, .istore_n 2, ([2], 0, 0, []), zi0), (4, .iload_n 2, ([2], 0, 0, []), zi0), (5, .iconst 4, ([], nI 4, 0, []), zi0), (6, .if_icmp .ge 31, ([37], 0, 0, []), zi0), (9, .iload_n 1, ([1], 0, 0, []), zi0), (10, .aload_n 0, ([0], 0, 0, []), zi0), (11, .iload_n 2, ([2], 0, 0, []), zi0), (12, .invokevirtual 123, ([2, 1, 65], 0, 0, []), mi_T_mapAt), (15, .invokevirtual 143, ([0, 1, 86], 0, 0, []), mi_PM_isEmpty), (18, .ifCond .ne 7, ([25], 0, 0, []), zi0), (21, .iconst 1, ([], nI 1, 0, []), zi0), (22, .goto 4, ([26], 0, 0, []), zi0), (25, .iconst 0, ([], nI 0, 0, []), zi0), (26, .invokestatic 195, ([0, 1, 217], 0, 0, []), mi_T_oneIf), (29, .iadd, ([], 0, 0, []), zi0), (30, .istore_n 1, ([1], 0, 0, []), zi0), (31, .iinc 2 1, ([], nI 1, 0, []), zi0), (34, .goto (-30), ([4], 0, 0, []), zi0), (37, .iload_n 1, ([1], 0, 0, []), zi0), (38, .ireturn, ([], 0, 0, []), zi0)]
def cu_T_mapsHeld : List (Nat × List Nat) := [(4, [0, 1, 2])]
set_option maxRecDepth 100000 in
theorem oc_T_mapsHeld : cd_T_mapsHeld.all (zchk mi_T_mapsHeld) = true := by decide +kernel
set_option maxRecDepth 100000 in
theorem ow_T_mapsHeld : zWs mi_T_mapsHeld cd_T_mapsHeld := ⟨trivial, trivial, trivial, trivial, trivial, trivial, trivial, trivial, trivial, trivial, ⟨rfl, rfl, mv_T_mapAt⟩, ⟨rfl, rfl, mv_PM_isEmpty⟩, trivial, trivial, trivial, trivial, ⟨rfl, ms_T_oneIf⟩, trivial, trivial, trivial, trivial, trivial, trivial, trivial⟩
theorem ok_T_mapsHeld : zgood2 mi_T_mapsHeld cd_T_mapsHeld := ⟨oc_T_mapsHeld, ow_T_mapsHeld⟩
def cd_T_mirror : List ZE := [(0, .aload_n 0, ([0], 0, 0, []), zi0), (1, .iload_n 1, ([1], 0, 0, []), zi0), (2, .invokevirtual 123, ([2, 1, 65], 0, 0, []), mi_T_mapAt), (5, .astore_n 3, ([3], 0, 0, []), zi0), (6, .aload_n 3, ([3], 0, 0, []), zi0), (7, .invokevirtual 143, ([0, 1, 86], 0, 0, []), mi_PM_isEmpty), (10, .ifCond .ne 10, ([20], 0, 0, []), zi0), (13, .iload_n 2, ([2], 0, 0, []), zi0), (14, .invokestatic 69, ([0, 0, 175], 0, 0, []), mi_T_isPlace), (17, .ifCond .ne 6, ([23], 0, 0, []), zi0), (20, .ldc 73, ([0, 181], (-1000001), 0, []), zi0), (22, .ireturn, ([], 0, 0, []), zi0), (23, .aload_n 0, ([0], 0, 0, []), zi0), (24, .getfield 31, ([2, 4, 0, 144], 0, 0, []), zi0), (27, .aload_n 3, ([3], 0, 0, []), zi0), (28, .invokevirtual 175, ([0, 1, 176], 0, 0, []), mi_PM_becomeMirror), (31, .aload_n 0, ([0], 0, 0, []), zi0), (32, .iload_n 2, ([2], 0, 0, []), zi0), (33, .invokevirtual 83, ([2, 0, 202], 0, 0, []), mi_T_keepMade), (36, .ireturn, ([], 0, 0, []), zi0)]
def cu_T_mirror : List (Nat × List Nat) := []
set_option maxRecDepth 100000 in
theorem oc_T_mirror : cd_T_mirror.all (zchk mi_T_mirror) = true := by decide +kernel
set_option maxRecDepth 100000 in
theorem ow_T_mirror : zWs mi_T_mirror cd_T_mirror := ⟨trivial, trivial, ⟨rfl, rfl, mv_T_mapAt⟩, trivial, trivial, ⟨rfl, rfl, mv_PM_isEmpty⟩, trivial, trivial, ⟨rfl, ms_T_isPlace⟩, trivial, rfl, trivial, trivial, rfl, trivial, ⟨rfl, rfl, mv_PM_becomeMirror⟩, trivial, trivial, ⟨rfl, rfl, mv_T_keepMade⟩, trivial, trivial⟩
theorem ok_T_mirror : zgood2 mi_T_mirror cd_T_mirror := ⟨oc_T_mirror, ow_T_mirror⟩
def cd_T_pointsHeld : List ZE := [(0, .iconst 0, ([], nI 0, 0, []), zi0), (1, .istore_n 1, ([1], 0, 0, []), zi0), (2, .iconst 0, ([], nI 0, 0, []), zi0), (3, .istore_n 2, ([2], 0, 0, []), zi0), (4, .iload_n 2, ([2], 0, 0, []), zi0), (5, .iconst 4, ([], nI 4, 0, []), zi0), (6, .if_icmp .ge 20, ([26], 0, 0, []), zi0), (9, .iload_n 1, ([1], 0, 0, []), zi0), (10, .aload_n 0, ([0], 0, 0, []), zi0), (11, .iload_n 2, ([2], 0, 0, []), zi0), (12, .invokevirtual 123, ([2, 1, 65], 0, 0, []), mi_T_mapAt), (15, .invokevirtual 155, ([0, 0, 210], 0, 0, []), mi_PM_points), (18, .iadd, ([], 0, 0, []), zi0), (19, .istore_n 1, ([1], 0, 0, []), zi0), (20, .iinc 2 1, ([], nI 1, 0, []), zi0), (23, .goto (-19), ([4], 0, 0, []), zi0), (26, .iload_n 1, ([1], 0, 0, []), zi0), (27, .ireturn, ([], 0, 0, []), zi0)]
def cu_T_pointsHeld : List (Nat × List Nat) := [(4, [0, 1, 2])]
set_option maxRecDepth 100000 in
theorem oc_T_pointsHeld : cd_T_pointsHeld.all (zchk mi_T_pointsHeld) = true := by decide +kernel
set_option maxRecDepth 100000 in
theorem ow_T_pointsHeld : zWs mi_T_pointsHeld cd_T_pointsHeld := ⟨trivial, trivial, trivial, trivial, trivial, trivial, trivial, trivial, trivial, trivial, ⟨rfl, rfl, mv_T_mapAt⟩, ⟨rfl, rfl, mv_PM_points⟩, trivial, trivial, trivial, trivial, trivial, trivial, trivial⟩
theorem ok_T_pointsHeld : zgood2 mi_T_pointsHeld cd_T_pointsHeld := ⟨oc_T_pointsHeld, ow_T_pointsHeld⟩
def cd_T_power : List ZE := [(0, .aload_n 0, ([0], 0, 0, []), zi0), (1, .iload_n 1, ([1], 0, 0, []), zi0), (2, .invokevirtual 123, ([2, 1, 65], 0, 0, []), mi_T_mapAt), (5, .astore 5, ([], 0, 0, []), zi0), (7, .aload 5, ([], 0, 0, []), zi0), (9, .iload_n 2, ([2], 0, 0, []), zi0), (10, .invokevirtual 127, ([0, 1, 69], 0, 0, []), mi_PM_hasPoint), (13, .ifCond .eq 12, ([25], 0, 0, []), zi0), (16, .aload 5, ([], 0, 0, []), zi0), (18, .iload_n 3, ([3], 0, 0, []), zi0), (19, .invokevirtual 127, ([0, 1, 69], 0, 0, []), mi_PM_hasPoint), (22, .ifCond .ne 6, ([28], 0, 0, []), zi0), (25, .ldc 73, ([0, 181], (-1000001), 0, []), zi0), (27, .ireturn, ([], 0, 0, []), zi0), (28, .iload 4, ([], 0, 0, []), zi0), (30, .iconst 0, ([], nI 0, 0, []), zi0), (31, .sipush 1000, ([], nI 1000, 0, []), zi0), (34, .invokestatic 74, ([0, 0, 178], 0, 0, []), mi_T_isWithin), (37, .ifCond .ne 6, ([43], 0, 0, []), zi0), (40, .ldc 78, ([0, 182], (-1000002), 0, []), zi0), (42, .ireturn, ([], 0, 0, []), zi0), (43, .iload_n 2, ([2], 0, 0, []), zi0), (44, .iload_n 3, ([3], 0, 0, []), zi0), (45, .invokestatic 130, ([0, 1, 73], 0, 0, []), mi_CO_pairOf), (48, .istore 6, ([], 0, 0, []), zi0), (50, .iconst 0, ([], nI 0, 0, []), zi0), (51, .istore 7, ([], 0, 0, []), zi0), (53, .iload 7, ([], 0, 0, []), zi0), (55, .iload 4, ([], 0, 0, []), zi0), (57, .if_icmp .ge 18, ([75], 0, 0, []), zi0), (60, .aload 5, ([], 0, 0, []), zi0), (62, .iload 6, ([], 0, 0, []), zi0), (64, .invokevirtual 133, ([0, 1, 74], 0, 0, []), mi_PM_imageOf), (67, .istore 6, ([], 0, 0, []), zi0), (69, .iinc 7 1, ([], nI 1, 0, []), zi0), (72, .goto (-19), ([53], 0, 0, []), zi0), (75, .iload 6, ([], 0, 0, []), zi0), (77, .iconst 2, ([], nI 2, 0, []), zi0), (78, .invokestatic 136, ([0, 1, 78], 0, 0, []), mi_CO_turned), (81, .ireturn, ([], 0, 0, []), zi0)]
def cu_T_power : List (Nat × List Nat) := [(53, [4, 5, 6, 7])]
set_option maxRecDepth 100000 in
theorem oc_T_power : cd_T_power.all (zchk mi_T_power) = true := by decide +kernel
set_option maxRecDepth 100000 in
theorem ow_T_power : zWs mi_T_power cd_T_power := ⟨trivial, trivial, ⟨rfl, rfl, mv_T_mapAt⟩, trivial, trivial, trivial, ⟨rfl, rfl, mv_PM_hasPoint⟩, trivial, trivial, trivial, ⟨rfl, rfl, mv_PM_hasPoint⟩, trivial, rfl, trivial, trivial, trivial, trivial, ⟨rfl, ms_T_isWithin⟩, trivial, rfl, trivial, trivial, trivial, ⟨rfl, ms_CO_pairOf⟩, trivial, trivial, trivial, trivial, trivial, trivial, trivial, trivial, ⟨rfl, rfl, mv_PM_imageOf⟩, trivial, trivial, trivial, trivial, trivial, ⟨rfl, ms_CO_turned⟩, trivial, trivial⟩
theorem ok_T_power : zgood2 mi_T_power cd_T_power := ⟨oc_T_power, ow_T_power⟩
def cd_T_put : List ZE := [(0, .aload_n 0, ([0], 0, 0, []), zi0), (1, .iload_n 1, ([1], 0, 0, []), zi0), (2, .invokevirtual 123, ([2, 1, 65], 0, 0, []), mi_T_mapAt), (5, .astore 6, ([], 0, 0, []), zi0), (7, .aload 6, ([], 0, 0, []), zi0), (9, .iload_n 2, ([2], 0, 0, []), zi0), (10, .invokevirtual 127, ([0, 1, 69], 0, 0, []), mi_PM_hasPoint), (13, .ifCond .eq 32, ([45], 0, 0, []), zi0), (16, .aload 6, ([], 0, 0, []), zi0), (18, .iload_n 3, ([3], 0, 0, []), zi0), (19, .invokevirtual 127, ([0, 1, 69], 0, 0, []), mi_PM_hasPoint), (22, .ifCond .eq 23, ([45], 0, 0, []), zi0), (25, .aload 6, ([], 0, 0, []), zi0), (27, .iload 4, ([], 0, 0, []), zi0), (29, .invokevirtual 127, ([0, 1, 69], 0, 0, []), mi_PM_hasPoint), (32, .ifCond .eq 13, ([45], 0, 0, []), zi0), (35, .aload 6, ([], 0, 0, []), zi0), (37, .iload 5, ([], 0, 0, []), zi0), (39, .invokevirtual 127, ([0, 1, 69], 0, 0, []), mi_PM_hasPoint), (42, .ifCond .ne 6, ([48], 0, 0, []), zi0), (45, .ldc 73, ([0, 181], (-1000001), 0, []), zi0), (47, .ireturn, ([], 0, 0, []), zi0), (48, .aload 6, ([], 0, 0, []), zi0), (50, .iload_n 2, ([2], 0, 0, []), zi0), (51, .iload_n 3, ([3], 0, 0, []), zi0), (52, .invokestatic 130, ([0, 1, 73], 0, 0, []), mi_CO_pairOf), (55, .invokevirtual 133, ([0, 1, 74], 0, 0, []), mi_PM_imageOf), (58, .iconst 2, ([], nI 2, 0, []), zi0), (59, .invokestatic 136, ([0, 1, 78], 0, 0, []), mi_CO_turned), (62, .istore 7, ([], 0, 0, []), zi0), (64, .aload 6, ([], 0, 0, []), zi0), (66, .iload_n 2, ([2], 0, 0, []), zi0), (67, .iload_n 3, ([3], 0, 0, []), zi0), (68, .iload 4, ([], 0, 0, []), zi0), (70, .iload 5, ([], 0, 0, []), zi0), (72, .invokevirtual 139, ([0, 1, 81], 0, 0, []), mi_PM_setImage), (75, .iload 7, ([], 0, 0, []), zi0), (77, .ireturn, ([], 0, 0, []), zi0)]
def cu_T_put : List (Nat × List Nat) := []
set_option maxRecDepth 100000 in
theorem oc_T_put : cd_T_put.all (zchk mi_T_put) = true := by decide +kernel
set_option maxRecDepth 100000 in
theorem ow_T_put : zWs mi_T_put cd_T_put := ⟨trivial, trivial, ⟨rfl, rfl, mv_T_mapAt⟩, trivial, trivial, trivial, ⟨rfl, rfl, mv_PM_hasPoint⟩, trivial, trivial, trivial, ⟨rfl, rfl, mv_PM_hasPoint⟩, trivial, trivial, trivial, ⟨rfl, rfl, mv_PM_hasPoint⟩, trivial, trivial, trivial, ⟨rfl, rfl, mv_PM_hasPoint⟩, trivial, rfl, trivial, trivial, trivial, trivial, ⟨rfl, ms_CO_pairOf⟩, ⟨rfl, rfl, mv_PM_imageOf⟩, trivial, ⟨rfl, ms_CO_turned⟩, trivial, trivial, trivial, trivial, trivial, trivial, ⟨rfl, rfl, mv_PM_setImage⟩, trivial, trivial, trivial⟩
theorem ok_T_put : zgood2 mi_T_put cd_T_put := ⟨oc_T_put, ow_T_put⟩
def cd_T_rename : List ZE := [(0, .aload_n 0, ([0], 0, 0, []), zi0), (1, .iload_n 1, ([1], 0, 0, []), zi0), (2, .invokevirtual 123, ([2, 1, 65], 0, 0, []), mi_T_mapAt), (5, .astore 4, ([], 0, 0, []), zi0), (7, .aload 4, ([], 0, 0, []), zi0), (9, .invokevirtual 143, ([0, 1, 86], 0, 0, []), mi_PM_isEmpty), (12, .ifCond .ne 10, ([22], 0, 0, []), zi0), (15, .iload_n 3, ([3], 0, 0, []), zi0), (16, .invokestatic 69, ([0, 0, 175], 0, 0, []), mi_T_isPlace), (19, .ifCond .ne 6, ([25], 0, 0, []), zi0), (22, .ldc 73, ([0, 181], (-1000001), 0, []), zi0), (24, .ireturn, ([], 0, 0, []), zi0), (25, .iload_n 2, ([2], 0, 0, []), zi0), (26, .aload 4, ([], 0, 0, []), zi0), (28, .invokevirtual 155, ([0, 0, 210], 0, 0, []), mi_PM_points), (31, .invokestatic 87, ([0, 0, 218], 0, 0, []), mi_CO_isPermutation), (34, .ifCond .ne 6, ([40], 0, 0, []), zi0), (37, .ldc 78, ([0, 182], (-1000002), 0, []), zi0), (39, .ireturn, ([], 0, 0, []), zi0), (40, .aload_n 0, ([0], 0, 0, []), zi0), (41, .getfield 31, ([2, 4, 0, 144], 0, 0, []), zi0), (44, .aload 4, ([], 0, 0, []), zi0), (46, .iload_n 2, ([2], 0, 0, []), zi0), (47, .invokevirtual 178, ([0, 1, 184], 0, 0, []), mi_PM_becomeRenamed), (50, .aload_n 0, ([0], 0, 0, []), zi0), (51, .iload_n 3, ([3], 0, 0, []), zi0), (52, .invokevirtual 83, ([2, 0, 202], 0, 0, []), mi_T_keepMade), (55, .ireturn, ([], 0, 0, []), zi0)]
def cu_T_rename : List (Nat × List Nat) := []
set_option maxRecDepth 100000 in
theorem oc_T_rename : cd_T_rename.all (zchk mi_T_rename) = true := by decide +kernel
set_option maxRecDepth 100000 in
theorem ow_T_rename : zWs mi_T_rename cd_T_rename := ⟨trivial, trivial, ⟨rfl, rfl, mv_T_mapAt⟩, trivial, trivial, ⟨rfl, rfl, mv_PM_isEmpty⟩, trivial, trivial, ⟨rfl, ms_T_isPlace⟩, trivial, rfl, trivial, trivial, trivial, ⟨rfl, rfl, mv_PM_points⟩, ⟨rfl, ms_CO_isPermutation⟩, trivial, rfl, trivial, trivial, rfl, trivial, trivial, ⟨rfl, rfl, mv_PM_becomeRenamed⟩, trivial, trivial, ⟨rfl, rfl, mv_T_keepMade⟩, trivial, trivial⟩
theorem ok_T_rename : zgood2 mi_T_rename cd_T_rename := ⟨oc_T_rename, ow_T_rename⟩
def cd_T_twist : List ZE := [(0, .iload_n 1, ([1], 0, 0, []), zi0), (1, .invokestatic 69, ([0, 0, 175], 0, 0, []), mi_T_isPlace), (4, .ifCond .ne 6, ([10], 0, 0, []), zi0), (7, .ldc 73, ([0, 181], (-1000001), 0, []), zi0), (9, .ireturn, ([], 0, 0, []), zi0), (10, .iload_n 2, ([2], 0, 0, []), zi0), (11, .iconst 1, ([], nI 1, 0, []), zi0), (12, .bipush 6, ([], nI 6, 0, []), zi0), (14, .invokestatic 74, ([0, 0, 178], 0, 0, []), mi_T_isWithin), (17, .ifCond .eq 20, ([37], 0, 0, []), zi0), (20, .iload_n 3, ([3], 0, 0, []), zi0), (21, .iload_n 2, ([2], 0, 0, []), zi0), (22, .invokestatic 87, ([0, 0, 218], 0, 0, []), mi_CO_isPermutation), (25, .ifCond .eq 12, ([37], 0, 0, []), zi0), (28, .iload 4, ([], 0, 0, []), zi0), (30, .iload_n 2, ([2], 0, 0, []), zi0), (31, .invokestatic 87, ([0, 0, 218], 0, 0, []), mi_CO_isPermutation), (34, .ifCond .ne 6, ([40], 0, 0, []), zi0), (37, .ldc 78, ([0, 182], (-1000002), 0, []), zi0), (39, .ireturn, ([], 0, 0, []), zi0), (40, .aload_n 0, ([0], 0, 0, []), zi0), (41, .getfield 31, ([2, 4, 0, 144], 0, 0, []), zi0), (44, .iload_n 2, ([2], 0, 0, []), zi0), (45, .iload_n 3, ([3], 0, 0, []), zi0), (46, .iload 4, ([], 0, 0, []), zi0), (48, .invokevirtual 93, ([0, 0, 225], 0, 0, []), mi_PM_becomeTwist), (51, .aload_n 0, ([0], 0, 0, []), zi0), (52, .iload_n 1, ([1], 0, 0, []), zi0), (53, .invokevirtual 83, ([2, 0, 202], 0, 0, []), mi_T_keepMade), (56, .ireturn, ([], 0, 0, []), zi0)]
def cu_T_twist : List (Nat × List Nat) := []
set_option maxRecDepth 100000 in
theorem oc_T_twist : cd_T_twist.all (zchk mi_T_twist) = true := by decide +kernel
set_option maxRecDepth 100000 in
theorem ow_T_twist : zWs mi_T_twist cd_T_twist := ⟨trivial, ⟨rfl, ms_T_isPlace⟩, trivial, rfl, trivial, trivial, trivial, trivial, ⟨rfl, ms_T_isWithin⟩, trivial, trivial, trivial, ⟨rfl, ms_CO_isPermutation⟩, trivial, trivial, trivial, ⟨rfl, ms_CO_isPermutation⟩, trivial, rfl, trivial, trivial, rfl, trivial, trivial, trivial, ⟨rfl, rfl, mv_PM_becomeTwist⟩, trivial, trivial, ⟨rfl, rfl, mv_T_keepMade⟩, trivial, trivial⟩
theorem ok_T_twist : zgood2 mi_T_twist cd_T_twist := ⟨oc_T_twist, ow_T_twist⟩
def cd_T_write : List ZE := [(0, .iload_n 1, ([1], 0, 0, []), zi0), (1, .invokestatic 264, ([0, 2, 197], 0, 0, []), mi_T_isBraid), (4, .ifCond .ne 6, ([10], 0, 0, []), zi0), (7, .ldc 73, ([0, 181], (-1000001), 0, []), zi0), (9, .ireturn, ([], 0, 0, []), zi0), (10, .iload_n 2, ([2], 0, 0, []), zi0), (11, .invokestatic 267, ([0, 2, 200], 0, 0, []), mi_BR_isLetter), (14, .ifCond .ne 6, ([20], 0, 0, []), zi0), (17, .ldc 78, ([0, 182], (-1000002), 0, []), zi0), (19, .ireturn, ([], 0, 0, []), zi0), (20, .aload_n 0, ([0], 0, 0, []), zi0), (21, .iload_n 1, ([1], 0, 0, []), zi0), (22, .invokevirtual 270, ([2, 2, 206], 0, 0, []), mi_T_braidAt), (25, .astore_n 3, ([3], 0, 0, []), zi0), (26, .aload_n 3, ([3], 0, 0, []), zi0), (27, .invokevirtual 274, ([1, 2, 210], 0, 0, []), mi_BR_isFull), (30, .ifCond .eq 6, ([36], 0, 0, []), zi0), (33, .ldc 159, ([1, 128], (-1000004), 0, []), zi0), (35, .ireturn, ([], 0, 0, []), zi0), (36, .aload_n 3, ([3], 0, 0, []), zi0), (37, .iload_n 2, ([2], 0, 0, []), zi0), (38, .invokevirtual 277, ([1, 2, 214], 0, 0, []), mi_BR_append), (41, .aload_n 3, ([3], 0, 0, []), zi0), (42, .invokevirtual 280, ([1, 2, 221], 0, 0, []), mi_BR_length), (45, .ireturn, ([], 0, 0, []), zi0)]
def cu_T_write : List (Nat × List Nat) := []
set_option maxRecDepth 100000 in
theorem oc_T_write : cd_T_write.all (zchk mi_T_write) = true := by decide +kernel
set_option maxRecDepth 100000 in
theorem ow_T_write : zWs mi_T_write cd_T_write := ⟨trivial, ⟨rfl, ms_T_isBraid⟩, trivial, rfl, trivial, trivial, ⟨rfl, ms_BR_isLetter⟩, trivial, rfl, trivial, trivial, trivial, ⟨rfl, rfl, mv_T_braidAt⟩, trivial, trivial, ⟨rfl, rfl, mv_BR_isFull⟩, trivial, rfl, trivial, trivial, trivial, ⟨rfl, rfl, mv_BR_append⟩, trivial, ⟨rfl, rfl, mv_BR_length⟩, trivial, trivial⟩
theorem ok_T_write : zgood2 mi_T_write cd_T_write := ⟨oc_T_write, ow_T_write⟩
def cd_WC_find : List ZE := [(0, .aload_n 1, ([1], 0, 0, []), zi0), (1, .invokevirtual 17, ([0, 2, 161], 0, 0, []), mi_PM_points), (4, .istore_n 3, ([3], 0, 0, []), zi0), (5, .aload_n 0, ([0], 0, 0, []), zi0), (6, .iload_n 2, ([2], 0, 0, []), zi0), (7, .iload_n 3, ([3], 0, 0, []), zi0), (8, .invokestatic 23, ([0, 2, 162], 0, 0, []), mi_CO_sequences), (11, .putfield 13, ([6, 1, 0, 116], 0, 0, []), zi0), (14, .iconst 0, ([], nI 0, 0, []), zi0), (15, .istore 4, ([], 0, 0, []), zi0), (17, .iload 4, ([], 0, 0, []), zi0), (19, .sipush 4095, ([], nI 4095, 0, []), zi0), (22, .if_icmp .gt 18, ([40], 0, 0, []), zi0), (25, .aload_n 0, ([0], 0, 0, []), zi0), (26, .getfield 9, ([6, 0, 0, 115], 0, 0, []), zi0), (29, .iload 4, ([], 0, 0, []), zi0), (31, .iload 4, ([], 0, 0, []), zi0), (33, .iastore, ([], 0, 0, []), zi0), (34, .iinc 4 1, ([], nI 1, 0, []), zi0), (37, .goto (-20), ([17], 0, 0, []), zi0), (40, .iconst 0, ([], nI 0, 0, []), zi0), (41, .istore 4, ([], 0, 0, []), zi0), (43, .iload 4, ([], 0, 0, []), zi0), (45, .iconst 3, ([], nI 3, 0, []), zi0), (46, .iload_n 2, ([2], 0, 0, []), zi0), (47, .iconst 2, ([], nI 2, 0, []), zi0), (48, .isub, ([], 0, 0, []), zi0), (49, .imul, ([], 0, 0, []), zi0), (50, .if_icmp .gt 53, ([103], 0, 0, []), zi0), (53, .iconst 0, ([], nI 0, 0, []), zi0), (54, .istore 5, ([], 0, 0, []), zi0), (56, .iload_n 2, ([2], 0, 0, []), zi0), (57, .iload_n 3, ([3], 0, 0, []), zi0), (58, .invokestatic 23, ([0, 2, 162], 0, 0, []), mi_CO_sequences), (61, .istore 6, ([], 0, 0, []), zi0), (63, .iload 6, ([], 0, 0, []), zi0), (65, .ifCond .le 32, ([97], 0, 0, []), zi0), (68, .aload_n 0, ([0], 0, 0, []), zi0), (69, .iload 5, ([], 0, 0, []), zi0), (71, .aload_n 1, ([1], 0, 0, []), zi0), (72, .iload 5, ([], 0, 0, []), zi0), (74, .iload 4, ([], 0, 0, []), zi0), (76, .invokevirtual 29, ([0, 2, 163], 0, 0, []), mi_PM_appliedAt), (79, .invokevirtual 32, ([6, 2, 164], 0, 0, []), mi_WC_join), (82, .iload 5, ([], 0, 0, []), zi0), (84, .iload_n 2, ([2], 0, 0, []), zi0), (85, .iload_n 3, ([3], 0, 0, []), zi0), (86, .invokestatic 36, ([0, 2, 182], 0, 0, []), mi_CO_next), (89, .istore 5, ([], 0, 0, []), zi0), (91, .iinc 6 (-1), ([], (-1), 0, []), zi0), (94, .goto (-31), ([63], 0, 0, []), zi0), (97, .iinc 4 3, ([], nI 3, 0, []), zi0), (100, .goto (-57), ([43], 0, 0, []), zi0), (103, .return_, ([], 0, 0, []), zi0)]
def cu_WC_find : List (Nat × List Nat) := [(17, [0, 1, 2, 3, 4]), (43, [0, 1, 2, 3, 4]), (63, [0, 1, 2, 3, 4, 5, 6])]
set_option maxRecDepth 100000 in
theorem oc_WC_find : cd_WC_find.all (zchk mi_WC_find) = true := by decide +kernel
set_option maxRecDepth 100000 in
theorem ow_WC_find : zWs mi_WC_find cd_WC_find := ⟨trivial, ⟨rfl, rfl, mv_PM_points⟩, trivial, trivial, trivial, trivial, ⟨rfl, ms_CO_sequences⟩, ⟨rfl, rfl⟩, trivial, trivial, trivial, trivial, trivial, trivial, rfl, trivial, trivial, trivial, trivial, trivial, trivial, trivial, trivial, trivial, trivial, trivial, trivial, trivial, trivial, trivial, trivial, trivial, trivial, ⟨rfl, ms_CO_sequences⟩, trivial, trivial, trivial, trivial, trivial, trivial, trivial, trivial, ⟨rfl, rfl, mv_PM_appliedAt⟩, ⟨rfl, rfl, mv_WC_join⟩, trivial, trivial, trivial, ⟨rfl, ms_CO_next⟩, trivial, trivial, trivial, trivial, trivial, trivial, trivial⟩
theorem ok_WC_find : zgood2 mi_WC_find cd_WC_find := ⟨oc_WC_find, ow_WC_find⟩
def cd_AC_find : List ZE := [(0, .aload_n 0, ([0], 0, 0, []), zi0), (1, .iconst 0, ([], nI 0, 0, []), zi0), (2, .putfield 18, ([3, 2, 0, 68], 0, 0, []), zi0), (5, .iconst 0, ([], nI 0, 0, []), zi0), (6, .istore_n 2, ([2], 0, 0, []), zi0), (7, .iload_n 2, ([2], 0, 0, []), zi0), (8, .aload_n 1, ([1], 0, 0, []), zi0), (9, .invokevirtual 32, ([0, 1, 94], 0, 0, []), mi_PM_points), (12, .if_icmp .ge 73, ([85], 0, 0, []), zi0), (15, .aload_n 1, ([1], 0, 0, []), zi0), (16, .iload_n 2, ([2], 0, 0, []), zi0), (17, .invokestatic 36, ([0, 1, 95], 0, 0, []), mi_AC_smallestTwin), (20, .istore_n 3, ([3], 0, 0, []), zi0), (21, .iload_n 3, ([3], 0, 0, []), zi0), (22, .iload_n 2, ([2], 0, 0, []), zi0), (23, .if_icmp .ne 42, ([65], 0, 0, []), zi0), (26, .aload_n 0, ([0], 0, 0, []), zi0), (27, .getfield 15, ([3, 1, 0, 67], 0, 0, []), zi0), (30, .aload_n 0, ([0], 0, 0, []), zi0), (31, .getfield 18, ([3, 2, 0, 68], 0, 0, []), zi0), (34, .bipush 7, ([], nI 7, 0, []), zi0), (36, .iand, ([], 0, 0, []), zi0), (37, .iload_n 2, ([2], 0, 0, []), zi0), (38, .iastore, ([], 0, 0, []), zi0), (39, .aload_n 0, ([0], 0, 0, []), zi0), (40, .getfield 11, ([3, 0, 0, 66], 0, 0, []), zi0), (43, .iload_n 2, ([2], 0, 0, []), zi0), (44, .bipush 7, ([], nI 7, 0, []), zi0), (46, .iand, ([], 0, 0, []), zi0), (47, .aload_n 0, ([0], 0, 0, []), zi0), (48, .getfield 18, ([3, 2, 0, 68], 0, 0, []), zi0), (51, .iastore, ([], 0, 0, []), zi0), (52, .aload_n 0, ([0], 0, 0, []), zi0), (53, .dup, ([], 0, 0, []), zi0), (54, .getfield 18, ([3, 2, 0, 68], 0, 0, []), zi0), (57, .iconst 1, ([], nI 1, 0, []), zi0), (58, .iadd, ([], 0, 0, []), zi0), (59, .putfield 18, ([3, 2, 0, 68], 0, 0, []), zi0), (62, .goto 17, ([79], 0, 0, []), zi0), (65, .aload_n 0, ([0], 0, 0, []), zi0), (66, .getfield 11, ([3, 0, 0, 66], 0, 0, []), zi0), (69, .iload_n 2, ([2], 0, 0, []), zi0), (70, .bipush 7, ([], nI 7, 0, []), zi0), (72, .iand, ([], 0, 0, []), zi0), (73, .aload_n 0, ([0], 0, 0, []), zi0), (74, .iload_n 3, ([3], 0, 0, []), zi0), (75, .invokevirtual 40, ([3, 1, 110], 0, 0, []), mi_AC_classOf), (78, .iastore, ([], 0, 0, []), zi0), (79, .iinc 2 1, ([], nI 1, 0, []), zi0), (82, .goto (-75), ([7], 0, 0, []), zi0), (85, .return_, ([], 0, 0, []), zi0)]
def cu_AC_find : List (Nat × List Nat) := [(7, [0, 1, 2])]
set_option maxRecDepth 100000 in
theorem oc_AC_find : cd_AC_find.all (zchk mi_AC_find) = true := by decide +kernel
set_option maxRecDepth 100000 in
theorem ow_AC_find : zWs mi_AC_find cd_AC_find := ⟨trivial, trivial, ⟨rfl, rfl⟩, trivial, trivial, trivial, trivial, ⟨rfl, rfl, mv_PM_points⟩, trivial, trivial, trivial, ⟨rfl, ms_AC_smallestTwin⟩, trivial, trivial, trivial, trivial, trivial, rfl, trivial, rfl, trivial, trivial, trivial, trivial, trivial, rfl, trivial, trivial, trivial, trivial, rfl, trivial, trivial, trivial, rfl, trivial, trivial, ⟨rfl, rfl⟩, trivial, trivial, rfl, trivial, trivial, trivial, trivial, trivial, ⟨rfl, rfl, mv_AC_classOf⟩, trivial, trivial, trivial, trivial, trivial⟩
theorem ok_AC_find : zgood2 mi_AC_find cd_AC_find := ⟨oc_AC_find, ow_AC_find⟩
def cd_BA_periodOf : List ZE := [(0, .aload_n 0, ([0], 0, 0, []), zi0), (1, .getfield 21, ([7, 2, 0, 132], 0, 0, []), zi0), (4, .lconst 0, ([], 0, lN 0, []), zi0), (5, .invokestatic 83, ([0, 3, 64], 0, 0, []), mi_JA_fill), (8, .iconst 1, ([], nI 1, 0, []), zi0), (9, .istore_n 3, ([3], 0, 0, []), zi0), (10, .iconst 0, ([], nI 0, 0, []), zi0), (11, .istore 4, ([], 0, 0, []), zi0), (13, .aload_n 0, ([0], 0, 0, []), zi0), (14, .iload_n 2, ([2], 0, 0, []), zi0), (15, .invokevirtual 63, ([7, 3, 47], 0, 0, []), mi_BA_tuples), (18, .istore 5, ([], 0, 0, []), zi0), (20, .iload 5, ([], 0, 0, []), zi0), (22, .ifCond .le 66, ([88], 0, 0, []), zi0), (25, .aload_n 0, ([0], 0, 0, []), zi0), (26, .iload 4, ([], 0, 0, []), zi0), (28, .invokevirtual 89, ([7, 3, 65], 0, 0, []), mi_BA_isSeen), (31, .ifCond .ne 28, ([59], 0, 0, []), zi0), (34, .aload_n 0, ([0], 0, 0, []), zi0), (35, .aload_n 1, ([1], 0, 0, []), zi0), (36, .iload_n 2, ([2], 0, 0, []), zi0), (37, .iload 4, ([], 0, 0, []), zi0), (39, .invokevirtual 92, ([7, 3, 69], 0, 0, []), mi_BA_cycleLength), (42, .istore 6, ([], 0, 0, []), zi0), (44, .iload 6, ([], 0, 0, []), zi0), (46, .iconst (-1), ([], (-1), 0, []), zi0), (47, .if_icmp .ne 5, ([52], 0, 0, []), zi0), (50, .iconst (-1), ([], (-1), 0, []), zi0), (51, .ireturn, ([], 0, 0, []), zi0), (52, .iload_n 3, ([3], 0, 0, []), zi0), (53, .iload 6, ([], 0, 0, []), zi0), (55, .invokestatic 95, ([0, 3, 77], 0, 0, []), mi_CO_commonMultiple), (58, .istore_n 3, ([3], 0, 0, []), zi0), (59, .iload_n 3, ([3], 0, 0, []), zi0), (60, .bipush 60, ([], nI 60, 0, []), zi0), (62, .if_icmp .le 5, ([67], 0, 0, []), zi0), (65, .iconst (-1), ([], (-1), 0, []), zi0), (66, .ireturn, ([], 0, 0, []), zi0), (67, .iload 4, ([], 0, 0, []), zi0), (69, .iload_n 2, ([2], 0, 0, []), zi0), (70, .aload_n 0, ([0], 0, 0, []), zi0), (71, .getfield 12, ([7, 0, 0, 130], 0, 0, []), zi0), (74, .invokevirtual 74, ([0, 3, 51], 0, 0, []), mi_PM_points), (77, .invokestatic 77, ([0, 3, 55], 0, 0, []), mi_CO_next), (80, .istore 4, ([], 0, 0, []), zi0), (82, .iinc 5 (-1), ([], (-1), 0, []), zi0), (85, .goto (-65), ([20], 0, 0, []), zi0), (88, .iload_n 3, ([3], 0, 0, []), zi0), (89, .ireturn, ([], 0, 0, []), zi0)]
def cu_BA_periodOf : List (Nat × List Nat) := [(20, [0, 1, 2, 3, 4, 5])]
set_option maxRecDepth 100000 in
theorem oc_BA_periodOf : cd_BA_periodOf.all (zchk mi_BA_periodOf) = true := by decide +kernel
set_option maxRecDepth 100000 in
theorem ow_BA_periodOf : zWs mi_BA_periodOf cd_BA_periodOf := ⟨trivial, rfl, trivial, ⟨rfl, ms_JA_fill⟩, trivial, trivial, trivial, trivial, trivial, trivial, ⟨rfl, rfl, mv_BA_tuples⟩, trivial, trivial, trivial, trivial, trivial, ⟨rfl, rfl, mv_BA_isSeen⟩, trivial, trivial, trivial, trivial, trivial, ⟨rfl, rfl, mv_BA_cycleLength⟩, trivial, trivial, trivial, trivial, trivial, trivial, trivial, trivial, ⟨rfl, ms_CO_commonMultiple⟩, trivial, trivial, trivial, trivial, trivial, trivial, trivial, trivial, trivial, rfl, ⟨rfl, rfl, mv_PM_points⟩, ⟨rfl, ms_CO_next⟩, trivial, trivial, trivial, trivial, trivial, trivial⟩
theorem ok_BA_periodOf : zgood2 mi_BA_periodOf cd_BA_periodOf := ⟨oc_BA_periodOf, ow_BA_periodOf⟩
def cd_CH_orbits : List ZE := [(0, .iconst 0, ([], nI 0, 0, []), zi0), (1, .istore_n 1, ([1], 0, 0, []), zi0), (2, .iconst 0, ([], nI 0, 0, []), zi0), (3, .istore_n 2, ([2], 0, 0, []), zi0), (4, .iload_n 2, ([2], 0, 0, []), zi0), (5, .aload_n 0, ([0], 0, 0, []), zi0), (6, .invokevirtual 9, ([0, 1, 159], 0, 0, []), mi_PM_points), (9, .if_icmp .ge 36, ([45], 0, 0, []), zi0), (12, .aload_n 0, ([0], 0, 0, []), zi0), (13, .iload_n 2, ([2], 0, 0, []), zi0), (14, .invokestatic 71, ([0, 1, 235], 0, 0, []), mi_CH_orbitOf), (17, .iconst 1, ([], nI 1, 0, []), zi0), (18, .iload_n 2, ([2], 0, 0, []), zi0), (19, .ishl, ([], 0, 0, []), zi0), (20, .iconst 1, ([], nI 1, 0, []), zi0), (21, .isub, ([], 0, 0, []), zi0), (22, .iand, ([], 0, 0, []), zi0), (23, .istore_n 3, ([3], 0, 0, []), zi0), (24, .iload_n 1, ([1], 0, 0, []), zi0), (25, .iload_n 3, ([3], 0, 0, []), zi0), (26, .ifCond .ne 7, ([33], 0, 0, []), zi0), (29, .iconst 1, ([], nI 1, 0, []), zi0), (30, .goto 4, ([34], 0, 0, []), zi0), (33, .iconst 0, ([], nI 0, 0, []), zi0), (34, .invokestatic 46, ([1, 1, 213], 0, 0, []), mi_T_oneIf), (37, .iadd, ([], 0, 0, []), zi0), (38, .istore_n 1, ([1], 0, 0, []), zi0), (39, .iinc 2 1, ([], nI 1, 0, []), zi0), (42, .goto (-38), ([4], 0, 0, []), zi0), (45, .iload_n 1, ([1], 0, 0, []), zi0), (46, .ireturn, ([], 0, 0, []), zi0)]
def cu_CH_orbits : List (Nat × List Nat) := [(4, [0, 1, 2])]
set_option maxRecDepth 100000 in
theorem oc_CH_orbits : cd_CH_orbits.all (zchk mi_CH_orbits) = true := by decide +kernel
set_option maxRecDepth 100000 in
theorem ow_CH_orbits : zWs mi_CH_orbits cd_CH_orbits := ⟨trivial, trivial, trivial, trivial, trivial, trivial, ⟨rfl, rfl, mv_PM_points⟩, trivial, trivial, trivial, ⟨rfl, ms_CH_orbitOf⟩, trivial, trivial, trivial, trivial, trivial, trivial, trivial, trivial, trivial, trivial, trivial, trivial, trivial, ⟨rfl, ms_T_oneIf⟩, trivial, trivial, trivial, trivial, trivial, trivial, trivial⟩
theorem ok_CH_orbits : zgood2 mi_CH_orbits cd_CH_orbits := ⟨oc_CH_orbits, ow_CH_orbits⟩
def cd_PM_becomeUnion : List ZE := [(0, .aload_n 0, ([0], 0, 0, []), zi0), (1, .aload_n 1, ([1], 0, 0, []), zi0), (2, .getfield 13, ([0, 1, 0, 35], 0, 0, []), zi0), (5, .aload_n 2, ([2], 0, 0, []), zi0), (6, .getfield 13, ([0, 1, 0, 35], 0, 0, []), zi0), (9, .iadd, ([], 0, 0, []), zi0), (10, .invokevirtual 39, ([0, 1, 133], 0, 0, []), mi_PM_becomeFlip), (13, .aload_n 0, ([0], 0, 0, []), zi0), (14, .aload_n 1, ([1], 0, 0, []), zi0), (15, .iconst 0, ([], nI 0, 0, []), zi0), (16, .invokevirtual 43, ([0, 1, 134], 0, 0, []), mi_PM_setShifted), (19, .aload_n 0, ([0], 0, 0, []), zi0), (20, .aload_n 2, ([2], 0, 0, []), zi0), (21, .aload_n 1, ([1], 0, 0, []), zi0), (22, .getfield 13, ([0, 1, 0, 35], 0, 0, []), zi0), (25, .invokevirtual 43, ([0, 1, 134], 0, 0, []), mi_PM_setShifted), (28, .return_, ([], 0, 0, []), zi0)]
def cu_PM_becomeUnion : List (Nat × List Nat) := []
set_option maxRecDepth 100000 in
theorem oc_PM_becomeUnion : cd_PM_becomeUnion.all (zchk mi_PM_becomeUnion) = true := by decide +kernel
set_option maxRecDepth 100000 in
theorem ow_PM_becomeUnion : zWs mi_PM_becomeUnion cd_PM_becomeUnion := ⟨trivial, trivial, rfl, trivial, rfl, trivial, ⟨rfl, rfl, mv_PM_becomeFlip⟩, trivial, trivial, trivial, ⟨rfl, rfl, mv_PM_setShifted⟩, trivial, trivial, trivial, rfl, ⟨rfl, rfl, mv_PM_setShifted⟩, trivial, trivial⟩
theorem ok_PM_becomeUnion : zgood2 mi_PM_becomeUnion cd_PM_becomeUnion := ⟨oc_PM_becomeUnion, ow_PM_becomeUnion⟩
def cd_SL_indexOf : List ZE := [(0, .aload_n 0, ([0], 0, 0, []), zi0), (1, .invokevirtual 44, ([0, 2, 80], 0, 0, []), mi_PM_points), (4, .istore_n 2, ([2], 0, 0, []), zi0), (5, .iload_n 2, ([2], 0, 0, []), zi0), (6, .invokestatic 48, ([0, 2, 81], 0, 0, []), mi_SL_hasPoints), (9, .ifCond .eq 17, ([26], 0, 0, []), zi0), (12, .aload_n 0, ([0], 0, 0, []), zi0), (13, .invokestatic 52, ([0, 2, 84], 0, 0, []), mi_CH_isInvolutive), (16, .ifCond .eq 10, ([26], 0, 0, []), zi0), (19, .aload_n 0, ([0], 0, 0, []), zi0), (20, .invokestatic 58, ([0, 2, 85], 0, 0, []), mi_CH_isLeftNondegenerate), (23, .ifCond .ne 5, ([28], 0, 0, []), zi0), (26, .iconst (-1), ([], (-1), 0, []), zi0), (27, .ireturn, ([], 0, 0, []), zi0), (28, .aload_n 1, ([1], 0, 0, []), zi0), (29, .aload_n 0, ([0], 0, 0, []), zi0), (30, .invokevirtual 61, ([4, 2, 86], 0, 0, []), mi_RN_smallestRows), (33, .lstore_n 3, ([3], 0, 0, []), zi0), (34, .iconst 0, ([], nI 0, 0, []), zi0), (35, .istore 5, ([], 0, 0, []), zi0), (37, .iload 5, ([], 0, 0, []), zi0), (39, .iload_n 2, ([2], 0, 0, []), zi0), (40, .invokestatic 67, ([0, 2, 102], 0, 0, []), mi_SL_size), (43, .if_icmp .ge 23, ([66], 0, 0, []), zi0), (46, .iload_n 2, ([2], 0, 0, []), zi0), (47, .iload 5, ([], 0, 0, []), zi0), (49, .invokestatic 19, ([0, 2, 108], 0, 0, []), mi_SL_rowsAt), (52, .lload_n 3, ([3], 0, 0, []), zi0), (53, .lcmp, ([], 0, 0, []), zi0), (54, .ifCond .ne 6, ([60], 0, 0, []), zi0), (57, .iload 5, ([], 0, 0, []), zi0), (59, .ireturn, ([], 0, 0, []), zi0), (60, .iinc 5 1, ([], nI 1, 0, []), zi0), (63, .goto (-26), ([37], 0, 0, []), zi0), (66, .iconst (-1), ([], (-1), 0, []), zi0), (67, .ireturn, ([], 0, 0, []), zi0)]
def cu_SL_indexOf : List (Nat × List Nat) := [(37, [2, 3, 5])]
set_option maxRecDepth 100000 in
theorem oc_SL_indexOf : cd_SL_indexOf.all (zchk mi_SL_indexOf) = true := by decide +kernel
set_option maxRecDepth 100000 in
theorem ow_SL_indexOf : zWs mi_SL_indexOf cd_SL_indexOf := ⟨trivial, ⟨rfl, rfl, mv_PM_points⟩, trivial, trivial, ⟨rfl, ms_SL_hasPoints⟩, trivial, trivial, ⟨rfl, ms_CH_isInvolutive⟩, trivial, trivial, ⟨rfl, ms_CH_isLeftNondegenerate⟩, trivial, trivial, trivial, trivial, trivial, ⟨rfl, rfl, mv_RN_smallestRows⟩, trivial, trivial, trivial, trivial, trivial, ⟨rfl, ms_SL_size⟩, trivial, trivial, trivial, ⟨rfl, ms_SL_rowsAt⟩, trivial, trivial, trivial, trivial, trivial, trivial, trivial, trivial, trivial, trivial⟩
theorem ok_SL_indexOf : zgood2 mi_SL_indexOf cd_SL_indexOf := ⟨oc_SL_indexOf, ow_SL_indexOf⟩
def cd_T_actionError : List ZE := [(0, .aload_n 0, ([0], 0, 0, []), zi0), (1, .iload_n 1, ([1], 0, 0, []), zi0), (2, .invokevirtual 123, ([2, 1, 65], 0, 0, []), mi_T_mapAt), (5, .astore 4, ([], 0, 0, []), zi0), (7, .aload 4, ([], 0, 0, []), zi0), (9, .invokevirtual 143, ([0, 1, 86], 0, 0, []), mi_PM_isEmpty), (12, .ifCond .ne 10, ([22], 0, 0, []), zi0), (15, .iload_n 2, ([2], 0, 0, []), zi0), (16, .invokestatic 264, ([0, 2, 197], 0, 0, []), mi_T_isBraid), (19, .ifCond .ne 6, ([25], 0, 0, []), zi0), (22, .ldc 73, ([0, 181], (-1000001), 0, []), zi0), (24, .ireturn, ([], 0, 0, []), zi0), (25, .iload_n 3, ([3], 0, 0, []), zi0), (26, .invokestatic 286, ([0, 2, 237], 0, 0, []), mi_T_isTupleLength), (29, .ifCond .ne 6, ([35], 0, 0, []), zi0), (32, .ldc 78, ([0, 182], (-1000002), 0, []), zi0), (34, .ireturn, ([], 0, 0, []), zi0), (35, .aload 4, ([], 0, 0, []), zi0), (37, .aload_n 0, ([0], 0, 0, []), zi0), (38, .iload_n 2, ([2], 0, 0, []), zi0), (39, .invokevirtual 270, ([2, 2, 206], 0, 0, []), mi_T_braidAt), (42, .iload_n 3, ([3], 0, 0, []), zi0), (43, .invokestatic 289, ([0, 3, 0], 0, 0, []), mi_BA_isFit), (46, .ifCond .eq 7, ([53], 0, 0, []), zi0), (49, .iconst 0, ([], nI 0, 0, []), zi0), (50, .goto 5, ([55], 0, 0, []), zi0), (53, .ldc 112, ([1, 25], (-1000003), 0, []), zi0), (55, .ireturn, ([], 0, 0, []), zi0)]
def cu_T_actionError : List (Nat × List Nat) := []
set_option maxRecDepth 100000 in
theorem oc_T_actionError : cd_T_actionError.all (zchk mi_T_actionError) = true := by decide +kernel
set_option maxRecDepth 100000 in
theorem ow_T_actionError : zWs mi_T_actionError cd_T_actionError := ⟨trivial, trivial, ⟨rfl, rfl, mv_T_mapAt⟩, trivial, trivial, ⟨rfl, rfl, mv_PM_isEmpty⟩, trivial, trivial, ⟨rfl, ms_T_isBraid⟩, trivial, rfl, trivial, trivial, ⟨rfl, ms_T_isTupleLength⟩, trivial, rfl, trivial, trivial, trivial, trivial, ⟨rfl, rfl, mv_T_braidAt⟩, trivial, ⟨rfl, ms_BA_isFit⟩, trivial, trivial, trivial, rfl, trivial, trivial⟩
theorem ok_T_actionError : zgood2 mi_T_actionError cd_T_actionError := ⟨oc_T_actionError, ow_T_actionError⟩
def cd_T_braces : List ZE := [(0, .iload_n 1, ([1], 0, 0, []), zi0), (1, .iconst 2, ([], nI 2, 0, []), zi0), (2, .bipush 6, ([], nI 6, 0, []), zi0), (4, .invokestatic 74, ([0, 0, 178], 0, 0, []), mi_T_isWithin), (7, .ifCond .eq 8, ([15], 0, 0, []), zi0), (10, .iload_n 2, ([2], 0, 0, []), zi0), (11, .iconst (-1), ([], (-1), 0, []), zi0), (12, .if_icmp .ge 6, ([18], 0, 0, []), zi0), (15, .ldc 78, ([0, 182], (-1000002), 0, []), zi0), (17, .ireturn, ([], 0, 0, []), zi0), (18, .iload_n 2, ([2], 0, 0, []), zi0), (19, .iconst (-1), ([], (-1), 0, []), zi0), (20, .if_icmp .ne 10, ([30], 0, 0, []), zi0), (23, .iload_n 1, ([1], 0, 0, []), zi0), (24, .invokestatic 116, ([0, 1, 36], 0, 0, []), mi_AL_braceNumber), (27, .goto 8, ([35], 0, 0, []), zi0), (30, .iload_n 1, ([1], 0, 0, []), zi0), (31, .iload_n 2, ([2], 0, 0, []), zi0), (32, .invokestatic 119, ([0, 1, 58], 0, 0, []), mi_AL_braceAt), (35, .ireturn, ([], 0, 0, []), zi0)]
def cu_T_braces : List (Nat × List Nat) := []
set_option maxRecDepth 100000 in
theorem oc_T_braces : cd_T_braces.all (zchk mi_T_braces) = true := by decide +kernel
set_option maxRecDepth 100000 in
theorem ow_T_braces : zWs mi_T_braces cd_T_braces := ⟨trivial, trivial, trivial, ⟨rfl, ms_T_isWithin⟩, trivial, trivial, trivial, trivial, rfl, trivial, trivial, trivial, trivial, trivial, ⟨rfl, ms_AL_braceNumber⟩, trivial, trivial, trivial, ⟨rfl, ms_AL_braceAt⟩, trivial, trivial⟩
theorem ok_T_braces : zgood2 mi_T_braces cd_T_braces := ⟨oc_T_braces, ow_T_braces⟩
def cd_T_count : List ZE := [(0, .iload_n 1, ([1], 0, 0, []), zi0), (1, .tableswitch 59 0 3 #[31, 36, 41, 50], ([60, 31], 0, 0, [(nI 0, 32), (nI 1, 37), (nI 2, 42), (nI 3, 51)]), zi0), (32, .aload_n 0, ([0], 0, 0, []), zi0), (33, .invokevirtual 323, ([2, 3, 112], 0, 0, []), mi_T_mapsHeld), (36, .ireturn, ([], 0, 0, []), zi0), (37, .aload_n 0, ([0], 0, 0, []), zi0), (38, .invokevirtual 326, ([2, 3, 116], 0, 0, []), mi_T_pointsHeld), (41, .ireturn, ([], 0, 0, []), zi0), (42, .aload_n 0, ([0], 0, 0, []), zi0), (43, .iconst 0, ([], nI 0, 0, []), zi0), (44, .invokevirtual 270, ([2, 2, 206], 0, 0, []), mi_T_braidAt), (47, .invokevirtual 280, ([1, 2, 221], 0, 0, []), mi_BR_length), (50, .ireturn, ([], 0, 0, []), zi0), (51, .aload_n 0, ([0], 0, 0, []), zi0), (52, .iconst 1, ([], nI 1, 0, []), zi0), (53, .invokevirtual 270, ([2, 2, 206], 0, 0, []), mi_T_braidAt), (56, .invokevirtual 280, ([1, 2, 221], 0, 0, []), mi_BR_length), (59, .ireturn, ([], 0, 0, []), zi0), (60, .ldc 78, ([0, 182], (-1000002), 0, []), zi0), (62, .ireturn, ([], 0, 0, []), zi0)]
def cu_T_count : List (Nat × List Nat) := []
set_option maxRecDepth 100000 in
theorem oc_T_count : cd_T_count.all (zchk mi_T_count) = true := by decide +kernel
set_option maxRecDepth 100000 in
theorem ow_T_count : zWs mi_T_count cd_T_count := ⟨trivial, trivial, trivial, ⟨rfl, rfl, mv_T_mapsHeld⟩, trivial, trivial, ⟨rfl, rfl, mv_T_pointsHeld⟩, trivial, trivial, trivial, ⟨rfl, rfl, mv_T_braidAt⟩, ⟨rfl, rfl, mv_BR_length⟩, trivial, trivial, trivial, ⟨rfl, rfl, mv_T_braidAt⟩, ⟨rfl, rfl, mv_BR_length⟩, trivial, rfl, trivial, trivial⟩
theorem ok_T_count : zgood2 mi_T_count cd_T_count := ⟨oc_T_count, ow_T_count⟩
def cd_T_fails : List ZE := [(0, .aload_n 0, ([0], 0, 0, []), zi0), (1, .iload_n 1, ([1], 0, 0, []), zi0), (2, .invokevirtual 123, ([2, 1, 65], 0, 0, []), mi_T_mapAt), (5, .astore_n 3, ([3], 0, 0, []), zi0), (6, .aload_n 3, ([3], 0, 0, []), zi0), (7, .invokevirtual 143, ([0, 1, 86], 0, 0, []), mi_PM_isEmpty), (10, .ifCond .eq 6, ([16], 0, 0, []), zi0), (13, .ldc 73, ([0, 181], (-1000001), 0, []), zi0), (15, .ireturn, ([], 0, 0, []), zi0), (16, .iload_n 2, ([2], 0, 0, []), zi0), (17, .ifCond .ge 6, ([23], 0, 0, []), zi0), (20, .ldc 78, ([0, 182], (-1000002), 0, []), zi0), (22, .ireturn, ([], 0, 0, []), zi0), (23, .aload_n 3, ([3], 0, 0, []), zi0), (24, .iload_n 2, ([2], 0, 0, []), zi0), (25, .invokestatic 236, ([0, 2, 117], 0, 0, []), mi_CH_brokenTripleAt), (28, .istore 4, ([], 0, 0, []), zi0), (30, .iload 4, ([], 0, 0, []), zi0), (32, .iconst (-1), ([], (-1), 0, []), zi0), (33, .if_icmp .ne 7, ([40], 0, 0, []), zi0), (36, .iconst (-1), ([], (-1), 0, []), zi0), (37, .goto 9, ([46], 0, 0, []), zi0), (40, .iload 4, ([], 0, 0, []), zi0), (42, .iconst 3, ([], nI 3, 0, []), zi0), (43, .invokestatic 136, ([0, 1, 78], 0, 0, []), mi_CO_turned), (46, .ireturn, ([], 0, 0, []), zi0)]
def cu_T_fails : List (Nat × List Nat) := []
set_option maxRecDepth 100000 in
theorem oc_T_fails : cd_T_fails.all (zchk mi_T_fails) = true := by decide +kernel
set_option maxRecDepth 100000 in
theorem ow_T_fails : zWs mi_T_fails cd_T_fails := ⟨trivial, trivial, ⟨rfl, rfl, mv_T_mapAt⟩, trivial, trivial, ⟨rfl, rfl, mv_PM_isEmpty⟩, trivial, rfl, trivial, trivial, trivial, rfl, trivial, trivial, trivial, ⟨rfl, ms_CH_brokenTripleAt⟩, trivial, trivial, trivial, trivial, trivial, trivial, trivial, trivial, ⟨rfl, ms_CO_turned⟩, trivial, trivial⟩
theorem ok_T_fails : zgood2 mi_T_fails cd_T_fails := ⟨oc_T_fails, ow_T_fails⟩
def cd_T_flip : List ZE := [(0, .iload_n 1, ([1], 0, 0, []), zi0), (1, .invokestatic 69, ([0, 0, 175], 0, 0, []), mi_T_isPlace), (4, .ifCond .ne 6, ([10], 0, 0, []), zi0), (7, .ldc 73, ([0, 181], (-1000001), 0, []), zi0), (9, .ireturn, ([], 0, 0, []), zi0), (10, .iload_n 2, ([2], 0, 0, []), zi0), (11, .iconst 1, ([], nI 1, 0, []), zi0), (12, .bipush 6, ([], nI 6, 0, []), zi0), (14, .invokestatic 74, ([0, 0, 178], 0, 0, []), mi_T_isWithin), (17, .ifCond .ne 6, ([23], 0, 0, []), zi0), (20, .ldc 78, ([0, 182], (-1000002), 0, []), zi0), (22, .ireturn, ([], 0, 0, []), zi0), (23, .aload_n 0, ([0], 0, 0, []), zi0), (24, .getfield 31, ([2, 4, 0, 144], 0, 0, []), zi0), (27, .iload_n 2, ([2], 0, 0, []), zi0), (28, .invokevirtual 79, ([0, 0, 183], 0, 0, []), mi_PM_becomeFlip), (31, .aload_n 0, ([0], 0, 0, []), zi0), (32, .iload_n 1, ([1], 0, 0, []), zi0), (33, .invokevirtual 83, ([2, 0, 202], 0, 0, []), mi_T_keepMade), (36, .ireturn, ([], 0, 0, []), zi0)]
def cu_T_flip : List (Nat × List Nat) := []
set_option maxRecDepth 100000 in
theorem oc_T_flip : cd_T_flip.all (zchk mi_T_flip) = true := by decide +kernel
set_option maxRecDepth 100000 in
theorem ow_T_flip : zWs mi_T_flip cd_T_flip := ⟨trivial, ⟨rfl, ms_T_isPlace⟩, trivial, rfl, trivial, trivial, trivial, trivial, ⟨rfl, ms_T_isWithin⟩, trivial, rfl, trivial, trivial, rfl, trivial, ⟨rfl, rfl, mv_PM_becomeFlip⟩, trivial, trivial, ⟨rfl, rfl, mv_T_keepMade⟩, trivial, trivial⟩
theorem ok_T_flip : zgood2 mi_T_flip cd_T_flip := ⟨oc_T_flip, ow_T_flip⟩
def cd_T_least : List ZE := [(0, .aload_n 0, ([0], 0, 0, []), zi0), (1, .iload_n 1, ([1], 0, 0, []), zi0), (2, .invokevirtual 123, ([2, 1, 65], 0, 0, []), mi_T_mapAt), (5, .astore 4, ([], 0, 0, []), zi0), (7, .aload 4, ([], 0, 0, []), zi0), (9, .invokevirtual 143, ([0, 1, 86], 0, 0, []), mi_PM_isEmpty), (12, .ifCond .eq 6, ([18], 0, 0, []), zi0), (15, .ldc 73, ([0, 181], (-1000001), 0, []), zi0), (17, .ireturn, ([], 0, 0, []), zi0), (18, .iload_n 2, ([2], 0, 0, []), zi0), (19, .iconst 1, ([], nI 1, 0, []), zi0), (20, .iconst 4, ([], nI 4, 0, []), zi0), (21, .invokestatic 74, ([0, 0, 178], 0, 0, []), mi_T_isWithin), (24, .ifCond .eq 16, ([40], 0, 0, []), zi0), (27, .iload_n 3, ([3], 0, 0, []), zi0), (28, .iload_n 2, ([2], 0, 0, []), zi0), (29, .aload 4, ([], 0, 0, []), zi0), (31, .invokevirtual 155, ([0, 0, 210], 0, 0, []), mi_PM_points), (34, .invokestatic 258, ([0, 2, 191], 0, 0, []), mi_CO_isCode), (37, .ifCond .ne 6, ([43], 0, 0, []), zi0), (40, .ldc 78, ([0, 182], (-1000002), 0, []), zi0), (42, .ireturn, ([], 0, 0, []), zi0), (43, .aload_n 0, ([0], 0, 0, []), zi0), (44, .getfield 58, ([2, 8, 0, 148], 0, 0, []), zi0), (47, .aload 4, ([], 0, 0, []), zi0), (49, .iload_n 2, ([2], 0, 0, []), zi0), (50, .invokevirtual 253, ([6, 2, 157], 0, 0, []), mi_WC_find), (53, .aload_n 0, ([0], 0, 0, []), zi0), (54, .getfield 58, ([2, 8, 0, 148], 0, 0, []), zi0), (57, .iload_n 3, ([3], 0, 0, []), zi0), (58, .iload_n 2, ([2], 0, 0, []), zi0), (59, .invokestatic 136, ([0, 1, 78], 0, 0, []), mi_CO_turned), (62, .invokevirtual 261, ([6, 2, 192], 0, 0, []), mi_WC_smallest), (65, .iload_n 2, ([2], 0, 0, []), zi0), (66, .invokestatic 136, ([0, 1, 78], 0, 0, []), mi_CO_turned), (69, .ireturn, ([], 0, 0, []), zi0)]
def cu_T_least : List (Nat × List Nat) := []
set_option maxRecDepth 100000 in
theorem oc_T_least : cd_T_least.all (zchk mi_T_least) = true := by decide +kernel
set_option maxRecDepth 100000 in
theorem ow_T_least : zWs mi_T_least cd_T_least := ⟨trivial, trivial, ⟨rfl, rfl, mv_T_mapAt⟩, trivial, trivial, ⟨rfl, rfl, mv_PM_isEmpty⟩, trivial, rfl, trivial, trivial, trivial, trivial, ⟨rfl, ms_T_isWithin⟩, trivial, trivial, trivial, trivial, ⟨rfl, rfl, mv_PM_points⟩, ⟨rfl, ms_CO_isCode⟩, trivial, rfl, trivial, trivial, rfl, trivial, trivial, ⟨rfl, rfl, mv_WC_find⟩, trivial, rfl, trivial, trivial, ⟨rfl, ms_CO_turned⟩, ⟨rfl, rfl, mv_WC_smallest⟩, trivial, ⟨rfl, ms_CO_turned⟩, trivial, trivial⟩
theorem ok_T_least : zgood2 mi_T_least cd_T_least := ⟨oc_T_least, ow_T_least⟩
def cd_T_like : List ZE := [(0, .aload_n 0, ([0], 0, 0, []), zi0), (1, .iload_n 1, ([1], 0, 0, []), zi0), (2, .invokevirtual 123, ([2, 1, 65], 0, 0, []), mi_T_mapAt), (5, .astore 4, ([], 0, 0, []), zi0), (7, .aload_n 0, ([0], 0, 0, []), zi0), (8, .iload_n 2, ([2], 0, 0, []), zi0), (9, .invokevirtual 123, ([2, 1, 65], 0, 0, []), mi_T_mapAt), (12, .astore 5, ([], 0, 0, []), zi0), (14, .aload 4, ([], 0, 0, []), zi0), (16, .invokevirtual 143, ([0, 1, 86], 0, 0, []), mi_PM_isEmpty), (19, .ifCond .ne 11, ([30], 0, 0, []), zi0), (22, .aload 5, ([], 0, 0, []), zi0), (24, .invokevirtual 143, ([0, 1, 86], 0, 0, []), mi_PM_isEmpty), (27, .ifCond .eq 6, ([33], 0, 0, []), zi0), (30, .ldc 73, ([0, 181], (-1000001), 0, []), zi0), (32, .ireturn, ([], 0, 0, []), zi0), (33, .iload_n 3, ([3], 0, 0, []), zi0), (34, .iconst (-1), ([], (-1), 0, []), zi0), (35, .if_icmp .ge 6, ([41], 0, 0, []), zi0), (38, .ldc 78, ([0, 182], (-1000002), 0, []), zi0), (40, .ireturn, ([], 0, 0, []), zi0), (41, .iload_n 3, ([3], 0, 0, []), zi0), (42, .iconst (-1), ([], (-1), 0, []), zi0), (43, .if_icmp .ne 17, ([60], 0, 0, []), zi0), (46, .aload_n 0, ([0], 0, 0, []), zi0), (47, .getfield 44, ([2, 6, 0, 146], 0, 0, []), zi0), (50, .aload 4, ([], 0, 0, []), zi0), (52, .aload 5, ([], 0, 0, []), zi0), (54, .invokevirtual 220, ([4, 2, 30], 0, 0, []), mi_RN_isomorphisms), (57, .goto 15, ([72], 0, 0, []), zi0), (60, .aload_n 0, ([0], 0, 0, []), zi0), (61, .getfield 44, ([2, 6, 0, 146], 0, 0, []), zi0), (64, .aload 4, ([], 0, 0, []), zi0), (66, .aload 5, ([], 0, 0, []), zi0), (68, .iload_n 3, ([3], 0, 0, []), zi0), (69, .invokevirtual 249, ([4, 2, 145], 0, 0, []), mi_RN_isomorphismAt), (72, .ireturn, ([], 0, 0, []), zi0)]
def cu_T_like : List (Nat × List Nat) := []
set_option maxRecDepth 100000 in
theorem oc_T_like : cd_T_like.all (zchk mi_T_like) = true := by decide +kernel
set_option maxRecDepth 100000 in
theorem ow_T_like : zWs mi_T_like cd_T_like := ⟨trivial, trivial, ⟨rfl, rfl, mv_T_mapAt⟩, trivial, trivial, trivial, ⟨rfl, rfl, mv_T_mapAt⟩, trivial, trivial, ⟨rfl, rfl, mv_PM_isEmpty⟩, trivial, trivial, ⟨rfl, rfl, mv_PM_isEmpty⟩, trivial, rfl, trivial, trivial, trivial, trivial, rfl, trivial, trivial, trivial, trivial, trivial, rfl, trivial, trivial, ⟨rfl, rfl, mv_RN_isomorphisms⟩, trivial, trivial, rfl, trivial, trivial, trivial, ⟨rfl, rfl, mv_RN_isomorphismAt⟩, trivial, trivial⟩
theorem ok_T_like : zgood2 mi_T_like cd_T_like := ⟨oc_T_like, ow_T_like⟩
def cd_T_orbit : List ZE := [(0, .aload_n 0, ([0], 0, 0, []), zi0), (1, .iload_n 1, ([1], 0, 0, []), zi0), (2, .invokevirtual 123, ([2, 1, 65], 0, 0, []), mi_T_mapAt), (5, .astore_n 3, ([3], 0, 0, []), zi0), (6, .aload_n 3, ([3], 0, 0, []), zi0), (7, .iload_n 2, ([2], 0, 0, []), zi0), (8, .invokevirtual 127, ([0, 1, 69], 0, 0, []), mi_PM_hasPoint), (11, .ifCond .ne 6, ([17], 0, 0, []), zi0), (14, .ldc 73, ([0, 181], (-1000001), 0, []), zi0), (16, .ireturn, ([], 0, 0, []), zi0), (17, .aload_n 3, ([3], 0, 0, []), zi0), (18, .iload_n 2, ([2], 0, 0, []), zi0), (19, .invokestatic 240, ([0, 2, 124], 0, 0, []), mi_CH_orbitOf), (22, .ireturn, ([], 0, 0, []), zi0)]
def cu_T_orbit : List (Nat × List Nat) := []
set_option maxRecDepth 100000 in
theorem oc_T_orbit : cd_T_orbit.all (zchk mi_T_orbit) = true := by decide +kernel
set_option maxRecDepth 100000 in
theorem ow_T_orbit : zWs mi_T_orbit cd_T_orbit := ⟨trivial, trivial, ⟨rfl, rfl, mv_T_mapAt⟩, trivial, trivial, trivial, ⟨rfl, rfl, mv_PM_hasPoint⟩, trivial, rfl, trivial, trivial, trivial, ⟨rfl, ms_CH_orbitOf⟩, trivial, trivial⟩
theorem ok_T_orbit : zgood2 mi_T_orbit cd_T_orbit := ⟨oc_T_orbit, ow_T_orbit⟩
def cd_T_pair : List ZE := [(0, .aload_n 0, ([0], 0, 0, []), zi0), (1, .iload_n 1, ([1], 0, 0, []), zi0), (2, .invokevirtual 123, ([2, 1, 65], 0, 0, []), mi_T_mapAt), (5, .astore 4, ([], 0, 0, []), zi0), (7, .aload_n 0, ([0], 0, 0, []), zi0), (8, .iload_n 2, ([2], 0, 0, []), zi0), (9, .invokevirtual 123, ([2, 1, 65], 0, 0, []), mi_T_mapAt), (12, .astore 5, ([], 0, 0, []), zi0), (14, .aload 4, ([], 0, 0, []), zi0), (16, .invokevirtual 143, ([0, 1, 86], 0, 0, []), mi_PM_isEmpty), (19, .ifCond .ne 18, ([37], 0, 0, []), zi0), (22, .aload 5, ([], 0, 0, []), zi0), (24, .invokevirtual 143, ([0, 1, 86], 0, 0, []), mi_PM_isEmpty), (27, .ifCond .ne 10, ([37], 0, 0, []), zi0), (30, .iload_n 3, ([3], 0, 0, []), zi0), (31, .invokestatic 69, ([0, 0, 175], 0, 0, []), mi_T_isPlace), (34, .ifCond .ne 6, ([40], 0, 0, []), zi0), (37, .ldc 73, ([0, 181], (-1000001), 0, []), zi0), (39, .ireturn, ([], 0, 0, []), zi0), (40, .aload 4, ([], 0, 0, []), zi0), (42, .invokevirtual 155, ([0, 0, 210], 0, 0, []), mi_PM_points), (45, .aload 5, ([], 0, 0, []), zi0), (47, .invokevirtual 155, ([0, 0, 210], 0, 0, []), mi_PM_points), (50, .imul, ([], 0, 0, []), zi0), (51, .bipush 6, ([], nI 6, 0, []), zi0), (53, .if_icmp .le 6, ([59], 0, 0, []), zi0), (56, .ldc 159, ([1, 128], (-1000004), 0, []), zi0), (58, .ireturn, ([], 0, 0, []), zi0), (59, .aload_n 0, ([0], 0, 0, []), zi0), (60, .getfield 31, ([2, 4, 0, 144], 0, 0, []), zi0), (63, .aload 4, ([], 0, 0, []), zi0), (65, .aload 5, ([], 0, 0, []), zi0), (67, .invokevirtual 163, ([0, 1, 144], 0, 0, []), mi_PM_becomeProduct), (70, .aload_n 0, ([0], 0, 0, []), zi0), (71, .iload_n 3, ([3], 0, 0, []), zi0), (72, .invokevirtual 83, ([2, 0, 202], 0, 0, []), mi_T_keepMade), (75, .ireturn, ([], 0, 0, []), zi0)]
def cu_T_pair : List (Nat × List Nat) := []
set_option maxRecDepth 100000 in
theorem oc_T_pair : cd_T_pair.all (zchk mi_T_pair) = true := by decide +kernel
set_option maxRecDepth 100000 in
theorem ow_T_pair : zWs mi_T_pair cd_T_pair := ⟨trivial, trivial, ⟨rfl, rfl, mv_T_mapAt⟩, trivial, trivial, trivial, ⟨rfl, rfl, mv_T_mapAt⟩, trivial, trivial, ⟨rfl, rfl, mv_PM_isEmpty⟩, trivial, trivial, ⟨rfl, rfl, mv_PM_isEmpty⟩, trivial, trivial, ⟨rfl, ms_T_isPlace⟩, trivial, rfl, trivial, trivial, ⟨rfl, rfl, mv_PM_points⟩, trivial, ⟨rfl, rfl, mv_PM_points⟩, trivial, trivial, trivial, rfl, trivial, trivial, rfl, trivial, trivial, ⟨rfl, rfl, mv_PM_becomeProduct⟩, trivial, trivial, ⟨rfl, rfl, mv_T_keepMade⟩, trivial, trivial⟩
theorem ok_T_pair : zgood2 mi_T_pair cd_T_pair := ⟨oc_T_pair, ow_T_pair⟩
def cd_T_part : List ZE := [(0, .aload_n 0, ([0], 0, 0, []), zi0), (1, .iload_n 1, ([1], 0, 0, []), zi0), (2, .invokevirtual 123, ([2, 1, 65], 0, 0, []), mi_T_mapAt), (5, .astore_n 3, ([3], 0, 0, []), zi0), (6, .aload_n 3, ([3], 0, 0, []), zi0), (7, .invokevirtual 143, ([0, 1, 86], 0, 0, []), mi_PM_isEmpty), (10, .ifCond .eq 6, ([16], 0, 0, []), zi0), (13, .ldc 73, ([0, 181], (-1000001), 0, []), zi0), (15, .ireturn, ([], 0, 0, []), zi0), (16, .iload_n 2, ([2], 0, 0, []), zi0), (17, .invokestatic 286, ([0, 2, 237], 0, 0, []), mi_T_isTupleLength), (20, .ifCond .ne 6, ([26], 0, 0, []), zi0), (23, .ldc 78, ([0, 182], (-1000002), 0, []), zi0), (25, .ireturn, ([], 0, 0, []), zi0), (26, .aload_n 0, ([0], 0, 0, []), zi0), (27, .iconst 0, ([], nI 0, 0, []), zi0), (28, .invokevirtual 270, ([2, 2, 206], 0, 0, []), mi_T_braidAt), (31, .astore 4, ([], 0, 0, []), zi0), (33, .aload_n 0, ([0], 0, 0, []), zi0), (34, .iconst 1, ([], nI 1, 0, []), zi0), (35, .invokevirtual 270, ([2, 2, 206], 0, 0, []), mi_T_braidAt), (38, .astore 5, ([], 0, 0, []), zi0), (40, .aload_n 3, ([3], 0, 0, []), zi0), (41, .aload 4, ([], 0, 0, []), zi0), (43, .iload_n 2, ([2], 0, 0, []), zi0), (44, .invokestatic 289, ([0, 3, 0], 0, 0, []), mi_BA_isFit), (47, .ifCond .eq 13, ([60], 0, 0, []), zi0), (50, .aload_n 3, ([3], 0, 0, []), zi0), (51, .aload 5, ([], 0, 0, []), zi0), (53, .iload_n 2, ([2], 0, 0, []), zi0), (54, .invokestatic 289, ([0, 3, 0], 0, 0, []), mi_BA_isFit), (57, .ifCond .ne 6, ([63], 0, 0, []), zi0), (60, .ldc 112, ([1, 25], (-1000003), 0, []), zi0), (62, .ireturn, ([], 0, 0, []), zi0), (63, .aload_n 0, ([0], 0, 0, []), zi0), (64, .getfield 65, ([2, 9, 0, 149], 0, 0, []), zi0), (67, .aload_n 3, ([3], 0, 0, []), zi0), (68, .invokevirtual 293, ([7, 3, 21], 0, 0, []), mi_BA_prepare), (71, .aload_n 0, ([0], 0, 0, []), zi0), (72, .getfield 65, ([2, 9, 0, 149], 0, 0, []), zi0), (75, .aload 4, ([], 0, 0, []), zi0), (77, .aload 5, ([], 0, 0, []), zi0), (79, .iload_n 2, ([2], 0, 0, []), zi0), (80, .invokevirtual 310, ([7, 3, 82], 0, 0, []), mi_BA_firstDifference), (83, .istore 6, ([], 0, 0, []), zi0), (85, .iload 6, ([], 0, 0, []), zi0), (87, .iconst (-1), ([], (-1), 0, []), zi0), (88, .if_icmp .ne 7, ([95], 0, 0, []), zi0), (91, .iconst (-1), ([], (-1), 0, []), zi0), (92, .goto 9, ([101], 0, 0, []), zi0), (95, .iload 6, ([], 0, 0, []), zi0), (97, .iload_n 2, ([2], 0, 0, []), zi0), (98, .invokestatic 136, ([0, 1, 78], 0, 0, []), mi_CO_turned), (101, .ireturn, ([], 0, 0, []), zi0)]
def cu_T_part : List (Nat × List Nat) := []
set_option maxRecDepth 100000 in
theorem oc_T_part : cd_T_part.all (zchk mi_T_part) = true := by decide +kernel
set_option maxRecDepth 100000 in
theorem ow_T_part : zWs mi_T_part cd_T_part := ⟨trivial, trivial, ⟨rfl, rfl, mv_T_mapAt⟩, trivial, trivial, ⟨rfl, rfl, mv_PM_isEmpty⟩, trivial, rfl, trivial, trivial, ⟨rfl, ms_T_isTupleLength⟩, trivial, rfl, trivial, trivial, trivial, ⟨rfl, rfl, mv_T_braidAt⟩, trivial, trivial, trivial, ⟨rfl, rfl, mv_T_braidAt⟩, trivial, trivial, trivial, trivial, ⟨rfl, ms_BA_isFit⟩, trivial, trivial, trivial, trivial, ⟨rfl, ms_BA_isFit⟩, trivial, rfl, trivial, trivial, rfl, trivial, ⟨rfl, rfl, mv_BA_prepare⟩, trivial, rfl, trivial, trivial, trivial, ⟨rfl, rfl, mv_BA_firstDifference⟩, trivial, trivial, trivial, trivial, trivial, trivial, trivial, trivial, ⟨rfl, ms_CO_turned⟩, trivial, trivial⟩
theorem ok_T_part : zgood2 mi_T_part cd_T_part := ⟨oc_T_part, ow_T_part⟩
def cd_T_shut : List ZE := [(0, .aload_n 0, ([0], 0, 0, []), zi0), (1, .iload_n 1, ([1], 0, 0, []), zi0), (2, .invokevirtual 123, ([2, 1, 65], 0, 0, []), mi_T_mapAt), (5, .astore_n 3, ([3], 0, 0, []), zi0), (6, .aload_n 3, ([3], 0, 0, []), zi0), (7, .invokevirtual 143, ([0, 1, 86], 0, 0, []), mi_PM_isEmpty), (10, .ifCond .eq 6, ([16], 0, 0, []), zi0), (13, .ldc 73, ([0, 181], (-1000001), 0, []), zi0), (15, .ireturn, ([], 0, 0, []), zi0), (16, .iload_n 2, ([2], 0, 0, []), zi0), (17, .ifCond .lt 13, ([30], 0, 0, []), zi0), (20, .iload_n 2, ([2], 0, 0, []), zi0), (21, .iconst 1, ([], nI 1, 0, []), zi0), (22, .aload_n 3, ([3], 0, 0, []), zi0), (23, .invokevirtual 155, ([0, 0, 210], 0, 0, []), mi_PM_points), (26, .ishl, ([], 0, 0, []), zi0), (27, .if_icmp .lt 6, ([33], 0, 0, []), zi0), (30, .ldc 78, ([0, 182], (-1000002), 0, []), zi0), (32, .ireturn, ([], 0, 0, []), zi0), (33, .aload_n 3, ([3], 0, 0, []), zi0), (34, .iload_n 2, ([2], 0, 0, []), zi0), (35, .invokestatic 243, ([0, 2, 129], 0, 0, []), mi_CH_closureOf), (38, .ireturn, ([], 0, 0, []), zi0)]
def cu_T_shut : List (Nat × List Nat) := []
set_option maxRecDepth 100000 in
theorem oc_T_shut : cd_T_shut.all (zchk mi_T_shut) = true := by decide +kernel
set_option maxRecDepth 100000 in
theorem ow_T_shut : zWs mi_T_shut cd_T_shut := ⟨trivial, trivial, ⟨rfl, rfl, mv_T_mapAt⟩, trivial, trivial, ⟨rfl, rfl, mv_PM_isEmpty⟩, trivial, rfl, trivial, trivial, trivial, trivial, trivial, trivial, ⟨rfl, rfl, mv_PM_points⟩, trivial, trivial, rfl, trivial, trivial, trivial, ⟨rfl, ms_CH_closureOf⟩, trivial, trivial⟩
theorem ok_T_shut : zgood2 mi_T_shut cd_T_shut := ⟨oc_T_shut, ow_T_shut⟩
def cd_T_take : List ZE := [(0, .iload_n 3, ([3], 0, 0, []), zi0), (1, .invokestatic 69, ([0, 0, 175], 0, 0, []), mi_T_isPlace), (4, .ifCond .ne 6, ([10], 0, 0, []), zi0), (7, .ldc 73, ([0, 181], (-1000001), 0, []), zi0), (9, .ireturn, ([], 0, 0, []), zi0), (10, .iload_n 1, ([1], 0, 0, []), zi0), (11, .invokestatic 314, ([0, 3, 90], 0, 0, []), mi_SL_hasPoints), (14, .ifCond .eq 7, ([21], 0, 0, []), zi0), (17, .iload_n 2, ([2], 0, 0, []), zi0), (18, .ifCond .ge 6, ([24], 0, 0, []), zi0), (21, .ldc 78, ([0, 182], (-1000002), 0, []), zi0), (23, .ireturn, ([], 0, 0, []), zi0), (24, .iload_n 2, ([2], 0, 0, []), zi0), (25, .iload_n 1, ([1], 0, 0, []), zi0), (26, .invokestatic 317, ([0, 3, 91], 0, 0, []), mi_SL_size), (29, .if_icmp .lt 5, ([34], 0, 0, []), zi0), (32, .iconst (-1), ([], (-1), 0, []), zi0), (33, .ireturn, ([], 0, 0, []), zi0), (34, .aload_n 0, ([0], 0, 0, []), zi0), (35, .getfield 31, ([2, 4, 0, 144], 0, 0, []), zi0), (38, .iload_n 1, ([1], 0, 0, []), zi0), (39, .iload_n 2, ([2], 0, 0, []), zi0), (40, .invokestatic 320, ([0, 3, 96], 0, 0, []), mi_SL_makeMap), (43, .aload_n 0, ([0], 0, 0, []), zi0), (44, .iload_n 3, ([3], 0, 0, []), zi0), (45, .invokevirtual 83, ([2, 0, 202], 0, 0, []), mi_T_keepMade), (48, .ireturn, ([], 0, 0, []), zi0)]
def cu_T_take : List (Nat × List Nat) := []
set_option maxRecDepth 100000 in
theorem oc_T_take : cd_T_take.all (zchk mi_T_take) = true := by decide +kernel
set_option maxRecDepth 100000 in
theorem ow_T_take : zWs mi_T_take cd_T_take := ⟨trivial, ⟨rfl, ms_T_isPlace⟩, trivial, rfl, trivial, trivial, ⟨rfl, ms_SL_hasPoints⟩, trivial, trivial, trivial, rfl, trivial, trivial, trivial, ⟨rfl, ms_SL_size⟩, trivial, trivial, trivial, trivial, rfl, trivial, trivial, ⟨rfl, ms_SL_makeMap⟩, trivial, trivial, ⟨rfl, rfl, mv_T_keepMade⟩, trivial, trivial⟩
theorem ok_T_take : zgood2 mi_T_take cd_T_take := ⟨oc_T_take, ow_T_take⟩
def cd_T_through : List ZE := [(0, .aload_n 0, ([0], 0, 0, []), zi0), (1, .iload_n 1, ([1], 0, 0, []), zi0), (2, .invokevirtual 123, ([2, 1, 65], 0, 0, []), mi_T_mapAt), (5, .astore 5, ([], 0, 0, []), zi0), (7, .aload 5, ([], 0, 0, []), zi0), (9, .invokevirtual 143, ([0, 1, 86], 0, 0, []), mi_PM_isEmpty), (12, .ifCond .ne 10, ([22], 0, 0, []), zi0), (15, .iload_n 2, ([2], 0, 0, []), zi0), (16, .invokestatic 264, ([0, 2, 197], 0, 0, []), mi_T_isBraid), (19, .ifCond .ne 6, ([25], 0, 0, []), zi0), (22, .ldc 73, ([0, 181], (-1000001), 0, []), zi0), (24, .ireturn, ([], 0, 0, []), zi0), (25, .iload_n 3, ([3], 0, 0, []), zi0), (26, .invokestatic 286, ([0, 2, 237], 0, 0, []), mi_T_isTupleLength), (29, .ifCond .eq 17, ([46], 0, 0, []), zi0), (32, .iload 4, ([], 0, 0, []), zi0), (34, .iload_n 3, ([3], 0, 0, []), zi0), (35, .aload 5, ([], 0, 0, []), zi0), (37, .invokevirtual 155, ([0, 0, 210], 0, 0, []), mi_PM_points), (40, .invokestatic 258, ([0, 2, 191], 0, 0, []), mi_CO_isCode), (43, .ifCond .ne 6, ([49], 0, 0, []), zi0), (46, .ldc 78, ([0, 182], (-1000002), 0, []), zi0), (48, .ireturn, ([], 0, 0, []), zi0), (49, .aload_n 0, ([0], 0, 0, []), zi0), (50, .iload_n 2, ([2], 0, 0, []), zi0), (51, .invokevirtual 270, ([2, 2, 206], 0, 0, []), mi_T_braidAt), (54, .astore 6, ([], 0, 0, []), zi0), (56, .aload 5, ([], 0, 0, []), zi0), (58, .aload 6, ([], 0, 0, []), zi0), (60, .iload_n 3, ([3], 0, 0, []), zi0), (61, .invokestatic 289, ([0, 3, 0], 0, 0, []), mi_BA_isFit), (64, .ifCond .ne 6, ([70], 0, 0, []), zi0), (67, .ldc 112, ([1, 25], (-1000003), 0, []), zi0), (69, .ireturn, ([], 0, 0, []), zi0), (70, .aload_n 0, ([0], 0, 0, []), zi0), (71, .getfield 65, ([2, 9, 0, 149], 0, 0, []), zi0), (74, .aload 5, ([], 0, 0, []), zi0), (76, .invokevirtual 293, ([7, 3, 21], 0, 0, []), mi_BA_prepare), (79, .aload_n 0, ([0], 0, 0, []), zi0), (80, .getfield 65, ([2, 9, 0, 149], 0, 0, []), zi0), (83, .aload 6, ([], 0, 0, []), zi0), (85, .iload_n 3, ([3], 0, 0, []), zi0), (86, .iload 4, ([], 0, 0, []), zi0), (88, .iload_n 3, ([3], 0, 0, []), zi0), (89, .invokestatic 136, ([0, 1, 78], 0, 0, []), mi_CO_turned), (92, .invokevirtual 296, ([7, 3, 27], 0, 0, []), mi_BA_resultOf), (95, .iload_n 3, ([3], 0, 0, []), zi0), (96, .invokestatic 136, ([0, 1, 78], 0, 0, []), mi_CO_turned), (99, .ireturn, ([], 0, 0, []), zi0)]
def cu_T_through : List (Nat × List Nat) := []
set_option maxRecDepth 100000 in
theorem oc_T_through : cd_T_through.all (zchk mi_T_through) = true := by decide +kernel
set_option maxRecDepth 100000 in
theorem ow_T_through : zWs mi_T_through cd_T_through := ⟨trivial, trivial, ⟨rfl, rfl, mv_T_mapAt⟩, trivial, trivial, ⟨rfl, rfl, mv_PM_isEmpty⟩, trivial, trivial, ⟨rfl, ms_T_isBraid⟩, trivial, rfl, trivial, trivial, ⟨rfl, ms_T_isTupleLength⟩, trivial, trivial, trivial, trivial, ⟨rfl, rfl, mv_PM_points⟩, ⟨rfl, ms_CO_isCode⟩, trivial, rfl, trivial, trivial, trivial, ⟨rfl, rfl, mv_T_braidAt⟩, trivial, trivial, trivial, trivial, ⟨rfl, ms_BA_isFit⟩, trivial, rfl, trivial, trivial, rfl, trivial, ⟨rfl, rfl, mv_BA_prepare⟩, trivial, rfl, trivial, trivial, trivial, trivial, ⟨rfl, ms_CO_turned⟩, ⟨rfl, rfl, mv_BA_resultOf⟩, trivial, ⟨rfl, ms_CO_turned⟩, trivial, trivial⟩
theorem ok_T_through : zgood2 mi_T_through cd_T_through := ⟨oc_T_through, ow_T_through⟩
def cd_T_words : List ZE := [(0, .aload_n 0, ([0], 0, 0, []), zi0), (1, .iload_n 1, ([1], 0, 0, []), zi0), (2, .invokevirtual 123, ([2, 1, 65], 0, 0, []), mi_T_mapAt), (5, .astore_n 3, ([3], 0, 0, []), zi0), (6, .aload_n 3, ([3], 0, 0, []), zi0), (7, .invokevirtual 143, ([0, 1, 86], 0, 0, []), mi_PM_isEmpty), (10, .ifCond .eq 6, ([16], 0, 0, []), zi0), (13, .ldc 73, ([0, 181], (-1000001), 0, []), zi0), (15, .ireturn, ([], 0, 0, []), zi0), (16, .iload_n 2, ([2], 0, 0, []), zi0), (17, .iconst 1, ([], nI 1, 0, []), zi0), (18, .iconst 4, ([], nI 4, 0, []), zi0), (19, .invokestatic 74, ([0, 0, 178], 0, 0, []), mi_T_isWithin), (22, .ifCond .ne 6, ([28], 0, 0, []), zi0), (25, .ldc 78, ([0, 182], (-1000002), 0, []), zi0), (27, .ireturn, ([], 0, 0, []), zi0), (28, .aload_n 0, ([0], 0, 0, []), zi0), (29, .getfield 58, ([2, 8, 0, 148], 0, 0, []), zi0), (32, .aload_n 3, ([3], 0, 0, []), zi0), (33, .iload_n 2, ([2], 0, 0, []), zi0), (34, .invokevirtual 253, ([6, 2, 157], 0, 0, []), mi_WC_find), (37, .aload_n 0, ([0], 0, 0, []), zi0), (38, .getfield 58, ([2, 8, 0, 148], 0, 0, []), zi0), (41, .invokevirtual 255, ([6, 2, 183], 0, 0, []), mi_WC_number), (44, .ireturn, ([], 0, 0, []), zi0)]
def cu_T_words : List (Nat × List Nat) := []
set_option maxRecDepth 100000 in
theorem oc_T_words : cd_T_words.all (zchk mi_T_words) = true := by decide +kernel
set_option maxRecDepth 100000 in
theorem ow_T_words : zWs mi_T_words cd_T_words := ⟨trivial, trivial, ⟨rfl, rfl, mv_T_mapAt⟩, trivial, trivial, ⟨rfl, rfl, mv_PM_isEmpty⟩, trivial, rfl, trivial, trivial, trivial, trivial, ⟨rfl, ms_T_isWithin⟩, trivial, rfl, trivial, trivial, rfl, trivial, trivial, ⟨rfl, rfl, mv_WC_find⟩, trivial, rfl, ⟨rfl, rfl, mv_WC_number⟩, trivial, trivial⟩
theorem ok_T_words : zgood2 mi_T_words cd_T_words := ⟨oc_T_words, ow_T_words⟩
def cd_AC_levelOf : List ZE := [(0, .aload_n 0, ([0], 0, 0, []), zi0), (1, .getfield 25, ([3, 3, 0, 69], 0, 0, []), zi0), (4, .aload_n 1, ([1], 0, 0, []), zi0), (5, .invokevirtual 66, ([0, 2, 8], 0, 0, []), mi_PM_copy), (8, .iconst 0, ([], nI 0, 0, []), zi0), (9, .istore_n 2, ([2], 0, 0, []), zi0), (10, .iload_n 2, ([2], 0, 0, []), zi0), (11, .bipush 6, ([], nI 6, 0, []), zi0), (13, .if_icmp .ge 69, ([82], 0, 0, []), zi0), (16, .aload_n 0, ([0], 0, 0, []), zi0), (17, .getfield 25, ([3, 3, 0, 69], 0, 0, []), zi0), (20, .invokevirtual 32, ([0, 1, 94], 0, 0, []), mi_PM_points), (23, .iconst 1, ([], nI 1, 0, []), zi0), (24, .if_icmp .ne 5, ([29], 0, 0, []), zi0), (27, .iload_n 2, ([2], 0, 0, []), zi0), (28, .ireturn, ([], 0, 0, []), zi0), (29, .aload_n 0, ([0], 0, 0, []), zi0), (30, .aload_n 0, ([0], 0, 0, []), zi0), (31, .getfield 25, ([3, 3, 0, 69], 0, 0, []), zi0), (34, .invokevirtual 70, ([3, 2, 9], 0, 0, []), mi_AC_find), (37, .aload_n 0, ([0], 0, 0, []), zi0), (38, .getfield 18, ([3, 2, 0, 68], 0, 0, []), zi0), (41, .aload_n 0, ([0], 0, 0, []), zi0), (42, .getfield 25, ([3, 3, 0, 69], 0, 0, []), zi0), (45, .invokevirtual 32, ([0, 1, 94], 0, 0, []), mi_PM_points), (48, .if_icmp .ne 5, ([53], 0, 0, []), zi0), (51, .iconst (-1), ([], (-1), 0, []), zi0), (52, .ireturn, ([], 0, 0, []), zi0), (53, .aload_n 0, ([0], 0, 0, []), zi0), (54, .aload_n 0, ([0], 0, 0, []), zi0), (55, .getfield 29, ([3, 4, 0, 70], 0, 0, []), zi0), (58, .aload_n 0, ([0], 0, 0, []), zi0), (59, .getfield 25, ([3, 3, 0, 69], 0, 0, []), zi0), (62, .invokevirtual 73, ([3, 2, 10], 0, 0, []), mi_AC_makeRetraction), (65, .aload_n 0, ([0], 0, 0, []), zi0), (66, .getfield 25, ([3, 3, 0, 69], 0, 0, []), zi0), (69, .aload_n 0, ([0], 0, 0, []), zi0), (70, .getfield 29, ([3, 4, 0, 70], 0, 0, []), zi0), (73, .invokevirtual 66, ([0, 2, 8], 0, 0, []), mi_PM_copy), (76, .iinc 2 1, ([], nI 1, 0, []), zi0), (79, .goto (-69), ([10], 0, 0, []), zi0), (82, .iconst (-1), ([], (-1), 0, []), zi0), (83, .ireturn, ([], 0, 0, []), zi0)]
def cu_AC_levelOf : List (Nat × List Nat) := [(10, [0, 2])]
set_option maxRecDepth 100000 in
theorem oc_AC_levelOf : cd_AC_levelOf.all (zchk mi_AC_levelOf) = true := by decide +kernel
set_option maxRecDepth 100000 in
theorem ow_AC_levelOf : zWs mi_AC_levelOf cd_AC_levelOf := ⟨trivial, rfl, trivial, ⟨rfl, rfl, mv_PM_copy⟩, trivial, trivial, trivial, trivial, trivial, trivial, rfl, ⟨rfl, rfl, mv_PM_points⟩, trivial, trivial, trivial, trivial, trivial, trivial, rfl, ⟨rfl, rfl, mv_AC_find⟩, trivial, rfl, trivial, rfl, ⟨rfl, rfl, mv_PM_points⟩, trivial, trivial, trivial, trivial, trivial, rfl, trivial, rfl, ⟨rfl, rfl, mv_AC_makeRetraction⟩, trivial, rfl, trivial, rfl, ⟨rfl, rfl, mv_PM_copy⟩, trivial, trivial, trivial, trivial, trivial⟩
theorem ok_AC_levelOf : zgood2 mi_AC_levelOf cd_AC_levelOf := ⟨oc_AC_levelOf, ow_AC_levelOf⟩
def cd_T_alike : List ZE := [(0, .aload_n 0, ([0], 0, 0, []), zi0), (1, .iload_n 1, ([1], 0, 0, []), zi0), (2, .invokevirtual 123, ([2, 1, 65], 0, 0, []), mi_T_mapAt), (5, .astore_n 3, ([3], 0, 0, []), zi0), (6, .aload_n 3, ([3], 0, 0, []), zi0), (7, .iload_n 2, ([2], 0, 0, []), zi0), (8, .invokevirtual 127, ([0, 1, 69], 0, 0, []), mi_PM_hasPoint), (11, .ifCond .ne 6, ([17], 0, 0, []), zi0), (14, .ldc 73, ([0, 181], (-1000001), 0, []), zi0), (16, .ireturn, ([], 0, 0, []), zi0), (17, .aload_n 0, ([0], 0, 0, []), zi0), (18, .getfield 37, ([2, 5, 0, 145], 0, 0, []), zi0), (21, .aload_n 3, ([3], 0, 0, []), zi0), (22, .invokevirtual 147, ([3, 1, 90], 0, 0, []), mi_AC_find), (25, .aload_n 0, ([0], 0, 0, []), zi0), (26, .getfield 37, ([2, 5, 0, 145], 0, 0, []), zi0), (29, .iload_n 2, ([2], 0, 0, []), zi0), (30, .invokevirtual 246, ([3, 2, 136], 0, 0, []), mi_AC_classOf), (33, .ireturn, ([], 0, 0, []), zi0)]
def cu_T_alike : List (Nat × List Nat) := []
set_option maxRecDepth 100000 in
theorem oc_T_alike : cd_T_alike.all (zchk mi_T_alike) = true := by decide +kernel
set_option maxRecDepth 100000 in
theorem ow_T_alike : zWs mi_T_alike cd_T_alike := ⟨trivial, trivial, ⟨rfl, rfl, mv_T_mapAt⟩, trivial, trivial, trivial, ⟨rfl, rfl, mv_PM_hasPoint⟩, trivial, rfl, trivial, trivial, rfl, trivial, ⟨rfl, rfl, mv_AC_find⟩, trivial, rfl, trivial, ⟨rfl, rfl, mv_AC_classOf⟩, trivial, trivial⟩
theorem ok_T_alike : zgood2 mi_T_alike cd_T_alike := ⟨oc_T_alike, ow_T_alike⟩
def cd_T_retract : List ZE := [(0, .aload_n 0, ([0], 0, 0, []), zi0), (1, .iload_n 1, ([1], 0, 0, []), zi0), (2, .invokevirtual 123, ([2, 1, 65], 0, 0, []), mi_T_mapAt), (5, .astore_n 3, ([3], 0, 0, []), zi0), (6, .aload_n 3, ([3], 0, 0, []), zi0), (7, .invokevirtual 143, ([0, 1, 86], 0, 0, []), mi_PM_isEmpty), (10, .ifCond .ne 10, ([20], 0, 0, []), zi0), (13, .iload_n 2, ([2], 0, 0, []), zi0), (14, .invokestatic 69, ([0, 0, 175], 0, 0, []), mi_T_isPlace), (17, .ifCond .ne 6, ([23], 0, 0, []), zi0), (20, .ldc 73, ([0, 181], (-1000001), 0, []), zi0), (22, .ireturn, ([], 0, 0, []), zi0), (23, .aload_n 0, ([0], 0, 0, []), zi0), (24, .getfield 37, ([2, 5, 0, 145], 0, 0, []), zi0), (27, .aload_n 3, ([3], 0, 0, []), zi0), (28, .invokevirtual 147, ([3, 1, 90], 0, 0, []), mi_AC_find), (31, .aload_n 0, ([0], 0, 0, []), zi0), (32, .getfield 37, ([2, 5, 0, 145], 0, 0, []), zi0), (35, .aload_n 0, ([0], 0, 0, []), zi0), (36, .getfield 31, ([2, 4, 0, 144], 0, 0, []), zi0), (39, .aload_n 3, ([3], 0, 0, []), zi0), (40, .invokevirtual 151, ([3, 1, 114], 0, 0, []), mi_AC_makeRetraction), (43, .aload_n 0, ([0], 0, 0, []), zi0), (44, .iload_n 2, ([2], 0, 0, []), zi0), (45, .invokevirtual 83, ([2, 0, 202], 0, 0, []), mi_T_keepMade), (48, .ireturn, ([], 0, 0, []), zi0)]
def cu_T_retract : List (Nat × List Nat) := []
set_option maxRecDepth 100000 in
theorem oc_T_retract : cd_T_retract.all (zchk mi_T_retract) = true := by decide +kernel
set_option maxRecDepth 100000 in
theorem ow_T_retract : zWs mi_T_retract cd_T_retract := ⟨trivial, trivial, ⟨rfl, rfl, mv_T_mapAt⟩, trivial, trivial, ⟨rfl, rfl, mv_PM_isEmpty⟩, trivial, trivial, ⟨rfl, ms_T_isPlace⟩, trivial, rfl, trivial, trivial, rfl, trivial, ⟨rfl, rfl, mv_AC_find⟩, trivial, rfl, trivial, rfl, trivial, ⟨rfl, rfl, mv_AC_makeRetraction⟩, trivial, trivial, ⟨rfl, rfl, mv_T_keepMade⟩, trivial, trivial⟩
theorem ok_T_retract : zgood2 mi_T_retract cd_T_retract := ⟨oc_T_retract, ow_T_retract⟩
def cd_T_rounds : List ZE := [(0, .aload_n 0, ([0], 0, 0, []), zi0), (1, .iload_n 1, ([1], 0, 0, []), zi0), (2, .iload_n 2, ([2], 0, 0, []), zi0), (3, .iload_n 3, ([3], 0, 0, []), zi0), (4, .invokevirtual 300, ([2, 3, 39], 0, 0, []), mi_T_actionError), (7, .istore 4, ([], 0, 0, []), zi0), (9, .iload 4, ([], 0, 0, []), zi0), (11, .ifCond .eq 6, ([17], 0, 0, []), zi0), (14, .iload 4, ([], 0, 0, []), zi0), (16, .ireturn, ([], 0, 0, []), zi0), (17, .aload_n 0, ([0], 0, 0, []), zi0), (18, .getfield 65, ([2, 9, 0, 149], 0, 0, []), zi0), (21, .aload_n 0, ([0], 0, 0, []), zi0), (22, .iload_n 1, ([1], 0, 0, []), zi0), (23, .invokevirtual 123, ([2, 1, 65], 0, 0, []), mi_T_mapAt), (26, .invokevirtual 293, ([7, 3, 21], 0, 0, []), mi_BA_prepare), (29, .aload_n 0, ([0], 0, 0, []), zi0), (30, .getfield 65, ([2, 9, 0, 149], 0, 0, []), zi0), (33, .aload_n 0, ([0], 0, 0, []), zi0), (34, .iload_n 2, ([2], 0, 0, []), zi0), (35, .invokevirtual 270, ([2, 2, 206], 0, 0, []), mi_T_braidAt), (38, .iload_n 3, ([3], 0, 0, []), zi0), (39, .invokevirtual 308, ([7, 3, 60], 0, 0, []), mi_BA_periodOf), (42, .ireturn, ([], 0, 0, []), zi0)]
def cu_T_rounds : List (Nat × List Nat) := []
set_option maxRecDepth 100000 in
theorem oc_T_rounds : cd_T_rounds.all (zchk mi_T_rounds) = true := by decide +kernel
set_option maxRecDepth 100000 in
theorem ow_T_rounds : zWs mi_T_rounds cd_T_rounds := ⟨trivial, trivial, trivial, trivial, ⟨rfl, rfl, mv_T_actionError⟩, trivial, trivial, trivial, trivial, trivial, trivial, rfl, trivial, trivial, ⟨rfl, rfl, mv_T_mapAt⟩, ⟨rfl, rfl, mv_BA_prepare⟩, trivial, rfl, trivial, trivial, ⟨rfl, rfl, mv_T_braidAt⟩, trivial, ⟨rfl, rfl, mv_BA_periodOf⟩, trivial, trivial⟩
theorem ok_T_rounds : zgood2 mi_T_rounds cd_T_rounds := ⟨oc_T_rounds, ow_T_rounds⟩
def cd_T_stays : List ZE := [(0, .aload_n 0, ([0], 0, 0, []), zi0), (1, .iload_n 1, ([1], 0, 0, []), zi0), (2, .iload_n 2, ([2], 0, 0, []), zi0), (3, .iload_n 3, ([3], 0, 0, []), zi0), (4, .invokevirtual 300, ([2, 3, 39], 0, 0, []), mi_T_actionError), (7, .istore 4, ([], 0, 0, []), zi0), (9, .iload 4, ([], 0, 0, []), zi0), (11, .ifCond .eq 6, ([17], 0, 0, []), zi0), (14, .iload 4, ([], 0, 0, []), zi0), (16, .ireturn, ([], 0, 0, []), zi0), (17, .aload_n 0, ([0], 0, 0, []), zi0), (18, .getfield 65, ([2, 9, 0, 149], 0, 0, []), zi0), (21, .aload_n 0, ([0], 0, 0, []), zi0), (22, .iload_n 1, ([1], 0, 0, []), zi0), (23, .invokevirtual 123, ([2, 1, 65], 0, 0, []), mi_T_mapAt), (26, .invokevirtual 293, ([7, 3, 21], 0, 0, []), mi_BA_prepare), (29, .aload_n 0, ([0], 0, 0, []), zi0), (30, .getfield 65, ([2, 9, 0, 149], 0, 0, []), zi0), (33, .aload_n 0, ([0], 0, 0, []), zi0), (34, .iload_n 2, ([2], 0, 0, []), zi0), (35, .invokevirtual 270, ([2, 2, 206], 0, 0, []), mi_T_braidAt), (38, .iload_n 3, ([3], 0, 0, []), zi0), (39, .invokevirtual 304, ([7, 3, 43], 0, 0, []), mi_BA_fixedTuples), (42, .ireturn, ([], 0, 0, []), zi0)]
def cu_T_stays : List (Nat × List Nat) := []
set_option maxRecDepth 100000 in
theorem oc_T_stays : cd_T_stays.all (zchk mi_T_stays) = true := by decide +kernel
set_option maxRecDepth 100000 in
theorem ow_T_stays : zWs mi_T_stays cd_T_stays := ⟨trivial, trivial, trivial, trivial, ⟨rfl, rfl, mv_T_actionError⟩, trivial, trivial, trivial, trivial, trivial, trivial, rfl, trivial, trivial, ⟨rfl, rfl, mv_T_mapAt⟩, ⟨rfl, rfl, mv_BA_prepare⟩, trivial, rfl, trivial, trivial, ⟨rfl, rfl, mv_T_braidAt⟩, trivial, ⟨rfl, rfl, mv_BA_fixedTuples⟩, trivial, trivial⟩
theorem ok_T_stays : zgood2 mi_T_stays cd_T_stays := ⟨oc_T_stays, ow_T_stays⟩
def cd_T_unite : List ZE := [(0, .aload_n 0, ([0], 0, 0, []), zi0), (1, .iload_n 1, ([1], 0, 0, []), zi0), (2, .invokevirtual 123, ([2, 1, 65], 0, 0, []), mi_T_mapAt), (5, .astore 4, ([], 0, 0, []), zi0), (7, .aload_n 0, ([0], 0, 0, []), zi0), (8, .iload_n 2, ([2], 0, 0, []), zi0), (9, .invokevirtual 123, ([2, 1, 65], 0, 0, []), mi_T_mapAt), (12, .astore 5, ([], 0, 0, []), zi0), (14, .aload 4, ([], 0, 0, []), zi0), (16, .invokevirtual 143, ([0, 1, 86], 0, 0, []), mi_PM_isEmpty), (19, .ifCond .ne 18, ([37], 0, 0, []), zi0), (22, .aload 5, ([], 0, 0, []), zi0), (24, .invokevirtual 143, ([0, 1, 86], 0, 0, []), mi_PM_isEmpty), (27, .ifCond .ne 10, ([37], 0, 0, []), zi0), (30, .iload_n 3, ([3], 0, 0, []), zi0), (31, .invokestatic 69, ([0, 0, 175], 0, 0, []), mi_T_isPlace), (34, .ifCond .ne 6, ([40], 0, 0, []), zi0), (37, .ldc 73, ([0, 181], (-1000001), 0, []), zi0), (39, .ireturn, ([], 0, 0, []), zi0), (40, .aload 4, ([], 0, 0, []), zi0), (42, .invokevirtual 155, ([0, 0, 210], 0, 0, []), mi_PM_points), (45, .aload 5, ([], 0, 0, []), zi0), (47, .invokevirtual 155, ([0, 0, 210], 0, 0, []), mi_PM_points), (50, .iadd, ([], 0, 0, []), zi0), (51, .bipush 6, ([], nI 6, 0, []), zi0), (53, .if_icmp .le 6, ([59], 0, 0, []), zi0), (56, .ldc 159, ([1, 128], (-1000004), 0, []), zi0), (58, .ireturn, ([], 0, 0, []), zi0), (59, .aload_n 0, ([0], 0, 0, []), zi0), (60, .getfield 31, ([2, 4, 0, 144], 0, 0, []), zi0), (63, .aload 4, ([], 0, 0, []), zi0), (65, .aload 5, ([], 0, 0, []), zi0), (67, .invokevirtual 160, ([0, 1, 129], 0, 0, []), mi_PM_becomeUnion), (70, .aload_n 0, ([0], 0, 0, []), zi0), (71, .iload_n 3, ([3], 0, 0, []), zi0), (72, .invokevirtual 83, ([2, 0, 202], 0, 0, []), mi_T_keepMade), (75, .ireturn, ([], 0, 0, []), zi0)]
def cu_T_unite : List (Nat × List Nat) := []
set_option maxRecDepth 100000 in
theorem oc_T_unite : cd_T_unite.all (zchk mi_T_unite) = true := by decide +kernel
set_option maxRecDepth 100000 in
theorem ow_T_unite : zWs mi_T_unite cd_T_unite := ⟨trivial, trivial, ⟨rfl, rfl, mv_T_mapAt⟩, trivial, trivial, trivial, ⟨rfl, rfl, mv_T_mapAt⟩, trivial, trivial, ⟨rfl, rfl, mv_PM_isEmpty⟩, trivial, trivial, ⟨rfl, rfl, mv_PM_isEmpty⟩, trivial, trivial, ⟨rfl, ms_T_isPlace⟩, trivial, rfl, trivial, trivial, ⟨rfl, rfl, mv_PM_points⟩, trivial, ⟨rfl, rfl, mv_PM_points⟩, trivial, trivial, trivial, rfl, trivial, trivial, rfl, trivial, trivial, ⟨rfl, rfl, mv_PM_becomeUnion⟩, trivial, trivial, ⟨rfl, rfl, mv_T_keepMade⟩, trivial, trivial⟩
theorem ok_T_unite : zgood2 mi_T_unite cd_T_unite := ⟨oc_T_unite, ow_T_unite⟩
def cd_T_whole : List ZE := [(0, .aload_n 0, ([0], 0, 0, []), zi0), (1, .iload_n 1, ([1], 0, 0, []), zi0), (2, .invokevirtual 123, ([2, 1, 65], 0, 0, []), mi_T_mapAt), (5, .astore_n 3, ([3], 0, 0, []), zi0), (6, .aload_n 3, ([3], 0, 0, []), zi0), (7, .invokevirtual 143, ([0, 1, 86], 0, 0, []), mi_PM_isEmpty), (10, .ifCond .eq 6, ([16], 0, 0, []), zi0), (13, .ldc 73, ([0, 181], (-1000001), 0, []), zi0), (15, .ireturn, ([], 0, 0, []), zi0), (16, .iload_n 2, ([2], 0, 0, []), zi0), (17, .tableswitch 193 0 14 #[75, 80, 96, 101, 109, 117, 125, 133, 141, 146, 155, 164, 174, 179, 184], ([210, 75], 0, 0, [(nI 0, 92), (nI 1, 97), (nI 2, 113), (nI 3, 118), (nI 4, 126), (nI 5, 134), (nI 6, 142), (nI 7, 150), (nI 8, 158), (nI 9, 163), (nI 10, 172), (nI 11, 181), (nI 12, 191), (nI 13, 196), (nI 14, 201)]), zi0), (92, .aload_n 3, ([3], 0, 0, []), zi0), (93, .invokevirtual 155, ([0, 0, 210], 0, 0, []), mi_PM_points), (96, .ireturn, ([], 0, 0, []), zi0), (97, .aload_n 3, ([3], 0, 0, []), zi0), (98, .invokestatic 191, ([0, 1, 203], 0, 0, []), mi_CH_brokenTriples), (101, .ifCond .ne 7, ([108], 0, 0, []), zi0), (104, .iconst 1, ([], nI 1, 0, []), zi0), (105, .goto 4, ([109], 0, 0, []), zi0), (108, .iconst 0, ([], nI 0, 0, []), zi0), (109, .invokestatic 195, ([0, 1, 217], 0, 0, []), mi_T_oneIf), (112, .ireturn, ([], 0, 0, []), zi0), (113, .aload_n 3, ([3], 0, 0, []), zi0), (114, .invokestatic 191, ([0, 1, 203], 0, 0, []), mi_CH_brokenTriples), (117, .ireturn, ([], 0, 0, []), zi0), (118, .aload_n 3, ([3], 0, 0, []), zi0), (119, .invokestatic 166, ([0, 1, 156], 0, 0, []), mi_CH_isBijective), (122, .invokestatic 195, ([0, 1, 217], 0, 0, []), mi_T_oneIf), (125, .ireturn, ([], 0, 0, []), zi0), (126, .aload_n 3, ([3], 0, 0, []), zi0), (127, .invokestatic 199, ([0, 1, 218], 0, 0, []), mi_CH_isInvolutive), (130, .invokestatic 195, ([0, 1, 217], 0, 0, []), mi_T_oneIf), (133, .ireturn, ([], 0, 0, []), zi0), (134, .aload_n 3, ([3], 0, 0, []), zi0), (135, .invokestatic 202, ([0, 1, 221], 0, 0, []), mi_CH_isLeftNondegenerate), (138, .invokestatic 195, ([0, 1, 217], 0, 0, []), mi_T_oneIf), (141, .ireturn, ([], 0, 0, []), zi0), (142, .aload_n 3, ([3], 0, 0, []), zi0), (143, .invokestatic 205, ([0, 1, 225], 0, 0, []), mi_CH_isRightNondegenerate), (146, .invokestatic 195, ([0, 1, 217], 0, 0, []), mi_T_oneIf), (149, .ireturn, ([], 0, 0, []), zi0), (150, .aload_n 3, ([3], 0, 0, []), zi0), (151, .invokestatic 208, ([0, 1, 229], 0, 0, []), mi_CH_isSquareFree), (154, .invokestatic 195, ([0, 1, 217], 0, 0, []), mi_T_oneIf), (157, .ireturn, ([], 0, 0, []), zi0), (158, .aload_n 3, ([3], 0, 0, []), zi0), (159, .invokestatic 211, ([0, 1, 232], 0, 0, []), mi_CH_orbits), (162, .ireturn, ([], 0, 0, []), zi0), (163, .aload_n 0, ([0], 0, 0, []), zi0), (164, .getfield 37, ([2, 5, 0, 145], 0, 0, []), zi0), (167, .aload_n 3, ([3], 0, 0, []), zi0), (168, .invokevirtual 214, ([3, 2, 4], 0, 0, []), mi_AC_levelOf), (171, .ireturn, ([], 0, 0, []), zi0), (172, .aload_n 0, ([0], 0, 0, []), zi0), (173, .getfield 51, ([2, 7, 0, 147], 0, 0, []), zi0), (176, .aload_n 3, ([3], 0, 0, []), zi0), (177, .invokevirtual 217, ([5, 2, 11], 0, 0, []), mi_RG_orderFor), (180, .ireturn, ([], 0, 0, []), zi0), (181, .aload_n 0, ([0], 0, 0, []), zi0), (182, .getfield 44, ([2, 6, 0, 146], 0, 0, []), zi0), (185, .aload_n 3, ([3], 0, 0, []), zi0), (186, .aload_n 3, ([3], 0, 0, []), zi0), (187, .invokevirtual 220, ([4, 2, 30], 0, 0, []), mi_RN_isomorphisms), (190, .ireturn, ([], 0, 0, []), zi0), (191, .aload_n 3, ([3], 0, 0, []), zi0), (192, .invokestatic 224, ([0, 2, 61], 0, 0, []), mi_CH_periodOf), (195, .ireturn, ([], 0, 0, []), zi0), (196, .aload_n 3, ([3], 0, 0, []), zi0), (197, .invokestatic 227, ([0, 2, 71], 0, 0, []), mi_CH_closedSets), (200, .ireturn, ([], 0, 0, []), zi0), (201, .aload_n 3, ([3], 0, 0, []), zi0), (202, .aload_n 0, ([0], 0, 0, []), zi0), (203, .getfield 44, ([2, 6, 0, 146], 0, 0, []), zi0), (206, .invokestatic 230, ([0, 2, 77], 0, 0, []), mi_SL_indexOf), (209, .ireturn, ([], 0, 0, []), zi0), (210, .ldc 78, ([0, 182], (-1000002), 0, []), zi0), (212, .ireturn, ([], 0, 0, []), zi0)]
def cu_T_whole : List (Nat × List Nat) := []
set_option maxRecDepth 100000 in
theorem oc_T_whole : cd_T_whole.all (zchk mi_T_whole) = true := by decide +kernel
set_option maxRecDepth 100000 in
theorem ow_T_whole : zWs mi_T_whole cd_T_whole := ⟨trivial, trivial, ⟨rfl, rfl, mv_T_mapAt⟩, trivial, trivial, ⟨rfl, rfl, mv_PM_isEmpty⟩, trivial, rfl, trivial, trivial, trivial, trivial, ⟨rfl, rfl, mv_PM_points⟩, trivial, trivial, ⟨rfl, ms_CH_brokenTriples⟩, trivial, trivial, trivial, trivial, ⟨rfl, ms_T_oneIf⟩, trivial, trivial, ⟨rfl, ms_CH_brokenTriples⟩, trivial, trivial, ⟨rfl, ms_CH_isBijective⟩, ⟨rfl, ms_T_oneIf⟩, trivial, trivial, ⟨rfl, ms_CH_isInvolutive⟩, ⟨rfl, ms_T_oneIf⟩, trivial, trivial, ⟨rfl, ms_CH_isLeftNondegenerate⟩, ⟨rfl, ms_T_oneIf⟩, trivial, trivial, ⟨rfl, ms_CH_isRightNondegenerate⟩, ⟨rfl, ms_T_oneIf⟩, trivial, trivial, ⟨rfl, ms_CH_isSquareFree⟩, ⟨rfl, ms_T_oneIf⟩, trivial, trivial, ⟨rfl, ms_CH_orbits⟩, trivial, trivial, rfl, trivial, ⟨rfl, rfl, mv_AC_levelOf⟩, trivial, trivial, rfl, trivial, ⟨rfl, rfl, mv_RG_orderFor⟩, trivial, trivial, rfl, trivial, trivial, ⟨rfl, rfl, mv_RN_isomorphisms⟩, trivial, trivial, ⟨rfl, ms_CH_periodOf⟩, trivial, trivial, ⟨rfl, ms_CH_closedSets⟩, trivial, trivial, trivial, rfl, ⟨rfl, ms_SL_indexOf⟩, trivial, rfl, trivial, trivial⟩
theorem ok_T_whole : zgood2 mi_T_whole cd_T_whole := ⟨oc_T_whole, ow_T_whole⟩
end
section
def cd_R_asNumber : List ZE := [(0, .iload_n 0, ([0], 0, 0, []), zi0), (1, .ifCond .eq 7, ([8], 0, 0, []), zi0), (4, .iconst 1, ([], nI 1, 0, []), zi0), (5, .goto 4, ([9], 0, 0, []), zi0), (8, .iconst 0, ([], nI 0, 0, []), zi0), (9, .ireturn, ([], 0, 0, []), zi0)]
def cu_R_asNumber : List (Nat × List Nat) := []
set_option maxRecDepth 100000 in
theorem oc_R_asNumber : cd_R_asNumber.all (zchk mi_R_asNumber) = true := by decide +kernel
set_option maxRecDepth 100000 in
theorem ow_R_asNumber : zWs mi_R_asNumber cd_R_asNumber := ⟨trivial, trivial, trivial, trivial, trivial, trivial, trivial⟩
theorem ok_R_asNumber : zgood2 mi_R_asNumber cd_R_asNumber := ⟨oc_R_asNumber, ow_R_asNumber⟩
def cd_R_commonOf : List ZE := [(0, .iload_n 0, ([0], 0, 0, []), zi0), (1, .istore_n 2, ([2], 0, 0, []), zi0), (2, .iload_n 1, ([1], 0, 0, []), zi0), (3, .istore_n 3, ([3], 0, 0, []), zi0), (4, .iload_n 3, ([3], 0, 0, []), zi0), (5, .ifCond .eq 16, ([21], 0, 0, []), zi0), (8, .iload_n 2, ([2], 0, 0, []), zi0), (9, .iload_n 3, ([3], 0, 0, []), zi0), (10, .irem, ([], 0, 0, []), zi0), (11, .istore 4, ([], 0, 0, []), zi0), (13, .iload_n 3, ([3], 0, 0, []), zi0), (14, .istore_n 2, ([2], 0, 0, []), zi0), (15, .iload 4, ([], 0, 0, []), zi0), (17, .istore_n 3, ([3], 0, 0, []), zi0), (18, .goto (-14), ([4], 0, 0, []), zi0), (21, .iload_n 2, ([2], 0, 0, []), zi0), (22, .ireturn, ([], 0, 0, []), zi0)]
def cu_R_commonOf : List (Nat × List Nat) := [(4, [2, 3])]
set_option maxRecDepth 100000 in
theorem oc_R_commonOf : cd_R_commonOf.all (zchk mi_R_commonOf) = true := by decide +kernel
set_option maxRecDepth 100000 in
theorem ow_R_commonOf : zWs mi_R_commonOf cd_R_commonOf := ⟨trivial, trivial, trivial, trivial, trivial, trivial, trivial, trivial, trivial, trivial, trivial, trivial, trivial, trivial, trivial, trivial, trivial, trivial⟩
theorem ok_R_commonOf : zgood2 mi_R_commonOf cd_R_commonOf := ⟨oc_R_commonOf, ow_R_commonOf⟩
def cd_R_copies : List ZE := [(0, .aload_n 0, ([0], 0, 0, []), zi0), (1, .getfield 7, ([8, 0, 3, 126], 0, 0, []), zi0), (4, .iload_n 2, ([2], 0, 0, []), zi0), (5, .aload_n 0, ([0], 0, 0, []), zi0), (6, .getfield 7, ([8, 0, 3, 126], 0, 0, []), zi0), (9, .iload_n 1, ([1], 0, 0, []), zi0), (10, .iaload, ([], 0, 0, []), zi0), (11, .iastore, ([], 0, 0, []), zi0), (12, .iconst 0, ([], nI 0, 0, []), zi0), (13, .istore_n 3, ([3], 0, 0, []), zi0), (14, .iload_n 3, ([3], 0, 0, []), zi0), (15, .bipush 36, ([], nI 36, 0, []), zi0), (17, .if_icmp .ge 53, ([70], 0, 0, []), zi0), (20, .aload_n 0, ([0], 0, 0, []), zi0), (21, .getfield 13, ([8, 1, 3, 127], 0, 0, []), zi0), (24, .bipush 36, ([], nI 36, 0, []), zi0), (26, .iload_n 2, ([2], 0, 0, []), zi0), (27, .imul, ([], 0, 0, []), zi0), (28, .iload_n 3, ([3], 0, 0, []), zi0), (29, .iadd, ([], 0, 0, []), zi0), (30, .aload_n 0, ([0], 0, 0, []), zi0), (31, .getfield 13, ([8, 1, 3, 127], 0, 0, []), zi0), (34, .bipush 36, ([], nI 36, 0, []), zi0), (36, .iload_n 1, ([1], 0, 0, []), zi0), (37, .imul, ([], 0, 0, []), zi0), (38, .iload_n 3, ([3], 0, 0, []), zi0), (39, .iadd, ([], 0, 0, []), zi0), (40, .iaload, ([], 0, 0, []), zi0), (41, .iastore, ([], 0, 0, []), zi0), (42, .aload_n 0, ([0], 0, 0, []), zi0), (43, .getfield 16, ([8, 2, 3, 128], 0, 0, []), zi0), (46, .bipush 36, ([], nI 36, 0, []), zi0), (48, .iload_n 2, ([2], 0, 0, []), zi0), (49, .imul, ([], 0, 0, []), zi0), (50, .iload_n 3, ([3], 0, 0, []), zi0), (51, .iadd, ([], 0, 0, []), zi0), (52, .aload_n 0, ([0], 0, 0, []), zi0), (53, .getfield 16, ([8, 2, 3, 128], 0, 0, []), zi0), (56, .bipush 36, ([], nI 36, 0, []), zi0), (58, .iload_n 1, ([1], 0, 0, []), zi0), (59, .imul, ([], 0, 0, []), zi0), (60, .iload_n 3, ([3], 0, 0, []), zi0), (61, .iadd, ([], 0, 0, []), zi0), (62, .iaload, ([], 0, 0, []), zi0), (63, .iastore, ([], 0, 0, []), zi0), (64, .iinc 3 1, ([], nI 1, 0, []), zi0), (67, .goto (-53), ([14], 0, 0, []), zi0), (70, .return_, ([], 0, 0, []), zi0)]
def cu_R_copies : List (Nat × List Nat) := [(14, [0, 1, 2, 3])]
set_option maxRecDepth 100000 in
theorem oc_R_copies : cd_R_copies.all (zchk mi_R_copies) = true := by decide +kernel
set_option maxRecDepth 100000 in
theorem ow_R_copies : zWs mi_R_copies cd_R_copies := ⟨trivial, rfl, trivial, trivial, rfl, trivial, trivial, trivial, trivial, trivial, trivial, trivial, trivial, trivial, rfl, trivial, trivial, trivial, trivial, trivial, trivial, rfl, trivial, trivial, trivial, trivial, trivial, trivial, trivial, trivial, rfl, trivial, trivial, trivial, trivial, trivial, trivial, rfl, trivial, trivial, trivial, trivial, trivial, trivial, trivial, trivial, trivial, trivial, trivial⟩
theorem ok_R_copies : zgood2 mi_R_copies cd_R_copies := ⟨oc_R_copies, ow_R_copies⟩
def cd_R_count : List ZE := [(0, .iconst 0, ([], nI 0, 0, []), zi0), (1, .istore_n 2, ([2], 0, 0, []), zi0), (2, .iload_n 1, ([1], 0, 0, []), zi0), (3, .tableswitch 98 0 3 #[29, 61, 89, 89], ([101, 29], 0, 0, [(nI 0, 32), (nI 1, 64), (nI 2, 92), (nI 3, 92)]), zi0), (32, .iconst 0, ([], nI 0, 0, []), zi0), (33, .istore_n 3, ([3], 0, 0, []), zi0), (34, .iload_n 3, ([3], 0, 0, []), zi0), (35, .iconst 4, ([], nI 4, 0, []), zi0), (36, .if_icmp .ge 26, ([62], 0, 0, []), zi0), (39, .iload_n 2, ([2], 0, 0, []), zi0), (40, .aload_n 0, ([0], 0, 0, []), zi0), (41, .getfield 7, ([8, 0, 3, 126], 0, 0, []), zi0), (44, .iload_n 3, ([3], 0, 0, []), zi0), (45, .iaload, ([], 0, 0, []), zi0), (46, .ifCond .le 7, ([53], 0, 0, []), zi0), (49, .iconst 1, ([], nI 1, 0, []), zi0), (50, .goto 4, ([54], 0, 0, []), zi0), (53, .iconst 0, ([], nI 0, 0, []), zi0), (54, .iadd, ([], 0, 0, []), zi0), (55, .istore_n 2, ([2], 0, 0, []), zi0), (56, .iinc 3 1, ([], nI 1, 0, []), zi0), (59, .goto (-25), ([34], 0, 0, []), zi0), (62, .iload_n 2, ([2], 0, 0, []), zi0), (63, .ireturn, ([], 0, 0, []), zi0), (64, .aload_n 0, ([0], 0, 0, []), zi0), (65, .getfield 7, ([8, 0, 3, 126], 0, 0, []), zi0), (68, .iconst 0, ([], nI 0, 0, []), zi0), (69, .iaload, ([], 0, 0, []), zi0), (70, .aload_n 0, ([0], 0, 0, []), zi0), (71, .getfield 7, ([8, 0, 3, 126], 0, 0, []), zi0), (74, .iconst 1, ([], nI 1, 0, []), zi0), (75, .iaload, ([], 0, 0, []), zi0), (76, .iadd, ([], 0, 0, []), zi0), (77, .aload_n 0, ([0], 0, 0, []), zi0), (78, .getfield 7, ([8, 0, 3, 126], 0, 0, []), zi0), (81, .iconst 2, ([], nI 2, 0, []), zi0), (82, .iaload, ([], 0, 0, []), zi0), (83, .iadd, ([], 0, 0, []), zi0), (84, .aload_n 0, ([0], 0, 0, []), zi0), (85, .getfield 7, ([8, 0, 3, 126], 0, 0, []), zi0), (88, .iconst 3, ([], nI 3, 0, []), zi0), (89, .iaload, ([], 0, 0, []), zi0), (90, .iadd, ([], 0, 0, []), zi0), (91, .ireturn, ([], 0, 0, []), zi0), (92, .aload_n 0, ([0], 0, 0, []), zi0), (93, .getfield 59, ([8, 17, 3, 143], 0, 0, []), zi0), (96, .iload_n 1, ([1], 0, 0, []), zi0), (97, .iconst 2, ([], nI 2, 0, []), zi0), (98, .isub, ([], 0, 0, []), zi0), (99, .iaload, ([], 0, 0, []), zi0), (100, .ireturn, ([], 0, 0, []), zi0), (101, .ldc 91, ([3, 194], (-1000002), 0, []), zi0), (103, .ireturn, ([], 0, 0, []), zi0)]
def cu_R_count : List (Nat × List Nat) := [(34, [0, 2, 3])]
set_option maxRecDepth 100000 in
theorem oc_R_count : cd_R_count.all (zchk mi_R_count) = true := by decide +kernel
set_option maxRecDepth 100000 in
theorem ow_R_count : zWs mi_R_count cd_R_count := ⟨trivial, trivial, trivial, trivial, trivial, trivial, trivial, trivial, trivial, trivial, trivial, rfl, trivial, trivial, trivial, trivial, trivial, trivial, trivial, trivial, trivial, trivial, trivial, trivial, trivial, rfl, trivial, trivial, trivial, rfl, trivial, trivial, trivial, trivial, rfl, trivial, trivial, trivial, trivial, rfl, trivial, trivial, trivial, trivial, trivial, rfl, trivial, trivial, trivial, trivial, trivial, rfl, trivial, trivial⟩
theorem ok_R_count : zgood2 mi_R_count cd_R_count := ⟨oc_R_count, ow_R_count⟩
def cd_R_digit : List ZE := [(0, .iload_n 0, ([0], 0, 0, []), zi0), (1, .iconst 3, ([], nI 3, 0, []), zi0), (2, .iload_n 1, ([1], 0, 0, []), zi0), (3, .imul, ([], 0, 0, []), zi0), (4, .ishr, ([], 0, 0, []), zi0), (5, .bipush 7, ([], nI 7, 0, []), zi0), (7, .iand, ([], 0, 0, []), zi0), (8, .ireturn, ([], 0, 0, []), zi0)]
def cu_R_digit : List (Nat × List Nat) := []
set_option maxRecDepth 100000 in
theorem oc_R_digit : cd_R_digit.all (zchk mi_R_digit) = true := by decide +kernel
set_option maxRecDepth 100000 in
theorem ow_R_digit : zWs mi_R_digit cd_R_digit := ⟨trivial, trivial, trivial, trivial, trivial, trivial, trivial, trivial, trivial⟩
theorem ok_R_digit : zgood2 mi_R_digit cd_R_digit := ⟨oc_R_digit, ow_R_digit⟩
def cd_R_firstName : List ZE := [(0, .iconst 0, ([], nI 0, 0, []), zi0), (1, .istore_n 2, ([2], 0, 0, []), zi0), (2, .iload_n 2, ([2], 0, 0, []), zi0), (3, .iload_n 1, ([1], 0, 0, []), zi0), (4, .if_icmp .ge 16, ([20], 0, 0, []), zi0), (7, .aload_n 0, ([0], 0, 0, []), zi0), (8, .getfield 19, ([8, 3, 3, 129], 0, 0, []), zi0), (11, .iload_n 2, ([2], 0, 0, []), zi0), (12, .iload_n 2, ([2], 0, 0, []), zi0), (13, .iastore, ([], 0, 0, []), zi0), (14, .iinc 2 1, ([], nI 1, 0, []), zi0), (17, .goto (-15), ([2], 0, 0, []), zi0), (20, .return_, ([], 0, 0, []), zi0)]
def cu_R_firstName : List (Nat × List Nat) := [(2, [0, 1, 2])]
set_option maxRecDepth 100000 in
theorem oc_R_firstName : cd_R_firstName.all (zchk mi_R_firstName) = true := by decide +kernel
set_option maxRecDepth 100000 in
theorem ow_R_firstName : zWs mi_R_firstName cd_R_firstName := ⟨trivial, trivial, trivial, trivial, trivial, trivial, rfl, trivial, trivial, trivial, trivial, trivial, trivial, trivial⟩
theorem ok_R_firstName : zgood2 mi_R_firstName cd_R_firstName := ⟨oc_R_firstName, ow_R_firstName⟩
def cd_R_in : List ZE := [(0, .lload_n 0, ([0], 0, 0, []), zi0), (1, .lload_n 2, ([2], 0, 0, []), zi0), (2, .lcmp, ([], 0, 0, []), zi0), (3, .ifCond .lt 14, ([17], 0, 0, []), zi0), (6, .lload_n 0, ([0], 0, 0, []), zi0), (7, .lload 4, ([], 0, 0, []), zi0), (9, .lcmp, ([], 0, 0, []), zi0), (10, .ifCond .gt 7, ([17], 0, 0, []), zi0), (13, .iconst 1, ([], nI 1, 0, []), zi0), (14, .goto 4, ([18], 0, 0, []), zi0), (17, .iconst 0, ([], nI 0, 0, []), zi0), (18, .ireturn, ([], 0, 0, []), zi0)]
def cu_R_in : List (Nat × List Nat) := []
set_option maxRecDepth 100000 in
theorem oc_R_in : cd_R_in.all (zchk mi_R_in) = true := by decide +kernel
set_option maxRecDepth 100000 in
theorem ow_R_in : zWs mi_R_in cd_R_in := ⟨trivial, trivial, trivial, trivial, trivial, trivial, trivial, trivial, trivial, trivial, trivial, trivial, trivial⟩
theorem ok_R_in : zgood2 mi_R_in cd_R_in := ⟨oc_R_in, ow_R_in⟩
def cd_R_l : List ZE := [(0, .aload_n 0, ([0], 0, 0, []), zi0), (1, .getfield 13, ([8, 1, 3, 127], 0, 0, []), zi0), (4, .bipush 36, ([], nI 36, 0, []), zi0), (6, .iload_n 1, ([1], 0, 0, []), zi0), (7, .imul, ([], 0, 0, []), zi0), (8, .bipush 6, ([], nI 6, 0, []), zi0), (10, .iload_n 2, ([2], 0, 0, []), zi0), (11, .imul, ([], 0, 0, []), zi0), (12, .iadd, ([], 0, 0, []), zi0), (13, .iload_n 3, ([3], 0, 0, []), zi0), (14, .iadd, ([], 0, 0, []), zi0), (15, .iaload, ([], 0, 0, []), zi0), (16, .ireturn, ([], 0, 0, []), zi0)]
def cu_R_l : List (Nat × List Nat) := []
set_option maxRecDepth 100000 in
theorem oc_R_l : cd_R_l.all (zchk mi_R_l) = true := by decide +kernel
set_option maxRecDepth 100000 in
theorem ow_R_l : zWs mi_R_l cd_R_l := ⟨trivial, rfl, trivial, trivial, trivial, trivial, trivial, trivial, trivial, trivial, trivial, trivial, trivial, trivial⟩
theorem ok_R_l : zgood2 mi_R_l cd_R_l := ⟨oc_R_l, ow_R_l⟩
def cd_R_lay : List ZE := [(0, .aload_n 0, ([0], 0, 0, []), zi0), (1, .getfield 13, ([8, 1, 3, 127], 0, 0, []), zi0), (4, .bipush 36, ([], nI 36, 0, []), zi0), (6, .iload_n 1, ([1], 0, 0, []), zi0), (7, .imul, ([], 0, 0, []), zi0), (8, .bipush 6, ([], nI 6, 0, []), zi0), (10, .iload_n 2, ([2], 0, 0, []), zi0), (11, .imul, ([], 0, 0, []), zi0), (12, .iadd, ([], 0, 0, []), zi0), (13, .iload_n 3, ([3], 0, 0, []), zi0), (14, .iadd, ([], 0, 0, []), zi0), (15, .iload 4, ([], 0, 0, []), zi0), (17, .iastore, ([], 0, 0, []), zi0), (18, .aload_n 0, ([0], 0, 0, []), zi0), (19, .getfield 16, ([8, 2, 3, 128], 0, 0, []), zi0), (22, .bipush 36, ([], nI 36, 0, []), zi0), (24, .iload_n 1, ([1], 0, 0, []), zi0), (25, .imul, ([], 0, 0, []), zi0), (26, .bipush 6, ([], nI 6, 0, []), zi0), (28, .iload_n 2, ([2], 0, 0, []), zi0), (29, .imul, ([], 0, 0, []), zi0), (30, .iadd, ([], 0, 0, []), zi0), (31, .iload_n 3, ([3], 0, 0, []), zi0), (32, .iadd, ([], 0, 0, []), zi0), (33, .iload 5, ([], 0, 0, []), zi0), (35, .iastore, ([], 0, 0, []), zi0), (36, .return_, ([], 0, 0, []), zi0)]
def cu_R_lay : List (Nat × List Nat) := []
set_option maxRecDepth 100000 in
theorem oc_R_lay : cd_R_lay.all (zchk mi_R_lay) = true := by decide +kernel
set_option maxRecDepth 100000 in
theorem ow_R_lay : zWs mi_R_lay cd_R_lay := ⟨trivial, rfl, trivial, trivial, trivial, trivial, trivial, trivial, trivial, trivial, trivial, trivial, trivial, trivial, rfl, trivial, trivial, trivial, trivial, trivial, trivial, trivial, trivial, trivial, trivial, trivial, trivial, trivial⟩
theorem ok_R_lay : zgood2 mi_R_lay cd_R_lay := ⟨oc_R_lay, ow_R_lay⟩
def cd_R_layTuple : List ZE := [(0, .iload_n 1, ([1], 0, 0, []), zi0), (1, .istore 4, ([], 0, 0, []), zi0), (3, .iload_n 3, ([3], 0, 0, []), zi0), (4, .iconst 1, ([], nI 1, 0, []), zi0), (5, .isub, ([], 0, 0, []), zi0), (6, .istore 5, ([], 0, 0, []), zi0), (8, .iload 5, ([], 0, 0, []), zi0), (10, .ifCond .lt 26, ([36], 0, 0, []), zi0), (13, .aload_n 0, ([0], 0, 0, []), zi0), (14, .getfield 28, ([8, 6, 3, 132], 0, 0, []), zi0), (17, .iload 5, ([], 0, 0, []), zi0), (19, .iload 4, ([], 0, 0, []), zi0), (21, .iload_n 2, ([2], 0, 0, []), zi0), (22, .irem, ([], 0, 0, []), zi0), (23, .iastore, ([], 0, 0, []), zi0), (24, .iload 4, ([], 0, 0, []), zi0), (26, .iload_n 2, ([2], 0, 0, []), zi0), (27, .idiv, ([], 0, 0, []), zi0), (28, .istore 4, ([], 0, 0, []), zi0), (30, .iinc 5 (-1), ([], (-1), 0, []), zi0), (33, .goto (-25), ([8], 0, 0, []), zi0), (36, .return_, ([], 0, 0, []), zi0)]
def cu_R_layTuple : List (Nat × List Nat) := [(8, [0, 2, 4, 5])]
set_option maxRecDepth 100000 in
theorem oc_R_layTuple : cd_R_layTuple.all (zchk mi_R_layTuple) = true := by decide +kernel
set_option maxRecDepth 100000 in
theorem ow_R_layTuple : zWs mi_R_layTuple cd_R_layTuple := ⟨trivial, trivial, trivial, trivial, trivial, trivial, trivial, trivial, trivial, rfl, trivial, trivial, trivial, trivial, trivial, trivial, trivial, trivial, trivial, trivial, trivial, trivial, trivial⟩
theorem ok_R_layTuple : zgood2 mi_R_layTuple cd_R_layTuple := ⟨oc_R_layTuple, ow_R_layTuple⟩
def cd_R_nameCode : List ZE := [(0, .iconst 0, ([], nI 0, 0, []), zi0), (1, .istore_n 2, ([2], 0, 0, []), zi0), (2, .iconst 0, ([], nI 0, 0, []), zi0), (3, .istore_n 3, ([3], 0, 0, []), zi0), (4, .iload_n 3, ([3], 0, 0, []), zi0), (5, .iload_n 1, ([1], 0, 0, []), zi0), (6, .if_icmp .ge 22, ([28], 0, 0, []), zi0), (9, .iload_n 2, ([2], 0, 0, []), zi0), (10, .aload_n 0, ([0], 0, 0, []), zi0), (11, .getfield 19, ([8, 3, 3, 129], 0, 0, []), zi0), (14, .iload_n 3, ([3], 0, 0, []), zi0), (15, .iaload, ([], 0, 0, []), zi0), (16, .iconst 3, ([], nI 3, 0, []), zi0), (17, .iload_n 3, ([3], 0, 0, []), zi0), (18, .imul, ([], 0, 0, []), zi0), (19, .ishl, ([], 0, 0, []), zi0), (20, .ior, ([], 0, 0, []), zi0), (21, .istore_n 2, ([2], 0, 0, []), zi0), (22, .iinc 3 1, ([], nI 1, 0, []), zi0), (25, .goto (-21), ([4], 0, 0, []), zi0), (28, .iload_n 2, ([2], 0, 0, []), zi0), (29, .ireturn, ([], 0, 0, []), zi0)]
def cu_R_nameCode : List (Nat × List Nat) := [(4, [0, 1, 2, 3])]
set_option maxRecDepth 100000 in
theorem oc_R_nameCode : cd_R_nameCode.all (zchk mi_R_nameCode) = true := by decide +kernel
set_option maxRecDepth 100000 in
theorem ow_R_nameCode : zWs mi_R_nameCode cd_R_nameCode := ⟨trivial, trivial, trivial, trivial, trivial, trivial, trivial, trivial, trivial, rfl, trivial, trivial, trivial, trivial, trivial, trivial, trivial, trivial, trivial, trivial, trivial, trivial, trivial⟩
theorem ok_R_nameCode : zgood2 mi_R_nameCode cd_R_nameCode := ⟨oc_R_nameCode, ow_R_nameCode⟩
def cd_R_namedAs : List ZE := [(0, .iconst 0, ([], nI 0, 0, []), zi0), (1, .istore_n 3, ([3], 0, 0, []), zi0), (2, .iconst 0, ([], nI 0, 0, []), zi0), (3, .istore 4, ([], 0, 0, []), zi0), (5, .iload 4, ([], 0, 0, []), zi0), (7, .iload_n 1, ([1], 0, 0, []), zi0), (8, .if_icmp .ge 27, ([35], 0, 0, []), zi0), (11, .aload_n 0, ([0], 0, 0, []), zi0), (12, .getfield 19, ([8, 3, 3, 129], 0, 0, []), zi0), (15, .iload 4, ([], 0, 0, []), zi0), (17, .iaload, ([], 0, 0, []), zi0), (18, .iload_n 2, ([2], 0, 0, []), zi0), (19, .if_icmp .ne 8, ([27], 0, 0, []), zi0), (22, .iload 4, ([], 0, 0, []), zi0), (24, .goto 4, ([28], 0, 0, []), zi0), (27, .iload_n 3, ([3], 0, 0, []), zi0), (28, .istore_n 3, ([3], 0, 0, []), zi0), (29, .iinc 4 1, ([], nI 1, 0, []), zi0), (32, .goto (-27), ([5], 0, 0, []), zi0), (35, .iload_n 3, ([3], 0, 0, []), zi0), (36, .ireturn, ([], 0, 0, []), zi0)]
def cu_R_namedAs : List (Nat × List Nat) := [(5, [0, 1, 2, 3, 4])]
set_option maxRecDepth 100000 in
theorem oc_R_namedAs : cd_R_namedAs.all (zchk mi_R_namedAs) = true := by decide +kernel
set_option maxRecDepth 100000 in
theorem ow_R_namedAs : zWs mi_R_namedAs cd_R_namedAs := ⟨trivial, trivial, trivial, trivial, trivial, trivial, trivial, trivial, rfl, trivial, trivial, trivial, trivial, trivial, trivial, trivial, trivial, trivial, trivial, trivial, trivial, trivial⟩
theorem ok_R_namedAs : zgood2 mi_R_namedAs cd_R_namedAs := ⟨oc_R_namedAs, ow_R_namedAs⟩
def cd_R_nextName : List ZE := [(0, .iload_n 1, ([1], 0, 0, []), zi0), (1, .iconst 2, ([], nI 2, 0, []), zi0), (2, .isub, ([], 0, 0, []), zi0), (3, .istore_n 2, ([2], 0, 0, []), zi0), (4, .iload_n 2, ([2], 0, 0, []), zi0), (5, .ifCond .lt 26, ([31], 0, 0, []), zi0), (8, .aload_n 0, ([0], 0, 0, []), zi0), (9, .getfield 19, ([8, 3, 3, 129], 0, 0, []), zi0), (12, .iload_n 2, ([2], 0, 0, []), zi0), (13, .iaload, ([], 0, 0, []), zi0), (14, .aload_n 0, ([0], 0, 0, []), zi0), (15, .getfield 19, ([8, 3, 3, 129], 0, 0, []), zi0), (18, .iload_n 2, ([2], 0, 0, []), zi0), (19, .iconst 1, ([], nI 1, 0, []), zi0), (20, .iadd, ([], 0, 0, []), zi0), (21, .iaload, ([], 0, 0, []), zi0), (22, .if_icmp .le 9, ([31], 0, 0, []), zi0), (25, .iinc 2 (-1), ([], (-1), 0, []), zi0), (28, .goto (-24), ([4], 0, 0, []), zi0), (31, .iload_n 2, ([2], 0, 0, []), zi0), (32, .ifCond .ge 5, ([37], 0, 0, []), zi0), (35, .iconst 0, ([], nI 0, 0, []), zi0), (36, .ireturn, ([], 0, 0, []), zi0), (37, .iload_n 1, ([1], 0, 0, []), zi0), (38, .iconst 1, ([], nI 1, 0, []), zi0), (39, .isub, ([], 0, 0, []), zi0), (40, .istore_n 3, ([3], 0, 0, []), zi0), (41, .aload_n 0, ([0], 0, 0, []), zi0), (42, .getfield 19, ([8, 3, 3, 129], 0, 0, []), zi0), (45, .iload_n 3, ([3], 0, 0, []), zi0), (46, .iaload, ([], 0, 0, []), zi0), (47, .aload_n 0, ([0], 0, 0, []), zi0), (48, .getfield 19, ([8, 3, 3, 129], 0, 0, []), zi0), (51, .iload_n 2, ([2], 0, 0, []), zi0), (52, .iaload, ([], 0, 0, []), zi0), (53, .if_icmp .ge 9, ([62], 0, 0, []), zi0), (56, .iinc 3 (-1), ([], (-1), 0, []), zi0), (59, .goto (-18), ([41], 0, 0, []), zi0), (62, .aload_n 0, ([0], 0, 0, []), zi0), (63, .getfield 19, ([8, 3, 3, 129], 0, 0, []), zi0), (66, .iload_n 2, ([2], 0, 0, []), zi0), (67, .iaload, ([], 0, 0, []), zi0), (68, .istore 4, ([], 0, 0, []), zi0), (70, .aload_n 0, ([0], 0, 0, []), zi0), (71, .getfield 19, ([8, 3, 3, 129], 0, 0, []), zi0), (74, .iload_n 2, ([2], 0, 0, []), zi0), (75, .aload_n 0, ([0], 0, 0, []), zi0), (76, .getfield 19, ([8, 3, 3, 129], 0, 0, []), zi0), (79, .iload_n 3, ([3], 0, 0, []), zi0), (80, .iaload, ([], 0, 0, []), zi0), (81, .iastore, ([], 0, 0, []), zi0), (82, .aload_n 0, ([0], 0, 0, []), zi0), (83, .getfield 19, ([8, 3, 3, 129], 0, 0, []), zi0), (86, .iload_n 3, ([3], 0, 0, []), zi0), (87, .iload 4, ([], 0, 0, []), zi0), (89, .iastore, ([], 0, 0, []), zi0), (90, .iconst 1, ([], nI 1, 0, []), zi0), (91, .istore 5, ([], 0, 0, []), zi0), (93, .iload_n 2, ([2], 0, 0, []), zi0), (94, .iload 5, ([], 0, 0, []), zi0), (96, .iadd, ([], 0, 0, []), zi0), (97, .iload_n 1, ([1], 0, 0, []), zi0), (98, .iload 5, ([], 0, 0, []), zi0), (100, .isub, ([], 0, 0, []), zi0), (101, .if_icmp .ge 49, ([150], 0, 0, []), zi0), (104, .aload_n 0, ([0], 0, 0, []), zi0), (105, .getfield 19, ([8, 3, 3, 129], 0, 0, []), zi0), (108, .iload_n 2, ([2], 0, 0, []), zi0), (109, .iload 5, ([], 0, 0, []), zi0), (111, .iadd, ([], 0, 0, []), zi0), (112, .iaload, ([], 0, 0, []), zi0), (113, .istore 4, ([], 0, 0, []), zi0), (115, .aload_n 0, ([0], 0, 0, []), zi0), (116, .getfield 19, ([8, 3, 3, 129], 0, 0, []), zi0), (119, .iload_n 2, ([2], 0, 0, []), zi0), (120, .iload 5, ([], 0, 0, []), zi0), (122, .iadd, ([], 0, 0, []), zi0), (123, .aload_n 0, ([0], 0, 0, []), zi0), (124, .getfield 19, ([8, 3, 3, 129], 0, 0, []), zi0), (127, .iload_n 1, ([1], 0, 0, []), zi0), (128, .iload 5, ([], 0, 0, []), zi0), (130, .isub, ([], 0, 0, []), zi0), (131, .iaload, ([], 0, 0, []), zi0), (132, .iastore, ([], 0, 0, []), zi0), (133, .aload_n 0, ([0], 0, 0, []), zi0), (134, .getfield 19, ([8, 3, 3, 129], 0, 0, []), zi0), (137, .iload_n 1, ([1], 0, 0, []), zi0), (138, .iload 5, ([], 0, 0, []), zi0), (140, .isub, ([], 0, 0, []), zi0), (141, .iload 4, ([], 0, 0, []), zi0), (143, .iastore, ([], 0, 0, []), zi0), (144, .iinc 5 1, ([], nI 1, 0, []), zi0), (147, .goto (-54), ([93], 0, 0, []), zi0), (150, .iconst 1, ([], nI 1, 0, []), zi0), (151, .ireturn, ([], 0, 0, []), zi0)]
def cu_R_nextName : List (Nat × List Nat) := [(4, [0, 1, 2]), (41, [0, 1, 2, 3]), (93, [0, 1, 2, 5])]
set_option maxRecDepth 100000 in
theorem oc_R_nextName : cd_R_nextName.all (zchk mi_R_nextName) = true := by decide +kernel
set_option maxRecDepth 100000 in
theorem ow_R_nextName : zWs mi_R_nextName cd_R_nextName := ⟨trivial, trivial, trivial, trivial, trivial, trivial, trivial, rfl, trivial, trivial, trivial, rfl, trivial, trivial, trivial, trivial, trivial, trivial, trivial, trivial, trivial, trivial, trivial, trivial, trivial, trivial, trivial, trivial, rfl, trivial, trivial, trivial, rfl, trivial, trivial, trivial, trivial, trivial, trivial, rfl, trivial, trivial, trivial, trivial, rfl, trivial, trivial, rfl, trivial, trivial, trivial, trivial, rfl, trivial, trivial, trivial, trivial, trivial, trivial, trivial, trivial, trivial, trivial, trivial, trivial, trivial, rfl, trivial, trivial, trivial, trivial, trivial, trivial, rfl, trivial, trivial, trivial, trivial, rfl, trivial, trivial, trivial, trivial, trivial, trivial, rfl, trivial, trivial, trivial, trivial, trivial, trivial, trivial, trivial, trivial, trivial⟩
theorem ok_R_nextName : zgood2 mi_R_nextName cd_R_nextName := ⟨oc_R_nextName, ow_R_nextName⟩
def cd_R_r : List ZE := [(0, .aload_n 0, ([0], 0, 0, []), zi0), (1, .getfield 16, ([8, 2, 3, 128], 0, 0, []), zi0), (4, .bipush 36, ([], nI 36, 0, []), zi0), (6, .iload_n 1, ([1], 0, 0, []), zi0), (7, .imul, ([], 0, 0, []), zi0), (8, .bipush 6, ([], nI 6, 0, []), zi0), (10, .iload_n 2, ([2], 0, 0, []), zi0), (11, .imul, ([], 0, 0, []), zi0), (12, .iadd, ([], 0, 0, []), zi0), (13, .iload_n 3, ([3], 0, 0, []), zi0), (14, .iadd, ([], 0, 0, []), zi0), (15, .iaload, ([], 0, 0, []), zi0), (16, .ireturn, ([], 0, 0, []), zi0)]
def cu_R_r : List (Nat × List Nat) := []
set_option maxRecDepth 100000 in
theorem oc_R_r : cd_R_r.all (zchk mi_R_r) = true := by decide +kernel
set_option maxRecDepth 100000 in
theorem ow_R_r : zWs mi_R_r cd_R_r := ⟨trivial, rfl, trivial, trivial, trivial, trivial, trivial, trivial, trivial, trivial, trivial, trivial, trivial, trivial⟩
theorem ok_R_r : zgood2 mi_R_r cd_R_r := ⟨oc_R_r, ow_R_r⟩
def cd_R_rowsTo : List ZE := [(0, .iconst 1, ([], nI 1, 0, []), zi0), (1, .istore_n 2, ([2], 0, 0, []), zi0), (2, .iconst 0, ([], nI 0, 0, []), zi0), (3, .istore_n 3, ([3], 0, 0, []), zi0), (4, .iload_n 3, ([3], 0, 0, []), zi0), (5, .iload_n 1, ([1], 0, 0, []), zi0), (6, .if_icmp .ge 13, ([19], 0, 0, []), zi0), (9, .iload_n 2, ([2], 0, 0, []), zi0), (10, .iload_n 0, ([0], 0, 0, []), zi0), (11, .imul, ([], 0, 0, []), zi0), (12, .istore_n 2, ([2], 0, 0, []), zi0), (13, .iinc 3 1, ([], nI 1, 0, []), zi0), (16, .goto (-12), ([4], 0, 0, []), zi0), (19, .iload_n 2, ([2], 0, 0, []), zi0), (20, .ireturn, ([], 0, 0, []), zi0)]
def cu_R_rowsTo : List (Nat × List Nat) := [(4, [0, 1, 2, 3])]
set_option maxRecDepth 100000 in
theorem oc_R_rowsTo : cd_R_rowsTo.all (zchk mi_R_rowsTo) = true := by decide +kernel
set_option maxRecDepth 100000 in
theorem ow_R_rowsTo : zWs mi_R_rowsTo cd_R_rowsTo := ⟨trivial, trivial, trivial, trivial, trivial, trivial, trivial, trivial, trivial, trivial, trivial, trivial, trivial, trivial, trivial, trivial⟩
theorem ok_R_rowsTo : zgood2 mi_R_rowsTo cd_R_rowsTo := ⟨oc_R_rowsTo, ow_R_rowsTo⟩
def cd_R_times : List ZE := [(0, .iload_n 0, ([0], 0, 0, []), zi0), (1, .ifCond .ne 9, ([10], 0, 0, []), zi0), (4, .iload_n 2, ([2], 0, 0, []), zi0), (5, .iload_n 3, ([3], 0, 0, []), zi0), (6, .iadd, ([], 0, 0, []), zi0), (7, .iload_n 1, ([1], 0, 0, []), zi0), (8, .irem, ([], 0, 0, []), zi0), (9, .ireturn, ([], 0, 0, []), zi0), (10, .iload_n 0, ([0], 0, 0, []), zi0), (11, .iconst 1, ([], nI 1, 0, []), zi0), (12, .if_icmp .ne 7, ([19], 0, 0, []), zi0), (15, .iload_n 2, ([2], 0, 0, []), zi0), (16, .iload_n 3, ([3], 0, 0, []), zi0), (17, .ixor, ([], 0, 0, []), zi0), (18, .ireturn, ([], 0, 0, []), zi0), (19, .iload_n 2, ([2], 0, 0, []), zi0), (20, .iconst 3, ([], nI 3, 0, []), zi0), (21, .idiv, ([], 0, 0, []), zi0), (22, .iconst 1, ([], nI 1, 0, []), zi0), (23, .if_icmp .ne 11, ([34], 0, 0, []), zi0), (26, .iconst 3, ([], nI 3, 0, []), zi0), (27, .iload_n 3, ([3], 0, 0, []), zi0), (28, .iconst 3, ([], nI 3, 0, []), zi0), (29, .irem, ([], 0, 0, []), zi0), (30, .isub, ([], 0, 0, []), zi0), (31, .goto 6, ([37], 0, 0, []), zi0), (34, .iload_n 3, ([3], 0, 0, []), zi0), (35, .iconst 3, ([], nI 3, 0, []), zi0), (36, .irem, ([], 0, 0, []), zi0), (37, .istore 4, ([], 0, 0, []), zi0), (39, .iload_n 2, ([2], 0, 0, []), zi0), (40, .iconst 3, ([], nI 3, 0, []), zi0), (41, .irem, ([], 0, 0, []), zi0), (42, .iload 4, ([], 0, 0, []), zi0), (44, .iadd, ([], 0, 0, []), zi0), (45, .iconst 3, ([], nI 3, 0, []), zi0), (46, .irem, ([], 0, 0, []), zi0), (47, .iconst 3, ([], nI 3, 0, []), zi0), (48, .iload_n 2, ([2], 0, 0, []), zi0), (49, .iconst 3, ([], nI 3, 0, []), zi0), (50, .idiv, ([], 0, 0, []), zi0), (51, .iload_n 3, ([3], 0, 0, []), zi0), (52, .iconst 3, ([], nI 3, 0, []), zi0), (53, .idiv, ([], 0, 0, []), zi0), (54, .iadd, ([], 0, 0, []), zi0), (55, .iconst 2, ([], nI 2, 0, []), zi0), (56, .irem, ([], 0, 0, []), zi0), (57, .imul, ([], 0, 0, []), zi0), (58, .iadd, ([], 0, 0, []), zi0), (59, .ireturn, ([], 0, 0, []), zi0)]
def cu_R_times : List (Nat × List Nat) := []
set_option maxRecDepth 100000 in
theorem oc_R_times : cd_R_times.all (zchk mi_R_times) = true := by decide +kernel
set_option maxRecDepth 100000 in
theorem ow_R_times : zWs mi_R_times cd_R_times := ⟨trivial, trivial, trivial, trivial, trivial, trivial, trivial, trivial, trivial, trivial, trivial, trivial, trivial, trivial, trivial, trivial, trivial, trivial, trivial, trivial, trivial, trivial, trivial, trivial, trivial, trivial, trivial, trivial, trivial, trivial, trivial, trivial, trivial, trivial, trivial, trivial, trivial, trivial, trivial, trivial, trivial, trivial, trivial, trivial, trivial, trivial, trivial, trivial, trivial, trivial, trivial⟩
theorem ok_R_times : zgood2 mi_R_times cd_R_times := ⟨oc_R_times, ow_R_times⟩
def cd_R_tupleCode : List ZE := [(0, .iconst 0, ([], nI 0, 0, []), zi0), (1, .istore_n 2, ([2], 0, 0, []), zi0), (2, .iconst 0, ([], nI 0, 0, []), zi0), (3, .istore_n 3, ([3], 0, 0, []), zi0), (4, .iload_n 3, ([3], 0, 0, []), zi0), (5, .iload_n 1, ([1], 0, 0, []), zi0), (6, .if_icmp .ge 22, ([28], 0, 0, []), zi0), (9, .iload_n 2, ([2], 0, 0, []), zi0), (10, .aload_n 0, ([0], 0, 0, []), zi0), (11, .getfield 28, ([8, 6, 3, 132], 0, 0, []), zi0), (14, .iload_n 3, ([3], 0, 0, []), zi0), (15, .iaload, ([], 0, 0, []), zi0), (16, .iconst 3, ([], nI 3, 0, []), zi0), (17, .iload_n 3, ([3], 0, 0, []), zi0), (18, .imul, ([], 0, 0, []), zi0), (19, .ishl, ([], 0, 0, []), zi0), (20, .ior, ([], 0, 0, []), zi0), (21, .istore_n 2, ([2], 0, 0, []), zi0), (22, .iinc 3 1, ([], nI 1, 0, []), zi0), (25, .goto (-21), ([4], 0, 0, []), zi0), (28, .iload_n 2, ([2], 0, 0, []), zi0), (29, .ireturn, ([], 0, 0, []), zi0)]
def cu_R_tupleCode : List (Nat × List Nat) := [(4, [0, 1, 2, 3])]
set_option maxRecDepth 100000 in
theorem oc_R_tupleCode : cd_R_tupleCode.all (zchk mi_R_tupleCode) = true := by decide +kernel
set_option maxRecDepth 100000 in
theorem ow_R_tupleCode : zWs mi_R_tupleCode cd_R_tupleCode := ⟨trivial, trivial, trivial, trivial, trivial, trivial, trivial, trivial, trivial, rfl, trivial, trivial, trivial, trivial, trivial, trivial, trivial, trivial, trivial, trivial, trivial, trivial, trivial⟩
theorem ok_R_tupleCode : zgood2 mi_R_tupleCode cd_R_tupleCode := ⟨oc_R_tupleCode, ow_R_tupleCode⟩
def cd_R_tupleNumber : List ZE := [(0, .iconst 0, ([], nI 0, 0, []), zi0), (1, .istore_n 3, ([3], 0, 0, []), zi0), (2, .iconst 0, ([], nI 0, 0, []), zi0), (3, .istore 4, ([], 0, 0, []), zi0), (5, .iload 4, ([], 0, 0, []), zi0), (7, .iload_n 2, ([2], 0, 0, []), zi0), (8, .if_icmp .ge 21, ([29], 0, 0, []), zi0), (11, .iload_n 1, ([1], 0, 0, []), zi0), (12, .iload_n 3, ([3], 0, 0, []), zi0), (13, .imul, ([], 0, 0, []), zi0), (14, .aload_n 0, ([0], 0, 0, []), zi0), (15, .getfield 28, ([8, 6, 3, 132], 0, 0, []), zi0), (18, .iload 4, ([], 0, 0, []), zi0), (20, .iaload, ([], 0, 0, []), zi0), (21, .iadd, ([], 0, 0, []), zi0), (22, .istore_n 3, ([3], 0, 0, []), zi0), (23, .iinc 4 1, ([], nI 1, 0, []), zi0), (26, .goto (-21), ([5], 0, 0, []), zi0), (29, .iload_n 3, ([3], 0, 0, []), zi0), (30, .ireturn, ([], 0, 0, []), zi0)]
def cu_R_tupleNumber : List (Nat × List Nat) := [(5, [0, 1, 2, 3, 4])]
set_option maxRecDepth 100000 in
theorem oc_R_tupleNumber : cd_R_tupleNumber.all (zchk mi_R_tupleNumber) = true := by decide +kernel
set_option maxRecDepth 100000 in
theorem ow_R_tupleNumber : zWs mi_R_tupleNumber cd_R_tupleNumber := ⟨trivial, trivial, trivial, trivial, trivial, trivial, trivial, trivial, trivial, trivial, trivial, rfl, trivial, trivial, trivial, trivial, trivial, trivial, trivial, trivial, trivial⟩
theorem ok_R_tupleNumber : zgood2 mi_R_tupleNumber cd_R_tupleNumber := ⟨oc_R_tupleNumber, ow_R_tupleNumber⟩
def cd_R_areAlike : List ZE := [(0, .iconst 1, ([], nI 1, 0, []), zi0), (1, .istore 4, ([], 0, 0, []), zi0), (3, .iconst 0, ([], nI 0, 0, []), zi0), (4, .istore 5, ([], 0, 0, []), zi0), (6, .iload 5, ([], 0, 0, []), zi0), (8, .aload_n 0, ([0], 0, 0, []), zi0), (9, .getfield 7, ([8, 0, 3, 126], 0, 0, []), zi0), (12, .iload_n 1, ([1], 0, 0, []), zi0), (13, .iaload, ([], 0, 0, []), zi0), (14, .if_icmp .ge 59, ([73], 0, 0, []), zi0), (17, .iload 4, ([], 0, 0, []), zi0), (19, .ifCond .eq 45, ([64], 0, 0, []), zi0), (22, .aload_n 0, ([0], 0, 0, []), zi0), (23, .iload_n 1, ([1], 0, 0, []), zi0), (24, .iload_n 2, ([2], 0, 0, []), zi0), (25, .iload 5, ([], 0, 0, []), zi0), (27, .invokevirtual 129, ([8, 4, 24], 0, 0, []), mi_R_l), (30, .aload_n 0, ([0], 0, 0, []), zi0), (31, .iload_n 1, ([1], 0, 0, []), zi0), (32, .iload_n 3, ([3], 0, 0, []), zi0), (33, .iload 5, ([], 0, 0, []), zi0), (35, .invokevirtual 129, ([8, 4, 24], 0, 0, []), mi_R_l), (38, .if_icmp .ne 26, ([64], 0, 0, []), zi0), (41, .aload_n 0, ([0], 0, 0, []), zi0), (42, .iload_n 1, ([1], 0, 0, []), zi0), (43, .iload 5, ([], 0, 0, []), zi0), (45, .iload_n 2, ([2], 0, 0, []), zi0), (46, .invokevirtual 132, ([8, 4, 28], 0, 0, []), mi_R_r), (49, .aload_n 0, ([0], 0, 0, []), zi0), (50, .iload_n 1, ([1], 0, 0, []), zi0), (51, .iload 5, ([], 0, 0, []), zi0), (53, .iload_n 3, ([3], 0, 0, []), zi0), (54, .invokevirtual 132, ([8, 4, 28], 0, 0, []), mi_R_r), (57, .if_icmp .ne 7, ([64], 0, 0, []), zi0), (60, .iconst 1, ([], nI 1, 0, []), zi0), (61, .goto 4, ([65], 0, 0, []), zi0), (64, .iconst 0, ([], nI 0, 0, []), zi0), (65, .istore 4, ([], 0, 0, []), zi0), (67, .iinc 5 1, ([], nI 1, 0, []), zi0), (70, .goto (-64), ([6], 0, 0, []), zi0), (73, .iload 4, ([], 0, 0, []), zi0), (75, .ireturn, ([], 0, 0, []), zi0)]
def cu_R_areAlike : List (Nat × List Nat) := [(6, [0, 1, 2, 3, 4, 5])]
set_option maxRecDepth 100000 in
theorem oc_R_areAlike : cd_R_areAlike.all (zchk mi_R_areAlike) = true := by decide +kernel
set_option maxRecDepth 100000 in
theorem ow_R_areAlike : zWs mi_R_areAlike cd_R_areAlike := ⟨trivial, trivial, trivial, trivial, trivial, trivial, rfl, trivial, trivial, trivial, trivial, trivial, trivial, trivial, trivial, trivial, ⟨rfl, rfl, mv_R_l⟩, trivial, trivial, trivial, trivial, ⟨rfl, rfl, mv_R_l⟩, trivial, trivial, trivial, trivial, trivial, ⟨rfl, rfl, mv_R_r⟩, trivial, trivial, trivial, trivial, ⟨rfl, rfl, mv_R_r⟩, trivial, trivial, trivial, trivial, trivial, trivial, trivial, trivial, trivial, trivial⟩
theorem ok_R_areAlike : zgood2 mi_R_areAlike cd_R_areAlike := ⟨oc_R_areAlike, ow_R_areAlike⟩
def cd_R_backFrom : List ZE := [(0, .iconst 0, ([], nI 0, 0, []), zi0), (1, .istore_n 3, ([3], 0, 0, []), zi0), (2, .iconst 0, ([], nI 0, 0, []), zi0), (3, .istore 4, ([], 0, 0, []), zi0), (5, .iload 4, ([], 0, 0, []), zi0), (7, .iload_n 1, ([1], 0, 0, []), zi0), (8, .if_icmp .ge 27, ([35], 0, 0, []), zi0), (11, .iload_n 0, ([0], 0, 0, []), zi0), (12, .iload_n 1, ([1], 0, 0, []), zi0), (13, .iload_n 2, ([2], 0, 0, []), zi0), (14, .iload 4, ([], 0, 0, []), zi0), (16, .invokestatic 103, ([0, 3, 228], 0, 0, []), mi_R_times), (19, .ifCond .ne 8, ([27], 0, 0, []), zi0), (22, .iload 4, ([], 0, 0, []), zi0), (24, .goto 4, ([28], 0, 0, []), zi0), (27, .iload_n 3, ([3], 0, 0, []), zi0), (28, .istore_n 3, ([3], 0, 0, []), zi0), (29, .iinc 4 1, ([], nI 1, 0, []), zi0), (32, .goto (-27), ([5], 0, 0, []), zi0), (35, .iload_n 3, ([3], 0, 0, []), zi0), (36, .ireturn, ([], 0, 0, []), zi0)]
def cu_R_backFrom : List (Nat × List Nat) := [(5, [0, 1, 2, 3, 4])]
set_option maxRecDepth 100000 in
theorem oc_R_backFrom : cd_R_backFrom.all (zchk mi_R_backFrom) = true := by decide +kernel
set_option maxRecDepth 100000 in
theorem ow_R_backFrom : zWs mi_R_backFrom cd_R_backFrom := ⟨trivial, trivial, trivial, trivial, trivial, trivial, trivial, trivial, trivial, trivial, trivial, ⟨rfl, ms_R_times⟩, trivial, trivial, trivial, trivial, trivial, trivial, trivial, trivial, trivial, trivial⟩
theorem ok_R_backFrom : zgood2 mi_R_backFrom cd_R_backFrom := ⟨oc_R_backFrom, ow_R_backFrom⟩
def cd_R_behind : List ZE := [(0, .iconst 0, ([], nI 0, 0, []), zi0), (1, .istore 4, ([], 0, 0, []), zi0), (3, .iconst 0, ([], nI 0, 0, []), zi0), (4, .istore 5, ([], 0, 0, []), zi0), (6, .iload 5, ([], 0, 0, []), zi0), (8, .aload_n 0, ([0], 0, 0, []), zi0), (9, .getfield 7, ([8, 0, 3, 126], 0, 0, []), zi0), (12, .iload_n 1, ([1], 0, 0, []), zi0), (13, .iaload, ([], 0, 0, []), zi0), (14, .if_icmp .ge 31, ([45], 0, 0, []), zi0), (17, .iload 4, ([], 0, 0, []), zi0), (19, .aload_n 0, ([0], 0, 0, []), zi0), (20, .iload_n 1, ([1], 0, 0, []), zi0), (21, .iload_n 3, ([3], 0, 0, []), zi0), (22, .iload_n 2, ([2], 0, 0, []), zi0), (23, .iload 5, ([], 0, 0, []), zi0), (25, .invokestatic 80, ([0, 3, 214], 0, 0, []), mi_R_digit), (28, .invokevirtual 129, ([8, 4, 24], 0, 0, []), mi_R_l), (31, .iconst 3, ([], nI 3, 0, []), zi0), (32, .iload 5, ([], 0, 0, []), zi0), (34, .imul, ([], 0, 0, []), zi0), (35, .ishl, ([], 0, 0, []), zi0), (36, .ior, ([], 0, 0, []), zi0), (37, .istore 4, ([], 0, 0, []), zi0), (39, .iinc 5 1, ([], nI 1, 0, []), zi0), (42, .goto (-36), ([6], 0, 0, []), zi0), (45, .iload 4, ([], 0, 0, []), zi0), (47, .ireturn, ([], 0, 0, []), zi0)]
def cu_R_behind : List (Nat × List Nat) := [(6, [0, 1, 2, 3, 4, 5])]
set_option maxRecDepth 100000 in
theorem oc_R_behind : cd_R_behind.all (zchk mi_R_behind) = true := by decide +kernel
set_option maxRecDepth 100000 in
theorem ow_R_behind : zWs mi_R_behind cd_R_behind := ⟨trivial, trivial, trivial, trivial, trivial, trivial, rfl, trivial, trivial, trivial, trivial, trivial, trivial, trivial, trivial, trivial, ⟨rfl, ms_R_digit⟩, ⟨rfl, rfl, mv_R_l⟩, trivial, trivial, trivial, trivial, trivial, trivial, trivial, trivial, trivial, trivial, trivial⟩
theorem ok_R_behind : zgood2 mi_R_behind cd_R_behind := ⟨oc_R_behind, ow_R_behind⟩
def cd_R_comes : List ZE := [(0, .aload_n 0, ([0], 0, 0, []), zi0), (1, .iconst 4, ([], nI 4, 0, []), zi0), (2, .iload_n 1, ([1], 0, 0, []), zi0), (3, .invokevirtual 72, ([8, 3, 203], 0, 0, []), mi_R_copies), (6, .aload_n 0, ([0], 0, 0, []), zi0), (7, .getfield 7, ([8, 0, 3, 126], 0, 0, []), zi0), (10, .iload_n 1, ([1], 0, 0, []), zi0), (11, .iaload, ([], 0, 0, []), zi0), (12, .ireturn, ([], 0, 0, []), zi0)]
def cu_R_comes : List (Nat × List Nat) := []
set_option maxRecDepth 100000 in
theorem oc_R_comes : cd_R_comes.all (zchk mi_R_comes) = true := by decide +kernel
set_option maxRecDepth 100000 in
theorem ow_R_comes : zWs mi_R_comes cd_R_comes := ⟨trivial, trivial, trivial, ⟨rfl, rfl, mv_R_copies⟩, trivial, rfl, trivial, trivial, trivial, trivial⟩
theorem ok_R_comes : zgood2 mi_R_comes cd_R_comes := ⟨oc_R_comes, ow_R_comes⟩
def cd_R_comesBackHere : List ZE := [(0, .aload_n 0, ([0], 0, 0, []), zi0), (1, .getfield 7, ([8, 0, 3, 126], 0, 0, []), zi0), (4, .iconst 5, ([], nI 5, 0, []), zi0), (5, .iaload, ([], 0, 0, []), zi0), (6, .istore_n 1, ([1], 0, 0, []), zi0), (7, .iconst 1, ([], nI 1, 0, []), zi0), (8, .istore_n 2, ([2], 0, 0, []), zi0), (9, .iconst 0, ([], nI 0, 0, []), zi0), (10, .istore_n 3, ([3], 0, 0, []), zi0), (11, .iload_n 3, ([3], 0, 0, []), zi0), (12, .iload_n 1, ([1], 0, 0, []), zi0), (13, .iload_n 1, ([1], 0, 0, []), zi0), (14, .imul, ([], 0, 0, []), zi0), (15, .if_icmp .ge 75, ([90], 0, 0, []), zi0), (18, .iload_n 2, ([2], 0, 0, []), zi0), (19, .ifCond .eq 71, ([90], 0, 0, []), zi0), (22, .aload_n 0, ([0], 0, 0, []), zi0), (23, .iconst 5, ([], nI 5, 0, []), zi0), (24, .iload_n 3, ([3], 0, 0, []), zi0), (25, .iload_n 1, ([1], 0, 0, []), zi0), (26, .idiv, ([], 0, 0, []), zi0), (27, .iload_n 3, ([3], 0, 0, []), zi0), (28, .iload_n 1, ([1], 0, 0, []), zi0), (29, .irem, ([], 0, 0, []), zi0), (30, .invokevirtual 129, ([8, 4, 24], 0, 0, []), mi_R_l), (33, .istore 4, ([], 0, 0, []), zi0), (35, .aload_n 0, ([0], 0, 0, []), zi0), (36, .iconst 5, ([], nI 5, 0, []), zi0), (37, .iload_n 3, ([3], 0, 0, []), zi0), (38, .iload_n 1, ([1], 0, 0, []), zi0), (39, .idiv, ([], 0, 0, []), zi0), (40, .iload_n 3, ([3], 0, 0, []), zi0), (41, .iload_n 1, ([1], 0, 0, []), zi0), (42, .irem, ([], 0, 0, []), zi0), (43, .invokevirtual 132, ([8, 4, 28], 0, 0, []), mi_R_r), (46, .istore 5, ([], 0, 0, []), zi0), (48, .aload_n 0, ([0], 0, 0, []), zi0), (49, .iconst 5, ([], nI 5, 0, []), zi0), (50, .iload 4, ([], 0, 0, []), zi0), (52, .iload 5, ([], 0, 0, []), zi0), (54, .invokevirtual 129, ([8, 4, 24], 0, 0, []), mi_R_l), (57, .iload_n 3, ([3], 0, 0, []), zi0), (58, .iload_n 1, ([1], 0, 0, []), zi0), (59, .idiv, ([], 0, 0, []), zi0), (60, .if_icmp .ne 22, ([82], 0, 0, []), zi0), (63, .aload_n 0, ([0], 0, 0, []), zi0), (64, .iconst 5, ([], nI 5, 0, []), zi0), (65, .iload 4, ([], 0, 0, []), zi0), (67, .iload 5, ([], 0, 0, []), zi0), (69, .invokevirtual 132, ([8, 4, 28], 0, 0, []), mi_R_r), (72, .iload_n 3, ([3], 0, 0, []), zi0), (73, .iload_n 1, ([1], 0, 0, []), zi0), (74, .irem, ([], 0, 0, []), zi0), (75, .if_icmp .ne 7, ([82], 0, 0, []), zi0), (78, .iconst 1, ([], nI 1, 0, []), zi0), (79, .goto 4, ([83], 0, 0, []), zi0), (82, .iconst 0, ([], nI 0, 0, []), zi0), (83, .istore_n 2, ([2], 0, 0, []), zi0), (84, .iinc 3 1, ([], nI 1, 0, []), zi0), (87, .goto (-76), ([11], 0, 0, []), zi0), (90, .iload_n 2, ([2], 0, 0, []), zi0), (91, .ireturn, ([], 0, 0, []), zi0)]
def cu_R_comesBackHere : List (Nat × List Nat) := [(11, [0, 1, 2, 3])]
set_option maxRecDepth 100000 in
theorem oc_R_comesBackHere : cd_R_comesBackHere.all (zchk mi_R_comesBackHere) = true := by decide +kernel
set_option maxRecDepth 100000 in
theorem ow_R_comesBackHere : zWs mi_R_comesBackHere cd_R_comesBackHere := ⟨trivial, rfl, trivial, trivial, trivial, trivial, trivial, trivial, trivial, trivial, trivial, trivial, trivial, trivial, trivial, trivial, trivial, trivial, trivial, trivial, trivial, trivial, trivial, trivial, ⟨rfl, rfl, mv_R_l⟩, trivial, trivial, trivial, trivial, trivial, trivial, trivial, trivial, trivial, ⟨rfl, rfl, mv_R_r⟩, trivial, trivial, trivial, trivial, trivial, ⟨rfl, rfl, mv_R_l⟩, trivial, trivial, trivial, trivial, trivial, trivial, trivial, trivial, ⟨rfl, rfl, mv_R_r⟩, trivial, trivial, trivial, trivial, trivial, trivial, trivial, trivial, trivial, trivial, trivial, trivial, trivial⟩
theorem ok_R_comesBackHere : zgood2 mi_R_comesBackHere cd_R_comesBackHere := ⟨oc_R_comesBackHere, ow_R_comesBackHere⟩
def cd_R_crosses : List ZE := [(0, .aload_n 0, ([0], 0, 0, []), zi0), (1, .getfield 28, ([8, 6, 3, 132], 0, 0, []), zi0), (4, .iload_n 2, ([2], 0, 0, []), zi0), (5, .iaload, ([], 0, 0, []), zi0), (6, .istore_n 3, ([3], 0, 0, []), zi0), (7, .aload_n 0, ([0], 0, 0, []), zi0), (8, .getfield 28, ([8, 6, 3, 132], 0, 0, []), zi0), (11, .iload_n 2, ([2], 0, 0, []), zi0), (12, .iconst 1, ([], nI 1, 0, []), zi0), (13, .iadd, ([], 0, 0, []), zi0), (14, .iaload, ([], 0, 0, []), zi0), (15, .istore 4, ([], 0, 0, []), zi0), (17, .aload_n 0, ([0], 0, 0, []), zi0), (18, .getfield 28, ([8, 6, 3, 132], 0, 0, []), zi0), (21, .iload_n 2, ([2], 0, 0, []), zi0), (22, .aload_n 0, ([0], 0, 0, []), zi0), (23, .iload_n 1, ([1], 0, 0, []), zi0), (24, .iload_n 3, ([3], 0, 0, []), zi0), (25, .iload 4, ([], 0, 0, []), zi0), (27, .invokevirtual 129, ([8, 4, 24], 0, 0, []), mi_R_l), (30, .iastore, ([], 0, 0, []), zi0), (31, .aload_n 0, ([0], 0, 0, []), zi0), (32, .getfield 28, ([8, 6, 3, 132], 0, 0, []), zi0), (35, .iload_n 2, ([2], 0, 0, []), zi0), (36, .iconst 1, ([], nI 1, 0, []), zi0), (37, .iadd, ([], 0, 0, []), zi0), (38, .aload_n 0, ([0], 0, 0, []), zi0), (39, .iload_n 1, ([1], 0, 0, []), zi0), (40, .iload_n 3, ([3], 0, 0, []), zi0), (41, .iload 4, ([], 0, 0, []), zi0), (43, .invokevirtual 132, ([8, 4, 28], 0, 0, []), mi_R_r), (46, .iastore, ([], 0, 0, []), zi0), (47, .return_, ([], 0, 0, []), zi0)]
def cu_R_crosses : List (Nat × List Nat) := []
set_option maxRecDepth 100000 in
theorem oc_R_crosses : cd_R_crosses.all (zchk mi_R_crosses) = true := by decide +kernel
set_option maxRecDepth 100000 in
theorem ow_R_crosses : zWs mi_R_crosses cd_R_crosses := ⟨trivial, rfl, trivial, trivial, trivial, trivial, rfl, trivial, trivial, trivial, trivial, trivial, trivial, rfl, trivial, trivial, trivial, trivial, trivial, ⟨rfl, rfl, mv_R_l⟩, trivial, trivial, rfl, trivial, trivial, trivial, trivial, trivial, trivial, trivial, ⟨rfl, rfl, mv_R_r⟩, trivial, trivial, trivial⟩
theorem ok_R_crosses : zgood2 mi_R_crosses cd_R_crosses := ⟨oc_R_crosses, ow_R_crosses⟩
def cd_R_doSquaresStay : List ZE := [(0, .iconst 1, ([], nI 1, 0, []), zi0), (1, .istore_n 2, ([2], 0, 0, []), zi0), (2, .iconst 0, ([], nI 0, 0, []), zi0), (3, .istore_n 3, ([3], 0, 0, []), zi0), (4, .iload_n 3, ([3], 0, 0, []), zi0), (5, .aload_n 0, ([0], 0, 0, []), zi0), (6, .getfield 7, ([8, 0, 3, 126], 0, 0, []), zi0), (9, .iload_n 1, ([1], 0, 0, []), zi0), (10, .iaload, ([], 0, 0, []), zi0), (11, .if_icmp .ge 41, ([52], 0, 0, []), zi0), (14, .iload_n 2, ([2], 0, 0, []), zi0), (15, .ifCond .eq 29, ([44], 0, 0, []), zi0), (18, .aload_n 0, ([0], 0, 0, []), zi0), (19, .iload_n 1, ([1], 0, 0, []), zi0), (20, .iload_n 3, ([3], 0, 0, []), zi0), (21, .iload_n 3, ([3], 0, 0, []), zi0), (22, .invokevirtual 129, ([8, 4, 24], 0, 0, []), mi_R_l), (25, .iload_n 3, ([3], 0, 0, []), zi0), (26, .if_icmp .ne 18, ([44], 0, 0, []), zi0), (29, .aload_n 0, ([0], 0, 0, []), zi0), (30, .iload_n 1, ([1], 0, 0, []), zi0), (31, .iload_n 3, ([3], 0, 0, []), zi0), (32, .iload_n 3, ([3], 0, 0, []), zi0), (33, .invokevirtual 132, ([8, 4, 28], 0, 0, []), mi_R_r), (36, .iload_n 3, ([3], 0, 0, []), zi0), (37, .if_icmp .ne 7, ([44], 0, 0, []), zi0), (40, .iconst 1, ([], nI 1, 0, []), zi0), (41, .goto 4, ([45], 0, 0, []), zi0), (44, .iconst 0, ([], nI 0, 0, []), zi0), (45, .istore_n 2, ([2], 0, 0, []), zi0), (46, .iinc 3 1, ([], nI 1, 0, []), zi0), (49, .goto (-45), ([4], 0, 0, []), zi0), (52, .iload_n 2, ([2], 0, 0, []), zi0), (53, .ireturn, ([], 0, 0, []), zi0)]
def cu_R_doSquaresStay : List (Nat × List Nat) := [(4, [0, 1, 2, 3])]
set_option maxRecDepth 100000 in
theorem oc_R_doSquaresStay : cd_R_doSquaresStay.all (zchk mi_R_doSquaresStay) = true := by decide +kernel
set_option maxRecDepth 100000 in
theorem ow_R_doSquaresStay : zWs mi_R_doSquaresStay cd_R_doSquaresStay := ⟨trivial, trivial, trivial, trivial, trivial, trivial, rfl, trivial, trivial, trivial, trivial, trivial, trivial, trivial, trivial, trivial, ⟨rfl, rfl, mv_R_l⟩, trivial, trivial, trivial, trivial, trivial, trivial, ⟨rfl, rfl, mv_R_r⟩, trivial, trivial, trivial, trivial, trivial, trivial, trivial, trivial, trivial, trivial, trivial⟩
theorem ok_R_doSquaresStay : zgood2 mi_R_doSquaresStay cd_R_doSquaresStay := ⟨oc_R_doSquaresStay, ow_R_doSquaresStay⟩
def cd_R_failsWithin : List ZE := [(0, .aload_n 0, ([0], 0, 0, []), zi0), (1, .getfield 7, ([8, 0, 3, 126], 0, 0, []), zi0), (4, .iconst 5, ([], nI 5, 0, []), zi0), (5, .iaload, ([], 0, 0, []), zi0), (6, .istore 4, ([], 0, 0, []), zi0), (8, .aload_n 0, ([0], 0, 0, []), zi0), (9, .iconst 5, ([], nI 5, 0, []), zi0), (10, .iload_n 1, ([1], 0, 0, []), zi0), (11, .iload_n 2, ([2], 0, 0, []), zi0), (12, .invokevirtual 129, ([8, 4, 24], 0, 0, []), mi_R_l), (15, .istore 5, ([], 0, 0, []), zi0), (17, .iload 4, ([], 0, 0, []), zi0), (19, .istore 6, ([], 0, 0, []), zi0), (21, .iconst 0, ([], nI 0, 0, []), zi0), (22, .istore 7, ([], 0, 0, []), zi0), (24, .iload 7, ([], 0, 0, []), zi0), (26, .iload 4, ([], 0, 0, []), zi0), (28, .if_icmp .ge 37, ([65], 0, 0, []), zi0), (31, .iload 5, ([], 0, 0, []), zi0), (33, .iload_n 3, ([3], 0, 0, []), zi0), (34, .if_icmp .gt 31, ([65], 0, 0, []), zi0), (37, .aload_n 0, ([0], 0, 0, []), zi0), (38, .iconst 5, ([], nI 5, 0, []), zi0), (39, .iload 5, ([], 0, 0, []), zi0), (41, .iload 7, ([], 0, 0, []), zi0), (43, .invokevirtual 129, ([8, 4, 24], 0, 0, []), mi_R_l), (46, .iload_n 1, ([1], 0, 0, []), zi0), (47, .if_icmp .ne 8, ([55], 0, 0, []), zi0), (50, .iload 7, ([], 0, 0, []), zi0), (52, .goto 5, ([57], 0, 0, []), zi0), (55, .iload 6, ([], 0, 0, []), zi0), (57, .istore 6, ([], 0, 0, []), zi0), (59, .iinc 7 1, ([], nI 1, 0, []), zi0), (62, .goto (-38), ([24], 0, 0, []), zi0), (65, .iconst 0, ([], nI 0, 0, []), zi0), (66, .istore 7, ([], 0, 0, []), zi0), (68, .iconst 0, ([], nI 0, 0, []), zi0), (69, .istore 8, ([], 0, 0, []), zi0), (71, .iload 8, ([], 0, 0, []), zi0), (73, .iload 4, ([], 0, 0, []), zi0), (75, .if_icmp .ge 68, ([143], 0, 0, []), zi0), (78, .iload 6, ([], 0, 0, []), zi0), (80, .iload_n 3, ([3], 0, 0, []), zi0), (81, .if_icmp .gt 62, ([143], 0, 0, []), zi0), (84, .aload_n 0, ([0], 0, 0, []), zi0), (85, .iconst 5, ([], nI 5, 0, []), zi0), (86, .iload_n 2, ([2], 0, 0, []), zi0), (87, .iload 8, ([], 0, 0, []), zi0), (89, .invokevirtual 129, ([8, 4, 24], 0, 0, []), mi_R_l), (92, .istore 9, ([], 0, 0, []), zi0), (94, .aload_n 0, ([0], 0, 0, []), zi0), (95, .iconst 5, ([], nI 5, 0, []), zi0), (96, .iload 6, ([], 0, 0, []), zi0), (98, .iload 8, ([], 0, 0, []), zi0), (100, .invokevirtual 129, ([8, 4, 24], 0, 0, []), mi_R_l), (103, .istore 10, ([], 0, 0, []), zi0), (105, .iload 7, ([], 0, 0, []), zi0), (107, .ifCond .ne 23, ([130], 0, 0, []), zi0), (110, .aload_n 0, ([0], 0, 0, []), zi0), (111, .iconst 5, ([], nI 5, 0, []), zi0), (112, .iload_n 1, ([1], 0, 0, []), zi0), (113, .iload 9, ([], 0, 0, []), zi0), (115, .invokevirtual 129, ([8, 4, 24], 0, 0, []), mi_R_l), (118, .aload_n 0, ([0], 0, 0, []), zi0), (119, .iconst 5, ([], nI 5, 0, []), zi0), (120, .iload 5, ([], 0, 0, []), zi0), (122, .iload 10, ([], 0, 0, []), zi0), (124, .invokevirtual 129, ([8, 4, 24], 0, 0, []), mi_R_l), (127, .if_icmp .eq 7, ([134], 0, 0, []), zi0), (130, .iconst 1, ([], nI 1, 0, []), zi0), (131, .goto 4, ([135], 0, 0, []), zi0), (134, .iconst 0, ([], nI 0, 0, []), zi0), (135, .istore 7, ([], 0, 0, []), zi0), (137, .iinc 8 1, ([], nI 1, 0, []), zi0), (140, .goto (-69), ([71], 0, 0, []), zi0), (143, .iload 7, ([], 0, 0, []), zi0), (145, .ireturn, ([], 0, 0, []), zi0)]
def cu_R_failsWithin : List (Nat × List Nat) := [(24, [0, 1, 2, 3, 4, 5, 6, 7]), (71, [0, 1, 2, 3, 4, 5, 6, 7, 8])]
set_option maxRecDepth 100000 in
theorem oc_R_failsWithin : cd_R_failsWithin.all (zchk mi_R_failsWithin) = true := by decide +kernel
set_option maxRecDepth 100000 in
theorem ow_R_failsWithin : zWs mi_R_failsWithin cd_R_failsWithin := ⟨trivial, rfl, trivial, trivial, trivial, trivial, trivial, trivial, trivial, ⟨rfl, rfl, mv_R_l⟩, trivial, trivial, trivial, trivial, trivial, trivial, trivial, trivial, trivial, trivial, trivial, trivial, trivial, trivial, trivial, ⟨rfl, rfl, mv_R_l⟩, trivial, trivial, trivial, trivial, trivial, trivial, trivial, trivial, trivial, trivial, trivial, trivial, trivial, trivial, trivial, trivial, trivial, trivial, trivial, trivial, trivial, trivial, ⟨rfl, rfl, mv_R_l⟩, trivial, trivial, trivial, trivial, trivial, ⟨rfl, rfl, mv_R_l⟩, trivial, trivial, trivial, trivial, trivial, trivial, trivial, ⟨rfl, rfl, mv_R_l⟩, trivial, trivial, trivial, trivial, ⟨rfl, rfl, mv_R_l⟩, trivial, trivial, trivial, trivial, trivial, trivial, trivial, trivial, trivial, trivial⟩
theorem ok_R_failsWithin : zgood2 mi_R_failsWithin cd_R_failsWithin := ⟨oc_R_failsWithin, ow_R_failsWithin⟩
def cd_R_goesBack : List ZE := [(0, .aload_n 0, ([0], 0, 0, []), zi0), (1, .getfield 28, ([8, 6, 3, 132], 0, 0, []), zi0), (4, .iload_n 2, ([2], 0, 0, []), zi0), (5, .iaload, ([], 0, 0, []), zi0), (6, .istore_n 3, ([3], 0, 0, []), zi0), (7, .aload_n 0, ([0], 0, 0, []), zi0), (8, .getfield 28, ([8, 6, 3, 132], 0, 0, []), zi0), (11, .iload_n 2, ([2], 0, 0, []), zi0), (12, .iconst 1, ([], nI 1, 0, []), zi0), (13, .iadd, ([], 0, 0, []), zi0), (14, .iaload, ([], 0, 0, []), zi0), (15, .istore 4, ([], 0, 0, []), zi0), (17, .aload_n 0, ([0], 0, 0, []), zi0), (18, .getfield 7, ([8, 0, 3, 126], 0, 0, []), zi0), (21, .iload_n 1, ([1], 0, 0, []), zi0), (22, .iaload, ([], 0, 0, []), zi0), (23, .istore 5, ([], 0, 0, []), zi0), (25, .iconst 0, ([], nI 0, 0, []), zi0), (26, .istore 6, ([], 0, 0, []), zi0), (28, .iload 6, ([], 0, 0, []), zi0), (30, .iload 5, ([], 0, 0, []), zi0), (32, .iload 5, ([], 0, 0, []), zi0), (34, .imul, ([], 0, 0, []), zi0), (35, .if_icmp .ge 72, ([107], 0, 0, []), zi0), (38, .aload_n 0, ([0], 0, 0, []), zi0), (39, .iload_n 1, ([1], 0, 0, []), zi0), (40, .iload 6, ([], 0, 0, []), zi0), (42, .iload 5, ([], 0, 0, []), zi0), (44, .idiv, ([], 0, 0, []), zi0), (45, .iload 6, ([], 0, 0, []), zi0), (47, .iload 5, ([], 0, 0, []), zi0), (49, .irem, ([], 0, 0, []), zi0), (50, .invokevirtual 129, ([8, 4, 24], 0, 0, []), mi_R_l), (53, .iload_n 3, ([3], 0, 0, []), zi0), (54, .if_icmp .ne 47, ([101], 0, 0, []), zi0), (57, .aload_n 0, ([0], 0, 0, []), zi0), (58, .iload_n 1, ([1], 0, 0, []), zi0), (59, .iload 6, ([], 0, 0, []), zi0), (61, .iload 5, ([], 0, 0, []), zi0), (63, .idiv, ([], 0, 0, []), zi0), (64, .iload 6, ([], 0, 0, []), zi0), (66, .iload 5, ([], 0, 0, []), zi0), (68, .irem, ([], 0, 0, []), zi0), (69, .invokevirtual 132, ([8, 4, 28], 0, 0, []), mi_R_r), (72, .iload 4, ([], 0, 0, []), zi0), (74, .if_icmp .ne 27, ([101], 0, 0, []), zi0), (77, .aload_n 0, ([0], 0, 0, []), zi0), (78, .getfield 28, ([8, 6, 3, 132], 0, 0, []), zi0), (81, .iload_n 2, ([2], 0, 0, []), zi0), (82, .iload 6, ([], 0, 0, []), zi0), (84, .iload 5, ([], 0, 0, []), zi0), (86, .idiv, ([], 0, 0, []), zi0), (87, .iastore, ([], 0, 0, []), zi0), (88, .aload_n 0, ([0], 0, 0, []), zi0), (89, .getfield 28, ([8, 6, 3, 132], 0, 0, []), zi0), (92, .iload_n 2, ([2], 0, 0, []), zi0), (93, .iconst 1, ([], nI 1, 0, []), zi0), (94, .iadd, ([], 0, 0, []), zi0), (95, .iload 6, ([], 0, 0, []), zi0), (97, .iload 5, ([], 0, 0, []), zi0), (99, .irem, ([], 0, 0, []), zi0), (100, .iastore, ([], 0, 0, []), zi0), (101, .iinc 6 1, ([], nI 1, 0, []), zi0), (104, .goto (-76), ([28], 0, 0, []), zi0), (107, .return_, ([], 0, 0, []), zi0)]
def cu_R_goesBack : List (Nat × List Nat) := [(28, [0, 1, 2, 3, 4, 5, 6])]
set_option maxRecDepth 100000 in
theorem oc_R_goesBack : cd_R_goesBack.all (zchk mi_R_goesBack) = true := by decide +kernel
set_option maxRecDepth 100000 in
theorem ow_R_goesBack : zWs mi_R_goesBack cd_R_goesBack := ⟨trivial, rfl, trivial, trivial, trivial, trivial, rfl, trivial, trivial, trivial, trivial, trivial, trivial, rfl, trivial, trivial, trivial, trivial, trivial, trivial, trivial, trivial, trivial, trivial, trivial, trivial, trivial, trivial, trivial, trivial, trivial, trivial, ⟨rfl, rfl, mv_R_l⟩, trivial, trivial, trivial, trivial, trivial, trivial, trivial, trivial, trivial, trivial, ⟨rfl, rfl, mv_R_r⟩, trivial, trivial, trivial, rfl, trivial, trivial, trivial, trivial, trivial, trivial, rfl, trivial, trivial, trivial, trivial, trivial, trivial, trivial, trivial, trivial, trivial, trivial⟩
theorem ok_R_goesBack : zgood2 mi_R_goesBack cd_R_goesBack := ⟨oc_R_goesBack, ow_R_goesBack⟩
def cd_R_isBijective : List ZE := [(0, .lconst 0, ([], 0, lN 0, []), zi0), (1, .lstore_n 2, ([2], 0, 0, []), zi0), (2, .aload_n 0, ([0], 0, 0, []), zi0), (3, .getfield 7, ([8, 0, 3, 126], 0, 0, []), zi0), (6, .iload_n 1, ([1], 0, 0, []), zi0), (7, .iaload, ([], 0, 0, []), zi0), (8, .istore 4, ([], 0, 0, []), zi0), (10, .iconst 0, ([], nI 0, 0, []), zi0), (11, .istore 5, ([], 0, 0, []), zi0), (13, .iload 5, ([], 0, 0, []), zi0), (15, .iload 4, ([], 0, 0, []), zi0), (17, .iload 4, ([], 0, 0, []), zi0), (19, .imul, ([], 0, 0, []), zi0), (20, .if_icmp .ge 48, ([68], 0, 0, []), zi0), (23, .lload_n 2, ([2], 0, 0, []), zi0), (24, .lconst 1, ([], 0, lN 1, []), zi0), (25, .bipush 6, ([], nI 6, 0, []), zi0), (27, .aload_n 0, ([0], 0, 0, []), zi0), (28, .iload_n 1, ([1], 0, 0, []), zi0), (29, .iload 5, ([], 0, 0, []), zi0), (31, .iload 4, ([], 0, 0, []), zi0), (33, .idiv, ([], 0, 0, []), zi0), (34, .iload 5, ([], 0, 0, []), zi0), (36, .iload 4, ([], 0, 0, []), zi0), (38, .irem, ([], 0, 0, []), zi0), (39, .invokevirtual 129, ([8, 4, 24], 0, 0, []), mi_R_l), (42, .imul, ([], 0, 0, []), zi0), (43, .aload_n 0, ([0], 0, 0, []), zi0), (44, .iload_n 1, ([1], 0, 0, []), zi0), (45, .iload 5, ([], 0, 0, []), zi0), (47, .iload 4, ([], 0, 0, []), zi0), (49, .idiv, ([], 0, 0, []), zi0), (50, .iload 5, ([], 0, 0, []), zi0), (52, .iload 4, ([], 0, 0, []), zi0), (54, .irem, ([], 0, 0, []), zi0), (55, .invokevirtual 132, ([8, 4, 28], 0, 0, []), mi_R_r), (58, .iadd, ([], 0, 0, []), zi0), (59, .lshl, ([], 0, 0, []), zi0), (60, .lor, ([], 0, 0, []), zi0), (61, .lstore_n 2, ([2], 0, 0, []), zi0), (62, .iinc 5 1, ([], nI 1, 0, []), zi0), (65, .goto (-52), ([13], 0, 0, []), zi0), (68, .iconst 0, ([], nI 0, 0, []), zi0), (69, .istore 5, ([], 0, 0, []), zi0), (71, .iconst 0, ([], nI 0, 0, []), zi0), (72, .istore 6, ([], 0, 0, []), zi0), (74, .iload 6, ([], 0, 0, []), zi0), (76, .bipush 36, ([], nI 36, 0, []), zi0), (78, .if_icmp .ge 30, ([108], 0, 0, []), zi0), (81, .iload 5, ([], 0, 0, []), zi0), (83, .lload_n 2, ([2], 0, 0, []), zi0), (84, .iload 6, ([], 0, 0, []), zi0), (86, .lshr, ([], 0, 0, []), zi0), (87, .lconst 1, ([], 0, lN 1, []), zi0), (88, .land, ([], 0, 0, []), zi0), (89, .lconst 1, ([], 0, lN 1, []), zi0), (90, .lcmp, ([], 0, 0, []), zi0), (91, .ifCond .ne 7, ([98], 0, 0, []), zi0), (94, .iconst 1, ([], nI 1, 0, []), zi0), (95, .goto 4, ([99], 0, 0, []), zi0), (98, .iconst 0, ([], nI 0, 0, []), zi0), (99, .iadd, ([], 0, 0, []), zi0), (100, .istore 5, ([], 0, 0, []), zi0), (102, .iinc 6 1, ([], nI 1, 0, []), zi0), (105, .goto (-31), ([74], 0, 0, []), zi0), (108, .iload 5, ([], 0, 0, []), zi0), (110, .iload 4, ([], 0, 0, []), zi0), (112, .iload 4, ([], 0, 0, []), zi0), (114, .imul, ([], 0, 0, []), zi0), (115, .if_icmp .ne 7, ([122], 0, 0, []), zi0), (118, .iconst 1, ([], nI 1, 0, []), zi0), (119, .goto 4, ([123], 0, 0, []), zi0), (122, .iconst 0, ([], nI 0, 0, []), zi0), (123, .ireturn, ([], 0, 0, []), zi0)]
def cu_R_isBijective : List (Nat × List Nat) := [(13, [0, 1, 2, 4, 5]), (74, [2, 4, 5, 6])]
set_option maxRecDepth 100000 in
theorem oc_R_isBijective : cd_R_isBijective.all (zchk mi_R_isBijective) = true := by decide +kernel
set_option maxRecDepth 100000 in
theorem ow_R_isBijective : zWs mi_R_isBijective cd_R_isBijective := ⟨trivial, trivial, trivial, rfl, trivial, trivial, trivial, trivial, trivial, trivial, trivial, trivial, trivial, trivial, trivial, trivial, trivial, trivial, trivial, trivial, trivial, trivial, trivial, trivial, trivial, ⟨rfl, rfl, mv_R_l⟩, trivial, trivial, trivial, trivial, trivial, trivial, trivial, trivial, trivial, ⟨rfl, rfl, mv_R_r⟩, trivial, trivial, trivial, trivial, trivial, trivial, trivial, trivial, trivial, trivial, trivial, trivial, trivial, trivial, trivial, trivial, trivial, trivial, trivial, trivial, trivial, trivial, trivial, trivial, trivial, trivial, trivial, trivial, trivial, trivial, trivial, trivial, trivial, trivial, trivial, trivial, trivial, trivial, trivial⟩
theorem ok_R_isBijective : zgood2 mi_R_isBijective cd_R_isBijective := ⟨oc_R_isBijective, ow_R_isBijective⟩
def cd_R_isBraid : List ZE := [(0, .iload_n 0, ([0], 0, 0, []), zi0), (1, .i2l, ([], 0, 0, []), zi0), (2, .lconst 0, ([], 0, lN 0, []), zi0), (3, .lconst 1, ([], 0, lN 1, []), zi0), (4, .invokestatic 64, ([0, 3, 189], 0, 0, []), mi_R_in), (7, .ireturn, ([], 0, 0, []), zi0)]
def cu_R_isBraid : List (Nat × List Nat) := []
set_option maxRecDepth 100000 in
theorem oc_R_isBraid : cd_R_isBraid.all (zchk mi_R_isBraid) = true := by decide +kernel
set_option maxRecDepth 100000 in
theorem ow_R_isBraid : zWs mi_R_isBraid cd_R_isBraid := ⟨trivial, trivial, trivial, trivial, ⟨rfl, ms_R_in⟩, trivial, trivial⟩
theorem ok_R_isBraid : zgood2 mi_R_isBraid cd_R_isBraid := ⟨oc_R_isBraid, ow_R_isBraid⟩
def cd_R_isClosed : List ZE := [(0, .aload_n 0, ([0], 0, 0, []), zi0), (1, .getfield 7, ([8, 0, 3, 126], 0, 0, []), zi0), (4, .iload_n 1, ([1], 0, 0, []), zi0), (5, .iaload, ([], 0, 0, []), zi0), (6, .istore_n 3, ([3], 0, 0, []), zi0), (7, .iconst 1, ([], nI 1, 0, []), zi0), (8, .istore 4, ([], 0, 0, []), zi0), (10, .iconst 0, ([], nI 0, 0, []), zi0), (11, .istore 5, ([], 0, 0, []), zi0), (13, .iload 5, ([], 0, 0, []), zi0), (15, .iload_n 3, ([3], 0, 0, []), zi0), (16, .iload_n 3, ([3], 0, 0, []), zi0), (17, .imul, ([], 0, 0, []), zi0), (18, .if_icmp .ge 89, ([107], 0, 0, []), zi0), (21, .iload_n 2, ([2], 0, 0, []), zi0), (22, .iload 5, ([], 0, 0, []), zi0), (24, .iload_n 3, ([3], 0, 0, []), zi0), (25, .idiv, ([], 0, 0, []), zi0), (26, .ishr, ([], 0, 0, []), zi0), (27, .iload_n 2, ([2], 0, 0, []), zi0), (28, .iload 5, ([], 0, 0, []), zi0), (30, .iload_n 3, ([3], 0, 0, []), zi0), (31, .irem, ([], 0, 0, []), zi0), (32, .ishr, ([], 0, 0, []), zi0), (33, .iand, ([], 0, 0, []), zi0), (34, .iconst 1, ([], nI 1, 0, []), zi0), (35, .iand, ([], 0, 0, []), zi0), (36, .iconst 1, ([], nI 1, 0, []), zi0), (37, .if_icmp .ne 7, ([44], 0, 0, []), zi0), (40, .iconst 1, ([], nI 1, 0, []), zi0), (41, .goto 4, ([45], 0, 0, []), zi0), (44, .iconst 0, ([], nI 0, 0, []), zi0), (45, .istore 6, ([], 0, 0, []), zi0), (47, .iload 4, ([], 0, 0, []), zi0), (49, .ifCond .eq 49, ([98], 0, 0, []), zi0), (52, .iload 6, ([], 0, 0, []), zi0), (54, .ifCond .eq 40, ([94], 0, 0, []), zi0), (57, .iload_n 2, ([2], 0, 0, []), zi0), (58, .aload_n 0, ([0], 0, 0, []), zi0), (59, .iload_n 1, ([1], 0, 0, []), zi0), (60, .iload 5, ([], 0, 0, []), zi0), (62, .iload_n 3, ([3], 0, 0, []), zi0), (63, .idiv, ([], 0, 0, []), zi0), (64, .iload 5, ([], 0, 0, []), zi0), (66, .iload_n 3, ([3], 0, 0, []), zi0), (67, .irem, ([], 0, 0, []), zi0), (68, .invokevirtual 129, ([8, 4, 24], 0, 0, []), mi_R_l), (71, .ishr, ([], 0, 0, []), zi0), (72, .iload_n 2, ([2], 0, 0, []), zi0), (73, .aload_n 0, ([0], 0, 0, []), zi0), (74, .iload_n 1, ([1], 0, 0, []), zi0), (75, .iload 5, ([], 0, 0, []), zi0), (77, .iload_n 3, ([3], 0, 0, []), zi0), (78, .idiv, ([], 0, 0, []), zi0), (79, .iload 5, ([], 0, 0, []), zi0), (81, .iload_n 3, ([3], 0, 0, []), zi0), (82, .irem, ([], 0, 0, []), zi0), (83, .invokevirtual 132, ([8, 4, 28], 0, 0, []), mi_R_r), (86, .ishr, ([], 0, 0, []), zi0), (87, .iand, ([], 0, 0, []), zi0), (88, .iconst 1, ([], nI 1, 0, []), zi0), (89, .iand, ([], 0, 0, []), zi0), (90, .iconst 1, ([], nI 1, 0, []), zi0), (91, .if_icmp .ne 7, ([98], 0, 0, []), zi0), (94, .iconst 1, ([], nI 1, 0, []), zi0), (95, .goto 4, ([99], 0, 0, []), zi0), (98, .iconst 0, ([], nI 0, 0, []), zi0), (99, .istore 4, ([], 0, 0, []), zi0), (101, .iinc 5 1, ([], nI 1, 0, []), zi0), (104, .goto (-91), ([13], 0, 0, []), zi0), (107, .iload 4, ([], 0, 0, []), zi0), (109, .ireturn, ([], 0, 0, []), zi0)]
def cu_R_isClosed : List (Nat × List Nat) := [(13, [0, 1, 2, 3, 4, 5])]
set_option maxRecDepth 100000 in
theorem oc_R_isClosed : cd_R_isClosed.all (zchk mi_R_isClosed) = true := by decide +kernel
set_option maxRecDepth 100000 in
theorem ow_R_isClosed : zWs mi_R_isClosed cd_R_isClosed := ⟨trivial, rfl, trivial, trivial, trivial, trivial, trivial, trivial, trivial, trivial, trivial, trivial, trivial, trivial, trivial, trivial, trivial, trivial, trivial, trivial, trivial, trivial, trivial, trivial, trivial, trivial, trivial, trivial, trivial, trivial, trivial, trivial, trivial, trivial, trivial, trivial, trivial, trivial, trivial, trivial, trivial, trivial, trivial, trivial, trivial, trivial, ⟨rfl, rfl, mv_R_l⟩, trivial, trivial, trivial, trivial, trivial, trivial, trivial, trivial, trivial, trivial, ⟨rfl, rfl, mv_R_r⟩, trivial, trivial, trivial, trivial, trivial, trivial, trivial, trivial, trivial, trivial, trivial, trivial, trivial, trivial, trivial⟩
theorem ok_R_isClosed : zgood2 mi_R_isClosed cd_R_isClosed := ⟨oc_R_isClosed, ow_R_isClosed⟩
def cd_R_isCode : List ZE := [(0, .iload_n 0, ([0], 0, 0, []), zi0), (1, .i2l, ([], 0, 0, []), zi0), (2, .lconst 0, ([], 0, lN 0, []), zi0), (3, .lconst 1, ([], 0, lN 1, []), zi0), (4, .iconst 3, ([], nI 3, 0, []), zi0), (5, .iload_n 1, ([1], 0, 0, []), zi0), (6, .imul, ([], 0, 0, []), zi0), (7, .lshl, ([], 0, 0, []), zi0), (8, .lconst 1, ([], 0, lN 1, []), zi0), (9, .lsub, ([], 0, 0, []), zi0), (10, .invokestatic 64, ([0, 3, 189], 0, 0, []), mi_R_in), (13, .ireturn, ([], 0, 0, []), zi0)]
def cu_R_isCode : List (Nat × List Nat) := []
set_option maxRecDepth 100000 in
theorem oc_R_isCode : cd_R_isCode.all (zchk mi_R_isCode) = true := by decide +kernel
set_option maxRecDepth 100000 in
theorem ow_R_isCode : zWs mi_R_isCode cd_R_isCode := ⟨trivial, trivial, trivial, trivial, trivial, trivial, trivial, trivial, trivial, trivial, ⟨rfl, ms_R_in⟩, trivial, trivial⟩
theorem ok_R_isCode : zgood2 mi_R_isCode cd_R_isCode := ⟨oc_R_isCode, ow_R_isCode⟩
def cd_R_isFirst : List ZE := [(0, .aload_n 0, ([0], 0, 0, []), zi0), (1, .getfield 7, ([8, 0, 3, 126], 0, 0, []), zi0), (4, .iconst 5, ([], nI 5, 0, []), zi0), (5, .iaload, ([], 0, 0, []), zi0), (6, .istore_n 1, ([1], 0, 0, []), zi0), (7, .iconst 1, ([], nI 1, 0, []), zi0), (8, .istore_n 2, ([2], 0, 0, []), zi0), (9, .aload_n 0, ([0], 0, 0, []), zi0), (10, .iload_n 1, ([1], 0, 0, []), zi0), (11, .invokevirtual 168, ([8, 4, 136], 0, 0, []), mi_R_firstName), (14, .iconst 1, ([], nI 1, 0, []), zi0), (15, .istore_n 3, ([3], 0, 0, []), zi0), (16, .iload_n 3, ([3], 0, 0, []), zi0), (17, .ifCond .eq 109, ([126], 0, 0, []), zi0), (20, .iload_n 2, ([2], 0, 0, []), zi0), (21, .ifCond .eq 105, ([126], 0, 0, []), zi0), (24, .iconst 0, ([], nI 0, 0, []), zi0), (25, .istore 4, ([], 0, 0, []), zi0), (27, .iconst 0, ([], nI 0, 0, []), zi0), (28, .istore 5, ([], 0, 0, []), zi0), (30, .iload 5, ([], 0, 0, []), zi0), (32, .iload_n 1, ([1], 0, 0, []), zi0), (33, .iload_n 1, ([1], 0, 0, []), zi0), (34, .imul, ([], 0, 0, []), zi0), (35, .if_icmp .ge 71, ([106], 0, 0, []), zi0), (38, .aload_n 0, ([0], 0, 0, []), zi0), (39, .iload_n 1, ([1], 0, 0, []), zi0), (40, .iload 5, ([], 0, 0, []), zi0), (42, .iload_n 1, ([1], 0, 0, []), zi0), (43, .idiv, ([], 0, 0, []), zi0), (44, .invokevirtual 196, ([8, 4, 217], 0, 0, []), mi_R_namedAs), (47, .istore 6, ([], 0, 0, []), zi0), (49, .aload_n 0, ([0], 0, 0, []), zi0), (50, .iload_n 1, ([1], 0, 0, []), zi0), (51, .iload 5, ([], 0, 0, []), zi0), (53, .iload_n 1, ([1], 0, 0, []), zi0), (54, .irem, ([], 0, 0, []), zi0), (55, .invokevirtual 196, ([8, 4, 217], 0, 0, []), mi_R_namedAs), (58, .istore 7, ([], 0, 0, []), zi0), (60, .iload 4, ([], 0, 0, []), zi0), (62, .ifCond .ne 34, ([96], 0, 0, []), zi0), (65, .aload_n 0, ([0], 0, 0, []), zi0), (66, .getfield 19, ([8, 3, 3, 129], 0, 0, []), zi0), (69, .aload_n 0, ([0], 0, 0, []), zi0), (70, .iconst 5, ([], nI 5, 0, []), zi0), (71, .iload 6, ([], 0, 0, []), zi0), (73, .iload 7, ([], 0, 0, []), zi0), (75, .invokevirtual 129, ([8, 4, 24], 0, 0, []), mi_R_l), (78, .iaload, ([], 0, 0, []), zi0), (79, .aload_n 0, ([0], 0, 0, []), zi0), (80, .iconst 5, ([], nI 5, 0, []), zi0), (81, .iload 5, ([], 0, 0, []), zi0), (83, .iload_n 1, ([1], 0, 0, []), zi0), (84, .idiv, ([], 0, 0, []), zi0), (85, .iload 5, ([], 0, 0, []), zi0), (87, .iload_n 1, ([1], 0, 0, []), zi0), (88, .irem, ([], 0, 0, []), zi0), (89, .invokevirtual 129, ([8, 4, 24], 0, 0, []), mi_R_l), (92, .isub, ([], 0, 0, []), zi0), (93, .goto 5, ([98], 0, 0, []), zi0), (96, .iload 4, ([], 0, 0, []), zi0), (98, .istore 4, ([], 0, 0, []), zi0), (100, .iinc 5 1, ([], nI 1, 0, []), zi0), (103, .goto (-73), ([30], 0, 0, []), zi0), (106, .iload 4, ([], 0, 0, []), zi0), (108, .ifCond .lt 7, ([115], 0, 0, []), zi0), (111, .iconst 1, ([], nI 1, 0, []), zi0), (112, .goto 4, ([116], 0, 0, []), zi0), (115, .iconst 0, ([], nI 0, 0, []), zi0), (116, .istore_n 2, ([2], 0, 0, []), zi0), (117, .aload_n 0, ([0], 0, 0, []), zi0), (118, .iload_n 1, ([1], 0, 0, []), zi0), (119, .invokevirtual 187, ([8, 4, 159], 0, 0, []), mi_R_nextName), (122, .istore_n 3, ([3], 0, 0, []), zi0), (123, .goto (-107), ([16], 0, 0, []), zi0), (126, .iload_n 2, ([2], 0, 0, []), zi0), (127, .ireturn, ([], 0, 0, []), zi0)]
def cu_R_isFirst : List (Nat × List Nat) := [(16, [0, 1, 2, 3]), (30, [0, 1, 4, 5])]
set_option maxRecDepth 100000 in
theorem oc_R_isFirst : cd_R_isFirst.all (zchk mi_R_isFirst) = true := by decide +kernel
set_option maxRecDepth 100000 in
theorem ow_R_isFirst : zWs mi_R_isFirst cd_R_isFirst := ⟨trivial, rfl, trivial, trivial, trivial, trivial, trivial, trivial, trivial, ⟨rfl, rfl, mv_R_firstName⟩, trivial, trivial, trivial, trivial, trivial, trivial, trivial, trivial, trivial, trivial, trivial, trivial, trivial, trivial, trivial, trivial, trivial, trivial, trivial, trivial, ⟨rfl, rfl, mv_R_namedAs⟩, trivial, trivial, trivial, trivial, trivial, trivial, ⟨rfl, rfl, mv_R_namedAs⟩, trivial, trivial, trivial, trivial, rfl, trivial, trivial, trivial, trivial, ⟨rfl, rfl, mv_R_l⟩, trivial, trivial, trivial, trivial, trivial, trivial, trivial, trivial, trivial, ⟨rfl, rfl, mv_R_l⟩, trivial, trivial, trivial, trivial, trivial, trivial, trivial, trivial, trivial, trivial, trivial, trivial, trivial, trivial, ⟨rfl, rfl, mv_R_nextName⟩, trivial, trivial, trivial, trivial, trivial⟩
theorem ok_R_isFirst : zgood2 mi_R_isFirst cd_R_isFirst := ⟨oc_R_isFirst, ow_R_isFirst⟩
def cd_R_isLike : List ZE := [(0, .aload_n 0, ([0], 0, 0, []), zi0), (1, .getfield 7, ([8, 0, 3, 126], 0, 0, []), zi0), (4, .iload_n 1, ([1], 0, 0, []), zi0), (5, .iaload, ([], 0, 0, []), zi0), (6, .istore_n 3, ([3], 0, 0, []), zi0), (7, .iload_n 3, ([3], 0, 0, []), zi0), (8, .aload_n 0, ([0], 0, 0, []), zi0), (9, .getfield 7, ([8, 0, 3, 126], 0, 0, []), zi0), (12, .iload_n 2, ([2], 0, 0, []), zi0), (13, .iaload, ([], 0, 0, []), zi0), (14, .if_icmp .ne 7, ([21], 0, 0, []), zi0), (17, .iconst 1, ([], nI 1, 0, []), zi0), (18, .goto 4, ([22], 0, 0, []), zi0), (21, .iconst 0, ([], nI 0, 0, []), zi0), (22, .istore 4, ([], 0, 0, []), zi0), (24, .iconst 0, ([], nI 0, 0, []), zi0), (25, .istore 5, ([], 0, 0, []), zi0), (27, .iload 5, ([], 0, 0, []), zi0), (29, .iload_n 3, ([3], 0, 0, []), zi0), (30, .iload_n 3, ([3], 0, 0, []), zi0), (31, .imul, ([], 0, 0, []), zi0), (32, .if_icmp .ge 113, ([145], 0, 0, []), zi0), (35, .iload 4, ([], 0, 0, []), zi0), (37, .ifCond .eq 108, ([145], 0, 0, []), zi0), (40, .iload 5, ([], 0, 0, []), zi0), (42, .iload_n 3, ([3], 0, 0, []), zi0), (43, .idiv, ([], 0, 0, []), zi0), (44, .istore 6, ([], 0, 0, []), zi0), (46, .iload 5, ([], 0, 0, []), zi0), (48, .iload_n 3, ([3], 0, 0, []), zi0), (49, .irem, ([], 0, 0, []), zi0), (50, .istore 7, ([], 0, 0, []), zi0), (52, .aload_n 0, ([0], 0, 0, []), zi0), (53, .iload_n 2, ([2], 0, 0, []), zi0), (54, .aload_n 0, ([0], 0, 0, []), zi0), (55, .getfield 19, ([8, 3, 3, 129], 0, 0, []), zi0), (58, .iload 6, ([], 0, 0, []), zi0), (60, .iaload, ([], 0, 0, []), zi0), (61, .aload_n 0, ([0], 0, 0, []), zi0), (62, .getfield 19, ([8, 3, 3, 129], 0, 0, []), zi0), (65, .iload 7, ([], 0, 0, []), zi0), (67, .iaload, ([], 0, 0, []), zi0), (68, .invokevirtual 129, ([8, 4, 24], 0, 0, []), mi_R_l), (71, .istore 8, ([], 0, 0, []), zi0), (73, .aload_n 0, ([0], 0, 0, []), zi0), (74, .iload_n 2, ([2], 0, 0, []), zi0), (75, .aload_n 0, ([0], 0, 0, []), zi0), (76, .getfield 19, ([8, 3, 3, 129], 0, 0, []), zi0), (79, .iload 6, ([], 0, 0, []), zi0), (81, .iaload, ([], 0, 0, []), zi0), (82, .aload_n 0, ([0], 0, 0, []), zi0), (83, .getfield 19, ([8, 3, 3, 129], 0, 0, []), zi0), (86, .iload 7, ([], 0, 0, []), zi0), (88, .iaload, ([], 0, 0, []), zi0), (89, .invokevirtual 132, ([8, 4, 28], 0, 0, []), mi_R_r), (92, .istore 9, ([], 0, 0, []), zi0), (94, .iload 8, ([], 0, 0, []), zi0), (96, .aload_n 0, ([0], 0, 0, []), zi0), (97, .getfield 19, ([8, 3, 3, 129], 0, 0, []), zi0), (100, .aload_n 0, ([0], 0, 0, []), zi0), (101, .iload_n 1, ([1], 0, 0, []), zi0), (102, .iload 6, ([], 0, 0, []), zi0), (104, .iload 7, ([], 0, 0, []), zi0), (106, .invokevirtual 129, ([8, 4, 24], 0, 0, []), mi_R_l), (109, .iaload, ([], 0, 0, []), zi0), (110, .if_icmp .ne 26, ([136], 0, 0, []), zi0), (113, .iload 9, ([], 0, 0, []), zi0), (115, .aload_n 0, ([0], 0, 0, []), zi0), (116, .getfield 19, ([8, 3, 3, 129], 0, 0, []), zi0), (119, .aload_n 0, ([0], 0, 0, []), zi0), (120, .iload_n 1, ([1], 0, 0, []), zi0), (121, .iload 6, ([], 0, 0, []), zi0), (123, .iload 7, ([], 0, 0, []), zi0), (125, .invokevirtual 132, ([8, 4, 28], 0, 0, []), mi_R_r), (128, .iaload, ([], 0, 0, []), zi0), (129, .if_icmp .ne 7, ([136], 0, 0, []), zi0), (132, .iconst 1, ([], nI 1, 0, []), zi0), (133, .goto 4, ([137], 0, 0, []), zi0), (136, .iconst 0, ([], nI 0, 0, []), zi0), (137, .istore 4, ([], 0, 0, []), zi0), (139, .iinc 5 1, ([], nI 1, 0, []), zi0), (142, .goto (-115), ([27], 0, 0, []), zi0), (145, .iload 4, ([], 0, 0, []), zi0), (147, .ireturn, ([], 0, 0, []), zi0)]
def cu_R_isLike : List (Nat × List Nat) := [(27, [0, 1, 2, 3, 4, 5])]
set_option maxRecDepth 100000 in
theorem oc_R_isLike : cd_R_isLike.all (zchk mi_R_isLike) = true := by decide +kernel
set_option maxRecDepth 100000 in
theorem ow_R_isLike : zWs mi_R_isLike cd_R_isLike := ⟨trivial, rfl, trivial, trivial, trivial, trivial, trivial, rfl, trivial, trivial, trivial, trivial, trivial, trivial, trivial, trivial, trivial, trivial, trivial, trivial, trivial, trivial, trivial, trivial, trivial, trivial, trivial, trivial, trivial, trivial, trivial, trivial, trivial, trivial, trivial, rfl, trivial, trivial, trivial, rfl, trivial, trivial, ⟨rfl, rfl, mv_R_l⟩, trivial, trivial, trivial, trivial, rfl, trivial, trivial, trivial, rfl, trivial, trivial, ⟨rfl, rfl, mv_R_r⟩, trivial, trivial, trivial, rfl, trivial, trivial, trivial, trivial, ⟨rfl, rfl, mv_R_l⟩, trivial, trivial, trivial, trivial, rfl, trivial, trivial, trivial, trivial, ⟨rfl, rfl, mv_R_r⟩, trivial, trivial, trivial, trivial, trivial, trivial, trivial, trivial, trivial, trivial, trivial⟩
theorem ok_R_isLike : zgood2 mi_R_isLike cd_R_isLike := ⟨oc_R_isLike, ow_R_isLike⟩
def cd_R_isPlace : List ZE := [(0, .iload_n 0, ([0], 0, 0, []), zi0), (1, .i2l, ([], 0, 0, []), zi0), (2, .lconst 0, ([], 0, lN 0, []), zi0), (3, .ldc2_w 62, ([3, 188], 0, lN 3, []), zi0), (6, .invokestatic 64, ([0, 3, 189], 0, 0, []), mi_R_in), (9, .ireturn, ([], 0, 0, []), zi0)]
def cu_R_isPlace : List (Nat × List Nat) := []
set_option maxRecDepth 100000 in
theorem oc_R_isPlace : cd_R_isPlace.all (zchk mi_R_isPlace) = true := by decide +kernel
set_option maxRecDepth 100000 in
theorem ow_R_isPlace : zWs mi_R_isPlace cd_R_isPlace := ⟨trivial, trivial, trivial, rfl, ⟨rfl, ms_R_in⟩, trivial, trivial⟩
theorem ok_R_isPlace : zgood2 mi_R_isPlace cd_R_isPlace := ⟨oc_R_isPlace, ow_R_isPlace⟩
def cd_R_isPlain : List ZE := [(0, .aload_n 0, ([0], 0, 0, []), zi0), (1, .getfield 7, ([8, 0, 3, 126], 0, 0, []), zi0), (4, .iload_n 1, ([1], 0, 0, []), zi0), (5, .iaload, ([], 0, 0, []), zi0), (6, .istore_n 3, ([3], 0, 0, []), zi0), (7, .iconst 1, ([], nI 1, 0, []), zi0), (8, .istore 4, ([], 0, 0, []), zi0), (10, .iconst 0, ([], nI 0, 0, []), zi0), (11, .istore 5, ([], 0, 0, []), zi0), (13, .iload 5, ([], 0, 0, []), zi0), (15, .iload_n 3, ([3], 0, 0, []), zi0), (16, .if_icmp .ge 81, ([97], 0, 0, []), zi0), (19, .iconst 0, ([], nI 0, 0, []), zi0), (20, .istore 6, ([], 0, 0, []), zi0), (22, .iconst 0, ([], nI 0, 0, []), zi0), (23, .istore 7, ([], 0, 0, []), zi0), (25, .iload 7, ([], 0, 0, []), zi0), (27, .iload_n 3, ([3], 0, 0, []), zi0), (28, .if_icmp .ge 41, ([69], 0, 0, []), zi0), (31, .iload 6, ([], 0, 0, []), zi0), (33, .iconst 1, ([], nI 1, 0, []), zi0), (34, .iload_n 2, ([2], 0, 0, []), zi0), (35, .ifCond .eq 15, ([50], 0, 0, []), zi0), (38, .aload_n 0, ([0], 0, 0, []), zi0), (39, .iload_n 1, ([1], 0, 0, []), zi0), (40, .iload 5, ([], 0, 0, []), zi0), (42, .iload 7, ([], 0, 0, []), zi0), (44, .invokevirtual 129, ([8, 4, 24], 0, 0, []), mi_R_l), (47, .goto 12, ([59], 0, 0, []), zi0), (50, .aload_n 0, ([0], 0, 0, []), zi0), (51, .iload_n 1, ([1], 0, 0, []), zi0), (52, .iload 7, ([], 0, 0, []), zi0), (54, .iload 5, ([], 0, 0, []), zi0), (56, .invokevirtual 132, ([8, 4, 28], 0, 0, []), mi_R_r), (59, .ishl, ([], 0, 0, []), zi0), (60, .ior, ([], 0, 0, []), zi0), (61, .istore 6, ([], 0, 0, []), zi0), (63, .iinc 7 1, ([], nI 1, 0, []), zi0), (66, .goto (-41), ([25], 0, 0, []), zi0), (69, .iload 4, ([], 0, 0, []), zi0), (71, .ifCond .eq 17, ([88], 0, 0, []), zi0), (74, .iload 6, ([], 0, 0, []), zi0), (76, .iconst 1, ([], nI 1, 0, []), zi0), (77, .iload_n 3, ([3], 0, 0, []), zi0), (78, .ishl, ([], 0, 0, []), zi0), (79, .iconst 1, ([], nI 1, 0, []), zi0), (80, .isub, ([], 0, 0, []), zi0), (81, .if_icmp .ne 7, ([88], 0, 0, []), zi0), (84, .iconst 1, ([], nI 1, 0, []), zi0), (85, .goto 4, ([89], 0, 0, []), zi0), (88, .iconst 0, ([], nI 0, 0, []), zi0), (89, .istore 4, ([], 0, 0, []), zi0), (91, .iinc 5 1, ([], nI 1, 0, []), zi0), (94, .goto (-81), ([13], 0, 0, []), zi0), (97, .iload 4, ([], 0, 0, []), zi0), (99, .ireturn, ([], 0, 0, []), zi0)]
def cu_R_isPlain : List (Nat × List Nat) := [(13, [0, 1, 2, 3, 4, 5]), (25, [0, 1, 2, 3, 4, 5, 6, 7])]
set_option maxRecDepth 100000 in
theorem oc_R_isPlain : cd_R_isPlain.all (zchk mi_R_isPlain) = true := by decide +kernel
set_option maxRecDepth 100000 in
theorem ow_R_isPlain : zWs mi_R_isPlain cd_R_isPlain := ⟨trivial, rfl, trivial, trivial, trivial, trivial, trivial, trivial, trivial, trivial, trivial, trivial, trivial, trivial, trivial, trivial, trivial, trivial, trivial, trivial, trivial, trivial, trivial, trivial, trivial, trivial, trivial, ⟨rfl, rfl, mv_R_l⟩, trivial, trivial, trivial, trivial, trivial, ⟨rfl, rfl, mv_R_r⟩, trivial, trivial, trivial, trivial, trivial, trivial, trivial, trivial, trivial, trivial, trivial, trivial, trivial, trivial, trivial, trivial, trivial, trivial, trivial, trivial, trivial, trivial, trivial⟩
theorem ok_R_isPlain : zgood2 mi_R_isPlain cd_R_isPlain := ⟨oc_R_isPlain, ow_R_isPlain⟩
def cd_R_isPoint : List ZE := [(0, .iload_n 2, ([2], 0, 0, []), zi0), (1, .i2l, ([], 0, 0, []), zi0), (2, .lconst 0, ([], 0, lN 0, []), zi0), (3, .aload_n 0, ([0], 0, 0, []), zi0), (4, .getfield 7, ([8, 0, 3, 126], 0, 0, []), zi0), (7, .iload_n 1, ([1], 0, 0, []), zi0), (8, .iaload, ([], 0, 0, []), zi0), (9, .iconst 1, ([], nI 1, 0, []), zi0), (10, .isub, ([], 0, 0, []), zi0), (11, .i2l, ([], 0, 0, []), zi0), (12, .invokestatic 64, ([0, 3, 189], 0, 0, []), mi_R_in), (15, .ireturn, ([], 0, 0, []), zi0)]
def cu_R_isPoint : List (Nat × List Nat) := []
set_option maxRecDepth 100000 in
theorem oc_R_isPoint : cd_R_isPoint.all (zchk mi_R_isPoint) = true := by decide +kernel
set_option maxRecDepth 100000 in
theorem ow_R_isPoint : zWs mi_R_isPoint cd_R_isPoint := ⟨trivial, trivial, trivial, trivial, rfl, trivial, trivial, trivial, trivial, trivial, ⟨rfl, ms_R_in⟩, trivial, trivial⟩
theorem ok_R_isPoint : zgood2 mi_R_isPoint cd_R_isPoint := ⟨oc_R_isPoint, ow_R_isPoint⟩
def cd_R_isUnit : List ZE := [(0, .iload_n 0, ([0], 0, 0, []), zi0), (1, .i2l, ([], 0, 0, []), zi0), (2, .lconst 1, ([], 0, lN 1, []), zi0), (3, .iload_n 1, ([1], 0, 0, []), zi0), (4, .iconst 1, ([], nI 1, 0, []), zi0), (5, .isub, ([], 0, 0, []), zi0), (6, .i2l, ([], 0, 0, []), zi0), (7, .invokestatic 64, ([0, 3, 189], 0, 0, []), mi_R_in), (10, .istore_n 2, ([2], 0, 0, []), zi0), (11, .iconst 2, ([], nI 2, 0, []), zi0), (12, .istore_n 3, ([3], 0, 0, []), zi0), (13, .iload_n 3, ([3], 0, 0, []), zi0), (14, .iload_n 1, ([1], 0, 0, []), zi0), (15, .if_icmp .gt 35, ([50], 0, 0, []), zi0), (18, .iload_n 2, ([2], 0, 0, []), zi0), (19, .ifCond .eq 31, ([50], 0, 0, []), zi0), (22, .iload_n 2, ([2], 0, 0, []), zi0), (23, .ifCond .eq 19, ([42], 0, 0, []), zi0), (26, .iload_n 1, ([1], 0, 0, []), zi0), (27, .iload_n 3, ([3], 0, 0, []), zi0), (28, .irem, ([], 0, 0, []), zi0), (29, .ifCond .ne 9, ([38], 0, 0, []), zi0), (32, .iload_n 0, ([0], 0, 0, []), zi0), (33, .iload_n 3, ([3], 0, 0, []), zi0), (34, .irem, ([], 0, 0, []), zi0), (35, .ifCond .eq 7, ([42], 0, 0, []), zi0), (38, .iconst 1, ([], nI 1, 0, []), zi0), (39, .goto 4, ([43], 0, 0, []), zi0), (42, .iconst 0, ([], nI 0, 0, []), zi0), (43, .istore_n 2, ([2], 0, 0, []), zi0), (44, .iinc 3 1, ([], nI 1, 0, []), zi0), (47, .goto (-34), ([13], 0, 0, []), zi0), (50, .iload_n 2, ([2], 0, 0, []), zi0), (51, .ireturn, ([], 0, 0, []), zi0)]
def cu_R_isUnit : List (Nat × List Nat) := [(13, [0, 1, 2, 3])]
set_option maxRecDepth 100000 in
theorem oc_R_isUnit : cd_R_isUnit.all (zchk mi_R_isUnit) = true := by decide +kernel
set_option maxRecDepth 100000 in
theorem ow_R_isUnit : zWs mi_R_isUnit cd_R_isUnit := ⟨trivial, trivial, trivial, trivial, trivial, trivial, trivial, ⟨rfl, ms_R_in⟩, trivial, trivial, trivial, trivial, trivial, trivial, trivial, trivial, trivial, trivial, trivial, trivial, trivial, trivial, trivial, trivial, trivial, trivial, trivial, trivial, trivial, trivial, trivial, trivial, trivial, trivial, trivial⟩
theorem ok_R_isUnit : zgood2 mi_R_isUnit cd_R_isUnit := ⟨oc_R_isUnit, ow_R_isUnit⟩
def cd_R_layCode : List ZE := [(0, .iconst 0, ([], nI 0, 0, []), zi0), (1, .istore_n 3, ([3], 0, 0, []), zi0), (2, .iload_n 3, ([3], 0, 0, []), zi0), (3, .iload_n 2, ([2], 0, 0, []), zi0), (4, .if_icmp .ge 20, ([24], 0, 0, []), zi0), (7, .aload_n 0, ([0], 0, 0, []), zi0), (8, .getfield 28, ([8, 6, 3, 132], 0, 0, []), zi0), (11, .iload_n 3, ([3], 0, 0, []), zi0), (12, .iload_n 1, ([1], 0, 0, []), zi0), (13, .iload_n 3, ([3], 0, 0, []), zi0), (14, .invokestatic 80, ([0, 3, 214], 0, 0, []), mi_R_digit), (17, .iastore, ([], 0, 0, []), zi0), (18, .iinc 3 1, ([], nI 1, 0, []), zi0), (21, .goto (-19), ([2], 0, 0, []), zi0), (24, .return_, ([], 0, 0, []), zi0)]
def cu_R_layCode : List (Nat × List Nat) := [(2, [0, 1, 2, 3])]
set_option maxRecDepth 100000 in
theorem oc_R_layCode : cd_R_layCode.all (zchk mi_R_layCode) = true := by decide +kernel
set_option maxRecDepth 100000 in
theorem ow_R_layCode : zWs mi_R_layCode cd_R_layCode := ⟨trivial, trivial, trivial, trivial, trivial, trivial, rfl, trivial, trivial, trivial, ⟨rfl, ms_R_digit⟩, trivial, trivial, trivial, trivial, trivial⟩
theorem ok_R_layCode : zgood2 mi_R_layCode cd_R_layCode := ⟨oc_R_layCode, ow_R_layCode⟩
def cd_R_layNumber : List ZE := [(0, .aload_n 0, ([0], 0, 0, []), zi0), (1, .getfield 7, ([8, 0, 3, 126], 0, 0, []), zi0), (4, .iconst 5, ([], nI 5, 0, []), zi0), (5, .iload_n 1, ([1], 0, 0, []), zi0), (6, .iastore, ([], 0, 0, []), zi0), (7, .iload_n 2, ([2], 0, 0, []), zi0), (8, .istore 4, ([], 0, 0, []), zi0), (10, .iload_n 1, ([1], 0, 0, []), zi0), (11, .iconst 1, ([], nI 1, 0, []), zi0), (12, .isub, ([], 0, 0, []), zi0), (13, .istore 5, ([], 0, 0, []), zi0), (15, .iload 5, ([], 0, 0, []), zi0), (17, .ifCond .lt 54, ([71], 0, 0, []), zi0), (20, .iconst 0, ([], nI 0, 0, []), zi0), (21, .istore 6, ([], 0, 0, []), zi0), (23, .iload 6, ([], 0, 0, []), zi0), (25, .iload_n 1, ([1], 0, 0, []), zi0), (26, .if_icmp .ge 33, ([59], 0, 0, []), zi0), (29, .aload_n 0, ([0], 0, 0, []), zi0), (30, .iconst 5, ([], nI 5, 0, []), zi0), (31, .iload 5, ([], 0, 0, []), zi0), (33, .iload 6, ([], 0, 0, []), zi0), (35, .aload_n 0, ([0], 0, 0, []), zi0), (36, .getfield 44, ([8, 12, 3, 138], 0, 0, []), zi0), (39, .iconst 4, ([], nI 4, 0, []), zi0), (40, .iload 4, ([], 0, 0, []), zi0), (42, .iload_n 3, ([3], 0, 0, []), zi0), (43, .irem, ([], 0, 0, []), zi0), (44, .imul, ([], 0, 0, []), zi0), (45, .iload 6, ([], 0, 0, []), zi0), (47, .iadd, ([], 0, 0, []), zi0), (48, .iaload, ([], 0, 0, []), zi0), (49, .iconst 0, ([], nI 0, 0, []), zi0), (50, .invokevirtual 92, ([8, 3, 195], 0, 0, []), mi_R_lay), (53, .iinc 6 1, ([], nI 1, 0, []), zi0), (56, .goto (-33), ([23], 0, 0, []), zi0), (59, .iload 4, ([], 0, 0, []), zi0), (61, .iload_n 3, ([3], 0, 0, []), zi0), (62, .idiv, ([], 0, 0, []), zi0), (63, .istore 4, ([], 0, 0, []), zi0), (65, .iinc 5 (-1), ([], (-1), 0, []), zi0), (68, .goto (-53), ([15], 0, 0, []), zi0), (71, .return_, ([], 0, 0, []), zi0)]
def cu_R_layNumber : List (Nat × List Nat) := [(15, [0, 1, 3, 4, 5]), (23, [0, 1, 3, 4, 5, 6])]
set_option maxRecDepth 100000 in
theorem oc_R_layNumber : cd_R_layNumber.all (zchk mi_R_layNumber) = true := by decide +kernel
set_option maxRecDepth 100000 in
theorem ow_R_layNumber : zWs mi_R_layNumber cd_R_layNumber := ⟨trivial, rfl, trivial, trivial, trivial, trivial, trivial, trivial, trivial, trivial, trivial, trivial, trivial, trivial, trivial, trivial, trivial, trivial, trivial, trivial, trivial, trivial, trivial, rfl, trivial, trivial, trivial, trivial, trivial, trivial, trivial, trivial, trivial, ⟨rfl, rfl, mv_R_lay⟩, trivial, trivial, trivial, trivial, trivial, trivial, trivial, trivial, trivial, trivial⟩
theorem ok_R_layNumber : zgood2 mi_R_layNumber cd_R_layNumber := ⟨oc_R_layNumber, ow_R_layNumber⟩
def cd_R_layRight : List ZE := [(0, .aload_n 0, ([0], 0, 0, []), zi0), (1, .getfield 7, ([8, 0, 3, 126], 0, 0, []), zi0), (4, .iconst 5, ([], nI 5, 0, []), zi0), (5, .iaload, ([], 0, 0, []), zi0), (6, .istore_n 1, ([1], 0, 0, []), zi0), (7, .iconst 0, ([], nI 0, 0, []), zi0), (8, .istore_n 2, ([2], 0, 0, []), zi0), (9, .iload_n 2, ([2], 0, 0, []), zi0), (10, .iload_n 1, ([1], 0, 0, []), zi0), (11, .iload_n 1, ([1], 0, 0, []), zi0), (12, .imul, ([], 0, 0, []), zi0), (13, .if_icmp .ge 91, ([104], 0, 0, []), zi0), (16, .iload_n 2, ([2], 0, 0, []), zi0), (17, .iload_n 1, ([1], 0, 0, []), zi0), (18, .idiv, ([], 0, 0, []), zi0), (19, .istore_n 3, ([3], 0, 0, []), zi0), (20, .aload_n 0, ([0], 0, 0, []), zi0), (21, .iconst 5, ([], nI 5, 0, []), zi0), (22, .iload_n 3, ([3], 0, 0, []), zi0), (23, .iload_n 2, ([2], 0, 0, []), zi0), (24, .iload_n 1, ([1], 0, 0, []), zi0), (25, .irem, ([], 0, 0, []), zi0), (26, .invokevirtual 129, ([8, 4, 24], 0, 0, []), mi_R_l), (29, .istore 4, ([], 0, 0, []), zi0), (31, .iconst 0, ([], nI 0, 0, []), zi0), (32, .istore 5, ([], 0, 0, []), zi0), (34, .iload 5, ([], 0, 0, []), zi0), (36, .iload_n 1, ([1], 0, 0, []), zi0), (37, .if_icmp .ge 61, ([98], 0, 0, []), zi0), (40, .aload_n 0, ([0], 0, 0, []), zi0), (41, .getfield 16, ([8, 2, 3, 128], 0, 0, []), zi0), (44, .sipush 180, ([], nI 180, 0, []), zi0), (47, .bipush 6, ([], nI 6, 0, []), zi0), (49, .iload_n 3, ([3], 0, 0, []), zi0), (50, .imul, ([], 0, 0, []), zi0), (51, .iadd, ([], 0, 0, []), zi0), (52, .iload_n 2, ([2], 0, 0, []), zi0), (53, .iload_n 1, ([1], 0, 0, []), zi0), (54, .irem, ([], 0, 0, []), zi0), (55, .iadd, ([], 0, 0, []), zi0), (56, .aload_n 0, ([0], 0, 0, []), zi0), (57, .iconst 5, ([], nI 5, 0, []), zi0), (58, .iload 4, ([], 0, 0, []), zi0), (60, .iload 5, ([], 0, 0, []), zi0), (62, .invokevirtual 129, ([8, 4, 24], 0, 0, []), mi_R_l), (65, .iload_n 3, ([3], 0, 0, []), zi0), (66, .if_icmp .ne 8, ([74], 0, 0, []), zi0), (69, .iload 5, ([], 0, 0, []), zi0), (71, .goto 20, ([91], 0, 0, []), zi0), (74, .aload_n 0, ([0], 0, 0, []), zi0), (75, .getfield 16, ([8, 2, 3, 128], 0, 0, []), zi0), (78, .sipush 180, ([], nI 180, 0, []), zi0), (81, .bipush 6, ([], nI 6, 0, []), zi0), (83, .iload_n 3, ([3], 0, 0, []), zi0), (84, .imul, ([], 0, 0, []), zi0), (85, .iadd, ([], 0, 0, []), zi0), (86, .iload_n 2, ([2], 0, 0, []), zi0), (87, .iload_n 1, ([1], 0, 0, []), zi0), (88, .irem, ([], 0, 0, []), zi0), (89, .iadd, ([], 0, 0, []), zi0), (90, .iaload, ([], 0, 0, []), zi0), (91, .iastore, ([], 0, 0, []), zi0), (92, .iinc 5 1, ([], nI 1, 0, []), zi0), (95, .goto (-61), ([34], 0, 0, []), zi0), (98, .iinc 2 1, ([], nI 1, 0, []), zi0), (101, .goto (-92), ([9], 0, 0, []), zi0), (104, .return_, ([], 0, 0, []), zi0)]
def cu_R_layRight : List (Nat × List Nat) := [(9, [0, 1, 2]), (34, [0, 1, 2, 3, 4, 5])]
set_option maxRecDepth 100000 in
theorem oc_R_layRight : cd_R_layRight.all (zchk mi_R_layRight) = true := by decide +kernel
set_option maxRecDepth 100000 in
theorem ow_R_layRight : zWs mi_R_layRight cd_R_layRight := ⟨trivial, rfl, trivial, trivial, trivial, trivial, trivial, trivial, trivial, trivial, trivial, trivial, trivial, trivial, trivial, trivial, trivial, trivial, trivial, trivial, trivial, trivial, ⟨rfl, rfl, mv_R_l⟩, trivial, trivial, trivial, trivial, trivial, trivial, trivial, rfl, trivial, trivial, trivial, trivial, trivial, trivial, trivial, trivial, trivial, trivial, trivial, trivial, trivial, ⟨rfl, rfl, mv_R_l⟩, trivial, trivial, trivial, trivial, trivial, rfl, trivial, trivial, trivial, trivial, trivial, trivial, trivial, trivial, trivial, trivial, trivial, trivial, trivial, trivial, trivial, trivial, trivial⟩
theorem ok_R_layRight : zgood2 mi_R_layRight cd_R_layRight := ⟨oc_R_layRight, ow_R_layRight⟩
def cd_R_layRows : List ZE := [(0, .iconst 0, ([], nI 0, 0, []), zi0), (1, .istore_n 2, ([2], 0, 0, []), zi0), (2, .aload_n 0, ([0], 0, 0, []), zi0), (3, .iload_n 1, ([1], 0, 0, []), zi0), (4, .invokevirtual 168, ([8, 4, 136], 0, 0, []), mi_R_firstName), (7, .iconst 1, ([], nI 1, 0, []), zi0), (8, .istore_n 3, ([3], 0, 0, []), zi0), (9, .iload_n 3, ([3], 0, 0, []), zi0), (10, .ifCond .eq 48, ([58], 0, 0, []), zi0), (13, .iconst 0, ([], nI 0, 0, []), zi0), (14, .istore 4, ([], 0, 0, []), zi0), (16, .iload 4, ([], 0, 0, []), zi0), (18, .iload_n 1, ([1], 0, 0, []), zi0), (19, .if_icmp .ge 27, ([46], 0, 0, []), zi0), (22, .aload_n 0, ([0], 0, 0, []), zi0), (23, .getfield 44, ([8, 12, 3, 138], 0, 0, []), zi0), (26, .iconst 4, ([], nI 4, 0, []), zi0), (27, .iload_n 2, ([2], 0, 0, []), zi0), (28, .imul, ([], 0, 0, []), zi0), (29, .iload 4, ([], 0, 0, []), zi0), (31, .iadd, ([], 0, 0, []), zi0), (32, .aload_n 0, ([0], 0, 0, []), zi0), (33, .getfield 19, ([8, 3, 3, 129], 0, 0, []), zi0), (36, .iload 4, ([], 0, 0, []), zi0), (38, .iaload, ([], 0, 0, []), zi0), (39, .iastore, ([], 0, 0, []), zi0), (40, .iinc 4 1, ([], nI 1, 0, []), zi0), (43, .goto (-27), ([16], 0, 0, []), zi0), (46, .iinc 2 1, ([], nI 1, 0, []), zi0), (49, .aload_n 0, ([0], 0, 0, []), zi0), (50, .iload_n 1, ([1], 0, 0, []), zi0), (51, .invokevirtual 187, ([8, 4, 159], 0, 0, []), mi_R_nextName), (54, .istore_n 3, ([3], 0, 0, []), zi0), (55, .goto (-46), ([9], 0, 0, []), zi0), (58, .iload_n 2, ([2], 0, 0, []), zi0), (59, .ireturn, ([], 0, 0, []), zi0)]
def cu_R_layRows : List (Nat × List Nat) := [(9, [0, 1, 2, 3]), (16, [0, 1, 2, 4])]
set_option maxRecDepth 100000 in
theorem oc_R_layRows : cd_R_layRows.all (zchk mi_R_layRows) = true := by decide +kernel
set_option maxRecDepth 100000 in
theorem ow_R_layRows : zWs mi_R_layRows cd_R_layRows := ⟨trivial, trivial, trivial, trivial, ⟨rfl, rfl, mv_R_firstName⟩, trivial, trivial, trivial, trivial, trivial, trivial, trivial, trivial, trivial, trivial, rfl, trivial, trivial, trivial, trivial, trivial, trivial, rfl, trivial, trivial, trivial, trivial, trivial, trivial, trivial, trivial, ⟨rfl, rfl, mv_R_nextName⟩, trivial, trivial, trivial, trivial, trivial⟩
theorem ok_R_layRows : zgood2 mi_R_layRows cd_R_layRows := ⟨oc_R_layRows, ow_R_layRows⟩
def cd_R_numberOf : List ZE := [(0, .iconst 0, ([], nI 0, 0, []), zi0), (1, .istore_n 2, ([2], 0, 0, []), zi0), (2, .iconst 0, ([], nI 0, 0, []), zi0), (3, .istore_n 3, ([3], 0, 0, []), zi0), (4, .iload_n 3, ([3], 0, 0, []), zi0), (5, .iload_n 1, ([1], 0, 0, []), zi0), (6, .if_icmp .ge 62, ([68], 0, 0, []), zi0), (9, .iconst 0, ([], nI 0, 0, []), zi0), (10, .istore 4, ([], 0, 0, []), zi0), (12, .iload_n 3, ([3], 0, 0, []), zi0), (13, .iconst 1, ([], nI 1, 0, []), zi0), (14, .iadd, ([], 0, 0, []), zi0), (15, .istore 5, ([], 0, 0, []), zi0), (17, .iload 5, ([], 0, 0, []), zi0), (19, .iload_n 1, ([1], 0, 0, []), zi0), (20, .if_icmp .ge 33, ([53], 0, 0, []), zi0), (23, .iload 4, ([], 0, 0, []), zi0), (25, .iload_n 0, ([0], 0, 0, []), zi0), (26, .iload 5, ([], 0, 0, []), zi0), (28, .invokestatic 80, ([0, 3, 214], 0, 0, []), mi_R_digit), (31, .iload_n 0, ([0], 0, 0, []), zi0), (32, .iload_n 3, ([3], 0, 0, []), zi0), (33, .invokestatic 80, ([0, 3, 214], 0, 0, []), mi_R_digit), (36, .if_icmp .ge 7, ([43], 0, 0, []), zi0), (39, .iconst 1, ([], nI 1, 0, []), zi0), (40, .goto 4, ([44], 0, 0, []), zi0), (43, .iconst 0, ([], nI 0, 0, []), zi0), (44, .iadd, ([], 0, 0, []), zi0), (45, .istore 4, ([], 0, 0, []), zi0), (47, .iinc 5 1, ([], nI 1, 0, []), zi0), (50, .goto (-33), ([17], 0, 0, []), zi0), (53, .iload_n 2, ([2], 0, 0, []), zi0), (54, .iload_n 1, ([1], 0, 0, []), zi0), (55, .iload_n 3, ([3], 0, 0, []), zi0), (56, .isub, ([], 0, 0, []), zi0), (57, .imul, ([], 0, 0, []), zi0), (58, .iload 4, ([], 0, 0, []), zi0), (60, .iadd, ([], 0, 0, []), zi0), (61, .istore_n 2, ([2], 0, 0, []), zi0), (62, .iinc 3 1, ([], nI 1, 0, []), zi0), (65, .goto (-61), ([4], 0, 0, []), zi0), (68, .iload_n 2, ([2], 0, 0, []), zi0), (69, .ireturn, ([], 0, 0, []), zi0)]
def cu_R_numberOf : List (Nat × List Nat) := [(4, [0, 1, 2, 3]), (17, [0, 1, 2, 3, 4, 5])]
set_option maxRecDepth 100000 in
theorem oc_R_numberOf : cd_R_numberOf.all (zchk mi_R_numberOf) = true := by decide +kernel
set_option maxRecDepth 100000 in
theorem ow_R_numberOf : zWs mi_R_numberOf cd_R_numberOf := ⟨trivial, trivial, trivial, trivial, trivial, trivial, trivial, trivial, trivial, trivial, trivial, trivial, trivial, trivial, trivial, trivial, trivial, trivial, trivial, ⟨rfl, ms_R_digit⟩, trivial, trivial, ⟨rfl, ms_R_digit⟩, trivial, trivial, trivial, trivial, trivial, trivial, trivial, trivial, trivial, trivial, trivial, trivial, trivial, trivial, trivial, trivial, trivial, trivial, trivial, trivial, trivial⟩
theorem ok_R_numberOf : zgood2 mi_R_numberOf cd_R_numberOf := ⟨oc_R_numberOf, ow_R_numberOf⟩
def cd_R_orbitOf : List ZE := [(0, .aload_n 0, ([0], 0, 0, []), zi0), (1, .getfield 7, ([8, 0, 3, 126], 0, 0, []), zi0), (4, .iload_n 1, ([1], 0, 0, []), zi0), (5, .iaload, ([], 0, 0, []), zi0), (6, .istore_n 3, ([3], 0, 0, []), zi0), (7, .iconst 1, ([], nI 1, 0, []), zi0), (8, .iload_n 2, ([2], 0, 0, []), zi0), (9, .ishl, ([], 0, 0, []), zi0), (10, .istore 4, ([], 0, 0, []), zi0), (12, .iconst 0, ([], nI 0, 0, []), zi0), (13, .istore 5, ([], 0, 0, []), zi0), (15, .iload 5, ([], 0, 0, []), zi0), (17, .iload_n 3, ([3], 0, 0, []), zi0), (18, .if_icmp .ge 112, ([130], 0, 0, []), zi0), (21, .iconst 0, ([], nI 0, 0, []), zi0), (22, .istore 6, ([], 0, 0, []), zi0), (24, .iload 6, ([], 0, 0, []), zi0), (26, .iload_n 3, ([3], 0, 0, []), zi0), (27, .iload_n 3, ([3], 0, 0, []), zi0), (28, .imul, ([], 0, 0, []), zi0), (29, .if_icmp .ge 95, ([124], 0, 0, []), zi0), (32, .iload 6, ([], 0, 0, []), zi0), (34, .iload_n 3, ([3], 0, 0, []), zi0), (35, .idiv, ([], 0, 0, []), zi0), (36, .istore 7, ([], 0, 0, []), zi0), (38, .iload 6, ([], 0, 0, []), zi0), (40, .iload_n 3, ([3], 0, 0, []), zi0), (41, .irem, ([], 0, 0, []), zi0), (42, .istore 8, ([], 0, 0, []), zi0), (44, .iconst 1, ([], nI 1, 0, []), zi0), (45, .iload 8, ([], 0, 0, []), zi0), (47, .ishl, ([], 0, 0, []), zi0), (48, .iconst 1, ([], nI 1, 0, []), zi0), (49, .aload_n 0, ([0], 0, 0, []), zi0), (50, .iload_n 1, ([1], 0, 0, []), zi0), (51, .iload 7, ([], 0, 0, []), zi0), (53, .iload 8, ([], 0, 0, []), zi0), (55, .invokevirtual 129, ([8, 4, 24], 0, 0, []), mi_R_l), (58, .ishl, ([], 0, 0, []), zi0), (59, .ior, ([], 0, 0, []), zi0), (60, .istore 9, ([], 0, 0, []), zi0), (62, .iload 4, ([], 0, 0, []), zi0), (64, .iload 4, ([], 0, 0, []), zi0), (66, .iload 9, ([], 0, 0, []), zi0), (68, .iand, ([], 0, 0, []), zi0), (69, .ifCond .eq 8, ([77], 0, 0, []), zi0), (72, .iload 9, ([], 0, 0, []), zi0), (74, .goto 4, ([78], 0, 0, []), zi0), (77, .iconst 0, ([], nI 0, 0, []), zi0), (78, .ior, ([], 0, 0, []), zi0), (79, .istore 4, ([], 0, 0, []), zi0), (81, .iconst 1, ([], nI 1, 0, []), zi0), (82, .iload 8, ([], 0, 0, []), zi0), (84, .ishl, ([], 0, 0, []), zi0), (85, .iconst 1, ([], nI 1, 0, []), zi0), (86, .aload_n 0, ([0], 0, 0, []), zi0), (87, .iload_n 1, ([1], 0, 0, []), zi0), (88, .iload 8, ([], 0, 0, []), zi0), (90, .iload 7, ([], 0, 0, []), zi0), (92, .invokevirtual 132, ([8, 4, 28], 0, 0, []), mi_R_r), (95, .ishl, ([], 0, 0, []), zi0), (96, .ior, ([], 0, 0, []), zi0), (97, .istore 9, ([], 0, 0, []), zi0), (99, .iload 4, ([], 0, 0, []), zi0), (101, .iload 4, ([], 0, 0, []), zi0), (103, .iload 9, ([], 0, 0, []), zi0), (105, .iand, ([], 0, 0, []), zi0), (106, .ifCond .eq 8, ([114], 0, 0, []), zi0), (109, .iload 9, ([], 0, 0, []), zi0), (111, .goto 4, ([115], 0, 0, []), zi0), (114, .iconst 0, ([], nI 0, 0, []), zi0), (115, .ior, ([], 0, 0, []), zi0), (116, .istore 4, ([], 0, 0, []), zi0), (118, .iinc 6 1, ([], nI 1, 0, []), zi0), (121, .goto (-97), ([24], 0, 0, []), zi0), (124, .iinc 5 1, ([], nI 1, 0, []), zi0), (127, .goto (-112), ([15], 0, 0, []), zi0), (130, .iload 4, ([], 0, 0, []), zi0), (132, .ireturn, ([], 0, 0, []), zi0)]
def cu_R_orbitOf : List (Nat × List Nat) := [(15, [0, 1, 3, 4, 5]), (24, [0, 1, 3, 4, 5, 6])]
set_option maxRecDepth 100000 in
theorem oc_R_orbitOf : cd_R_orbitOf.all (zchk mi_R_orbitOf) = true := by decide +kernel
set_option maxRecDepth 100000 in
theorem ow_R_orbitOf : zWs mi_R_orbitOf cd_R_orbitOf := ⟨trivial, rfl, trivial, trivial, trivial, trivial, trivial, trivial, trivial, trivial, trivial, trivial, trivial, trivial, trivial, trivial, trivial, trivial, trivial, trivial, trivial, trivial, trivial, trivial, trivial, trivial, trivial, trivial, trivial, trivial, trivial, trivial, trivial, trivial, trivial, trivial, trivial, ⟨rfl, rfl, mv_R_l⟩, trivial, trivial, trivial, trivial, trivial, trivial, trivial, trivial, trivial, trivial, trivial, trivial, trivial, trivial, trivial, trivial, trivial, trivial, trivial, trivial, trivial, ⟨rfl, rfl, mv_R_r⟩, trivial, trivial, trivial, trivial, trivial, trivial, trivial, trivial, trivial, trivial, trivial, trivial, trivial, trivial, trivial, trivial, trivial, trivial, trivial, trivial⟩
theorem ok_R_orbitOf : zgood2 mi_R_orbitOf cd_R_orbitOf := ⟨oc_R_orbitOf, ow_R_orbitOf⟩
def cd_R_arePoints : List ZE := [(0, .iload_n 0, ([0], 0, 0, []), zi0), (1, .iload_n 1, ([1], 0, 0, []), zi0), (2, .invokestatic 76, ([0, 3, 220], 0, 0, []), mi_R_isCode), (5, .istore_n 3, ([3], 0, 0, []), zi0), (6, .iconst 0, ([], nI 0, 0, []), zi0), (7, .istore 4, ([], 0, 0, []), zi0), (9, .iload 4, ([], 0, 0, []), zi0), (11, .iload_n 1, ([1], 0, 0, []), zi0), (12, .if_icmp .ge 29, ([41], 0, 0, []), zi0), (15, .iload_n 3, ([3], 0, 0, []), zi0), (16, .ifCond .eq 17, ([33], 0, 0, []), zi0), (19, .iload_n 0, ([0], 0, 0, []), zi0), (20, .iload 4, ([], 0, 0, []), zi0), (22, .invokestatic 80, ([0, 3, 214], 0, 0, []), mi_R_digit), (25, .iload_n 2, ([2], 0, 0, []), zi0), (26, .if_icmp .ge 7, ([33], 0, 0, []), zi0), (29, .iconst 1, ([], nI 1, 0, []), zi0), (30, .goto 4, ([34], 0, 0, []), zi0), (33, .iconst 0, ([], nI 0, 0, []), zi0), (34, .istore_n 3, ([3], 0, 0, []), zi0), (35, .iinc 4 1, ([], nI 1, 0, []), zi0), (38, .goto (-29), ([9], 0, 0, []), zi0), (41, .iload_n 3, ([3], 0, 0, []), zi0), (42, .ireturn, ([], 0, 0, []), zi0)]
def cu_R_arePoints : List (Nat × List Nat) := [(9, [0, 1, 2, 3, 4])]
set_option maxRecDepth 100000 in
theorem oc_R_arePoints : cd_R_arePoints.all (zchk mi_R_arePoints) = true := by decide +kernel
set_option maxRecDepth 100000 in
theorem ow_R_arePoints : zWs mi_R_arePoints cd_R_arePoints := ⟨trivial, trivial, ⟨rfl, ms_R_isCode⟩, trivial, trivial, trivial, trivial, trivial, trivial, trivial, trivial, trivial, trivial, ⟨rfl, ms_R_digit⟩, trivial, trivial, trivial, trivial, trivial, trivial, trivial, trivial, trivial, trivial, trivial⟩
theorem ok_R_arePoints : zgood2 mi_R_arePoints cd_R_arePoints := ⟨oc_R_arePoints, ow_R_arePoints⟩
def cd_R_areUnits : List ZE := [(0, .iload_n 0, ([0], 0, 0, []), zi0), (1, .iload_n 1, ([1], 0, 0, []), zi0), (2, .invokestatic 76, ([0, 3, 220], 0, 0, []), mi_R_isCode), (5, .istore_n 2, ([2], 0, 0, []), zi0), (6, .iconst 0, ([], nI 0, 0, []), zi0), (7, .istore_n 3, ([3], 0, 0, []), zi0), (8, .iload_n 3, ([3], 0, 0, []), zi0), (9, .iload_n 1, ([1], 0, 0, []), zi0), (10, .if_icmp .ge 23, ([33], 0, 0, []), zi0), (13, .iload_n 2, ([2], 0, 0, []), zi0), (14, .ifCond .eq 19, ([33], 0, 0, []), zi0), (17, .iload_n 0, ([0], 0, 0, []), zi0), (18, .iload_n 3, ([3], 0, 0, []), zi0), (19, .invokestatic 80, ([0, 3, 214], 0, 0, []), mi_R_digit), (22, .iload_n 1, ([1], 0, 0, []), zi0), (23, .invokestatic 113, ([0, 4, 1], 0, 0, []), mi_R_isUnit), (26, .istore_n 2, ([2], 0, 0, []), zi0), (27, .iinc 3 1, ([], nI 1, 0, []), zi0), (30, .goto (-22), ([8], 0, 0, []), zi0), (33, .iload_n 2, ([2], 0, 0, []), zi0), (34, .ireturn, ([], 0, 0, []), zi0)]
def cu_R_areUnits : List (Nat × List Nat) := [(8, [0, 1, 2, 3])]
set_option maxRecDepth 100000 in
theorem oc_R_areUnits : cd_R_areUnits.all (zchk mi_R_areUnits) = true := by decide +kernel
set_option maxRecDepth 100000 in
theorem ow_R_areUnits : zWs mi_R_areUnits cd_R_areUnits := ⟨trivial, trivial, ⟨rfl, ms_R_isCode⟩, trivial, trivial, trivial, trivial, trivial, trivial, trivial, trivial, trivial, trivial, ⟨rfl, ms_R_digit⟩, trivial, ⟨rfl, ms_R_isUnit⟩, trivial, trivial, trivial, trivial, trivial, trivial⟩
theorem ok_R_areUnits : zgood2 mi_R_areUnits cd_R_areUnits := ⟨oc_R_areUnits, ow_R_areUnits⟩
def cd_R_comesBack : List ZE := [(0, .aload_n 0, ([0], 0, 0, []), zi0), (1, .getfield 7, ([8, 0, 3, 126], 0, 0, []), zi0), (4, .iload_n 1, ([1], 0, 0, []), zi0), (5, .iaload, ([], 0, 0, []), zi0), (6, .istore_n 2, ([2], 0, 0, []), zi0), (7, .iconst 1, ([], nI 1, 0, []), zi0), (8, .istore_n 3, ([3], 0, 0, []), zi0), (9, .iconst 0, ([], nI 0, 0, []), zi0), (10, .istore 4, ([], 0, 0, []), zi0), (12, .iload 4, ([], 0, 0, []), zi0), (14, .iload_n 2, ([2], 0, 0, []), zi0), (15, .iload_n 2, ([2], 0, 0, []), zi0), (16, .imul, ([], 0, 0, []), zi0), (17, .if_icmp .ge 77, ([94], 0, 0, []), zi0), (20, .aload_n 0, ([0], 0, 0, []), zi0), (21, .getfield 28, ([8, 6, 3, 132], 0, 0, []), zi0), (24, .iconst 0, ([], nI 0, 0, []), zi0), (25, .iload 4, ([], 0, 0, []), zi0), (27, .iload_n 2, ([2], 0, 0, []), zi0), (28, .idiv, ([], 0, 0, []), zi0), (29, .iastore, ([], 0, 0, []), zi0), (30, .aload_n 0, ([0], 0, 0, []), zi0), (31, .getfield 28, ([8, 6, 3, 132], 0, 0, []), zi0), (34, .iconst 1, ([], nI 1, 0, []), zi0), (35, .iload 4, ([], 0, 0, []), zi0), (37, .iload_n 2, ([2], 0, 0, []), zi0), (38, .irem, ([], 0, 0, []), zi0), (39, .iastore, ([], 0, 0, []), zi0), (40, .aload_n 0, ([0], 0, 0, []), zi0), (41, .iload_n 1, ([1], 0, 0, []), zi0), (42, .iconst 0, ([], nI 0, 0, []), zi0), (43, .invokevirtual 149, ([8, 4, 97], 0, 0, []), mi_R_crosses), (46, .aload_n 0, ([0], 0, 0, []), zi0), (47, .iload_n 1, ([1], 0, 0, []), zi0), (48, .iconst 0, ([], nI 0, 0, []), zi0), (49, .invokevirtual 149, ([8, 4, 97], 0, 0, []), mi_R_crosses), (52, .iload_n 3, ([3], 0, 0, []), zi0), (53, .ifCond .eq 33, ([86], 0, 0, []), zi0), (56, .aload_n 0, ([0], 0, 0, []), zi0), (57, .getfield 28, ([8, 6, 3, 132], 0, 0, []), zi0), (60, .iconst 0, ([], nI 0, 0, []), zi0), (61, .iaload, ([], 0, 0, []), zi0), (62, .iload 4, ([], 0, 0, []), zi0), (64, .iload_n 2, ([2], 0, 0, []), zi0), (65, .idiv, ([], 0, 0, []), zi0), (66, .if_icmp .ne 20, ([86], 0, 0, []), zi0), (69, .aload_n 0, ([0], 0, 0, []), zi0), (70, .getfield 28, ([8, 6, 3, 132], 0, 0, []), zi0), (73, .iconst 1, ([], nI 1, 0, []), zi0), (74, .iaload, ([], 0, 0, []), zi0), (75, .iload 4, ([], 0, 0, []), zi0), (77, .iload_n 2, ([2], 0, 0, []), zi0), (78, .irem, ([], 0, 0, []), zi0), (79, .if_icmp .ne 7, ([86], 0, 0, []), zi0), (82, .iconst 1, ([], nI 1, 0, []), zi0), (83, .goto 4, ([87], 0, 0, []), zi0), (86, .iconst 0, ([], nI 0, 0, []), zi0), (87, .istore_n 3, ([3], 0, 0, []), zi0), (88, .iinc 4 1, ([], nI 1, 0, []), zi0), (91, .goto (-79), ([12], 0, 0, []), zi0), (94, .iload_n 3, ([3], 0, 0, []), zi0), (95, .ireturn, ([], 0, 0, []), zi0)]
def cu_R_comesBack : List (Nat × List Nat) := [(12, [0, 1, 2, 3, 4])]
set_option maxRecDepth 100000 in
theorem oc_R_comesBack : cd_R_comesBack.all (zchk mi_R_comesBack) = true := by decide +kernel
set_option maxRecDepth 100000 in
theorem ow_R_comesBack : zWs mi_R_comesBack cd_R_comesBack := ⟨trivial, rfl, trivial, trivial, trivial, trivial, trivial, trivial, trivial, trivial, trivial, trivial, trivial, trivial, trivial, rfl, trivial, trivial, trivial, trivial, trivial, trivial, rfl, trivial, trivial, trivial, trivial, trivial, trivial, trivial, trivial, ⟨rfl, rfl, mv_R_crosses⟩, trivial, trivial, trivial, ⟨rfl, rfl, mv_R_crosses⟩, trivial, trivial, trivial, rfl, trivial, trivial, trivial, trivial, trivial, trivial, trivial, rfl, trivial, trivial, trivial, trivial, trivial, trivial, trivial, trivial, trivial, trivial, trivial, trivial, trivial, trivial, trivial⟩
theorem ok_R_comesBack : zgood2 mi_R_comesBack cd_R_comesBack := ⟨oc_R_comesBack, ow_R_comesBack⟩
def cd_R_doesFit : List ZE := [(0, .iconst 1, ([], nI 1, 0, []), zi0), (1, .istore 4, ([], 0, 0, []), zi0), (3, .aload_n 0, ([0], 0, 0, []), zi0), (4, .iload_n 1, ([1], 0, 0, []), zi0), (5, .invokevirtual 146, ([8, 4, 61], 0, 0, []), mi_R_isBijective), (8, .istore 5, ([], 0, 0, []), zi0), (10, .iconst 0, ([], nI 0, 0, []), zi0), (11, .istore 6, ([], 0, 0, []), zi0), (13, .iload 6, ([], 0, 0, []), zi0), (15, .aload_n 0, ([0], 0, 0, []), zi0), (16, .getfield 59, ([8, 17, 3, 143], 0, 0, []), zi0), (19, .iload_n 2, ([2], 0, 0, []), zi0), (20, .iaload, ([], 0, 0, []), zi0), (21, .if_icmp .ge 77, ([98], 0, 0, []), zi0), (24, .aload_n 0, ([0], 0, 0, []), zi0), (25, .getfield 56, ([8, 16, 3, 142], 0, 0, []), zi0), (28, .bipush 24, ([], nI 24, 0, []), zi0), (30, .iload_n 2, ([2], 0, 0, []), zi0), (31, .imul, ([], 0, 0, []), zi0), (32, .iload 6, ([], 0, 0, []), zi0), (34, .iadd, ([], 0, 0, []), zi0), (35, .iaload, ([], 0, 0, []), zi0), (36, .istore 7, ([], 0, 0, []), zi0), (38, .iload 7, ([], 0, 0, []), zi0), (40, .bipush 97, ([], nI 97, 0, []), zi0), (42, .if_icmp .lt 11, ([53], 0, 0, []), zi0), (45, .iload 7, ([], 0, 0, []), zi0), (47, .bipush 97, ([], nI 97, 0, []), zi0), (49, .isub, ([], 0, 0, []), zi0), (50, .goto 8, ([58], 0, 0, []), zi0), (53, .iload 7, ([], 0, 0, []), zi0), (55, .bipush 65, ([], nI 65, 0, []), zi0), (57, .isub, ([], 0, 0, []), zi0), (58, .istore 8, ([], 0, 0, []), zi0), (60, .iload 4, ([], 0, 0, []), zi0), (62, .ifCond .eq 27, ([89], 0, 0, []), zi0), (65, .iload 8, ([], 0, 0, []), zi0), (67, .iconst 2, ([], nI 2, 0, []), zi0), (68, .iadd, ([], 0, 0, []), zi0), (69, .iload_n 3, ([3], 0, 0, []), zi0), (70, .if_icmp .gt 19, ([89], 0, 0, []), zi0), (73, .iload 7, ([], 0, 0, []), zi0), (75, .bipush 97, ([], nI 97, 0, []), zi0), (77, .if_icmp .ge 8, ([85], 0, 0, []), zi0), (80, .iload 5, ([], 0, 0, []), zi0), (82, .ifCond .eq 7, ([89], 0, 0, []), zi0), (85, .iconst 1, ([], nI 1, 0, []), zi0), (86, .goto 4, ([90], 0, 0, []), zi0), (89, .iconst 0, ([], nI 0, 0, []), zi0), (90, .istore 4, ([], 0, 0, []), zi0), (92, .iinc 6 1, ([], nI 1, 0, []), zi0), (95, .goto (-82), ([13], 0, 0, []), zi0), (98, .iload 4, ([], 0, 0, []), zi0), (100, .ireturn, ([], 0, 0, []), zi0)]
def cu_R_doesFit : List (Nat × List Nat) := [(13, [0, 2, 3, 4, 5, 6])]
set_option maxRecDepth 100000 in
theorem oc_R_doesFit : cd_R_doesFit.all (zchk mi_R_doesFit) = true := by decide +kernel
set_option maxRecDepth 100000 in
theorem ow_R_doesFit : zWs mi_R_doesFit cd_R_doesFit := ⟨trivial, trivial, trivial, trivial, ⟨rfl, rfl, mv_R_isBijective⟩, trivial, trivial, trivial, trivial, trivial, rfl, trivial, trivial, trivial, trivial, rfl, trivial, trivial, trivial, trivial, trivial, trivial, trivial, trivial, trivial, trivial, trivial, trivial, trivial, trivial, trivial, trivial, trivial, trivial, trivial, trivial, trivial, trivial, trivial, trivial, trivial, trivial, trivial, trivial, trivial, trivial, trivial, trivial, trivial, trivial, trivial, trivial, trivial, trivial, trivial⟩
theorem ok_R_doesFit : zgood2 mi_R_doesFit cd_R_doesFit := ⟨oc_R_doesFit, ow_R_doesFit⟩
def cd_R_erase : List ZE := [(0, .iload_n 1, ([1], 0, 0, []), zi0), (1, .invokestatic 285, ([0, 5, 43], 0, 0, []), mi_R_isBraid), (4, .ifCond .ne 6, ([10], 0, 0, []), zi0), (7, .ldc 88, ([3, 192], (-1000001), 0, []), zi0), (9, .ireturn, ([], 0, 0, []), zi0), (10, .aload_n 0, ([0], 0, 0, []), zi0), (11, .getfield 59, ([8, 17, 3, 143], 0, 0, []), zi0), (14, .iload_n 1, ([1], 0, 0, []), zi0), (15, .iaload, ([], 0, 0, []), zi0), (16, .istore_n 2, ([2], 0, 0, []), zi0), (17, .aload_n 0, ([0], 0, 0, []), zi0), (18, .getfield 59, ([8, 17, 3, 143], 0, 0, []), zi0), (21, .iload_n 1, ([1], 0, 0, []), zi0), (22, .iconst 0, ([], nI 0, 0, []), zi0), (23, .iastore, ([], 0, 0, []), zi0), (24, .iload_n 2, ([2], 0, 0, []), zi0), (25, .ireturn, ([], 0, 0, []), zi0)]
def cu_R_erase : List (Nat × List Nat) := []
set_option maxRecDepth 100000 in
theorem oc_R_erase : cd_R_erase.all (zchk mi_R_erase) = true := by decide +kernel
set_option maxRecDepth 100000 in
theorem ow_R_erase : zWs mi_R_erase cd_R_erase := ⟨trivial, ⟨rfl, ms_R_isBraid⟩, trivial, rfl, trivial, trivial, rfl, trivial, trivial, trivial, trivial, rfl, trivial, trivial, trivial, trivial, trivial, trivial⟩
theorem ok_R_erase : zgood2 mi_R_erase cd_R_erase := ⟨oc_R_erase, ow_R_erase⟩
def cd_R_firstBad : List ZE := [(0, .aload_n 0, ([0], 0, 0, []), zi0), (1, .getfield 7, ([8, 0, 3, 126], 0, 0, []), zi0), (4, .iconst 5, ([], nI 5, 0, []), zi0), (5, .iaload, ([], 0, 0, []), zi0), (6, .istore_n 1, ([1], 0, 0, []), zi0), (7, .iload_n 1, ([1], 0, 0, []), zi0), (8, .istore_n 2, ([2], 0, 0, []), zi0), (9, .iconst 0, ([], nI 0, 0, []), zi0), (10, .istore_n 3, ([3], 0, 0, []), zi0), (11, .iload_n 3, ([3], 0, 0, []), zi0), (12, .iload_n 1, ([1], 0, 0, []), zi0), (13, .if_icmp .ge 61, ([74], 0, 0, []), zi0), (16, .iload_n 2, ([2], 0, 0, []), zi0), (17, .iload_n 1, ([1], 0, 0, []), zi0), (18, .if_icmp .ne 56, ([74], 0, 0, []), zi0), (21, .iconst 0, ([], nI 0, 0, []), zi0), (22, .istore 4, ([], 0, 0, []), zi0), (24, .iload 4, ([], 0, 0, []), zi0), (26, .iload_n 3, ([3], 0, 0, []), zi0), (27, .iconst 1, ([], nI 1, 0, []), zi0), (28, .iadd, ([], 0, 0, []), zi0), (29, .iload_n 3, ([3], 0, 0, []), zi0), (30, .iconst 1, ([], nI 1, 0, []), zi0), (31, .iadd, ([], 0, 0, []), zi0), (32, .imul, ([], 0, 0, []), zi0), (33, .if_icmp .ge 35, ([68], 0, 0, []), zi0), (36, .aload_n 0, ([0], 0, 0, []), zi0), (37, .iload 4, ([], 0, 0, []), zi0), (39, .iload_n 3, ([3], 0, 0, []), zi0), (40, .iconst 1, ([], nI 1, 0, []), zi0), (41, .iadd, ([], 0, 0, []), zi0), (42, .idiv, ([], 0, 0, []), zi0), (43, .iload 4, ([], 0, 0, []), zi0), (45, .iload_n 3, ([3], 0, 0, []), zi0), (46, .iconst 1, ([], nI 1, 0, []), zi0), (47, .iadd, ([], 0, 0, []), zi0), (48, .irem, ([], 0, 0, []), zi0), (49, .iload_n 3, ([3], 0, 0, []), zi0), (50, .invokevirtual 199, ([8, 4, 201], 0, 0, []), mi_R_failsWithin), (53, .ifCond .eq 7, ([60], 0, 0, []), zi0), (56, .iload_n 3, ([3], 0, 0, []), zi0), (57, .goto 4, ([61], 0, 0, []), zi0), (60, .iload_n 2, ([2], 0, 0, []), zi0), (61, .istore_n 2, ([2], 0, 0, []), zi0), (62, .iinc 4 1, ([], nI 1, 0, []), zi0), (65, .goto (-41), ([24], 0, 0, []), zi0), (68, .iinc 3 1, ([], nI 1, 0, []), zi0), (71, .goto (-60), ([11], 0, 0, []), zi0), (74, .iload_n 2, ([2], 0, 0, []), zi0), (75, .ireturn, ([], 0, 0, []), zi0)]
def cu_R_firstBad : List (Nat × List Nat) := [(11, [0, 1, 2, 3]), (24, [0, 1, 2, 3, 4])]
set_option maxRecDepth 100000 in
theorem oc_R_firstBad : cd_R_firstBad.all (zchk mi_R_firstBad) = true := by decide +kernel
set_option maxRecDepth 100000 in
theorem ow_R_firstBad : zWs mi_R_firstBad cd_R_firstBad := ⟨trivial, rfl, trivial, trivial, trivial, trivial, trivial, trivial, trivial, trivial, trivial, trivial, trivial, trivial, trivial, trivial, trivial, trivial, trivial, trivial, trivial, trivial, trivial, trivial, trivial, trivial, trivial, trivial, trivial, trivial, trivial, trivial, trivial, trivial, trivial, trivial, trivial, trivial, ⟨rfl, rfl, mv_R_failsWithin⟩, trivial, trivial, trivial, trivial, trivial, trivial, trivial, trivial, trivial, trivial, trivial, trivial⟩
theorem ok_R_firstBad : zgood2 mi_R_firstBad cd_R_firstBad := ⟨oc_R_firstBad, ow_R_firstBad⟩
def cd_R_flip : List ZE := [(0, .iload_n 1, ([1], 0, 0, []), zi0), (1, .invokestatic 68, ([0, 3, 185], 0, 0, []), mi_R_isPlace), (4, .ifCond .ne 6, ([10], 0, 0, []), zi0), (7, .ldc 88, ([3, 192], (-1000001), 0, []), zi0), (9, .ireturn, ([], 0, 0, []), zi0), (10, .iload_n 2, ([2], 0, 0, []), zi0), (11, .i2l, ([], 0, 0, []), zi0), (12, .lconst 1, ([], 0, lN 1, []), zi0), (13, .ldc2_w 89, ([3, 193], 0, lN 6, []), zi0), (16, .invokestatic 64, ([0, 3, 189], 0, 0, []), mi_R_in), (19, .ifCond .ne 6, ([25], 0, 0, []), zi0), (22, .ldc 91, ([3, 194], (-1000002), 0, []), zi0), (24, .ireturn, ([], 0, 0, []), zi0), (25, .aload_n 0, ([0], 0, 0, []), zi0), (26, .getfield 7, ([8, 0, 3, 126], 0, 0, []), zi0), (29, .iconst 4, ([], nI 4, 0, []), zi0), (30, .iload_n 2, ([2], 0, 0, []), zi0), (31, .iastore, ([], 0, 0, []), zi0), (32, .iconst 0, ([], nI 0, 0, []), zi0), (33, .istore_n 3, ([3], 0, 0, []), zi0), (34, .iload_n 3, ([3], 0, 0, []), zi0), (35, .iload_n 2, ([2], 0, 0, []), zi0), (36, .iload_n 2, ([2], 0, 0, []), zi0), (37, .imul, ([], 0, 0, []), zi0), (38, .if_icmp .ge 26, ([64], 0, 0, []), zi0), (41, .aload_n 0, ([0], 0, 0, []), zi0), (42, .iconst 4, ([], nI 4, 0, []), zi0), (43, .iload_n 3, ([3], 0, 0, []), zi0), (44, .iload_n 2, ([2], 0, 0, []), zi0), (45, .idiv, ([], 0, 0, []), zi0), (46, .iload_n 3, ([3], 0, 0, []), zi0), (47, .iload_n 2, ([2], 0, 0, []), zi0), (48, .irem, ([], 0, 0, []), zi0), (49, .iload_n 3, ([3], 0, 0, []), zi0), (50, .iload_n 2, ([2], 0, 0, []), zi0), (51, .irem, ([], 0, 0, []), zi0), (52, .iload_n 3, ([3], 0, 0, []), zi0), (53, .iload_n 2, ([2], 0, 0, []), zi0), (54, .idiv, ([], 0, 0, []), zi0), (55, .invokevirtual 92, ([8, 3, 195], 0, 0, []), mi_R_lay), (58, .iinc 3 1, ([], nI 1, 0, []), zi0), (61, .goto (-27), ([34], 0, 0, []), zi0), (64, .aload_n 0, ([0], 0, 0, []), zi0), (65, .iload_n 1, ([1], 0, 0, []), zi0), (66, .invokevirtual 96, ([8, 3, 199], 0, 0, []), mi_R_comes), (69, .ireturn, ([], 0, 0, []), zi0)]
def cu_R_flip : List (Nat × List Nat) := [(34, [0, 1, 2, 3])]
set_option maxRecDepth 100000 in
theorem oc_R_flip : cd_R_flip.all (zchk mi_R_flip) = true := by decide +kernel
set_option maxRecDepth 100000 in
theorem ow_R_flip : zWs mi_R_flip cd_R_flip := ⟨trivial, ⟨rfl, ms_R_isPlace⟩, trivial, rfl, trivial, trivial, trivial, trivial, rfl, ⟨rfl, ms_R_in⟩, trivial, rfl, trivial, trivial, rfl, trivial, trivial, trivial, trivial, trivial, trivial, trivial, trivial, trivial, trivial, trivial, trivial, trivial, trivial, trivial, trivial, trivial, trivial, trivial, trivial, trivial, trivial, trivial, trivial, ⟨rfl, rfl, mv_R_lay⟩, trivial, trivial, trivial, trivial, ⟨rfl, rfl, mv_R_comes⟩, trivial, trivial⟩
theorem ok_R_flip : zgood2 mi_R_flip cd_R_flip := ⟨oc_R_flip, ow_R_flip⟩
def cd_R_goesThrough : List ZE := [(0, .iconst 0, ([], nI 0, 0, []), zi0), (1, .istore_n 3, ([3], 0, 0, []), zi0), (2, .iload_n 3, ([3], 0, 0, []), zi0), (3, .aload_n 0, ([0], 0, 0, []), zi0), (4, .getfield 59, ([8, 17, 3, 143], 0, 0, []), zi0), (7, .iload_n 2, ([2], 0, 0, []), zi0), (8, .iaload, ([], 0, 0, []), zi0), (9, .if_icmp .ge 52, ([61], 0, 0, []), zi0), (12, .aload_n 0, ([0], 0, 0, []), zi0), (13, .getfield 56, ([8, 16, 3, 142], 0, 0, []), zi0), (16, .bipush 24, ([], nI 24, 0, []), zi0), (18, .iload_n 2, ([2], 0, 0, []), zi0), (19, .imul, ([], 0, 0, []), zi0), (20, .iload_n 3, ([3], 0, 0, []), zi0), (21, .iadd, ([], 0, 0, []), zi0), (22, .iaload, ([], 0, 0, []), zi0), (23, .istore 4, ([], 0, 0, []), zi0), (25, .iload 4, ([], 0, 0, []), zi0), (27, .bipush 97, ([], nI 97, 0, []), zi0), (29, .if_icmp .lt 16, ([45], 0, 0, []), zi0), (32, .aload_n 0, ([0], 0, 0, []), zi0), (33, .iload_n 1, ([1], 0, 0, []), zi0), (34, .iload 4, ([], 0, 0, []), zi0), (36, .bipush 97, ([], nI 97, 0, []), zi0), (38, .isub, ([], 0, 0, []), zi0), (39, .invokevirtual 149, ([8, 4, 97], 0, 0, []), mi_R_crosses), (42, .goto 13, ([55], 0, 0, []), zi0), (45, .aload_n 0, ([0], 0, 0, []), zi0), (46, .iload_n 1, ([1], 0, 0, []), zi0), (47, .iload 4, ([], 0, 0, []), zi0), (49, .bipush 65, ([], nI 65, 0, []), zi0), (51, .isub, ([], 0, 0, []), zi0), (52, .invokevirtual 296, ([8, 5, 70], 0, 0, []), mi_R_goesBack), (55, .iinc 3 1, ([], nI 1, 0, []), zi0), (58, .goto (-56), ([2], 0, 0, []), zi0), (61, .return_, ([], 0, 0, []), zi0)]
def cu_R_goesThrough : List (Nat × List Nat) := [(2, [0, 1, 2, 3])]
set_option maxRecDepth 100000 in
theorem oc_R_goesThrough : cd_R_goesThrough.all (zchk mi_R_goesThrough) = true := by decide +kernel
set_option maxRecDepth 100000 in
theorem ow_R_goesThrough : zWs mi_R_goesThrough cd_R_goesThrough := ⟨trivial, trivial, trivial, trivial, rfl, trivial, trivial, trivial, trivial, rfl, trivial, trivial, trivial, trivial, trivial, trivial, trivial, trivial, trivial, trivial, trivial, trivial, trivial, trivial, trivial, ⟨rfl, rfl, mv_R_crosses⟩, trivial, trivial, trivial, trivial, trivial, trivial, ⟨rfl, rfl, mv_R_goesBack⟩, trivial, trivial, trivial, trivial⟩
theorem ok_R_goesThrough : zgood2 mi_R_goesThrough cd_R_goesThrough := ⟨oc_R_goesThrough, ow_R_goesThrough⟩
def cd_R_group : List ZE := [(0, .iload_n 1, ([1], 0, 0, []), zi0), (1, .invokestatic 68, ([0, 3, 185], 0, 0, []), mi_R_isPlace), (4, .ifCond .ne 6, ([10], 0, 0, []), zi0), (7, .ldc 88, ([3, 192], (-1000001), 0, []), zi0), (9, .ireturn, ([], 0, 0, []), zi0), (10, .iload_n 2, ([2], 0, 0, []), zi0), (11, .i2l, ([], 0, 0, []), zi0), (12, .lconst 0, ([], 0, lN 0, []), zi0), (13, .ldc2_w 107, ([3, 227], 0, lN 2, []), zi0), (16, .invokestatic 64, ([0, 3, 189], 0, 0, []), mi_R_in), (19, .ifCond .eq 36, ([55], 0, 0, []), zi0), (22, .iload_n 3, ([3], 0, 0, []), zi0), (23, .i2l, ([], 0, 0, []), zi0), (24, .lconst 1, ([], 0, lN 1, []), zi0), (25, .ldc2_w 89, ([3, 193], 0, lN 6, []), zi0), (28, .invokestatic 64, ([0, 3, 189], 0, 0, []), mi_R_in), (31, .ifCond .eq 24, ([55], 0, 0, []), zi0), (34, .iload_n 2, ([2], 0, 0, []), zi0), (35, .iconst 1, ([], nI 1, 0, []), zi0), (36, .if_icmp .ne 8, ([44], 0, 0, []), zi0), (39, .iload_n 3, ([3], 0, 0, []), zi0), (40, .iconst 4, ([], nI 4, 0, []), zi0), (41, .if_icmp .ne 14, ([55], 0, 0, []), zi0), (44, .iload_n 2, ([2], 0, 0, []), zi0), (45, .iconst 2, ([], nI 2, 0, []), zi0), (46, .if_icmp .ne 12, ([58], 0, 0, []), zi0), (49, .iload_n 3, ([3], 0, 0, []), zi0), (50, .bipush 6, ([], nI 6, 0, []), zi0), (52, .if_icmp .eq 6, ([58], 0, 0, []), zi0), (55, .ldc 91, ([3, 194], (-1000002), 0, []), zi0), (57, .ireturn, ([], 0, 0, []), zi0), (58, .aload_n 0, ([0], 0, 0, []), zi0), (59, .getfield 7, ([8, 0, 3, 126], 0, 0, []), zi0), (62, .iconst 4, ([], nI 4, 0, []), zi0), (63, .iload_n 3, ([3], 0, 0, []), zi0), (64, .iastore, ([], 0, 0, []), zi0), (65, .iconst 0, ([], nI 0, 0, []), zi0), (66, .istore 4, ([], 0, 0, []), zi0), (68, .iload 4, ([], 0, 0, []), zi0), (70, .iload_n 3, ([3], 0, 0, []), zi0), (71, .iload_n 3, ([3], 0, 0, []), zi0), (72, .imul, ([], 0, 0, []), zi0), (73, .if_icmp .ge 59, ([132], 0, 0, []), zi0), (76, .iload 4, ([], 0, 0, []), zi0), (78, .iload_n 3, ([3], 0, 0, []), zi0), (79, .idiv, ([], 0, 0, []), zi0), (80, .istore 5, ([], 0, 0, []), zi0), (82, .iload_n 2, ([2], 0, 0, []), zi0), (83, .iload_n 3, ([3], 0, 0, []), zi0), (84, .iload 5, ([], 0, 0, []), zi0), (86, .iload 4, ([], 0, 0, []), zi0), (88, .iload_n 3, ([3], 0, 0, []), zi0), (89, .irem, ([], 0, 0, []), zi0), (90, .invokestatic 103, ([0, 3, 228], 0, 0, []), mi_R_times), (93, .istore 6, ([], 0, 0, []), zi0), (95, .iload_n 2, ([2], 0, 0, []), zi0), (96, .iload_n 3, ([3], 0, 0, []), zi0), (97, .iload 5, ([], 0, 0, []), zi0), (99, .invokestatic 109, ([0, 3, 231], 0, 0, []), mi_R_backFrom), (102, .istore 7, ([], 0, 0, []), zi0), (104, .aload_n 0, ([0], 0, 0, []), zi0), (105, .iconst 4, ([], nI 4, 0, []), zi0), (106, .iload 5, ([], 0, 0, []), zi0), (108, .iload 4, ([], 0, 0, []), zi0), (110, .iload_n 3, ([3], 0, 0, []), zi0), (111, .irem, ([], 0, 0, []), zi0), (112, .iload_n 2, ([2], 0, 0, []), zi0), (113, .iload_n 3, ([3], 0, 0, []), zi0), (114, .iload 6, ([], 0, 0, []), zi0), (116, .iload 7, ([], 0, 0, []), zi0), (118, .invokestatic 103, ([0, 3, 228], 0, 0, []), mi_R_times), (121, .iload 5, ([], 0, 0, []), zi0), (123, .invokevirtual 92, ([8, 3, 195], 0, 0, []), mi_R_lay), (126, .iinc 4 1, ([], nI 1, 0, []), zi0), (129, .goto (-61), ([68], 0, 0, []), zi0), (132, .aload_n 0, ([0], 0, 0, []), zi0), (133, .iload_n 1, ([1], 0, 0, []), zi0), (134, .invokevirtual 96, ([8, 3, 199], 0, 0, []), mi_R_comes), (137, .ireturn, ([], 0, 0, []), zi0)]
def cu_R_group : List (Nat × List Nat) := [(68, [0, 1, 2, 3, 4])]
set_option maxRecDepth 100000 in
theorem oc_R_group : cd_R_group.all (zchk mi_R_group) = true := by decide +kernel
set_option maxRecDepth 100000 in
theorem ow_R_group : zWs mi_R_group cd_R_group := ⟨trivial, ⟨rfl, ms_R_isPlace⟩, trivial, rfl, trivial, trivial, trivial, trivial, rfl, ⟨rfl, ms_R_in⟩, trivial, trivial, trivial, trivial, rfl, ⟨rfl, ms_R_in⟩, trivial, trivial, trivial, trivial, trivial, trivial, trivial, trivial, trivial, trivial, trivial, trivial, trivial, rfl, trivial, trivial, rfl, trivial, trivial, trivial, trivial, trivial, trivial, trivial, trivial, trivial, trivial, trivial, trivial, trivial, trivial, trivial, trivial, trivial, trivial, trivial, trivial, ⟨rfl, ms_R_times⟩, trivial, trivial, trivial, trivial, ⟨rfl, ms_R_backFrom⟩, trivial, trivial, trivial, trivial, trivial, trivial, trivial, trivial, trivial, trivial, trivial, ⟨rfl, ms_R_times⟩, trivial, ⟨rfl, rfl, mv_R_lay⟩, trivial, trivial, trivial, trivial, ⟨rfl, rfl, mv_R_comes⟩, trivial, trivial⟩
theorem ok_R_group : zgood2 mi_R_group cd_R_group := ⟨oc_R_group, ow_R_group⟩
def cd_R_groupSize : List ZE := [(0, .aload_n 0, ([0], 0, 0, []), zi0), (1, .getfield 7, ([8, 0, 3, 126], 0, 0, []), zi0), (4, .iload_n 1, ([1], 0, 0, []), zi0), (5, .iaload, ([], 0, 0, []), zi0), (6, .istore_n 2, ([2], 0, 0, []), zi0), (7, .aload_n 0, ([0], 0, 0, []), zi0), (8, .iload_n 1, ([1], 0, 0, []), zi0), (9, .iconst 1, ([], nI 1, 0, []), zi0), (10, .invokevirtual 164, ([8, 4, 108], 0, 0, []), mi_R_isPlain), (13, .ifCond .ne 5, ([18], 0, 0, []), zi0), (16, .iconst (-1), ([], (-1), 0, []), zi0), (17, .ireturn, ([], 0, 0, []), zi0), (18, .iconst 0, ([], nI 0, 0, []), zi0), (19, .istore_n 3, ([3], 0, 0, []), zi0), (20, .iload_n 3, ([3], 0, 0, []), zi0), (21, .sipush 720, ([], nI 720, 0, []), zi0), (24, .if_icmp .ge 16, ([40], 0, 0, []), zi0), (27, .aload_n 0, ([0], 0, 0, []), zi0), (28, .getfield 31, ([8, 7, 3, 133], 0, 0, []), zi0), (31, .iload_n 3, ([3], 0, 0, []), zi0), (32, .iconst 0, ([], nI 0, 0, []), zi0), (33, .bastore, ([], 0, 0, []), zi0), (34, .iinc 3 1, ([], nI 1, 0, []), zi0), (37, .goto (-17), ([20], 0, 0, []), zi0), (40, .aload_n 0, ([0], 0, 0, []), zi0), (41, .iload_n 2, ([2], 0, 0, []), zi0), (42, .invokevirtual 168, ([8, 4, 136], 0, 0, []), mi_R_firstName), (45, .aload_n 0, ([0], 0, 0, []), zi0), (46, .getfield 35, ([8, 8, 3, 134], 0, 0, []), zi0), (49, .iconst 0, ([], nI 0, 0, []), zi0), (50, .aload_n 0, ([0], 0, 0, []), zi0), (51, .iload_n 2, ([2], 0, 0, []), zi0), (52, .invokevirtual 171, ([8, 4, 140], 0, 0, []), mi_R_nameCode), (55, .iastore, ([], 0, 0, []), zi0), (56, .aload_n 0, ([0], 0, 0, []), zi0), (57, .getfield 31, ([8, 7, 3, 133], 0, 0, []), zi0), (60, .aload_n 0, ([0], 0, 0, []), zi0), (61, .getfield 35, ([8, 8, 3, 134], 0, 0, []), zi0), (64, .iconst 0, ([], nI 0, 0, []), zi0), (65, .iaload, ([], 0, 0, []), zi0), (66, .iload_n 2, ([2], 0, 0, []), zi0), (67, .invokestatic 174, ([0, 4, 144], 0, 0, []), mi_R_numberOf), (70, .iconst 1, ([], nI 1, 0, []), zi0), (71, .bastore, ([], 0, 0, []), zi0), (72, .iconst 1, ([], nI 1, 0, []), zi0), (73, .istore_n 3, ([3], 0, 0, []), zi0), (74, .iconst 0, ([], nI 0, 0, []), zi0), (75, .istore 4, ([], 0, 0, []), zi0), (77, .iload 4, ([], 0, 0, []), zi0), (79, .iload_n 3, ([3], 0, 0, []), zi0), (80, .if_icmp .ge 77, ([157], 0, 0, []), zi0), (83, .iconst 0, ([], nI 0, 0, []), zi0), (84, .istore 5, ([], 0, 0, []), zi0), (86, .iload 5, ([], 0, 0, []), zi0), (88, .iload_n 2, ([2], 0, 0, []), zi0), (89, .if_icmp .ge 62, ([151], 0, 0, []), zi0), (92, .aload_n 0, ([0], 0, 0, []), zi0), (93, .iload_n 1, ([1], 0, 0, []), zi0), (94, .aload_n 0, ([0], 0, 0, []), zi0), (95, .getfield 35, ([8, 8, 3, 134], 0, 0, []), zi0), (98, .iload 4, ([], 0, 0, []), zi0), (100, .iaload, ([], 0, 0, []), zi0), (101, .iload 5, ([], 0, 0, []), zi0), (103, .invokevirtual 177, ([8, 4, 147], 0, 0, []), mi_R_behind), (106, .istore 6, ([], 0, 0, []), zi0), (108, .aload_n 0, ([0], 0, 0, []), zi0), (109, .getfield 31, ([8, 7, 3, 133], 0, 0, []), zi0), (112, .iload 6, ([], 0, 0, []), zi0), (114, .iload_n 2, ([2], 0, 0, []), zi0), (115, .invokestatic 174, ([0, 4, 144], 0, 0, []), mi_R_numberOf), (118, .baload, ([], 0, 0, []), zi0), (119, .ifCond .ne 26, ([145], 0, 0, []), zi0), (122, .aload_n 0, ([0], 0, 0, []), zi0), (123, .getfield 31, ([8, 7, 3, 133], 0, 0, []), zi0), (126, .iload 6, ([], 0, 0, []), zi0), (128, .iload_n 2, ([2], 0, 0, []), zi0), (129, .invokestatic 174, ([0, 4, 144], 0, 0, []), mi_R_numberOf), (132, .iconst 1, ([], nI 1, 0, []), zi0), (133, .bastore, ([], 0, 0, []), zi0), (134, .aload_n 0, ([0], 0, 0, []), zi0), (135, .getfield 35, ([8, 8, 3, 134], 0, 0, []), zi0), (138, .iload_n 3, ([3], 0, 0, []), zi0), (139, .iload 6, ([], 0, 0, []), zi0), (141, .iastore, ([], 0, 0, []), zi0), (142, .iinc 3 1, ([], nI 1, 0, []), zi0), (145, .iinc 5 1, ([], nI 1, 0, []), zi0), (148, .goto (-62), ([86], 0, 0, []), zi0), (151, .iinc 4 1, ([], nI 1, 0, []), zi0), (154, .goto (-77), ([77], 0, 0, []), zi0), (157, .iload_n 3, ([3], 0, 0, []), zi0), (158, .ireturn, ([], 0, 0, []), zi0)]
def cu_R_groupSize : List (Nat × List Nat) := [(20, [0, 1, 2, 3]), (77, [0, 1, 2, 3, 4]), (86, [0, 1, 2, 3, 4, 5])]
set_option maxRecDepth 100000 in
theorem oc_R_groupSize : cd_R_groupSize.all (zchk mi_R_groupSize) = true := by decide +kernel
set_option maxRecDepth 100000 in
theorem ow_R_groupSize : zWs mi_R_groupSize cd_R_groupSize := ⟨trivial, rfl, trivial, trivial, trivial, trivial, trivial, trivial, ⟨rfl, rfl, mv_R_isPlain⟩, trivial, trivial, trivial, trivial, trivial, trivial, trivial, trivial, trivial, rfl, trivial, trivial, trivial, trivial, trivial, trivial, trivial, ⟨rfl, rfl, mv_R_firstName⟩, trivial, rfl, trivial, trivial, trivial, ⟨rfl, rfl, mv_R_nameCode⟩, trivial, trivial, rfl, trivial, rfl, trivial, trivial, trivial, ⟨rfl, ms_R_numberOf⟩, trivial, trivial, trivial, trivial, trivial, trivial, trivial, trivial, trivial, trivial, trivial, trivial, trivial, trivial, trivial, trivial, trivial, rfl, trivial, trivial, trivial, ⟨rfl, rfl, mv_R_behind⟩, trivial, trivial, rfl, trivial, trivial, ⟨rfl, ms_R_numberOf⟩, trivial, trivial, trivial, rfl, trivial, trivial, ⟨rfl, ms_R_numberOf⟩, trivial, trivial, trivial, rfl, trivial, trivial, trivial, trivial, trivial, trivial, trivial, trivial, trivial, trivial, trivial⟩
theorem ok_R_groupSize : zgood2 mi_R_groupSize cd_R_groupSize := ⟨oc_R_groupSize, ow_R_groupSize⟩
def cd_R_isMap : List ZE := [(0, .iload_n 1, ([1], 0, 0, []), zi0), (1, .invokestatic 68, ([0, 3, 185], 0, 0, []), mi_R_isPlace), (4, .ifCond .eq 16, ([20], 0, 0, []), zi0), (7, .aload_n 0, ([0], 0, 0, []), zi0), (8, .getfield 7, ([8, 0, 3, 126], 0, 0, []), zi0), (11, .iload_n 1, ([1], 0, 0, []), zi0), (12, .iaload, ([], 0, 0, []), zi0), (13, .ifCond .le 7, ([20], 0, 0, []), zi0), (16, .iconst 1, ([], nI 1, 0, []), zi0), (17, .goto 4, ([21], 0, 0, []), zi0), (20, .iconst 0, ([], nI 0, 0, []), zi0), (21, .ireturn, ([], 0, 0, []), zi0)]
def cu_R_isMap : List (Nat × List Nat) := []
set_option maxRecDepth 100000 in
theorem oc_R_isMap : cd_R_isMap.all (zchk mi_R_isMap) = true := by decide +kernel
set_option maxRecDepth 100000 in
theorem ow_R_isMap : zWs mi_R_isMap cd_R_isMap := ⟨trivial, ⟨rfl, ms_R_isPlace⟩, trivial, trivial, rfl, trivial, trivial, trivial, trivial, trivial, trivial, trivial, trivial⟩
theorem ok_R_isMap : zgood2 mi_R_isMap cd_R_isMap := ⟨oc_R_isMap, ow_R_isMap⟩
def cd_R_layClasses : List ZE := [(0, .iconst 0, ([], nI 0, 0, []), zi0), (1, .istore_n 2, ([2], 0, 0, []), zi0), (2, .iconst 0, ([], nI 0, 0, []), zi0), (3, .istore_n 3, ([3], 0, 0, []), zi0), (4, .iload_n 3, ([3], 0, 0, []), zi0), (5, .aload_n 0, ([0], 0, 0, []), zi0), (6, .getfield 7, ([8, 0, 3, 126], 0, 0, []), zi0), (9, .iload_n 1, ([1], 0, 0, []), zi0), (10, .iaload, ([], 0, 0, []), zi0), (11, .if_icmp .ge 91, ([102], 0, 0, []), zi0), (14, .aload_n 0, ([0], 0, 0, []), zi0), (15, .getfield 22, ([8, 4, 3, 130], 0, 0, []), zi0), (18, .iload_n 3, ([3], 0, 0, []), zi0), (19, .iconst (-1), ([], (-1), 0, []), zi0), (20, .iastore, ([], 0, 0, []), zi0), (21, .iconst 0, ([], nI 0, 0, []), zi0), (22, .istore 4, ([], 0, 0, []), zi0), (24, .iload 4, ([], 0, 0, []), zi0), (26, .iload_n 2, ([2], 0, 0, []), zi0), (27, .if_icmp .ge 42, ([69], 0, 0, []), zi0), (30, .aload_n 0, ([0], 0, 0, []), zi0), (31, .getfield 22, ([8, 4, 3, 130], 0, 0, []), zi0), (34, .iload_n 3, ([3], 0, 0, []), zi0), (35, .aload_n 0, ([0], 0, 0, []), zi0), (36, .iload_n 1, ([1], 0, 0, []), zi0), (37, .iload_n 3, ([3], 0, 0, []), zi0), (38, .aload_n 0, ([0], 0, 0, []), zi0), (39, .getfield 25, ([8, 5, 3, 131], 0, 0, []), zi0), (42, .iload 4, ([], 0, 0, []), zi0), (44, .iaload, ([], 0, 0, []), zi0), (45, .invokevirtual 135, ([8, 4, 44], 0, 0, []), mi_R_areAlike), (48, .ifCond .eq 8, ([56], 0, 0, []), zi0), (51, .iload 4, ([], 0, 0, []), zi0), (53, .goto 9, ([62], 0, 0, []), zi0), (56, .aload_n 0, ([0], 0, 0, []), zi0), (57, .getfield 22, ([8, 4, 3, 130], 0, 0, []), zi0), (60, .iload_n 3, ([3], 0, 0, []), zi0), (61, .iaload, ([], 0, 0, []), zi0), (62, .iastore, ([], 0, 0, []), zi0), (63, .iinc 4 1, ([], nI 1, 0, []), zi0), (66, .goto (-42), ([24], 0, 0, []), zi0), (69, .aload_n 0, ([0], 0, 0, []), zi0), (70, .getfield 22, ([8, 4, 3, 130], 0, 0, []), zi0), (73, .iload_n 3, ([3], 0, 0, []), zi0), (74, .iaload, ([], 0, 0, []), zi0), (75, .iconst (-1), ([], (-1), 0, []), zi0), (76, .if_icmp .ne 20, ([96], 0, 0, []), zi0), (79, .aload_n 0, ([0], 0, 0, []), zi0), (80, .getfield 22, ([8, 4, 3, 130], 0, 0, []), zi0), (83, .iload_n 3, ([3], 0, 0, []), zi0), (84, .iload_n 2, ([2], 0, 0, []), zi0), (85, .iastore, ([], 0, 0, []), zi0), (86, .aload_n 0, ([0], 0, 0, []), zi0), (87, .getfield 25, ([8, 5, 3, 131], 0, 0, []), zi0), (90, .iload_n 2, ([2], 0, 0, []), zi0), (91, .iload_n 3, ([3], 0, 0, []), zi0), (92, .iastore, ([], 0, 0, []), zi0), (93, .iinc 2 1, ([], nI 1, 0, []), zi0), (96, .iinc 3 1, ([], nI 1, 0, []), zi0), (99, .goto (-95), ([4], 0, 0, []), zi0), (102, .iload_n 2, ([2], 0, 0, []), zi0), (103, .ireturn, ([], 0, 0, []), zi0)]
def cu_R_layClasses : List (Nat × List Nat) := [(4, [0, 1, 2, 3]), (24, [0, 1, 2, 3, 4])]
set_option maxRecDepth 100000 in
theorem oc_R_layClasses : cd_R_layClasses.all (zchk mi_R_layClasses) = true := by decide +kernel
set_option maxRecDepth 100000 in
theorem ow_R_layClasses : zWs mi_R_layClasses cd_R_layClasses := ⟨trivial, trivial, trivial, trivial, trivial, trivial, rfl, trivial, trivial, trivial, trivial, rfl, trivial, trivial, trivial, trivial, trivial, trivial, trivial, trivial, trivial, rfl, trivial, trivial, trivial, trivial, trivial, rfl, trivial, trivial, ⟨rfl, rfl, mv_R_areAlike⟩, trivial, trivial, trivial, trivial, rfl, trivial, trivial, trivial, trivial, trivial, trivial, rfl, trivial, trivial, trivial, trivial, trivial, rfl, trivial, trivial, trivial, trivial, rfl, trivial, trivial, trivial, trivial, trivial, trivial, trivial, trivial, trivial⟩
theorem ok_R_layClasses : zgood2 mi_R_layClasses cd_R_layClasses := ⟨oc_R_layClasses, ow_R_layClasses⟩
def cd_R_layListed : List ZE := [(0, .aload_n 0, ([0], 0, 0, []), zi0), (1, .getfield 7, ([8, 0, 3, 126], 0, 0, []), zi0), (4, .iconst 5, ([], nI 5, 0, []), zi0), (5, .iload_n 1, ([1], 0, 0, []), zi0), (6, .iastore, ([], 0, 0, []), zi0), (7, .iconst 0, ([], nI 0, 0, []), zi0), (8, .istore_n 3, ([3], 0, 0, []), zi0), (9, .iload_n 3, ([3], 0, 0, []), zi0), (10, .iload_n 1, ([1], 0, 0, []), zi0), (11, .iload_n 1, ([1], 0, 0, []), zi0), (12, .imul, ([], 0, 0, []), zi0), (13, .if_icmp .ge 40, ([53], 0, 0, []), zi0), (16, .aload_n 0, ([0], 0, 0, []), zi0), (17, .iconst 5, ([], nI 5, 0, []), zi0), (18, .iload_n 3, ([3], 0, 0, []), zi0), (19, .iload_n 1, ([1], 0, 0, []), zi0), (20, .idiv, ([], 0, 0, []), zi0), (21, .iload_n 3, ([3], 0, 0, []), zi0), (22, .iload_n 1, ([1], 0, 0, []), zi0), (23, .irem, ([], 0, 0, []), zi0), (24, .aload_n 0, ([0], 0, 0, []), zi0), (25, .getfield 38, ([8, 10, 3, 136], 0, 0, []), zi0), (28, .sipush 640, ([], nI 640, 0, []), zi0), (31, .iload_n 1, ([1], 0, 0, []), zi0), (32, .iconst 1, ([], nI 1, 0, []), zi0), (33, .isub, ([], 0, 0, []), zi0), (34, .imul, ([], 0, 0, []), zi0), (35, .bipush 16, ([], nI 16, 0, []), zi0), (37, .iload_n 2, ([2], 0, 0, []), zi0), (38, .imul, ([], 0, 0, []), zi0), (39, .iadd, ([], 0, 0, []), zi0), (40, .iload_n 3, ([3], 0, 0, []), zi0), (41, .iadd, ([], 0, 0, []), zi0), (42, .iaload, ([], 0, 0, []), zi0), (43, .iconst 0, ([], nI 0, 0, []), zi0), (44, .invokevirtual 92, ([8, 3, 195], 0, 0, []), mi_R_lay), (47, .iinc 3 1, ([], nI 1, 0, []), zi0), (50, .goto (-41), ([9], 0, 0, []), zi0), (53, .aload_n 0, ([0], 0, 0, []), zi0), (54, .invokevirtual 193, ([8, 4, 205], 0, 0, []), mi_R_layRight), (57, .return_, ([], 0, 0, []), zi0)]
def cu_R_layListed : List (Nat × List Nat) := [(9, [0, 1, 2, 3])]
set_option maxRecDepth 100000 in
theorem oc_R_layListed : cd_R_layListed.all (zchk mi_R_layListed) = true := by decide +kernel
set_option maxRecDepth 100000 in
theorem ow_R_layListed : zWs mi_R_layListed cd_R_layListed := ⟨trivial, rfl, trivial, trivial, trivial, trivial, trivial, trivial, trivial, trivial, trivial, trivial, trivial, trivial, trivial, trivial, trivial, trivial, trivial, trivial, trivial, rfl, trivial, trivial, trivial, trivial, trivial, trivial, trivial, trivial, trivial, trivial, trivial, trivial, trivial, ⟨rfl, rfl, mv_R_lay⟩, trivial, trivial, trivial, ⟨rfl, rfl, mv_R_layRight⟩, trivial, trivial⟩
theorem ok_R_layListed : zgood2 mi_R_layListed cd_R_layListed := ⟨oc_R_layListed, ow_R_layListed⟩
def cd_R_layWords : List ZE := [(0, .aload_n 0, ([0], 0, 0, []), zi0), (1, .getfield 7, ([8, 0, 3, 126], 0, 0, []), zi0), (4, .iload_n 1, ([1], 0, 0, []), zi0), (5, .iaload, ([], 0, 0, []), zi0), (6, .istore_n 3, ([3], 0, 0, []), zi0), (7, .iload_n 3, ([3], 0, 0, []), zi0), (8, .iload_n 2, ([2], 0, 0, []), zi0), (9, .invokestatic 205, ([0, 4, 190], 0, 0, []), mi_R_rowsTo), (12, .istore 4, ([], 0, 0, []), zi0), (14, .iconst 0, ([], nI 0, 0, []), zi0), (15, .istore 5, ([], 0, 0, []), zi0), (17, .iload 5, ([], 0, 0, []), zi0), (19, .iload 4, ([], 0, 0, []), zi0), (21, .if_icmp .ge 18, ([39], 0, 0, []), zi0), (24, .aload_n 0, ([0], 0, 0, []), zi0), (25, .getfield 47, ([8, 13, 3, 139], 0, 0, []), zi0), (28, .iload 5, ([], 0, 0, []), zi0), (30, .iload 5, ([], 0, 0, []), zi0), (32, .iastore, ([], 0, 0, []), zi0), (33, .iinc 5 1, ([], nI 1, 0, []), zi0), (36, .goto (-19), ([17], 0, 0, []), zi0), (39, .iconst 1, ([], nI 1, 0, []), zi0), (40, .istore 5, ([], 0, 0, []), zi0), (42, .iconst 0, ([], nI 0, 0, []), zi0), (43, .istore 6, ([], 0, 0, []), zi0), (45, .iload 6, ([], 0, 0, []), zi0), (47, .sipush 1296, ([], nI 1296, 0, []), zi0), (50, .if_icmp .ge 155, ([205], 0, 0, []), zi0), (53, .iload 5, ([], 0, 0, []), zi0), (55, .ifCond .eq 150, ([205], 0, 0, []), zi0), (58, .iconst 0, ([], nI 0, 0, []), zi0), (59, .istore 5, ([], 0, 0, []), zi0), (61, .iconst 0, ([], nI 0, 0, []), zi0), (62, .istore 7, ([], 0, 0, []), zi0), (64, .iload 7, ([], 0, 0, []), zi0), (66, .iload 4, ([], 0, 0, []), zi0), (68, .iload_n 2, ([2], 0, 0, []), zi0), (69, .iconst 1, ([], nI 1, 0, []), zi0), (70, .isub, ([], 0, 0, []), zi0), (71, .imul, ([], 0, 0, []), zi0), (72, .if_icmp .ge 127, ([199], 0, 0, []), zi0), (75, .iload 7, ([], 0, 0, []), zi0), (77, .iload_n 2, ([2], 0, 0, []), zi0), (78, .iconst 1, ([], nI 1, 0, []), zi0), (79, .isub, ([], 0, 0, []), zi0), (80, .idiv, ([], 0, 0, []), zi0), (81, .istore 8, ([], 0, 0, []), zi0), (83, .aload_n 0, ([0], 0, 0, []), zi0), (84, .iload 8, ([], 0, 0, []), zi0), (86, .iload_n 3, ([3], 0, 0, []), zi0), (87, .iload_n 2, ([2], 0, 0, []), zi0), (88, .invokevirtual 268, ([8, 5, 19], 0, 0, []), mi_R_layTuple), (91, .aload_n 0, ([0], 0, 0, []), zi0), (92, .iload_n 1, ([1], 0, 0, []), zi0), (93, .iload 7, ([], 0, 0, []), zi0), (95, .iload_n 2, ([2], 0, 0, []), zi0), (96, .iconst 1, ([], nI 1, 0, []), zi0), (97, .isub, ([], 0, 0, []), zi0), (98, .irem, ([], 0, 0, []), zi0), (99, .invokevirtual 149, ([8, 4, 97], 0, 0, []), mi_R_crosses), (102, .aload_n 0, ([0], 0, 0, []), zi0), (103, .iload_n 3, ([3], 0, 0, []), zi0), (104, .iload_n 2, ([2], 0, 0, []), zi0), (105, .invokevirtual 271, ([8, 5, 23], 0, 0, []), mi_R_tupleNumber), (108, .istore 9, ([], 0, 0, []), zi0), (110, .aload_n 0, ([0], 0, 0, []), zi0), (111, .getfield 47, ([8, 13, 3, 139], 0, 0, []), zi0), (114, .iload 8, ([], 0, 0, []), zi0), (116, .iaload, ([], 0, 0, []), zi0), (117, .aload_n 0, ([0], 0, 0, []), zi0), (118, .getfield 47, ([8, 13, 3, 139], 0, 0, []), zi0), (121, .iload 9, ([], 0, 0, []), zi0), (123, .iaload, ([], 0, 0, []), zi0), (124, .if_icmp .ge 13, ([137], 0, 0, []), zi0), (127, .aload_n 0, ([0], 0, 0, []), zi0), (128, .getfield 47, ([8, 13, 3, 139], 0, 0, []), zi0), (131, .iload 8, ([], 0, 0, []), zi0), (133, .iaload, ([], 0, 0, []), zi0), (134, .goto 10, ([144], 0, 0, []), zi0), (137, .aload_n 0, ([0], 0, 0, []), zi0), (138, .getfield 47, ([8, 13, 3, 139], 0, 0, []), zi0), (141, .iload 9, ([], 0, 0, []), zi0), (143, .iaload, ([], 0, 0, []), zi0), (144, .istore 10, ([], 0, 0, []), zi0), (146, .iload 5, ([], 0, 0, []), zi0), (148, .ifCond .ne 20, ([168], 0, 0, []), zi0), (151, .aload_n 0, ([0], 0, 0, []), zi0), (152, .getfield 47, ([8, 13, 3, 139], 0, 0, []), zi0), (155, .iload 8, ([], 0, 0, []), zi0), (157, .iaload, ([], 0, 0, []), zi0), (158, .aload_n 0, ([0], 0, 0, []), zi0), (159, .getfield 47, ([8, 13, 3, 139], 0, 0, []), zi0), (162, .iload 9, ([], 0, 0, []), zi0), (164, .iaload, ([], 0, 0, []), zi0), (165, .if_icmp .eq 7, ([172], 0, 0, []), zi0), (168, .iconst 1, ([], nI 1, 0, []), zi0), (169, .goto 4, ([173], 0, 0, []), zi0), (172, .iconst 0, ([], nI 0, 0, []), zi0), (173, .istore 5, ([], 0, 0, []), zi0), (175, .aload_n 0, ([0], 0, 0, []), zi0), (176, .getfield 47, ([8, 13, 3, 139], 0, 0, []), zi0), (179, .iload 8, ([], 0, 0, []), zi0), (181, .iload 10, ([], 0, 0, []), zi0), (183, .iastore, ([], 0, 0, []), zi0), (184, .aload_n 0, ([0], 0, 0, []), zi0), (185, .getfield 47, ([8, 13, 3, 139], 0, 0, []), zi0), (188, .iload 9, ([], 0, 0, []), zi0), (190, .iload 10, ([], 0, 0, []), zi0), (192, .iastore, ([], 0, 0, []), zi0), (193, .iinc 7 1, ([], nI 1, 0, []), zi0), (196, .goto (-132), ([64], 0, 0, []), zi0), (199, .iinc 6 1, ([], nI 1, 0, []), zi0), (202, .goto (-157), ([45], 0, 0, []), zi0), (205, .return_, ([], 0, 0, []), zi0)]
def cu_R_layWords : List (Nat × List Nat) := [(17, [0, 1, 2, 3, 4, 5]), (45, [0, 1, 2, 3, 4, 5, 6]), (64, [0, 1, 2, 3, 4, 5, 6, 7])]
set_option maxRecDepth 100000 in
theorem oc_R_layWords : cd_R_layWords.all (zchk mi_R_layWords) = true := by decide +kernel
set_option maxRecDepth 100000 in
theorem ow_R_layWords : zWs mi_R_layWords cd_R_layWords := ⟨trivial, rfl, trivial, trivial, trivial, trivial, trivial, ⟨rfl, ms_R_rowsTo⟩, trivial, trivial, trivial, trivial, trivial, trivial, trivial, rfl, trivial, trivial, trivial, trivial, trivial, trivial, trivial, trivial, trivial, trivial, trivial, trivial, trivial, trivial, trivial, trivial, trivial, trivial, trivial, trivial, trivial, trivial, trivial, trivial, trivial, trivial, trivial, trivial, trivial, trivial, trivial, trivial, trivial, trivial, trivial, ⟨rfl, rfl, mv_R_layTuple⟩, trivial, trivial, trivial, trivial, trivial, trivial, trivial, ⟨rfl, rfl, mv_R_crosses⟩, trivial, trivial, trivial, ⟨rfl, rfl, mv_R_tupleNumber⟩, trivial, trivial, rfl, trivial, trivial, trivial, rfl, trivial, trivial, trivial, trivial, rfl, trivial, trivial, trivial, trivial, rfl, trivial, trivial, trivial, trivial, trivial, trivial, rfl, trivial, trivial, trivial, rfl, trivial, trivial, trivial, trivial, trivial, trivial, trivial, trivial, rfl, trivial, trivial, trivial, trivial, rfl, trivial, trivial, trivial, trivial, trivial, trivial, trivial, trivial, trivial⟩
theorem ok_R_layWords : zgood2 mi_R_layWords cd_R_layWords := ⟨oc_R_layWords, ow_R_layWords⟩
def cd_R_likenesses : List ZE := [(0, .aload_n 0, ([0], 0, 0, []), zi0), (1, .getfield 7, ([8, 0, 3, 126], 0, 0, []), zi0), (4, .iload_n 1, ([1], 0, 0, []), zi0), (5, .iaload, ([], 0, 0, []), zi0), (6, .istore 4, ([], 0, 0, []), zi0), (8, .iconst 0, ([], nI 0, 0, []), zi0), (9, .istore 5, ([], 0, 0, []), zi0), (11, .aload_n 0, ([0], 0, 0, []), zi0), (12, .iconst (-1), ([], (-1), 0, []), zi0), (13, .putfield 180, ([8, 9, 3, 135], 0, 0, []), zi0), (16, .aload_n 0, ([0], 0, 0, []), zi0), (17, .iload 4, ([], 0, 0, []), zi0), (19, .invokevirtual 168, ([8, 4, 136], 0, 0, []), mi_R_firstName), (22, .iload 4, ([], 0, 0, []), zi0), (24, .aload_n 0, ([0], 0, 0, []), zi0), (25, .getfield 7, ([8, 0, 3, 126], 0, 0, []), zi0), (28, .iload_n 2, ([2], 0, 0, []), zi0), (29, .iaload, ([], 0, 0, []), zi0), (30, .if_icmp .ne 7, ([37], 0, 0, []), zi0), (33, .iconst 1, ([], nI 1, 0, []), zi0), (34, .goto 4, ([38], 0, 0, []), zi0), (37, .iconst 0, ([], nI 0, 0, []), zi0), (38, .istore 6, ([], 0, 0, []), zi0), (40, .iload 6, ([], 0, 0, []), zi0), (42, .ifCond .eq 49, ([91], 0, 0, []), zi0), (45, .aload_n 0, ([0], 0, 0, []), zi0), (46, .iload_n 1, ([1], 0, 0, []), zi0), (47, .iload_n 2, ([2], 0, 0, []), zi0), (48, .invokevirtual 184, ([8, 4, 155], 0, 0, []), mi_R_isLike), (51, .ifCond .eq 29, ([80], 0, 0, []), zi0), (54, .aload_n 0, ([0], 0, 0, []), zi0), (55, .iload 5, ([], 0, 0, []), zi0), (57, .iload_n 3, ([3], 0, 0, []), zi0), (58, .if_icmp .ne 12, ([70], 0, 0, []), zi0), (61, .aload_n 0, ([0], 0, 0, []), zi0), (62, .iload 4, ([], 0, 0, []), zi0), (64, .invokevirtual 171, ([8, 4, 140], 0, 0, []), mi_R_nameCode), (67, .goto 7, ([74], 0, 0, []), zi0), (70, .aload_n 0, ([0], 0, 0, []), zi0), (71, .getfield 180, ([8, 9, 3, 135], 0, 0, []), zi0), (74, .putfield 180, ([8, 9, 3, 135], 0, 0, []), zi0), (77, .iinc 5 1, ([], nI 1, 0, []), zi0), (80, .aload_n 0, ([0], 0, 0, []), zi0), (81, .iload 4, ([], 0, 0, []), zi0), (83, .invokevirtual 187, ([8, 4, 159], 0, 0, []), mi_R_nextName), (86, .istore 6, ([], 0, 0, []), zi0), (88, .goto (-48), ([40], 0, 0, []), zi0), (91, .iload 5, ([], 0, 0, []), zi0), (93, .ireturn, ([], 0, 0, []), zi0)]
def cu_R_likenesses : List (Nat × List Nat) := [(40, [0, 1, 2, 3, 4, 5, 6])]
set_option maxRecDepth 100000 in
theorem oc_R_likenesses : cd_R_likenesses.all (zchk mi_R_likenesses) = true := by decide +kernel
set_option maxRecDepth 100000 in
theorem ow_R_likenesses : zWs mi_R_likenesses cd_R_likenesses := ⟨trivial, rfl, trivial, trivial, trivial, trivial, trivial, trivial, trivial, ⟨rfl, rfl⟩, trivial, trivial, ⟨rfl, rfl, mv_R_firstName⟩, trivial, trivial, rfl, trivial, trivial, trivial, trivial, trivial, trivial, trivial, trivial, trivial, trivial, trivial, trivial, ⟨rfl, rfl, mv_R_isLike⟩, trivial, trivial, trivial, trivial, trivial, trivial, trivial, ⟨rfl, rfl, mv_R_nameCode⟩, trivial, trivial, rfl, ⟨rfl, rfl⟩, trivial, trivial, trivial, ⟨rfl, rfl, mv_R_nextName⟩, trivial, trivial, trivial, trivial, trivial⟩
theorem ok_R_likenesses : zgood2 mi_R_likenesses cd_R_likenesses := ⟨oc_R_likenesses, ow_R_likenesses⟩
def cd_R_manyClosed : List ZE := [(0, .iconst 0, ([], nI 0, 0, []), zi0), (1, .istore_n 2, ([2], 0, 0, []), zi0), (2, .iconst 0, ([], nI 0, 0, []), zi0), (3, .istore_n 3, ([3], 0, 0, []), zi0), (4, .iload_n 3, ([3], 0, 0, []), zi0), (5, .iconst 1, ([], nI 1, 0, []), zi0), (6, .aload_n 0, ([0], 0, 0, []), zi0), (7, .getfield 7, ([8, 0, 3, 126], 0, 0, []), zi0), (10, .iload_n 1, ([1], 0, 0, []), zi0), (11, .iaload, ([], 0, 0, []), zi0), (12, .ishl, ([], 0, 0, []), zi0), (13, .if_icmp .ge 26, ([39], 0, 0, []), zi0), (16, .iload_n 2, ([2], 0, 0, []), zi0), (17, .aload_n 0, ([0], 0, 0, []), zi0), (18, .iload_n 1, ([1], 0, 0, []), zi0), (19, .iload_n 3, ([3], 0, 0, []), zi0), (20, .invokevirtual 161, ([8, 4, 174], 0, 0, []), mi_R_isClosed), (23, .ifCond .eq 7, ([30], 0, 0, []), zi0), (26, .iconst 1, ([], nI 1, 0, []), zi0), (27, .goto 4, ([31], 0, 0, []), zi0), (30, .iconst 0, ([], nI 0, 0, []), zi0), (31, .iadd, ([], 0, 0, []), zi0), (32, .istore_n 2, ([2], 0, 0, []), zi0), (33, .iinc 3 1, ([], nI 1, 0, []), zi0), (36, .goto (-32), ([4], 0, 0, []), zi0), (39, .iload_n 2, ([2], 0, 0, []), zi0), (40, .ireturn, ([], 0, 0, []), zi0)]
def cu_R_manyClosed : List (Nat × List Nat) := [(4, [0, 1, 2, 3])]
set_option maxRecDepth 100000 in
theorem oc_R_manyClosed : cd_R_manyClosed.all (zchk mi_R_manyClosed) = true := by decide +kernel
set_option maxRecDepth 100000 in
theorem ow_R_manyClosed : zWs mi_R_manyClosed cd_R_manyClosed := ⟨trivial, trivial, trivial, trivial, trivial, trivial, trivial, rfl, trivial, trivial, trivial, trivial, trivial, trivial, trivial, trivial, ⟨rfl, rfl, mv_R_isClosed⟩, trivial, trivial, trivial, trivial, trivial, trivial, trivial, trivial, trivial, trivial, trivial⟩
theorem ok_R_manyClosed : zgood2 mi_R_manyClosed cd_R_manyClosed := ⟨oc_R_manyClosed, ow_R_manyClosed⟩
def cd_R_manyOrbits : List ZE := [(0, .iconst 0, ([], nI 0, 0, []), zi0), (1, .istore_n 2, ([2], 0, 0, []), zi0), (2, .iconst 0, ([], nI 0, 0, []), zi0), (3, .istore_n 3, ([3], 0, 0, []), zi0), (4, .iload_n 3, ([3], 0, 0, []), zi0), (5, .aload_n 0, ([0], 0, 0, []), zi0), (6, .getfield 7, ([8, 0, 3, 126], 0, 0, []), zi0), (9, .iload_n 1, ([1], 0, 0, []), zi0), (10, .iaload, ([], 0, 0, []), zi0), (11, .if_icmp .ge 32, ([43], 0, 0, []), zi0), (14, .iload_n 2, ([2], 0, 0, []), zi0), (15, .aload_n 0, ([0], 0, 0, []), zi0), (16, .iload_n 1, ([1], 0, 0, []), zi0), (17, .iload_n 3, ([3], 0, 0, []), zi0), (18, .invokevirtual 158, ([8, 4, 124], 0, 0, []), mi_R_orbitOf), (21, .iconst 1, ([], nI 1, 0, []), zi0), (22, .iload_n 3, ([3], 0, 0, []), zi0), (23, .ishl, ([], 0, 0, []), zi0), (24, .iconst 1, ([], nI 1, 0, []), zi0), (25, .isub, ([], 0, 0, []), zi0), (26, .iand, ([], 0, 0, []), zi0), (27, .ifCond .ne 7, ([34], 0, 0, []), zi0), (30, .iconst 1, ([], nI 1, 0, []), zi0), (31, .goto 4, ([35], 0, 0, []), zi0), (34, .iconst 0, ([], nI 0, 0, []), zi0), (35, .iadd, ([], 0, 0, []), zi0), (36, .istore_n 2, ([2], 0, 0, []), zi0), (37, .iinc 3 1, ([], nI 1, 0, []), zi0), (40, .goto (-36), ([4], 0, 0, []), zi0), (43, .iload_n 2, ([2], 0, 0, []), zi0), (44, .ireturn, ([], 0, 0, []), zi0)]
def cu_R_manyOrbits : List (Nat × List Nat) := [(4, [0, 1, 2, 3])]
set_option maxRecDepth 100000 in
theorem oc_R_manyOrbits : cd_R_manyOrbits.all (zchk mi_R_manyOrbits) = true := by decide +kernel
set_option maxRecDepth 100000 in
theorem ow_R_manyOrbits : zWs mi_R_manyOrbits cd_R_manyOrbits := ⟨trivial, trivial, trivial, trivial, trivial, trivial, rfl, trivial, trivial, trivial, trivial, trivial, trivial, trivial, ⟨rfl, rfl, mv_R_orbitOf⟩, trivial, trivial, trivial, trivial, trivial, trivial, trivial, trivial, trivial, trivial, trivial, trivial, trivial, trivial, trivial, trivial, trivial⟩
theorem ok_R_manyOrbits : zgood2 mi_R_manyOrbits cd_R_manyOrbits := ⟨oc_R_manyOrbits, ow_R_manyOrbits⟩
def cd_R_order : List ZE := [(0, .aload_n 0, ([0], 0, 0, []), zi0), (1, .iload_n 1, ([1], 0, 0, []), zi0), (2, .invokevirtual 146, ([8, 4, 61], 0, 0, []), mi_R_isBijective), (5, .ifCond .ne 5, ([10], 0, 0, []), zi0), (8, .iconst (-1), ([], (-1), 0, []), zi0), (9, .ireturn, ([], 0, 0, []), zi0), (10, .aload_n 0, ([0], 0, 0, []), zi0), (11, .getfield 7, ([8, 0, 3, 126], 0, 0, []), zi0), (14, .iload_n 1, ([1], 0, 0, []), zi0), (15, .iaload, ([], 0, 0, []), zi0), (16, .istore_n 2, ([2], 0, 0, []), zi0), (17, .iconst 1, ([], nI 1, 0, []), zi0), (18, .istore_n 3, ([3], 0, 0, []), zi0), (19, .iconst 0, ([], nI 0, 0, []), zi0), (20, .istore 4, ([], 0, 0, []), zi0), (22, .iload 4, ([], 0, 0, []), zi0), (24, .iload_n 2, ([2], 0, 0, []), zi0), (25, .iload_n 2, ([2], 0, 0, []), zi0), (26, .imul, ([], 0, 0, []), zi0), (27, .if_icmp .ge 73, ([100], 0, 0, []), zi0), (30, .aload_n 0, ([0], 0, 0, []), zi0), (31, .getfield 28, ([8, 6, 3, 132], 0, 0, []), zi0), (34, .iconst 0, ([], nI 0, 0, []), zi0), (35, .iload 4, ([], 0, 0, []), zi0), (37, .iload_n 2, ([2], 0, 0, []), zi0), (38, .idiv, ([], 0, 0, []), zi0), (39, .iastore, ([], 0, 0, []), zi0), (40, .aload_n 0, ([0], 0, 0, []), zi0), (41, .getfield 28, ([8, 6, 3, 132], 0, 0, []), zi0), (44, .iconst 1, ([], nI 1, 0, []), zi0), (45, .iload 4, ([], 0, 0, []), zi0), (47, .iload_n 2, ([2], 0, 0, []), zi0), (48, .irem, ([], 0, 0, []), zi0), (49, .iastore, ([], 0, 0, []), zi0), (50, .iconst 0, ([], nI 0, 0, []), zi0), (51, .istore 5, ([], 0, 0, []), zi0), (53, .aload_n 0, ([0], 0, 0, []), zi0), (54, .iload_n 1, ([1], 0, 0, []), zi0), (55, .iconst 0, ([], nI 0, 0, []), zi0), (56, .invokevirtual 149, ([8, 4, 97], 0, 0, []), mi_R_crosses), (59, .iinc 5 1, ([], nI 1, 0, []), zi0), (62, .iload_n 2, ([2], 0, 0, []), zi0), (63, .aload_n 0, ([0], 0, 0, []), zi0), (64, .getfield 28, ([8, 6, 3, 132], 0, 0, []), zi0), (67, .iconst 0, ([], nI 0, 0, []), zi0), (68, .iaload, ([], 0, 0, []), zi0), (69, .imul, ([], 0, 0, []), zi0), (70, .aload_n 0, ([0], 0, 0, []), zi0), (71, .getfield 28, ([8, 6, 3, 132], 0, 0, []), zi0), (74, .iconst 1, ([], nI 1, 0, []), zi0), (75, .iaload, ([], 0, 0, []), zi0), (76, .iadd, ([], 0, 0, []), zi0), (77, .iload 4, ([], 0, 0, []), zi0), (79, .if_icmp .ne (-26), ([53], 0, 0, []), zi0), (82, .iload_n 3, ([3], 0, 0, []), zi0), (83, .iload_n 3, ([3], 0, 0, []), zi0), (84, .iload 5, ([], 0, 0, []), zi0), (86, .invokestatic 190, ([0, 4, 167], 0, 0, []), mi_R_commonOf), (89, .idiv, ([], 0, 0, []), zi0), (90, .iload 5, ([], 0, 0, []), zi0), (92, .imul, ([], 0, 0, []), zi0), (93, .istore_n 3, ([3], 0, 0, []), zi0), (94, .iinc 4 1, ([], nI 1, 0, []), zi0), (97, .goto (-75), ([22], 0, 0, []), zi0), (100, .iload_n 3, ([3], 0, 0, []), zi0), (101, .ireturn, ([], 0, 0, []), zi0)]
def cu_R_order : List (Nat × List Nat) := [(22, [0, 1, 2, 3, 4]), (53, [0, 1, 2, 3, 4, 5])]
set_option maxRecDepth 100000 in
theorem oc_R_order : cd_R_order.all (zchk mi_R_order) = true := by decide +kernel
set_option maxRecDepth 100000 in
theorem ow_R_order : zWs mi_R_order cd_R_order := ⟨trivial, trivial, ⟨rfl, rfl, mv_R_isBijective⟩, trivial, trivial, trivial, trivial, rfl, trivial, trivial, trivial, trivial, trivial, trivial, trivial, trivial, trivial, trivial, trivial, trivial, trivial, rfl, trivial, trivial, trivial, trivial, trivial, trivial, rfl, trivial, trivial, trivial, trivial, trivial, trivial, trivial, trivial, trivial, trivial, ⟨rfl, rfl, mv_R_crosses⟩, trivial, trivial, trivial, rfl, trivial, trivial, trivial, trivial, rfl, trivial, trivial, trivial, trivial, trivial, trivial, trivial, trivial, ⟨rfl, ms_R_commonOf⟩, trivial, trivial, trivial, trivial, trivial, trivial, trivial, trivial, trivial⟩
theorem ok_R_order : zgood2 mi_R_order cd_R_order := ⟨oc_R_order, ow_R_order⟩
def cd_R_threeBy : List ZE := [(0, .aload_n 0, ([0], 0, 0, []), zi0), (1, .getfield 7, ([8, 0, 3, 126], 0, 0, []), zi0), (4, .iload_n 1, ([1], 0, 0, []), zi0), (5, .iaload, ([], 0, 0, []), zi0), (6, .istore 4, ([], 0, 0, []), zi0), (8, .aload_n 0, ([0], 0, 0, []), zi0), (9, .getfield 28, ([8, 6, 3, 132], 0, 0, []), zi0), (12, .iconst 0, ([], nI 0, 0, []), zi0), (13, .iload_n 2, ([2], 0, 0, []), zi0), (14, .iload 4, ([], 0, 0, []), zi0), (16, .iload 4, ([], 0, 0, []), zi0), (18, .imul, ([], 0, 0, []), zi0), (19, .idiv, ([], 0, 0, []), zi0), (20, .iastore, ([], 0, 0, []), zi0), (21, .aload_n 0, ([0], 0, 0, []), zi0), (22, .getfield 28, ([8, 6, 3, 132], 0, 0, []), zi0), (25, .iconst 1, ([], nI 1, 0, []), zi0), (26, .iload_n 2, ([2], 0, 0, []), zi0), (27, .iload 4, ([], 0, 0, []), zi0), (29, .idiv, ([], 0, 0, []), zi0), (30, .iload 4, ([], 0, 0, []), zi0), (32, .irem, ([], 0, 0, []), zi0), (33, .iastore, ([], 0, 0, []), zi0), (34, .aload_n 0, ([0], 0, 0, []), zi0), (35, .getfield 28, ([8, 6, 3, 132], 0, 0, []), zi0), (38, .iconst 2, ([], nI 2, 0, []), zi0), (39, .iload_n 2, ([2], 0, 0, []), zi0), (40, .iload 4, ([], 0, 0, []), zi0), (42, .irem, ([], 0, 0, []), zi0), (43, .iastore, ([], 0, 0, []), zi0), (44, .aload_n 0, ([0], 0, 0, []), zi0), (45, .iload_n 1, ([1], 0, 0, []), zi0), (46, .iload_n 3, ([3], 0, 0, []), zi0), (47, .invokevirtual 149, ([8, 4, 97], 0, 0, []), mi_R_crosses), (50, .aload_n 0, ([0], 0, 0, []), zi0), (51, .iload_n 1, ([1], 0, 0, []), zi0), (52, .iconst 1, ([], nI 1, 0, []), zi0), (53, .iload_n 3, ([3], 0, 0, []), zi0), (54, .isub, ([], 0, 0, []), zi0), (55, .invokevirtual 149, ([8, 4, 97], 0, 0, []), mi_R_crosses), (58, .aload_n 0, ([0], 0, 0, []), zi0), (59, .iload_n 1, ([1], 0, 0, []), zi0), (60, .iload_n 3, ([3], 0, 0, []), zi0), (61, .invokevirtual 149, ([8, 4, 97], 0, 0, []), mi_R_crosses), (64, .aload_n 0, ([0], 0, 0, []), zi0), (65, .getfield 28, ([8, 6, 3, 132], 0, 0, []), zi0), (68, .iconst 0, ([], nI 0, 0, []), zi0), (69, .iaload, ([], 0, 0, []), zi0), (70, .bipush 8, ([], nI 8, 0, []), zi0), (72, .aload_n 0, ([0], 0, 0, []), zi0), (73, .getfield 28, ([8, 6, 3, 132], 0, 0, []), zi0), (76, .iconst 1, ([], nI 1, 0, []), zi0), (77, .iaload, ([], 0, 0, []), zi0), (78, .imul, ([], 0, 0, []), zi0), (79, .iadd, ([], 0, 0, []), zi0), (80, .bipush 64, ([], nI 64, 0, []), zi0), (82, .aload_n 0, ([0], 0, 0, []), zi0), (83, .getfield 28, ([8, 6, 3, 132], 0, 0, []), zi0), (86, .iconst 2, ([], nI 2, 0, []), zi0), (87, .iaload, ([], 0, 0, []), zi0), (88, .imul, ([], 0, 0, []), zi0), (89, .iadd, ([], 0, 0, []), zi0), (90, .ireturn, ([], 0, 0, []), zi0)]
def cu_R_threeBy : List (Nat × List Nat) := []
set_option maxRecDepth 100000 in
theorem oc_R_threeBy : cd_R_threeBy.all (zchk mi_R_threeBy) = true := by decide +kernel
set_option maxRecDepth 100000 in
theorem ow_R_threeBy : zWs mi_R_threeBy cd_R_threeBy := ⟨trivial, rfl, trivial, trivial, trivial, trivial, rfl, trivial, trivial, trivial, trivial, trivial, trivial, trivial, trivial, rfl, trivial, trivial, trivial, trivial, trivial, trivial, trivial, trivial, rfl, trivial, trivial, trivial, trivial, trivial, trivial, trivial, trivial, ⟨rfl, rfl, mv_R_crosses⟩, trivial, trivial, trivial, trivial, trivial, ⟨rfl, rfl, mv_R_crosses⟩, trivial, trivial, trivial, ⟨rfl, rfl, mv_R_crosses⟩, trivial, rfl, trivial, trivial, trivial, trivial, rfl, trivial, trivial, trivial, trivial, trivial, trivial, rfl, trivial, trivial, trivial, trivial, trivial, trivial⟩
theorem ok_R_threeBy : zgood2 mi_R_threeBy cd_R_threeBy := ⟨oc_R_threeBy, ow_R_threeBy⟩
def cd_R_write : List ZE := [(0, .iload_n 1, ([1], 0, 0, []), zi0), (1, .invokestatic 285, ([0, 5, 43], 0, 0, []), mi_R_isBraid), (4, .ifCond .ne 6, ([10], 0, 0, []), zi0), (7, .ldc 88, ([3, 192], (-1000001), 0, []), zi0), (9, .ireturn, ([], 0, 0, []), zi0), (10, .iload_n 2, ([2], 0, 0, []), zi0), (11, .i2l, ([], 0, 0, []), zi0), (12, .ldc2_w 288, ([5, 46], 0, lN 97, []), zi0), (15, .ldc2_w 290, ([5, 47], 0, lN 99, []), zi0), (18, .invokestatic 64, ([0, 3, 189], 0, 0, []), mi_R_in), (21, .ifCond .ne 20, ([41], 0, 0, []), zi0), (24, .iload_n 2, ([2], 0, 0, []), zi0), (25, .i2l, ([], 0, 0, []), zi0), (26, .ldc2_w 292, ([5, 48], 0, lN 65, []), zi0), (29, .ldc2_w 294, ([5, 49], 0, lN 67, []), zi0), (32, .invokestatic 64, ([0, 3, 189], 0, 0, []), mi_R_in), (35, .ifCond .ne 6, ([41], 0, 0, []), zi0), (38, .ldc 91, ([3, 194], (-1000002), 0, []), zi0), (40, .ireturn, ([], 0, 0, []), zi0), (41, .aload_n 0, ([0], 0, 0, []), zi0), (42, .getfield 59, ([8, 17, 3, 143], 0, 0, []), zi0), (45, .iload_n 1, ([1], 0, 0, []), zi0), (46, .iaload, ([], 0, 0, []), zi0), (47, .bipush 24, ([], nI 24, 0, []), zi0), (49, .if_icmp .ne 6, ([55], 0, 0, []), zi0), (52, .ldc 145, ([4, 52], (-1000004), 0, []), zi0), (54, .ireturn, ([], 0, 0, []), zi0), (55, .aload_n 0, ([0], 0, 0, []), zi0), (56, .getfield 56, ([8, 16, 3, 142], 0, 0, []), zi0), (59, .bipush 24, ([], nI 24, 0, []), zi0), (61, .iload_n 1, ([1], 0, 0, []), zi0), (62, .imul, ([], 0, 0, []), zi0), (63, .aload_n 0, ([0], 0, 0, []), zi0), (64, .getfield 59, ([8, 17, 3, 143], 0, 0, []), zi0), (67, .iload_n 1, ([1], 0, 0, []), zi0), (68, .iaload, ([], 0, 0, []), zi0), (69, .iadd, ([], 0, 0, []), zi0), (70, .iload_n 2, ([2], 0, 0, []), zi0), (71, .iastore, ([], 0, 0, []), zi0), (72, .aload_n 0, ([0], 0, 0, []), zi0), (73, .getfield 59, ([8, 17, 3, 143], 0, 0, []), zi0), (76, .iload_n 1, ([1], 0, 0, []), zi0), (77, .dup2, ([], 0, 0, []), zi0), (78, .iaload, ([], 0, 0, []), zi0), (79, .iconst 1, ([], nI 1, 0, []), zi0), (80, .iadd, ([], 0, 0, []), zi0), (81, .iastore, ([], 0, 0, []), zi0), (82, .aload_n 0, ([0], 0, 0, []), zi0), (83, .getfield 59, ([8, 17, 3, 143], 0, 0, []), zi0), (86, .iload_n 1, ([1], 0, 0, []), zi0), (87, .iaload, ([], 0, 0, []), zi0), (88, .ireturn, ([], 0, 0, []), zi0)]
def cu_R_write : List (Nat × List Nat) := []
set_option maxRecDepth 100000 in
theorem oc_R_write : cd_R_write.all (zchk mi_R_write) = true := by decide +kernel
set_option maxRecDepth 100000 in
theorem ow_R_write : zWs mi_R_write cd_R_write := ⟨trivial, ⟨rfl, ms_R_isBraid⟩, trivial, rfl, trivial, trivial, trivial, rfl, rfl, ⟨rfl, ms_R_in⟩, trivial, trivial, trivial, rfl, rfl, ⟨rfl, ms_R_in⟩, trivial, rfl, trivial, trivial, rfl, trivial, trivial, trivial, trivial, rfl, trivial, trivial, rfl, trivial, trivial, trivial, trivial, rfl, trivial, trivial, trivial, trivial, trivial, trivial, rfl, trivial, trivial, trivial, trivial, trivial, trivial, trivial, rfl, trivial, trivial, trivial, trivial⟩
theorem ok_R_write : zgood2 mi_R_write cd_R_write := ⟨oc_R_write, ow_R_write⟩
def cd_R_alike : List ZE := [(0, .aload_n 0, ([0], 0, 0, []), zi0), (1, .iload_n 1, ([1], 0, 0, []), zi0), (2, .invokevirtual 123, ([8, 4, 16], 0, 0, []), mi_R_isMap), (5, .ifCond .eq 12, ([17], 0, 0, []), zi0), (8, .aload_n 0, ([0], 0, 0, []), zi0), (9, .iload_n 1, ([1], 0, 0, []), zi0), (10, .iload_n 2, ([2], 0, 0, []), zi0), (11, .invokevirtual 126, ([8, 4, 20], 0, 0, []), mi_R_isPoint), (14, .ifCond .ne 6, ([20], 0, 0, []), zi0), (17, .ldc 88, ([3, 192], (-1000001), 0, []), zi0), (19, .ireturn, ([], 0, 0, []), zi0), (20, .aload_n 0, ([0], 0, 0, []), zi0), (21, .iload_n 1, ([1], 0, 0, []), zi0), (22, .invokevirtual 138, ([8, 4, 40], 0, 0, []), mi_R_layClasses), (25, .istore_n 3, ([3], 0, 0, []), zi0), (26, .iload_n 3, ([3], 0, 0, []), zi0), (27, .ifCond .le 12, ([39], 0, 0, []), zi0), (30, .aload_n 0, ([0], 0, 0, []), zi0), (31, .getfield 22, ([8, 4, 3, 130], 0, 0, []), zi0), (34, .iload_n 2, ([2], 0, 0, []), zi0), (35, .iaload, ([], 0, 0, []), zi0), (36, .goto 4, ([40], 0, 0, []), zi0), (39, .iconst (-1), ([], (-1), 0, []), zi0), (40, .ireturn, ([], 0, 0, []), zi0)]
def cu_R_alike : List (Nat × List Nat) := []
set_option maxRecDepth 100000 in
theorem oc_R_alike : cd_R_alike.all (zchk mi_R_alike) = true := by decide +kernel
set_option maxRecDepth 100000 in
theorem ow_R_alike : zWs mi_R_alike cd_R_alike := ⟨trivial, trivial, ⟨rfl, rfl, mv_R_isMap⟩, trivial, trivial, trivial, trivial, ⟨rfl, rfl, mv_R_isPoint⟩, trivial, rfl, trivial, trivial, trivial, ⟨rfl, rfl, mv_R_layClasses⟩, trivial, trivial, trivial, trivial, rfl, trivial, trivial, trivial, trivial, trivial, trivial⟩
theorem ok_R_alike : zgood2 mi_R_alike cd_R_alike := ⟨oc_R_alike, ow_R_alike⟩
def cd_R_cell : List ZE := [(0, .aload_n 0, ([0], 0, 0, []), zi0), (1, .iload_n 1, ([1], 0, 0, []), zi0), (2, .invokevirtual 123, ([8, 4, 16], 0, 0, []), mi_R_isMap), (5, .ifCond .eq 21, ([26], 0, 0, []), zi0), (8, .aload_n 0, ([0], 0, 0, []), zi0), (9, .iload_n 1, ([1], 0, 0, []), zi0), (10, .iload_n 2, ([2], 0, 0, []), zi0), (11, .invokevirtual 126, ([8, 4, 20], 0, 0, []), mi_R_isPoint), (14, .ifCond .eq 12, ([26], 0, 0, []), zi0), (17, .aload_n 0, ([0], 0, 0, []), zi0), (18, .iload_n 1, ([1], 0, 0, []), zi0), (19, .iload_n 3, ([3], 0, 0, []), zi0), (20, .invokevirtual 126, ([8, 4, 20], 0, 0, []), mi_R_isPoint), (23, .ifCond .ne 6, ([29], 0, 0, []), zi0), (26, .ldc 88, ([3, 192], (-1000001), 0, []), zi0), (28, .ireturn, ([], 0, 0, []), zi0), (29, .iload 4, ([], 0, 0, []), zi0), (31, .ifCond .ne 13, ([44], 0, 0, []), zi0), (34, .aload_n 0, ([0], 0, 0, []), zi0), (35, .iload_n 1, ([1], 0, 0, []), zi0), (36, .iload_n 2, ([2], 0, 0, []), zi0), (37, .iload_n 3, ([3], 0, 0, []), zi0), (38, .invokevirtual 129, ([8, 4, 24], 0, 0, []), mi_R_l), (41, .goto 21, ([62], 0, 0, []), zi0), (44, .iload 4, ([], 0, 0, []), zi0), (46, .iconst 1, ([], nI 1, 0, []), zi0), (47, .if_icmp .ne 13, ([60], 0, 0, []), zi0), (50, .aload_n 0, ([0], 0, 0, []), zi0), (51, .iload_n 1, ([1], 0, 0, []), zi0), (52, .iload_n 2, ([2], 0, 0, []), zi0), (53, .iload_n 3, ([3], 0, 0, []), zi0), (54, .invokevirtual 132, ([8, 4, 28], 0, 0, []), mi_R_r), (57, .goto 5, ([62], 0, 0, []), zi0), (60, .ldc 91, ([3, 194], (-1000002), 0, []), zi0), (62, .ireturn, ([], 0, 0, []), zi0)]
def cu_R_cell : List (Nat × List Nat) := []
set_option maxRecDepth 100000 in
theorem oc_R_cell : cd_R_cell.all (zchk mi_R_cell) = true := by decide +kernel
set_option maxRecDepth 100000 in
theorem ow_R_cell : zWs mi_R_cell cd_R_cell := ⟨trivial, trivial, ⟨rfl, rfl, mv_R_isMap⟩, trivial, trivial, trivial, trivial, ⟨rfl, rfl, mv_R_isPoint⟩, trivial, trivial, trivial, trivial, ⟨rfl, rfl, mv_R_isPoint⟩, trivial, rfl, trivial, trivial, trivial, trivial, trivial, trivial, trivial, ⟨rfl, rfl, mv_R_l⟩, trivial, trivial, trivial, trivial, trivial, trivial, trivial, trivial, ⟨rfl, rfl, mv_R_r⟩, trivial, rfl, trivial, trivial⟩
theorem ok_R_cell : zgood2 mi_R_cell cd_R_cell := ⟨oc_R_cell, ow_R_cell⟩
def cd_R_drop : List ZE := [(0, .aload_n 0, ([0], 0, 0, []), zi0), (1, .iload_n 1, ([1], 0, 0, []), zi0), (2, .invokevirtual 123, ([8, 4, 16], 0, 0, []), mi_R_isMap), (5, .ifCond .ne 6, ([11], 0, 0, []), zi0), (8, .ldc 88, ([3, 192], (-1000001), 0, []), zi0), (10, .ireturn, ([], 0, 0, []), zi0), (11, .aload_n 0, ([0], 0, 0, []), zi0), (12, .getfield 7, ([8, 0, 3, 126], 0, 0, []), zi0), (15, .iload_n 1, ([1], 0, 0, []), zi0), (16, .iaload, ([], 0, 0, []), zi0), (17, .istore_n 2, ([2], 0, 0, []), zi0), (18, .aload_n 0, ([0], 0, 0, []), zi0), (19, .getfield 7, ([8, 0, 3, 126], 0, 0, []), zi0), (22, .iload_n 1, ([1], 0, 0, []), zi0), (23, .iconst 0, ([], nI 0, 0, []), zi0), (24, .iastore, ([], 0, 0, []), zi0), (25, .iload_n 2, ([2], 0, 0, []), zi0), (26, .ireturn, ([], 0, 0, []), zi0)]
def cu_R_drop : List (Nat × List Nat) := []
set_option maxRecDepth 100000 in
theorem oc_R_drop : cd_R_drop.all (zchk mi_R_drop) = true := by decide +kernel
set_option maxRecDepth 100000 in
theorem ow_R_drop : zWs mi_R_drop cd_R_drop := ⟨trivial, trivial, ⟨rfl, rfl, mv_R_isMap⟩, trivial, rfl, trivial, trivial, rfl, trivial, trivial, trivial, trivial, rfl, trivial, trivial, trivial, trivial, trivial, trivial⟩
theorem ok_R_drop : zgood2 mi_R_drop cd_R_drop := ⟨oc_R_drop, ow_R_drop⟩
def cd_R_failsAt : List ZE := [(0, .aload_n 0, ([0], 0, 0, []), zi0), (1, .iload_n 1, ([1], 0, 0, []), zi0), (2, .iload_n 2, ([2], 0, 0, []), zi0), (3, .iconst 0, ([], nI 0, 0, []), zi0), (4, .invokevirtual 152, ([8, 4, 93], 0, 0, []), mi_R_threeBy), (7, .istore_n 3, ([3], 0, 0, []), zi0), (8, .iload_n 3, ([3], 0, 0, []), zi0), (9, .aload_n 0, ([0], 0, 0, []), zi0), (10, .iload_n 1, ([1], 0, 0, []), zi0), (11, .iload_n 2, ([2], 0, 0, []), zi0), (12, .iconst 1, ([], nI 1, 0, []), zi0), (13, .invokevirtual 152, ([8, 4, 93], 0, 0, []), mi_R_threeBy), (16, .if_icmp .eq 7, ([23], 0, 0, []), zi0), (19, .iconst 1, ([], nI 1, 0, []), zi0), (20, .goto 4, ([24], 0, 0, []), zi0), (23, .iconst 0, ([], nI 0, 0, []), zi0), (24, .ireturn, ([], 0, 0, []), zi0)]
def cu_R_failsAt : List (Nat × List Nat) := []
set_option maxRecDepth 100000 in
theorem oc_R_failsAt : cd_R_failsAt.all (zchk mi_R_failsAt) = true := by decide +kernel
set_option maxRecDepth 100000 in
theorem ow_R_failsAt : zWs mi_R_failsAt cd_R_failsAt := ⟨trivial, trivial, trivial, trivial, ⟨rfl, rfl, mv_R_threeBy⟩, trivial, trivial, trivial, trivial, trivial, trivial, ⟨rfl, rfl, mv_R_threeBy⟩, trivial, trivial, trivial, trivial, trivial, trivial⟩
theorem ok_R_failsAt : zgood2 mi_R_failsAt cd_R_failsAt := ⟨oc_R_failsAt, ow_R_failsAt⟩
def cd_R_invert : List ZE := [(0, .aload_n 0, ([0], 0, 0, []), zi0), (1, .iload_n 1, ([1], 0, 0, []), zi0), (2, .invokevirtual 123, ([8, 4, 16], 0, 0, []), mi_R_isMap), (5, .ifCond .eq 10, ([15], 0, 0, []), zi0), (8, .iload_n 2, ([2], 0, 0, []), zi0), (9, .invokestatic 68, ([0, 3, 185], 0, 0, []), mi_R_isPlace), (12, .ifCond .ne 6, ([18], 0, 0, []), zi0), (15, .ldc 88, ([3, 192], (-1000001), 0, []), zi0), (17, .ireturn, ([], 0, 0, []), zi0), (18, .aload_n 0, ([0], 0, 0, []), zi0), (19, .iload_n 1, ([1], 0, 0, []), zi0), (20, .invokevirtual 146, ([8, 4, 61], 0, 0, []), mi_R_isBijective), (23, .ifCond .ne 6, ([29], 0, 0, []), zi0), (26, .ldc 122, ([4, 7], (-1000003), 0, []), zi0), (28, .ireturn, ([], 0, 0, []), zi0), (29, .aload_n 0, ([0], 0, 0, []), zi0), (30, .getfield 7, ([8, 0, 3, 126], 0, 0, []), zi0), (33, .iload_n 1, ([1], 0, 0, []), zi0), (34, .iaload, ([], 0, 0, []), zi0), (35, .istore_n 3, ([3], 0, 0, []), zi0), (36, .aload_n 0, ([0], 0, 0, []), zi0), (37, .getfield 7, ([8, 0, 3, 126], 0, 0, []), zi0), (40, .iconst 4, ([], nI 4, 0, []), zi0), (41, .iload_n 3, ([3], 0, 0, []), zi0), (42, .iastore, ([], 0, 0, []), zi0), (43, .iconst 0, ([], nI 0, 0, []), zi0), (44, .istore 4, ([], 0, 0, []), zi0), (46, .iload 4, ([], 0, 0, []), zi0), (48, .iload_n 3, ([3], 0, 0, []), zi0), (49, .iload_n 3, ([3], 0, 0, []), zi0), (50, .imul, ([], 0, 0, []), zi0), (51, .if_icmp .ge 48, ([99], 0, 0, []), zi0), (54, .aload_n 0, ([0], 0, 0, []), zi0), (55, .iconst 4, ([], nI 4, 0, []), zi0), (56, .aload_n 0, ([0], 0, 0, []), zi0), (57, .iload_n 1, ([1], 0, 0, []), zi0), (58, .iload 4, ([], 0, 0, []), zi0), (60, .iload_n 3, ([3], 0, 0, []), zi0), (61, .idiv, ([], 0, 0, []), zi0), (62, .iload 4, ([], 0, 0, []), zi0), (64, .iload_n 3, ([3], 0, 0, []), zi0), (65, .irem, ([], 0, 0, []), zi0), (66, .invokevirtual 129, ([8, 4, 24], 0, 0, []), mi_R_l), (69, .aload_n 0, ([0], 0, 0, []), zi0), (70, .iload_n 1, ([1], 0, 0, []), zi0), (71, .iload 4, ([], 0, 0, []), zi0), (73, .iload_n 3, ([3], 0, 0, []), zi0), (74, .idiv, ([], 0, 0, []), zi0), (75, .iload 4, ([], 0, 0, []), zi0), (77, .iload_n 3, ([3], 0, 0, []), zi0), (78, .irem, ([], 0, 0, []), zi0), (79, .invokevirtual 132, ([8, 4, 28], 0, 0, []), mi_R_r), (82, .iload 4, ([], 0, 0, []), zi0), (84, .iload_n 3, ([3], 0, 0, []), zi0), (85, .idiv, ([], 0, 0, []), zi0), (86, .iload 4, ([], 0, 0, []), zi0), (88, .iload_n 3, ([3], 0, 0, []), zi0), (89, .irem, ([], 0, 0, []), zi0), (90, .invokevirtual 92, ([8, 3, 195], 0, 0, []), mi_R_lay), (93, .iinc 4 1, ([], nI 1, 0, []), zi0), (96, .goto (-50), ([46], 0, 0, []), zi0), (99, .aload_n 0, ([0], 0, 0, []), zi0), (100, .iload_n 2, ([2], 0, 0, []), zi0), (101, .invokevirtual 96, ([8, 3, 199], 0, 0, []), mi_R_comes), (104, .ireturn, ([], 0, 0, []), zi0)]
def cu_R_invert : List (Nat × List Nat) := [(46, [0, 1, 2, 3, 4])]
set_option maxRecDepth 100000 in
theorem oc_R_invert : cd_R_invert.all (zchk mi_R_invert) = true := by decide +kernel
set_option maxRecDepth 100000 in
theorem ow_R_invert : zWs mi_R_invert cd_R_invert := ⟨trivial, trivial, ⟨rfl, rfl, mv_R_isMap⟩, trivial, trivial, ⟨rfl, ms_R_isPlace⟩, trivial, rfl, trivial, trivial, trivial, ⟨rfl, rfl, mv_R_isBijective⟩, trivial, rfl, trivial, trivial, rfl, trivial, trivial, trivial, trivial, rfl, trivial, trivial, trivial, trivial, trivial, trivial, trivial, trivial, trivial, trivial, trivial, trivial, trivial, trivial, trivial, trivial, trivial, trivial, trivial, trivial, ⟨rfl, rfl, mv_R_l⟩, trivial, trivial, trivial, trivial, trivial, trivial, trivial, trivial, ⟨rfl, rfl, mv_R_r⟩, trivial, trivial, trivial, trivial, trivial, trivial, ⟨rfl, rfl, mv_R_lay⟩, trivial, trivial, trivial, trivial, ⟨rfl, rfl, mv_R_comes⟩, trivial, trivial⟩
theorem ok_R_invert : zgood2 mi_R_invert cd_R_invert := ⟨oc_R_invert, ow_R_invert⟩
def cd_R_isBrace : List ZE := [(0, .iload_n 0, ([0], 0, 0, []), zi0), (1, .iload_n 1, ([1], 0, 0, []), zi0), (2, .invokestatic 116, ([0, 3, 238], 0, 0, []), mi_R_areUnits), (5, .istore_n 2, ([2], 0, 0, []), zi0), (6, .iconst 0, ([], nI 0, 0, []), zi0), (7, .istore_n 3, ([3], 0, 0, []), zi0), (8, .iload_n 3, ([3], 0, 0, []), zi0), (9, .iload_n 1, ([1], 0, 0, []), zi0), (10, .if_icmp .ge 75, ([85], 0, 0, []), zi0), (13, .iload_n 2, ([2], 0, 0, []), zi0), (14, .ifCond .eq 71, ([85], 0, 0, []), zi0), (17, .iconst 0, ([], nI 0, 0, []), zi0), (18, .istore 4, ([], 0, 0, []), zi0), (20, .iload 4, ([], 0, 0, []), zi0), (22, .iload_n 1, ([1], 0, 0, []), zi0), (23, .if_icmp .ge 56, ([79], 0, 0, []), zi0), (26, .iload_n 3, ([3], 0, 0, []), zi0), (27, .iload_n 0, ([0], 0, 0, []), zi0), (28, .iload_n 3, ([3], 0, 0, []), zi0), (29, .invokestatic 80, ([0, 3, 214], 0, 0, []), mi_R_digit), (32, .iload 4, ([], 0, 0, []), zi0), (34, .imul, ([], 0, 0, []), zi0), (35, .iadd, ([], 0, 0, []), zi0), (36, .iload_n 1, ([1], 0, 0, []), zi0), (37, .irem, ([], 0, 0, []), zi0), (38, .istore 5, ([], 0, 0, []), zi0), (40, .iload_n 2, ([2], 0, 0, []), zi0), (41, .ifCond .eq 30, ([71], 0, 0, []), zi0), (44, .iload_n 0, ([0], 0, 0, []), zi0), (45, .iload 5, ([], 0, 0, []), zi0), (47, .invokestatic 80, ([0, 3, 214], 0, 0, []), mi_R_digit), (50, .iload_n 0, ([0], 0, 0, []), zi0), (51, .iload_n 3, ([3], 0, 0, []), zi0), (52, .invokestatic 80, ([0, 3, 214], 0, 0, []), mi_R_digit), (55, .iload_n 0, ([0], 0, 0, []), zi0), (56, .iload 4, ([], 0, 0, []), zi0), (58, .invokestatic 80, ([0, 3, 214], 0, 0, []), mi_R_digit), (61, .imul, ([], 0, 0, []), zi0), (62, .iload_n 1, ([1], 0, 0, []), zi0), (63, .irem, ([], 0, 0, []), zi0), (64, .if_icmp .ne 7, ([71], 0, 0, []), zi0), (67, .iconst 1, ([], nI 1, 0, []), zi0), (68, .goto 4, ([72], 0, 0, []), zi0), (71, .iconst 0, ([], nI 0, 0, []), zi0), (72, .istore_n 2, ([2], 0, 0, []), zi0), (73, .iinc 4 1, ([], nI 1, 0, []), zi0), (76, .goto (-56), ([20], 0, 0, []), zi0), (79, .iinc 3 1, ([], nI 1, 0, []), zi0), (82, .goto (-74), ([8], 0, 0, []), zi0), (85, .iload_n 2, ([2], 0, 0, []), zi0), (86, .ireturn, ([], 0, 0, []), zi0)]
def cu_R_isBrace : List (Nat × List Nat) := [(8, [0, 1, 2, 3]), (20, [0, 1, 2, 3, 4])]
set_option maxRecDepth 100000 in
theorem oc_R_isBrace : cd_R_isBrace.all (zchk mi_R_isBrace) = true := by decide +kernel
set_option maxRecDepth 100000 in
theorem ow_R_isBrace : zWs mi_R_isBrace cd_R_isBrace := ⟨trivial, trivial, ⟨rfl, ms_R_areUnits⟩, trivial, trivial, trivial, trivial, trivial, trivial, trivial, trivial, trivial, trivial, trivial, trivial, trivial, trivial, trivial, trivial, ⟨rfl, ms_R_digit⟩, trivial, trivial, trivial, trivial, trivial, trivial, trivial, trivial, trivial, trivial, ⟨rfl, ms_R_digit⟩, trivial, trivial, ⟨rfl, ms_R_digit⟩, trivial, trivial, ⟨rfl, ms_R_digit⟩, trivial, trivial, trivial, trivial, trivial, trivial, trivial, trivial, trivial, trivial, trivial, trivial, trivial, trivial, trivial⟩
theorem ok_R_isBrace : zgood2 mi_R_isBrace cd_R_isBrace := ⟨oc_R_isBrace, ow_R_isBrace⟩
def cd_R_isPermutation : List ZE := [(0, .iconst 0, ([], nI 0, 0, []), zi0), (1, .istore_n 2, ([2], 0, 0, []), zi0), (2, .iconst 0, ([], nI 0, 0, []), zi0), (3, .istore_n 3, ([3], 0, 0, []), zi0), (4, .iload_n 3, ([3], 0, 0, []), zi0), (5, .iload_n 1, ([1], 0, 0, []), zi0), (6, .if_icmp .ge 19, ([25], 0, 0, []), zi0), (9, .iload_n 2, ([2], 0, 0, []), zi0), (10, .iconst 1, ([], nI 1, 0, []), zi0), (11, .iload_n 0, ([0], 0, 0, []), zi0), (12, .iload_n 3, ([3], 0, 0, []), zi0), (13, .invokestatic 80, ([0, 3, 214], 0, 0, []), mi_R_digit), (16, .ishl, ([], 0, 0, []), zi0), (17, .ior, ([], 0, 0, []), zi0), (18, .istore_n 2, ([2], 0, 0, []), zi0), (19, .iinc 3 1, ([], nI 1, 0, []), zi0), (22, .goto (-18), ([4], 0, 0, []), zi0), (25, .iload_n 0, ([0], 0, 0, []), zi0), (26, .iload_n 1, ([1], 0, 0, []), zi0), (27, .iload_n 1, ([1], 0, 0, []), zi0), (28, .invokestatic 84, ([0, 3, 217], 0, 0, []), mi_R_arePoints), (31, .ifCond .eq 16, ([47], 0, 0, []), zi0), (34, .iload_n 2, ([2], 0, 0, []), zi0), (35, .iconst 1, ([], nI 1, 0, []), zi0), (36, .iload_n 1, ([1], 0, 0, []), zi0), (37, .ishl, ([], 0, 0, []), zi0), (38, .iconst 1, ([], nI 1, 0, []), zi0), (39, .isub, ([], 0, 0, []), zi0), (40, .if_icmp .ne 7, ([47], 0, 0, []), zi0), (43, .iconst 1, ([], nI 1, 0, []), zi0), (44, .goto 4, ([48], 0, 0, []), zi0), (47, .iconst 0, ([], nI 0, 0, []), zi0), (48, .ireturn, ([], 0, 0, []), zi0)]
def cu_R_isPermutation : List (Nat × List Nat) := [(4, [0, 1, 2, 3])]
set_option maxRecDepth 100000 in
theorem oc_R_isPermutation : cd_R_isPermutation.all (zchk mi_R_isPermutation) = true := by decide +kernel
set_option maxRecDepth 100000 in
theorem ow_R_isPermutation : zWs mi_R_isPermutation cd_R_isPermutation := ⟨trivial, trivial, trivial, trivial, trivial, trivial, trivial, trivial, trivial, trivial, trivial, ⟨rfl, ms_R_digit⟩, trivial, trivial, trivial, trivial, trivial, trivial, trivial, trivial, ⟨rfl, ms_R_arePoints⟩, trivial, trivial, trivial, trivial, trivial, trivial, trivial, trivial, trivial, trivial, trivial, trivial, trivial⟩
theorem ok_R_isPermutation : zgood2 mi_R_isPermutation cd_R_isPermutation := ⟨oc_R_isPermutation, ow_R_isPermutation⟩
def cd_R_laySteps : List ZE := [(0, .aload_n 0, ([0], 0, 0, []), zi0), (1, .getfield 7, ([8, 0, 3, 126], 0, 0, []), zi0), (4, .iload_n 1, ([1], 0, 0, []), zi0), (5, .iaload, ([], 0, 0, []), zi0), (6, .istore 4, ([], 0, 0, []), zi0), (8, .iconst 0, ([], nI 0, 0, []), zi0), (9, .istore 5, ([], 0, 0, []), zi0), (11, .iload 5, ([], 0, 0, []), zi0), (13, .iload 4, ([], 0, 0, []), zi0), (15, .iload_n 3, ([3], 0, 0, []), zi0), (16, .invokestatic 205, ([0, 4, 190], 0, 0, []), mi_R_rowsTo), (19, .if_icmp .ge 38, ([57], 0, 0, []), zi0), (22, .aload_n 0, ([0], 0, 0, []), zi0), (23, .iload 5, ([], 0, 0, []), zi0), (25, .iload 4, ([], 0, 0, []), zi0), (27, .iload_n 3, ([3], 0, 0, []), zi0), (28, .invokevirtual 268, ([8, 5, 19], 0, 0, []), mi_R_layTuple), (31, .aload_n 0, ([0], 0, 0, []), zi0), (32, .iload_n 1, ([1], 0, 0, []), zi0), (33, .iload_n 2, ([2], 0, 0, []), zi0), (34, .invokevirtual 305, ([8, 5, 66], 0, 0, []), mi_R_goesThrough), (37, .aload_n 0, ([0], 0, 0, []), zi0), (38, .getfield 50, ([8, 14, 3, 140], 0, 0, []), zi0), (41, .iload 5, ([], 0, 0, []), zi0), (43, .aload_n 0, ([0], 0, 0, []), zi0), (44, .iload 4, ([], 0, 0, []), zi0), (46, .iload_n 3, ([3], 0, 0, []), zi0), (47, .invokevirtual 271, ([8, 5, 23], 0, 0, []), mi_R_tupleNumber), (50, .iastore, ([], 0, 0, []), zi0), (51, .iinc 5 1, ([], nI 1, 0, []), zi0), (54, .goto (-43), ([11], 0, 0, []), zi0), (57, .return_, ([], 0, 0, []), zi0)]
def cu_R_laySteps : List (Nat × List Nat) := [(11, [0, 1, 2, 3, 4, 5])]
set_option maxRecDepth 100000 in
theorem oc_R_laySteps : cd_R_laySteps.all (zchk mi_R_laySteps) = true := by decide +kernel
set_option maxRecDepth 100000 in
theorem ow_R_laySteps : zWs mi_R_laySteps cd_R_laySteps := ⟨trivial, rfl, trivial, trivial, trivial, trivial, trivial, trivial, trivial, trivial, ⟨rfl, ms_R_rowsTo⟩, trivial, trivial, trivial, trivial, trivial, ⟨rfl, rfl, mv_R_layTuple⟩, trivial, trivial, trivial, ⟨rfl, rfl, mv_R_goesThrough⟩, trivial, rfl, trivial, trivial, trivial, trivial, ⟨rfl, rfl, mv_R_tupleNumber⟩, trivial, trivial, trivial, trivial, trivial⟩
theorem ok_R_laySteps : zgood2 mi_R_laySteps cd_R_laySteps := ⟨oc_R_laySteps, ow_R_laySteps⟩
def cd_R_least : List ZE := [(0, .aload_n 0, ([0], 0, 0, []), zi0), (1, .iload_n 1, ([1], 0, 0, []), zi0), (2, .invokevirtual 123, ([8, 4, 16], 0, 0, []), mi_R_isMap), (5, .ifCond .ne 6, ([11], 0, 0, []), zi0), (8, .ldc 88, ([3, 192], (-1000001), 0, []), zi0), (10, .ireturn, ([], 0, 0, []), zi0), (11, .iload_n 2, ([2], 0, 0, []), zi0), (12, .i2l, ([], 0, 0, []), zi0), (13, .lconst 1, ([], 0, lN 1, []), zi0), (14, .ldc2_w 274, ([5, 14], 0, lN 4, []), zi0), (17, .invokestatic 64, ([0, 3, 189], 0, 0, []), mi_R_in), (20, .ifCond .eq 17, ([37], 0, 0, []), zi0), (23, .iload_n 3, ([3], 0, 0, []), zi0), (24, .iload_n 2, ([2], 0, 0, []), zi0), (25, .aload_n 0, ([0], 0, 0, []), zi0), (26, .getfield 7, ([8, 0, 3, 126], 0, 0, []), zi0), (29, .iload_n 1, ([1], 0, 0, []), zi0), (30, .iaload, ([], 0, 0, []), zi0), (31, .invokestatic 84, ([0, 3, 217], 0, 0, []), mi_R_arePoints), (34, .ifCond .ne 6, ([40], 0, 0, []), zi0), (37, .ldc 91, ([3, 194], (-1000002), 0, []), zi0), (39, .ireturn, ([], 0, 0, []), zi0), (40, .aload_n 0, ([0], 0, 0, []), zi0), (41, .iload_n 1, ([1], 0, 0, []), zi0), (42, .iload_n 2, ([2], 0, 0, []), zi0), (43, .invokevirtual 276, ([8, 5, 15], 0, 0, []), mi_R_layWords), (46, .aload_n 0, ([0], 0, 0, []), zi0), (47, .iload_n 3, ([3], 0, 0, []), zi0), (48, .iload_n 2, ([2], 0, 0, []), zi0), (49, .invokevirtual 279, ([8, 5, 31], 0, 0, []), mi_R_layCode), (52, .aload_n 0, ([0], 0, 0, []), zi0), (53, .aload_n 0, ([0], 0, 0, []), zi0), (54, .getfield 7, ([8, 0, 3, 126], 0, 0, []), zi0), (57, .iload_n 1, ([1], 0, 0, []), zi0), (58, .iaload, ([], 0, 0, []), zi0), (59, .iload_n 2, ([2], 0, 0, []), zi0), (60, .invokevirtual 271, ([8, 5, 23], 0, 0, []), mi_R_tupleNumber), (63, .istore 4, ([], 0, 0, []), zi0), (65, .aload_n 0, ([0], 0, 0, []), zi0), (66, .aload_n 0, ([0], 0, 0, []), zi0), (67, .getfield 47, ([8, 13, 3, 139], 0, 0, []), zi0), (70, .iload 4, ([], 0, 0, []), zi0), (72, .iaload, ([], 0, 0, []), zi0), (73, .aload_n 0, ([0], 0, 0, []), zi0), (74, .getfield 7, ([8, 0, 3, 126], 0, 0, []), zi0), (77, .iload_n 1, ([1], 0, 0, []), zi0), (78, .iaload, ([], 0, 0, []), zi0), (79, .iload_n 2, ([2], 0, 0, []), zi0), (80, .invokevirtual 268, ([8, 5, 19], 0, 0, []), mi_R_layTuple), (83, .aload_n 0, ([0], 0, 0, []), zi0), (84, .iload_n 2, ([2], 0, 0, []), zi0), (85, .invokevirtual 282, ([8, 5, 35], 0, 0, []), mi_R_tupleCode), (88, .ireturn, ([], 0, 0, []), zi0)]
def cu_R_least : List (Nat × List Nat) := []
set_option maxRecDepth 100000 in
theorem oc_R_least : cd_R_least.all (zchk mi_R_least) = true := by decide +kernel
set_option maxRecDepth 100000 in
theorem ow_R_least : zWs mi_R_least cd_R_least := ⟨trivial, trivial, ⟨rfl, rfl, mv_R_isMap⟩, trivial, rfl, trivial, trivial, trivial, trivial, rfl, ⟨rfl, ms_R_in⟩, trivial, trivial, trivial, trivial, rfl, trivial, trivial, ⟨rfl, ms_R_arePoints⟩, trivial, rfl, trivial, trivial, trivial, trivial, ⟨rfl, rfl, mv_R_layWords⟩, trivial, trivial, trivial, ⟨rfl, rfl, mv_R_layCode⟩, trivial, trivial, rfl, trivial, trivial, trivial, ⟨rfl, rfl, mv_R_tupleNumber⟩, trivial, trivial, trivial, rfl, trivial, trivial, trivial, rfl, trivial, trivial, trivial, ⟨rfl, rfl, mv_R_layTuple⟩, trivial, trivial, ⟨rfl, rfl, mv_R_tupleCode⟩, trivial, trivial⟩
theorem ok_R_least : zgood2 mi_R_least cd_R_least := ⟨oc_R_least, ow_R_least⟩
def cd_R_like : List ZE := [(0, .aload_n 0, ([0], 0, 0, []), zi0), (1, .iload_n 1, ([1], 0, 0, []), zi0), (2, .invokevirtual 123, ([8, 4, 16], 0, 0, []), mi_R_isMap), (5, .ifCond .eq 11, ([16], 0, 0, []), zi0), (8, .aload_n 0, ([0], 0, 0, []), zi0), (9, .iload_n 2, ([2], 0, 0, []), zi0), (10, .invokevirtual 123, ([8, 4, 16], 0, 0, []), mi_R_isMap), (13, .ifCond .ne 6, ([19], 0, 0, []), zi0), (16, .ldc 88, ([3, 192], (-1000001), 0, []), zi0), (18, .ireturn, ([], 0, 0, []), zi0), (19, .iload_n 3, ([3], 0, 0, []), zi0), (20, .iconst (-1), ([], (-1), 0, []), zi0), (21, .if_icmp .ge 6, ([27], 0, 0, []), zi0), (24, .ldc 91, ([3, 194], (-1000002), 0, []), zi0), (26, .ireturn, ([], 0, 0, []), zi0), (27, .aload_n 0, ([0], 0, 0, []), zi0), (28, .iload_n 1, ([1], 0, 0, []), zi0), (29, .iload_n 2, ([2], 0, 0, []), zi0), (30, .iload_n 3, ([3], 0, 0, []), zi0), (31, .invokevirtual 232, ([8, 4, 151], 0, 0, []), mi_R_likenesses), (34, .istore 4, ([], 0, 0, []), zi0), (36, .iload_n 3, ([3], 0, 0, []), zi0), (37, .iconst (-1), ([], (-1), 0, []), zi0), (38, .if_icmp .ne 8, ([46], 0, 0, []), zi0), (41, .iload 4, ([], 0, 0, []), zi0), (43, .goto 7, ([50], 0, 0, []), zi0), (46, .aload_n 0, ([0], 0, 0, []), zi0), (47, .getfield 180, ([8, 9, 3, 135], 0, 0, []), zi0), (50, .ireturn, ([], 0, 0, []), zi0)]
def cu_R_like : List (Nat × List Nat) := []
set_option maxRecDepth 100000 in
theorem oc_R_like : cd_R_like.all (zchk mi_R_like) = true := by decide +kernel
set_option maxRecDepth 100000 in
theorem ow_R_like : zWs mi_R_like cd_R_like := ⟨trivial, trivial, ⟨rfl, rfl, mv_R_isMap⟩, trivial, trivial, trivial, ⟨rfl, rfl, mv_R_isMap⟩, trivial, rfl, trivial, trivial, trivial, trivial, rfl, trivial, trivial, trivial, trivial, trivial, ⟨rfl, rfl, mv_R_likenesses⟩, trivial, trivial, trivial, trivial, trivial, trivial, trivial, rfl, trivial, trivial⟩
theorem ok_R_like : zgood2 mi_R_like cd_R_like := ⟨oc_R_like, ow_R_like⟩
def cd_R_makeRetract : List ZE := [(0, .aload_n 0, ([0], 0, 0, []), zi0), (1, .iload_n 1, ([1], 0, 0, []), zi0), (2, .invokevirtual 138, ([8, 4, 40], 0, 0, []), mi_R_layClasses), (5, .istore_n 2, ([2], 0, 0, []), zi0), (6, .aload_n 0, ([0], 0, 0, []), zi0), (7, .getfield 7, ([8, 0, 3, 126], 0, 0, []), zi0), (10, .iconst 4, ([], nI 4, 0, []), zi0), (11, .iload_n 2, ([2], 0, 0, []), zi0), (12, .iastore, ([], 0, 0, []), zi0), (13, .iconst 0, ([], nI 0, 0, []), zi0), (14, .istore_n 3, ([3], 0, 0, []), zi0), (15, .iload_n 3, ([3], 0, 0, []), zi0), (16, .iload_n 2, ([2], 0, 0, []), zi0), (17, .iload_n 2, ([2], 0, 0, []), zi0), (18, .imul, ([], 0, 0, []), zi0), (19, .if_icmp .ge 68, ([87], 0, 0, []), zi0), (22, .aload_n 0, ([0], 0, 0, []), zi0), (23, .getfield 25, ([8, 5, 3, 131], 0, 0, []), zi0), (26, .iload_n 3, ([3], 0, 0, []), zi0), (27, .iload_n 2, ([2], 0, 0, []), zi0), (28, .idiv, ([], 0, 0, []), zi0), (29, .iaload, ([], 0, 0, []), zi0), (30, .istore 4, ([], 0, 0, []), zi0), (32, .aload_n 0, ([0], 0, 0, []), zi0), (33, .getfield 25, ([8, 5, 3, 131], 0, 0, []), zi0), (36, .iload_n 3, ([3], 0, 0, []), zi0), (37, .iload_n 2, ([2], 0, 0, []), zi0), (38, .irem, ([], 0, 0, []), zi0), (39, .iaload, ([], 0, 0, []), zi0), (40, .istore 5, ([], 0, 0, []), zi0), (42, .aload_n 0, ([0], 0, 0, []), zi0), (43, .iconst 4, ([], nI 4, 0, []), zi0), (44, .iload_n 3, ([3], 0, 0, []), zi0), (45, .iload_n 2, ([2], 0, 0, []), zi0), (46, .idiv, ([], 0, 0, []), zi0), (47, .iload_n 3, ([3], 0, 0, []), zi0), (48, .iload_n 2, ([2], 0, 0, []), zi0), (49, .irem, ([], 0, 0, []), zi0), (50, .aload_n 0, ([0], 0, 0, []), zi0), (51, .getfield 22, ([8, 4, 3, 130], 0, 0, []), zi0), (54, .aload_n 0, ([0], 0, 0, []), zi0), (55, .iload_n 1, ([1], 0, 0, []), zi0), (56, .iload 4, ([], 0, 0, []), zi0), (58, .iload 5, ([], 0, 0, []), zi0), (60, .invokevirtual 129, ([8, 4, 24], 0, 0, []), mi_R_l), (63, .iaload, ([], 0, 0, []), zi0), (64, .aload_n 0, ([0], 0, 0, []), zi0), (65, .getfield 22, ([8, 4, 3, 130], 0, 0, []), zi0), (68, .aload_n 0, ([0], 0, 0, []), zi0), (69, .iload_n 1, ([1], 0, 0, []), zi0), (70, .iload 4, ([], 0, 0, []), zi0), (72, .iload 5, ([], 0, 0, []), zi0), (74, .invokevirtual 132, ([8, 4, 28], 0, 0, []), mi_R_r), (77, .iaload, ([], 0, 0, []), zi0), (78, .invokevirtual 92, ([8, 3, 195], 0, 0, []), mi_R_lay), (81, .iinc 3 1, ([], nI 1, 0, []), zi0), (84, .goto (-69), ([15], 0, 0, []), zi0), (87, .return_, ([], 0, 0, []), zi0)]
def cu_R_makeRetract : List (Nat × List Nat) := [(15, [0, 1, 2, 3])]
set_option maxRecDepth 100000 in
theorem oc_R_makeRetract : cd_R_makeRetract.all (zchk mi_R_makeRetract) = true := by decide +kernel
set_option maxRecDepth 100000 in
theorem ow_R_makeRetract : zWs mi_R_makeRetract cd_R_makeRetract := ⟨trivial, trivial, ⟨rfl, rfl, mv_R_layClasses⟩, trivial, trivial, rfl, trivial, trivial, trivial, trivial, trivial, trivial, trivial, trivial, trivial, trivial, trivial, rfl, trivial, trivial, trivial, trivial, trivial, trivial, rfl, trivial, trivial, trivial, trivial, trivial, trivial, trivial, trivial, trivial, trivial, trivial, trivial, trivial, trivial, rfl, trivial, trivial, trivial, trivial, ⟨rfl, rfl, mv_R_l⟩, trivial, trivial, rfl, trivial, trivial, trivial, trivial, ⟨rfl, rfl, mv_R_r⟩, trivial, ⟨rfl, rfl, mv_R_lay⟩, trivial, trivial, trivial, trivial⟩
theorem ok_R_makeRetract : zgood2 mi_R_makeRetract cd_R_makeRetract := ⟨oc_R_makeRetract, ow_R_makeRetract⟩
def cd_R_mirror : List ZE := [(0, .aload_n 0, ([0], 0, 0, []), zi0), (1, .iload_n 1, ([1], 0, 0, []), zi0), (2, .invokevirtual 123, ([8, 4, 16], 0, 0, []), mi_R_isMap), (5, .ifCond .eq 10, ([15], 0, 0, []), zi0), (8, .iload_n 2, ([2], 0, 0, []), zi0), (9, .invokestatic 68, ([0, 3, 185], 0, 0, []), mi_R_isPlace), (12, .ifCond .ne 6, ([18], 0, 0, []), zi0), (15, .ldc 88, ([3, 192], (-1000001), 0, []), zi0), (17, .ireturn, ([], 0, 0, []), zi0), (18, .aload_n 0, ([0], 0, 0, []), zi0), (19, .getfield 7, ([8, 0, 3, 126], 0, 0, []), zi0), (22, .iload_n 1, ([1], 0, 0, []), zi0), (23, .iaload, ([], 0, 0, []), zi0), (24, .istore_n 3, ([3], 0, 0, []), zi0), (25, .aload_n 0, ([0], 0, 0, []), zi0), (26, .getfield 7, ([8, 0, 3, 126], 0, 0, []), zi0), (29, .iconst 4, ([], nI 4, 0, []), zi0), (30, .iload_n 3, ([3], 0, 0, []), zi0), (31, .iastore, ([], 0, 0, []), zi0), (32, .iconst 0, ([], nI 0, 0, []), zi0), (33, .istore 4, ([], 0, 0, []), zi0), (35, .iload 4, ([], 0, 0, []), zi0), (37, .iload_n 3, ([3], 0, 0, []), zi0), (38, .iload_n 3, ([3], 0, 0, []), zi0), (39, .imul, ([], 0, 0, []), zi0), (40, .if_icmp .ge 48, ([88], 0, 0, []), zi0), (43, .aload_n 0, ([0], 0, 0, []), zi0), (44, .iconst 4, ([], nI 4, 0, []), zi0), (45, .iload 4, ([], 0, 0, []), zi0), (47, .iload_n 3, ([3], 0, 0, []), zi0), (48, .idiv, ([], 0, 0, []), zi0), (49, .iload 4, ([], 0, 0, []), zi0), (51, .iload_n 3, ([3], 0, 0, []), zi0), (52, .irem, ([], 0, 0, []), zi0), (53, .aload_n 0, ([0], 0, 0, []), zi0), (54, .iload_n 1, ([1], 0, 0, []), zi0), (55, .iload 4, ([], 0, 0, []), zi0), (57, .iload_n 3, ([3], 0, 0, []), zi0), (58, .irem, ([], 0, 0, []), zi0), (59, .iload 4, ([], 0, 0, []), zi0), (61, .iload_n 3, ([3], 0, 0, []), zi0), (62, .idiv, ([], 0, 0, []), zi0), (63, .invokevirtual 132, ([8, 4, 28], 0, 0, []), mi_R_r), (66, .aload_n 0, ([0], 0, 0, []), zi0), (67, .iload_n 1, ([1], 0, 0, []), zi0), (68, .iload 4, ([], 0, 0, []), zi0), (70, .iload_n 3, ([3], 0, 0, []), zi0), (71, .irem, ([], 0, 0, []), zi0), (72, .iload 4, ([], 0, 0, []), zi0), (74, .iload_n 3, ([3], 0, 0, []), zi0), (75, .idiv, ([], 0, 0, []), zi0), (76, .invokevirtual 129, ([8, 4, 24], 0, 0, []), mi_R_l), (79, .invokevirtual 92, ([8, 3, 195], 0, 0, []), mi_R_lay), (82, .iinc 4 1, ([], nI 1, 0, []), zi0), (85, .goto (-50), ([35], 0, 0, []), zi0), (88, .aload_n 0, ([0], 0, 0, []), zi0), (89, .iload_n 2, ([2], 0, 0, []), zi0), (90, .invokevirtual 96, ([8, 3, 199], 0, 0, []), mi_R_comes), (93, .ireturn, ([], 0, 0, []), zi0)]
def cu_R_mirror : List (Nat × List Nat) := [(35, [0, 1, 2, 3, 4])]
set_option maxRecDepth 100000 in
theorem oc_R_mirror : cd_R_mirror.all (zchk mi_R_mirror) = true := by decide +kernel
set_option maxRecDepth 100000 in
theorem ow_R_mirror : zWs mi_R_mirror cd_R_mirror := ⟨trivial, trivial, ⟨rfl, rfl, mv_R_isMap⟩, trivial, trivial, ⟨rfl, ms_R_isPlace⟩, trivial, rfl, trivial, trivial, rfl, trivial, trivial, trivial, trivial, rfl, trivial, trivial, trivial, trivial, trivial, trivial, trivial, trivial, trivial, trivial, trivial, trivial, trivial, trivial, trivial, trivial, trivial, trivial, trivial, trivial, trivial, trivial, trivial, trivial, trivial, trivial, ⟨rfl, rfl, mv_R_r⟩, trivial, trivial, trivial, trivial, trivial, trivial, trivial, trivial, ⟨rfl, rfl, mv_R_l⟩, ⟨rfl, rfl, mv_R_lay⟩, trivial, trivial, trivial, trivial, ⟨rfl, rfl, mv_R_comes⟩, trivial, trivial⟩
theorem ok_R_mirror : zgood2 mi_R_mirror cd_R_mirror := ⟨oc_R_mirror, ow_R_mirror⟩
def cd_R_orbit : List ZE := [(0, .aload_n 0, ([0], 0, 0, []), zi0), (1, .iload_n 1, ([1], 0, 0, []), zi0), (2, .invokevirtual 123, ([8, 4, 16], 0, 0, []), mi_R_isMap), (5, .ifCond .eq 21, ([26], 0, 0, []), zi0), (8, .aload_n 0, ([0], 0, 0, []), zi0), (9, .iload_n 1, ([1], 0, 0, []), zi0), (10, .iload_n 2, ([2], 0, 0, []), zi0), (11, .invokevirtual 126, ([8, 4, 20], 0, 0, []), mi_R_isPoint), (14, .ifCond .eq 12, ([26], 0, 0, []), zi0), (17, .aload_n 0, ([0], 0, 0, []), zi0), (18, .iload_n 1, ([1], 0, 0, []), zi0), (19, .iload_n 2, ([2], 0, 0, []), zi0), (20, .invokevirtual 158, ([8, 4, 124], 0, 0, []), mi_R_orbitOf), (23, .goto 5, ([28], 0, 0, []), zi0), (26, .ldc 88, ([3, 192], (-1000001), 0, []), zi0), (28, .ireturn, ([], 0, 0, []), zi0)]
def cu_R_orbit : List (Nat × List Nat) := []
set_option maxRecDepth 100000 in
theorem oc_R_orbit : cd_R_orbit.all (zchk mi_R_orbit) = true := by decide +kernel
set_option maxRecDepth 100000 in
theorem ow_R_orbit : zWs mi_R_orbit cd_R_orbit := ⟨trivial, trivial, ⟨rfl, rfl, mv_R_isMap⟩, trivial, trivial, trivial, trivial, ⟨rfl, rfl, mv_R_isPoint⟩, trivial, trivial, trivial, trivial, ⟨rfl, rfl, mv_R_orbitOf⟩, trivial, rfl, trivial, trivial⟩
theorem ok_R_orbit : zgood2 mi_R_orbit cd_R_orbit := ⟨oc_R_orbit, ow_R_orbit⟩
def cd_R_pair : List ZE := [(0, .aload_n 0, ([0], 0, 0, []), zi0), (1, .iload_n 1, ([1], 0, 0, []), zi0), (2, .invokevirtual 123, ([8, 4, 16], 0, 0, []), mi_R_isMap), (5, .ifCond .eq 18, ([23], 0, 0, []), zi0), (8, .aload_n 0, ([0], 0, 0, []), zi0), (9, .iload_n 2, ([2], 0, 0, []), zi0), (10, .invokevirtual 123, ([8, 4, 16], 0, 0, []), mi_R_isMap), (13, .ifCond .eq 10, ([23], 0, 0, []), zi0), (16, .iload_n 3, ([3], 0, 0, []), zi0), (17, .invokestatic 68, ([0, 3, 185], 0, 0, []), mi_R_isPlace), (20, .ifCond .ne 6, ([26], 0, 0, []), zi0), (23, .ldc 88, ([3, 192], (-1000001), 0, []), zi0), (25, .ireturn, ([], 0, 0, []), zi0), (26, .aload_n 0, ([0], 0, 0, []), zi0), (27, .getfield 7, ([8, 0, 3, 126], 0, 0, []), zi0), (30, .iload_n 2, ([2], 0, 0, []), zi0), (31, .iaload, ([], 0, 0, []), zi0), (32, .istore 4, ([], 0, 0, []), zi0), (34, .aload_n 0, ([0], 0, 0, []), zi0), (35, .getfield 7, ([8, 0, 3, 126], 0, 0, []), zi0), (38, .iload_n 1, ([1], 0, 0, []), zi0), (39, .iaload, ([], 0, 0, []), zi0), (40, .iload 4, ([], 0, 0, []), zi0), (42, .imul, ([], 0, 0, []), zi0), (43, .istore 5, ([], 0, 0, []), zi0), (45, .iload 5, ([], 0, 0, []), zi0), (47, .bipush 6, ([], nI 6, 0, []), zi0), (49, .if_icmp .le 6, ([55], 0, 0, []), zi0), (52, .ldc 145, ([4, 52], (-1000004), 0, []), zi0), (54, .ireturn, ([], 0, 0, []), zi0), (55, .aload_n 0, ([0], 0, 0, []), zi0), (56, .getfield 7, ([8, 0, 3, 126], 0, 0, []), zi0), (59, .iconst 4, ([], nI 4, 0, []), zi0), (60, .iload 5, ([], 0, 0, []), zi0), (62, .iastore, ([], 0, 0, []), zi0), (63, .iconst 0, ([], nI 0, 0, []), zi0), (64, .istore 6, ([], 0, 0, []), zi0), (66, .iload 6, ([], 0, 0, []), zi0), (68, .iload 5, ([], 0, 0, []), zi0), (70, .iload 5, ([], 0, 0, []), zi0), (72, .imul, ([], 0, 0, []), zi0), (73, .if_icmp .ge 108, ([181], 0, 0, []), zi0), (76, .iload 6, ([], 0, 0, []), zi0), (78, .iload 5, ([], 0, 0, []), zi0), (80, .idiv, ([], 0, 0, []), zi0), (81, .istore 7, ([], 0, 0, []), zi0), (83, .iload 6, ([], 0, 0, []), zi0), (85, .iload 5, ([], 0, 0, []), zi0), (87, .irem, ([], 0, 0, []), zi0), (88, .istore 8, ([], 0, 0, []), zi0), (90, .iload 4, ([], 0, 0, []), zi0), (92, .aload_n 0, ([0], 0, 0, []), zi0), (93, .iload_n 1, ([1], 0, 0, []), zi0), (94, .iload 7, ([], 0, 0, []), zi0), (96, .iload 4, ([], 0, 0, []), zi0), (98, .idiv, ([], 0, 0, []), zi0), (99, .iload 8, ([], 0, 0, []), zi0), (101, .iload 4, ([], 0, 0, []), zi0), (103, .idiv, ([], 0, 0, []), zi0), (104, .invokevirtual 129, ([8, 4, 24], 0, 0, []), mi_R_l), (107, .imul, ([], 0, 0, []), zi0), (108, .aload_n 0, ([0], 0, 0, []), zi0), (109, .iload_n 2, ([2], 0, 0, []), zi0), (110, .iload 7, ([], 0, 0, []), zi0), (112, .iload 4, ([], 0, 0, []), zi0), (114, .irem, ([], 0, 0, []), zi0), (115, .iload 8, ([], 0, 0, []), zi0), (117, .iload 4, ([], 0, 0, []), zi0), (119, .irem, ([], 0, 0, []), zi0), (120, .invokevirtual 129, ([8, 4, 24], 0, 0, []), mi_R_l), (123, .iadd, ([], 0, 0, []), zi0), (124, .istore 9, ([], 0, 0, []), zi0), (126, .iload 4, ([], 0, 0, []), zi0), (128, .aload_n 0, ([0], 0, 0, []), zi0), (129, .iload_n 1, ([1], 0, 0, []), zi0), (130, .iload 7, ([], 0, 0, []), zi0), (132, .iload 4, ([], 0, 0, []), zi0), (134, .idiv, ([], 0, 0, []), zi0), (135, .iload 8, ([], 0, 0, []), zi0), (137, .iload 4, ([], 0, 0, []), zi0), (139, .idiv, ([], 0, 0, []), zi0), (140, .invokevirtual 132, ([8, 4, 28], 0, 0, []), mi_R_r), (143, .imul, ([], 0, 0, []), zi0), (144, .aload_n 0, ([0], 0, 0, []), zi0), (145, .iload_n 2, ([2], 0, 0, []), zi0), (146, .iload 7, ([], 0, 0, []), zi0), (148, .iload 4, ([], 0, 0, []), zi0), (150, .irem, ([], 0, 0, []), zi0), (151, .iload 8, ([], 0, 0, []), zi0), (153, .iload 4, ([], 0, 0, []), zi0), (155, .irem, ([], 0, 0, []), zi0), (156, .invokevirtual 132, ([8, 4, 28], 0, 0, []), mi_R_r), (159, .iadd, ([], 0, 0, []), zi0), (160, .istore 10, ([], 0, 0, []), zi0), (162, .aload_n 0, ([0], 0, 0, []), zi0), (163, .iconst 4, ([], nI 4, 0, []), zi0), (164, .iload 7, ([], 0, 0, []), zi0), (166, .iload 8, ([], 0, 0, []), zi0), (168, .iload 9, ([], 0, 0, []), zi0), (170, .iload 10, ([], 0, 0, []), zi0), (172, .invokevirtual 92, ([8, 3, 195], 0, 0, []), mi_R_lay), (175, .iinc 6 1, ([], nI 1, 0, []), zi0), (178, .goto (-112), ([66], 0, 0, []), zi0), (181, .aload_n 0, ([0], 0, 0, []), zi0), (182, .iload_n 3, ([3], 0, 0, []), zi0), (183, .invokevirtual 96, ([8, 3, 199], 0, 0, []), mi_R_comes), (186, .ireturn, ([], 0, 0, []), zi0)]
def cu_R_pair : List (Nat × List Nat) := [(66, [0, 1, 2, 3, 4, 5, 6])]
set_option maxRecDepth 100000 in
theorem oc_R_pair : cd_R_pair.all (zchk mi_R_pair) = true := by decide +kernel
set_option maxRecDepth 100000 in
theorem ow_R_pair : zWs mi_R_pair cd_R_pair := ⟨trivial, trivial, ⟨rfl, rfl, mv_R_isMap⟩, trivial, trivial, trivial, ⟨rfl, rfl, mv_R_isMap⟩, trivial, trivial, ⟨rfl, ms_R_isPlace⟩, trivial, rfl, trivial, trivial, rfl, trivial, trivial, trivial, trivial, rfl, trivial, trivial, trivial, trivial, trivial, trivial, trivial, trivial, rfl, trivial, trivial, rfl, trivial, trivial, trivial, trivial, trivial, trivial, trivial, trivial, trivial, trivial, trivial, trivial, trivial, trivial, trivial, trivial, trivial, trivial, trivial, trivial, trivial, trivial, trivial, trivial, trivial, trivial, trivial, ⟨rfl, rfl, mv_R_l⟩, trivial, trivial, trivial, trivial, trivial, trivial, trivial, trivial, trivial, ⟨rfl, rfl, mv_R_l⟩, trivial, trivial, trivial, trivial, trivial, trivial, trivial, trivial, trivial, trivial, trivial, ⟨rfl, rfl, mv_R_r⟩, trivial, trivial, trivial, trivial, trivial, trivial, trivial, trivial, trivial, ⟨rfl, rfl, mv_R_r⟩, trivial, trivial, trivial, trivial, trivial, trivial, trivial, trivial, ⟨rfl, rfl, mv_R_lay⟩, trivial, trivial, trivial, trivial, ⟨rfl, rfl, mv_R_comes⟩, trivial, trivial⟩
theorem ok_R_pair : zgood2 mi_R_pair cd_R_pair := ⟨oc_R_pair, ow_R_pair⟩
def cd_R_power : List ZE := [(0, .aload_n 0, ([0], 0, 0, []), zi0), (1, .iload_n 1, ([1], 0, 0, []), zi0), (2, .invokevirtual 123, ([8, 4, 16], 0, 0, []), mi_R_isMap), (5, .ifCond .eq 21, ([26], 0, 0, []), zi0), (8, .aload_n 0, ([0], 0, 0, []), zi0), (9, .iload_n 1, ([1], 0, 0, []), zi0), (10, .iload_n 2, ([2], 0, 0, []), zi0), (11, .invokevirtual 126, ([8, 4, 20], 0, 0, []), mi_R_isPoint), (14, .ifCond .eq 12, ([26], 0, 0, []), zi0), (17, .aload_n 0, ([0], 0, 0, []), zi0), (18, .iload_n 1, ([1], 0, 0, []), zi0), (19, .iload_n 3, ([3], 0, 0, []), zi0), (20, .invokevirtual 126, ([8, 4, 20], 0, 0, []), mi_R_isPoint), (23, .ifCond .ne 6, ([29], 0, 0, []), zi0), (26, .ldc 88, ([3, 192], (-1000001), 0, []), zi0), (28, .ireturn, ([], 0, 0, []), zi0), (29, .iload 4, ([], 0, 0, []), zi0), (31, .i2l, ([], 0, 0, []), zi0), (32, .lconst 0, ([], 0, lN 0, []), zi0), (33, .ldc2_w 266, ([5, 5], 0, lN 1000, []), zi0), (36, .invokestatic 64, ([0, 3, 189], 0, 0, []), mi_R_in), (39, .ifCond .ne 6, ([45], 0, 0, []), zi0), (42, .ldc 91, ([3, 194], (-1000002), 0, []), zi0), (44, .ireturn, ([], 0, 0, []), zi0), (45, .aload_n 0, ([0], 0, 0, []), zi0), (46, .getfield 28, ([8, 6, 3, 132], 0, 0, []), zi0), (49, .iconst 0, ([], nI 0, 0, []), zi0), (50, .iload_n 2, ([2], 0, 0, []), zi0), (51, .iastore, ([], 0, 0, []), zi0), (52, .aload_n 0, ([0], 0, 0, []), zi0), (53, .getfield 28, ([8, 6, 3, 132], 0, 0, []), zi0), (56, .iconst 1, ([], nI 1, 0, []), zi0), (57, .iload_n 3, ([3], 0, 0, []), zi0), (58, .iastore, ([], 0, 0, []), zi0), (59, .iconst 0, ([], nI 0, 0, []), zi0), (60, .istore 5, ([], 0, 0, []), zi0), (62, .iload 5, ([], 0, 0, []), zi0), (64, .iload 4, ([], 0, 0, []), zi0), (66, .if_icmp .ge 15, ([81], 0, 0, []), zi0), (69, .aload_n 0, ([0], 0, 0, []), zi0), (70, .iload_n 1, ([1], 0, 0, []), zi0), (71, .iconst 0, ([], nI 0, 0, []), zi0), (72, .invokevirtual 149, ([8, 4, 97], 0, 0, []), mi_R_crosses), (75, .iinc 5 1, ([], nI 1, 0, []), zi0), (78, .goto (-16), ([62], 0, 0, []), zi0), (81, .aload_n 0, ([0], 0, 0, []), zi0), (82, .getfield 28, ([8, 6, 3, 132], 0, 0, []), zi0), (85, .iconst 0, ([], nI 0, 0, []), zi0), (86, .iaload, ([], 0, 0, []), zi0), (87, .bipush 8, ([], nI 8, 0, []), zi0), (89, .aload_n 0, ([0], 0, 0, []), zi0), (90, .getfield 28, ([8, 6, 3, 132], 0, 0, []), zi0), (93, .iconst 1, ([], nI 1, 0, []), zi0), (94, .iaload, ([], 0, 0, []), zi0), (95, .imul, ([], 0, 0, []), zi0), (96, .iadd, ([], 0, 0, []), zi0), (97, .ireturn, ([], 0, 0, []), zi0)]
def cu_R_power : List (Nat × List Nat) := [(62, [0, 1, 4, 5])]
set_option maxRecDepth 100000 in
theorem oc_R_power : cd_R_power.all (zchk mi_R_power) = true := by decide +kernel
set_option maxRecDepth 100000 in
theorem ow_R_power : zWs mi_R_power cd_R_power := ⟨trivial, trivial, ⟨rfl, rfl, mv_R_isMap⟩, trivial, trivial, trivial, trivial, ⟨rfl, rfl, mv_R_isPoint⟩, trivial, trivial, trivial, trivial, ⟨rfl, rfl, mv_R_isPoint⟩, trivial, rfl, trivial, trivial, trivial, trivial, rfl, ⟨rfl, ms_R_in⟩, trivial, rfl, trivial, trivial, rfl, trivial, trivial, trivial, trivial, rfl, trivial, trivial, trivial, trivial, trivial, trivial, trivial, trivial, trivial, trivial, trivial, ⟨rfl, rfl, mv_R_crosses⟩, trivial, trivial, trivial, rfl, trivial, trivial, trivial, trivial, rfl, trivial, trivial, trivial, trivial, trivial, trivial⟩
theorem ok_R_power : zgood2 mi_R_power cd_R_power := ⟨oc_R_power, ow_R_power⟩
def cd_R_put : List ZE := [(0, .aload_n 0, ([0], 0, 0, []), zi0), (1, .iload_n 1, ([1], 0, 0, []), zi0), (2, .invokevirtual 123, ([8, 4, 16], 0, 0, []), mi_R_isMap), (5, .ifCond .eq 41, ([46], 0, 0, []), zi0), (8, .aload_n 0, ([0], 0, 0, []), zi0), (9, .iload_n 1, ([1], 0, 0, []), zi0), (10, .iload_n 2, ([2], 0, 0, []), zi0), (11, .invokevirtual 126, ([8, 4, 20], 0, 0, []), mi_R_isPoint), (14, .ifCond .eq 32, ([46], 0, 0, []), zi0), (17, .aload_n 0, ([0], 0, 0, []), zi0), (18, .iload_n 1, ([1], 0, 0, []), zi0), (19, .iload_n 3, ([3], 0, 0, []), zi0), (20, .invokevirtual 126, ([8, 4, 20], 0, 0, []), mi_R_isPoint), (23, .ifCond .eq 23, ([46], 0, 0, []), zi0), (26, .aload_n 0, ([0], 0, 0, []), zi0), (27, .iload_n 1, ([1], 0, 0, []), zi0), (28, .iload 4, ([], 0, 0, []), zi0), (30, .invokevirtual 126, ([8, 4, 20], 0, 0, []), mi_R_isPoint), (33, .ifCond .eq 13, ([46], 0, 0, []), zi0), (36, .aload_n 0, ([0], 0, 0, []), zi0), (37, .iload_n 1, ([1], 0, 0, []), zi0), (38, .iload 5, ([], 0, 0, []), zi0), (40, .invokevirtual 126, ([8, 4, 20], 0, 0, []), mi_R_isPoint), (43, .ifCond .ne 6, ([49], 0, 0, []), zi0), (46, .ldc 88, ([3, 192], (-1000001), 0, []), zi0), (48, .ireturn, ([], 0, 0, []), zi0), (49, .aload_n 0, ([0], 0, 0, []), zi0), (50, .iload_n 1, ([1], 0, 0, []), zi0), (51, .iload_n 2, ([2], 0, 0, []), zi0), (52, .iload_n 3, ([3], 0, 0, []), zi0), (53, .invokevirtual 129, ([8, 4, 24], 0, 0, []), mi_R_l), (56, .bipush 8, ([], nI 8, 0, []), zi0), (58, .aload_n 0, ([0], 0, 0, []), zi0), (59, .iload_n 1, ([1], 0, 0, []), zi0), (60, .iload_n 2, ([2], 0, 0, []), zi0), (61, .iload_n 3, ([3], 0, 0, []), zi0), (62, .invokevirtual 132, ([8, 4, 28], 0, 0, []), mi_R_r), (65, .imul, ([], 0, 0, []), zi0), (66, .iadd, ([], 0, 0, []), zi0), (67, .istore 6, ([], 0, 0, []), zi0), (69, .aload_n 0, ([0], 0, 0, []), zi0), (70, .iload_n 1, ([1], 0, 0, []), zi0), (71, .iload_n 2, ([2], 0, 0, []), zi0), (72, .iload_n 3, ([3], 0, 0, []), zi0), (73, .iload 4, ([], 0, 0, []), zi0), (75, .iload 5, ([], 0, 0, []), zi0), (77, .invokevirtual 92, ([8, 3, 195], 0, 0, []), mi_R_lay), (80, .iload 6, ([], 0, 0, []), zi0), (82, .ireturn, ([], 0, 0, []), zi0)]
def cu_R_put : List (Nat × List Nat) := []
set_option maxRecDepth 100000 in
theorem oc_R_put : cd_R_put.all (zchk mi_R_put) = true := by decide +kernel
set_option maxRecDepth 100000 in
theorem ow_R_put : zWs mi_R_put cd_R_put := ⟨trivial, trivial, ⟨rfl, rfl, mv_R_isMap⟩, trivial, trivial, trivial, trivial, ⟨rfl, rfl, mv_R_isPoint⟩, trivial, trivial, trivial, trivial, ⟨rfl, rfl, mv_R_isPoint⟩, trivial, trivial, trivial, trivial, ⟨rfl, rfl, mv_R_isPoint⟩, trivial, trivial, trivial, trivial, ⟨rfl, rfl, mv_R_isPoint⟩, trivial, rfl, trivial, trivial, trivial, trivial, trivial, ⟨rfl, rfl, mv_R_l⟩, trivial, trivial, trivial, trivial, trivial, ⟨rfl, rfl, mv_R_r⟩, trivial, trivial, trivial, trivial, trivial, trivial, trivial, trivial, trivial, ⟨rfl, rfl, mv_R_lay⟩, trivial, trivial, trivial⟩
theorem ok_R_put : zgood2 mi_R_put cd_R_put := ⟨oc_R_put, ow_R_put⟩
def cd_R_refuses : List ZE := [(0, .aload_n 0, ([0], 0, 0, []), zi0), (1, .iload_n 1, ([1], 0, 0, []), zi0), (2, .invokevirtual 123, ([8, 4, 16], 0, 0, []), mi_R_isMap), (5, .ifCond .eq 10, ([15], 0, 0, []), zi0), (8, .iload_n 2, ([2], 0, 0, []), zi0), (9, .invokestatic 285, ([0, 5, 43], 0, 0, []), mi_R_isBraid), (12, .ifCond .ne 6, ([18], 0, 0, []), zi0), (15, .ldc 88, ([3, 192], (-1000001), 0, []), zi0), (17, .ireturn, ([], 0, 0, []), zi0), (18, .iload_n 3, ([3], 0, 0, []), zi0), (19, .i2l, ([], 0, 0, []), zi0), (20, .ldc2_w 107, ([3, 227], 0, lN 2, []), zi0), (23, .ldc2_w 274, ([5, 14], 0, lN 4, []), zi0), (26, .invokestatic 64, ([0, 3, 189], 0, 0, []), mi_R_in), (29, .ifCond .ne 6, ([35], 0, 0, []), zi0), (32, .ldc 91, ([3, 194], (-1000002), 0, []), zi0), (34, .ireturn, ([], 0, 0, []), zi0), (35, .aload_n 0, ([0], 0, 0, []), zi0), (36, .iload_n 1, ([1], 0, 0, []), zi0), (37, .iload_n 2, ([2], 0, 0, []), zi0), (38, .iload_n 3, ([3], 0, 0, []), zi0), (39, .invokevirtual 299, ([8, 5, 62], 0, 0, []), mi_R_doesFit), (42, .ifCond .eq 7, ([49], 0, 0, []), zi0), (45, .iconst 0, ([], nI 0, 0, []), zi0), (46, .goto 5, ([51], 0, 0, []), zi0), (49, .ldc 122, ([4, 7], (-1000003), 0, []), zi0), (51, .ireturn, ([], 0, 0, []), zi0)]
def cu_R_refuses : List (Nat × List Nat) := []
set_option maxRecDepth 100000 in
theorem oc_R_refuses : cd_R_refuses.all (zchk mi_R_refuses) = true := by decide +kernel
set_option maxRecDepth 100000 in
theorem ow_R_refuses : zWs mi_R_refuses cd_R_refuses := ⟨trivial, trivial, ⟨rfl, rfl, mv_R_isMap⟩, trivial, trivial, ⟨rfl, ms_R_isBraid⟩, trivial, rfl, trivial, trivial, trivial, rfl, rfl, ⟨rfl, ms_R_in⟩, trivial, rfl, trivial, trivial, trivial, trivial, trivial, ⟨rfl, rfl, mv_R_doesFit⟩, trivial, trivial, trivial, rfl, trivial, trivial⟩
theorem ok_R_refuses : zgood2 mi_R_refuses cd_R_refuses := ⟨oc_R_refuses, ow_R_refuses⟩
def cd_R_shut : List ZE := [(0, .aload_n 0, ([0], 0, 0, []), zi0), (1, .iload_n 1, ([1], 0, 0, []), zi0), (2, .invokevirtual 123, ([8, 4, 16], 0, 0, []), mi_R_isMap), (5, .ifCond .ne 6, ([11], 0, 0, []), zi0), (8, .ldc 88, ([3, 192], (-1000001), 0, []), zi0), (10, .ireturn, ([], 0, 0, []), zi0), (11, .aload_n 0, ([0], 0, 0, []), zi0), (12, .getfield 7, ([8, 0, 3, 126], 0, 0, []), zi0), (15, .iload_n 1, ([1], 0, 0, []), zi0), (16, .iaload, ([], 0, 0, []), zi0), (17, .istore_n 3, ([3], 0, 0, []), zi0), (18, .iload_n 2, ([2], 0, 0, []), zi0), (19, .i2l, ([], 0, 0, []), zi0), (20, .lconst 0, ([], 0, lN 0, []), zi0), (21, .iconst 1, ([], nI 1, 0, []), zi0), (22, .iload_n 3, ([3], 0, 0, []), zi0), (23, .ishl, ([], 0, 0, []), zi0), (24, .iconst 1, ([], nI 1, 0, []), zi0), (25, .isub, ([], 0, 0, []), zi0), (26, .i2l, ([], 0, 0, []), zi0), (27, .invokestatic 64, ([0, 3, 189], 0, 0, []), mi_R_in), (30, .ifCond .ne 6, ([36], 0, 0, []), zi0), (33, .ldc 91, ([3, 194], (-1000002), 0, []), zi0), (35, .ireturn, ([], 0, 0, []), zi0), (36, .iload_n 2, ([2], 0, 0, []), zi0), (37, .istore 4, ([], 0, 0, []), zi0), (39, .iconst 0, ([], nI 0, 0, []), zi0), (40, .istore 5, ([], 0, 0, []), zi0), (42, .iload 5, ([], 0, 0, []), zi0), (44, .iload_n 3, ([3], 0, 0, []), zi0), (45, .if_icmp .ge 99, ([144], 0, 0, []), zi0), (48, .iconst 0, ([], nI 0, 0, []), zi0), (49, .istore 6, ([], 0, 0, []), zi0), (51, .iload 6, ([], 0, 0, []), zi0), (53, .iload_n 3, ([3], 0, 0, []), zi0), (54, .iload_n 3, ([3], 0, 0, []), zi0), (55, .imul, ([], 0, 0, []), zi0), (56, .if_icmp .ge 82, ([138], 0, 0, []), zi0), (59, .iload 4, ([], 0, 0, []), zi0), (61, .iload 6, ([], 0, 0, []), zi0), (63, .iload_n 3, ([3], 0, 0, []), zi0), (64, .idiv, ([], 0, 0, []), zi0), (65, .ishr, ([], 0, 0, []), zi0), (66, .iload 4, ([], 0, 0, []), zi0), (68, .iload 6, ([], 0, 0, []), zi0), (70, .iload_n 3, ([3], 0, 0, []), zi0), (71, .irem, ([], 0, 0, []), zi0), (72, .ishr, ([], 0, 0, []), zi0), (73, .iand, ([], 0, 0, []), zi0), (74, .iconst 1, ([], nI 1, 0, []), zi0), (75, .iand, ([], 0, 0, []), zi0), (76, .iconst 1, ([], nI 1, 0, []), zi0), (77, .if_icmp .ne 7, ([84], 0, 0, []), zi0), (80, .iconst 1, ([], nI 1, 0, []), zi0), (81, .goto 4, ([85], 0, 0, []), zi0), (84, .iconst 0, ([], nI 0, 0, []), zi0), (85, .istore 7, ([], 0, 0, []), zi0), (87, .iload 4, ([], 0, 0, []), zi0), (89, .iload 7, ([], 0, 0, []), zi0), (91, .ifCond .eq 37, ([128], 0, 0, []), zi0), (94, .iconst 1, ([], nI 1, 0, []), zi0), (95, .aload_n 0, ([0], 0, 0, []), zi0), (96, .iload_n 1, ([1], 0, 0, []), zi0), (97, .iload 6, ([], 0, 0, []), zi0), (99, .iload_n 3, ([3], 0, 0, []), zi0), (100, .idiv, ([], 0, 0, []), zi0), (101, .iload 6, ([], 0, 0, []), zi0), (103, .iload_n 3, ([3], 0, 0, []), zi0), (104, .irem, ([], 0, 0, []), zi0), (105, .invokevirtual 129, ([8, 4, 24], 0, 0, []), mi_R_l), (108, .ishl, ([], 0, 0, []), zi0), (109, .iconst 1, ([], nI 1, 0, []), zi0), (110, .aload_n 0, ([0], 0, 0, []), zi0), (111, .iload_n 1, ([1], 0, 0, []), zi0), (112, .iload 6, ([], 0, 0, []), zi0), (114, .iload_n 3, ([3], 0, 0, []), zi0), (115, .idiv, ([], 0, 0, []), zi0), (116, .iload 6, ([], 0, 0, []), zi0), (118, .iload_n 3, ([3], 0, 0, []), zi0), (119, .irem, ([], 0, 0, []), zi0), (120, .invokevirtual 132, ([8, 4, 28], 0, 0, []), mi_R_r), (123, .ishl, ([], 0, 0, []), zi0), (124, .ior, ([], 0, 0, []), zi0), (125, .goto 4, ([129], 0, 0, []), zi0), (128, .iconst 0, ([], nI 0, 0, []), zi0), (129, .ior, ([], 0, 0, []), zi0), (130, .istore 4, ([], 0, 0, []), zi0), (132, .iinc 6 1, ([], nI 1, 0, []), zi0), (135, .goto (-84), ([51], 0, 0, []), zi0), (138, .iinc 5 1, ([], nI 1, 0, []), zi0), (141, .goto (-99), ([42], 0, 0, []), zi0), (144, .iload 4, ([], 0, 0, []), zi0), (146, .ireturn, ([], 0, 0, []), zi0)]
def cu_R_shut : List (Nat × List Nat) := [(42, [0, 1, 3, 4, 5]), (51, [0, 1, 3, 4, 5, 6])]
set_option maxRecDepth 100000 in
theorem oc_R_shut : cd_R_shut.all (zchk mi_R_shut) = true := by decide +kernel
set_option maxRecDepth 100000 in
theorem ow_R_shut : zWs mi_R_shut cd_R_shut := ⟨trivial, trivial, ⟨rfl, rfl, mv_R_isMap⟩, trivial, rfl, trivial, trivial, rfl, trivial, trivial, trivial, trivial, trivial, trivial, trivial, trivial, trivial, trivial, trivial, trivial, ⟨rfl, ms_R_in⟩, trivial, rfl, trivial, trivial, trivial, trivial, trivial, trivial, trivial, trivial, trivial, trivial, trivial, trivial, trivial, trivial, trivial, trivial, trivial, trivial, trivial, trivial, trivial, trivial, trivial, trivial, trivial, trivial, trivial, trivial, trivial, trivial, trivial, trivial, trivial, trivial, trivial, trivial, trivial, trivial, trivial, trivial, trivial, trivial, trivial, trivial, trivial, trivial, ⟨rfl, rfl, mv_R_l⟩, trivial, trivial, trivial, trivial, trivial, trivial, trivial, trivial, trivial, trivial, ⟨rfl, rfl, mv_R_r⟩, trivial, trivial, trivial, trivial, trivial, trivial, trivial, trivial, trivial, trivial, trivial, trivial, trivial⟩
theorem ok_R_shut : zgood2 mi_R_shut cd_R_shut := ⟨oc_R_shut, ow_R_shut⟩
def cd_R_unite : List ZE := [(0, .aload_n 0, ([0], 0, 0, []), zi0), (1, .iload_n 1, ([1], 0, 0, []), zi0), (2, .invokevirtual 123, ([8, 4, 16], 0, 0, []), mi_R_isMap), (5, .ifCond .eq 18, ([23], 0, 0, []), zi0), (8, .aload_n 0, ([0], 0, 0, []), zi0), (9, .iload_n 2, ([2], 0, 0, []), zi0), (10, .invokevirtual 123, ([8, 4, 16], 0, 0, []), mi_R_isMap), (13, .ifCond .eq 10, ([23], 0, 0, []), zi0), (16, .iload_n 3, ([3], 0, 0, []), zi0), (17, .invokestatic 68, ([0, 3, 185], 0, 0, []), mi_R_isPlace), (20, .ifCond .ne 6, ([26], 0, 0, []), zi0), (23, .ldc 88, ([3, 192], (-1000001), 0, []), zi0), (25, .ireturn, ([], 0, 0, []), zi0), (26, .aload_n 0, ([0], 0, 0, []), zi0), (27, .getfield 7, ([8, 0, 3, 126], 0, 0, []), zi0), (30, .iload_n 1, ([1], 0, 0, []), zi0), (31, .iaload, ([], 0, 0, []), zi0), (32, .istore 4, ([], 0, 0, []), zi0), (34, .iload 4, ([], 0, 0, []), zi0), (36, .aload_n 0, ([0], 0, 0, []), zi0), (37, .getfield 7, ([8, 0, 3, 126], 0, 0, []), zi0), (40, .iload_n 2, ([2], 0, 0, []), zi0), (41, .iaload, ([], 0, 0, []), zi0), (42, .iadd, ([], 0, 0, []), zi0), (43, .istore 5, ([], 0, 0, []), zi0), (45, .iload 5, ([], 0, 0, []), zi0), (47, .bipush 6, ([], nI 6, 0, []), zi0), (49, .if_icmp .le 6, ([55], 0, 0, []), zi0), (52, .ldc 145, ([4, 52], (-1000004), 0, []), zi0), (54, .ireturn, ([], 0, 0, []), zi0), (55, .aload_n 0, ([0], 0, 0, []), zi0), (56, .getfield 7, ([8, 0, 3, 126], 0, 0, []), zi0), (59, .iconst 4, ([], nI 4, 0, []), zi0), (60, .iload 5, ([], 0, 0, []), zi0), (62, .iastore, ([], 0, 0, []), zi0), (63, .iconst 0, ([], nI 0, 0, []), zi0), (64, .istore 6, ([], 0, 0, []), zi0), (66, .iload 6, ([], 0, 0, []), zi0), (68, .iload 5, ([], 0, 0, []), zi0), (70, .iload 5, ([], 0, 0, []), zi0), (72, .imul, ([], 0, 0, []), zi0), (73, .if_icmp .ge 142, ([215], 0, 0, []), zi0), (76, .iload 6, ([], 0, 0, []), zi0), (78, .iload 5, ([], 0, 0, []), zi0), (80, .idiv, ([], 0, 0, []), zi0), (81, .istore 7, ([], 0, 0, []), zi0), (83, .iload 6, ([], 0, 0, []), zi0), (85, .iload 5, ([], 0, 0, []), zi0), (87, .irem, ([], 0, 0, []), zi0), (88, .istore 8, ([], 0, 0, []), zi0), (90, .iload 7, ([], 0, 0, []), zi0), (92, .iload 4, ([], 0, 0, []), zi0), (94, .if_icmp .ge 40, ([134], 0, 0, []), zi0), (97, .iload 8, ([], 0, 0, []), zi0), (99, .iload 4, ([], 0, 0, []), zi0), (101, .if_icmp .ge 33, ([134], 0, 0, []), zi0), (104, .aload_n 0, ([0], 0, 0, []), zi0), (105, .iconst 4, ([], nI 4, 0, []), zi0), (106, .iload 7, ([], 0, 0, []), zi0), (108, .iload 8, ([], 0, 0, []), zi0), (110, .aload_n 0, ([0], 0, 0, []), zi0), (111, .iload_n 1, ([1], 0, 0, []), zi0), (112, .iload 7, ([], 0, 0, []), zi0), (114, .iload 8, ([], 0, 0, []), zi0), (116, .invokevirtual 129, ([8, 4, 24], 0, 0, []), mi_R_l), (119, .aload_n 0, ([0], 0, 0, []), zi0), (120, .iload_n 1, ([1], 0, 0, []), zi0), (121, .iload 7, ([], 0, 0, []), zi0), (123, .iload 8, ([], 0, 0, []), zi0), (125, .invokevirtual 132, ([8, 4, 28], 0, 0, []), mi_R_r), (128, .invokevirtual 92, ([8, 3, 195], 0, 0, []), mi_R_lay), (131, .goto 78, ([209], 0, 0, []), zi0), (134, .iload 7, ([], 0, 0, []), zi0), (136, .iload 4, ([], 0, 0, []), zi0), (138, .if_icmp .lt 58, ([196], 0, 0, []), zi0), (141, .iload 8, ([], 0, 0, []), zi0), (143, .iload 4, ([], 0, 0, []), zi0), (145, .if_icmp .lt 51, ([196], 0, 0, []), zi0), (148, .aload_n 0, ([0], 0, 0, []), zi0), (149, .iconst 4, ([], nI 4, 0, []), zi0), (150, .iload 7, ([], 0, 0, []), zi0), (152, .iload 8, ([], 0, 0, []), zi0), (154, .iload 4, ([], 0, 0, []), zi0), (156, .aload_n 0, ([0], 0, 0, []), zi0), (157, .iload_n 2, ([2], 0, 0, []), zi0), (158, .iload 7, ([], 0, 0, []), zi0), (160, .iload 4, ([], 0, 0, []), zi0), (162, .isub, ([], 0, 0, []), zi0), (163, .iload 8, ([], 0, 0, []), zi0), (165, .iload 4, ([], 0, 0, []), zi0), (167, .isub, ([], 0, 0, []), zi0), (168, .invokevirtual 129, ([8, 4, 24], 0, 0, []), mi_R_l), (171, .iadd, ([], 0, 0, []), zi0), (172, .iload 4, ([], 0, 0, []), zi0), (174, .aload_n 0, ([0], 0, 0, []), zi0), (175, .iload_n 2, ([2], 0, 0, []), zi0), (176, .iload 7, ([], 0, 0, []), zi0), (178, .iload 4, ([], 0, 0, []), zi0), (180, .isub, ([], 0, 0, []), zi0), (181, .iload 8, ([], 0, 0, []), zi0), (183, .iload 4, ([], 0, 0, []), zi0), (185, .isub, ([], 0, 0, []), zi0), (186, .invokevirtual 132, ([8, 4, 28], 0, 0, []), mi_R_r), (189, .iadd, ([], 0, 0, []), zi0), (190, .invokevirtual 92, ([8, 3, 195], 0, 0, []), mi_R_lay), (193, .goto 16, ([209], 0, 0, []), zi0), (196, .aload_n 0, ([0], 0, 0, []), zi0), (197, .iconst 4, ([], nI 4, 0, []), zi0), (198, .iload 7, ([], 0, 0, []), zi0), (200, .iload 8, ([], 0, 0, []), zi0), (202, .iload 8, ([], 0, 0, []), zi0), (204, .iload 7, ([], 0, 0, []), zi0), (206, .invokevirtual 92, ([8, 3, 195], 0, 0, []), mi_R_lay), (209, .iinc 6 1, ([], nI 1, 0, []), zi0), (212, .goto (-146), ([66], 0, 0, []), zi0), (215, .aload_n 0, ([0], 0, 0, []), zi0), (216, .iload_n 3, ([3], 0, 0, []), zi0), (217, .invokevirtual 96, ([8, 3, 199], 0, 0, []), mi_R_comes), (220, .ireturn, ([], 0, 0, []), zi0)]
def cu_R_unite : List (Nat × List Nat) := [(66, [0, 1, 2, 3, 4, 5, 6])]
set_option maxRecDepth 100000 in
theorem oc_R_unite : cd_R_unite.all (zchk mi_R_unite) = true := by decide +kernel
set_option maxRecDepth 100000 in
theorem ow_R_unite : zWs mi_R_unite cd_R_unite := ⟨trivial, trivial, ⟨rfl, rfl, mv_R_isMap⟩, trivial, trivial, trivial, ⟨rfl, rfl, mv_R_isMap⟩, trivial, trivial, ⟨rfl, ms_R_isPlace⟩, trivial, rfl, trivial, trivial, rfl, trivial, trivial, trivial, trivial, trivial, rfl, trivial, trivial, trivial, trivial, trivial, trivial, trivial, rfl, trivial, trivial, rfl, trivial, trivial, trivial, trivial, trivial, trivial, trivial, trivial, trivial, trivial, trivial, trivial, trivial, trivial, trivial, trivial, trivial, trivial, trivial, trivial, trivial, trivial, trivial, trivial, trivial, trivial, trivial, trivial, trivial, trivial, trivial, trivial, ⟨rfl, rfl, mv_R_l⟩, trivial, trivial, trivial, trivial, ⟨rfl, rfl, mv_R_r⟩, ⟨rfl, rfl, mv_R_lay⟩, trivial, trivial, trivial, trivial, trivial, trivial, trivial, trivial, trivial, trivial, trivial, trivial, trivial, trivial, trivial, trivial, trivial, trivial, trivial, trivial, ⟨rfl, rfl, mv_R_l⟩, trivial, trivial, trivial, trivial, trivial, trivial, trivial, trivial, trivial, trivial, ⟨rfl, rfl, mv_R_r⟩, trivial, ⟨rfl, rfl, mv_R_lay⟩, trivial, trivial, trivial, trivial, trivial, trivial, trivial, ⟨rfl, rfl, mv_R_lay⟩, trivial, trivial, trivial, trivial, ⟨rfl, rfl, mv_R_comes⟩, trivial, trivial⟩
theorem ok_R_unite : zgood2 mi_R_unite cd_R_unite := ⟨oc_R_unite, ow_R_unite⟩
def cd_R_words : List ZE := [(0, .aload_n 0, ([0], 0, 0, []), zi0), (1, .iload_n 1, ([1], 0, 0, []), zi0), (2, .invokevirtual 123, ([8, 4, 16], 0, 0, []), mi_R_isMap), (5, .ifCond .ne 6, ([11], 0, 0, []), zi0), (8, .ldc 88, ([3, 192], (-1000001), 0, []), zi0), (10, .ireturn, ([], 0, 0, []), zi0), (11, .iload_n 2, ([2], 0, 0, []), zi0), (12, .i2l, ([], 0, 0, []), zi0), (13, .lconst 1, ([], 0, lN 1, []), zi0), (14, .ldc2_w 274, ([5, 14], 0, lN 4, []), zi0), (17, .invokestatic 64, ([0, 3, 189], 0, 0, []), mi_R_in), (20, .ifCond .ne 6, ([26], 0, 0, []), zi0), (23, .ldc 91, ([3, 194], (-1000002), 0, []), zi0), (25, .ireturn, ([], 0, 0, []), zi0), (26, .aload_n 0, ([0], 0, 0, []), zi0), (27, .iload_n 1, ([1], 0, 0, []), zi0), (28, .iload_n 2, ([2], 0, 0, []), zi0), (29, .invokevirtual 276, ([8, 5, 15], 0, 0, []), mi_R_layWords), (32, .iconst 0, ([], nI 0, 0, []), zi0), (33, .istore_n 3, ([3], 0, 0, []), zi0), (34, .iconst 0, ([], nI 0, 0, []), zi0), (35, .istore 4, ([], 0, 0, []), zi0), (37, .iload 4, ([], 0, 0, []), zi0), (39, .aload_n 0, ([0], 0, 0, []), zi0), (40, .getfield 7, ([8, 0, 3, 126], 0, 0, []), zi0), (43, .iload_n 1, ([1], 0, 0, []), zi0), (44, .iaload, ([], 0, 0, []), zi0), (45, .iload_n 2, ([2], 0, 0, []), zi0), (46, .invokestatic 205, ([0, 4, 190], 0, 0, []), mi_R_rowsTo), (49, .if_icmp .ge 29, ([78], 0, 0, []), zi0), (52, .iload_n 3, ([3], 0, 0, []), zi0), (53, .aload_n 0, ([0], 0, 0, []), zi0), (54, .getfield 47, ([8, 13, 3, 139], 0, 0, []), zi0), (57, .iload 4, ([], 0, 0, []), zi0), (59, .iaload, ([], 0, 0, []), zi0), (60, .iload 4, ([], 0, 0, []), zi0), (62, .if_icmp .ne 7, ([69], 0, 0, []), zi0), (65, .iconst 1, ([], nI 1, 0, []), zi0), (66, .goto 4, ([70], 0, 0, []), zi0), (69, .iconst 0, ([], nI 0, 0, []), zi0), (70, .iadd, ([], 0, 0, []), zi0), (71, .istore_n 3, ([3], 0, 0, []), zi0), (72, .iinc 4 1, ([], nI 1, 0, []), zi0), (75, .goto (-38), ([37], 0, 0, []), zi0), (78, .iload_n 3, ([3], 0, 0, []), zi0), (79, .ireturn, ([], 0, 0, []), zi0)]
def cu_R_words : List (Nat × List Nat) := [(37, [0, 1, 2, 3, 4])]
set_option maxRecDepth 100000 in
theorem oc_R_words : cd_R_words.all (zchk mi_R_words) = true := by decide +kernel
set_option maxRecDepth 100000 in
theorem ow_R_words : zWs mi_R_words cd_R_words := ⟨trivial, trivial, ⟨rfl, rfl, mv_R_isMap⟩, trivial, rfl, trivial, trivial, trivial, trivial, rfl, ⟨rfl, ms_R_in⟩, trivial, rfl, trivial, trivial, trivial, trivial, ⟨rfl, rfl, mv_R_layWords⟩, trivial, trivial, trivial, trivial, trivial, trivial, rfl, trivial, trivial, trivial, ⟨rfl, ms_R_rowsTo⟩, trivial, trivial, trivial, rfl, trivial, trivial, trivial, trivial, trivial, trivial, trivial, trivial, trivial, trivial, trivial, trivial, trivial, trivial⟩
theorem ok_R_words : zgood2 mi_R_words cd_R_words := ⟨oc_R_words, ow_R_words⟩
def cd_R_brace : List ZE := [(0, .iload_n 1, ([1], 0, 0, []), zi0), (1, .invokestatic 68, ([0, 3, 185], 0, 0, []), mi_R_isPlace), (4, .ifCond .ne 6, ([10], 0, 0, []), zi0), (7, .ldc 88, ([3, 192], (-1000001), 0, []), zi0), (9, .ireturn, ([], 0, 0, []), zi0), (10, .iload_n 2, ([2], 0, 0, []), zi0), (11, .i2l, ([], 0, 0, []), zi0), (12, .ldc2_w 107, ([3, 227], 0, lN 2, []), zi0), (15, .ldc2_w 89, ([3, 193], 0, lN 6, []), zi0), (18, .invokestatic 64, ([0, 3, 189], 0, 0, []), mi_R_in), (21, .ifCond .eq 11, ([32], 0, 0, []), zi0), (24, .iload_n 3, ([3], 0, 0, []), zi0), (25, .iload_n 2, ([2], 0, 0, []), zi0), (26, .invokestatic 116, ([0, 3, 238], 0, 0, []), mi_R_areUnits), (29, .ifCond .ne 6, ([35], 0, 0, []), zi0), (32, .ldc 91, ([3, 194], (-1000002), 0, []), zi0), (34, .ireturn, ([], 0, 0, []), zi0), (35, .iload_n 3, ([3], 0, 0, []), zi0), (36, .iload_n 2, ([2], 0, 0, []), zi0), (37, .invokestatic 119, ([0, 4, 4], 0, 0, []), mi_R_isBrace), (40, .ifCond .ne 6, ([46], 0, 0, []), zi0), (43, .ldc 122, ([4, 7], (-1000003), 0, []), zi0), (45, .ireturn, ([], 0, 0, []), zi0), (46, .aload_n 0, ([0], 0, 0, []), zi0), (47, .getfield 7, ([8, 0, 3, 126], 0, 0, []), zi0), (50, .iconst 4, ([], nI 4, 0, []), zi0), (51, .iload_n 2, ([2], 0, 0, []), zi0), (52, .iastore, ([], 0, 0, []), zi0), (53, .iconst 0, ([], nI 0, 0, []), zi0), (54, .istore 4, ([], 0, 0, []), zi0), (56, .iload 4, ([], 0, 0, []), zi0), (58, .iload_n 2, ([2], 0, 0, []), zi0), (59, .iload_n 2, ([2], 0, 0, []), zi0), (60, .imul, ([], 0, 0, []), zi0), (61, .if_icmp .ge 88, ([149], 0, 0, []), zi0), (64, .iload 4, ([], 0, 0, []), zi0), (66, .iload_n 2, ([2], 0, 0, []), zi0), (67, .idiv, ([], 0, 0, []), zi0), (68, .istore 5, ([], 0, 0, []), zi0), (70, .iload_n 3, ([3], 0, 0, []), zi0), (71, .iload 5, ([], 0, 0, []), zi0), (73, .invokestatic 80, ([0, 3, 214], 0, 0, []), mi_R_digit), (76, .iload 4, ([], 0, 0, []), zi0), (78, .iload_n 2, ([2], 0, 0, []), zi0), (79, .irem, ([], 0, 0, []), zi0), (80, .imul, ([], 0, 0, []), zi0), (81, .iload_n 2, ([2], 0, 0, []), zi0), (82, .irem, ([], 0, 0, []), zi0), (83, .istore 6, ([], 0, 0, []), zi0), (85, .iconst 0, ([], nI 0, 0, []), zi0), (86, .istore 7, ([], 0, 0, []), zi0), (88, .iconst 0, ([], nI 0, 0, []), zi0), (89, .istore 8, ([], 0, 0, []), zi0), (91, .iload 8, ([], 0, 0, []), zi0), (93, .iload_n 2, ([2], 0, 0, []), zi0), (94, .if_icmp .ge 34, ([128], 0, 0, []), zi0), (97, .iload_n 3, ([3], 0, 0, []), zi0), (98, .iload 6, ([], 0, 0, []), zi0), (100, .invokestatic 80, ([0, 3, 214], 0, 0, []), mi_R_digit), (103, .iload 8, ([], 0, 0, []), zi0), (105, .imul, ([], 0, 0, []), zi0), (106, .iload_n 2, ([2], 0, 0, []), zi0), (107, .irem, ([], 0, 0, []), zi0), (108, .iload 5, ([], 0, 0, []), zi0), (110, .if_icmp .ne 8, ([118], 0, 0, []), zi0), (113, .iload 8, ([], 0, 0, []), zi0), (115, .goto 5, ([120], 0, 0, []), zi0), (118, .iload 7, ([], 0, 0, []), zi0), (120, .istore 7, ([], 0, 0, []), zi0), (122, .iinc 8 1, ([], nI 1, 0, []), zi0), (125, .goto (-34), ([91], 0, 0, []), zi0), (128, .aload_n 0, ([0], 0, 0, []), zi0), (129, .iconst 4, ([], nI 4, 0, []), zi0), (130, .iload 5, ([], 0, 0, []), zi0), (132, .iload 4, ([], 0, 0, []), zi0), (134, .iload_n 2, ([2], 0, 0, []), zi0), (135, .irem, ([], 0, 0, []), zi0), (136, .iload 6, ([], 0, 0, []), zi0), (138, .iload 7, ([], 0, 0, []), zi0), (140, .invokevirtual 92, ([8, 3, 195], 0, 0, []), mi_R_lay), (143, .iinc 4 1, ([], nI 1, 0, []), zi0), (146, .goto (-90), ([56], 0, 0, []), zi0), (149, .aload_n 0, ([0], 0, 0, []), zi0), (150, .iload_n 1, ([1], 0, 0, []), zi0), (151, .invokevirtual 96, ([8, 3, 199], 0, 0, []), mi_R_comes), (154, .ireturn, ([], 0, 0, []), zi0)]
def cu_R_brace : List (Nat × List Nat) := [(56, [0, 1, 2, 3, 4]), (91, [0, 1, 2, 3, 4, 5, 6, 7, 8])]
set_option maxRecDepth 100000 in
theorem oc_R_brace : cd_R_brace.all (zchk mi_R_brace) = true := by decide +kernel
set_option maxRecDepth 100000 in
theorem ow_R_brace : zWs mi_R_brace cd_R_brace := ⟨trivial, ⟨rfl, ms_R_isPlace⟩, trivial, rfl, trivial, trivial, trivial, rfl, rfl, ⟨rfl, ms_R_in⟩, trivial, trivial, trivial, ⟨rfl, ms_R_areUnits⟩, trivial, rfl, trivial, trivial, trivial, ⟨rfl, ms_R_isBrace⟩, trivial, rfl, trivial, trivial, rfl, trivial, trivial, trivial, trivial, trivial, trivial, trivial, trivial, trivial, trivial, trivial, trivial, trivial, trivial, trivial, trivial, ⟨rfl, ms_R_digit⟩, trivial, trivial, trivial, trivial, trivial, trivial, trivial, trivial, trivial, trivial, trivial, trivial, trivial, trivial, trivial, trivial, ⟨rfl, ms_R_digit⟩, trivial, trivial, trivial, trivial, trivial, trivial, trivial, trivial, trivial, trivial, trivial, trivial, trivial, trivial, trivial, trivial, trivial, trivial, trivial, trivial, ⟨rfl, rfl, mv_R_lay⟩, trivial, trivial, trivial, trivial, ⟨rfl, rfl, mv_R_comes⟩, trivial, trivial⟩
theorem ok_R_brace : zgood2 mi_R_brace cd_R_brace := ⟨oc_R_brace, ow_R_brace⟩
def cd_R_braces : List ZE := [(0, .iload_n 1, ([1], 0, 0, []), zi0), (1, .i2l, ([], 0, 0, []), zi0), (2, .ldc2_w 107, ([3, 227], 0, lN 2, []), zi0), (5, .ldc2_w 89, ([3, 193], 0, lN 6, []), zi0), (8, .invokestatic 64, ([0, 3, 189], 0, 0, []), mi_R_in), (11, .ifCond .eq 8, ([19], 0, 0, []), zi0), (14, .iload_n 2, ([2], 0, 0, []), zi0), (15, .iconst (-1), ([], (-1), 0, []), zi0), (16, .if_icmp .ge 6, ([22], 0, 0, []), zi0), (19, .ldc 91, ([3, 194], (-1000002), 0, []), zi0), (21, .ireturn, ([], 0, 0, []), zi0), (22, .iconst 0, ([], nI 0, 0, []), zi0), (23, .istore_n 3, ([3], 0, 0, []), zi0), (24, .iconst (-1), ([], (-1), 0, []), zi0), (25, .istore 4, ([], 0, 0, []), zi0), (27, .iconst 0, ([], nI 0, 0, []), zi0), (28, .istore 5, ([], 0, 0, []), zi0), (30, .iload 5, ([], 0, 0, []), zi0), (32, .iconst 1, ([], nI 1, 0, []), zi0), (33, .iconst 3, ([], nI 3, 0, []), zi0), (34, .iload_n 1, ([1], 0, 0, []), zi0), (35, .imul, ([], 0, 0, []), zi0), (36, .ishl, ([], 0, 0, []), zi0), (37, .if_icmp .ge 35, ([72], 0, 0, []), zi0), (40, .iload 5, ([], 0, 0, []), zi0), (42, .iload_n 1, ([1], 0, 0, []), zi0), (43, .invokestatic 119, ([0, 4, 4], 0, 0, []), mi_R_isBrace), (46, .ifCond .eq 20, ([66], 0, 0, []), zi0), (49, .iload_n 3, ([3], 0, 0, []), zi0), (50, .iload_n 2, ([2], 0, 0, []), zi0), (51, .if_icmp .ne 8, ([59], 0, 0, []), zi0), (54, .iload 5, ([], 0, 0, []), zi0), (56, .goto 5, ([61], 0, 0, []), zi0), (59, .iload 4, ([], 0, 0, []), zi0), (61, .istore 4, ([], 0, 0, []), zi0), (63, .iinc 3 1, ([], nI 1, 0, []), zi0), (66, .iinc 5 1, ([], nI 1, 0, []), zi0), (69, .goto (-39), ([30], 0, 0, []), zi0), (72, .iload_n 2, ([2], 0, 0, []), zi0), (73, .iconst (-1), ([], (-1), 0, []), zi0), (74, .if_icmp .ne 7, ([81], 0, 0, []), zi0), (77, .iload_n 3, ([3], 0, 0, []), zi0), (78, .goto 5, ([83], 0, 0, []), zi0), (81, .iload 4, ([], 0, 0, []), zi0), (83, .ireturn, ([], 0, 0, []), zi0)]
def cu_R_braces : List (Nat × List Nat) := [(30, [1, 2, 3, 4, 5])]
set_option maxRecDepth 100000 in
theorem oc_R_braces : cd_R_braces.all (zchk mi_R_braces) = true := by decide +kernel
set_option maxRecDepth 100000 in
theorem ow_R_braces : zWs mi_R_braces cd_R_braces := ⟨trivial, trivial, rfl, rfl, ⟨rfl, ms_R_in⟩, trivial, trivial, trivial, trivial, rfl, trivial, trivial, trivial, trivial, trivial, trivial, trivial, trivial, trivial, trivial, trivial, trivial, trivial, trivial, trivial, trivial, ⟨rfl, ms_R_isBrace⟩, trivial, trivial, trivial, trivial, trivial, trivial, trivial, trivial, trivial, trivial, trivial, trivial, trivial, trivial, trivial, trivial, trivial, trivial, trivial⟩
theorem ok_R_braces : zgood2 mi_R_braces cd_R_braces := ⟨oc_R_braces, ow_R_braces⟩
def cd_R_fails : List ZE := [(0, .aload_n 0, ([0], 0, 0, []), zi0), (1, .iload_n 1, ([1], 0, 0, []), zi0), (2, .invokevirtual 123, ([8, 4, 16], 0, 0, []), mi_R_isMap), (5, .ifCond .ne 6, ([11], 0, 0, []), zi0), (8, .ldc 88, ([3, 192], (-1000001), 0, []), zi0), (10, .ireturn, ([], 0, 0, []), zi0), (11, .iload_n 2, ([2], 0, 0, []), zi0), (12, .ifCond .ge 6, ([18], 0, 0, []), zi0), (15, .ldc 91, ([3, 194], (-1000002), 0, []), zi0), (17, .ireturn, ([], 0, 0, []), zi0), (18, .aload_n 0, ([0], 0, 0, []), zi0), (19, .getfield 7, ([8, 0, 3, 126], 0, 0, []), zi0), (22, .iload_n 1, ([1], 0, 0, []), zi0), (23, .iaload, ([], 0, 0, []), zi0), (24, .istore_n 3, ([3], 0, 0, []), zi0), (25, .iconst 0, ([], nI 0, 0, []), zi0), (26, .istore 4, ([], 0, 0, []), zi0), (28, .iconst (-1), ([], (-1), 0, []), zi0), (29, .istore 5, ([], 0, 0, []), zi0), (31, .iconst 0, ([], nI 0, 0, []), zi0), (32, .istore 6, ([], 0, 0, []), zi0), (34, .iload 6, ([], 0, 0, []), zi0), (36, .iload_n 3, ([3], 0, 0, []), zi0), (37, .iload_n 3, ([3], 0, 0, []), zi0), (38, .imul, ([], 0, 0, []), zi0), (39, .iload_n 3, ([3], 0, 0, []), zi0), (40, .imul, ([], 0, 0, []), zi0), (41, .if_icmp .ge 59, ([100], 0, 0, []), zi0), (44, .aload_n 0, ([0], 0, 0, []), zi0), (45, .iload_n 1, ([1], 0, 0, []), zi0), (46, .iload 6, ([], 0, 0, []), zi0), (48, .invokevirtual 155, ([8, 4, 89], 0, 0, []), mi_R_failsAt), (51, .ifCond .eq 43, ([94], 0, 0, []), zi0), (54, .iload 4, ([], 0, 0, []), zi0), (56, .iload_n 2, ([2], 0, 0, []), zi0), (57, .if_icmp .ne 30, ([87], 0, 0, []), zi0), (60, .iload 6, ([], 0, 0, []), zi0), (62, .iload_n 3, ([3], 0, 0, []), zi0), (63, .iload_n 3, ([3], 0, 0, []), zi0), (64, .imul, ([], 0, 0, []), zi0), (65, .idiv, ([], 0, 0, []), zi0), (66, .bipush 8, ([], nI 8, 0, []), zi0), (68, .iload 6, ([], 0, 0, []), zi0), (70, .iload_n 3, ([3], 0, 0, []), zi0), (71, .idiv, ([], 0, 0, []), zi0), (72, .iload_n 3, ([3], 0, 0, []), zi0), (73, .irem, ([], 0, 0, []), zi0), (74, .imul, ([], 0, 0, []), zi0), (75, .iadd, ([], 0, 0, []), zi0), (76, .bipush 64, ([], nI 64, 0, []), zi0), (78, .iload 6, ([], 0, 0, []), zi0), (80, .iload_n 3, ([3], 0, 0, []), zi0), (81, .irem, ([], 0, 0, []), zi0), (82, .imul, ([], 0, 0, []), zi0), (83, .iadd, ([], 0, 0, []), zi0), (84, .goto 5, ([89], 0, 0, []), zi0), (87, .iload 5, ([], 0, 0, []), zi0), (89, .istore 5, ([], 0, 0, []), zi0), (91, .iinc 4 1, ([], nI 1, 0, []), zi0), (94, .iinc 6 1, ([], nI 1, 0, []), zi0), (97, .goto (-63), ([34], 0, 0, []), zi0), (100, .iload 5, ([], 0, 0, []), zi0), (102, .ireturn, ([], 0, 0, []), zi0)]
def cu_R_fails : List (Nat × List Nat) := [(34, [0, 1, 2, 3, 4, 5, 6])]
set_option maxRecDepth 100000 in
theorem oc_R_fails : cd_R_fails.all (zchk mi_R_fails) = true := by decide +kernel
set_option maxRecDepth 100000 in
theorem ow_R_fails : zWs mi_R_fails cd_R_fails := ⟨trivial, trivial, ⟨rfl, rfl, mv_R_isMap⟩, trivial, rfl, trivial, trivial, trivial, rfl, trivial, trivial, rfl, trivial, trivial, trivial, trivial, trivial, trivial, trivial, trivial, trivial, trivial, trivial, trivial, trivial, trivial, trivial, trivial, trivial, trivial, trivial, ⟨rfl, rfl, mv_R_failsAt⟩, trivial, trivial, trivial, trivial, trivial, trivial, trivial, trivial, trivial, trivial, trivial, trivial, trivial, trivial, trivial, trivial, trivial, trivial, trivial, trivial, trivial, trivial, trivial, trivial, trivial, trivial, trivial, trivial, trivial, trivial, trivial, trivial⟩
theorem ok_R_fails : zgood2 mi_R_fails cd_R_fails := ⟨oc_R_fails, ow_R_fails⟩
def cd_R_level : List ZE := [(0, .aload_n 0, ([0], 0, 0, []), zi0), (1, .iload_n 1, ([1], 0, 0, []), zi0), (2, .iconst 5, ([], nI 5, 0, []), zi0), (3, .invokevirtual 72, ([8, 3, 203], 0, 0, []), mi_R_copies), (6, .iconst 0, ([], nI 0, 0, []), zi0), (7, .istore_n 2, ([2], 0, 0, []), zi0), (8, .aload_n 0, ([0], 0, 0, []), zi0), (9, .iconst 5, ([], nI 5, 0, []), zi0), (10, .invokevirtual 141, ([8, 4, 36], 0, 0, []), mi_R_makeRetract), (13, .aload_n 0, ([0], 0, 0, []), zi0), (14, .getfield 7, ([8, 0, 3, 126], 0, 0, []), zi0), (17, .iconst 4, ([], nI 4, 0, []), zi0), (18, .iaload, ([], 0, 0, []), zi0), (19, .aload_n 0, ([0], 0, 0, []), zi0), (20, .getfield 7, ([8, 0, 3, 126], 0, 0, []), zi0), (23, .iconst 5, ([], nI 5, 0, []), zi0), (24, .iaload, ([], 0, 0, []), zi0), (25, .if_icmp .ge 20, ([45], 0, 0, []), zi0), (28, .iinc 2 1, ([], nI 1, 0, []), zi0), (31, .aload_n 0, ([0], 0, 0, []), zi0), (32, .iconst 4, ([], nI 4, 0, []), zi0), (33, .iconst 5, ([], nI 5, 0, []), zi0), (34, .invokevirtual 72, ([8, 3, 203], 0, 0, []), mi_R_copies), (37, .aload_n 0, ([0], 0, 0, []), zi0), (38, .iconst 5, ([], nI 5, 0, []), zi0), (39, .invokevirtual 141, ([8, 4, 36], 0, 0, []), mi_R_makeRetract), (42, .goto (-29), ([13], 0, 0, []), zi0), (45, .aload_n 0, ([0], 0, 0, []), zi0), (46, .getfield 7, ([8, 0, 3, 126], 0, 0, []), zi0), (49, .iconst 5, ([], nI 5, 0, []), zi0), (50, .iaload, ([], 0, 0, []), zi0), (51, .iconst 1, ([], nI 1, 0, []), zi0), (52, .if_icmp .ne 7, ([59], 0, 0, []), zi0), (55, .iload_n 2, ([2], 0, 0, []), zi0), (56, .goto 4, ([60], 0, 0, []), zi0), (59, .iconst (-1), ([], (-1), 0, []), zi0), (60, .ireturn, ([], 0, 0, []), zi0)]
def cu_R_level : List (Nat × List Nat) := [(13, [0, 2])]
set_option maxRecDepth 100000 in
theorem oc_R_level : cd_R_level.all (zchk mi_R_level) = true := by decide +kernel
set_option maxRecDepth 100000 in
theorem ow_R_level : zWs mi_R_level cd_R_level := ⟨trivial, trivial, trivial, ⟨rfl, rfl, mv_R_copies⟩, trivial, trivial, trivial, trivial, ⟨rfl, rfl, mv_R_makeRetract⟩, trivial, rfl, trivial, trivial, trivial, rfl, trivial, trivial, trivial, trivial, trivial, trivial, trivial, ⟨rfl, rfl, mv_R_copies⟩, trivial, trivial, ⟨rfl, rfl, mv_R_makeRetract⟩, trivial, trivial, rfl, trivial, trivial, trivial, trivial, trivial, trivial, trivial, trivial, trivial⟩
theorem ok_R_level : zgood2 mi_R_level cd_R_level := ⟨oc_R_level, ow_R_level⟩
def cd_R_manyFail : List ZE := [(0, .aload_n 0, ([0], 0, 0, []), zi0), (1, .getfield 7, ([8, 0, 3, 126], 0, 0, []), zi0), (4, .iload_n 1, ([1], 0, 0, []), zi0), (5, .iaload, ([], 0, 0, []), zi0), (6, .istore_n 2, ([2], 0, 0, []), zi0), (7, .iconst 0, ([], nI 0, 0, []), zi0), (8, .istore_n 3, ([3], 0, 0, []), zi0), (9, .iconst 0, ([], nI 0, 0, []), zi0), (10, .istore 4, ([], 0, 0, []), zi0), (12, .iload 4, ([], 0, 0, []), zi0), (14, .iload_n 2, ([2], 0, 0, []), zi0), (15, .iload_n 2, ([2], 0, 0, []), zi0), (16, .imul, ([], 0, 0, []), zi0), (17, .iload_n 2, ([2], 0, 0, []), zi0), (18, .imul, ([], 0, 0, []), zi0), (19, .if_icmp .ge 27, ([46], 0, 0, []), zi0), (22, .iload_n 3, ([3], 0, 0, []), zi0), (23, .aload_n 0, ([0], 0, 0, []), zi0), (24, .iload_n 1, ([1], 0, 0, []), zi0), (25, .iload 4, ([], 0, 0, []), zi0), (27, .invokevirtual 155, ([8, 4, 89], 0, 0, []), mi_R_failsAt), (30, .ifCond .eq 7, ([37], 0, 0, []), zi0), (33, .iconst 1, ([], nI 1, 0, []), zi0), (34, .goto 4, ([38], 0, 0, []), zi0), (37, .iconst 0, ([], nI 0, 0, []), zi0), (38, .iadd, ([], 0, 0, []), zi0), (39, .istore_n 3, ([3], 0, 0, []), zi0), (40, .iinc 4 1, ([], nI 1, 0, []), zi0), (43, .goto (-31), ([12], 0, 0, []), zi0), (46, .iload_n 3, ([3], 0, 0, []), zi0), (47, .ireturn, ([], 0, 0, []), zi0)]
def cu_R_manyFail : List (Nat × List Nat) := [(12, [0, 1, 2, 3, 4])]
set_option maxRecDepth 100000 in
theorem oc_R_manyFail : cd_R_manyFail.all (zchk mi_R_manyFail) = true := by decide +kernel
set_option maxRecDepth 100000 in
theorem ow_R_manyFail : zWs mi_R_manyFail cd_R_manyFail := ⟨trivial, rfl, trivial, trivial, trivial, trivial, trivial, trivial, trivial, trivial, trivial, trivial, trivial, trivial, trivial, trivial, trivial, trivial, trivial, trivial, ⟨rfl, rfl, mv_R_failsAt⟩, trivial, trivial, trivial, trivial, trivial, trivial, trivial, trivial, trivial, trivial, trivial⟩
theorem ok_R_manyFail : zgood2 mi_R_manyFail cd_R_manyFail := ⟨oc_R_manyFail, ow_R_manyFail⟩
def cd_R_part : List ZE := [(0, .aload_n 0, ([0], 0, 0, []), zi0), (1, .iload_n 1, ([1], 0, 0, []), zi0), (2, .iconst 0, ([], nI 0, 0, []), zi0), (3, .iload_n 2, ([2], 0, 0, []), zi0), (4, .invokevirtual 302, ([8, 5, 58], 0, 0, []), mi_R_refuses), (7, .istore_n 3, ([3], 0, 0, []), zi0), (8, .iload_n 3, ([3], 0, 0, []), zi0), (9, .ldc 88, ([3, 192], (-1000001), 0, []), zi0), (11, .if_icmp .eq 9, ([20], 0, 0, []), zi0), (14, .iload_n 3, ([3], 0, 0, []), zi0), (15, .ldc 91, ([3, 194], (-1000002), 0, []), zi0), (17, .if_icmp .ne 5, ([22], 0, 0, []), zi0), (20, .iload_n 3, ([3], 0, 0, []), zi0), (21, .ireturn, ([], 0, 0, []), zi0), (22, .iload_n 3, ([3], 0, 0, []), zi0), (23, .ldc 122, ([4, 7], (-1000003), 0, []), zi0), (25, .if_icmp .eq 13, ([38], 0, 0, []), zi0), (28, .aload_n 0, ([0], 0, 0, []), zi0), (29, .iload_n 1, ([1], 0, 0, []), zi0), (30, .iconst 1, ([], nI 1, 0, []), zi0), (31, .iload_n 2, ([2], 0, 0, []), zi0), (32, .invokevirtual 299, ([8, 5, 62], 0, 0, []), mi_R_doesFit), (35, .ifCond .ne 6, ([41], 0, 0, []), zi0), (38, .ldc 122, ([4, 7], (-1000003), 0, []), zi0), (40, .ireturn, ([], 0, 0, []), zi0), (41, .aload_n 0, ([0], 0, 0, []), zi0), (42, .getfield 7, ([8, 0, 3, 126], 0, 0, []), zi0), (45, .iload_n 1, ([1], 0, 0, []), zi0), (46, .iaload, ([], 0, 0, []), zi0), (47, .istore 4, ([], 0, 0, []), zi0), (49, .aload_n 0, ([0], 0, 0, []), zi0), (50, .iload_n 1, ([1], 0, 0, []), zi0), (51, .iconst 0, ([], nI 0, 0, []), zi0), (52, .iload_n 2, ([2], 0, 0, []), zi0), (53, .invokevirtual 308, ([8, 5, 78], 0, 0, []), mi_R_laySteps), (56, .iconst 0, ([], nI 0, 0, []), zi0), (57, .istore 5, ([], 0, 0, []), zi0), (59, .iload 5, ([], 0, 0, []), zi0), (61, .iload 4, ([], 0, 0, []), zi0), (63, .iload_n 2, ([2], 0, 0, []), zi0), (64, .invokestatic 205, ([0, 4, 190], 0, 0, []), mi_R_rowsTo), (67, .if_icmp .ge 56, ([123], 0, 0, []), zi0), (70, .aload_n 0, ([0], 0, 0, []), zi0), (71, .iload 5, ([], 0, 0, []), zi0), (73, .iload 4, ([], 0, 0, []), zi0), (75, .iload_n 2, ([2], 0, 0, []), zi0), (76, .invokevirtual 268, ([8, 5, 19], 0, 0, []), mi_R_layTuple), (79, .aload_n 0, ([0], 0, 0, []), zi0), (80, .iload_n 1, ([1], 0, 0, []), zi0), (81, .iconst 1, ([], nI 1, 0, []), zi0), (82, .invokevirtual 305, ([8, 5, 66], 0, 0, []), mi_R_goesThrough), (85, .aload_n 0, ([0], 0, 0, []), zi0), (86, .iload 4, ([], 0, 0, []), zi0), (88, .iload_n 2, ([2], 0, 0, []), zi0), (89, .invokevirtual 271, ([8, 5, 23], 0, 0, []), mi_R_tupleNumber), (92, .aload_n 0, ([0], 0, 0, []), zi0), (93, .getfield 50, ([8, 14, 3, 140], 0, 0, []), zi0), (96, .iload 5, ([], 0, 0, []), zi0), (98, .iaload, ([], 0, 0, []), zi0), (99, .if_icmp .eq 18, ([117], 0, 0, []), zi0), (102, .aload_n 0, ([0], 0, 0, []), zi0), (103, .iload 5, ([], 0, 0, []), zi0), (105, .iload 4, ([], 0, 0, []), zi0), (107, .iload_n 2, ([2], 0, 0, []), zi0), (108, .invokevirtual 268, ([8, 5, 19], 0, 0, []), mi_R_layTuple), (111, .aload_n 0, ([0], 0, 0, []), zi0), (112, .iload_n 2, ([2], 0, 0, []), zi0), (113, .invokevirtual 282, ([8, 5, 35], 0, 0, []), mi_R_tupleCode), (116, .ireturn, ([], 0, 0, []), zi0), (117, .iinc 5 1, ([], nI 1, 0, []), zi0), (120, .goto (-61), ([59], 0, 0, []), zi0), (123, .iconst (-1), ([], (-1), 0, []), zi0), (124, .ireturn, ([], 0, 0, []), zi0)]
def cu_R_part : List (Nat × List Nat) := [(59, [0, 1, 2, 4, 5])]
set_option maxRecDepth 100000 in
theorem oc_R_part : cd_R_part.all (zchk mi_R_part) = true := by decide +kernel
set_option maxRecDepth 100000 in
theorem ow_R_part : zWs mi_R_part cd_R_part := ⟨trivial, trivial, trivial, trivial, ⟨rfl, rfl, mv_R_refuses⟩, trivial, trivial, rfl, trivial, trivial, rfl, trivial, trivial, trivial, trivial, rfl, trivial, trivial, trivial, trivial, trivial, ⟨rfl, rfl, mv_R_doesFit⟩, trivial, rfl, trivial, trivial, rfl, trivial, trivial, trivial, trivial, trivial, trivial, trivial, ⟨rfl, rfl, mv_R_laySteps⟩, trivial, trivial, trivial, trivial, trivial, ⟨rfl, ms_R_rowsTo⟩, trivial, trivial, trivial, trivial, trivial, ⟨rfl, rfl, mv_R_layTuple⟩, trivial, trivial, trivial, ⟨rfl, rfl, mv_R_goesThrough⟩, trivial, trivial, trivial, ⟨rfl, rfl, mv_R_tupleNumber⟩, trivial, rfl, trivial, trivial, trivial, trivial, trivial, trivial, trivial, ⟨rfl, rfl, mv_R_layTuple⟩, trivial, trivial, ⟨rfl, rfl, mv_R_tupleCode⟩, trivial, trivial, trivial, trivial, trivial, trivial⟩
theorem ok_R_part : zgood2 mi_R_part cd_R_part := ⟨oc_R_part, ow_R_part⟩
def cd_R_rename : List ZE := [(0, .aload_n 0, ([0], 0, 0, []), zi0), (1, .iload_n 1, ([1], 0, 0, []), zi0), (2, .invokevirtual 123, ([8, 4, 16], 0, 0, []), mi_R_isMap), (5, .ifCond .eq 10, ([15], 0, 0, []), zi0), (8, .iload_n 3, ([3], 0, 0, []), zi0), (9, .invokestatic 68, ([0, 3, 185], 0, 0, []), mi_R_isPlace), (12, .ifCond .ne 6, ([18], 0, 0, []), zi0), (15, .ldc 88, ([3, 192], (-1000001), 0, []), zi0), (17, .ireturn, ([], 0, 0, []), zi0), (18, .aload_n 0, ([0], 0, 0, []), zi0), (19, .getfield 7, ([8, 0, 3, 126], 0, 0, []), zi0), (22, .iload_n 1, ([1], 0, 0, []), zi0), (23, .iaload, ([], 0, 0, []), zi0), (24, .istore 4, ([], 0, 0, []), zi0), (26, .iload_n 2, ([2], 0, 0, []), zi0), (27, .iload 4, ([], 0, 0, []), zi0), (29, .invokestatic 100, ([0, 3, 211], 0, 0, []), mi_R_isPermutation), (32, .ifCond .ne 6, ([38], 0, 0, []), zi0), (35, .ldc 91, ([3, 194], (-1000002), 0, []), zi0), (37, .ireturn, ([], 0, 0, []), zi0), (38, .aload_n 0, ([0], 0, 0, []), zi0), (39, .getfield 7, ([8, 0, 3, 126], 0, 0, []), zi0), (42, .iconst 4, ([], nI 4, 0, []), zi0), (43, .iload 4, ([], 0, 0, []), zi0), (45, .iastore, ([], 0, 0, []), zi0), (46, .iconst 0, ([], nI 0, 0, []), zi0), (47, .istore 5, ([], 0, 0, []), zi0), (49, .iload 5, ([], 0, 0, []), zi0), (51, .iload 4, ([], 0, 0, []), zi0), (53, .iload 4, ([], 0, 0, []), zi0), (55, .imul, ([], 0, 0, []), zi0), (56, .if_icmp .ge 66, ([122], 0, 0, []), zi0), (59, .iload 5, ([], 0, 0, []), zi0), (61, .iload 4, ([], 0, 0, []), zi0), (63, .idiv, ([], 0, 0, []), zi0), (64, .istore 6, ([], 0, 0, []), zi0), (66, .iload 5, ([], 0, 0, []), zi0), (68, .iload 4, ([], 0, 0, []), zi0), (70, .irem, ([], 0, 0, []), zi0), (71, .istore 7, ([], 0, 0, []), zi0), (73, .aload_n 0, ([0], 0, 0, []), zi0), (74, .iconst 4, ([], nI 4, 0, []), zi0), (75, .iload_n 2, ([2], 0, 0, []), zi0), (76, .iload 6, ([], 0, 0, []), zi0), (78, .invokestatic 80, ([0, 3, 214], 0, 0, []), mi_R_digit), (81, .iload_n 2, ([2], 0, 0, []), zi0), (82, .iload 7, ([], 0, 0, []), zi0), (84, .invokestatic 80, ([0, 3, 214], 0, 0, []), mi_R_digit), (87, .iload_n 2, ([2], 0, 0, []), zi0), (88, .aload_n 0, ([0], 0, 0, []), zi0), (89, .iload_n 1, ([1], 0, 0, []), zi0), (90, .iload 6, ([], 0, 0, []), zi0), (92, .iload 7, ([], 0, 0, []), zi0), (94, .invokevirtual 129, ([8, 4, 24], 0, 0, []), mi_R_l), (97, .invokestatic 80, ([0, 3, 214], 0, 0, []), mi_R_digit), (100, .iload_n 2, ([2], 0, 0, []), zi0), (101, .aload_n 0, ([0], 0, 0, []), zi0), (102, .iload_n 1, ([1], 0, 0, []), zi0), (103, .iload 6, ([], 0, 0, []), zi0), (105, .iload 7, ([], 0, 0, []), zi0), (107, .invokevirtual 132, ([8, 4, 28], 0, 0, []), mi_R_r), (110, .invokestatic 80, ([0, 3, 214], 0, 0, []), mi_R_digit), (113, .invokevirtual 92, ([8, 3, 195], 0, 0, []), mi_R_lay), (116, .iinc 5 1, ([], nI 1, 0, []), zi0), (119, .goto (-70), ([49], 0, 0, []), zi0), (122, .aload_n 0, ([0], 0, 0, []), zi0), (123, .iload_n 3, ([3], 0, 0, []), zi0), (124, .invokevirtual 96, ([8, 3, 199], 0, 0, []), mi_R_comes), (127, .ireturn, ([], 0, 0, []), zi0)]
def cu_R_rename : List (Nat × List Nat) := [(49, [0, 1, 2, 3, 4, 5])]
set_option maxRecDepth 100000 in
theorem oc_R_rename : cd_R_rename.all (zchk mi_R_rename) = true := by decide +kernel
set_option maxRecDepth 100000 in
theorem ow_R_rename : zWs mi_R_rename cd_R_rename := ⟨trivial, trivial, ⟨rfl, rfl, mv_R_isMap⟩, trivial, trivial, ⟨rfl, ms_R_isPlace⟩, trivial, rfl, trivial, trivial, rfl, trivial, trivial, trivial, trivial, trivial, ⟨rfl, ms_R_isPermutation⟩, trivial, rfl, trivial, trivial, rfl, trivial, trivial, trivial, trivial, trivial, trivial, trivial, trivial, trivial, trivial, trivial, trivial, trivial, trivial, trivial, trivial, trivial, trivial, trivial, trivial, trivial, trivial, ⟨rfl, ms_R_digit⟩, trivial, trivial, ⟨rfl, ms_R_digit⟩, trivial, trivial, trivial, trivial, trivial, ⟨rfl, rfl, mv_R_l⟩, ⟨rfl, ms_R_digit⟩, trivial, trivial, trivial, trivial, trivial, ⟨rfl, rfl, mv_R_r⟩, ⟨rfl, ms_R_digit⟩, ⟨rfl, rfl, mv_R_lay⟩, trivial, trivial, trivial, trivial, ⟨rfl, rfl, mv_R_comes⟩, trivial, trivial⟩
theorem ok_R_rename : zgood2 mi_R_rename cd_R_rename := ⟨oc_R_rename, ow_R_rename⟩
def cd_R_retract : List ZE := [(0, .aload_n 0, ([0], 0, 0, []), zi0), (1, .iload_n 1, ([1], 0, 0, []), zi0), (2, .invokevirtual 123, ([8, 4, 16], 0, 0, []), mi_R_isMap), (5, .ifCond .eq 10, ([15], 0, 0, []), zi0), (8, .iload_n 2, ([2], 0, 0, []), zi0), (9, .invokestatic 68, ([0, 3, 185], 0, 0, []), mi_R_isPlace), (12, .ifCond .ne 6, ([18], 0, 0, []), zi0), (15, .ldc 88, ([3, 192], (-1000001), 0, []), zi0), (17, .ireturn, ([], 0, 0, []), zi0), (18, .aload_n 0, ([0], 0, 0, []), zi0), (19, .iload_n 1, ([1], 0, 0, []), zi0), (20, .invokevirtual 141, ([8, 4, 36], 0, 0, []), mi_R_makeRetract), (23, .aload_n 0, ([0], 0, 0, []), zi0), (24, .iload_n 2, ([2], 0, 0, []), zi0), (25, .invokevirtual 96, ([8, 3, 199], 0, 0, []), mi_R_comes), (28, .ireturn, ([], 0, 0, []), zi0)]
def cu_R_retract : List (Nat × List Nat) := []
set_option maxRecDepth 100000 in
theorem oc_R_retract : cd_R_retract.all (zchk mi_R_retract) = true := by decide +kernel
set_option maxRecDepth 100000 in
theorem ow_R_retract : zWs mi_R_retract cd_R_retract := ⟨trivial, trivial, ⟨rfl, rfl, mv_R_isMap⟩, trivial, trivial, ⟨rfl, ms_R_isPlace⟩, trivial, rfl, trivial, trivial, trivial, ⟨rfl, rfl, mv_R_makeRetract⟩, trivial, trivial, ⟨rfl, rfl, mv_R_comes⟩, trivial, trivial⟩
theorem ok_R_retract : zgood2 mi_R_retract cd_R_retract := ⟨oc_R_retract, ow_R_retract⟩
def cd_R_rounds : List ZE := [(0, .aload_n 0, ([0], 0, 0, []), zi0), (1, .iload_n 1, ([1], 0, 0, []), zi0), (2, .iload_n 2, ([2], 0, 0, []), zi0), (3, .iload_n 3, ([3], 0, 0, []), zi0), (4, .invokevirtual 302, ([8, 5, 58], 0, 0, []), mi_R_refuses), (7, .istore 4, ([], 0, 0, []), zi0), (9, .iload 4, ([], 0, 0, []), zi0), (11, .ifCond .eq 6, ([17], 0, 0, []), zi0), (14, .iload 4, ([], 0, 0, []), zi0), (16, .ireturn, ([], 0, 0, []), zi0), (17, .aload_n 0, ([0], 0, 0, []), zi0), (18, .iload_n 1, ([1], 0, 0, []), zi0), (19, .iload_n 2, ([2], 0, 0, []), zi0), (20, .iload_n 3, ([3], 0, 0, []), zi0), (21, .invokevirtual 308, ([8, 5, 78], 0, 0, []), mi_R_laySteps), (24, .aload_n 0, ([0], 0, 0, []), zi0), (25, .getfield 7, ([8, 0, 3, 126], 0, 0, []), zi0), (28, .iload_n 1, ([1], 0, 0, []), zi0), (29, .iaload, ([], 0, 0, []), zi0), (30, .iload_n 3, ([3], 0, 0, []), zi0), (31, .invokestatic 205, ([0, 4, 190], 0, 0, []), mi_R_rowsTo), (34, .istore 5, ([], 0, 0, []), zi0), (36, .iconst 0, ([], nI 0, 0, []), zi0), (37, .istore 6, ([], 0, 0, []), zi0), (39, .iload 6, ([], 0, 0, []), zi0), (41, .iload 5, ([], 0, 0, []), zi0), (43, .if_icmp .ge 18, ([61], 0, 0, []), zi0), (46, .aload_n 0, ([0], 0, 0, []), zi0), (47, .getfield 53, ([8, 15, 3, 141], 0, 0, []), zi0), (50, .iload 6, ([], 0, 0, []), zi0), (52, .iload 6, ([], 0, 0, []), zi0), (54, .iastore, ([], 0, 0, []), zi0), (55, .iinc 6 1, ([], nI 1, 0, []), zi0), (58, .goto (-19), ([39], 0, 0, []), zi0), (61, .iconst 1, ([], nI 1, 0, []), zi0), (62, .istore 6, ([], 0, 0, []), zi0), (64, .iload 6, ([], 0, 0, []), zi0), (66, .bipush 60, ([], nI 60, 0, []), zi0), (68, .if_icmp .gt 79, ([147], 0, 0, []), zi0), (71, .iconst 1, ([], nI 1, 0, []), zi0), (72, .istore 7, ([], 0, 0, []), zi0), (74, .iconst 0, ([], nI 0, 0, []), zi0), (75, .istore 8, ([], 0, 0, []), zi0), (77, .iload 8, ([], 0, 0, []), zi0), (79, .iload 5, ([], 0, 0, []), zi0), (81, .if_icmp .ge 52, ([133], 0, 0, []), zi0), (84, .aload_n 0, ([0], 0, 0, []), zi0), (85, .getfield 53, ([8, 15, 3, 141], 0, 0, []), zi0), (88, .iload 8, ([], 0, 0, []), zi0), (90, .aload_n 0, ([0], 0, 0, []), zi0), (91, .getfield 50, ([8, 14, 3, 140], 0, 0, []), zi0), (94, .aload_n 0, ([0], 0, 0, []), zi0), (95, .getfield 53, ([8, 15, 3, 141], 0, 0, []), zi0), (98, .iload 8, ([], 0, 0, []), zi0), (100, .iaload, ([], 0, 0, []), zi0), (101, .iaload, ([], 0, 0, []), zi0), (102, .iastore, ([], 0, 0, []), zi0), (103, .iload 7, ([], 0, 0, []), zi0), (105, .ifCond .eq 19, ([124], 0, 0, []), zi0), (108, .aload_n 0, ([0], 0, 0, []), zi0), (109, .getfield 53, ([8, 15, 3, 141], 0, 0, []), zi0), (112, .iload 8, ([], 0, 0, []), zi0), (114, .iaload, ([], 0, 0, []), zi0), (115, .iload 8, ([], 0, 0, []), zi0), (117, .if_icmp .ne 7, ([124], 0, 0, []), zi0), (120, .iconst 1, ([], nI 1, 0, []), zi0), (121, .goto 4, ([125], 0, 0, []), zi0), (124, .iconst 0, ([], nI 0, 0, []), zi0), (125, .istore 7, ([], 0, 0, []), zi0), (127, .iinc 8 1, ([], nI 1, 0, []), zi0), (130, .goto (-53), ([77], 0, 0, []), zi0), (133, .iload 7, ([], 0, 0, []), zi0), (135, .ifCond .eq 6, ([141], 0, 0, []), zi0), (138, .iload 6, ([], 0, 0, []), zi0), (140, .ireturn, ([], 0, 0, []), zi0), (141, .iinc 6 1, ([], nI 1, 0, []), zi0), (144, .goto (-80), ([64], 0, 0, []), zi0), (147, .iconst (-1), ([], (-1), 0, []), zi0), (148, .ireturn, ([], 0, 0, []), zi0)]
def cu_R_rounds : List (Nat × List Nat) := [(39, [0, 5, 6]), (64, [0, 5, 6]), (77, [0, 5, 6, 7, 8])]
set_option maxRecDepth 100000 in
theorem oc_R_rounds : cd_R_rounds.all (zchk mi_R_rounds) = true := by decide +kernel
set_option maxRecDepth 100000 in
theorem ow_R_rounds : zWs mi_R_rounds cd_R_rounds := ⟨trivial, trivial, trivial, trivial, ⟨rfl, rfl, mv_R_refuses⟩, trivial, trivial, trivial, trivial, trivial, trivial, trivial, trivial, trivial, ⟨rfl, rfl, mv_R_laySteps⟩, trivial, rfl, trivial, trivial, trivial, ⟨rfl, ms_R_rowsTo⟩, trivial, trivial, trivial, trivial, trivial, trivial, trivial, rfl, trivial, trivial, trivial, trivial, trivial, trivial, trivial, trivial, trivial, trivial, trivial, trivial, trivial, trivial, trivial, trivial, trivial, trivial, rfl, trivial, trivial, rfl, trivial, rfl, trivial, trivial, trivial, trivial, trivial, trivial, trivial, rfl, trivial, trivial, trivial, trivial, trivial, trivial, trivial, trivial, trivial, trivial, trivial, trivial, trivial, trivial, trivial, trivial, trivial, trivial, trivial⟩
theorem ok_R_rounds : zgood2 mi_R_rounds cd_R_rounds := ⟨oc_R_rounds, ow_R_rounds⟩
def cd_R_stays : List ZE := [(0, .aload_n 0, ([0], 0, 0, []), zi0), (1, .iload_n 1, ([1], 0, 0, []), zi0), (2, .iload_n 2, ([2], 0, 0, []), zi0), (3, .iload_n 3, ([3], 0, 0, []), zi0), (4, .invokevirtual 302, ([8, 5, 58], 0, 0, []), mi_R_refuses), (7, .istore 4, ([], 0, 0, []), zi0), (9, .iload 4, ([], 0, 0, []), zi0), (11, .ifCond .eq 6, ([17], 0, 0, []), zi0), (14, .iload 4, ([], 0, 0, []), zi0), (16, .ireturn, ([], 0, 0, []), zi0), (17, .aload_n 0, ([0], 0, 0, []), zi0), (18, .iload_n 1, ([1], 0, 0, []), zi0), (19, .iload_n 2, ([2], 0, 0, []), zi0), (20, .iload_n 3, ([3], 0, 0, []), zi0), (21, .invokevirtual 308, ([8, 5, 78], 0, 0, []), mi_R_laySteps), (24, .iconst 0, ([], nI 0, 0, []), zi0), (25, .istore 5, ([], 0, 0, []), zi0), (27, .iconst 0, ([], nI 0, 0, []), zi0), (28, .istore 6, ([], 0, 0, []), zi0), (30, .iload 6, ([], 0, 0, []), zi0), (32, .aload_n 0, ([0], 0, 0, []), zi0), (33, .getfield 7, ([8, 0, 3, 126], 0, 0, []), zi0), (36, .iload_n 1, ([1], 0, 0, []), zi0), (37, .iaload, ([], 0, 0, []), zi0), (38, .iload_n 3, ([3], 0, 0, []), zi0), (39, .invokestatic 205, ([0, 4, 190], 0, 0, []), mi_R_rowsTo), (42, .if_icmp .ge 31, ([73], 0, 0, []), zi0), (45, .iload 5, ([], 0, 0, []), zi0), (47, .aload_n 0, ([0], 0, 0, []), zi0), (48, .getfield 50, ([8, 14, 3, 140], 0, 0, []), zi0), (51, .iload 6, ([], 0, 0, []), zi0), (53, .iaload, ([], 0, 0, []), zi0), (54, .iload 6, ([], 0, 0, []), zi0), (56, .if_icmp .ne 7, ([63], 0, 0, []), zi0), (59, .iconst 1, ([], nI 1, 0, []), zi0), (60, .goto 4, ([64], 0, 0, []), zi0), (63, .iconst 0, ([], nI 0, 0, []), zi0), (64, .iadd, ([], 0, 0, []), zi0), (65, .istore 5, ([], 0, 0, []), zi0), (67, .iinc 6 1, ([], nI 1, 0, []), zi0), (70, .goto (-40), ([30], 0, 0, []), zi0), (73, .iload 5, ([], 0, 0, []), zi0), (75, .ireturn, ([], 0, 0, []), zi0)]
def cu_R_stays : List (Nat × List Nat) := [(30, [0, 1, 3, 5, 6])]
set_option maxRecDepth 100000 in
theorem oc_R_stays : cd_R_stays.all (zchk mi_R_stays) = true := by decide +kernel
set_option maxRecDepth 100000 in
theorem ow_R_stays : zWs mi_R_stays cd_R_stays := ⟨trivial, trivial, trivial, trivial, ⟨rfl, rfl, mv_R_refuses⟩, trivial, trivial, trivial, trivial, trivial, trivial, trivial, trivial, trivial, ⟨rfl, rfl, mv_R_laySteps⟩, trivial, trivial, trivial, trivial, trivial, trivial, rfl, trivial, trivial, trivial, ⟨rfl, ms_R_rowsTo⟩, trivial, trivial, trivial, rfl, trivial, trivial, trivial, trivial, trivial, trivial, trivial, trivial, trivial, trivial, trivial, trivial, trivial, trivial⟩
theorem ok_R_stays : zgood2 mi_R_stays cd_R_stays := ⟨oc_R_stays, ow_R_stays⟩
def cd_R_through : List ZE := [(0, .aload_n 0, ([0], 0, 0, []), zi0), (1, .iload_n 1, ([1], 0, 0, []), zi0), (2, .iload_n 2, ([2], 0, 0, []), zi0), (3, .iload_n 3, ([3], 0, 0, []), zi0), (4, .invokevirtual 302, ([8, 5, 58], 0, 0, []), mi_R_refuses), (7, .istore 5, ([], 0, 0, []), zi0), (9, .iload 5, ([], 0, 0, []), zi0), (11, .ldc 88, ([3, 192], (-1000001), 0, []), zi0), (13, .if_icmp .eq 10, ([23], 0, 0, []), zi0), (16, .iload 5, ([], 0, 0, []), zi0), (18, .ldc 91, ([3, 194], (-1000002), 0, []), zi0), (20, .if_icmp .ne 6, ([26], 0, 0, []), zi0), (23, .iload 5, ([], 0, 0, []), zi0), (25, .ireturn, ([], 0, 0, []), zi0), (26, .iload 4, ([], 0, 0, []), zi0), (28, .iload_n 3, ([3], 0, 0, []), zi0), (29, .aload_n 0, ([0], 0, 0, []), zi0), (30, .getfield 7, ([8, 0, 3, 126], 0, 0, []), zi0), (33, .iload_n 1, ([1], 0, 0, []), zi0), (34, .iaload, ([], 0, 0, []), zi0), (35, .invokestatic 84, ([0, 3, 217], 0, 0, []), mi_R_arePoints), (38, .ifCond .ne 6, ([44], 0, 0, []), zi0), (41, .ldc 91, ([3, 194], (-1000002), 0, []), zi0), (43, .ireturn, ([], 0, 0, []), zi0), (44, .iload 5, ([], 0, 0, []), zi0), (46, .ldc 122, ([4, 7], (-1000003), 0, []), zi0), (48, .if_icmp .ne 6, ([54], 0, 0, []), zi0), (51, .ldc 122, ([4, 7], (-1000003), 0, []), zi0), (53, .ireturn, ([], 0, 0, []), zi0), (54, .aload_n 0, ([0], 0, 0, []), zi0), (55, .iload 4, ([], 0, 0, []), zi0), (57, .iload_n 3, ([3], 0, 0, []), zi0), (58, .invokevirtual 279, ([8, 5, 31], 0, 0, []), mi_R_layCode), (61, .aload_n 0, ([0], 0, 0, []), zi0), (62, .iload_n 1, ([1], 0, 0, []), zi0), (63, .iload_n 2, ([2], 0, 0, []), zi0), (64, .invokevirtual 305, ([8, 5, 66], 0, 0, []), mi_R_goesThrough), (67, .aload_n 0, ([0], 0, 0, []), zi0), (68, .iload_n 3, ([3], 0, 0, []), zi0), (69, .invokevirtual 282, ([8, 5, 35], 0, 0, []), mi_R_tupleCode), (72, .ireturn, ([], 0, 0, []), zi0)]
def cu_R_through : List (Nat × List Nat) := []
set_option maxRecDepth 100000 in
theorem oc_R_through : cd_R_through.all (zchk mi_R_through) = true := by decide +kernel
set_option maxRecDepth 100000 in
theorem ow_R_through : zWs mi_R_through cd_R_through := ⟨trivial, trivial, trivial, trivial, ⟨rfl, rfl, mv_R_refuses⟩, trivial, trivial, rfl, trivial, trivial, rfl, trivial, trivial, trivial, trivial, trivial, trivial, rfl, trivial, trivial, ⟨rfl, ms_R_arePoints⟩, trivial, rfl, trivial, trivial, rfl, trivial, rfl, trivial, trivial, trivial, trivial, ⟨rfl, rfl, mv_R_layCode⟩, trivial, trivial, trivial, ⟨rfl, rfl, mv_R_goesThrough⟩, trivial, trivial, ⟨rfl, rfl, mv_R_tupleCode⟩, trivial, trivial⟩
theorem ok_R_through : zgood2 mi_R_through cd_R_through := ⟨oc_R_through, ow_R_through⟩
def cd_R_twist : List ZE := [(0, .iload_n 1, ([1], 0, 0, []), zi0), (1, .invokestatic 68, ([0, 3, 185], 0, 0, []), mi_R_isPlace), (4, .ifCond .ne 6, ([10], 0, 0, []), zi0), (7, .ldc 88, ([3, 192], (-1000001), 0, []), zi0), (9, .ireturn, ([], 0, 0, []), zi0), (10, .iload_n 2, ([2], 0, 0, []), zi0), (11, .i2l, ([], 0, 0, []), zi0), (12, .lconst 1, ([], 0, lN 1, []), zi0), (13, .ldc2_w 89, ([3, 193], 0, lN 6, []), zi0), (16, .invokestatic 64, ([0, 3, 189], 0, 0, []), mi_R_in), (19, .ifCond .eq 20, ([39], 0, 0, []), zi0), (22, .iload_n 3, ([3], 0, 0, []), zi0), (23, .iload_n 2, ([2], 0, 0, []), zi0), (24, .invokestatic 100, ([0, 3, 211], 0, 0, []), mi_R_isPermutation), (27, .ifCond .eq 12, ([39], 0, 0, []), zi0), (30, .iload 4, ([], 0, 0, []), zi0), (32, .iload_n 2, ([2], 0, 0, []), zi0), (33, .invokestatic 100, ([0, 3, 211], 0, 0, []), mi_R_isPermutation), (36, .ifCond .ne 6, ([42], 0, 0, []), zi0), (39, .ldc 91, ([3, 194], (-1000002), 0, []), zi0), (41, .ireturn, ([], 0, 0, []), zi0), (42, .aload_n 0, ([0], 0, 0, []), zi0), (43, .getfield 7, ([8, 0, 3, 126], 0, 0, []), zi0), (46, .iconst 4, ([], nI 4, 0, []), zi0), (47, .iload_n 2, ([2], 0, 0, []), zi0), (48, .iastore, ([], 0, 0, []), zi0), (49, .iconst 0, ([], nI 0, 0, []), zi0), (50, .istore 5, ([], 0, 0, []), zi0), (52, .iload 5, ([], 0, 0, []), zi0), (54, .iload_n 2, ([2], 0, 0, []), zi0), (55, .iload_n 2, ([2], 0, 0, []), zi0), (56, .imul, ([], 0, 0, []), zi0), (57, .if_icmp .ge 39, ([96], 0, 0, []), zi0), (60, .aload_n 0, ([0], 0, 0, []), zi0), (61, .iconst 4, ([], nI 4, 0, []), zi0), (62, .iload 5, ([], 0, 0, []), zi0), (64, .iload_n 2, ([2], 0, 0, []), zi0), (65, .idiv, ([], 0, 0, []), zi0), (66, .iload 5, ([], 0, 0, []), zi0), (68, .iload_n 2, ([2], 0, 0, []), zi0), (69, .irem, ([], 0, 0, []), zi0), (70, .iload_n 3, ([3], 0, 0, []), zi0), (71, .iload 5, ([], 0, 0, []), zi0), (73, .iload_n 2, ([2], 0, 0, []), zi0), (74, .irem, ([], 0, 0, []), zi0), (75, .invokestatic 80, ([0, 3, 214], 0, 0, []), mi_R_digit), (78, .iload 4, ([], 0, 0, []), zi0), (80, .iload 5, ([], 0, 0, []), zi0), (82, .iload_n 2, ([2], 0, 0, []), zi0), (83, .idiv, ([], 0, 0, []), zi0), (84, .invokestatic 80, ([0, 3, 214], 0, 0, []), mi_R_digit), (87, .invokevirtual 92, ([8, 3, 195], 0, 0, []), mi_R_lay), (90, .iinc 5 1, ([], nI 1, 0, []), zi0), (93, .goto (-41), ([52], 0, 0, []), zi0), (96, .aload_n 0, ([0], 0, 0, []), zi0), (97, .iload_n 1, ([1], 0, 0, []), zi0), (98, .invokevirtual 96, ([8, 3, 199], 0, 0, []), mi_R_comes), (101, .ireturn, ([], 0, 0, []), zi0)]
def cu_R_twist : List (Nat × List Nat) := [(52, [0, 1, 2, 3, 4, 5])]
set_option maxRecDepth 100000 in
theorem oc_R_twist : cd_R_twist.all (zchk mi_R_twist) = true := by decide +kernel
set_option maxRecDepth 100000 in
theorem ow_R_twist : zWs mi_R_twist cd_R_twist := ⟨trivial, ⟨rfl, ms_R_isPlace⟩, trivial, rfl, trivial, trivial, trivial, trivial, rfl, ⟨rfl, ms_R_in⟩, trivial, trivial, trivial, ⟨rfl, ms_R_isPermutation⟩, trivial, trivial, trivial, ⟨rfl, ms_R_isPermutation⟩, trivial, rfl, trivial, trivial, rfl, trivial, trivial, trivial, trivial, trivial, trivial, trivial, trivial, trivial, trivial, trivial, trivial, trivial, trivial, trivial, trivial, trivial, trivial, trivial, trivial, trivial, trivial, ⟨rfl, ms_R_digit⟩, trivial, trivial, trivial, trivial, ⟨rfl, ms_R_digit⟩, ⟨rfl, rfl, mv_R_lay⟩, trivial, trivial, trivial, trivial, ⟨rfl, rfl, mv_R_comes⟩, trivial, trivial⟩
theorem ok_R_twist : zgood2 mi_R_twist cd_R_twist := ⟨oc_R_twist, ow_R_twist⟩
def cd_R_layList : List ZE := [(0, .aload_n 0, ([0], 0, 0, []), zi0), (1, .getfield 41, ([8, 11, 3, 137], 0, 0, []), zi0), (4, .iload_n 1, ([1], 0, 0, []), zi0), (5, .iaload, ([], 0, 0, []), zi0), (6, .ifCond .lt 10, ([16], 0, 0, []), zi0), (9, .aload_n 0, ([0], 0, 0, []), zi0), (10, .getfield 41, ([8, 11, 3, 137], 0, 0, []), zi0), (13, .iload_n 1, ([1], 0, 0, []), zi0), (14, .iaload, ([], 0, 0, []), zi0), (15, .ireturn, ([], 0, 0, []), zi0), (16, .aload_n 0, ([0], 0, 0, []), zi0), (17, .iload_n 1, ([1], 0, 0, []), zi0), (18, .invokevirtual 202, ([8, 4, 186], 0, 0, []), mi_R_layRows), (21, .istore_n 2, ([2], 0, 0, []), zi0), (22, .iload_n 2, ([2], 0, 0, []), zi0), (23, .iload_n 1, ([1], 0, 0, []), zi0), (24, .invokestatic 205, ([0, 4, 190], 0, 0, []), mi_R_rowsTo), (27, .istore_n 3, ([3], 0, 0, []), zi0), (28, .iconst 0, ([], nI 0, 0, []), zi0), (29, .istore 4, ([], 0, 0, []), zi0), (31, .iconst 0, ([], nI 0, 0, []), zi0), (32, .istore 5, ([], 0, 0, []), zi0), (34, .iload 5, ([], 0, 0, []), zi0), (36, .iload_n 3, ([3], 0, 0, []), zi0), (37, .if_icmp .ge 147, ([184], 0, 0, []), zi0), (40, .aload_n 0, ([0], 0, 0, []), zi0), (41, .iload_n 1, ([1], 0, 0, []), zi0), (42, .iload 5, ([], 0, 0, []), zi0), (44, .iload_n 2, ([2], 0, 0, []), zi0), (45, .invokevirtual 208, ([8, 4, 193], 0, 0, []), mi_R_layNumber), (48, .aload_n 0, ([0], 0, 0, []), zi0), (49, .invokevirtual 212, ([8, 4, 197], 0, 0, []), mi_R_firstBad), (52, .istore 6, ([], 0, 0, []), zi0), (54, .iload 6, ([], 0, 0, []), zi0), (56, .iload_n 1, ([1], 0, 0, []), zi0), (57, .if_icmp .ge 16, ([73], 0, 0, []), zi0), (60, .iload_n 2, ([2], 0, 0, []), zi0), (61, .iload_n 1, ([1], 0, 0, []), zi0), (62, .iconst 1, ([], nI 1, 0, []), zi0), (63, .isub, ([], 0, 0, []), zi0), (64, .iload 6, ([], 0, 0, []), zi0), (66, .isub, ([], 0, 0, []), zi0), (67, .invokestatic 205, ([0, 4, 190], 0, 0, []), mi_R_rowsTo), (70, .goto 4, ([74], 0, 0, []), zi0), (73, .iconst 1, ([], nI 1, 0, []), zi0), (74, .istore 7, ([], 0, 0, []), zi0), (76, .aload_n 0, ([0], 0, 0, []), zi0), (77, .invokevirtual 193, ([8, 4, 205], 0, 0, []), mi_R_layRight), (80, .iload 6, ([], 0, 0, []), zi0), (82, .iload_n 1, ([1], 0, 0, []), zi0), (83, .if_icmp .ne 86, ([169], 0, 0, []), zi0), (86, .aload_n 0, ([0], 0, 0, []), zi0), (87, .invokevirtual 216, ([8, 4, 209], 0, 0, []), mi_R_comesBackHere), (90, .ifCond .eq 79, ([169], 0, 0, []), zi0), (93, .aload_n 0, ([0], 0, 0, []), zi0), (94, .iconst 5, ([], nI 5, 0, []), zi0), (95, .invokevirtual 220, ([8, 4, 85], 0, 0, []), mi_R_manyFail), (98, .ifCond .ne 71, ([169], 0, 0, []), zi0), (101, .aload_n 0, ([0], 0, 0, []), zi0), (102, .invokevirtual 223, ([8, 4, 213], 0, 0, []), mi_R_isFirst), (105, .ifCond .eq 64, ([169], 0, 0, []), zi0), (108, .iload 4, ([], 0, 0, []), zi0), (110, .bipush 40, ([], nI 40, 0, []), zi0), (112, .if_icmp .ge 57, ([169], 0, 0, []), zi0), (115, .iconst 0, ([], nI 0, 0, []), zi0), (116, .istore 8, ([], 0, 0, []), zi0), (118, .iload 8, ([], 0, 0, []), zi0), (120, .iload_n 1, ([1], 0, 0, []), zi0), (121, .iload_n 1, ([1], 0, 0, []), zi0), (122, .imul, ([], 0, 0, []), zi0), (123, .if_icmp .ge 43, ([166], 0, 0, []), zi0), (126, .aload_n 0, ([0], 0, 0, []), zi0), (127, .getfield 38, ([8, 10, 3, 136], 0, 0, []), zi0), (130, .sipush 640, ([], nI 640, 0, []), zi0), (133, .iload_n 1, ([1], 0, 0, []), zi0), (134, .iconst 1, ([], nI 1, 0, []), zi0), (135, .isub, ([], 0, 0, []), zi0), (136, .imul, ([], 0, 0, []), zi0), (137, .bipush 16, ([], nI 16, 0, []), zi0), (139, .iload 4, ([], 0, 0, []), zi0), (141, .imul, ([], 0, 0, []), zi0), (142, .iadd, ([], 0, 0, []), zi0), (143, .iload 8, ([], 0, 0, []), zi0), (145, .iadd, ([], 0, 0, []), zi0), (146, .aload_n 0, ([0], 0, 0, []), zi0), (147, .iconst 5, ([], nI 5, 0, []), zi0), (148, .iload 8, ([], 0, 0, []), zi0), (150, .iload_n 1, ([1], 0, 0, []), zi0), (151, .idiv, ([], 0, 0, []), zi0), (152, .iload 8, ([], 0, 0, []), zi0), (154, .iload_n 1, ([1], 0, 0, []), zi0), (155, .irem, ([], 0, 0, []), zi0), (156, .invokevirtual 129, ([8, 4, 24], 0, 0, []), mi_R_l), (159, .iastore, ([], 0, 0, []), zi0), (160, .iinc 8 1, ([], nI 1, 0, []), zi0), (163, .goto (-45), ([118], 0, 0, []), zi0), (166, .iinc 4 1, ([], nI 1, 0, []), zi0), (169, .iload 5, ([], 0, 0, []), zi0), (171, .iload 7, ([], 0, 0, []), zi0), (173, .idiv, ([], 0, 0, []), zi0), (174, .iconst 1, ([], nI 1, 0, []), zi0), (175, .iadd, ([], 0, 0, []), zi0), (176, .iload 7, ([], 0, 0, []), zi0), (178, .imul, ([], 0, 0, []), zi0), (179, .istore 5, ([], 0, 0, []), zi0), (181, .goto (-147), ([34], 0, 0, []), zi0), (184, .aload_n 0, ([0], 0, 0, []), zi0), (185, .getfield 41, ([8, 11, 3, 137], 0, 0, []), zi0), (188, .iload_n 1, ([1], 0, 0, []), zi0), (189, .iload 4, ([], 0, 0, []), zi0), (191, .iastore, ([], 0, 0, []), zi0), (192, .iload 4, ([], 0, 0, []), zi0), (194, .ireturn, ([], 0, 0, []), zi0)]
def cu_R_layList : List (Nat × List Nat) := [(34, [0, 1, 2, 3, 4, 5]), (118, [0, 1, 2, 3, 4, 5, 7, 8])]
set_option maxRecDepth 100000 in
theorem oc_R_layList : cd_R_layList.all (zchk mi_R_layList) = true := by decide +kernel
set_option maxRecDepth 100000 in
theorem ow_R_layList : zWs mi_R_layList cd_R_layList := ⟨trivial, rfl, trivial, trivial, trivial, trivial, rfl, trivial, trivial, trivial, trivial, trivial, ⟨rfl, rfl, mv_R_layRows⟩, trivial, trivial, trivial, ⟨rfl, ms_R_rowsTo⟩, trivial, trivial, trivial, trivial, trivial, trivial, trivial, trivial, trivial, trivial, trivial, trivial, ⟨rfl, rfl, mv_R_layNumber⟩, trivial, ⟨rfl, rfl, mv_R_firstBad⟩, trivial, trivial, trivial, trivial, trivial, trivial, trivial, trivial, trivial, trivial, ⟨rfl, ms_R_rowsTo⟩, trivial, trivial, trivial, trivial, ⟨rfl, rfl, mv_R_layRight⟩, trivial, trivial, trivial, trivial, ⟨rfl, rfl, mv_R_comesBackHere⟩, trivial, trivial, trivial, ⟨rfl, rfl, mv_R_manyFail⟩, trivial, trivial, ⟨rfl, rfl, mv_R_isFirst⟩, trivial, trivial, trivial, trivial, trivial, trivial, trivial, trivial, trivial, trivial, trivial, trivial, rfl, trivial, trivial, trivial, trivial, trivial, trivial, trivial, trivial, trivial, trivial, trivial, trivial, trivial, trivial, trivial, trivial, trivial, trivial, trivial, ⟨rfl, rfl, mv_R_l⟩, trivial, trivial, trivial, trivial, trivial, trivial, trivial, trivial, trivial, trivial, trivial, trivial, trivial, trivial, rfl, trivial, trivial, trivial, trivial, trivial, trivial⟩
theorem ok_R_layList : zgood2 mi_R_layList cd_R_layList := ⟨oc_R_layList, ow_R_layList⟩
def cd_R_listed : List ZE := [(0, .iload_n 1, ([1], 0, 0, []), zi0), (1, .i2l, ([], 0, 0, []), zi0), (2, .lconst 1, ([], 0, lN 1, []), zi0), (3, .ldc2_w 274, ([5, 14], 0, lN 4, []), zi0), (6, .invokestatic 64, ([0, 3, 189], 0, 0, []), mi_R_in), (9, .ifCond .eq 11, ([20], 0, 0, []), zi0), (12, .aload_n 0, ([0], 0, 0, []), zi0), (13, .iload_n 1, ([1], 0, 0, []), zi0), (14, .invokevirtual 226, ([8, 4, 182], 0, 0, []), mi_R_layList), (17, .goto 5, ([22], 0, 0, []), zi0), (20, .ldc 91, ([3, 194], (-1000002), 0, []), zi0), (22, .ireturn, ([], 0, 0, []), zi0)]
def cu_R_listed : List (Nat × List Nat) := []
set_option maxRecDepth 100000 in
theorem oc_R_listed : cd_R_listed.all (zchk mi_R_listed) = true := by decide +kernel
set_option maxRecDepth 100000 in
theorem ow_R_listed : zWs mi_R_listed cd_R_listed := ⟨trivial, trivial, trivial, rfl, ⟨rfl, ms_R_in⟩, trivial, trivial, trivial, ⟨rfl, rfl, mv_R_layList⟩, trivial, rfl, trivial, trivial⟩
theorem ok_R_listed : zgood2 mi_R_listed cd_R_listed := ⟨oc_R_listed, ow_R_listed⟩
def cd_R_listedAs : List ZE := [(0, .iconst (-1), ([], (-1), 0, []), zi0), (1, .istore_n 2, ([2], 0, 0, []), zi0), (2, .aload_n 0, ([0], 0, 0, []), zi0), (3, .getfield 7, ([8, 0, 3, 126], 0, 0, []), zi0), (6, .iload_n 1, ([1], 0, 0, []), zi0), (7, .iaload, ([], 0, 0, []), zi0), (8, .istore_n 3, ([3], 0, 0, []), zi0), (9, .iload_n 3, ([3], 0, 0, []), zi0), (10, .iconst 4, ([], nI 4, 0, []), zi0), (11, .if_icmp .gt 11, ([22], 0, 0, []), zi0), (14, .aload_n 0, ([0], 0, 0, []), zi0), (15, .iload_n 3, ([3], 0, 0, []), zi0), (16, .invokevirtual 226, ([8, 4, 182], 0, 0, []), mi_R_layList), (19, .goto 4, ([23], 0, 0, []), zi0), (22, .iconst 0, ([], nI 0, 0, []), zi0), (23, .istore 4, ([], 0, 0, []), zi0), (25, .iconst 0, ([], nI 0, 0, []), zi0), (26, .istore 5, ([], 0, 0, []), zi0), (28, .iload 5, ([], 0, 0, []), zi0), (30, .iload 4, ([], 0, 0, []), zi0), (32, .if_icmp .ge 38, ([70], 0, 0, []), zi0), (35, .iload_n 2, ([2], 0, 0, []), zi0), (36, .iconst (-1), ([], (-1), 0, []), zi0), (37, .if_icmp .ne 33, ([70], 0, 0, []), zi0), (40, .aload_n 0, ([0], 0, 0, []), zi0), (41, .iload_n 3, ([3], 0, 0, []), zi0), (42, .iload 5, ([], 0, 0, []), zi0), (44, .invokevirtual 229, ([8, 4, 221], 0, 0, []), mi_R_layListed), (47, .aload_n 0, ([0], 0, 0, []), zi0), (48, .iload_n 1, ([1], 0, 0, []), zi0), (49, .iconst 5, ([], nI 5, 0, []), zi0), (50, .iconst 0, ([], nI 0, 0, []), zi0), (51, .invokevirtual 232, ([8, 4, 151], 0, 0, []), mi_R_likenesses), (54, .ifCond .le 8, ([62], 0, 0, []), zi0), (57, .iload 5, ([], 0, 0, []), zi0), (59, .goto 4, ([63], 0, 0, []), zi0), (62, .iload_n 2, ([2], 0, 0, []), zi0), (63, .istore_n 2, ([2], 0, 0, []), zi0), (64, .iinc 5 1, ([], nI 1, 0, []), zi0), (67, .goto (-39), ([28], 0, 0, []), zi0), (70, .iload_n 2, ([2], 0, 0, []), zi0), (71, .ireturn, ([], 0, 0, []), zi0)]
def cu_R_listedAs : List (Nat × List Nat) := [(28, [0, 1, 2, 3, 4, 5])]
set_option maxRecDepth 100000 in
theorem oc_R_listedAs : cd_R_listedAs.all (zchk mi_R_listedAs) = true := by decide +kernel
set_option maxRecDepth 100000 in
theorem ow_R_listedAs : zWs mi_R_listedAs cd_R_listedAs := ⟨trivial, trivial, trivial, rfl, trivial, trivial, trivial, trivial, trivial, trivial, trivial, trivial, ⟨rfl, rfl, mv_R_layList⟩, trivial, trivial, trivial, trivial, trivial, trivial, trivial, trivial, trivial, trivial, trivial, trivial, trivial, trivial, ⟨rfl, rfl, mv_R_layListed⟩, trivial, trivial, trivial, trivial, ⟨rfl, rfl, mv_R_likenesses⟩, trivial, trivial, trivial, trivial, trivial, trivial, trivial, trivial, trivial, trivial⟩
theorem ok_R_listedAs : zgood2 mi_R_listedAs cd_R_listedAs := ⟨oc_R_listedAs, ow_R_listedAs⟩
def cd_R_take : List ZE := [(0, .iload_n 3, ([3], 0, 0, []), zi0), (1, .invokestatic 68, ([0, 3, 185], 0, 0, []), mi_R_isPlace), (4, .ifCond .ne 6, ([10], 0, 0, []), zi0), (7, .ldc 88, ([3, 192], (-1000001), 0, []), zi0), (9, .ireturn, ([], 0, 0, []), zi0), (10, .iload_n 1, ([1], 0, 0, []), zi0), (11, .i2l, ([], 0, 0, []), zi0), (12, .lconst 1, ([], 0, lN 1, []), zi0), (13, .ldc2_w 274, ([5, 14], 0, lN 4, []), zi0), (16, .invokestatic 64, ([0, 3, 189], 0, 0, []), mi_R_in), (19, .ifCond .eq 7, ([26], 0, 0, []), zi0), (22, .iload_n 2, ([2], 0, 0, []), zi0), (23, .ifCond .ge 6, ([29], 0, 0, []), zi0), (26, .ldc 91, ([3, 194], (-1000002), 0, []), zi0), (28, .ireturn, ([], 0, 0, []), zi0), (29, .iload_n 2, ([2], 0, 0, []), zi0), (30, .aload_n 0, ([0], 0, 0, []), zi0), (31, .iload_n 1, ([1], 0, 0, []), zi0), (32, .invokevirtual 226, ([8, 4, 182], 0, 0, []), mi_R_layList), (35, .if_icmp .lt 5, ([40], 0, 0, []), zi0), (38, .iconst (-1), ([], (-1), 0, []), zi0), (39, .ireturn, ([], 0, 0, []), zi0), (40, .aload_n 0, ([0], 0, 0, []), zi0), (41, .iload_n 1, ([1], 0, 0, []), zi0), (42, .iload_n 2, ([2], 0, 0, []), zi0), (43, .invokevirtual 229, ([8, 4, 221], 0, 0, []), mi_R_layListed), (46, .aload_n 0, ([0], 0, 0, []), zi0), (47, .iconst 5, ([], nI 5, 0, []), zi0), (48, .iload_n 3, ([3], 0, 0, []), zi0), (49, .invokevirtual 72, ([8, 3, 203], 0, 0, []), mi_R_copies), (52, .iload_n 1, ([1], 0, 0, []), zi0), (53, .ireturn, ([], 0, 0, []), zi0)]
def cu_R_take : List (Nat × List Nat) := []
set_option maxRecDepth 100000 in
theorem oc_R_take : cd_R_take.all (zchk mi_R_take) = true := by decide +kernel
set_option maxRecDepth 100000 in
theorem ow_R_take : zWs mi_R_take cd_R_take := ⟨trivial, ⟨rfl, ms_R_isPlace⟩, trivial, rfl, trivial, trivial, trivial, trivial, rfl, ⟨rfl, ms_R_in⟩, trivial, trivial, trivial, rfl, trivial, trivial, trivial, trivial, ⟨rfl, rfl, mv_R_layList⟩, trivial, trivial, trivial, trivial, trivial, trivial, ⟨rfl, rfl, mv_R_layListed⟩, trivial, trivial, trivial, ⟨rfl, rfl, mv_R_copies⟩, trivial, trivial, trivial⟩
theorem ok_R_take : zgood2 mi_R_take cd_R_take := ⟨oc_R_take, ow_R_take⟩
def cd_R_wholeLater : List ZE := [(0, .iload_n 2, ([2], 0, 0, []), zi0), (1, .tableswitch 87 8 14 #[43, 49, 55, 61, 69, 75, 81], ([88, 43], 0, 0, [(nI 8, 44), (nI 9, 50), (nI 10, 56), (nI 11, 62), (nI 12, 70), (nI 13, 76), (nI 14, 82)]), zi0), (44, .aload_n 0, ([0], 0, 0, []), zi0), (45, .iload_n 1, ([1], 0, 0, []), zi0), (46, .invokevirtual 248, ([8, 4, 120], 0, 0, []), mi_R_manyOrbits), (49, .ireturn, ([], 0, 0, []), zi0), (50, .aload_n 0, ([0], 0, 0, []), zi0), (51, .iload_n 1, ([1], 0, 0, []), zi0), (52, .invokevirtual 251, ([8, 4, 128], 0, 0, []), mi_R_level), (55, .ireturn, ([], 0, 0, []), zi0), (56, .aload_n 0, ([0], 0, 0, []), zi0), (57, .iload_n 1, ([1], 0, 0, []), zi0), (58, .invokevirtual 254, ([8, 4, 132], 0, 0, []), mi_R_groupSize), (61, .ireturn, ([], 0, 0, []), zi0), (62, .aload_n 0, ([0], 0, 0, []), zi0), (63, .iload_n 1, ([1], 0, 0, []), zi0), (64, .iload_n 1, ([1], 0, 0, []), zi0), (65, .iconst 0, ([], nI 0, 0, []), zi0), (66, .invokevirtual 232, ([8, 4, 151], 0, 0, []), mi_R_likenesses), (69, .ireturn, ([], 0, 0, []), zi0), (70, .aload_n 0, ([0], 0, 0, []), zi0), (71, .iload_n 1, ([1], 0, 0, []), zi0), (72, .invokevirtual 257, ([8, 4, 163], 0, 0, []), mi_R_order), (75, .ireturn, ([], 0, 0, []), zi0), (76, .aload_n 0, ([0], 0, 0, []), zi0), (77, .iload_n 1, ([1], 0, 0, []), zi0), (78, .invokevirtual 260, ([8, 4, 170], 0, 0, []), mi_R_manyClosed), (81, .ireturn, ([], 0, 0, []), zi0), (82, .aload_n 0, ([0], 0, 0, []), zi0), (83, .iload_n 1, ([1], 0, 0, []), zi0), (84, .invokevirtual 263, ([8, 4, 178], 0, 0, []), mi_R_listedAs), (87, .ireturn, ([], 0, 0, []), zi0), (88, .ldc 91, ([3, 194], (-1000002), 0, []), zi0), (90, .ireturn, ([], 0, 0, []), zi0)]
def cu_R_wholeLater : List (Nat × List Nat) := []
set_option maxRecDepth 100000 in
theorem oc_R_wholeLater : cd_R_wholeLater.all (zchk mi_R_wholeLater) = true := by decide +kernel
set_option maxRecDepth 100000 in
theorem ow_R_wholeLater : zWs mi_R_wholeLater cd_R_wholeLater := ⟨trivial, trivial, trivial, trivial, ⟨rfl, rfl, mv_R_manyOrbits⟩, trivial, trivial, trivial, ⟨rfl, rfl, mv_R_level⟩, trivial, trivial, trivial, ⟨rfl, rfl, mv_R_groupSize⟩, trivial, trivial, trivial, trivial, trivial, ⟨rfl, rfl, mv_R_likenesses⟩, trivial, trivial, trivial, ⟨rfl, rfl, mv_R_order⟩, trivial, trivial, trivial, ⟨rfl, rfl, mv_R_manyClosed⟩, trivial, trivial, trivial, ⟨rfl, rfl, mv_R_listedAs⟩, trivial, rfl, trivial, trivial⟩
theorem ok_R_wholeLater : zgood2 mi_R_wholeLater cd_R_wholeLater := ⟨oc_R_wholeLater, ow_R_wholeLater⟩
def cd_R_whole : List ZE := [(0, .aload_n 0, ([0], 0, 0, []), zi0), (1, .iload_n 1, ([1], 0, 0, []), zi0), (2, .invokevirtual 123, ([8, 4, 16], 0, 0, []), mi_R_isMap), (5, .ifCond .ne 6, ([11], 0, 0, []), zi0), (8, .ldc 88, ([3, 192], (-1000001), 0, []), zi0), (10, .ireturn, ([], 0, 0, []), zi0), (11, .iload_n 2, ([2], 0, 0, []), zi0), (12, .tableswitch 125 0 7 #[48, 55, 72, 78, 87, 96, 106, 116], ([137, 48], 0, 0, [(nI 0, 60), (nI 1, 67), (nI 2, 84), (nI 3, 90), (nI 4, 99), (nI 5, 108), (nI 6, 118), (nI 7, 128)]), zi0), (60, .aload_n 0, ([0], 0, 0, []), zi0), (61, .getfield 7, ([8, 0, 3, 126], 0, 0, []), zi0), (64, .iload_n 1, ([1], 0, 0, []), zi0), (65, .iaload, ([], 0, 0, []), zi0), (66, .ireturn, ([], 0, 0, []), zi0), (67, .aload_n 0, ([0], 0, 0, []), zi0), (68, .iload_n 1, ([1], 0, 0, []), zi0), (69, .invokevirtual 220, ([8, 4, 85], 0, 0, []), mi_R_manyFail), (72, .ifCond .ne 7, ([79], 0, 0, []), zi0), (75, .iconst 1, ([], nI 1, 0, []), zi0), (76, .goto 4, ([80], 0, 0, []), zi0), (79, .iconst 0, ([], nI 0, 0, []), zi0), (80, .invokestatic 235, ([0, 4, 101], 0, 0, []), mi_R_asNumber), (83, .ireturn, ([], 0, 0, []), zi0), (84, .aload_n 0, ([0], 0, 0, []), zi0), (85, .iload_n 1, ([1], 0, 0, []), zi0), (86, .invokevirtual 220, ([8, 4, 85], 0, 0, []), mi_R_manyFail), (89, .ireturn, ([], 0, 0, []), zi0), (90, .aload_n 0, ([0], 0, 0, []), zi0), (91, .iload_n 1, ([1], 0, 0, []), zi0), (92, .invokevirtual 146, ([8, 4, 61], 0, 0, []), mi_R_isBijective), (95, .invokestatic 235, ([0, 4, 101], 0, 0, []), mi_R_asNumber), (98, .ireturn, ([], 0, 0, []), zi0), (99, .aload_n 0, ([0], 0, 0, []), zi0), (100, .iload_n 1, ([1], 0, 0, []), zi0), (101, .invokevirtual 239, ([8, 4, 104], 0, 0, []), mi_R_comesBack), (104, .invokestatic 235, ([0, 4, 101], 0, 0, []), mi_R_asNumber), (107, .ireturn, ([], 0, 0, []), zi0), (108, .aload_n 0, ([0], 0, 0, []), zi0), (109, .iload_n 1, ([1], 0, 0, []), zi0), (110, .iconst 1, ([], nI 1, 0, []), zi0), (111, .invokevirtual 164, ([8, 4, 108], 0, 0, []), mi_R_isPlain), (114, .invokestatic 235, ([0, 4, 101], 0, 0, []), mi_R_asNumber), (117, .ireturn, ([], 0, 0, []), zi0), (118, .aload_n 0, ([0], 0, 0, []), zi0), (119, .iload_n 1, ([1], 0, 0, []), zi0), (120, .iconst 0, ([], nI 0, 0, []), zi0), (121, .invokevirtual 164, ([8, 4, 108], 0, 0, []), mi_R_isPlain), (124, .invokestatic 235, ([0, 4, 101], 0, 0, []), mi_R_asNumber), (127, .ireturn, ([], 0, 0, []), zi0), (128, .aload_n 0, ([0], 0, 0, []), zi0), (129, .iload_n 1, ([1], 0, 0, []), zi0), (130, .invokevirtual 242, ([8, 4, 112], 0, 0, []), mi_R_doSquaresStay), (133, .invokestatic 235, ([0, 4, 101], 0, 0, []), mi_R_asNumber), (136, .ireturn, ([], 0, 0, []), zi0), (137, .aload_n 0, ([0], 0, 0, []), zi0), (138, .iload_n 1, ([1], 0, 0, []), zi0), (139, .iload_n 2, ([2], 0, 0, []), zi0), (140, .invokevirtual 245, ([8, 4, 116], 0, 0, []), mi_R_wholeLater), (143, .ireturn, ([], 0, 0, []), zi0)]
def cu_R_whole : List (Nat × List Nat) := []
set_option maxRecDepth 100000 in
theorem oc_R_whole : cd_R_whole.all (zchk mi_R_whole) = true := by decide +kernel
set_option maxRecDepth 100000 in
theorem ow_R_whole : zWs mi_R_whole cd_R_whole := ⟨trivial, trivial, ⟨rfl, rfl, mv_R_isMap⟩, trivial, rfl, trivial, trivial, trivial, trivial, rfl, trivial, trivial, trivial, trivial, trivial, ⟨rfl, rfl, mv_R_manyFail⟩, trivial, trivial, trivial, trivial, ⟨rfl, ms_R_asNumber⟩, trivial, trivial, trivial, ⟨rfl, rfl, mv_R_manyFail⟩, trivial, trivial, trivial, ⟨rfl, rfl, mv_R_isBijective⟩, ⟨rfl, ms_R_asNumber⟩, trivial, trivial, trivial, ⟨rfl, rfl, mv_R_comesBack⟩, ⟨rfl, ms_R_asNumber⟩, trivial, trivial, trivial, trivial, ⟨rfl, rfl, mv_R_isPlain⟩, ⟨rfl, ms_R_asNumber⟩, trivial, trivial, trivial, trivial, ⟨rfl, rfl, mv_R_isPlain⟩, ⟨rfl, ms_R_asNumber⟩, trivial, trivial, trivial, ⟨rfl, rfl, mv_R_doSquaresStay⟩, ⟨rfl, ms_R_asNumber⟩, trivial, trivial, trivial, trivial, ⟨rfl, rfl, mv_R_wholeLater⟩, trivial, trivial⟩
theorem ok_R_whole : zgood2 mi_R_whole cd_R_whole := ⟨oc_R_whole, ow_R_whole⟩
end
section
theorem go_AC_classOf {G : ZG} {Z : Option ZV → ZM → Prop} {M : ZM} {a0 : Int32} (h : ∀ K : Nat → ZL → List ZV → ZM → Prop, (∀ pc l st M, V 0 G mi_AC_classOf Z pc l st M → K pc l st M) → zex G mi_AC_classOf Z cu_AC_classOf cd_AC_classOf 300 0 [(0, zr 8 0), (1, zi a0)] [] M K) : Ctr 0 G mi_AC_classOf [zr 8 0, zi a0] M Z := z_start ok_AC_classOf rfl rfl h
theorem go_AC_smallestOf {G : ZG} {Z : Option ZV → ZM → Prop} {M : ZM} {a0 : Int32} (h : ∀ K : Nat → ZL → List ZV → ZM → Prop, (∀ pc l st M, V 0 G mi_AC_smallestOf Z pc l st M → K pc l st M) → zex G mi_AC_smallestOf Z cu_AC_smallestOf cd_AC_smallestOf 300 0 [(0, zr 8 0), (1, zi a0)] [] M K) : Ctr 0 G mi_AC_smallestOf [zr 8 0, zi a0] M Z := z_start ok_AC_smallestOf rfl rfl h
theorem go_AL_allOnes {G : ZG} {Z : Option ZV → ZM → Prop} {M : ZM} {a0 : Int32} (h : ∀ K : Nat → ZL → List ZV → ZM → Prop, (∀ pc l st M, V 0 G mi_AL_allOnes Z pc l st M → K pc l st M) → zex G mi_AL_allOnes Z cu_AL_allOnes cd_AL_allOnes 300 0 [(0, zi a0)] [] M K) : Ctr 0 G mi_AL_allOnes [zi a0] M Z := z_start ok_AL_allOnes rfl rfl h
theorem go_AL_isGroup {G : ZG} {Z : Option ZV → ZM → Prop} {M : ZM} {a0 : Int32} {a1 : Int32} (h : ∀ K : Nat → ZL → List ZV → ZM → Prop, (∀ pc l st M, V 0 G mi_AL_isGroup Z pc l st M → K pc l st M) → zex G mi_AL_isGroup Z cu_AL_isGroup cd_AL_isGroup 300 0 [(0, zi a0), (1, zi a1)] [] M K) : Ctr 0 G mi_AL_isGroup [zi a0, zi a1] M Z := z_start ok_AL_isGroup rfl rfl h
theorem go_AL_isUnit {G : ZG} {Z : Option ZV → ZM → Prop} {M : ZM} {a0 : Int32} {a1 : Int32} (h : ∀ K : Nat → ZL → List ZV → ZM → Prop, (∀ pc l st M, V 0 G mi_AL_isUnit Z pc l st M → K pc l st M) → zex G mi_AL_isUnit Z cu_AL_isUnit cd_AL_isUnit 300 0 [(0, zi a0), (1, zi a1)] [] M K) : Ctr 0 G mi_AL_isUnit [zi a0, zi a1] M Z := z_start ok_AL_isUnit rfl rfl h
theorem go_AL_product {G : ZG} {Z : Option ZV → ZM → Prop} {M : ZM} {a0 : Int32} {a1 : Int32} {a2 : Int32} {a3 : Int32} (h : ∀ K : Nat → ZL → List ZV → ZM → Prop, (∀ pc l st M, V 0 G mi_AL_product Z pc l st M → K pc l st M) → zex G mi_AL_product Z cu_AL_product cd_AL_product 300 0 [(0, zi a0), (1, zi a1), (2, zi a2), (3, zi a3)] [] M K) : Ctr 0 G mi_AL_product [zi a0, zi a1, zi a2, zi a3] M Z := z_start ok_AL_product rfl rfl h
theorem go_AL_rest {G : ZG} {Z : Option ZV → ZM → Prop} {M : ZM} {a0 : Int32} {a1 : Int32} (h : ∀ K : Nat → ZL → List ZV → ZM → Prop, (∀ pc l st M, V 0 G mi_AL_rest Z pc l st M → K pc l st M) → zex G mi_AL_rest Z cu_AL_rest cd_AL_rest 300 0 [(0, zi a0), (1, zi a1)] [] M K) : Ctr 0 G mi_AL_rest [zi a0, zi a1] M Z := z_start ok_AL_rest rfl rfl h
theorem go_BA_isSeen {G : ZG} {Z : Option ZV → ZM → Prop} {M : ZM} {a0 : Int32} (h : ∀ K : Nat → ZL → List ZV → ZM → Prop, (∀ pc l st M, V 0 G mi_BA_isSeen Z pc l st M → K pc l st M) → zex G mi_BA_isSeen Z cu_BA_isSeen cd_BA_isSeen 300 0 [(0, zr 18 0), (1, zi a0)] [] M K) : Ctr 0 G mi_BA_isSeen [zr 18 0, zi a0] M Z := z_start ok_BA_isSeen rfl rfl h
theorem go_BA_see {G : ZG} {Z : Option ZV → ZM → Prop} {M : ZM} {a0 : Int32} (h : ∀ K : Nat → ZL → List ZV → ZM → Prop, (∀ pc l st M, V 0 G mi_BA_see Z pc l st M → K pc l st M) → zex G mi_BA_see Z cu_BA_see cd_BA_see 300 0 [(0, zr 18 0), (1, zi a0)] [] M K) : Ctr 0 G mi_BA_see [zr 18 0, zi a0] M Z := z_start ok_BA_see rfl rfl h
theorem go_BR_clear {G : ZG} {Z : Option ZV → ZM → Prop} {M : ZM} {k : Nat} (h : ∀ K : Nat → ZL → List ZV → ZM → Prop, (∀ pc l st M, V 0 G mi_BR_clear Z pc l st M → K pc l st M) → zex G mi_BR_clear Z cu_BR_clear cd_BR_clear 300 0 [(0, zr 2 k)] [] M K) : Ctr 0 G mi_BR_clear [zr 2 k] M Z := z_start ok_BR_clear rfl rfl h
theorem go_BR_hasIndex {G : ZG} {Z : Option ZV → ZM → Prop} {M : ZM} {a0 : Int32} (h : ∀ K : Nat → ZL → List ZV → ZM → Prop, (∀ pc l st M, V 0 G mi_BR_hasIndex Z pc l st M → K pc l st M) → zex G mi_BR_hasIndex Z cu_BR_hasIndex cd_BR_hasIndex 300 0 [(0, zi a0)] [] M K) : Ctr 0 G mi_BR_hasIndex [zi a0] M Z := z_start ok_BR_hasIndex rfl rfl h
theorem go_BR_isCapital {G : ZG} {Z : Option ZV → ZM → Prop} {M : ZM} {a0 : Int32} (h : ∀ K : Nat → ZL → List ZV → ZM → Prop, (∀ pc l st M, V 0 G mi_BR_isCapital Z pc l st M → K pc l st M) → zex G mi_BR_isCapital Z cu_BR_isCapital cd_BR_isCapital 300 0 [(0, zi a0)] [] M K) : Ctr 0 G mi_BR_isCapital [zi a0] M Z := z_start ok_BR_isCapital rfl rfl h
theorem go_BR_isFull {G : ZG} {Z : Option ZV → ZM → Prop} {M : ZM} {k : Nat} (h : ∀ K : Nat → ZL → List ZV → ZM → Prop, (∀ pc l st M, V 0 G mi_BR_isFull Z pc l st M → K pc l st M) → zex G mi_BR_isFull Z cu_BR_isFull cd_BR_isFull 300 0 [(0, zr 2 k)] [] M K) : Ctr 0 G mi_BR_isFull [zr 2 k] M Z := z_start ok_BR_isFull rfl rfl h
theorem go_BR_length {G : ZG} {Z : Option ZV → ZM → Prop} {M : ZM} {k : Nat} (h : ∀ K : Nat → ZL → List ZV → ZM → Prop, (∀ pc l st M, V 0 G mi_BR_length Z pc l st M → K pc l st M) → zex G mi_BR_length Z cu_BR_length cd_BR_length 300 0 [(0, zr 2 k)] [] M K) : Ctr 0 G mi_BR_length [zr 2 k] M Z := z_start ok_BR_length rfl rfl h
theorem go_CH_joined {G : ZG} {Z : Option ZV → ZM → Prop} {M : ZM} {a0 : Int32} {a1 : Int32} {a2 : Int32} (h : ∀ K : Nat → ZL → List ZV → ZM → Prop, (∀ pc l st M, V 0 G mi_CH_joined Z pc l st M → K pc l st M) → zex G mi_CH_joined Z cu_CH_joined cd_CH_joined 300 0 [(0, zi a0), (1, zi a1), (2, zi a2)] [] M K) : Ctr 0 G mi_CH_joined [zi a0, zi a1, zi a2] M Z := z_start ok_CH_joined rfl rfl h
theorem go_CO_commonMultiple {G : ZG} {Z : Option ZV → ZM → Prop} {M : ZM} {a0 : Int32} {a1 : Int32} (h : ∀ K : Nat → ZL → List ZV → ZM → Prop, (∀ pc l st M, V 0 G mi_CO_commonMultiple Z pc l st M → K pc l st M) → zex G mi_CO_commonMultiple Z cu_CO_commonMultiple cd_CO_commonMultiple 300 0 [(0, zi a0), (1, zi a1)] [] M K) : Ctr 0 G mi_CO_commonMultiple [zi a0, zi a1] M Z := z_start ok_CO_commonMultiple rfl rfl h
theorem go_CO_digit {G : ZG} {Z : Option ZV → ZM → Prop} {M : ZM} {a0 : Int32} {a1 : Int32} (h : ∀ K : Nat → ZL → List ZV → ZM → Prop, (∀ pc l st M, V 0 G mi_CO_digit Z pc l st M → K pc l st M) → zex G mi_CO_digit Z cu_CO_digit cd_CO_digit 300 0 [(0, zi a0), (1, zi a1)] [] M K) : Ctr 0 G mi_CO_digit [zi a0, zi a1] M Z := z_start ok_CO_digit rfl rfl h
theorem go_CO_pairOf {G : ZG} {Z : Option ZV → ZM → Prop} {M : ZM} {a0 : Int32} {a1 : Int32} (h : ∀ K : Nat → ZL → List ZV → ZM → Prop, (∀ pc l st M, V 0 G mi_CO_pairOf Z pc l st M → K pc l st M) → zex G mi_CO_pairOf Z cu_CO_pairOf cd_CO_pairOf 300 0 [(0, zi a0), (1, zi a1)] [] M K) : Ctr 0 G mi_CO_pairOf [zi a0, zi a1] M Z := z_start ok_CO_pairOf rfl rfl h
theorem go_CO_sequences {G : ZG} {Z : Option ZV → ZM → Prop} {M : ZM} {a0 : Int32} {a1 : Int32} (h : ∀ K : Nat → ZL → List ZV → ZM → Prop, (∀ pc l st M, V 0 G mi_CO_sequences Z pc l st M → K pc l st M) → zex G mi_CO_sequences Z cu_CO_sequences cd_CO_sequences 300 0 [(0, zi a0), (1, zi a1)] [] M K) : Ctr 0 G mi_CO_sequences [zi a0, zi a1] M Z := z_start ok_CO_sequences rfl rfl h
theorem go_JA_fill {G : ZG} {Z : Option ZV → ZM → Prop} {M : ZM} {a0 ba0 : Nat} {a1 : Int64} (h : ∀ K : Nat → ZL → List ZV → ZM → Prop, (∀ pc l st M, V 0 G mi_JA_fill Z pc l st M → K pc l st M) → zex G mi_JA_fill Z cu_JA_fill cd_JA_fill 300 0 [(0, zr a0 ba0), (1, zl a1)] [] M K) : Ctr 0 G mi_JA_fill [zr a0 ba0, zl a1] M Z := z_start ok_JA_fill rfl rfl h
theorem go_JL_bitCount {G : ZG} {Z : Option ZV → ZM → Prop} {M : ZM} {a0 : Int64} (h : ∀ K : Nat → ZL → List ZV → ZM → Prop, (∀ pc l st M, V 0 G mi_JL_bitCount Z pc l st M → K pc l st M) → zex G mi_JL_bitCount Z cu_JL_bitCount cd_JL_bitCount 300 0 [(0, zl a0)] [] M K) : Ctr 0 G mi_JL_bitCount [zl a0] M Z := z_start ok_JL_bitCount rfl rfl h
theorem go_PM_copy {G : ZG} {Z : Option ZV → ZM → Prop} {M : ZM} {k : Nat} {a0 : Nat} (h : ∀ K : Nat → ZL → List ZV → ZM → Prop, (∀ pc l st M, V 0 G mi_PM_copy Z pc l st M → K pc l st M) → zex G mi_PM_copy Z cu_PM_copy cd_PM_copy 300 0 [(0, zr 0 k), (1, zr 0 a0)] [] M K) : Ctr 0 G mi_PM_copy [zr 0 k, zr 0 a0] M Z := z_start ok_PM_copy rfl rfl h
theorem go_PM_hasPoint {G : ZG} {Z : Option ZV → ZM → Prop} {M : ZM} {k : Nat} {a0 : Int32} (h : ∀ K : Nat → ZL → List ZV → ZM → Prop, (∀ pc l st M, V 0 G mi_PM_hasPoint Z pc l st M → K pc l st M) → zex G mi_PM_hasPoint Z cu_PM_hasPoint cd_PM_hasPoint 300 0 [(0, zr 0 k), (1, zi a0)] [] M K) : Ctr 0 G mi_PM_hasPoint [zr 0 k, zi a0] M Z := z_start ok_PM_hasPoint rfl rfl h
theorem go_PM_imageOf {G : ZG} {Z : Option ZV → ZM → Prop} {M : ZM} {k : Nat} {a0 : Int32} (h : ∀ K : Nat → ZL → List ZV → ZM → Prop, (∀ pc l st M, V 0 G mi_PM_imageOf Z pc l st M → K pc l st M) → zex G mi_PM_imageOf Z cu_PM_imageOf cd_PM_imageOf 300 0 [(0, zr 0 k), (1, zi a0)] [] M K) : Ctr 0 G mi_PM_imageOf [zr 0 k, zi a0] M Z := z_start ok_PM_imageOf rfl rfl h
theorem go_PM_isEmpty {G : ZG} {Z : Option ZV → ZM → Prop} {M : ZM} {k : Nat} (h : ∀ K : Nat → ZL → List ZV → ZM → Prop, (∀ pc l st M, V 0 G mi_PM_isEmpty Z pc l st M → K pc l st M) → zex G mi_PM_isEmpty Z cu_PM_isEmpty cd_PM_isEmpty 300 0 [(0, zr 0 k)] [] M K) : Ctr 0 G mi_PM_isEmpty [zr 0 k] M Z := z_start ok_PM_isEmpty rfl rfl h
theorem go_PM_points {G : ZG} {Z : Option ZV → ZM → Prop} {M : ZM} {k : Nat} (h : ∀ K : Nat → ZL → List ZV → ZM → Prop, (∀ pc l st M, V 0 G mi_PM_points Z pc l st M → K pc l st M) → zex G mi_PM_points Z cu_PM_points cd_PM_points 300 0 [(0, zr 0 k)] [] M K) : Ctr 0 G mi_PM_points [zr 0 k] M Z := z_start ok_PM_points rfl rfl h
theorem go_PM_resize {G : ZG} {Z : Option ZV → ZM → Prop} {M : ZM} {k : Nat} {a0 : Int32} (h : ∀ K : Nat → ZL → List ZV → ZM → Prop, (∀ pc l st M, V 0 G mi_PM_resize Z pc l st M → K pc l st M) → zex G mi_PM_resize Z cu_PM_resize cd_PM_resize 300 0 [(0, zr 0 k), (1, zi a0)] [] M K) : Ctr 0 G mi_PM_resize [zr 0 k, zi a0] M Z := z_start ok_PM_resize rfl rfl h
theorem go_RG_add {G : ZG} {Z : Option ZV → ZM → Prop} {M : ZM} {a0 : Int32} (h : ∀ K : Nat → ZL → List ZV → ZM → Prop, (∀ pc l st M, V 0 G mi_RG_add Z pc l st M → K pc l st M) → zex G mi_RG_add Z cu_RG_add cd_RG_add 300 0 [(0, zr 13 0), (1, zi a0)] [] M K) : Ctr 0 G mi_RG_add [zr 13 0, zi a0] M Z := z_start ok_RG_add rfl rfl h
theorem go_RN_imageOf {G : ZG} {Z : Option ZV → ZM → Prop} {M : ZM} {a0 : Int32} (h : ∀ K : Nat → ZL → List ZV → ZM → Prop, (∀ pc l st M, V 0 G mi_RN_imageOf Z pc l st M → K pc l st M) → zex G mi_RN_imageOf Z cu_RN_imageOf cd_RN_imageOf 300 0 [(0, zr 11 0), (1, zi a0)] [] M K) : Ctr 0 G mi_RN_imageOf [zr 11 0, zi a0] M Z := z_start ok_RN_imageOf rfl rfl h
theorem go_RN_permutations {G : ZG} {Z : Option ZV → ZM → Prop} {M : ZM} {a0 : Int32} (h : ∀ K : Nat → ZL → List ZV → ZM → Prop, (∀ pc l st M, V 0 G mi_RN_permutations Z pc l st M → K pc l st M) → zex G mi_RN_permutations Z cu_RN_permutations cd_RN_permutations 300 0 [(0, zi a0)] [] M K) : Ctr 0 G mi_RN_permutations [zi a0] M Z := z_start ok_RN_permutations rfl rfl h
theorem go_RN_start {G : ZG} {Z : Option ZV → ZM → Prop} {M : ZM}  (h : ∀ K : Nat → ZL → List ZV → ZM → Prop, (∀ pc l st M, V 0 G mi_RN_start Z pc l st M → K pc l st M) → zex G mi_RN_start Z cu_RN_start cd_RN_start 300 0 [(0, zr 11 0)] [] M K) : Ctr 0 G mi_RN_start [zr 11 0] M Z := z_start ok_RN_start rfl rfl h
theorem go_SL_hasPoints {G : ZG} {Z : Option ZV → ZM → Prop} {M : ZM} {a0 : Int32} (h : ∀ K : Nat → ZL → List ZV → ZM → Prop, (∀ pc l st M, V 0 G mi_SL_hasPoints Z pc l st M → K pc l st M) → zex G mi_SL_hasPoints Z cu_SL_hasPoints cd_SL_hasPoints 300 0 [(0, zi a0)] [] M K) : Ctr 0 G mi_SL_hasPoints [zi a0] M Z := z_start ok_SL_hasPoints rfl rfl h
theorem go_SL_shiftOf {G : ZG} {Z : Option ZV → ZM → Prop} {M : ZM} {a0 : Int32} {a1 : Int32} (h : ∀ K : Nat → ZL → List ZV → ZM → Prop, (∀ pc l st M, V 0 G mi_SL_shiftOf Z pc l st M → K pc l st M) → zex G mi_SL_shiftOf Z cu_SL_shiftOf cd_SL_shiftOf 300 0 [(0, zi a0), (1, zi a1)] [] M K) : Ctr 0 G mi_SL_shiftOf [zi a0, zi a1] M Z := z_start ok_SL_shiftOf rfl rfl h
theorem go_SL_start {G : ZG} {Z : Option ZV → ZM → Prop} {M : ZM} {a0 : Int32} (h : ∀ K : Nat → ZL → List ZV → ZM → Prop, (∀ pc l st M, V 0 G mi_SL_start Z pc l st M → K pc l st M) → zex G mi_SL_start Z cu_SL_start cd_SL_start 300 0 [(0, zi a0)] [] M K) : Ctr 0 G mi_SL_start [zi a0] M Z := z_start ok_SL_start rfl rfl h
theorem go_T_isWithin {G : ZG} {Z : Option ZV → ZM → Prop} {M : ZM} {a0 : Int32} {a1 : Int32} {a2 : Int32} (h : ∀ K : Nat → ZL → List ZV → ZM → Prop, (∀ pc l st M, V 0 G mi_T_isWithin Z pc l st M → K pc l st M) → zex G mi_T_isWithin Z cu_T_isWithin cd_T_isWithin 300 0 [(0, zi a0), (1, zi a1), (2, zi a2)] [] M K) : Ctr 0 G mi_T_isWithin [zi a0, zi a1, zi a2] M Z := z_start ok_T_isWithin rfl rfl h
theorem go_T_oneIf {G : ZG} {Z : Option ZV → ZM → Prop} {M : ZM} {a0 : Int32} (h : ∀ K : Nat → ZL → List ZV → ZM → Prop, (∀ pc l st M, V 0 G mi_T_oneIf Z pc l st M → K pc l st M) → zex G mi_T_oneIf Z cu_T_oneIf cd_T_oneIf 300 0 [(0, zi a0)] [] M K) : Ctr 0 G mi_T_oneIf [zi a0] M Z := z_start ok_T_oneIf rfl rfl h
theorem go_WC_number {G : ZG} {Z : Option ZV → ZM → Prop} {M : ZM}  (h : ∀ K : Nat → ZL → List ZV → ZM → Prop, (∀ pc l st M, V 0 G mi_WC_number Z pc l st M → K pc l st M) → zex G mi_WC_number Z cu_WC_number cd_WC_number 300 0 [(0, zr 16 0)] [] M K) : Ctr 0 G mi_WC_number [zr 16 0] M Z := z_start ok_WC_number rfl rfl h
theorem go_WC_smallerOf {G : ZG} {Z : Option ZV → ZM → Prop} {M : ZM} {a0 : Int32} (h : ∀ K : Nat → ZL → List ZV → ZM → Prop, (∀ pc l st M, V 0 G mi_WC_smallerOf Z pc l st M → K pc l st M) → zex G mi_WC_smallerOf Z cu_WC_smallerOf cd_WC_smallerOf 300 0 [(0, zr 16 0), (1, zi a0)] [] M K) : Ctr 0 G mi_WC_smallerOf [zr 16 0, zi a0] M Z := z_start ok_WC_smallerOf rfl rfl h
theorem go_AL_candidates {G : ZG} {Z : Option ZV → ZM → Prop} {M : ZM} {a0 : Int32} (h : ∀ K : Nat → ZL → List ZV → ZM → Prop, (∀ pc l st M, V 0 G mi_AL_candidates Z pc l st M → K pc l st M) → zex G mi_AL_candidates Z cu_AL_candidates cd_AL_candidates 300 0 [(0, zi a0)] [] M K) : Ctr 0 G mi_AL_candidates [zi a0] M Z := z_start ok_AL_candidates rfl rfl h
theorem go_AL_inverse {G : ZG} {Z : Option ZV → ZM → Prop} {M : ZM} {a0 : Int32} {a1 : Int32} {a2 : Int32} (h : ∀ K : Nat → ZL → List ZV → ZM → Prop, (∀ pc l st M, V 0 G mi_AL_inverse Z pc l st M → K pc l st M) → zex G mi_AL_inverse Z cu_AL_inverse cd_AL_inverse 300 0 [(0, zi a0), (1, zi a1), (2, zi a2)] [] M K) : Ctr 0 G mi_AL_inverse [zi a0, zi a1, zi a2] M Z := z_start ok_AL_inverse rfl rfl h
theorem go_AL_isBrace {G : ZG} {Z : Option ZV → ZM → Prop} {M : ZM} {a0 : Int32} {a1 : Int32} (h : ∀ K : Nat → ZL → List ZV → ZM → Prop, (∀ pc l st M, V 0 G mi_AL_isBrace Z pc l st M → K pc l st M) → zex G mi_AL_isBrace Z cu_AL_isBrace cd_AL_isBrace 300 0 [(0, zi a0), (1, zi a1)] [] M K) : Ctr 0 G mi_AL_isBrace [zi a0, zi a1] M Z := z_start ok_AL_isBrace rfl rfl h
theorem go_AL_quotient {G : ZG} {Z : Option ZV → ZM → Prop} {M : ZM} {a0 : Int32} {a1 : Int32} {a2 : Int32} (h : ∀ K : Nat → ZL → List ZV → ZM → Prop, (∀ pc l st M, V 0 G mi_AL_quotient Z pc l st M → K pc l st M) → zex G mi_AL_quotient Z cu_AL_quotient cd_AL_quotient 300 0 [(0, zi a0), (1, zi a1), (2, zi a2)] [] M K) : Ctr 0 G mi_AL_quotient [zi a0, zi a1, zi a2] M Z := z_start ok_AL_quotient rfl rfl h
theorem go_AL_unitAfter {G : ZG} {Z : Option ZV → ZM → Prop} {M : ZM} {a0 : Int32} {a1 : Int32} (h : ∀ K : Nat → ZL → List ZV → ZM → Prop, (∀ pc l st M, V 0 G mi_AL_unitAfter Z pc l st M → K pc l st M) → zex G mi_AL_unitAfter Z cu_AL_unitAfter cd_AL_unitAfter 300 0 [(0, zi a0), (1, zi a1)] [] M K) : Ctr 0 G mi_AL_unitAfter [zi a0, zi a1] M Z := z_start ok_AL_unitAfter rfl rfl h
theorem go_BA_tuples {G : ZG} {Z : Option ZV → ZM → Prop} {M : ZM} {a0 : Int32} (h : ∀ K : Nat → ZL → List ZV → ZM → Prop, (∀ pc l st M, V 0 G mi_BA_tuples Z pc l st M → K pc l st M) → zex G mi_BA_tuples Z cu_BA_tuples cd_BA_tuples 300 0 [(0, zr 18 0), (1, zi a0)] [] M K) : Ctr 0 G mi_BA_tuples [zr 18 0, zi a0] M Z := z_start ok_BA_tuples rfl rfl h
theorem go_BR_append {G : ZG} {Z : Option ZV → ZM → Prop} {M : ZM} {k : Nat} {a0 : Int32} (h : ∀ K : Nat → ZL → List ZV → ZM → Prop, (∀ pc l st M, V 0 G mi_BR_append Z pc l st M → K pc l st M) → zex G mi_BR_append Z cu_BR_append cd_BR_append 300 0 [(0, zr 2 k), (1, zi a0)] [] M K) : Ctr 0 G mi_BR_append [zr 2 k, zi a0] M Z := z_start ok_BR_append rfl rfl h
theorem go_BR_isCapitalAt {G : ZG} {Z : Option ZV → ZM → Prop} {M : ZM} {k : Nat} {a0 : Int32} (h : ∀ K : Nat → ZL → List ZV → ZM → Prop, (∀ pc l st M, V 0 G mi_BR_isCapitalAt Z pc l st M → K pc l st M) → zex G mi_BR_isCapitalAt Z cu_BR_isCapitalAt cd_BR_isCapitalAt 300 0 [(0, zr 2 k), (1, zi a0)] [] M K) : Ctr 0 G mi_BR_isCapitalAt [zr 2 k, zi a0] M Z := z_start ok_BR_isCapitalAt rfl rfl h
theorem go_BR_isLetter {G : ZG} {Z : Option ZV → ZM → Prop} {M : ZM} {a0 : Int32} (h : ∀ K : Nat → ZL → List ZV → ZM → Prop, (∀ pc l st M, V 0 G mi_BR_isLetter Z pc l st M → K pc l st M) → zex G mi_BR_isLetter Z cu_BR_isLetter cd_BR_isLetter 300 0 [(0, zi a0)] [] M K) : Ctr 0 G mi_BR_isLetter [zi a0] M Z := z_start ok_BR_isLetter rfl rfl h
theorem go_BR_position {G : ZG} {Z : Option ZV → ZM → Prop} {M : ZM} {k : Nat} {a0 : Int32} (h : ∀ K : Nat → ZL → List ZV → ZM → Prop, (∀ pc l st M, V 0 G mi_BR_position Z pc l st M → K pc l st M) → zex G mi_BR_position Z cu_BR_position cd_BR_position 300 0 [(0, zr 2 k), (1, zi a0)] [] M K) : Ctr 0 G mi_BR_position [zr 2 k, zi a0] M Z := z_start ok_BR_position rfl rfl h
theorem go_CH_cycleLength {G : ZG} {Z : Option ZV → ZM → Prop} {M : ZM} {a0 : Nat} {a1 : Int32} (h : ∀ K : Nat → ZL → List ZV → ZM → Prop, (∀ pc l st M, V 0 G mi_CH_cycleLength Z pc l st M → K pc l st M) → zex G mi_CH_cycleLength Z cu_CH_cycleLength cd_CH_cycleLength 300 0 [(0, zr 0 a0), (1, zi a1)] [] M K) : Ctr 0 G mi_CH_cycleLength [zr 0 a0, zi a1] M Z := z_start ok_CH_cycleLength rfl rfl h
theorem go_CH_isBijective {G : ZG} {Z : Option ZV → ZM → Prop} {M : ZM} {a0 : Nat} (h : ∀ K : Nat → ZL → List ZV → ZM → Prop, (∀ pc l st M, V 0 G mi_CH_isBijective Z pc l st M → K pc l st M) → zex G mi_CH_isBijective Z cu_CH_isBijective cd_CH_isBijective 300 0 [(0, zr 0 a0)] [] M K) : Ctr 0 G mi_CH_isBijective [zr 0 a0] M Z := z_start ok_CH_isBijective rfl rfl h
theorem go_CH_isInvolutive {G : ZG} {Z : Option ZV → ZM → Prop} {M : ZM} {a0 : Nat} (h : ∀ K : Nat → ZL → List ZV → ZM → Prop, (∀ pc l st M, V 0 G mi_CH_isInvolutive Z pc l st M → K pc l st M) → zex G mi_CH_isInvolutive Z cu_CH_isInvolutive cd_CH_isInvolutive 300 0 [(0, zr 0 a0)] [] M K) : Ctr 0 G mi_CH_isInvolutive [zr 0 a0] M Z := z_start ok_CH_isInvolutive rfl rfl h
theorem go_CH_isSquareFree {G : ZG} {Z : Option ZV → ZM → Prop} {M : ZM} {a0 : Nat} (h : ∀ K : Nat → ZL → List ZV → ZM → Prop, (∀ pc l st M, V 0 G mi_CH_isSquareFree Z pc l st M → K pc l st M) → zex G mi_CH_isSquareFree Z cu_CH_isSquareFree cd_CH_isSquareFree 300 0 [(0, zr 0 a0)] [] M K) : Ctr 0 G mi_CH_isSquareFree [zr 0 a0] M Z := z_start ok_CH_isSquareFree rfl rfl h
theorem go_CO_isCode {G : ZG} {Z : Option ZV → ZM → Prop} {M : ZM} {a0 : Int32} {a1 : Int32} {a2 : Int32} (h : ∀ K : Nat → ZL → List ZV → ZM → Prop, (∀ pc l st M, V 0 G mi_CO_isCode Z pc l st M → K pc l st M) → zex G mi_CO_isCode Z cu_CO_isCode cd_CO_isCode 300 0 [(0, zi a0), (1, zi a1), (2, zi a2)] [] M K) : Ctr 0 G mi_CO_isCode [zi a0, zi a1, zi a2] M Z := z_start ok_CO_isCode rfl rfl h
theorem go_CO_next {G : ZG} {Z : Option ZV → ZM → Prop} {M : ZM} {a0 : Int32} {a1 : Int32} {a2 : Int32} (h : ∀ K : Nat → ZL → List ZV → ZM → Prop, (∀ pc l st M, V 0 G mi_CO_next Z pc l st M → K pc l st M) → zex G mi_CO_next Z cu_CO_next cd_CO_next 300 0 [(0, zi a0), (1, zi a1), (2, zi a2)] [] M K) : Ctr 0 G mi_CO_next [zi a0, zi a1, zi a2] M Z := z_start ok_CO_next rfl rfl h
theorem go_CO_turned {G : ZG} {Z : Option ZV → ZM → Prop} {M : ZM} {a0 : Int32} {a1 : Int32} (h : ∀ K : Nat → ZL → List ZV → ZM → Prop, (∀ pc l st M, V 0 G mi_CO_turned Z pc l st M → K pc l st M) → zex G mi_CO_turned Z cu_CO_turned cd_CO_turned 300 0 [(0, zi a0), (1, zi a1)] [] M K) : Ctr 0 G mi_CO_turned [zi a0, zi a1] M Z := z_start ok_CO_turned rfl rfl h
theorem go_PM_appliedAt {G : ZG} {Z : Option ZV → ZM → Prop} {M : ZM} {k : Nat} {a0 : Int32} {a1 : Int32} (h : ∀ K : Nat → ZL → List ZV → ZM → Prop, (∀ pc l st M, V 0 G mi_PM_appliedAt Z pc l st M → K pc l st M) → zex G mi_PM_appliedAt Z cu_PM_appliedAt cd_PM_appliedAt 300 0 [(0, zr 0 k), (1, zi a0), (2, zi a1)] [] M K) : Ctr 0 G mi_PM_appliedAt [zr 0 k, zi a0, zi a1] M Z := z_start ok_PM_appliedAt rfl rfl h
theorem go_PM_left {G : ZG} {Z : Option ZV → ZM → Prop} {M : ZM} {k : Nat} {a0 : Int32} {a1 : Int32} (h : ∀ K : Nat → ZL → List ZV → ZM → Prop, (∀ pc l st M, V 0 G mi_PM_left Z pc l st M → K pc l st M) → zex G mi_PM_left Z cu_PM_left cd_PM_left 300 0 [(0, zr 0 k), (1, zi a0), (2, zi a1)] [] M K) : Ctr 0 G mi_PM_left [zr 0 k, zi a0, zi a1] M Z := z_start ok_PM_left rfl rfl h
theorem go_PM_right {G : ZG} {Z : Option ZV → ZM → Prop} {M : ZM} {k : Nat} {a0 : Int32} {a1 : Int32} (h : ∀ K : Nat → ZL → List ZV → ZM → Prop, (∀ pc l st M, V 0 G mi_PM_right Z pc l st M → K pc l st M) → zex G mi_PM_right Z cu_PM_right cd_PM_right 300 0 [(0, zr 0 k), (1, zi a0), (2, zi a1)] [] M K) : Ctr 0 G mi_PM_right [zr 0 k, zi a0, zi a1] M Z := z_start ok_PM_right rfl rfl h
theorem go_PM_setImage {G : ZG} {Z : Option ZV → ZM → Prop} {M : ZM} {k : Nat} {a0 : Int32} {a1 : Int32} {a2 : Int32} {a3 : Int32} (h : ∀ K : Nat → ZL → List ZV → ZM → Prop, (∀ pc l st M, V 0 G mi_PM_setImage Z pc l st M → K pc l st M) → zex G mi_PM_setImage Z cu_PM_setImage cd_PM_setImage 300 0 [(0, zr 0 k), (1, zi a0), (2, zi a1), (3, zi a2), (4, zi a3)] [] M K) : Ctr 0 G mi_PM_setImage [zr 0 k, zi a0, zi a1, zi a2, zi a3] M Z := z_start ok_PM_setImage rfl rfl h
theorem go_RN_code {G : ZG} {Z : Option ZV → ZM → Prop} {M : ZM} {a0 : Int32} (h : ∀ K : Nat → ZL → List ZV → ZM → Prop, (∀ pc l st M, V 0 G mi_RN_code Z pc l st M → K pc l st M) → zex G mi_RN_code Z cu_RN_code cd_RN_code 300 0 [(0, zr 11 0), (1, zi a0)] [] M K) : Ctr 0 G mi_RN_code [zr 11 0, zi a0] M Z := z_start ok_RN_code rfl rfl h
theorem go_RN_isIsomorphism {G : ZG} {Z : Option ZV → ZM → Prop} {M : ZM} {a0 : Nat} {a1 : Nat} (h : ∀ K : Nat → ZL → List ZV → ZM → Prop, (∀ pc l st M, V 0 G mi_RN_isIsomorphism Z pc l st M → K pc l st M) → zex G mi_RN_isIsomorphism Z cu_RN_isIsomorphism cd_RN_isIsomorphism 300 0 [(0, zr 11 0), (1, zr 0 a0), (2, zr 0 a1)] [] M K) : Ctr 0 G mi_RN_isIsomorphism [zr 11 0, zr 0 a0, zr 0 a1] M Z := z_start ok_RN_isIsomorphism rfl rfl h
theorem go_RN_swap {G : ZG} {Z : Option ZV → ZM → Prop} {M : ZM} {a0 : Int32} {a1 : Int32} (h : ∀ K : Nat → ZL → List ZV → ZM → Prop, (∀ pc l st M, V 0 G mi_RN_swap Z pc l st M → K pc l st M) → zex G mi_RN_swap Z cu_RN_swap cd_RN_swap 300 0 [(0, zr 11 0), (1, zi a0), (2, zi a1)] [] M K) : Ctr 0 G mi_RN_swap [zr 11 0, zi a0, zi a1] M Z := z_start ok_RN_swap rfl rfl h
theorem go_SL_pointAt {G : ZG} {Z : Option ZV → ZM → Prop} {M : ZM} {a0 : Int64} {a1 : Int32} {a2 : Int32} {a3 : Int32} (h : ∀ K : Nat → ZL → List ZV → ZM → Prop, (∀ pc l st M, V 0 G mi_SL_pointAt Z pc l st M → K pc l st M) → zex G mi_SL_pointAt Z cu_SL_pointAt cd_SL_pointAt 300 0 [(0, zl a0), (2, zi a1), (3, zi a2), (4, zi a3)] [] M K) : Ctr 0 G mi_SL_pointAt [zl a0, zi a1, zi a2, zi a3] M Z := z_start ok_SL_pointAt rfl rfl h
theorem go_SL_rowsAt {G : ZG} {Z : Option ZV → ZM → Prop} {M : ZM} {a0 : Int32} {a1 : Int32} (h : ∀ K : Nat → ZL → List ZV → ZM → Prop, (∀ pc l st M, V 0 G mi_SL_rowsAt Z pc l st M → K pc l st M) → zex G mi_SL_rowsAt Z cu_SL_rowsAt cd_SL_rowsAt 300 0 [(0, zi a0), (1, zi a1)] [] M K) : Ctr 0 G mi_SL_rowsAt [zi a0, zi a1] M Z := z_start ok_SL_rowsAt rfl rfl h
theorem go_SL_size {G : ZG} {Z : Option ZV → ZM → Prop} {M : ZM} {a0 : Int32} (h : ∀ K : Nat → ZL → List ZV → ZM → Prop, (∀ pc l st M, V 0 G mi_SL_size Z pc l st M → K pc l st M) → zex G mi_SL_size Z cu_SL_size cd_SL_size 300 0 [(0, zi a0)] [] M K) : Ctr 0 G mi_SL_size [zi a0] M Z := z_start ok_SL_size rfl rfl h
theorem go_T_isBraid {G : ZG} {Z : Option ZV → ZM → Prop} {M : ZM} {a0 : Int32} (h : ∀ K : Nat → ZL → List ZV → ZM → Prop, (∀ pc l st M, V 0 G mi_T_isBraid Z pc l st M → K pc l st M) → zex G mi_T_isBraid Z cu_T_isBraid cd_T_isBraid 300 0 [(0, zi a0)] [] M K) : Ctr 0 G mi_T_isBraid [zi a0] M Z := z_start ok_T_isBraid rfl rfl h
theorem go_T_isPlace {G : ZG} {Z : Option ZV → ZM → Prop} {M : ZM} {a0 : Int32} (h : ∀ K : Nat → ZL → List ZV → ZM → Prop, (∀ pc l st M, V 0 G mi_T_isPlace Z pc l st M → K pc l st M) → zex G mi_T_isPlace Z cu_T_isPlace cd_T_isPlace 300 0 [(0, zi a0)] [] M K) : Ctr 0 G mi_T_isPlace [zi a0] M Z := z_start ok_T_isPlace rfl rfl h
theorem go_T_isTupleLength {G : ZG} {Z : Option ZV → ZM → Prop} {M : ZM} {a0 : Int32} (h : ∀ K : Nat → ZL → List ZV → ZM → Prop, (∀ pc l st M, V 0 G mi_T_isTupleLength Z pc l st M → K pc l st M) → zex G mi_T_isTupleLength Z cu_T_isTupleLength cd_T_isTupleLength 300 0 [(0, zi a0)] [] M K) : Ctr 0 G mi_T_isTupleLength [zi a0] M Z := z_start ok_T_isTupleLength rfl rfl h
theorem go_WC_smallest {G : ZG} {Z : Option ZV → ZM → Prop} {M : ZM} {a0 : Int32} (h : ∀ K : Nat → ZL → List ZV → ZM → Prop, (∀ pc l st M, V 0 G mi_WC_smallest Z pc l st M → K pc l st M) → zex G mi_WC_smallest Z cu_WC_smallest cd_WC_smallest 300 0 [(0, zr 16 0), (1, zi a0)] [] M K) : Ctr 0 G mi_WC_smallest [zr 16 0, zi a0] M Z := z_start ok_WC_smallest rfl rfl h
theorem go_AC_areTwins {G : ZG} {Z : Option ZV → ZM → Prop} {M : ZM} {a0 : Nat} {a1 : Int32} {a2 : Int32} (h : ∀ K : Nat → ZL → List ZV → ZM → Prop, (∀ pc l st M, V 0 G mi_AC_areTwins Z pc l st M → K pc l st M) → zex G mi_AC_areTwins Z cu_AC_areTwins cd_AC_areTwins 300 0 [(0, zr 0 a0), (1, zi a1), (2, zi a2)] [] M K) : Ctr 0 G mi_AC_areTwins [zr 0 a0, zi a1, zi a2] M Z := z_start ok_AC_areTwins rfl rfl h
theorem go_AC_makeRetraction {G : ZG} {Z : Option ZV → ZM → Prop} {M : ZM} {a0 : Nat} {a1 : Nat} (h : ∀ K : Nat → ZL → List ZV → ZM → Prop, (∀ pc l st M, V 0 G mi_AC_makeRetraction Z pc l st M → K pc l st M) → zex G mi_AC_makeRetraction Z cu_AC_makeRetraction cd_AC_makeRetraction 300 0 [(0, zr 8 0), (1, zr 0 a0), (2, zr 0 a1)] [] M K) : Ctr 0 G mi_AC_makeRetraction [zr 8 0, zr 0 a0, zr 0 a1] M Z := z_start ok_AC_makeRetraction rfl rfl h
theorem go_AL_areUnits {G : ZG} {Z : Option ZV → ZM → Prop} {M : ZM} {a0 : Int32} {a1 : Int32} (h : ∀ K : Nat → ZL → List ZV → ZM → Prop, (∀ pc l st M, V 0 G mi_AL_areUnits Z pc l st M → K pc l st M) → zex G mi_AL_areUnits Z cu_AL_areUnits cd_AL_areUnits 300 0 [(0, zi a0), (1, zi a1)] [] M K) : Ctr 0 G mi_AL_areUnits [zi a0, zi a1] M Z := z_start ok_AL_areUnits rfl rfl h
theorem go_AL_makeBraceMap {G : ZG} {Z : Option ZV → ZM → Prop} {M : ZM} {a0 : Nat} {a1 : Int32} {a2 : Int32} (h : ∀ K : Nat → ZL → List ZV → ZM → Prop, (∀ pc l st M, V 0 G mi_AL_makeBraceMap Z pc l st M → K pc l st M) → zex G mi_AL_makeBraceMap Z cu_AL_makeBraceMap cd_AL_makeBraceMap 300 0 [(0, zr 0 a0), (1, zi a1), (2, zi a2)] [] M K) : Ctr 0 G mi_AL_makeBraceMap [zr 0 a0, zi a1, zi a2] M Z := z_start ok_AL_makeBraceMap rfl rfl h
theorem go_AL_makeGroupMap {G : ZG} {Z : Option ZV → ZM → Prop} {M : ZM} {a0 : Nat} {a1 : Int32} {a2 : Int32} (h : ∀ K : Nat → ZL → List ZV → ZM → Prop, (∀ pc l st M, V 0 G mi_AL_makeGroupMap Z pc l st M → K pc l st M) → zex G mi_AL_makeGroupMap Z cu_AL_makeGroupMap cd_AL_makeGroupMap 300 0 [(0, zr 0 a0), (1, zi a1), (2, zi a2)] [] M K) : Ctr 0 G mi_AL_makeGroupMap [zr 0 a0, zi a1, zi a2] M Z := z_start ok_AL_makeGroupMap rfl rfl h
theorem go_AL_nextUnits {G : ZG} {Z : Option ZV → ZM → Prop} {M : ZM} {a0 : Int32} {a1 : Int32} (h : ∀ K : Nat → ZL → List ZV → ZM → Prop, (∀ pc l st M, V 0 G mi_AL_nextUnits Z pc l st M → K pc l st M) → zex G mi_AL_nextUnits Z cu_AL_nextUnits cd_AL_nextUnits 300 0 [(0, zi a0), (1, zi a1)] [] M K) : Ctr 0 G mi_AL_nextUnits [zi a0, zi a1] M Z := z_start ok_AL_nextUnits rfl rfl h
theorem go_BA_resultOf {G : ZG} {Z : Option ZV → ZM → Prop} {M : ZM} {a0 : Nat} {a1 : Int32} {a2 : Int32} (h : ∀ K : Nat → ZL → List ZV → ZM → Prop, (∀ pc l st M, V 0 G mi_BA_resultOf Z pc l st M → K pc l st M) → zex G mi_BA_resultOf Z cu_BA_resultOf cd_BA_resultOf 300 0 [(0, zr 18 0), (1, zr 2 a0), (2, zi a1), (3, zi a2)] [] M K) : Ctr 0 G mi_BA_resultOf [zr 18 0, zr 2 a0, zi a1, zi a2] M Z := z_start ok_BA_resultOf rfl rfl h
theorem go_BR_hasCapital {G : ZG} {Z : Option ZV → ZM → Prop} {M : ZM} {k : Nat} (h : ∀ K : Nat → ZL → List ZV → ZM → Prop, (∀ pc l st M, V 0 G mi_BR_hasCapital Z pc l st M → K pc l st M) → zex G mi_BR_hasCapital Z cu_BR_hasCapital cd_BR_hasCapital 300 0 [(0, zr 2 k)] [] M K) : Ctr 0 G mi_BR_hasCapital [zr 2 k] M Z := z_start ok_BR_hasCapital rfl rfl h
theorem go_BR_strands {G : ZG} {Z : Option ZV → ZM → Prop} {M : ZM} {k : Nat} (h : ∀ K : Nat → ZL → List ZV → ZM → Prop, (∀ pc l st M, V 0 G mi_BR_strands Z pc l st M → K pc l st M) → zex G mi_BR_strands Z cu_BR_strands cd_BR_strands 300 0 [(0, zr 2 k)] [] M K) : Ctr 0 G mi_BR_strands [zr 2 k] M Z := z_start ok_BR_strands rfl rfl h
theorem go_CH_isBroken {G : ZG} {Z : Option ZV → ZM → Prop} {M : ZM} {a0 : Nat} {a1 : Int32} (h : ∀ K : Nat → ZL → List ZV → ZM → Prop, (∀ pc l st M, V 0 G mi_CH_isBroken Z pc l st M → K pc l st M) → zex G mi_CH_isBroken Z cu_CH_isBroken cd_CH_isBroken 300 0 [(0, zr 0 a0), (1, zi a1)] [] M K) : Ctr 0 G mi_CH_isBroken [zr 0 a0, zi a1] M Z := z_start ok_CH_isBroken rfl rfl h
theorem go_CH_isLeftNondegenerate {G : ZG} {Z : Option ZV → ZM → Prop} {M : ZM} {a0 : Nat} (h : ∀ K : Nat → ZL → List ZV → ZM → Prop, (∀ pc l st M, V 0 G mi_CH_isLeftNondegenerate Z pc l st M → K pc l st M) → zex G mi_CH_isLeftNondegenerate Z cu_CH_isLeftNondegenerate cd_CH_isLeftNondegenerate 300 0 [(0, zr 0 a0)] [] M K) : Ctr 0 G mi_CH_isLeftNondegenerate [zr 0 a0] M Z := z_start ok_CH_isLeftNondegenerate rfl rfl h
theorem go_CH_isRightNondegenerate {G : ZG} {Z : Option ZV → ZM → Prop} {M : ZM} {a0 : Nat} (h : ∀ K : Nat → ZL → List ZV → ZM → Prop, (∀ pc l st M, V 0 G mi_CH_isRightNondegenerate Z pc l st M → K pc l st M) → zex G mi_CH_isRightNondegenerate Z cu_CH_isRightNondegenerate cd_CH_isRightNondegenerate 300 0 [(0, zr 0 a0)] [] M K) : Ctr 0 G mi_CH_isRightNondegenerate [zr 0 a0] M Z := z_start ok_CH_isRightNondegenerate rfl rfl h
theorem go_CH_periodOf {G : ZG} {Z : Option ZV → ZM → Prop} {M : ZM} {a0 : Nat} (h : ∀ K : Nat → ZL → List ZV → ZM → Prop, (∀ pc l st M, V 0 G mi_CH_periodOf Z pc l st M → K pc l st M) → zex G mi_CH_periodOf Z cu_CH_periodOf cd_CH_periodOf 300 0 [(0, zr 0 a0)] [] M K) : Ctr 0 G mi_CH_periodOf [zr 0 a0] M Z := z_start ok_CH_periodOf rfl rfl h
theorem go_CH_withImages {G : ZG} {Z : Option ZV → ZM → Prop} {M : ZM} {a0 : Nat} {a1 : Int32} (h : ∀ K : Nat → ZL → List ZV → ZM → Prop, (∀ pc l st M, V 0 G mi_CH_withImages Z pc l st M → K pc l st M) → zex G mi_CH_withImages Z cu_CH_withImages cd_CH_withImages 300 0 [(0, zr 0 a0), (1, zi a1)] [] M K) : Ctr 0 G mi_CH_withImages [zr 0 a0, zi a1] M Z := z_start ok_CH_withImages rfl rfl h
theorem go_CH_withLinked {G : ZG} {Z : Option ZV → ZM → Prop} {M : ZM} {a0 : Nat} {a1 : Int32} (h : ∀ K : Nat → ZL → List ZV → ZM → Prop, (∀ pc l st M, V 0 G mi_CH_withLinked Z pc l st M → K pc l st M) → zex G mi_CH_withLinked Z cu_CH_withLinked cd_CH_withLinked 300 0 [(0, zr 0 a0), (1, zi a1)] [] M K) : Ctr 0 G mi_CH_withLinked [zr 0 a0, zi a1] M Z := z_start ok_CH_withLinked rfl rfl h
theorem go_CO_isPermutation {G : ZG} {Z : Option ZV → ZM → Prop} {M : ZM} {a0 : Int32} {a1 : Int32} (h : ∀ K : Nat → ZL → List ZV → ZM → Prop, (∀ pc l st M, V 0 G mi_CO_isPermutation Z pc l st M → K pc l st M) → zex G mi_CO_isPermutation Z cu_CO_isPermutation cd_CO_isPermutation 300 0 [(0, zi a0), (1, zi a1)] [] M K) : Ctr 0 G mi_CO_isPermutation [zi a0, zi a1] M Z := z_start ok_CO_isPermutation rfl rfl h
theorem go_PM_becomeInverse {G : ZG} {Z : Option ZV → ZM → Prop} {M : ZM} {k : Nat} {a0 : Nat} (h : ∀ K : Nat → ZL → List ZV → ZM → Prop, (∀ pc l st M, V 0 G mi_PM_becomeInverse Z pc l st M → K pc l st M) → zex G mi_PM_becomeInverse Z cu_PM_becomeInverse cd_PM_becomeInverse 300 0 [(0, zr 0 k), (1, zr 0 a0)] [] M K) : Ctr 0 G mi_PM_becomeInverse [zr 0 k, zr 0 a0] M Z := z_start ok_PM_becomeInverse rfl rfl h
theorem go_PM_becomeMirror {G : ZG} {Z : Option ZV → ZM → Prop} {M : ZM} {k : Nat} {a0 : Nat} (h : ∀ K : Nat → ZL → List ZV → ZM → Prop, (∀ pc l st M, V 0 G mi_PM_becomeMirror Z pc l st M → K pc l st M) → zex G mi_PM_becomeMirror Z cu_PM_becomeMirror cd_PM_becomeMirror 300 0 [(0, zr 0 k), (1, zr 0 a0)] [] M K) : Ctr 0 G mi_PM_becomeMirror [zr 0 k, zr 0 a0] M Z := z_start ok_PM_becomeMirror rfl rfl h
theorem go_PM_becomeRenamed {G : ZG} {Z : Option ZV → ZM → Prop} {M : ZM} {k : Nat} {a0 : Nat} {a1 : Int32} (h : ∀ K : Nat → ZL → List ZV → ZM → Prop, (∀ pc l st M, V 0 G mi_PM_becomeRenamed Z pc l st M → K pc l st M) → zex G mi_PM_becomeRenamed Z cu_PM_becomeRenamed cd_PM_becomeRenamed 300 0 [(0, zr 0 k), (1, zr 0 a0), (2, zi a1)] [] M K) : Ctr 0 G mi_PM_becomeRenamed [zr 0 k, zr 0 a0, zi a1] M Z := z_start ok_PM_becomeRenamed rfl rfl h
theorem go_PM_becomeTwist {G : ZG} {Z : Option ZV → ZM → Prop} {M : ZM} {k : Nat} {a0 : Int32} {a1 : Int32} {a2 : Int32} (h : ∀ K : Nat → ZL → List ZV → ZM → Prop, (∀ pc l st M, V 0 G mi_PM_becomeTwist Z pc l st M → K pc l st M) → zex G mi_PM_becomeTwist Z cu_PM_becomeTwist cd_PM_becomeTwist 300 0 [(0, zr 0 k), (1, zi a0), (2, zi a1), (3, zi a2)] [] M K) : Ctr 0 G mi_PM_becomeTwist [zr 0 k, zi a0, zi a1, zi a2] M Z := z_start ok_PM_becomeTwist rfl rfl h
theorem go_PM_setBlock {G : ZG} {Z : Option ZV → ZM → Prop} {M : ZM} {k : Nat} {a0 : Nat} {a1 : Nat} {a2 : Int32} {a3 : Int32} (h : ∀ K : Nat → ZL → List ZV → ZM → Prop, (∀ pc l st M, V 0 G mi_PM_setBlock Z pc l st M → K pc l st M) → zex G mi_PM_setBlock Z cu_PM_setBlock cd_PM_setBlock 300 0 [(0, zr 0 k), (1, zr 0 a0), (2, zr 0 a1), (3, zi a2), (4, zi a3)] [] M K) : Ctr 0 G mi_PM_setBlock [zr 0 k, zr 0 a0, zr 0 a1, zi a2, zi a3] M Z := z_start ok_PM_setBlock rfl rfl h
theorem go_PM_setShifted {G : ZG} {Z : Option ZV → ZM → Prop} {M : ZM} {k : Nat} {a0 : Nat} {a1 : Int32} (h : ∀ K : Nat → ZL → List ZV → ZM → Prop, (∀ pc l st M, V 0 G mi_PM_setShifted Z pc l st M → K pc l st M) → zex G mi_PM_setShifted Z cu_PM_setShifted cd_PM_setShifted 300 0 [(0, zr 0 k), (1, zr 0 a0), (2, zi a1)] [] M K) : Ctr 0 G mi_PM_setShifted [zr 0 k, zr 0 a0, zi a1] M Z := z_start ok_PM_setShifted rfl rfl h
theorem go_RG_followedBy {G : ZG} {Z : Option ZV → ZM → Prop} {M : ZM} {a0 : Int32} {a1 : Nat} {a2 : Int32} (h : ∀ K : Nat → ZL → List ZV → ZM → Prop, (∀ pc l st M, V 0 G mi_RG_followedBy Z pc l st M → K pc l st M) → zex G mi_RG_followedBy Z cu_RG_followedBy cd_RG_followedBy 300 0 [(0, zi a0), (1, zr 0 a1), (2, zi a2)] [] M K) : Ctr 0 G mi_RG_followedBy [zi a0, zr 0 a1, zi a2] M Z := z_start ok_RG_followedBy rfl rfl h
theorem go_RN_renamedRows {G : ZG} {Z : Option ZV → ZM → Prop} {M : ZM} {a0 : Nat} (h : ∀ K : Nat → ZL → List ZV → ZM → Prop, (∀ pc l st M, V 0 G mi_RN_renamedRows Z pc l st M → K pc l st M) → zex G mi_RN_renamedRows Z cu_RN_renamedRows cd_RN_renamedRows 300 0 [(0, zr 11 0), (1, zr 0 a0)] [] M K) : Ctr 0 G mi_RN_renamedRows [zr 11 0, zr 0 a0] M Z := z_start ok_RN_renamedRows rfl rfl h
theorem go_RN_step {G : ZG} {Z : Option ZV → ZM → Prop} {M : ZM} {a0 : Int32} (h : ∀ K : Nat → ZL → List ZV → ZM → Prop, (∀ pc l st M, V 0 G mi_RN_step Z pc l st M → K pc l st M) → zex G mi_RN_step Z cu_RN_step cd_RN_step 300 0 [(0, zr 11 0), (1, zi a0)] [] M K) : Ctr 0 G mi_RN_step [zr 11 0, zi a0] M Z := z_start ok_RN_step rfl rfl h
theorem go_SL_columnOf {G : ZG} {Z : Option ZV → ZM → Prop} {M : ZM} {a0 : Int64} {a1 : Int32} {a2 : Int32} {a3 : Int32} (h : ∀ K : Nat → ZL → List ZV → ZM → Prop, (∀ pc l st M, V 0 G mi_SL_columnOf Z pc l st M → K pc l st M) → zex G mi_SL_columnOf Z cu_SL_columnOf cd_SL_columnOf 300 0 [(0, zl a0), (2, zi a1), (3, zi a2), (4, zi a3)] [] M K) : Ctr 0 G mi_SL_columnOf [zl a0, zi a1, zi a2, zi a3] M Z := z_start ok_SL_columnOf rfl rfl h
theorem go_T_braidAt {G : ZG} {Z : Option ZV → ZM → Prop} {M : ZM} {a0 : Int32} (h : ∀ K : Nat → ZL → List ZV → ZM → Prop, (∀ pc l st M, V 0 G mi_T_braidAt Z pc l st M → K pc l st M) → zex G mi_T_braidAt Z cu_T_braidAt cd_T_braidAt 300 0 [(0, zr 5 0), (1, zi a0)] [] M K) : Ctr 0 G mi_T_braidAt [zr 5 0, zi a0] M Z := z_start ok_T_braidAt rfl rfl h
theorem go_T_keepMade {G : ZG} {Z : Option ZV → ZM → Prop} {M : ZM} {a0 : Int32} (h : ∀ K : Nat → ZL → List ZV → ZM → Prop, (∀ pc l st M, V 0 G mi_T_keepMade Z pc l st M → K pc l st M) → zex G mi_T_keepMade Z cu_T_keepMade cd_T_keepMade 300 0 [(0, zr 5 0), (1, zi a0)] [] M K) : Ctr 0 G mi_T_keepMade [zr 5 0, zi a0] M Z := z_start ok_T_keepMade rfl rfl h
theorem go_T_listed {G : ZG} {Z : Option ZV → ZM → Prop} {M : ZM} {a0 : Int32} (h : ∀ K : Nat → ZL → List ZV → ZM → Prop, (∀ pc l st M, V 0 G mi_T_listed Z pc l st M → K pc l st M) → zex G mi_T_listed Z cu_T_listed cd_T_listed 300 0 [(0, zr 5 0), (1, zi a0)] [] M K) : Ctr 0 G mi_T_listed [zr 5 0, zi a0] M Z := z_start ok_T_listed rfl rfl h
theorem go_T_mapAt {G : ZG} {Z : Option ZV → ZM → Prop} {M : ZM} {a0 : Int32} (h : ∀ K : Nat → ZL → List ZV → ZM → Prop, (∀ pc l st M, V 0 G mi_T_mapAt Z pc l st M → K pc l st M) → zex G mi_T_mapAt Z cu_T_mapAt cd_T_mapAt 300 0 [(0, zr 5 0), (1, zi a0)] [] M K) : Ctr 0 G mi_T_mapAt [zr 5 0, zi a0] M Z := z_start ok_T_mapAt rfl rfl h
theorem go_WC_join {G : ZG} {Z : Option ZV → ZM → Prop} {M : ZM} {a0 : Int32} {a1 : Int32} (h : ∀ K : Nat → ZL → List ZV → ZM → Prop, (∀ pc l st M, V 0 G mi_WC_join Z pc l st M → K pc l st M) → zex G mi_WC_join Z cu_WC_join cd_WC_join 300 0 [(0, zr 16 0), (1, zi a0), (2, zi a1)] [] M K) : Ctr 0 G mi_WC_join [zr 16 0, zi a0, zi a1] M Z := z_start ok_WC_join rfl rfl h
theorem go_AC_smallestTwin {G : ZG} {Z : Option ZV → ZM → Prop} {M : ZM} {a0 : Nat} {a1 : Int32} (h : ∀ K : Nat → ZL → List ZV → ZM → Prop, (∀ pc l st M, V 0 G mi_AC_smallestTwin Z pc l st M → K pc l st M) → zex G mi_AC_smallestTwin Z cu_AC_smallestTwin cd_AC_smallestTwin 300 0 [(0, zr 0 a0), (1, zi a1)] [] M K) : Ctr 0 G mi_AC_smallestTwin [zr 0 a0, zi a1] M Z := z_start ok_AC_smallestTwin rfl rfl h
theorem go_AL_braceAt {G : ZG} {Z : Option ZV → ZM → Prop} {M : ZM} {a0 : Int32} {a1 : Int32} (h : ∀ K : Nat → ZL → List ZV → ZM → Prop, (∀ pc l st M, V 0 G mi_AL_braceAt Z pc l st M → K pc l st M) → zex G mi_AL_braceAt Z cu_AL_braceAt cd_AL_braceAt 300 0 [(0, zi a0), (1, zi a1)] [] M K) : Ctr 0 G mi_AL_braceAt [zi a0, zi a1] M Z := z_start ok_AL_braceAt rfl rfl h
theorem go_AL_braceNumber {G : ZG} {Z : Option ZV → ZM → Prop} {M : ZM} {a0 : Int32} (h : ∀ K : Nat → ZL → List ZV → ZM → Prop, (∀ pc l st M, V 0 G mi_AL_braceNumber Z pc l st M → K pc l st M) → zex G mi_AL_braceNumber Z cu_AL_braceNumber cd_AL_braceNumber 300 0 [(0, zi a0)] [] M K) : Ctr 0 G mi_AL_braceNumber [zi a0] M Z := z_start ok_AL_braceNumber rfl rfl h
theorem go_BA_cycleLength {G : ZG} {Z : Option ZV → ZM → Prop} {M : ZM} {a0 : Nat} {a1 : Int32} {a2 : Int32} (h : ∀ K : Nat → ZL → List ZV → ZM → Prop, (∀ pc l st M, V 0 G mi_BA_cycleLength Z pc l st M → K pc l st M) → zex G mi_BA_cycleLength Z cu_BA_cycleLength cd_BA_cycleLength 300 0 [(0, zr 18 0), (1, zr 2 a0), (2, zi a1), (3, zi a2)] [] M K) : Ctr 0 G mi_BA_cycleLength [zr 18 0, zr 2 a0, zi a1, zi a2] M Z := z_start ok_BA_cycleLength rfl rfl h
theorem go_BA_firstDifference {G : ZG} {Z : Option ZV → ZM → Prop} {M : ZM} {a0 : Nat} {a1 : Nat} {a2 : Int32} (h : ∀ K : Nat → ZL → List ZV → ZM → Prop, (∀ pc l st M, V 0 G mi_BA_firstDifference Z pc l st M → K pc l st M) → zex G mi_BA_firstDifference Z cu_BA_firstDifference cd_BA_firstDifference 300 0 [(0, zr 18 0), (1, zr 2 a0), (2, zr 2 a1), (3, zi a2)] [] M K) : Ctr 0 G mi_BA_firstDifference [zr 18 0, zr 2 a0, zr 2 a1, zi a2] M Z := z_start ok_BA_firstDifference rfl rfl h
theorem go_BA_fixedTuples {G : ZG} {Z : Option ZV → ZM → Prop} {M : ZM} {a0 : Nat} {a1 : Int32} (h : ∀ K : Nat → ZL → List ZV → ZM → Prop, (∀ pc l st M, V 0 G mi_BA_fixedTuples Z pc l st M → K pc l st M) → zex G mi_BA_fixedTuples Z cu_BA_fixedTuples cd_BA_fixedTuples 300 0 [(0, zr 18 0), (1, zr 2 a0), (2, zi a1)] [] M K) : Ctr 0 G mi_BA_fixedTuples [zr 18 0, zr 2 a0, zi a1] M Z := z_start ok_BA_fixedTuples rfl rfl h
theorem go_BA_isFit {G : ZG} {Z : Option ZV → ZM → Prop} {M : ZM} {a0 : Nat} {a1 : Nat} {a2 : Int32} (h : ∀ K : Nat → ZL → List ZV → ZM → Prop, (∀ pc l st M, V 0 G mi_BA_isFit Z pc l st M → K pc l st M) → zex G mi_BA_isFit Z cu_BA_isFit cd_BA_isFit 300 0 [(0, zr 0 a0), (1, zr 2 a1), (2, zi a2)] [] M K) : Ctr 0 G mi_BA_isFit [zr 0 a0, zr 2 a1, zi a2] M Z := z_start ok_BA_isFit rfl rfl h
theorem go_BA_prepare {G : ZG} {Z : Option ZV → ZM → Prop} {M : ZM} {a0 : Nat} (h : ∀ K : Nat → ZL → List ZV → ZM → Prop, (∀ pc l st M, V 0 G mi_BA_prepare Z pc l st M → K pc l st M) → zex G mi_BA_prepare Z cu_BA_prepare cd_BA_prepare 300 0 [(0, zr 18 0), (1, zr 0 a0)] [] M K) : Ctr 0 G mi_BA_prepare [zr 18 0, zr 0 a0] M Z := z_start ok_BA_prepare rfl rfl h
theorem go_CH_brokenTripleAt {G : ZG} {Z : Option ZV → ZM → Prop} {M : ZM} {a0 : Nat} {a1 : Int32} (h : ∀ K : Nat → ZL → List ZV → ZM → Prop, (∀ pc l st M, V 0 G mi_CH_brokenTripleAt Z pc l st M → K pc l st M) → zex G mi_CH_brokenTripleAt Z cu_CH_brokenTripleAt cd_CH_brokenTripleAt 300 0 [(0, zr 0 a0), (1, zi a1)] [] M K) : Ctr 0 G mi_CH_brokenTripleAt [zr 0 a0, zi a1] M Z := z_start ok_CH_brokenTripleAt rfl rfl h
theorem go_CH_brokenTriples {G : ZG} {Z : Option ZV → ZM → Prop} {M : ZM} {a0 : Nat} (h : ∀ K : Nat → ZL → List ZV → ZM → Prop, (∀ pc l st M, V 0 G mi_CH_brokenTriples Z pc l st M → K pc l st M) → zex G mi_CH_brokenTriples Z cu_CH_brokenTriples cd_CH_brokenTriples 300 0 [(0, zr 0 a0)] [] M K) : Ctr 0 G mi_CH_brokenTriples [zr 0 a0] M Z := z_start ok_CH_brokenTriples rfl rfl h
theorem go_CH_closedSets {G : ZG} {Z : Option ZV → ZM → Prop} {M : ZM} {a0 : Nat} (h : ∀ K : Nat → ZL → List ZV → ZM → Prop, (∀ pc l st M, V 0 G mi_CH_closedSets Z pc l st M → K pc l st M) → zex G mi_CH_closedSets Z cu_CH_closedSets cd_CH_closedSets 300 0 [(0, zr 0 a0)] [] M K) : Ctr 0 G mi_CH_closedSets [zr 0 a0] M Z := z_start ok_CH_closedSets rfl rfl h
theorem go_CH_closureOf {G : ZG} {Z : Option ZV → ZM → Prop} {M : ZM} {a0 : Nat} {a1 : Int32} (h : ∀ K : Nat → ZL → List ZV → ZM → Prop, (∀ pc l st M, V 0 G mi_CH_closureOf Z pc l st M → K pc l st M) → zex G mi_CH_closureOf Z cu_CH_closureOf cd_CH_closureOf 300 0 [(0, zr 0 a0), (1, zi a1)] [] M K) : Ctr 0 G mi_CH_closureOf [zr 0 a0, zi a1] M Z := z_start ok_CH_closureOf rfl rfl h
theorem go_CH_orbitOf {G : ZG} {Z : Option ZV → ZM → Prop} {M : ZM} {a0 : Nat} {a1 : Int32} (h : ∀ K : Nat → ZL → List ZV → ZM → Prop, (∀ pc l st M, V 0 G mi_CH_orbitOf Z pc l st M → K pc l st M) → zex G mi_CH_orbitOf Z cu_CH_orbitOf cd_CH_orbitOf 300 0 [(0, zr 0 a0), (1, zi a1)] [] M K) : Ctr 0 G mi_CH_orbitOf [zr 0 a0, zi a1] M Z := z_start ok_CH_orbitOf rfl rfl h
theorem go_PM_becomeFlip {G : ZG} {Z : Option ZV → ZM → Prop} {M : ZM} {k : Nat} {a0 : Int32} (h : ∀ K : Nat → ZL → List ZV → ZM → Prop, (∀ pc l st M, V 0 G mi_PM_becomeFlip Z pc l st M → K pc l st M) → zex G mi_PM_becomeFlip Z cu_PM_becomeFlip cd_PM_becomeFlip 300 0 [(0, zr 0 k), (1, zi a0)] [] M K) : Ctr 0 G mi_PM_becomeFlip [zr 0 k, zi a0] M Z := z_start ok_PM_becomeFlip rfl rfl h
theorem go_PM_becomeProduct {G : ZG} {Z : Option ZV → ZM → Prop} {M : ZM} {k : Nat} {a0 : Nat} {a1 : Nat} (h : ∀ K : Nat → ZL → List ZV → ZM → Prop, (∀ pc l st M, V 0 G mi_PM_becomeProduct Z pc l st M → K pc l st M) → zex G mi_PM_becomeProduct Z cu_PM_becomeProduct cd_PM_becomeProduct 300 0 [(0, zr 0 k), (1, zr 0 a0), (2, zr 0 a1)] [] M K) : Ctr 0 G mi_PM_becomeProduct [zr 0 k, zr 0 a0, zr 0 a1] M Z := z_start ok_PM_becomeProduct rfl rfl h
theorem go_RG_orderFor {G : ZG} {Z : Option ZV → ZM → Prop} {M : ZM} {a0 : Nat} (h : ∀ K : Nat → ZL → List ZV → ZM → Prop, (∀ pc l st M, V 0 G mi_RG_orderFor Z pc l st M → K pc l st M) → zex G mi_RG_orderFor Z cu_RG_orderFor cd_RG_orderFor 300 0 [(0, zr 13 0), (1, zr 0 a0)] [] M K) : Ctr 0 G mi_RG_orderFor [zr 13 0, zr 0 a0] M Z := z_start ok_RG_orderFor rfl rfl h
theorem go_RN_isomorphismAt {G : ZG} {Z : Option ZV → ZM → Prop} {M : ZM} {a0 : Nat} {a1 : Nat} {a2 : Int32} (h : ∀ K : Nat → ZL → List ZV → ZM → Prop, (∀ pc l st M, V 0 G mi_RN_isomorphismAt Z pc l st M → K pc l st M) → zex G mi_RN_isomorphismAt Z cu_RN_isomorphismAt cd_RN_isomorphismAt 300 0 [(0, zr 11 0), (1, zr 0 a0), (2, zr 0 a1), (3, zi a2)] [] M K) : Ctr 0 G mi_RN_isomorphismAt [zr 11 0, zr 0 a0, zr 0 a1, zi a2] M Z := z_start ok_RN_isomorphismAt rfl rfl h
theorem go_RN_isomorphisms {G : ZG} {Z : Option ZV → ZM → Prop} {M : ZM} {a0 : Nat} {a1 : Nat} (h : ∀ K : Nat → ZL → List ZV → ZM → Prop, (∀ pc l st M, V 0 G mi_RN_isomorphisms Z pc l st M → K pc l st M) → zex G mi_RN_isomorphisms Z cu_RN_isomorphisms cd_RN_isomorphisms 300 0 [(0, zr 11 0), (1, zr 0 a0), (2, zr 0 a1)] [] M K) : Ctr 0 G mi_RN_isomorphisms [zr 11 0, zr 0 a0, zr 0 a1] M Z := z_start ok_RN_isomorphisms rfl rfl h
theorem go_RN_smallestRows {G : ZG} {Z : Option ZV → ZM → Prop} {M : ZM} {a0 : Nat} (h : ∀ K : Nat → ZL → List ZV → ZM → Prop, (∀ pc l st M, V 0 G mi_RN_smallestRows Z pc l st M → K pc l st M) → zex G mi_RN_smallestRows Z cu_RN_smallestRows cd_RN_smallestRows 300 0 [(0, zr 11 0), (1, zr 0 a0)] [] M K) : Ctr 0 G mi_RN_smallestRows [zr 11 0, zr 0 a0] M Z := z_start ok_RN_smallestRows rfl rfl h
theorem go_SL_makeMap {G : ZG} {Z : Option ZV → ZM → Prop} {M : ZM} {a0 : Nat} {a1 : Int32} {a2 : Int32} (h : ∀ K : Nat → ZL → List ZV → ZM → Prop, (∀ pc l st M, V 0 G mi_SL_makeMap Z pc l st M → K pc l st M) → zex G mi_SL_makeMap Z cu_SL_makeMap cd_SL_makeMap 300 0 [(0, zr 0 a0), (1, zi a1), (2, zi a2)] [] M K) : Ctr 0 G mi_SL_makeMap [zr 0 a0, zi a1, zi a2] M Z := z_start ok_SL_makeMap rfl rfl h
theorem go_T_brace {G : ZG} {Z : Option ZV → ZM → Prop} {M : ZM} {a0 : Int32} {a1 : Int32} {a2 : Int32} (h : ∀ K : Nat → ZL → List ZV → ZM → Prop, (∀ pc l st M, V 0 G mi_T_brace Z pc l st M → K pc l st M) → zex G mi_T_brace Z cu_T_brace cd_T_brace 300 0 [(0, zr 5 0), (1, zi a0), (2, zi a1), (3, zi a2)] [] M K) : Ctr 0 G mi_T_brace [zr 5 0, zi a0, zi a1, zi a2] M Z := z_start ok_T_brace rfl rfl h
theorem go_T_cell {G : ZG} {Z : Option ZV → ZM → Prop} {M : ZM} {a0 : Int32} {a1 : Int32} {a2 : Int32} {a3 : Int32} (h : ∀ K : Nat → ZL → List ZV → ZM → Prop, (∀ pc l st M, V 0 G mi_T_cell Z pc l st M → K pc l st M) → zex G mi_T_cell Z cu_T_cell cd_T_cell 300 0 [(0, zr 5 0), (1, zi a0), (2, zi a1), (3, zi a2), (4, zi a3)] [] M K) : Ctr 0 G mi_T_cell [zr 5 0, zi a0, zi a1, zi a2, zi a3] M Z := z_start ok_T_cell rfl rfl h
theorem go_T_drop {G : ZG} {Z : Option ZV → ZM → Prop} {M : ZM} {a0 : Int32} (h : ∀ K : Nat → ZL → List ZV → ZM → Prop, (∀ pc l st M, V 0 G mi_T_drop Z pc l st M → K pc l st M) → zex G mi_T_drop Z cu_T_drop cd_T_drop 300 0 [(0, zr 5 0), (1, zi a0)] [] M K) : Ctr 0 G mi_T_drop [zr 5 0, zi a0] M Z := z_start ok_T_drop rfl rfl h
theorem go_T_erase {G : ZG} {Z : Option ZV → ZM → Prop} {M : ZM} {a0 : Int32} (h : ∀ K : Nat → ZL → List ZV → ZM → Prop, (∀ pc l st M, V 0 G mi_T_erase Z pc l st M → K pc l st M) → zex G mi_T_erase Z cu_T_erase cd_T_erase 300 0 [(0, zr 5 0), (1, zi a0)] [] M K) : Ctr 0 G mi_T_erase [zr 5 0, zi a0] M Z := z_start ok_T_erase rfl rfl h
theorem go_T_group {G : ZG} {Z : Option ZV → ZM → Prop} {M : ZM} {a0 : Int32} {a1 : Int32} {a2 : Int32} (h : ∀ K : Nat → ZL → List ZV → ZM → Prop, (∀ pc l st M, V 0 G mi_T_group Z pc l st M → K pc l st M) → zex G mi_T_group Z cu_T_group cd_T_group 300 0 [(0, zr 5 0), (1, zi a0), (2, zi a1), (3, zi a2)] [] M K) : Ctr 0 G mi_T_group [zr 5 0, zi a0, zi a1, zi a2] M Z := z_start ok_T_group rfl rfl h
theorem go_T_invert {G : ZG} {Z : Option ZV → ZM → Prop} {M : ZM} {a0 : Int32} {a1 : Int32} (h : ∀ K : Nat → ZL → List ZV → ZM → Prop, (∀ pc l st M, V 0 G mi_T_invert Z pc l st M → K pc l st M) → zex G mi_T_invert Z cu_T_invert cd_T_invert 300 0 [(0, zr 5 0), (1, zi a0), (2, zi a1)] [] M K) : Ctr 0 G mi_T_invert [zr 5 0, zi a0, zi a1] M Z := z_start ok_T_invert rfl rfl h
theorem go_T_mapsHeld {G : ZG} {Z : Option ZV → ZM → Prop} {M : ZM}  (h : ∀ K : Nat → ZL → List ZV → ZM → Prop, (∀ pc l st M, V 0 G mi_T_mapsHeld Z pc l st M → K pc l st M) → zex G mi_T_mapsHeld Z cu_T_mapsHeld cd_T_mapsHeld 300 0 [(0, zr 5 0)] [] M K) : Ctr 0 G mi_T_mapsHeld [zr 5 0] M Z := z_start ok_T_mapsHeld rfl rfl h
theorem go_T_mirror {G : ZG} {Z : Option ZV → ZM → Prop} {M : ZM} {a0 : Int32} {a1 : Int32} (h : ∀ K : Nat → ZL → List ZV → ZM → Prop, (∀ pc l st M, V 0 G mi_T_mirror Z pc l st M → K pc l st M) → zex G mi_T_mirror Z cu_T_mirror cd_T_mirror 300 0 [(0, zr 5 0), (1, zi a0), (2, zi a1)] [] M K) : Ctr 0 G mi_T_mirror [zr 5 0, zi a0, zi a1] M Z := z_start ok_T_mirror rfl rfl h
theorem go_T_pointsHeld {G : ZG} {Z : Option ZV → ZM → Prop} {M : ZM}  (h : ∀ K : Nat → ZL → List ZV → ZM → Prop, (∀ pc l st M, V 0 G mi_T_pointsHeld Z pc l st M → K pc l st M) → zex G mi_T_pointsHeld Z cu_T_pointsHeld cd_T_pointsHeld 300 0 [(0, zr 5 0)] [] M K) : Ctr 0 G mi_T_pointsHeld [zr 5 0] M Z := z_start ok_T_pointsHeld rfl rfl h
theorem go_T_power {G : ZG} {Z : Option ZV → ZM → Prop} {M : ZM} {a0 : Int32} {a1 : Int32} {a2 : Int32} {a3 : Int32} (h : ∀ K : Nat → ZL → List ZV → ZM → Prop, (∀ pc l st M, V 0 G mi_T_power Z pc l st M → K pc l st M) → zex G mi_T_power Z cu_T_power cd_T_power 300 0 [(0, zr 5 0), (1, zi a0), (2, zi a1), (3, zi a2), (4, zi a3)] [] M K) : Ctr 0 G mi_T_power [zr 5 0, zi a0, zi a1, zi a2, zi a3] M Z := z_start ok_T_power rfl rfl h
theorem go_T_put {G : ZG} {Z : Option ZV → ZM → Prop} {M : ZM} {a0 : Int32} {a1 : Int32} {a2 : Int32} {a3 : Int32} {a4 : Int32} (h : ∀ K : Nat → ZL → List ZV → ZM → Prop, (∀ pc l st M, V 0 G mi_T_put Z pc l st M → K pc l st M) → zex G mi_T_put Z cu_T_put cd_T_put 300 0 [(0, zr 5 0), (1, zi a0), (2, zi a1), (3, zi a2), (4, zi a3), (5, zi a4)] [] M K) : Ctr 0 G mi_T_put [zr 5 0, zi a0, zi a1, zi a2, zi a3, zi a4] M Z := z_start ok_T_put rfl rfl h
theorem go_T_rename {G : ZG} {Z : Option ZV → ZM → Prop} {M : ZM} {a0 : Int32} {a1 : Int32} {a2 : Int32} (h : ∀ K : Nat → ZL → List ZV → ZM → Prop, (∀ pc l st M, V 0 G mi_T_rename Z pc l st M → K pc l st M) → zex G mi_T_rename Z cu_T_rename cd_T_rename 300 0 [(0, zr 5 0), (1, zi a0), (2, zi a1), (3, zi a2)] [] M K) : Ctr 0 G mi_T_rename [zr 5 0, zi a0, zi a1, zi a2] M Z := z_start ok_T_rename rfl rfl h
theorem go_T_twist {G : ZG} {Z : Option ZV → ZM → Prop} {M : ZM} {a0 : Int32} {a1 : Int32} {a2 : Int32} {a3 : Int32} (h : ∀ K : Nat → ZL → List ZV → ZM → Prop, (∀ pc l st M, V 0 G mi_T_twist Z pc l st M → K pc l st M) → zex G mi_T_twist Z cu_T_twist cd_T_twist 300 0 [(0, zr 5 0), (1, zi a0), (2, zi a1), (3, zi a2), (4, zi a3)] [] M K) : Ctr 0 G mi_T_twist [zr 5 0, zi a0, zi a1, zi a2, zi a3] M Z := z_start ok_T_twist rfl rfl h
theorem go_T_write {G : ZG} {Z : Option ZV → ZM → Prop} {M : ZM} {a0 : Int32} {a1 : Int32} (h : ∀ K : Nat → ZL → List ZV → ZM → Prop, (∀ pc l st M, V 0 G mi_T_write Z pc l st M → K pc l st M) → zex G mi_T_write Z cu_T_write cd_T_write 300 0 [(0, zr 5 0), (1, zi a0), (2, zi a1)] [] M K) : Ctr 0 G mi_T_write [zr 5 0, zi a0, zi a1] M Z := z_start ok_T_write rfl rfl h
theorem go_WC_find {G : ZG} {Z : Option ZV → ZM → Prop} {M : ZM} {a0 : Nat} {a1 : Int32} (h : ∀ K : Nat → ZL → List ZV → ZM → Prop, (∀ pc l st M, V 0 G mi_WC_find Z pc l st M → K pc l st M) → zex G mi_WC_find Z cu_WC_find cd_WC_find 300 0 [(0, zr 16 0), (1, zr 0 a0), (2, zi a1)] [] M K) : Ctr 0 G mi_WC_find [zr 16 0, zr 0 a0, zi a1] M Z := z_start ok_WC_find rfl rfl h
theorem go_AC_find {G : ZG} {Z : Option ZV → ZM → Prop} {M : ZM} {a0 : Nat} (h : ∀ K : Nat → ZL → List ZV → ZM → Prop, (∀ pc l st M, V 0 G mi_AC_find Z pc l st M → K pc l st M) → zex G mi_AC_find Z cu_AC_find cd_AC_find 300 0 [(0, zr 8 0), (1, zr 0 a0)] [] M K) : Ctr 0 G mi_AC_find [zr 8 0, zr 0 a0] M Z := z_start ok_AC_find rfl rfl h
theorem go_BA_periodOf {G : ZG} {Z : Option ZV → ZM → Prop} {M : ZM} {a0 : Nat} {a1 : Int32} (h : ∀ K : Nat → ZL → List ZV → ZM → Prop, (∀ pc l st M, V 0 G mi_BA_periodOf Z pc l st M → K pc l st M) → zex G mi_BA_periodOf Z cu_BA_periodOf cd_BA_periodOf 300 0 [(0, zr 18 0), (1, zr 2 a0), (2, zi a1)] [] M K) : Ctr 0 G mi_BA_periodOf [zr 18 0, zr 2 a0, zi a1] M Z := z_start ok_BA_periodOf rfl rfl h
theorem go_CH_orbits {G : ZG} {Z : Option ZV → ZM → Prop} {M : ZM} {a0 : Nat} (h : ∀ K : Nat → ZL → List ZV → ZM → Prop, (∀ pc l st M, V 0 G mi_CH_orbits Z pc l st M → K pc l st M) → zex G mi_CH_orbits Z cu_CH_orbits cd_CH_orbits 300 0 [(0, zr 0 a0)] [] M K) : Ctr 0 G mi_CH_orbits [zr 0 a0] M Z := z_start ok_CH_orbits rfl rfl h
theorem go_PM_becomeUnion {G : ZG} {Z : Option ZV → ZM → Prop} {M : ZM} {k : Nat} {a0 : Nat} {a1 : Nat} (h : ∀ K : Nat → ZL → List ZV → ZM → Prop, (∀ pc l st M, V 0 G mi_PM_becomeUnion Z pc l st M → K pc l st M) → zex G mi_PM_becomeUnion Z cu_PM_becomeUnion cd_PM_becomeUnion 300 0 [(0, zr 0 k), (1, zr 0 a0), (2, zr 0 a1)] [] M K) : Ctr 0 G mi_PM_becomeUnion [zr 0 k, zr 0 a0, zr 0 a1] M Z := z_start ok_PM_becomeUnion rfl rfl h
theorem go_SL_indexOf {G : ZG} {Z : Option ZV → ZM → Prop} {M : ZM} {a0 : Nat} (h : ∀ K : Nat → ZL → List ZV → ZM → Prop, (∀ pc l st M, V 0 G mi_SL_indexOf Z pc l st M → K pc l st M) → zex G mi_SL_indexOf Z cu_SL_indexOf cd_SL_indexOf 300 0 [(0, zr 0 a0), (1, zr 11 0)] [] M K) : Ctr 0 G mi_SL_indexOf [zr 0 a0, zr 11 0] M Z := z_start ok_SL_indexOf rfl rfl h
theorem go_T_actionError {G : ZG} {Z : Option ZV → ZM → Prop} {M : ZM} {a0 : Int32} {a1 : Int32} {a2 : Int32} (h : ∀ K : Nat → ZL → List ZV → ZM → Prop, (∀ pc l st M, V 0 G mi_T_actionError Z pc l st M → K pc l st M) → zex G mi_T_actionError Z cu_T_actionError cd_T_actionError 300 0 [(0, zr 5 0), (1, zi a0), (2, zi a1), (3, zi a2)] [] M K) : Ctr 0 G mi_T_actionError [zr 5 0, zi a0, zi a1, zi a2] M Z := z_start ok_T_actionError rfl rfl h
theorem go_T_braces {G : ZG} {Z : Option ZV → ZM → Prop} {M : ZM} {a0 : Int32} {a1 : Int32} (h : ∀ K : Nat → ZL → List ZV → ZM → Prop, (∀ pc l st M, V 0 G mi_T_braces Z pc l st M → K pc l st M) → zex G mi_T_braces Z cu_T_braces cd_T_braces 300 0 [(0, zr 5 0), (1, zi a0), (2, zi a1)] [] M K) : Ctr 0 G mi_T_braces [zr 5 0, zi a0, zi a1] M Z := z_start ok_T_braces rfl rfl h
theorem go_T_count {G : ZG} {Z : Option ZV → ZM → Prop} {M : ZM} {a0 : Int32} (h : ∀ K : Nat → ZL → List ZV → ZM → Prop, (∀ pc l st M, V 0 G mi_T_count Z pc l st M → K pc l st M) → zex G mi_T_count Z cu_T_count cd_T_count 300 0 [(0, zr 5 0), (1, zi a0)] [] M K) : Ctr 0 G mi_T_count [zr 5 0, zi a0] M Z := z_start ok_T_count rfl rfl h
theorem go_T_fails {G : ZG} {Z : Option ZV → ZM → Prop} {M : ZM} {a0 : Int32} {a1 : Int32} (h : ∀ K : Nat → ZL → List ZV → ZM → Prop, (∀ pc l st M, V 0 G mi_T_fails Z pc l st M → K pc l st M) → zex G mi_T_fails Z cu_T_fails cd_T_fails 300 0 [(0, zr 5 0), (1, zi a0), (2, zi a1)] [] M K) : Ctr 0 G mi_T_fails [zr 5 0, zi a0, zi a1] M Z := z_start ok_T_fails rfl rfl h
theorem go_T_flip {G : ZG} {Z : Option ZV → ZM → Prop} {M : ZM} {a0 : Int32} {a1 : Int32} (h : ∀ K : Nat → ZL → List ZV → ZM → Prop, (∀ pc l st M, V 0 G mi_T_flip Z pc l st M → K pc l st M) → zex G mi_T_flip Z cu_T_flip cd_T_flip 300 0 [(0, zr 5 0), (1, zi a0), (2, zi a1)] [] M K) : Ctr 0 G mi_T_flip [zr 5 0, zi a0, zi a1] M Z := z_start ok_T_flip rfl rfl h
theorem go_T_least {G : ZG} {Z : Option ZV → ZM → Prop} {M : ZM} {a0 : Int32} {a1 : Int32} {a2 : Int32} (h : ∀ K : Nat → ZL → List ZV → ZM → Prop, (∀ pc l st M, V 0 G mi_T_least Z pc l st M → K pc l st M) → zex G mi_T_least Z cu_T_least cd_T_least 300 0 [(0, zr 5 0), (1, zi a0), (2, zi a1), (3, zi a2)] [] M K) : Ctr 0 G mi_T_least [zr 5 0, zi a0, zi a1, zi a2] M Z := z_start ok_T_least rfl rfl h
theorem go_T_like {G : ZG} {Z : Option ZV → ZM → Prop} {M : ZM} {a0 : Int32} {a1 : Int32} {a2 : Int32} (h : ∀ K : Nat → ZL → List ZV → ZM → Prop, (∀ pc l st M, V 0 G mi_T_like Z pc l st M → K pc l st M) → zex G mi_T_like Z cu_T_like cd_T_like 300 0 [(0, zr 5 0), (1, zi a0), (2, zi a1), (3, zi a2)] [] M K) : Ctr 0 G mi_T_like [zr 5 0, zi a0, zi a1, zi a2] M Z := z_start ok_T_like rfl rfl h
theorem go_T_orbit {G : ZG} {Z : Option ZV → ZM → Prop} {M : ZM} {a0 : Int32} {a1 : Int32} (h : ∀ K : Nat → ZL → List ZV → ZM → Prop, (∀ pc l st M, V 0 G mi_T_orbit Z pc l st M → K pc l st M) → zex G mi_T_orbit Z cu_T_orbit cd_T_orbit 300 0 [(0, zr 5 0), (1, zi a0), (2, zi a1)] [] M K) : Ctr 0 G mi_T_orbit [zr 5 0, zi a0, zi a1] M Z := z_start ok_T_orbit rfl rfl h
theorem go_T_pair {G : ZG} {Z : Option ZV → ZM → Prop} {M : ZM} {a0 : Int32} {a1 : Int32} {a2 : Int32} (h : ∀ K : Nat → ZL → List ZV → ZM → Prop, (∀ pc l st M, V 0 G mi_T_pair Z pc l st M → K pc l st M) → zex G mi_T_pair Z cu_T_pair cd_T_pair 300 0 [(0, zr 5 0), (1, zi a0), (2, zi a1), (3, zi a2)] [] M K) : Ctr 0 G mi_T_pair [zr 5 0, zi a0, zi a1, zi a2] M Z := z_start ok_T_pair rfl rfl h
theorem go_T_part {G : ZG} {Z : Option ZV → ZM → Prop} {M : ZM} {a0 : Int32} {a1 : Int32} (h : ∀ K : Nat → ZL → List ZV → ZM → Prop, (∀ pc l st M, V 0 G mi_T_part Z pc l st M → K pc l st M) → zex G mi_T_part Z cu_T_part cd_T_part 300 0 [(0, zr 5 0), (1, zi a0), (2, zi a1)] [] M K) : Ctr 0 G mi_T_part [zr 5 0, zi a0, zi a1] M Z := z_start ok_T_part rfl rfl h
theorem go_T_shut {G : ZG} {Z : Option ZV → ZM → Prop} {M : ZM} {a0 : Int32} {a1 : Int32} (h : ∀ K : Nat → ZL → List ZV → ZM → Prop, (∀ pc l st M, V 0 G mi_T_shut Z pc l st M → K pc l st M) → zex G mi_T_shut Z cu_T_shut cd_T_shut 300 0 [(0, zr 5 0), (1, zi a0), (2, zi a1)] [] M K) : Ctr 0 G mi_T_shut [zr 5 0, zi a0, zi a1] M Z := z_start ok_T_shut rfl rfl h
theorem go_T_take {G : ZG} {Z : Option ZV → ZM → Prop} {M : ZM} {a0 : Int32} {a1 : Int32} {a2 : Int32} (h : ∀ K : Nat → ZL → List ZV → ZM → Prop, (∀ pc l st M, V 0 G mi_T_take Z pc l st M → K pc l st M) → zex G mi_T_take Z cu_T_take cd_T_take 300 0 [(0, zr 5 0), (1, zi a0), (2, zi a1), (3, zi a2)] [] M K) : Ctr 0 G mi_T_take [zr 5 0, zi a0, zi a1, zi a2] M Z := z_start ok_T_take rfl rfl h
theorem go_T_through {G : ZG} {Z : Option ZV → ZM → Prop} {M : ZM} {a0 : Int32} {a1 : Int32} {a2 : Int32} {a3 : Int32} (h : ∀ K : Nat → ZL → List ZV → ZM → Prop, (∀ pc l st M, V 0 G mi_T_through Z pc l st M → K pc l st M) → zex G mi_T_through Z cu_T_through cd_T_through 300 0 [(0, zr 5 0), (1, zi a0), (2, zi a1), (3, zi a2), (4, zi a3)] [] M K) : Ctr 0 G mi_T_through [zr 5 0, zi a0, zi a1, zi a2, zi a3] M Z := z_start ok_T_through rfl rfl h
theorem go_T_words {G : ZG} {Z : Option ZV → ZM → Prop} {M : ZM} {a0 : Int32} {a1 : Int32} (h : ∀ K : Nat → ZL → List ZV → ZM → Prop, (∀ pc l st M, V 0 G mi_T_words Z pc l st M → K pc l st M) → zex G mi_T_words Z cu_T_words cd_T_words 300 0 [(0, zr 5 0), (1, zi a0), (2, zi a1)] [] M K) : Ctr 0 G mi_T_words [zr 5 0, zi a0, zi a1] M Z := z_start ok_T_words rfl rfl h
theorem go_AC_levelOf {G : ZG} {Z : Option ZV → ZM → Prop} {M : ZM} {a0 : Nat} (h : ∀ K : Nat → ZL → List ZV → ZM → Prop, (∀ pc l st M, V 0 G mi_AC_levelOf Z pc l st M → K pc l st M) → zex G mi_AC_levelOf Z cu_AC_levelOf cd_AC_levelOf 300 0 [(0, zr 8 0), (1, zr 0 a0)] [] M K) : Ctr 0 G mi_AC_levelOf [zr 8 0, zr 0 a0] M Z := z_start ok_AC_levelOf rfl rfl h
theorem go_T_alike {G : ZG} {Z : Option ZV → ZM → Prop} {M : ZM} {a0 : Int32} {a1 : Int32} (h : ∀ K : Nat → ZL → List ZV → ZM → Prop, (∀ pc l st M, V 0 G mi_T_alike Z pc l st M → K pc l st M) → zex G mi_T_alike Z cu_T_alike cd_T_alike 300 0 [(0, zr 5 0), (1, zi a0), (2, zi a1)] [] M K) : Ctr 0 G mi_T_alike [zr 5 0, zi a0, zi a1] M Z := z_start ok_T_alike rfl rfl h
theorem go_T_retract {G : ZG} {Z : Option ZV → ZM → Prop} {M : ZM} {a0 : Int32} {a1 : Int32} (h : ∀ K : Nat → ZL → List ZV → ZM → Prop, (∀ pc l st M, V 0 G mi_T_retract Z pc l st M → K pc l st M) → zex G mi_T_retract Z cu_T_retract cd_T_retract 300 0 [(0, zr 5 0), (1, zi a0), (2, zi a1)] [] M K) : Ctr 0 G mi_T_retract [zr 5 0, zi a0, zi a1] M Z := z_start ok_T_retract rfl rfl h
theorem go_T_rounds {G : ZG} {Z : Option ZV → ZM → Prop} {M : ZM} {a0 : Int32} {a1 : Int32} {a2 : Int32} (h : ∀ K : Nat → ZL → List ZV → ZM → Prop, (∀ pc l st M, V 0 G mi_T_rounds Z pc l st M → K pc l st M) → zex G mi_T_rounds Z cu_T_rounds cd_T_rounds 300 0 [(0, zr 5 0), (1, zi a0), (2, zi a1), (3, zi a2)] [] M K) : Ctr 0 G mi_T_rounds [zr 5 0, zi a0, zi a1, zi a2] M Z := z_start ok_T_rounds rfl rfl h
theorem go_T_stays {G : ZG} {Z : Option ZV → ZM → Prop} {M : ZM} {a0 : Int32} {a1 : Int32} {a2 : Int32} (h : ∀ K : Nat → ZL → List ZV → ZM → Prop, (∀ pc l st M, V 0 G mi_T_stays Z pc l st M → K pc l st M) → zex G mi_T_stays Z cu_T_stays cd_T_stays 300 0 [(0, zr 5 0), (1, zi a0), (2, zi a1), (3, zi a2)] [] M K) : Ctr 0 G mi_T_stays [zr 5 0, zi a0, zi a1, zi a2] M Z := z_start ok_T_stays rfl rfl h
theorem go_T_unite {G : ZG} {Z : Option ZV → ZM → Prop} {M : ZM} {a0 : Int32} {a1 : Int32} {a2 : Int32} (h : ∀ K : Nat → ZL → List ZV → ZM → Prop, (∀ pc l st M, V 0 G mi_T_unite Z pc l st M → K pc l st M) → zex G mi_T_unite Z cu_T_unite cd_T_unite 300 0 [(0, zr 5 0), (1, zi a0), (2, zi a1), (3, zi a2)] [] M K) : Ctr 0 G mi_T_unite [zr 5 0, zi a0, zi a1, zi a2] M Z := z_start ok_T_unite rfl rfl h
theorem go_T_whole {G : ZG} {Z : Option ZV → ZM → Prop} {M : ZM} {a0 : Int32} {a1 : Int32} (h : ∀ K : Nat → ZL → List ZV → ZM → Prop, (∀ pc l st M, V 0 G mi_T_whole Z pc l st M → K pc l st M) → zex G mi_T_whole Z cu_T_whole cd_T_whole 300 0 [(0, zr 5 0), (1, zi a0), (2, zi a1)] [] M K) : Ctr 0 G mi_T_whole [zr 5 0, zi a0, zi a1] M Z := z_start ok_T_whole rfl rfl h
theorem go_R_asNumber {G : ZG} {Z : Option ZV → ZM → Prop} {M : ZM} {a0 : Int32} (h : ∀ K : Nat → ZL → List ZV → ZM → Prop, (∀ pc l st M, V 0 G mi_R_asNumber Z pc l st M → K pc l st M) → zex G mi_R_asNumber Z cu_R_asNumber cd_R_asNumber 300 0 [(0, zi a0)] [] M K) : Ctr 0 G mi_R_asNumber [zi a0] M Z := z_start ok_R_asNumber rfl rfl h
theorem go_R_commonOf {G : ZG} {Z : Option ZV → ZM → Prop} {M : ZM} {a0 : Int32} {a1 : Int32} (h : ∀ K : Nat → ZL → List ZV → ZM → Prop, (∀ pc l st M, V 0 G mi_R_commonOf Z pc l st M → K pc l st M) → zex G mi_R_commonOf Z cu_R_commonOf cd_R_commonOf 300 0 [(0, zi a0), (1, zi a1)] [] M K) : Ctr 0 G mi_R_commonOf [zi a0, zi a1] M Z := z_start ok_R_commonOf rfl rfl h
theorem go_R_copies {G : ZG} {Z : Option ZV → ZM → Prop} {M : ZM} {a0 : Int32} {a1 : Int32} (h : ∀ K : Nat → ZL → List ZV → ZM → Prop, (∀ pc l st M, V 0 G mi_R_copies Z pc l st M → K pc l st M) → zex G mi_R_copies Z cu_R_copies cd_R_copies 300 0 [(0, zr 20 0), (1, zi a0), (2, zi a1)] [] M K) : Ctr 0 G mi_R_copies [zr 20 0, zi a0, zi a1] M Z := z_start ok_R_copies rfl rfl h
theorem go_R_count {G : ZG} {Z : Option ZV → ZM → Prop} {M : ZM} {a0 : Int32} (h : ∀ K : Nat → ZL → List ZV → ZM → Prop, (∀ pc l st M, V 0 G mi_R_count Z pc l st M → K pc l st M) → zex G mi_R_count Z cu_R_count cd_R_count 300 0 [(0, zr 20 0), (1, zi a0)] [] M K) : Ctr 0 G mi_R_count [zr 20 0, zi a0] M Z := z_start ok_R_count rfl rfl h
theorem go_R_digit {G : ZG} {Z : Option ZV → ZM → Prop} {M : ZM} {a0 : Int32} {a1 : Int32} (h : ∀ K : Nat → ZL → List ZV → ZM → Prop, (∀ pc l st M, V 0 G mi_R_digit Z pc l st M → K pc l st M) → zex G mi_R_digit Z cu_R_digit cd_R_digit 300 0 [(0, zi a0), (1, zi a1)] [] M K) : Ctr 0 G mi_R_digit [zi a0, zi a1] M Z := z_start ok_R_digit rfl rfl h
theorem go_R_firstName {G : ZG} {Z : Option ZV → ZM → Prop} {M : ZM} {a0 : Int32} (h : ∀ K : Nat → ZL → List ZV → ZM → Prop, (∀ pc l st M, V 0 G mi_R_firstName Z pc l st M → K pc l st M) → zex G mi_R_firstName Z cu_R_firstName cd_R_firstName 300 0 [(0, zr 20 0), (1, zi a0)] [] M K) : Ctr 0 G mi_R_firstName [zr 20 0, zi a0] M Z := z_start ok_R_firstName rfl rfl h
theorem go_R_in {G : ZG} {Z : Option ZV → ZM → Prop} {M : ZM} {a0 : Int64} {a1 : Int64} {a2 : Int64} (h : ∀ K : Nat → ZL → List ZV → ZM → Prop, (∀ pc l st M, V 0 G mi_R_in Z pc l st M → K pc l st M) → zex G mi_R_in Z cu_R_in cd_R_in 300 0 [(0, zl a0), (2, zl a1), (4, zl a2)] [] M K) : Ctr 0 G mi_R_in [zl a0, zl a1, zl a2] M Z := z_start ok_R_in rfl rfl h
theorem go_R_l {G : ZG} {Z : Option ZV → ZM → Prop} {M : ZM} {a0 : Int32} {a1 : Int32} {a2 : Int32} (h : ∀ K : Nat → ZL → List ZV → ZM → Prop, (∀ pc l st M, V 0 G mi_R_l Z pc l st M → K pc l st M) → zex G mi_R_l Z cu_R_l cd_R_l 300 0 [(0, zr 20 0), (1, zi a0), (2, zi a1), (3, zi a2)] [] M K) : Ctr 0 G mi_R_l [zr 20 0, zi a0, zi a1, zi a2] M Z := z_start ok_R_l rfl rfl h
theorem go_R_lay {G : ZG} {Z : Option ZV → ZM → Prop} {M : ZM} {a0 : Int32} {a1 : Int32} {a2 : Int32} {a3 : Int32} {a4 : Int32} (h : ∀ K : Nat → ZL → List ZV → ZM → Prop, (∀ pc l st M, V 0 G mi_R_lay Z pc l st M → K pc l st M) → zex G mi_R_lay Z cu_R_lay cd_R_lay 300 0 [(0, zr 20 0), (1, zi a0), (2, zi a1), (3, zi a2), (4, zi a3), (5, zi a4)] [] M K) : Ctr 0 G mi_R_lay [zr 20 0, zi a0, zi a1, zi a2, zi a3, zi a4] M Z := z_start ok_R_lay rfl rfl h
theorem go_R_layTuple {G : ZG} {Z : Option ZV → ZM → Prop} {M : ZM} {a0 : Int32} {a1 : Int32} {a2 : Int32} (h : ∀ K : Nat → ZL → List ZV → ZM → Prop, (∀ pc l st M, V 0 G mi_R_layTuple Z pc l st M → K pc l st M) → zex G mi_R_layTuple Z cu_R_layTuple cd_R_layTuple 300 0 [(0, zr 20 0), (1, zi a0), (2, zi a1), (3, zi a2)] [] M K) : Ctr 0 G mi_R_layTuple [zr 20 0, zi a0, zi a1, zi a2] M Z := z_start ok_R_layTuple rfl rfl h
theorem go_R_nameCode {G : ZG} {Z : Option ZV → ZM → Prop} {M : ZM} {a0 : Int32} (h : ∀ K : Nat → ZL → List ZV → ZM → Prop, (∀ pc l st M, V 0 G mi_R_nameCode Z pc l st M → K pc l st M) → zex G mi_R_nameCode Z cu_R_nameCode cd_R_nameCode 300 0 [(0, zr 20 0), (1, zi a0)] [] M K) : Ctr 0 G mi_R_nameCode [zr 20 0, zi a0] M Z := z_start ok_R_nameCode rfl rfl h
theorem go_R_namedAs {G : ZG} {Z : Option ZV → ZM → Prop} {M : ZM} {a0 : Int32} {a1 : Int32} (h : ∀ K : Nat → ZL → List ZV → ZM → Prop, (∀ pc l st M, V 0 G mi_R_namedAs Z pc l st M → K pc l st M) → zex G mi_R_namedAs Z cu_R_namedAs cd_R_namedAs 300 0 [(0, zr 20 0), (1, zi a0), (2, zi a1)] [] M K) : Ctr 0 G mi_R_namedAs [zr 20 0, zi a0, zi a1] M Z := z_start ok_R_namedAs rfl rfl h
theorem go_R_nextName {G : ZG} {Z : Option ZV → ZM → Prop} {M : ZM} {a0 : Int32} (h : ∀ K : Nat → ZL → List ZV → ZM → Prop, (∀ pc l st M, V 0 G mi_R_nextName Z pc l st M → K pc l st M) → zex G mi_R_nextName Z cu_R_nextName cd_R_nextName 300 0 [(0, zr 20 0), (1, zi a0)] [] M K) : Ctr 0 G mi_R_nextName [zr 20 0, zi a0] M Z := z_start ok_R_nextName rfl rfl h
theorem go_R_r {G : ZG} {Z : Option ZV → ZM → Prop} {M : ZM} {a0 : Int32} {a1 : Int32} {a2 : Int32} (h : ∀ K : Nat → ZL → List ZV → ZM → Prop, (∀ pc l st M, V 0 G mi_R_r Z pc l st M → K pc l st M) → zex G mi_R_r Z cu_R_r cd_R_r 300 0 [(0, zr 20 0), (1, zi a0), (2, zi a1), (3, zi a2)] [] M K) : Ctr 0 G mi_R_r [zr 20 0, zi a0, zi a1, zi a2] M Z := z_start ok_R_r rfl rfl h
theorem go_R_rowsTo {G : ZG} {Z : Option ZV → ZM → Prop} {M : ZM} {a0 : Int32} {a1 : Int32} (h : ∀ K : Nat → ZL → List ZV → ZM → Prop, (∀ pc l st M, V 0 G mi_R_rowsTo Z pc l st M → K pc l st M) → zex G mi_R_rowsTo Z cu_R_rowsTo cd_R_rowsTo 300 0 [(0, zi a0), (1, zi a1)] [] M K) : Ctr 0 G mi_R_rowsTo [zi a0, zi a1] M Z := z_start ok_R_rowsTo rfl rfl h
theorem go_R_times {G : ZG} {Z : Option ZV → ZM → Prop} {M : ZM} {a0 : Int32} {a1 : Int32} {a2 : Int32} {a3 : Int32} (h : ∀ K : Nat → ZL → List ZV → ZM → Prop, (∀ pc l st M, V 0 G mi_R_times Z pc l st M → K pc l st M) → zex G mi_R_times Z cu_R_times cd_R_times 300 0 [(0, zi a0), (1, zi a1), (2, zi a2), (3, zi a3)] [] M K) : Ctr 0 G mi_R_times [zi a0, zi a1, zi a2, zi a3] M Z := z_start ok_R_times rfl rfl h
theorem go_R_tupleCode {G : ZG} {Z : Option ZV → ZM → Prop} {M : ZM} {a0 : Int32} (h : ∀ K : Nat → ZL → List ZV → ZM → Prop, (∀ pc l st M, V 0 G mi_R_tupleCode Z pc l st M → K pc l st M) → zex G mi_R_tupleCode Z cu_R_tupleCode cd_R_tupleCode 300 0 [(0, zr 20 0), (1, zi a0)] [] M K) : Ctr 0 G mi_R_tupleCode [zr 20 0, zi a0] M Z := z_start ok_R_tupleCode rfl rfl h
theorem go_R_tupleNumber {G : ZG} {Z : Option ZV → ZM → Prop} {M : ZM} {a0 : Int32} {a1 : Int32} (h : ∀ K : Nat → ZL → List ZV → ZM → Prop, (∀ pc l st M, V 0 G mi_R_tupleNumber Z pc l st M → K pc l st M) → zex G mi_R_tupleNumber Z cu_R_tupleNumber cd_R_tupleNumber 300 0 [(0, zr 20 0), (1, zi a0), (2, zi a1)] [] M K) : Ctr 0 G mi_R_tupleNumber [zr 20 0, zi a0, zi a1] M Z := z_start ok_R_tupleNumber rfl rfl h
theorem go_R_areAlike {G : ZG} {Z : Option ZV → ZM → Prop} {M : ZM} {a0 : Int32} {a1 : Int32} {a2 : Int32} (h : ∀ K : Nat → ZL → List ZV → ZM → Prop, (∀ pc l st M, V 0 G mi_R_areAlike Z pc l st M → K pc l st M) → zex G mi_R_areAlike Z cu_R_areAlike cd_R_areAlike 300 0 [(0, zr 20 0), (1, zi a0), (2, zi a1), (3, zi a2)] [] M K) : Ctr 0 G mi_R_areAlike [zr 20 0, zi a0, zi a1, zi a2] M Z := z_start ok_R_areAlike rfl rfl h
theorem go_R_backFrom {G : ZG} {Z : Option ZV → ZM → Prop} {M : ZM} {a0 : Int32} {a1 : Int32} {a2 : Int32} (h : ∀ K : Nat → ZL → List ZV → ZM → Prop, (∀ pc l st M, V 0 G mi_R_backFrom Z pc l st M → K pc l st M) → zex G mi_R_backFrom Z cu_R_backFrom cd_R_backFrom 300 0 [(0, zi a0), (1, zi a1), (2, zi a2)] [] M K) : Ctr 0 G mi_R_backFrom [zi a0, zi a1, zi a2] M Z := z_start ok_R_backFrom rfl rfl h
theorem go_R_behind {G : ZG} {Z : Option ZV → ZM → Prop} {M : ZM} {a0 : Int32} {a1 : Int32} {a2 : Int32} (h : ∀ K : Nat → ZL → List ZV → ZM → Prop, (∀ pc l st M, V 0 G mi_R_behind Z pc l st M → K pc l st M) → zex G mi_R_behind Z cu_R_behind cd_R_behind 300 0 [(0, zr 20 0), (1, zi a0), (2, zi a1), (3, zi a2)] [] M K) : Ctr 0 G mi_R_behind [zr 20 0, zi a0, zi a1, zi a2] M Z := z_start ok_R_behind rfl rfl h
theorem go_R_comes {G : ZG} {Z : Option ZV → ZM → Prop} {M : ZM} {a0 : Int32} (h : ∀ K : Nat → ZL → List ZV → ZM → Prop, (∀ pc l st M, V 0 G mi_R_comes Z pc l st M → K pc l st M) → zex G mi_R_comes Z cu_R_comes cd_R_comes 300 0 [(0, zr 20 0), (1, zi a0)] [] M K) : Ctr 0 G mi_R_comes [zr 20 0, zi a0] M Z := z_start ok_R_comes rfl rfl h
theorem go_R_comesBackHere {G : ZG} {Z : Option ZV → ZM → Prop} {M : ZM}  (h : ∀ K : Nat → ZL → List ZV → ZM → Prop, (∀ pc l st M, V 0 G mi_R_comesBackHere Z pc l st M → K pc l st M) → zex G mi_R_comesBackHere Z cu_R_comesBackHere cd_R_comesBackHere 300 0 [(0, zr 20 0)] [] M K) : Ctr 0 G mi_R_comesBackHere [zr 20 0] M Z := z_start ok_R_comesBackHere rfl rfl h
theorem go_R_crosses {G : ZG} {Z : Option ZV → ZM → Prop} {M : ZM} {a0 : Int32} {a1 : Int32} (h : ∀ K : Nat → ZL → List ZV → ZM → Prop, (∀ pc l st M, V 0 G mi_R_crosses Z pc l st M → K pc l st M) → zex G mi_R_crosses Z cu_R_crosses cd_R_crosses 300 0 [(0, zr 20 0), (1, zi a0), (2, zi a1)] [] M K) : Ctr 0 G mi_R_crosses [zr 20 0, zi a0, zi a1] M Z := z_start ok_R_crosses rfl rfl h
theorem go_R_doSquaresStay {G : ZG} {Z : Option ZV → ZM → Prop} {M : ZM} {a0 : Int32} (h : ∀ K : Nat → ZL → List ZV → ZM → Prop, (∀ pc l st M, V 0 G mi_R_doSquaresStay Z pc l st M → K pc l st M) → zex G mi_R_doSquaresStay Z cu_R_doSquaresStay cd_R_doSquaresStay 300 0 [(0, zr 20 0), (1, zi a0)] [] M K) : Ctr 0 G mi_R_doSquaresStay [zr 20 0, zi a0] M Z := z_start ok_R_doSquaresStay rfl rfl h
theorem go_R_failsWithin {G : ZG} {Z : Option ZV → ZM → Prop} {M : ZM} {a0 : Int32} {a1 : Int32} {a2 : Int32} (h : ∀ K : Nat → ZL → List ZV → ZM → Prop, (∀ pc l st M, V 0 G mi_R_failsWithin Z pc l st M → K pc l st M) → zex G mi_R_failsWithin Z cu_R_failsWithin cd_R_failsWithin 300 0 [(0, zr 20 0), (1, zi a0), (2, zi a1), (3, zi a2)] [] M K) : Ctr 0 G mi_R_failsWithin [zr 20 0, zi a0, zi a1, zi a2] M Z := z_start ok_R_failsWithin rfl rfl h
theorem go_R_goesBack {G : ZG} {Z : Option ZV → ZM → Prop} {M : ZM} {a0 : Int32} {a1 : Int32} (h : ∀ K : Nat → ZL → List ZV → ZM → Prop, (∀ pc l st M, V 0 G mi_R_goesBack Z pc l st M → K pc l st M) → zex G mi_R_goesBack Z cu_R_goesBack cd_R_goesBack 300 0 [(0, zr 20 0), (1, zi a0), (2, zi a1)] [] M K) : Ctr 0 G mi_R_goesBack [zr 20 0, zi a0, zi a1] M Z := z_start ok_R_goesBack rfl rfl h
theorem go_R_isBijective {G : ZG} {Z : Option ZV → ZM → Prop} {M : ZM} {a0 : Int32} (h : ∀ K : Nat → ZL → List ZV → ZM → Prop, (∀ pc l st M, V 0 G mi_R_isBijective Z pc l st M → K pc l st M) → zex G mi_R_isBijective Z cu_R_isBijective cd_R_isBijective 300 0 [(0, zr 20 0), (1, zi a0)] [] M K) : Ctr 0 G mi_R_isBijective [zr 20 0, zi a0] M Z := z_start ok_R_isBijective rfl rfl h
theorem go_R_isBraid {G : ZG} {Z : Option ZV → ZM → Prop} {M : ZM} {a0 : Int32} (h : ∀ K : Nat → ZL → List ZV → ZM → Prop, (∀ pc l st M, V 0 G mi_R_isBraid Z pc l st M → K pc l st M) → zex G mi_R_isBraid Z cu_R_isBraid cd_R_isBraid 300 0 [(0, zi a0)] [] M K) : Ctr 0 G mi_R_isBraid [zi a0] M Z := z_start ok_R_isBraid rfl rfl h
theorem go_R_isClosed {G : ZG} {Z : Option ZV → ZM → Prop} {M : ZM} {a0 : Int32} {a1 : Int32} (h : ∀ K : Nat → ZL → List ZV → ZM → Prop, (∀ pc l st M, V 0 G mi_R_isClosed Z pc l st M → K pc l st M) → zex G mi_R_isClosed Z cu_R_isClosed cd_R_isClosed 300 0 [(0, zr 20 0), (1, zi a0), (2, zi a1)] [] M K) : Ctr 0 G mi_R_isClosed [zr 20 0, zi a0, zi a1] M Z := z_start ok_R_isClosed rfl rfl h
theorem go_R_isCode {G : ZG} {Z : Option ZV → ZM → Prop} {M : ZM} {a0 : Int32} {a1 : Int32} (h : ∀ K : Nat → ZL → List ZV → ZM → Prop, (∀ pc l st M, V 0 G mi_R_isCode Z pc l st M → K pc l st M) → zex G mi_R_isCode Z cu_R_isCode cd_R_isCode 300 0 [(0, zi a0), (1, zi a1)] [] M K) : Ctr 0 G mi_R_isCode [zi a0, zi a1] M Z := z_start ok_R_isCode rfl rfl h
theorem go_R_isFirst {G : ZG} {Z : Option ZV → ZM → Prop} {M : ZM}  (h : ∀ K : Nat → ZL → List ZV → ZM → Prop, (∀ pc l st M, V 0 G mi_R_isFirst Z pc l st M → K pc l st M) → zex G mi_R_isFirst Z cu_R_isFirst cd_R_isFirst 300 0 [(0, zr 20 0)] [] M K) : Ctr 0 G mi_R_isFirst [zr 20 0] M Z := z_start ok_R_isFirst rfl rfl h
theorem go_R_isLike {G : ZG} {Z : Option ZV → ZM → Prop} {M : ZM} {a0 : Int32} {a1 : Int32} (h : ∀ K : Nat → ZL → List ZV → ZM → Prop, (∀ pc l st M, V 0 G mi_R_isLike Z pc l st M → K pc l st M) → zex G mi_R_isLike Z cu_R_isLike cd_R_isLike 300 0 [(0, zr 20 0), (1, zi a0), (2, zi a1)] [] M K) : Ctr 0 G mi_R_isLike [zr 20 0, zi a0, zi a1] M Z := z_start ok_R_isLike rfl rfl h
theorem go_R_isPlace {G : ZG} {Z : Option ZV → ZM → Prop} {M : ZM} {a0 : Int32} (h : ∀ K : Nat → ZL → List ZV → ZM → Prop, (∀ pc l st M, V 0 G mi_R_isPlace Z pc l st M → K pc l st M) → zex G mi_R_isPlace Z cu_R_isPlace cd_R_isPlace 300 0 [(0, zi a0)] [] M K) : Ctr 0 G mi_R_isPlace [zi a0] M Z := z_start ok_R_isPlace rfl rfl h
theorem go_R_isPlain {G : ZG} {Z : Option ZV → ZM → Prop} {M : ZM} {a0 : Int32} {a1 : Int32} (h : ∀ K : Nat → ZL → List ZV → ZM → Prop, (∀ pc l st M, V 0 G mi_R_isPlain Z pc l st M → K pc l st M) → zex G mi_R_isPlain Z cu_R_isPlain cd_R_isPlain 300 0 [(0, zr 20 0), (1, zi a0), (2, zi a1)] [] M K) : Ctr 0 G mi_R_isPlain [zr 20 0, zi a0, zi a1] M Z := z_start ok_R_isPlain rfl rfl h
theorem go_R_isPoint {G : ZG} {Z : Option ZV → ZM → Prop} {M : ZM} {a0 : Int32} {a1 : Int32} (h : ∀ K : Nat → ZL → List ZV → ZM → Prop, (∀ pc l st M, V 0 G mi_R_isPoint Z pc l st M → K pc l st M) → zex G mi_R_isPoint Z cu_R_isPoint cd_R_isPoint 300 0 [(0, zr 20 0), (1, zi a0), (2, zi a1)] [] M K) : Ctr 0 G mi_R_isPoint [zr 20 0, zi a0, zi a1] M Z := z_start ok_R_isPoint rfl rfl h
theorem go_R_isUnit {G : ZG} {Z : Option ZV → ZM → Prop} {M : ZM} {a0 : Int32} {a1 : Int32} (h : ∀ K : Nat → ZL → List ZV → ZM → Prop, (∀ pc l st M, V 0 G mi_R_isUnit Z pc l st M → K pc l st M) → zex G mi_R_isUnit Z cu_R_isUnit cd_R_isUnit 300 0 [(0, zi a0), (1, zi a1)] [] M K) : Ctr 0 G mi_R_isUnit [zi a0, zi a1] M Z := z_start ok_R_isUnit rfl rfl h
theorem go_R_layCode {G : ZG} {Z : Option ZV → ZM → Prop} {M : ZM} {a0 : Int32} {a1 : Int32} (h : ∀ K : Nat → ZL → List ZV → ZM → Prop, (∀ pc l st M, V 0 G mi_R_layCode Z pc l st M → K pc l st M) → zex G mi_R_layCode Z cu_R_layCode cd_R_layCode 300 0 [(0, zr 20 0), (1, zi a0), (2, zi a1)] [] M K) : Ctr 0 G mi_R_layCode [zr 20 0, zi a0, zi a1] M Z := z_start ok_R_layCode rfl rfl h
theorem go_R_layNumber {G : ZG} {Z : Option ZV → ZM → Prop} {M : ZM} {a0 : Int32} {a1 : Int32} {a2 : Int32} (h : ∀ K : Nat → ZL → List ZV → ZM → Prop, (∀ pc l st M, V 0 G mi_R_layNumber Z pc l st M → K pc l st M) → zex G mi_R_layNumber Z cu_R_layNumber cd_R_layNumber 300 0 [(0, zr 20 0), (1, zi a0), (2, zi a1), (3, zi a2)] [] M K) : Ctr 0 G mi_R_layNumber [zr 20 0, zi a0, zi a1, zi a2] M Z := z_start ok_R_layNumber rfl rfl h
theorem go_R_layRight {G : ZG} {Z : Option ZV → ZM → Prop} {M : ZM}  (h : ∀ K : Nat → ZL → List ZV → ZM → Prop, (∀ pc l st M, V 0 G mi_R_layRight Z pc l st M → K pc l st M) → zex G mi_R_layRight Z cu_R_layRight cd_R_layRight 300 0 [(0, zr 20 0)] [] M K) : Ctr 0 G mi_R_layRight [zr 20 0] M Z := z_start ok_R_layRight rfl rfl h
theorem go_R_layRows {G : ZG} {Z : Option ZV → ZM → Prop} {M : ZM} {a0 : Int32} (h : ∀ K : Nat → ZL → List ZV → ZM → Prop, (∀ pc l st M, V 0 G mi_R_layRows Z pc l st M → K pc l st M) → zex G mi_R_layRows Z cu_R_layRows cd_R_layRows 300 0 [(0, zr 20 0), (1, zi a0)] [] M K) : Ctr 0 G mi_R_layRows [zr 20 0, zi a0] M Z := z_start ok_R_layRows rfl rfl h
theorem go_R_numberOf {G : ZG} {Z : Option ZV → ZM → Prop} {M : ZM} {a0 : Int32} {a1 : Int32} (h : ∀ K : Nat → ZL → List ZV → ZM → Prop, (∀ pc l st M, V 0 G mi_R_numberOf Z pc l st M → K pc l st M) → zex G mi_R_numberOf Z cu_R_numberOf cd_R_numberOf 300 0 [(0, zi a0), (1, zi a1)] [] M K) : Ctr 0 G mi_R_numberOf [zi a0, zi a1] M Z := z_start ok_R_numberOf rfl rfl h
theorem go_R_orbitOf {G : ZG} {Z : Option ZV → ZM → Prop} {M : ZM} {a0 : Int32} {a1 : Int32} (h : ∀ K : Nat → ZL → List ZV → ZM → Prop, (∀ pc l st M, V 0 G mi_R_orbitOf Z pc l st M → K pc l st M) → zex G mi_R_orbitOf Z cu_R_orbitOf cd_R_orbitOf 300 0 [(0, zr 20 0), (1, zi a0), (2, zi a1)] [] M K) : Ctr 0 G mi_R_orbitOf [zr 20 0, zi a0, zi a1] M Z := z_start ok_R_orbitOf rfl rfl h
theorem go_R_arePoints {G : ZG} {Z : Option ZV → ZM → Prop} {M : ZM} {a0 : Int32} {a1 : Int32} {a2 : Int32} (h : ∀ K : Nat → ZL → List ZV → ZM → Prop, (∀ pc l st M, V 0 G mi_R_arePoints Z pc l st M → K pc l st M) → zex G mi_R_arePoints Z cu_R_arePoints cd_R_arePoints 300 0 [(0, zi a0), (1, zi a1), (2, zi a2)] [] M K) : Ctr 0 G mi_R_arePoints [zi a0, zi a1, zi a2] M Z := z_start ok_R_arePoints rfl rfl h
theorem go_R_areUnits {G : ZG} {Z : Option ZV → ZM → Prop} {M : ZM} {a0 : Int32} {a1 : Int32} (h : ∀ K : Nat → ZL → List ZV → ZM → Prop, (∀ pc l st M, V 0 G mi_R_areUnits Z pc l st M → K pc l st M) → zex G mi_R_areUnits Z cu_R_areUnits cd_R_areUnits 300 0 [(0, zi a0), (1, zi a1)] [] M K) : Ctr 0 G mi_R_areUnits [zi a0, zi a1] M Z := z_start ok_R_areUnits rfl rfl h
theorem go_R_comesBack {G : ZG} {Z : Option ZV → ZM → Prop} {M : ZM} {a0 : Int32} (h : ∀ K : Nat → ZL → List ZV → ZM → Prop, (∀ pc l st M, V 0 G mi_R_comesBack Z pc l st M → K pc l st M) → zex G mi_R_comesBack Z cu_R_comesBack cd_R_comesBack 300 0 [(0, zr 20 0), (1, zi a0)] [] M K) : Ctr 0 G mi_R_comesBack [zr 20 0, zi a0] M Z := z_start ok_R_comesBack rfl rfl h
theorem go_R_doesFit {G : ZG} {Z : Option ZV → ZM → Prop} {M : ZM} {a0 : Int32} {a1 : Int32} {a2 : Int32} (h : ∀ K : Nat → ZL → List ZV → ZM → Prop, (∀ pc l st M, V 0 G mi_R_doesFit Z pc l st M → K pc l st M) → zex G mi_R_doesFit Z cu_R_doesFit cd_R_doesFit 300 0 [(0, zr 20 0), (1, zi a0), (2, zi a1), (3, zi a2)] [] M K) : Ctr 0 G mi_R_doesFit [zr 20 0, zi a0, zi a1, zi a2] M Z := z_start ok_R_doesFit rfl rfl h
theorem go_R_erase {G : ZG} {Z : Option ZV → ZM → Prop} {M : ZM} {a0 : Int32} (h : ∀ K : Nat → ZL → List ZV → ZM → Prop, (∀ pc l st M, V 0 G mi_R_erase Z pc l st M → K pc l st M) → zex G mi_R_erase Z cu_R_erase cd_R_erase 300 0 [(0, zr 20 0), (1, zi a0)] [] M K) : Ctr 0 G mi_R_erase [zr 20 0, zi a0] M Z := z_start ok_R_erase rfl rfl h
theorem go_R_firstBad {G : ZG} {Z : Option ZV → ZM → Prop} {M : ZM}  (h : ∀ K : Nat → ZL → List ZV → ZM → Prop, (∀ pc l st M, V 0 G mi_R_firstBad Z pc l st M → K pc l st M) → zex G mi_R_firstBad Z cu_R_firstBad cd_R_firstBad 300 0 [(0, zr 20 0)] [] M K) : Ctr 0 G mi_R_firstBad [zr 20 0] M Z := z_start ok_R_firstBad rfl rfl h
theorem go_R_flip {G : ZG} {Z : Option ZV → ZM → Prop} {M : ZM} {a0 : Int32} {a1 : Int32} (h : ∀ K : Nat → ZL → List ZV → ZM → Prop, (∀ pc l st M, V 0 G mi_R_flip Z pc l st M → K pc l st M) → zex G mi_R_flip Z cu_R_flip cd_R_flip 300 0 [(0, zr 20 0), (1, zi a0), (2, zi a1)] [] M K) : Ctr 0 G mi_R_flip [zr 20 0, zi a0, zi a1] M Z := z_start ok_R_flip rfl rfl h
theorem go_R_goesThrough {G : ZG} {Z : Option ZV → ZM → Prop} {M : ZM} {a0 : Int32} {a1 : Int32} (h : ∀ K : Nat → ZL → List ZV → ZM → Prop, (∀ pc l st M, V 0 G mi_R_goesThrough Z pc l st M → K pc l st M) → zex G mi_R_goesThrough Z cu_R_goesThrough cd_R_goesThrough 300 0 [(0, zr 20 0), (1, zi a0), (2, zi a1)] [] M K) : Ctr 0 G mi_R_goesThrough [zr 20 0, zi a0, zi a1] M Z := z_start ok_R_goesThrough rfl rfl h
theorem go_R_group {G : ZG} {Z : Option ZV → ZM → Prop} {M : ZM} {a0 : Int32} {a1 : Int32} {a2 : Int32} (h : ∀ K : Nat → ZL → List ZV → ZM → Prop, (∀ pc l st M, V 0 G mi_R_group Z pc l st M → K pc l st M) → zex G mi_R_group Z cu_R_group cd_R_group 300 0 [(0, zr 20 0), (1, zi a0), (2, zi a1), (3, zi a2)] [] M K) : Ctr 0 G mi_R_group [zr 20 0, zi a0, zi a1, zi a2] M Z := z_start ok_R_group rfl rfl h
theorem go_R_groupSize {G : ZG} {Z : Option ZV → ZM → Prop} {M : ZM} {a0 : Int32} (h : ∀ K : Nat → ZL → List ZV → ZM → Prop, (∀ pc l st M, V 0 G mi_R_groupSize Z pc l st M → K pc l st M) → zex G mi_R_groupSize Z cu_R_groupSize cd_R_groupSize 300 0 [(0, zr 20 0), (1, zi a0)] [] M K) : Ctr 0 G mi_R_groupSize [zr 20 0, zi a0] M Z := z_start ok_R_groupSize rfl rfl h
theorem go_R_isMap {G : ZG} {Z : Option ZV → ZM → Prop} {M : ZM} {a0 : Int32} (h : ∀ K : Nat → ZL → List ZV → ZM → Prop, (∀ pc l st M, V 0 G mi_R_isMap Z pc l st M → K pc l st M) → zex G mi_R_isMap Z cu_R_isMap cd_R_isMap 300 0 [(0, zr 20 0), (1, zi a0)] [] M K) : Ctr 0 G mi_R_isMap [zr 20 0, zi a0] M Z := z_start ok_R_isMap rfl rfl h
theorem go_R_layClasses {G : ZG} {Z : Option ZV → ZM → Prop} {M : ZM} {a0 : Int32} (h : ∀ K : Nat → ZL → List ZV → ZM → Prop, (∀ pc l st M, V 0 G mi_R_layClasses Z pc l st M → K pc l st M) → zex G mi_R_layClasses Z cu_R_layClasses cd_R_layClasses 300 0 [(0, zr 20 0), (1, zi a0)] [] M K) : Ctr 0 G mi_R_layClasses [zr 20 0, zi a0] M Z := z_start ok_R_layClasses rfl rfl h
theorem go_R_layListed {G : ZG} {Z : Option ZV → ZM → Prop} {M : ZM} {a0 : Int32} {a1 : Int32} (h : ∀ K : Nat → ZL → List ZV → ZM → Prop, (∀ pc l st M, V 0 G mi_R_layListed Z pc l st M → K pc l st M) → zex G mi_R_layListed Z cu_R_layListed cd_R_layListed 300 0 [(0, zr 20 0), (1, zi a0), (2, zi a1)] [] M K) : Ctr 0 G mi_R_layListed [zr 20 0, zi a0, zi a1] M Z := z_start ok_R_layListed rfl rfl h
theorem go_R_layWords {G : ZG} {Z : Option ZV → ZM → Prop} {M : ZM} {a0 : Int32} {a1 : Int32} (h : ∀ K : Nat → ZL → List ZV → ZM → Prop, (∀ pc l st M, V 0 G mi_R_layWords Z pc l st M → K pc l st M) → zex G mi_R_layWords Z cu_R_layWords cd_R_layWords 300 0 [(0, zr 20 0), (1, zi a0), (2, zi a1)] [] M K) : Ctr 0 G mi_R_layWords [zr 20 0, zi a0, zi a1] M Z := z_start ok_R_layWords rfl rfl h
theorem go_R_likenesses {G : ZG} {Z : Option ZV → ZM → Prop} {M : ZM} {a0 : Int32} {a1 : Int32} {a2 : Int32} (h : ∀ K : Nat → ZL → List ZV → ZM → Prop, (∀ pc l st M, V 0 G mi_R_likenesses Z pc l st M → K pc l st M) → zex G mi_R_likenesses Z cu_R_likenesses cd_R_likenesses 300 0 [(0, zr 20 0), (1, zi a0), (2, zi a1), (3, zi a2)] [] M K) : Ctr 0 G mi_R_likenesses [zr 20 0, zi a0, zi a1, zi a2] M Z := z_start ok_R_likenesses rfl rfl h
theorem go_R_manyClosed {G : ZG} {Z : Option ZV → ZM → Prop} {M : ZM} {a0 : Int32} (h : ∀ K : Nat → ZL → List ZV → ZM → Prop, (∀ pc l st M, V 0 G mi_R_manyClosed Z pc l st M → K pc l st M) → zex G mi_R_manyClosed Z cu_R_manyClosed cd_R_manyClosed 300 0 [(0, zr 20 0), (1, zi a0)] [] M K) : Ctr 0 G mi_R_manyClosed [zr 20 0, zi a0] M Z := z_start ok_R_manyClosed rfl rfl h
theorem go_R_manyOrbits {G : ZG} {Z : Option ZV → ZM → Prop} {M : ZM} {a0 : Int32} (h : ∀ K : Nat → ZL → List ZV → ZM → Prop, (∀ pc l st M, V 0 G mi_R_manyOrbits Z pc l st M → K pc l st M) → zex G mi_R_manyOrbits Z cu_R_manyOrbits cd_R_manyOrbits 300 0 [(0, zr 20 0), (1, zi a0)] [] M K) : Ctr 0 G mi_R_manyOrbits [zr 20 0, zi a0] M Z := z_start ok_R_manyOrbits rfl rfl h
theorem go_R_order {G : ZG} {Z : Option ZV → ZM → Prop} {M : ZM} {a0 : Int32} (h : ∀ K : Nat → ZL → List ZV → ZM → Prop, (∀ pc l st M, V 0 G mi_R_order Z pc l st M → K pc l st M) → zex G mi_R_order Z cu_R_order cd_R_order 300 0 [(0, zr 20 0), (1, zi a0)] [] M K) : Ctr 0 G mi_R_order [zr 20 0, zi a0] M Z := z_start ok_R_order rfl rfl h
theorem go_R_threeBy {G : ZG} {Z : Option ZV → ZM → Prop} {M : ZM} {a0 : Int32} {a1 : Int32} {a2 : Int32} (h : ∀ K : Nat → ZL → List ZV → ZM → Prop, (∀ pc l st M, V 0 G mi_R_threeBy Z pc l st M → K pc l st M) → zex G mi_R_threeBy Z cu_R_threeBy cd_R_threeBy 300 0 [(0, zr 20 0), (1, zi a0), (2, zi a1), (3, zi a2)] [] M K) : Ctr 0 G mi_R_threeBy [zr 20 0, zi a0, zi a1, zi a2] M Z := z_start ok_R_threeBy rfl rfl h
theorem go_R_write {G : ZG} {Z : Option ZV → ZM → Prop} {M : ZM} {a0 : Int32} {a1 : Int32} (h : ∀ K : Nat → ZL → List ZV → ZM → Prop, (∀ pc l st M, V 0 G mi_R_write Z pc l st M → K pc l st M) → zex G mi_R_write Z cu_R_write cd_R_write 300 0 [(0, zr 20 0), (1, zi a0), (2, zi a1)] [] M K) : Ctr 0 G mi_R_write [zr 20 0, zi a0, zi a1] M Z := z_start ok_R_write rfl rfl h
theorem go_R_alike {G : ZG} {Z : Option ZV → ZM → Prop} {M : ZM} {a0 : Int32} {a1 : Int32} (h : ∀ K : Nat → ZL → List ZV → ZM → Prop, (∀ pc l st M, V 0 G mi_R_alike Z pc l st M → K pc l st M) → zex G mi_R_alike Z cu_R_alike cd_R_alike 300 0 [(0, zr 20 0), (1, zi a0), (2, zi a1)] [] M K) : Ctr 0 G mi_R_alike [zr 20 0, zi a0, zi a1] M Z := z_start ok_R_alike rfl rfl h
theorem go_R_cell {G : ZG} {Z : Option ZV → ZM → Prop} {M : ZM} {a0 : Int32} {a1 : Int32} {a2 : Int32} {a3 : Int32} (h : ∀ K : Nat → ZL → List ZV → ZM → Prop, (∀ pc l st M, V 0 G mi_R_cell Z pc l st M → K pc l st M) → zex G mi_R_cell Z cu_R_cell cd_R_cell 300 0 [(0, zr 20 0), (1, zi a0), (2, zi a1), (3, zi a2), (4, zi a3)] [] M K) : Ctr 0 G mi_R_cell [zr 20 0, zi a0, zi a1, zi a2, zi a3] M Z := z_start ok_R_cell rfl rfl h
theorem go_R_drop {G : ZG} {Z : Option ZV → ZM → Prop} {M : ZM} {a0 : Int32} (h : ∀ K : Nat → ZL → List ZV → ZM → Prop, (∀ pc l st M, V 0 G mi_R_drop Z pc l st M → K pc l st M) → zex G mi_R_drop Z cu_R_drop cd_R_drop 300 0 [(0, zr 20 0), (1, zi a0)] [] M K) : Ctr 0 G mi_R_drop [zr 20 0, zi a0] M Z := z_start ok_R_drop rfl rfl h
theorem go_R_failsAt {G : ZG} {Z : Option ZV → ZM → Prop} {M : ZM} {a0 : Int32} {a1 : Int32} (h : ∀ K : Nat → ZL → List ZV → ZM → Prop, (∀ pc l st M, V 0 G mi_R_failsAt Z pc l st M → K pc l st M) → zex G mi_R_failsAt Z cu_R_failsAt cd_R_failsAt 300 0 [(0, zr 20 0), (1, zi a0), (2, zi a1)] [] M K) : Ctr 0 G mi_R_failsAt [zr 20 0, zi a0, zi a1] M Z := z_start ok_R_failsAt rfl rfl h
theorem go_R_invert {G : ZG} {Z : Option ZV → ZM → Prop} {M : ZM} {a0 : Int32} {a1 : Int32} (h : ∀ K : Nat → ZL → List ZV → ZM → Prop, (∀ pc l st M, V 0 G mi_R_invert Z pc l st M → K pc l st M) → zex G mi_R_invert Z cu_R_invert cd_R_invert 300 0 [(0, zr 20 0), (1, zi a0), (2, zi a1)] [] M K) : Ctr 0 G mi_R_invert [zr 20 0, zi a0, zi a1] M Z := z_start ok_R_invert rfl rfl h
theorem go_R_isBrace {G : ZG} {Z : Option ZV → ZM → Prop} {M : ZM} {a0 : Int32} {a1 : Int32} (h : ∀ K : Nat → ZL → List ZV → ZM → Prop, (∀ pc l st M, V 0 G mi_R_isBrace Z pc l st M → K pc l st M) → zex G mi_R_isBrace Z cu_R_isBrace cd_R_isBrace 300 0 [(0, zi a0), (1, zi a1)] [] M K) : Ctr 0 G mi_R_isBrace [zi a0, zi a1] M Z := z_start ok_R_isBrace rfl rfl h
theorem go_R_isPermutation {G : ZG} {Z : Option ZV → ZM → Prop} {M : ZM} {a0 : Int32} {a1 : Int32} (h : ∀ K : Nat → ZL → List ZV → ZM → Prop, (∀ pc l st M, V 0 G mi_R_isPermutation Z pc l st M → K pc l st M) → zex G mi_R_isPermutation Z cu_R_isPermutation cd_R_isPermutation 300 0 [(0, zi a0), (1, zi a1)] [] M K) : Ctr 0 G mi_R_isPermutation [zi a0, zi a1] M Z := z_start ok_R_isPermutation rfl rfl h
theorem go_R_laySteps {G : ZG} {Z : Option ZV → ZM → Prop} {M : ZM} {a0 : Int32} {a1 : Int32} {a2 : Int32} (h : ∀ K : Nat → ZL → List ZV → ZM → Prop, (∀ pc l st M, V 0 G mi_R_laySteps Z pc l st M → K pc l st M) → zex G mi_R_laySteps Z cu_R_laySteps cd_R_laySteps 300 0 [(0, zr 20 0), (1, zi a0), (2, zi a1), (3, zi a2)] [] M K) : Ctr 0 G mi_R_laySteps [zr 20 0, zi a0, zi a1, zi a2] M Z := z_start ok_R_laySteps rfl rfl h
theorem go_R_least {G : ZG} {Z : Option ZV → ZM → Prop} {M : ZM} {a0 : Int32} {a1 : Int32} {a2 : Int32} (h : ∀ K : Nat → ZL → List ZV → ZM → Prop, (∀ pc l st M, V 0 G mi_R_least Z pc l st M → K pc l st M) → zex G mi_R_least Z cu_R_least cd_R_least 300 0 [(0, zr 20 0), (1, zi a0), (2, zi a1), (3, zi a2)] [] M K) : Ctr 0 G mi_R_least [zr 20 0, zi a0, zi a1, zi a2] M Z := z_start ok_R_least rfl rfl h
theorem go_R_like {G : ZG} {Z : Option ZV → ZM → Prop} {M : ZM} {a0 : Int32} {a1 : Int32} {a2 : Int32} (h : ∀ K : Nat → ZL → List ZV → ZM → Prop, (∀ pc l st M, V 0 G mi_R_like Z pc l st M → K pc l st M) → zex G mi_R_like Z cu_R_like cd_R_like 300 0 [(0, zr 20 0), (1, zi a0), (2, zi a1), (3, zi a2)] [] M K) : Ctr 0 G mi_R_like [zr 20 0, zi a0, zi a1, zi a2] M Z := z_start ok_R_like rfl rfl h
theorem go_R_makeRetract {G : ZG} {Z : Option ZV → ZM → Prop} {M : ZM} {a0 : Int32} (h : ∀ K : Nat → ZL → List ZV → ZM → Prop, (∀ pc l st M, V 0 G mi_R_makeRetract Z pc l st M → K pc l st M) → zex G mi_R_makeRetract Z cu_R_makeRetract cd_R_makeRetract 300 0 [(0, zr 20 0), (1, zi a0)] [] M K) : Ctr 0 G mi_R_makeRetract [zr 20 0, zi a0] M Z := z_start ok_R_makeRetract rfl rfl h
theorem go_R_mirror {G : ZG} {Z : Option ZV → ZM → Prop} {M : ZM} {a0 : Int32} {a1 : Int32} (h : ∀ K : Nat → ZL → List ZV → ZM → Prop, (∀ pc l st M, V 0 G mi_R_mirror Z pc l st M → K pc l st M) → zex G mi_R_mirror Z cu_R_mirror cd_R_mirror 300 0 [(0, zr 20 0), (1, zi a0), (2, zi a1)] [] M K) : Ctr 0 G mi_R_mirror [zr 20 0, zi a0, zi a1] M Z := z_start ok_R_mirror rfl rfl h
theorem go_R_orbit {G : ZG} {Z : Option ZV → ZM → Prop} {M : ZM} {a0 : Int32} {a1 : Int32} (h : ∀ K : Nat → ZL → List ZV → ZM → Prop, (∀ pc l st M, V 0 G mi_R_orbit Z pc l st M → K pc l st M) → zex G mi_R_orbit Z cu_R_orbit cd_R_orbit 300 0 [(0, zr 20 0), (1, zi a0), (2, zi a1)] [] M K) : Ctr 0 G mi_R_orbit [zr 20 0, zi a0, zi a1] M Z := z_start ok_R_orbit rfl rfl h
theorem go_R_pair {G : ZG} {Z : Option ZV → ZM → Prop} {M : ZM} {a0 : Int32} {a1 : Int32} {a2 : Int32} (h : ∀ K : Nat → ZL → List ZV → ZM → Prop, (∀ pc l st M, V 0 G mi_R_pair Z pc l st M → K pc l st M) → zex G mi_R_pair Z cu_R_pair cd_R_pair 300 0 [(0, zr 20 0), (1, zi a0), (2, zi a1), (3, zi a2)] [] M K) : Ctr 0 G mi_R_pair [zr 20 0, zi a0, zi a1, zi a2] M Z := z_start ok_R_pair rfl rfl h
theorem go_R_power {G : ZG} {Z : Option ZV → ZM → Prop} {M : ZM} {a0 : Int32} {a1 : Int32} {a2 : Int32} {a3 : Int32} (h : ∀ K : Nat → ZL → List ZV → ZM → Prop, (∀ pc l st M, V 0 G mi_R_power Z pc l st M → K pc l st M) → zex G mi_R_power Z cu_R_power cd_R_power 300 0 [(0, zr 20 0), (1, zi a0), (2, zi a1), (3, zi a2), (4, zi a3)] [] M K) : Ctr 0 G mi_R_power [zr 20 0, zi a0, zi a1, zi a2, zi a3] M Z := z_start ok_R_power rfl rfl h
theorem go_R_put {G : ZG} {Z : Option ZV → ZM → Prop} {M : ZM} {a0 : Int32} {a1 : Int32} {a2 : Int32} {a3 : Int32} {a4 : Int32} (h : ∀ K : Nat → ZL → List ZV → ZM → Prop, (∀ pc l st M, V 0 G mi_R_put Z pc l st M → K pc l st M) → zex G mi_R_put Z cu_R_put cd_R_put 300 0 [(0, zr 20 0), (1, zi a0), (2, zi a1), (3, zi a2), (4, zi a3), (5, zi a4)] [] M K) : Ctr 0 G mi_R_put [zr 20 0, zi a0, zi a1, zi a2, zi a3, zi a4] M Z := z_start ok_R_put rfl rfl h
theorem go_R_refuses {G : ZG} {Z : Option ZV → ZM → Prop} {M : ZM} {a0 : Int32} {a1 : Int32} {a2 : Int32} (h : ∀ K : Nat → ZL → List ZV → ZM → Prop, (∀ pc l st M, V 0 G mi_R_refuses Z pc l st M → K pc l st M) → zex G mi_R_refuses Z cu_R_refuses cd_R_refuses 300 0 [(0, zr 20 0), (1, zi a0), (2, zi a1), (3, zi a2)] [] M K) : Ctr 0 G mi_R_refuses [zr 20 0, zi a0, zi a1, zi a2] M Z := z_start ok_R_refuses rfl rfl h
theorem go_R_shut {G : ZG} {Z : Option ZV → ZM → Prop} {M : ZM} {a0 : Int32} {a1 : Int32} (h : ∀ K : Nat → ZL → List ZV → ZM → Prop, (∀ pc l st M, V 0 G mi_R_shut Z pc l st M → K pc l st M) → zex G mi_R_shut Z cu_R_shut cd_R_shut 300 0 [(0, zr 20 0), (1, zi a0), (2, zi a1)] [] M K) : Ctr 0 G mi_R_shut [zr 20 0, zi a0, zi a1] M Z := z_start ok_R_shut rfl rfl h
theorem go_R_unite {G : ZG} {Z : Option ZV → ZM → Prop} {M : ZM} {a0 : Int32} {a1 : Int32} {a2 : Int32} (h : ∀ K : Nat → ZL → List ZV → ZM → Prop, (∀ pc l st M, V 0 G mi_R_unite Z pc l st M → K pc l st M) → zex G mi_R_unite Z cu_R_unite cd_R_unite 300 0 [(0, zr 20 0), (1, zi a0), (2, zi a1), (3, zi a2)] [] M K) : Ctr 0 G mi_R_unite [zr 20 0, zi a0, zi a1, zi a2] M Z := z_start ok_R_unite rfl rfl h
theorem go_R_words {G : ZG} {Z : Option ZV → ZM → Prop} {M : ZM} {a0 : Int32} {a1 : Int32} (h : ∀ K : Nat → ZL → List ZV → ZM → Prop, (∀ pc l st M, V 0 G mi_R_words Z pc l st M → K pc l st M) → zex G mi_R_words Z cu_R_words cd_R_words 300 0 [(0, zr 20 0), (1, zi a0), (2, zi a1)] [] M K) : Ctr 0 G mi_R_words [zr 20 0, zi a0, zi a1] M Z := z_start ok_R_words rfl rfl h
theorem go_R_brace {G : ZG} {Z : Option ZV → ZM → Prop} {M : ZM} {a0 : Int32} {a1 : Int32} {a2 : Int32} (h : ∀ K : Nat → ZL → List ZV → ZM → Prop, (∀ pc l st M, V 0 G mi_R_brace Z pc l st M → K pc l st M) → zex G mi_R_brace Z cu_R_brace cd_R_brace 300 0 [(0, zr 20 0), (1, zi a0), (2, zi a1), (3, zi a2)] [] M K) : Ctr 0 G mi_R_brace [zr 20 0, zi a0, zi a1, zi a2] M Z := z_start ok_R_brace rfl rfl h
theorem go_R_braces {G : ZG} {Z : Option ZV → ZM → Prop} {M : ZM} {a0 : Int32} {a1 : Int32} (h : ∀ K : Nat → ZL → List ZV → ZM → Prop, (∀ pc l st M, V 0 G mi_R_braces Z pc l st M → K pc l st M) → zex G mi_R_braces Z cu_R_braces cd_R_braces 300 0 [(0, zr 20 0), (1, zi a0), (2, zi a1)] [] M K) : Ctr 0 G mi_R_braces [zr 20 0, zi a0, zi a1] M Z := z_start ok_R_braces rfl rfl h
theorem go_R_fails {G : ZG} {Z : Option ZV → ZM → Prop} {M : ZM} {a0 : Int32} {a1 : Int32} (h : ∀ K : Nat → ZL → List ZV → ZM → Prop, (∀ pc l st M, V 0 G mi_R_fails Z pc l st M → K pc l st M) → zex G mi_R_fails Z cu_R_fails cd_R_fails 300 0 [(0, zr 20 0), (1, zi a0), (2, zi a1)] [] M K) : Ctr 0 G mi_R_fails [zr 20 0, zi a0, zi a1] M Z := z_start ok_R_fails rfl rfl h
theorem go_R_level {G : ZG} {Z : Option ZV → ZM → Prop} {M : ZM} {a0 : Int32} (h : ∀ K : Nat → ZL → List ZV → ZM → Prop, (∀ pc l st M, V 0 G mi_R_level Z pc l st M → K pc l st M) → zex G mi_R_level Z cu_R_level cd_R_level 300 0 [(0, zr 20 0), (1, zi a0)] [] M K) : Ctr 0 G mi_R_level [zr 20 0, zi a0] M Z := z_start ok_R_level rfl rfl h
theorem go_R_manyFail {G : ZG} {Z : Option ZV → ZM → Prop} {M : ZM} {a0 : Int32} (h : ∀ K : Nat → ZL → List ZV → ZM → Prop, (∀ pc l st M, V 0 G mi_R_manyFail Z pc l st M → K pc l st M) → zex G mi_R_manyFail Z cu_R_manyFail cd_R_manyFail 300 0 [(0, zr 20 0), (1, zi a0)] [] M K) : Ctr 0 G mi_R_manyFail [zr 20 0, zi a0] M Z := z_start ok_R_manyFail rfl rfl h
theorem go_R_part {G : ZG} {Z : Option ZV → ZM → Prop} {M : ZM} {a0 : Int32} {a1 : Int32} (h : ∀ K : Nat → ZL → List ZV → ZM → Prop, (∀ pc l st M, V 0 G mi_R_part Z pc l st M → K pc l st M) → zex G mi_R_part Z cu_R_part cd_R_part 300 0 [(0, zr 20 0), (1, zi a0), (2, zi a1)] [] M K) : Ctr 0 G mi_R_part [zr 20 0, zi a0, zi a1] M Z := z_start ok_R_part rfl rfl h
theorem go_R_rename {G : ZG} {Z : Option ZV → ZM → Prop} {M : ZM} {a0 : Int32} {a1 : Int32} {a2 : Int32} (h : ∀ K : Nat → ZL → List ZV → ZM → Prop, (∀ pc l st M, V 0 G mi_R_rename Z pc l st M → K pc l st M) → zex G mi_R_rename Z cu_R_rename cd_R_rename 300 0 [(0, zr 20 0), (1, zi a0), (2, zi a1), (3, zi a2)] [] M K) : Ctr 0 G mi_R_rename [zr 20 0, zi a0, zi a1, zi a2] M Z := z_start ok_R_rename rfl rfl h
theorem go_R_retract {G : ZG} {Z : Option ZV → ZM → Prop} {M : ZM} {a0 : Int32} {a1 : Int32} (h : ∀ K : Nat → ZL → List ZV → ZM → Prop, (∀ pc l st M, V 0 G mi_R_retract Z pc l st M → K pc l st M) → zex G mi_R_retract Z cu_R_retract cd_R_retract 300 0 [(0, zr 20 0), (1, zi a0), (2, zi a1)] [] M K) : Ctr 0 G mi_R_retract [zr 20 0, zi a0, zi a1] M Z := z_start ok_R_retract rfl rfl h
theorem go_R_rounds {G : ZG} {Z : Option ZV → ZM → Prop} {M : ZM} {a0 : Int32} {a1 : Int32} {a2 : Int32} (h : ∀ K : Nat → ZL → List ZV → ZM → Prop, (∀ pc l st M, V 0 G mi_R_rounds Z pc l st M → K pc l st M) → zex G mi_R_rounds Z cu_R_rounds cd_R_rounds 300 0 [(0, zr 20 0), (1, zi a0), (2, zi a1), (3, zi a2)] [] M K) : Ctr 0 G mi_R_rounds [zr 20 0, zi a0, zi a1, zi a2] M Z := z_start ok_R_rounds rfl rfl h
theorem go_R_stays {G : ZG} {Z : Option ZV → ZM → Prop} {M : ZM} {a0 : Int32} {a1 : Int32} {a2 : Int32} (h : ∀ K : Nat → ZL → List ZV → ZM → Prop, (∀ pc l st M, V 0 G mi_R_stays Z pc l st M → K pc l st M) → zex G mi_R_stays Z cu_R_stays cd_R_stays 300 0 [(0, zr 20 0), (1, zi a0), (2, zi a1), (3, zi a2)] [] M K) : Ctr 0 G mi_R_stays [zr 20 0, zi a0, zi a1, zi a2] M Z := z_start ok_R_stays rfl rfl h
theorem go_R_through {G : ZG} {Z : Option ZV → ZM → Prop} {M : ZM} {a0 : Int32} {a1 : Int32} {a2 : Int32} {a3 : Int32} (h : ∀ K : Nat → ZL → List ZV → ZM → Prop, (∀ pc l st M, V 0 G mi_R_through Z pc l st M → K pc l st M) → zex G mi_R_through Z cu_R_through cd_R_through 300 0 [(0, zr 20 0), (1, zi a0), (2, zi a1), (3, zi a2), (4, zi a3)] [] M K) : Ctr 0 G mi_R_through [zr 20 0, zi a0, zi a1, zi a2, zi a3] M Z := z_start ok_R_through rfl rfl h
theorem go_R_twist {G : ZG} {Z : Option ZV → ZM → Prop} {M : ZM} {a0 : Int32} {a1 : Int32} {a2 : Int32} {a3 : Int32} (h : ∀ K : Nat → ZL → List ZV → ZM → Prop, (∀ pc l st M, V 0 G mi_R_twist Z pc l st M → K pc l st M) → zex G mi_R_twist Z cu_R_twist cd_R_twist 300 0 [(0, zr 20 0), (1, zi a0), (2, zi a1), (3, zi a2), (4, zi a3)] [] M K) : Ctr 0 G mi_R_twist [zr 20 0, zi a0, zi a1, zi a2, zi a3] M Z := z_start ok_R_twist rfl rfl h
theorem go_R_layList {G : ZG} {Z : Option ZV → ZM → Prop} {M : ZM} {a0 : Int32} (h : ∀ K : Nat → ZL → List ZV → ZM → Prop, (∀ pc l st M, V 0 G mi_R_layList Z pc l st M → K pc l st M) → zex G mi_R_layList Z cu_R_layList cd_R_layList 300 0 [(0, zr 20 0), (1, zi a0)] [] M K) : Ctr 0 G mi_R_layList [zr 20 0, zi a0] M Z := z_start ok_R_layList rfl rfl h
theorem go_R_listed {G : ZG} {Z : Option ZV → ZM → Prop} {M : ZM} {a0 : Int32} (h : ∀ K : Nat → ZL → List ZV → ZM → Prop, (∀ pc l st M, V 0 G mi_R_listed Z pc l st M → K pc l st M) → zex G mi_R_listed Z cu_R_listed cd_R_listed 300 0 [(0, zr 20 0), (1, zi a0)] [] M K) : Ctr 0 G mi_R_listed [zr 20 0, zi a0] M Z := z_start ok_R_listed rfl rfl h
theorem go_R_listedAs {G : ZG} {Z : Option ZV → ZM → Prop} {M : ZM} {a0 : Int32} (h : ∀ K : Nat → ZL → List ZV → ZM → Prop, (∀ pc l st M, V 0 G mi_R_listedAs Z pc l st M → K pc l st M) → zex G mi_R_listedAs Z cu_R_listedAs cd_R_listedAs 300 0 [(0, zr 20 0), (1, zi a0)] [] M K) : Ctr 0 G mi_R_listedAs [zr 20 0, zi a0] M Z := z_start ok_R_listedAs rfl rfl h
theorem go_R_take {G : ZG} {Z : Option ZV → ZM → Prop} {M : ZM} {a0 : Int32} {a1 : Int32} {a2 : Int32} (h : ∀ K : Nat → ZL → List ZV → ZM → Prop, (∀ pc l st M, V 0 G mi_R_take Z pc l st M → K pc l st M) → zex G mi_R_take Z cu_R_take cd_R_take 300 0 [(0, zr 20 0), (1, zi a0), (2, zi a1), (3, zi a2)] [] M K) : Ctr 0 G mi_R_take [zr 20 0, zi a0, zi a1, zi a2] M Z := z_start ok_R_take rfl rfl h
theorem go_R_wholeLater {G : ZG} {Z : Option ZV → ZM → Prop} {M : ZM} {a0 : Int32} {a1 : Int32} (h : ∀ K : Nat → ZL → List ZV → ZM → Prop, (∀ pc l st M, V 0 G mi_R_wholeLater Z pc l st M → K pc l st M) → zex G mi_R_wholeLater Z cu_R_wholeLater cd_R_wholeLater 300 0 [(0, zr 20 0), (1, zi a0), (2, zi a1)] [] M K) : Ctr 0 G mi_R_wholeLater [zr 20 0, zi a0, zi a1] M Z := z_start ok_R_wholeLater rfl rfl h
theorem go_R_whole {G : ZG} {Z : Option ZV → ZM → Prop} {M : ZM} {a0 : Int32} {a1 : Int32} (h : ∀ K : Nat → ZL → List ZV → ZM → Prop, (∀ pc l st M, V 0 G mi_R_whole Z pc l st M → K pc l st M) → zex G mi_R_whole Z cu_R_whole cd_R_whole 300 0 [(0, zr 20 0), (1, zi a0), (2, zi a1)] [] M K) : Ctr 0 G mi_R_whole [zr 20 0, zi a0, zi a1] M Z := z_start ok_R_whole rfl rfl h
end
section
/-! numbers: every int is an nI below 2^32, every long an lN below 2^64 -/
theorem n_of (x : Int32) : ∃ m, m < 2 ^ 32 ∧ x = nI m := ⟨x.toBitVec.toNat, x.toBitVec.isLt, Int32.toBitVec_inj.mp (by show _ = BitVec.ofNat 32 _; simp)⟩
theorem n_bv (n : Nat) : (nI n).toBitVec = BitVec.ofNat 32 n := rfl
theorem n_tn {n : Nat} (h : n < 2 ^ 32) : (nI n).toBitVec.toNat = n := by rw [n_bv, BitVec.toNat_ofNat, Nat.mod_eq_of_lt h]
theorem n_ext {x y : Int32} (h : x.toBitVec = y.toBitVec) : x = y := Int32.toBitVec_inj.mp h
theorem n_or (a b : Nat) : nI a ||| nI b = nI (a ||| b) := n_ext (by
  rw [Int32.toBitVec_or, n_bv, n_bv, n_bv]
  apply BitVec.eq_of_toNat_eq
  simp only [BitVec.toNat_or, BitVec.toNat_ofNat]
  apply Nat.eq_of_testBit_eq
  intro i
  simp only [Nat.testBit_or, Nat.testBit_mod_two_pow]
  cases decide (i < 32) <;> simp)
theorem n_and (a b : Nat) : nI a &&& nI b = nI (a &&& b) := n_ext (by
  rw [Int32.toBitVec_and, n_bv, n_bv, n_bv]
  apply BitVec.eq_of_toNat_eq
  simp only [BitVec.toNat_and, BitVec.toNat_ofNat]
  apply Nat.eq_of_testBit_eq
  intro i
  simp only [Nat.testBit_and, Nat.testBit_mod_two_pow]
  cases decide (i < 32) <;> simp)
theorem n_xor (a b : Nat) : nI a ^^^ nI b = nI (a ^^^ b) := n_ext (by
  rw [Int32.toBitVec_xor, n_bv, n_bv, n_bv]
  apply BitVec.eq_of_toNat_eq
  simp only [BitVec.toNat_xor, BitVec.toNat_ofNat]
  apply Nat.eq_of_testBit_eq
  intro i
  simp only [Nat.testBit_xor, Nat.testBit_mod_two_pow]
  cases decide (i < 32) <;> simp)
theorem n_sm : ∀ k, k < 32 → ((nI k &&& 31).toBitVec.smod 32).toNat = k := by decide +kernel
theorem n_shl (a k : Nat) (hk : k < 32) : nI a <<< (nI k &&& 31) = nI (a * 2 ^ k) := n_ext (by
  rw [Int32.toBitVec_shiftLeft, n_bv, n_bv]
  apply BitVec.eq_of_toNat_eq
  have h := n_sm k hk
  show (BitVec.ofNat 32 a <<< ((nI k &&& 31).toBitVec.smod 32)).toNat = _
  rw [BitVec.shiftLeft_eq', h]
  simp only [BitVec.toNat_shiftLeft, BitVec.toNat_ofNat, Nat.shiftLeft_eq]
  rw [Nat.mod_mul_mod])
theorem n_shr {a : Nat} (k : Nat) (hk : k < 32) (ha : a < 2 ^ 31) : nI a >>> (nI k &&& 31) = nI (a / 2 ^ k) := pk_shrN ha _ k (n_sm k hk)
theorem n_mod {a b : Nat} (ha : a < 2 ^ 31) (h0 : 0 < b) (hb : b < 2 ^ 31) : nI a % nI b = nI (a % b) := by
  rw [← irem_eq_mod]; exact pk_rem ha h0 hb
theorem n_ne {a b : Nat} (ha : a < 2 ^ 31) (hb : b < 2 ^ 31) : (¬ nI a = nI b) ↔ a ≠ b := by rw [nI_eq ha hb]
theorem n_dig {m : Nat} (hm : m < 2 ^ 32) (i : Nat) (hi : i ≤ 9) : nI m >>> (nI (3 * i) &&& 31) &&& nI 7 = nI (m / 8 ^ i % 8) := n_ext (by
  rw [Int32.toBitVec_and, Int32.toBitVec_shiftRight, n_bv, n_bv, n_bv]
  have h := n_sm (3 * i) (by omega)
  apply BitVec.eq_of_getLsbD_eq
  intro j hj
  rw [BitVec.getLsbD_and]
  have h7 : (BitVec.ofNat 32 7).getLsbD j = decide (j < 3) := by
    rw [BitVec.getLsbD_ofNat]
    have : (7 : Nat) = 2 ^ 3 - 1 := rfl
    rw [this, Nat.testBit_two_pow_sub_one]
    simp only [hj, decide_true, Bool.true_and]
  rw [h7, BitVec.getLsbD_ofNat, show (8 : Nat) = 2 ^ 3 from rfl, ← Nat.pow_mul, Nat.testBit_mod_two_pow, Nat.testBit_div_two_pow]
  by_cases h3 : j < 3
  · simp only [hj, h3, decide_true, Bool.true_and, Bool.and_true]
    show ((BitVec.ofNat 32 m).sshiftRight ((nI (3 * i) &&& 31).toBitVec.smod 32).toNat).getLsbD j = _
    rw [h, BitVec.getLsbD_sshiftRight]
    have e : 3 * i + j < 32 := by omega
    simp only [e, hj, if_true, BitVec.getLsbD_ofNat, decide_true, Bool.true_and]
    have : ¬ 32 ≤ j := by omega
    simp only [this, decide_false, Bool.not_false, Bool.true_and, Nat.add_comm]
  · simp only [h3, decide_false, Bool.false_and, Bool.and_false])
/-! longs -/
theorem l_of (x : Int64) : ∃ m, m < 2 ^ 64 ∧ x = lN m := ⟨x.toBitVec.toNat, x.toBitVec.isLt, Int64.toBitVec_inj.mp (by show _ = BitVec.ofNat 64 _; simp)⟩
theorem l_bv (n : Nat) : (lN n).toBitVec = BitVec.ofNat 64 n := rfl
theorem l_ext {x y : Int64} (h : x.toBitVec = y.toBitVec) : x = y := Int64.toBitVec_inj.mp h
theorem l_or (a b : Nat) : lN a ||| lN b = lN (a ||| b) := l_ext (by
  rw [Int64.toBitVec_or, l_bv, l_bv, l_bv]
  apply BitVec.eq_of_toNat_eq
  simp only [BitVec.toNat_or, BitVec.toNat_ofNat]
  apply Nat.eq_of_testBit_eq
  intro i
  simp only [Nat.testBit_or, Nat.testBit_mod_two_pow]
  cases decide (i < 64) <;> simp)
theorem l_and (a b : Nat) : lN a &&& lN b = lN (a &&& b) := l_ext (by
  rw [Int64.toBitVec_and, l_bv, l_bv, l_bv]
  apply BitVec.eq_of_toNat_eq
  simp only [BitVec.toNat_and, BitVec.toNat_ofNat]
  apply Nat.eq_of_testBit_eq
  intro i
  simp only [Nat.testBit_and, Nat.testBit_mod_two_pow]
  cases decide (i < 64) <;> simp)
theorem l_sm : ∀ k, k < 64 → (((nI k).toInt64 &&& 63).toBitVec.smod 64).toNat = k := by decide +kernel
theorem l_shl (a k : Nat) (hk : k < 64) : lN a <<< ((nI k).toInt64 &&& 63) = lN (a * 2 ^ k) := l_ext (by
  rw [Int64.toBitVec_shiftLeft, l_bv, l_bv]
  apply BitVec.eq_of_toNat_eq
  have h := l_sm k hk
  rw [BitVec.shiftLeft_eq', h]
  simp only [BitVec.toNat_shiftLeft, BitVec.toNat_ofNat, Nat.shiftLeft_eq]
  rw [Nat.mod_mul_mod])
theorem l_tn {n : Nat} (h : n < 2 ^ 64) : (lN n).toBitVec.toNat = n := by rw [l_bv, BitVec.toNat_ofNat, Nat.mod_eq_of_lt h]
theorem l_inj {a b : Nat} (ha : a < 2 ^ 64) (hb : b < 2 ^ 64) (h : lN a = lN b) : a = b := by
  have := congrArg (fun x : Int64 => x.toBitVec.toNat) h
  simpa only [l_tn ha, l_tn hb] using this
theorem l_eq {a b : Nat} (ha : a < 2 ^ 64) (hb : b < 2 ^ 64) : lN a = lN b ↔ a = b := ⟨l_inj ha hb, fun h => by rw [h]⟩
theorem n_inj {a b : Nat} (ha : a < 2 ^ 32) (hb : b < 2 ^ 32) (h : nI a = nI b) : a = b := by
  have := congrArg (fun x : Int32 => x.toBitVec.toNat) h
  simpa only [n_tn ha, n_tn hb] using this
theorem n_eq {a b : Nat} (ha : a < 2 ^ 32) (hb : b < 2 ^ 32) : nI a = nI b ↔ a = b := ⟨n_inj ha hb, fun h => by rw [h]⟩
theorem n_neg {a : Nat} (h1 : 2 ^ 31 ≤ a) (h2 : a < 2 ^ 32) : (nI a).toInt = (a : Int) - 2 ^ 32 := by
  show (BitVec.ofNat 32 a).toInt = _
  rw [BitVec.toInt_eq_toNat_cond, BitVec.toNat_ofNat, Nat.mod_eq_of_lt h2]
  split <;> omega
/-- within 0 .. b, as the machine compares: an nI within 0 .. b -/
theorem n_nonneg {a : Nat} (h2 : a < 2 ^ 32) : nI 0 ≤ nI a ↔ a < 2 ^ 31 := by
  rw [Int32.le_iff_toInt_le]
  by_cases h : a < 2 ^ 31
  · rw [nI_toInt h, nI_toInt (by decide)]; omega
  · rw [n_neg (by omega) h2, nI_toInt (by decide)]; omega
theorem n_leb {a b : Nat} (ha : a < 2 ^ 32) (hb : b < 2 ^ 31) : nI a ≤ nI b ↔ (a ≤ b ∨ 2 ^ 31 ≤ a) := by
  rw [Int32.le_iff_toInt_le, nI_toInt hb]
  by_cases h : a < 2 ^ 31
  · rw [nI_toInt h]; omega
  · rw [n_neg (by omega) ha]; omega
theorem n_ltb {a b : Nat} (ha : a < 2 ^ 32) (hb : b < 2 ^ 31) : nI a < nI b ↔ (a < b ∨ 2 ^ 31 ≤ a) := by
  rw [Int32.lt_iff_toInt_lt, nI_toInt hb]
  by_cases h : a < 2 ^ 31
  · rw [nI_toInt h]; omega
  · rw [n_neg (by omega) ha]; omega
theorem n_ble {a b : Nat} (ha : a < 2 ^ 32) (hb : b < 2 ^ 31) : nI b ≤ nI a ↔ (b ≤ a ∧ a < 2 ^ 31) := by
  rw [Int32.le_iff_toInt_le, nI_toInt hb]
  by_cases h : a < 2 ^ 31
  · rw [nI_toInt h]; omega
  · rw [n_neg (by omega) ha]; omega
theorem n_blt {a b : Nat} (ha : a < 2 ^ 32) (hb : b < 2 ^ 31) : nI b < nI a ↔ (b < a ∧ a < 2 ^ 31) := by
  rw [Int32.lt_iff_toInt_lt, nI_toInt hb]
  by_cases h : a < 2 ^ 31
  · rw [nI_toInt h]; omega
  · rw [n_neg (by omega) ha]; omega
theorem n_m1 : (-1 : Int32) = nI 4294967295 := by decide +kernel
/-- a loop that counts up to n: backward from its end -/
theorem up_to {n : Nat} {P : Nat → Prop} (h0 : P n) (h1 : ∀ i, i < n → P (i + 1) → P i) : ∀ i, i ≤ n → P i := by
  intro i hi
  obtain ⟨d, rfl⟩ : ∃ d, n = i + d := ⟨n - i, by omega⟩
  clear hi
  induction d generalizing i with
  | zero => exact h0
  | succ d ih =>
    refine h1 i (by omega) (ih (i + 1) ?_ ?_)
    · rw [show i + 1 + d = i + (d + 1) by omega]; exact h0
    · intro j hj
      exact h1 j (by omega)
theorem nI_1' (a : Nat) : nI a + nI 1 = nI (a + 1) := nI_add a 1
end
section
/-! a map by its number of points, L and R -/
abbrev ZP : Type := Nat × ((Nat → Nat → Nat) × (Nat → Nat → Nat))
def pwf (A : ZP) : Prop := A.1 ≤ 6 ∧ ∀ x y, x < A.1 → y < A.1 → A.2.1 x y < A.1 ∧ A.2.2 x y < A.1
def isPM (M : ZM) (k : Nat) (A : ZP) : Prop := pwf A ∧ M.1 0 k 1 = nI A.1 ∧ ∀ x y, x < A.1 → y < A.1 → M.1 1 k (8 * x + y) = nI (8 * A.2.1 x y + A.2.2 x y)
/-- nothing but the cells of S has changed -/
def zsm (S : Nat → Nat → Prop) (M M' : ZM) : Prop := M'.2 = M.2 ∧ ∀ a b, ¬ S a b → M'.1 a b = M.1 a b
theorem zsm_refl (S : Nat → Nat → Prop) (M : ZM) : zsm S M M := ⟨rfl, fun _ _ _ => rfl⟩
theorem zsm_trans {S : Nat → Nat → Prop} {M M' M'' : ZM} (h : zsm S M M') (h' : zsm S M' M'') : zsm S M M'' := ⟨h'.1.trans h.1, fun a b q => (h'.2 a b q).trans (h.2 a b q)⟩
theorem zsm_mono {S S' : Nat → Nat → Prop} {M M' : ZM} (h : zsm S M M') (hs : ∀ a b, S a b → S' a b) : zsm S' M M' := ⟨h.1, fun a b q => h.2 a b (fun z => q (hs a b z))⟩
theorem zsm_set {S : Nat → Nat → Prop} {M : ZM} {a b c : Nat} {v : Int32} (h : S a b) : zsm S M (zset a b c v M) := ⟨rfl, fun x y q => by
  funext z
  simp only [zset]
  rw [if_neg (fun w => q (by rw [w.1, w.2.1]; exact h))]⟩
theorem zset_eq {a b c : Nat} {v : Int32} {M : ZM} : (zset a b c v M).1 a b c = v := by simp [zset]
theorem zset_ne {a b c x y z : Nat} {v : Int32} {M : ZM} (h : ¬ (x = a ∧ y = b ∧ z = c)) : (zset a b c v M).1 x y z = M.1 x y z := by simp only [zset]; rw [if_neg h]
def pmS (k : Nat) : Nat → Nat → Prop := fun a b => (a = 0 ∨ a = 1) ∧ b = k
theorem isPM_same {S : Nat → Nat → Prop} {M M' : ZM} {k : Nat} {A : ZP} (h : isPM M k A) (hs : zsm S M M') (h0 : ¬ S 0 k) (h1 : ¬ S 1 k) : isPM M' k A := by
  refine ⟨h.1, ?_, fun x y hx hy => ?_⟩
  · rw [hs.2 0 k h0]; exact h.2.1
  · rw [hs.2 1 k h1]; exact h.2.2 x y hx hy
section
variable {G : ZG} {M : ZM} {Z : Option ZV → ZM → Prop}
/-! Codes -/
theorem s_CO_digit {m i : Nat} (hm : m < 2 ^ 32) (hi : i ≤ 9) (hZ : Z (some (zi (nI (m / 8 ^ i % 8)))) M) : Ctr 0 G mi_CO_digit [zi (nI m), zi (nI i)] M Z := by
  refine go_CO_digit (fun Kz hKz => ?_)
  conv => whnf
  rw [pk_mul, n_dig hm i hi]
  exact hZ
theorem s_CO_pairOf {x y : Nat} (hx : x < 8) (hy : y < 8) (hZ : Z (some (zi (nI (8 * x + y)))) M) : Ctr 0 G mi_CO_pairOf [zi (nI x), zi (nI y)] M Z := by
  refine go_CO_pairOf (fun Kz hKz => ?_)
  conv => whnf
  rw [n_shl _ 3 (by decide), n_or, show x * 2 ^ 3 ||| y = 8 * x + y from by
    have h : ∀ a, a < 8 → ∀ b, b < 8 → a * 2 ^ 3 ||| b = 8 * a + b := by decide
    exact h x hx y hy]
  exact hZ
/-! PairMap -/
theorem s_PM_points {k : Nat} (hk : k < 10) (hZ : Z (some (zi (M.1 0 k 1))) M) : Ctr 0 G mi_PM_points [zr 0 k] M Z := by
  refine go_PM_points (fun Kz hKz => ?_)
  conv => whnf
  refine ⟨by first | assumption | decide, ?_⟩
  conv => whnf
  exact hZ
theorem s_PM_imageOf {k j : Nat} (hk : k < 10) (hj : j < 64) (hZ : Z (some (zi (M.1 1 k j))) M) : Ctr 0 G mi_PM_imageOf [zr 0 k, zi (nI j)] M Z := by
  have h0 : nI j &&& nI 63 = nI j := by rw [n_and, show (63 : Nat) = 2 ^ 6 - 1 from rfl, Nat.and_two_pow_sub_one_eq_mod, Nat.mod_eq_of_lt hj]
  refine go_PM_imageOf (fun Kz hKz => ?_)
  conv => whnf
  refine ⟨by first | assumption | decide, ?_⟩
  conv => whnf
  refine ⟨hk, ?_, ?_⟩
  · rw [h0]; exact vp_in_nI hj (by decide)
  conv => whnf
  rw [h0, nI_clamp (by omega)]
  exact hZ
theorem s_PM_resize {k : Nat} {x : Int32} (hk : k < 10) (hZ : Z none (zset 0 k 1 x M)) : Ctr 0 G mi_PM_resize [zr 0 k, zi x] M Z := by
  refine go_PM_resize (fun Kz hKz => ?_)
  conv => whnf
  refine ⟨by first | assumption | decide, ?_⟩
  conv => whnf
  exact hZ
theorem s_PM_isEmpty {k : Nat} {A : ZP} (hk : k < 10) (hA : isPM M k A) (h1 : A.1 = 0 → Z (some (zi (nI 1))) M) (h2 : ¬ A.1 = 0 → Z (some (zi (nI 0))) M) : Ctr 0 G mi_PM_isEmpty [zr 0 k] M Z := by
  have hn : A.1 < 2 ^ 31 := Nat.lt_of_le_of_lt hA.1.1 (by decide)
  refine go_PM_isEmpty (fun Kz hKz => ?_)
  conv => whnf
  refine ⟨by first | assumption | decide, ?_⟩
  conv => whnf
  rw [hA.2.1, nI_eq hn (by decide)]
  refine ⟨fun h => ?_, fun h => ?_⟩
  · conv => whnf
    exact ⟨Or.inl rfl, h2 h⟩
  · conv => whnf
    exact ⟨Or.inr rfl, h1 (Classical.not_not.mp h)⟩
theorem s_PM_hasPoint {k m : Nat} {A : ZP} (hk : k < 10) (hm : m < 2 ^ 32) (hA : isPM M k A) (h1 : m < A.1 → Z (some (zi (nI 1))) M) (h2 : ¬ m < A.1 → Z (some (zi (nI 0))) M) : Ctr 0 G mi_PM_hasPoint [zr 0 k, zi (nI m)] M Z := by
  have hn := hA.1.1
  refine go_PM_hasPoint (fun Kz hKz => ?_)
  conv => whnf
  rw [n_ltb hm (by decide)]
  refine ⟨fun h => ?_, fun h => ?_⟩
  · conv => whnf
    exact ⟨Or.inl rfl, h2 (by omega)⟩
  · conv => whnf
    refine ⟨by first | assumption | decide, ?_⟩
    conv => whnf
    rw [hA.2.1, nI_leI (by omega) (by omega)]
    refine ⟨fun h3 => ?_, fun h3 => ?_⟩
    · conv => whnf
      exact ⟨Or.inl rfl, h2 (by omega)⟩
    · conv => whnf
      exact ⟨Or.inr rfl, h1 (by omega)⟩
theorem s_PM_left {k x y : Nat} {A : ZP} (hk : k < 10) (hA : isPM M k A) (hx : x < A.1) (hy : y < A.1) (hZ : Z (some (zi (nI (A.2.1 x y)))) M) : Ctr 0 G mi_PM_left [zr 0 k, zi (nI x), zi (nI y)] M Z := by
  have hn := hA.1.1
  have hLR := hA.1.2 x y hx hy
  refine go_PM_left (fun Kz hKz => ?_)
  conv => whnf
  refine s_CO_pairOf (by omega) (by omega) ?_
  conv => whnf
  refine ⟨by first | assumption | decide, ?_⟩
  conv => whnf
  refine s_PM_imageOf hk (by omega) ?_
  conv => whnf
  rw [hA.2.2 x y hx hy, n_shr 3 (by decide) (by omega), show (8 * A.2.1 x y + A.2.2 x y) / 2 ^ 3 = A.2.1 x y by omega]
  exact hZ
theorem s_PM_right {k x y : Nat} {A : ZP} (hk : k < 10) (hA : isPM M k A) (hx : x < A.1) (hy : y < A.1) (hZ : Z (some (zi (nI (A.2.2 x y)))) M) : Ctr 0 G mi_PM_right [zr 0 k, zi (nI x), zi (nI y)] M Z := by
  have hn := hA.1.1
  have hLR := hA.1.2 x y hx hy
  refine go_PM_right (fun Kz hKz => ?_)
  conv => whnf
  refine s_CO_pairOf (by omega) (by omega) ?_
  conv => whnf
  refine ⟨by first | assumption | decide, ?_⟩
  conv => whnf
  refine s_PM_imageOf hk (by omega) ?_
  conv => whnf
  rw [hA.2.2 x y hx hy, n_and, show (7 : Nat) = 2 ^ 3 - 1 from rfl, Nat.and_two_pow_sub_one_eq_mod, show (8 * A.2.1 x y + A.2.2 x y) % 2 ^ 3 = A.2.2 x y by omega]
  exact hZ
theorem s_PM_setImage {k x y l r : Nat} (hk : k < 10) (hx : x < 8) (hy : y < 8) (hl : l < 8) (hr : r < 8) (hZ : Z none (zset 1 k (8 * x + y) (nI (8 * l + r)) M)) : Ctr 0 G mi_PM_setImage [zr 0 k, zi (nI x), zi (nI y), zi (nI l), zi (nI r)] M Z := by
  have h0 : nI (8 * x + y) &&& nI 63 = nI (8 * x + y) := by rw [n_and, show (63 : Nat) = 2 ^ 6 - 1 from rfl, Nat.and_two_pow_sub_one_eq_mod, Nat.mod_eq_of_lt (by omega)]
  refine go_PM_setImage (fun Kz hKz => ?_)
  conv => whnf
  refine ⟨by first | assumption | decide, ?_⟩
  conv => whnf
  refine s_CO_pairOf hx hy ?_
  conv => whnf
  refine s_CO_pairOf hl hr ?_
  conv => whnf
  refine ⟨hk, ?_, ?_⟩
  · rw [h0]; exact vp_in_nI (by omega) (by decide)
  conv => whnf
  rw [h0, nI_clamp (by omega)]
  exact hZ
theorem s_PM_copy {k j : Nat} (hk : k < 10) (hj : j < 10) (hkj : k ≠ j) (hZ : ∀ M', zsm (pmS k) M M' → M'.1 0 k 1 = M.1 0 j 1 → (∀ c, c < 64 → M'.1 1 k c = M.1 1 j c) → Z none M') : Ctr 0 G mi_PM_copy [zr 0 k, zr 0 j] M Z := by
  have lp : ∀ i, i ≤ 64 → ∀ M', zsm (pmS k) M M' → M'.1 0 k 1 = M.1 0 j 1 → (∀ c, c < i → M'.1 1 k c = M.1 1 j c) → V 0 G mi_PM_copy Z 10 [(0, zr 0 k), (1, zr 0 j), (2, zi (nI i))] [] M' := by
    refine up_to ?_ ?_
    · intro M' h1 h2 h3
      refine z_run (cuts := cu_PM_copy) ok_PM_copy (fun Kz hKz => ?_)
      conv => whnf
      rw [nI_ltI (by decide) (by decide)]
      first | refine ⟨fun _ => ?_, fun q => absurd (by decide) q⟩ | refine ⟨fun q => absurd q (by decide), fun _ => ?_⟩
      conv => whnf
      exact hZ M' h1 h2 h3
    · intro i hi ih M' h1 h2 h3
      refine z_run (cuts := cu_PM_copy) ok_PM_copy (fun Kz hKz => ?_)
      conv => whnf
      rw [nI_ltI (by decide) (by omega)]
      refine ⟨fun q => absurd q (by omega), fun _ => ?_⟩
      conv => whnf
      refine ⟨by first | assumption | decide, ?_⟩
      conv => whnf
      refine ⟨by first | assumption | decide, ?_⟩
      conv => whnf
      refine ⟨hj, vp_in_nI hi (by decide), ?_⟩
      conv => whnf
      refine ⟨hk, vp_in_nI hi (by decide), ?_⟩
      conv => whnf
      rw [nI_clamp (by omega), nI_1']
      refine hKz _ _ _ _ ?_
      refine ih _ (zsm_trans h1 (zsm_set ⟨Or.inr rfl, rfl⟩)) ?_ (fun c hc => ?_)
      · rw [zset_ne (by omega)]; exact h2
      · by_cases hci : c = i
        · subst hci
          rw [zset_eq, h1.2 1 j (fun q => hkj q.2.symm)]
        · rw [zset_ne (by omega)]
          exact h3 c (by omega)
  refine go_PM_copy (fun Kz hKz => ?_)
  conv => whnf
  refine ⟨by first | assumption | decide, ?_⟩
  conv => whnf
  refine ⟨by first | assumption | decide, ?_⟩
  conv => whnf
  refine hKz _ _ _ _ ?_
  exact lp 0 (by decide) _ (zsm_set ⟨Or.inl rfl, rfl⟩) zset_eq (fun c hc => absurd hc (Nat.not_lt_zero _))
end
end
section
/-- the turned code of the first k digits -/
def tn (m : Nat) : Nat → Nat
  | 0 => 0
  | k + 1 => 8 * tn m k + m / 8 ^ k % 8
theorem tn_lt (m k : Nat) : tn m k < 8 ^ k := by
  induction k with
  | zero => exact Nat.one_pos
  | succ k ih =>
    have h : m / 8 ^ k % 8 < 8 := Nat.mod_lt _ (by decide)
    simp only [tn, Nat.pow_succ]
    omega
theorem n_or8 {a d : Nat} (hd : d < 8) : a * 2 ^ 3 ||| d = 8 * a + d := by
  have h := Nat.shiftLeft_add_eq_or_of_lt (a := a) (b := d) (i := 3) hd
  rw [Nat.shiftLeft_eq] at h
  rw [← h]
  omega
theorem p8_le {k : Nat} (hk : k ≤ 6) : 8 ^ k ≤ 262144 := by
  have : 8 ^ k ≤ 8 ^ 6 := Nat.pow_le_pow_right (by decide) hk
  omega
def isC (m k n : Nat) : Prop := m < 8 ^ k ∧ ∀ i, i < k → m / 8 ^ i % 8 < n
/-- the set of the first k digits -/
def st8 (m : Nat) : Nat → Nat
  | 0 => 0
  | k + 1 => st8 m k ||| 2 ^ (m / 8 ^ k % 8)
def isP (m n : Nat) : Prop := isC m n n ∧ st8 m n = 2 ^ n - 1
/-- number j of the sequences of k numbers below n, turned -/
def enc (n : Nat) : Nat → Nat → Nat
  | 0, _ => 0
  | k + 1, j => 8 * enc n k (j / n) + j % n
theorem enc_lt {n : Nat} (hn : n ≤ 8) (h0 : 0 < n) (k : Nat) : ∀ j, enc n k j < 8 ^ k := by
  induction k with
  | zero => intro j; exact Nat.one_pos
  | succ k ih =>
    intro j
    have h1 := ih (j / n)
    have h2 : j % n < n := Nat.mod_lt _ h0
    simp only [enc, Nat.pow_succ]
    omega
section
variable {G : ZG} {M : ZM} {Z : Option ZV → ZM → Prop}
theorem s_CO_turned {m k : Nat} (hm : m < 2 ^ 32) (hk : k ≤ 6) (hZ : Z (some (zi (nI (tn m k)))) M) : Ctr 0 G mi_CO_turned [zi (nI m), zi (nI k)] M Z := by
  have lp : ∀ i, i ≤ k → V 0 G mi_CO_turned Z 4 [(0, zi (nI m)), (1, zi (nI k)), (2, zi (nI (tn m i))), (3, zi (nI i))] [] M := by
    refine up_to ?_ ?_
    · refine z_run (cuts := cu_CO_turned) ok_CO_turned (fun Kz hKz => ?_)
      conv => whnf
      rw [nI_leI (by omega) (by omega)]
      refine ⟨fun _ => ?_, fun q => absurd (Nat.le_refl _) q⟩
      conv => whnf
      exact hZ
    · intro i hi ih
      refine z_run (cuts := cu_CO_turned) ok_CO_turned (fun Kz hKz => ?_)
      conv => whnf
      rw [nI_leI (by omega) (by omega)]
      refine ⟨fun q => absurd q (by omega), fun _ => ?_⟩
      conv => whnf
      refine s_CO_digit hm (by omega) ?_
      conv => whnf
      refine hKz _ _ _ _ ?_
      rw [n_shl _ 3 (by decide), n_or, n_or8 (Nat.mod_lt _ (by decide)), nI_1']
      exact ih
  refine go_CO_turned (fun Kz hKz => ?_)
  conv => whnf
  refine hKz _ _ _ _ ?_
  exact lp 0 (Nat.zero_le _)
theorem s_CO_isCode {m k n : Nat} (hm : m < 2 ^ 32) (hk : k ≤ 6) (hn : n ≤ 6) (h1 : isC m k n → Z (some (zi (nI 1))) M) (h2 : ¬ isC m k n → Z (some (zi (nI 0))) M) : Ctr 0 G mi_CO_isCode [zi (nI m), zi (nI k), zi (nI n)] M Z := by
  have hu : ((nI m).toUInt32 >>> ((nI 3 * nI k).toUInt32 &&& Int32.toUInt32 31)).toInt32 = nI (m / 8 ^ k) := by
    have hs : ∀ k, k ≤ 6 → (((nI 3 * nI k).toUInt32 &&& Int32.toUInt32 31).toBitVec % 32).toNat = 3 * k := by decide +kernel
    have h := pk_ushrN hm (nI 3 * nI k) (3 * k) (hs k hk)
    rw [Nat.pow_mul] at h
    exact h
  have hd : m / 8 ^ k = 0 ↔ m < 8 ^ k := by
    have hp : 0 < 8 ^ k := Nat.pow_pos (by decide)
    constructor
    · intro h
      exact (Nat.div_eq_zero_iff_lt hp).mp h
    · intro h
      exact Nat.div_eq_of_lt h
  have lp : ∀ i, i ≤ k → (∀ j, j < i → m / 8 ^ j % 8 < n) → V 0 G mi_CO_isCode Z 2 [(0, zi (nI m)), (1, zi (nI k)), (2, zi (nI n)), (3, zi (nI i))] [] M := by
    refine up_to ?_ ?_
    · intro hj
      refine z_run (cuts := cu_CO_isCode) ok_CO_isCode (fun Kz hKz => ?_)
      conv => whnf
      rw [nI_leI (by omega) (by omega)]
      refine ⟨fun _ => ?_, fun q => absurd (Nat.le_refl _) q⟩
      conv => whnf
      rw [hu, n_eq (Nat.lt_of_le_of_lt (Nat.div_le_self _ _) hm) (by decide), hd]
      refine ⟨fun h => ?_, fun h => ?_⟩
      · conv => whnf
        exact ⟨Or.inl rfl, h2 (fun q => h q.1)⟩
      · conv => whnf
        exact ⟨Or.inr rfl, h1 ⟨Classical.not_not.mp h, hj⟩⟩
    · intro i hi ih hj
      refine z_run (cuts := cu_CO_isCode) ok_CO_isCode (fun Kz hKz => ?_)
      conv => whnf
      rw [nI_leI (by omega) (by omega)]
      refine ⟨fun q => absurd q (by omega), fun _ => ?_⟩
      conv => whnf
      refine s_CO_digit hm (by omega) ?_
      conv => whnf
      have hlt : m / 8 ^ i % 8 < 8 := Nat.mod_lt _ (by decide)
      rw [nI_ltI (by omega) (by omega)]
      refine ⟨fun h => ?_, fun h => ?_⟩
      · conv => whnf
        refine hKz _ _ _ _ ?_
        rw [nI_1']
        refine ih (fun j hj2 => ?_)
        rcases Nat.lt_succ_iff_lt_or_eq.mp hj2 with h3 | h3
        · exact hj j h3
        · rw [h3]; exact h
      · conv => whnf
        exact ⟨Or.inl rfl, h2 (fun q => h (q.2 i hi))⟩
  refine go_CO_isCode (fun Kz hKz => ?_)
  conv => whnf
  refine hKz _ _ _ _ ?_
  exact lp 0 (Nat.zero_le _) (fun j hj => absurd hj (Nat.not_lt_zero _))
theorem s_CO_isPermutation {m n : Nat} (hm : m < 2 ^ 32) (hn : n ≤ 6) (h1 : isP m n → Z (some (zi (nI 1))) M) (h2 : ¬ isP m n → Z (some (zi (nI 0))) M) : Ctr 0 G mi_CO_isPermutation [zi (nI m), zi (nI n)] M Z := by
  have hst : ∀ i, i ≤ 6 → st8 m i < 2 ^ 8 := by
    intro i
    induction i with
    | zero => intro _; exact Nat.pow_pos (by decide)
    | succ i ih =>
      intro hi
      have h1 := ih (by omega)
      have h2 : m / 8 ^ i % 8 < 8 := Nat.mod_lt _ (by decide)
      exact Nat.or_lt_two_pow h1 (Nat.pow_lt_pow_right (by decide) h2)
  have lp : ∀ i, i ≤ n → V 0 G mi_CO_isPermutation Z 4 [(0, zi (nI m)), (1, zi (nI n)), (2, zi (nI (st8 m i))), (3, zi (nI i))] [] M := by
    refine up_to ?_ ?_
    · refine z_run (cuts := cu_CO_isPermutation) ok_CO_isPermutation (fun Kz hKz => ?_)
      conv => whnf
      rw [nI_leI (by omega) (by omega)]
      refine ⟨fun _ => ?_, fun q => absurd (Nat.le_refl _) q⟩
      conv => whnf
      refine s_CO_isCode hm hn hn (fun h => ?_) (fun h => ?_)
      · conv => whnf
        first | refine ⟨fun _ => ?_, fun q => absurd (by decide) q⟩ | refine ⟨fun q => absurd q (by decide), fun _ => ?_⟩
        conv => whnf
        have hp : 2 ^ n ≤ 2 ^ 6 := Nat.pow_le_pow_right (by decide) hn
        have hp0 : 0 < 2 ^ n := Nat.pow_pos (by decide)
        rw [n_shl _ n (by omega), Nat.one_mul, pk_sub hp0, n_ne (Nat.lt_trans (hst n hn) (by decide)) (by omega)]
        refine ⟨fun h3 => ?_, fun h3 => ?_⟩
        · conv => whnf
          exact ⟨Or.inl rfl, h2 (fun q => h3 q.2)⟩
        · conv => whnf
          exact ⟨Or.inr rfl, h1 ⟨h, Classical.not_not.mp h3⟩⟩
      · conv => whnf
        first | refine ⟨fun _ => ?_, fun q => absurd (by decide) q⟩ | refine ⟨fun q => absurd q (by decide), fun _ => ?_⟩
        conv => whnf
        exact ⟨Or.inl rfl, h2 (fun q => h q.1)⟩
    · intro i hi ih
      refine z_run (cuts := cu_CO_isPermutation) ok_CO_isPermutation (fun Kz hKz => ?_)
      conv => whnf
      rw [nI_leI (by omega) (by omega)]
      refine ⟨fun q => absurd q (by omega), fun _ => ?_⟩
      conv => whnf
      refine s_CO_digit hm (by omega) ?_
      conv => whnf
      refine hKz _ _ _ _ ?_
      have hlt : m / 8 ^ i % 8 < 8 := Nat.mod_lt _ (by decide)
      rw [n_shl _ _ (by omega), Nat.one_mul, n_or, nI_1']
      exact ih
  refine go_CO_isPermutation (fun Kz hKz => ?_)
  conv => whnf
  refine hKz _ _ _ _ ?_
  exact lp 0 (Nat.zero_le _)
theorem s_CO_sequences {k n : Nat} (hk : k ≤ 6) (hn : n ≤ 6) (hZ : Z (some (zi (nI (n ^ k)))) M) : Ctr 0 G mi_CO_sequences [zi (nI k), zi (nI n)] M Z := by
  have lp : ∀ i, i ≤ k → V 0 G mi_CO_sequences Z 4 [(0, zi (nI k)), (1, zi (nI n)), (2, zi (nI (n ^ i))), (3, zi (nI i))] [] M := by
    refine up_to ?_ ?_
    · refine z_run (cuts := cu_CO_sequences) ok_CO_sequences (fun Kz hKz => ?_)
      conv => whnf
      rw [nI_leI (by omega) (by omega)]
      refine ⟨fun _ => ?_, fun q => absurd (Nat.le_refl _) q⟩
      conv => whnf
      exact hZ
    · intro i hi ih
      refine z_run (cuts := cu_CO_sequences) ok_CO_sequences (fun Kz hKz => ?_)
      conv => whnf
      rw [nI_leI (by omega) (by omega)]
      refine ⟨fun q => absurd q (by omega), fun _ => ?_⟩
      conv => whnf
      refine hKz _ _ _ _ ?_
      rw [pk_mul, nI_1', ← Nat.pow_succ]
      exact ih
  refine go_CO_sequences (fun Kz hKz => ?_)
  conv => whnf
  refine hKz _ _ _ _ ?_
  exact lp 0 (Nat.zero_le _)
theorem s_T_isWithin {m l h : Nat} (hm : m < 2 ^ 32) (hl : l < 2 ^ 31) (hh : h < 2 ^ 31) (h1 : l ≤ m → m ≤ h → Z (some (zi (nI 1))) M) (h2 : ¬ (l ≤ m ∧ m ≤ h) → Z (some (zi (nI 0))) M) : Ctr 0 G mi_T_isWithin [zi (nI m), zi (nI l), zi (nI h)] M Z := by
  refine go_T_isWithin (fun Kz hKz => ?_)
  conv => whnf
  rw [n_ltb hm hl]
  refine ⟨fun q => ?_, fun q => ?_⟩
  · conv => whnf
    exact ⟨Or.inl rfl, h2 (by omega)⟩
  · conv => whnf
    rw [n_blt hm hh]
    refine ⟨fun q2 => ?_, fun q2 => ?_⟩
    · conv => whnf
      exact ⟨Or.inl rfl, h2 (by omega)⟩
    · conv => whnf
      exact ⟨Or.inr rfl, h1 (by omega) (by omega)⟩
theorem s_T_isPlace {m : Nat} (hm : m < 2 ^ 32) (h1 : m < 4 → Z (some (zi (nI 1))) M) (h2 : ¬ m < 4 → Z (some (zi (nI 0))) M) : Ctr 0 G mi_T_isPlace [zi (nI m)] M Z := by
  refine go_T_isPlace (fun Kz hKz => ?_)
  conv => whnf
  refine s_T_isWithin hm (by decide) (by decide) (fun h3 h4 => ?_) (fun h => ?_)
  · conv => whnf
    exact ⟨Or.inr rfl, h1 (by omega)⟩
  · conv => whnf
    exact ⟨Or.inl rfl, h2 (by omega)⟩
theorem s_T_isBraid {m : Nat} (hm : m < 2 ^ 32) (h1 : m < 2 → Z (some (zi (nI 1))) M) (h2 : ¬ m < 2 → Z (some (zi (nI 0))) M) : Ctr 0 G mi_T_isBraid [zi (nI m)] M Z := by
  refine go_T_isBraid (fun Kz hKz => ?_)
  conv => whnf
  refine s_T_isWithin hm (by decide) (by decide) (fun h3 h4 => ?_) (fun h => ?_)
  · conv => whnf
    exact ⟨Or.inr rfl, h1 (by omega)⟩
  · conv => whnf
    exact ⟨Or.inl rfl, h2 (by omega)⟩
theorem s_T_isTupleLength {m : Nat} (hm : m < 2 ^ 32) (h1 : 2 ≤ m → m ≤ 4 → Z (some (zi (nI 1))) M) (h2 : ¬ (2 ≤ m ∧ m ≤ 4) → Z (some (zi (nI 0))) M) : Ctr 0 G mi_T_isTupleLength [zi (nI m)] M Z := by
  refine go_T_isTupleLength (fun Kz hKz => ?_)
  conv => whnf
  refine s_T_isWithin hm (by decide) (by decide) (fun h3 h4 => ?_) (fun h => ?_)
  · conv => whnf
    exact ⟨Or.inr rfl, h1 h3 h4⟩
  · conv => whnf
    exact ⟨Or.inl rfl, h2 h⟩
theorem s_T_oneIf {x : Int32} (h1 : ¬ x = nI 0 → Z (some (zi (nI 1))) M) (h2 : x = nI 0 → Z (some (zi (nI 0))) M) : Ctr 0 G mi_T_oneIf [zi x] M Z := by
  refine go_T_oneIf (fun Kz hKz => ?_)
  conv => whnf
  refine ⟨fun q => ?_, fun q => ?_⟩
  · conv => whnf
    exact h2 q
  · conv => whnf
    exact h1 q
end
end
section
theorem enc_zero {n : Nat} (h0 : 0 < n) (k : Nat) : enc n k 0 = 0 := by
  induction k with
  | zero => rfl
  | succ k ih => simp only [enc, Nat.zero_div, Nat.zero_mod, ih]
/-- 8 ^ i at once, from the i lowest places on -/
theorem enc_dig {n : Nat} (hn : n ≤ 8) (h0 : 0 < n) : ∀ (i k j : Nat), i < k → enc n k j / 8 ^ i % 8 = j / n ^ i % n := by
  intro i
  induction i with
  | zero =>
    intro k j hk
    obtain ⟨k, rfl⟩ : ∃ k', k = k' + 1 := ⟨k - 1, by omega⟩
    have h := Nat.mod_lt j h0
    simp only [enc, Nat.pow_zero, Nat.div_one]
    omega
  | succ i ih =>
    intro k j hk
    obtain ⟨k, rfl⟩ : ∃ k', k = k' + 1 := ⟨k - 1, by omega⟩
    have h := Nat.mod_lt j h0
    have e1 : enc n (k + 1) j / 8 ^ (i + 1) = enc n k (j / n) / 8 ^ i := by
      rw [Nat.pow_succ, Nat.mul_comm, ← Nat.div_div_eq_div_mul]
      congr 1
      simp only [enc]
      omega
    rw [e1, ih k (j / n) (by omega), Nat.pow_succ, Nat.mul_comm, Nat.div_div_eq_div_mul]
theorem enc_shift {n : Nat} (h0 : 0 < n) : ∀ (i k X : Nat), i ≤ k → enc n k (n ^ i * X) = 8 ^ i * enc n (k - i) X := by
  intro i
  induction i with
  | zero => intro k X _; simp
  | succ i ih =>
    intro k X hk
    obtain ⟨k, rfl⟩ : ∃ k', k = k' + 1 := ⟨k - 1, by omega⟩
    have e : n ^ (i + 1) * X = n * (n ^ i * X) := by rw [Nat.pow_succ, Nat.mul_comm (n ^ i) n, Nat.mul_assoc]
    simp only [enc]
    rw [e, Nat.mul_mod_right, Nat.mul_div_cancel_left _ h0, ih k X (by omega), Nat.pow_succ, show k + 1 - (i + 1) = k - i by omega, Nat.mul_comm (8 ^ i) 8, Nat.mul_assoc]
    rfl
theorem n_clr {i q d : Nat} (hd : d < 8) (h : 8 ^ i * (8 * q + d) < 2 ^ 32) : 8 ^ i * (8 * q + d) &&& (7 * 8 ^ i ^^^ 4294967295) = 8 ^ (i + 1) * q := by
  have e8 : ∀ i, 8 ^ i = 2 ^ (3 * i) := fun i => by rw [Nat.pow_mul]
  apply Nat.eq_of_testBit_eq
  intro b
  rw [Nat.testBit_and, Nat.testBit_xor, show (4294967295 : Nat) = 2 ^ 32 - 1 from rfl, Nat.testBit_two_pow_sub_one, Nat.mul_comm 7, show (7 : Nat) = 2 ^ 3 - 1 from rfl]
  by_cases hb : 32 ≤ b
  · have h1 : (8 ^ i * (8 * q + d)).testBit b = false := Nat.testBit_lt_two_pow (Nat.lt_of_lt_of_le h (Nat.pow_le_pow_right (by decide) hb))
    have h2 : (8 ^ (i + 1) * q).testBit b = false := by
      apply Nat.testBit_lt_two_pow
      refine Nat.lt_of_le_of_lt ?_ (Nat.lt_of_lt_of_le h (Nat.pow_le_pow_right (by decide) hb))
      rw [Nat.pow_succ, Nat.mul_assoc]
      exact Nat.mul_le_mul_left _ (by omega)
    rw [h1, h2, Bool.false_and]
  · have hd2 : (8 * q + d).testBit = fun j => if j < 3 then d.testBit j else q.testBit (j - 3) := by
      funext j
      rw [show 8 * q + d = 2 ^ 3 * q + d from rfl, Nat.testBit_two_pow_mul_add _ (by omega)]
    rw [e8, e8, Nat.testBit_two_pow_mul, Nat.testBit_two_pow_mul, Nat.testBit_two_pow_mul, Nat.testBit_two_pow_sub_one, hd2]
    by_cases h1 : 3 * i ≤ b
    · by_cases h2 : b - 3 * i < 3
      · have h3 : ¬ 3 * (i + 1) ≤ b := by omega
        have h4 : b < 32 := by omega
        simp [h1, h2, h3, h4]
      · have h3 : 3 * (i + 1) ≤ b := by omega
        have h4 : b < 32 := by omega
        simp [h1, h2, h3, h4, show b - 3 * i - 3 = b - 3 * (i + 1) by omega]
    · have h3 : ¬ 3 * (i + 1) ≤ b := by omega
      simp [h1, h3]
section
variable {G : ZG} {M : ZM} {Z : Option ZV → ZM → Prop}
theorem s_CO_next {n k j : Nat} (h0 : 0 < n) (hn : n ≤ 6) (hk : k ≤ 4) (hj : j < n ^ k) (hZ : ∀ t, t < 4096 → (j + 1 < n ^ k → t = enc n k (j + 1)) → Z (some (zi (nI t))) M) : Ctr 0 G mi_CO_next [zi (nI (enc n k j)), zi (nI k), zi (nI n)] M Z := by
  have h8 : ∀ i, i ≤ 4 → 8 ^ i ≤ 4096 := fun i hi => Nat.pow_le_pow_right (by decide) hi
  have lp : ∀ i, i ≤ k → ∀ J, j + 1 = n ^ i * (J + 1) → V 0 G mi_CO_next Z 5 [(1, zi (nI k)), (2, zi (nI n)), (3, zi (nI (8 ^ i * enc n (k - i) J))), (4, zi (nI i))] [] M := by
    refine up_to ?_ ?_
    · intro J hJ
      refine z_run (cuts := cu_CO_next) ok_CO_next (fun Kz hKz => ?_)
      conv => whnf
      rw [nI_leI (by omega) (by omega)]
      refine ⟨fun _ => ?_, fun q => absurd (Nat.le_refl _) q⟩
      conv => whnf
      rw [Nat.sub_self, show enc n 0 J = 0 from rfl, Nat.mul_zero]
      refine hZ 0 (by decide) (fun q => ?_)
      have : n ^ k * 1 ≤ n ^ k * (J + 1) := Nat.mul_le_mul_left _ (by omega)
      omega
    · intro i hi ih J hJ
      obtain ⟨K, hK⟩ : ∃ K, k - i = K + 1 := ⟨k - i - 1, by omega⟩
      have hen := enc_lt (show n ≤ 8 by omega) h0 K (J / n)
      have hJn := Nat.mod_lt J h0
      have h81 : 8 ^ K ≤ 8 ^ 4 := Nat.pow_le_pow_right (by decide) (by omega)
      have hp : 0 < 8 ^ i := Nat.pow_pos (by decide)
      have hb1 : 8 ^ i * (8 * enc n K (J / n) + J % n) < 4096 := by
        have e1 : 8 * enc n K (J / n) + J % n + 1 ≤ 8 ^ (K + 1) := by rw [Nat.pow_succ]; omega
        have e2 : 8 ^ i * (8 * enc n K (J / n) + J % n + 1) ≤ 8 ^ i * 8 ^ (K + 1) := Nat.mul_le_mul_left _ e1
        rw [← Nat.pow_add] at e2
        have e3 := h8 (i + (K + 1)) (by omega)
        rw [Nat.mul_add] at e2
        omega
      refine z_run (cuts := cu_CO_next) ok_CO_next (fun Kz hKz => ?_)
      conv => whnf
      rw [nI_leI (by omega) (by omega)]
      refine ⟨fun q => absurd q (by omega), fun _ => ?_⟩
      conv => whnf
      rw [hK]
      simp only [enc]
      refine s_CO_digit (by omega) (by omega) ?_
      conv => whnf
      rw [Nat.mul_div_cancel_left _ hp, show (8 * enc n K (J / n) + J % n) % 8 = J % n by omega, nI_1', nI_leI (by omega) (by omega)]
      refine ⟨fun h => ?_, fun h => ?_⟩
      · conv => whnf
        refine hKz _ _ _ _ ?_
        have hJ1 : J % n = n - 1 := by omega
        have hJ2 : J + 1 = n * (J / n + 1) := by
          have := Nat.div_add_mod J n
          rw [Nat.mul_add]
          omega
        rw [n_m1, n_shl _ (3 * i) (by omega) |> fun e => (by rw [pk_mul]; exact e : nI 7 <<< (nI 3 * nI i &&& 31) = nI (7 * 2 ^ (3 * i))), Nat.pow_mul, n_xor, n_and, n_clr (by omega) (by omega), nI_1']
        have h9 := ih (J / n) (by rw [hJ, hJ2, Nat.pow_succ, Nat.mul_assoc])
        rw [show k - (i + 1) = K by omega] at h9
        exact h9
      · conv => whnf
        rw [pk_mul, n_shl _ (3 * i) (by omega), Nat.pow_mul, Nat.one_mul, nI_add]
        have hJ3 : (J + 1) / n = J / n ∧ (J + 1) % n = J % n + 1 := by
          have h1 := Nat.div_add_mod J n
          have hlt : J % n + 1 < n := by omega
          have e : J + 1 = n * (J / n) + (J % n + 1) := by omega
          constructor
          · rw [e, Nat.mul_add_div h0, Nat.div_eq_of_lt hlt, Nat.add_zero]
          · rw [e, Nat.mul_add_mod, Nat.mod_eq_of_lt hlt]
        rw [show (2 : Nat) ^ 3 = 8 from rfl]
        refine hZ _ ?_ (fun q => ?_)
        · have e1 : 8 * enc n K (J / n) + J % n + 1 < 8 ^ (K + 1) := by rw [Nat.pow_succ]; omega
          have e2 : 8 ^ i * (8 * enc n K (J / n) + J % n + 1) < 8 ^ i * 8 ^ (K + 1) := Nat.mul_lt_mul_of_pos_left e1 hp
          rw [← Nat.pow_add] at e2
          have e3 := h8 (i + (K + 1)) (by omega)
          rw [Nat.mul_add] at e2
          omega
        · rw [hJ, enc_shift h0 i k (J + 1) (by omega), hK]
          simp only [enc]
          rw [hJ3.1, hJ3.2, ← Nat.add_assoc, Nat.mul_add (8 ^ i) _ 1, Nat.mul_one]
  refine go_CO_next (fun Kz hKz => ?_)
  conv => whnf
  refine hKz _ _ _ _ ?_
  have h := lp 0 (Nat.zero_le _) j (by rw [Nat.pow_zero, Nat.one_mul])
  rw [Nat.pow_zero, Nat.one_mul, Nat.sub_zero] at h
  exact h
theorem s_CO_commonMultiple {a b : Nat} (ha : 0 < a) (hb : 0 < b) (hab : a * b < 2 ^ 31) (hZ : Z (some (zi (nI (Nat.lcm a b)))) M) : Ctr 0 G mi_CO_commonMultiple [zi (nI a), zi (nI b)] M Z := by
  have ha1 : a < 2 ^ 31 := Nat.lt_of_le_of_lt (Nat.le_mul_of_pos_right a hb) hab
  have hb1 : b < 2 ^ 31 := Nat.lt_of_le_of_lt (Nat.le_mul_of_pos_left b ha) hab
  have key : ∀ k, 0 < k → k ≤ b → b ∣ a * k → (∀ j, 0 < j → j < k → ¬ b ∣ a * j) → a * k = Nat.lcm a b := by
    intro k hk0 hkb hd hmin
    have h1 : Nat.lcm a b ∣ a * k := Nat.lcm_dvd (Nat.dvd_mul_right a k) hd
    obtain ⟨c, hc⟩ := Nat.dvd_lcm_left a b
    have hl0 : 0 < Nat.lcm a b := Nat.lcm_pos ha hb
    have hc0 : 0 < c := by
      rcases Nat.eq_zero_or_pos c with h | h
      · rw [h, Nat.mul_zero] at hc; omega
      · exact h
    have h2 : ¬ c < k := fun q => hmin c hc0 q (by rw [← hc]; exact Nat.dvd_lcm_right a b)
    have h3 := Nat.le_of_dvd (Nat.mul_pos ha hk0) h1
    rw [hc] at h3 ⊢
    have h4 : c ≤ k := Nat.le_of_mul_le_mul_left h3 ha
    rw [show c = k by omega]
  have lp : ∀ k, k ≤ b → 0 < k → (∀ j, 0 < j → j < k → ¬ b ∣ a * j) → V 0 G mi_CO_commonMultiple Z 2 [(0, zi (nI a)), (1, zi (nI b)), (2, zi (nI k))] [] M := by
    refine up_to ?_ ?_
    · intro h0 hm
      refine z_run (cuts := cu_CO_commonMultiple) ok_CO_commonMultiple (fun Kz hKz => ?_)
      conv => whnf
      rw [nI_leI hb1 hb1]
      refine ⟨fun _ => ?_, fun q => absurd (Nat.le_refl _) q⟩
      conv => whnf
      rw [pk_mul, key b hb (Nat.le_refl _) (Nat.dvd_mul_left b a) hm]
      exact hZ
    · intro k hk ih h0 hm
      have hak : a * k < 2 ^ 31 := Nat.lt_of_le_of_lt (Nat.mul_le_mul_left a (Nat.le_of_lt hk)) hab
      refine z_run (cuts := cu_CO_commonMultiple) ok_CO_commonMultiple (fun Kz hKz => ?_)
      conv => whnf
      rw [nI_leI hb1 (by omega)]
      refine ⟨fun q => absurd q (by omega), fun _ => ?_⟩
      conv => whnf
      refine ⟨?_, ?_⟩
      · rw [nI_eq hb1 (by decide)]; omega
      conv => whnf
      rw [pk_mul, n_mod hak hb hb1, nI_eq (Nat.lt_trans (Nat.mod_lt _ hb) hb1) (by decide)]
      refine ⟨fun h => ?_, fun h => ?_⟩
      · conv => whnf
        refine hKz _ _ _ _ ?_
        rw [nI_1']
        refine ih (by omega) (fun j hj0 hj => ?_)
        rcases Nat.lt_succ_iff_lt_or_eq.mp hj with h3 | h3
        · exact hm j hj0 h3
        · rw [h3]; exact fun q => h (Nat.mod_eq_zero_of_dvd q)
      · conv => whnf
        rw [pk_mul, key k h0 (by omega) (Nat.dvd_of_mod_eq_zero (Classical.not_not.mp h)) hm]
        exact hZ
  refine go_CO_commonMultiple (fun Kz hKz => ?_)
  conv => whnf
  refine hKz _ _ _ _ ?_
  exact lp 1 hb (by decide) (fun j h1 h2 => by omega)
end
end
section
/-! tuples as lists of numbers, and their turned codes -/
def tcl (w : List Nat) : Nat := w.foldl (fun a d => 8 * a + d) 0
theorem tcl_fold (w : List Nat) : ∀ a, w.foldl (fun a d => 8 * a + d) a = a * 8 ^ w.length + tcl w := by
  induction w with
  | nil => intro a; simp [tcl]
  | cons d r ih =>
    intro a
    rw [tcl, List.foldl_cons, List.foldl_cons, ih, ih (8 * 0 + d), List.length_cons, Nat.pow_succ, Nat.add_mul, Nat.mul_zero, Nat.zero_add, Nat.add_assoc, Nat.mul_comm 8 a, Nat.mul_assoc, Nat.mul_comm 8]
theorem tcl_app (u v : List Nat) : tcl (u ++ v) = tcl u * 8 ^ v.length + tcl v := by
  rw [tcl, List.foldl_append, tcl_fold]
  rfl
theorem tcl_lt {w : List Nat} (h : ∀ d ∈ w, d < 8) : tcl w < 8 ^ w.length := by
  induction w with
  | nil => exact Nat.one_pos
  | cons d r ih =>
    have h1 := ih (fun x hx => h x (List.mem_cons_of_mem _ hx))
    have h2 := h d List.mem_cons_self
    have e : tcl (d :: r) = d * 8 ^ r.length + tcl r := by
      have := tcl_app [d] r
      simpa [tcl] using this
    rw [e, List.length_cons, Nat.pow_succ]
    have h3 : d * 8 ^ r.length ≤ 7 * 8 ^ r.length := Nat.mul_le_mul_right _ (by omega)
    omega
/-- 8 ^ s * (64 * h + p) + l with p turned into q, by exclusive or -/
theorem n_swap {s h p q l : Nat} (hp : p < 64) (hq : q < 64) (hl : l < 8 ^ s) : (8 ^ s * (64 * h + p) + l) ^^^ ((p ^^^ q) * 8 ^ s) = 8 ^ s * (64 * h + q) + l := by
  have e8 : ∀ i, 8 ^ i = 2 ^ (3 * i) := fun i => by rw [Nat.pow_mul]
  rw [e8] at hl ⊢
  have hx : ∀ z, z < 64 → ∀ b, (64 * h + z).testBit b = if b < 6 then z.testBit b else h.testBit (b - 6) := by
    intro z hz b
    rw [show 64 * h + z = 2 ^ 6 * h + z from rfl, Nat.testBit_two_pow_mul_add _ (by omega)]
  apply Nat.eq_of_testBit_eq
  intro b
  rw [Nat.testBit_xor, Nat.testBit_two_pow_mul_add _ hl, Nat.testBit_two_pow_mul_add _ hl, Nat.mul_comm (p ^^^ q), Nat.testBit_two_pow_mul, hx p hp, hx q hq, Nat.testBit_xor]
  by_cases h1 : b < 3 * s
  · have h2 : ¬ 3 * s ≤ b := by omega
    simp [h1, h2]
  · have h2 : 3 * s ≤ b := by omega
    by_cases h3 : b - 3 * s < 6
    · simp only [h1, h2, h3, if_true, if_false, ge_iff_le, decide_true, Bool.true_and]
      cases p.testBit (b - 3 * s) <;> cases q.testBit (b - 3 * s) <;> rfl
    · have hp6 : p.testBit (b - 3 * s) = false := Nat.testBit_lt_two_pow (Nat.lt_of_lt_of_le hp (by rw [show 64 = 2 ^ 6 from rfl]; exact Nat.pow_le_pow_right (by decide) (by omega)))
      have hq6 : q.testBit (b - 3 * s) = false := Nat.testBit_lt_two_pow (Nat.lt_of_lt_of_le hq (by rw [show 64 = 2 ^ 6 from rfl]; exact Nat.pow_le_pow_right (by decide) (by omega)))
      simp [h1, h2, h3, hp6, hq6]
/-! rows of images that are written one by one -/
def rwS (k : Nat) : Nat → Nat → Prop := fun a b => a = 1 ∧ b = k
def winv (M : ZM) (k n : Nat) (pos val : Nat → Nat → Nat) (x y : Nat) (M' : ZM) : Prop :=
  zsm (rwS k) M M' ∧ (∀ a b, a < n → b < n → (a < x ∨ (a = x ∧ b < y)) → M'.1 1 k (pos a b) = nI (val a b)) ∧ ∀ c, (∀ a b, a < n → b < n → (a < x ∨ (a = x ∧ b < y)) → pos a b ≠ c) → M'.1 1 k c = M.1 1 k c
theorem winv_start (M : ZM) (k n : Nat) (pos val : Nat → Nat → Nat) : winv M k n pos val 0 0 M := ⟨zsm_refl _ _, fun a b _ _ h => by omega, fun _ _ => rfl⟩
theorem winv_next {M M' : ZM} {k n : Nat} {pos val : Nat → Nat → Nat} {x : Nat} (h : winv M k n pos val x n M') : winv M k n pos val (x + 1) 0 M' :=
  ⟨h.1, fun a b ha hb q => h.2.1 a b ha hb (by omega), fun c q => h.2.2 c (fun a b ha hb q2 => q a b ha hb (by omega))⟩
theorem winv_step {M M' : ZM} {k n : Nat} {pos val : Nat → Nat → Nat} {x y : Nat} (hx : x < n) (hy : y < n) (hinj : ∀ a b, a < n → b < n → pos a b = pos x y → a = x ∧ b = y) (h : winv M k n pos val x y M') : winv M k n pos val x (y + 1) (zset 1 k (pos x y) (nI (val x y)) M') := by
  refine ⟨zsm_trans h.1 (zsm_set ⟨rfl, rfl⟩), fun a b ha hb q => ?_, fun c q => ?_⟩
  · by_cases hp : pos a b = pos x y
    · obtain ⟨rfl, rfl⟩ := hinj a b ha hb hp
      exact zset_eq
    · rw [zset_ne (fun z => hp z.2.2)]
      exact h.2.1 a b ha hb (by
        rcases q with q | ⟨rfl, q⟩
        · exact Or.inl q
        · rcases Nat.lt_succ_iff_lt_or_eq.mp q with q | rfl
          · exact Or.inr ⟨rfl, q⟩
          · exact absurd rfl hp)
  · rw [zset_ne (fun z => q x y hx hy (Or.inr ⟨rfl, Nat.lt_succ_self y⟩) z.2.2.symm)]
    exact h.2.2 c (fun a b ha hb q2 => q a b ha hb (by omega))
theorem winv_pts {M M' : ZM} {k n : Nat} {pos val : Nat → Nat → Nat} {x y : Nat} (h : winv M k n pos val x y M') : M'.1 0 k 1 = M.1 0 k 1 := by
  rw [h.1.2 0 k (fun q => absurd q.1 (by decide))]
theorem pos8_inj {n x y : Nat} (hn : n ≤ 6) (hx : x < n) (hy : y < n) : ∀ a b, a < n → b < n → 8 * a + b = 8 * x + y → a = x ∧ b = y := by
  intro a b ha hb h
  omega
theorem winv_end {M M' : ZM} {k n : Nat} {v : Int32} {pos val : Nat → Nat → Nat} (h : winv (zset 0 k 1 v M) k n pos val n 0 M') : zsm (pmS k) M M' ∧ M'.1 0 k 1 = v ∧ ∀ x y, x < n → y < n → M'.1 1 k (pos x y) = nI (val x y) := by
  refine ⟨zsm_trans (zsm_set (a := 0) (b := k) (c := 1) (v := v) ⟨Or.inl rfl, rfl⟩) (zsm_mono h.1 ?_), by rw [winv_pts h, zset_eq], fun x y hx hy => h.2.1 x y hx hy (Or.inl hx)⟩
  intro a b q
  exact ⟨Or.inr q.1, q.2⟩
/-- two loops, one in the other, that write the images one by one -/
theorem wloop {M0 : ZM} {k n : Nat} {pos val : Nat → Nat → Nat} {O : Nat → ZM → Prop} {I : Nat → Nat → ZM → Prop} (hinj : ∀ x y, x < n → y < n → ∀ a b, a < n → b < n → pos a b = pos x y → a = x ∧ b = y)
    (h1 : ∀ M', winv M0 k n pos val n 0 M' → O n M') (h2 : ∀ x, x < n → ∀ M', I x 0 M' → O x M') (h3 : ∀ x, x < n → ∀ M', O (x + 1) M' → I x n M')
    (h4 : ∀ x y, x < n → y < n → ∀ M', winv M0 k n pos val x y M' → I x (y + 1) (zset 1 k (pos x y) (nI (val x y)) M') → I x y M') : O 0 M0 := by
  have out : ∀ x, x ≤ n → ∀ M', winv M0 k n pos val x 0 M' → O x M' := by
    refine up_to h1 ?_
    intro x hx ih M' h
    have inn : ∀ y, y ≤ n → ∀ M', winv M0 k n pos val x y M' → I x y M' := by
      refine up_to (fun M' h => h3 x hx M' (ih M' (winv_next h))) ?_
      intro y hy ih2 M' h
      exact h4 x y hx hy M' h (ih2 _ (winv_step hx hy (hinj x y hx hy) h))
    exact h2 x hx M' (inn 0 (Nat.zero_le _) M' h)
  exact out 0 (Nat.zero_le _) _ (winv_start _ _ _ _ _)
/-- the same, with any invariant -/
theorem wloop0 {M0 : ZM} {n : Nat} {O : Nat → ZM → Prop} {I : Nat → Nat → ZM → Prop} {inv : Nat → Nat → ZM → Prop} (h0 : inv 0 0 M0) (hn : ∀ x M', inv x n M' → inv (x + 1) 0 M')
    (h1 : ∀ M', inv n 0 M' → O n M') (h2 : ∀ x, x < n → ∀ M', inv x 0 M' → I x 0 M' → O x M') (h3 : ∀ x, x < n → ∀ M', inv x n M' → O (x + 1) M' → I x n M')
    (h4 : ∀ x y, x < n → y < n → ∀ M', inv x y M' → (∀ M'', inv x (y + 1) M'' → I x (y + 1) M'') → I x y M') : O 0 M0 := by
  have out : ∀ x, x ≤ n → ∀ M', inv x 0 M' → O x M' := by
    refine up_to h1 ?_
    intro x hx ih M' h
    have inn : ∀ y, y ≤ n → ∀ M', inv x y M' → I x y M' := by
      refine up_to (fun M' h => h3 x hx M' h (ih M' (hn x M' h))) ?_
      intro y hy ih2 M' h
      exact h4 x y hx hy M' h ih2
    exact h2 x hx M' h (inn 0 (Nat.zero_le _) M' h)
  exact out 0 (Nat.zero_le _) _ h0
theorem d8 (m i : Nat) : m / 8 ^ i % 8 < 8 := Nat.mod_lt _ (by decide)
section
variable {G : ZG} {M : ZM} {Z : Option ZV → ZM → Prop}
theorem s_PM_appliedAt {k x y : Nat} {u v : List Nat} {A : ZP} (hk : k < 10) (hA : isPM M k A) (hx : x < A.1) (hy : y < A.1) (hu : ∀ d ∈ u, d < 8) (hv : ∀ d ∈ v, d < 8) (hl : u.length + v.length ≤ 2) (hZ : Z (some (zi (nI (tcl (u ++ [A.2.1 x y, A.2.2 x y] ++ v))))) M) : Ctr 0 G mi_PM_appliedAt [zr 0 k, zi (nI (tcl (u ++ [x, y] ++ v))), zi (nI (3 * v.length))] M Z := by
  have hn := hA.1.1
  have hLR := hA.1.2 x y hx hy
  have e : ∀ a b, tcl (u ++ [a, b] ++ v) = 8 ^ v.length * (64 * tcl u + (8 * a + b)) + tcl v := by
    intro a b
    rw [tcl_app, tcl_app, show tcl [a, b] = 8 * a + b by simp [tcl], show [a, b].length = 2 from rfl, Nat.mul_comm (8 ^ v.length), Nat.mul_comm (tcl u)]
  have hvl := tcl_lt hv
  have hul := tcl_lt hu
  have hp : 0 < 8 ^ v.length := Nat.pow_pos (by decide)
  have hb : tcl (u ++ [x, y] ++ v) < 4096 := by
    have h1 := tcl_lt (w := u ++ [x, y] ++ v) (by
      intro d hd
      simp only [List.mem_append, List.mem_cons, List.not_mem_nil, or_false] at hd
      rcases hd with (h | h | h) | h
      · exact hu d h
      · omega
      · omega
      · exact hv d h)
    have h2 : 8 ^ (u ++ [x, y] ++ v).length ≤ 8 ^ 4 := Nat.pow_le_pow_right (by decide) (by simp; omega)
    omega
  refine go_PM_appliedAt (fun Kz hKz => ?_)
  conv => whnf
  have h64 : nI (tcl (u ++ [x, y] ++ v)) >>> (nI (3 * v.length) &&& 31) &&& nI 63 = nI (8 * x + y) := by
    rw [n_shr _ (by omega) (by omega), n_and, show (63 : Nat) = 2 ^ 6 - 1 from rfl, Nat.and_two_pow_sub_one_eq_mod, Nat.pow_mul, e, show (2 : Nat) ^ 3 = 8 from rfl, Nat.mul_add_div hp, Nat.div_eq_of_lt hvl]
    congr 1
    omega
  rw [h64]
  refine ⟨by first | assumption | decide, ?_⟩
  conv => whnf
  refine s_PM_imageOf hk (by omega) ?_
  conv => whnf
  rw [hA.2.2 x y hx hy, n_xor, n_shl _ _ (by omega), n_xor, Nat.pow_mul, e, show (2 : Nat) ^ 3 = 8 from rfl, n_swap (by omega) (by omega) hvl, ← e]
  exact hZ
end
end
section
/-! counting: as many pigeons as holes -/
theorem php : ∀ (n : Nat) (f : Nat → Nat), (∀ i, i ≤ n → f i < n) → ∃ i j, i < j ∧ j ≤ n ∧ f i = f j := by
  intro n
  induction n with
  | zero => intro f h; exact absurd (h 0 (Nat.le_refl 0)) (Nat.not_lt_zero _)
  | succ n ih =>
    intro f h
    by_cases hx : ∃ i, i ≤ n ∧ f i = f (n + 1)
    · obtain ⟨i, hi, he⟩ := hx
      exact ⟨i, n + 1, by omega, Nat.le_refl _, he⟩
    · have hne : ∀ i, i ≤ n → f i ≠ f (n + 1) := fun i hi he => hx ⟨i, hi, he⟩
      obtain ⟨i, j, hij, hj, he⟩ := ih (fun i => if f i = n then f (n + 1) else f i) (fun i hi => by
        have h1 := h i (by omega)
        have h2 := h (n + 1) (Nat.le_refl _)
        have h3 := hne i hi
        by_cases hc : f i = n
        · simp only [hc, if_true]; omega
        · simp only [hc, if_false]; omega)
      refine ⟨i, j, hij, by omega, ?_⟩
      have h1 := hne i (by omega)
      have h2 := hne j hj
      by_cases hc : f i = n
      · by_cases hd : f j = n
        · rw [hc, hd]
        · rw [if_pos hc, if_neg hd] at he
          exact absurd he.symm h2
      · by_cases hd : f j = n
        · rw [if_neg hc, if_pos hd] at he
          exact absurd he h1
        · rw [if_neg hc, if_neg hd] at he
          exact he
theorem inj_surj {n : Nat} {f : Nat → Nat} (hf : ∀ i, i < n → f i < n) (hinj : ∀ i j, i < n → j < n → f i = f j → i = j) : ∀ v, v < n → ∃ i, i < n ∧ f i = v := by
  intro v hv
  refine Classical.byContradiction fun hno => ?_
  have hne : ∀ i, i < n → f i ≠ v := fun i hi he => hno ⟨i, hi, he⟩
  obtain ⟨m, rfl⟩ : ∃ m, n = m + 1 := ⟨n - 1, by omega⟩
  obtain ⟨i, j, hij, hj, he⟩ := php m (fun i => if f i = m then v else f i) (fun i hi => by
    have h1 := hf i (by omega)
    have h3 := hne i (by omega)
    by_cases hc : f i = m
    · simp only [hc, if_true]
      have : f i ≠ v := h3
      omega
    · simp only [hc, if_false]; omega)
  have h1 := hne i (by omega)
  have h2 := hne j (by omega)
  have : f i = f j := by
    by_cases hc : f i = m
    · by_cases hd : f j = m
      · rw [hc, hd]
      · rw [if_pos hc, if_neg hd] at he
        exact absurd he.symm h2
    · by_cases hd : f j = m
      · rw [if_neg hc, if_pos hd] at he
        exact absurd he h1
      · rw [if_neg hc, if_neg hd] at he
        exact he
  have := hinj i j (by omega) (by omega) this
  omega
theorem surj_inj {n : Nat} {f : Nat → Nat} (hf : ∀ i, i < n → f i < n) (hs : ∀ v, v < n → ∃ i, i < n ∧ f i = v) : ∀ i j, i < n → j < n → f i = f j → i = j := by
  have h : ∀ v, ∃ i, v < n → i < n ∧ f i = v := by
    intro v
    by_cases hv : v < n
    · obtain ⟨i, hi⟩ := hs v hv
      exact ⟨i, fun _ => hi⟩
    · exact ⟨0, fun q => absurd q hv⟩
  obtain ⟨g, hg⟩ := Classical.axiomOfChoice h
  have gs := inj_surj (f := g) (fun v hv => (hg v hv).1) (fun v w hv hw e => by rw [← (hg v hv).2, ← (hg w hw).2, e])
  intro i j hi hj he
  obtain ⟨v, hv, rfl⟩ := gs i hi
  obtain ⟨w, hw, rfl⟩ := gs j hj
  rw [(hg v hv).2, (hg w hw).2] at he
  rw [he]
theorem st8_bit (m : Nat) : ∀ k v, (st8 m k).testBit v = true ↔ ∃ i, i < k ∧ m / 8 ^ i % 8 = v := by
  intro k
  induction k with
  | zero => intro v; simp [st8]
  | succ k ih =>
    intro v
    rw [st8, Nat.testBit_or, Bool.or_eq_true, ih, Nat.testBit_two_pow]
    constructor
    · rintro (⟨i, hi, he⟩ | h)
      · exact ⟨i, by omega, he⟩
      · exact ⟨k, by omega, of_decide_eq_true h⟩
    · rintro ⟨i, hi, he⟩
      rcases Nat.lt_succ_iff_lt_or_eq.mp hi with h | rfl
      · exact Or.inl ⟨i, h, he⟩
      · exact Or.inr (decide_eq_true he)
/-- number i of a code -/
def dg (m i : Nat) : Nat := m / 8 ^ i % 8
theorem isP_facts {m n : Nat} (h : isP m n) : (∀ i, i < n → dg m i < n) ∧ (∀ i j, i < n → j < n → dg m i = dg m j → i = j) ∧ ∀ v, v < n → ∃ i, i < n ∧ dg m i = v := by
  have h1 : ∀ i, i < n → dg m i < n := h.1.2
  have h2 : ∀ v, v < n → ∃ i, i < n ∧ dg m i = v := by
    intro v hv
    have hb : (st8 m n).testBit v = true := by rw [h.2, Nat.testBit_two_pow_sub_one]; exact decide_eq_true hv
    exact (st8_bit m n v).mp hb
  exact ⟨h1, surj_inj h1 h2, h2⟩
theorem isP_of {m n : Nat} (hc : isC m n n) (hinj : ∀ i j, i < n → j < n → dg m i = dg m j → i = j) : isP m n := by
  refine ⟨hc, Nat.eq_of_testBit_eq fun v => ?_⟩
  rw [Nat.testBit_two_pow_sub_one, Bool.eq_iff_iff, st8_bit]
  constructor
  · rintro ⟨i, hi, rfl⟩
    exact decide_eq_true (hc.2 i hi)
  · intro hv
    exact inj_surj (f := dg m) hc.2 hinj v (of_decide_eq_true hv)
/-! maps made of maps -/
def pinj (A : ZP) : Prop := ∀ x y x' y', x < A.1 → y < A.1 → x' < A.1 → y' < A.1 → A.2.1 x y = A.2.1 x' y' → A.2.2 x y = A.2.2 x' y' → x = x' ∧ y = y'
theorem pinj_surj {A : ZP} (hw : pwf A) (hi : pinj A) : ∀ p q, p < A.1 → q < A.1 → ∃ z : Nat × Nat, z.1 < A.1 ∧ z.2 < A.1 ∧ A.2.1 z.1 z.2 = p ∧ A.2.2 z.1 z.2 = q := by
  intro p q hp hq
  have h0 : 0 < A.1 := by omega
  have e : ∀ a b, b < A.1 → (A.1 * a + b) / A.1 = a ∧ (A.1 * a + b) % A.1 = b := by
    intro a b hb
    exact ⟨by rw [Nat.mul_add_div h0, Nat.div_eq_of_lt hb, Nat.add_zero], by rw [Nat.mul_add_mod, Nat.mod_eq_of_lt hb]⟩
  have lt : ∀ a b, a < A.1 → b < A.1 → A.1 * a + b < A.1 * A.1 := by
    intro a b ha hb
    have : A.1 * (a + 1) ≤ A.1 * A.1 := Nat.mul_le_mul_left _ ha
    rw [Nat.mul_add] at this
    omega
  have dv : ∀ i, i < A.1 * A.1 → i / A.1 < A.1 ∧ i % A.1 < A.1 := fun i hi => ⟨Nat.div_lt_of_lt_mul hi, Nat.mod_lt _ h0⟩
  obtain ⟨i, hi1, hi2⟩ := inj_surj (n := A.1 * A.1) (f := fun i => A.1 * A.2.1 (i / A.1) (i % A.1) + A.2.2 (i / A.1) (i % A.1)) (fun i h => by
    have h1 := dv i h
    have h2 := hw.2 _ _ h1.1 h1.2
    exact lt _ _ h2.1 h2.2) (fun i j h h' he => by
    have h1 := dv i h
    have h2 := dv j h'
    have h3 := hw.2 _ _ h1.1 h1.2
    have h4 := hw.2 _ _ h2.1 h2.2
    have h5 := congrArg (· / A.1) he
    have h6 := congrArg (· % A.1) he
    simp only [(e _ _ h3.2).1, (e _ _ h4.2).1, (e _ _ h3.2).2, (e _ _ h4.2).2] at h5 h6
    have h7 := hi _ _ _ _ h1.1 h1.2 h2.1 h2.2 h5 h6
    rw [← Nat.div_add_mod i A.1, ← Nat.div_add_mod j A.1, h7.1, h7.2]) (A.1 * p + q) (lt p q hp hq)
  have h1 := dv i hi1
  have h3 := hw.2 _ _ h1.1 h1.2
  have h5 := congrArg (· / A.1) hi2
  have h6 := congrArg (· % A.1) hi2
  simp only [(e _ _ h3.2).1, (e _ _ hq).1, (e _ _ h3.2).2, (e _ _ hq).2] at h5 h6
  exact ⟨(i / A.1, i % A.1), h1.1, h1.2, h5, h6⟩
noncomputable def pinvz (A : ZP) (p q : Nat) : Nat × Nat := Classical.epsilon fun z : Nat × Nat => z.1 < A.1 ∧ z.2 < A.1 ∧ A.2.1 z.1 z.2 = p ∧ A.2.2 z.1 z.2 = q
/-- the inverse map -/
noncomputable def pinv (A : ZP) : ZP := (A.1, fun p q => (pinvz A p q).1, fun p q => (pinvz A p q).2)
theorem pinvz_spec {A : ZP} (hw : pwf A) (hi : pinj A) {p q : Nat} (hp : p < A.1) (hq : q < A.1) : (pinvz A p q).1 < A.1 ∧ (pinvz A p q).2 < A.1 ∧ A.2.1 (pinvz A p q).1 (pinvz A p q).2 = p ∧ A.2.2 (pinvz A p q).1 (pinvz A p q).2 = q :=
  Classical.epsilon_spec (pinj_surj hw hi p q hp hq)
theorem pinvz_of {A : ZP} (hw : pwf A) (hi : pinj A) {x y : Nat} (hx : x < A.1) (hy : y < A.1) : pinvz A (A.2.1 x y) (A.2.2 x y) = (x, y) := by
  have h0 := hw.2 x y hx hy
  have h1 := pinvz_spec hw hi h0.1 h0.2
  have h2 := hi _ _ _ _ h1.1 h1.2.1 hx hy h1.2.2.1 h1.2.2.2
  exact Prod.ext h2.1 h2.2
theorem pinv_wf {A : ZP} (hw : pwf A) (hi : pinj A) : pwf (pinv A) := ⟨hw.1, fun p q hp hq => by
  have h := pinvz_spec hw hi (show p < A.1 from hp) (show q < A.1 from hq)
  exact ⟨h.1, h.2.1⟩⟩
/-- a map's points renamed by f, g the names backward -/
def pren (A : ZP) (f g : Nat → Nat) : ZP := (A.1, fun x y => f (A.2.1 (g x) (g y)), fun x y => f (A.2.2 (g x) (g y)))
def pmir (A : ZP) : ZP := (A.1, fun x y => A.2.2 y x, fun x y => A.2.1 y x)
def puni (A B : ZP) : ZP := (A.1 + B.1, fun x y => if x < A.1 then (if y < A.1 then A.2.1 x y else y) else (if y < A.1 then y else A.1 + B.2.1 (x - A.1) (y - A.1)), fun x y => if x < A.1 then (if y < A.1 then A.2.2 x y else x) else (if y < A.1 then x else A.1 + B.2.2 (x - A.1) (y - A.1)))
def pprod (A B : ZP) : ZP := (A.1 * B.1, fun x y => B.1 * A.2.1 (x / B.1) (y / B.1) + B.2.1 (x % B.1) (y % B.1), fun x y => B.1 * A.2.2 (x / B.1) (y / B.1) + B.2.2 (x % B.1) (y % B.1))
def ptwist (n f g : Nat) : ZP := (n, fun _ y => dg f y, fun x _ => dg g x)
def pflip (n : Nat) : ZP := (n, fun _ y => y, fun x _ => x)
end
section
section
variable {G : ZG} {M : ZM} {Z : Option ZV → ZM → Prop}
theorem s_PM_becomeTwist {k n f g : Nat} (hk : k < 10) (hn : n ≤ 6) (hf : f < 2 ^ 32) (hg : g < 2 ^ 32) (hZ : ∀ M', zsm (pmS k) M M' ∧ M'.1 0 k 1 = nI n ∧ (∀ x y, x < n → y < n → M'.1 1 k (8 * x + y) = nI (8 * (f / 8 ^ y % 8) + g / 8 ^ x % 8)) → Z none M') : Ctr 0 G mi_PM_becomeTwist [zr 0 k, zi (nI n), zi (nI f), zi (nI g)] M Z := by
  refine go_PM_becomeTwist (fun Kz hKz => ?_)
  conv => whnf
  refine ⟨by first | assumption | decide, ?_⟩
  conv => whnf
  refine hKz _ _ _ _ ?_
  refine wloop (k := k) (pos := fun a b => 8 * a + b) (val := fun a b => 8 * (f / 8 ^ b % 8) + g / 8 ^ a % 8) (O := fun x M' => V 0 G mi_PM_becomeTwist Z 8 [(0, zr 0 k), (1, zi (nI n)), (2, zi (nI f)), (3, zi (nI g)), (4, zi (nI x))] [] M') (I := fun x y M' => V 0 G mi_PM_becomeTwist Z 17 [(0, zr 0 k), (1, zi (nI n)), (2, zi (nI f)), (3, zi (nI g)), (4, zi (nI x)), (5, zi (nI y))] [] M') (fun x y hx hy => pos8_inj hn hx hy) (fun M' h => ?_) (fun x hx M' h => ?_) (fun x hx M' h => ?_) (fun x y hx hy M' h h9 => ?_)
  · refine z_run (cuts := cu_PM_becomeTwist) ok_PM_becomeTwist (fun Kz hKz => ?_)
    conv => whnf
    rw [nI_leI (by omega) (by omega)]
    refine ⟨fun _ => ?_, fun q => absurd (Nat.le_refl _) q⟩
    conv => whnf
    exact hZ M' (winv_end h)
  · refine z_run (cuts := cu_PM_becomeTwist) ok_PM_becomeTwist (fun Kz hKz => ?_)
    conv => whnf
    rw [nI_leI (by omega) (by omega)]
    refine ⟨fun q => absurd q (by omega), fun _ => ?_⟩
    conv => whnf
    refine hKz _ _ _ _ ?_
    exact h
  · refine z_run (cuts := cu_PM_becomeTwist) ok_PM_becomeTwist (fun Kz hKz => ?_)
    conv => whnf
    rw [nI_leI (by omega) (by omega)]
    refine ⟨fun _ => ?_, fun q => absurd (Nat.le_refl _) q⟩
    conv => whnf
    refine hKz _ _ _ _ ?_
    rw [nI_1']
    exact h
  · refine z_run (cuts := cu_PM_becomeTwist) ok_PM_becomeTwist (fun Kz hKz => ?_)
    conv => whnf
    rw [nI_leI (by omega) (by omega)]
    refine ⟨fun q => absurd q (by omega), fun _ => ?_⟩
    conv => whnf
    refine s_CO_digit hf (by omega) ?_
    conv => whnf
    refine s_CO_digit hg (by omega) ?_
    conv => whnf
    refine ⟨by first | assumption | decide, ?_⟩
    conv => whnf
    refine s_PM_setImage hk (by omega) (by omega) (d8 f y) (d8 g x) ?_
    conv => whnf
    refine hKz _ _ _ _ ?_
    rw [nI_1']
    exact h9
theorem idn_dig : ∀ i, i < 6 → 181896 / 8 ^ i % 8 = i := by decide
theorem s_PM_becomeFlip {k n : Nat} (hk : k < 10) (hn : n ≤ 6) (hZ : ∀ M', zsm (pmS k) M M' ∧ M'.1 0 k 1 = nI n ∧ (∀ x y, x < n → y < n → M'.1 1 k (8 * x + y) = nI (8 * y + x)) → Z none M') : Ctr 0 G mi_PM_becomeFlip [zr 0 k, zi (nI n)] M Z := by
  refine go_PM_becomeFlip (fun Kz hKz => ?_)
  conv => whnf
  refine ⟨by first | assumption | decide, ?_⟩
  conv => whnf
  refine s_PM_becomeTwist hk hn (by decide) (by decide) (fun M' h => ?_)
  conv => whnf
  refine hZ M' ⟨h.1, h.2.1, fun x y hx hy => ?_⟩
  rw [h.2.2 x y hx hy, idn_dig x (by omega), idn_dig y (by omega)]
theorem s_PM_becomeMirror {k j : Nat} {A : ZP} (hk : k < 10) (hj : j < 10) (hkj : k ≠ j) (hA : isPM M j A) (hZ : ∀ M', zsm (pmS k) M M' ∧ M'.1 0 k 1 = nI A.1 ∧ (∀ x y, x < A.1 → y < A.1 → M'.1 1 k (8 * x + y) = nI (8 * A.2.2 y x + A.2.1 y x)) → Z none M') : Ctr 0 G mi_PM_becomeMirror [zr 0 k, zr 0 j] M Z := by
  have hn := hA.1.1
  refine go_PM_becomeMirror (fun Kz hKz => ?_)
  conv => whnf
  refine ⟨by first | assumption | decide, ?_⟩
  conv => whnf
  refine ⟨by first | assumption | decide, ?_⟩
  conv => whnf
  refine hKz _ _ _ _ ?_
  rw [hA.2.1]
  have hp : ∀ {M' : ZM} {x y : Nat}, winv (zset 0 k 1 (nI A.1) M) k A.1 (fun a b => 8 * a + b) (fun a b => 8 * A.2.2 b a + A.2.1 b a) x y M' → M'.1 0 k 1 = nI A.1 ∧ isPM M' j A := by
    intro M' x y h
    refine ⟨by rw [winv_pts h, zset_eq], ?_⟩
    have h1 : isPM (zset 0 k 1 (nI A.1) M) j A := isPM_same hA (S := pmS k) (zsm_set ⟨Or.inl rfl, rfl⟩) (fun q => hkj q.2.symm) (fun q => hkj q.2.symm)
    exact isPM_same h1 h.1 (fun q => absurd q.1 (by decide)) (fun q => hkj q.2.symm)
  refine wloop (k := k) (pos := fun a b => 8 * a + b) (val := fun a b => 8 * A.2.2 b a + A.2.1 b a) (n := A.1) (O := fun x M' => M'.1 0 k 1 = nI A.1 → V 0 G mi_PM_becomeMirror Z 10 [(0, zr 0 k), (1, zr 0 j), (2, zi (nI x))] [] M') (I := fun x y M' => M'.1 0 k 1 = nI A.1 → V 0 G mi_PM_becomeMirror Z 20 [(0, zr 0 k), (1, zr 0 j), (2, zi (nI x)), (3, zi (nI y))] [] M') (fun x y hx hy => pos8_inj hn hx hy) (fun M' h e => ?_) (fun x hx M' h e => ?_) (fun x hx M' h e => ?_) (fun x y hx hy M' h h9 e => ?_) zset_eq
  · refine z_run (cuts := cu_PM_becomeMirror) ok_PM_becomeMirror (fun Kz hKz => ?_)
    conv => whnf
    refine ⟨by first | assumption | decide, ?_⟩
    conv => whnf
    rw [e, nI_leI (by omega) (by omega)]
    refine ⟨fun _ => ?_, fun q => absurd (Nat.le_refl _) q⟩
    conv => whnf
    exact hZ M' (winv_end h)
  · refine z_run (cuts := cu_PM_becomeMirror) ok_PM_becomeMirror (fun Kz hKz => ?_)
    conv => whnf
    refine ⟨by first | assumption | decide, ?_⟩
    conv => whnf
    rw [e, nI_leI (by omega) (by omega)]
    refine ⟨fun q => absurd q (by omega), fun _ => ?_⟩
    conv => whnf
    refine hKz _ _ _ _ ?_
    exact h e
  · refine z_run (cuts := cu_PM_becomeMirror) ok_PM_becomeMirror (fun Kz hKz => ?_)
    conv => whnf
    refine ⟨by first | assumption | decide, ?_⟩
    conv => whnf
    rw [e, nI_leI (by omega) (by omega)]
    refine ⟨fun _ => ?_, fun q => absurd (Nat.le_refl _) q⟩
    conv => whnf
    refine hKz _ _ _ _ ?_
    rw [nI_1']
    exact h e
  · have hA' := (hp h).2
    have hLR := hA.1.2 y x hy hx
    refine z_run (cuts := cu_PM_becomeMirror) ok_PM_becomeMirror (fun Kz hKz => ?_)
    conv => whnf
    refine ⟨by first | assumption | decide, ?_⟩
    conv => whnf
    rw [e, nI_leI (by omega) (by omega)]
    refine ⟨fun q => absurd q (by omega), fun _ => ?_⟩
    conv => whnf
    refine ⟨by first | assumption | decide, ?_⟩
    conv => whnf
    refine s_PM_right hj hA' hy hx ?_
    conv => whnf
    refine ⟨by first | assumption | decide, ?_⟩
    conv => whnf
    refine s_PM_left hj hA' hy hx ?_
    conv => whnf
    refine ⟨by first | assumption | decide, ?_⟩
    conv => whnf
    refine s_PM_setImage hk (by omega) (by omega) (by omega) (by omega) ?_
    conv => whnf
    refine hKz _ _ _ _ ?_
    rw [nI_1']
    exact h9 (by rw [zset_ne (by omega)]; exact e)
theorem s_PM_becomeInverse {k j : Nat} {A : ZP} (hk : k < 10) (hj : j < 10) (hkj : k ≠ j) (hA : isPM M j A) (hZ : ∀ M', zsm (pmS k) M M' → M'.1 0 k 1 = nI A.1 → (pinj A → isPM M' k (pinv A)) → Z none M') : Ctr 0 G mi_PM_becomeInverse [zr 0 k, zr 0 j] M Z := by
  have hn := hA.1.1
  refine go_PM_becomeInverse (fun Kz hKz => ?_)
  conv => whnf
  refine ⟨by first | assumption | decide, ?_⟩
  conv => whnf
  refine ⟨by first | assumption | decide, ?_⟩
  conv => whnf
  refine hKz _ _ _ _ ?_
  rw [hA.2.1]
  have hp : ∀ {M' : ZM}, zsm (rwS k) (zset 0 k 1 (nI A.1) M) M' → M'.1 0 k 1 = nI A.1 ∧ isPM M' j A := by
    intro M' h
    refine ⟨by rw [h.2 0 k (fun q => absurd q.1 (by decide)), zset_eq], ?_⟩
    have h1 : isPM (zset 0 k 1 (nI A.1) M) j A := isPM_same hA (S := pmS k) (zsm_set ⟨Or.inl rfl, rfl⟩) (fun q => hkj q.2.symm) (fun q => hkj q.2.symm)
    exact isPM_same h1 h (fun q => absurd q.1 (by decide)) (fun q => hkj q.2.symm)
  refine wloop0 (n := A.1) (inv := fun x y M' => zsm (rwS k) (zset 0 k 1 (nI A.1) M) M' ∧ (pinj A → winv (zset 0 k 1 (nI A.1) M) k A.1 (fun a b => 8 * A.2.1 a b + A.2.2 a b) (fun a b => 8 * a + b) x y M')) (O := fun x M' => V 0 G mi_PM_becomeInverse Z 10 [(0, zr 0 k), (1, zr 0 j), (2, zi (nI x))] [] M') (I := fun x y M' => V 0 G mi_PM_becomeInverse Z 20 [(0, zr 0 k), (1, zr 0 j), (2, zi (nI x)), (3, zi (nI y))] [] M') ⟨zsm_refl _ _, fun _ => winv_start _ _ _ _ _⟩ (fun x M' h => ⟨h.1, fun q => winv_next (h.2 q)⟩) (fun M' h => ?_) (fun x hx M' h h9 => ?_) (fun x hx M' h h9 => ?_) (fun x y hx hy M' h h8 => ?_)
  · refine z_run (cuts := cu_PM_becomeInverse) ok_PM_becomeInverse (fun Kz hKz => ?_)
    conv => whnf
    refine ⟨by first | assumption | decide, ?_⟩
    conv => whnf
    rw [(hp h.1).1, nI_leI (by omega) (by omega)]
    refine ⟨fun _ => ?_, fun q => absurd (Nat.le_refl _) q⟩
    conv => whnf
    have hpt := (hp h.1).1
    have hsm : zsm (pmS k) M M' := zsm_trans (zsm_set (a := 0) (b := k) (c := 1) (v := nI A.1) ⟨Or.inl rfl, rfl⟩) (zsm_mono h.1 (by intro a b q; exact ⟨Or.inr q.1, q.2⟩))
    refine hZ M' hsm hpt (fun q => ⟨pinv_wf hA.1 q, hpt, fun x y hx hy => ?_⟩)
    obtain ⟨z, hz1, hz2, rfl, rfl⟩ := pinj_surj hA.1 q x y hx hy
    have := (h.2 q).2.1 z.1 z.2 hz1 hz2 (Or.inl hz1)
    rw [this]
    simp only [pinv, pinvz_of hA.1 q hz1 hz2]
  · refine z_run (cuts := cu_PM_becomeInverse) ok_PM_becomeInverse (fun Kz hKz => ?_)
    conv => whnf
    refine ⟨by first | assumption | decide, ?_⟩
    conv => whnf
    rw [(hp h.1).1, nI_leI (by omega) (by omega)]
    refine ⟨fun q => absurd q (by omega), fun _ => ?_⟩
    conv => whnf
    refine hKz _ _ _ _ ?_
    exact h9
  · refine z_run (cuts := cu_PM_becomeInverse) ok_PM_becomeInverse (fun Kz hKz => ?_)
    conv => whnf
    refine ⟨by first | assumption | decide, ?_⟩
    conv => whnf
    rw [(hp h.1).1, nI_leI (by omega) (by omega)]
    refine ⟨fun _ => ?_, fun q => absurd (Nat.le_refl _) q⟩
    conv => whnf
    refine hKz _ _ _ _ ?_
    rw [nI_1']
    exact h9
  · have hA' := (hp h.1).2
    have hLR := hA.1.2 x y hx hy
    have h9 := h8 (zset 1 k (8 * A.2.1 x y + A.2.2 x y) (nI (8 * x + y)) M') ⟨zsm_trans h.1 (zsm_set ⟨rfl, rfl⟩), fun q => winv_step hx hy (fun a b ha hb he => ?_) (h.2 q)⟩
    rotate_left
    · have h1 := hA.1.2 a b ha hb
      exact q a b x y ha hb hx hy (by omega) (by omega)
    · refine z_run (cuts := cu_PM_becomeInverse) ok_PM_becomeInverse (fun Kz hKz => ?_)
      conv => whnf
      refine ⟨by first | assumption | decide, ?_⟩
      conv => whnf
      rw [(hp h.1).1, nI_leI (by omega) (by omega)]
      refine ⟨fun q => absurd q (by omega), fun _ => ?_⟩
      conv => whnf
      refine ⟨by first | assumption | decide, ?_⟩
      conv => whnf
      refine s_PM_left hj hA' hx hy ?_
      conv => whnf
      refine ⟨by first | assumption | decide, ?_⟩
      conv => whnf
      refine s_PM_right hj hA' hx hy ?_
      conv => whnf
      refine ⟨by first | assumption | decide, ?_⟩
      conv => whnf
      refine s_PM_setImage hk (by omega) (by omega) (by omega) (by omega) ?_
      conv => whnf
      refine hKz _ _ _ _ ?_
      rw [nI_1']
      exact h9
theorem s_PM_becomeRenamed {k j f : Nat} {A : ZP} (hk : k < 10) (hj : j < 10) (hkj : k ≠ j) (hA : isPM M j A) (hf : f < 2 ^ 32) (hP : isP f A.1) (hZ : ∀ M', zsm (pmS k) M M' → M'.1 0 k 1 = nI A.1 → (∀ x y, x < A.1 → y < A.1 → M'.1 1 k (8 * dg f x + dg f y) = nI (8 * dg f (A.2.1 x y) + dg f (A.2.2 x y))) → Z none M') : Ctr 0 G mi_PM_becomeRenamed [zr 0 k, zr 0 j, zi (nI f)] M Z := by
  have hn := hA.1.1
  obtain ⟨hf1, hf2, -⟩ := isP_facts hP
  refine go_PM_becomeRenamed (fun Kz hKz => ?_)
  conv => whnf
  refine ⟨by first | assumption | decide, ?_⟩
  conv => whnf
  refine ⟨by first | assumption | decide, ?_⟩
  conv => whnf
  refine hKz _ _ _ _ ?_
  rw [hA.2.1]
  have hp : ∀ {M' : ZM} {x y : Nat}, winv (zset 0 k 1 (nI A.1) M) k A.1 (fun a b => 8 * dg f a + dg f b) (fun a b => 8 * dg f (A.2.1 a b) + dg f (A.2.2 a b)) x y M' → M'.1 0 k 1 = nI A.1 ∧ isPM M' j A := by
    intro M' x y h
    refine ⟨by rw [winv_pts h, zset_eq], ?_⟩
    have h1 : isPM (zset 0 k 1 (nI A.1) M) j A := isPM_same hA (S := pmS k) (zsm_set ⟨Or.inl rfl, rfl⟩) (fun q => hkj q.2.symm) (fun q => hkj q.2.symm)
    exact isPM_same h1 h.1 (fun q => absurd q.1 (by decide)) (fun q => hkj q.2.symm)
  refine wloop (k := k) (pos := fun a b => 8 * dg f a + dg f b) (val := fun a b => 8 * dg f (A.2.1 a b) + dg f (A.2.2 a b)) (n := A.1) (O := fun x M' => M'.1 0 k 1 = nI A.1 → V 0 G mi_PM_becomeRenamed Z 10 [(0, zr 0 k), (1, zr 0 j), (2, zi (nI f)), (3, zi (nI x))] [] M') (I := fun x y M' => M'.1 0 k 1 = nI A.1 → V 0 G mi_PM_becomeRenamed Z 21 [(0, zr 0 k), (1, zr 0 j), (2, zi (nI f)), (3, zi (nI x)), (4, zi (nI y))] [] M') (fun x y hx hy a b ha hb he => ?_) (fun M' h e => ?_) (fun x hx M' h e => ?_) (fun x hx M' h e => ?_) (fun x y hx hy M' h h9 e => ?_) zset_eq
  · have h1 := hf1 a ha
    have h2 := hf1 b hb
    have h3 := hf1 x hx
    have h4 := hf1 y hy
    exact ⟨hf2 a x ha hx (by omega), hf2 b y hb hy (by omega)⟩
  · refine z_run (cuts := cu_PM_becomeRenamed) ok_PM_becomeRenamed (fun Kz hKz => ?_)
    conv => whnf
    refine ⟨by first | assumption | decide, ?_⟩
    conv => whnf
    rw [e, nI_leI (by omega) (by omega)]
    refine ⟨fun _ => ?_, fun q => absurd (Nat.le_refl _) q⟩
    conv => whnf
    have h5 := winv_end h
    exact hZ M' h5.1 h5.2.1 h5.2.2
  · refine z_run (cuts := cu_PM_becomeRenamed) ok_PM_becomeRenamed (fun Kz hKz => ?_)
    conv => whnf
    refine ⟨by first | assumption | decide, ?_⟩
    conv => whnf
    rw [e, nI_leI (by omega) (by omega)]
    refine ⟨fun q => absurd q (by omega), fun _ => ?_⟩
    conv => whnf
    refine hKz _ _ _ _ ?_
    exact h e
  · refine z_run (cuts := cu_PM_becomeRenamed) ok_PM_becomeRenamed (fun Kz hKz => ?_)
    conv => whnf
    refine ⟨by first | assumption | decide, ?_⟩
    conv => whnf
    rw [e, nI_leI (by omega) (by omega)]
    refine ⟨fun _ => ?_, fun q => absurd (Nat.le_refl _) q⟩
    conv => whnf
    refine hKz _ _ _ _ ?_
    rw [nI_1']
    exact h e
  · have hA' := (hp h).2
    have hLR := hA.1.2 x y hx hy
    refine z_run (cuts := cu_PM_becomeRenamed) ok_PM_becomeRenamed (fun Kz hKz => ?_)
    conv => whnf
    refine ⟨by first | assumption | decide, ?_⟩
    conv => whnf
    rw [e, nI_leI (by omega) (by omega)]
    refine ⟨fun q => absurd q (by omega), fun _ => ?_⟩
    conv => whnf
    refine ⟨by first | assumption | decide, ?_⟩
    conv => whnf
    refine s_PM_left hj hA' hx hy ?_
    conv => whnf
    refine s_CO_digit hf (by omega) ?_
    conv => whnf
    refine ⟨by first | assumption | decide, ?_⟩
    conv => whnf
    refine s_PM_right hj hA' hx hy ?_
    conv => whnf
    refine s_CO_digit hf (by omega) ?_
    conv => whnf
    refine s_CO_digit hf (by omega) ?_
    conv => whnf
    refine s_CO_digit hf (by omega) ?_
    conv => whnf
    refine ⟨by first | assumption | decide, ?_⟩
    conv => whnf
    refine s_PM_setImage hk (d8 _ _) (d8 _ _) (d8 _ _) (d8 _ _) ?_
    conv => whnf
    refine hKz _ _ _ _ ?_
    rw [nI_1']
    exact h9 (by rw [zset_ne (by omega)]; exact e)
theorem s_PM_setShifted {k j d : Nat} {A : ZP} (hk : k < 10) (hj : j < 10) (hkj : k ≠ j) (hA : isPM M j A) (hd : d + A.1 ≤ 6) (hZ : ∀ M', winv M k A.1 (fun a b => 8 * (d + a) + (d + b)) (fun a b => 8 * (d + A.2.1 a b) + (d + A.2.2 a b)) A.1 0 M' → Z none M') : Ctr 0 G mi_PM_setShifted [zr 0 k, zr 0 j, zi (nI d)] M Z := by
  have hn := hA.1.1
  refine go_PM_setShifted (fun Kz hKz => ?_)
  conv => whnf
  refine hKz _ _ _ _ ?_
  have hp : ∀ {M' : ZM} {x y : Nat}, winv M k A.1 (fun a b => 8 * (d + a) + (d + b)) (fun a b => 8 * (d + A.2.1 a b) + (d + A.2.2 a b)) x y M' → isPM M' j A := fun h => isPM_same hA h.1 (fun q => absurd q.1 (by decide)) (fun q => hkj q.2.symm)
  refine wloop0 (n := A.1) (inv := winv M k A.1 (fun a b => 8 * (d + a) + (d + b)) (fun a b => 8 * (d + A.2.1 a b) + (d + A.2.2 a b))) (O := fun x M' => V 0 G mi_PM_setShifted Z 2 [(0, zr 0 k), (1, zr 0 j), (2, zi (nI d)), (3, zi (nI x))] [] M') (I := fun x y M' => V 0 G mi_PM_setShifted Z 13 [(0, zr 0 k), (1, zr 0 j), (2, zi (nI d)), (3, zi (nI x)), (4, zi (nI y))] [] M') (winv_start _ _ _ _ _) (fun x M' h => winv_next h) (fun M' h => ?_) (fun x hx M' h h9 => ?_) (fun x hx M' h h9 => ?_) (fun x y hx hy M' h h8 => ?_)
  · refine z_run (cuts := cu_PM_setShifted) ok_PM_setShifted (fun Kz hKz => ?_)
    conv => whnf
    refine ⟨by first | assumption | decide, ?_⟩
    conv => whnf
    rw [(hp h).2.1, nI_leI (by omega) (by omega)]
    refine ⟨fun _ => ?_, fun q => absurd (Nat.le_refl _) q⟩
    conv => whnf
    exact hZ M' h
  · refine z_run (cuts := cu_PM_setShifted) ok_PM_setShifted (fun Kz hKz => ?_)
    conv => whnf
    refine ⟨by first | assumption | decide, ?_⟩
    conv => whnf
    rw [(hp h).2.1, nI_leI (by omega) (by omega)]
    refine ⟨fun q => absurd q (by omega), fun _ => ?_⟩
    conv => whnf
    refine hKz _ _ _ _ ?_
    exact h9
  · refine z_run (cuts := cu_PM_setShifted) ok_PM_setShifted (fun Kz hKz => ?_)
    conv => whnf
    refine ⟨by first | assumption | decide, ?_⟩
    conv => whnf
    rw [(hp h).2.1, nI_leI (by omega) (by omega)]
    refine ⟨fun _ => ?_, fun q => absurd (Nat.le_refl _) q⟩
    conv => whnf
    refine hKz _ _ _ _ ?_
    rw [nI_1']
    exact h9
  · have hA' := hp h
    have hLR := hA.1.2 x y hx hy
    refine z_run (cuts := cu_PM_setShifted) ok_PM_setShifted (fun Kz hKz => ?_)
    conv => whnf
    refine ⟨by first | assumption | decide, ?_⟩
    conv => whnf
    rw [(hp h).2.1, nI_leI (by omega) (by omega)]
    refine ⟨fun q => absurd q (by omega), fun _ => ?_⟩
    conv => whnf
    refine ⟨by first | assumption | decide, ?_⟩
    conv => whnf
    refine s_PM_left hj hA' hx hy ?_
    conv => whnf
    refine ⟨by first | assumption | decide, ?_⟩
    conv => whnf
    refine s_PM_right hj hA' hx hy ?_
    conv => whnf
    refine ⟨by first | assumption | decide, ?_⟩
    conv => whnf
    rw [nI_add, nI_add, nI_add, nI_add]
    refine s_PM_setImage hk (by omega) (by omega) (by omega) (by omega) ?_
    conv => whnf
    refine hKz _ _ _ _ ?_
    rw [nI_1']
    exact h8 _ (winv_step (pos := fun a b => 8 * (d + a) + (d + b)) (val := fun a b => 8 * (d + A.2.1 a b) + (d + A.2.2 a b)) hx hy (fun a b ha hb he => by
      have he : 8 * (d + a) + (d + b) = 8 * (d + x) + (d + y) := he
      omega) h)
theorem puni_wf {A B : ZP} (hA : pwf A) (hB : pwf B) (h : A.1 + B.1 ≤ 6) : pwf (puni A B) := by
  refine ⟨h, fun x y hx hy => ?_⟩
  have hx : x < A.1 + B.1 := hx
  have hy : y < A.1 + B.1 := hy
  show _ < A.1 + B.1 ∧ _ < A.1 + B.1
  simp only [puni]
  by_cases h1 : x < A.1
  · by_cases h2 : y < A.1
    · have := hA.2 x y h1 h2
      simp only [h1, h2, if_true]
      omega
    · simp only [h1, h2, if_true, if_false]
      omega
  · by_cases h2 : y < A.1
    · simp only [h1, h2, if_true, if_false]
      omega
    · have := hB.2 (x - A.1) (y - A.1) (by omega) (by omega)
      simp only [h1, h2, if_false]
      omega
theorem s_PM_becomeUnion {k i j : Nat} {A B : ZP} (hk : k < 10) (hi : i < 10) (hj : j < 10) (hki : k ≠ i) (hkj : k ≠ j) (hA : isPM M i A) (hB : isPM M j B) (h6 : A.1 + B.1 ≤ 6) (hZ : ∀ M', zsm (pmS k) M M' → isPM M' k (puni A B) → Z none M') : Ctr 0 G mi_PM_becomeUnion [zr 0 k, zr 0 i, zr 0 j] M Z := by
  have hnA := hA.1.1
  have hnB := hB.1.1
  refine go_PM_becomeUnion (fun Kz hKz => ?_)
  conv => whnf
  refine ⟨by first | assumption | decide, ?_⟩
  conv => whnf
  refine ⟨by first | assumption | decide, ?_⟩
  conv => whnf
  rw [hA.2.1, hB.2.1, nI_add]
  refine ⟨by first | assumption | decide, ?_⟩
  conv => whnf
  refine s_PM_becomeFlip hk h6 (fun M1 h1 => ?_)
  conv => whnf
  refine ⟨by first | assumption | decide, ?_⟩
  conv => whnf
  have hA1 : isPM M1 i A := isPM_same hA h1.1 (fun q => hki q.2.symm) (fun q => hki q.2.symm)
  have hB1 : isPM M1 j B := isPM_same hB h1.1 (fun q => hkj q.2.symm) (fun q => hkj q.2.symm)
  refine s_PM_setShifted hk hi hki hA1 (by omega) (fun M2 h2 => ?_)
  have hA2 : isPM M2 i A := isPM_same hA1 h2.1 (fun q => absurd q.1 (by decide)) (fun q => hki q.2.symm)
  have hB2 : isPM M2 j B := isPM_same hB1 h2.1 (fun q => absurd q.1 (by decide)) (fun q => hkj q.2.symm)
  conv => whnf
  refine ⟨by first | assumption | decide, ?_⟩
  conv => whnf
  rw [hA2.2.1]
  refine ⟨by first | assumption | decide, ?_⟩
  conv => whnf
  refine s_PM_setShifted hk hj hkj hB2 (by omega) (fun M3 h3 => ?_)
  conv => whnf
  have hm : ∀ a b, rwS k a b → pmS k a b := fun a b q => ⟨Or.inr q.1, q.2⟩
  refine hZ M3 (zsm_trans h1.1 (zsm_trans (zsm_mono h2.1 hm) (zsm_mono h3.1 hm))) ⟨puni_wf hA.1 hB.1 h6, ?_, fun x y hx hy => ?_⟩
  · rw [winv_pts h3, winv_pts h2, h1.2.1]
    rfl
  · have hx : x < A.1 + B.1 := hx
    have hy : y < A.1 + B.1 := hy
    simp only [puni]
    by_cases hxy : ¬ x < A.1 ∧ ¬ y < A.1
    · have e := h3.2.1 (x - A.1) (y - A.1) (by omega) (by omega) (Or.inl (by omega))
      dsimp only at e
      rw [show A.1 + (x - A.1) = x by omega, show A.1 + (y - A.1) = y by omega] at e
      rw [if_neg hxy.1, if_neg hxy.2, if_neg hxy.1, if_neg hxy.2, e]
    · have e3 := h3.2.2 (8 * x + y) (fun a b ha hb _ he => by dsimp only at he; omega)
      rw [e3]
      by_cases hxy2 : x < A.1 ∧ y < A.1
      · have e := h2.2.1 x y hxy2.1 hxy2.2 (Or.inl hxy2.1)
        dsimp only at e
        rw [Nat.zero_add, Nat.zero_add] at e
        rw [e, if_pos hxy2.1, if_pos hxy2.2, if_pos hxy2.1, if_pos hxy2.2, Nat.zero_add, Nat.zero_add]
      · have e2 := h2.2.2 (8 * x + y) (fun a b ha hb _ he => by dsimp only at he; omega)
        rw [e2, h1.2.2 x y hx hy]
        by_cases h7 : x < A.1
        · have h8 : ¬ y < A.1 := fun q => hxy2 ⟨h7, q⟩
          rw [if_pos h7, if_neg h8, if_pos h7, if_neg h8]
        · have h8 : y < A.1 := Classical.not_not.mp (fun q => hxy ⟨h7, q⟩)
          rw [if_neg h7, if_pos h8, if_neg h7, if_pos h8]
end
end
section
theorem pprod_lt {n m a b : Nat} (ha : a < n) (hb : b < m) : m * a + b < n * m := by
  have : m * (a + 1) ≤ m * n := Nat.mul_le_mul_left _ ha
  rw [Nat.mul_add, Nat.mul_comm m n] at this
  omega
theorem pprod_wf {A B : ZP} (hA : pwf A) (hB : pwf B) (h : A.1 * B.1 ≤ 6) : pwf (pprod A B) := by
  refine ⟨h, fun x y hx hy => ?_⟩
  have hx : x < A.1 * B.1 := hx
  have hy : y < A.1 * B.1 := hy
  have h0 : 0 < B.1 := by
    rcases Nat.eq_zero_or_pos B.1 with q | q
    · rw [q] at hx; omega
    · exact q
  have hx1 : x / B.1 < A.1 := Nat.div_lt_of_lt_mul (by rw [Nat.mul_comm]; exact hx)
  have hy1 : y / B.1 < A.1 := Nat.div_lt_of_lt_mul (by rw [Nat.mul_comm]; exact hy)
  have e1 := hA.2 _ _ hx1 hy1
  have e2 := hB.2 (x % B.1) (y % B.1) (Nat.mod_lt _ h0) (Nat.mod_lt _ h0)
  exact ⟨pprod_lt e1.1 e2.1, pprod_lt e1.2 e2.2⟩
section
variable {G : ZG} {M : ZM} {Z : Option ZV → ZM → Prop}
theorem s_PM_setBlock {k i j x y : Nat} {A B : ZP} (hk : k < 10) (hi : i < 10) (hj : j < 10) (hki : k ≠ i) (hkj : k ≠ j) (hA : isPM M i A) (hB : isPM M j B) (h6 : A.1 * B.1 ≤ 6) (hx : x < A.1) (hy : y < A.1) (hZ : ∀ M', winv M k B.1 (fun a b => 8 * (B.1 * x + a) + (B.1 * y + b)) (fun a b => 8 * (B.1 * A.2.1 x y + B.2.1 a b) + (B.1 * A.2.2 x y + B.2.2 a b)) B.1 0 M' → Z none M') : Ctr 0 G mi_PM_setBlock [zr 0 k, zr 0 i, zr 0 j, zi (nI x), zi (nI y)] M Z := by
  have hn := hA.1.1
  have hm := hB.1.1
  have hLRA := hA.1.2 x y hx hy
  refine go_PM_setBlock (fun Kz hKz => ?_)
  conv => whnf
  refine ⟨by first | assumption | decide, ?_⟩
  conv => whnf
  refine ⟨by first | assumption | decide, ?_⟩
  conv => whnf
  refine s_PM_left hi hA hx hy ?_
  conv => whnf
  refine ⟨by first | assumption | decide, ?_⟩
  conv => whnf
  refine s_PM_right hi hA hx hy ?_
  conv => whnf
  refine hKz _ _ _ _ ?_
  rw [hB.2.1, pk_mul, pk_mul]
  have hp : ∀ {M' : ZM} {a b : Nat}, winv M k B.1 (fun a b => 8 * (B.1 * x + a) + (B.1 * y + b)) (fun a b => 8 * (B.1 * A.2.1 x y + B.2.1 a b) + (B.1 * A.2.2 x y + B.2.2 a b)) a b M' → isPM M' j B := fun h => isPM_same hB h.1 (fun q => absurd q.1 (by decide)) (fun q => hkj q.2.symm)
  refine wloop0 (n := B.1) (inv := winv M k B.1 (fun a b => 8 * (B.1 * x + a) + (B.1 * y + b)) (fun a b => 8 * (B.1 * A.2.1 x y + B.2.1 a b) + (B.1 * A.2.2 x y + B.2.2 a b))) (O := fun z M' => V 0 G mi_PM_setBlock Z 33 [(0, zr 0 k), (2, zr 0 j), (3, zi (nI x)), (4, zi (nI y)), (5, zi (nI B.1)), (6, zi (nI (A.2.1 x y * B.1))), (7, zi (nI (A.2.2 x y * B.1))), (8, zi (nI z))] [] M') (I := fun z w M' => V 0 G mi_PM_setBlock Z 43 [(0, zr 0 k), (2, zr 0 j), (3, zi (nI x)), (4, zi (nI y)), (5, zi (nI B.1)), (6, zi (nI (A.2.1 x y * B.1))), (7, zi (nI (A.2.2 x y * B.1))), (8, zi (nI z)), (9, zi (nI w))] [] M') (winv_start _ _ _ _ _) (fun x M' h => winv_next h) (fun M' h => ?_) (fun z hz M' h h9 => ?_) (fun z hz M' h h9 => ?_) (fun z w hz hw M' h h8 => ?_)
  · refine z_run (cuts := cu_PM_setBlock) ok_PM_setBlock (fun Kz hKz => ?_)
    conv => whnf
    rw [nI_leI (by omega) (by omega)]
    refine ⟨fun _ => ?_, fun q => absurd (Nat.le_refl _) q⟩
    conv => whnf
    exact hZ M' h
  · refine z_run (cuts := cu_PM_setBlock) ok_PM_setBlock (fun Kz hKz => ?_)
    conv => whnf
    rw [nI_leI (by omega) (by omega)]
    refine ⟨fun q => absurd q (by omega), fun _ => ?_⟩
    conv => whnf
    refine hKz _ _ _ _ ?_
    exact h9
  · refine z_run (cuts := cu_PM_setBlock) ok_PM_setBlock (fun Kz hKz => ?_)
    conv => whnf
    rw [nI_leI (by omega) (by omega)]
    refine ⟨fun _ => ?_, fun q => absurd (Nat.le_refl _) q⟩
    conv => whnf
    refine hKz _ _ _ _ ?_
    rw [nI_1']
    exact h9
  · have hB' := hp h
    have hLR := hB.1.2 z w hz hw
    have b1 := pprod_lt hx hz
    have b2 := pprod_lt hy hw
    have b3 := pprod_lt hLRA.1 hLR.1
    have b4 := pprod_lt hLRA.2 hLR.2
    refine z_run (cuts := cu_PM_setBlock) ok_PM_setBlock (fun Kz hKz => ?_)
    conv => whnf
    rw [nI_leI (by omega) (by omega)]
    refine ⟨fun q => absurd q (by omega), fun _ => ?_⟩
    conv => whnf
    refine ⟨by first | assumption | decide, ?_⟩
    conv => whnf
    refine s_PM_left hj hB' hz hw ?_
    conv => whnf
    refine ⟨by first | assumption | decide, ?_⟩
    conv => whnf
    refine s_PM_right hj hB' hz hw ?_
    conv => whnf
    refine ⟨by first | assumption | decide, ?_⟩
    conv => whnf
    rw [pk_mul, pk_mul, nI_add, nI_add, nI_add, nI_add, Nat.mul_comm x, Nat.mul_comm y, Nat.mul_comm (A.2.1 x y), Nat.mul_comm (A.2.2 x y)]
    refine s_PM_setImage hk (by omega) (by omega) (by omega) (by omega) ?_
    conv => whnf
    refine hKz _ _ _ _ ?_
    rw [nI_1', Nat.mul_comm B.1 (A.2.1 x y), Nat.mul_comm B.1 (A.2.2 x y)]
    have h7 := h8 _ (winv_step (pos := fun a b => 8 * (B.1 * x + a) + (B.1 * y + b)) (val := fun a b => 8 * (B.1 * A.2.1 x y + B.2.1 a b) + (B.1 * A.2.2 x y + B.2.2 a b)) hz hw (fun a b ha hb he => by
      have c1 := pprod_lt hx ha
      have c2 := pprod_lt hy hb
      omega) h)
    rw [Nat.mul_comm B.1 (A.2.1 x y), Nat.mul_comm B.1 (A.2.2 x y)] at h7
    exact h7
/-- what a product's map has when the blocks before (x, y) are done -/
def pbinv (M : ZM) (k : Nat) (A B : ZP) (x y : Nat) (M' : ZM) : Prop := zsm (rwS k) M M' ∧ ∀ a b, a < A.1 → b < A.1 → (a < x ∨ (a = x ∧ b < y)) → ∀ z w, z < B.1 → w < B.1 → M'.1 1 k (8 * (B.1 * a + z) + (B.1 * b + w)) = nI (8 * (B.1 * A.2.1 a b + B.2.1 z w) + (B.1 * A.2.2 a b + B.2.2 z w))
theorem s_PM_becomeProduct {k i j : Nat} {A B : ZP} (hk : k < 10) (hi : i < 10) (hj : j < 10) (hki : k ≠ i) (hkj : k ≠ j) (hA : isPM M i A) (hB : isPM M j B) (h6 : A.1 * B.1 ≤ 6) (hZ : ∀ M', zsm (pmS k) M M' → isPM M' k (pprod A B) → Z none M') : Ctr 0 G mi_PM_becomeProduct [zr 0 k, zr 0 i, zr 0 j] M Z := by
  have hn := hA.1.1
  have hm := hB.1.1
  refine go_PM_becomeProduct (fun Kz hKz => ?_)
  conv => whnf
  refine ⟨by first | assumption | decide, ?_⟩
  conv => whnf
  refine ⟨by first | assumption | decide, ?_⟩
  conv => whnf
  refine ⟨by first | assumption | decide, ?_⟩
  conv => whnf
  refine hKz _ _ _ _ ?_
  rw [hA.2.1, hB.2.1, pk_mul]
  have hs0 : zsm (pmS k) M (zset 0 k 1 (nI (A.1 * B.1)) M) := zsm_set ⟨Or.inl rfl, rfl⟩
  have hA0 : isPM (zset 0 k 1 (nI (A.1 * B.1)) M) i A := isPM_same hA hs0 (fun q => hki q.2.symm) (fun q => hki q.2.symm)
  have hB0 : isPM (zset 0 k 1 (nI (A.1 * B.1)) M) j B := isPM_same hB hs0 (fun q => hkj q.2.symm) (fun q => hkj q.2.symm)
  have hpA : ∀ {M' : ZM}, zsm (rwS k) (zset 0 k 1 (nI (A.1 * B.1)) M) M' → isPM M' i A := fun h => isPM_same hA0 h (fun q => absurd q.1 (by decide)) (fun q => hki q.2.symm)
  have hpB : ∀ {M' : ZM}, zsm (rwS k) (zset 0 k 1 (nI (A.1 * B.1)) M) M' → isPM M' j B := fun h => isPM_same hB0 h (fun q => absurd q.1 (by decide)) (fun q => hkj q.2.symm)
  refine wloop0 (n := A.1) (inv := pbinv (zset 0 k 1 (nI (A.1 * B.1)) M) k A B) (O := fun x M' => V 0 G mi_PM_becomeProduct Z 15 [(0, zr 0 k), (1, zr 0 i), (2, zr 0 j), (3, zi (nI x))] [] M') (I := fun x y M' => V 0 G mi_PM_becomeProduct Z 26 [(0, zr 0 k), (1, zr 0 i), (2, zr 0 j), (3, zi (nI x)), (4, zi (nI y))] [] M') ⟨zsm_refl _ _, fun a b _ _ q => by omega⟩ (fun x M' h => ⟨h.1, fun a b ha hb q => h.2 a b ha hb (by omega)⟩) (fun M' h => ?_) (fun x hx M' h h9 => ?_) (fun x hx M' h h9 => ?_) (fun x y hx hy M' h h8 => ?_)
  · refine z_run (cuts := cu_PM_becomeProduct) ok_PM_becomeProduct (fun Kz hKz => ?_)
    conv => whnf
    refine ⟨by first | assumption | decide, ?_⟩
    conv => whnf
    rw [(hpA h.1).2.1, nI_leI (by omega) (by omega)]
    refine ⟨fun _ => ?_, fun q => absurd (Nat.le_refl _) q⟩
    conv => whnf
    refine hZ M' (zsm_trans hs0 (zsm_mono h.1 (fun a b q => ⟨Or.inr q.1, q.2⟩))) ⟨pprod_wf hA.1 hB.1 h6, ?_, fun x y hx hy => ?_⟩
    · rw [h.1.2 0 k (fun q => absurd q.1 (by decide)), zset_eq]
      rfl
    · have hx : x < A.1 * B.1 := hx
      have hy : y < A.1 * B.1 := hy
      have h0 : 0 < B.1 := by
        rcases Nat.eq_zero_or_pos B.1 with q | q
        · rw [q] at hx; omega
        · exact q
      have hx1 : x / B.1 < A.1 := Nat.div_lt_of_lt_mul (by rw [Nat.mul_comm]; exact hx)
      have hy1 : y / B.1 < A.1 := Nat.div_lt_of_lt_mul (by rw [Nat.mul_comm]; exact hy)
      have e := h.2 _ _ hx1 hy1 (Or.inl hx1) (x % B.1) (y % B.1) (Nat.mod_lt _ h0) (Nat.mod_lt _ h0)
      rw [Nat.div_add_mod, Nat.div_add_mod] at e
      exact e
  · refine z_run (cuts := cu_PM_becomeProduct) ok_PM_becomeProduct (fun Kz hKz => ?_)
    conv => whnf
    refine ⟨by first | assumption | decide, ?_⟩
    conv => whnf
    rw [(hpA h.1).2.1, nI_leI (by omega) (by omega)]
    refine ⟨fun q => absurd q (by omega), fun _ => ?_⟩
    conv => whnf
    refine hKz _ _ _ _ ?_
    exact h9
  · refine z_run (cuts := cu_PM_becomeProduct) ok_PM_becomeProduct (fun Kz hKz => ?_)
    conv => whnf
    refine ⟨by first | assumption | decide, ?_⟩
    conv => whnf
    rw [(hpA h.1).2.1, nI_leI (by omega) (by omega)]
    refine ⟨fun _ => ?_, fun q => absurd (Nat.le_refl _) q⟩
    conv => whnf
    refine hKz _ _ _ _ ?_
    rw [nI_1']
    exact h9
  · refine z_run (cuts := cu_PM_becomeProduct) ok_PM_becomeProduct (fun Kz hKz => ?_)
    conv => whnf
    refine ⟨by first | assumption | decide, ?_⟩
    conv => whnf
    rw [(hpA h.1).2.1, nI_leI (by omega) (by omega)]
    refine ⟨fun q => absurd q (by omega), fun _ => ?_⟩
    conv => whnf
    refine ⟨by first | assumption | decide, ?_⟩
    conv => whnf
    refine s_PM_setBlock hk hi hj hki hkj (hpA h.1) (hpB h.1) h6 hx hy (fun M2 h2 => ?_)
    conv => whnf
    refine hKz _ _ _ _ ?_
    rw [nI_1']
    refine h8 M2 ⟨zsm_trans h.1 h2.1, fun a b ha hb q z w hz hw => ?_⟩
    by_cases hab : a = x ∧ b = y
    · obtain ⟨rfl, rfl⟩ := hab
      exact h2.2.1 z w hz hw (Or.inl hz)
    · have e := h2.2.2 (8 * (B.1 * a + z) + (B.1 * b + w)) (fun z' w' hz' hw' _ he => by
        have c1 := pprod_lt ha hz
        have c2 := pprod_lt hb hw
        have c3 := pprod_lt hx hz'
        have c4 := pprod_lt hy hw'
        dsimp only at he
        have d1 : B.1 * x + z' = B.1 * a + z := by omega
        have d2 : B.1 * y + w' = B.1 * b + w := by omega
        have e1 := congrArg (· / B.1) d1
        have e2 := congrArg (· / B.1) d2
        have h0 : 0 < B.1 := by omega
        simp only [Nat.mul_add_div h0, Nat.div_eq_of_lt hz, Nat.div_eq_of_lt hz', Nat.div_eq_of_lt hw, Nat.div_eq_of_lt hw', Nat.add_zero] at e1 e2
        exact hab ⟨e1.symm, e2.symm⟩)
      rw [e]
      exact h.2 a b ha hb (by omega) z w hz hw
end
end
section
/-! the class's state: the maps at the four places, the two braids (where each letter acts, whether it is a capital) -/
abbrev ZS : Type := (Nat → ZP) × (Nat → List (Nat × Bool))
def p0 : ZP := (0, fun _ _ => 0, fun _ _ => 0)
def b2i (b : Bool) : Int32 := if b then nI 1 else nI 0
def isBR (M : ZM) (b : Nat) (w : List (Nat × Bool)) : Prop := w.length ≤ 24 ∧ M.1 2 b 2 = nI w.length ∧ ∀ i q, w[i]? = some q → q.1 < 3 ∧ M.1 3 b i = nI q.1 ∧ M.1 4 b i = b2i q.2
def CS (M : ZM) (S : ZS) : Prop := (∀ m, m < 4 → isPM M m (S.1 m)) ∧ isPM M 4 p0 ∧ (∀ b, b < 2 → isBR M b (S.2 b)) ∧ isBR M 2 []
/-- the reference's cells are as they were -/
def csm (M M' : ZM) : Prop := ∀ a b, 20 ≤ a → M'.1 a b = M.1 a b
theorem csm_refl (M : ZM) : csm M M := fun _ _ _ => rfl
theorem csm_trans {M M' M'' : ZM} (h : csm M M') (h' : csm M' M'') : csm M M'' := fun a b q => (h' a b q).trans (h a b q)
theorem csm_of {S : Nat → Nat → Prop} {M M' : ZM} (h : zsm S M M') (hs : ∀ a b, S a b → a < 20) : csm M M' := fun a b q => h.2 a b (fun z => by have := hs a b z; omega)
theorem csm_pm {k : Nat} {M M' : ZM} (h : zsm (pmS k) M M') : csm M M' := csm_of h (fun a b q => by rcases q.1 with q | q <;> omega)
def upS (S : ZS) (to : Nat) (A : ZP) : ZS := (fun m => if m = to then A else S.1 m, S.2)
def plk (m : Nat) : Nat := if m < 4 then m else 4
def plA (S : ZS) (m : Nat) : ZP := if m < 4 then S.1 m else p0
theorem plk_lt (m : Nat) : plk m < 5 := by unfold plk; split <;> omega
theorem CS_pl {M : ZM} {S : ZS} (h : CS M S) (m : Nat) : isPM M (plk m) (plA S m) := by
  unfold plk plA
  by_cases hm : m < 4
  · rw [if_pos hm, if_pos hm]; exact h.1 m hm
  · rw [if_neg hm, if_neg hm]; exact h.2.1
theorem isBR_same {S : Nat → Nat → Prop} {M M' : ZM} {b : Nat} {w : List (Nat × Bool)} (h : isBR M b w) (hs : zsm S M M') (h2 : ¬ S 2 b) (h3 : ¬ S 3 b) (h4 : ¬ S 4 b) : isBR M' b w := by
  refine ⟨h.1, by rw [hs.2 2 b h2]; exact h.2.1, fun i q hi => ?_⟩
  rw [hs.2 3 b h3, hs.2 4 b h4]
  exact h.2.2 i q hi
theorem isBR_eq {M M' : ZM} {b : Nat} {w : List (Nat × Bool)} (h : isBR M b w) (h2 : M'.1 2 b = M.1 2 b) (h3 : M'.1 3 b = M.1 3 b) (h4 : M'.1 4 b = M.1 4 b) : isBR M' b w := by
  refine ⟨h.1, by rw [h2]; exact h.2.1, fun i q hi => ?_⟩
  rw [h3, h4]
  exact h.2.2 i q hi
theorem isPM_eq {M M' : ZM} {k : Nat} {A : ZP} (h : isPM M k A) (h0 : M'.1 0 k = M.1 0 k) (h1 : M'.1 1 k = M.1 1 k) : isPM M' k A := by
  refine ⟨h.1, by rw [h0]; exact h.2.1, fun x y hx hy => ?_⟩
  rw [h1]
  exact h.2.2 x y hx hy
/-- the places and the braids are as they were -/
def cst (M M' : ZM) : Prop := (∀ b, b < 5 → M'.1 0 b = M.1 0 b ∧ M'.1 1 b = M.1 1 b) ∧ ∀ b, b < 3 → M'.1 2 b = M.1 2 b ∧ M'.1 3 b = M.1 3 b ∧ M'.1 4 b = M.1 4 b
theorem CS_cst {M M' : ZM} {S : ZS} (h : CS M S) (hc : cst M M') : CS M' S :=
  ⟨fun m hm => isPM_eq (h.1 m hm) (hc.1 m (by omega)).1 (hc.1 m (by omega)).2, isPM_eq h.2.1 (hc.1 4 (by omega)).1 (hc.1 4 (by omega)).2, fun b hb => isBR_eq (h.2.2.1 b hb) (hc.2 b (by omega)).1 (hc.2 b (by omega)).2.1 (hc.2 b (by omega)).2.2, isBR_eq h.2.2.2 (hc.2 2 (by omega)).1 (hc.2 2 (by omega)).2.1 (hc.2 2 (by omega)).2.2⟩
theorem cst_of {S : Nat → Nat → Prop} {M M' : ZM} (h : zsm S M M') (h0 : ∀ b, b < 5 → ¬ S 0 b ∧ ¬ S 1 b) (h2 : ∀ b, b < 3 → ¬ S 2 b ∧ ¬ S 3 b ∧ ¬ S 4 b) : cst M M' :=
  ⟨fun b hb => ⟨h.2 0 b (h0 b hb).1, h.2 1 b (h0 b hb).2⟩, fun b hb => ⟨h.2 2 b (h2 b hb).1, h.2 3 b (h2 b hb).2.1, h.2 4 b (h2 b hb).2.2⟩⟩
theorem cst_pm {k : Nat} {M M' : ZM} (hk : 5 ≤ k) (h : zsm (pmS k) M M') : cst M M' :=
  cst_of h (fun b hb => ⟨fun q => by have := q.2; omega, fun q => by have := q.2; omega⟩) (fun b hb => ⟨fun q => absurd q.1 (by decide), fun q => absurd q.1 (by decide), fun q => absurd q.1 (by decide)⟩)
theorem CS_put {M M' : ZM} {S : ZS} {to : Nat} {A : ZP} (h : CS M S) (hto : to < 4) (hs : zsm (pmS to) M M') (hA : isPM M' to A) : CS M' (upS S to A) := by
  refine ⟨fun m hm => ?_, isPM_same h.2.1 hs (fun q => by have := q.2; omega) (fun q => by have := q.2; omega), fun b hb => isBR_same (h.2.2.1 b hb) hs (fun q => absurd q.1 (by decide)) (fun q => absurd q.1 (by decide)) (fun q => absurd q.1 (by decide)), isBR_same h.2.2.2 hs (fun q => absurd q.1 (by decide)) (fun q => absurd q.1 (by decide)) (fun q => absurd q.1 (by decide))⟩
  simp only [upS]
  by_cases he : m = to
  · rw [if_pos he, he]; exact hA
  · rw [if_neg he]
    exact isPM_same (h.1 m hm) hs (fun q => he q.2) (fun q => he q.2)
section
variable {G : ZG} {M : ZM} {Z : Option ZV → ZM → Prop}
theorem s_T_mapAt {m : Nat} (hm : m < 2 ^ 32) (hZ : Z (some (zr 0 (plk m))) M) : Ctr 0 G mi_T_mapAt [zr 5 0, zi (nI m)] M Z := by
  refine go_T_mapAt (fun Kz hKz => ?_)
  conv => whnf
  refine s_T_isPlace hm (fun h => ?_) (fun h => ?_)
  · conv => whnf
    first | refine ⟨fun _ => ?_, fun q => absurd (by decide) q⟩ | refine ⟨fun q => absurd q (by decide), fun _ => ?_⟩
    conv => whnf
    refine ⟨vp_in_nI h (by decide), ?_⟩
    conv => whnf
    rw [nI_clamp (by omega)]
    rw [plk, if_pos h] at hZ
    exact hZ
  · conv => whnf
    first | refine ⟨fun _ => ?_, fun q => absurd (by decide) q⟩ | refine ⟨fun q => absurd q (by decide), fun _ => ?_⟩
    conv => whnf
    rw [plk, if_neg h] at hZ
    exact hZ
theorem s_T_braidAt {m : Nat} (hm : m < 2 ^ 32) (hZ : Z (some (zr 2 (if m < 2 then m else 2))) M) : Ctr 0 G mi_T_braidAt [zr 5 0, zi (nI m)] M Z := by
  refine go_T_braidAt (fun Kz hKz => ?_)
  conv => whnf
  refine s_T_isBraid hm (fun h => ?_) (fun h => ?_)
  · conv => whnf
    first | refine ⟨fun _ => ?_, fun q => absurd (by decide) q⟩ | refine ⟨fun q => absurd q (by decide), fun _ => ?_⟩
    conv => whnf
    refine ⟨vp_in_nI h (by decide), ?_⟩
    conv => whnf
    rw [nI_clamp (by omega)]
    rw [if_pos h] at hZ
    exact hZ
  · conv => whnf
    first | refine ⟨fun _ => ?_, fun q => absurd (by decide) q⟩ | refine ⟨fun q => absurd q (by decide), fun _ => ?_⟩
    conv => whnf
    rw [if_neg h] at hZ
    exact hZ
theorem s_T_keepMade {to : Nat} {B : ZP} {S : ZS} (hto : to < 4) (hC : CS M S) (hB : isPM M 5 B) (hZ : ∀ M', CS M' (upS S to B) → csm M M' → Z (some (zi (nI B.1))) M') : Ctr 0 G mi_T_keepMade [zr 5 0, zi (nI to)] M Z := by
  refine go_T_keepMade (fun Kz hKz => ?_)
  conv => whnf
  refine s_T_isPlace (by omega) (fun h => ?_) (fun h => absurd hto h)
  conv => whnf
  first | refine ⟨fun _ => ?_, fun q => absurd (by decide) q⟩ | refine ⟨fun q => absurd q (by decide), fun _ => ?_⟩
  conv => whnf
  refine ⟨vp_in_nI h (by decide), ?_⟩
  conv => whnf
  rw [nI_clamp (by omega)]
  refine ⟨by show to < 10; omega, ?_⟩
  refine s_PM_copy (by omega) (by decide) (by omega) (fun M' h1 h2 h3 => ?_)
  conv => whnf
  refine ⟨by first | assumption | decide, ?_⟩
  conv => whnf
  have hB' : isPM M' to B := by
    refine ⟨hB.1, h2.trans hB.2.1, fun x y hx hy => ?_⟩
    have := hB.1.1
    rw [h3 _ (by omega)]
    exact hB.2.2 x y hx hy
  have hB5 : isPM M' 5 B := isPM_same hB h1 (fun q => by have := q.2; omega) (fun q => by have := q.2; omega)
  refine s_PM_points (by decide) ?_
  conv => whnf
  rw [hB5.2.1]
  exact hZ M' (CS_put hC hto h1 hB') (csm_pm h1)
theorem c_flip {to n : Nat} {S : ZS} (hto : to < 2 ^ 32) (hn : n < 2 ^ 32) (hC : CS M S) (h1 : ¬ to < 4 → Z (some (zi (-1000001))) M) (h2 : to < 4 → ¬ (1 ≤ n ∧ n ≤ 6) → Z (some (zi (-1000002))) M) (h3 : to < 4 → 1 ≤ n → n ≤ 6 → ∀ M', CS M' (upS S to (pflip n)) → csm M M' → Z (some (zi (nI n))) M') : Ctr 0 G mi_T_flip [zr 5 0, zi (nI to), zi (nI n)] M Z := by
  refine go_T_flip (fun Kz hKz => ?_)
  conv => whnf
  refine s_T_isPlace hto (fun h => ?_) (fun h => ?_)
  · conv => whnf
    first | refine ⟨fun _ => ?_, fun q => absurd (by decide) q⟩ | refine ⟨fun q => absurd q (by decide), fun _ => ?_⟩
    conv => whnf
    refine s_T_isWithin hn (by decide) (by decide) (fun h4 h5 => ?_) (fun h4 => ?_)
    · conv => whnf
      first | refine ⟨fun _ => ?_, fun q => absurd (by decide) q⟩ | refine ⟨fun q => absurd q (by decide), fun _ => ?_⟩
      conv => whnf
      refine ⟨by decide, ?_⟩
      refine s_PM_becomeFlip (by decide) h5 (fun M1 hM1 => ?_)
      conv => whnf
      have hwf : pwf (pflip n) := ⟨h5, fun x y hx hy => ⟨hy, hx⟩⟩
      refine s_T_keepMade h (CS_cst hC (cst_pm (by decide) hM1.1)) ⟨hwf, hM1.2.1, fun x y hx hy => hM1.2.2 x y hx hy⟩ (fun M' h6 h7 => ?_)
      conv => whnf
      exact h3 h h4 h5 M' h6 (csm_trans (csm_pm hM1.1) h7)
    · conv => whnf
      first | refine ⟨fun _ => ?_, fun q => absurd (by decide) q⟩ | refine ⟨fun q => absurd q (by decide), fun _ => ?_⟩
      conv => whnf
      exact h2 h h4
  · conv => whnf
    first | refine ⟨fun _ => ?_, fun q => absurd (by decide) q⟩ | refine ⟨fun q => absurd q (by decide), fun _ => ?_⟩
    conv => whnf
    exact h1 h
end
end
section
theorem ptwist_wf {n f g : Nat} (hn : n ≤ 6) (hf : isP f n) (hg : isP g n) : pwf (ptwist n f g) := ⟨hn, fun x y hx hy => ⟨(isP_facts hf).1 y hy, (isP_facts hg).1 x hx⟩⟩
/-- the names backward of a permutation's code -/
noncomputable def dgi (f n v : Nat) : Nat := Classical.epsilon fun i : Nat => i < n ∧ dg f i = v
theorem dgi_spec {f n v : Nat} (h : isP f n) (hv : v < n) : dgi f n v < n ∧ dg f (dgi f n v) = v := Classical.epsilon_spec ((isP_facts h).2.2 v hv)
theorem dgi_of {f n i : Nat} (h : isP f n) (hi : i < n) : dgi f n (dg f i) = i := by
  have h1 := dgi_spec h ((isP_facts h).1 i hi)
  exact (isP_facts h).2.1 _ _ h1.1 hi h1.2
theorem pren_wf {A : ZP} {f : Nat} (hA : pwf A) (hf : isP f A.1) : pwf (pren A (dg f) (dgi f A.1)) := ⟨hA.1, fun x y hx hy => by
  have h1 := dgi_spec hf hx
  have h2 := dgi_spec hf hy
  have h3 := hA.2 _ _ h1.1 h2.1
  exact ⟨(isP_facts hf).1 _ h3.1, (isP_facts hf).1 _ h3.2⟩⟩
theorem pmir_wf {A : ZP} (hA : pwf A) : pwf (pmir A) := ⟨hA.1, fun x y hx hy => ⟨(hA.2 y x hy hx).2, (hA.2 y x hy hx).1⟩⟩
theorem plA_wf {M : ZM} {S : ZS} (hC : CS M S) (m : Nat) : pwf (plA S m) := (CS_pl hC m).1
theorem plA_lt {S : ZS} {m : Nat} (h : ¬ (plA S m).1 = 0) : m < 4 := by
  unfold plA at h
  by_cases hm : m < 4
  · exact hm
  · rw [if_neg hm] at h; exact absurd rfl h
theorem plA_eq {S : ZS} {m : Nat} (h : m < 4) : plA S m = S.1 m := if_pos h
theorem CS_upd {M M' : ZM} {S : ZS} {k : Nat} {A : ZP} (hk : k < 4) (hA : isPM M' k A) (hC : CS M S) (h1 : zsm (pmS k) M M') : CS M' (upS S k A) := CS_put hC hk h1 hA
section
variable {G : ZG} {M : ZM} {Z : Option ZV → ZM → Prop} {S : ZS}
theorem c_twist {to n f g : Nat} (hto : to < 2 ^ 32) (hn : n < 2 ^ 32) (hf : f < 2 ^ 32) (hg : g < 2 ^ 32) (hC : CS M S) (h1 : ¬ to < 4 → Z (some (zi (-1000001))) M) (h2 : to < 4 → ¬ ((1 ≤ n ∧ n ≤ 6) ∧ isP f n ∧ isP g n) → Z (some (zi (-1000002))) M) (h3 : to < 4 → 1 ≤ n → n ≤ 6 → isP f n → isP g n → ∀ M', CS M' (upS S to (ptwist n f g)) → csm M M' → Z (some (zi (nI n))) M') : Ctr 0 G mi_T_twist [zr 5 0, zi (nI to), zi (nI n), zi (nI f), zi (nI g)] M Z := by
  refine go_T_twist (fun Kz hKz => ?_)
  conv => whnf
  refine s_T_isPlace hto (fun h => ?_) (fun h => ?_)
  · conv => whnf
    first | refine ⟨fun _ => ?_, fun q => absurd (by decide) q⟩ | refine ⟨fun q => absurd q (by decide), fun _ => ?_⟩
    conv => whnf
    refine s_T_isWithin hn (by decide) (by decide) (fun h4 h5 => ?_) (fun h4 => ?_)
    · conv => whnf
      first | refine ⟨fun _ => ?_, fun q => absurd (by decide) q⟩ | refine ⟨fun q => absurd q (by decide), fun _ => ?_⟩
      conv => whnf
      refine s_CO_isPermutation hf h5 (fun hpf => ?_) (fun hpf => ?_)
      · conv => whnf
        first | refine ⟨fun _ => ?_, fun q => absurd (by decide) q⟩ | refine ⟨fun q => absurd q (by decide), fun _ => ?_⟩
        conv => whnf
        refine s_CO_isPermutation hg h5 (fun hpg => ?_) (fun hpg => ?_)
        · conv => whnf
          first | refine ⟨fun _ => ?_, fun q => absurd (by decide) q⟩ | refine ⟨fun q => absurd q (by decide), fun _ => ?_⟩
          conv => whnf
          refine ⟨by decide, ?_⟩
          refine s_PM_becomeTwist (by decide) h5 hf hg (fun M1 hM1 => ?_)
          conv => whnf
          refine s_T_keepMade h (CS_cst hC (cst_pm (by decide) hM1.1)) ⟨ptwist_wf h5 hpf hpg, hM1.2.1, fun x y hx hy => hM1.2.2 x y hx hy⟩ (fun M' h6 h7 => ?_)
          conv => whnf
          exact h3 h h4 h5 hpf hpg M' h6 (csm_trans (csm_pm hM1.1) h7)
        · conv => whnf
          first | refine ⟨fun _ => ?_, fun q => absurd (by decide) q⟩ | refine ⟨fun q => absurd q (by decide), fun _ => ?_⟩
          conv => whnf
          exact h2 h (fun q => hpg q.2.2)
      · conv => whnf
        first | refine ⟨fun _ => ?_, fun q => absurd (by decide) q⟩ | refine ⟨fun q => absurd q (by decide), fun _ => ?_⟩
        conv => whnf
        exact h2 h (fun q => hpf q.2.1)
    · conv => whnf
      first | refine ⟨fun _ => ?_, fun q => absurd (by decide) q⟩ | refine ⟨fun q => absurd q (by decide), fun _ => ?_⟩
      conv => whnf
      exact h2 h (fun q => h4 q.1)
  · conv => whnf
    first | refine ⟨fun _ => ?_, fun q => absurd (by decide) q⟩ | refine ⟨fun q => absurd q (by decide), fun _ => ?_⟩
    conv => whnf
    exact h1 h
theorem c_unite {a b to : Nat} (ha : a < 2 ^ 32) (hb : b < 2 ^ 32) (hto : to < 2 ^ 32) (hC : CS M S) (h1 : (plA S a).1 = 0 ∨ (plA S b).1 = 0 ∨ ¬ to < 4 → Z (some (zi (-1000001))) M) (h2 : ¬ (plA S a).1 = 0 → ¬ (plA S b).1 = 0 → to < 4 → ¬ (plA S a).1 + (plA S b).1 ≤ 6 → Z (some (zi (-1000004))) M)
    (h3 : ¬ (plA S a).1 = 0 → ¬ (plA S b).1 = 0 → to < 4 → (plA S a).1 + (plA S b).1 ≤ 6 → ∀ M', CS M' (upS S to (puni (plA S a) (plA S b))) → csm M M' → Z (some (zi (nI ((plA S a).1 + (plA S b).1)))) M') : Ctr 0 G mi_T_unite [zr 5 0, zi (nI a), zi (nI b), zi (nI to)] M Z := by
  have hA := CS_pl hC a
  have hB := CS_pl hC b
  have ka := plk_lt a
  have kb := plk_lt b
  have na := hA.1.1
  have nb := hB.1.1
  refine go_T_unite (fun Kz hKz => ?_)
  conv => whnf
  refine s_T_mapAt ha ?_
  conv => whnf
  refine s_T_mapAt hb ?_
  conv => whnf
  refine ⟨by show plk a < 10; omega, ?_⟩
  refine s_PM_isEmpty (by omega) hA (fun e1 => ?_) (fun e1 => ?_)
  · conv => whnf
    first | refine ⟨fun _ => ?_, fun q => absurd (by decide) q⟩ | refine ⟨fun q => absurd q (by decide), fun _ => ?_⟩
    conv => whnf
    exact h1 (Or.inl e1)
  · conv => whnf
    first | refine ⟨fun _ => ?_, fun q => absurd (by decide) q⟩ | refine ⟨fun q => absurd q (by decide), fun _ => ?_⟩
    conv => whnf
    refine ⟨by show plk b < 10; omega, ?_⟩
    refine s_PM_isEmpty (by omega) hB (fun e2 => ?_) (fun e2 => ?_)
    · conv => whnf
      first | refine ⟨fun _ => ?_, fun q => absurd (by decide) q⟩ | refine ⟨fun q => absurd q (by decide), fun _ => ?_⟩
      conv => whnf
      exact h1 (Or.inr (Or.inl e2))
    · conv => whnf
      first | refine ⟨fun _ => ?_, fun q => absurd (by decide) q⟩ | refine ⟨fun q => absurd q (by decide), fun _ => ?_⟩
      conv => whnf
      refine s_T_isPlace hto (fun h => ?_) (fun h => ?_)
      · conv => whnf
        first | refine ⟨fun _ => ?_, fun q => absurd (by decide) q⟩ | refine ⟨fun q => absurd q (by decide), fun _ => ?_⟩
        conv => whnf
        refine ⟨by show plk a < 10; omega, ?_⟩
        refine s_PM_points (by omega) ?_
        conv => whnf
        refine ⟨by show plk b < 10; omega, ?_⟩
        refine s_PM_points (by omega) ?_
        conv => whnf
        rw [hA.2.1, hB.2.1, nI_add, nI_leI (by omega) (by decide)]
        refine ⟨fun q => ?_, fun q => ?_⟩
        · conv => whnf
          refine ⟨by decide, ?_⟩
          refine s_PM_becomeUnion (by decide) (by omega) (by omega) (by omega) (by omega) hA hB q (fun M1 h4 h5 => ?_)
          conv => whnf
          refine s_T_keepMade h (CS_cst hC (cst_pm (by decide) h4)) h5 (fun M' h6 h7 => ?_)
          conv => whnf
          exact h3 e1 e2 h q M' h6 (csm_trans (csm_pm h4) h7)
        · conv => whnf
          exact h2 e1 e2 h q
      · conv => whnf
        first | refine ⟨fun _ => ?_, fun q => absurd (by decide) q⟩ | refine ⟨fun q => absurd q (by decide), fun _ => ?_⟩
        conv => whnf
        exact h1 (Or.inr (Or.inr h))
theorem c_pair {a b to : Nat} (ha : a < 2 ^ 32) (hb : b < 2 ^ 32) (hto : to < 2 ^ 32) (hC : CS M S) (h1 : (plA S a).1 = 0 ∨ (plA S b).1 = 0 ∨ ¬ to < 4 → Z (some (zi (-1000001))) M) (h2 : ¬ (plA S a).1 = 0 → ¬ (plA S b).1 = 0 → to < 4 → ¬ (plA S a).1 * (plA S b).1 ≤ 6 → Z (some (zi (-1000004))) M)
    (h3 : ¬ (plA S a).1 = 0 → ¬ (plA S b).1 = 0 → to < 4 → (plA S a).1 * (plA S b).1 ≤ 6 → ∀ M', CS M' (upS S to (pprod (plA S a) (plA S b))) → csm M M' → Z (some (zi (nI ((plA S a).1 * (plA S b).1)))) M') : Ctr 0 G mi_T_pair [zr 5 0, zi (nI a), zi (nI b), zi (nI to)] M Z := by
  have hA := CS_pl hC a
  have hB := CS_pl hC b
  have ka := plk_lt a
  have kb := plk_lt b
  have na := hA.1.1
  have nb := hB.1.1
  have nab : (plA S a).1 * (plA S b).1 ≤ 6 * 6 := Nat.mul_le_mul na nb
  refine go_T_pair (fun Kz hKz => ?_)
  conv => whnf
  refine s_T_mapAt ha ?_
  conv => whnf
  refine s_T_mapAt hb ?_
  conv => whnf
  refine ⟨by show plk a < 10; omega, ?_⟩
  refine s_PM_isEmpty (by omega) hA (fun e1 => ?_) (fun e1 => ?_)
  · conv => whnf
    first | refine ⟨fun _ => ?_, fun q => absurd (by decide) q⟩ | refine ⟨fun q => absurd q (by decide), fun _ => ?_⟩
    conv => whnf
    exact h1 (Or.inl e1)
  · conv => whnf
    first | refine ⟨fun _ => ?_, fun q => absurd (by decide) q⟩ | refine ⟨fun q => absurd q (by decide), fun _ => ?_⟩
    conv => whnf
    refine ⟨by show plk b < 10; omega, ?_⟩
    refine s_PM_isEmpty (by omega) hB (fun e2 => ?_) (fun e2 => ?_)
    · conv => whnf
      first | refine ⟨fun _ => ?_, fun q => absurd (by decide) q⟩ | refine ⟨fun q => absurd q (by decide), fun _ => ?_⟩
      conv => whnf
      exact h1 (Or.inr (Or.inl e2))
    · conv => whnf
      first | refine ⟨fun _ => ?_, fun q => absurd (by decide) q⟩ | refine ⟨fun q => absurd q (by decide), fun _ => ?_⟩
      conv => whnf
      refine s_T_isPlace hto (fun h => ?_) (fun h => ?_)
      · conv => whnf
        first | refine ⟨fun _ => ?_, fun q => absurd (by decide) q⟩ | refine ⟨fun q => absurd q (by decide), fun _ => ?_⟩
        conv => whnf
        refine ⟨by show plk a < 10; omega, ?_⟩
        refine s_PM_points (by omega) ?_
        conv => whnf
        refine ⟨by show plk b < 10; omega, ?_⟩
        refine s_PM_points (by omega) ?_
        conv => whnf
        rw [hA.2.1, hB.2.1, pk_mul, nI_leI (by omega) (by decide)]
        refine ⟨fun q => ?_, fun q => ?_⟩
        · conv => whnf
          refine ⟨by decide, ?_⟩
          refine s_PM_becomeProduct (by decide) (by omega) (by omega) (by omega) (by omega) hA hB q (fun M1 h4 h5 => ?_)
          conv => whnf
          refine s_T_keepMade h (CS_cst hC (cst_pm (by decide) h4)) h5 (fun M' h6 h7 => ?_)
          conv => whnf
          exact h3 e1 e2 h q M' h6 (csm_trans (csm_pm h4) h7)
        · conv => whnf
          exact h2 e1 e2 h q
      · conv => whnf
        first | refine ⟨fun _ => ?_, fun q => absurd (by decide) q⟩ | refine ⟨fun q => absurd q (by decide), fun _ => ?_⟩
        conv => whnf
        exact h1 (Or.inr (Or.inr h))
theorem c_mirror {a to : Nat} (ha : a < 2 ^ 32) (hto : to < 2 ^ 32) (hC : CS M S) (h1 : (plA S a).1 = 0 ∨ ¬ to < 4 → Z (some (zi (-1000001))) M) (h3 : ¬ (plA S a).1 = 0 → to < 4 → ∀ M', CS M' (upS S to (pmir (plA S a))) → csm M M' → Z (some (zi (nI (plA S a).1))) M') : Ctr 0 G mi_T_mirror [zr 5 0, zi (nI a), zi (nI to)] M Z := by
  have hA := CS_pl hC a
  have ka := plk_lt a
  refine go_T_mirror (fun Kz hKz => ?_)
  conv => whnf
  refine s_T_mapAt ha ?_
  conv => whnf
  refine ⟨by show plk a < 10; omega, ?_⟩
  refine s_PM_isEmpty (by omega) hA (fun e1 => ?_) (fun e1 => ?_)
  · conv => whnf
    first | refine ⟨fun _ => ?_, fun q => absurd (by decide) q⟩ | refine ⟨fun q => absurd q (by decide), fun _ => ?_⟩
    conv => whnf
    exact h1 (Or.inl e1)
  · conv => whnf
    first | refine ⟨fun _ => ?_, fun q => absurd (by decide) q⟩ | refine ⟨fun q => absurd q (by decide), fun _ => ?_⟩
    conv => whnf
    refine s_T_isPlace hto (fun h => ?_) (fun h => ?_)
    · conv => whnf
      first | refine ⟨fun _ => ?_, fun q => absurd (by decide) q⟩ | refine ⟨fun q => absurd q (by decide), fun _ => ?_⟩
      conv => whnf
      refine ⟨by decide, ?_⟩
      refine s_PM_becomeMirror (by decide) (by omega) (by omega) hA (fun M1 h4 => ?_)
      conv => whnf
      refine s_T_keepMade h (CS_cst hC (cst_pm (by decide) h4.1)) ⟨pmir_wf hA.1, h4.2.1, fun x y hx hy => h4.2.2 x y hx hy⟩ (fun M' h6 h7 => ?_)
      conv => whnf
      exact h3 e1 h M' h6 (csm_trans (csm_pm h4.1) h7)
    · conv => whnf
      first | refine ⟨fun _ => ?_, fun q => absurd (by decide) q⟩ | refine ⟨fun q => absurd q (by decide), fun _ => ?_⟩
      conv => whnf
      exact h1 (Or.inr h)
theorem c_rename {a f to : Nat} (ha : a < 2 ^ 32) (hf : f < 2 ^ 32) (hto : to < 2 ^ 32) (hC : CS M S) (h1 : (plA S a).1 = 0 ∨ ¬ to < 4 → Z (some (zi (-1000001))) M) (h2 : ¬ (plA S a).1 = 0 → to < 4 → ¬ isP f (plA S a).1 → Z (some (zi (-1000002))) M) (h3 : ¬ (plA S a).1 = 0 → to < 4 → isP f (plA S a).1 → ∀ M', CS M' (upS S to (pren (plA S a) (dg f) (dgi f (plA S a).1))) → csm M M' → Z (some (zi (nI (plA S a).1))) M') : Ctr 0 G mi_T_rename [zr 5 0, zi (nI a), zi (nI f), zi (nI to)] M Z := by
  have hA := CS_pl hC a
  have ka := plk_lt a
  refine go_T_rename (fun Kz hKz => ?_)
  conv => whnf
  refine s_T_mapAt ha ?_
  conv => whnf
  refine ⟨by show plk a < 10; omega, ?_⟩
  refine s_PM_isEmpty (by omega) hA (fun e1 => ?_) (fun e1 => ?_)
  · conv => whnf
    first | refine ⟨fun _ => ?_, fun q => absurd (by decide) q⟩ | refine ⟨fun q => absurd q (by decide), fun _ => ?_⟩
    conv => whnf
    exact h1 (Or.inl e1)
  · conv => whnf
    first | refine ⟨fun _ => ?_, fun q => absurd (by decide) q⟩ | refine ⟨fun q => absurd q (by decide), fun _ => ?_⟩
    conv => whnf
    refine s_T_isPlace hto (fun h => ?_) (fun h => ?_)
    · conv => whnf
      first | refine ⟨fun _ => ?_, fun q => absurd (by decide) q⟩ | refine ⟨fun q => absurd q (by decide), fun _ => ?_⟩
      conv => whnf
      refine ⟨by show plk a < 10; omega, ?_⟩
      refine s_PM_points (by omega) ?_
      conv => whnf
      rw [hA.2.1]
      refine s_CO_isPermutation hf hA.1.1 (fun hp => ?_) (fun hp => ?_)
      · conv => whnf
        first | refine ⟨fun _ => ?_, fun q => absurd (by decide) q⟩ | refine ⟨fun q => absurd q (by decide), fun _ => ?_⟩
        conv => whnf
        refine ⟨by decide, ?_⟩
        refine s_PM_becomeRenamed (by decide) (by omega) (by omega) hA hf hp (fun M1 h4 h5 h5b => ?_)
        conv => whnf
        refine s_T_keepMade h (CS_cst hC (cst_pm (by decide) h4)) (B := pren (plA S a) (dg f) (dgi f (plA S a).1)) ⟨pren_wf hA.1 hp, h5, fun x y hx hy => ?_⟩ (fun M' h6 h7 => ?_)
        · have e3 := dgi_spec hp hx
          have e4 := dgi_spec hp hy
          have e5 := h5b _ _ e3.1 e4.1
          rw [e3.2, e4.2] at e5
          exact e5
        conv => whnf
        exact h3 e1 h hp M' h6 (csm_trans (csm_pm h4) h7)
      · conv => whnf
        first | refine ⟨fun _ => ?_, fun q => absurd (by decide) q⟩ | refine ⟨fun q => absurd q (by decide), fun _ => ?_⟩
        conv => whnf
        exact h2 e1 h hp
    · conv => whnf
      first | refine ⟨fun _ => ?_, fun q => absurd (by decide) q⟩ | refine ⟨fun q => absurd q (by decide), fun _ => ?_⟩
      conv => whnf
      exact h1 (Or.inr h)
end
end
section
def pput (A : ZP) (x y l r : Nat) : ZP := (A.1, fun a b => if a = x ∧ b = y then l else A.2.1 a b, fun a b => if a = x ∧ b = y then r else A.2.2 a b)
theorem pput_wf {A : ZP} {x y l r : Nat} (hA : pwf A) (hl : l < A.1) (hr : r < A.1) : pwf (pput A x y l r) := ⟨hA.1, fun a b ha hb => by
  have := hA.2 a b ha hb
  by_cases h : a = x ∧ b = y
  · show (if _ then _ else _) < A.1 ∧ (if _ then _ else _) < A.1
    rw [if_pos h, if_pos h]; exact ⟨hl, hr⟩
  · show (if _ then _ else _) < A.1 ∧ (if _ then _ else _) < A.1
    rw [if_neg h, if_neg h]; exact this⟩
theorem p0_wf : pwf p0 := ⟨by decide, fun x y hx _ => absurd hx (Nat.not_lt_zero _)⟩
section
variable {G : ZG} {M : ZM} {Z : Option ZV → ZM → Prop} {S : ZS}
theorem c_drop {a : Nat} (ha : a < 2 ^ 32) (hC : CS M S) (h1 : (plA S a).1 = 0 → Z (some (zi (-1000001))) M) (h3 : ¬ (plA S a).1 = 0 → ∀ M', CS M' (upS S a p0) → csm M M' → Z (some (zi (nI (plA S a).1))) M') : Ctr 0 G mi_T_drop [zr 5 0, zi (nI a)] M Z := by
  have hA := CS_pl hC a
  have ka := plk_lt a
  refine go_T_drop (fun Kz hKz => ?_)
  conv => whnf
  refine s_T_mapAt ha ?_
  conv => whnf
  refine ⟨by show plk a < 10; omega, ?_⟩
  refine s_PM_isEmpty (by omega) hA (fun e1 => ?_) (fun e1 => ?_)
  · conv => whnf
    first | refine ⟨fun _ => ?_, fun q => absurd (by decide) q⟩ | refine ⟨fun q => absurd q (by decide), fun _ => ?_⟩
    conv => whnf
    exact h1 e1
  · have h4 := plA_lt e1
    have hpk : plk a = a := if_pos h4
    conv => whnf
    first | refine ⟨fun _ => ?_, fun q => absurd (by decide) q⟩ | refine ⟨fun q => absurd q (by decide), fun _ => ?_⟩
    conv => whnf
    refine ⟨by show plk a < 10; omega, ?_⟩
    refine s_PM_points (by omega) ?_
    conv => whnf
    refine ⟨by show plk a < 10; omega, ?_⟩
    refine s_PM_resize (by omega) ?_
    conv => whnf
    rw [hA.2.1, hpk]
    have hs : zsm (pmS a) M (zset 0 a 1 (nI 0) M) := zsm_set ⟨Or.inl rfl, rfl⟩
    exact h3 e1 _ (CS_put hC h4 hs ⟨p0_wf, zset_eq, fun x y hx _ => absurd hx (Nat.not_lt_zero _)⟩) (csm_pm hs)
theorem c_cell {a x y w : Nat} (ha : a < 2 ^ 32) (hx : x < 2 ^ 32) (hy : y < 2 ^ 32) (hw : w < 2 ^ 32) (hC : CS M S) (h1 : ¬ (x < (plA S a).1 ∧ y < (plA S a).1) → Z (some (zi (-1000001))) M) (h2 : x < (plA S a).1 → y < (plA S a).1 → ¬ w ≤ 1 → Z (some (zi (-1000002))) M) (h3 : x < (plA S a).1 → y < (plA S a).1 → w = 0 → Z (some (zi (nI ((plA S a).2.1 x y)))) M) (h4 : x < (plA S a).1 → y < (plA S a).1 → w = 1 → Z (some (zi (nI ((plA S a).2.2 x y)))) M) : Ctr 0 G mi_T_cell [zr 5 0, zi (nI a), zi (nI x), zi (nI y), zi (nI w)] M Z := by
  have hA := CS_pl hC a
  have ka := plk_lt a
  refine go_T_cell (fun Kz hKz => ?_)
  conv => whnf
  refine s_T_mapAt ha ?_
  conv => whnf
  refine ⟨by show plk a < 10; omega, ?_⟩
  refine s_PM_hasPoint (by omega) hx hA (fun e1 => ?_) (fun e1 => ?_)
  · conv => whnf
    first | refine ⟨fun _ => ?_, fun q => absurd (by decide) q⟩ | refine ⟨fun q => absurd q (by decide), fun _ => ?_⟩
    conv => whnf
    refine ⟨by show plk a < 10; omega, ?_⟩
    refine s_PM_hasPoint (by omega) hy hA (fun e2 => ?_) (fun e2 => ?_)
    · conv => whnf
      first | refine ⟨fun _ => ?_, fun q => absurd (by decide) q⟩ | refine ⟨fun q => absurd q (by decide), fun _ => ?_⟩
      conv => whnf
      refine s_T_isWithin hw (by decide) (by decide) (fun h5 h6 => ?_) (fun h5 => ?_)
      · conv => whnf
        first | refine ⟨fun _ => ?_, fun q => absurd (by decide) q⟩ | refine ⟨fun q => absurd q (by decide), fun _ => ?_⟩
        conv => whnf
        rw [nI_eq (by omega) (by decide)]
        refine ⟨fun q => ?_, fun q => ?_⟩
        · conv => whnf
          refine ⟨by show plk a < 10; omega, ?_⟩
          refine s_PM_right (by omega) hA e1 e2 ?_
          conv => whnf
          exact h4 e1 e2 (by omega)
        · conv => whnf
          refine ⟨by show plk a < 10; omega, ?_⟩
          refine s_PM_left (by omega) hA e1 e2 ?_
          conv => whnf
          exact h3 e1 e2 (by omega)
      · conv => whnf
        first | refine ⟨fun _ => ?_, fun q => absurd (by decide) q⟩ | refine ⟨fun q => absurd q (by decide), fun _ => ?_⟩
        conv => whnf
        exact h2 e1 e2 (by omega)
    · conv => whnf
      first | refine ⟨fun _ => ?_, fun q => absurd (by decide) q⟩ | refine ⟨fun q => absurd q (by decide), fun _ => ?_⟩
      conv => whnf
      exact h1 (fun q => e2 q.2)
  · conv => whnf
    first | refine ⟨fun _ => ?_, fun q => absurd (by decide) q⟩ | refine ⟨fun q => absurd q (by decide), fun _ => ?_⟩
    conv => whnf
    exact h1 (fun q => e1 q.1)
theorem c_put {a x y u v : Nat} (ha : a < 2 ^ 32) (hx : x < 2 ^ 32) (hy : y < 2 ^ 32) (hu : u < 2 ^ 32) (hv : v < 2 ^ 32) (hC : CS M S) (h1 : ¬ (x < (plA S a).1 ∧ y < (plA S a).1 ∧ u < (plA S a).1 ∧ v < (plA S a).1) → Z (some (zi (-1000001))) M) (h3 : x < (plA S a).1 → y < (plA S a).1 → u < (plA S a).1 → v < (plA S a).1 → ∀ M', CS M' (upS S a (pput (plA S a) x y u v)) → csm M M' → Z (some (zi (nI ((plA S a).2.1 x y + 8 * (plA S a).2.2 x y)))) M') : Ctr 0 G mi_T_put [zr 5 0, zi (nI a), zi (nI x), zi (nI y), zi (nI u), zi (nI v)] M Z := by
  have hA := CS_pl hC a
  have ka := plk_lt a
  have na := hA.1.1
  refine go_T_put (fun Kz hKz => ?_)
  conv => whnf
  refine s_T_mapAt ha ?_
  conv => whnf
  refine ⟨by show plk a < 10; omega, ?_⟩
  refine s_PM_hasPoint (by omega) hx hA (fun e1 => ?_) (fun e1 => ?_)
  · conv => whnf
    first | refine ⟨fun _ => ?_, fun q => absurd (by decide) q⟩ | refine ⟨fun q => absurd q (by decide), fun _ => ?_⟩
    conv => whnf
    refine ⟨by show plk a < 10; omega, ?_⟩
    refine s_PM_hasPoint (by omega) hy hA (fun e2 => ?_) (fun e2 => ?_)
    · conv => whnf
      first | refine ⟨fun _ => ?_, fun q => absurd (by decide) q⟩ | refine ⟨fun q => absurd q (by decide), fun _ => ?_⟩
      conv => whnf
      refine ⟨by show plk a < 10; omega, ?_⟩
      refine s_PM_hasPoint (by omega) hu hA (fun e3 => ?_) (fun e3 => ?_)
      · conv => whnf
        first | refine ⟨fun _ => ?_, fun q => absurd (by decide) q⟩ | refine ⟨fun q => absurd q (by decide), fun _ => ?_⟩
        conv => whnf
        refine ⟨by show plk a < 10; omega, ?_⟩
        refine s_PM_hasPoint (by omega) hv hA (fun e4 => ?_) (fun e4 => ?_)
        · have h4 : a < 4 := plA_lt (S := S) (by omega)
          have hpk : plk a = a := if_pos h4
          have hLR := hA.1.2 x y e1 e2
          conv => whnf
          first | refine ⟨fun _ => ?_, fun q => absurd (by decide) q⟩ | refine ⟨fun q => absurd q (by decide), fun _ => ?_⟩
          conv => whnf
          refine s_CO_pairOf (by omega) (by omega) ?_
          conv => whnf
          refine ⟨by show plk a < 10; omega, ?_⟩
          refine s_PM_imageOf (by omega) (by omega) ?_
          conv => whnf
          rw [hA.2.2 x y e1 e2]
          refine s_CO_turned (by omega) (by decide) ?_
          conv => whnf
          refine ⟨by show plk a < 10; omega, ?_⟩
          refine s_PM_setImage (by omega) (by omega) (by omega) (by omega) (by omega) ?_
          conv => whnf
          rw [hpk, show tn (8 * (plA S a).2.1 x y + (plA S a).2.2 x y) 2 = (plA S a).2.1 x y + 8 * (plA S a).2.2 x y by simp only [tn]; omega]
          have hs : zsm (pmS a) M (zset 1 a (8 * x + y) (nI (8 * u + v)) M) := zsm_set ⟨Or.inr rfl, rfl⟩
          rw [hpk] at hA
          refine h3 e1 e2 e3 e4 _ (CS_put hC h4 hs ⟨pput_wf hA.1 e3 e4, ?_, fun p q hp hq => ?_⟩) (csm_pm hs)
          · rw [zset_ne (by omega)]; exact hA.2.1
          · have hp : p < (plA S a).1 := hp
            have hq : q < (plA S a).1 := hq
            by_cases h : p = x ∧ q = y
            · rw [h.1, h.2, zset_eq]
              simp only [pput, and_self, if_true]
            · rw [zset_ne (by omega), hA.2.2 p q hp hq]
              simp only [pput]
              rw [if_neg h, if_neg h]
        · conv => whnf
          first | refine ⟨fun _ => ?_, fun q => absurd (by decide) q⟩ | refine ⟨fun q => absurd q (by decide), fun _ => ?_⟩
          conv => whnf
          exact h1 (fun q => e4 q.2.2.2)
      · conv => whnf
        first | refine ⟨fun _ => ?_, fun q => absurd (by decide) q⟩ | refine ⟨fun q => absurd q (by decide), fun _ => ?_⟩
        conv => whnf
        exact h1 (fun q => e3 q.2.2.1)
    · conv => whnf
      first | refine ⟨fun _ => ?_, fun q => absurd (by decide) q⟩ | refine ⟨fun q => absurd q (by decide), fun _ => ?_⟩
      conv => whnf
      exact h1 (fun q => e2 q.2.1)
  · conv => whnf
    first | refine ⟨fun _ => ?_, fun q => absurd (by decide) q⟩ | refine ⟨fun q => absurd q (by decide), fun _ => ?_⟩
    conv => whnf
    exact h1 (fun q => e1 q.1)
end
end
