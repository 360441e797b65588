section
/-- a private method of a class that the tables say can be made, by its rows of tables_1 -/
def lw_okq (q : MethodName × Nat) : Prop := (q.1.cls ≠ "java/lang/invoke/MethodHandle" ∧ q.1.cls ≠ "java/lang/invoke/VarHandle") ∧ Cond.instantiable q.1.cls q.2 ∈ tables_1 ∧ Cond.privateMethod q.1 ∈ tables_1 ∧ Cond.instanceMethod q.1 ∈ tables_1
theorem lw_p0 : lw_okq (⟨"ThreeStrandMaps", "keepMade", "(I)I"⟩, 10) := ⟨⟨by decide +kernel, by decide +kernel⟩, List.mem_of_getElem? (i := 18) (by decide +kernel), List.mem_of_getElem? (i := 203) (by decide +kernel), List.mem_of_getElem? (i := 204) (by decide +kernel)⟩
theorem lw_p1 : lw_okq (⟨"ThreeStrandMaps", "mapAt", "(I)LThreeStrandMaps$PairMap;"⟩, 10) := ⟨⟨by decide +kernel, by decide +kernel⟩, List.mem_of_getElem? (i := 18) (by decide +kernel), List.mem_of_getElem? (i := 306) (by decide +kernel), List.mem_of_getElem? (i := 307) (by decide +kernel)⟩
theorem lw_p2 : lw_okq (⟨"ThreeStrandMaps$PairMap", "setShifted", "(LThreeStrandMaps$PairMap;I)V"⟩, 2) := ⟨⟨by decide +kernel, by decide +kernel⟩, List.mem_of_getElem? (i := 29) (by decide +kernel), List.mem_of_getElem? (i := 375) (by decide +kernel), List.mem_of_getElem? (i := 376) (by decide +kernel)⟩
theorem lw_p3 : lw_okq (⟨"ThreeStrandMaps$PairMap", "setBlock", "(LThreeStrandMaps$PairMap;LThreeStrandMaps$PairMap;II)V"⟩, 2) := ⟨⟨by decide +kernel, by decide +kernel⟩, List.mem_of_getElem? (i := 29) (by decide +kernel), List.mem_of_getElem? (i := 389) (by decide +kernel), List.mem_of_getElem? (i := 390) (by decide +kernel)⟩
theorem lw_p4 : lw_okq (⟨"ThreeStrandMaps$RowGroup", "add", "(I)V"⟩, 3) := ⟨⟨by decide +kernel, by decide +kernel⟩, List.mem_of_getElem? (i := 93) (by decide +kernel), List.mem_of_getElem? (i := 501) (by decide +kernel), List.mem_of_getElem? (i := 502) (by decide +kernel)⟩
theorem lw_p5 : lw_okq (⟨"ThreeStrandMaps$Renamings", "start", "()V"⟩, 1) := ⟨⟨by decide +kernel, by decide +kernel⟩, List.mem_of_getElem? (i := 83) (by decide +kernel), List.mem_of_getElem? (i := 516) (by decide +kernel), List.mem_of_getElem? (i := 517) (by decide +kernel)⟩
theorem lw_p6 : lw_okq (⟨"ThreeStrandMaps$Renamings", "isIsomorphism", "(LThreeStrandMaps$PairMap;LThreeStrandMaps$PairMap;)Z"⟩, 1) := ⟨⟨by decide +kernel, by decide +kernel⟩, List.mem_of_getElem? (i := 83) (by decide +kernel), List.mem_of_getElem? (i := 523) (by decide +kernel), List.mem_of_getElem? (i := 524) (by decide +kernel)⟩
theorem lw_p7 : lw_okq (⟨"ThreeStrandMaps$Renamings", "imageOf", "(I)I"⟩, 1) := ⟨⟨by decide +kernel, by decide +kernel⟩, List.mem_of_getElem? (i := 83) (by decide +kernel), List.mem_of_getElem? (i := 527) (by decide +kernel), List.mem_of_getElem? (i := 528) (by decide +kernel)⟩
theorem lw_p8 : lw_okq (⟨"ThreeStrandMaps$Renamings", "step", "(I)V"⟩, 1) := ⟨⟨by decide +kernel, by decide +kernel⟩, List.mem_of_getElem? (i := 83) (by decide +kernel), List.mem_of_getElem? (i := 534) (by decide +kernel), List.mem_of_getElem? (i := 535) (by decide +kernel)⟩
theorem lw_p9 : lw_okq (⟨"ThreeStrandMaps$Renamings", "swap", "(II)V"⟩, 1) := ⟨⟨by decide +kernel, by decide +kernel⟩, List.mem_of_getElem? (i := 83) (by decide +kernel), List.mem_of_getElem? (i := 538) (by decide +kernel), List.mem_of_getElem? (i := 539) (by decide +kernel)⟩
theorem lw_p10 : lw_okq (⟨"ThreeStrandMaps$Renamings", "renamedRows", "(LThreeStrandMaps$PairMap;)J"⟩, 1) := ⟨⟨by decide +kernel, by decide +kernel⟩, List.mem_of_getElem? (i := 83) (by decide +kernel), List.mem_of_getElem? (i := 572) (by decide +kernel), List.mem_of_getElem? (i := 573) (by decide +kernel)⟩
theorem lw_p11 : lw_okq (⟨"ThreeStrandMaps$Renamings", "code", "(I)I"⟩, 1) := ⟨⟨by decide +kernel, by decide +kernel⟩, List.mem_of_getElem? (i := 83) (by decide +kernel), List.mem_of_getElem? (i := 630) (by decide +kernel), List.mem_of_getElem? (i := 631) (by decide +kernel)⟩
theorem lw_p12 : lw_okq (⟨"ThreeStrandMaps$WordClasses", "join", "(II)V"⟩, 2) := ⟨⟨by decide +kernel, by decide +kernel⟩, List.mem_of_getElem? (i := 110) (by decide +kernel), List.mem_of_getElem? (i := 645) (by decide +kernel), List.mem_of_getElem? (i := 646) (by decide +kernel)⟩
theorem lw_p13 : lw_okq (⟨"ThreeStrandMaps$WordClasses", "smallerOf", "(I)I"⟩, 2) := ⟨⟨by decide +kernel, by decide +kernel⟩, List.mem_of_getElem? (i := 110) (by decide +kernel), List.mem_of_getElem? (i := 653) (by decide +kernel), List.mem_of_getElem? (i := 654) (by decide +kernel)⟩
theorem lw_p14 : lw_okq (⟨"ThreeStrandMaps", "braidAt", "(I)LThreeStrandMaps$Braid;"⟩, 10) := ⟨⟨by decide +kernel, by decide +kernel⟩, List.mem_of_getElem? (i := 18) (by decide +kernel), List.mem_of_getElem? (i := 687) (by decide +kernel), List.mem_of_getElem? (i := 688) (by decide +kernel)⟩
theorem lw_p15 : lw_okq (⟨"ThreeStrandMaps", "actionError", "(III)I"⟩, 10) := ⟨⟨by decide +kernel, by decide +kernel⟩, List.mem_of_getElem? (i := 18) (by decide +kernel), List.mem_of_getElem? (i := 760) (by decide +kernel), List.mem_of_getElem? (i := 761) (by decide +kernel)⟩
def lw_privs_1 : List (MethodName × Nat) := [(⟨"ThreeStrandMaps", "keepMade", "(I)I"⟩, 10), (⟨"ThreeStrandMaps", "mapAt", "(I)LThreeStrandMaps$PairMap;"⟩, 10), (⟨"ThreeStrandMaps$PairMap", "setShifted", "(LThreeStrandMaps$PairMap;I)V"⟩, 2), (⟨"ThreeStrandMaps$PairMap", "setBlock", "(LThreeStrandMaps$PairMap;LThreeStrandMaps$PairMap;II)V"⟩, 2), (⟨"ThreeStrandMaps$RowGroup", "add", "(I)V"⟩, 3), (⟨"ThreeStrandMaps$Renamings", "start", "()V"⟩, 1), (⟨"ThreeStrandMaps$Renamings", "isIsomorphism", "(LThreeStrandMaps$PairMap;LThreeStrandMaps$PairMap;)Z"⟩, 1), (⟨"ThreeStrandMaps$Renamings", "imageOf", "(I)I"⟩, 1), (⟨"ThreeStrandMaps$Renamings", "step", "(I)V"⟩, 1), (⟨"ThreeStrandMaps$Renamings", "swap", "(II)V"⟩, 1), (⟨"ThreeStrandMaps$Renamings", "renamedRows", "(LThreeStrandMaps$PairMap;)J"⟩, 1), (⟨"ThreeStrandMaps$Renamings", "code", "(I)I"⟩, 1), (⟨"ThreeStrandMaps$WordClasses", "join", "(II)V"⟩, 2), (⟨"ThreeStrandMaps$WordClasses", "smallerOf", "(I)I"⟩, 2), (⟨"ThreeStrandMaps", "braidAt", "(I)LThreeStrandMaps$Braid;"⟩, 10), (⟨"ThreeStrandMaps", "actionError", "(III)I"⟩, 10)]
theorem lw_r1 : ∀ q ∈ lw_privs_1, lw_okq q := List.forall_mem_cons.mpr ⟨lw_p0, List.forall_mem_cons.mpr ⟨lw_p1, List.forall_mem_cons.mpr ⟨lw_p2, List.forall_mem_cons.mpr ⟨lw_p3, List.forall_mem_cons.mpr ⟨lw_p4, List.forall_mem_cons.mpr ⟨lw_p5, List.forall_mem_cons.mpr ⟨lw_p6, List.forall_mem_cons.mpr ⟨lw_p7, List.forall_mem_cons.mpr ⟨lw_p8, List.forall_mem_cons.mpr ⟨lw_p9, List.forall_mem_cons.mpr ⟨lw_p10, List.forall_mem_cons.mpr ⟨lw_p11, List.forall_mem_cons.mpr ⟨lw_p12, List.forall_mem_cons.mpr ⟨lw_p13, List.forall_mem_cons.mpr ⟨lw_p14, List.forall_mem_cons.mpr ⟨lw_p15, fun _ h => absurd h List.not_mem_nil⟩⟩⟩⟩⟩⟩⟩⟩⟩⟩⟩⟩⟩⟩⟩⟩
theorem lw_p16 : lw_okq (⟨"ThreeStrandMaps$BraidAction", "tuples", "(I)I"⟩, 3) := ⟨⟨by decide +kernel, by decide +kernel⟩, List.mem_of_getElem? (i := 123) (by decide +kernel), List.mem_of_getElem? (i := 768) (by decide +kernel), List.mem_of_getElem? (i := 769) (by decide +kernel)⟩
theorem lw_p17 : lw_okq (⟨"ThreeStrandMaps$BraidAction", "isSeen", "(I)Z"⟩, 3) := ⟨⟨by decide +kernel, by decide +kernel⟩, List.mem_of_getElem? (i := 123) (by decide +kernel), List.mem_of_getElem? (i := 786) (by decide +kernel), List.mem_of_getElem? (i := 787) (by decide +kernel)⟩
theorem lw_p18 : lw_okq (⟨"ThreeStrandMaps$BraidAction", "cycleLength", "(LThreeStrandMaps$Braid;II)I"⟩, 3) := ⟨⟨by decide +kernel, by decide +kernel⟩, List.mem_of_getElem? (i := 123) (by decide +kernel), List.mem_of_getElem? (i := 790) (by decide +kernel), List.mem_of_getElem? (i := 791) (by decide +kernel)⟩
theorem lw_p19 : lw_okq (⟨"ThreeStrandMaps$BraidAction", "see", "(I)V"⟩, 3) := ⟨⟨by decide +kernel, by decide +kernel⟩, List.mem_of_getElem? (i := 123) (by decide +kernel), List.mem_of_getElem? (i := 794) (by decide +kernel), List.mem_of_getElem? (i := 795) (by decide +kernel)⟩
theorem lw_p20 : lw_okq (⟨"ThreeStrandMaps", "mapsHeld", "()I"⟩, 10) := ⟨⟨by decide +kernel, by decide +kernel⟩, List.mem_of_getElem? (i := 18) (by decide +kernel), List.mem_of_getElem? (i := 833) (by decide +kernel), List.mem_of_getElem? (i := 834) (by decide +kernel)⟩
theorem lw_p21 : lw_okq (⟨"ThreeStrandMaps", "pointsHeld", "()I"⟩, 10) := ⟨⟨by decide +kernel, by decide +kernel⟩, List.mem_of_getElem? (i := 18) (by decide +kernel), List.mem_of_getElem? (i := 837) (by decide +kernel), List.mem_of_getElem? (i := 838) (by decide +kernel)⟩
theorem lw_p22 : lw_okq (⟨"ThreeStrandMapsModel", "lay", "(IIIII)V"⟩, 18) := ⟨⟨by decide +kernel, by decide +kernel⟩, List.mem_of_getElem? (i := 841) (by decide +kernel), List.mem_of_getElem? (i := 916) (by decide +kernel), List.mem_of_getElem? (i := 917) (by decide +kernel)⟩
theorem lw_p23 : lw_okq (⟨"ThreeStrandMapsModel", "comes", "(I)I"⟩, 18) := ⟨⟨by decide +kernel, by decide +kernel⟩, List.mem_of_getElem? (i := 841) (by decide +kernel), List.mem_of_getElem? (i := 920) (by decide +kernel), List.mem_of_getElem? (i := 921) (by decide +kernel)⟩
theorem lw_p24 : lw_okq (⟨"ThreeStrandMapsModel", "copies", "(II)V"⟩, 18) := ⟨⟨by decide +kernel, by decide +kernel⟩, List.mem_of_getElem? (i := 841) (by decide +kernel), List.mem_of_getElem? (i := 924) (by decide +kernel), List.mem_of_getElem? (i := 925) (by decide +kernel)⟩
theorem lw_p25 : lw_okq (⟨"ThreeStrandMapsModel", "isMap", "(I)Z"⟩, 18) := ⟨⟨by decide +kernel, by decide +kernel⟩, List.mem_of_getElem? (i := 841) (by decide +kernel), List.mem_of_getElem? (i := 977) (by decide +kernel), List.mem_of_getElem? (i := 978) (by decide +kernel)⟩
theorem lw_p26 : lw_okq (⟨"ThreeStrandMapsModel", "isPoint", "(II)Z"⟩, 18) := ⟨⟨by decide +kernel, by decide +kernel⟩, List.mem_of_getElem? (i := 841) (by decide +kernel), List.mem_of_getElem? (i := 981) (by decide +kernel), List.mem_of_getElem? (i := 982) (by decide +kernel)⟩
theorem lw_p27 : lw_okq (⟨"ThreeStrandMapsModel", "l", "(III)I"⟩, 18) := ⟨⟨by decide +kernel, by decide +kernel⟩, List.mem_of_getElem? (i := 841) (by decide +kernel), List.mem_of_getElem? (i := 985) (by decide +kernel), List.mem_of_getElem? (i := 986) (by decide +kernel)⟩
theorem lw_p28 : lw_okq (⟨"ThreeStrandMapsModel", "r", "(III)I"⟩, 18) := ⟨⟨by decide +kernel, by decide +kernel⟩, List.mem_of_getElem? (i := 841) (by decide +kernel), List.mem_of_getElem? (i := 989) (by decide +kernel), List.mem_of_getElem? (i := 990) (by decide +kernel)⟩
theorem lw_p29 : lw_okq (⟨"ThreeStrandMapsModel", "makeRetract", "(I)V"⟩, 18) := ⟨⟨by decide +kernel, by decide +kernel⟩, List.mem_of_getElem? (i := 841) (by decide +kernel), List.mem_of_getElem? (i := 997) (by decide +kernel), List.mem_of_getElem? (i := 998) (by decide +kernel)⟩
theorem lw_p30 : lw_okq (⟨"ThreeStrandMapsModel", "layClasses", "(I)I"⟩, 18) := ⟨⟨by decide +kernel, by decide +kernel⟩, List.mem_of_getElem? (i := 841) (by decide +kernel), List.mem_of_getElem? (i := 1001) (by decide +kernel), List.mem_of_getElem? (i := 1002) (by decide +kernel)⟩
theorem lw_p31 : lw_okq (⟨"ThreeStrandMapsModel", "areAlike", "(III)Z"⟩, 18) := ⟨⟨by decide +kernel, by decide +kernel⟩, List.mem_of_getElem? (i := 841) (by decide +kernel), List.mem_of_getElem? (i := 1005) (by decide +kernel), List.mem_of_getElem? (i := 1006) (by decide +kernel)⟩
def lw_privs_2 : List (MethodName × Nat) := [(⟨"ThreeStrandMaps$BraidAction", "tuples", "(I)I"⟩, 3), (⟨"ThreeStrandMaps$BraidAction", "isSeen", "(I)Z"⟩, 3), (⟨"ThreeStrandMaps$BraidAction", "cycleLength", "(LThreeStrandMaps$Braid;II)I"⟩, 3), (⟨"ThreeStrandMaps$BraidAction", "see", "(I)V"⟩, 3), (⟨"ThreeStrandMaps", "mapsHeld", "()I"⟩, 10), (⟨"ThreeStrandMaps", "pointsHeld", "()I"⟩, 10), (⟨"ThreeStrandMapsModel", "lay", "(IIIII)V"⟩, 18), (⟨"ThreeStrandMapsModel", "comes", "(I)I"⟩, 18), (⟨"ThreeStrandMapsModel", "copies", "(II)V"⟩, 18), (⟨"ThreeStrandMapsModel", "isMap", "(I)Z"⟩, 18), (⟨"ThreeStrandMapsModel", "isPoint", "(II)Z"⟩, 18), (⟨"ThreeStrandMapsModel", "l", "(III)I"⟩, 18), (⟨"ThreeStrandMapsModel", "r", "(III)I"⟩, 18), (⟨"ThreeStrandMapsModel", "makeRetract", "(I)V"⟩, 18), (⟨"ThreeStrandMapsModel", "layClasses", "(I)I"⟩, 18), (⟨"ThreeStrandMapsModel", "areAlike", "(III)Z"⟩, 18)]
theorem lw_r2 : ∀ q ∈ lw_privs_2, lw_okq q := List.forall_mem_cons.mpr ⟨lw_p16, List.forall_mem_cons.mpr ⟨lw_p17, List.forall_mem_cons.mpr ⟨lw_p18, List.forall_mem_cons.mpr ⟨lw_p19, List.forall_mem_cons.mpr ⟨lw_p20, List.forall_mem_cons.mpr ⟨lw_p21, List.forall_mem_cons.mpr ⟨lw_p22, List.forall_mem_cons.mpr ⟨lw_p23, List.forall_mem_cons.mpr ⟨lw_p24, List.forall_mem_cons.mpr ⟨lw_p25, List.forall_mem_cons.mpr ⟨lw_p26, List.forall_mem_cons.mpr ⟨lw_p27, List.forall_mem_cons.mpr ⟨lw_p28, List.forall_mem_cons.mpr ⟨lw_p29, List.forall_mem_cons.mpr ⟨lw_p30, List.forall_mem_cons.mpr ⟨lw_p31, fun _ h => absurd h List.not_mem_nil⟩⟩⟩⟩⟩⟩⟩⟩⟩⟩⟩⟩⟩⟩⟩⟩
theorem lw_p32 : lw_okq (⟨"ThreeStrandMapsModel", "isBijective", "(I)Z"⟩, 18) := ⟨⟨by decide +kernel, by decide +kernel⟩, List.mem_of_getElem? (i := 841) (by decide +kernel), List.mem_of_getElem? (i := 1022) (by decide +kernel), List.mem_of_getElem? (i := 1023) (by decide +kernel)⟩
theorem lw_p33 : lw_okq (⟨"ThreeStrandMapsModel", "manyFail", "(I)I"⟩, 18) := ⟨⟨by decide +kernel, by decide +kernel⟩, List.mem_of_getElem? (i := 841) (by decide +kernel), List.mem_of_getElem? (i := 1046) (by decide +kernel), List.mem_of_getElem? (i := 1047) (by decide +kernel)⟩
theorem lw_p34 : lw_okq (⟨"ThreeStrandMapsModel", "failsAt", "(II)Z"⟩, 18) := ⟨⟨by decide +kernel, by decide +kernel⟩, List.mem_of_getElem? (i := 841) (by decide +kernel), List.mem_of_getElem? (i := 1050) (by decide +kernel), List.mem_of_getElem? (i := 1051) (by decide +kernel)⟩
theorem lw_p35 : lw_okq (⟨"ThreeStrandMapsModel", "threeBy", "(III)I"⟩, 18) := ⟨⟨by decide +kernel, by decide +kernel⟩, List.mem_of_getElem? (i := 841) (by decide +kernel), List.mem_of_getElem? (i := 1054) (by decide +kernel), List.mem_of_getElem? (i := 1055) (by decide +kernel)⟩
theorem lw_p36 : lw_okq (⟨"ThreeStrandMapsModel", "crosses", "(II)V"⟩, 18) := ⟨⟨by decide +kernel, by decide +kernel⟩, List.mem_of_getElem? (i := 841) (by decide +kernel), List.mem_of_getElem? (i := 1058) (by decide +kernel), List.mem_of_getElem? (i := 1059) (by decide +kernel)⟩
theorem lw_p37 : lw_okq (⟨"ThreeStrandMapsModel", "comesBack", "(I)Z"⟩, 18) := ⟨⟨by decide +kernel, by decide +kernel⟩, List.mem_of_getElem? (i := 841) (by decide +kernel), List.mem_of_getElem? (i := 1065) (by decide +kernel), List.mem_of_getElem? (i := 1066) (by decide +kernel)⟩
theorem lw_p38 : lw_okq (⟨"ThreeStrandMapsModel", "isPlain", "(IZ)Z"⟩, 18) := ⟨⟨by decide +kernel, by decide +kernel⟩, List.mem_of_getElem? (i := 841) (by decide +kernel), List.mem_of_getElem? (i := 1069) (by decide +kernel), List.mem_of_getElem? (i := 1070) (by decide +kernel)⟩
theorem lw_p39 : lw_okq (⟨"ThreeStrandMapsModel", "doSquaresStay", "(I)Z"⟩, 18) := ⟨⟨by decide +kernel, by decide +kernel⟩, List.mem_of_getElem? (i := 841) (by decide +kernel), List.mem_of_getElem? (i := 1073) (by decide +kernel), List.mem_of_getElem? (i := 1074) (by decide +kernel)⟩
theorem lw_p40 : lw_okq (⟨"ThreeStrandMapsModel", "wholeLater", "(II)I"⟩, 18) := ⟨⟨by decide +kernel, by decide +kernel⟩, List.mem_of_getElem? (i := 841) (by decide +kernel), List.mem_of_getElem? (i := 1077) (by decide +kernel), List.mem_of_getElem? (i := 1078) (by decide +kernel)⟩
theorem lw_p41 : lw_okq (⟨"ThreeStrandMapsModel", "manyOrbits", "(I)I"⟩, 18) := ⟨⟨by decide +kernel, by decide +kernel⟩, List.mem_of_getElem? (i := 841) (by decide +kernel), List.mem_of_getElem? (i := 1081) (by decide +kernel), List.mem_of_getElem? (i := 1082) (by decide +kernel)⟩
theorem lw_p42 : lw_okq (⟨"ThreeStrandMapsModel", "orbitOf", "(II)I"⟩, 18) := ⟨⟨by decide +kernel, by decide +kernel⟩, List.mem_of_getElem? (i := 841) (by decide +kernel), List.mem_of_getElem? (i := 1085) (by decide +kernel), List.mem_of_getElem? (i := 1086) (by decide +kernel)⟩
theorem lw_p43 : lw_okq (⟨"ThreeStrandMapsModel", "level", "(I)I"⟩, 18) := ⟨⟨by decide +kernel, by decide +kernel⟩, List.mem_of_getElem? (i := 841) (by decide +kernel), List.mem_of_getElem? (i := 1089) (by decide +kernel), List.mem_of_getElem? (i := 1090) (by decide +kernel)⟩
theorem lw_p44 : lw_okq (⟨"ThreeStrandMapsModel", "groupSize", "(I)I"⟩, 18) := ⟨⟨by decide +kernel, by decide +kernel⟩, List.mem_of_getElem? (i := 841) (by decide +kernel), List.mem_of_getElem? (i := 1093) (by decide +kernel), List.mem_of_getElem? (i := 1094) (by decide +kernel)⟩
theorem lw_p45 : lw_okq (⟨"ThreeStrandMapsModel", "firstName", "(I)V"⟩, 18) := ⟨⟨by decide +kernel, by decide +kernel⟩, List.mem_of_getElem? (i := 841) (by decide +kernel), List.mem_of_getElem? (i := 1097) (by decide +kernel), List.mem_of_getElem? (i := 1098) (by decide +kernel)⟩
theorem lw_p46 : lw_okq (⟨"ThreeStrandMapsModel", "nameCode", "(I)I"⟩, 18) := ⟨⟨by decide +kernel, by decide +kernel⟩, List.mem_of_getElem? (i := 841) (by decide +kernel), List.mem_of_getElem? (i := 1101) (by decide +kernel), List.mem_of_getElem? (i := 1102) (by decide +kernel)⟩
theorem lw_p47 : lw_okq (⟨"ThreeStrandMapsModel", "behind", "(III)I"⟩, 18) := ⟨⟨by decide +kernel, by decide +kernel⟩, List.mem_of_getElem? (i := 841) (by decide +kernel), List.mem_of_getElem? (i := 1108) (by decide +kernel), List.mem_of_getElem? (i := 1109) (by decide +kernel)⟩
def lw_privs_3 : List (MethodName × Nat) := [(⟨"ThreeStrandMapsModel", "isBijective", "(I)Z"⟩, 18), (⟨"ThreeStrandMapsModel", "manyFail", "(I)I"⟩, 18), (⟨"ThreeStrandMapsModel", "failsAt", "(II)Z"⟩, 18), (⟨"ThreeStrandMapsModel", "threeBy", "(III)I"⟩, 18), (⟨"ThreeStrandMapsModel", "crosses", "(II)V"⟩, 18), (⟨"ThreeStrandMapsModel", "comesBack", "(I)Z"⟩, 18), (⟨"ThreeStrandMapsModel", "isPlain", "(IZ)Z"⟩, 18), (⟨"ThreeStrandMapsModel", "doSquaresStay", "(I)Z"⟩, 18), (⟨"ThreeStrandMapsModel", "wholeLater", "(II)I"⟩, 18), (⟨"ThreeStrandMapsModel", "manyOrbits", "(I)I"⟩, 18), (⟨"ThreeStrandMapsModel", "orbitOf", "(II)I"⟩, 18), (⟨"ThreeStrandMapsModel", "level", "(I)I"⟩, 18), (⟨"ThreeStrandMapsModel", "groupSize", "(I)I"⟩, 18), (⟨"ThreeStrandMapsModel", "firstName", "(I)V"⟩, 18), (⟨"ThreeStrandMapsModel", "nameCode", "(I)I"⟩, 18), (⟨"ThreeStrandMapsModel", "behind", "(III)I"⟩, 18)]
theorem lw_r3 : ∀ q ∈ lw_privs_3, lw_okq q := List.forall_mem_cons.mpr ⟨lw_p32, List.forall_mem_cons.mpr ⟨lw_p33, List.forall_mem_cons.mpr ⟨lw_p34, List.forall_mem_cons.mpr ⟨lw_p35, List.forall_mem_cons.mpr ⟨lw_p36, List.forall_mem_cons.mpr ⟨lw_p37, List.forall_mem_cons.mpr ⟨lw_p38, List.forall_mem_cons.mpr ⟨lw_p39, List.forall_mem_cons.mpr ⟨lw_p40, List.forall_mem_cons.mpr ⟨lw_p41, List.forall_mem_cons.mpr ⟨lw_p42, List.forall_mem_cons.mpr ⟨lw_p43, List.forall_mem_cons.mpr ⟨lw_p44, List.forall_mem_cons.mpr ⟨lw_p45, List.forall_mem_cons.mpr ⟨lw_p46, List.forall_mem_cons.mpr ⟨lw_p47, fun _ h => absurd h List.not_mem_nil⟩⟩⟩⟩⟩⟩⟩⟩⟩⟩⟩⟩⟩⟩⟩⟩
theorem lw_p48 : lw_okq (⟨"ThreeStrandMapsModel", "likenesses", "(III)I"⟩, 18) := ⟨⟨by decide +kernel, by decide +kernel⟩, List.mem_of_getElem? (i := 841) (by decide +kernel), List.mem_of_getElem? (i := 1112) (by decide +kernel), List.mem_of_getElem? (i := 1113) (by decide +kernel)⟩
theorem lw_p49 : lw_okq (⟨"ThreeStrandMapsModel", "isLike", "(II)Z"⟩, 18) := ⟨⟨by decide +kernel, by decide +kernel⟩, List.mem_of_getElem? (i := 841) (by decide +kernel), List.mem_of_getElem? (i := 1116) (by decide +kernel), List.mem_of_getElem? (i := 1117) (by decide +kernel)⟩
theorem lw_p50 : lw_okq (⟨"ThreeStrandMapsModel", "nextName", "(I)Z"⟩, 18) := ⟨⟨by decide +kernel, by decide +kernel⟩, List.mem_of_getElem? (i := 841) (by decide +kernel), List.mem_of_getElem? (i := 1120) (by decide +kernel), List.mem_of_getElem? (i := 1121) (by decide +kernel)⟩
theorem lw_p51 : lw_okq (⟨"ThreeStrandMapsModel", "order", "(I)I"⟩, 18) := ⟨⟨by decide +kernel, by decide +kernel⟩, List.mem_of_getElem? (i := 841) (by decide +kernel), List.mem_of_getElem? (i := 1124) (by decide +kernel), List.mem_of_getElem? (i := 1125) (by decide +kernel)⟩
theorem lw_p52 : lw_okq (⟨"ThreeStrandMapsModel", "manyClosed", "(I)I"⟩, 18) := ⟨⟨by decide +kernel, by decide +kernel⟩, List.mem_of_getElem? (i := 841) (by decide +kernel), List.mem_of_getElem? (i := 1131) (by decide +kernel), List.mem_of_getElem? (i := 1132) (by decide +kernel)⟩
theorem lw_p53 : lw_okq (⟨"ThreeStrandMapsModel", "isClosed", "(II)Z"⟩, 18) := ⟨⟨by decide +kernel, by decide +kernel⟩, List.mem_of_getElem? (i := 841) (by decide +kernel), List.mem_of_getElem? (i := 1135) (by decide +kernel), List.mem_of_getElem? (i := 1136) (by decide +kernel)⟩
theorem lw_p54 : lw_okq (⟨"ThreeStrandMapsModel", "listedAs", "(I)I"⟩, 18) := ⟨⟨by decide +kernel, by decide +kernel⟩, List.mem_of_getElem? (i := 841) (by decide +kernel), List.mem_of_getElem? (i := 1139) (by decide +kernel), List.mem_of_getElem? (i := 1140) (by decide +kernel)⟩
theorem lw_p55 : lw_okq (⟨"ThreeStrandMapsModel", "layList", "(I)I"⟩, 18) := ⟨⟨by decide +kernel, by decide +kernel⟩, List.mem_of_getElem? (i := 841) (by decide +kernel), List.mem_of_getElem? (i := 1143) (by decide +kernel), List.mem_of_getElem? (i := 1144) (by decide +kernel)⟩
theorem lw_p56 : lw_okq (⟨"ThreeStrandMapsModel", "layRows", "(I)I"⟩, 18) := ⟨⟨by decide +kernel, by decide +kernel⟩, List.mem_of_getElem? (i := 841) (by decide +kernel), List.mem_of_getElem? (i := 1147) (by decide +kernel), List.mem_of_getElem? (i := 1148) (by decide +kernel)⟩
theorem lw_p57 : lw_okq (⟨"ThreeStrandMapsModel", "layNumber", "(III)V"⟩, 18) := ⟨⟨by decide +kernel, by decide +kernel⟩, List.mem_of_getElem? (i := 841) (by decide +kernel), List.mem_of_getElem? (i := 1154) (by decide +kernel), List.mem_of_getElem? (i := 1155) (by decide +kernel)⟩
theorem lw_p58 : lw_okq (⟨"ThreeStrandMapsModel", "firstBad", "()I"⟩, 18) := ⟨⟨by decide +kernel, by decide +kernel⟩, List.mem_of_getElem? (i := 841) (by decide +kernel), List.mem_of_getElem? (i := 1158) (by decide +kernel), List.mem_of_getElem? (i := 1159) (by decide +kernel)⟩
theorem lw_p59 : lw_okq (⟨"ThreeStrandMapsModel", "failsWithin", "(III)Z"⟩, 18) := ⟨⟨by decide +kernel, by decide +kernel⟩, List.mem_of_getElem? (i := 841) (by decide +kernel), List.mem_of_getElem? (i := 1162) (by decide +kernel), List.mem_of_getElem? (i := 1163) (by decide +kernel)⟩
theorem lw_p60 : lw_okq (⟨"ThreeStrandMapsModel", "layRight", "()V"⟩, 18) := ⟨⟨by decide +kernel, by decide +kernel⟩, List.mem_of_getElem? (i := 841) (by decide +kernel), List.mem_of_getElem? (i := 1166) (by decide +kernel), List.mem_of_getElem? (i := 1167) (by decide +kernel)⟩
theorem lw_p61 : lw_okq (⟨"ThreeStrandMapsModel", "comesBackHere", "()Z"⟩, 18) := ⟨⟨by decide +kernel, by decide +kernel⟩, List.mem_of_getElem? (i := 841) (by decide +kernel), List.mem_of_getElem? (i := 1170) (by decide +kernel), List.mem_of_getElem? (i := 1171) (by decide +kernel)⟩
theorem lw_p62 : lw_okq (⟨"ThreeStrandMapsModel", "isFirst", "()Z"⟩, 18) := ⟨⟨by decide +kernel, by decide +kernel⟩, List.mem_of_getElem? (i := 841) (by decide +kernel), List.mem_of_getElem? (i := 1174) (by decide +kernel), List.mem_of_getElem? (i := 1175) (by decide +kernel)⟩
theorem lw_p63 : lw_okq (⟨"ThreeStrandMapsModel", "namedAs", "(II)I"⟩, 18) := ⟨⟨by decide +kernel, by decide +kernel⟩, List.mem_of_getElem? (i := 841) (by decide +kernel), List.mem_of_getElem? (i := 1178) (by decide +kernel), List.mem_of_getElem? (i := 1179) (by decide +kernel)⟩
def lw_privs_4 : List (MethodName × Nat) := [(⟨"ThreeStrandMapsModel", "likenesses", "(III)I"⟩, 18), (⟨"ThreeStrandMapsModel", "isLike", "(II)Z"⟩, 18), (⟨"ThreeStrandMapsModel", "nextName", "(I)Z"⟩, 18), (⟨"ThreeStrandMapsModel", "order", "(I)I"⟩, 18), (⟨"ThreeStrandMapsModel", "manyClosed", "(I)I"⟩, 18), (⟨"ThreeStrandMapsModel", "isClosed", "(II)Z"⟩, 18), (⟨"ThreeStrandMapsModel", "listedAs", "(I)I"⟩, 18), (⟨"ThreeStrandMapsModel", "layList", "(I)I"⟩, 18), (⟨"ThreeStrandMapsModel", "layRows", "(I)I"⟩, 18), (⟨"ThreeStrandMapsModel", "layNumber", "(III)V"⟩, 18), (⟨"ThreeStrandMapsModel", "firstBad", "()I"⟩, 18), (⟨"ThreeStrandMapsModel", "failsWithin", "(III)Z"⟩, 18), (⟨"ThreeStrandMapsModel", "layRight", "()V"⟩, 18), (⟨"ThreeStrandMapsModel", "comesBackHere", "()Z"⟩, 18), (⟨"ThreeStrandMapsModel", "isFirst", "()Z"⟩, 18), (⟨"ThreeStrandMapsModel", "namedAs", "(II)I"⟩, 18)]
theorem lw_r4 : ∀ q ∈ lw_privs_4, lw_okq q := List.forall_mem_cons.mpr ⟨lw_p48, List.forall_mem_cons.mpr ⟨lw_p49, List.forall_mem_cons.mpr ⟨lw_p50, List.forall_mem_cons.mpr ⟨lw_p51, List.forall_mem_cons.mpr ⟨lw_p52, List.forall_mem_cons.mpr ⟨lw_p53, List.forall_mem_cons.mpr ⟨lw_p54, List.forall_mem_cons.mpr ⟨lw_p55, List.forall_mem_cons.mpr ⟨lw_p56, List.forall_mem_cons.mpr ⟨lw_p57, List.forall_mem_cons.mpr ⟨lw_p58, List.forall_mem_cons.mpr ⟨lw_p59, List.forall_mem_cons.mpr ⟨lw_p60, List.forall_mem_cons.mpr ⟨lw_p61, List.forall_mem_cons.mpr ⟨lw_p62, List.forall_mem_cons.mpr ⟨lw_p63, fun _ h => absurd h List.not_mem_nil⟩⟩⟩⟩⟩⟩⟩⟩⟩⟩⟩⟩⟩⟩⟩⟩
theorem lw_p64 : lw_okq (⟨"ThreeStrandMapsModel", "layListed", "(II)V"⟩, 18) := ⟨⟨by decide +kernel, by decide +kernel⟩, List.mem_of_getElem? (i := 841) (by decide +kernel), List.mem_of_getElem? (i := 1182) (by decide +kernel), List.mem_of_getElem? (i := 1183) (by decide +kernel)⟩
theorem lw_p65 : lw_okq (⟨"ThreeStrandMapsModel", "layWords", "(II)V"⟩, 18) := ⟨⟨by decide +kernel, by decide +kernel⟩, List.mem_of_getElem? (i := 841) (by decide +kernel), List.mem_of_getElem? (i := 1216) (by decide +kernel), List.mem_of_getElem? (i := 1217) (by decide +kernel)⟩
theorem lw_p66 : lw_okq (⟨"ThreeStrandMapsModel", "layTuple", "(III)V"⟩, 18) := ⟨⟨by decide +kernel, by decide +kernel⟩, List.mem_of_getElem? (i := 841) (by decide +kernel), List.mem_of_getElem? (i := 1220) (by decide +kernel), List.mem_of_getElem? (i := 1221) (by decide +kernel)⟩
theorem lw_p67 : lw_okq (⟨"ThreeStrandMapsModel", "tupleNumber", "(II)I"⟩, 18) := ⟨⟨by decide +kernel, by decide +kernel⟩, List.mem_of_getElem? (i := 841) (by decide +kernel), List.mem_of_getElem? (i := 1224) (by decide +kernel), List.mem_of_getElem? (i := 1225) (by decide +kernel)⟩
theorem lw_p68 : lw_okq (⟨"ThreeStrandMapsModel", "layCode", "(II)V"⟩, 18) := ⟨⟨by decide +kernel, by decide +kernel⟩, List.mem_of_getElem? (i := 841) (by decide +kernel), List.mem_of_getElem? (i := 1232) (by decide +kernel), List.mem_of_getElem? (i := 1233) (by decide +kernel)⟩
theorem lw_p69 : lw_okq (⟨"ThreeStrandMapsModel", "tupleCode", "(I)I"⟩, 18) := ⟨⟨by decide +kernel, by decide +kernel⟩, List.mem_of_getElem? (i := 841) (by decide +kernel), List.mem_of_getElem? (i := 1236) (by decide +kernel), List.mem_of_getElem? (i := 1237) (by decide +kernel)⟩
theorem lw_p70 : lw_okq (⟨"ThreeStrandMapsModel", "refuses", "(III)I"⟩, 18) := ⟨⟨by decide +kernel, by decide +kernel⟩, List.mem_of_getElem? (i := 841) (by decide +kernel), List.mem_of_getElem? (i := 1259) (by decide +kernel), List.mem_of_getElem? (i := 1260) (by decide +kernel)⟩
theorem lw_p71 : lw_okq (⟨"ThreeStrandMapsModel", "doesFit", "(III)Z"⟩, 18) := ⟨⟨by decide +kernel, by decide +kernel⟩, List.mem_of_getElem? (i := 841) (by decide +kernel), List.mem_of_getElem? (i := 1263) (by decide +kernel), List.mem_of_getElem? (i := 1264) (by decide +kernel)⟩
theorem lw_p72 : lw_okq (⟨"ThreeStrandMapsModel", "goesThrough", "(II)V"⟩, 18) := ⟨⟨by decide +kernel, by decide +kernel⟩, List.mem_of_getElem? (i := 841) (by decide +kernel), List.mem_of_getElem? (i := 1267) (by decide +kernel), List.mem_of_getElem? (i := 1268) (by decide +kernel)⟩
theorem lw_p73 : lw_okq (⟨"ThreeStrandMapsModel", "goesBack", "(II)V"⟩, 18) := ⟨⟨by decide +kernel, by decide +kernel⟩, List.mem_of_getElem? (i := 841) (by decide +kernel), List.mem_of_getElem? (i := 1271) (by decide +kernel), List.mem_of_getElem? (i := 1272) (by decide +kernel)⟩
theorem lw_p74 : lw_okq (⟨"ThreeStrandMapsModel", "laySteps", "(III)V"⟩, 18) := ⟨⟨by decide +kernel, by decide +kernel⟩, List.mem_of_getElem? (i := 841) (by decide +kernel), List.mem_of_getElem? (i := 1279) (by decide +kernel), List.mem_of_getElem? (i := 1280) (by decide +kernel)⟩
def lw_privs_5 : List (MethodName × Nat) := [(⟨"ThreeStrandMapsModel", "layListed", "(II)V"⟩, 18), (⟨"ThreeStrandMapsModel", "layWords", "(II)V"⟩, 18), (⟨"ThreeStrandMapsModel", "layTuple", "(III)V"⟩, 18), (⟨"ThreeStrandMapsModel", "tupleNumber", "(II)I"⟩, 18), (⟨"ThreeStrandMapsModel", "layCode", "(II)V"⟩, 18), (⟨"ThreeStrandMapsModel", "tupleCode", "(I)I"⟩, 18), (⟨"ThreeStrandMapsModel", "refuses", "(III)I"⟩, 18), (⟨"ThreeStrandMapsModel", "doesFit", "(III)Z"⟩, 18), (⟨"ThreeStrandMapsModel", "goesThrough", "(II)V"⟩, 18), (⟨"ThreeStrandMapsModel", "goesBack", "(II)V"⟩, 18), (⟨"ThreeStrandMapsModel", "laySteps", "(III)V"⟩, 18)]
theorem lw_r5 : ∀ q ∈ lw_privs_5, lw_okq q := List.forall_mem_cons.mpr ⟨lw_p64, List.forall_mem_cons.mpr ⟨lw_p65, List.forall_mem_cons.mpr ⟨lw_p66, List.forall_mem_cons.mpr ⟨lw_p67, List.forall_mem_cons.mpr ⟨lw_p68, List.forall_mem_cons.mpr ⟨lw_p69, List.forall_mem_cons.mpr ⟨lw_p70, List.forall_mem_cons.mpr ⟨lw_p71, List.forall_mem_cons.mpr ⟨lw_p72, List.forall_mem_cons.mpr ⟨lw_p73, List.forall_mem_cons.mpr ⟨lw_p74, fun _ h => absurd h List.not_mem_nil⟩⟩⟩⟩⟩⟩⟩⟩⟩⟩⟩
def lw_privs : List (MethodName × Nat) := lw_privs_1 ++ (lw_privs_2 ++ (lw_privs_3 ++ (lw_privs_4 ++ (lw_privs_5))))
def lw_tbl : List Cond := k2_sels lw_privs ++ tables_1
theorem lw_privs_ok : ∀ q ∈ lw_privs, lw_okq q := by
  show ∀ q ∈ lw_privs_1 ++ (lw_privs_2 ++ (lw_privs_3 ++ (lw_privs_4 ++ (lw_privs_5)))), lw_okq q
  exact List.forall_mem_append.mpr ⟨lw_r1, List.forall_mem_append.mpr ⟨lw_r2, List.forall_mem_append.mpr ⟨lw_r3, List.forall_mem_append.mpr ⟨lw_r4, lw_r5⟩⟩⟩⟩
/-! THE CLAIM OUT OF ONE WALK OF THE LAW'S BODY. Your part is whole_start (and what it stands on); all else here is the same for every law, but numbers. -/
def R_law : String := "ThreeStrandMapsLaw"
def lw_P (b : Addr) (xs : List Int32) (args : Array Value) (s : State) : Prop := args = #[.ref b] ∧ s.IntsAt b xs ∧ xs.length ≤ 3072 ∧ (Jvm.Cond.and given_1 narrow_1).before args s = true
def lw_Q (_ : Array Value) (s : State) (o : Outcome) (t : State) : Prop := o = .returned (some (.int 1)) ∧ Framed s o t [] 600000 7302249
def lw_Z (below : List Frame) (a : Array Value) (s : State) : State → Prop := fun t => ∃ o, t.status = .running ∧ Ended t below o ∧ lw_Q a s o t
/-- the law's own end, with 1 on the stack, nothing written that was there before, its room as the claim has it -/
theorem lw_ret {p : Program} {l : Launch} {e : Env} {s : State} {m : MethodId} {below : List Frame} {meth : Method} {c : Code} {b : Nat} (hx : p.tables.exec = Jvm.exec) (hb : c.code = code) (hr : meth.sig.returnType = ret) (hlocks : meth.locks = false) {pc : Nat} {H : Heap} {ls : Array Slot} (hdg : decode code pc = .ok (.ireturn, 1)) : W p l e room_1 s m #[Value.ref b] below meth c H [] 600000 7302249 (lw_Z below #[Value.ref b] s) (F0 m pc ls [.int 1]) := by
  intro T hT X
  obtain ⟨fs, hret, hrun, hended, hW, hframe⟩ := X.leave (v := some (.int 1)) (hlocks := hlocks) (fun h => by rw [hr] at h; cases h)
  have hmeth' : T.vm.method? m = some meth := X.method'
  refine ⟨T.setFrames fs, ?_, .returned (some (.int 1)), hrun, hended, rfl, ⟨_, rfl⟩, hW, hframe⟩
  jvm_step X.here [X.here.top, hx, hb, hdg, hmeth', hr, ret, narrow_b1]
  (try refine ⟨rfl, ?_⟩); (try refine ⟨rfl, ?_⟩)
  first | (intro acts; rw [hret _ acts rfl rfl rfl]) | rw [hret _ _ rfl rfl rfl]
  exact Steps.refl _
/-- what holds at the law's entry: the machine, the code, the tables' words (any of lw_tbl by 'hts w (by decide +kernel)'), the script of L ints xs at the cell b, what the Statement gives of the start (any of its parts by flat_of_before) -/
def lw_At (p : Program) (s : State) (m : MethodId) (meth : Method) (c : Code) (b L : Nat) (xs : Nat → Int32) : Prop :=
  p.tables.exec = Jvm.exec ∧ c.code = code ∧ meth.sig.returnType = ret ∧ c.maxLocals = 4 ∧ s.vm.findClass R_law = some m.cls ∧ (∀ w ∈ lw_tbl, w.before #[Value.ref b] s = true) ∧ va_X b L xs s s.heap ∧ b < s.heap.size ∧ meth.locks = false ∧ (Jvm.Cond.and given_1 narrow_1).before #[Value.ref b] s = true
end
section
/-! values, memory, places: the cells of the whole world by kind and number -/
abbrev ZV : Type := Int32 ⊕ (Int64 ⊕ (Nat × Nat))
abbrev zi (x : Int32) : ZV := Sum.inl x
abbrev zl (x : Int64) : ZV := Sum.inr (Sum.inl x)
abbrev zr (k i : Nat) : ZV := Sum.inr (Sum.inr (k, i))
abbrev ZM : Type := (Nat → Nat → Nat → Int32) × (Nat → Nat → Nat → Int64)
abbrev ZL : Type := List (Nat × ZV)
abbrev ZG : Type := Launch × ((Nat → Nat → Nat) × (va_G × ((Nat → ClassId) × ((Nat → Prop) × (Nat × (Nat → Int32))))))
def gl (G : ZG) : Launch := G.1
def ga (G : ZG) : Nat → Nat → Nat := G.2.1
def gD (G : ZG) : va_G := G.2.2.1
def gc (G : ZG) : Nat → ClassId := G.2.2.2.1
def gA (G : ZG) : Nat → Prop := G.2.2.2.2.1
def gN (G : ZG) : Nat := G.2.2.2.2.2.1
def gX (G : ZG) : Nat → Int32 := G.2.2.2.2.2.2
def zc (G : ZG) (v : ZV) : Value := match v with
  | .inl x => .int x
  | .inr (.inl x) => .long x
  | .inr (.inr q) => .ref (ga G q.1 q.2)
def zcat (v : ZV) : Nat := match v with
  | .inl _ => 1
  | .inr (.inl _) => 2
  | .inr (.inr _) => 1
theorem zcat_eq (G : ZG) (v : ZV) : (zc G v).category = zcat v := by
  rcases v with x | x | x <;> rfl
def zct : List ZV → Nat
  | [] => 0
  | v :: r => zcat v + zct r
theorem zct_eq (G : ZG) (st : List ZV) : ((st.map (zc G)).map fun v => v.category).sum = zct st := by
  induction st with
  | nil => rfl
  | cons v r ih => simp only [List.map_cons, List.sum_cons, ih, zcat_eq, zct]
/-- a field: a number, or the cell that it holds for ever (its kind; its number; or the number of the object itself) -/
abbrev ZF : Type := Option (Nat × Nat × Bool)
/-- a kind: objects (class, fields) or arrays (0 int, 1 long, 2 boolean, 3 PairMap, 4 Braid; length) -/
abbrev ZK : Type := (Nat × List ZF) ⊕ (Nat × Nat)
def zKL : List (ZK × Nat) := [
  (.inl (0, [some (1, 0, true), none]), 10), (.inr (0, 64), 10),
  (.inl (1, [some (3, 0, true), some (4, 0, true), none]), 3), (.inr (0, 24), 3), (.inr (2, 24), 3),
  (.inl (2, [some (6, 0, false), some (7, 0, false), some (0, 4, false), some (2, 2, false), some (0, 5, false), some (8, 0, false), some (11, 0, false), some (13, 0, false), some (16, 0, false), some (18, 0, false)]), 1), (.inr (3, 4), 1), (.inr (4, 2), 1),
  (.inl (3, [some (9, 0, false), some (10, 0, false), none, some (0, 6, false), some (0, 7, false)]), 1), (.inr (0, 8), 1), (.inr (0, 8), 1),
  (.inl (4, [some (12, 0, false)]), 1), (.inr (0, 8), 1),
  (.inl (5, [some (14, 0, false), some (15, 0, false), none]), 1), (.inr (0, 720), 1), (.inr (1, 512), 1),
  (.inl (6, [some (17, 0, false), none]), 1), (.inr (0, 4096), 1),
  (.inl (7, [some (0, 8, false), some (0, 9, false), some (19, 0, false)]), 1), (.inr (1, 64), 1),
  (.inl (8, [some (21, 0, false), some (22, 0, false), some (23, 0, false), some (24, 0, false), some (25, 0, false), some (26, 0, false), some (27, 0, false), some (28, 0, false), some (29, 0, false), none, some (30, 0, false), some (31, 0, false), some (32, 0, false), some (33, 0, false), some (34, 0, false), some (35, 0, false), some (36, 0, false), some (37, 0, false)]), 1),
  (.inr (0, 6), 1), (.inr (0, 216), 1), (.inr (0, 216), 1), (.inr (0, 6), 1), (.inr (0, 6), 1), (.inr (0, 6), 1), (.inr (0, 4), 1), (.inr (2, 720), 1), (.inr (0, 720), 1), (.inr (0, 2560), 1), (.inr (0, 5), 1), (.inr (0, 96), 1), (.inr (0, 1296), 1), (.inr (0, 1296), 1), (.inr (0, 1296), 1), (.inr (0, 48), 1), (.inr (0, 2), 1)]
def zK (k : Nat) : ZK := (zKL.getD k (.inl (0, []), 0)).1
def zN (k : Nat) : Nat := (zKL.getD k (.inl (0, []), 0)).2
def zfv (k i j : Nat) (M : ZM) (f : ZF) : ZV := match f with
  | none => zi (M.1 k i j)
  | some (k', c, b) => match b with
    | true => zr k' i
    | false => zr k' c
def zfs (G : ZG) (M : ZM) (k i : Nat) (fs : List ZF) : List Value := fs.zipIdx.map (fun p => zc G (zfv k i p.2 M p.1))
def zarr (G : ZG) (M : ZM) (k i t n : Nat) : ClassId × vp_A := match t with
  | 0 => (gc G 0, n, .inl (M.1 k i))
  | 1 => (gc G 1, n, .inr (.inl (M.2 k i)))
  | 2 => (gc G 2, n, .inl (M.1 k i))
  | 3 => (gc G 3, n, .inr (.inr (.inr (.inr fun j => some (ga G 0 j)))))
  | _ => (gc G 4, n, .inr (.inr (.inr (.inr fun j => some (ga G 2 j)))))
def zent (G : ZG) (M : ZM) (k i : Nat) : va_E := match zK k with
  | .inl (ci, fs) => .inr (ci, zfs G M k i fs)
  | .inr (t, n) => .inl (zarr G M k i t n)
def zcells : List (Nat × Nat) := (List.range 38).flatMap fun k => (List.range (zN k)).map fun i => (k, i)
def zws (G : ZG) (M : ZM) : va_W := zcells.map fun c => (ga G c.1 c.2, zent G M c.1 c.2)
def ztys (G : ZG) : List (ClassId × FieldType) := [(gc G 0, .int), (gc G 1, .long), (gc G 2, .boolean), (gc G 3, .object "ThreeStrandMaps$PairMap"), (gc G 4, .object "ThreeStrandMaps$Braid")]
def zT0 : u_T := fun k => match k with
  | 0 => ("ThreeStrandMaps$PairMap", "images", "[I", true)
  | _ => ("ThreeStrandMaps$PairMap", "points", "I", false)
def zT1 : u_T := fun k => match k with
  | 0 => ("ThreeStrandMaps$Braid", "positions", "[I", true)
  | 1 => ("ThreeStrandMaps$Braid", "capitals", "[Z", true)
  | _ => ("ThreeStrandMaps$Braid", "length", "I", false)
def zT2 : u_T := fun k => match k with
  | 0 => ("ThreeStrandMaps", "places", "[LThreeStrandMaps$PairMap;", true)
  | 1 => ("ThreeStrandMaps", "braids", "[LThreeStrandMaps$Braid;", true)
  | 2 => ("ThreeStrandMaps", "noMap", "LThreeStrandMaps$PairMap;", true)
  | 3 => ("ThreeStrandMaps", "noBraid", "LThreeStrandMaps$Braid;", true)
  | 4 => ("ThreeStrandMaps", "made", "LThreeStrandMaps$PairMap;", true)
  | 5 => ("ThreeStrandMaps", "classes", "LThreeStrandMaps$AlikeClasses;", true)
  | 6 => ("ThreeStrandMaps", "renamings", "LThreeStrandMaps$Renamings;", true)
  | 7 => ("ThreeStrandMaps", "rowGroup", "LThreeStrandMaps$RowGroup;", true)
  | 8 => ("ThreeStrandMaps", "wordClasses", "LThreeStrandMaps$WordClasses;", true)
  | _ => ("ThreeStrandMaps", "action", "LThreeStrandMaps$BraidAction;", true)
def zT3 : u_T := fun k => match k with
  | 0 => ("ThreeStrandMaps$AlikeClasses", "classes", "[I", true)
  | 1 => ("ThreeStrandMaps$AlikeClasses", "smallest", "[I", true)
  | 2 => ("ThreeStrandMaps$AlikeClasses", "size", "I", false)
  | 3 => ("ThreeStrandMaps$AlikeClasses", "current", "LThreeStrandMaps$PairMap;", true)
  | _ => ("ThreeStrandMaps$AlikeClasses", "smaller", "LThreeStrandMaps$PairMap;", true)
def zT4 : u_T := fun k => match k with
  | _ => ("ThreeStrandMaps$Renamings", "images", "[I", true)
def zT5 : u_T := fun k => match k with
  | 0 => ("ThreeStrandMaps$RowGroup", "elements", "[I", true)
  | 1 => ("ThreeStrandMaps$RowGroup", "seen", "[J", true)
  | _ => ("ThreeStrandMaps$RowGroup", "size", "I", false)
def zT6 : u_T := fun k => match k with
  | 0 => ("ThreeStrandMaps$WordClasses", "smaller", "[I", true)
  | _ => ("ThreeStrandMaps$WordClasses", "size", "I", false)
def zT7 : u_T := fun k => match k with
  | 0 => ("ThreeStrandMaps$BraidAction", "map", "LThreeStrandMaps$PairMap;", true)
  | 1 => ("ThreeStrandMaps$BraidAction", "inverse", "LThreeStrandMaps$PairMap;", true)
  | _ => ("ThreeStrandMaps$BraidAction", "seen", "[J", true)
def zT8 : u_T := fun k => match k with
  | 0 => ("ThreeStrandMapsModel", "many", "[I", true)
  | 1 => ("ThreeStrandMapsModel", "left", "[I", true)
  | 2 => ("ThreeStrandMapsModel", "right", "[I", true)
  | 3 => ("ThreeStrandMapsModel", "name", "[I", true)
  | 4 => ("ThreeStrandMapsModel", "clazz", "[I", true)
  | 5 => ("ThreeStrandMapsModel", "least", "[I", true)
  | 6 => ("ThreeStrandMapsModel", "t", "[I", true)
  | 7 => ("ThreeStrandMapsModel", "seen", "[Z", true)
  | 8 => ("ThreeStrandMapsModel", "found", "[I", true)
  | 9 => ("ThreeStrandMapsModel", "theLikeness", "I", false)
  | 10 => ("ThreeStrandMapsModel", "listed", "[I", true)
  | 11 => ("ThreeStrandMapsModel", "manyListed", "[I", true)
  | 12 => ("ThreeStrandMapsModel", "row", "[I", true)
  | 13 => ("ThreeStrandMapsModel", "label", "[I", true)
  | 14 => ("ThreeStrandMapsModel", "step", "[I", true)
  | 15 => ("ThreeStrandMapsModel", "at", "[I", true)
  | 16 => ("ThreeStrandMapsModel", "braid", "[I", true)
  | _ => ("ThreeStrandMapsModel", "size", "[I", true)
def zcls : List vw_C := [("ThreeStrandMaps$PairMap", zT0, 2), ("ThreeStrandMaps$Braid", zT1, 3), ("ThreeStrandMaps", zT2, 10), ("ThreeStrandMaps$AlikeClasses", zT3, 5), ("ThreeStrandMaps$Renamings", zT4, 1), ("ThreeStrandMaps$RowGroup", zT5, 3), ("ThreeStrandMaps$WordClasses", zT6, 2), ("ThreeStrandMaps$BraidAction", zT7, 3), ("ThreeStrandMapsModel", zT8, 18)]
def zrowL : List Int64 := [0x0, 0x0101, 0x1010, 0x012012012, 0x012012102, 0x012021021, 0x021021021, 0x120120120, 0x0123012301230123, 0x0123012301230213, 0x0123012301231203, 0x0123012301320132, 0x0123012301321032, 0x0123012310231023, 0x0123012310321032, 0x0123013201320132, 0x0123023102310231, 0x0132013201320132, 0x0132013210231023, 0x0132013210321032, 0x0132231032011023, 0x0231023102310231, 0x0231031203120312, 0x1023102301320132, 0x1023102301321032, 0x1023102310321032, 0x1023231001323201, 0x1032103210321032, 0x1032230123011032, 0x1230123012301230, 0x1230301212303012]
def zrows (j : Nat) : Int64 := zrowL.getD j 0
def zTw : List Jvm.Cond := lw_tbl.filter goodWord
def znest : List Jvm.Cond := lw_tbl.filter (fun w => match w with | .methodLinkNest _ _ _ _ => true | _ => false)
theorem zTw_of {w : Jvm.Cond} (q : Nat) (h : lw_tbl[q]? = some w) (hg : goodWord w = true) : w ∈ zTw := List.mem_filter.mpr ⟨List.mem_of_getElem? h, hg⟩
/-! cells -/
def zval (k i : Nat) : Prop := k < 38 ∧ i < zN k
theorem zcells_mem {k i : Nat} (h : zval k i) : (k, i) ∈ zcells := by
  unfold zcells
  rw [List.mem_flatMap]
  exact ⟨k, List.mem_range.mpr h.1, List.mem_map.mpr ⟨i, List.mem_range.mpr h.2, rfl⟩⟩
theorem zcells_len : zcells.length = 62 := by decide +kernel
theorem zcells_inj0 : ∀ i, i < 62 → ∀ j, j < 62 → zcells[i]? = zcells[j]? → i = j := by decide +kernel
theorem zcells_inj {i j : Nat} {c : Nat × Nat} (hi : zcells[i]? = some c) (hj : zcells[j]? = some c) : i = j := by
  have h1 := (List.getElem?_eq_some_iff.mp hi).1
  have h2 := (List.getElem?_eq_some_iff.mp hj).1
  rw [zcells_len] at h1 h2
  exact zcells_inj0 i h1 j h2 (hi.trans hj.symm)
def zok (G : ZG) : Prop := (∀ c ∈ zcells, ∀ c' ∈ zcells, ga G c.1 c.2 = ga G c'.1 c'.2 → c = c') ∧ ∀ c ∈ zcells, gA G (ga G c.1 c.2)
theorem zws_at {G : ZG} {k i : Nat} (h : zval k i) : ∃ q0 : Nat, zcells[q0]? = some (k, i) ∧ ∀ M, (zws G M)[q0]? = some (ga G k i, zent G M k i) := by
  obtain ⟨q0, hq⟩ := List.getElem?_of_mem (zcells_mem h)
  refine ⟨q0, hq, fun M => ?_⟩
  unfold zws
  rw [List.getElem?_map, hq]
  rfl
theorem zws_D {G : ZG} (h : zok G) (M : ZM) : va_D (gA G) (zws G M) := by
  refine ⟨fun i j p q hi hj he => ?_, fun k q hk => ?_⟩
  · unfold zws at hi hj
    rw [List.getElem?_map, Option.map_eq_some_iff] at hi hj
    obtain ⟨c, hc, rfl⟩ := hi
    obtain ⟨c', hc', rfl⟩ := hj
    have h1 := h.1 c (List.mem_of_getElem? hc) c' (List.mem_of_getElem? hc') he
    subst h1
    exact zcells_inj hc hc'
  · unfold zws at hk
    rw [List.getElem?_map, Option.map_eq_some_iff] at hk
    obtain ⟨c, hc, rfl⟩ := hk
    exact h.2 c (List.mem_of_getElem? hc)
def zset (k i j : Nat) (v : Int32) (M : ZM) : ZM := (fun a b c => if a = k ∧ b = i ∧ c = j then v else M.1 a b c, M.2)
def zsetL (k i j : Nat) (v : Int64) (M : ZM) : ZM := (M.1, fun a b c => if a = k ∧ b = i ∧ c = j then v else M.2 a b c)
theorem zfs_congr {G : ZG} {M M' : ZM} {k i : Nat} (h : M.1 k i = M'.1 k i) (fs : List ZF) : zfs G M k i fs = zfs G M' k i fs := by
  unfold zfs
  apply List.map_congr_left
  intro p _
  rcases p with ⟨f, j⟩
  cases f with
  | none => simp only [zfv, h]
  | some f => rcases f with ⟨a, b, c⟩; cases c <;> rfl
theorem zent_congr {G : ZG} {M M' : ZM} {k i : Nat} (h1 : M.1 k i = M'.1 k i) (h2 : M.2 k i = M'.2 k i) : zent G M k i = zent G M' k i := by
  unfold zent
  split
  · rw [zfs_congr h1]
  · unfold zarr
    split <;> simp only [h1, h2]
theorem zset_row {k i j : Nat} {v : Int32} {M : ZM} : (zset k i j v M).1 k i = upd (M.1 k i) j v := by
  funext c
  simp [zset, upd]
theorem zsetL_row {k i j : Nat} {v : Int64} {M : ZM} : (zsetL k i j v M).2 k i = vp_updL (M.2 k i) j v := by
  funext c
  simp [zsetL, vp_updL]
theorem zset_off {k i j a b : Nat} {v : Int32} {M : ZM} (h : ¬ (a = k ∧ b = i)) : (zset k i j v M).1 a b = M.1 a b := by
  funext c
  simp only [zset]
  rw [if_neg (fun q => h ⟨q.1, q.2.1⟩)]
theorem zsetL_off {k i j a b : Nat} {v : Int64} {M : ZM} (h : ¬ (a = k ∧ b = i)) : (zsetL k i j v M).2 a b = M.2 a b := by
  funext c
  simp only [zsetL]
  rw [if_neg (fun q => h ⟨q.1, q.2.1⟩)]
theorem zws_set {G : ZG} {M M' : ZM} {k i q0 : Nat} {e' : va_E} (hq : zcells[q0]? = some (k, i)) (h1 : ∀ a b, ¬ (a = k ∧ b = i) → M.1 a b = M'.1 a b ∧ M.2 a b = M'.2 a b) (he : zent G M' k i = e') : (zws G M).set q0 (ga G k i, e') = zws G M' := by
  apply List.ext_getElem?
  intro n
  rw [List.getElem?_set]
  split
  · rename_i hn
    subst hn
    obtain ⟨hlt, -⟩ := List.getElem?_eq_some_iff.mp hq
    unfold zws
    rw [if_pos (by simpa using hlt), List.getElem?_map, hq]
    simp only [Option.map_some, he]
  · rename_i hn
    unfold zws
    rw [List.getElem?_map, List.getElem?_map]
    cases hc : zcells[n]? with
    | none => rfl
    | some c =>
      simp only [Option.map_some]
      have hne : ¬ (c.1 = k ∧ c.2 = i) := by
        intro hck
        apply hn
        exact zcells_inj hq (by rw [hc]; exact congrArg some (Prod.ext hck.1 hck.2))
      rw [zent_congr (h1 c.1 c.2 hne).1 (h1 c.1 c.2 hne).2]
/-! locals, sorted by their places -/
def lget : ZL → Nat → Option ZV
  | [], _ => none
  | q :: r, n => bif q.1 == n then some q.2 else lget r n
theorem lget_mem {l : ZL} {n : Nat} {v : ZV} (h : lget l n = some v) : (n, v) ∈ l := by
  induction l with
  | nil => simp [lget] at h
  | cons q r ih =>
    obtain ⟨a, b⟩ := q
    unfold lget at h
    cases hq : a == n with
    | true =>
      simp only [hq, cond_true, Option.some.injEq] at h
      rw [← h, ← beq_iff_eq.mp hq]
      exact List.mem_cons_self
    | false =>
      simp only [hq, cond_false] at h
      exact List.mem_cons_of_mem _ (ih h)
def lkp (n c : Nat) (q : Nat × ZV) : Bool := !(q.1 == n) && (!(c == 2 && q.1 == n + 1) && !(q.1 + 1 == n && zcat q.2 == 2))
def lflt (n c : Nat) : ZL → ZL
  | [] => []
  | q :: r => bif lkp n c q then q :: lflt n c r else lflt n c r
def lins (n : Nat) (v : ZV) : ZL → ZL
  | [] => [(n, v)]
  | q :: r => bif Nat.ble n q.1 then (n, v) :: q :: r else q :: lins n v r
def lput (n : Nat) (v : ZV) (l : ZL) : ZL := lins n v (lflt n (zcat v) l)
def zkeep (ks : List Nat) : ZL → ZL
  | [] => []
  | q :: r => bif ks.elem q.1 then q :: zkeep ks r else zkeep ks r
theorem lflt_mem {n c : Nat} {l : ZL} {q : Nat × ZV} (h : q ∈ lflt n c l) : q ∈ l ∧ lkp n c q = true := by
  induction l with
  | nil => simp [lflt] at h
  | cons a r ih =>
    unfold lflt at h
    cases hc : lkp n c a with
    | true =>
      rw [hc] at h
      simp only [cond_true, List.mem_cons] at h
      rcases h with h | h
      · subst h; exact ⟨List.mem_cons_self, hc⟩
      · exact ⟨List.mem_cons_of_mem _ (ih h).1, (ih h).2⟩
    | false =>
      rw [hc] at h
      simp only [cond_false] at h
      exact ⟨List.mem_cons_of_mem _ (ih h).1, (ih h).2⟩
theorem lins_mem {n : Nat} {v : ZV} {l : ZL} {q : Nat × ZV} (h : q ∈ lins n v l) : q = (n, v) ∨ q ∈ l := by
  induction l with
  | nil => simp [lins] at h; exact Or.inl h
  | cons a r ih =>
    unfold lins at h
    cases hc : Nat.ble n a.1 with
    | true =>
      rw [hc] at h
      simp only [cond_true, List.mem_cons] at h
      rcases h with h | h | h
      · exact Or.inl h
      · exact Or.inr (by rw [h]; exact List.mem_cons_self)
      · exact Or.inr (List.mem_cons_of_mem _ h)
    | false =>
      rw [hc] at h
      simp only [cond_false, List.mem_cons] at h
      rcases h with h | h
      · exact Or.inr (by rw [h]; exact List.mem_cons_self)
      · rcases ih h with h | h
        · exact Or.inl h
        · exact Or.inr (List.mem_cons_of_mem _ h)
theorem zkeep_mem {ks : List Nat} {l : ZL} {q : Nat × ZV} (h : q ∈ zkeep ks l) : q ∈ l := by
  induction l with
  | nil => simp [zkeep] at h
  | cons a r ih =>
    unfold zkeep at h
    cases hc : ks.elem a.1 with
    | true =>
      rw [hc] at h
      simp only [cond_true, List.mem_cons] at h
      rcases h with h | h
      · rw [h]; exact List.mem_cons_self
      · exact List.mem_cons_of_mem _ (ih h)
    | false =>
      rw [hc] at h
      simp only [cond_false] at h
      exact List.mem_cons_of_mem _ (ih h)
abbrev zlm (G : ZG) (l : ZL) : List (Nat × Value) := l.map fun q => (q.1, zc G q.2)
theorem lget_has {G : ZG} {ls : Array Slot} {nL n : Nat} {l : ZL} {v : ZV} (h : lv_has ls nL (zlm G l)) (hg : lget l n = some v) : ls[n]? = some (.val (zc G v)) :=
  h.2.2 (n, zc G v) (List.mem_map.mpr ⟨(n, v), lget_mem hg, rfl⟩)
theorem zkeep_has {G : ZG} {ls : Array Slot} {nL : Nat} {l l' : ZL} (h : lv_has ls nL (zlm G l)) (hs : ∀ q ∈ l', q ∈ l) : lv_has ls nL (zlm G l') := by
  refine ⟨h.1, h.2.1, fun q hq => ?_⟩
  obtain ⟨q', hq', rfl⟩ := List.mem_map.mp hq
  exact h.2.2 _ (List.mem_map.mpr ⟨q', hs q' hq', rfl⟩)
theorem lput_has1 {G : ZG} {ls : Array Slot} {nL n : Nat} {l : ZL} {v : ZV} (h : lv_has ls nL ((n, zc G v) :: (zlm G l).filter (fun q => !(q.1 == n) && !(q.1 + 1 == n && q.2.category == 2)))) : lv_has ls nL (zlm G (lput n v l)) := by
  refine ⟨h.1, h.2.1, fun q hq => h.2.2 q ?_⟩
  obtain ⟨q', hq', rfl⟩ := List.mem_map.mp hq
  rcases lins_mem hq' with h1 | h1
  · rw [h1]; exact List.mem_cons_self
  · obtain ⟨h2, h3⟩ := lflt_mem h1
    refine List.mem_cons_of_mem _ (List.mem_filter.mpr ⟨List.mem_map.mpr ⟨q', h2, rfl⟩, ?_⟩)
    simp only [lkp, Bool.and_eq_true] at h3
    simp only [Bool.and_eq_true, zcat_eq]
    exact ⟨h3.1, h3.2.2⟩
theorem lput_has2 {G : ZG} {ls : Array Slot} {nL n : Nat} {l : ZL} {x : Int64} (h : lv_has ls nL ((n, zc G (zl x)) :: (zlm G l).filter (fun q => !(q.1 == n) && (!(q.1 == n + 1) && !(q.1 + 1 == n && q.2.category == 2))))) : lv_has ls nL (zlm G (lput n (zl x) l)) := by
  refine ⟨h.1, h.2.1, fun q hq => h.2.2 q ?_⟩
  obtain ⟨q', hq', rfl⟩ := List.mem_map.mp hq
  rcases lins_mem hq' with h1 | h1
  · rw [h1]; exact List.mem_cons_self
  · obtain ⟨h2, h3⟩ := lflt_mem h1
    refine List.mem_cons_of_mem _ (List.mem_filter.mpr ⟨List.mem_map.mpr ⟨q', h2, rfl⟩, ?_⟩)
    simp only [lkp, zcat, Bool.and_eq_true, beq_self_eq_true, Bool.true_and] at h3
    simp only [Bool.and_eq_true, zcat_eq]
    exact ⟨h3.1, h3.2.1, h3.2.2⟩
/-! methods, their contracts, the walk's judgement -/
/-- name, code, locals, answer's type, arguments (the receiver apart), depth of its calls (11: the law) -/
abbrev ZI : Type := MethodName × (ByteArray × (Nat × (Option FieldType × (Nat × Nat))))
def iN (m : ZI) : MethodName := m.1
def iB (m : ZI) : ByteArray := m.2.1
def iL (m : ZI) : Nat := m.2.2.1
def iR (m : ZI) : Option FieldType := m.2.2.2.1
def iA (m : ZI) : Nat := m.2.2.2.2.1
def iD (m : ZI) : Nat := m.2.2.2.2.2
def zrm (m : ZI) : Room := { frames := iD m, cells := 0, slots := 0, locals := 39 * iD m }
def zR (m : ZI) : Room := bif iD m == 11 then room_1 else zrm m
def zC (m : ZI) : Nat := bif iD m == 11 then 600000 else 0
def zS (m : ZI) : Nat := bif iD m == 11 then 7302249 else 0
def zwm (m : ZI) : List Jvm.Cond := Jvm.Cond.code (iN m) (iB m) (iL m) (iR m) :: zTw
def zEnv (G : ZG) (U : State) (H : Heap) : Prop := va_K (gD G) zcls (ztys G) U ∧ va_Z "ThreeStrandMaps$SolutionList" "ROWS" "[J" (.ref (ga G 38 0)) (gA G) U H ∧ va_T .long (ga G 38 0) 31 (fun j => .long (zrows j)) (gA G) U H ∧ va_T .int (ga G 39 0) (gN G) (fun j => .int (gX G j)) (gA G) U H ∧ ∀ w ∈ znest, va_Nw w U
def zPc (G : ZG) (M : ZM) (av : List ZV) : Array Value → State → Prop := va_Pc (av.map (zc G)) (fun U => va_P (gD G) zcls (zws G M) U.heap ∧ zEnv G U U.heap)
def zQc (G : ZG) (Z : Option ZV → ZM → Prop) : Array Value → State → Outcome → State → Prop := fun _ st oc t => (∃ (r : Option ZV) (M' : ZM), oc = .returned (r.map (zc G)) ∧ Z r M' ∧ va_P (gD G) zcls (zws G M') t.heap) ∧ va_F (gA G) st t
def zZ (below : List Frame) (a : Array Value) (s : State) : State → Prop := fun t => ∃ o, t.status = .running ∧ Ended t below o ∧ lw_Q a s o t
def zQ (G : ZG) (m : ZI) (Z : Option ZV → ZM → Prop) (below : List Frame) (a : Array Value) (s : State) : State → Prop := bif iD m == 11 then zZ below a s else MQ below (zQc G Z) a s 0 0 (gA G)
/-- the contract of a method, from a memory M, with arguments av: it ends with an answer and a memory of which Z holds -/
def Ctr (n : Nat) (G : ZG) (mi : ZI) (av : List ZV) (M : ZM) (Z : Option ZV → ZM → Prop) : Prop :=
  if n = 0 then (zok G → Met (gl G) (iN mi) (zwm mi) (zrm mi) (zPc G M av) (zQc G Z) 0 0 (gA G)) else Ctr (n - 1) G mi av M Z
termination_by n
/-- from here in the method's body: it comes to an end of which Z holds -/
def V (n : Nat) (G : ZG) (mi : ZI) (Z : Option ZV → ZM → Prop) (pc : Nat) (l : ZL) (st : List ZV) (M : ZM) : Prop :=
  if n = 0 then (zok G → ∀ (p : Program) (e : Env) (s : State) (m : MethodId) (args : Array Value) (below : List Frame) (meth : Method) (c : Code) (H : Heap) (locs : List Loc) (ls : Array Slot),
    CallFix p m c (iB mi) (iL mi) s args zTw (iN mi).cls → meth.sig.returnType = iR mi → meth.locks = false → (iD mi = 11 → ∀ q, gA G q → s.heap.size ≤ q) → zEnv G s s.heap → va_P (gD G) zcls (zws G M) H → va_S (gA G) s.heap H locs → lv_has ls (iL mi) (zlm G l) →
    W p (gl G) e (zR mi) s m args below meth c H locs (zC mi) (zS mi) (zQ G mi Z below args s) (F0 m pc ls (st.map (zc G)))) else V (n - 1) G mi Z pc l st M
termination_by n
theorem Ctr_eq (G : ZG) (mi : ZI) (av : List ZV) (M : ZM) (Z : Option ZV → ZM → Prop) : Ctr 0 G mi av M Z = (zok G → Met (gl G) (iN mi) (zwm mi) (zrm mi) (zPc G M av) (zQc G Z) 0 0 (gA G)) := by
  rw [Ctr]; rfl
theorem V_eq (G : ZG) (mi : ZI) (Z : Option ZV → ZM → Prop) (pc : Nat) (l : ZL) (st : List ZV) (M : ZM) : V 0 G mi Z pc l st M = (zok G → ∀ (p : Program) (e : Env) (s : State) (m : MethodId) (args : Array Value) (below : List Frame) (meth : Method) (c : Code) (H : Heap) (locs : List Loc) (ls : Array Slot),
    CallFix p m c (iB mi) (iL mi) s args zTw (iN mi).cls → meth.sig.returnType = iR mi → meth.locks = false → (iD mi = 11 → ∀ q, gA G q → s.heap.size ≤ q) → zEnv G s s.heap → va_P (gD G) zcls (zws G M) H → va_S (gA G) s.heap H locs → lv_has ls (iL mi) (zlm G l) →
    W p (gl G) e (zR mi) s m args below meth c H locs (zC mi) (zS mi) (zQ G mi Z below args s) (F0 m pc ls (st.map (zc G)))) := by
  rw [V]; rfl
section
variable {G : ZG} {mi : ZI} {Z : Option ZV → ZM → Prop} {pc : Nat} {l : ZL} {st : List ZV} {M : ZM}
set_option maxHeartbeats 1000000 in
theorem z_iconst {n : Int} {v : Int32} (hd : decode (iB mi) pc = .ok (.iconst n, 1)) (hv : Int32.ofInt n = v) (hk : V 0 G mi Z (pc + 1) l (zi v :: st) M) : V 0 G mi Z pc l st M := by
  rw [V_eq] at hk ⊢; intro hok p e s m args below meth c H locs ls hf hr hlk hfr hE hP hS hl
  exact lv_iconst hf.1 hf.2.1 hd hv (hk hok p e s m args below meth c H locs ls hf hr hlk hfr hE hP hS hl)
set_option maxHeartbeats 1000000 in
theorem z_bipush {n : Int} {v : Int32} (hd : decode (iB mi) pc = .ok (.bipush n, 2)) (hv : (Int8.ofInt n).toInt32 = v) (hk : V 0 G mi Z (pc + 2) l (zi v :: st) M) : V 0 G mi Z pc l st M := by
  rw [V_eq] at hk ⊢; intro hok p e s m args below meth c H locs ls hf hr hlk hfr hE hP hS hl
  exact lv_bipush hf.1 hf.2.1 hd hv (hk hok p e s m args below meth c H locs ls hf hr hlk hfr hE hP hS hl)
set_option maxHeartbeats 1000000 in
theorem z_sipush {n : Int} {v : Int32} (hd : decode (iB mi) pc = .ok (.sipush n, 3)) (hv : (Int16.ofInt n).toInt32 = v) (hk : V 0 G mi Z (pc + 3) l (zi v :: st) M) : V 0 G mi Z pc l st M := by
  rw [V_eq] at hk ⊢; intro hok p e s m args below meth c H locs ls hf hr hlk hfr hE hP hS hl
  exact lv_sipush hf.1 hf.2.1 hd hv (hk hok p e s m args below meth c H locs ls hf hr hlk hfr hE hP hS hl)
set_option maxHeartbeats 1000000 in
theorem z_lconst {n : Fin 2} {v : Int64} (hd : decode (iB mi) pc = .ok (.lconst n, 1)) (hv : Int64.ofNat (n : Nat) = v) (hk : V 0 G mi Z (pc + 1) l (zl v :: st) M) : V 0 G mi Z pc l st M := by
  rw [V_eq] at hk ⊢; intro hok p e s m args below meth c H locs ls hf hr hlk hfr hE hP hS hl
  exact lv_lconst hf.1 hf.2.1 hd hv (hk hok p e s m args below meth c H locs ls hf hr hlk hfr hE hP hS hl)
set_option maxHeartbeats 1000000 in
theorem z_ldc {n : Nat} {v : Int32} (hd : decode (iB mi) pc = .ok (.ldc n, 2)) (hw : Jvm.Cond.constant (iN mi).cls n v ∈ zTw) (hk : V 0 G mi Z (pc + 2) l (zi v :: st) M) : V 0 G mi Z pc l st M := by
  rw [V_eq] at hk ⊢; intro hok p e s m args below meth c H locs ls hf hr hlk hfr hE hP hS hl
  exact lv_ldc hf.1 hf.2.1 hf.2.2.2.1 (hf.2.2.2.2 _ hw) hd (hk hok p e s m args below meth c H locs ls hf hr hlk hfr hE hP hS hl)
set_option maxHeartbeats 1000000 in
theorem z_ldc2_w {n : Nat} {v : Int64} (hd : decode (iB mi) pc = .ok (.ldc2_w n, 3)) (hw : Jvm.Cond.constantLong (iN mi).cls n v ∈ zTw) (hk : V 0 G mi Z (pc + 3) l (zl v :: st) M) : V 0 G mi Z pc l st M := by
  rw [V_eq] at hk ⊢; intro hok p e s m args below meth c H locs ls hf hr hlk hfr hE hP hS hl
  exact lv_ldc2 hf.1 hf.2.1 hf.2.2.2.1 (hf.2.2.2.2 _ hw) hd (hk hok p e s m args below meth c H locs ls hf hr hlk hfr hE hP hS hl)
set_option maxHeartbeats 1000000 in
theorem z_iload {n : Nat} {x : Int32} (hd : decode (iB mi) pc = .ok (.iload n, 2)) (hg : lget l n = some (zi x)) (hk : V 0 G mi Z (pc + 2) l (zi x :: st) M) : V 0 G mi Z pc l st M := by
  rw [V_eq] at hk ⊢; intro hok p e s m args below meth c H locs ls hf hr hlk hfr hE hP hS hl
  exact lv_iload hf.1 hf.2.1 hd (lget_has hl hg) (hk hok p e s m args below meth c H locs ls hf hr hlk hfr hE hP hS hl)
set_option maxHeartbeats 1000000 in
theorem z_iload_n {n : Fin 4} {x : Int32} (hd : decode (iB mi) pc = .ok (.iload_n n, 1)) (hg : lget l n.val = some (zi x)) (hk : V 0 G mi Z (pc + 1) l (zi x :: st) M) : V 0 G mi Z pc l st M := by
  rw [V_eq] at hk ⊢; intro hok p e s m args below meth c H locs ls hf hr hlk hfr hE hP hS hl
  exact lv_iload_n hf.1 hf.2.1 hd rfl (lget_has hl hg) (hk hok p e s m args below meth c H locs ls hf hr hlk hfr hE hP hS hl)
set_option maxHeartbeats 1000000 in
theorem z_lload {n : Nat} {x : Int64} (hd : decode (iB mi) pc = .ok (.lload n, 2)) (hg : lget l n = some (zl x)) (hk : V 0 G mi Z (pc + 2) l (zl x :: st) M) : V 0 G mi Z pc l st M := by
  rw [V_eq] at hk ⊢; intro hok p e s m args below meth c H locs ls hf hr hlk hfr hE hP hS hl
  exact lv_lload hf.1 hf.2.1 hd (lget_has hl hg) (hk hok p e s m args below meth c H locs ls hf hr hlk hfr hE hP hS hl)
set_option maxHeartbeats 1000000 in
theorem z_lload_n {n : Fin 4} {x : Int64} (hd : decode (iB mi) pc = .ok (.lload_n n, 1)) (hg : lget l n.val = some (zl x)) (hk : V 0 G mi Z (pc + 1) l (zl x :: st) M) : V 0 G mi Z pc l st M := by
  rw [V_eq] at hk ⊢; intro hok p e s m args below meth c H locs ls hf hr hlk hfr hE hP hS hl
  exact lv_lload_n hf.1 hf.2.1 hd rfl (lget_has hl hg) (hk hok p e s m args below meth c H locs ls hf hr hlk hfr hE hP hS hl)
set_option maxHeartbeats 1000000 in
theorem z_aload {n a b : Nat} (hd : decode (iB mi) pc = .ok (.aload n, 2)) (hg : lget l n = some (zr a b)) (hk : V 0 G mi Z (pc + 2) l (zr a b :: st) M) : V 0 G mi Z pc l st M := by
  rw [V_eq] at hk ⊢; intro hok p e s m args below meth c H locs ls hf hr hlk hfr hE hP hS hl
  exact lv_aload hf.1 hf.2.1 hd (lget_has hl hg) (hk hok p e s m args below meth c H locs ls hf hr hlk hfr hE hP hS hl)
set_option maxHeartbeats 1000000 in
theorem z_aload_n {n : Fin 4} {a b : Nat} (hd : decode (iB mi) pc = .ok (.aload_n n, 1)) (hg : lget l n.val = some (zr a b)) (hk : V 0 G mi Z (pc + 1) l (zr a b :: st) M) : V 0 G mi Z pc l st M := by
  rw [V_eq] at hk ⊢; intro hok p e s m args below meth c H locs ls hf hr hlk hfr hE hP hS hl
  exact lv_aload_n hf.1 hf.2.1 hd rfl (lget_has hl hg) (hk hok p e s m args below meth c H locs ls hf hr hlk hfr hE hP hS hl)
set_option maxHeartbeats 1000000 in
theorem z_istore {n : Nat} {x : Int32} (hd : decode (iB mi) pc = .ok (.istore n, 2)) (hn : n < iL mi) (hk : V 0 G mi Z (pc + 2) (lput n (zi x) l) st M) : V 0 G mi Z pc l (zi x :: st) M := by
  rw [V_eq] at hk ⊢; intro hok p e s m args below meth c H locs ls0 hf hr hlk hfr hE hP hS hl
  exact lv_istore hf.1 hf.2.1 hd hl hn rfl (fun ls hl2 => hk hok p e s m args below meth c H locs ls hf hr hlk hfr hE hP hS (lput_has1 hl2))
set_option maxHeartbeats 1000000 in
theorem z_istore_n {n : Fin 4} {x : Int32} (hd : decode (iB mi) pc = .ok (.istore_n n, 1)) (hn : n.val < iL mi) (hk : V 0 G mi Z (pc + 1) (lput n.val (zi x) l) st M) : V 0 G mi Z pc l (zi x :: st) M := by
  rw [V_eq] at hk ⊢; intro hok p e s m args below meth c H locs ls0 hf hr hlk hfr hE hP hS hl
  exact lv_istore_n hf.1 hf.2.1 hd rfl hl hn rfl (fun ls hl2 => hk hok p e s m args below meth c H locs ls hf hr hlk hfr hE hP hS (lput_has1 hl2))
set_option maxHeartbeats 1000000 in
theorem z_lstore {n : Nat} {x : Int64} (hd : decode (iB mi) pc = .ok (.lstore n, 2)) (hn : n + 1 < iL mi) (hk : V 0 G mi Z (pc + 2) (lput n (zl x) l) st M) : V 0 G mi Z pc l (zl x :: st) M := by
  rw [V_eq] at hk ⊢; intro hok p e s m args below meth c H locs ls0 hf hr hlk hfr hE hP hS hl
  exact lv_lstore hf.1 hf.2.1 hd hl hn rfl (fun ls hl2 => hk hok p e s m args below meth c H locs ls hf hr hlk hfr hE hP hS (lput_has2 hl2))
set_option maxHeartbeats 1000000 in
theorem z_lstore_n {n : Fin 4} {x : Int64} (hd : decode (iB mi) pc = .ok (.lstore_n n, 1)) (hn : n.val + 1 < iL mi) (hk : V 0 G mi Z (pc + 1) (lput n.val (zl x) l) st M) : V 0 G mi Z pc l (zl x :: st) M := by
  rw [V_eq] at hk ⊢; intro hok p e s m args below meth c H locs ls0 hf hr hlk hfr hE hP hS hl
  exact lv_lstore_n hf.1 hf.2.1 hd rfl hl hn rfl (fun ls hl2 => hk hok p e s m args below meth c H locs ls hf hr hlk hfr hE hP hS (lput_has2 hl2))
set_option maxHeartbeats 1000000 in
theorem z_astore {n : Nat} {x y : Nat} (hd : decode (iB mi) pc = .ok (.astore n, 2)) (hn : n < iL mi) (hk : V 0 G mi Z (pc + 2) (lput n (zr x y) l) st M) : V 0 G mi Z pc l (zr x y :: st) M := by
  rw [V_eq] at hk ⊢; intro hok p e s m args below meth c H locs ls0 hf hr hlk hfr hE hP hS hl
  exact lv_astore hf.1 hf.2.1 hd hl hn rfl (fun ls hl2 => hk hok p e s m args below meth c H locs ls hf hr hlk hfr hE hP hS (lput_has1 hl2))
set_option maxHeartbeats 1000000 in
theorem z_astore_n {n : Fin 4} {x y : Nat} (hd : decode (iB mi) pc = .ok (.astore_n n, 1)) (hn : n.val < iL mi) (hk : V 0 G mi Z (pc + 1) (lput n.val (zr x y) l) st M) : V 0 G mi Z pc l (zr x y :: st) M := by
  rw [V_eq] at hk ⊢; intro hok p e s m args below meth c H locs ls0 hf hr hlk hfr hE hP hS hl
  exact lv_astore_n hf.1 hf.2.1 hd rfl hl hn rfl (fun ls hl2 => hk hok p e s m args below meth c H locs ls hf hr hlk hfr hE hP hS (lput_has1 hl2))
set_option maxHeartbeats 1000000 in
theorem z_iadd {x : Int32} {y : Int32} (hd : decode (iB mi) pc = .ok (.iadd, 1)) (hk : V 0 G mi Z (pc + 1) l (zi (x + y) :: st) M) : V 0 G mi Z pc l (zi y :: zi x :: st) M := by
  rw [V_eq] at hk ⊢; intro hok p e s m args below meth c H locs ls hf hr hlk hfr hE hP hS hl
  exact lv_iadd hf.1 hf.2.1 hd  (hk hok p e s m args below meth c H locs ls hf hr hlk hfr hE hP hS hl)
set_option maxHeartbeats 1000000 in
theorem z_isub {x : Int32} {y : Int32} (hd : decode (iB mi) pc = .ok (.isub, 1)) (hk : V 0 G mi Z (pc + 1) l (zi (x - y) :: st) M) : V 0 G mi Z pc l (zi y :: zi x :: st) M := by
  rw [V_eq] at hk ⊢; intro hok p e s m args below meth c H locs ls hf hr hlk hfr hE hP hS hl
  exact lv_isub hf.1 hf.2.1 hd  (hk hok p e s m args below meth c H locs ls hf hr hlk hfr hE hP hS hl)
set_option maxHeartbeats 1000000 in
theorem z_imul {x : Int32} {y : Int32} (hd : decode (iB mi) pc = .ok (.imul, 1)) (hk : V 0 G mi Z (pc + 1) l (zi (x * y) :: st) M) : V 0 G mi Z pc l (zi y :: zi x :: st) M := by
  rw [V_eq] at hk ⊢; intro hok p e s m args below meth c H locs ls hf hr hlk hfr hE hP hS hl
  exact lv_imul hf.1 hf.2.1 hd  (hk hok p e s m args below meth c H locs ls hf hr hlk hfr hE hP hS hl)
set_option maxHeartbeats 1000000 in
theorem z_iand {x : Int32} {y : Int32} (hd : decode (iB mi) pc = .ok (.iand, 1)) (hk : V 0 G mi Z (pc + 1) l (zi (x &&& y) :: st) M) : V 0 G mi Z pc l (zi y :: zi x :: st) M := by
  rw [V_eq] at hk ⊢; intro hok p e s m args below meth c H locs ls hf hr hlk hfr hE hP hS hl
  exact lv_iand hf.1 hf.2.1 hd  (hk hok p e s m args below meth c H locs ls hf hr hlk hfr hE hP hS hl)
set_option maxHeartbeats 1000000 in
theorem z_ior {x : Int32} {y : Int32} (hd : decode (iB mi) pc = .ok (.ior, 1)) (hk : V 0 G mi Z (pc + 1) l (zi (x ||| y) :: st) M) : V 0 G mi Z pc l (zi y :: zi x :: st) M := by
  rw [V_eq] at hk ⊢; intro hok p e s m args below meth c H locs ls hf hr hlk hfr hE hP hS hl
  exact lv_ior hf.1 hf.2.1 hd  (hk hok p e s m args below meth c H locs ls hf hr hlk hfr hE hP hS hl)
set_option maxHeartbeats 1000000 in
theorem z_ixor {x : Int32} {y : Int32} (hd : decode (iB mi) pc = .ok (.ixor, 1)) (hk : V 0 G mi Z (pc + 1) l (zi (x ^^^ y) :: st) M) : V 0 G mi Z pc l (zi y :: zi x :: st) M := by
  rw [V_eq] at hk ⊢; intro hok p e s m args below meth c H locs ls hf hr hlk hfr hE hP hS hl
  exact lv_ixor hf.1 hf.2.1 hd  (hk hok p e s m args below meth c H locs ls hf hr hlk hfr hE hP hS hl)
set_option maxHeartbeats 1000000 in
theorem z_ishl {x : Int32} {y : Int32} (hd : decode (iB mi) pc = .ok (.ishl, 1)) (hk : V 0 G mi Z (pc + 1) l (zi (x <<< (y &&& 31)) :: st) M) : V 0 G mi Z pc l (zi y :: zi x :: st) M := by
  rw [V_eq] at hk ⊢; intro hok p e s m args below meth c H locs ls hf hr hlk hfr hE hP hS hl
  exact lv_ishl hf.1 hf.2.1 hd  (hk hok p e s m args below meth c H locs ls hf hr hlk hfr hE hP hS hl)
set_option maxHeartbeats 1000000 in
theorem z_ishr {x : Int32} {y : Int32} (hd : decode (iB mi) pc = .ok (.ishr, 1)) (hk : V 0 G mi Z (pc + 1) l (zi (x >>> (y &&& 31)) :: st) M) : V 0 G mi Z pc l (zi y :: zi x :: st) M := by
  rw [V_eq] at hk ⊢; intro hok p e s m args below meth c H locs ls hf hr hlk hfr hE hP hS hl
  exact lv_ishr hf.1 hf.2.1 hd  (hk hok p e s m args below meth c H locs ls hf hr hlk hfr hE hP hS hl)
set_option maxHeartbeats 1000000 in
theorem z_ladd {x : Int64} {y : Int64} (hd : decode (iB mi) pc = .ok (.ladd, 1)) (hk : V 0 G mi Z (pc + 1) l (zl (x + y) :: st) M) : V 0 G mi Z pc l (zl y :: zl x :: st) M := by
  rw [V_eq] at hk ⊢; intro hok p e s m args below meth c H locs ls hf hr hlk hfr hE hP hS hl
  exact lv_ladd hf.1 hf.2.1 hd  (hk hok p e s m args below meth c H locs ls hf hr hlk hfr hE hP hS hl)
set_option maxHeartbeats 1000000 in
theorem z_lsub {x : Int64} {y : Int64} (hd : decode (iB mi) pc = .ok (.lsub, 1)) (hk : V 0 G mi Z (pc + 1) l (zl (x - y) :: st) M) : V 0 G mi Z pc l (zl y :: zl x :: st) M := by
  rw [V_eq] at hk ⊢; intro hok p e s m args below meth c H locs ls hf hr hlk hfr hE hP hS hl
  exact lv_lsub hf.1 hf.2.1 hd  (hk hok p e s m args below meth c H locs ls hf hr hlk hfr hE hP hS hl)
set_option maxHeartbeats 1000000 in
theorem z_land {x : Int64} {y : Int64} (hd : decode (iB mi) pc = .ok (.land, 1)) (hk : V 0 G mi Z (pc + 1) l (zl (x &&& y) :: st) M) : V 0 G mi Z pc l (zl y :: zl x :: st) M := by
  rw [V_eq] at hk ⊢; intro hok p e s m args below meth c H locs ls hf hr hlk hfr hE hP hS hl
  exact lv_land hf.1 hf.2.1 hd  (hk hok p e s m args below meth c H locs ls hf hr hlk hfr hE hP hS hl)
set_option maxHeartbeats 1000000 in
theorem z_lor {x : Int64} {y : Int64} (hd : decode (iB mi) pc = .ok (.lor, 1)) (hk : V 0 G mi Z (pc + 1) l (zl (x ||| y) :: st) M) : V 0 G mi Z pc l (zl y :: zl x :: st) M := by
  rw [V_eq] at hk ⊢; intro hok p e s m args below meth c H locs ls hf hr hlk hfr hE hP hS hl
  exact lv_lor hf.1 hf.2.1 hd  (hk hok p e s m args below meth c H locs ls hf hr hlk hfr hE hP hS hl)
set_option maxHeartbeats 1000000 in
theorem z_iushr {x : Int32} {y : Int32} (hd : decode (iB mi) pc = .ok (.iushr, 1)) (hk : V 0 G mi Z (pc + 1) l (zi ((x.toUInt32 >>> (y.toUInt32 &&& Int32.toUInt32 31)).toInt32) :: st) M) : V 0 G mi Z pc l (zi y :: zi x :: st) M := by
  rw [V_eq] at hk ⊢; intro hok p e s m args below meth c H locs ls hf hr hlk hfr hE hP hS hl
  exact lv_iushr hf.1 hf.2.1 hd rfl (hk hok p e s m args below meth c H locs ls hf hr hlk hfr hE hP hS hl)
set_option maxHeartbeats 1000000 in
theorem z_lshl {x : Int64} {y : Int32} (hd : decode (iB mi) pc = .ok (.lshl, 1)) (hk : V 0 G mi Z (pc + 1) l (zl (x <<< (y.toInt64 &&& 63)) :: st) M) : V 0 G mi Z pc l (zi y :: zl x :: st) M := by
  rw [V_eq] at hk ⊢; intro hok p e s m args below meth c H locs ls hf hr hlk hfr hE hP hS hl
  exact lv_lshl hf.1 hf.2.1 hd rfl (hk hok p e s m args below meth c H locs ls hf hr hlk hfr hE hP hS hl)
set_option maxHeartbeats 1000000 in
theorem z_lshr {x : Int64} {y : Int32} (hd : decode (iB mi) pc = .ok (.lshr, 1)) (hk : V 0 G mi Z (pc + 1) l (zl (x >>> (y.toInt64 &&& 63)) :: st) M) : V 0 G mi Z pc l (zi y :: zl x :: st) M := by
  rw [V_eq] at hk ⊢; intro hok p e s m args below meth c H locs ls hf hr hlk hfr hE hP hS hl
  exact lv_lshr hf.1 hf.2.1 hd rfl (hk hok p e s m args below meth c H locs ls hf hr hlk hfr hE hP hS hl)
set_option maxHeartbeats 1000000 in
theorem z_lushr {x : Int64} {y : Int32} (hd : decode (iB mi) pc = .ok (.lushr, 1)) (hk : V 0 G mi Z (pc + 1) l (zl ((x.toUInt64 >>> (y.toInt64.toUInt64 &&& Int64.toUInt64 63)).toInt64) :: st) M) : V 0 G mi Z pc l (zi y :: zl x :: st) M := by
  rw [V_eq] at hk ⊢; intro hok p e s m args below meth c H locs ls hf hr hlk hfr hE hP hS hl
  exact lv_lushr hf.1 hf.2.1 hd rfl (hk hok p e s m args below meth c H locs ls hf hr hlk hfr hE hP hS hl)
set_option maxHeartbeats 1000000 in
theorem z_idiv {x : Int32} {y : Int32} (hd : decode (iB mi) pc = .ok (.idiv, 1)) (hne : ¬ y = 0) (hk : V 0 G mi Z (pc + 1) l (zi (x / y) :: st) M) : V 0 G mi Z pc l (zi y :: zi x :: st) M := by
  rw [V_eq] at hk ⊢; intro hok p e s m args below meth c H locs ls hf hr hlk hfr hE hP hS hl
  exact lv_idiv hf.1 hf.2.1 hd hne (hk hok p e s m args below meth c H locs ls hf hr hlk hfr hE hP hS hl)
set_option maxHeartbeats 1000000 in
theorem z_lcmp {x : Int64} {y : Int64} (hd : decode (iB mi) pc = .ok (.lcmp, 1)) (hk : V 0 G mi Z (pc + 1) l (zi (lg_cmp x y) :: st) M) : V 0 G mi Z pc l (zl y :: zl x :: st) M := by
  rw [V_eq] at hk ⊢; intro hok p e s m args below meth c H locs ls hf hr hlk hfr hE hP hS hl
  exact W.lcmp hf.1 hf.2.1 hd  (hk hok p e s m args below meth c H locs ls hf hr hlk hfr hE hP hS hl)
set_option maxHeartbeats 1000000 in
theorem z_irem {x y : Int32} (hd : decode (iB mi) pc = .ok (.irem, 1)) (hne : ¬ y = 0) (hk : V 0 G mi Z (pc + 1) l (zi (x % y) :: st) M) : V 0 G mi Z pc l (zi y :: zi x :: st) M := by
  rw [← irem_eq_mod x y] at hk
  rw [V_eq] at hk ⊢; intro hok p e s m args below meth c H locs ls hf hr hlk hfr hE hP hS hl
  exact lv_irem hf.1 hf.2.1 hd hne (hk hok p e s m args below meth c H locs ls hf hr hlk hfr hE hP hS hl)
set_option maxHeartbeats 1000000 in
theorem z_i2l {x : Int32} (hd : decode (iB mi) pc = .ok (.i2l, 1)) (hk : V 0 G mi Z (pc + 1) l (zl x.toInt64 :: st) M) : V 0 G mi Z pc l (zi x :: st) M := by
  rw [V_eq] at hk ⊢; intro hok p e s m args below meth c H locs ls hf hr hlk hfr hE hP hS hl
  exact lv_i2l hf.1 hf.2.1 hd rfl (hk hok p e s m args below meth c H locs ls hf hr hlk hfr hE hP hS hl)
set_option maxHeartbeats 1000000 in
theorem z_l2i {x : Int64} (hd : decode (iB mi) pc = .ok (.l2i, 1)) (hk : V 0 G mi Z (pc + 1) l (zi x.toInt32 :: st) M) : V 0 G mi Z pc l (zl x :: st) M := by
  rw [V_eq] at hk ⊢; intro hok p e s m args below meth c H locs ls hf hr hlk hfr hE hP hS hl
  exact lv_l2i hf.1 hf.2.1 hd rfl (hk hok p e s m args below meth c H locs ls hf hr hlk hfr hE hP hS hl)
set_option maxHeartbeats 1000000 in
theorem z_if_eq {x : Int32} {off : Int} {tgt : Nat} (hd : decode (iB mi) pc = .ok (.ifCond .eq off, 3)) (ht : (pc : Int) + off = (tgt : Int)) (h1 : x = 0 → V 0 G mi Z tgt l st M) (h2 : ¬ (x = 0) → V 0 G mi Z (pc + 3) l st M) : V 0 G mi Z pc l (zi x :: st) M := by
  rw [V_eq]; intro hok p e s m args below meth c H locs ls hf hr hlk hfr hE hP hS hl
  refine lv_if_eq hf.1 hf.2.1 hd ht (fun h => ?_) (fun h => ?_)
  · have hk := h1 h
    rw [V_eq] at hk
    exact hk hok p e s m args below meth c H locs ls hf hr hlk hfr hE hP hS hl
  · have hk := h2 h
    rw [V_eq] at hk
    exact hk hok p e s m args below meth c H locs ls hf hr hlk hfr hE hP hS hl
set_option maxHeartbeats 1000000 in
theorem z_icmp_eq {x y : Int32} {off : Int} {tgt : Nat} (hd : decode (iB mi) pc = .ok (.if_icmp .eq off, 3)) (ht : (pc : Int) + off = (tgt : Int)) (h1 : x = y → V 0 G mi Z tgt l st M) (h2 : ¬ (x = y) → V 0 G mi Z (pc + 3) l st M) : V 0 G mi Z pc l (zi y :: zi x :: st) M := by
  rw [V_eq]; intro hok p e s m args below meth c H locs ls hf hr hlk hfr hE hP hS hl
  refine lv_icmp_eq hf.1 hf.2.1 hd ht (fun h => ?_) (fun h => ?_)
  · have hk := h1 h
    rw [V_eq] at hk
    exact hk hok p e s m args below meth c H locs ls hf hr hlk hfr hE hP hS hl
  · have hk := h2 h
    rw [V_eq] at hk
    exact hk hok p e s m args below meth c H locs ls hf hr hlk hfr hE hP hS hl
set_option maxHeartbeats 1000000 in
theorem z_if_ne {x : Int32} {off : Int} {tgt : Nat} (hd : decode (iB mi) pc = .ok (.ifCond .ne off, 3)) (ht : (pc : Int) + off = (tgt : Int)) (h1 : ¬ x = 0 → V 0 G mi Z tgt l st M) (h2 : ¬ (¬ x = 0) → V 0 G mi Z (pc + 3) l st M) : V 0 G mi Z pc l (zi x :: st) M := by
  rw [V_eq]; intro hok p e s m args below meth c H locs ls hf hr hlk hfr hE hP hS hl
  refine lv_if_ne hf.1 hf.2.1 hd ht (fun h => ?_) (fun h => ?_)
  · have hk := h1 h
    rw [V_eq] at hk
    exact hk hok p e s m args below meth c H locs ls hf hr hlk hfr hE hP hS hl
  · have hk := h2 (fun q => q h)
    rw [V_eq] at hk
    exact hk hok p e s m args below meth c H locs ls hf hr hlk hfr hE hP hS hl
set_option maxHeartbeats 1000000 in
theorem z_icmp_ne {x y : Int32} {off : Int} {tgt : Nat} (hd : decode (iB mi) pc = .ok (.if_icmp .ne off, 3)) (ht : (pc : Int) + off = (tgt : Int)) (h1 : ¬ x = y → V 0 G mi Z tgt l st M) (h2 : ¬ (¬ x = y) → V 0 G mi Z (pc + 3) l st M) : V 0 G mi Z pc l (zi y :: zi x :: st) M := by
  rw [V_eq]; intro hok p e s m args below meth c H locs ls hf hr hlk hfr hE hP hS hl
  refine lv_icmp_ne hf.1 hf.2.1 hd ht (fun h => ?_) (fun h => ?_)
  · have hk := h1 h
    rw [V_eq] at hk
    exact hk hok p e s m args below meth c H locs ls hf hr hlk hfr hE hP hS hl
  · have hk := h2 (fun q => q h)
    rw [V_eq] at hk
    exact hk hok p e s m args below meth c H locs ls hf hr hlk hfr hE hP hS hl
set_option maxHeartbeats 1000000 in
theorem z_if_lt {x : Int32} {off : Int} {tgt : Nat} (hd : decode (iB mi) pc = .ok (.ifCond .lt off, 3)) (ht : (pc : Int) + off = (tgt : Int)) (h1 : x < 0 → V 0 G mi Z tgt l st M) (h2 : ¬ (x < 0) → V 0 G mi Z (pc + 3) l st M) : V 0 G mi Z pc l (zi x :: st) M := by
  rw [V_eq]; intro hok p e s m args below meth c H locs ls hf hr hlk hfr hE hP hS hl
  refine lv_if_lt hf.1 hf.2.1 hd ht (fun h => ?_) (fun h => ?_)
  · have hk := h1 h
    rw [V_eq] at hk
    exact hk hok p e s m args below meth c H locs ls hf hr hlk hfr hE hP hS hl
  · have hk := h2 h
    rw [V_eq] at hk
    exact hk hok p e s m args below meth c H locs ls hf hr hlk hfr hE hP hS hl
set_option maxHeartbeats 1000000 in
theorem z_icmp_lt {x y : Int32} {off : Int} {tgt : Nat} (hd : decode (iB mi) pc = .ok (.if_icmp .lt off, 3)) (ht : (pc : Int) + off = (tgt : Int)) (h1 : x < y → V 0 G mi Z tgt l st M) (h2 : ¬ (x < y) → V 0 G mi Z (pc + 3) l st M) : V 0 G mi Z pc l (zi y :: zi x :: st) M := by
  rw [V_eq]; intro hok p e s m args below meth c H locs ls hf hr hlk hfr hE hP hS hl
  refine lv_icmp_lt hf.1 hf.2.1 hd ht (fun h => ?_) (fun h => ?_)
  · have hk := h1 h
    rw [V_eq] at hk
    exact hk hok p e s m args below meth c H locs ls hf hr hlk hfr hE hP hS hl
  · have hk := h2 h
    rw [V_eq] at hk
    exact hk hok p e s m args below meth c H locs ls hf hr hlk hfr hE hP hS hl
set_option maxHeartbeats 1000000 in
theorem z_if_ge {x : Int32} {off : Int} {tgt : Nat} (hd : decode (iB mi) pc = .ok (.ifCond .ge off, 3)) (ht : (pc : Int) + off = (tgt : Int)) (h1 : 0 ≤ x → V 0 G mi Z tgt l st M) (h2 : ¬ (0 ≤ x) → V 0 G mi Z (pc + 3) l st M) : V 0 G mi Z pc l (zi x :: st) M := by
  rw [V_eq]; intro hok p e s m args below meth c H locs ls hf hr hlk hfr hE hP hS hl
  refine lv_if_ge hf.1 hf.2.1 hd ht (fun h => ?_) (fun h => ?_)
  · have hk := h1 h
    rw [V_eq] at hk
    exact hk hok p e s m args below meth c H locs ls hf hr hlk hfr hE hP hS hl
  · have hk := h2 h
    rw [V_eq] at hk
    exact hk hok p e s m args below meth c H locs ls hf hr hlk hfr hE hP hS hl
set_option maxHeartbeats 1000000 in
theorem z_icmp_ge {x y : Int32} {off : Int} {tgt : Nat} (hd : decode (iB mi) pc = .ok (.if_icmp .ge off, 3)) (ht : (pc : Int) + off = (tgt : Int)) (h1 : y ≤ x → V 0 G mi Z tgt l st M) (h2 : ¬ (y ≤ x) → V 0 G mi Z (pc + 3) l st M) : V 0 G mi Z pc l (zi y :: zi x :: st) M := by
  rw [V_eq]; intro hok p e s m args below meth c H locs ls hf hr hlk hfr hE hP hS hl
  refine lv_icmp_ge hf.1 hf.2.1 hd ht (fun h => ?_) (fun h => ?_)
  · have hk := h1 h
    rw [V_eq] at hk
    exact hk hok p e s m args below meth c H locs ls hf hr hlk hfr hE hP hS hl
  · have hk := h2 h
    rw [V_eq] at hk
    exact hk hok p e s m args below meth c H locs ls hf hr hlk hfr hE hP hS hl
set_option maxHeartbeats 1000000 in
theorem z_if_gt {x : Int32} {off : Int} {tgt : Nat} (hd : decode (iB mi) pc = .ok (.ifCond .gt off, 3)) (ht : (pc : Int) + off = (tgt : Int)) (h1 : 0 < x → V 0 G mi Z tgt l st M) (h2 : ¬ (0 < x) → V 0 G mi Z (pc + 3) l st M) : V 0 G mi Z pc l (zi x :: st) M := by
  rw [V_eq]; intro hok p e s m args below meth c H locs ls hf hr hlk hfr hE hP hS hl
  refine lv_if_gt hf.1 hf.2.1 hd ht (fun h => ?_) (fun h => ?_)
  · have hk := h1 h
    rw [V_eq] at hk
    exact hk hok p e s m args below meth c H locs ls hf hr hlk hfr hE hP hS hl
  · have hk := h2 h
    rw [V_eq] at hk
    exact hk hok p e s m args below meth c H locs ls hf hr hlk hfr hE hP hS hl
set_option maxHeartbeats 1000000 in
theorem z_icmp_gt {x y : Int32} {off : Int} {tgt : Nat} (hd : decode (iB mi) pc = .ok (.if_icmp .gt off, 3)) (ht : (pc : Int) + off = (tgt : Int)) (h1 : y < x → V 0 G mi Z tgt l st M) (h2 : ¬ (y < x) → V 0 G mi Z (pc + 3) l st M) : V 0 G mi Z pc l (zi y :: zi x :: st) M := by
  rw [V_eq]; intro hok p e s m args below meth c H locs ls hf hr hlk hfr hE hP hS hl
  refine lv_icmp_gt hf.1 hf.2.1 hd ht (fun h => ?_) (fun h => ?_)
  · have hk := h1 h
    rw [V_eq] at hk
    exact hk hok p e s m args below meth c H locs ls hf hr hlk hfr hE hP hS hl
  · have hk := h2 h
    rw [V_eq] at hk
    exact hk hok p e s m args below meth c H locs ls hf hr hlk hfr hE hP hS hl
set_option maxHeartbeats 1000000 in
theorem z_if_le {x : Int32} {off : Int} {tgt : Nat} (hd : decode (iB mi) pc = .ok (.ifCond .le off, 3)) (ht : (pc : Int) + off = (tgt : Int)) (h1 : x ≤ 0 → V 0 G mi Z tgt l st M) (h2 : ¬ (x ≤ 0) → V 0 G mi Z (pc + 3) l st M) : V 0 G mi Z pc l (zi x :: st) M := by
  rw [V_eq]; intro hok p e s m args below meth c H locs ls hf hr hlk hfr hE hP hS hl
  refine lv_if_le hf.1 hf.2.1 hd ht (fun h => ?_) (fun h => ?_)
  · have hk := h1 h
    rw [V_eq] at hk
    exact hk hok p e s m args below meth c H locs ls hf hr hlk hfr hE hP hS hl
  · have hk := h2 h
    rw [V_eq] at hk
    exact hk hok p e s m args below meth c H locs ls hf hr hlk hfr hE hP hS hl
set_option maxHeartbeats 1000000 in
theorem z_icmp_le {x y : Int32} {off : Int} {tgt : Nat} (hd : decode (iB mi) pc = .ok (.if_icmp .le off, 3)) (ht : (pc : Int) + off = (tgt : Int)) (h1 : x ≤ y → V 0 G mi Z tgt l st M) (h2 : ¬ (x ≤ y) → V 0 G mi Z (pc + 3) l st M) : V 0 G mi Z pc l (zi y :: zi x :: st) M := by
  rw [V_eq]; intro hok p e s m args below meth c H locs ls hf hr hlk hfr hE hP hS hl
  refine lv_icmp_le hf.1 hf.2.1 hd ht (fun h => ?_) (fun h => ?_)
  · have hk := h1 h
    rw [V_eq] at hk
    exact hk hok p e s m args below meth c H locs ls hf hr hlk hfr hE hP hS hl
  · have hk := h2 h
    rw [V_eq] at hk
    exact hk hok p e s m args below meth c H locs ls hf hr hlk hfr hE hP hS hl
end
end
section
theorem zTw_good : ∀ w ∈ zTw, (w.onTables && w.keeps) = true ∨ ∃ ty, w = .arrayClass ty := fun w h => good_of_word (List.mem_filter.mp h).2
theorem zuws0 : ∀ q ∈ zcls, ∀ w ∈ u_ws q.1 q.2.1 q.2.2, w ∈ lw_tbl := by decide +kernel
theorem zuws1 : ∀ q ∈ zcls, ∀ w ∈ u_ws q.1 q.2.1 q.2.2, goodWord w = true := by decide +kernel
theorem zuws {ci : Nat} {C : String} {T : u_T} {N : Nat} (h : zcls[ci]? = some (C, T, N)) : ∀ w ∈ u_ws C T N, w ∈ zTw := fun w hw =>
  List.mem_filter.mpr ⟨zuws0 _ (List.mem_of_getElem? h) w hw, zuws1 _ (List.mem_of_getElem? h) w hw⟩
theorem ztyp : ∀ q ∈ zcls, ∀ k, k < q.2.2 → (parseFieldDescriptor (q.2.1 k).2.2.1).isSome = true := by decide +kernel
theorem zname : ∀ q ∈ zcls, ∀ a, a < q.2.2 → ∀ b, b < q.2.2 → a ≠ b → (q.2.1 a).2.1 ≠ (q.2.1 b).2.1 := by decide +kernel
theorem zfs_get {G : ZG} {M : ZM} {k i f : Nat} {fs : List ZF} {fd : ZF} (h : fs[f]? = some fd) : (zfs G M k i fs)[f]? = some (zc G (zfv k i f M fd)) := by
  unfold zfs
  rw [List.getElem?_map, List.getElem?_zipIdx, h]
  simp
theorem zfs_len {G : ZG} {M : ZM} {k i : Nat} {fs : List ZF} : (zfs G M k i fs).length = fs.length := by
  unfold zfs
  simp
theorem zfs_set {G : ZG} {M : ZM} {k i f : Nat} {x : Int32} {fs : List ZF} (h : fs[f]? = some none) : zfs G (zset k i f x M) k i fs = (zfs G M k i fs).set f (.int x) := by
  apply List.ext_getElem?
  intro n
  rw [List.getElem?_set]
  by_cases hn : f = n
  · subst hn
    have hlt := (List.getElem?_eq_some_iff.mp h).1
    rw [if_pos rfl, if_pos (by rw [zfs_len]; exact hlt), zfs_get h]
    simp [zfv, zset, zc]
  · rw [if_neg hn]
    cases hc : fs[n]? with
    | none =>
      have h1 : fs.length ≤ n := List.getElem?_eq_none_iff.mp hc
      rw [List.getElem?_eq_none_iff.mpr (by rw [zfs_len]; exact h1), List.getElem?_eq_none_iff.mpr (by rw [zfs_len]; exact h1)]
    | some fd =>
      rw [zfs_get hc, zfs_get hc]
      cases fd with
      | none =>
        simp only [zfv, zset]
        rw [if_neg (fun q => hn q.2.2.symm)]
      | some fd => rcases fd with ⟨a, b, c⟩; cases c <;> rfl
theorem zent_obj {G : ZG} {M : ZM} {k i ci : Nat} {fs : List ZF} (h : zK k = .inl (ci, fs)) : zent G M k i = .inr (ci, zfs G M k i fs) := by
  unfold zent; rw [h]
theorem zent_arr {G : ZG} {M : ZM} {k i t n : Nat} (h : zK k = .inr (t, n)) : zent G M k i = .inl (zarr G M k i t n) := by
  unfold zent; rw [h]
theorem zset_heap {G : ZG} {M : ZM} {k i j q0 : Nat} {v : Int32} {e' : va_E} (hq : zcells[q0]? = some (k, i)) (he : zent G (zset k i j v M) k i = e') : (zws G M).set q0 (ga G k i, e') = zws G (zset k i j v M) :=
  zws_set hq (fun a b h => ⟨(zset_off h).symm, rfl⟩) he
theorem zsetL_heap {G : ZG} {M : ZM} {k i j q0 : Nat} {v : Int64} {e' : va_E} (hq : zcells[q0]? = some (k, i)) (he : zent G (zsetL k i j v M) k i = e') : (zws G M).set q0 (ga G k i, e') = zws G (zsetL k i j v M) :=
  zws_set hq (fun a b h => ⟨rfl, (zsetL_off h).symm⟩) he
section
variable {G : ZG} {mi : ZI} {Z : Option ZV → ZM → Prop} {pc : Nat} {l : ZL} {st : List ZV} {M : ZM}
set_option maxHeartbeats 1000000 in
theorem z_getfield {n kd ix ci f N : Nat} {fs : List ZF} {fd : ZF} {C : String} {T : u_T} (hd : decode (iB mi) pc = .ok (.getfield n, 3)) (hk0 : zK kd = .inl (ci, fs)) (hv : zval kd ix) (hfd : fs[f]? = some fd) (hc : zcls[ci]? = some (C, T, N)) (hN : f < N)
    (hw : Jvm.Cond.fieldLink (iN mi).cls n (T f).1 (T f).2.1 (T f).2.2.1 ∈ zTw) (hk : V 0 G mi Z (pc + 3) l (zfv kd ix f M fd :: st) M) : V 0 G mi Z pc l (zr kd ix :: st) M := by
  rw [V_eq] at hk ⊢; intro hok p e s m args below meth c H locs ls hf hr hlk hfr hE hP hS hl
  obtain ⟨q0, hq0, hq1⟩ := zws_at (G := G) hv
  have he := hq1 M
  rw [zent_obj hk0] at he
  exact va_get (D := gD G) (ci := ci) (C := C) (T := T) (N := N) hf.1 hf.2.1 hf.2.2.2.2 (zuws hc) hf.2.2.2.1 hE.1 hP q0 he hc f hN (hf.2.2.2.2 _ hw) (fun _ h => h) (zfs_get hfd) hd (hk hok p e s m args below meth c H locs ls hf hr hlk hfr hE hP hS hl)
set_option maxHeartbeats 1000000 in
theorem z_putfield {n kd ix ci f N : Nat} {fs : List ZF} {C : String} {T : u_T} {x : Int32} (hd : decode (iB mi) pc = .ok (.putfield n, 3)) (hk0 : zK kd = .inl (ci, fs)) (hv : zval kd ix) (hfd : fs[f]? = some none) (hc : zcls[ci]? = some (C, T, N)) (hN : f < N)
    (hw : Jvm.Cond.fieldLink (iN mi).cls n (T f).1 (T f).2.1 (T f).2.2.1 ∈ zTw) (hfin : (T f).2.2.2 = false) (hty : parseFieldDescriptor (T f).2.2.1 = some .int) (hk : V 0 G mi Z (pc + 3) l st (zset kd ix f x M)) : V 0 G mi Z pc l (zi x :: zr kd ix :: st) M := by
  rw [V_eq] at hk ⊢; intro hok p e s m args below meth c H locs ls hf hr hlk hfr hE hP hS hl
  obtain ⟨q0, hq0, hq1⟩ := zws_at (G := G) hv
  have he := hq1 M
  rw [zent_obj hk0] at he
  have hlt : f < (zfs G M kd ix fs).length := by rw [zfs_len]; exact (List.getElem?_eq_some_iff.mp hfd).1
  have hcm := List.mem_of_getElem? hc
  refine va_put (D := gD G) (ci := ci) (C := C) (T := T) (N := N) (ty := .int) (v := .int x) hf.1 hf.2.1 hf.2.2.2.2 (zuws hc) (fun k => (parseFieldDescriptor (T k).2.2.1).getD .int) (fun k hk => ?_) (zname _ hcm) hf.2.2.2.1 hE.1 hP (zws_D hok M) hS q0 he hc f hN (hf.2.2.2.2 _ hw) (fun _ h => h) hfin hty rfl rfl hlt hd (fun H1 locs1 hP1 hD1 hS1 => ?_)
  · have h := ztyp _ hcm k hk
    obtain ⟨t, ht⟩ := Option.isSome_iff_exists.mp h
    rw [ht]; rfl
  · rw [zset_heap hq0 (by rw [zent_obj hk0, zfs_set hfd])] at hP1
    exact hk hok p e s m args below meth c H1 locs1 ls hf hr hlk hfr hE hP1 hS1 hl
set_option maxHeartbeats 1000000 in
theorem z_iaload {kd ix n : Nat} {i : Int32} (hd : decode (iB mi) pc = .ok (.iaload, 1)) (hk0 : zK kd = .inr (0, n)) (hv : zval kd ix) (hin : vp_in i n) (hk : V 0 G mi Z (pc + 1) l (zi (M.1 kd ix i.toNatClampNeg) :: st) M) : V 0 G mi Z pc l (zi i :: zr kd ix :: st) M := by
  rw [V_eq] at hk ⊢; intro hok p e s m args below meth c H locs ls hf hr hlk hfr hE hP hS hl
  obtain ⟨q0, hq0, hq1⟩ := zws_at (G := G) hv
  have he := hq1 M
  rw [zent_arr hk0] at he
  exact va_iald (D := gD G) hf.1 hf.2.1 hE.1 hP q0 0 he rfl hin hd (hk hok p e s m args below meth c H locs ls hf hr hlk hfr hE hP hS hl)
set_option maxHeartbeats 1000000 in
theorem z_baload {kd ix n : Nat} {i : Int32} (hd : decode (iB mi) pc = .ok (.baload, 1)) (hk0 : zK kd = .inr (2, n)) (hv : zval kd ix) (hin : vp_in i n) (hk : V 0 G mi Z (pc + 1) l (zi (M.1 kd ix i.toNatClampNeg) :: st) M) : V 0 G mi Z pc l (zi i :: zr kd ix :: st) M := by
  rw [V_eq] at hk ⊢; intro hok p e s m args below meth c H locs ls hf hr hlk hfr hE hP hS hl
  obtain ⟨q0, hq0, hq1⟩ := zws_at (G := G) hv
  have he := hq1 M
  rw [zent_arr hk0] at he
  exact va_zald (D := gD G) hf.1 hf.2.1 hE.1 hP q0 2 he rfl hin hd (hk hok p e s m args below meth c H locs ls hf hr hlk hfr hE hP hS hl)
set_option maxHeartbeats 1000000 in
theorem z_laload {kd ix n : Nat} {i : Int32} (hd : decode (iB mi) pc = .ok (.laload, 1)) (hk0 : zK kd = .inr (1, n)) (hv : zval kd ix) (hin : vp_in i n) (hk : V 0 G mi Z (pc + 1) l (zl (M.2 kd ix i.toNatClampNeg) :: st) M) : V 0 G mi Z pc l (zi i :: zr kd ix :: st) M := by
  rw [V_eq] at hk ⊢; intro hok p e s m args below meth c H locs ls hf hr hlk hfr hE hP hS hl
  obtain ⟨q0, hq0, hq1⟩ := zws_at (G := G) hv
  have he := hq1 M
  rw [zent_arr hk0] at he
  exact va_lald (D := gD G) hf.1 hf.2.1 hE.1 hP q0 1 he rfl hin hd (hk hok p e s m args below meth c H locs ls hf hr hlk hfr hE hP hS hl)
set_option maxHeartbeats 1000000 in
theorem z_aaload3 {kd ix n : Nat} {i : Int32} (hd : decode (iB mi) pc = .ok (.aaload, 1)) (hk0 : zK kd = .inr (3, n)) (hv : zval kd ix) (hin : vp_in i n) (hk : V 0 G mi Z (pc + 1) l (zr 0 i.toNatClampNeg :: st) M) : V 0 G mi Z pc l (zi i :: zr kd ix :: st) M := by
  rw [V_eq] at hk ⊢; intro hok p e s m args below meth c H locs ls hf hr hlk hfr hE hP hS hl
  obtain ⟨q0, hq0, hq1⟩ := zws_at (G := G) hv
  have he := hq1 M
  rw [zent_arr hk0] at he
  exact va_aldq (D := gD G) hf.1 hf.2.1 hE.1 hP q0 3 he rfl hin hd (hk hok p e s m args below meth c H locs ls hf hr hlk hfr hE hP hS hl)
set_option maxHeartbeats 1000000 in
theorem z_aaload4 {kd ix n : Nat} {i : Int32} (hd : decode (iB mi) pc = .ok (.aaload, 1)) (hk0 : zK kd = .inr (4, n)) (hv : zval kd ix) (hin : vp_in i n) (hk : V 0 G mi Z (pc + 1) l (zr 2 i.toNatClampNeg :: st) M) : V 0 G mi Z pc l (zi i :: zr kd ix :: st) M := by
  rw [V_eq] at hk ⊢; intro hok p e s m args below meth c H locs ls hf hr hlk hfr hE hP hS hl
  obtain ⟨q0, hq0, hq1⟩ := zws_at (G := G) hv
  have he := hq1 M
  rw [zent_arr hk0] at he
  exact va_aldq (D := gD G) hf.1 hf.2.1 hE.1 hP q0 4 he rfl hin hd (hk hok p e s m args below meth c H locs ls hf hr hlk hfr hE hP hS hl)
set_option maxHeartbeats 1000000 in
theorem z_iastore {kd ix n : Nat} {i x : Int32} (hd : decode (iB mi) pc = .ok (.iastore, 1)) (hk0 : zK kd = .inr (0, n)) (hv : zval kd ix) (hin : vp_in i n) (hk : V 0 G mi Z (pc + 1) l st (zset kd ix i.toNatClampNeg x M)) : V 0 G mi Z pc l (zi x :: zi i :: zr kd ix :: st) M := by
  rw [V_eq] at hk ⊢; intro hok p e s m args below meth c H locs ls hf hr hlk hfr hE hP hS hl
  obtain ⟨q0, hq0, hq1⟩ := zws_at (G := G) hv
  have he := hq1 M
  rw [zent_arr hk0] at he
  refine va_iast (D := gD G) hf.1 hf.2.1 hE.1 hP (zws_D hok M) hS q0 0 he rfl hin hd (fun H1 locs1 hP1 hD1 hS1 => ?_)
  rw [zset_heap (j := i.toNatClampNeg) (v := x) hq0 (by rw [zent_arr hk0]; simp only [zarr, zset_row])] at hP1
  exact hk hok p e s m args below meth c H1 locs1 ls hf hr hlk hfr hE hP1 hS1 hl
set_option maxHeartbeats 1000000 in
theorem z_bastore {kd ix n : Nat} {i x : Int32} (hd : decode (iB mi) pc = .ok (.bastore, 1)) (hk0 : zK kd = .inr (2, n)) (hv : zval kd ix) (hin : vp_in i n) (hx : x = 0 ∨ x = 1) (hk : V 0 G mi Z (pc + 1) l st (zset kd ix i.toNatClampNeg x M)) : V 0 G mi Z pc l (zi x :: zi i :: zr kd ix :: st) M := by
  rw [V_eq] at hk ⊢; intro hok p e s m args below meth c H locs ls hf hr hlk hfr hE hP hS hl
  obtain ⟨q0, hq0, hq1⟩ := zws_at (G := G) hv
  have he := hq1 M
  rw [zent_arr hk0] at he
  have hx2 : vp_nar .boolean x = x := by rcases hx with rfl | rfl <;> rfl
  refine va_zast (D := gD G) hf.1 hf.2.1 hE.1 hP (zws_D hok M) hS q0 2 he rfl hin hd (fun H1 locs1 hP1 hD1 hS1 => ?_)
  rw [hx2, zset_heap (j := i.toNatClampNeg) (v := x) hq0 (by rw [zent_arr hk0]; simp only [zarr, zset_row])] at hP1
  exact hk hok p e s m args below meth c H1 locs1 ls hf hr hlk hfr hE hP1 hS1 hl
set_option maxHeartbeats 1000000 in
theorem z_lastore {kd ix n : Nat} {i : Int32} {x : Int64} (hd : decode (iB mi) pc = .ok (.lastore, 1)) (hk0 : zK kd = .inr (1, n)) (hv : zval kd ix) (hin : vp_in i n) (hk : V 0 G mi Z (pc + 1) l st (zsetL kd ix i.toNatClampNeg x M)) : V 0 G mi Z pc l (zl x :: zi i :: zr kd ix :: st) M := by
  rw [V_eq] at hk ⊢; intro hok p e s m args below meth c H locs ls hf hr hlk hfr hE hP hS hl
  obtain ⟨q0, hq0, hq1⟩ := zws_at (G := G) hv
  have he := hq1 M
  rw [zent_arr hk0] at he
  refine va_last (D := gD G) hf.1 hf.2.1 hE.1 hP (zws_D hok M) hS q0 1 he rfl hin hd (fun H1 locs1 hP1 hD1 hS1 => ?_)
  rw [zsetL_heap (j := i.toNatClampNeg) (v := x) hq0 (by rw [zent_arr hk0]; simp only [zarr, zsetL_row])] at hP1
  exact hk hok p e s m args below meth c H1 locs1 ls hf hr hlk hfr hE hP1 hS1 hl
set_option maxHeartbeats 1000000 in
theorem z_alen {kd ix t n : Nat} (hd : decode (iB mi) pc = .ok (.arraylength, 1)) (hk0 : zK kd = .inr (t, n)) (ht : t < 3) (hv : zval kd ix) (hk : V 0 G mi Z (pc + 1) l (zi (Int32.ofNat n) :: st) M) : V 0 G mi Z pc l (zr kd ix :: st) M := by
  rw [V_eq] at hk ⊢; intro hok p e s m args below meth c H locs ls hf hr hlk hfr hE hP hS hl
  obtain ⟨q0, hq0, hq1⟩ := zws_at (G := G) hv
  have he := hq1 M
  rw [zent_arr hk0] at he
  match t, ht with
  | 0, _ => exact va_alen (D := gD G) hf.1 hf.2.1 hE.1 hP q0 0 he rfl rfl hd (hk hok p e s m args below meth c H locs ls hf hr hlk hfr hE hP hS hl)
  | 1, _ => exact va_alen (D := gD G) hf.1 hf.2.1 hE.1 hP q0 1 he rfl rfl hd (hk hok p e s m args below meth c H locs ls hf hr hlk hfr hE hP hS hl)
  | 2, _ => exact va_alen (D := gD G) hf.1 hf.2.1 hE.1 hP q0 2 he rfl rfl hd (hk hok p e s m args below meth c H locs ls hf hr hlk hfr hE hP hS hl)
set_option maxHeartbeats 1000000 in
theorem z_rows {i : Int32} (hd : decode (iB mi) pc = .ok (.laload, 1)) (hin : vp_in i 31) (hk : V 0 G mi Z (pc + 1) l (zl (zrows i.toNatClampNeg) :: st) M) : V 0 G mi Z pc l (zi i :: zr 38 0 :: st) M := by
  rw [V_eq] at hk ⊢; intro hok p e s m args below meth c H locs ls hf hr hlk hfr hE hP hS hl
  exact va_tl hf.1 hf.2.1 hE.2.2.1 hS hin rfl hd (hk hok p e s m args below meth c H locs ls hf hr hlk hfr hE hP hS hl)
set_option maxHeartbeats 1000000 in
theorem z_script {i : Int32} (hd : decode (iB mi) pc = .ok (.iaload, 1)) (hin : vp_in i (gN G)) (hk : V 0 G mi Z (pc + 1) l (zi (gX G i.toNatClampNeg) :: st) M) : V 0 G mi Z pc l (zi i :: zr 39 0 :: st) M := by
  rw [V_eq] at hk ⊢; intro hok p e s m args below meth c H locs ls hf hr hlk hfr hE hP hS hl
  exact va_ti hf.1 hf.2.1 hE.2.2.2.1 hS hin rfl hd (hk hok p e s m args below meth c H locs ls hf hr hlk hfr hE hP hS hl)
set_option maxHeartbeats 1000000 in
theorem z_scriptlen (hd : decode (iB mi) pc = .ok (.arraylength, 1)) (hk : V 0 G mi Z (pc + 1) l (zi (Int32.ofNat (gN G)) :: st) M) : V 0 G mi Z pc l (zr 39 0 :: st) M := by
  rw [V_eq] at hk ⊢; intro hok p e s m args below meth c H locs ls hf hr hlk hfr hE hP hS hl
  exact va_tlen hf.1 hf.2.1 hE.2.2.2.1 hS rfl hd (hk hok p e s m args below meth c H locs ls hf hr hlk hfr hE hP hS hl)
set_option maxHeartbeats 1000000 in
theorem z_getrows {n : Nat} (hd : decode (iB mi) pc = .ok (.getstatic n, 3)) (hw : Jvm.Cond.fieldLink (iN mi).cls n "ThreeStrandMaps$SolutionList" "ROWS" "[J" ∈ zTw) (hk : V 0 G mi Z (pc + 3) l (zr 38 0 :: st) M) : V 0 G mi Z pc l st M := by
  rw [V_eq] at hk ⊢; intro hok p e s m args below meth c H locs ls hf hr hlk hfr hE hP hS hl
  exact va_gets hf.1 hf.2.1 hE.2.1 hS hf.2.2.2.1 (hf.2.2.2.2 _ hw) (fun _ h => h) hd (hk hok p e s m args below meth c H locs ls hf hr hlk hfr hE hP hS hl)
set_option maxHeartbeats 1000000 in
theorem z_dup {v : ZV} (hd : decode (iB mi) pc = .ok (.dup, 1)) (hv : zcat v = 1) (hk : V 0 G mi Z (pc + 1) l (v :: v :: st) M) : V 0 G mi Z pc l (v :: st) M := by
  rw [V_eq] at hk ⊢; intro hok p e s m args below meth c H locs ls hf hr hlk hfr hE hP hS hl
  exact lv_dup hf.1 hf.2.1 hd (by rw [zcat_eq]; exact hv) (hk hok p e s m args below meth c H locs ls hf hr hlk hfr hE hP hS hl)
set_option maxHeartbeats 1000000 in
theorem z_dup2 {v w : ZV} (hd : decode (iB mi) pc = .ok (.dup2, 1)) (hv : zcat v = 1) (hw : zcat w = 1) (hk : V 0 G mi Z (pc + 1) l (v :: w :: v :: w :: st) M) : V 0 G mi Z pc l (v :: w :: st) M := by
  rw [V_eq] at hk ⊢; intro hok p e s m args below meth c H locs ls hf hr hlk hfr hE hP hS hl
  exact lv_dup2_11 hf.1 hf.2.1 hd (by rw [zcat_eq]; exact hv) (by rw [zcat_eq]; exact hw) (hk hok p e s m args below meth c H locs ls hf hr hlk hfr hE hP hS hl)
set_option maxHeartbeats 1000000 in
theorem z_goto {off : Int} {tgt : Nat} (hd : decode (iB mi) pc = .ok (.goto off, 3)) (ht : (pc : Int) + off = (tgt : Int)) (hk : V 0 G mi Z tgt l st M) : V 0 G mi Z pc l st M := by
  rw [V_eq] at hk ⊢; intro hok p e s m args below meth c H locs ls hf hr hlk hfr hE hP hS hl
  exact lv_goto hf.1 hf.2.1 hd ht (hk hok p e s m args below meth c H locs ls hf hr hlk hfr hE hP hS hl)
set_option maxHeartbeats 1000000 in
theorem z_iinc {n : Nat} {a : Int} {x y : Int32} (hd : decode (iB mi) pc = .ok (.iinc n a, 3)) (hg : lget l n = some (zi x)) (hy : Int32.ofInt a = y) (hn : n < iL mi) (hk : V 0 G mi Z (pc + 3) (lput n (zi (x + y)) l) st M) : V 0 G mi Z pc l st M := by
  rw [V_eq] at hk ⊢
  intro hok p e s m args below meth c H locs ls0 hf hr hlk hfr hE hP hS hl
  obtain ⟨k, hk9⟩ := List.getElem?_of_mem (List.mem_map.mpr ⟨(n, zi x), lget_mem hg, rfl⟩ : (n, zc G (zi x)) ∈ zlm G l)
  exact lv_iinc hf.1 hf.2.1 hd hl (k := k) hk9 (by rw [hy]) hn rfl (fun ls hl2 => hk hok p e s m args below meth c H locs ls hf hr hlk hfr hE hP hS (lput_has1 hl2))
theorem V_sub {l' : ZL} (hs : ∀ q ∈ l', q ∈ l) (hk : V 0 G mi Z pc l' st M) : V 0 G mi Z pc l st M := by
  rw [V_eq] at hk ⊢; intro hok p e s m args below meth c H locs ls hf hr hlk hfr hE hP hS hl
  exact hk hok p e s m args below meth c H locs ls hf hr hlk hfr hE hP hS (zkeep_has hl hs)
end
end
