section
/-- a private method of a class that the tables say can be made, by its rows of tables_1 -/
def lw_okq (q : MethodName × Nat) : Prop := (q.1.cls ≠ "java/lang/invoke/MethodHandle" ∧ q.1.cls ≠ "java/lang/invoke/VarHandle") ∧ Cond.instantiable q.1.cls q.2 ∈ tables_1 ∧ Cond.privateMethod q.1 ∈ tables_1 ∧ Cond.instanceMethod q.1 ∈ tables_1
theorem lw_p0 : lw_okq (⟨"ThreeStrandMaps", "keepMade", "(I)I"⟩, 10) := ⟨⟨by decide +kernel, by decide +kernel⟩, List.mem_of_getElem? (i := 18) (by decide +kernel), List.mem_of_getElem? (i := 203) (by decide +kernel), List.mem_of_getElem? (i := 204) (by decide +kernel)⟩
theorem lw_p1 : lw_okq (⟨"ThreeStrandMaps", "mapAt", "(I)LThreeStrandMaps$PairMap;"⟩, 10) := ⟨⟨by decide +kernel, by decide +kernel⟩, List.mem_of_getElem? (i := 18) (by decide +kernel), List.mem_of_getElem? (i := 306) (by decide +kernel), List.mem_of_getElem? (i := 307) (by decide +kernel)⟩
theorem lw_p2 : lw_okq (⟨"ThreeStrandMaps$PairMap", "setShifted", "(LThreeStrandMaps$PairMap;I)V"⟩, 2) := ⟨⟨by decide +kernel, by decide +kernel⟩, List.mem_of_getElem? (i := 29) (by decide +kernel), List.mem_of_getElem? (i := 375) (by decide +kernel), List.mem_of_getElem? (i := 376) (by decide +kernel)⟩
theorem lw_p3 : lw_okq (⟨"ThreeStrandMaps$PairMap", "setBlock", "(LThreeStrandMaps$PairMap;LThreeStrandMaps$PairMap;II)V"⟩, 2) := ⟨⟨by decide +kernel, by decide +kernel⟩, List.mem_of_getElem? (i := 29) (by decide +kernel), List.mem_of_getElem? (i := 389) (by decide +kernel), List.mem_of_getElem? (i := 390) (by decide +kernel)⟩
theorem lw_p4 : lw_okq (⟨"ThreeStrandMaps$RowGroup", "add", "(I)V"⟩, 3) := ⟨⟨by decide +kernel, by decide +kernel⟩, List.mem_of_getElem? (i := 93) (by decide +kernel), List.mem_of_getElem? (i := 501) (by decide +kernel), List.mem_of_getElem? (i := 502) (by decide +kernel)⟩
theorem lw_p5 : lw_okq (⟨"ThreeStrandMaps$Renamings", "start", "()V"⟩, 1) := ⟨⟨by decide +kernel, by decide +kernel⟩, List.mem_of_getElem? (i := 83) (by decide +kernel), List.mem_of_getElem? (i := 516) (by decide +kernel), List.mem_of_getElem? (i := 517) (by decide +kernel)⟩
theorem lw_p6 : lw_okq (⟨"ThreeStrandMaps$Renamings", "isIsomorphism", "(LThreeStrandMaps$PairMap;LThreeStrandMaps$PairMap;)Z"⟩, 1) := ⟨⟨by decide +kernel, by decide +kernel⟩, List.mem_of_getElem? (i := 83) (by decide +kernel), List.mem_of_getElem? (i := 523) (by decide +kernel), List.mem_of_getElem? (i := 524) (by decide +kernel)⟩
theorem lw_p7 : lw_okq (⟨"ThreeStrandMaps$Renamings", "imageOf", "(I)I"⟩, 1) := ⟨⟨by decide +kernel, by decide +kernel⟩, List.mem_of_getElem? (i := 83) (by decide +kernel), List.mem_of_getElem? (i := 527) (by decide +kernel), List.mem_of_getElem? (i := 528) (by decide +kernel)⟩
theorem lw_p8 : lw_okq (⟨"ThreeStrandMaps$Renamings", "step", "(I)V"⟩, 1) := ⟨⟨by decide +kernel, by decide +kernel⟩, List.mem_of_getElem? (i := 83) (by decide +kernel), List.mem_of_getElem? (i := 534) (by decide +kernel), List.mem_of_getElem? (i := 535) (by decide +kernel)⟩
theorem lw_p9 : lw_okq (⟨"ThreeStrandMaps$Renamings", "swap", "(II)V"⟩, 1) := ⟨⟨by decide +kernel, by decide +kernel⟩, List.mem_of_getElem? (i := 83) (by decide +kernel), List.mem_of_getElem? (i := 538) (by decide +kernel), List.mem_of_getElem? (i := 539) (by decide +kernel)⟩
theorem lw_p10 : lw_okq (⟨"ThreeStrandMaps$Renamings", "renamedRows", "(LThreeStrandMaps$PairMap;)J"⟩, 1) := ⟨⟨by decide +kernel, by decide +kernel⟩, List.mem_of_getElem? (i := 83) (by decide +kernel), List.mem_of_getElem? (i := 572) (by decide +kernel), List.mem_of_getElem? (i := 573) (by decide +kernel)⟩
theorem lw_p11 : lw_okq (⟨"ThreeStrandMaps$Renamings", "code", "(I)I"⟩, 1) := ⟨⟨by decide +kernel, by decide +kernel⟩, List.mem_of_getElem? (i := 83) (by decide +kernel), List.mem_of_getElem? (i := 630) (by decide +kernel), List.mem_of_getElem? (i := 631) (by decide +kernel)⟩
theorem lw_p12 : lw_okq (⟨"ThreeStrandMaps$WordClasses", "join", "(II)V"⟩, 2) := ⟨⟨by decide +kernel, by decide +kernel⟩, List.mem_of_getElem? (i := 110) (by decide +kernel), List.mem_of_getElem? (i := 645) (by decide +kernel), List.mem_of_getElem? (i := 646) (by decide +kernel)⟩
theorem lw_p13 : lw_okq (⟨"ThreeStrandMaps$WordClasses", "smallerOf", "(I)I"⟩, 2) := ⟨⟨by decide +kernel, by decide +kernel⟩, List.mem_of_getElem? (i := 110) (by decide +kernel), List.mem_of_getElem? (i := 653) (by decide +kernel), List.mem_of_getElem? (i := 654) (by decide +kernel)⟩
theorem lw_p14 : lw_okq (⟨"ThreeStrandMaps", "braidAt", "(I)LThreeStrandMaps$Braid;"⟩, 10) := ⟨⟨by decide +kernel, by decide +kernel⟩, List.mem_of_getElem? (i := 18) (by decide +kernel), List.mem_of_getElem? (i := 687) (by decide +kernel), List.mem_of_getElem? (i := 688) (by decide +kernel)⟩
theorem lw_p15 : lw_okq (⟨"ThreeStrandMaps", "actionError", "(III)I"⟩, 10) := ⟨⟨by decide +kernel, by decide +kernel⟩, List.mem_of_getElem? (i := 18) (by decide +kernel), List.mem_of_getElem? (i := 760) (by decide +kernel), List.mem_of_getElem? (i := 761) (by decide +kernel)⟩
def lw_privs_1 : List (MethodName × Nat) := [(⟨"ThreeStrandMaps", "keepMade", "(I)I"⟩, 10), (⟨"ThreeStrandMaps", "mapAt", "(I)LThreeStrandMaps$PairMap;"⟩, 10), (⟨"ThreeStrandMaps$PairMap", "setShifted", "(LThreeStrandMaps$PairMap;I)V"⟩, 2), (⟨"ThreeStrandMaps$PairMap", "setBlock", "(LThreeStrandMaps$PairMap;LThreeStrandMaps$PairMap;II)V"⟩, 2), (⟨"ThreeStrandMaps$RowGroup", "add", "(I)V"⟩, 3), (⟨"ThreeStrandMaps$Renamings", "start", "()V"⟩, 1), (⟨"ThreeStrandMaps$Renamings", "isIsomorphism", "(LThreeStrandMaps$PairMap;LThreeStrandMaps$PairMap;)Z"⟩, 1), (⟨"ThreeStrandMaps$Renamings", "imageOf", "(I)I"⟩, 1), (⟨"ThreeStrandMaps$Renamings", "step", "(I)V"⟩, 1), (⟨"ThreeStrandMaps$Renamings", "swap", "(II)V"⟩, 1), (⟨"ThreeStrandMaps$Renamings", "renamedRows", "(LThreeStrandMaps$PairMap;)J"⟩, 1), (⟨"ThreeStrandMaps$Renamings", "code", "(I)I"⟩, 1), (⟨"ThreeStrandMaps$WordClasses", "join", "(II)V"⟩, 2), (⟨"ThreeStrandMaps$WordClasses", "smallerOf", "(I)I"⟩, 2), (⟨"ThreeStrandMaps", "braidAt", "(I)LThreeStrandMaps$Braid;"⟩, 10), (⟨"ThreeStrandMaps", "actionError", "(III)I"⟩, 10)]
theorem lw_r1 : ∀ q ∈ lw_privs_1, lw_okq q := List.forall_mem_cons.mpr ⟨lw_p0, List.forall_mem_cons.mpr ⟨lw_p1, List.forall_mem_cons.mpr ⟨lw_p2, List.forall_mem_cons.mpr ⟨lw_p3, List.forall_mem_cons.mpr ⟨lw_p4, List.forall_mem_cons.mpr ⟨lw_p5, List.forall_mem_cons.mpr ⟨lw_p6, List.forall_mem_cons.mpr ⟨lw_p7, List.forall_mem_cons.mpr ⟨lw_p8, List.forall_mem_cons.mpr ⟨lw_p9, List.forall_mem_cons.mpr ⟨lw_p10, List.forall_mem_cons.mpr ⟨lw_p11, List.forall_mem_cons.mpr ⟨lw_p12, List.forall_mem_cons.mpr ⟨lw_p13, List.forall_mem_cons.mpr ⟨lw_p14, List.forall_mem_cons.mpr ⟨lw_p15, fun _ h => absurd h List.not_mem_nil⟩⟩⟩⟩⟩⟩⟩⟩⟩⟩⟩⟩⟩⟩⟩⟩
theorem lw_p16 : lw_okq (⟨"ThreeStrandMaps$BraidAction", "tuples", "(I)I"⟩, 3) := ⟨⟨by decide +kernel, by decide +kernel⟩, List.mem_of_getElem? (i := 123) (by decide +kernel), List.mem_of_getElem? (i := 768) (by decide +kernel), List.mem_of_getElem? (i := 769) (by decide +kernel)⟩
theorem lw_p17 : lw_okq (⟨"ThreeStrandMaps$BraidAction", "isSeen", "(I)Z"⟩, 3) := ⟨⟨by decide +kernel, by decide +kernel⟩, List.mem_of_getElem? (i := 123) (by decide +kernel), List.mem_of_getElem? (i := 786) (by decide +kernel), List.mem_of_getElem? (i := 787) (by decide +kernel)⟩
theorem lw_p18 : lw_okq (⟨"ThreeStrandMaps$BraidAction", "cycleLength", "(LThreeStrandMaps$Braid;II)I"⟩, 3) := ⟨⟨by decide +kernel, by decide +kernel⟩, List.mem_of_getElem? (i := 123) (by decide +kernel), List.mem_of_getElem? (i := 790) (by decide +kernel), List.mem_of_getElem? (i := 791) (by decide +kernel)⟩
theorem lw_p19 : lw_okq (⟨"ThreeStrandMaps$BraidAction", "see", "(I)V"⟩, 3) := ⟨⟨by decide +kernel, by decide +kernel⟩, List.mem_of_getElem? (i := 123) (by decide +kernel), List.mem_of_getElem? (i := 794) (by decide +kernel), List.mem_of_getElem? (i := 795) (by decide +kernel)⟩
theorem lw_p20 : lw_okq (⟨"ThreeStrandMaps", "mapsHeld", "()I"⟩, 10) := ⟨⟨by decide +kernel, by decide +kernel⟩, List.mem_of_getElem? (i := 18) (by decide +kernel), List.mem_of_getElem? (i := 833) (by decide +kernel), List.mem_of_getElem? (i := 834) (by decide +kernel)⟩
theorem lw_p21 : lw_okq (⟨"ThreeStrandMaps", "pointsHeld", "()I"⟩, 10) := ⟨⟨by decide +kernel, by decide +kernel⟩, List.mem_of_getElem? (i := 18) (by decide +kernel), List.mem_of_getElem? (i := 837) (by decide +kernel), List.mem_of_getElem? (i := 838) (by decide +kernel)⟩
theorem lw_p22 : lw_okq (⟨"ThreeStrandMapsModel", "lay", "(IIIII)V"⟩, 18) := ⟨⟨by decide +kernel, by decide +kernel⟩, List.mem_of_getElem? (i := 841) (by decide +kernel), List.mem_of_getElem? (i := 916) (by decide +kernel), List.mem_of_getElem? (i := 917) (by decide +kernel)⟩
theorem lw_p23 : lw_okq (⟨"ThreeStrandMapsModel", "comes", "(I)I"⟩, 18) := ⟨⟨by decide +kernel, by decide +kernel⟩, List.mem_of_getElem? (i := 841) (by decide +kernel), List.mem_of_getElem? (i := 920) (by decide +kernel), List.mem_of_getElem? (i := 921) (by decide +kernel)⟩
theorem lw_p24 : lw_okq (⟨"ThreeStrandMapsModel", "copies", "(II)V"⟩, 18) := ⟨⟨by decide +kernel, by decide +kernel⟩, List.mem_of_getElem? (i := 841) (by decide +kernel), List.mem_of_getElem? (i := 924) (by decide +kernel), List.mem_of_getElem? (i := 925) (by decide +kernel)⟩
theorem lw_p25 : lw_okq (⟨"ThreeStrandMapsModel", "isMap", "(I)Z"⟩, 18) := ⟨⟨by decide +kernel, by decide +kernel⟩, List.mem_of_getElem? (i := 841) (by decide +kernel), List.mem_of_getElem? (i := 977) (by decide +kernel), List.mem_of_getElem? (i := 978) (by decide +kernel)⟩
theorem lw_p26 : lw_okq (⟨"ThreeStrandMapsModel", "isPoint", "(II)Z"⟩, 18) := ⟨⟨by decide +kernel, by decide +kernel⟩, List.mem_of_getElem? (i := 841) (by decide +kernel), List.mem_of_getElem? (i := 981) (by decide +kernel), List.mem_of_getElem? (i := 982) (by decide +kernel)⟩
theorem lw_p27 : lw_okq (⟨"ThreeStrandMapsModel", "l", "(III)I"⟩, 18) := ⟨⟨by decide +kernel, by decide +kernel⟩, List.mem_of_getElem? (i := 841) (by decide +kernel), List.mem_of_getElem? (i := 985) (by decide +kernel), List.mem_of_getElem? (i := 986) (by decide +kernel)⟩
theorem lw_p28 : lw_okq (⟨"ThreeStrandMapsModel", "r", "(III)I"⟩, 18) := ⟨⟨by decide +kernel, by decide +kernel⟩, List.mem_of_getElem? (i := 841) (by decide +kernel), List.mem_of_getElem? (i := 989) (by decide +kernel), List.mem_of_getElem? (i := 990) (by decide +kernel)⟩
theorem lw_p29 : lw_okq (⟨"ThreeStrandMapsModel", "makeRetract", "(I)V"⟩, 18) := ⟨⟨by decide +kernel, by decide +kernel⟩, List.mem_of_getElem? (i := 841) (by decide +kernel), List.mem_of_getElem? (i := 997) (by decide +kernel), List.mem_of_getElem? (i := 998) (by decide +kernel)⟩
theorem lw_p30 : lw_okq (⟨"ThreeStrandMapsModel", "layClasses", "(I)I"⟩, 18) := ⟨⟨by decide +kernel, by decide +kernel⟩, List.mem_of_getElem? (i := 841) (by decide +kernel), List.mem_of_getElem? (i := 1001) (by decide +kernel), List.mem_of_getElem? (i := 1002) (by decide +kernel)⟩
theorem lw_p31 : lw_okq (⟨"ThreeStrandMapsModel", "areAlike", "(III)Z"⟩, 18) := ⟨⟨by decide +kernel, by decide +kernel⟩, List.mem_of_getElem? (i := 841) (by decide +kernel), List.mem_of_getElem? (i := 1005) (by decide +kernel), List.mem_of_getElem? (i := 1006) (by decide +kernel)⟩
def lw_privs_2 : List (MethodName × Nat) := [(⟨"ThreeStrandMaps$BraidAction", "tuples", "(I)I"⟩, 3), (⟨"ThreeStrandMaps$BraidAction", "isSeen", "(I)Z"⟩, 3), (⟨"ThreeStrandMaps$BraidAction", "cycleLength", "(LThreeStrandMaps$Braid;II)I"⟩, 3), (⟨"ThreeStrandMaps$BraidAction", "see", "(I)V"⟩, 3), (⟨"ThreeStrandMaps", "mapsHeld", "()I"⟩, 10), (⟨"ThreeStrandMaps", "pointsHeld", "()I"⟩, 10), (⟨"ThreeStrandMapsModel", "lay", "(IIIII)V"⟩, 18), (⟨"ThreeStrandMapsModel", "comes", "(I)I"⟩, 18), (⟨"ThreeStrandMapsModel", "copies", "(II)V"⟩, 18), (⟨"ThreeStrandMapsModel", "isMap", "(I)Z"⟩, 18), (⟨"ThreeStrandMapsModel", "isPoint", "(II)Z"⟩, 18), (⟨"ThreeStrandMapsModel", "l", "(III)I"⟩, 18), (⟨"ThreeStrandMapsModel", "r", "(III)I"⟩, 18), (⟨"ThreeStrandMapsModel", "makeRetract", "(I)V"⟩, 18), (⟨"ThreeStrandMapsModel", "layClasses", "(I)I"⟩, 18), (⟨"ThreeStrandMapsModel", "areAlike", "(III)Z"⟩, 18)]
theorem lw_r2 : ∀ q ∈ lw_privs_2, lw_okq q := List.forall_mem_cons.mpr ⟨lw_p16, List.forall_mem_cons.mpr ⟨lw_p17, List.forall_mem_cons.mpr ⟨lw_p18, List.forall_mem_cons.mpr ⟨lw_p19, List.forall_mem_cons.mpr ⟨lw_p20, List.forall_mem_cons.mpr ⟨lw_p21, List.forall_mem_cons.mpr ⟨lw_p22, List.forall_mem_cons.mpr ⟨lw_p23, List.forall_mem_cons.mpr ⟨lw_p24, List.forall_mem_cons.mpr ⟨lw_p25, List.forall_mem_cons.mpr ⟨lw_p26, List.forall_mem_cons.mpr ⟨lw_p27, List.forall_mem_cons.mpr ⟨lw_p28, List.forall_mem_cons.mpr ⟨lw_p29, List.forall_mem_cons.mpr ⟨lw_p30, List.forall_mem_cons.mpr ⟨lw_p31, fun _ h => absurd h List.not_mem_nil⟩⟩⟩⟩⟩⟩⟩⟩⟩⟩⟩⟩⟩⟩⟩⟩
theorem lw_p32 : lw_okq (⟨"ThreeStrandMapsModel", "isBijective", "(I)Z"⟩, 18) := ⟨⟨by decide +kernel, by decide +kernel⟩, List.mem_of_getElem? (i := 841) (by decide +kernel), List.mem_of_getElem? (i := 1022) (by decide +kernel), List.mem_of_getElem? (i := 1023) (by decide +kernel)⟩
theorem lw_p33 : lw_okq (⟨"ThreeStrandMapsModel", "manyFail", "(I)I"⟩, 18) := ⟨⟨by decide +kernel, by decide +kernel⟩, List.mem_of_getElem? (i := 841) (by decide +kernel), List.mem_of_getElem? (i := 1046) (by decide +kernel), List.mem_of_getElem? (i := 1047) (by decide +kernel)⟩
theorem lw_p34 : lw_okq (⟨"ThreeStrandMapsModel", "failsAt", "(II)Z"⟩, 18) := ⟨⟨by decide +kernel, by decide +kernel⟩, List.mem_of_getElem? (i := 841) (by decide +kernel), List.mem_of_getElem? (i := 1050) (by decide +kernel), List.mem_of_getElem? (i := 1051) (by decide +kernel)⟩
theorem lw_p35 : lw_okq (⟨"ThreeStrandMapsModel", "threeBy", "(III)I"⟩, 18) := ⟨⟨by decide +kernel, by decide +kernel⟩, List.mem_of_getElem? (i := 841) (by decide +kernel), List.mem_of_getElem? (i := 1054) (by decide +kernel), List.mem_of_getElem? (i := 1055) (by decide +kernel)⟩
theorem lw_p36 : lw_okq (⟨"ThreeStrandMapsModel", "crosses", "(II)V"⟩, 18) := ⟨⟨by decide +kernel, by decide +kernel⟩, List.mem_of_getElem? (i := 841) (by decide +kernel), List.mem_of_getElem? (i := 1058) (by decide +kernel), List.mem_of_getElem? (i := 1059) (by decide +kernel)⟩
theorem lw_p37 : lw_okq (⟨"ThreeStrandMapsModel", "comesBack", "(I)Z"⟩, 18) := ⟨⟨by decide +kernel, by decide +kernel⟩, List.mem_of_getElem? (i := 841) (by decide +kernel), List.mem_of_getElem? (i := 1065) (by decide +kernel), List.mem_of_getElem? (i := 1066) (by decide +kernel)⟩
theorem lw_p38 : lw_okq (⟨"ThreeStrandMapsModel", "isPlain", "(IZ)Z"⟩, 18) := ⟨⟨by decide +kernel, by decide +kernel⟩, List.mem_of_getElem? (i := 841) (by decide +kernel), List.mem_of_getElem? (i := 1069) (by decide +kernel), List.mem_of_getElem? (i := 1070) (by decide +kernel)⟩
theorem lw_p39 : lw_okq (⟨"ThreeStrandMapsModel", "doSquaresStay", "(I)Z"⟩, 18) := ⟨⟨by decide +kernel, by decide +kernel⟩, List.mem_of_getElem? (i := 841) (by decide +kernel), List.mem_of_getElem? (i := 1073) (by decide +kernel), List.mem_of_getElem? (i := 1074) (by decide +kernel)⟩
theorem lw_p40 : lw_okq (⟨"ThreeStrandMapsModel", "wholeLater", "(II)I"⟩, 18) := ⟨⟨by decide +kernel, by decide +kernel⟩, List.mem_of_getElem? (i := 841) (by decide +kernel), List.mem_of_getElem? (i := 1077) (by decide +kernel), List.mem_of_getElem? (i := 1078) (by decide +kernel)⟩
theorem lw_p41 : lw_okq (⟨"ThreeStrandMapsModel", "manyOrbits", "(I)I"⟩, 18) := ⟨⟨by decide +kernel, by decide +kernel⟩, List.mem_of_getElem? (i := 841) (by decide +kernel), List.mem_of_getElem? (i := 1081) (by decide +kernel), List.mem_of_getElem? (i := 1082) (by decide +kernel)⟩
theorem lw_p42 : lw_okq (⟨"ThreeStrandMapsModel", "orbitOf", "(II)I"⟩, 18) := ⟨⟨by decide +kernel, by decide +kernel⟩, List.mem_of_getElem? (i := 841) (by decide +kernel), List.mem_of_getElem? (i := 1085) (by decide +kernel), List.mem_of_getElem? (i := 1086) (by decide +kernel)⟩
theorem lw_p43 : lw_okq (⟨"ThreeStrandMapsModel", "level", "(I)I"⟩, 18) := ⟨⟨by decide +kernel, by decide +kernel⟩, List.mem_of_getElem? (i := 841) (by decide +kernel), List.mem_of_getElem? (i := 1089) (by decide +kernel), List.mem_of_getElem? (i := 1090) (by decide +kernel)⟩
theorem lw_p44 : lw_okq (⟨"ThreeStrandMapsModel", "groupSize", "(I)I"⟩, 18) := ⟨⟨by decide +kernel, by decide +kernel⟩, List.mem_of_getElem? (i := 841) (by decide +kernel), List.mem_of_getElem? (i := 1093) (by decide +kernel), List.mem_of_getElem? (i := 1094) (by decide +kernel)⟩
theorem lw_p45 : lw_okq (⟨"ThreeStrandMapsModel", "firstName", "(I)V"⟩, 18) := ⟨⟨by decide +kernel, by decide +kernel⟩, List.mem_of_getElem? (i := 841) (by decide +kernel), List.mem_of_getElem? (i := 1097) (by decide +kernel), List.mem_of_getElem? (i := 1098) (by decide +kernel)⟩
theorem lw_p46 : lw_okq (⟨"ThreeStrandMapsModel", "nameCode", "(I)I"⟩, 18) := ⟨⟨by decide +kernel, by decide +kernel⟩, List.mem_of_getElem? (i := 841) (by decide +kernel), List.mem_of_getElem? (i := 1101) (by decide +kernel), List.mem_of_getElem? (i := 1102) (by decide +kernel)⟩
theorem lw_p47 : lw_okq (⟨"ThreeStrandMapsModel", "behind", "(III)I"⟩, 18) := ⟨⟨by decide +kernel, by decide +kernel⟩, List.mem_of_getElem? (i := 841) (by decide +kernel), List.mem_of_getElem? (i := 1108) (by decide +kernel), List.mem_of_getElem? (i := 1109) (by decide +kernel)⟩
def lw_privs_3 : List (MethodName × Nat) := [(⟨"ThreeStrandMapsModel", "isBijective", "(I)Z"⟩, 18), (⟨"ThreeStrandMapsModel", "manyFail", "(I)I"⟩, 18), (⟨"ThreeStrandMapsModel", "failsAt", "(II)Z"⟩, 18), (⟨"ThreeStrandMapsModel", "threeBy", "(III)I"⟩, 18), (⟨"ThreeStrandMapsModel", "crosses", "(II)V"⟩, 18), (⟨"ThreeStrandMapsModel", "comesBack", "(I)Z"⟩, 18), (⟨"ThreeStrandMapsModel", "isPlain", "(IZ)Z"⟩, 18), (⟨"ThreeStrandMapsModel", "doSquaresStay", "(I)Z"⟩, 18), (⟨"ThreeStrandMapsModel", "wholeLater", "(II)I"⟩, 18), (⟨"ThreeStrandMapsModel", "manyOrbits", "(I)I"⟩, 18), (⟨"ThreeStrandMapsModel", "orbitOf", "(II)I"⟩, 18), (⟨"ThreeStrandMapsModel", "level", "(I)I"⟩, 18), (⟨"ThreeStrandMapsModel", "groupSize", "(I)I"⟩, 18), (⟨"ThreeStrandMapsModel", "firstName", "(I)V"⟩, 18), (⟨"ThreeStrandMapsModel", "nameCode", "(I)I"⟩, 18), (⟨"ThreeStrandMapsModel", "behind", "(III)I"⟩, 18)]
theorem lw_r3 : ∀ q ∈ lw_privs_3, lw_okq q := List.forall_mem_cons.mpr ⟨lw_p32, List.forall_mem_cons.mpr ⟨lw_p33, List.forall_mem_cons.mpr ⟨lw_p34, List.forall_mem_cons.mpr ⟨lw_p35, List.forall_mem_cons.mpr ⟨lw_p36, List.forall_mem_cons.mpr ⟨lw_p37, List.forall_mem_cons.mpr ⟨lw_p38, List.forall_mem_cons.mpr ⟨lw_p39, List.forall_mem_cons.mpr ⟨lw_p40, List.forall_mem_cons.mpr ⟨lw_p41, List.forall_mem_cons.mpr ⟨lw_p42, List.forall_mem_cons.mpr ⟨lw_p43, List.forall_mem_cons.mpr ⟨lw_p44, List.forall_mem_cons.mpr ⟨lw_p45, List.forall_mem_cons.mpr ⟨lw_p46, List.forall_mem_cons.mpr ⟨lw_p47, fun _ h => absurd h List.not_mem_nil⟩⟩⟩⟩⟩⟩⟩⟩⟩⟩⟩⟩⟩⟩⟩⟩
theorem lw_p48 : lw_okq (⟨"ThreeStrandMapsModel", "likenesses", "(III)I"⟩, 18) := ⟨⟨by decide +kernel, by decide +kernel⟩, List.mem_of_getElem? (i := 841) (by decide +kernel), List.mem_of_getElem? (i := 1112) (by decide +kernel), List.mem_of_getElem? (i := 1113) (by decide +kernel)⟩
theorem lw_p49 : lw_okq (⟨"ThreeStrandMapsModel", "isLike", "(II)Z"⟩, 18) := ⟨⟨by decide +kernel, by decide +kernel⟩, List.mem_of_getElem? (i := 841) (by decide +kernel), List.mem_of_getElem? (i := 1116) (by decide +kernel), List.mem_of_getElem? (i := 1117) (by decide +kernel)⟩
theorem lw_p50 : lw_okq (⟨"ThreeStrandMapsModel", "nextName", "(I)Z"⟩, 18) := ⟨⟨by decide +kernel, by decide +kernel⟩, List.mem_of_getElem? (i := 841) (by decide +kernel), List.mem_of_getElem? (i := 1120) (by decide +kernel), List.mem_of_getElem? (i := 1121) (by decide +kernel)⟩
theorem lw_p51 : lw_okq (⟨"ThreeStrandMapsModel", "order", "(I)I"⟩, 18) := ⟨⟨by decide +kernel, by decide +kernel⟩, List.mem_of_getElem? (i := 841) (by decide +kernel), List.mem_of_getElem? (i := 1124) (by decide +kernel), List.mem_of_getElem? (i := 1125) (by decide +kernel)⟩
theorem lw_p52 : lw_okq (⟨"ThreeStrandMapsModel", "manyClosed", "(I)I"⟩, 18) := ⟨⟨by decide +kernel, by decide +kernel⟩, List.mem_of_getElem? (i := 841) (by decide +kernel), List.mem_of_getElem? (i := 1131) (by decide +kernel), List.mem_of_getElem? (i := 1132) (by decide +kernel)⟩
theorem lw_p53 : lw_okq (⟨"ThreeStrandMapsModel", "isClosed", "(II)Z"⟩, 18) := ⟨⟨by decide +kernel, by decide +kernel⟩, List.mem_of_getElem? (i := 841) (by decide +kernel), List.mem_of_getElem? (i := 1135) (by decide +kernel), List.mem_of_getElem? (i := 1136) (by decide +kernel)⟩
theorem lw_p54 : lw_okq (⟨"ThreeStrandMapsModel", "listedAs", "(I)I"⟩, 18) := ⟨⟨by decide +kernel, by decide +kernel⟩, List.mem_of_getElem? (i := 841) (by decide +kernel), List.mem_of_getElem? (i := 1139) (by decide +kernel), List.mem_of_getElem? (i := 1140) (by decide +kernel)⟩
theorem lw_p55 : lw_okq (⟨"ThreeStrandMapsModel", "layList", "(I)I"⟩, 18) := ⟨⟨by decide +kernel, by decide +kernel⟩, List.mem_of_getElem? (i := 841) (by decide +kernel), List.mem_of_getElem? (i := 1143) (by decide +kernel), List.mem_of_getElem? (i := 1144) (by decide +kernel)⟩
theorem lw_p56 : lw_okq (⟨"ThreeStrandMapsModel", "layRows", "(I)I"⟩, 18) := ⟨⟨by decide +kernel, by decide +kernel⟩, List.mem_of_getElem? (i := 841) (by decide +kernel), List.mem_of_getElem? (i := 1147) (by decide +kernel), List.mem_of_getElem? (i := 1148) (by decide +kernel)⟩
theorem lw_p57 : lw_okq (⟨"ThreeStrandMapsModel", "layNumber", "(III)V"⟩, 18) := ⟨⟨by decide +kernel, by decide +kernel⟩, List.mem_of_getElem? (i := 841) (by decide +kernel), List.mem_of_getElem? (i := 1154) (by decide +kernel), List.mem_of_getElem? (i := 1155) (by decide +kernel)⟩
theorem lw_p58 : lw_okq (⟨"ThreeStrandMapsModel", "firstBad", "()I"⟩, 18) := ⟨⟨by decide +kernel, by decide +kernel⟩, List.mem_of_getElem? (i := 841) (by decide +kernel), List.mem_of_getElem? (i := 1158) (by decide +kernel), List.mem_of_getElem? (i := 1159) (by decide +kernel)⟩
theorem lw_p59 : lw_okq (⟨"ThreeStrandMapsModel", "failsWithin", "(III)Z"⟩, 18) := ⟨⟨by decide +kernel, by decide +kernel⟩, List.mem_of_getElem? (i := 841) (by decide +kernel), List.mem_of_getElem? (i := 1162) (by decide +kernel), List.mem_of_getElem? (i := 1163) (by decide +kernel)⟩
theorem lw_p60 : lw_okq (⟨"ThreeStrandMapsModel", "layRight", "()V"⟩, 18) := ⟨⟨by decide +kernel, by decide +kernel⟩, List.mem_of_getElem? (i := 841) (by decide +kernel), List.mem_of_getElem? (i := 1166) (by decide +kernel), List.mem_of_getElem? (i := 1167) (by decide +kernel)⟩
theorem lw_p61 : lw_okq (⟨"ThreeStrandMapsModel", "comesBackHere", "()Z"⟩, 18) := ⟨⟨by decide +kernel, by decide +kernel⟩, List.mem_of_getElem? (i := 841) (by decide +kernel), List.mem_of_getElem? (i := 1170) (by decide +kernel), List.mem_of_getElem? (i := 1171) (by decide +kernel)⟩
theorem lw_p62 : lw_okq (⟨"ThreeStrandMapsModel", "isFirst", "()Z"⟩, 18) := ⟨⟨by decide +kernel, by decide +kernel⟩, List.mem_of_getElem? (i := 841) (by decide +kernel), List.mem_of_getElem? (i := 1174) (by decide +kernel), List.mem_of_getElem? (i := 1175) (by decide +kernel)⟩
theorem lw_p63 : lw_okq (⟨"ThreeStrandMapsModel", "namedAs", "(II)I"⟩, 18) := ⟨⟨by decide +kernel, by decide +kernel⟩, List.mem_of_getElem? (i := 841) (by decide +kernel), List.mem_of_getElem? (i := 1178) (by decide +kernel), List.mem_of_getElem? (i := 1179) (by decide +kernel)⟩
def lw_privs_4 : List (MethodName × Nat) := [(⟨"ThreeStrandMapsModel", "likenesses", "(III)I"⟩, 18), (⟨"ThreeStrandMapsModel", "isLike", "(II)Z"⟩, 18), (⟨"ThreeStrandMapsModel", "nextName", "(I)Z"⟩, 18), (⟨"ThreeStrandMapsModel", "order", "(I)I"⟩, 18), (⟨"ThreeStrandMapsModel", "manyClosed", "(I)I"⟩, 18), (⟨"ThreeStrandMapsModel", "isClosed", "(II)Z"⟩, 18), (⟨"ThreeStrandMapsModel", "listedAs", "(I)I"⟩, 18), (⟨"ThreeStrandMapsModel", "layList", "(I)I"⟩, 18), (⟨"ThreeStrandMapsModel", "layRows", "(I)I"⟩, 18), (⟨"ThreeStrandMapsModel", "layNumber", "(III)V"⟩, 18), (⟨"ThreeStrandMapsModel", "firstBad", "()I"⟩, 18), (⟨"ThreeStrandMapsModel", "failsWithin", "(III)Z"⟩, 18), (⟨"ThreeStrandMapsModel", "layRight", "()V"⟩, 18), (⟨"ThreeStrandMapsModel", "comesBackHere", "()Z"⟩, 18), (⟨"ThreeStrandMapsModel", "isFirst", "()Z"⟩, 18), (⟨"ThreeStrandMapsModel", "namedAs", "(II)I"⟩, 18)]
theorem lw_r4 : ∀ q ∈ lw_privs_4, lw_okq q := List.forall_mem_cons.mpr ⟨lw_p48, List.forall_mem_cons.mpr ⟨lw_p49, List.forall_mem_cons.mpr ⟨lw_p50, List.forall_mem_cons.mpr ⟨lw_p51, List.forall_mem_cons.mpr ⟨lw_p52, List.forall_mem_cons.mpr ⟨lw_p53, List.forall_mem_cons.mpr ⟨lw_p54, List.forall_mem_cons.mpr ⟨lw_p55, List.forall_mem_cons.mpr ⟨lw_p56, List.forall_mem_cons.mpr ⟨lw_p57, List.forall_mem_cons.mpr ⟨lw_p58, List.forall_mem_cons.mpr ⟨lw_p59, List.forall_mem_cons.mpr ⟨lw_p60, List.forall_mem_cons.mpr ⟨lw_p61, List.forall_mem_cons.mpr ⟨lw_p62, List.forall_mem_cons.mpr ⟨lw_p63, fun _ h => absurd h List.not_mem_nil⟩⟩⟩⟩⟩⟩⟩⟩⟩⟩⟩⟩⟩⟩⟩⟩
theorem lw_p64 : lw_okq (⟨"ThreeStrandMapsModel", "layListed", "(II)V"⟩, 18) := ⟨⟨by decide +kernel, by decide +kernel⟩, List.mem_of_getElem? (i := 841) (by decide +kernel), List.mem_of_getElem? (i := 1182) (by decide +kernel), List.mem_of_getElem? (i := 1183) (by decide +kernel)⟩
theorem lw_p65 : lw_okq (⟨"ThreeStrandMapsModel", "layWords", "(II)V"⟩, 18) := ⟨⟨by decide +kernel, by decide +kernel⟩, List.mem_of_getElem? (i := 841) (by decide +kernel), List.mem_of_getElem? (i := 1216) (by decide +kernel), List.mem_of_getElem? (i := 1217) (by decide +kernel)⟩
theorem lw_p66 : lw_okq (⟨"ThreeStrandMapsModel", "layTuple", "(III)V"⟩, 18) := ⟨⟨by decide +kernel, by decide +kernel⟩, List.mem_of_getElem? (i := 841) (by decide +kernel), List.mem_of_getElem? (i := 1220) (by decide +kernel), List.mem_of_getElem? (i := 1221) (by decide +kernel)⟩
theorem lw_p67 : lw_okq (⟨"ThreeStrandMapsModel", "tupleNumber", "(II)I"⟩, 18) := ⟨⟨by decide +kernel, by decide +kernel⟩, List.mem_of_getElem? (i := 841) (by decide +kernel), List.mem_of_getElem? (i := 1224) (by decide +kernel), List.mem_of_getElem? (i := 1225) (by decide +kernel)⟩
theorem lw_p68 : lw_okq (⟨"ThreeStrandMapsModel", "layCode", "(II)V"⟩, 18) := ⟨⟨by decide +kernel, by decide +kernel⟩, List.mem_of_getElem? (i := 841) (by decide +kernel), List.mem_of_getElem? (i := 1232) (by decide +kernel), List.mem_of_getElem? (i := 1233) (by decide +kernel)⟩
theorem lw_p69 : lw_okq (⟨"ThreeStrandMapsModel", "tupleCode", "(I)I"⟩, 18) := ⟨⟨by decide +kernel, by decide +kernel⟩, List.mem_of_getElem? (i := 841) (by decide +kernel), List.mem_of_getElem? (i := 1236) (by decide +kernel), List.mem_of_getElem? (i := 1237) (by decide +kernel)⟩
theorem lw_p70 : lw_okq (⟨"ThreeStrandMapsModel", "refuses", "(III)I"⟩, 18) := ⟨⟨by decide +kernel, by decide +kernel⟩, List.mem_of_getElem? (i := 841) (by decide +kernel), List.mem_of_getElem? (i := 1259) (by decide +kernel), List.mem_of_getElem? (i := 1260) (by decide +kernel)⟩
theorem lw_p71 : lw_okq (⟨"ThreeStrandMapsModel", "doesFit", "(III)Z"⟩, 18) := ⟨⟨by decide +kernel, by decide +kernel⟩, List.mem_of_getElem? (i := 841) (by decide +kernel), List.mem_of_getElem? (i := 1263) (by decide +kernel), List.mem_of_getElem? (i := 1264) (by decide +kernel)⟩
theorem lw_p72 : lw_okq (⟨"ThreeStrandMapsModel", "goesThrough", "(II)V"⟩, 18) := ⟨⟨by decide +kernel, by decide +kernel⟩, List.mem_of_getElem? (i := 841) (by decide +kernel), List.mem_of_getElem? (i := 1267) (by decide +kernel), List.mem_of_getElem? (i := 1268) (by decide +kernel)⟩
theorem lw_p73 : lw_okq (⟨"ThreeStrandMapsModel", "goesBack", "(II)V"⟩, 18) := ⟨⟨by decide +kernel, by decide +kernel⟩, List.mem_of_getElem? (i := 841) (by decide +kernel), List.mem_of_getElem? (i := 1271) (by decide +kernel), List.mem_of_getElem? (i := 1272) (by decide +kernel)⟩
theorem lw_p74 : lw_okq (⟨"ThreeStrandMapsModel", "laySteps", "(III)V"⟩, 18) := ⟨⟨by decide +kernel, by decide +kernel⟩, List.mem_of_getElem? (i := 841) (by decide +kernel), List.mem_of_getElem? (i := 1279) (by decide +kernel), List.mem_of_getElem? (i := 1280) (by decide +kernel)⟩
def lw_privs_5 : List (MethodName × Nat) := [(⟨"ThreeStrandMapsModel", "layListed", "(II)V"⟩, 18), (⟨"ThreeStrandMapsModel", "layWords", "(II)V"⟩, 18), (⟨"ThreeStrandMapsModel", "layTuple", "(III)V"⟩, 18), (⟨"ThreeStrandMapsModel", "tupleNumber", "(II)I"⟩, 18), (⟨"ThreeStrandMapsModel", "layCode", "(II)V"⟩, 18), (⟨"ThreeStrandMapsModel", "tupleCode", "(I)I"⟩, 18), (⟨"ThreeStrandMapsModel", "refuses", "(III)I"⟩, 18), (⟨"ThreeStrandMapsModel", "doesFit", "(III)Z"⟩, 18), (⟨"ThreeStrandMapsModel", "goesThrough", "(II)V"⟩, 18), (⟨"ThreeStrandMapsModel", "goesBack", "(II)V"⟩, 18), (⟨"ThreeStrandMapsModel", "laySteps", "(III)V"⟩, 18)]
theorem lw_r5 : ∀ q ∈ lw_privs_5, lw_okq q := List.forall_mem_cons.mpr ⟨lw_p64, List.forall_mem_cons.mpr ⟨lw_p65, List.forall_mem_cons.mpr ⟨lw_p66, List.forall_mem_cons.mpr ⟨lw_p67, List.forall_mem_cons.mpr ⟨lw_p68, List.forall_mem_cons.mpr ⟨lw_p69, List.forall_mem_cons.mpr ⟨lw_p70, List.forall_mem_cons.mpr ⟨lw_p71, List.forall_mem_cons.mpr ⟨lw_p72, List.forall_mem_cons.mpr ⟨lw_p73, List.forall_mem_cons.mpr ⟨lw_p74, fun _ h => absurd h List.not_mem_nil⟩⟩⟩⟩⟩⟩⟩⟩⟩⟩⟩
def lw_privs : List (MethodName × Nat) := lw_privs_1 ++ (lw_privs_2 ++ (lw_privs_3 ++ (lw_privs_4 ++ (lw_privs_5))))
def lw_tbl : List Cond := k2_sels lw_privs ++ tables_1
theorem lw_privs_ok : ∀ q ∈ lw_privs, lw_okq q := by
  show ∀ q ∈ lw_privs_1 ++ (lw_privs_2 ++ (lw_privs_3 ++ (lw_privs_4 ++ (lw_privs_5)))), lw_okq q
  exact List.forall_mem_append.mpr ⟨lw_r1, List.forall_mem_append.mpr ⟨lw_r2, List.forall_mem_append.mpr ⟨lw_r3, List.forall_mem_append.mpr ⟨lw_r4, lw_r5⟩⟩⟩⟩
/-! THE CLAIM OUT OF ONE WALK OF THE LAW'S BODY. Your part is whole_start (and what it stands on); all else here is the same for every law, but numbers. -/
def R_law : String := "ThreeStrandMapsLaw"
def lw_P (b : Addr) (xs : List Int32) (args : Array Value) (s : State) : Prop := args = #[.ref b] ∧ s.IntsAt b xs ∧ xs.length ≤ 3072 ∧ (Jvm.Cond.and given_1 narrow_1).before args s = true
def lw_Q (_ : Array Value) (s : State) (o : Outcome) (t : State) : Prop := o = .returned (some (.int 1)) ∧ Framed s o t [] 600000 7302249
def lw_Z (below : List Frame) (a : Array Value) (s : State) : State → Prop := fun t => ∃ o, t.status = .running ∧ Ended t below o ∧ lw_Q a s o t
/-- the law's own end, with 1 on the stack, nothing written that was there before, its room as the claim has it -/
theorem lw_ret {p : Program} {l : Launch} {e : Env} {s : State} {m : MethodId} {below : List Frame} {meth : Method} {c : Code} {b : Nat} (hx : p.tables.exec = Jvm.exec) (hb : c.code = code) (hr : meth.sig.returnType = ret) (hlocks : meth.locks = false) {pc : Nat} {H : Heap} {ls : Array Slot} (hdg : decode code pc = .ok (.ireturn, 1)) : W p l e room_1 s m #[Value.ref b] below meth c H [] 600000 7302249 (lw_Z below #[Value.ref b] s) (F0 m pc ls [.int 1]) := by
  intro T hT X
  obtain ⟨fs, hret, hrun, hended, hW, hframe⟩ := X.leave (v := some (.int 1)) (hlocks := hlocks) (fun h => by rw [hr] at h; cases h)
  have hmeth' : T.vm.method? m = some meth := X.method'
  refine ⟨T.setFrames fs, ?_, .returned (some (.int 1)), hrun, hended, rfl, ⟨_, rfl⟩, hW, hframe⟩
  jvm_step X.here [X.here.top, hx, hb, hdg, hmeth', hr, ret, narrow_b1]
  (try refine ⟨rfl, ?_⟩); (try refine ⟨rfl, ?_⟩)
  first | (intro acts; rw [hret _ acts rfl rfl rfl]) | rw [hret _ _ rfl rfl rfl]
  exact Steps.refl _
/-- what holds at the law's entry: the machine, the code, the tables' words (any of lw_tbl by 'hts w (by decide +kernel)'), the script of L ints xs at the cell b, what the Statement gives of the start (any of its parts by flat_of_before) -/
def lw_At (p : Program) (s : State) (m : MethodId) (meth : Method) (c : Code) (b L : Nat) (xs : Nat → Int32) : Prop :=
  p.tables.exec = Jvm.exec ∧ c.code = code ∧ meth.sig.returnType = ret ∧ c.maxLocals = 4 ∧ s.vm.findClass R_law = some m.cls ∧ (∀ w ∈ lw_tbl, w.before #[Value.ref b] s = true) ∧ va_X b L xs s s.heap ∧ b < s.heap.size ∧ meth.locks = false ∧ (Jvm.Cond.and given_1 narrow_1).before #[Value.ref b] s = true
end
section
/-! values, memory, places: the cells of the whole world by kind and number -/
abbrev ZV : Type := Int32 ⊕ (Int64 ⊕ (Nat × Nat))
abbrev zi (x : Int32) : ZV := Sum.inl x
abbrev zl (x : Int64) : ZV := Sum.inr (Sum.inl x)
abbrev zr (k i : Nat) : ZV := Sum.inr (Sum.inr (k, i))
abbrev ZM : Type := (Nat → Nat → Nat → Int32) × (Nat → Nat → Nat → Int64)
abbrev ZL : Type := List (Nat × ZV)
abbrev ZG : Type := Launch × ((Nat → Nat → Nat) × (va_G × ((Nat → ClassId) × ((Nat → Prop) × (Nat × (Nat → Int32))))))
def gl (G : ZG) : Launch := G.1
def ga (G : ZG) : Nat → Nat → Nat := G.2.1
def gD (G : ZG) : va_G := G.2.2.1
def gc (G : ZG) : Nat → ClassId := G.2.2.2.1
def gA (G : ZG) : Nat → Prop := G.2.2.2.2.1
def gN (G : ZG) : Nat := G.2.2.2.2.2.1
def gX (G : ZG) : Nat → Int32 := G.2.2.2.2.2.2
def zc (G : ZG) (v : ZV) : Value := match v with
  | .inl x => .int x
  | .inr (.inl x) => .long x
  | .inr (.inr q) => .ref (ga G q.1 q.2)
def zcat (v : ZV) : Nat := match v with
  | .inl _ => 1
  | .inr (.inl _) => 2
  | .inr (.inr _) => 1
theorem zcat_eq (G : ZG) (v : ZV) : (zc G v).category = zcat v := by
  rcases v with x | x | x <;> rfl
def zct : List ZV → Nat
  | [] => 0
  | v :: r => zcat v + zct r
theorem zct_eq (G : ZG) (st : List ZV) : ((st.map (zc G)).map fun v => v.category).sum = zct st := by
  induction st with
  | nil => rfl
  | cons v r ih => simp only [List.map_cons, List.sum_cons, ih, zcat_eq, zct]
/-- a field: a number, or the cell that it holds for ever (its kind; its number; or the number of the object itself) -/
abbrev ZF : Type := Option (Nat × Nat × Bool)
/-- a kind: objects (class, fields) or arrays (0 int, 1 long, 2 boolean, 3 PairMap, 4 Braid; length) -/
abbrev ZK : Type := (Nat × List ZF) ⊕ (Nat × Nat)
def zKL : List (ZK × Nat) := [
  (.inl (0, [some (1, 0, true), none]), 10), (.inr (0, 64), 10),
  (.inl (1, [some (3, 0, true), some (4, 0, true), none]), 3), (.inr (0, 24), 3), (.inr (2, 24), 3),
  (.inl (2, [some (6, 0, false), some (7, 0, false), some (0, 4, false), some (2, 2, false), some (0, 5, false), some (8, 0, false), some (11, 0, false), some (13, 0, false), some (16, 0, false), some (18, 0, false)]), 1), (.inr (3, 4), 1), (.inr (4, 2), 1),
  (.inl (3, [some (9, 0, false), some (10, 0, false), none, some (0, 6, false), some (0, 7, false)]), 1), (.inr (0, 8), 1), (.inr (0, 8), 1),
  (.inl (4, [some (12, 0, false)]), 1), (.inr (0, 8), 1),
  (.inl (5, [some (14, 0, false), some (15, 0, false), none]), 1), (.inr (0, 720), 1), (.inr (1, 512), 1),
  (.inl (6, [some (17, 0, false), none]), 1), (.inr (0, 4096), 1),
  (.inl (7, [some (0, 8, false), some (0, 9, false), some (19, 0, false)]), 1), (.inr (1, 64), 1),
  (.inl (8, [some (21, 0, false), some (22, 0, false), some (23, 0, false), some (24, 0, false), some (25, 0, false), some (26, 0, false), some (27, 0, false), some (28, 0, false), some (29, 0, false), none, some (30, 0, false), some (31, 0, false), some (32, 0, false), some (33, 0, false), some (34, 0, false), some (35, 0, false), some (36, 0, false), some (37, 0, false)]), 1),
  (.inr (0, 6), 1), (.inr (0, 216), 1), (.inr (0, 216), 1), (.inr (0, 6), 1), (.inr (0, 6), 1), (.inr (0, 6), 1), (.inr (0, 4), 1), (.inr (2, 720), 1), (.inr (0, 720), 1), (.inr (0, 2560), 1), (.inr (0, 5), 1), (.inr (0, 96), 1), (.inr (0, 1296), 1), (.inr (0, 1296), 1), (.inr (0, 1296), 1), (.inr (0, 48), 1), (.inr (0, 2), 1)]
def zK (k : Nat) : ZK := (zKL.getD k (.inl (0, []), 0)).1
def zN (k : Nat) : Nat := (zKL.getD k (.inl (0, []), 0)).2
def zfv (k i j : Nat) (M : ZM) (f : ZF) : ZV := match f with
  | none => zi (M.1 k i j)
  | some (k', c, b) => match b with
    | true => zr k' i
    | false => zr k' c
def zfs (G : ZG) (M : ZM) (k i : Nat) (fs : List ZF) : List Value := fs.zipIdx.map (fun p => zc G (zfv k i p.2 M p.1))
def zarr (G : ZG) (M : ZM) (k i t n : Nat) : ClassId × vp_A := match t with
  | 0 => (gc G 0, n, .inl (M.1 k i))
  | 1 => (gc G 1, n, .inr (.inl (M.2 k i)))
  | 2 => (gc G 2, n, .inl (M.1 k i))
  | 3 => (gc G 3, n, .inr (.inr (.inr (.inr fun j => some (ga G 0 j)))))
  | _ => (gc G 4, n, .inr (.inr (.inr (.inr fun j => some (ga G 2 j)))))
def zent (G : ZG) (M : ZM) (k i : Nat) : va_E := match zK k with
  | .inl (ci, fs) => .inr (ci, zfs G M k i fs)
  | .inr (t, n) => .inl (zarr G M k i t n)
def zcells : List (Nat × Nat) := (List.range 38).flatMap fun k => (List.range (zN k)).map fun i => (k, i)
def zws (G : ZG) (M : ZM) : va_W := zcells.map fun c => (ga G c.1 c.2, zent G M c.1 c.2)
def ztys (G : ZG) : List (ClassId × FieldType) := [(gc G 0, .int), (gc G 1, .long), (gc G 2, .boolean), (gc G 3, .object "ThreeStrandMaps$PairMap"), (gc G 4, .object "ThreeStrandMaps$Braid")]
def zT0 : u_T := fun k => match k with
  | 0 => ("ThreeStrandMaps$PairMap", "images", "[I", true)
  | _ => ("ThreeStrandMaps$PairMap", "points", "I", false)
def zT1 : u_T := fun k => match k with
  | 0 => ("ThreeStrandMaps$Braid", "positions", "[I", true)
  | 1 => ("ThreeStrandMaps$Braid", "capitals", "[Z", true)
  | _ => ("ThreeStrandMaps$Braid", "length", "I", false)
def zT2 : u_T := fun k => match k with
  | 0 => ("ThreeStrandMaps", "places", "[LThreeStrandMaps$PairMap;", true)
  | 1 => ("ThreeStrandMaps", "braids", "[LThreeStrandMaps$Braid;", true)
  | 2 => ("ThreeStrandMaps", "noMap", "LThreeStrandMaps$PairMap;", true)
  | 3 => ("ThreeStrandMaps", "noBraid", "LThreeStrandMaps$Braid;", true)
  | 4 => ("ThreeStrandMaps", "made", "LThreeStrandMaps$PairMap;", true)
  | 5 => ("ThreeStrandMaps", "classes", "LThreeStrandMaps$AlikeClasses;", true)
  | 6 => ("ThreeStrandMaps", "renamings", "LThreeStrandMaps$Renamings;", true)
  | 7 => ("ThreeStrandMaps", "rowGroup", "LThreeStrandMaps$RowGroup;", true)
  | 8 => ("ThreeStrandMaps", "wordClasses", "LThreeStrandMaps$WordClasses;", true)
  | _ => ("ThreeStrandMaps", "action", "LThreeStrandMaps$BraidAction;", true)
def zT3 : u_T := fun k => match k with
  | 0 => ("ThreeStrandMaps$AlikeClasses", "classes", "[I", true)
  | 1 => ("ThreeStrandMaps$AlikeClasses", "smallest", "[I", true)
  | 2 => ("ThreeStrandMaps$AlikeClasses", "size", "I", false)
  | 3 => ("ThreeStrandMaps$AlikeClasses", "current", "LThreeStrandMaps$PairMap;", true)
  | _ => ("ThreeStrandMaps$AlikeClasses", "smaller", "LThreeStrandMaps$PairMap;", true)
def zT4 : u_T := fun k => match k with
  | _ => ("ThreeStrandMaps$Renamings", "images", "[I", true)
def zT5 : u_T := fun k => match k with
  | 0 => ("ThreeStrandMaps$RowGroup", "elements", "[I", true)
  | 1 => ("ThreeStrandMaps$RowGroup", "seen", "[J", true)
  | _ => ("ThreeStrandMaps$RowGroup", "size", "I", false)
def zT6 : u_T := fun k => match k with
  | 0 => ("ThreeStrandMaps$WordClasses", "smaller", "[I", true)
  | _ => ("ThreeStrandMaps$WordClasses", "size", "I", false)
def zT7 : u_T := fun k => match k with
  | 0 => ("ThreeStrandMaps$BraidAction", "map", "LThreeStrandMaps$PairMap;", true)
  | 1 => ("ThreeStrandMaps$BraidAction", "inverse", "LThreeStrandMaps$PairMap;", true)
  | _ => ("ThreeStrandMaps$BraidAction", "seen", "[J", true)
def zT8 : u_T := fun k => match k with
  | 0 => ("ThreeStrandMapsModel", "many", "[I", true)
  | 1 => ("ThreeStrandMapsModel", "left", "[I", true)
  | 2 => ("ThreeStrandMapsModel", "right", "[I", true)
  | 3 => ("ThreeStrandMapsModel", "name", "[I", true)
  | 4 => ("ThreeStrandMapsModel", "clazz", "[I", true)
  | 5 => ("ThreeStrandMapsModel", "least", "[I", true)
  | 6 => ("ThreeStrandMapsModel", "t", "[I", true)
  | 7 => ("ThreeStrandMapsModel", "seen", "[Z", true)
  | 8 => ("ThreeStrandMapsModel", "found", "[I", true)
  | 9 => ("ThreeStrandMapsModel", "theLikeness", "I", false)
  | 10 => ("ThreeStrandMapsModel", "listed", "[I", true)
  | 11 => ("ThreeStrandMapsModel", "manyListed", "[I", true)
  | 12 => ("ThreeStrandMapsModel", "row", "[I", true)
  | 13 => ("ThreeStrandMapsModel", "label", "[I", true)
  | 14 => ("ThreeStrandMapsModel", "step", "[I", true)
  | 15 => ("ThreeStrandMapsModel", "at", "[I", true)
  | 16 => ("ThreeStrandMapsModel", "braid", "[I", true)
  | _ => ("ThreeStrandMapsModel", "size", "[I", true)
def zcls : List vw_C := [("ThreeStrandMaps$PairMap", zT0, 2), ("ThreeStrandMaps$Braid", zT1, 3), ("ThreeStrandMaps", zT2, 10), ("ThreeStrandMaps$AlikeClasses", zT3, 5), ("ThreeStrandMaps$Renamings", zT4, 1), ("ThreeStrandMaps$RowGroup", zT5, 3), ("ThreeStrandMaps$WordClasses", zT6, 2), ("ThreeStrandMaps$BraidAction", zT7, 3), ("ThreeStrandMapsModel", zT8, 18)]
def zrowL : List Int64 := [0x0, 0x0101, 0x1010, 0x012012012, 0x012012102, 0x012021021, 0x021021021, 0x120120120, 0x0123012301230123, 0x0123012301230213, 0x0123012301231203, 0x0123012301320132, 0x0123012301321032, 0x0123012310231023, 0x0123012310321032, 0x0123013201320132, 0x0123023102310231, 0x0132013201320132, 0x0132013210231023, 0x0132013210321032, 0x0132231032011023, 0x0231023102310231, 0x0231031203120312, 0x1023102301320132, 0x1023102301321032, 0x1023102310321032, 0x1023231001323201, 0x1032103210321032, 0x1032230123011032, 0x1230123012301230, 0x1230301212303012]
def zrows (j : Nat) : Int64 := zrowL.getD j 0
def zTw : List Jvm.Cond := lw_tbl.filter goodWord
def znest : List Jvm.Cond := lw_tbl.filter (fun w => match w with | .methodLinkNest _ _ _ _ => true | _ => false)
theorem zTw_of {w : Jvm.Cond} (q : Nat) (h : lw_tbl[q]? = some w) (hg : goodWord w = true) : w ∈ zTw := List.mem_filter.mpr ⟨List.mem_of_getElem? h, hg⟩
/-! cells -/
def zval (k i : Nat) : Prop := k < 38 ∧ i < zN k
theorem zcells_mem {k i : Nat} (h : zval k i) : (k, i) ∈ zcells := by
  unfold zcells
  rw [List.mem_flatMap]
  exact ⟨k, List.mem_range.mpr h.1, List.mem_map.mpr ⟨i, List.mem_range.mpr h.2, rfl⟩⟩
theorem zcells_len : zcells.length = 62 := by decide +kernel
theorem zcells_inj0 : ∀ i, i < 62 → ∀ j, j < 62 → zcells[i]? = zcells[j]? → i = j := by decide +kernel
theorem zcells_inj {i j : Nat} {c : Nat × Nat} (hi : zcells[i]? = some c) (hj : zcells[j]? = some c) : i = j := by
  have h1 := (List.getElem?_eq_some_iff.mp hi).1
  have h2 := (List.getElem?_eq_some_iff.mp hj).1
  rw [zcells_len] at h1 h2
  exact zcells_inj0 i h1 j h2 (hi.trans hj.symm)
def zok (G : ZG) : Prop := (∀ c ∈ zcells, ∀ c' ∈ zcells, ga G c.1 c.2 = ga G c'.1 c'.2 → c = c') ∧ ∀ c ∈ zcells, gA G (ga G c.1 c.2)
theorem zws_at {G : ZG} {k i : Nat} (h : zval k i) : ∃ q0 : Nat, zcells[q0]? = some (k, i) ∧ ∀ M, (zws G M)[q0]? = some (ga G k i, zent G M k i) := by
  obtain ⟨q0, hq⟩ := List.getElem?_of_mem (zcells_mem h)
  refine ⟨q0, hq, fun M => ?_⟩
  unfold zws
  rw [List.getElem?_map, hq]
  rfl
theorem zws_D {G : ZG} (h : zok G) (M : ZM) : va_D (gA G) (zws G M) := by
  refine ⟨fun i j p q hi hj he => ?_, fun k q hk => ?_⟩
  · unfold zws at hi hj
    rw [List.getElem?_map, Option.map_eq_some_iff] at hi hj
    obtain ⟨c, hc, rfl⟩ := hi
    obtain ⟨c', hc', rfl⟩ := hj
    have h1 := h.1 c (List.mem_of_getElem? hc) c' (List.mem_of_getElem? hc') he
    subst h1
    exact zcells_inj hc hc'
  · unfold zws at hk
    rw [List.getElem?_map, Option.map_eq_some_iff] at hk
    obtain ⟨c, hc, rfl⟩ := hk
    exact h.2 c (List.mem_of_getElem? hc)
def zset (k i j : Nat) (v : Int32) (M : ZM) : ZM := (fun a b c => if a = k ∧ b = i ∧ c = j then v else M.1 a b c, M.2)
def zsetL (k i j : Nat) (v : Int64) (M : ZM) : ZM := (M.1, fun a b c => if a = k ∧ b = i ∧ c = j then v else M.2 a b c)
theorem zfs_congr {G : ZG} {M M' : ZM} {k i : Nat} (h : M.1 k i = M'.1 k i) (fs : List ZF) : zfs G M k i fs = zfs G M' k i fs := by
  unfold zfs
  apply List.map_congr_left
  intro p _
  rcases p with ⟨f, j⟩
  cases f with
  | none => simp only [zfv, h]
  | some f => rcases f with ⟨a, b, c⟩; cases c <;> rfl
theorem zent_congr {G : ZG} {M M' : ZM} {k i : Nat} (h1 : M.1 k i = M'.1 k i) (h2 : M.2 k i = M'.2 k i) : zent G M k i = zent G M' k i := by
  unfold zent
  split
  · rw [zfs_congr h1]
  · unfold zarr
    split <;> simp only [h1, h2]
theorem zset_row {k i j : Nat} {v : Int32} {M : ZM} : (zset k i j v M).1 k i = upd (M.1 k i) j v := by
  funext c
  simp [zset, upd]
theorem zsetL_row {k i j : Nat} {v : Int64} {M : ZM} : (zsetL k i j v M).2 k i = vp_updL (M.2 k i) j v := by
  funext c
  simp [zsetL, vp_updL]
theorem zset_off {k i j a b : Nat} {v : Int32} {M : ZM} (h : ¬ (a = k ∧ b = i)) : (zset k i j v M).1 a b = M.1 a b := by
  funext c
  simp only [zset]
  rw [if_neg (fun q => h ⟨q.1, q.2.1⟩)]
theorem zsetL_off {k i j a b : Nat} {v : Int64} {M : ZM} (h : ¬ (a = k ∧ b = i)) : (zsetL k i j v M).2 a b = M.2 a b := by
  funext c
  simp only [zsetL]
  rw [if_neg (fun q => h ⟨q.1, q.2.1⟩)]
theorem zws_set {G : ZG} {M M' : ZM} {k i q0 : Nat} {e' : va_E} (hq : zcells[q0]? = some (k, i)) (h1 : ∀ a b, ¬ (a = k ∧ b = i) → M.1 a b = M'.1 a b ∧ M.2 a b = M'.2 a b) (he : zent G M' k i = e') : (zws G M).set q0 (ga G k i, e') = zws G M' := by
  apply List.ext_getElem?
  intro n
  rw [List.getElem?_set]
  split
  · rename_i hn
    subst hn
    obtain ⟨hlt, -⟩ := List.getElem?_eq_some_iff.mp hq
    unfold zws
    rw [if_pos (by simpa using hlt), List.getElem?_map, hq]
    simp only [Option.map_some, he]
  · rename_i hn
    unfold zws
    rw [List.getElem?_map, List.getElem?_map]
    cases hc : zcells[n]? with
    | none => rfl
    | some c =>
      simp only [Option.map_some]
      have hne : ¬ (c.1 = k ∧ c.2 = i) := by
        intro hck
        apply hn
        exact zcells_inj hq (by rw [hc]; exact congrArg some (Prod.ext hck.1 hck.2))
      rw [zent_congr (h1 c.1 c.2 hne).1 (h1 c.1 c.2 hne).2]
/-! locals, sorted by their places -/
def lget : ZL → Nat → Option ZV
  | [], _ => none
  | q :: r, n => bif q.1 == n then some q.2 else lget r n
theorem lget_mem {l : ZL} {n : Nat} {v : ZV} (h : lget l n = some v) : (n, v) ∈ l := by
  induction l with
  | nil => simp [lget] at h
  | cons q r ih =>
    obtain ⟨a, b⟩ := q
    unfold lget at h
    cases hq : a == n with
    | true =>
      simp only [hq, cond_true, Option.some.injEq] at h
      rw [← h, ← beq_iff_eq.mp hq]
      exact List.mem_cons_self
    | false =>
      simp only [hq, cond_false] at h
      exact List.mem_cons_of_mem _ (ih h)
def lkp (n c : Nat) (q : Nat × ZV) : Bool := !(q.1 == n) && (!(c == 2 && q.1 == n + 1) && !(q.1 + 1 == n && zcat q.2 == 2))
def lflt (n c : Nat) : ZL → ZL
  | [] => []
  | q :: r => bif lkp n c q then q :: lflt n c r else lflt n c r
def lins (n : Nat) (v : ZV) : ZL → ZL
  | [] => [(n, v)]
  | q :: r => bif Nat.ble n q.1 then (n, v) :: q :: r else q :: lins n v r
def lput (n : Nat) (v : ZV) (l : ZL) : ZL := lins n v (lflt n (zcat v) l)
def zkeep (ks : List Nat) : ZL → ZL
  | [] => []
  | q :: r => bif ks.elem q.1 then q :: zkeep ks r else zkeep ks r
theorem lflt_mem {n c : Nat} {l : ZL} {q : Nat × ZV} (h : q ∈ lflt n c l) : q ∈ l ∧ lkp n c q = true := by
  induction l with
  | nil => simp [lflt] at h
  | cons a r ih =>
    unfold lflt at h
    cases hc : lkp n c a with
    | true =>
      rw [hc] at h
      simp only [cond_true, List.mem_cons] at h
      rcases h with h | h
      · subst h; exact ⟨List.mem_cons_self, hc⟩
      · exact ⟨List.mem_cons_of_mem _ (ih h).1, (ih h).2⟩
    | false =>
      rw [hc] at h
      simp only [cond_false] at h
      exact ⟨List.mem_cons_of_mem _ (ih h).1, (ih h).2⟩
theorem lins_mem {n : Nat} {v : ZV} {l : ZL} {q : Nat × ZV} (h : q ∈ lins n v l) : q = (n, v) ∨ q ∈ l := by
  induction l with
  | nil => simp [lins] at h; exact Or.inl h
  | cons a r ih =>
    unfold lins at h
    cases hc : Nat.ble n a.1 with
    | true =>
      rw [hc] at h
      simp only [cond_true, List.mem_cons] at h
      rcases h with h | h | h
      · exact Or.inl h
      · exact Or.inr (by rw [h]; exact List.mem_cons_self)
      · exact Or.inr (List.mem_cons_of_mem _ h)
    | false =>
      rw [hc] at h
      simp only [cond_false, List.mem_cons] at h
      rcases h with h | h
      · exact Or.inr (by rw [h]; exact List.mem_cons_self)
      · rcases ih h with h | h
        · exact Or.inl h
        · exact Or.inr (List.mem_cons_of_mem _ h)
theorem zkeep_mem {ks : List Nat} {l : ZL} {q : Nat × ZV} (h : q ∈ zkeep ks l) : q ∈ l := by
  induction l with
  | nil => simp [zkeep] at h
  | cons a r ih =>
    unfold zkeep at h
    cases hc : ks.elem a.1 with
    | true =>
      rw [hc] at h
      simp only [cond_true, List.mem_cons] at h
      rcases h with h | h
      · rw [h]; exact List.mem_cons_self
      · exact List.mem_cons_of_mem _ (ih h)
    | false =>
      rw [hc] at h
      simp only [cond_false] at h
      exact List.mem_cons_of_mem _ (ih h)
abbrev zlm (G : ZG) (l : ZL) : List (Nat × Value) := l.map fun q => (q.1, zc G q.2)
theorem lget_has {G : ZG} {ls : Array Slot} {nL n : Nat} {l : ZL} {v : ZV} (h : lv_has ls nL (zlm G l)) (hg : lget l n = some v) : ls[n]? = some (.val (zc G v)) :=
  h.2.2 (n, zc G v) (List.mem_map.mpr ⟨(n, v), lget_mem hg, rfl⟩)
theorem zkeep_has {G : ZG} {ls : Array Slot} {nL : Nat} {l l' : ZL} (h : lv_has ls nL (zlm G l)) (hs : ∀ q ∈ l', q ∈ l) : lv_has ls nL (zlm G l') := by
  refine ⟨h.1, h.2.1, fun q hq => ?_⟩
  obtain ⟨q', hq', rfl⟩ := List.mem_map.mp hq
  exact h.2.2 _ (List.mem_map.mpr ⟨q', hs q' hq', rfl⟩)
theorem lput_has1 {G : ZG} {ls : Array Slot} {nL n : Nat} {l : ZL} {v : ZV} (h : lv_has ls nL ((n, zc G v) :: (zlm G l).filter (fun q => !(q.1 == n) && !(q.1 + 1 == n && q.2.category == 2)))) : lv_has ls nL (zlm G (lput n v l)) := by
  refine ⟨h.1, h.2.1, fun q hq => h.2.2 q ?_⟩
  obtain ⟨q', hq', rfl⟩ := List.mem_map.mp hq
  rcases lins_mem hq' with h1 | h1
  · rw [h1]; exact List.mem_cons_self
  · obtain ⟨h2, h3⟩ := lflt_mem h1
    refine List.mem_cons_of_mem _ (List.mem_filter.mpr ⟨List.mem_map.mpr ⟨q', h2, rfl⟩, ?_⟩)
    simp only [lkp, Bool.and_eq_true] at h3
    simp only [Bool.and_eq_true, zcat_eq]
    exact ⟨h3.1, h3.2.2⟩
theorem lput_has2 {G : ZG} {ls : Array Slot} {nL n : Nat} {l : ZL} {x : Int64} (h : lv_has ls nL ((n, zc G (zl x)) :: (zlm G l).filter (fun q => !(q.1 == n) && (!(q.1 == n + 1) && !(q.1 + 1 == n && q.2.category == 2))))) : lv_has ls nL (zlm G (lput n (zl x) l)) := by
  refine ⟨h.1, h.2.1, fun q hq => h.2.2 q ?_⟩
  obtain ⟨q', hq', rfl⟩ := List.mem_map.mp hq
  rcases lins_mem hq' with h1 | h1
  · rw [h1]; exact List.mem_cons_self
  · obtain ⟨h2, h3⟩ := lflt_mem h1
    refine List.mem_cons_of_mem _ (List.mem_filter.mpr ⟨List.mem_map.mpr ⟨q', h2, rfl⟩, ?_⟩)
    simp only [lkp, zcat, Bool.and_eq_true, beq_self_eq_true, Bool.true_and] at h3
    simp only [Bool.and_eq_true, zcat_eq]
    exact ⟨h3.1, h3.2.1, h3.2.2⟩
/-! methods, their contracts, the walk's judgement -/
/-- name, code, locals, answer's type, arguments (the receiver apart), depth of its calls (11: the law) -/
abbrev ZI : Type := MethodName × (ByteArray × (Nat × (Option FieldType × (Nat × Nat))))
def iN (m : ZI) : MethodName := m.1
def iB (m : ZI) : ByteArray := m.2.1
def iL (m : ZI) : Nat := m.2.2.1
def iR (m : ZI) : Option FieldType := m.2.2.2.1
def iA (m : ZI) : Nat := m.2.2.2.2.1
def iD (m : ZI) : Nat := m.2.2.2.2.2
def zrm (m : ZI) : Room := { frames := iD m, cells := 0, slots := 0, locals := 39 * iD m }
def zR (m : ZI) : Room := bif iD m == 11 then room_1 else zrm m
def zC (m : ZI) : Nat := bif iD m == 11 then 600000 else 0
def zS (m : ZI) : Nat := bif iD m == 11 then 7302249 else 0
def zwm (m : ZI) : List Jvm.Cond := Jvm.Cond.code (iN m) (iB m) (iL m) (iR m) :: zTw
def zEnv (G : ZG) (U : State) (H : Heap) : Prop := va_K (gD G) zcls (ztys G) U ∧ va_Z "ThreeStrandMaps$SolutionList" "ROWS" "[J" (.ref (ga G 38 0)) (gA G) U H ∧ va_T .long (ga G 38 0) 31 (fun j => .long (zrows j)) (gA G) U H ∧ va_T .int (ga G 39 0) (gN G) (fun j => .int (gX G j)) (gA G) U H ∧ ∀ w ∈ znest, va_Nw w U
def zPc (G : ZG) (M : ZM) (av : List ZV) : Array Value → State → Prop := va_Pc (av.map (zc G)) (fun U => va_P (gD G) zcls (zws G M) U.heap ∧ zEnv G U U.heap)
def zQc (G : ZG) (Z : Option ZV → ZM → Prop) : Array Value → State → Outcome → State → Prop := fun _ st oc t => (∃ (r : Option ZV) (M' : ZM), oc = .returned (r.map (zc G)) ∧ Z r M' ∧ va_P (gD G) zcls (zws G M') t.heap) ∧ va_F (gA G) st t
def zZ (below : List Frame) (a : Array Value) (s : State) : State → Prop := fun t => ∃ o, t.status = .running ∧ Ended t below o ∧ lw_Q a s o t
def zQ (G : ZG) (m : ZI) (Z : Option ZV → ZM → Prop) (below : List Frame) (a : Array Value) (s : State) : State → Prop := bif iD m == 11 then zZ below a s else MQ below (zQc G Z) a s 0 0 (gA G)
/-- the contract of a method, from a memory M, with arguments av: it ends with an answer and a memory of which Z holds -/
def Ctr (n : Nat) (G : ZG) (mi : ZI) (av : List ZV) (M : ZM) (Z : Option ZV → ZM → Prop) : Prop :=
  if n = 0 then (zok G → Met (gl G) (iN mi) (zwm mi) (zrm mi) (zPc G M av) (zQc G Z) 0 0 (gA G)) else Ctr (n - 1) G mi av M Z
termination_by n
/-- from here in the method's body: it comes to an end of which Z holds -/
def V (n : Nat) (G : ZG) (mi : ZI) (Z : Option ZV → ZM → Prop) (pc : Nat) (l : ZL) (st : List ZV) (M : ZM) : Prop :=
  if n = 0 then (zok G → ∀ (p : Program) (e : Env) (s : State) (m : MethodId) (args : Array Value) (below : List Frame) (meth : Method) (c : Code) (H : Heap) (locs : List Loc) (ls : Array Slot),
    CallFix p m c (iB mi) (iL mi) s args zTw (iN mi).cls → meth.sig.returnType = iR mi → meth.locks = false → (iD mi = 11 → ∀ q, gA G q → s.heap.size ≤ q) → zEnv G s s.heap → va_P (gD G) zcls (zws G M) H → va_S (gA G) s.heap H locs → lv_has ls (iL mi) (zlm G l) →
    W p (gl G) e (zR mi) s m args below meth c H locs (zC mi) (zS mi) (zQ G mi Z below args s) (F0 m pc ls (st.map (zc G)))) else V (n - 1) G mi Z pc l st M
termination_by n
theorem Ctr_eq (G : ZG) (mi : ZI) (av : List ZV) (M : ZM) (Z : Option ZV → ZM → Prop) : Ctr 0 G mi av M Z = (zok G → Met (gl G) (iN mi) (zwm mi) (zrm mi) (zPc G M av) (zQc G Z) 0 0 (gA G)) := by
  rw [Ctr]; rfl
theorem V_eq (G : ZG) (mi : ZI) (Z : Option ZV → ZM → Prop) (pc : Nat) (l : ZL) (st : List ZV) (M : ZM) : V 0 G mi Z pc l st M = (zok G → ∀ (p : Program) (e : Env) (s : State) (m : MethodId) (args : Array Value) (below : List Frame) (meth : Method) (c : Code) (H : Heap) (locs : List Loc) (ls : Array Slot),
    CallFix p m c (iB mi) (iL mi) s args zTw (iN mi).cls → meth.sig.returnType = iR mi → meth.locks = false → (iD mi = 11 → ∀ q, gA G q → s.heap.size ≤ q) → zEnv G s s.heap → va_P (gD G) zcls (zws G M) H → va_S (gA G) s.heap H locs → lv_has ls (iL mi) (zlm G l) →
    W p (gl G) e (zR mi) s m args below meth c H locs (zC mi) (zS mi) (zQ G mi Z below args s) (F0 m pc ls (st.map (zc G)))) := by
  rw [V]; rfl
section
variable {G : ZG} {mi : ZI} {Z : Option ZV → ZM → Prop} {pc : Nat} {l : ZL} {st : List ZV} {M : ZM}
set_option maxHeartbeats 1000000 in
theorem z_iconst {n : Int} {v : Int32} (hd : decode (iB mi) pc = .ok (.iconst n, 1)) (hv : Int32.ofInt n = v) (hk : V 0 G mi Z (pc + 1) l (zi v :: st) M) : V 0 G mi Z pc l st M := by
  rw [V_eq] at hk ⊢; intro hok p e s m args below meth c H locs ls hf hr hlk hfr hE hP hS hl
  exact lv_iconst hf.1 hf.2.1 hd hv (hk hok p e s m args below meth c H locs ls hf hr hlk hfr hE hP hS hl)
set_option maxHeartbeats 1000000 in
theorem z_bipush {n : Int} {v : Int32} (hd : decode (iB mi) pc = .ok (.bipush n, 2)) (hv : (Int8.ofInt n).toInt32 = v) (hk : V 0 G mi Z (pc + 2) l (zi v :: st) M) : V 0 G mi Z pc l st M := by
  rw [V_eq] at hk ⊢; intro hok p e s m args below meth c H locs ls hf hr hlk hfr hE hP hS hl
  exact lv_bipush hf.1 hf.2.1 hd hv (hk hok p e s m args below meth c H locs ls hf hr hlk hfr hE hP hS hl)
set_option maxHeartbeats 1000000 in
theorem z_sipush {n : Int} {v : Int32} (hd : decode (iB mi) pc = .ok (.sipush n, 3)) (hv : (Int16.ofInt n).toInt32 = v) (hk : V 0 G mi Z (pc + 3) l (zi v :: st) M) : V 0 G mi Z pc l st M := by
  rw [V_eq] at hk ⊢; intro hok p e s m args below meth c H locs ls hf hr hlk hfr hE hP hS hl
  exact lv_sipush hf.1 hf.2.1 hd hv (hk hok p e s m args below meth c H locs ls hf hr hlk hfr hE hP hS hl)
set_option maxHeartbeats 1000000 in
theorem z_lconst {n : Fin 2} {v : Int64} (hd : decode (iB mi) pc = .ok (.lconst n, 1)) (hv : Int64.ofNat (n : Nat) = v) (hk : V 0 G mi Z (pc + 1) l (zl v :: st) M) : V 0 G mi Z pc l st M := by
  rw [V_eq] at hk ⊢; intro hok p e s m args below meth c H locs ls hf hr hlk hfr hE hP hS hl
  exact lv_lconst hf.1 hf.2.1 hd hv (hk hok p e s m args below meth c H locs ls hf hr hlk hfr hE hP hS hl)
set_option maxHeartbeats 1000000 in
theorem z_ldc {n : Nat} {v : Int32} (hd : decode (iB mi) pc = .ok (.ldc n, 2)) (hw : Jvm.Cond.constant (iN mi).cls n v ∈ zTw) (hk : V 0 G mi Z (pc + 2) l (zi v :: st) M) : V 0 G mi Z pc l st M := by
  rw [V_eq] at hk ⊢; intro hok p e s m args below meth c H locs ls hf hr hlk hfr hE hP hS hl
  exact lv_ldc hf.1 hf.2.1 hf.2.2.2.1 (hf.2.2.2.2 _ hw) hd (hk hok p e s m args below meth c H locs ls hf hr hlk hfr hE hP hS hl)
set_option maxHeartbeats 1000000 in
theorem z_ldc2_w {n : Nat} {v : Int64} (hd : decode (iB mi) pc = .ok (.ldc2_w n, 3)) (hw : Jvm.Cond.constantLong (iN mi).cls n v ∈ zTw) (hk : V 0 G mi Z (pc + 3) l (zl v :: st) M) : V 0 G mi Z pc l st M := by
  rw [V_eq] at hk ⊢; intro hok p e s m args below meth c H locs ls hf hr hlk hfr hE hP hS hl
  exact lv_ldc2 hf.1 hf.2.1 hf.2.2.2.1 (hf.2.2.2.2 _ hw) hd (hk hok p e s m args below meth c H locs ls hf hr hlk hfr hE hP hS hl)
set_option maxHeartbeats 1000000 in
theorem z_iload {n : Nat} {x : Int32} (hd : decode (iB mi) pc = .ok (.iload n, 2)) (hg : lget l n = some (zi x)) (hk : V 0 G mi Z (pc + 2) l (zi x :: st) M) : V 0 G mi Z pc l st M := by
  rw [V_eq] at hk ⊢; intro hok p e s m args below meth c H locs ls hf hr hlk hfr hE hP hS hl
  exact lv_iload hf.1 hf.2.1 hd (lget_has hl hg) (hk hok p e s m args below meth c H locs ls hf hr hlk hfr hE hP hS hl)
set_option maxHeartbeats 1000000 in
theorem z_iload_n {n : Fin 4} {x : Int32} (hd : decode (iB mi) pc = .ok (.iload_n n, 1)) (hg : lget l n.val = some (zi x)) (hk : V 0 G mi Z (pc + 1) l (zi x :: st) M) : V 0 G mi Z pc l st M := by
  rw [V_eq] at hk ⊢; intro hok p e s m args below meth c H locs ls hf hr hlk hfr hE hP hS hl
  exact lv_iload_n hf.1 hf.2.1 hd rfl (lget_has hl hg) (hk hok p e s m args below meth c H locs ls hf hr hlk hfr hE hP hS hl)
set_option maxHeartbeats 1000000 in
theorem z_lload {n : Nat} {x : Int64} (hd : decode (iB mi) pc = .ok (.lload n, 2)) (hg : lget l n = some (zl x)) (hk : V 0 G mi Z (pc + 2) l (zl x :: st) M) : V 0 G mi Z pc l st M := by
  rw [V_eq] at hk ⊢; intro hok p e s m args below meth c H locs ls hf hr hlk hfr hE hP hS hl
  exact lv_lload hf.1 hf.2.1 hd (lget_has hl hg) (hk hok p e s m args below meth c H locs ls hf hr hlk hfr hE hP hS hl)
set_option maxHeartbeats 1000000 in
theorem z_lload_n {n : Fin 4} {x : Int64} (hd : decode (iB mi) pc = .ok (.lload_n n, 1)) (hg : lget l n.val = some (zl x)) (hk : V 0 G mi Z (pc + 1) l (zl x :: st) M) : V 0 G mi Z pc l st M := by
  rw [V_eq] at hk ⊢; intro hok p e s m args below meth c H locs ls hf hr hlk hfr hE hP hS hl
  exact lv_lload_n hf.1 hf.2.1 hd rfl (lget_has hl hg) (hk hok p e s m args below meth c H locs ls hf hr hlk hfr hE hP hS hl)
set_option maxHeartbeats 1000000 in
theorem z_aload {n a b : Nat} (hd : decode (iB mi) pc = .ok (.aload n, 2)) (hg : lget l n = some (zr a b)) (hk : V 0 G mi Z (pc + 2) l (zr a b :: st) M) : V 0 G mi Z pc l st M := by
  rw [V_eq] at hk ⊢; intro hok p e s m args below meth c H locs ls hf hr hlk hfr hE hP hS hl
  exact lv_aload hf.1 hf.2.1 hd (lget_has hl hg) (hk hok p e s m args below meth c H locs ls hf hr hlk hfr hE hP hS hl)
set_option maxHeartbeats 1000000 in
theorem z_aload_n {n : Fin 4} {a b : Nat} (hd : decode (iB mi) pc = .ok (.aload_n n, 1)) (hg : lget l n.val = some (zr a b)) (hk : V 0 G mi Z (pc + 1) l (zr a b :: st) M) : V 0 G mi Z pc l st M := by
  rw [V_eq] at hk ⊢; intro hok p e s m args below meth c H locs ls hf hr hlk hfr hE hP hS hl
  exact lv_aload_n hf.1 hf.2.1 hd rfl (lget_has hl hg) (hk hok p e s m args below meth c H locs ls hf hr hlk hfr hE hP hS hl)
set_option maxHeartbeats 1000000 in
theorem z_istore {n : Nat} {x : Int32} (hd : decode (iB mi) pc = .ok (.istore n, 2)) (hn : n < iL mi) (hk : V 0 G mi Z (pc + 2) (lput n (zi x) l) st M) : V 0 G mi Z pc l (zi x :: st) M := by
  rw [V_eq] at hk ⊢; intro hok p e s m args below meth c H locs ls0 hf hr hlk hfr hE hP hS hl
  exact lv_istore hf.1 hf.2.1 hd hl hn rfl (fun ls hl2 => hk hok p e s m args below meth c H locs ls hf hr hlk hfr hE hP hS (lput_has1 hl2))
set_option maxHeartbeats 1000000 in
theorem z_istore_n {n : Fin 4} {x : Int32} (hd : decode (iB mi) pc = .ok (.istore_n n, 1)) (hn : n.val < iL mi) (hk : V 0 G mi Z (pc + 1) (lput n.val (zi x) l) st M) : V 0 G mi Z pc l (zi x :: st) M := by
  rw [V_eq] at hk ⊢; intro hok p e s m args below meth c H locs ls0 hf hr hlk hfr hE hP hS hl
  exact lv_istore_n hf.1 hf.2.1 hd rfl hl hn rfl (fun ls hl2 => hk hok p e s m args below meth c H locs ls hf hr hlk hfr hE hP hS (lput_has1 hl2))
set_option maxHeartbeats 1000000 in
theorem z_lstore {n : Nat} {x : Int64} (hd : decode (iB mi) pc = .ok (.lstore n, 2)) (hn : n + 1 < iL mi) (hk : V 0 G mi Z (pc + 2) (lput n (zl x) l) st M) : V 0 G mi Z pc l (zl x :: st) M := by
  rw [V_eq] at hk ⊢; intro hok p e s m args below meth c H locs ls0 hf hr hlk hfr hE hP hS hl
  exact lv_lstore hf.1 hf.2.1 hd hl hn rfl (fun ls hl2 => hk hok p e s m args below meth c H locs ls hf hr hlk hfr hE hP hS (lput_has2 hl2))
set_option maxHeartbeats 1000000 in
theorem z_lstore_n {n : Fin 4} {x : Int64} (hd : decode (iB mi) pc = .ok (.lstore_n n, 1)) (hn : n.val + 1 < iL mi) (hk : V 0 G mi Z (pc + 1) (lput n.val (zl x) l) st M) : V 0 G mi Z pc l (zl x :: st) M := by
  rw [V_eq] at hk ⊢; intro hok p e s m args below meth c H locs ls0 hf hr hlk hfr hE hP hS hl
  exact lv_lstore_n hf.1 hf.2.1 hd rfl hl hn rfl (fun ls hl2 => hk hok p e s m args below meth c H locs ls hf hr hlk hfr hE hP hS (lput_has2 hl2))
set_option maxHeartbeats 1000000 in
theorem z_astore {n : Nat} {x y : Nat} (hd : decode (iB mi) pc = .ok (.astore n, 2)) (hn : n < iL mi) (hk : V 0 G mi Z (pc + 2) (lput n (zr x y) l) st M) : V 0 G mi Z pc l (zr x y :: st) M := by
  rw [V_eq] at hk ⊢; intro hok p e s m args below meth c H locs ls0 hf hr hlk hfr hE hP hS hl
  exact lv_astore hf.1 hf.2.1 hd hl hn rfl (fun ls hl2 => hk hok p e s m args below meth c H locs ls hf hr hlk hfr hE hP hS (lput_has1 hl2))
set_option maxHeartbeats 1000000 in
theorem z_astore_n {n : Fin 4} {x y : Nat} (hd : decode (iB mi) pc = .ok (.astore_n n, 1)) (hn : n.val < iL mi) (hk : V 0 G mi Z (pc + 1) (lput n.val (zr x y) l) st M) : V 0 G mi Z pc l (zr x y :: st) M := by
  rw [V_eq] at hk ⊢; intro hok p e s m args below meth c H locs ls0 hf hr hlk hfr hE hP hS hl
  exact lv_astore_n hf.1 hf.2.1 hd rfl hl hn rfl (fun ls hl2 => hk hok p e s m args below meth c H locs ls hf hr hlk hfr hE hP hS (lput_has1 hl2))
set_option maxHeartbeats 1000000 in
theorem z_iadd {x : Int32} {y : Int32} (hd : decode (iB mi) pc = .ok (.iadd, 1)) (hk : V 0 G mi Z (pc + 1) l (zi (x + y) :: st) M) : V 0 G mi Z pc l (zi y :: zi x :: st) M := by
  rw [V_eq] at hk ⊢; intro hok p e s m args below meth c H locs ls hf hr hlk hfr hE hP hS hl
  exact lv_iadd hf.1 hf.2.1 hd  (hk hok p e s m args below meth c H locs ls hf hr hlk hfr hE hP hS hl)
set_option maxHeartbeats 1000000 in
theorem z_isub {x : Int32} {y : Int32} (hd : decode (iB mi) pc = .ok (.isub, 1)) (hk : V 0 G mi Z (pc + 1) l (zi (x - y) :: st) M) : V 0 G mi Z pc l (zi y :: zi x :: st) M := by
  rw [V_eq] at hk ⊢; intro hok p e s m args below meth c H locs ls hf hr hlk hfr hE hP hS hl
  exact lv_isub hf.1 hf.2.1 hd  (hk hok p e s m args below meth c H locs ls hf hr hlk hfr hE hP hS hl)
set_option maxHeartbeats 1000000 in
theorem z_imul {x : Int32} {y : Int32} (hd : decode (iB mi) pc = .ok (.imul, 1)) (hk : V 0 G mi Z (pc + 1) l (zi (x * y) :: st) M) : V 0 G mi Z pc l (zi y :: zi x :: st) M := by
  rw [V_eq] at hk ⊢; intro hok p e s m args below meth c H locs ls hf hr hlk hfr hE hP hS hl
  exact lv_imul hf.1 hf.2.1 hd  (hk hok p e s m args below meth c H locs ls hf hr hlk hfr hE hP hS hl)
set_option maxHeartbeats 1000000 in
theorem z_iand {x : Int32} {y : Int32} (hd : decode (iB mi) pc = .ok (.iand, 1)) (hk : V 0 G mi Z (pc + 1) l (zi (x &&& y) :: st) M) : V 0 G mi Z pc l (zi y :: zi x :: st) M := by
  rw [V_eq] at hk ⊢; intro hok p e s m args below meth c H locs ls hf hr hlk hfr hE hP hS hl
  exact lv_iand hf.1 hf.2.1 hd  (hk hok p e s m args below meth c H locs ls hf hr hlk hfr hE hP hS hl)
set_option maxHeartbeats 1000000 in
theorem z_ior {x : Int32} {y : Int32} (hd : decode (iB mi) pc = .ok (.ior, 1)) (hk : V 0 G mi Z (pc + 1) l (zi (x ||| y) :: st) M) : V 0 G mi Z pc l (zi y :: zi x :: st) M := by
  rw [V_eq] at hk ⊢; intro hok p e s m args below meth c H locs ls hf hr hlk hfr hE hP hS hl
  exact lv_ior hf.1 hf.2.1 hd  (hk hok p e s m args below meth c H locs ls hf hr hlk hfr hE hP hS hl)
set_option maxHeartbeats 1000000 in
theorem z_ixor {x : Int32} {y : Int32} (hd : decode (iB mi) pc = .ok (.ixor, 1)) (hk : V 0 G mi Z (pc + 1) l (zi (x ^^^ y) :: st) M) : V 0 G mi Z pc l (zi y :: zi x :: st) M := by
  rw [V_eq] at hk ⊢; intro hok p e s m args below meth c H locs ls hf hr hlk hfr hE hP hS hl
  exact lv_ixor hf.1 hf.2.1 hd  (hk hok p e s m args below meth c H locs ls hf hr hlk hfr hE hP hS hl)
set_option maxHeartbeats 1000000 in
theorem z_ishl {x : Int32} {y : Int32} (hd : decode (iB mi) pc = .ok (.ishl, 1)) (hk : V 0 G mi Z (pc + 1) l (zi (x <<< (y &&& 31)) :: st) M) : V 0 G mi Z pc l (zi y :: zi x :: st) M := by
  rw [V_eq] at hk ⊢; intro hok p e s m args below meth c H locs ls hf hr hlk hfr hE hP hS hl
  exact lv_ishl hf.1 hf.2.1 hd  (hk hok p e s m args below meth c H locs ls hf hr hlk hfr hE hP hS hl)
set_option maxHeartbeats 1000000 in
theorem z_ishr {x : Int32} {y : Int32} (hd : decode (iB mi) pc = .ok (.ishr, 1)) (hk : V 0 G mi Z (pc + 1) l (zi (x >>> (y &&& 31)) :: st) M) : V 0 G mi Z pc l (zi y :: zi x :: st) M := by
  rw [V_eq] at hk ⊢; intro hok p e s m args below meth c H locs ls hf hr hlk hfr hE hP hS hl
  exact lv_ishr hf.1 hf.2.1 hd  (hk hok p e s m args below meth c H locs ls hf hr hlk hfr hE hP hS hl)
set_option maxHeartbeats 1000000 in
theorem z_ladd {x : Int64} {y : Int64} (hd : decode (iB mi) pc = .ok (.ladd, 1)) (hk : V 0 G mi Z (pc + 1) l (zl (x + y) :: st) M) : V 0 G mi Z pc l (zl y :: zl x :: st) M := by
  rw [V_eq] at hk ⊢; intro hok p e s m args below meth c H locs ls hf hr hlk hfr hE hP hS hl
  exact lv_ladd hf.1 hf.2.1 hd  (hk hok p e s m args below meth c H locs ls hf hr hlk hfr hE hP hS hl)
set_option maxHeartbeats 1000000 in
theorem z_lsub {x : Int64} {y : Int64} (hd : decode (iB mi) pc = .ok (.lsub, 1)) (hk : V 0 G mi Z (pc + 1) l (zl (x - y) :: st) M) : V 0 G mi Z pc l (zl y :: zl x :: st) M := by
  rw [V_eq] at hk ⊢; intro hok p e s m args below meth c H locs ls hf hr hlk hfr hE hP hS hl
  exact lv_lsub hf.1 hf.2.1 hd  (hk hok p e s m args below meth c H locs ls hf hr hlk hfr hE hP hS hl)
set_option maxHeartbeats 1000000 in
theorem z_land {x : Int64} {y : Int64} (hd : decode (iB mi) pc = .ok (.land, 1)) (hk : V 0 G mi Z (pc + 1) l (zl (x &&& y) :: st) M) : V 0 G mi Z pc l (zl y :: zl x :: st) M := by
  rw [V_eq] at hk ⊢; intro hok p e s m args below meth c H locs ls hf hr hlk hfr hE hP hS hl
  exact lv_land hf.1 hf.2.1 hd  (hk hok p e s m args below meth c H locs ls hf hr hlk hfr hE hP hS hl)
set_option maxHeartbeats 1000000 in
theorem z_lor {x : Int64} {y : Int64} (hd : decode (iB mi) pc = .ok (.lor, 1)) (hk : V 0 G mi Z (pc + 1) l (zl (x ||| y) :: st) M) : V 0 G mi Z pc l (zl y :: zl x :: st) M := by
  rw [V_eq] at hk ⊢; intro hok p e s m args below meth c H locs ls hf hr hlk hfr hE hP hS hl
  exact lv_lor hf.1 hf.2.1 hd  (hk hok p e s m args below meth c H locs ls hf hr hlk hfr hE hP hS hl)
set_option maxHeartbeats 1000000 in
theorem z_iushr {x : Int32} {y : Int32} (hd : decode (iB mi) pc = .ok (.iushr, 1)) (hk : V 0 G mi Z (pc + 1) l (zi ((x.toUInt32 >>> (y.toUInt32 &&& Int32.toUInt32 31)).toInt32) :: st) M) : V 0 G mi Z pc l (zi y :: zi x :: st) M := by
  rw [V_eq] at hk ⊢; intro hok p e s m args below meth c H locs ls hf hr hlk hfr hE hP hS hl
  exact lv_iushr hf.1 hf.2.1 hd rfl (hk hok p e s m args below meth c H locs ls hf hr hlk hfr hE hP hS hl)
set_option maxHeartbeats 1000000 in
theorem z_lshl {x : Int64} {y : Int32} (hd : decode (iB mi) pc = .ok (.lshl, 1)) (hk : V 0 G mi Z (pc + 1) l (zl (x <<< (y.toInt64 &&& 63)) :: st) M) : V 0 G mi Z pc l (zi y :: zl x :: st) M := by
  rw [V_eq] at hk ⊢; intro hok p e s m args below meth c H locs ls hf hr hlk hfr hE hP hS hl
  exact lv_lshl hf.1 hf.2.1 hd rfl (hk hok p e s m args below meth c H locs ls hf hr hlk hfr hE hP hS hl)
set_option maxHeartbeats 1000000 in
theorem z_lshr {x : Int64} {y : Int32} (hd : decode (iB mi) pc = .ok (.lshr, 1)) (hk : V 0 G mi Z (pc + 1) l (zl (x >>> (y.toInt64 &&& 63)) :: st) M) : V 0 G mi Z pc l (zi y :: zl x :: st) M := by
  rw [V_eq] at hk ⊢; intro hok p e s m args below meth c H locs ls hf hr hlk hfr hE hP hS hl
  exact lv_lshr hf.1 hf.2.1 hd rfl (hk hok p e s m args below meth c H locs ls hf hr hlk hfr hE hP hS hl)
set_option maxHeartbeats 1000000 in
theorem z_lushr {x : Int64} {y : Int32} (hd : decode (iB mi) pc = .ok (.lushr, 1)) (hk : V 0 G mi Z (pc + 1) l (zl ((x.toUInt64 >>> (y.toInt64.toUInt64 &&& Int64.toUInt64 63)).toInt64) :: st) M) : V 0 G mi Z pc l (zi y :: zl x :: st) M := by
  rw [V_eq] at hk ⊢; intro hok p e s m args below meth c H locs ls hf hr hlk hfr hE hP hS hl
  exact lv_lushr hf.1 hf.2.1 hd rfl (hk hok p e s m args below meth c H locs ls hf hr hlk hfr hE hP hS hl)
set_option maxHeartbeats 1000000 in
theorem z_idiv {x : Int32} {y : Int32} (hd : decode (iB mi) pc = .ok (.idiv, 1)) (hne : ¬ y = 0) (hk : V 0 G mi Z (pc + 1) l (zi (x / y) :: st) M) : V 0 G mi Z pc l (zi y :: zi x :: st) M := by
  rw [V_eq] at hk ⊢; intro hok p e s m args below meth c H locs ls hf hr hlk hfr hE hP hS hl
  exact lv_idiv hf.1 hf.2.1 hd hne (hk hok p e s m args below meth c H locs ls hf hr hlk hfr hE hP hS hl)
set_option maxHeartbeats 1000000 in
theorem z_lcmp {x : Int64} {y : Int64} (hd : decode (iB mi) pc = .ok (.lcmp, 1)) (hk : V 0 G mi Z (pc + 1) l (zi (lg_cmp x y) :: st) M) : V 0 G mi Z pc l (zl y :: zl x :: st) M := by
  rw [V_eq] at hk ⊢; intro hok p e s m args below meth c H locs ls hf hr hlk hfr hE hP hS hl
  exact W.lcmp hf.1 hf.2.1 hd  (hk hok p e s m args below meth c H locs ls hf hr hlk hfr hE hP hS hl)
set_option maxHeartbeats 1000000 in
theorem z_irem {x y : Int32} (hd : decode (iB mi) pc = .ok (.irem, 1)) (hne : ¬ y = 0) (hk : V 0 G mi Z (pc + 1) l (zi (x % y) :: st) M) : V 0 G mi Z pc l (zi y :: zi x :: st) M := by
  rw [← irem_eq_mod x y] at hk
  rw [V_eq] at hk ⊢; intro hok p e s m args below meth c H locs ls hf hr hlk hfr hE hP hS hl
  exact lv_irem hf.1 hf.2.1 hd hne (hk hok p e s m args below meth c H locs ls hf hr hlk hfr hE hP hS hl)
set_option maxHeartbeats 1000000 in
theorem z_i2l {x : Int32} (hd : decode (iB mi) pc = .ok (.i2l, 1)) (hk : V 0 G mi Z (pc + 1) l (zl x.toInt64 :: st) M) : V 0 G mi Z pc l (zi x :: st) M := by
  rw [V_eq] at hk ⊢; intro hok p e s m args below meth c H locs ls hf hr hlk hfr hE hP hS hl
  exact lv_i2l hf.1 hf.2.1 hd rfl (hk hok p e s m args below meth c H locs ls hf hr hlk hfr hE hP hS hl)
set_option maxHeartbeats 1000000 in
theorem z_l2i {x : Int64} (hd : decode (iB mi) pc = .ok (.l2i, 1)) (hk : V 0 G mi Z (pc + 1) l (zi x.toInt32 :: st) M) : V 0 G mi Z pc l (zl x :: st) M := by
  rw [V_eq] at hk ⊢; intro hok p e s m args below meth c H locs ls hf hr hlk hfr hE hP hS hl
  exact lv_l2i hf.1 hf.2.1 hd rfl (hk hok p e s m args below meth c H locs ls hf hr hlk hfr hE hP hS hl)
set_option maxHeartbeats 1000000 in
theorem z_if_eq {x : Int32} {off : Int} {tgt : Nat} (hd : decode (iB mi) pc = .ok (.ifCond .eq off, 3)) (ht : (pc : Int) + off = (tgt : Int)) (h1 : x = 0 → V 0 G mi Z tgt l st M) (h2 : ¬ (x = 0) → V 0 G mi Z (pc + 3) l st M) : V 0 G mi Z pc l (zi x :: st) M := by
  rw [V_eq]; intro hok p e s m args below meth c H locs ls hf hr hlk hfr hE hP hS hl
  refine lv_if_eq hf.1 hf.2.1 hd ht (fun h => ?_) (fun h => ?_)
  · have hk := h1 h
    rw [V_eq] at hk
    exact hk hok p e s m args below meth c H locs ls hf hr hlk hfr hE hP hS hl
  · have hk := h2 h
    rw [V_eq] at hk
    exact hk hok p e s m args below meth c H locs ls hf hr hlk hfr hE hP hS hl
set_option maxHeartbeats 1000000 in
theorem z_icmp_eq {x y : Int32} {off : Int} {tgt : Nat} (hd : decode (iB mi) pc = .ok (.if_icmp .eq off, 3)) (ht : (pc : Int) + off = (tgt : Int)) (h1 : x = y → V 0 G mi Z tgt l st M) (h2 : ¬ (x = y) → V 0 G mi Z (pc + 3) l st M) : V 0 G mi Z pc l (zi y :: zi x :: st) M := by
  rw [V_eq]; intro hok p e s m args below meth c H locs ls hf hr hlk hfr hE hP hS hl
  refine lv_icmp_eq hf.1 hf.2.1 hd ht (fun h => ?_) (fun h => ?_)
  · have hk := h1 h
    rw [V_eq] at hk
    exact hk hok p e s m args below meth c H locs ls hf hr hlk hfr hE hP hS hl
  · have hk := h2 h
    rw [V_eq] at hk
    exact hk hok p e s m args below meth c H locs ls hf hr hlk hfr hE hP hS hl
set_option maxHeartbeats 1000000 in
theorem z_if_ne {x : Int32} {off : Int} {tgt : Nat} (hd : decode (iB mi) pc = .ok (.ifCond .ne off, 3)) (ht : (pc : Int) + off = (tgt : Int)) (h1 : ¬ x = 0 → V 0 G mi Z tgt l st M) (h2 : ¬ (¬ x = 0) → V 0 G mi Z (pc + 3) l st M) : V 0 G mi Z pc l (zi x :: st) M := by
  rw [V_eq]; intro hok p e s m args below meth c H locs ls hf hr hlk hfr hE hP hS hl
  refine lv_if_ne hf.1 hf.2.1 hd ht (fun h => ?_) (fun h => ?_)
  · have hk := h1 h
    rw [V_eq] at hk
    exact hk hok p e s m args below meth c H locs ls hf hr hlk hfr hE hP hS hl
  · have hk := h2 (fun q => q h)
    rw [V_eq] at hk
    exact hk hok p e s m args below meth c H locs ls hf hr hlk hfr hE hP hS hl
set_option maxHeartbeats 1000000 in
theorem z_icmp_ne {x y : Int32} {off : Int} {tgt : Nat} (hd : decode (iB mi) pc = .ok (.if_icmp .ne off, 3)) (ht : (pc : Int) + off = (tgt : Int)) (h1 : ¬ x = y → V 0 G mi Z tgt l st M) (h2 : ¬ (¬ x = y) → V 0 G mi Z (pc + 3) l st M) : V 0 G mi Z pc l (zi y :: zi x :: st) M := by
  rw [V_eq]; intro hok p e s m args below meth c H locs ls hf hr hlk hfr hE hP hS hl
  refine lv_icmp_ne hf.1 hf.2.1 hd ht (fun h => ?_) (fun h => ?_)
  · have hk := h1 h
    rw [V_eq] at hk
    exact hk hok p e s m args below meth c H locs ls hf hr hlk hfr hE hP hS hl
  · have hk := h2 (fun q => q h)
    rw [V_eq] at hk
    exact hk hok p e s m args below meth c H locs ls hf hr hlk hfr hE hP hS hl
set_option maxHeartbeats 1000000 in
theorem z_if_lt {x : Int32} {off : Int} {tgt : Nat} (hd : decode (iB mi) pc = .ok (.ifCond .lt off, 3)) (ht : (pc : Int) + off = (tgt : Int)) (h1 : x < 0 → V 0 G mi Z tgt l st M) (h2 : ¬ (x < 0) → V 0 G mi Z (pc + 3) l st M) : V 0 G mi Z pc l (zi x :: st) M := by
  rw [V_eq]; intro hok p e s m args below meth c H locs ls hf hr hlk hfr hE hP hS hl
  refine lv_if_lt hf.1 hf.2.1 hd ht (fun h => ?_) (fun h => ?_)
  · have hk := h1 h
    rw [V_eq] at hk
    exact hk hok p e s m args below meth c H locs ls hf hr hlk hfr hE hP hS hl
  · have hk := h2 h
    rw [V_eq] at hk
    exact hk hok p e s m args below meth c H locs ls hf hr hlk hfr hE hP hS hl
set_option maxHeartbeats 1000000 in
theorem z_icmp_lt {x y : Int32} {off : Int} {tgt : Nat} (hd : decode (iB mi) pc = .ok (.if_icmp .lt off, 3)) (ht : (pc : Int) + off = (tgt : Int)) (h1 : x < y → V 0 G mi Z tgt l st M) (h2 : ¬ (x < y) → V 0 G mi Z (pc + 3) l st M) : V 0 G mi Z pc l (zi y :: zi x :: st) M := by
  rw [V_eq]; intro hok p e s m args below meth c H locs ls hf hr hlk hfr hE hP hS hl
  refine lv_icmp_lt hf.1 hf.2.1 hd ht (fun h => ?_) (fun h => ?_)
  · have hk := h1 h
    rw [V_eq] at hk
    exact hk hok p e s m args below meth c H locs ls hf hr hlk hfr hE hP hS hl
  · have hk := h2 h
    rw [V_eq] at hk
    exact hk hok p e s m args below meth c H locs ls hf hr hlk hfr hE hP hS hl
set_option maxHeartbeats 1000000 in
theorem z_if_ge {x : Int32} {off : Int} {tgt : Nat} (hd : decode (iB mi) pc = .ok (.ifCond .ge off, 3)) (ht : (pc : Int) + off = (tgt : Int)) (h1 : 0 ≤ x → V 0 G mi Z tgt l st M) (h2 : ¬ (0 ≤ x) → V 0 G mi Z (pc + 3) l st M) : V 0 G mi Z pc l (zi x :: st) M := by
  rw [V_eq]; intro hok p e s m args below meth c H locs ls hf hr hlk hfr hE hP hS hl
  refine lv_if_ge hf.1 hf.2.1 hd ht (fun h => ?_) (fun h => ?_)
  · have hk := h1 h
    rw [V_eq] at hk
    exact hk hok p e s m args below meth c H locs ls hf hr hlk hfr hE hP hS hl
  · have hk := h2 h
    rw [V_eq] at hk
    exact hk hok p e s m args below meth c H locs ls hf hr hlk hfr hE hP hS hl
set_option maxHeartbeats 1000000 in
theorem z_icmp_ge {x y : Int32} {off : Int} {tgt : Nat} (hd : decode (iB mi) pc = .ok (.if_icmp .ge off, 3)) (ht : (pc : Int) + off = (tgt : Int)) (h1 : y ≤ x → V 0 G mi Z tgt l st M) (h2 : ¬ (y ≤ x) → V 0 G mi Z (pc + 3) l st M) : V 0 G mi Z pc l (zi y :: zi x :: st) M := by
  rw [V_eq]; intro hok p e s m args below meth c H locs ls hf hr hlk hfr hE hP hS hl
  refine lv_icmp_ge hf.1 hf.2.1 hd ht (fun h => ?_) (fun h => ?_)
  · have hk := h1 h
    rw [V_eq] at hk
    exact hk hok p e s m args below meth c H locs ls hf hr hlk hfr hE hP hS hl
  · have hk := h2 h
    rw [V_eq] at hk
    exact hk hok p e s m args below meth c H locs ls hf hr hlk hfr hE hP hS hl
set_option maxHeartbeats 1000000 in
theorem z_if_gt {x : Int32} {off : Int} {tgt : Nat} (hd : decode (iB mi) pc = .ok (.ifCond .gt off, 3)) (ht : (pc : Int) + off = (tgt : Int)) (h1 : 0 < x → V 0 G mi Z tgt l st M) (h2 : ¬ (0 < x) → V 0 G mi Z (pc + 3) l st M) : V 0 G mi Z pc l (zi x :: st) M := by
  rw [V_eq]; intro hok p e s m args below meth c H locs ls hf hr hlk hfr hE hP hS hl
  refine lv_if_gt hf.1 hf.2.1 hd ht (fun h => ?_) (fun h => ?_)
  · have hk := h1 h
    rw [V_eq] at hk
    exact hk hok p e s m args below meth c H locs ls hf hr hlk hfr hE hP hS hl
  · have hk := h2 h
    rw [V_eq] at hk
    exact hk hok p e s m args below meth c H locs ls hf hr hlk hfr hE hP hS hl
set_option maxHeartbeats 1000000 in
theorem z_icmp_gt {x y : Int32} {off : Int} {tgt : Nat} (hd : decode (iB mi) pc = .ok (.if_icmp .gt off, 3)) (ht : (pc : Int) + off = (tgt : Int)) (h1 : y < x → V 0 G mi Z tgt l st M) (h2 : ¬ (y < x) → V 0 G mi Z (pc + 3) l st M) : V 0 G mi Z pc l (zi y :: zi x :: st) M := by
  rw [V_eq]; intro hok p e s m args below meth c H locs ls hf hr hlk hfr hE hP hS hl
  refine lv_icmp_gt hf.1 hf.2.1 hd ht (fun h => ?_) (fun h => ?_)
  · have hk := h1 h
    rw [V_eq] at hk
    exact hk hok p e s m args below meth c H locs ls hf hr hlk hfr hE hP hS hl
  · have hk := h2 h
    rw [V_eq] at hk
    exact hk hok p e s m args below meth c H locs ls hf hr hlk hfr hE hP hS hl
set_option maxHeartbeats 1000000 in
theorem z_if_le {x : Int32} {off : Int} {tgt : Nat} (hd : decode (iB mi) pc = .ok (.ifCond .le off, 3)) (ht : (pc : Int) + off = (tgt : Int)) (h1 : x ≤ 0 → V 0 G mi Z tgt l st M) (h2 : ¬ (x ≤ 0) → V 0 G mi Z (pc + 3) l st M) : V 0 G mi Z pc l (zi x :: st) M := by
  rw [V_eq]; intro hok p e s m args below meth c H locs ls hf hr hlk hfr hE hP hS hl
  refine lv_if_le hf.1 hf.2.1 hd ht (fun h => ?_) (fun h => ?_)
  · have hk := h1 h
    rw [V_eq] at hk
    exact hk hok p e s m args below meth c H locs ls hf hr hlk hfr hE hP hS hl
  · have hk := h2 h
    rw [V_eq] at hk
    exact hk hok p e s m args below meth c H locs ls hf hr hlk hfr hE hP hS hl
set_option maxHeartbeats 1000000 in
theorem z_icmp_le {x y : Int32} {off : Int} {tgt : Nat} (hd : decode (iB mi) pc = .ok (.if_icmp .le off, 3)) (ht : (pc : Int) + off = (tgt : Int)) (h1 : x ≤ y → V 0 G mi Z tgt l st M) (h2 : ¬ (x ≤ y) → V 0 G mi Z (pc + 3) l st M) : V 0 G mi Z pc l (zi y :: zi x :: st) M := by
  rw [V_eq]; intro hok p e s m args below meth c H locs ls hf hr hlk hfr hE hP hS hl
  refine lv_icmp_le hf.1 hf.2.1 hd ht (fun h => ?_) (fun h => ?_)
  · have hk := h1 h
    rw [V_eq] at hk
    exact hk hok p e s m args below meth c H locs ls hf hr hlk hfr hE hP hS hl
  · have hk := h2 h
    rw [V_eq] at hk
    exact hk hok p e s m args below meth c H locs ls hf hr hlk hfr hE hP hS hl
end
end
section
theorem zTw_good : ∀ w ∈ zTw, (w.onTables && w.keeps) = true ∨ ∃ ty, w = .arrayClass ty := fun w h => good_of_word (List.mem_filter.mp h).2
theorem zuws0 : ∀ q ∈ zcls, ∀ w ∈ u_ws q.1 q.2.1 q.2.2, w ∈ lw_tbl := by decide +kernel
theorem zuws1 : ∀ q ∈ zcls, ∀ w ∈ u_ws q.1 q.2.1 q.2.2, goodWord w = true := by decide +kernel
theorem zuws {ci : Nat} {C : String} {T : u_T} {N : Nat} (h : zcls[ci]? = some (C, T, N)) : ∀ w ∈ u_ws C T N, w ∈ zTw := fun w hw =>
  List.mem_filter.mpr ⟨zuws0 _ (List.mem_of_getElem? h) w hw, zuws1 _ (List.mem_of_getElem? h) w hw⟩
theorem ztyp : ∀ q ∈ zcls, ∀ k, k < q.2.2 → (parseFieldDescriptor (q.2.1 k).2.2.1).isSome = true := by decide +kernel
theorem zname : ∀ q ∈ zcls, ∀ a, a < q.2.2 → ∀ b, b < q.2.2 → a ≠ b → (q.2.1 a).2.1 ≠ (q.2.1 b).2.1 := by decide +kernel
theorem zfs_get {G : ZG} {M : ZM} {k i f : Nat} {fs : List ZF} {fd : ZF} (h : fs[f]? = some fd) : (zfs G M k i fs)[f]? = some (zc G (zfv k i f M fd)) := by
  unfold zfs
  rw [List.getElem?_map, List.getElem?_zipIdx, h]
  simp
theorem zfs_len {G : ZG} {M : ZM} {k i : Nat} {fs : List ZF} : (zfs G M k i fs).length = fs.length := by
  unfold zfs
  simp
theorem zfs_set {G : ZG} {M : ZM} {k i f : Nat} {x : Int32} {fs : List ZF} (h : fs[f]? = some none) : zfs G (zset k i f x M) k i fs = (zfs G M k i fs).set f (.int x) := by
  apply List.ext_getElem?
  intro n
  rw [List.getElem?_set]
  by_cases hn : f = n
  · subst hn
    have hlt := (List.getElem?_eq_some_iff.mp h).1
    rw [if_pos rfl, if_pos (by rw [zfs_len]; exact hlt), zfs_get h]
    simp [zfv, zset, zc]
  · rw [if_neg hn]
    cases hc : fs[n]? with
    | none =>
      have h1 : fs.length ≤ n := List.getElem?_eq_none_iff.mp hc
      rw [List.getElem?_eq_none_iff.mpr (by rw [zfs_len]; exact h1), List.getElem?_eq_none_iff.mpr (by rw [zfs_len]; exact h1)]
    | some fd =>
      rw [zfs_get hc, zfs_get hc]
      cases fd with
      | none =>
        simp only [zfv, zset]
        rw [if_neg (fun q => hn q.2.2.symm)]
      | some fd => rcases fd with ⟨a, b, c⟩; cases c <;> rfl
theorem zent_obj {G : ZG} {M : ZM} {k i ci : Nat} {fs : List ZF} (h : zK k = .inl (ci, fs)) : zent G M k i = .inr (ci, zfs G M k i fs) := by
  unfold zent; rw [h]
theorem zent_arr {G : ZG} {M : ZM} {k i t n : Nat} (h : zK k = .inr (t, n)) : zent G M k i = .inl (zarr G M k i t n) := by
  unfold zent; rw [h]
theorem zset_heap {G : ZG} {M : ZM} {k i j q0 : Nat} {v : Int32} {e' : va_E} (hq : zcells[q0]? = some (k, i)) (he : zent G (zset k i j v M) k i = e') : (zws G M).set q0 (ga G k i, e') = zws G (zset k i j v M) :=
  zws_set hq (fun a b h => ⟨(zset_off h).symm, rfl⟩) he
theorem zsetL_heap {G : ZG} {M : ZM} {k i j q0 : Nat} {v : Int64} {e' : va_E} (hq : zcells[q0]? = some (k, i)) (he : zent G (zsetL k i j v M) k i = e') : (zws G M).set q0 (ga G k i, e') = zws G (zsetL k i j v M) :=
  zws_set hq (fun a b h => ⟨rfl, (zsetL_off h).symm⟩) he
section
variable {G : ZG} {mi : ZI} {Z : Option ZV → ZM → Prop} {pc : Nat} {l : ZL} {st : List ZV} {M : ZM}
set_option maxHeartbeats 1000000 in
theorem z_getfield {n kd ix ci f N : Nat} {fs : List ZF} {fd : ZF} {C : String} {T : u_T} (hd : decode (iB mi) pc = .ok (.getfield n, 3)) (hk0 : zK kd = .inl (ci, fs)) (hv : zval kd ix) (hfd : fs[f]? = some fd) (hc : zcls[ci]? = some (C, T, N)) (hN : f < N)
    (hw : Jvm.Cond.fieldLink (iN mi).cls n (T f).1 (T f).2.1 (T f).2.2.1 ∈ zTw) (hk : V 0 G mi Z (pc + 3) l (zfv kd ix f M fd :: st) M) : V 0 G mi Z pc l (zr kd ix :: st) M := by
  rw [V_eq] at hk ⊢; intro hok p e s m args below meth c H locs ls hf hr hlk hfr hE hP hS hl
  obtain ⟨q0, hq0, hq1⟩ := zws_at (G := G) hv
  have he := hq1 M
  rw [zent_obj hk0] at he
  exact va_get (D := gD G) (ci := ci) (C := C) (T := T) (N := N) hf.1 hf.2.1 hf.2.2.2.2 (zuws hc) hf.2.2.2.1 hE.1 hP q0 he hc f hN (hf.2.2.2.2 _ hw) (fun _ h => h) (zfs_get hfd) hd (hk hok p e s m args below meth c H locs ls hf hr hlk hfr hE hP hS hl)
set_option maxHeartbeats 1000000 in
theorem z_putfield {n kd ix ci f N : Nat} {fs : List ZF} {C : String} {T : u_T} {x : Int32} (hd : decode (iB mi) pc = .ok (.putfield n, 3)) (hk0 : zK kd = .inl (ci, fs)) (hv : zval kd ix) (hfd : fs[f]? = some none) (hc : zcls[ci]? = some (C, T, N)) (hN : f < N)
    (hw : Jvm.Cond.fieldLink (iN mi).cls n (T f).1 (T f).2.1 (T f).2.2.1 ∈ zTw) (hfin : (T f).2.2.2 = false) (hty : parseFieldDescriptor (T f).2.2.1 = some .int) (hk : V 0 G mi Z (pc + 3) l st (zset kd ix f x M)) : V 0 G mi Z pc l (zi x :: zr kd ix :: st) M := by
  rw [V_eq] at hk ⊢; intro hok p e s m args below meth c H locs ls hf hr hlk hfr hE hP hS hl
  obtain ⟨q0, hq0, hq1⟩ := zws_at (G := G) hv
  have he := hq1 M
  rw [zent_obj hk0] at he
  have hlt : f < (zfs G M kd ix fs).length := by rw [zfs_len]; exact (List.getElem?_eq_some_iff.mp hfd).1
  have hcm := List.mem_of_getElem? hc
  refine va_put (D := gD G) (ci := ci) (C := C) (T := T) (N := N) (ty := .int) (v := .int x) hf.1 hf.2.1 hf.2.2.2.2 (zuws hc) (fun k => (parseFieldDescriptor (T k).2.2.1).getD .int) (fun k hk => ?_) (zname _ hcm) hf.2.2.2.1 hE.1 hP (zws_D hok M) hS q0 he hc f hN (hf.2.2.2.2 _ hw) (fun _ h => h) hfin hty rfl rfl hlt hd (fun H1 locs1 hP1 hD1 hS1 => ?_)
  · have h := ztyp _ hcm k hk
    obtain ⟨t, ht⟩ := Option.isSome_iff_exists.mp h
    rw [ht]; rfl
  · rw [zset_heap hq0 (by rw [zent_obj hk0, zfs_set hfd])] at hP1
    exact hk hok p e s m args below meth c H1 locs1 ls hf hr hlk hfr hE hP1 hS1 hl
set_option maxHeartbeats 1000000 in
theorem z_iaload {kd ix n : Nat} {i : Int32} (hd : decode (iB mi) pc = .ok (.iaload, 1)) (hk0 : zK kd = .inr (0, n)) (hv : zval kd ix) (hin : vp_in i n) (hk : V 0 G mi Z (pc + 1) l (zi (M.1 kd ix i.toNatClampNeg) :: st) M) : V 0 G mi Z pc l (zi i :: zr kd ix :: st) M := by
  rw [V_eq] at hk ⊢; intro hok p e s m args below meth c H locs ls hf hr hlk hfr hE hP hS hl
  obtain ⟨q0, hq0, hq1⟩ := zws_at (G := G) hv
  have he := hq1 M
  rw [zent_arr hk0] at he
  exact va_iald (D := gD G) hf.1 hf.2.1 hE.1 hP q0 0 he rfl hin hd (hk hok p e s m args below meth c H locs ls hf hr hlk hfr hE hP hS hl)
set_option maxHeartbeats 1000000 in
theorem z_baload {kd ix n : Nat} {i : Int32} (hd : decode (iB mi) pc = .ok (.baload, 1)) (hk0 : zK kd = .inr (2, n)) (hv : zval kd ix) (hin : vp_in i n) (hk : V 0 G mi Z (pc + 1) l (zi (M.1 kd ix i.toNatClampNeg) :: st) M) : V 0 G mi Z pc l (zi i :: zr kd ix :: st) M := by
  rw [V_eq] at hk ⊢; intro hok p e s m args below meth c H locs ls hf hr hlk hfr hE hP hS hl
  obtain ⟨q0, hq0, hq1⟩ := zws_at (G := G) hv
  have he := hq1 M
  rw [zent_arr hk0] at he
  exact va_zald (D := gD G) hf.1 hf.2.1 hE.1 hP q0 2 he rfl hin hd (hk hok p e s m args below meth c H locs ls hf hr hlk hfr hE hP hS hl)
set_option maxHeartbeats 1000000 in
theorem z_laload {kd ix n : Nat} {i : Int32} (hd : decode (iB mi) pc = .ok (.laload, 1)) (hk0 : zK kd = .inr (1, n)) (hv : zval kd ix) (hin : vp_in i n) (hk : V 0 G mi Z (pc + 1) l (zl (M.2 kd ix i.toNatClampNeg) :: st) M) : V 0 G mi Z pc l (zi i :: zr kd ix :: st) M := by
  rw [V_eq] at hk ⊢; intro hok p e s m args below meth c H locs ls hf hr hlk hfr hE hP hS hl
  obtain ⟨q0, hq0, hq1⟩ := zws_at (G := G) hv
  have he := hq1 M
  rw [zent_arr hk0] at he
  exact va_lald (D := gD G) hf.1 hf.2.1 hE.1 hP q0 1 he rfl hin hd (hk hok p e s m args below meth c H locs ls hf hr hlk hfr hE hP hS hl)
set_option maxHeartbeats 1000000 in
theorem z_aaload3 {kd ix n : Nat} {i : Int32} (hd : decode (iB mi) pc = .ok (.aaload, 1)) (hk0 : zK kd = .inr (3, n)) (hv : zval kd ix) (hin : vp_in i n) (hk : V 0 G mi Z (pc + 1) l (zr 0 i.toNatClampNeg :: st) M) : V 0 G mi Z pc l (zi i :: zr kd ix :: st) M := by
  rw [V_eq] at hk ⊢; intro hok p e s m args below meth c H locs ls hf hr hlk hfr hE hP hS hl
  obtain ⟨q0, hq0, hq1⟩ := zws_at (G := G) hv
  have he := hq1 M
  rw [zent_arr hk0] at he
  exact va_aldq (D := gD G) hf.1 hf.2.1 hE.1 hP q0 3 he rfl hin hd (hk hok p e s m args below meth c H locs ls hf hr hlk hfr hE hP hS hl)
set_option maxHeartbeats 1000000 in
theorem z_aaload4 {kd ix n : Nat} {i : Int32} (hd : decode (iB mi) pc = .ok (.aaload, 1)) (hk0 : zK kd = .inr (4, n)) (hv : zval kd ix) (hin : vp_in i n) (hk : V 0 G mi Z (pc + 1) l (zr 2 i.toNatClampNeg :: st) M) : V 0 G mi Z pc l (zi i :: zr kd ix :: st) M := by
  rw [V_eq] at hk ⊢; intro hok p e s m args below meth c H locs ls hf hr hlk hfr hE hP hS hl
  obtain ⟨q0, hq0, hq1⟩ := zws_at (G := G) hv
  have he := hq1 M
  rw [zent_arr hk0] at he
  exact va_aldq (D := gD G) hf.1 hf.2.1 hE.1 hP q0 4 he rfl hin hd (hk hok p e s m args below meth c H locs ls hf hr hlk hfr hE hP hS hl)
set_option maxHeartbeats 1000000 in
theorem z_iastore {kd ix n : Nat} {i x : Int32} (hd : decode (iB mi) pc = .ok (.iastore, 1)) (hk0 : zK kd = .inr (0, n)) (hv : zval kd ix) (hin : vp_in i n) (hk : V 0 G mi Z (pc + 1) l st (zset kd ix i.toNatClampNeg x M)) : V 0 G mi Z pc l (zi x :: zi i :: zr kd ix :: st) M := by
  rw [V_eq] at hk ⊢; intro hok p e s m args below meth c H locs ls hf hr hlk hfr hE hP hS hl
  obtain ⟨q0, hq0, hq1⟩ := zws_at (G := G) hv
  have he := hq1 M
  rw [zent_arr hk0] at he
  refine va_iast (D := gD G) hf.1 hf.2.1 hE.1 hP (zws_D hok M) hS q0 0 he rfl hin hd (fun H1 locs1 hP1 hD1 hS1 => ?_)
  rw [zset_heap (j := i.toNatClampNeg) (v := x) hq0 (by rw [zent_arr hk0]; simp only [zarr, zset_row])] at hP1
  exact hk hok p e s m args below meth c H1 locs1 ls hf hr hlk hfr hE hP1 hS1 hl
set_option maxHeartbeats 1000000 in
theorem z_bastore {kd ix n : Nat} {i x : Int32} (hd : decode (iB mi) pc = .ok (.bastore, 1)) (hk0 : zK kd = .inr (2, n)) (hv : zval kd ix) (hin : vp_in i n) (hx : x = 0 ∨ x = 1) (hk : V 0 G mi Z (pc + 1) l st (zset kd ix i.toNatClampNeg x M)) : V 0 G mi Z pc l (zi x :: zi i :: zr kd ix :: st) M := by
  rw [V_eq] at hk ⊢; intro hok p e s m args below meth c H locs ls hf hr hlk hfr hE hP hS hl
  obtain ⟨q0, hq0, hq1⟩ := zws_at (G := G) hv
  have he := hq1 M
  rw [zent_arr hk0] at he
  have hx2 : vp_nar .boolean x = x := by rcases hx with rfl | rfl <;> rfl
  refine va_zast (D := gD G) hf.1 hf.2.1 hE.1 hP (zws_D hok M) hS q0 2 he rfl hin hd (fun H1 locs1 hP1 hD1 hS1 => ?_)
  rw [hx2, zset_heap (j := i.toNatClampNeg) (v := x) hq0 (by rw [zent_arr hk0]; simp only [zarr, zset_row])] at hP1
  exact hk hok p e s m args below meth c H1 locs1 ls hf hr hlk hfr hE hP1 hS1 hl
set_option maxHeartbeats 1000000 in
theorem z_lastore {kd ix n : Nat} {i : Int32} {x : Int64} (hd : decode (iB mi) pc = .ok (.lastore, 1)) (hk0 : zK kd = .inr (1, n)) (hv : zval kd ix) (hin : vp_in i n) (hk : V 0 G mi Z (pc + 1) l st (zsetL kd ix i.toNatClampNeg x M)) : V 0 G mi Z pc l (zl x :: zi i :: zr kd ix :: st) M := by
  rw [V_eq] at hk ⊢; intro hok p e s m args below meth c H locs ls hf hr hlk hfr hE hP hS hl
  obtain ⟨q0, hq0, hq1⟩ := zws_at (G := G) hv
  have he := hq1 M
  rw [zent_arr hk0] at he
  refine va_last (D := gD G) hf.1 hf.2.1 hE.1 hP (zws_D hok M) hS q0 1 he rfl hin hd (fun H1 locs1 hP1 hD1 hS1 => ?_)
  rw [zsetL_heap (j := i.toNatClampNeg) (v := x) hq0 (by rw [zent_arr hk0]; simp only [zarr, zsetL_row])] at hP1
  exact hk hok p e s m args below meth c H1 locs1 ls hf hr hlk hfr hE hP1 hS1 hl
set_option maxHeartbeats 1000000 in
theorem z_alen {kd ix t n : Nat} (hd : decode (iB mi) pc = .ok (.arraylength, 1)) (hk0 : zK kd = .inr (t, n)) (ht : t < 3) (hv : zval kd ix) (hk : V 0 G mi Z (pc + 1) l (zi (Int32.ofNat n) :: st) M) : V 0 G mi Z pc l (zr kd ix :: st) M := by
  rw [V_eq] at hk ⊢; intro hok p e s m args below meth c H locs ls hf hr hlk hfr hE hP hS hl
  obtain ⟨q0, hq0, hq1⟩ := zws_at (G := G) hv
  have he := hq1 M
  rw [zent_arr hk0] at he
  match t, ht with
  | 0, _ => exact va_alen (D := gD G) hf.1 hf.2.1 hE.1 hP q0 0 he rfl rfl hd (hk hok p e s m args below meth c H locs ls hf hr hlk hfr hE hP hS hl)
  | 1, _ => exact va_alen (D := gD G) hf.1 hf.2.1 hE.1 hP q0 1 he rfl rfl hd (hk hok p e s m args below meth c H locs ls hf hr hlk hfr hE hP hS hl)
  | 2, _ => exact va_alen (D := gD G) hf.1 hf.2.1 hE.1 hP q0 2 he rfl rfl hd (hk hok p e s m args below meth c H locs ls hf hr hlk hfr hE hP hS hl)
set_option maxHeartbeats 1000000 in
theorem z_rows {i : Int32} (hd : decode (iB mi) pc = .ok (.laload, 1)) (hin : vp_in i 31) (hk : V 0 G mi Z (pc + 1) l (zl (zrows i.toNatClampNeg) :: st) M) : V 0 G mi Z pc l (zi i :: zr 38 0 :: st) M := by
  rw [V_eq] at hk ⊢; intro hok p e s m args below meth c H locs ls hf hr hlk hfr hE hP hS hl
  exact va_tl hf.1 hf.2.1 hE.2.2.1 hS hin rfl hd (hk hok p e s m args below meth c H locs ls hf hr hlk hfr hE hP hS hl)
set_option maxHeartbeats 1000000 in
theorem z_script {i : Int32} (hd : decode (iB mi) pc = .ok (.iaload, 1)) (hin : vp_in i (gN G)) (hk : V 0 G mi Z (pc + 1) l (zi (gX G i.toNatClampNeg) :: st) M) : V 0 G mi Z pc l (zi i :: zr 39 0 :: st) M := by
  rw [V_eq] at hk ⊢; intro hok p e s m args below meth c H locs ls hf hr hlk hfr hE hP hS hl
  exact va_ti hf.1 hf.2.1 hE.2.2.2.1 hS hin rfl hd (hk hok p e s m args below meth c H locs ls hf hr hlk hfr hE hP hS hl)
set_option maxHeartbeats 1000000 in
theorem z_scriptlen (hd : decode (iB mi) pc = .ok (.arraylength, 1)) (hk : V 0 G mi Z (pc + 1) l (zi (Int32.ofNat (gN G)) :: st) M) : V 0 G mi Z pc l (zr 39 0 :: st) M := by
  rw [V_eq] at hk ⊢; intro hok p e s m args below meth c H locs ls hf hr hlk hfr hE hP hS hl
  exact va_tlen hf.1 hf.2.1 hE.2.2.2.1 hS rfl hd (hk hok p e s m args below meth c H locs ls hf hr hlk hfr hE hP hS hl)
set_option maxHeartbeats 1000000 in
theorem z_getrows {n : Nat} (hd : decode (iB mi) pc = .ok (.getstatic n, 3)) (hw : Jvm.Cond.fieldLink (iN mi).cls n "ThreeStrandMaps$SolutionList" "ROWS" "[J" ∈ zTw) (hk : V 0 G mi Z (pc + 3) l (zr 38 0 :: st) M) : V 0 G mi Z pc l st M := by
  rw [V_eq] at hk ⊢; intro hok p e s m args below meth c H locs ls hf hr hlk hfr hE hP hS hl
  exact va_gets hf.1 hf.2.1 hE.2.1 hS hf.2.2.2.1 (hf.2.2.2.2 _ hw) (fun _ h => h) hd (hk hok p e s m args below meth c H locs ls hf hr hlk hfr hE hP hS hl)
set_option maxHeartbeats 1000000 in
theorem z_dup {v : ZV} (hd : decode (iB mi) pc = .ok (.dup, 1)) (hv : zcat v = 1) (hk : V 0 G mi Z (pc + 1) l (v :: v :: st) M) : V 0 G mi Z pc l (v :: st) M := by
  rw [V_eq] at hk ⊢; intro hok p e s m args below meth c H locs ls hf hr hlk hfr hE hP hS hl
  exact lv_dup hf.1 hf.2.1 hd (by rw [zcat_eq]; exact hv) (hk hok p e s m args below meth c H locs ls hf hr hlk hfr hE hP hS hl)
set_option maxHeartbeats 1000000 in
theorem z_dup2 {v w : ZV} (hd : decode (iB mi) pc = .ok (.dup2, 1)) (hv : zcat v = 1) (hw : zcat w = 1) (hk : V 0 G mi Z (pc + 1) l (v :: w :: v :: w :: st) M) : V 0 G mi Z pc l (v :: w :: st) M := by
  rw [V_eq] at hk ⊢; intro hok p e s m args below meth c H locs ls hf hr hlk hfr hE hP hS hl
  exact lv_dup2_11 hf.1 hf.2.1 hd (by rw [zcat_eq]; exact hv) (by rw [zcat_eq]; exact hw) (hk hok p e s m args below meth c H locs ls hf hr hlk hfr hE hP hS hl)
set_option maxHeartbeats 1000000 in
theorem z_goto {off : Int} {tgt : Nat} (hd : decode (iB mi) pc = .ok (.goto off, 3)) (ht : (pc : Int) + off = (tgt : Int)) (hk : V 0 G mi Z tgt l st M) : V 0 G mi Z pc l st M := by
  rw [V_eq] at hk ⊢; intro hok p e s m args below meth c H locs ls hf hr hlk hfr hE hP hS hl
  exact lv_goto hf.1 hf.2.1 hd ht (hk hok p e s m args below meth c H locs ls hf hr hlk hfr hE hP hS hl)
set_option maxHeartbeats 1000000 in
theorem z_iinc {n : Nat} {a : Int} {x y : Int32} (hd : decode (iB mi) pc = .ok (.iinc n a, 3)) (hg : lget l n = some (zi x)) (hy : Int32.ofInt a = y) (hn : n < iL mi) (hk : V 0 G mi Z (pc + 3) (lput n (zi (x + y)) l) st M) : V 0 G mi Z pc l st M := by
  rw [V_eq] at hk ⊢
  intro hok p e s m args below meth c H locs ls0 hf hr hlk hfr hE hP hS hl
  obtain ⟨k, hk9⟩ := List.getElem?_of_mem (List.mem_map.mpr ⟨(n, zi x), lget_mem hg, rfl⟩ : (n, zc G (zi x)) ∈ zlm G l)
  exact lv_iinc hf.1 hf.2.1 hd hl (k := k) hk9 (by rw [hy]) hn rfl (fun ls hl2 => hk hok p e s m args below meth c H locs ls hf hr hlk hfr hE hP hS (lput_has1 hl2))
theorem V_sub {l' : ZL} (hs : ∀ q ∈ l', q ∈ l) (hk : V 0 G mi Z pc l' st M) : V 0 G mi Z pc l st M := by
  rw [V_eq] at hk ⊢; intro hok p e s m args below meth c H locs ls hf hr hlk hfr hE hP hS hl
  exact hk hok p e s m args below meth c H locs ls hf hr hlk hfr hE hP hS (zkeep_has hl hs)
end
end
section
theorem zEnv_keep {G : ZG} {s U : State} {H H' : Heap} (hE : zEnv G s H) (hq : ∀ a : Nat, a < H.size → ¬ gA G a → H'[a]? = H[a]?) (hvm : s.vm.Alike U.vm) (hn : ∀ w ∈ znest, va_Nw w U) : zEnv G U H' :=
  ⟨va_K.moved hvm hE.1, (hE.2.1.moved hvm).kept hq, (hE.2.2.1.moved hvm).kept hq, (hE.2.2.2.1.moved hvm).kept hq, hn⟩
theorem znest_form : ∀ w ∈ znest, ∃ a i x h, w = .methodLinkNest a i x h := by
  intro w hw
  have h := (List.mem_filter.mp hw).2
  cases w <;> first | exact ⟨_, _, _, _, rfl⟩ | cases h
theorem znest_warm {s U : State} (hW : s.WarmedH U.vm) (h : ∀ w ∈ znest, va_Nw w s) : ∀ w ∈ znest, va_Nw w U := by
  intro w hw
  have h2 := h w hw
  obtain ⟨a, i, x, h9, rfl⟩ := znest_form w hw
  exact va_Nw.warmM hW h2
theorem zEnv_call {G : ZG} {s U : State} {H : Heap} {locs : List Loc} (hE : zEnv G s s.heap) (hS : va_S (gA G) s.heap H locs) (hU : U.heap = H) (hW : s.WarmedH U.vm) : zEnv G U U.heap := by
  rw [hU]
  exact zEnv_keep hE (fun a h1 h2 => hS.2.1 a h1 h2) hW.alike (znest_warm hW hE.2.2.2.2)
theorem zPc_blind (G : ZG) (M : ZM) (av : List ZV) : FrameBlind (zPc G M av) := fun a U g mk q => ⟨q.1, q.2.1, zEnv_keep (s := U) (U := U.calling g mk a) q.2.2 (fun _ _ _ => rfl) (Vm.Alike.refl U.vm) (fun w hw => by
  have h2 := q.2.2.2.2.2.2 w hw
  obtain ⟨a, i, x, h9, rfl⟩ := znest_form w hw
  exact va_Nw.same rfl (U := U.calling g mk _) rfl h2)⟩
section
variable {p : Program} {l : Launch} {e : Env} {R : Room} {s : State} {m : MethodId} {args : Array Value} {below : List Frame} {meth : Method} {c : Code} {H : Heap} {locs : List Loc} {cells slots : Nat} {Q : State → Prop}
theorem zcall {G : ZG} {Z : Option ZV → ZM → Prop} {pc : Nat} {ls : Array Slot} {st0 rest : List Value} {av : Array Value} {H0 : Heap} (hr : va_Run p l e R s m args below meth c H locs cells slots 0 0 (F0 m pc ls st0) rest (zQc G Z av) (gA G)) (hS : va_S (gA G) H0 H locs)
    (kk : ∀ (r : Option ZV) (M' : ZM) (H1 : Heap) (locs1 : List Loc), Z r M' → va_P (gD G) zcls (zws G M') H1 → va_S (gA G) H0 H1 locs1 → W p l e R s m args below meth c H1 locs1 cells slots Q (F0 m (pc + 3) ls ((r.map (zc G)).toList ++ rest))) : W p l e R s m args below meth c H locs cells slots Q (F0 m pc ls st0) := by
  intro T hT X
  obtain ⟨v, st₀, t, T', L, h0, X', hL, hT', hvm, hQ, hg⟩ := hr T hT X
  obtain ⟨⟨r, M', hv, hZ, hP⟩, hF1, hF2⟩ := hQ
  have hv2 : v = r.map (zc G) := Outcome.returned.inj hv
  subst hv2
  have hS1 : va_S (gA G) H0 t.heap (locs ++ L) := by
    refine ⟨Nat.le_trans hS.1 (by rw [← h0]; exact hF1), fun q h1 h2 => ?_, fun q hq => ?_⟩
    · rw [hF2 q (by rw [h0]; exact Nat.lt_of_lt_of_le h1 hS.1) h2, h0]
      exact hS.2.1 q h1 h2
    · rcases List.mem_append.mp hq with h | h
      · exact hS.2.2 q h
      · exact hL q h
  obtain ⟨t2, a1, b1⟩ := kk r M' t.heap (locs ++ L) hZ hP hS1 T' hT' X'
  exact ⟨t2, hg t2 a1, b1⟩
end
/-- a method's row of the tables: its code's word, its class initialised, how many arguments -/
def zmOk (cm : ZI) : Prop := Jvm.Cond.code (iN cm) (iB cm) (iL cm) (iR cm) ∈ zTw ∧ Jvm.Cond.initialized (iN cm).cls ∈ zTw ∧ ((iN cm).cls ≠ "java/lang/invoke/MethodHandle" ∧ (iN cm).cls ≠ "java/lang/invoke/VarHandle" ∧ (parseMethodDescriptor (iN cm).desc).map (fun d => d.parameters.length) = some (iA cm))
def zfit (mi cm : ZI) : Prop := iD cm + 1 ≤ (zR mi).frames ∧ 8 + (iL cm + 11) + 39 * iD cm ≤ (zR mi).locals
theorem zwm_good {cm : ZI} (h : zmOk cm) {w : Jvm.Cond} (hw : w ∈ zwm cm) : w ∈ zTw := by
  rcases List.mem_cons.mp hw with h1 | h1
  · rw [h1]; exact h.1
  · exact h1
theorem zgood {ws : List Jvm.Cond} (h : ∀ w ∈ ws, w ∈ zTw) : GoodIn zTw ws := fun w hw => ⟨h w hw, zTw_good w (h w hw)⟩
theorem zcs_le (mi : ZI) : zC mi + 0 ≤ (zR mi).cells ∧ zS mi + 0 ≤ (zR mi).slots := by
  unfold zC zS zR
  cases (iD mi == 11) <;> exact ⟨Nat.le_refl _, Nat.le_refl _⟩
section
variable {G : ZG} {mi : ZI} {Z : Option ZV → ZM → Prop} {pc : Nat} {l : ZL} {st : List ZV} {M : ZM}
set_option maxHeartbeats 1000000 in
theorem z_virt {n kd ix ci N : Nat} {fs : List ZF} {C : String} {T : u_T} {cm : ZI} {as : List ZV} (hd : decode (iB mi) pc = .ok (.invokevirtual n, 3)) (hm : zmOk cm) (hfit : zfit mi cm) (has : as.length = iA cm) (hst : zct st ≤ 8) (hk0 : zK kd = .inl (ci, fs)) (hv : zval kd ix) (hc : zcls[ci]? = some (C, T, N)) (hC : (iN cm).cls = C)
    (hw1 : Jvm.Cond.methodLink (iN mi).cls n (iN cm) ∈ zTw) (hw2 : Jvm.Cond.instanceMethod (iN cm) ∈ zTw) (hw3 : Jvm.Cond.selects C (iN cm) (iN cm) ∈ zTw)
    (hk : Ctr 0 G cm (zr kd ix :: as) M (fun r M' => V 0 G mi Z (pc + 3) l (r.toList ++ st) M')) : V 0 G mi Z pc l (as.reverse ++ zr kd ix :: st) M := by
  rw [V_eq]
  rw [Ctr_eq] at hk
  intro hok p e s m args below meth c H locs ls hf hr hlk hfr hE hP hS hl
  obtain ⟨q0, hq0, hq1⟩ := zws_at (G := G) hv
  have he := hq1 M
  rw [zent_obj hk0] at he
  have hT : GoodIn zTw (wsV (iN mi).cls n C (iN cm) (zwm cm)) := zgood (fun w hw => by
    unfold wsV at hw
    simp only [List.cons_append, List.nil_append, List.mem_cons] at hw
    rcases hw with rfl | rfl | rfl | rfl | hw
    · exact hw1
    · exact hw2
    · exact hw3
    · rw [← hC]; exact hm.2.1
    · exact zwm_good hm hw)
  refine zcall (Z := fun r M' => V 0 G mi Z (pc + 3) l (r.toList ++ st) M') (rest := st.map (zc G)) (va_runV (As := as.map (zc G)) (rest := st.map (zc G)) hf (hk hok) (cwV (iA cm) hf.2.2.2.2 hT rfl rfl rfl ⟨hC, hm.2.2.1, hm.2.2.2.1, hm.2.2.2.2⟩ hfit) ⟨zPc_blind G M _, va_recv hE.1 hP hc he, fun U hU hW => ⟨rfl, by rw [hU]; exact hP, zEnv_call hE hS hU hW⟩⟩ rfl (by rw [List.length_map]; exact has) hl.1 (by simp [List.map_append, List.map_reverse, zc]) (lv_room (by rw [zct_eq]; exact hst)) hd (zcs_le mi)) hS (fun r M' H1 locs1 hZ hP1 hS1 => ?_)
  rw [V_eq] at hZ
  have h := hZ hok p e s m args below meth c H1 locs1 ls hf hr hlk hfr hE hP1 hS1 hl
  cases r with
  | none => exact h
  | some r => exact h
set_option maxHeartbeats 1000000 in
theorem z_stat {n : Nat} {cm : ZI} {as : List ZV} (hd : decode (iB mi) pc = .ok (.invokestatic n, 3)) (hm : zmOk cm) (hfit : zfit mi cm) (has : as.length = iA cm) (hst : zct st ≤ 8)
    (hw1 : Jvm.Cond.methodLink (iN mi).cls n (iN cm) ∈ zTw) (hw2 : Jvm.Cond.static (iN cm) ∈ zTw)
    (hk : Ctr 0 G cm as M (fun r M' => V 0 G mi Z (pc + 3) l (r.toList ++ st) M')) : V 0 G mi Z pc l (as.reverse ++ st) M := by
  rw [V_eq]
  rw [Ctr_eq] at hk
  intro hok p e s m args below meth c H locs ls hf hr hlk hfr hE hP hS hl
  have hT : GoodIn zTw (va_wsS (iN mi).cls n (iN cm) (zwm cm)) := zgood (fun w hw => by
    unfold va_wsS at hw
    simp only [List.cons_append, List.nil_append, List.mem_cons] at hw
    rcases hw with rfl | rfl | rfl | hw
    · exact hw1
    · exact hw2
    · exact hm.2.1
    · exact zwm_good hm hw)
  refine zcall (Z := fun r M' => V 0 G mi Z (pc + 3) l (r.toList ++ st) M') (rest := st.map (zc G)) (va_runS (As := as.map (zc G)) (rest := st.map (zc G)) hf (hk hok) (va_cwS (iA cm) hf.2.2.2.2 hT rfl rfl rfl hm.2.2 hfit) ⟨zPc_blind G M _, fun U hU hW => ⟨rfl, by rw [hU]; exact hP, zEnv_call hE hS hU hW⟩⟩ rfl (by rw [List.length_map]; exact has) hl.1 (by simp [List.map_append, List.map_reverse]) (lv_room (by rw [zct_eq]; exact hst)) hd (zcs_le mi)) hS (fun r M' H1 locs1 hZ hP1 hS1 => ?_)
  rw [V_eq] at hZ
  have h := hZ hok p e s m args below meth c H1 locs1 ls hf hr hlk hfr hE hP1 hS1 hl
  cases r with
  | none => exact h
  | some r => exact h
set_option maxHeartbeats 1000000 in
theorem z_nest {n : Nat} {cm : ZI} {host : String} {as : List ZV} (hd : decode (iB mi) pc = .ok (.invokestatic n, 3)) (hm : zmOk cm) (hfit : zfit mi cm) (has : as.length = iA cm) (hst : zct st ≤ 8)
    (hw1 : Jvm.Cond.methodLinkNest (iN mi).cls n (iN cm) host ∈ znest) (hw2 : Jvm.Cond.static (iN cm) ∈ zTw)
    (hk : Ctr 0 G cm as M (fun r M' => V 0 G mi Z (pc + 3) l (r.toList ++ st) M')) : V 0 G mi Z pc l (as.reverse ++ st) M := by
  rw [V_eq]
  rw [Ctr_eq] at hk
  intro hok p e s m args below meth c H locs ls hf hr hlk hfr hE hP hS hl
  have hT : GoodIn zTw (zwm cm) := zgood (fun w hw => zwm_good hm hw)
  refine zcall (Z := fun r M' => V 0 G mi Z (pc + 3) l (r.toList ++ st) M') (rest := st.map (zc G)) (va_runSN (As := as.map (zc G)) (rest := st.map (zc G)) hf (hk hok) ⟨va_cnB (iA cm) hf.2.2.2.2 hT rfl rfl rfl (hE.2.2.2.2 _ hw1) (hf.2.2.2.2 _ hm.2.1) hm.2.2 hfit, hf.2.2.2.2 _ hw2, trivial⟩ ⟨zPc_blind G M _, fun U hU hW => ⟨rfl, by rw [hU]; exact hP, zEnv_call hE hS hU hW⟩⟩ rfl (by rw [List.length_map]; exact has) hl.1 (by simp [List.map_append, List.map_reverse]) (lv_room (by rw [zct_eq]; exact hst)) hd (zcs_le mi)) hS (fun r M' H1 locs1 hZ hP1 hS1 => ?_)
  rw [V_eq] at hZ
  have h := hZ hok p e s m args below meth c H1 locs1 ls hf hr hlk hfr hE hP1 hS1 hl
  cases r with
  | none => exact h
  | some r => exact h
theorem zlaw_no (h : iD mi ≠ 11) : (iD mi == 11) = false := by simpa using h
set_option maxHeartbeats 1000000 in
theorem z_ireturn {x : Int32} (hd : decode (iB mi) pc = .ok (.ireturn, 1)) (hD : iD mi ≠ 11) (hR : iR mi = some .int) (hk : Z (some (zi x)) M) : V 0 G mi Z pc l [zi x] M := by
  rw [V_eq]
  intro hok p e s m args below meth c H locs ls hf hr hlk hfr hE hP hS hl
  simp only [zQ, zC, zS, zR, zlaw_no hD, cond_false]
  exact W.iret (v := x) hf.1 hf.2.1 (hr.trans hR) (fun t ht hW => ⟨⟨some (zi x), M, rfl, hk, by rw [ht]; exact hP⟩, hS.F ht⟩) hS.2.2 hd hlk
set_option maxHeartbeats 1000000 in
theorem z_zreturn {x : Int32} (hd : decode (iB mi) pc = .ok (.ireturn, 1)) (hD : iD mi ≠ 11) (hR : iR mi = some .boolean) (hx : x = 0 ∨ x = 1) (hk : Z (some (zi x)) M) : V 0 G mi Z pc l [zi x] M := by
  rw [V_eq]
  intro hok p e s m args below meth c H locs ls hf hr hlk hfr hE hP hS hl
  simp only [zQ, zC, zS, zR, zlaw_no hD, cond_false]
  exact W.zret (v := x) (ty := .boolean) hf.1 hf.2.1 (hr.trans hR) (by rcases hx with rfl | rfl <;> rfl) (fun t ht hW => ⟨⟨some (zi x), M, rfl, hk, by rw [ht]; exact hP⟩, hS.F ht⟩) hS.2.2 hd hlk
set_option maxHeartbeats 1000000 in
theorem z_lreturn {x : Int64} (hd : decode (iB mi) pc = .ok (.lreturn, 1)) (hD : iD mi ≠ 11) (hR : iR mi = some .long) (hk : Z (some (zl x)) M) : V 0 G mi Z pc l [zl x] M := by
  rw [V_eq]
  intro hok p e s m args below meth c H locs ls hf hr hlk hfr hE hP hS hl
  simp only [zQ, zC, zS, zR, zlaw_no hD, cond_false]
  exact W.lret (v := x) hf.1 hf.2.1 (hr.trans hR) (fun t ht hW => ⟨⟨some (zl x), M, rfl, hk, by rw [ht]; exact hP⟩, hS.F ht⟩) hS.2.2 hd hlk
set_option maxHeartbeats 1000000 in
theorem z_areturn {a b : Nat} {n : String} (hd : decode (iB mi) pc = .ok (.areturn, 1)) (hD : iD mi ≠ 11) (hR : iR mi = some (.object n)) (hk : Z (some (zr a b)) M) : V 0 G mi Z pc l [zr a b] M := by
  rw [V_eq]
  intro hok p e s m args below meth c H locs ls hf hr hlk hfr hE hP hS hl
  simp only [zQ, zC, zS, zR, zlaw_no hD, cond_false]
  exact W.aret (v := .ref (ga G a b)) hf.1 hf.2.1 (hr.trans hR) (Or.inl ⟨n, rfl⟩) (Or.inr ⟨_, rfl⟩) (fun t ht hW => ⟨⟨some (zr a b), M, rfl, hk, by rw [ht]; exact hP⟩, hS.F ht⟩) hS.2.2 hd hlk
set_option maxHeartbeats 1000000 in
theorem z_return (hd : decode (iB mi) pc = .ok (.return_, 1)) (hD : iD mi ≠ 11) (hR : iR mi = none) (hk : Z none M) : V 0 G mi Z pc l [] M := by
  rw [V_eq]
  intro hok p e s m args below meth c H locs ls hf hr hlk hfr hE hP hS hl
  simp only [zQ, zC, zS, zR, zlaw_no hD, cond_false]
  exact W.vret hf.1 hf.2.1 (hr.trans hR) (fun t ht hW => ⟨⟨none, M, rfl, hk, by rw [ht]; exact hP⟩, hS.F ht⟩) hS.2.2 hd hlk
end
theorem zlaw_end {p : Program} {l : Launch} {e : Env} {R : Room} {s : State} {m : MethodId} {args : Array Value} {below : List Frame} {meth : Method} {c : Code} {H : Heap} {cc : ByteArray} {ls : Array Slot} {pc : Nat} (hx : p.tables.exec = Jvm.exec) (hb : c.code = cc) (hr : meth.sig.returnType = some .boolean) (hlocks : meth.locks = false) (hdg : decode cc pc = .ok (.ireturn, 1)) : W p l e R s m args below meth c H [] 600000 7302249 (zZ below args s) (F0 m pc ls [.int 1]) := by
  intro T hT X
  obtain ⟨fs, hret, hrun, hended, hW, hframe⟩ := X.leave (v := some (.int 1)) (hlocks := hlocks) (fun h => by rw [hr] at h; cases h)
  have hmeth' : T.vm.method? m = some meth := X.method'
  refine ⟨T.setFrames fs, ?_, .returned (some (.int 1)), hrun, hended, rfl, ⟨_, rfl⟩, hW, hframe⟩
  jvm_step X.here [X.here.top, hx, hb, hdg, hmeth', hr, narrow_b1]
  (try refine ⟨rfl, ?_⟩); (try refine ⟨rfl, ?_⟩)
  first | (intro acts; rw [hret _ acts rfl rfl rfl]) | rw [hret _ _ rfl rfl rfl]
  exact Steps.refl _
set_option maxHeartbeats 1000000 in
theorem z_lawret {G : ZG} {mi : ZI} {Z : Option ZV → ZM → Prop} {pc : Nat} {l : ZL} {M : ZM} (hd : decode (iB mi) pc = .ok (.ireturn, 1)) (hD : iD mi = 11) (hR : iR mi = some .boolean) : V 0 G mi Z pc l [zi 1] M := by
  rw [V_eq]
  intro hok p e s m args below meth c H locs ls hf hr hlk hfr hE hP hS hl
  have h11 : (iD mi == 11) = true := by simpa using hD
  simp only [zQ, zC, zS, zR, h11, cond_true]
  exact va_forget (fun q hq => hfr hD _ (hS.2.2 q hq)) (zlaw_end hf.1 hf.2.1 (hr.trans hR) hlk hd)
theorem Ctr_mono {G : ZG} {cm : ZI} {av : List ZV} {M : ZM} {Z Z' : Option ZV → ZM → Prop} (h : Ctr 0 G cm av M Z) (hz : ∀ r M', Z r M' → Z' r M') : Ctr 0 G cm av M Z' := by
  rw [Ctr_eq] at *
  intro hok p e ha hc hk s m args below hf hap hpre hK
  obtain ⟨t, o, h1, h2, h3, ⟨⟨r, M', e1, e2, e3⟩, hF⟩, hL⟩ := h hok p e ha hc hk s m args below hf hap hpre hK
  exact ⟨t, o, h1, h2, h3, ⟨⟨r, M', e1, hz r M' e2, e3⟩, hF⟩, hL⟩
def zargs : Nat → List ZV → ZL
  | _, [] => []
  | n, v :: r => (n, v) :: zargs (match v with | .inr (.inl _) => n + 2 | _ => n + 1) r
theorem zargs_eq (G : ZG) (av : List ZV) : ∀ n, lv_args n (av.map (zc G)) = zlm G (zargs n av) := by
  induction av with
  | nil => intro n; rfl
  | cons v r ih =>
    intro n
    rcases v with x | x | x <;> exact congrArg _ (ih _)
theorem zlen_eq (G : ZG) (av : List ZV) : (lg_sl (av.map (zc G))).length = zct av := by
  induction av with
  | nil => rfl
  | cons v r ih =>
    have h : lg_sl ((v :: r).map (zc G)) = (if (zc G v).category = 2 then [.val (zc G v), .second] else [.val (zc G v)]) ++ lg_sl (r.map (zc G)) := rfl
    rw [h, List.length_append, ih]
    rcases v with x | x | x <;> rfl
set_option maxHeartbeats 1000000 in
theorem z_enter {G : ZG} {mi : ZI} {av : List ZV} {M : ZM} {Z : Option ZV → ZM → Prop} (hpl : plainName (iN mi).cls = true) (hD : iD mi ≠ 11) (hlen : zct av ≤ iL mi) (hk : V 0 G mi Z 0 (zargs 0 av) [] M) : Ctr 0 G mi av M Z := by
  rw [Ctr_eq]
  rw [V_eq] at hk
  intro hok
  refine Met.ofW (cc := iB mi) (maxL := iL mi) (ret := iR mi) hpl rfl ?_
  intro p e s m args below meth c s₁ B hml hv
  obtain ⟨rfl, hP, hE⟩ := hv
  have hts := atoms_spec (ws := zwm mi) B.pre
  have hown : s.vm.findClass (iN mi).cls = some m.cls := findClass_of_methodNamed B.named
  have hl := lv_entry (av.map (zc G)) (n := iL mi) (by rw [zlen_eq]; exact hlen)
  rw [zargs_eq] at hl
  have h := hk hok p e s m (av.map (zc G)).toArray below meth c s.heap [] _ ⟨B.exec, B.bytes, hml, hown, fun w hw => hts w (List.mem_cons_of_mem _ hw)⟩ B.returns B.notSynchronized (fun h => absurd h hD) hE hP va_S.rf hl
  simp only [zQ, zC, zS, zR, zlaw_no hD, cond_false] at h
  rw [lg_entry_eq]
  exact h
end
section
/-! the walk as a function: what is owed at each instruction -/
abbrev ZX : Type := List Nat × (Int32 × (Int64 × List (Int32 × Nat)))
/-- a row of a method's table: where, what, what its pool's entry says, the method that it calls -/
abbrev ZE : Type := Nat × (Instr × (ZX × ZI))
def zq (x : ZX) (i : Nat) : Nat := x.1.getD i 0
def zpI (st : List ZV) (k : Int32 → List ZV → Prop) : Prop := match st with
  | .inl x :: r => k x r
  | _ => False
def zpL (st : List ZV) (k : Int64 → List ZV → Prop) : Prop := match st with
  | .inr (.inl x) :: r => k x r
  | _ => False
def zpR (st : List ZV) (k : Nat → Nat → List ZV → Prop) : Prop := match st with
  | .inr (.inr (a, b)) :: r => k a b r
  | _ => False
def zgI (l : ZL) (n : Nat) (k : Int32 → Prop) : Prop := match lget l n with
  | some (.inl x) => k x
  | _ => False
def zgL (l : ZL) (n : Nat) (k : Int64 → Prop) : Prop := match lget l n with
  | some (.inr (.inl x)) => k x
  | _ => False
def zgR (l : ZL) (n : Nat) (k : Nat → Nat → Prop) : Prop := match lget l n with
  | some (.inr (.inr (a, b))) => k a b
  | _ => False
theorem zpI_ex {st : List ZV} {k : Int32 → List ZV → Prop} (h : zpI st k) : ∃ x r, st = zi x :: r ∧ k x r := by
  unfold zpI at h
  split at h
  · exact ⟨_, _, rfl, h⟩
  · exact h.elim
theorem zpL_ex {st : List ZV} {k : Int64 → List ZV → Prop} (h : zpL st k) : ∃ x r, st = zl x :: r ∧ k x r := by
  unfold zpL at h
  split at h
  · exact ⟨_, _, rfl, h⟩
  · exact h.elim
theorem zpR_ex {st : List ZV} {k : Nat → Nat → List ZV → Prop} (h : zpR st k) : ∃ a b r, st = zr a b :: r ∧ k a b r := by
  unfold zpR at h
  split at h
  · exact ⟨_, _, _, rfl, h⟩
  · exact h.elim
theorem zgI_ex {l : ZL} {n : Nat} {k : Int32 → Prop} (h : zgI l n k) : ∃ x, lget l n = some (zi x) ∧ k x := by
  unfold zgI at h
  split at h
  · exact ⟨_, by assumption, h⟩
  · exact h.elim
theorem zgL_ex {l : ZL} {n : Nat} {k : Int64 → Prop} (h : zgL l n k) : ∃ x, lget l n = some (zl x) ∧ k x := by
  unfold zgL at h
  split at h
  · exact ⟨_, by assumption, h⟩
  · exact h.elim
theorem zgR_ex {l : ZL} {n : Nat} {k : Nat → Nat → Prop} (h : zgR l n k) : ∃ a b, lget l n = some (zr a b) ∧ k a b := by
  unfold zgR at h
  split at h
  · exact ⟨_, _, by assumption, h⟩
  · exact h.elim
theorem zany_ex {st : List ZV} {k : ZV → List ZV → Prop} (h : match st with | v :: st => k v st | _ => False) : ∃ v r, st = v :: r ∧ k v r := by
  split at h
  · exact ⟨_, _, rfl, h⟩
  · exact h.elim
theorem zany2_ex {st : List ZV} {k : ZV → ZV → List ZV → Prop} (h : match st with | v :: w :: st => k v w st | _ => False) : ∃ v w r, st = v :: w :: r ∧ k v w r := by
  split at h
  · exact ⟨_, _, _, rfl, h⟩
  · exact h.elim
theorem znil_ex {st : List ZV} {P : Prop} (h : match st with | [] => P | _ => False) : st = [] ∧ P := by
  split at h
  · exact ⟨rfl, h⟩
  · exact h.elim
theorem zzero_ex {n : Nat} {P : Prop} (h : match n with | 0 => P | _ => False) : n = 0 ∧ P := by
  split at h
  · exact ⟨rfl, h⟩
  · exact h.elim
theorem zbif_ex {b : Bool} {P : Prop} (h : bif b then P else False) : b = true ∧ P := by
  cases b with
  | true => exact ⟨rfl, h⟩
  | false => exact h.elim
theorem zbif_or {b : Bool} {P Q : Prop} (h : bif b then P else Q) : (b = true ∧ P) ∨ (b = false ∧ Q) := by
  cases b with
  | true => exact Or.inl ⟨rfl, h⟩
  | false => exact Or.inr ⟨rfl, h⟩
theorem zobj_ex {kd : Nat} {k : Nat → List ZF → Prop} (h : match zK kd with | .inl (ci, fs) => k ci fs | _ => False) : ∃ ci fs, zK kd = .inl (ci, fs) ∧ k ci fs := by
  split at h
  · exact ⟨_, _, by assumption, h⟩
  · exact h.elim
theorem zopt_ex {o : Option ZF} {k : ZF → Prop} (h : match o with | some fd => k fd | none => False) : ∃ fd, o = some fd ∧ k fd := by
  split at h
  · exact ⟨_, rfl, h⟩
  · exact h.elim
theorem zopt2_ex {o : Option ZF} {P : Prop} (h : match o with | some none => P | _ => False) : o = some none ∧ P := by
  split at h
  · exact ⟨rfl, h⟩
  · exact h.elim
theorem zarr0_ex {kd : Nat} {k : Nat → Prop} (h : match zK kd with | .inr (0, n) => k n | _ => False) : ∃ n, zK kd = .inr (0, n) ∧ k n := by
  split at h
  · exact ⟨_, by assumption, h⟩
  · exact h.elim
theorem zarr1_ex {kd : Nat} {k : Nat → Prop} (h : match zK kd with | .inr (1, n) => k n | _ => False) : ∃ n, zK kd = .inr (1, n) ∧ k n := by
  split at h
  · exact ⟨_, by assumption, h⟩
  · exact h.elim
theorem zarr2_ex {kd : Nat} {k : Nat → Prop} (h : match zK kd with | .inr (2, n) => k n | _ => False) : ∃ n, zK kd = .inr (2, n) ∧ k n := by
  split at h
  · exact ⟨_, by assumption, h⟩
  · exact h.elim
theorem zarr34_ex {kd : Nat} {k k' : Nat → Prop} (h : match zK kd with | .inr (3, n) => k n | .inr (4, n) => k' n | _ => False) : (∃ n, zK kd = .inr (3, n) ∧ k n) ∨ ∃ n, zK kd = .inr (4, n) ∧ k' n := by
  split at h
  · exact Or.inl ⟨_, by assumption, h⟩
  · exact Or.inr ⟨_, by assumption, h⟩
  · exact h.elim
theorem zarrT_ex {kd : Nat} {k : Nat → Nat → Prop} (h : match zK kd with | .inr (t, n) => k t n | _ => False) : ∃ t n, zK kd = .inr (t, n) ∧ k t n := by
  split at h
  · exact ⟨_, _, by assumption, h⟩
  · exact h.elim
theorem zret_ex {o : Option FieldType} {P Q : Prop} (h : match o with | some .int => P | some .boolean => Q | _ => False) : (o = some .int ∧ P) ∨ (o = some .boolean ∧ Q) := by
  split at h
  · exact Or.inl ⟨rfl, h⟩
  · exact Or.inr ⟨rfl, h⟩
  · exact h.elim
/-- a cell that is there: of a kind with one cell it's seen, of others it's owed -/
def zvd (kd ix : Nat) (P : Prop) : Prop := bif zN kd == 1 then (match ix with | 0 => P | _ => False) else (ix < zN kd ∧ P)
theorem zN_lt {kd : Nat} (h : zN kd ≠ 0) : kd < 38 := by
  rcases Nat.lt_or_ge kd 38 with q | q
  · exact q
  · exfalso
    apply h
    have hl : zKL.length = 38 := by decide +kernel
    unfold zN
    rw [List.getD_eq_getElem?_getD, List.getElem?_eq_none_iff.mpr (by rw [hl]; exact q)]
    rfl
theorem zvd_ex {kd ix : Nat} {P : Prop} (h : zvd kd ix P) : zval kd ix ∧ P := by
  unfold zvd at h
  rcases zbif_or h with ⟨h1, h⟩ | ⟨h1, h⟩
  · have h2 := beq_iff_eq.mp h1
    obtain ⟨rfl, h⟩ := zzero_ex h
    exact ⟨⟨zN_lt (by rw [h2]; decide), by rw [h2]; decide⟩, h⟩
  · exact ⟨⟨zN_lt (by intro q; rw [q] at h; exact absurd h.1 (Nat.not_lt_zero _)), h.1⟩, h.2⟩
def zc0 (c : ClassFile.Cond) (x : Int32) : Prop := match c with
  | .eq => x = 0
  | .ne => ¬ x = 0
  | .lt => x < 0
  | .ge => 0 ≤ x
  | .gt => 0 < x
  | .le => x ≤ 0
def zc2 (c : ClassFile.Cond) (x y : Int32) : Prop := match c with
  | .eq => x = y
  | .ne => ¬ x = y
  | .lt => x < y
  | .ge => y ≤ x
  | .gt => y < x
  | .le => x ≤ y
abbrev zbr (c A B : Prop) : Prop := (c → A) ∧ (¬ c → B)
def zsw (sw : List (Int32 × Nat)) (v : Int32) (k : Nat → Prop) (d : Prop) : Prop := match sw with
  | [] => d
  | q :: r => zbr (v = q.1) (k q.2) (zsw r v k d)
def zpn : Nat → List ZV → List ZV → (List ZV → List ZV → Prop) → Prop
  | 0, acc, st, k => k acc st
  | n + 1, acc, st, k => match st with
    | v :: st => zpn n (v :: acc) st k
    | [] => False
theorem zpn_ex1 {k : List ZV → List ZV → Prop} : ∀ (n : Nat) (acc st : List ZV), zpn n acc st k → ∃ as r, as.length = n + acc.length ∧ acc.reverse ++ st = as.reverse ++ r ∧ k as r := by
  intro n
  induction n with
  | zero => intro acc st h; exact ⟨acc, st, by simp, rfl, h⟩
  | succ n ih =>
    intro acc st h
    unfold zpn at h
    split at h
    · rename_i v st
      obtain ⟨as, r, h1, h2, h3⟩ := ih (v :: acc) st h
      refine ⟨as, r, by rw [h1]; simp; omega, ?_, h3⟩
      rw [← h2]
      simp
    · exact h.elim
theorem zpn_ex {n : Nat} {st : List ZV} {k : List ZV → List ZV → Prop} (h : zpn n [] st k) : ∃ as r, as.length = n ∧ st = as.reverse ++ r ∧ k as r := by
  obtain ⟨as, r, h1, h2, h3⟩ := zpn_ex1 n [] st h
  exact ⟨as, r, by simpa using h1, by simpa using h2, h3⟩
set_option maxRecDepth 10000 in
def zex1 (G : ZG) (mi : ZI) (Z : Option ZV → ZM → Prop) (i : Instr) (x : ZX) (cm : ZI) (pc : Nat) (l : ZL) (st : List ZV) (M : ZM) (k : Nat → ZL → List ZV → ZM → Prop) : Prop := match i with
  | .iconst _ => k (pc + 1) l (zi x.2.1 :: st) M
  | .bipush _ => k (pc + 2) l (zi x.2.1 :: st) M
  | .sipush _ => k (pc + 3) l (zi x.2.1 :: st) M
  | .lconst _ => k (pc + 1) l (zl x.2.2.1 :: st) M
  | .ldc _ => k (pc + 2) l (zi x.2.1 :: st) M
  | .ldc2_w _ => k (pc + 3) l (zl x.2.2.1 :: st) M
  | .iload n => zgI l n fun v => k (pc + 2) l (zi v :: st) M
  | .iload_n n => zgI l n.val fun v => k (pc + 1) l (zi v :: st) M
  | .lload n => zgL l n fun v => k (pc + 2) l (zl v :: st) M
  | .lload_n n => zgL l n.val fun v => k (pc + 1) l (zl v :: st) M
  | .aload n => zgR l n fun a b => k (pc + 2) l (zr a b :: st) M
  | .aload_n n => zgR l n.val fun a b => k (pc + 1) l (zr a b :: st) M
  | .istore n => zpI st fun v st => k (pc + 2) (lput n (zi v) l) st M
  | .istore_n n => zpI st fun v st => k (pc + 1) (lput n.val (zi v) l) st M
  | .lstore n => zpL st fun v st => k (pc + 2) (lput n (zl v) l) st M
  | .lstore_n n => zpL st fun v st => k (pc + 1) (lput n.val (zl v) l) st M
  | .astore n => zpR st fun a b st => k (pc + 2) (lput n (zr a b) l) st M
  | .astore_n n => zpR st fun a b st => k (pc + 1) (lput n.val (zr a b) l) st M
  | .iinc n _ => zgI l n fun v => k (pc + 3) (lput n (zi (v + x.2.1)) l) st M
  | .iadd => zpI st fun y st => zpI st fun x st => k (pc + 1) l (zi (x + y) :: st) M
  | .isub => zpI st fun y st => zpI st fun x st => k (pc + 1) l (zi (x - y) :: st) M
  | .imul => zpI st fun y st => zpI st fun x st => k (pc + 1) l (zi (x * y) :: st) M
  | .iand => zpI st fun y st => zpI st fun x st => k (pc + 1) l (zi (x &&& y) :: st) M
  | .ior => zpI st fun y st => zpI st fun x st => k (pc + 1) l (zi (x ||| y) :: st) M
  | .ixor => zpI st fun y st => zpI st fun x st => k (pc + 1) l (zi (x ^^^ y) :: st) M
  | .ishl => zpI st fun y st => zpI st fun x st => k (pc + 1) l (zi (x <<< (y &&& 31)) :: st) M
  | .ishr => zpI st fun y st => zpI st fun x st => k (pc + 1) l (zi (x >>> (y &&& 31)) :: st) M
  | .iushr => zpI st fun y st => zpI st fun x st => k (pc + 1) l (zi ((x.toUInt32 >>> (y.toUInt32 &&& Int32.toUInt32 31)).toInt32) :: st) M
  | .ladd => zpL st fun y st => zpL st fun x st => k (pc + 1) l (zl (x + y) :: st) M
  | .lsub => zpL st fun y st => zpL st fun x st => k (pc + 1) l (zl (x - y) :: st) M
  | .land => zpL st fun y st => zpL st fun x st => k (pc + 1) l (zl (x &&& y) :: st) M
  | .lor => zpL st fun y st => zpL st fun x st => k (pc + 1) l (zl (x ||| y) :: st) M
  | .lshl => zpI st fun y st => zpL st fun x st => k (pc + 1) l (zl (x <<< (y.toInt64 &&& 63)) :: st) M
  | .lshr => zpI st fun y st => zpL st fun x st => k (pc + 1) l (zl (x >>> (y.toInt64 &&& 63)) :: st) M
  | .lushr => zpI st fun y st => zpL st fun x st => k (pc + 1) l (zl ((x.toUInt64 >>> (y.toInt64.toUInt64 &&& Int64.toUInt64 63)).toInt64) :: st) M
  | .lcmp => zpL st fun y st => zpL st fun x st => k (pc + 1) l (zi (lg_cmp x y) :: st) M
  | .idiv => zpI st fun y st => zpI st fun x st => (¬ y = 0) ∧ k (pc + 1) l (zi (x / y) :: st) M
  | .irem => zpI st fun y st => zpI st fun x st => (¬ y = 0) ∧ k (pc + 1) l (zi (x % y) :: st) M
  | .i2l => zpI st fun x st => k (pc + 1) l (zl x.toInt64 :: st) M
  | .l2i => zpL st fun x st => k (pc + 1) l (zi x.toInt32 :: st) M
  | .goto _ => k (zq x 0) l st M
  | .ifCond c _ => zpI st fun v st => zbr (zc0 c v) (k (zq x 0) l st M) (k (pc + 3) l st M)
  | .if_icmp c _ => zpI st fun w st => zpI st fun v st => zbr (zc2 c v w) (k (zq x 0) l st M) (k (pc + 3) l st M)
  | .tableswitch _ _ _ _ => zpI st fun v st => zsw x.2.2.2 v (fun t => k t l st M) (k (zq x 0) l st M)
  | .getfield _ => zpR st fun kd ix st => match zK kd with
    | .inl (ci, fs) => bif ci == zq x 0 then (match fs[zq x 1]? with
      | some fd => zvd kd ix (k (pc + 3) l (zfv kd ix (zq x 1) M fd :: st) M)
      | none => False) else False
    | _ => False
  | .putfield _ => zpI st fun v st => zpR st fun kd ix st => match zK kd with
    | .inl (ci, fs) => bif ci == zq x 0 then (match fs[zq x 1]? with
      | some none => zvd kd ix (k (pc + 3) l st (zset kd ix (zq x 1) v M))
      | _ => False) else False
    | _ => False
  | .iaload => zpI st fun i st => zpR st fun kd ix st => bif kd == 39 then (match ix with
    | 0 => vp_in i (gN G) ∧ k (pc + 1) l (zi (gX G i.toNatClampNeg) :: st) M
    | _ => False) else (match zK kd with
    | .inr (0, n) => zvd kd ix (vp_in i n ∧ k (pc + 1) l (zi (M.1 kd ix i.toNatClampNeg) :: st) M)
    | _ => False)
  | .baload => zpI st fun i st => zpR st fun kd ix st => match zK kd with
    | .inr (2, n) => zvd kd ix (vp_in i n ∧ k (pc + 1) l (zi (M.1 kd ix i.toNatClampNeg) :: st) M)
    | _ => False
  | .laload => zpI st fun i st => zpR st fun kd ix st => bif kd == 38 then (match ix with
    | 0 => vp_in i 31 ∧ k (pc + 1) l (zl (zrows i.toNatClampNeg) :: st) M
    | _ => False) else (match zK kd with
    | .inr (1, n) => zvd kd ix (vp_in i n ∧ k (pc + 1) l (zl (M.2 kd ix i.toNatClampNeg) :: st) M)
    | _ => False)
  | .aaload => zpI st fun i st => zpR st fun kd ix st => match zK kd with
    | .inr (3, n) => zvd kd ix (vp_in i n ∧ k (pc + 1) l (zr 0 i.toNatClampNeg :: st) M)
    | .inr (4, n) => zvd kd ix (vp_in i n ∧ k (pc + 1) l (zr 2 i.toNatClampNeg :: st) M)
    | _ => False
  | .iastore => zpI st fun v st => zpI st fun i st => zpR st fun kd ix st => match zK kd with
    | .inr (0, n) => zvd kd ix (vp_in i n ∧ k (pc + 1) l st (zset kd ix i.toNatClampNeg v M))
    | _ => False
  | .bastore => zpI st fun v st => zpI st fun i st => zpR st fun kd ix st => match zK kd with
    | .inr (2, n) => zvd kd ix ((v = 0 ∨ v = 1) ∧ vp_in i n ∧ k (pc + 1) l st (zset kd ix i.toNatClampNeg v M))
    | _ => False
  | .lastore => zpL st fun v st => zpI st fun i st => zpR st fun kd ix st => match zK kd with
    | .inr (1, n) => zvd kd ix (vp_in i n ∧ k (pc + 1) l st (zsetL kd ix i.toNatClampNeg v M))
    | _ => False
  | .arraylength => zpR st fun kd ix st => bif kd == 39 then (match ix with
    | 0 => k (pc + 1) l (zi (Int32.ofNat (gN G)) :: st) M
    | _ => False) else (match zK kd with
    | .inr (t, n) => bif Nat.ble t 2 then zvd kd ix (k (pc + 1) l (zi (Int32.ofNat n) :: st) M) else False
    | _ => False)
  | .getstatic _ => k (pc + 3) l (zr 38 0 :: st) M
  | .dup => match st with
    | v :: st => bif zcat v == 1 then k (pc + 1) l (v :: v :: st) M else False
    | _ => False
  | .dup2 => match st with
    | v :: w :: st => bif zcat v == 1 && zcat w == 1 then k (pc + 1) l (v :: w :: v :: w :: st) M else False
    | _ => False
  | .ireturn => zpI st fun v st => match st with
    | [] => bif iD mi == 11 then v = 1 else (match iR mi with
      | some .int => Z (some (zi v)) M
      | some .boolean => (v = 0 ∨ v = 1) ∧ Z (some (zi v)) M
      | _ => False)
    | _ => False
  | .lreturn => zpL st fun v st => match st with
    | [] => Z (some (zl v)) M
    | _ => False
  | .areturn => zpR st fun a b st => match st with
    | [] => Z (some (zr a b)) M
    | _ => False
  | .return_ => match st with
    | [] => Z none M
    | _ => False
  | .invokevirtual _ => zpn (iA cm) [] st fun as st => zpR st fun kd ix st => match zK kd with
    | .inl (ci, _) => bif ci == zq x 0 then (bif Nat.ble (zct st) 8 then zvd kd ix (Ctr 0 G cm (zr kd ix :: as) M fun r M => k (pc + 3) l (r.toList ++ st) M) else False) else False
    | _ => False
  | .invokestatic _ => zpn (iA cm) [] st fun as st => bif Nat.ble (zct st) 8 then (Ctr 0 G cm as M fun r M => k (pc + 3) l (r.toList ++ st) M) else False
  | _ => False
/-! the tables' rows, checked by counting -/
def zwd (x : ZX) (i : Nat) (w : Jvm.Cond) : Bool := decide (lw_tbl[zq x i]? = some w) && goodWord w
theorem zwd_of {x : ZX} {i : Nat} {w : Jvm.Cond} (h : zwd x i w = true) : w ∈ zTw := by
  unfold zwd at h
  simp only [Bool.and_eq_true, decide_eq_true_eq] at h
  exact zTw_of _ h.1 h.2
def zlen (i : Instr) (x : ZX) : Nat := match i with
  | .iload _ | .lload _ | .aload _ | .istore _ | .lstore _ | .astore _ | .bipush _ | .ldc _ => 2
  | .sipush _ | .ldc2_w _ | .goto _ | .ifCond _ _ | .if_icmp _ _ | .iinc _ _ | .getfield _ | .putfield _ | .getstatic _ | .invokevirtual _ | .invokestatic _ => 3
  | .tableswitch _ _ _ _ => zq x 1
  | _ => 1
def zchkF (mi : ZI) (n : Nat) (x : ZX) : Bool := match zcls[zq x 0]? with
  | some (_, T, N) => decide (zq x 1 < N) && zwd x 2 (.fieldLink (iN mi).cls n (T (zq x 1)).1 (T (zq x 1)).2.1 (T (zq x 1)).2.2.1)
  | none => false
def zchkP (x : ZX) : Bool := match zcls[zq x 0]? with
  | some (_, T, _) => decide ((T (zq x 1)).2.2.2 = false) && decide (parseFieldDescriptor (T (zq x 1)).2.2.1 = some .int)
  | none => false
theorem zchkF_ex {mi : ZI} {n : Nat} {x : ZX} (h : zchkF mi n x = true) : ∃ C T N, zcls[zq x 0]? = some (C, T, N) ∧ zq x 1 < N ∧ Jvm.Cond.fieldLink (iN mi).cls n (T (zq x 1)).1 (T (zq x 1)).2.1 (T (zq x 1)).2.2.1 ∈ zTw := by
  unfold zchkF at h
  split at h
  · simp only [Bool.and_eq_true, decide_eq_true_eq] at h
    exact ⟨_, _, _, by assumption, h.1, zwd_of h.2⟩
  · cases h
theorem zchkP_ex {x : ZX} (h : zchkP x = true) {C : String} {T : u_T} {N : Nat} (hc : zcls[zq x 0]? = some (C, T, N)) : (T (zq x 1)).2.2.2 = false ∧ parseFieldDescriptor (T (zq x 1)).2.2.1 = some .int := by
  unfold zchkP at h
  rw [hc] at h
  simp only [Bool.and_eq_true, decide_eq_true_eq] at h
  exact h
def zchkM (cm : ZI) (x : ZX) (qc qi : Nat) : Bool := zwd x qc (.code (iN cm) (iB cm) (iL cm) (iR cm)) && (zwd x qi (.initialized (iN cm).cls) && decide ((iN cm).cls ≠ "java/lang/invoke/MethodHandle" ∧ (iN cm).cls ≠ "java/lang/invoke/VarHandle" ∧ (parseMethodDescriptor (iN cm).desc).map (fun d => d.parameters.length) = some (iA cm)))
def zchkR (mi cm : ZI) : Bool := decide (iD cm + 1 ≤ (zR mi).frames) && decide (8 + (iL cm + 11) + 39 * iD cm ≤ (zR mi).locals)
theorem zchkM_ex {cm : ZI} {x : ZX} {qc qi : Nat} (h : zchkM cm x qc qi = true) : zmOk cm := by
  unfold zchkM at h
  simp only [Bool.and_eq_true, decide_eq_true_eq] at h
  exact ⟨zwd_of h.1, zwd_of h.2.1, h.2.2⟩
theorem zchkR_ex {mi cm : ZI} (h : zchkR mi cm = true) : zfit mi cm := by
  unfold zchkR at h
  simp only [Bool.and_eq_true, decide_eq_true_eq] at h
  exact h
def zchkV (mi cm : ZI) (n : Nat) (x : ZX) : Bool := match zcls[zq x 0]? with
  | some (C, _, _) => decide ((iN cm).cls = C) && (zchkM cm x 4 5 && (zchkR mi cm && (zwd x 1 (.methodLink (iN mi).cls n (iN cm)) && (zwd x 2 (.instanceMethod (iN cm)) && zwd x 3 (.selects C (iN cm) (iN cm))))))
  | none => false
theorem zchkV_ex {mi cm : ZI} {n : Nat} {x : ZX} (h : zchkV mi cm n x = true) : ∃ C T N, zcls[zq x 0]? = some (C, T, N) ∧ (iN cm).cls = C ∧ zmOk cm ∧ zfit mi cm ∧ Jvm.Cond.methodLink (iN mi).cls n (iN cm) ∈ zTw ∧ Jvm.Cond.instanceMethod (iN cm) ∈ zTw ∧ Jvm.Cond.selects C (iN cm) (iN cm) ∈ zTw := by
  unfold zchkV at h
  split at h
  · simp only [Bool.and_eq_true, decide_eq_true_eq] at h
    exact ⟨_, _, _, by assumption, h.1, zchkM_ex h.2.1, zchkR_ex h.2.2.1, zwd_of h.2.2.2.1, zwd_of h.2.2.2.2.1, zwd_of h.2.2.2.2.2⟩
  · cases h
def zchkN (mi cm : ZI) (n q : Nat) : Bool := match lw_tbl[q]? with
  | some (.methodLinkNest a i y _) => decide (a = (iN mi).cls) && (decide (i = n) && decide (y = iN cm))
  | _ => false
def zchkS (mi cm : ZI) (n : Nat) (x : ZX) : Bool := zchkM cm x 3 4 && (zchkR mi cm && (zwd x 2 (.static (iN cm)) && (bif zq x 0 == 0 then zwd x 1 (.methodLink (iN mi).cls n (iN cm)) else zchkN mi cm n (zq x 1))))
theorem zchkN_ex {mi cm : ZI} {n q : Nat} (h : zchkN mi cm n q = true) : ∃ host, Jvm.Cond.methodLinkNest (iN mi).cls n (iN cm) host ∈ znest := by
  unfold zchkN at h
  split at h
  · rename_i a i y host heq
    simp only [Bool.and_eq_true, decide_eq_true_eq] at h
    obtain ⟨rfl, rfl, rfl⟩ := h
    exact ⟨host, List.mem_filter.mpr ⟨List.mem_of_getElem? heq, rfl⟩⟩
  · cases h
theorem zchkS_ex {mi cm : ZI} {n : Nat} {x : ZX} (h : zchkS mi cm n x = true) : (zmOk cm ∧ zfit mi cm ∧ Jvm.Cond.methodLink (iN mi).cls n (iN cm) ∈ zTw ∧ Jvm.Cond.static (iN cm) ∈ zTw) ∨ (∃ host, zmOk cm ∧ zfit mi cm ∧ Jvm.Cond.methodLinkNest (iN mi).cls n (iN cm) host ∈ znest ∧ Jvm.Cond.static (iN cm) ∈ zTw) := by
  unfold zchkS at h
  simp only [Bool.and_eq_true] at h
  obtain ⟨h1, h2, h3, h4⟩ := h
  cases hb : (zq x 0 == 0) with
  | true =>
    rw [hb] at h4
    exact Or.inl ⟨zchkM_ex h1, zchkR_ex h2, zwd_of h4, zwd_of h3⟩
  | false =>
    rw [hb] at h4
    obtain ⟨host, hh⟩ := zchkN_ex h4
    exact Or.inr ⟨host, zchkM_ex h1, zchkR_ex h2, hh, zwd_of h3⟩
def zchkT (pc : Nat) (d lo hi : Int) (offs : Array Int) (x : ZX) : Bool := decide ((pc : Int) + d = (zq x 0 : Int)) && (decide (hi + 1 = lo + offs.size) && (List.range offs.size).all fun j => decide ((x.2.2.2[j]?).map (fun q => q.1.toInt) = some (lo + j)) && decide ((x.2.2.2[j]?).map (fun q => (q.2 : Int)) = (offs[j]?).map (fun o => (pc : Int) + o))) && decide (x.2.2.2.length = offs.size)
def zobjT (o : Option FieldType) : Bool := match o with
  | some (.object _) => true
  | _ => false
theorem zobjT_ex {o : Option FieldType} (h : zobjT o = true) : ∃ n, o = some (.object n) := by
  unfold zobjT at h
  split at h
  · exact ⟨_, rfl⟩
  · cases h
def zchk1 (mi : ZI) (pc : Nat) (i : Instr) (x : ZX) (cm : ZI) : Bool := match i with
  | .iconst n => decide (Int32.ofInt n = x.2.1)
  | .bipush n => decide ((Int8.ofInt n).toInt32 = x.2.1)
  | .sipush n => decide ((Int16.ofInt n).toInt32 = x.2.1)
  | .lconst n => decide (Int64.ofNat (n : Nat) = x.2.2.1)
  | .ldc n => zwd x 0 (.constant (iN mi).cls n x.2.1)
  | .ldc2_w n => zwd x 0 (.constantLong (iN mi).cls n x.2.2.1)
  | .istore n => decide (n < iL mi)
  | .astore n => decide (n < iL mi)
  | .lstore n => decide (n + 1 < iL mi)
  | .istore_n n => decide (n.val < iL mi)
  | .astore_n n => decide (n.val < iL mi)
  | .lstore_n n => decide (n.val + 1 < iL mi)
  | .iinc n a => decide (Int32.ofInt a = x.2.1) && decide (n < iL mi)
  | .goto off => decide ((pc : Int) + off = (zq x 0 : Int))
  | .ifCond _ off => decide ((pc : Int) + off = (zq x 0 : Int))
  | .if_icmp _ off => decide ((pc : Int) + off = (zq x 0 : Int))
  | .tableswitch d lo hi offs => zchkT pc d lo hi offs x
  | .getfield n => zchkF mi n x
  | .putfield n => zchkF mi n x && zchkP x
  | .getstatic n => zwd x 0 (.fieldLink (iN mi).cls n "ThreeStrandMaps$SolutionList" "ROWS" "[J")
  | .invokevirtual n => zchkV mi cm n x
  | .invokestatic n => zchkS mi cm n x
  | .ireturn => !(iD mi == 11) || decide (iR mi = some .boolean)
  | .lreturn => decide (iD mi ≠ 11) && decide (iR mi = some .long)
  | .areturn => decide (iD mi ≠ 11) && zobjT (iR mi)
  | .return_ => decide (iD mi ≠ 11) && decide (iR mi = none)
  | _ => true
def zchk (mi : ZI) (e : ZE) : Bool := decide (decode (iB mi) e.1 = .ok (e.2.1, zlen e.2.1 e.2.2.1)) && zchk1 mi e.1 e.2.1 e.2.2.1 e.2.2.2
theorem zsw_no {v : Int32} {k : Nat → Prop} {d : Prop} (sw : List (Int32 × Nat)) (h1 : ∀ q ∈ sw, ¬ v = q.1) (h : zsw sw v k d) : d := by
  induction sw with
  | nil => exact h
  | cons a r ih => exact ih (fun q hq => h1 q (List.mem_cons_of_mem _ hq)) (h.2 (h1 a List.mem_cons_self))
theorem zsw_in {v : Int32} {k : Nat → Prop} {d : Prop} {q0 : Int32 × Nat} (hv : v = q0.1) (sw : List (Int32 × Nat)) (h1 : q0 ∈ sw) (h : zsw sw v k d) : ∃ q ∈ sw, v = q.1 ∧ k q.2 := by
  induction sw with
  | nil => cases h1
  | cons a r ih =>
    by_cases ha : v = a.1
    · exact ⟨a, List.mem_cons_self, ha, h.1 ha⟩
    · rcases List.mem_cons.mp h1 with h2 | h2
      · exact absurd (by rw [← h2]; exact hv) ha
      · obtain ⟨q, hq, hq2⟩ := ih h2 (h.2 ha)
        exact ⟨q, List.mem_cons_of_mem _ hq, hq2⟩
section
variable {G : ZG} {mi : ZI} {Z : Option ZV → ZM → Prop} {pc : Nat} {l : ZL} {st : List ZV} {M : ZM}
set_option maxHeartbeats 1000000 in
theorem z_tabIn {d lo hi : Int} {offs : Array Int} {len : Nat} {v : Int32} {off : Int} {tgt : Nat} (hd : decode (iB mi) pc = .ok (.tableswitch d lo hi offs, len)) (h1 : ¬ v.toInt < lo) (h2 : ¬ hi < v.toInt) (ho : offs[(v.toInt - lo).toNat]? = some off) (ht : (pc : Int) + off = (tgt : Int)) (hk : V 0 G mi Z tgt l st M) : V 0 G mi Z pc l (zi v :: st) M := by
  rw [V_eq] at hk ⊢
  intro hok p e s m args below meth c H locs ls hf hr hlk hfr hE hP hS hl
  exact lv_tableIn hf.1 hf.2.1 hd h1 h2 ho ht (hk hok p e s m args below meth c H locs ls hf hr hlk hfr hE hP hS hl)
set_option maxHeartbeats 1000000 in
theorem z_tabOut {d lo hi : Int} {offs : Array Int} {len : Nat} {v : Int32} {tgt : Nat} (hd : decode (iB mi) pc = .ok (.tableswitch d lo hi offs, len)) (h1 : v.toInt < lo ∨ hi < v.toInt) (ht : (pc : Int) + d = (tgt : Int)) (hk : V 0 G mi Z tgt l st M) : V 0 G mi Z pc l (zi v :: st) M := by
  rw [V_eq] at hk ⊢
  intro hok p e s m args below meth c H locs ls hf hr hlk hfr hE hP hS hl
  exact lv_tableOut hf.1 hf.2.1 hd h1 ht (hk hok p e s m args below meth c H locs ls hf hr hlk hfr hE hP hS hl)
set_option maxHeartbeats 1000000 in
theorem z_switch {d lo hi : Int} {offs : Array Int} {len : Nat} {v : Int32} {x : ZX} {k : Nat → Prop} (hd : decode (iB mi) pc = .ok (.tableswitch d lo hi offs, len)) (hc : zchkT pc d lo hi offs x = true) (hk : ∀ t, k t → V 0 G mi Z t l st M) (h : zsw x.2.2.2 v k (k (zq x 0))) : V 0 G mi Z pc l (zi v :: st) M := by
  unfold zchkT at hc
  simp only [Bool.and_eq_true, decide_eq_true_eq, List.all_eq_true, List.mem_range] at hc
  obtain ⟨⟨hc1, hc2, hc3⟩, hc4⟩ := hc
  by_cases hin : v.toInt < lo ∨ hi < v.toInt
  · have hno : ∀ q ∈ x.2.2.2, ¬ v = q.1 := by
      intro q hq hv
      obtain ⟨j, hj⟩ := List.getElem?_of_mem hq
      have hlt := (List.getElem?_eq_some_iff.mp hj).1
      have h1 := (hc3 j (by omega)).1
      rw [hj] at h1
      simp only [Option.map_some, Option.some.injEq] at h1
      rw [hv] at hin
      omega
    exact z_tabOut hd hin hc1 (hk _ (zsw_no _ hno h))
  · have hj1 : (v.toInt - lo).toNat < offs.size := by omega
    have hj2 := hc3 _ hj1
    obtain ⟨q0, hq0⟩ : ∃ q0, x.2.2.2[(v.toInt - lo).toNat]? = some q0 := ⟨_, List.getElem?_eq_getElem (by omega)⟩
    rw [hq0] at hj2
    simp only [Option.map_some, Option.some.injEq] at hj2
    have hv0 : v = q0.1 := Int32.toInt_inj.mp (by rw [hj2.1]; omega)
    obtain ⟨q, hq, hv, hkq⟩ := zsw_in hv0 _ (List.mem_of_getElem? hq0) h
    obtain ⟨j, hj⟩ := List.getElem?_of_mem hq
    have hlt := (List.getElem?_eq_some_iff.mp hj).1
    have h1 := hc3 j (by omega)
    rw [hj] at h1
    simp only [Option.map_some, Option.some.injEq] at h1
    have hjv : j = (v.toInt - lo).toNat := by rw [hv, h1.1]; omega
    obtain ⟨off, ho⟩ : ∃ off, offs[j]? = some off := ⟨_, Array.getElem?_eq_getElem (by omega)⟩
    rw [ho] at h1
    simp only [Option.map_some, Option.some.injEq] at h1
    exact z_tabIn hd (fun q => hin (Or.inl q)) (fun q => hin (Or.inr q)) (by rw [← hjv]; exact ho) h1.2.symm (hk _ hkq)
set_option maxHeartbeats 4000000 in
theorem z_ex1 {i : Instr} {x : ZX} {cm : ZI} {k : Nat → ZL → List ZV → ZM → Prop} (hd : decode (iB mi) pc = .ok (i, zlen i x)) (hc : zchk1 mi pc i x cm = true) (hk : ∀ pc l st M, k pc l st M → V 0 G mi Z pc l st M) (h : zex1 G mi Z i x cm pc l st M k) : V 0 G mi Z pc l st M := by
  cases i
  case iconst n =>
    exact z_iconst hd (of_decide_eq_true hc) (hk _ _ _ _ h)
  case bipush n =>
    exact z_bipush hd (of_decide_eq_true hc) (hk _ _ _ _ h)
  case sipush n =>
    exact z_sipush hd (of_decide_eq_true hc) (hk _ _ _ _ h)
  case lconst n =>
    exact z_lconst hd (of_decide_eq_true hc) (hk _ _ _ _ h)
  case ldc n =>
    exact z_ldc hd (zwd_of hc) (hk _ _ _ _ h)
  case ldc2_w n =>
    exact z_ldc2_w hd (zwd_of hc) (hk _ _ _ _ h)
  case iload n =>
    obtain ⟨v, hg, h⟩ := zgI_ex h
    exact z_iload hd hg (hk _ _ _ _ h)
  case iload_n n =>
    obtain ⟨v, hg, h⟩ := zgI_ex h
    exact z_iload_n hd hg (hk _ _ _ _ h)
  case lload n =>
    obtain ⟨v, hg, h⟩ := zgL_ex h
    exact z_lload hd hg (hk _ _ _ _ h)
  case lload_n n =>
    obtain ⟨v, hg, h⟩ := zgL_ex h
    exact z_lload_n hd hg (hk _ _ _ _ h)
  case aload n =>
    obtain ⟨a, b, hg, h⟩ := zgR_ex h
    exact z_aload hd hg (hk _ _ _ _ h)
  case aload_n n =>
    obtain ⟨a, b, hg, h⟩ := zgR_ex h
    exact z_aload_n hd hg (hk _ _ _ _ h)
  case istore n =>
    obtain ⟨v, r, rfl, h⟩ := zpI_ex h
    exact z_istore hd (of_decide_eq_true hc) (hk _ _ _ _ h)
  case istore_n n =>
    obtain ⟨v, r, rfl, h⟩ := zpI_ex h
    exact z_istore_n hd (of_decide_eq_true hc) (hk _ _ _ _ h)
  case lstore n =>
    obtain ⟨v, r, rfl, h⟩ := zpL_ex h
    exact z_lstore hd (of_decide_eq_true hc) (hk _ _ _ _ h)
  case lstore_n n =>
    obtain ⟨v, r, rfl, h⟩ := zpL_ex h
    exact z_lstore_n hd (of_decide_eq_true hc) (hk _ _ _ _ h)
  case astore n =>
    obtain ⟨a, b, r, rfl, h⟩ := zpR_ex h
    exact z_astore hd (of_decide_eq_true hc) (hk _ _ _ _ h)
  case astore_n n =>
    obtain ⟨a, b, r, rfl, h⟩ := zpR_ex h
    exact z_astore_n hd (of_decide_eq_true hc) (hk _ _ _ _ h)
  case iinc n a =>
    obtain ⟨v, hg, h⟩ := zgI_ex h
    simp only [zchk1, Bool.and_eq_true, decide_eq_true_eq] at hc
    exact z_iinc hd hg hc.1 hc.2 (hk _ _ _ _ h)
  case iadd =>
    obtain ⟨y, r, rfl, h⟩ := zpI_ex h
    obtain ⟨x, r, rfl, h⟩ := zpI_ex h
    exact z_iadd hd (hk _ _ _ _ h)
  case isub =>
    obtain ⟨y, r, rfl, h⟩ := zpI_ex h
    obtain ⟨x, r, rfl, h⟩ := zpI_ex h
    exact z_isub hd (hk _ _ _ _ h)
  case imul =>
    obtain ⟨y, r, rfl, h⟩ := zpI_ex h
    obtain ⟨x, r, rfl, h⟩ := zpI_ex h
    exact z_imul hd (hk _ _ _ _ h)
  case iand =>
    obtain ⟨y, r, rfl, h⟩ := zpI_ex h
    obtain ⟨x, r, rfl, h⟩ := zpI_ex h
    exact z_iand hd (hk _ _ _ _ h)
  case ior =>
    obtain ⟨y, r, rfl, h⟩ := zpI_ex h
    obtain ⟨x, r, rfl, h⟩ := zpI_ex h
    exact z_ior hd (hk _ _ _ _ h)
  case ixor =>
    obtain ⟨y, r, rfl, h⟩ := zpI_ex h
    obtain ⟨x, r, rfl, h⟩ := zpI_ex h
    exact z_ixor hd (hk _ _ _ _ h)
  case ishl =>
    obtain ⟨y, r, rfl, h⟩ := zpI_ex h
    obtain ⟨x, r, rfl, h⟩ := zpI_ex h
    exact z_ishl hd (hk _ _ _ _ h)
  case ishr =>
    obtain ⟨y, r, rfl, h⟩ := zpI_ex h
    obtain ⟨x, r, rfl, h⟩ := zpI_ex h
    exact z_ishr hd (hk _ _ _ _ h)
  case iushr =>
    obtain ⟨y, r, rfl, h⟩ := zpI_ex h
    obtain ⟨x, r, rfl, h⟩ := zpI_ex h
    exact z_iushr hd (hk _ _ _ _ h)
  case ladd =>
    obtain ⟨y, r, rfl, h⟩ := zpL_ex h
    obtain ⟨x, r, rfl, h⟩ := zpL_ex h
    exact z_ladd hd (hk _ _ _ _ h)
  case lsub =>
    obtain ⟨y, r, rfl, h⟩ := zpL_ex h
    obtain ⟨x, r, rfl, h⟩ := zpL_ex h
    exact z_lsub hd (hk _ _ _ _ h)
  case land =>
    obtain ⟨y, r, rfl, h⟩ := zpL_ex h
    obtain ⟨x, r, rfl, h⟩ := zpL_ex h
    exact z_land hd (hk _ _ _ _ h)
  case lor =>
    obtain ⟨y, r, rfl, h⟩ := zpL_ex h
    obtain ⟨x, r, rfl, h⟩ := zpL_ex h
    exact z_lor hd (hk _ _ _ _ h)
  case lshl =>
    obtain ⟨y, r, rfl, h⟩ := zpI_ex h
    obtain ⟨x, r, rfl, h⟩ := zpL_ex h
    exact z_lshl hd (hk _ _ _ _ h)
  case lshr =>
    obtain ⟨y, r, rfl, h⟩ := zpI_ex h
    obtain ⟨x, r, rfl, h⟩ := zpL_ex h
    exact z_lshr hd (hk _ _ _ _ h)
  case lushr =>
    obtain ⟨y, r, rfl, h⟩ := zpI_ex h
    obtain ⟨x, r, rfl, h⟩ := zpL_ex h
    exact z_lushr hd (hk _ _ _ _ h)
  case lcmp =>
    obtain ⟨y, r, rfl, h⟩ := zpL_ex h
    obtain ⟨x, r, rfl, h⟩ := zpL_ex h
    exact z_lcmp hd (hk _ _ _ _ h)
  case idiv =>
    obtain ⟨y, r, rfl, h⟩ := zpI_ex h
    obtain ⟨x, r, rfl, h⟩ := zpI_ex h
    exact z_idiv hd h.1 (hk _ _ _ _ h.2)
  case irem =>
    obtain ⟨y, r, rfl, h⟩ := zpI_ex h
    obtain ⟨x, r, rfl, h⟩ := zpI_ex h
    exact z_irem hd h.1 (hk _ _ _ _ h.2)
  case i2l =>
    obtain ⟨x, r, rfl, h⟩ := zpI_ex h
    exact z_i2l hd (hk _ _ _ _ h)
  case l2i =>
    obtain ⟨x, r, rfl, h⟩ := zpL_ex h
    exact z_l2i hd (hk _ _ _ _ h)
  case goto off =>
    exact z_goto hd (of_decide_eq_true hc) (hk _ _ _ _ h)
  case ifCond c off =>
    obtain ⟨x, r, rfl, h⟩ := zpI_ex h
    cases c
    case eq => exact z_if_eq hd (of_decide_eq_true hc) (fun q => hk _ _ _ _ (h.1 q)) (fun q => hk _ _ _ _ (h.2 q))
    case ne => exact z_if_ne hd (of_decide_eq_true hc) (fun q => hk _ _ _ _ (h.1 q)) (fun q => hk _ _ _ _ (h.2 q))
    case lt => exact z_if_lt hd (of_decide_eq_true hc) (fun q => hk _ _ _ _ (h.1 q)) (fun q => hk _ _ _ _ (h.2 q))
    case ge => exact z_if_ge hd (of_decide_eq_true hc) (fun q => hk _ _ _ _ (h.1 q)) (fun q => hk _ _ _ _ (h.2 q))
    case gt => exact z_if_gt hd (of_decide_eq_true hc) (fun q => hk _ _ _ _ (h.1 q)) (fun q => hk _ _ _ _ (h.2 q))
    case le => exact z_if_le hd (of_decide_eq_true hc) (fun q => hk _ _ _ _ (h.1 q)) (fun q => hk _ _ _ _ (h.2 q))
  case if_icmp c off =>
    obtain ⟨y, r, rfl, h⟩ := zpI_ex h
    obtain ⟨x, r, rfl, h⟩ := zpI_ex h
    cases c
    case eq => exact z_icmp_eq hd (of_decide_eq_true hc) (fun q => hk _ _ _ _ (h.1 q)) (fun q => hk _ _ _ _ (h.2 q))
    case ne => exact z_icmp_ne hd (of_decide_eq_true hc) (fun q => hk _ _ _ _ (h.1 q)) (fun q => hk _ _ _ _ (h.2 q))
    case lt => exact z_icmp_lt hd (of_decide_eq_true hc) (fun q => hk _ _ _ _ (h.1 q)) (fun q => hk _ _ _ _ (h.2 q))
    case ge => exact z_icmp_ge hd (of_decide_eq_true hc) (fun q => hk _ _ _ _ (h.1 q)) (fun q => hk _ _ _ _ (h.2 q))
    case gt => exact z_icmp_gt hd (of_decide_eq_true hc) (fun q => hk _ _ _ _ (h.1 q)) (fun q => hk _ _ _ _ (h.2 q))
    case le => exact z_icmp_le hd (of_decide_eq_true hc) (fun q => hk _ _ _ _ (h.1 q)) (fun q => hk _ _ _ _ (h.2 q))
  case tableswitch d lo hi offs =>
    obtain ⟨v, r, rfl, h⟩ := zpI_ex h
    exact z_switch hd hc (fun t q => hk _ _ _ _ q) h
  case getfield n =>
    obtain ⟨kd, ix, r, rfl, h⟩ := zpR_ex h
    obtain ⟨ci, fs, hk0, h⟩ := zobj_ex h
    obtain ⟨hci, h⟩ := zbif_ex h
    obtain ⟨fd, hfd, h⟩ := zopt_ex h
    obtain ⟨hv, h⟩ := zvd_ex h
    obtain ⟨C, T, N, hcl, hN, hw⟩ := zchkF_ex hc
    rw [← beq_iff_eq.mp hci] at hcl
    exact z_getfield hd hk0 hv hfd hcl hN hw (hk _ _ _ _ h)
  case putfield n =>
    obtain ⟨v, r, rfl, h⟩ := zpI_ex h
    obtain ⟨kd, ix, r, rfl, h⟩ := zpR_ex h
    obtain ⟨ci, fs, hk0, h⟩ := zobj_ex h
    obtain ⟨hci, h⟩ := zbif_ex h
    obtain ⟨hfd, h⟩ := zopt2_ex h
    obtain ⟨hv, h⟩ := zvd_ex h
    simp only [zchk1, Bool.and_eq_true] at hc
    obtain ⟨C, T, N, hcl, hN, hw⟩ := zchkF_ex hc.1
    obtain ⟨hf1, hf2⟩ := zchkP_ex hc.2 hcl
    rw [← beq_iff_eq.mp hci] at hcl
    exact z_putfield hd hk0 hv hfd hcl hN hw hf1 hf2 (hk _ _ _ _ h)
  case iaload =>
    obtain ⟨i, r, rfl, h⟩ := zpI_ex h
    obtain ⟨kd, ix, r, rfl, h⟩ := zpR_ex h
    rcases zbif_or h with ⟨h39, h⟩ | ⟨h39, h⟩
    · obtain rfl := beq_iff_eq.mp h39
      obtain ⟨rfl, h⟩ := zzero_ex h
      exact z_script hd h.1 (hk _ _ _ _ h.2)
    · obtain ⟨n, hk0, h⟩ := zarr0_ex h
      obtain ⟨hv, h⟩ := zvd_ex h
      exact z_iaload hd hk0 hv h.1 (hk _ _ _ _ h.2)
  case baload =>
    obtain ⟨i, r, rfl, h⟩ := zpI_ex h
    obtain ⟨kd, ix, r, rfl, h⟩ := zpR_ex h
    obtain ⟨n, hk0, h⟩ := zarr2_ex h
    obtain ⟨hv, h⟩ := zvd_ex h
    exact z_baload hd hk0 hv h.1 (hk _ _ _ _ h.2)
  case laload =>
    obtain ⟨i, r, rfl, h⟩ := zpI_ex h
    obtain ⟨kd, ix, r, rfl, h⟩ := zpR_ex h
    rcases zbif_or h with ⟨h39, h⟩ | ⟨h39, h⟩
    · obtain rfl := beq_iff_eq.mp h39
      obtain ⟨rfl, h⟩ := zzero_ex h
      exact z_rows hd h.1 (hk _ _ _ _ h.2)
    · obtain ⟨n, hk0, h⟩ := zarr1_ex h
      obtain ⟨hv, h⟩ := zvd_ex h
      exact z_laload hd hk0 hv h.1 (hk _ _ _ _ h.2)
  case aaload =>
    obtain ⟨i, r, rfl, h⟩ := zpI_ex h
    obtain ⟨kd, ix, r, rfl, h⟩ := zpR_ex h
    rcases zarr34_ex h with ⟨n, hk0, h⟩ | ⟨n, hk0, h⟩
    · obtain ⟨hv, h⟩ := zvd_ex h
      exact z_aaload3 hd hk0 hv h.1 (hk _ _ _ _ h.2)
    · obtain ⟨hv, h⟩ := zvd_ex h
      exact z_aaload4 hd hk0 hv h.1 (hk _ _ _ _ h.2)
  case iastore =>
    obtain ⟨v, r, rfl, h⟩ := zpI_ex h
    obtain ⟨i, r, rfl, h⟩ := zpI_ex h
    obtain ⟨kd, ix, r, rfl, h⟩ := zpR_ex h
    obtain ⟨n, hk0, h⟩ := zarr0_ex h
    obtain ⟨hv, h⟩ := zvd_ex h
    exact z_iastore hd hk0 hv h.1 (hk _ _ _ _ h.2)
  case bastore =>
    obtain ⟨v, r, rfl, h⟩ := zpI_ex h
    obtain ⟨i, r, rfl, h⟩ := zpI_ex h
    obtain ⟨kd, ix, r, rfl, h⟩ := zpR_ex h
    obtain ⟨n, hk0, h⟩ := zarr2_ex h
    obtain ⟨hv, h⟩ := zvd_ex h
    exact z_bastore hd hk0 hv h.2.1 h.1 (hk _ _ _ _ h.2.2)
  case lastore =>
    obtain ⟨v, r, rfl, h⟩ := zpL_ex h
    obtain ⟨i, r, rfl, h⟩ := zpI_ex h
    obtain ⟨kd, ix, r, rfl, h⟩ := zpR_ex h
    obtain ⟨n, hk0, h⟩ := zarr1_ex h
    obtain ⟨hv, h⟩ := zvd_ex h
    exact z_lastore hd hk0 hv h.1 (hk _ _ _ _ h.2)
  case arraylength =>
    obtain ⟨kd, ix, r, rfl, h⟩ := zpR_ex h
    rcases zbif_or h with ⟨h39, h⟩ | ⟨h39, h⟩
    · obtain rfl := beq_iff_eq.mp h39
      obtain ⟨rfl, h⟩ := zzero_ex h
      exact z_scriptlen hd (hk _ _ _ _ h)
    · obtain ⟨t, n, hk0, h⟩ := zarrT_ex h
      obtain ⟨ht, h⟩ := zbif_ex h
      obtain ⟨hv, h⟩ := zvd_ex h
      exact z_alen hd hk0 (Nat.lt_succ_of_le (Nat.le_of_ble_eq_true ht)) hv (hk _ _ _ _ h)
  case getstatic n =>
    exact z_getrows hd (zwd_of hc) (hk _ _ _ _ h)
  case dup =>
    obtain ⟨v, r, rfl, h⟩ := zany_ex h
    obtain ⟨h1, h⟩ := zbif_ex h
    exact z_dup hd (beq_iff_eq.mp h1) (hk _ _ _ _ h)
  case dup2 =>
    obtain ⟨v, w, r, rfl, h⟩ := zany2_ex h
    obtain ⟨h1, h⟩ := zbif_ex h
    simp only [Bool.and_eq_true, beq_iff_eq] at h1
    exact z_dup2 hd h1.1 h1.2 (hk _ _ _ _ h)
  case ireturn =>
    obtain ⟨v, r, rfl, h⟩ := zpI_ex h
    obtain ⟨rfl, h⟩ := znil_ex h
    rcases zbif_or h with ⟨h11, h⟩ | ⟨h11, h⟩
    · simp only [zchk1, h11, Bool.not_true, Bool.false_or, decide_eq_true_eq] at hc
      have h2 : v = 1 := h
      rw [h2]
      exact z_lawret hd (beq_iff_eq.mp h11) hc
    · have hD : iD mi ≠ 11 := fun q => by rw [q] at h11; cases h11
      rcases zret_ex h with ⟨hR, h⟩ | ⟨hR, h⟩
      · exact z_ireturn hd hD hR h
      · exact z_zreturn hd hD hR h.1 h.2
  case lreturn =>
    obtain ⟨v, r, rfl, h⟩ := zpL_ex h
    obtain ⟨rfl, h⟩ := znil_ex h
    simp only [zchk1, Bool.and_eq_true, decide_eq_true_eq] at hc
    exact z_lreturn hd hc.1 hc.2 h
  case areturn =>
    obtain ⟨a, b, r, rfl, h⟩ := zpR_ex h
    obtain ⟨rfl, h⟩ := znil_ex h
    simp only [zchk1, Bool.and_eq_true, decide_eq_true_eq] at hc
    obtain ⟨n, hR⟩ := zobjT_ex hc.2
    exact z_areturn hd hc.1 hR h
  case return_ =>
    obtain ⟨rfl, h⟩ := znil_ex h
    simp only [zchk1, Bool.and_eq_true, decide_eq_true_eq] at hc
    exact z_return hd hc.1 hc.2 h
  case invokevirtual n =>
    obtain ⟨as, r0, has, hst, h2⟩ := zpn_ex h
    subst hst
    clear h
    obtain ⟨kd, ix, r, hr0, h⟩ := zpR_ex h2
    subst hr0
    clear h2
    obtain ⟨ci, fs, hk0, h⟩ := zobj_ex h
    obtain ⟨hci, h⟩ := zbif_ex h
    obtain ⟨hct, h⟩ := zbif_ex h
    obtain ⟨hv, h⟩ := zvd_ex h
    obtain ⟨C, T, N, hcl, hC, hm, hfit, hw1, hw2, hw3⟩ := zchkV_ex hc
    rw [← beq_iff_eq.mp hci] at hcl
    exact z_virt hd hm hfit has (Nat.le_of_ble_eq_true hct) hk0 hv hcl hC hw1 hw2 hw3 (Ctr_mono h fun r M' q => hk _ _ _ _ q)
  case invokestatic n =>
    obtain ⟨as, r, has, hst, h2⟩ := zpn_ex h
    subst hst
    clear h
    obtain ⟨hct, h⟩ := zbif_ex h2
    rcases zchkS_ex hc with ⟨hm, hfit, hw1, hw2⟩ | ⟨host, hm, hfit, hw1, hw2⟩
    · exact z_stat hd hm hfit has (Nat.le_of_ble_eq_true hct) hw1 hw2 (Ctr_mono h fun r M' q => hk _ _ _ _ q)
    · exact z_nest hd hm hfit has (Nat.le_of_ble_eq_true hct) hw1 hw2 (Ctr_mono h fun r M' q => hk _ _ _ _ q)
  all_goals exact False.elim h
end
def zfind (pc : Nat) : List ZE → Option ZE
  | [] => none
  | e :: r => bif Nat.beq e.1 pc then some e else zfind pc r
theorem zfind_ex {pc : Nat} {cd : List ZE} {e : ZE} (h : zfind pc cd = some e) : e ∈ cd ∧ e.1 = pc := by
  induction cd with
  | nil => cases h
  | cons a r ih =>
    unfold zfind at h
    cases hb : Nat.beq a.1 pc with
    | true =>
      rw [hb] at h
      have h2 : a = e := Option.some.inj h
      rw [← h2]
      exact ⟨List.mem_cons_self, Nat.eq_of_beq_eq_true hb⟩
    | false =>
      rw [hb] at h
      exact ⟨List.mem_cons_of_mem _ (ih h).1, (ih h).2⟩
def zcut (pc : Nat) : List (Nat × List Nat) → Option (List Nat)
  | [] => none
  | q :: r => bif Nat.beq q.1 pc then some q.2 else zcut pc r
/-- the walk from pc on, to the next place of 'cuts' (there with the locals that live), a call, an end -/
def zex (G : ZG) (mi : ZI) (Z : Option ZV → ZM → Prop) (cuts : List (Nat × List Nat)) (cd : List ZE) : Nat → Nat → ZL → List ZV → ZM → (Nat → ZL → List ZV → ZM → Prop) → Prop
  | 0, _, _, _, _, _ => False
  | f + 1, pc, l, st, M, K => match zfind pc cd with
    | none => False
    | some e => zex1 G mi Z e.2.1 e.2.2.1 e.2.2.2 pc l st M fun pc l st M => match zcut pc cuts with
      | some ks => K pc (zkeep ks l) st M
      | none => zex G mi Z cuts cd f pc l st M K
theorem z_ex {G : ZG} {mi : ZI} {Z : Option ZV → ZM → Prop} {cuts : List (Nat × List Nat)} {cd : List ZE} {K : Nat → ZL → List ZV → ZM → Prop} (hcd : cd.all (zchk mi) = true) (hK : ∀ pc l st M, K pc l st M → V 0 G mi Z pc l st M) : ∀ (f pc : Nat) (l : ZL) (st : List ZV) (M : ZM), zex G mi Z cuts cd f pc l st M K → V 0 G mi Z pc l st M := by
  intro f
  induction f with
  | zero => intro pc l st M h; exact h.elim
  | succ f ih =>
    intro pc l st M h
    unfold zex at h
    split at h
    · exact h.elim
    · rename_i e he
      obtain ⟨h1, h2⟩ := zfind_ex he
      have h3 := List.all_eq_true.mp hcd e h1
      unfold zchk at h3
      simp only [Bool.and_eq_true, decide_eq_true_eq] at h3
      rw [h2] at h3
      refine z_ex1 h3.1 h3.2 (fun pc l st M q => ?_) h
      split at q
      · exact V_sub (fun q hq => zkeep_mem hq) (hK _ _ _ _ q)
      · exact ih _ _ _ _ q
/-- the walk's goal, its end a name that nothing opens -/
theorem z_run {G : ZG} {mi : ZI} {Z : Option ZV → ZM → Prop} {cuts : List (Nat × List Nat)} {cd : List ZE} {pc : Nat} {l : ZL} {st : List ZV} {M : ZM} (hcd : cd.all (zchk mi) = true) (h : ∀ K : Nat → ZL → List ZV → ZM → Prop, (∀ pc l st M, V 0 G mi Z pc l st M → K pc l st M) → zex G mi Z cuts cd 300 pc l st M K) : V 0 G mi Z pc l st M :=
  z_ex hcd (fun _ _ _ _ q => q) 300 pc l st M (h _ (fun _ _ _ _ q => q))
theorem z_start {G : ZG} {mi : ZI} {Z : Option ZV → ZM → Prop} {cuts : List (Nat × List Nat)} {cd : List ZE} {av : List ZV} {M : ZM} (hcd : cd.all (zchk mi) = true) (hpl : (plainName (iN mi).cls && !(iD mi == 11)) = true) (hlen : Nat.ble (zct av) (iL mi) = true) (h : ∀ K : Nat → ZL → List ZV → ZM → Prop, (∀ pc l st M, V 0 G mi Z pc l st M → K pc l st M) → zex G mi Z cuts cd 300 0 (zargs 0 av) [] M K) : Ctr 0 G mi av M Z := by
  simp only [Bool.and_eq_true, Bool.not_eq_true', beq_eq_false_iff_ne] at hpl
  exact z_enter hpl.1 hpl.2 (Nat.le_of_ble_eq_true hlen) (z_run hcd h)
end
