/-! the constructors -/
theorem di_PM_0 : decode prog_8_method_1_code 0 = .ok (.aload_n 0, 1) := by decide +kernel
theorem di_PM_1 : decode prog_8_method_1_code 1 = .ok (.invokespecial 1, 3) := by decide +kernel
theorem di_PM_4 : decode prog_8_method_1_code 4 = .ok (.aload_n 0, 1) := by decide +kernel
theorem di_PM_5 : decode prog_8_method_1_code 5 = .ok (.bipush 64, 2) := by decide +kernel
theorem di_PM_7 : decode prog_8_method_1_code 7 = .ok (.newarray .int, 2) := by decide +kernel
theorem di_PM_9 : decode prog_8_method_1_code 9 = .ok (.putfield 9, 3) := by decide +kernel
theorem di_PM_12 : decode prog_8_method_1_code 12 = .ok (.aload_n 0, 1) := by decide +kernel
theorem di_PM_13 : decode prog_8_method_1_code 13 = .ok (.iconst 0, 1) := by decide +kernel
theorem di_PM_14 : decode prog_8_method_1_code 14 = .ok (.putfield 13, 3) := by decide +kernel
theorem di_PM_17 : decode prog_8_method_1_code 17 = .ok (.return_, 1) := by decide +kernel
theorem fi_PM : ∀ j, j < 2 → defaultValue ((parseFieldDescriptor (zT0 j).2.2.1).getD .int) = vp_V [.null, .int 0] j := by decide +kernel
def sh_PM (k : Nat → ClassId) (h : Nat) (u : Nat → Nat) : va_W := [(h, (.inr (0, [.ref (u 0), .int 0]))), ((u 0), (.inl (k 0, 64, .inl fun _ => 0)))]
set_option maxHeartbeats 4000000 in
set_option maxRecDepth 20000 in
theorem ci_PM : CI ⟨"ThreeStrandMaps$PairMap", "<init>", "()V"⟩ prog_8_method_1_code 1 1 1 64 12 0 [.null, .int 0] sh_PM := by
  refine i_enter (by decide +kernel) rfl (by decide) ?_
  intro p l e s m below meth c D k h0 ls A hr hin hlk h hl ret
  refine lv_aload_n h.1.1 h.1.2.1 di_PM_0 rfl (lv_at hl 0 rfl) ?_
  refine i_obj h hl.1 (zw_of 0 32 rfl rfl) di_PM_1 (Nat.le_of_ble_eq_true rfl) (Nat.le_of_ble_eq_true rfl) ?_
  refine lv_aload_n h.1.1 h.1.2.1 di_PM_4 rfl (lv_at hl 0 rfl) ?_
  refine lv_bipush (v := 64) h.1.1 h.1.2.1 di_PM_5 (by decide) ?_
  refine i_newI (N := 64) h (by decide) (by decide) (Nat.le_of_ble_eq_true rfl) (Nat.le_of_ble_eq_true rfl) (Nat.le_of_ble_eq_true rfl) di_PM_7 (fun q0 H h => ?_)
  have h : IS p m c prog_8_method_1_code 1 s [Value.ref h0].toArray "ThreeStrandMaps$PairMap" D k A H _ [(h0, (.inr (0, [.null, .int 0]))), (q0, (.inl (k 0, 64, .inl fun _ => 0)))] := h
  refine i_put (C := "ThreeStrandMaps$PairMap") (T := zT0) (N := 2) (ci := 0) (q0 := 0) (f := 0) (v := .ref q0) (ty := .array (.int)) h hin rfl rfl (by decide) (zw_of 0 33 rfl rfl) rfl (by decide +kernel) rfl rfl (Nat.le_of_ble_eq_true rfl) di_PM_9 (fun H locs h => ?_)
  have h : IS p m c prog_8_method_1_code 1 s [Value.ref h0].toArray "ThreeStrandMaps$PairMap" D k A H _ [(h0, (.inr (0, [.ref q0, .int 0]))), (q0, (.inl (k 0, 64, .inl fun _ => 0)))] := h
  refine lv_aload_n h.1.1 h.1.2.1 di_PM_12 rfl (lv_at hl 0 rfl) ?_
  refine lv_iconst (v := 0) h.1.1 h.1.2.1 di_PM_13 (by decide) ?_
  refine i_put (C := "ThreeStrandMaps$PairMap") (T := zT0) (N := 2) (ci := 0) (q0 := 0) (f := 1) (v := .int 0) (ty := .int) h hin rfl rfl (by decide) (zw_of 0 34 rfl rfl) rfl (by decide +kernel) rfl rfl (Nat.le_of_ble_eq_true rfl) di_PM_14 (fun H locs h => ?_)
  have h : IS p m c prog_8_method_1_code 1 s [Value.ref h0].toArray "ThreeStrandMaps$PairMap" D k A H _ [(h0, (.inr (0, [.ref q0, .int 0]))), (q0, (.inl (k 0, 64, .inl fun _ => 0)))] := h
  exact ret (fun i => [q0].getD i 0) 17 _ _ _ h di_PM_17
theorem di_BR_0 : decode prog_4_method_1_code 0 = .ok (.aload_n 0, 1) := by decide +kernel
theorem di_BR_1 : decode prog_4_method_1_code 1 = .ok (.invokespecial 1, 3) := by decide +kernel
theorem di_BR_4 : decode prog_4_method_1_code 4 = .ok (.aload_n 0, 1) := by decide +kernel
theorem di_BR_5 : decode prog_4_method_1_code 5 = .ok (.bipush 24, 2) := by decide +kernel
theorem di_BR_7 : decode prog_4_method_1_code 7 = .ok (.newarray .int, 2) := by decide +kernel
theorem di_BR_9 : decode prog_4_method_1_code 9 = .ok (.putfield 9, 3) := by decide +kernel
theorem di_BR_12 : decode prog_4_method_1_code 12 = .ok (.aload_n 0, 1) := by decide +kernel
theorem di_BR_13 : decode prog_4_method_1_code 13 = .ok (.bipush 24, 2) := by decide +kernel
theorem di_BR_15 : decode prog_4_method_1_code 15 = .ok (.newarray .boolean, 2) := by decide +kernel
theorem di_BR_17 : decode prog_4_method_1_code 17 = .ok (.putfield 13, 3) := by decide +kernel
theorem di_BR_20 : decode prog_4_method_1_code 20 = .ok (.aload_n 0, 1) := by decide +kernel
theorem di_BR_21 : decode prog_4_method_1_code 21 = .ok (.iconst 0, 1) := by decide +kernel
theorem di_BR_22 : decode prog_4_method_1_code 22 = .ok (.putfield 17, 3) := by decide +kernel
theorem di_BR_25 : decode prog_4_method_1_code 25 = .ok (.return_, 1) := by decide +kernel
theorem fi_BR : ∀ j, j < 3 → defaultValue ((parseFieldDescriptor (zT1 j).2.2.1).getD .int) = vp_V [.null, .null, .int 0] j := by decide +kernel
def sh_BR (k : Nat → ClassId) (h : Nat) (u : Nat → Nat) : va_W := [(h, (.inr (1, [.ref (u 0), .ref (u 1), .int 0]))), ((u 0), (.inl (k 0, 24, .inl fun _ => 0))), ((u 1), (.inl (k 2, 24, .inl fun _ => 0)))]
set_option maxHeartbeats 4000000 in
set_option maxRecDepth 20000 in
theorem ci_BR : CI ⟨"ThreeStrandMaps$Braid", "<init>", "()V"⟩ prog_4_method_1_code 1 1 2 48 12 1 [.null, .null, .int 0] sh_BR := by
  refine i_enter (by decide +kernel) rfl (by decide) ?_
  intro p l e s m below meth c D k h0 ls A hr hin hlk h hl ret
  refine lv_aload_n h.1.1 h.1.2.1 di_BR_0 rfl (lv_at hl 0 rfl) ?_
  refine i_obj h hl.1 (zw_of 0 45 rfl rfl) di_BR_1 (Nat.le_of_ble_eq_true rfl) (Nat.le_of_ble_eq_true rfl) ?_
  refine lv_aload_n h.1.1 h.1.2.1 di_BR_4 rfl (lv_at hl 0 rfl) ?_
  refine lv_bipush (v := 24) h.1.1 h.1.2.1 di_BR_5 (by decide) ?_
  refine i_newI (N := 24) h (by decide) (by decide) (Nat.le_of_ble_eq_true rfl) (Nat.le_of_ble_eq_true rfl) (Nat.le_of_ble_eq_true rfl) di_BR_7 (fun q0 H h => ?_)
  have h : IS p m c prog_4_method_1_code 1 s [Value.ref h0].toArray "ThreeStrandMaps$Braid" D k A H _ [(h0, (.inr (1, [.null, .null, .int 0]))), (q0, (.inl (k 0, 24, .inl fun _ => 0)))] := h
  refine i_put (C := "ThreeStrandMaps$Braid") (T := zT1) (N := 3) (ci := 1) (q0 := 0) (f := 0) (v := .ref q0) (ty := .array (.int)) h hin rfl rfl (by decide) (zw_of 0 46 rfl rfl) rfl (by decide +kernel) rfl rfl (Nat.le_of_ble_eq_true rfl) di_BR_9 (fun H locs h => ?_)
  have h : IS p m c prog_4_method_1_code 1 s [Value.ref h0].toArray "ThreeStrandMaps$Braid" D k A H _ [(h0, (.inr (1, [.ref q0, .null, .int 0]))), (q0, (.inl (k 0, 24, .inl fun _ => 0)))] := h
  refine lv_aload_n h.1.1 h.1.2.1 di_BR_12 rfl (lv_at hl 0 rfl) ?_
  refine lv_bipush (v := 24) h.1.1 h.1.2.1 di_BR_13 (by decide) ?_
  refine i_newZ (N := 24) h (by decide) (by decide) (Nat.le_of_ble_eq_true rfl) (Nat.le_of_ble_eq_true rfl) (Nat.le_of_ble_eq_true rfl) di_BR_15 (fun q1 H h => ?_)
  have h : IS p m c prog_4_method_1_code 1 s [Value.ref h0].toArray "ThreeStrandMaps$Braid" D k A H _ [(h0, (.inr (1, [.ref q0, .null, .int 0]))), (q0, (.inl (k 0, 24, .inl fun _ => 0))), (q1, (.inl (k 2, 24, .inl fun _ => 0)))] := h
  refine i_put (C := "ThreeStrandMaps$Braid") (T := zT1) (N := 3) (ci := 1) (q0 := 0) (f := 1) (v := .ref q1) (ty := .array (.boolean)) h hin rfl rfl (by decide) (zw_of 0 47 rfl rfl) rfl (by decide +kernel) rfl rfl (Nat.le_of_ble_eq_true rfl) di_BR_17 (fun H locs h => ?_)
  have h : IS p m c prog_4_method_1_code 1 s [Value.ref h0].toArray "ThreeStrandMaps$Braid" D k A H _ [(h0, (.inr (1, [.ref q0, .ref q1, .int 0]))), (q0, (.inl (k 0, 24, .inl fun _ => 0))), (q1, (.inl (k 2, 24, .inl fun _ => 0)))] := h
  refine lv_aload_n h.1.1 h.1.2.1 di_BR_20 rfl (lv_at hl 0 rfl) ?_
  refine lv_iconst (v := 0) h.1.1 h.1.2.1 di_BR_21 (by decide) ?_
  refine i_put (C := "ThreeStrandMaps$Braid") (T := zT1) (N := 3) (ci := 1) (q0 := 0) (f := 2) (v := .int 0) (ty := .int) h hin rfl rfl (by decide) (zw_of 0 48 rfl rfl) rfl (by decide +kernel) rfl rfl (Nat.le_of_ble_eq_true rfl) di_BR_22 (fun H locs h => ?_)
  have h : IS p m c prog_4_method_1_code 1 s [Value.ref h0].toArray "ThreeStrandMaps$Braid" D k A H _ [(h0, (.inr (1, [.ref q0, .ref q1, .int 0]))), (q0, (.inl (k 0, 24, .inl fun _ => 0))), (q1, (.inl (k 2, 24, .inl fun _ => 0)))] := h
  exact ret (fun i => [q0, q1].getD i 0) 25 _ _ _ h di_BR_25
theorem di_AC_0 : decode prog_3_method_1_code 0 = .ok (.aload_n 0, 1) := by decide +kernel
theorem di_AC_1 : decode prog_3_method_1_code 1 = .ok (.invokespecial 3, 3) := by decide +kernel
theorem di_AC_4 : decode prog_3_method_1_code 4 = .ok (.aload_n 0, 1) := by decide +kernel
theorem di_AC_5 : decode prog_3_method_1_code 5 = .ok (.bipush 8, 2) := by decide +kernel
theorem di_AC_7 : decode prog_3_method_1_code 7 = .ok (.newarray .int, 2) := by decide +kernel
theorem di_AC_9 : decode prog_3_method_1_code 9 = .ok (.putfield 11, 3) := by decide +kernel
theorem di_AC_12 : decode prog_3_method_1_code 12 = .ok (.aload_n 0, 1) := by decide +kernel
theorem di_AC_13 : decode prog_3_method_1_code 13 = .ok (.bipush 8, 2) := by decide +kernel
theorem di_AC_15 : decode prog_3_method_1_code 15 = .ok (.newarray .int, 2) := by decide +kernel
theorem di_AC_17 : decode prog_3_method_1_code 17 = .ok (.putfield 15, 3) := by decide +kernel
theorem di_AC_20 : decode prog_3_method_1_code 20 = .ok (.aload_n 0, 1) := by decide +kernel
theorem di_AC_21 : decode prog_3_method_1_code 21 = .ok (.iconst 0, 1) := by decide +kernel
theorem di_AC_22 : decode prog_3_method_1_code 22 = .ok (.putfield 18, 3) := by decide +kernel
theorem di_AC_25 : decode prog_3_method_1_code 25 = .ok (.aload_n 0, 1) := by decide +kernel
theorem di_AC_26 : decode prog_3_method_1_code 26 = .ok (.new 22, 3) := by decide +kernel
theorem di_AC_29 : decode prog_3_method_1_code 29 = .ok (.dup, 1) := by decide +kernel
theorem di_AC_30 : decode prog_3_method_1_code 30 = .ok (.invokespecial 24, 3) := by decide +kernel
theorem di_AC_33 : decode prog_3_method_1_code 33 = .ok (.putfield 25, 3) := by decide +kernel
theorem di_AC_36 : decode prog_3_method_1_code 36 = .ok (.aload_n 0, 1) := by decide +kernel
theorem di_AC_37 : decode prog_3_method_1_code 37 = .ok (.new 22, 3) := by decide +kernel
theorem di_AC_40 : decode prog_3_method_1_code 40 = .ok (.dup, 1) := by decide +kernel
theorem di_AC_41 : decode prog_3_method_1_code 41 = .ok (.invokespecial 24, 3) := by decide +kernel
theorem di_AC_44 : decode prog_3_method_1_code 44 = .ok (.putfield 29, 3) := by decide +kernel
theorem di_AC_47 : decode prog_3_method_1_code 47 = .ok (.return_, 1) := by decide +kernel
theorem fi_AC : ∀ j, j < 5 → defaultValue ((parseFieldDescriptor (zT3 j).2.2.1).getD .int) = vp_V [.null, .null, .int 0, .null, .null] j := by decide +kernel
def sh_AC (k : Nat → ClassId) (h : Nat) (u : Nat → Nat) : va_W := [(h, (.inr (3, [.ref (u 0), .ref (u 1), .int 0, .ref (u 2), .ref (u 4)]))), ((u 0), (.inl (k 0, 8, .inl fun _ => 0))), ((u 1), (.inl (k 0, 8, .inl fun _ => 0))), ((u 2), (.inr (0, [.ref (u 3), .int 0]))), ((u 3), (.inl (k 0, 64, .inl fun _ => 0))), ((u 4), (.inr (0, [.ref (u 5), .int 0]))), ((u 5), (.inl (k 0, 64, .inl fun _ => 0)))]
set_option maxHeartbeats 4000000 in
set_option maxRecDepth 20000 in
theorem ci_AC : CI ⟨"ThreeStrandMaps$AlikeClasses", "<init>", "()V"⟩ prog_3_method_1_code 1 2 6 148 32 3 [.null, .null, .int 0, .null, .null] sh_AC := by
  refine i_enter (by decide +kernel) rfl (by decide) ?_
  intro p l e s m below meth c D k h0 ls A hr hin hlk h hl ret
  refine lv_aload_n h.1.1 h.1.2.1 di_AC_0 rfl (lv_at hl 0 rfl) ?_
  refine i_obj h hl.1 (zw_of 0 62 rfl rfl) di_AC_1 (Nat.le_of_ble_eq_true rfl) (Nat.le_of_ble_eq_true rfl) ?_
  refine lv_aload_n h.1.1 h.1.2.1 di_AC_4 rfl (lv_at hl 0 rfl) ?_
  refine lv_bipush (v := 8) h.1.1 h.1.2.1 di_AC_5 (by decide) ?_
  refine i_newI (N := 8) h (by decide) (by decide) (Nat.le_of_ble_eq_true rfl) (Nat.le_of_ble_eq_true rfl) (Nat.le_of_ble_eq_true rfl) di_AC_7 (fun q0 H h => ?_)
  have h : IS p m c prog_3_method_1_code 1 s [Value.ref h0].toArray "ThreeStrandMaps$AlikeClasses" D k A H _ [(h0, (.inr (3, [.null, .null, .int 0, .null, .null]))), (q0, (.inl (k 0, 8, .inl fun _ => 0)))] := h
  refine i_put (C := "ThreeStrandMaps$AlikeClasses") (T := zT3) (N := 5) (ci := 3) (q0 := 0) (f := 0) (v := .ref q0) (ty := .array (.int)) h hin rfl rfl (by decide) (zw_of 0 65 rfl rfl) rfl (by decide +kernel) rfl rfl (Nat.le_of_ble_eq_true rfl) di_AC_9 (fun H locs h => ?_)
  have h : IS p m c prog_3_method_1_code 1 s [Value.ref h0].toArray "ThreeStrandMaps$AlikeClasses" D k A H _ [(h0, (.inr (3, [.ref q0, .null, .int 0, .null, .null]))), (q0, (.inl (k 0, 8, .inl fun _ => 0)))] := h
  refine lv_aload_n h.1.1 h.1.2.1 di_AC_12 rfl (lv_at hl 0 rfl) ?_
  refine lv_bipush (v := 8) h.1.1 h.1.2.1 di_AC_13 (by decide) ?_
  refine i_newI (N := 8) h (by decide) (by decide) (Nat.le_of_ble_eq_true rfl) (Nat.le_of_ble_eq_true rfl) (Nat.le_of_ble_eq_true rfl) di_AC_15 (fun q1 H h => ?_)
  have h : IS p m c prog_3_method_1_code 1 s [Value.ref h0].toArray "ThreeStrandMaps$AlikeClasses" D k A H _ [(h0, (.inr (3, [.ref q0, .null, .int 0, .null, .null]))), (q0, (.inl (k 0, 8, .inl fun _ => 0))), (q1, (.inl (k 0, 8, .inl fun _ => 0)))] := h
  refine i_put (C := "ThreeStrandMaps$AlikeClasses") (T := zT3) (N := 5) (ci := 3) (q0 := 0) (f := 1) (v := .ref q1) (ty := .array (.int)) h hin rfl rfl (by decide) (zw_of 0 66 rfl rfl) rfl (by decide +kernel) rfl rfl (Nat.le_of_ble_eq_true rfl) di_AC_17 (fun H locs h => ?_)
  have h : IS p m c prog_3_method_1_code 1 s [Value.ref h0].toArray "ThreeStrandMaps$AlikeClasses" D k A H _ [(h0, (.inr (3, [.ref q0, .ref q1, .int 0, .null, .null]))), (q0, (.inl (k 0, 8, .inl fun _ => 0))), (q1, (.inl (k 0, 8, .inl fun _ => 0)))] := h
  refine lv_aload_n h.1.1 h.1.2.1 di_AC_20 rfl (lv_at hl 0 rfl) ?_
  refine lv_iconst (v := 0) h.1.1 h.1.2.1 di_AC_21 (by decide) ?_
  refine i_put (C := "ThreeStrandMaps$AlikeClasses") (T := zT3) (N := 5) (ci := 3) (q0 := 0) (f := 2) (v := .int 0) (ty := .int) h hin rfl rfl (by decide) (zw_of 0 67 rfl rfl) rfl (by decide +kernel) rfl rfl (Nat.le_of_ble_eq_true rfl) di_AC_22 (fun H locs h => ?_)
  have h : IS p m c prog_3_method_1_code 1 s [Value.ref h0].toArray "ThreeStrandMaps$AlikeClasses" D k A H _ [(h0, (.inr (3, [.ref q0, .ref q1, .int 0, .null, .null]))), (q0, (.inl (k 0, 8, .inl fun _ => 0))), (q1, (.inl (k 0, 8, .inl fun _ => 0)))] := h
  refine lv_aload_n h.1.1 h.1.2.1 di_AC_25 rfl (lv_at hl 0 rfl) ?_
  refine i_new (C := "ThreeStrandMaps$PairMap") (T := zT0) (N := 2) (ci := 0) (fs := [.null, .int 0]) h rfl (zw_of 0 63 rfl rfl) (zw_of 0 28 rfl rfl) (zw_of 0 2 rfl rfl) fi_PM (Nat.le_of_ble_eq_true rfl) (Nat.le_of_ble_eq_true rfl) di_AC_26 (fun q2 H h => ?_)
  have h : IS p m c prog_3_method_1_code 1 s [Value.ref h0].toArray "ThreeStrandMaps$AlikeClasses" D k A H _ [(h0, (.inr (3, [.ref q0, .ref q1, .int 0, .null, .null]))), (q0, (.inl (k 0, 8, .inl fun _ => 0))), (q1, (.inl (k 0, 8, .inl fun _ => 0))), (q2, (.inr (0, [.null, .int 0])))] := h
  refine lv_dup h.1.1 h.1.2.1 di_AC_29 rfl ?_
  refine i_callN (ws := [(h0, (.inr (3, [.ref q0, .ref q1, .int 0, .null, .null]))), (q0, (.inl (k 0, 8, .inl fun _ => 0))), (q1, (.inl (k 0, 8, .inl fun _ => 0)))]) ci_PM h hl.1 (zw_of 0 31 rfl rfl) (zw_of 0 2 rfl rfl) (zn_of 0 64 rfl) (zw_of 0 30 rfl rfl) rfl (by decide +kernel) ⟨(Nat.le_of_ble_eq_true rfl), (Nat.le_of_ble_eq_true rfl)⟩ (Nat.le_of_ble_eq_true rfl) di_AC_30 ⟨(Nat.le_of_ble_eq_true rfl), (Nat.le_of_ble_eq_true rfl)⟩ (fun u0 H locs h => ?_)
  have h : IS p m c prog_3_method_1_code 1 s [Value.ref h0].toArray "ThreeStrandMaps$AlikeClasses" D k A H _ [(h0, (.inr (3, [.ref q0, .ref q1, .int 0, .null, .null]))), (q0, (.inl (k 0, 8, .inl fun _ => 0))), (q1, (.inl (k 0, 8, .inl fun _ => 0))), (q2, (.inr (0, [.ref (u0 0), .int 0]))), ((u0 0), (.inl (k 0, 64, .inl fun _ => 0)))] := h
  refine i_put (C := "ThreeStrandMaps$AlikeClasses") (T := zT3) (N := 5) (ci := 3) (q0 := 0) (f := 3) (v := .ref q2) (ty := .object "ThreeStrandMaps$PairMap") h hin rfl rfl (by decide) (zw_of 0 68 rfl rfl) rfl (by decide +kernel) rfl rfl (Nat.le_of_ble_eq_true rfl) di_AC_33 (fun H locs h => ?_)
  have h : IS p m c prog_3_method_1_code 1 s [Value.ref h0].toArray "ThreeStrandMaps$AlikeClasses" D k A H _ [(h0, (.inr (3, [.ref q0, .ref q1, .int 0, .ref q2, .null]))), (q0, (.inl (k 0, 8, .inl fun _ => 0))), (q1, (.inl (k 0, 8, .inl fun _ => 0))), (q2, (.inr (0, [.ref (u0 0), .int 0]))), ((u0 0), (.inl (k 0, 64, .inl fun _ => 0)))] := h
  refine lv_aload_n h.1.1 h.1.2.1 di_AC_36 rfl (lv_at hl 0 rfl) ?_
  refine i_new (C := "ThreeStrandMaps$PairMap") (T := zT0) (N := 2) (ci := 0) (fs := [.null, .int 0]) h rfl (zw_of 0 63 rfl rfl) (zw_of 0 28 rfl rfl) (zw_of 0 2 rfl rfl) fi_PM (Nat.le_of_ble_eq_true rfl) (Nat.le_of_ble_eq_true rfl) di_AC_37 (fun q3 H h => ?_)
  have h : IS p m c prog_3_method_1_code 1 s [Value.ref h0].toArray "ThreeStrandMaps$AlikeClasses" D k A H _ [(h0, (.inr (3, [.ref q0, .ref q1, .int 0, .ref q2, .null]))), (q0, (.inl (k 0, 8, .inl fun _ => 0))), (q1, (.inl (k 0, 8, .inl fun _ => 0))), (q2, (.inr (0, [.ref (u0 0), .int 0]))), ((u0 0), (.inl (k 0, 64, .inl fun _ => 0))), (q3, (.inr (0, [.null, .int 0])))] := h
  refine lv_dup h.1.1 h.1.2.1 di_AC_40 rfl ?_
  refine i_callN (ws := [(h0, (.inr (3, [.ref q0, .ref q1, .int 0, .ref q2, .null]))), (q0, (.inl (k 0, 8, .inl fun _ => 0))), (q1, (.inl (k 0, 8, .inl fun _ => 0))), (q2, (.inr (0, [.ref (u0 0), .int 0]))), ((u0 0), (.inl (k 0, 64, .inl fun _ => 0)))]) ci_PM h hl.1 (zw_of 0 31 rfl rfl) (zw_of 0 2 rfl rfl) (zn_of 0 64 rfl) (zw_of 0 30 rfl rfl) rfl (by decide +kernel) ⟨(Nat.le_of_ble_eq_true rfl), (Nat.le_of_ble_eq_true rfl)⟩ (Nat.le_of_ble_eq_true rfl) di_AC_41 ⟨(Nat.le_of_ble_eq_true rfl), (Nat.le_of_ble_eq_true rfl)⟩ (fun u1 H locs h => ?_)
  have h : IS p m c prog_3_method_1_code 1 s [Value.ref h0].toArray "ThreeStrandMaps$AlikeClasses" D k A H _ [(h0, (.inr (3, [.ref q0, .ref q1, .int 0, .ref q2, .null]))), (q0, (.inl (k 0, 8, .inl fun _ => 0))), (q1, (.inl (k 0, 8, .inl fun _ => 0))), (q2, (.inr (0, [.ref (u0 0), .int 0]))), ((u0 0), (.inl (k 0, 64, .inl fun _ => 0))), (q3, (.inr (0, [.ref (u1 0), .int 0]))), ((u1 0), (.inl (k 0, 64, .inl fun _ => 0)))] := h
  refine i_put (C := "ThreeStrandMaps$AlikeClasses") (T := zT3) (N := 5) (ci := 3) (q0 := 0) (f := 4) (v := .ref q3) (ty := .object "ThreeStrandMaps$PairMap") h hin rfl rfl (by decide) (zw_of 0 69 rfl rfl) rfl (by decide +kernel) rfl rfl (Nat.le_of_ble_eq_true rfl) di_AC_44 (fun H locs h => ?_)
  have h : IS p m c prog_3_method_1_code 1 s [Value.ref h0].toArray "ThreeStrandMaps$AlikeClasses" D k A H _ [(h0, (.inr (3, [.ref q0, .ref q1, .int 0, .ref q2, .ref q3]))), (q0, (.inl (k 0, 8, .inl fun _ => 0))), (q1, (.inl (k 0, 8, .inl fun _ => 0))), (q2, (.inr (0, [.ref (u0 0), .int 0]))), ((u0 0), (.inl (k 0, 64, .inl fun _ => 0))), (q3, (.inr (0, [.ref (u1 0), .int 0]))), ((u1 0), (.inl (k 0, 64, .inl fun _ => 0)))] := h
  exact ret (fun i => [q0, q1, q2, (u0 0), q3, (u1 0)].getD i 0) 47 _ _ _ h di_AC_47
theorem di_RN_0 : decode prog_9_method_1_code 0 = .ok (.aload_n 0, 1) := by decide +kernel
theorem di_RN_1 : decode prog_9_method_1_code 1 = .ok (.invokespecial 3, 3) := by decide +kernel
theorem di_RN_4 : decode prog_9_method_1_code 4 = .ok (.aload_n 0, 1) := by decide +kernel
theorem di_RN_5 : decode prog_9_method_1_code 5 = .ok (.bipush 8, 2) := by decide +kernel
theorem di_RN_7 : decode prog_9_method_1_code 7 = .ok (.newarray .int, 2) := by decide +kernel
theorem di_RN_9 : decode prog_9_method_1_code 9 = .ok (.putfield 11, 3) := by decide +kernel
theorem di_RN_12 : decode prog_9_method_1_code 12 = .ok (.return_, 1) := by decide +kernel
theorem fi_RN : ∀ j, j < 1 → defaultValue ((parseFieldDescriptor (zT4 j).2.2.1).getD .int) = vp_V [.null] j := by decide +kernel
def sh_RN (k : Nat → ClassId) (h : Nat) (u : Nat → Nat) : va_W := [(h, (.inr (4, [.ref (u 0)]))), ((u 0), (.inl (k 0, 8, .inl fun _ => 0)))]
set_option maxHeartbeats 4000000 in
set_option maxRecDepth 20000 in
theorem ci_RN : CI ⟨"ThreeStrandMaps$Renamings", "<init>", "()V"⟩ prog_9_method_1_code 1 1 1 8 12 4 [.null] sh_RN := by
  refine i_enter (by decide +kernel) rfl (by decide) ?_
  intro p l e s m below meth c D k h0 ls A hr hin hlk h hl ret
  refine lv_aload_n h.1.1 h.1.2.1 di_RN_0 rfl (lv_at hl 0 rfl) ?_
  refine i_obj h hl.1 (zw_of 0 86 rfl rfl) di_RN_1 (Nat.le_of_ble_eq_true rfl) (Nat.le_of_ble_eq_true rfl) ?_
  refine lv_aload_n h.1.1 h.1.2.1 di_RN_4 rfl (lv_at hl 0 rfl) ?_
  refine lv_bipush (v := 8) h.1.1 h.1.2.1 di_RN_5 (by decide) ?_
  refine i_newI (N := 8) h (by decide) (by decide) (Nat.le_of_ble_eq_true rfl) (Nat.le_of_ble_eq_true rfl) (Nat.le_of_ble_eq_true rfl) di_RN_7 (fun q0 H h => ?_)
  have h : IS p m c prog_9_method_1_code 1 s [Value.ref h0].toArray "ThreeStrandMaps$Renamings" D k A H _ [(h0, (.inr (4, [.null]))), (q0, (.inl (k 0, 8, .inl fun _ => 0)))] := h
  refine i_put (C := "ThreeStrandMaps$Renamings") (T := zT4) (N := 1) (ci := 4) (q0 := 0) (f := 0) (v := .ref q0) (ty := .array (.int)) h hin rfl rfl (by decide) (zw_of 0 87 rfl rfl) rfl (by decide +kernel) rfl rfl (Nat.le_of_ble_eq_true rfl) di_RN_9 (fun H locs h => ?_)
  have h : IS p m c prog_9_method_1_code 1 s [Value.ref h0].toArray "ThreeStrandMaps$Renamings" D k A H _ [(h0, (.inr (4, [.ref q0]))), (q0, (.inl (k 0, 8, .inl fun _ => 0)))] := h
  exact ret (fun i => [q0].getD i 0) 12 _ _ _ h di_RN_12
theorem di_RG_0 : decode prog_10_method_1_code 0 = .ok (.aload_n 0, 1) := by decide +kernel
theorem di_RG_1 : decode prog_10_method_1_code 1 = .ok (.invokespecial 3, 3) := by decide +kernel
theorem di_RG_4 : decode prog_10_method_1_code 4 = .ok (.aload_n 0, 1) := by decide +kernel
theorem di_RG_5 : decode prog_10_method_1_code 5 = .ok (.sipush 720, 3) := by decide +kernel
theorem di_RG_8 : decode prog_10_method_1_code 8 = .ok (.newarray .int, 2) := by decide +kernel
theorem di_RG_10 : decode prog_10_method_1_code 10 = .ok (.putfield 11, 3) := by decide +kernel
theorem di_RG_13 : decode prog_10_method_1_code 13 = .ok (.aload_n 0, 1) := by decide +kernel
theorem di_RG_14 : decode prog_10_method_1_code 14 = .ok (.sipush 512, 3) := by decide +kernel
theorem di_RG_17 : decode prog_10_method_1_code 17 = .ok (.newarray .long, 2) := by decide +kernel
theorem di_RG_19 : decode prog_10_method_1_code 19 = .ok (.putfield 15, 3) := by decide +kernel
theorem di_RG_22 : decode prog_10_method_1_code 22 = .ok (.aload_n 0, 1) := by decide +kernel
theorem di_RG_23 : decode prog_10_method_1_code 23 = .ok (.iconst 0, 1) := by decide +kernel
theorem di_RG_24 : decode prog_10_method_1_code 24 = .ok (.putfield 19, 3) := by decide +kernel
theorem di_RG_27 : decode prog_10_method_1_code 27 = .ok (.return_, 1) := by decide +kernel
theorem fi_RG : ∀ j, j < 3 → defaultValue ((parseFieldDescriptor (zT5 j).2.2.1).getD .int) = vp_V [.null, .null, .int 0] j := by decide +kernel
def sh_RG (k : Nat → ClassId) (h : Nat) (u : Nat → Nat) : va_W := [(h, (.inr (5, [.ref (u 0), .ref (u 1), .int 0]))), ((u 0), (.inl (k 0, 720, .inl fun _ => 0))), ((u 1), (.inl (k 1, 512, .inr (.inl fun _ => 0))))]
set_option maxHeartbeats 4000000 in
set_option maxRecDepth 20000 in
theorem ci_RG : CI ⟨"ThreeStrandMaps$RowGroup", "<init>", "()V"⟩ prog_10_method_1_code 1 1 2 1232 12 5 [.null, .null, .int 0] sh_RG := by
  refine i_enter (by decide +kernel) rfl (by decide) ?_
  intro p l e s m below meth c D k h0 ls A hr hin hlk h hl ret
  refine lv_aload_n h.1.1 h.1.2.1 di_RG_0 rfl (lv_at hl 0 rfl) ?_
  refine i_obj h hl.1 (zw_of 0 96 rfl rfl) di_RG_1 (Nat.le_of_ble_eq_true rfl) (Nat.le_of_ble_eq_true rfl) ?_
  refine lv_aload_n h.1.1 h.1.2.1 di_RG_4 rfl (lv_at hl 0 rfl) ?_
  refine lv_sipush (v := 720) h.1.1 h.1.2.1 di_RG_5 (by decide) ?_
  refine i_newI (N := 720) h (by decide) (by decide) (Nat.le_of_ble_eq_true rfl) (Nat.le_of_ble_eq_true rfl) (Nat.le_of_ble_eq_true rfl) di_RG_8 (fun q0 H h => ?_)
  have h : IS p m c prog_10_method_1_code 1 s [Value.ref h0].toArray "ThreeStrandMaps$RowGroup" D k A H _ [(h0, (.inr (5, [.null, .null, .int 0]))), (q0, (.inl (k 0, 720, .inl fun _ => 0)))] := h
  refine i_put (C := "ThreeStrandMaps$RowGroup") (T := zT5) (N := 3) (ci := 5) (q0 := 0) (f := 0) (v := .ref q0) (ty := .array (.int)) h hin rfl rfl (by decide) (zw_of 0 97 rfl rfl) rfl (by decide +kernel) rfl rfl (Nat.le_of_ble_eq_true rfl) di_RG_10 (fun H locs h => ?_)
  have h : IS p m c prog_10_method_1_code 1 s [Value.ref h0].toArray "ThreeStrandMaps$RowGroup" D k A H _ [(h0, (.inr (5, [.ref q0, .null, .int 0]))), (q0, (.inl (k 0, 720, .inl fun _ => 0)))] := h
  refine lv_aload_n h.1.1 h.1.2.1 di_RG_13 rfl (lv_at hl 0 rfl) ?_
  refine lv_sipush (v := 512) h.1.1 h.1.2.1 di_RG_14 (by decide) ?_
  refine i_newL (N := 512) h (by decide) (by decide) (Nat.le_of_ble_eq_true rfl) (Nat.le_of_ble_eq_true rfl) (Nat.le_of_ble_eq_true rfl) di_RG_17 (fun q1 H h => ?_)
  have h : IS p m c prog_10_method_1_code 1 s [Value.ref h0].toArray "ThreeStrandMaps$RowGroup" D k A H _ [(h0, (.inr (5, [.ref q0, .null, .int 0]))), (q0, (.inl (k 0, 720, .inl fun _ => 0))), (q1, (.inl (k 1, 512, .inr (.inl fun _ => 0))))] := h
  refine i_put (C := "ThreeStrandMaps$RowGroup") (T := zT5) (N := 3) (ci := 5) (q0 := 0) (f := 1) (v := .ref q1) (ty := .array (.long)) h hin rfl rfl (by decide) (zw_of 0 98 rfl rfl) rfl (by decide +kernel) rfl rfl (Nat.le_of_ble_eq_true rfl) di_RG_19 (fun H locs h => ?_)
  have h : IS p m c prog_10_method_1_code 1 s [Value.ref h0].toArray "ThreeStrandMaps$RowGroup" D k A H _ [(h0, (.inr (5, [.ref q0, .ref q1, .int 0]))), (q0, (.inl (k 0, 720, .inl fun _ => 0))), (q1, (.inl (k 1, 512, .inr (.inl fun _ => 0))))] := h
  refine lv_aload_n h.1.1 h.1.2.1 di_RG_22 rfl (lv_at hl 0 rfl) ?_
  refine lv_iconst (v := 0) h.1.1 h.1.2.1 di_RG_23 (by decide) ?_
  refine i_put (C := "ThreeStrandMaps$RowGroup") (T := zT5) (N := 3) (ci := 5) (q0 := 0) (f := 2) (v := .int 0) (ty := .int) h hin rfl rfl (by decide) (zw_of 0 99 rfl rfl) rfl (by decide +kernel) rfl rfl (Nat.le_of_ble_eq_true rfl) di_RG_24 (fun H locs h => ?_)
  have h : IS p m c prog_10_method_1_code 1 s [Value.ref h0].toArray "ThreeStrandMaps$RowGroup" D k A H _ [(h0, (.inr (5, [.ref q0, .ref q1, .int 0]))), (q0, (.inl (k 0, 720, .inl fun _ => 0))), (q1, (.inl (k 1, 512, .inr (.inl fun _ => 0))))] := h
  exact ret (fun i => [q0, q1].getD i 0) 27 _ _ _ h di_RG_27
theorem di_WC_0 : decode prog_12_method_1_code 0 = .ok (.aload_n 0, 1) := by decide +kernel
theorem di_WC_1 : decode prog_12_method_1_code 1 = .ok (.invokespecial 1, 3) := by decide +kernel
theorem di_WC_4 : decode prog_12_method_1_code 4 = .ok (.aload_n 0, 1) := by decide +kernel
theorem di_WC_5 : decode prog_12_method_1_code 5 = .ok (.sipush 4096, 3) := by decide +kernel
theorem di_WC_8 : decode prog_12_method_1_code 8 = .ok (.newarray .int, 2) := by decide +kernel
theorem di_WC_10 : decode prog_12_method_1_code 10 = .ok (.putfield 9, 3) := by decide +kernel
theorem di_WC_13 : decode prog_12_method_1_code 13 = .ok (.aload_n 0, 1) := by decide +kernel
theorem di_WC_14 : decode prog_12_method_1_code 14 = .ok (.iconst 0, 1) := by decide +kernel
theorem di_WC_15 : decode prog_12_method_1_code 15 = .ok (.putfield 13, 3) := by decide +kernel
theorem di_WC_18 : decode prog_12_method_1_code 18 = .ok (.return_, 1) := by decide +kernel
theorem fi_WC : ∀ j, j < 2 → defaultValue ((parseFieldDescriptor (zT6 j).2.2.1).getD .int) = vp_V [.null, .int 0] j := by decide +kernel
def sh_WC (k : Nat → ClassId) (h : Nat) (u : Nat → Nat) : va_W := [(h, (.inr (6, [.ref (u 0), .int 0]))), ((u 0), (.inl (k 0, 4096, .inl fun _ => 0)))]
set_option maxHeartbeats 4000000 in
set_option maxRecDepth 20000 in
theorem ci_WC : CI ⟨"ThreeStrandMaps$WordClasses", "<init>", "()V"⟩ prog_12_method_1_code 1 1 1 4096 12 6 [.null, .int 0] sh_WC := by
  refine i_enter (by decide +kernel) rfl (by decide) ?_
  intro p l e s m below meth c D k h0 ls A hr hin hlk h hl ret
  refine lv_aload_n h.1.1 h.1.2.1 di_WC_0 rfl (lv_at hl 0 rfl) ?_
  refine i_obj h hl.1 (zw_of 0 113 rfl rfl) di_WC_1 (Nat.le_of_ble_eq_true rfl) (Nat.le_of_ble_eq_true rfl) ?_
  refine lv_aload_n h.1.1 h.1.2.1 di_WC_4 rfl (lv_at hl 0 rfl) ?_
  refine lv_sipush (v := 4096) h.1.1 h.1.2.1 di_WC_5 (by decide) ?_
  refine i_newI (N := 4096) h (by decide) (by decide) (Nat.le_of_ble_eq_true rfl) (Nat.le_of_ble_eq_true rfl) (Nat.le_of_ble_eq_true rfl) di_WC_8 (fun q0 H h => ?_)
  have h : IS p m c prog_12_method_1_code 1 s [Value.ref h0].toArray "ThreeStrandMaps$WordClasses" D k A H _ [(h0, (.inr (6, [.null, .int 0]))), (q0, (.inl (k 0, 4096, .inl fun _ => 0)))] := h
  refine i_put (C := "ThreeStrandMaps$WordClasses") (T := zT6) (N := 2) (ci := 6) (q0 := 0) (f := 0) (v := .ref q0) (ty := .array (.int)) h hin rfl rfl (by decide) (zw_of 0 114 rfl rfl) rfl (by decide +kernel) rfl rfl (Nat.le_of_ble_eq_true rfl) di_WC_10 (fun H locs h => ?_)
  have h : IS p m c prog_12_method_1_code 1 s [Value.ref h0].toArray "ThreeStrandMaps$WordClasses" D k A H _ [(h0, (.inr (6, [.ref q0, .int 0]))), (q0, (.inl (k 0, 4096, .inl fun _ => 0)))] := h
  refine lv_aload_n h.1.1 h.1.2.1 di_WC_13 rfl (lv_at hl 0 rfl) ?_
  refine lv_iconst (v := 0) h.1.1 h.1.2.1 di_WC_14 (by decide) ?_
  refine i_put (C := "ThreeStrandMaps$WordClasses") (T := zT6) (N := 2) (ci := 6) (q0 := 0) (f := 1) (v := .int 0) (ty := .int) h hin rfl rfl (by decide) (zw_of 0 115 rfl rfl) rfl (by decide +kernel) rfl rfl (Nat.le_of_ble_eq_true rfl) di_WC_15 (fun H locs h => ?_)
  have h : IS p m c prog_12_method_1_code 1 s [Value.ref h0].toArray "ThreeStrandMaps$WordClasses" D k A H _ [(h0, (.inr (6, [.ref q0, .int 0]))), (q0, (.inl (k 0, 4096, .inl fun _ => 0)))] := h
  exact ret (fun i => [q0].getD i 0) 18 _ _ _ h di_WC_18
theorem di_BA_0 : decode prog_5_method_1_code 0 = .ok (.aload_n 0, 1) := by decide +kernel
theorem di_BA_1 : decode prog_5_method_1_code 1 = .ok (.invokespecial 3, 3) := by decide +kernel
theorem di_BA_4 : decode prog_5_method_1_code 4 = .ok (.aload_n 0, 1) := by decide +kernel
theorem di_BA_5 : decode prog_5_method_1_code 5 = .ok (.new 9, 3) := by decide +kernel
theorem di_BA_8 : decode prog_5_method_1_code 8 = .ok (.dup, 1) := by decide +kernel
theorem di_BA_9 : decode prog_5_method_1_code 9 = .ok (.invokespecial 11, 3) := by decide +kernel
theorem di_BA_12 : decode prog_5_method_1_code 12 = .ok (.putfield 12, 3) := by decide +kernel
theorem di_BA_15 : decode prog_5_method_1_code 15 = .ok (.aload_n 0, 1) := by decide +kernel
theorem di_BA_16 : decode prog_5_method_1_code 16 = .ok (.new 9, 3) := by decide +kernel
theorem di_BA_19 : decode prog_5_method_1_code 19 = .ok (.dup, 1) := by decide +kernel
theorem di_BA_20 : decode prog_5_method_1_code 20 = .ok (.invokespecial 11, 3) := by decide +kernel
theorem di_BA_23 : decode prog_5_method_1_code 23 = .ok (.putfield 18, 3) := by decide +kernel
theorem di_BA_26 : decode prog_5_method_1_code 26 = .ok (.aload_n 0, 1) := by decide +kernel
theorem di_BA_27 : decode prog_5_method_1_code 27 = .ok (.bipush 64, 2) := by decide +kernel
theorem di_BA_29 : decode prog_5_method_1_code 29 = .ok (.newarray .long, 2) := by decide +kernel
theorem di_BA_31 : decode prog_5_method_1_code 31 = .ok (.putfield 21, 3) := by decide +kernel
theorem di_BA_34 : decode prog_5_method_1_code 34 = .ok (.return_, 1) := by decide +kernel
theorem fi_BA : ∀ j, j < 3 → defaultValue ((parseFieldDescriptor (zT7 j).2.2.1).getD .int) = vp_V [.null, .null, .null] j := by decide +kernel
def sh_BA (k : Nat → ClassId) (h : Nat) (u : Nat → Nat) : va_W := [(h, (.inr (7, [.ref (u 0), .ref (u 2), .ref (u 4)]))), ((u 0), (.inr (0, [.ref (u 1), .int 0]))), ((u 1), (.inl (k 0, 64, .inl fun _ => 0))), ((u 2), (.inr (0, [.ref (u 3), .int 0]))), ((u 3), (.inl (k 0, 64, .inl fun _ => 0))), ((u 4), (.inl (k 1, 64, .inr (.inl fun _ => 0))))]
set_option maxHeartbeats 4000000 in
set_option maxRecDepth 20000 in
theorem ci_BA : CI ⟨"ThreeStrandMaps$BraidAction", "<init>", "()V"⟩ prog_5_method_1_code 1 2 5 196 32 7 [.null, .null, .null] sh_BA := by
  refine i_enter (by decide +kernel) rfl (by decide) ?_
  intro p l e s m below meth c D k h0 ls A hr hin hlk h hl ret
  refine lv_aload_n h.1.1 h.1.2.1 di_BA_0 rfl (lv_at hl 0 rfl) ?_
  refine i_obj h hl.1 (zw_of 0 126 rfl rfl) di_BA_1 (Nat.le_of_ble_eq_true rfl) (Nat.le_of_ble_eq_true rfl) ?_
  refine lv_aload_n h.1.1 h.1.2.1 di_BA_4 rfl (lv_at hl 0 rfl) ?_
  refine i_new (C := "ThreeStrandMaps$PairMap") (T := zT0) (N := 2) (ci := 0) (fs := [.null, .int 0]) h rfl (zw_of 0 127 rfl rfl) (zw_of 0 28 rfl rfl) (zw_of 0 2 rfl rfl) fi_PM (Nat.le_of_ble_eq_true rfl) (Nat.le_of_ble_eq_true rfl) di_BA_5 (fun q0 H h => ?_)
  have h : IS p m c prog_5_method_1_code 1 s [Value.ref h0].toArray "ThreeStrandMaps$BraidAction" D k A H _ [(h0, (.inr (7, [.null, .null, .null]))), (q0, (.inr (0, [.null, .int 0])))] := h
  refine lv_dup h.1.1 h.1.2.1 di_BA_8 rfl ?_
  refine i_callN (ws := [(h0, (.inr (7, [.null, .null, .null])))]) ci_PM h hl.1 (zw_of 0 31 rfl rfl) (zw_of 0 2 rfl rfl) (zn_of 0 128 rfl) (zw_of 0 30 rfl rfl) rfl (by decide +kernel) ⟨(Nat.le_of_ble_eq_true rfl), (Nat.le_of_ble_eq_true rfl)⟩ (Nat.le_of_ble_eq_true rfl) di_BA_9 ⟨(Nat.le_of_ble_eq_true rfl), (Nat.le_of_ble_eq_true rfl)⟩ (fun u0 H locs h => ?_)
  have h : IS p m c prog_5_method_1_code 1 s [Value.ref h0].toArray "ThreeStrandMaps$BraidAction" D k A H _ [(h0, (.inr (7, [.null, .null, .null]))), (q0, (.inr (0, [.ref (u0 0), .int 0]))), ((u0 0), (.inl (k 0, 64, .inl fun _ => 0)))] := h
  refine i_put (C := "ThreeStrandMaps$BraidAction") (T := zT7) (N := 3) (ci := 7) (q0 := 0) (f := 0) (v := .ref q0) (ty := .object "ThreeStrandMaps$PairMap") h hin rfl rfl (by decide) (zw_of 0 129 rfl rfl) rfl (by decide +kernel) rfl rfl (Nat.le_of_ble_eq_true rfl) di_BA_12 (fun H locs h => ?_)
  have h : IS p m c prog_5_method_1_code 1 s [Value.ref h0].toArray "ThreeStrandMaps$BraidAction" D k A H _ [(h0, (.inr (7, [.ref q0, .null, .null]))), (q0, (.inr (0, [.ref (u0 0), .int 0]))), ((u0 0), (.inl (k 0, 64, .inl fun _ => 0)))] := h
  refine lv_aload_n h.1.1 h.1.2.1 di_BA_15 rfl (lv_at hl 0 rfl) ?_
  refine i_new (C := "ThreeStrandMaps$PairMap") (T := zT0) (N := 2) (ci := 0) (fs := [.null, .int 0]) h rfl (zw_of 0 127 rfl rfl) (zw_of 0 28 rfl rfl) (zw_of 0 2 rfl rfl) fi_PM (Nat.le_of_ble_eq_true rfl) (Nat.le_of_ble_eq_true rfl) di_BA_16 (fun q1 H h => ?_)
  have h : IS p m c prog_5_method_1_code 1 s [Value.ref h0].toArray "ThreeStrandMaps$BraidAction" D k A H _ [(h0, (.inr (7, [.ref q0, .null, .null]))), (q0, (.inr (0, [.ref (u0 0), .int 0]))), ((u0 0), (.inl (k 0, 64, .inl fun _ => 0))), (q1, (.inr (0, [.null, .int 0])))] := h
  refine lv_dup h.1.1 h.1.2.1 di_BA_19 rfl ?_
  refine i_callN (ws := [(h0, (.inr (7, [.ref q0, .null, .null]))), (q0, (.inr (0, [.ref (u0 0), .int 0]))), ((u0 0), (.inl (k 0, 64, .inl fun _ => 0)))]) ci_PM h hl.1 (zw_of 0 31 rfl rfl) (zw_of 0 2 rfl rfl) (zn_of 0 128 rfl) (zw_of 0 30 rfl rfl) rfl (by decide +kernel) ⟨(Nat.le_of_ble_eq_true rfl), (Nat.le_of_ble_eq_true rfl)⟩ (Nat.le_of_ble_eq_true rfl) di_BA_20 ⟨(Nat.le_of_ble_eq_true rfl), (Nat.le_of_ble_eq_true rfl)⟩ (fun u1 H locs h => ?_)
  have h : IS p m c prog_5_method_1_code 1 s [Value.ref h0].toArray "ThreeStrandMaps$BraidAction" D k A H _ [(h0, (.inr (7, [.ref q0, .null, .null]))), (q0, (.inr (0, [.ref (u0 0), .int 0]))), ((u0 0), (.inl (k 0, 64, .inl fun _ => 0))), (q1, (.inr (0, [.ref (u1 0), .int 0]))), ((u1 0), (.inl (k 0, 64, .inl fun _ => 0)))] := h
  refine i_put (C := "ThreeStrandMaps$BraidAction") (T := zT7) (N := 3) (ci := 7) (q0 := 0) (f := 1) (v := .ref q1) (ty := .object "ThreeStrandMaps$PairMap") h hin rfl rfl (by decide) (zw_of 0 130 rfl rfl) rfl (by decide +kernel) rfl rfl (Nat.le_of_ble_eq_true rfl) di_BA_23 (fun H locs h => ?_)
  have h : IS p m c prog_5_method_1_code 1 s [Value.ref h0].toArray "ThreeStrandMaps$BraidAction" D k A H _ [(h0, (.inr (7, [.ref q0, .ref q1, .null]))), (q0, (.inr (0, [.ref (u0 0), .int 0]))), ((u0 0), (.inl (k 0, 64, .inl fun _ => 0))), (q1, (.inr (0, [.ref (u1 0), .int 0]))), ((u1 0), (.inl (k 0, 64, .inl fun _ => 0)))] := h
  refine lv_aload_n h.1.1 h.1.2.1 di_BA_26 rfl (lv_at hl 0 rfl) ?_
  refine lv_bipush (v := 64) h.1.1 h.1.2.1 di_BA_27 (by decide) ?_
  refine i_newL (N := 64) h (by decide) (by decide) (Nat.le_of_ble_eq_true rfl) (Nat.le_of_ble_eq_true rfl) (Nat.le_of_ble_eq_true rfl) di_BA_29 (fun q2 H h => ?_)
  have h : IS p m c prog_5_method_1_code 1 s [Value.ref h0].toArray "ThreeStrandMaps$BraidAction" D k A H _ [(h0, (.inr (7, [.ref q0, .ref q1, .null]))), (q0, (.inr (0, [.ref (u0 0), .int 0]))), ((u0 0), (.inl (k 0, 64, .inl fun _ => 0))), (q1, (.inr (0, [.ref (u1 0), .int 0]))), ((u1 0), (.inl (k 0, 64, .inl fun _ => 0))), (q2, (.inl (k 1, 64, .inr (.inl fun _ => 0))))] := h
  refine i_put (C := "ThreeStrandMaps$BraidAction") (T := zT7) (N := 3) (ci := 7) (q0 := 0) (f := 2) (v := .ref q2) (ty := .array (.long)) h hin rfl rfl (by decide) (zw_of 0 131 rfl rfl) rfl (by decide +kernel) rfl rfl (Nat.le_of_ble_eq_true rfl) di_BA_31 (fun H locs h => ?_)
  have h : IS p m c prog_5_method_1_code 1 s [Value.ref h0].toArray "ThreeStrandMaps$BraidAction" D k A H _ [(h0, (.inr (7, [.ref q0, .ref q1, .ref q2]))), (q0, (.inr (0, [.ref (u0 0), .int 0]))), ((u0 0), (.inl (k 0, 64, .inl fun _ => 0))), (q1, (.inr (0, [.ref (u1 0), .int 0]))), ((u1 0), (.inl (k 0, 64, .inl fun _ => 0))), (q2, (.inl (k 1, 64, .inr (.inl fun _ => 0))))] := h
  exact ret (fun i => [q0, (u0 0), q1, (u1 0), q2].getD i 0) 34 _ _ _ h di_BA_34
