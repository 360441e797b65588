/-! the constructors -/
theorem di_PM_0 : decode prog_8_method_1_code 0 = .ok (.aload_n 0, 1) := by decide +kernel
theorem di_PM_1 : decode prog_8_method_1_code 1 = .ok (.invokespecial 1, 3) := by decide +kernel
theorem di_PM_4 : decode prog_8_method_1_code 4 = .ok (.aload_n 0, 1) := by decide +kernel
theorem di_PM_5 : decode prog_8_method_1_code 5 = .ok (.bipush 64, 2) := by decide +kernel
theorem di_PM_7 : decode prog_8_method_1_code 7 = .ok (.newarray .int, 2) := by decide +kernel
theorem di_PM_9 : decode prog_8_method_1_code 9 = .ok (.putfield 9, 3) := by decide +kernel
theorem di_PM_12 : decode prog_8_method_1_code 12 = .ok (.aload_n 0, 1) := by decide +kernel
theorem di_PM_13 : decode prog_8_method_1_code 13 = .ok (.iconst 0, 1) := by decide +kernel
theorem di_PM_14 : decode prog_8_method_1_code 14 = .ok (.putfield 13, 3) := by decide +kernel
theorem di_PM_17 : decode prog_8_method_1_code 17 = .ok (.return_, 1) := by decide +kernel
theorem fi_PM : ∀ j, j < 2 → defaultValue ((parseFieldDescriptor (zT0 j).2.2.1).getD .int) = vp_V [.null, .int 0] j := by decide +kernel
def sh_PM (k : Nat → ClassId) (h : Nat) (u : Nat → Nat) : va_W := [(h, (.inr (0, [.ref (u 0), .int 0]))), ((u 0), (.inl (k 0, 64, .inl fun _ => 0)))]
set_option maxHeartbeats 4000000 in
set_option maxRecDepth 20000 in
theorem ci_PM : CI ⟨"ThreeStrandMaps$PairMap", "<init>", "()V"⟩ prog_8_method_1_code 1 1 1 64 12 0 [.null, .int 0] sh_PM := by
  refine i_enter (by decide +kernel) rfl (by decide) ?_
  intro p l e s m below meth c D k h0 ls A hr hin hlk h hl ret
  refine lv_aload_n h.1.1 h.1.2.1 di_PM_0 rfl (lv_at hl 0 rfl) ?_
  refine i_obj h hl.1 (zw_of 0 33 rfl rfl) di_PM_1 (Nat.le_of_ble_eq_true rfl) (Nat.le_of_ble_eq_true rfl) ?_
  refine lv_aload_n h.1.1 h.1.2.1 di_PM_4 rfl (lv_at hl 0 rfl) ?_
  refine lv_bipush (v := 64) h.1.1 h.1.2.1 di_PM_5 (by decide) ?_
  refine i_newI (N := 64) h (by decide) (by decide) (Nat.le_of_ble_eq_true rfl) (Nat.le_of_ble_eq_true rfl) (Nat.le_of_ble_eq_true rfl) di_PM_7 (fun q0 H h => ?_)
  have h : IS p m c prog_8_method_1_code 1 s [Value.ref h0].toArray "ThreeStrandMaps$PairMap" D k A H _ [(h0, (.inr (0, [.null, .int 0]))), (q0, (.inl (k 0, 64, .inl fun _ => 0)))] := h
  refine i_put (C := "ThreeStrandMaps$PairMap") (T := zT0) (N := 2) (ci := 0) (q0 := 0) (f := 0) (v := .ref q0) (ty := .array (.int)) h hin rfl rfl (by decide) (zw_of 0 34 rfl rfl) rfl (by decide +kernel) rfl rfl (Nat.le_of_ble_eq_true rfl) di_PM_9 (fun H locs h => ?_)
  have h : IS p m c prog_8_method_1_code 1 s [Value.ref h0].toArray "ThreeStrandMaps$PairMap" D k A H _ [(h0, (.inr (0, [.ref q0, .int 0]))), (q0, (.inl (k 0, 64, .inl fun _ => 0)))] := h
  refine lv_aload_n h.1.1 h.1.2.1 di_PM_12 rfl (lv_at hl 0 rfl) ?_
  refine lv_iconst (v := 0) h.1.1 h.1.2.1 di_PM_13 (by decide) ?_
  refine i_put (C := "ThreeStrandMaps$PairMap") (T := zT0) (N := 2) (ci := 0) (q0 := 0) (f := 1) (v := .int 0) (ty := .int) h hin rfl rfl (by decide) (zw_of 0 35 rfl rfl) rfl (by decide +kernel) rfl rfl (Nat.le_of_ble_eq_true rfl) di_PM_14 (fun H locs h => ?_)
  have h : IS p m c prog_8_method_1_code 1 s [Value.ref h0].toArray "ThreeStrandMaps$PairMap" D k A H _ [(h0, (.inr (0, [.ref q0, .int 0]))), (q0, (.inl (k 0, 64, .inl fun _ => 0)))] := h
  exact ret (fun i => [q0].getD i 0) 17 _ _ _ h di_PM_17
theorem di_BR_0 : decode prog_4_method_1_code 0 = .ok (.aload_n 0, 1) := by decide +kernel
theorem di_BR_1 : decode prog_4_method_1_code 1 = .ok (.invokespecial 1, 3) := by decide +kernel
theorem di_BR_4 : decode prog_4_method_1_code 4 = .ok (.aload_n 0, 1) := by decide +kernel
theorem di_BR_5 : decode prog_4_method_1_code 5 = .ok (.bipush 24, 2) := by decide +kernel
theorem di_BR_7 : decode prog_4_method_1_code 7 = .ok (.newarray .int, 2) := by decide +kernel
theorem di_BR_9 : decode prog_4_method_1_code 9 = .ok (.putfield 9, 3) := by decide +kernel
theorem di_BR_12 : decode prog_4_method_1_code 12 = .ok (.aload_n 0, 1) := by decide +kernel
theorem di_BR_13 : decode prog_4_method_1_code 13 = .ok (.bipush 24, 2) := by decide +kernel
theorem di_BR_15 : decode prog_4_method_1_code 15 = .ok (.newarray .boolean, 2) := by decide +kernel
theorem di_BR_17 : decode prog_4_method_1_code 17 = .ok (.putfield 13, 3) := by decide +kernel
theorem di_BR_20 : decode prog_4_method_1_code 20 = .ok (.aload_n 0, 1) := by decide +kernel
theorem di_BR_21 : decode prog_4_method_1_code 21 = .ok (.iconst 0, 1) := by decide +kernel
theorem di_BR_22 : decode prog_4_method_1_code 22 = .ok (.putfield 17, 3) := by decide +kernel
theorem di_BR_25 : decode prog_4_method_1_code 25 = .ok (.return_, 1) := by decide +kernel
theorem fi_BR : ∀ j, j < 3 → defaultValue ((parseFieldDescriptor (zT1 j).2.2.1).getD .int) = vp_V [.null, .null, .int 0] j := by decide +kernel
def sh_BR (k : Nat → ClassId) (h : Nat) (u : Nat → Nat) : va_W := [(h, (.inr (1, [.ref (u 0), .ref (u 1), .int 0]))), ((u 0), (.inl (k 0, 24, .inl fun _ => 0))), ((u 1), (.inl (k 2, 24, .inl fun _ => 0)))]
set_option maxHeartbeats 4000000 in
set_option maxRecDepth 20000 in
theorem ci_BR : CI ⟨"ThreeStrandMaps$Braid", "<init>", "()V"⟩ prog_4_method_1_code 1 1 2 48 12 1 [.null, .null, .int 0] sh_BR := by
  refine i_enter (by decide +kernel) rfl (by decide) ?_
  intro p l e s m below meth c D k h0 ls A hr hin hlk h hl ret
  refine lv_aload_n h.1.1 h.1.2.1 di_BR_0 rfl (lv_at hl 0 rfl) ?_
  refine i_obj h hl.1 (zw_of 0 46 rfl rfl) di_BR_1 (Nat.le_of_ble_eq_true rfl) (Nat.le_of_ble_eq_true rfl) ?_
  refine lv_aload_n h.1.1 h.1.2.1 di_BR_4 rfl (lv_at hl 0 rfl) ?_
  refine lv_bipush (v := 24) h.1.1 h.1.2.1 di_BR_5 (by decide) ?_
  refine i_newI (N := 24) h (by decide) (by decide) (Nat.le_of_ble_eq_true rfl) (Nat.le_of_ble_eq_true rfl) (Nat.le_of_ble_eq_true rfl) di_BR_7 (fun q0 H h => ?_)
  have h : IS p m c prog_4_method_1_code 1 s [Value.ref h0].toArray "ThreeStrandMaps$Braid" D k A H _ [(h0, (.inr (1, [.null, .null, .int 0]))), (q0, (.inl (k 0, 24, .inl fun _ => 0)))] := h
  refine i_put (C := "ThreeStrandMaps$Braid") (T := zT1) (N := 3) (ci := 1) (q0 := 0) (f := 0) (v := .ref q0) (ty := .array (.int)) h hin rfl rfl (by decide) (zw_of 0 47 rfl rfl) rfl (by decide +kernel) rfl rfl (Nat.le_of_ble_eq_true rfl) di_BR_9 (fun H locs h => ?_)
  have h : IS p m c prog_4_method_1_code 1 s [Value.ref h0].toArray "ThreeStrandMaps$Braid" D k A H _ [(h0, (.inr (1, [.ref q0, .null, .int 0]))), (q0, (.inl (k 0, 24, .inl fun _ => 0)))] := h
  refine lv_aload_n h.1.1 h.1.2.1 di_BR_12 rfl (lv_at hl 0 rfl) ?_
  refine lv_bipush (v := 24) h.1.1 h.1.2.1 di_BR_13 (by decide) ?_
  refine i_newZ (N := 24) h (by decide) (by decide) (Nat.le_of_ble_eq_true rfl) (Nat.le_of_ble_eq_true rfl) (Nat.le_of_ble_eq_true rfl) di_BR_15 (fun q1 H h => ?_)
  have h : IS p m c prog_4_method_1_code 1 s [Value.ref h0].toArray "ThreeStrandMaps$Braid" D k A H _ [(h0, (.inr (1, [.ref q0, .null, .int 0]))), (q0, (.inl (k 0, 24, .inl fun _ => 0))), (q1, (.inl (k 2, 24, .inl fun _ => 0)))] := h
  refine i_put (C := "ThreeStrandMaps$Braid") (T := zT1) (N := 3) (ci := 1) (q0 := 0) (f := 1) (v := .ref q1) (ty := .array (.boolean)) h hin rfl rfl (by decide) (zw_of 0 48 rfl rfl) rfl (by decide +kernel) rfl rfl (Nat.le_of_ble_eq_true rfl) di_BR_17 (fun H locs h => ?_)
  have h : IS p m c prog_4_method_1_code 1 s [Value.ref h0].toArray "ThreeStrandMaps$Braid" D k A H _ [(h0, (.inr (1, [.ref q0, .ref q1, .int 0]))), (q0, (.inl (k 0, 24, .inl fun _ => 0))), (q1, (.inl (k 2, 24, .inl fun _ => 0)))] := h
  refine lv_aload_n h.1.1 h.1.2.1 di_BR_20 rfl (lv_at hl 0 rfl) ?_
  refine lv_iconst (v := 0) h.1.1 h.1.2.1 di_BR_21 (by decide) ?_
  refine i_put (C := "ThreeStrandMaps$Braid") (T := zT1) (N := 3) (ci := 1) (q0 := 0) (f := 2) (v := .int 0) (ty := .int) h hin rfl rfl (by decide) (zw_of 0 49 rfl rfl) rfl (by decide +kernel) rfl rfl (Nat.le_of_ble_eq_true rfl) di_BR_22 (fun H locs h => ?_)
  have h : IS p m c prog_4_method_1_code 1 s [Value.ref h0].toArray "ThreeStrandMaps$Braid" D k A H _ [(h0, (.inr (1, [.ref q0, .ref q1, .int 0]))), (q0, (.inl (k 0, 24, .inl fun _ => 0))), (q1, (.inl (k 2, 24, .inl fun _ => 0)))] := h
  exact ret (fun i => [q0, q1].getD i 0) 25 _ _ _ h di_BR_25
