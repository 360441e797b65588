/-! the memory at the start -/
def M0 : ZM := (fun a _ _ => bif Nat.beq a 31 then -1 else 0, fun _ _ _ => 0)
def S0 : ZS := (fun _ => p0, fun _ => [])
theorem RS_0 (hw : pwf p0) : RS M0 S0 := by
  refine ⟨fun m _ => ⟨hw, rfl, fun x y hx => absurd hx (Nat.not_lt_zero _)⟩, fun b _ => ⟨Nat.zero_le _, rfl, fun i q h => by simp [S0] at h⟩, fun n _ _ => Or.inl rfl⟩
theorem CS_0 : CS M0 S0 := by
  refine ⟨fun m _ => ⟨p0_wf, rfl, fun x y hx => absurd hx (Nat.not_lt_zero _)⟩, ⟨p0_wf, rfl, fun x y hx => absurd hx (Nat.not_lt_zero _)⟩, fun b _ => ⟨Nat.zero_le _, rfl, fun i q h => by simp [S0] at h⟩, ⟨Nat.zero_le _, rfl, fun i q h => by simp at h⟩⟩
