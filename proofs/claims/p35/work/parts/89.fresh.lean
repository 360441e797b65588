/-! the memory at the start -/
def M0 : ZM := (fun _ _ _ => 0, fun _ _ _ => 0)
theorem LH_0 : LH M0 S0 := by
  refine ⟨fun m _ x _ => ?_, fun m _ => ⟨p0_wf, rfl, fun x y hx => absurd hx (Nat.not_lt_zero _)⟩⟩
  show (0 : Int64).toBitVec.toNat < 2 ^ 36
  decide
theorem CS_0 : CS M0 S0 := by
  refine ⟨fun m _ => ⟨p0_wf, rfl, fun x y hx => absurd hx (Nat.not_lt_zero _)⟩, ⟨p0_wf, rfl, fun x y hx => absurd hx (Nat.not_lt_zero _)⟩, fun b _ => ⟨Nat.zero_le _, rfl, fun i q h => by simp [S0] at h⟩, ⟨Nat.zero_le _, rfl, fun i q h => by simp at h⟩⟩
