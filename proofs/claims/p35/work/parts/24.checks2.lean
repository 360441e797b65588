def pinvo (A : ZP) : Prop := ∀ x y, x < A.1 → y < A.1 → A.2.1 (A.2.1 x y) (A.2.2 x y) = x ∧ A.2.2 (A.2.1 x y) (A.2.2 x y) = y
def plnd (A : ZP) : Prop := ∀ x, x < A.1 → orf (fun y => A.2.1 x y) A.1 = 2 ^ A.1 - 1
def prnd (A : ZP) : Prop := ∀ y, y < A.1 → orf (fun x => A.2.2 x y) A.1 = 2 ^ A.1 - 1
def psq (A : ZP) : Prop := ∀ x, x < A.1 → A.2.1 x x = x ∧ A.2.2 x x = x
section
variable {G : ZG} {M : ZM} {Z : Option ZV → ZM → Prop}
theorem s_CH_isInvolutive {k : Nat} {A : ZP} (hk : k < 10) (hA : isPM M k A) (h1 : pinvo A → Z (some (zi (nI 1))) M) (h2 : ¬ pinvo A → Z (some (zi (nI 0))) M) : Ctr 0 G mi_CH_isInvolutive [zr 0 k] M Z := by
  have hn := hA.1.1
  refine go_CH_isInvolutive (fun Kz hKz => ?_)
  conv => whnf
  refine ⟨by first | assumption | decide, ?_⟩
  conv => whnf
  refine s_PM_points hk ?_
  conv => whnf
  refine hKz _ _ _ _ ?_
  rw [hA.2.1]
  refine rloop (n := A.1) (m := A.1) (O := fun x => (∀ a b, a < A.1 → b < A.1 → a < x → A.2.1 (A.2.1 a b) (A.2.2 a b) = a ∧ A.2.2 (A.2.1 a b) (A.2.2 a b) = b) → V 0 G mi_CH_isInvolutive Z 7 [(0, zr 0 k), (1, zi (nI A.1)), (2, zi (nI x))] [] M) (I := fun x y => (∀ a b, a < A.1 → b < A.1 → (a < x ∨ (a = x ∧ b < y)) → A.2.1 (A.2.1 a b) (A.2.2 a b) = a ∧ A.2.2 (A.2.1 a b) (A.2.2 a b) = b) → V 0 G mi_CH_isInvolutive Z 14 [(0, zr 0 k), (1, zi (nI A.1)), (2, zi (nI x)), (3, zi (nI y))] [] M) (fun q => ?_) (fun x hx h q => ?_) (fun x hx h q => ?_) (fun x y hx hy h q => ?_) (fun a b _ _ q => absurd q (Nat.not_lt_zero _))
  · refine z_run (cuts := cu_CH_isInvolutive) ok_CH_isInvolutive (fun Kz hKz => ?_)
    conv => whnf
    rw [nI_leI (by omega) (by omega)]
    refine ⟨fun _ => ?_, fun q => absurd (Nat.le_refl _) q⟩
    conv => whnf
    exact ⟨Or.inr rfl, h1 (fun x y hx hy => q x y hx hy hx)⟩
  · refine z_run (cuts := cu_CH_isInvolutive) ok_CH_isInvolutive (fun Kz hKz => ?_)
    conv => whnf
    rw [nI_leI (by omega) (by omega)]
    refine ⟨fun q => absurd q (by omega), fun _ => ?_⟩
    conv => whnf
    refine hKz _ _ _ _ ?_
    exact h (fun a b ha hb q2 => q a b ha hb (by omega))
  · refine z_run (cuts := cu_CH_isInvolutive) ok_CH_isInvolutive (fun Kz hKz => ?_)
    conv => whnf
    rw [nI_leI (by omega) (by omega)]
    refine ⟨fun _ => ?_, fun q => absurd (Nat.le_refl _) q⟩
    conv => whnf
    refine hKz _ _ _ _ ?_
    rw [nI_1']
    exact h (fun a b ha hb q2 => q a b ha hb (by omega))
  · have hLR := hA.1.2 x y hx hy
    have hLR2 := hA.1.2 _ _ hLR.1 hLR.2
    refine z_run (cuts := cu_CH_isInvolutive) ok_CH_isInvolutive (fun Kz hKz => ?_)
    conv => whnf
    rw [nI_leI (by omega) (by omega)]
    refine ⟨fun q => absurd q (by omega), fun _ => ?_⟩
    conv => whnf
    refine s_CO_pairOf (by omega) (by omega) ?_
    conv => whnf
    refine ⟨by first | assumption | decide, ?_⟩
    conv => whnf
    refine s_PM_imageOf hk (by omega) ?_
    conv => whnf
    rw [hA.2.2 x y hx hy]
    refine ⟨by first | assumption | decide, ?_⟩
    conv => whnf
    refine s_PM_imageOf hk (by omega) ?_
    conv => whnf
    rw [hA.2.2 _ _ hLR.1 hLR.2, nI_eq (by omega) (by omega)]
    refine ⟨fun z => ?_, fun z => ?_⟩
    · conv => whnf
      refine hKz _ _ _ _ ?_
      rw [nI_1']
      refine h (fun a b ha hb q2 => ?_)
      by_cases hab : a = x ∧ b = y
      · rw [hab.1, hab.2]; omega
      · exact q a b ha hb (by omega)
    · conv => whnf
      refine ⟨Or.inl rfl, h2 (fun w => z ?_)⟩
      have := w x y hx hy
      rw [this.1, this.2]
theorem s_CH_isLeftNondegenerate {k : Nat} {A : ZP} (hk : k < 10) (hA : isPM M k A) (h1 : plnd A → Z (some (zi (nI 1))) M) (h2 : ¬ plnd A → Z (some (zi (nI 0))) M) : Ctr 0 G mi_CH_isLeftNondegenerate [zr 0 k] M Z := by
  have hn := hA.1.1
  refine go_CH_isLeftNondegenerate (fun Kz hKz => ?_)
  conv => whnf
  refine ⟨by first | assumption | decide, ?_⟩
  conv => whnf
  refine s_PM_points hk ?_
  conv => whnf
  refine hKz _ _ _ _ ?_
  rw [hA.2.1]
  have hlt : ∀ x, x < A.1 → orf (fun y => A.2.1 x y) A.1 < 2 ^ 8 := fun x hx => orf_lt _ (fun i hi => by have := hA.1.2 x i hx hi; show A.2.1 x i < 8; omega)
  have hp : 2 ^ A.1 ≤ 2 ^ 6 := Nat.pow_le_pow_right (by decide) hn
  have hp0 : 0 < 2 ^ A.1 := Nat.pow_pos (by decide)
  refine rloop (n := A.1) (m := A.1) (O := fun x => (∀ a, a < x → orf (fun y => A.2.1 a y) A.1 = 2 ^ A.1 - 1) → V 0 G mi_CH_isLeftNondegenerate Z 7 [(0, zr 0 k), (1, zi (nI A.1)), (2, zi (nI x))] [] M) (I := fun x y => (∀ a, a < x → orf (fun y => A.2.1 a y) A.1 = 2 ^ A.1 - 1) → V 0 G mi_CH_isLeftNondegenerate Z 17 [(0, zr 0 k), (1, zi (nI A.1)), (2, zi (nI x)), (3, zi (nI (orf (fun y => A.2.1 x y) y))), (4, zi (nI y))] [] M) (fun q => ?_) (fun x hx h q => ?_) (fun x hx h q => ?_) (fun x y hx hy h q => ?_) (fun a q => absurd q (Nat.not_lt_zero _))
  · refine z_run (cuts := cu_CH_isLeftNondegenerate) ok_CH_isLeftNondegenerate (fun Kz hKz => ?_)
    conv => whnf
    rw [nI_leI (by omega) (by omega)]
    refine ⟨fun _ => ?_, fun q => absurd (Nat.le_refl _) q⟩
    conv => whnf
    exact ⟨Or.inr rfl, h1 (fun x hx => q x hx)⟩
  · refine z_run (cuts := cu_CH_isLeftNondegenerate) ok_CH_isLeftNondegenerate (fun Kz hKz => ?_)
    conv => whnf
    rw [nI_leI (by omega) (by omega)]
    refine ⟨fun q => absurd q (by omega), fun _ => ?_⟩
    conv => whnf
    refine hKz _ _ _ _ ?_
    exact h q
  · have hl := hlt x hx
    refine z_run (cuts := cu_CH_isLeftNondegenerate) ok_CH_isLeftNondegenerate (fun Kz hKz => ?_)
    conv => whnf
    rw [nI_leI (by omega) (by omega)]
    refine ⟨fun _ => ?_, fun q => absurd (Nat.le_refl _) q⟩
    conv => whnf
    rw [n_shl _ _ (by omega), Nat.one_mul, pk_sub hp0, nI_eq (by omega) (by omega)]
    refine ⟨fun z => ?_, fun z => ?_⟩
    · conv => whnf
      refine hKz _ _ _ _ ?_
      rw [nI_1']
      refine h (fun a ha => ?_)
      rcases Nat.lt_succ_iff_lt_or_eq.mp ha with ha | rfl
      · exact q a ha
      · exact z
    · conv => whnf
      exact ⟨Or.inl rfl, h2 (fun w => z (w x hx))⟩
  · have hLR := hA.1.2 x y hx hy
    refine z_run (cuts := cu_CH_isLeftNondegenerate) ok_CH_isLeftNondegenerate (fun Kz hKz => ?_)
    conv => whnf
    rw [nI_leI (by omega) (by omega)]
    refine ⟨fun q => absurd q (by omega), fun _ => ?_⟩
    conv => whnf
    refine ⟨by first | assumption | decide, ?_⟩
    conv => whnf
    refine s_PM_left hk hA hx hy ?_
    conv => whnf
    refine hKz _ _ _ _ ?_
    rw [n_shl _ _ (by omega), Nat.one_mul, n_or, nI_1']
    exact h q
theorem s_CH_isRightNondegenerate {k : Nat} {A : ZP} (hk : k < 10) (hA : isPM M k A) (h1 : prnd A → Z (some (zi (nI 1))) M) (h2 : ¬ prnd A → Z (some (zi (nI 0))) M) : Ctr 0 G mi_CH_isRightNondegenerate [zr 0 k] M Z := by
  have hn := hA.1.1
  refine go_CH_isRightNondegenerate (fun Kz hKz => ?_)
  conv => whnf
  refine ⟨by first | assumption | decide, ?_⟩
  conv => whnf
  refine s_PM_points hk ?_
  conv => whnf
  refine hKz _ _ _ _ ?_
  rw [hA.2.1]
  have hlt : ∀ y, y < A.1 → orf (fun x => A.2.2 x y) A.1 < 2 ^ 8 := fun y hy => orf_lt _ (fun i hi => by have := hA.1.2 i y hi hy; show A.2.2 i y < 8; omega)
  have hp : 2 ^ A.1 ≤ 2 ^ 6 := Nat.pow_le_pow_right (by decide) hn
  have hp0 : 0 < 2 ^ A.1 := Nat.pow_pos (by decide)
  refine rloop (n := A.1) (m := A.1) (O := fun y => (∀ a, a < y → orf (fun x => A.2.2 x a) A.1 = 2 ^ A.1 - 1) → V 0 G mi_CH_isRightNondegenerate Z 7 [(0, zr 0 k), (1, zi (nI A.1)), (2, zi (nI y))] [] M) (I := fun y x => (∀ a, a < y → orf (fun x => A.2.2 x a) A.1 = 2 ^ A.1 - 1) → V 0 G mi_CH_isRightNondegenerate Z 17 [(0, zr 0 k), (1, zi (nI A.1)), (2, zi (nI y)), (3, zi (nI (orf (fun x => A.2.2 x y) x))), (4, zi (nI x))] [] M) (fun q => ?_) (fun y hy h q => ?_) (fun y hy h q => ?_) (fun y x hy hx h q => ?_) (fun a q => absurd q (Nat.not_lt_zero _))
  · refine z_run (cuts := cu_CH_isRightNondegenerate) ok_CH_isRightNondegenerate (fun Kz hKz => ?_)
    conv => whnf
    rw [nI_leI (by omega) (by omega)]
    refine ⟨fun _ => ?_, fun q => absurd (Nat.le_refl _) q⟩
    conv => whnf
    exact ⟨Or.inr rfl, h1 (fun x hx => q x hx)⟩
  · refine z_run (cuts := cu_CH_isRightNondegenerate) ok_CH_isRightNondegenerate (fun Kz hKz => ?_)
    conv => whnf
    rw [nI_leI (by omega) (by omega)]
    refine ⟨fun q => absurd q (by omega), fun _ => ?_⟩
    conv => whnf
    refine hKz _ _ _ _ ?_
    exact h q
  · have hl := hlt y hy
    refine z_run (cuts := cu_CH_isRightNondegenerate) ok_CH_isRightNondegenerate (fun Kz hKz => ?_)
    conv => whnf
    rw [nI_leI (by omega) (by omega)]
    refine ⟨fun _ => ?_, fun q => absurd (Nat.le_refl _) q⟩
    conv => whnf
    rw [n_shl _ _ (by omega), Nat.one_mul, pk_sub hp0, nI_eq (by omega) (by omega)]
    refine ⟨fun z => ?_, fun z => ?_⟩
    · conv => whnf
      refine hKz _ _ _ _ ?_
      rw [nI_1']
      refine h (fun a ha => ?_)
      rcases Nat.lt_succ_iff_lt_or_eq.mp ha with ha | rfl
      · exact q a ha
      · exact z
    · conv => whnf
      exact ⟨Or.inl rfl, h2 (fun w => z (w y hy))⟩
  · have hLR := hA.1.2 x y hx hy
    refine z_run (cuts := cu_CH_isRightNondegenerate) ok_CH_isRightNondegenerate (fun Kz hKz => ?_)
    conv => whnf
    rw [nI_leI (by omega) (by omega)]
    refine ⟨fun q => absurd q (by omega), fun _ => ?_⟩
    conv => whnf
    refine ⟨by first | assumption | decide, ?_⟩
    conv => whnf
    refine s_PM_right hk hA hx hy ?_
    conv => whnf
    refine hKz _ _ _ _ ?_
    rw [n_shl _ _ (by omega), Nat.one_mul, n_or, nI_1']
    exact h q
theorem s_CH_isSquareFree {k : Nat} {A : ZP} (hk : k < 10) (hA : isPM M k A) (h1 : psq A → Z (some (zi (nI 1))) M) (h2 : ¬ psq A → Z (some (zi (nI 0))) M) : Ctr 0 G mi_CH_isSquareFree [zr 0 k] M Z := by
  have hn := hA.1.1
  have lp : ∀ x, x ≤ A.1 → (∀ a, a < x → A.2.1 a a = a ∧ A.2.2 a a = a) → V 0 G mi_CH_isSquareFree Z 2 [(0, zr 0 k), (1, zi (nI x))] [] M := by
    refine up_to ?_ ?_
    · intro q
      refine z_run (cuts := cu_CH_isSquareFree) ok_CH_isSquareFree (fun Kz hKz => ?_)
      conv => whnf
      refine ⟨by first | assumption | decide, ?_⟩
      conv => whnf
      refine s_PM_points hk ?_
      conv => whnf
      rw [hA.2.1, nI_leI (by omega) (by omega)]
      refine ⟨fun _ => ?_, fun q => absurd (Nat.le_refl _) q⟩
      conv => whnf
      exact ⟨Or.inr rfl, h1 q⟩
    · intro x hx ih q
      have hLR := hA.1.2 x x hx hx
      refine z_run (cuts := cu_CH_isSquareFree) ok_CH_isSquareFree (fun Kz hKz => ?_)
      conv => whnf
      refine ⟨by first | assumption | decide, ?_⟩
      conv => whnf
      refine s_PM_points hk ?_
      conv => whnf
      rw [hA.2.1, nI_leI (by omega) (by omega)]
      refine ⟨fun q => absurd q (by omega), fun _ => ?_⟩
      conv => whnf
      refine s_CO_pairOf (by omega) (by omega) ?_
      conv => whnf
      refine ⟨by first | assumption | decide, ?_⟩
      conv => whnf
      refine s_PM_imageOf hk (by omega) ?_
      conv => whnf
      rw [hA.2.2 x x hx hx, nI_eq (by omega) (by omega)]
      refine ⟨fun z => ?_, fun z => ?_⟩
      · conv => whnf
        refine hKz _ _ _ _ ?_
        rw [nI_1']
        refine ih (fun a ha => ?_)
        rcases Nat.lt_succ_iff_lt_or_eq.mp ha with ha | rfl
        · exact q a ha
        · omega
      · conv => whnf
        refine ⟨Or.inl rfl, h2 (fun w => z ?_)⟩
        have := w x hx
        rw [this.1, this.2]
  refine go_CH_isSquareFree (fun Kz hKz => ?_)
  conv => whnf
  refine hKz _ _ _ _ ?_
  exact lp 0 (Nat.zero_le _) (fun a q => absurd q (Nat.not_lt_zero _))
end
