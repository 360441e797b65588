/-! Arrays.fill of a row of longs -/
theorem zsetL_eq {a b c : Nat} {v : Int64} {M : ZM} : (zsetL a b c v M).2 a b c = v := by simp [zsetL]
theorem zsetL_ne {a b c x y z : Nat} {v : Int64} {M : ZM} (h : ¬ (x = a ∧ y = b ∧ z = c)) : (zsetL a b c v M).2 x y z = M.2 x y z := by simp only [zsetL]; rw [if_neg h]
/-- nothing but the longs of kind k has changed -/
def zsl (k : Nat) (M M' : ZM) : Prop := M'.1 = M.1 ∧ ∀ a b c, ¬ (a = k ∧ b = 0) → M'.2 a b c = M.2 a b c
theorem zsl_refl (k : Nat) (M : ZM) : zsl k M M := ⟨rfl, fun _ _ _ _ => rfl⟩
theorem zsl_trans {k : Nat} {M M' M'' : ZM} (h : zsl k M M') (h' : zsl k M' M'') : zsl k M M'' := ⟨h'.1.trans h.1, fun a b c q => (h'.2 a b c q).trans (h.2 a b c q)⟩
theorem zsl_set {k j : Nat} {v : Int64} {M : ZM} : zsl k M (zsetL k 0 j v M) := ⟨rfl, fun a b c q => zsetL_ne (fun w => q ⟨w.1, w.2.1⟩)⟩
section
variable {G : ZG} {M : ZM} {Z : Option ZV → ZM → Prop}
theorem s_JA_fill19 {v : Int64} (hZ : ∀ M', zsl 19 M M' → (∀ i, i < 64 → M'.2 19 0 i = v) → Z none M') : Ctr 0 G mi_JA_fill [zr 19 0, zl v] M Z := by
  have lp : ∀ i, i ≤ 64 → ∀ M', zsl 19 M M' → (∀ j, j < i → M'.2 19 0 j = v) → V 0 G mi_JA_fill Z 6 [(0, zr 19 0), (1, zl v), (3, zi (nI i)), (4, zi (nI 64))] [] M' := by
    refine up_to ?_ ?_
    · intro M' g1 g2
      refine z_run (cuts := cu_JA_fill) ok_JA_fill (fun Kz hKz => ?_)
      conv => whnf
      first | refine ⟨fun _ => ?_, fun q => absurd (by decide) q⟩ | refine ⟨fun q => absurd q (by decide), fun _ => ?_⟩
      conv => whnf
      exact hZ M' g1 g2
    · intro i hi ih M' g1 g2
      refine z_run (cuts := cu_JA_fill) ok_JA_fill (fun Kz hKz => ?_)
      conv => whnf
      rw [nI_leI (by omega) (by omega)]
      refine ⟨fun q => absurd q (by omega), fun _ => ?_⟩
      conv => whnf
      refine ⟨vp_in_nI hi (by decide), ?_⟩
      conv => whnf
      refine hKz _ _ _ _ ?_
      rw [nI_clamp (by omega), nI_1']
      refine ih _ (zsl_trans g1 zsl_set) (fun j hj => ?_)
      rcases Nat.lt_succ_iff_lt_or_eq.mp hj with hj | rfl
      · rw [zsetL_ne (by omega)]; exact g2 j hj
      · exact zsetL_eq
  refine go_JA_fill (fun Kz hKz => ?_)
  conv => whnf
  refine hKz _ _ _ _ ?_
  exact lp 0 (Nat.zero_le _) M (zsl_refl _ _) (fun j hj => absurd hj (Nat.not_lt_zero _))
theorem s_JA_fill15 {v : Int64} (hZ : ∀ M', zsl 15 M M' → (∀ i, i < 512 → M'.2 15 0 i = v) → Z none M') : Ctr 0 G mi_JA_fill [zr 15 0, zl v] M Z := by
  have lp : ∀ i, i ≤ 512 → ∀ M', zsl 15 M M' → (∀ j, j < i → M'.2 15 0 j = v) → V 0 G mi_JA_fill Z 6 [(0, zr 15 0), (1, zl v), (3, zi (nI i)), (4, zi (nI 512))] [] M' := by
    refine up_to ?_ ?_
    · intro M' g1 g2
      refine z_run (cuts := cu_JA_fill) ok_JA_fill (fun Kz hKz => ?_)
      conv => whnf
      first | refine ⟨fun _ => ?_, fun q => absurd (by decide) q⟩ | refine ⟨fun q => absurd q (by decide), fun _ => ?_⟩
      conv => whnf
      exact hZ M' g1 g2
    · intro i hi ih M' g1 g2
      refine z_run (cuts := cu_JA_fill) ok_JA_fill (fun Kz hKz => ?_)
      conv => whnf
      rw [nI_leI (by omega) (by omega)]
      refine ⟨fun q => absurd q (by omega), fun _ => ?_⟩
      conv => whnf
      refine ⟨vp_in_nI hi (by decide), ?_⟩
      conv => whnf
      refine hKz _ _ _ _ ?_
      rw [nI_clamp (by omega), nI_1']
      refine ih _ (zsl_trans g1 zsl_set) (fun j hj => ?_)
      rcases Nat.lt_succ_iff_lt_or_eq.mp hj with hj | rfl
      · rw [zsetL_ne (by omega)]; exact g2 j hj
      · exact zsetL_eq
  refine go_JA_fill (fun Kz hKz => ?_)
  conv => whnf
  refine hKz _ _ _ _ ?_
  exact lp 0 (Nat.zero_le _) M (zsl_refl _ _) (fun j hj => absurd hj (Nat.not_lt_zero _))
end
