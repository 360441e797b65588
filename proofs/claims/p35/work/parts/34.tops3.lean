section
variable {G : ZG} {M : ZM} {Z : Option ZV → ZM → Prop} {S : ZS}
theorem c_orbit {a x : Nat} (ha : a < 2 ^ 32) (hx : x < 2 ^ 32) (hC : CS M S) (h1 : ¬ x < (plA S a).1 → Z (some (zi (-1000001))) M) (h3 : x < (plA S a).1 → ∀ r, isOrb (plA S a) x r → Z (some (zi (nI r))) M) : Ctr 0 G mi_T_orbit [zr 5 0, zi (nI a), zi (nI x)] M Z := by
  have hA := CS_pl hC a
  have ka := plk_lt a
  refine go_T_orbit (fun Kz hKz => ?_)
  conv => whnf
  refine s_T_mapAt ha ?_
  conv => whnf
  refine ⟨by show plk a < 10; omega, ?_⟩
  refine s_PM_hasPoint (by omega) hx hA (fun e1 => ?_) (fun e1 => ?_)
  · conv => whnf
    first | refine ⟨fun _ => ?_, fun q => absurd (by decide) q⟩ | refine ⟨fun q => absurd q (by decide), fun _ => ?_⟩
    conv => whnf
    refine s_CH_orbitOf (by omega) hA e1 (fun r hr => ?_)
    conv => whnf
    exact h3 e1 r hr
  · conv => whnf
    first | refine ⟨fun _ => ?_, fun q => absurd (by decide) q⟩ | refine ⟨fun q => absurd q (by decide), fun _ => ?_⟩
    conv => whnf
    exact h1 e1
theorem c_shut {a s : Nat} (ha : a < 2 ^ 32) (hs : s < 2 ^ 32) (hC : CS M S) (h1 : (plA S a).1 = 0 → Z (some (zi (-1000001))) M) (h2 : ¬ (plA S a).1 = 0 → ¬ s < 2 ^ (plA S a).1 → Z (some (zi (-1000002))) M) (h3 : ¬ (plA S a).1 = 0 → s < 2 ^ (plA S a).1 → ∀ r, isShut (plA S a) s r → Z (some (zi (nI r))) M) : Ctr 0 G mi_T_shut [zr 5 0, zi (nI a), zi (nI s)] M Z := by
  have hA := CS_pl hC a
  have ka := plk_lt a
  have hn := hA.1.1
  have hp : 2 ^ (plA S a).1 ≤ 2 ^ 6 := Nat.pow_le_pow_right (by decide) hn
  refine go_T_shut (fun Kz hKz => ?_)
  conv => whnf
  refine s_T_mapAt ha ?_
  conv => whnf
  refine ⟨by show plk a < 10; omega, ?_⟩
  refine s_PM_isEmpty (by omega) hA (fun e1 => ?_) (fun e1 => ?_)
  · conv => whnf
    first | refine ⟨fun _ => ?_, fun q => absurd (by decide) q⟩ | refine ⟨fun q => absurd q (by decide), fun _ => ?_⟩
    conv => whnf
    exact h1 e1
  · conv => whnf
    first | refine ⟨fun _ => ?_, fun q => absurd (by decide) q⟩ | refine ⟨fun q => absurd q (by decide), fun _ => ?_⟩
    conv => whnf
    rw [n_ltb hs (by decide)]
    refine ⟨fun q => ?_, fun q => ?_⟩
    · conv => whnf
      exact h2 e1 (by omega)
    · conv => whnf
      refine ⟨by show plk a < 10; omega, ?_⟩
      refine s_PM_points (by omega) ?_
      conv => whnf
      rw [hA.2.1, n_shl _ _ (by omega), Nat.one_mul, n_ltb hs (by omega)]
      refine ⟨fun q2 => ?_, fun q2 => ?_⟩
      · conv => whnf
        refine s_CH_closureOf (by omega) hA (by omega) (fun r hr => ?_)
        conv => whnf
        exact h3 e1 (by omega) r hr
      · conv => whnf
        exact h2 e1 (by omega)
theorem c_invert {a to : Nat} (ha : a < 2 ^ 32) (hto : to < 2 ^ 32) (hC : CS M S) (h1 : (plA S a).1 = 0 ∨ ¬ to < 4 → Z (some (zi (-1000001))) M) (h2 : ¬ (plA S a).1 = 0 → to < 4 → ¬ pinj (plA S a) → Z (some (zi (-1000003))) M) (h3 : ¬ (plA S a).1 = 0 → to < 4 → pinj (plA S a) → ∀ M', CS M' (upS S to (pinv (plA S a))) → csm M M' → Z (some (zi (nI (plA S a).1))) M') : Ctr 0 G mi_T_invert [zr 5 0, zi (nI a), zi (nI to)] M Z := by
  have hA := CS_pl hC a
  have ka := plk_lt a
  refine go_T_invert (fun Kz hKz => ?_)
  conv => whnf
  refine s_T_mapAt ha ?_
  conv => whnf
  refine ⟨by show plk a < 10; omega, ?_⟩
  refine s_PM_isEmpty (by omega) hA (fun e1 => ?_) (fun e1 => ?_)
  · conv => whnf
    first | refine ⟨fun _ => ?_, fun q => absurd (by decide) q⟩ | refine ⟨fun q => absurd q (by decide), fun _ => ?_⟩
    conv => whnf
    exact h1 (Or.inl e1)
  · conv => whnf
    first | refine ⟨fun _ => ?_, fun q => absurd (by decide) q⟩ | refine ⟨fun q => absurd q (by decide), fun _ => ?_⟩
    conv => whnf
    refine s_T_isPlace hto (fun h => ?_) (fun h => ?_)
    · conv => whnf
      first | refine ⟨fun _ => ?_, fun q => absurd (by decide) q⟩ | refine ⟨fun q => absurd q (by decide), fun _ => ?_⟩
      conv => whnf
      refine s_CH_isBijective (by omega) hA (fun hb => ?_) (fun hb => ?_)
      · conv => whnf
        first | refine ⟨fun _ => ?_, fun q => absurd (by decide) q⟩ | refine ⟨fun q => absurd q (by decide), fun _ => ?_⟩
        conv => whnf
        refine ⟨by decide, ?_⟩
        refine s_PM_becomeInverse (by decide) (by omega) (by omega) hA (fun M1 g1 g2 g3 => ?_)
        conv => whnf
        refine s_T_keepMade h (CS_cst hC (cst_pm (by decide) g1)) (g3 hb) (fun M' h6 h7 => ?_)
        conv => whnf
        exact h3 e1 h hb M' h6 (csm_trans (csm_pm g1) h7)
      · conv => whnf
        first | refine ⟨fun _ => ?_, fun q => absurd (by decide) q⟩ | refine ⟨fun q => absurd q (by decide), fun _ => ?_⟩
        conv => whnf
        exact h2 e1 h hb
    · conv => whnf
      first | refine ⟨fun _ => ?_, fun q => absurd (by decide) q⟩ | refine ⟨fun q => absurd q (by decide), fun _ => ?_⟩
      conv => whnf
      exact h1 (Or.inr h)
end
