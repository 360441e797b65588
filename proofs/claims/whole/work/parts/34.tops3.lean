section
variable {G : ZG} {M : ZM} {Z : Option ZV → ZM → Prop} {S : ZS}
theorem c_orbit {a x : Nat} (ha : a < 2 ^ 32) (hx : x < 2 ^ 32) (hC : CS M S) (h1 : ¬ x < (plA S a).1 → Z (some (zi (-1000001))) M) (h3 : x < (plA S a).1 → ∀ r, isOrb (plA S a) x r → Z (some (zi (nI r))) M) : Ctr 0 G mi_T_orbit [zr 5 0, zi (nI a), zi (nI x)] M Z := by
  have hA := CS_pl hC a
  have ka := plk_lt a
  refine go_T_orbit (fun Kz hKz => ?_)
  conv => whnf
  refine s_T_mapAt ha ?_
  conv => whnf
  refine ⟨by show plk a < 10; omega, ?_⟩
  refine s_PM_hasPoint (by omega) hx hA (fun e1 => ?_) (fun e1 => ?_)
  · conv => whnf
    first | refine ⟨fun _ => ?_, fun q => absurd (by decide) q⟩ | refine ⟨fun q => absurd q (by decide), fun _ => ?_⟩
    conv => whnf
    refine s_CH_orbitOf (by omega) hA e1 (fun r hr => ?_)
    conv => whnf
    exact h3 e1 r hr
  · conv => whnf
    first | refine ⟨fun _ => ?_, fun q => absurd (by decide) q⟩ | refine ⟨fun q => absurd q (by decide), fun _ => ?_⟩
    conv => whnf
    exact h1 e1
theorem c_shut {a s : Nat} (ha : a < 2 ^ 32) (hs : s < 2 ^ 32) (hC : CS M S) (h1 : (plA S a).1 = 0 → Z (some (zi (-1000001))) M) (h2 : ¬ (plA S a).1 = 0 → ¬ s < 2 ^ (plA S a).1 → Z (some (zi (-1000002))) M) (h3 : ¬ (plA S a).1 = 0 → s < 2 ^ (plA S a).1 → ∀ r, isShut (plA S a) s r → Z (some (zi (nI r))) M) : Ctr 0 G mi_T_shut [zr 5 0, zi (nI a), zi (nI s)] M Z := by
  have hA := CS_pl hC a
  have ka := plk_lt a
  have hn := hA.1.1
  have hp : 2 ^ (plA S a).1 ≤ 2 ^ 6 := Nat.pow_le_pow_right (by decide) hn
  refine go_T_shut (fun Kz hKz => ?_)
  conv => whnf
  refine s_T_mapAt ha ?_
  conv => whnf
  refine ⟨by show plk a < 10; omega, ?_⟩
  refine s_PM_isEmpty (by omega) hA (fun e1 => ?_) (fun e1 => ?_)
  · conv => whnf
    first | refine ⟨fun _ => ?_, fun q => absurd (by decide) q⟩ | refine ⟨fun q => absurd q (by decide), fun _ => ?_⟩
    conv => whnf
    exact h1 e1
  · conv => whnf
    first | refine ⟨fun _ => ?_, fun q => absurd (by decide) q⟩ | refine ⟨fun q => absurd q (by decide), fun _ => ?_⟩
    conv => whnf
    rw [n_ltb hs (by decide)]
    refine ⟨fun q => ?_, fun q => ?_⟩
    · conv => whnf
      exact h2 e1 (by omega)
    · conv => whnf
      refine ⟨by show plk a < 10; omega, ?_⟩
      refine s_PM_points (by omega) ?_
      conv => whnf
      rw [hA.2.1, n_shl _ _ (by omega), Nat.one_mul, n_ltb hs (by omega)]
      refine ⟨fun q2 => ?_, fun q2 => ?_⟩
      · conv => whnf
        refine s_CH_closureOf (by omega) hA (by omega) (fun r hr => ?_)
        conv => whnf
        exact h3 e1 (by omega) r hr
      · conv => whnf
        exact h2 e1 (by omega)
theorem c_fails {a i : Nat} (ha : a < 2 ^ 32) (hi : i < 2 ^ 32) (hC : CS M S) (h1 : (plA S a).1 = 0 → Z (some (zi (-1000001))) M) (h2 : ¬ (plA S a).1 = 0 → ¬ i < 2 ^ 31 → Z (some (zi (-1000002))) M) (h3 : ¬ (plA S a).1 = 0 → i < 2 ^ 31 → ∀ j, j < (plA S a).1 ^ 3 → brk (plA S a) (dgl (plA S a).1 3 j) = true → cnt (fun j => brk (plA S a) (dgl (plA S a).1 3 j)) j = i → Z (some (zi (nI (tn (enc (plA S a).1 3 j) 3)))) M) (h4 : ¬ (plA S a).1 = 0 → i < 2 ^ 31 → cnt (fun j => brk (plA S a) (dgl (plA S a).1 3 j)) ((plA S a).1 ^ 3) ≤ i → Z (some (zi (-1))) M) : Ctr 0 G mi_T_fails [zr 5 0, zi (nI a), zi (nI i)] M Z := by
  have hA := CS_pl hC a
  have ka := plk_lt a
  have hn := hA.1.1
  refine go_T_fails (fun Kz hKz => ?_)
  conv => whnf
  refine s_T_mapAt ha ?_
  conv => whnf
  refine ⟨by show plk a < 10; omega, ?_⟩
  refine s_PM_isEmpty (by omega) hA (fun e1 => ?_) (fun e1 => ?_)
  · conv => whnf
    first | refine ⟨fun _ => ?_, fun q => absurd (by decide) q⟩ | refine ⟨fun q => absurd q (by decide), fun _ => ?_⟩
    conv => whnf
    exact h1 e1
  · conv => whnf
    first | refine ⟨fun _ => ?_, fun q => absurd (by decide) q⟩ | refine ⟨fun q => absurd q (by decide), fun _ => ?_⟩
    conv => whnf
    rw [n_nonneg hi]
    refine ⟨fun q => ?_, fun q => ?_⟩
    · conv => whnf
      refine s_CH_brokenTripleAt (by omega) hA (by omega) q (fun j hj hb hc => ?_) (fun hc => ?_)
      · have ht := tcl_lt (w := dgl (plA S a).1 3 j) (fun d hd => by have := dgl_lt (show 0 < (plA S a).1 by omega) 3 j d hd; omega)
        rw [tcl_dgl, dgl_len] at ht
        conv => whnf
        rw [n_m1ne (by omega)]
        refine ⟨fun _ => ?_, fun w => absurd (by omega) w⟩
        conv => whnf
        refine s_CO_turned (by omega) (by decide) ?_
        conv => whnf
        exact h3 e1 q j hj hb hc
      · conv => whnf
        refine ⟨fun w => absurd rfl w, fun _ => ?_⟩
        conv => whnf
        exact h4 e1 q hc
    · conv => whnf
      exact h2 e1 q
theorem c_invert {a to : Nat} (ha : a < 2 ^ 32) (hto : to < 2 ^ 32) (hC : CS M S) (h1 : (plA S a).1 = 0 ∨ ¬ to < 4 → Z (some (zi (-1000001))) M) (h2 : ¬ (plA S a).1 = 0 → to < 4 → ¬ pinj (plA S a) → Z (some (zi (-1000003))) M) (h3 : ¬ (plA S a).1 = 0 → to < 4 → pinj (plA S a) → ∀ M', CS M' (upS S to (pinv (plA S a))) → csm M M' → Z (some (zi (nI (plA S a).1))) M') : Ctr 0 G mi_T_invert [zr 5 0, zi (nI a), zi (nI to)] M Z := by
  have hA := CS_pl hC a
  have ka := plk_lt a
  refine go_T_invert (fun Kz hKz => ?_)
  conv => whnf
  refine s_T_mapAt ha ?_
  conv => whnf
  refine ⟨by show plk a < 10; omega, ?_⟩
  refine s_PM_isEmpty (by omega) hA (fun e1 => ?_) (fun e1 => ?_)
  · conv => whnf
    first | refine ⟨fun _ => ?_, fun q => absurd (by decide) q⟩ | refine ⟨fun q => absurd q (by decide), fun _ => ?_⟩
    conv => whnf
    exact h1 (Or.inl e1)
  · conv => whnf
    first | refine ⟨fun _ => ?_, fun q => absurd (by decide) q⟩ | refine ⟨fun q => absurd q (by decide), fun _ => ?_⟩
    conv => whnf
    refine s_T_isPlace hto (fun h => ?_) (fun h => ?_)
    · conv => whnf
      first | refine ⟨fun _ => ?_, fun q => absurd (by decide) q⟩ | refine ⟨fun q => absurd q (by decide), fun _ => ?_⟩
      conv => whnf
      refine s_CH_isBijective (by omega) hA (fun hb => ?_) (fun hb => ?_)
      · conv => whnf
        first | refine ⟨fun _ => ?_, fun q => absurd (by decide) q⟩ | refine ⟨fun q => absurd q (by decide), fun _ => ?_⟩
        conv => whnf
        refine ⟨by decide, ?_⟩
        refine s_PM_becomeInverse (by decide) (by omega) (by omega) hA (fun M1 g1 g2 g3 => ?_)
        conv => whnf
        refine s_T_keepMade h (CS_cst hC (cst_pm (by decide) g1)) (g3 hb) (fun M' h6 h7 => ?_)
        conv => whnf
        exact h3 e1 h hb M' h6 (csm_trans (csm_pm g1) h7)
      · conv => whnf
        first | refine ⟨fun _ => ?_, fun q => absurd (by decide) q⟩ | refine ⟨fun q => absurd q (by decide), fun _ => ?_⟩
        conv => whnf
        exact h2 e1 h hb
    · conv => whnf
      first | refine ⟨fun _ => ?_, fun q => absurd (by decide) q⟩ | refine ⟨fun q => absurd q (by decide), fun _ => ?_⟩
      conv => whnf
      exact h1 (Or.inr h)
theorem c_power {a x y k : Nat} (ha : a < 2 ^ 32) (hx : x < 2 ^ 32) (hy : y < 2 ^ 32) (hk : k < 2 ^ 32) (hC : CS M S) (h1 : ¬ (x < (plA S a).1 ∧ y < (plA S a).1) → Z (some (zi (-1000001))) M) (h2 : x < (plA S a).1 → y < (plA S a).1 → ¬ k ≤ 1000 → Z (some (zi (-1000002))) M) (h3 : x < (plA S a).1 → y < (plA S a).1 → k ≤ 1000 → Z (some (zi (nI (tn (e8 (plA S a) (itr (pj (plA S a) (plA S a).1) ((plA S a).1 * x + y) k)) 2)))) M) : Ctr 0 G mi_T_power [zr 5 0, zi (nI a), zi (nI x), zi (nI y), zi (nI k)] M Z := by
  have hA := CS_pl hC a
  have ka := plk_lt a
  have hn := hA.1.1
  refine go_T_power (fun Kz hKz => ?_)
  conv => whnf
  refine s_T_mapAt ha ?_
  conv => whnf
  refine ⟨by show plk a < 10; omega, ?_⟩
  refine s_PM_hasPoint (by omega) hx hA (fun e1 => ?_) (fun e1 => ?_)
  · conv => whnf
    first | refine ⟨fun _ => ?_, fun q => absurd (by decide) q⟩ | refine ⟨fun q => absurd q (by decide), fun _ => ?_⟩
    conv => whnf
    refine ⟨by show plk a < 10; omega, ?_⟩
    refine s_PM_hasPoint (by omega) hy hA (fun e2 => ?_) (fun e2 => ?_)
    · conv => whnf
      first | refine ⟨fun _ => ?_, fun q => absurd (by decide) q⟩ | refine ⟨fun q => absurd q (by decide), fun _ => ?_⟩
      conv => whnf
      refine s_T_isWithin hk (by decide) (by decide) (fun w w2 => ?_) (fun w => ?_)
      · conv => whnf
        first | refine ⟨fun _ => ?_, fun q => absurd (by decide) q⟩ | refine ⟨fun q => absurd q (by decide), fun _ => ?_⟩
        conv => whnf
        refine s_CO_pairOf (by omega) (by omega) ?_
        conv => whnf
        refine hKz _ _ _ _ ?_
        have hpr := prlt e1 e2
        have e : 8 * x + y = e8 (plA S a) ((plA S a).1 * x + y) := by unfold e8; rw [(dvm e2).1, (dvm e2).2]
        rw [e]
        have il : ∀ i, itr (pj (plA S a) (plA S a).1) ((plA S a).1 * x + y) i < (plA S a).1 * (plA S a).1 := itr_lt (pj_lt hA.1) hpr
        have lp : ∀ i, i ≤ k → V 0 G mi_T_power Z 53 [(4, zi (nI k)), (5, zr 0 (plk a)), (6, zi (nI (e8 (plA S a) (itr (pj (plA S a) (plA S a).1) ((plA S a).1 * x + y) i)))), (7, zi (nI i))] [] M := by
          refine up_to ?_ ?_
          · have h8 := e8_lt hA.1 (il k)
            refine z_run (cuts := cu_T_power) ok_T_power (fun Kz hKz => ?_)
            conv => whnf
            rw [nI_leI (by omega) (by omega)]
            refine ⟨fun _ => ?_, fun q => absurd (Nat.le_refl _) q⟩
            conv => whnf
            refine s_CO_turned (by omega) (by decide) ?_
            conv => whnf
            exact h3 e1 e2 w2
          · intro i hi ih
            refine z_run (cuts := cu_T_power) ok_T_power (fun Kz hKz => ?_)
            conv => whnf
            rw [nI_leI (by omega) (by omega)]
            refine ⟨fun q => absurd q (by omega), fun _ => ?_⟩
            conv => whnf
            refine ⟨by show plk a < 10; omega, ?_⟩
            refine s_PM_step (by omega) hA (il i) ?_
            conv => whnf
            refine hKz _ _ _ _ ?_
            rw [nI_1']
            exact ih
        exact lp 0 (Nat.zero_le _)
      · conv => whnf
        first | refine ⟨fun _ => ?_, fun q => absurd (by decide) q⟩ | refine ⟨fun q => absurd q (by decide), fun _ => ?_⟩
        conv => whnf
        exact h2 e1 e2 (fun q => w ⟨Nat.zero_le _, q⟩)
    · conv => whnf
      first | refine ⟨fun _ => ?_, fun q => absurd (by decide) q⟩ | refine ⟨fun q => absurd q (by decide), fun _ => ?_⟩
      conv => whnf
      exact h1 (fun q => e2 q.2)
  · conv => whnf
    first | refine ⟨fun _ => ?_, fun q => absurd (by decide) q⟩ | refine ⟨fun q => absurd q (by decide), fun _ => ?_⟩
    conv => whnf
    exact h1 (fun q => e1 q.1)
end
