def pput (A : ZP) (x y l r : Nat) : ZP := (A.1, fun a b => if a = x ∧ b = y then l else A.2.1 a b, fun a b => if a = x ∧ b = y then r else A.2.2 a b)
theorem pput_wf {A : ZP} {x y l r : Nat} (hA : pwf A) (hl : l < A.1) (hr : r < A.1) : pwf (pput A x y l r) := ⟨hA.1, fun a b ha hb => by
  have := hA.2 a b ha hb
  by_cases h : a = x ∧ b = y
  · show (if _ then _ else _) < A.1 ∧ (if _ then _ else _) < A.1
    rw [if_pos h, if_pos h]; exact ⟨hl, hr⟩
  · show (if _ then _ else _) < A.1 ∧ (if _ then _ else _) < A.1
    rw [if_neg h, if_neg h]; exact this⟩
theorem p0_wf : pwf p0 := ⟨by decide, fun x y hx _ => absurd hx (Nat.not_lt_zero _)⟩
section
variable {G : ZG} {M : ZM} {Z : Option ZV → ZM → Prop} {S : ZS}
theorem c_drop {a : Nat} (ha : a < 2 ^ 32) (hC : CS M S) (h1 : (plA S a).1 = 0 → Z (some (zi (-1000001))) M) (h3 : ¬ (plA S a).1 = 0 → ∀ M', CS M' (upS S a p0) → csm M M' → Z (some (zi (nI (plA S a).1))) M') : Ctr 0 G mi_T_drop [zr 5 0, zi (nI a)] M Z := by
  have hA := CS_pl hC a
  have ka := plk_lt a
  refine go_T_drop (fun Kz hKz => ?_)
  conv => whnf
  refine s_T_mapAt ha ?_
  conv => whnf
  refine ⟨by show plk a < 10; omega, ?_⟩
  refine s_PM_isEmpty (by omega) hA (fun e1 => ?_) (fun e1 => ?_)
  · conv => whnf
    first | refine ⟨fun _ => ?_, fun q => absurd (by decide) q⟩ | refine ⟨fun q => absurd q (by decide), fun _ => ?_⟩
    conv => whnf
    exact h1 e1
  · have h4 := plA_lt e1
    have hpk : plk a = a := if_pos h4
    conv => whnf
    first | refine ⟨fun _ => ?_, fun q => absurd (by decide) q⟩ | refine ⟨fun q => absurd q (by decide), fun _ => ?_⟩
    conv => whnf
    refine ⟨by show plk a < 10; omega, ?_⟩
    refine s_PM_points (by omega) ?_
    conv => whnf
    refine ⟨by show plk a < 10; omega, ?_⟩
    refine s_PM_resize (by omega) ?_
    conv => whnf
    rw [hA.2.1, hpk]
    have hs : zsm (pmS a) M (zset 0 a 1 (nI 0) M) := zsm_set ⟨Or.inl rfl, rfl⟩
    exact h3 e1 _ (CS_put hC h4 hs ⟨p0_wf, zset_eq, fun x y hx _ => absurd hx (Nat.not_lt_zero _)⟩) (csm_pm hs)
theorem c_cell {a x y w : Nat} (ha : a < 2 ^ 32) (hx : x < 2 ^ 32) (hy : y < 2 ^ 32) (hw : w < 2 ^ 32) (hC : CS M S) (h1 : ¬ (x < (plA S a).1 ∧ y < (plA S a).1) → Z (some (zi (-1000001))) M) (h2 : x < (plA S a).1 → y < (plA S a).1 → ¬ w ≤ 1 → Z (some (zi (-1000002))) M) (h3 : x < (plA S a).1 → y < (plA S a).1 → w = 0 → Z (some (zi (nI ((plA S a).2.1 x y)))) M) (h4 : x < (plA S a).1 → y < (plA S a).1 → w = 1 → Z (some (zi (nI ((plA S a).2.2 x y)))) M) : Ctr 0 G mi_T_cell [zr 5 0, zi (nI a), zi (nI x), zi (nI y), zi (nI w)] M Z := by
  have hA := CS_pl hC a
  have ka := plk_lt a
  refine go_T_cell (fun Kz hKz => ?_)
  conv => whnf
  refine s_T_mapAt ha ?_
  conv => whnf
  refine ⟨by show plk a < 10; omega, ?_⟩
  refine s_PM_hasPoint (by omega) hx hA (fun e1 => ?_) (fun e1 => ?_)
  · conv => whnf
    first | refine ⟨fun _ => ?_, fun q => absurd (by decide) q⟩ | refine ⟨fun q => absurd q (by decide), fun _ => ?_⟩
    conv => whnf
    refine ⟨by show plk a < 10; omega, ?_⟩
    refine s_PM_hasPoint (by omega) hy hA (fun e2 => ?_) (fun e2 => ?_)
    · conv => whnf
      first | refine ⟨fun _ => ?_, fun q => absurd (by decide) q⟩ | refine ⟨fun q => absurd q (by decide), fun _ => ?_⟩
      conv => whnf
      refine s_T_isWithin hw (by decide) (by decide) (fun h5 h6 => ?_) (fun h5 => ?_)
      · conv => whnf
        first | refine ⟨fun _ => ?_, fun q => absurd (by decide) q⟩ | refine ⟨fun q => absurd q (by decide), fun _ => ?_⟩
        conv => whnf
        rw [nI_eq (by omega) (by decide)]
        refine ⟨fun q => ?_, fun q => ?_⟩
        · conv => whnf
          refine ⟨by show plk a < 10; omega, ?_⟩
          refine s_PM_right (by omega) hA e1 e2 ?_
          conv => whnf
          exact h4 e1 e2 (by omega)
        · conv => whnf
          refine ⟨by show plk a < 10; omega, ?_⟩
          refine s_PM_left (by omega) hA e1 e2 ?_
          conv => whnf
          exact h3 e1 e2 (by omega)
      · conv => whnf
        first | refine ⟨fun _ => ?_, fun q => absurd (by decide) q⟩ | refine ⟨fun q => absurd q (by decide), fun _ => ?_⟩
        conv => whnf
        exact h2 e1 e2 (by omega)
    · conv => whnf
      first | refine ⟨fun _ => ?_, fun q => absurd (by decide) q⟩ | refine ⟨fun q => absurd q (by decide), fun _ => ?_⟩
      conv => whnf
      exact h1 (fun q => e2 q.2)
  · conv => whnf
    first | refine ⟨fun _ => ?_, fun q => absurd (by decide) q⟩ | refine ⟨fun q => absurd q (by decide), fun _ => ?_⟩
    conv => whnf
    exact h1 (fun q => e1 q.1)
theorem c_put {a x y u v : Nat} (ha : a < 2 ^ 32) (hx : x < 2 ^ 32) (hy : y < 2 ^ 32) (hu : u < 2 ^ 32) (hv : v < 2 ^ 32) (hC : CS M S) (h1 : ¬ (x < (plA S a).1 ∧ y < (plA S a).1 ∧ u < (plA S a).1 ∧ v < (plA S a).1) → Z (some (zi (-1000001))) M) (h3 : x < (plA S a).1 → y < (plA S a).1 → u < (plA S a).1 → v < (plA S a).1 → ∀ M', CS M' (upS S a (pput (plA S a) x y u v)) → csm M M' → Z (some (zi (nI ((plA S a).2.1 x y + 8 * (plA S a).2.2 x y)))) M') : Ctr 0 G mi_T_put [zr 5 0, zi (nI a), zi (nI x), zi (nI y), zi (nI u), zi (nI v)] M Z := by
  have hA := CS_pl hC a
  have ka := plk_lt a
  have na := hA.1.1
  refine go_T_put (fun Kz hKz => ?_)
  conv => whnf
  refine s_T_mapAt ha ?_
  conv => whnf
  refine ⟨by show plk a < 10; omega, ?_⟩
  refine s_PM_hasPoint (by omega) hx hA (fun e1 => ?_) (fun e1 => ?_)
  · conv => whnf
    first | refine ⟨fun _ => ?_, fun q => absurd (by decide) q⟩ | refine ⟨fun q => absurd q (by decide), fun _ => ?_⟩
    conv => whnf
    refine ⟨by show plk a < 10; omega, ?_⟩
    refine s_PM_hasPoint (by omega) hy hA (fun e2 => ?_) (fun e2 => ?_)
    · conv => whnf
      first | refine ⟨fun _ => ?_, fun q => absurd (by decide) q⟩ | refine ⟨fun q => absurd q (by decide), fun _ => ?_⟩
      conv => whnf
      refine ⟨by show plk a < 10; omega, ?_⟩
      refine s_PM_hasPoint (by omega) hu hA (fun e3 => ?_) (fun e3 => ?_)
      · conv => whnf
        first | refine ⟨fun _ => ?_, fun q => absurd (by decide) q⟩ | refine ⟨fun q => absurd q (by decide), fun _ => ?_⟩
        conv => whnf
        refine ⟨by show plk a < 10; omega, ?_⟩
        refine s_PM_hasPoint (by omega) hv hA (fun e4 => ?_) (fun e4 => ?_)
        · have h4 : a < 4 := plA_lt (S := S) (by omega)
          have hpk : plk a = a := if_pos h4
          have hLR := hA.1.2 x y e1 e2
          conv => whnf
          first | refine ⟨fun _ => ?_, fun q => absurd (by decide) q⟩ | refine ⟨fun q => absurd q (by decide), fun _ => ?_⟩
          conv => whnf
          refine s_CO_pairOf (by omega) (by omega) ?_
          conv => whnf
          refine ⟨by show plk a < 10; omega, ?_⟩
          refine s_PM_imageOf (by omega) (by omega) ?_
          conv => whnf
          rw [hA.2.2 x y e1 e2]
          refine s_CO_turned (by omega) (by decide) ?_
          conv => whnf
          refine ⟨by show plk a < 10; omega, ?_⟩
          refine s_PM_setImage (by omega) (by omega) (by omega) (by omega) (by omega) ?_
          conv => whnf
          rw [hpk, show tn (8 * (plA S a).2.1 x y + (plA S a).2.2 x y) 2 = (plA S a).2.1 x y + 8 * (plA S a).2.2 x y by simp only [tn]; omega]
          have hs : zsm (pmS a) M (zset 1 a (8 * x + y) (nI (8 * u + v)) M) := zsm_set ⟨Or.inr rfl, rfl⟩
          rw [hpk] at hA
          refine h3 e1 e2 e3 e4 _ (CS_put hC h4 hs ⟨pput_wf hA.1 e3 e4, ?_, fun p q hp hq => ?_⟩) (csm_pm hs)
          · rw [zset_ne (by omega)]; exact hA.2.1
          · have hp : p < (plA S a).1 := hp
            have hq : q < (plA S a).1 := hq
            by_cases h : p = x ∧ q = y
            · rw [h.1, h.2, zset_eq]
              simp only [pput, and_self, if_true]
            · rw [zset_ne (by omega), hA.2.2 p q hp hq]
              simp only [pput]
              rw [if_neg h, if_neg h]
        · conv => whnf
          first | refine ⟨fun _ => ?_, fun q => absurd (by decide) q⟩ | refine ⟨fun q => absurd q (by decide), fun _ => ?_⟩
          conv => whnf
          exact h1 (fun q => e4 q.2.2.2)
      · conv => whnf
        first | refine ⟨fun _ => ?_, fun q => absurd (by decide) q⟩ | refine ⟨fun q => absurd q (by decide), fun _ => ?_⟩
        conv => whnf
        exact h1 (fun q => e3 q.2.2.1)
    · conv => whnf
      first | refine ⟨fun _ => ?_, fun q => absurd (by decide) q⟩ | refine ⟨fun q => absurd q (by decide), fun _ => ?_⟩
      conv => whnf
      exact h1 (fun q => e2 q.2.1)
  · conv => whnf
    first | refine ⟨fun _ => ?_, fun q => absurd (by decide) q⟩ | refine ⟨fun q => absurd q (by decide), fun _ => ?_⟩
    conv => whnf
    exact h1 (fun q => e1 q.1)
end
