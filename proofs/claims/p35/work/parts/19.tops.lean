theorem ptwist_wf {n f g : Nat} (hn : n ≤ 6) (hf : isP f n) (hg : isP g n) : pwf (ptwist n f g) := ⟨hn, fun x y hx hy => ⟨(isP_facts hf).1 y hy, (isP_facts hg).1 x hx⟩⟩
/-- the names backward of a permutation's code -/
noncomputable def dgi (f n v : Nat) : Nat := Classical.epsilon fun i : Nat => i < n ∧ dg f i = v
theorem dgi_spec {f n v : Nat} (h : isP f n) (hv : v < n) : dgi f n v < n ∧ dg f (dgi f n v) = v := Classical.epsilon_spec ((isP_facts h).2.2 v hv)
theorem dgi_of {f n i : Nat} (h : isP f n) (hi : i < n) : dgi f n (dg f i) = i := by
  have h1 := dgi_spec h ((isP_facts h).1 i hi)
  exact (isP_facts h).2.1 _ _ h1.1 hi h1.2
theorem pren_wf {A : ZP} {f : Nat} (hA : pwf A) (hf : isP f A.1) : pwf (pren A (dg f) (dgi f A.1)) := ⟨hA.1, fun x y hx hy => by
  have h1 := dgi_spec hf hx
  have h2 := dgi_spec hf hy
  have h3 := hA.2 _ _ h1.1 h2.1
  exact ⟨(isP_facts hf).1 _ h3.1, (isP_facts hf).1 _ h3.2⟩⟩
theorem pmir_wf {A : ZP} (hA : pwf A) : pwf (pmir A) := ⟨hA.1, fun x y hx hy => ⟨(hA.2 y x hy hx).2, (hA.2 y x hy hx).1⟩⟩
theorem plA_wf {M : ZM} {S : ZS} (hC : CS M S) (m : Nat) : pwf (plA S m) := (CS_pl hC m).1
theorem plA_lt {S : ZS} {m : Nat} (h : ¬ (plA S m).1 = 0) : m < 4 := by
  unfold plA at h
  by_cases hm : m < 4
  · exact hm
  · rw [if_neg hm] at h; exact absurd rfl h
theorem plA_eq {S : ZS} {m : Nat} (h : m < 4) : plA S m = S.1 m := if_pos h
theorem CS_upd {M M' : ZM} {S : ZS} {k : Nat} {A : ZP} (hk : k < 4) (hA : isPM M' k A) (hC : CS M S) (h1 : zsm (pmS k) M M') : CS M' (upS S k A) := CS_put hC hk h1 hA
section
variable {G : ZG} {M : ZM} {Z : Option ZV → ZM → Prop} {S : ZS}
theorem c_twist {to n f g : Nat} (hto : to < 2 ^ 32) (hn : n < 2 ^ 32) (hf : f < 2 ^ 32) (hg : g < 2 ^ 32) (hC : CS M S) (h1 : ¬ to < 4 → Z (some (zi (-1000001))) M) (h2 : to < 4 → ¬ ((1 ≤ n ∧ n ≤ 6) ∧ isP f n ∧ isP g n) → Z (some (zi (-1000002))) M) (h3 : to < 4 → 1 ≤ n → n ≤ 6 → isP f n → isP g n → ∀ M', CS M' (upS S to (ptwist n f g)) → csm M M' → Z (some (zi (nI n))) M') : Ctr 0 G mi_T_twist [zr 5 0, zi (nI to), zi (nI n), zi (nI f), zi (nI g)] M Z := by
  refine go_T_twist (fun Kz hKz => ?_)
  conv => whnf
  refine s_T_isPlace hto (fun h => ?_) (fun h => ?_)
  · conv => whnf
    first | refine ⟨fun _ => ?_, fun q => absurd (by decide) q⟩ | refine ⟨fun q => absurd q (by decide), fun _ => ?_⟩
    conv => whnf
    refine s_T_isWithin hn (by decide) (by decide) (fun h4 h5 => ?_) (fun h4 => ?_)
    · conv => whnf
      first | refine ⟨fun _ => ?_, fun q => absurd (by decide) q⟩ | refine ⟨fun q => absurd q (by decide), fun _ => ?_⟩
      conv => whnf
      refine s_CO_isPermutation hf h5 (fun hpf => ?_) (fun hpf => ?_)
      · conv => whnf
        first | refine ⟨fun _ => ?_, fun q => absurd (by decide) q⟩ | refine ⟨fun q => absurd q (by decide), fun _ => ?_⟩
        conv => whnf
        refine s_CO_isPermutation hg h5 (fun hpg => ?_) (fun hpg => ?_)
        · conv => whnf
          first | refine ⟨fun _ => ?_, fun q => absurd (by decide) q⟩ | refine ⟨fun q => absurd q (by decide), fun _ => ?_⟩
          conv => whnf
          refine ⟨by decide, ?_⟩
          refine s_PM_becomeTwist (by decide) h5 hf hg (fun M1 hM1 => ?_)
          conv => whnf
          refine s_T_keepMade h (CS_cst hC (cst_pm (by decide) hM1.1)) ⟨ptwist_wf h5 hpf hpg, hM1.2.1, fun x y hx hy => hM1.2.2 x y hx hy⟩ (fun M' h6 h7 => ?_)
          conv => whnf
          exact h3 h h4 h5 hpf hpg M' h6 (csm_trans (csm_pm hM1.1) h7)
        · conv => whnf
          first | refine ⟨fun _ => ?_, fun q => absurd (by decide) q⟩ | refine ⟨fun q => absurd q (by decide), fun _ => ?_⟩
          conv => whnf
          exact h2 h (fun q => hpg q.2.2)
      · conv => whnf
        first | refine ⟨fun _ => ?_, fun q => absurd (by decide) q⟩ | refine ⟨fun q => absurd q (by decide), fun _ => ?_⟩
        conv => whnf
        exact h2 h (fun q => hpf q.2.1)
    · conv => whnf
      first | refine ⟨fun _ => ?_, fun q => absurd (by decide) q⟩ | refine ⟨fun q => absurd q (by decide), fun _ => ?_⟩
      conv => whnf
      exact h2 h (fun q => h4 q.1)
  · conv => whnf
    first | refine ⟨fun _ => ?_, fun q => absurd (by decide) q⟩ | refine ⟨fun q => absurd q (by decide), fun _ => ?_⟩
    conv => whnf
    exact h1 h
theorem c_unite {a b to : Nat} (ha : a < 2 ^ 32) (hb : b < 2 ^ 32) (hto : to < 2 ^ 32) (hC : CS M S) (h1 : (plA S a).1 = 0 ∨ (plA S b).1 = 0 ∨ ¬ to < 4 → Z (some (zi (-1000001))) M) (h2 : ¬ (plA S a).1 = 0 → ¬ (plA S b).1 = 0 → to < 4 → ¬ (plA S a).1 + (plA S b).1 ≤ 6 → Z (some (zi (-1000004))) M)
    (h3 : ¬ (plA S a).1 = 0 → ¬ (plA S b).1 = 0 → to < 4 → (plA S a).1 + (plA S b).1 ≤ 6 → ∀ M', CS M' (upS S to (puni (plA S a) (plA S b))) → csm M M' → Z (some (zi (nI ((plA S a).1 + (plA S b).1)))) M') : Ctr 0 G mi_T_unite [zr 5 0, zi (nI a), zi (nI b), zi (nI to)] M Z := by
  have hA := CS_pl hC a
  have hB := CS_pl hC b
  have ka := plk_lt a
  have kb := plk_lt b
  have na := hA.1.1
  have nb := hB.1.1
  refine go_T_unite (fun Kz hKz => ?_)
  conv => whnf
  refine s_T_mapAt ha ?_
  conv => whnf
  refine s_T_mapAt hb ?_
  conv => whnf
  refine ⟨by show plk a < 10; omega, ?_⟩
  refine s_PM_isEmpty (by omega) hA (fun e1 => ?_) (fun e1 => ?_)
  · conv => whnf
    first | refine ⟨fun _ => ?_, fun q => absurd (by decide) q⟩ | refine ⟨fun q => absurd q (by decide), fun _ => ?_⟩
    conv => whnf
    exact h1 (Or.inl e1)
  · conv => whnf
    first | refine ⟨fun _ => ?_, fun q => absurd (by decide) q⟩ | refine ⟨fun q => absurd q (by decide), fun _ => ?_⟩
    conv => whnf
    refine ⟨by show plk b < 10; omega, ?_⟩
    refine s_PM_isEmpty (by omega) hB (fun e2 => ?_) (fun e2 => ?_)
    · conv => whnf
      first | refine ⟨fun _ => ?_, fun q => absurd (by decide) q⟩ | refine ⟨fun q => absurd q (by decide), fun _ => ?_⟩
      conv => whnf
      exact h1 (Or.inr (Or.inl e2))
    · conv => whnf
      first | refine ⟨fun _ => ?_, fun q => absurd (by decide) q⟩ | refine ⟨fun q => absurd q (by decide), fun _ => ?_⟩
      conv => whnf
      refine s_T_isPlace hto (fun h => ?_) (fun h => ?_)
      · conv => whnf
        first | refine ⟨fun _ => ?_, fun q => absurd (by decide) q⟩ | refine ⟨fun q => absurd q (by decide), fun _ => ?_⟩
        conv => whnf
        refine ⟨by show plk a < 10; omega, ?_⟩
        refine s_PM_points (by omega) ?_
        conv => whnf
        refine ⟨by show plk b < 10; omega, ?_⟩
        refine s_PM_points (by omega) ?_
        conv => whnf
        rw [hA.2.1, hB.2.1, nI_add, nI_leI (by omega) (by decide)]
        refine ⟨fun q => ?_, fun q => ?_⟩
        · conv => whnf
          refine ⟨by decide, ?_⟩
          refine s_PM_becomeUnion (by decide) (by omega) (by omega) (by omega) (by omega) hA hB q (fun M1 h4 h5 => ?_)
          conv => whnf
          refine s_T_keepMade h (CS_cst hC (cst_pm (by decide) h4)) h5 (fun M' h6 h7 => ?_)
          conv => whnf
          exact h3 e1 e2 h q M' h6 (csm_trans (csm_pm h4) h7)
        · conv => whnf
          exact h2 e1 e2 h q
      · conv => whnf
        first | refine ⟨fun _ => ?_, fun q => absurd (by decide) q⟩ | refine ⟨fun q => absurd q (by decide), fun _ => ?_⟩
        conv => whnf
        exact h1 (Or.inr (Or.inr h))
theorem c_pair {a b to : Nat} (ha : a < 2 ^ 32) (hb : b < 2 ^ 32) (hto : to < 2 ^ 32) (hC : CS M S) (h1 : (plA S a).1 = 0 ∨ (plA S b).1 = 0 ∨ ¬ to < 4 → Z (some (zi (-1000001))) M) (h2 : ¬ (plA S a).1 = 0 → ¬ (plA S b).1 = 0 → to < 4 → ¬ (plA S a).1 * (plA S b).1 ≤ 6 → Z (some (zi (-1000004))) M)
    (h3 : ¬ (plA S a).1 = 0 → ¬ (plA S b).1 = 0 → to < 4 → (plA S a).1 * (plA S b).1 ≤ 6 → ∀ M', CS M' (upS S to (pprod (plA S a) (plA S b))) → csm M M' → Z (some (zi (nI ((plA S a).1 * (plA S b).1)))) M') : Ctr 0 G mi_T_pair [zr 5 0, zi (nI a), zi (nI b), zi (nI to)] M Z := by
  have hA := CS_pl hC a
  have hB := CS_pl hC b
  have ka := plk_lt a
  have kb := plk_lt b
  have na := hA.1.1
  have nb := hB.1.1
  have nab : (plA S a).1 * (plA S b).1 ≤ 6 * 6 := Nat.mul_le_mul na nb
  refine go_T_pair (fun Kz hKz => ?_)
  conv => whnf
  refine s_T_mapAt ha ?_
  conv => whnf
  refine s_T_mapAt hb ?_
  conv => whnf
  refine ⟨by show plk a < 10; omega, ?_⟩
  refine s_PM_isEmpty (by omega) hA (fun e1 => ?_) (fun e1 => ?_)
  · conv => whnf
    first | refine ⟨fun _ => ?_, fun q => absurd (by decide) q⟩ | refine ⟨fun q => absurd q (by decide), fun _ => ?_⟩
    conv => whnf
    exact h1 (Or.inl e1)
  · conv => whnf
    first | refine ⟨fun _ => ?_, fun q => absurd (by decide) q⟩ | refine ⟨fun q => absurd q (by decide), fun _ => ?_⟩
    conv => whnf
    refine ⟨by show plk b < 10; omega, ?_⟩
    refine s_PM_isEmpty (by omega) hB (fun e2 => ?_) (fun e2 => ?_)
    · conv => whnf
      first | refine ⟨fun _ => ?_, fun q => absurd (by decide) q⟩ | refine ⟨fun q => absurd q (by decide), fun _ => ?_⟩
      conv => whnf
      exact h1 (Or.inr (Or.inl e2))
    · conv => whnf
      first | refine ⟨fun _ => ?_, fun q => absurd (by decide) q⟩ | refine ⟨fun q => absurd q (by decide), fun _ => ?_⟩
      conv => whnf
      refine s_T_isPlace hto (fun h => ?_) (fun h => ?_)
      · conv => whnf
        first | refine ⟨fun _ => ?_, fun q => absurd (by decide) q⟩ | refine ⟨fun q => absurd q (by decide), fun _ => ?_⟩
        conv => whnf
        refine ⟨by show plk a < 10; omega, ?_⟩
        refine s_PM_points (by omega) ?_
        conv => whnf
        refine ⟨by show plk b < 10; omega, ?_⟩
        refine s_PM_points (by omega) ?_
        conv => whnf
        rw [hA.2.1, hB.2.1, pk_mul, nI_leI (by omega) (by decide)]
        refine ⟨fun q => ?_, fun q => ?_⟩
        · conv => whnf
          refine ⟨by decide, ?_⟩
          refine s_PM_becomeProduct (by decide) (by omega) (by omega) (by omega) (by omega) hA hB q (fun M1 h4 h5 => ?_)
          conv => whnf
          refine s_T_keepMade h (CS_cst hC (cst_pm (by decide) h4)) h5 (fun M' h6 h7 => ?_)
          conv => whnf
          exact h3 e1 e2 h q M' h6 (csm_trans (csm_pm h4) h7)
        · conv => whnf
          exact h2 e1 e2 h q
      · conv => whnf
        first | refine ⟨fun _ => ?_, fun q => absurd (by decide) q⟩ | refine ⟨fun q => absurd q (by decide), fun _ => ?_⟩
        conv => whnf
        exact h1 (Or.inr (Or.inr h))
theorem c_mirror {a to : Nat} (ha : a < 2 ^ 32) (hto : to < 2 ^ 32) (hC : CS M S) (h1 : (plA S a).1 = 0 ∨ ¬ to < 4 → Z (some (zi (-1000001))) M) (h3 : ¬ (plA S a).1 = 0 → to < 4 → ∀ M', CS M' (upS S to (pmir (plA S a))) → csm M M' → Z (some (zi (nI (plA S a).1))) M') : Ctr 0 G mi_T_mirror [zr 5 0, zi (nI a), zi (nI to)] M Z := by
  have hA := CS_pl hC a
  have ka := plk_lt a
  refine go_T_mirror (fun Kz hKz => ?_)
  conv => whnf
  refine s_T_mapAt ha ?_
  conv => whnf
  refine ⟨by show plk a < 10; omega, ?_⟩
  refine s_PM_isEmpty (by omega) hA (fun e1 => ?_) (fun e1 => ?_)
  · conv => whnf
    first | refine ⟨fun _ => ?_, fun q => absurd (by decide) q⟩ | refine ⟨fun q => absurd q (by decide), fun _ => ?_⟩
    conv => whnf
    exact h1 (Or.inl e1)
  · conv => whnf
    first | refine ⟨fun _ => ?_, fun q => absurd (by decide) q⟩ | refine ⟨fun q => absurd q (by decide), fun _ => ?_⟩
    conv => whnf
    refine s_T_isPlace hto (fun h => ?_) (fun h => ?_)
    · conv => whnf
      first | refine ⟨fun _ => ?_, fun q => absurd (by decide) q⟩ | refine ⟨fun q => absurd q (by decide), fun _ => ?_⟩
      conv => whnf
      refine ⟨by decide, ?_⟩
      refine s_PM_becomeMirror (by decide) (by omega) (by omega) hA (fun M1 h4 => ?_)
      conv => whnf
      refine s_T_keepMade h (CS_cst hC (cst_pm (by decide) h4.1)) ⟨pmir_wf hA.1, h4.2.1, fun x y hx hy => h4.2.2 x y hx hy⟩ (fun M' h6 h7 => ?_)
      conv => whnf
      exact h3 e1 h M' h6 (csm_trans (csm_pm h4.1) h7)
    · conv => whnf
      first | refine ⟨fun _ => ?_, fun q => absurd (by decide) q⟩ | refine ⟨fun q => absurd q (by decide), fun _ => ?_⟩
      conv => whnf
      exact h1 (Or.inr h)
theorem c_rename {a f to : Nat} (ha : a < 2 ^ 32) (hf : f < 2 ^ 32) (hto : to < 2 ^ 32) (hC : CS M S) (h1 : (plA S a).1 = 0 ∨ ¬ to < 4 → Z (some (zi (-1000001))) M) (h2 : ¬ (plA S a).1 = 0 → to < 4 → ¬ isP f (plA S a).1 → Z (some (zi (-1000002))) M) (h3 : ¬ (plA S a).1 = 0 → to < 4 → isP f (plA S a).1 → ∀ M', CS M' (upS S to (pren (plA S a) (dg f) (dgi f (plA S a).1))) → csm M M' → Z (some (zi (nI (plA S a).1))) M') : Ctr 0 G mi_T_rename [zr 5 0, zi (nI a), zi (nI f), zi (nI to)] M Z := by
  have hA := CS_pl hC a
  have ka := plk_lt a
  refine go_T_rename (fun Kz hKz => ?_)
  conv => whnf
  refine s_T_mapAt ha ?_
  conv => whnf
  refine ⟨by show plk a < 10; omega, ?_⟩
  refine s_PM_isEmpty (by omega) hA (fun e1 => ?_) (fun e1 => ?_)
  · conv => whnf
    first | refine ⟨fun _ => ?_, fun q => absurd (by decide) q⟩ | refine ⟨fun q => absurd q (by decide), fun _ => ?_⟩
    conv => whnf
    exact h1 (Or.inl e1)
  · conv => whnf
    first | refine ⟨fun _ => ?_, fun q => absurd (by decide) q⟩ | refine ⟨fun q => absurd q (by decide), fun _ => ?_⟩
    conv => whnf
    refine s_T_isPlace hto (fun h => ?_) (fun h => ?_)
    · conv => whnf
      first | refine ⟨fun _ => ?_, fun q => absurd (by decide) q⟩ | refine ⟨fun q => absurd q (by decide), fun _ => ?_⟩
      conv => whnf
      refine ⟨by show plk a < 10; omega, ?_⟩
      refine s_PM_points (by omega) ?_
      conv => whnf
      rw [hA.2.1]
      refine s_CO_isPermutation hf hA.1.1 (fun hp => ?_) (fun hp => ?_)
      · conv => whnf
        first | refine ⟨fun _ => ?_, fun q => absurd (by decide) q⟩ | refine ⟨fun q => absurd q (by decide), fun _ => ?_⟩
        conv => whnf
        refine ⟨by decide, ?_⟩
        refine s_PM_becomeRenamed (by decide) (by omega) (by omega) hA hf hp (fun M1 h4 h5 h5b => ?_)
        conv => whnf
        refine s_T_keepMade h (CS_cst hC (cst_pm (by decide) h4)) (B := pren (plA S a) (dg f) (dgi f (plA S a).1)) ⟨pren_wf hA.1 hp, h5, fun x y hx hy => ?_⟩ (fun M' h6 h7 => ?_)
        · have e3 := dgi_spec hp hx
          have e4 := dgi_spec hp hy
          have e5 := h5b _ _ e3.1 e4.1
          rw [e3.2, e4.2] at e5
          exact e5
        conv => whnf
        exact h3 e1 h hp M' h6 (csm_trans (csm_pm h4) h7)
      · conv => whnf
        first | refine ⟨fun _ => ?_, fun q => absurd (by decide) q⟩ | refine ⟨fun q => absurd q (by decide), fun _ => ?_⟩
        conv => whnf
        exact h2 e1 h hp
    · conv => whnf
      first | refine ⟨fun _ => ?_, fun q => absurd (by decide) q⟩ | refine ⟨fun q => absurd q (by decide), fun _ => ?_⟩
      conv => whnf
      exact h1 (Or.inr h)
end
