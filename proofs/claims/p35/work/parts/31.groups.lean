/-! the groups -/
def isG (kind n : Nat) : Prop := (kind = 0 ∧ 1 ≤ n ∧ n ≤ 6) ∨ (kind = 1 ∧ n = 4) ∨ (kind = 2 ∧ n = 6)
def gp (kind n x y : Nat) : Nat := if kind = 0 then (x + y) % n else if kind = 1 then x ^^^ y else (if x < 3 then x % 3 + y % 3 else x % 3 + 3 - y % 3) % 3 + 3 * ((x / 3 + y / 3) % 2)
def gi (kind n x : Nat) : Nat := fnd (fun z => decide (gp kind n x z = 0)) n
theorem isG_dec {P : Nat → Nat → Prop} (h0 : ∀ n, n < 7 → 0 < n → P 0 n) (h1 : P 1 4) (h2 : P 2 6) : ∀ kind n, isG kind n → P kind n := by
  rintro kind n (⟨rfl, h, h'⟩ | ⟨rfl, rfl⟩ | ⟨rfl, rfl⟩)
  · exact h0 n (by omega) h
  · exact h1
  · exact h2
theorem isG_le {kind n : Nat} (h : isG kind n) : 0 < n ∧ n ≤ 6 := by
  rcases h with h | h | h <;> omega
theorem gp_lt : ∀ kind n, isG kind n → ∀ x, x < n → ∀ y, y < n → gp kind n x y < n := isG_dec (P := fun kind n => ∀ x, x < n → ∀ y, y < n → gp kind n x y < n) (by decide +kernel) (by decide +kernel) (by decide +kernel)
theorem gi_is : ∀ kind n, isG kind n → ∀ x, x < n → gi kind n x < n ∧ gp kind n x (gi kind n x) = 0 ∧ ∀ z, z < n → gp kind n x z = 0 → z = gi kind n x := isG_dec (P := fun kind n => ∀ x, x < n → gi kind n x < n ∧ gp kind n x (gi kind n x) = 0 ∧ ∀ z, z < n → gp kind n x z = 0 → z = gi kind n x) (by decide +kernel) (by decide +kernel) (by decide +kernel)
def pgrp (kind n : Nat) : ZP := (n, fun x y => gp kind n (gp kind n x y) (gi kind n x), fun x _ => x)
theorem pgrp_wf {kind n : Nat} (h : isG kind n) : pwf (pgrp kind n) := ⟨(isG_le h).2, fun x y hx hy => ⟨gp_lt _ _ h _ (gp_lt _ _ h x hx y hy) _ (gi_is _ _ h x hx).1, hx⟩⟩
theorem turn_sub : ∀ a, a < 3 → ∀ b, b < 3 → nI a - nI b + nI 3 = nI (a + 3 - b) := by decide +kernel
section
variable {G : ZG} {M : ZM} {Z : Option ZV → ZM → Prop}
theorem s_AL_isGroup {kind n : Nat} (hk : kind < 2 ^ 32) (hn : n < 2 ^ 32) (h1 : isG kind n → Z (some (zi (nI 1))) M) (h2 : ¬ isG kind n → Z (some (zi (nI 0))) M) : Ctr 0 G mi_AL_isGroup [zi (nI kind), zi (nI n)] M Z := by
  have h10 : (¬ (kind = 0 ∧ 1 ≤ n ∧ n ≤ 6) ∧ ¬ (kind = 1 ∧ n = 4) ∧ ¬ (kind = 2 ∧ n = 6)) → Z (some (zi (nI 0))) M := fun q => h2 (fun w => by
    rcases w with w | w | w
    · exact q.1 w
    · exact q.2.1 w
    · exact q.2.2 w)
  refine go_AL_isGroup (fun Kz hKz => ?_)
  conv => whnf
  refine ⟨fun (q : nI kind = nI 0) => ?_, fun (q : ¬ nI kind = nI 0) => ?_⟩
  · rw [n_eq hk (by decide)] at q
    conv => whnf
    rw [n_ltb hn (by decide)]
    refine ⟨fun w => ?_, fun w => ?_⟩
    · conv => whnf
      exact ⟨Or.inl rfl, h10 (by omega)⟩
    · conv => whnf
      rw [n_blt hn (by decide)]
      refine ⟨fun w2 => ?_, fun w2 => ?_⟩
      · conv => whnf
        exact ⟨Or.inl rfl, h10 (by omega)⟩
      · conv => whnf
        exact ⟨Or.inr rfl, h1 (Or.inl (by omega))⟩
  · rw [n_eq hk (by decide)] at q
    conv => whnf
    refine ⟨fun (q1 : nI kind = nI 1) => ?_, fun (q1 : ¬ nI kind = nI 1) => ?_⟩
    · rw [n_eq hk (by decide)] at q1
      conv => whnf
      rw [n_eq hn (by decide)]
      refine ⟨fun w => ?_, fun w => ?_⟩
      · conv => whnf
        exact ⟨Or.inl rfl, h10 (by omega)⟩
      · conv => whnf
        exact ⟨Or.inr rfl, h1 (Or.inr (Or.inl (by omega)))⟩
    · rw [n_eq hk (by decide)] at q1
      conv => whnf
      refine ⟨fun (q2 : nI kind = nI 2) => ?_, fun (q2 : ¬ nI kind = nI 2) => ?_⟩
      · rw [n_eq hk (by decide)] at q2
        conv => whnf
        rw [n_eq hn (by decide)]
        refine ⟨fun w => ?_, fun w => ?_⟩
        · conv => whnf
          exact ⟨Or.inl rfl, h10 (by omega)⟩
        · conv => whnf
          exact ⟨Or.inr rfl, h1 (Or.inr (Or.inr (by omega)))⟩
      · rw [n_eq hk (by decide)] at q2
        conv => whnf
        exact ⟨Or.inl rfl, h10 (by omega)⟩
theorem s_AL_product {kind n x y : Nat} (h : isG kind n) (hx : x < n) (hy : y < n) (hZ : Z (some (zi (nI (gp kind n x y)))) M) : Ctr 0 G mi_AL_product [zi (nI kind), zi (nI n), zi (nI x), zi (nI y)] M Z := by
  have hn := isG_le h
  refine go_AL_product (fun Kz hKz => ?_)
  conv => whnf
  rw [n_ne (by rcases h with h | h | h <;> omega) (by decide)]
  refine ⟨fun q => ?_, fun q => ?_⟩
  · conv => whnf
    rw [n_ne (by rcases h with h | h | h <;> omega) (by decide)]
    refine ⟨fun q2 => ?_, fun q2 => ?_⟩
    · have e : kind = 2 ∧ n = 6 := by rcases h with h | h | h <;> omega
      obtain ⟨rfl, rfl⟩ := e
      simp only [gp, if_neg q, if_neg q2] at hZ
      conv => whnf
      rw [nI_leI (by omega) (by omega)]
      refine ⟨fun q3 => ?_, fun q3 => ?_⟩
      · rw [if_neg (by omega)] at hZ
        conv => whnf
        refine ⟨by decide, ?_⟩
        conv => whnf
        refine ⟨by decide, ?_⟩
        conv => whnf
        refine ⟨by decide, ?_⟩
        conv => whnf
        refine ⟨by decide, ?_⟩
        conv => whnf
        refine ⟨by decide, ?_⟩
        conv => whnf
        refine ⟨by decide, ?_⟩
        conv => whnf
        rw [n_mod (by omega) (by decide) (by decide), n_mod (by omega) (by decide) (by decide), turn_sub _ (Nat.mod_lt _ (by decide)) _ (Nat.mod_lt _ (by decide)), n_mod (by omega) (by decide) (by decide), pk_div (by omega) (by decide) (by decide), pk_div (by omega) (by decide) (by decide), nI_add, n_mod (by omega) (by decide) (by decide), pk_mul, nI_add]
        exact hZ
      · rw [if_pos (by omega)] at hZ
        conv => whnf
        refine ⟨by decide, ?_⟩
        conv => whnf
        refine ⟨by decide, ?_⟩
        conv => whnf
        refine ⟨by decide, ?_⟩
        conv => whnf
        refine ⟨by decide, ?_⟩
        conv => whnf
        refine ⟨by decide, ?_⟩
        conv => whnf
        refine ⟨by decide, ?_⟩
        conv => whnf
        rw [n_mod (by omega) (by decide) (by decide), n_mod (by omega) (by decide) (by decide), nI_add, n_mod (by omega) (by decide) (by decide), pk_div (by omega) (by decide) (by decide), pk_div (by omega) (by decide) (by decide), nI_add, n_mod (by omega) (by decide) (by decide), pk_mul, nI_add]
        exact hZ
    · have e : kind = 1 := Classical.not_not.mp q2
      subst e
      simp only [gp, if_neg q, if_pos trivial] at hZ
      conv => whnf
      rw [n_xor]
      exact hZ
  · have e : kind = 0 := Classical.not_not.mp q
    subst e
    simp only [gp, if_pos trivial] at hZ
    conv => whnf
    rw [nI_add, nI_leI (by omega) (by omega)]
    refine ⟨fun q3 => ?_, fun q3 => ?_⟩
    · rw [Nat.mod_eq_sub_mod q3, Nat.mod_eq_of_lt (by omega)] at hZ
      conv => whnf
      rw [nI_add, pk_sub q3]
      exact hZ
    · rw [Nat.mod_eq_of_lt (by omega)] at hZ
      conv => whnf
      rw [nI_add]
      exact hZ
theorem s_AL_inverse {kind n x : Nat} (h : isG kind n) (hx : x < n) (hZ : Z (some (zi (nI (gi kind n x)))) M) : Ctr 0 G mi_AL_inverse [zi (nI kind), zi (nI n), zi (nI x)] M Z := by
  have hn := isG_le h
  have hg := gi_is _ _ h x hx
  have lp : ∀ z, z ≤ n → (∀ w, w < z → ¬ gp kind n x w = 0) → V 0 G mi_AL_inverse Z 2 [(0, zi (nI kind)), (1, zi (nI n)), (2, zi (nI x)), (3, zi (nI z))] [] M := by
    refine up_to (fun q => absurd hg.2.1 (q _ hg.1)) ?_
    intro z hz ih q
    have hl := gp_lt _ _ h x hx z hz
    refine z_run (cuts := cu_AL_inverse) ok_AL_inverse (fun Kz hKz => ?_)
    conv => whnf
    rw [nI_leI (by omega) (by omega)]
    refine ⟨fun q => absurd q (by omega), fun _ => ?_⟩
    conv => whnf
    refine s_AL_product h hx hz ?_
    conv => whnf
    rw [n_ne (by omega) (by decide)]
    refine ⟨fun q2 => ?_, fun q2 => ?_⟩
    · conv => whnf
      refine hKz _ _ _ _ ?_
      rw [nI_1']
      refine ih (fun w hw => ?_)
      rcases Nat.lt_succ_iff_lt_or_eq.mp hw with hw | rfl
      · exact q w hw
      · exact q2
    · conv => whnf
      rw [hg.2.2 z hz (Classical.not_not.mp q2)]
      exact hZ
  refine go_AL_inverse (fun Kz hKz => ?_)
  conv => whnf
  refine hKz _ _ _ _ ?_
  exact lp 0 (Nat.zero_le _) (fun w hw => absurd hw (Nat.not_lt_zero _))
theorem s_AL_makeGroupMap {k kind n : Nat} (hk : k < 10) (h : isG kind n) (hZ : ∀ M', zsm (pmS k) M M' → isPM M' k (pgrp kind n) → Z none M') : Ctr 0 G mi_AL_makeGroupMap [zr 0 k, zi (nI kind), zi (nI n)] M Z := by
  have hn := isG_le h
  refine go_AL_makeGroupMap (fun Kz hKz => ?_)
  conv => whnf
  refine ⟨by first | assumption | decide, ?_⟩
  conv => whnf
  refine s_PM_resize hk ?_
  conv => whnf
  refine hKz _ _ _ _ ?_
  refine wloop (k := k) (pos := fun a b => 8 * a + b) (val := fun a b => 8 * (pgrp kind n).2.1 a b + (pgrp kind n).2.2 a b) (n := n) (O := fun x M' => V 0 G mi_AL_makeGroupMap Z 7 [(0, zr 0 k), (1, zi (nI kind)), (2, zi (nI n)), (3, zi (nI x))] [] M') (I := fun x y M' => V 0 G mi_AL_makeGroupMap Z 23 [(0, zr 0 k), (1, zi (nI kind)), (2, zi (nI n)), (3, zi (nI x)), (4, zi (nI (gi kind n x))), (5, zi (nI y))] [] M') (fun x y hx hy => pos8_inj (by omega) hx hy) (fun M' h9 => ?_) (fun x hx M' h9 => ?_) (fun x hx M' h9 => ?_) (fun x y hx hy M' h8 h9 => ?_)
  · refine z_run (cuts := cu_AL_makeGroupMap) ok_AL_makeGroupMap (fun Kz hKz => ?_)
    conv => whnf
    rw [nI_leI (by omega) (by omega)]
    refine ⟨fun _ => ?_, fun q => absurd (Nat.le_refl _) q⟩
    conv => whnf
    have he := winv_end h9
    exact hZ M' he.1 ⟨pgrp_wf h, he.2.1, he.2.2⟩
  · refine z_run (cuts := cu_AL_makeGroupMap) ok_AL_makeGroupMap (fun Kz hKz => ?_)
    conv => whnf
    rw [nI_leI (by omega) (by omega)]
    refine ⟨fun q => absurd q (by omega), fun _ => ?_⟩
    conv => whnf
    refine s_AL_inverse h hx ?_
    conv => whnf
    refine hKz _ _ _ _ ?_
    exact h9
  · refine z_run (cuts := cu_AL_makeGroupMap) ok_AL_makeGroupMap (fun Kz hKz => ?_)
    conv => whnf
    rw [nI_leI (by omega) (by omega)]
    refine ⟨fun _ => ?_, fun q => absurd (Nat.le_refl _) q⟩
    conv => whnf
    refine hKz _ _ _ _ ?_
    rw [nI_1']
    exact h9
  · have g1 := gp_lt _ _ h x hx y hy
    have g2 := (gi_is _ _ h x hx).1
    have g3 := gp_lt _ _ h _ g1 _ g2
    refine z_run (cuts := cu_AL_makeGroupMap) ok_AL_makeGroupMap (fun Kz hKz => ?_)
    conv => whnf
    rw [nI_leI (by omega) (by omega)]
    refine ⟨fun q => absurd q (by omega), fun _ => ?_⟩
    conv => whnf
    refine s_AL_product h hx hy ?_
    conv => whnf
    refine s_AL_product h g1 g2 ?_
    conv => whnf
    refine ⟨by first | assumption | decide, ?_⟩
    conv => whnf
    refine s_PM_setImage hk (by omega) (by omega) (by omega) (by omega) ?_
    conv => whnf
    refine hKz _ _ _ _ ?_
    rw [nI_1']
    exact h9
theorem c_group {to kind n : Nat} {S : ZS} (hto : to < 2 ^ 32) (hk : kind < 2 ^ 32) (hn : n < 2 ^ 32) (hC : CS M S) (h1 : ¬ to < 4 → Z (some (zi (-1000001))) M) (h2 : to < 4 → ¬ isG kind n → Z (some (zi (-1000002))) M) (h3 : to < 4 → isG kind n → ∀ M', CS M' (upS S to (pgrp kind n)) → csm M M' → Z (some (zi (nI n))) M') : Ctr 0 G mi_T_group [zr 5 0, zi (nI to), zi (nI kind), zi (nI n)] M Z := by
  refine go_T_group (fun Kz hKz => ?_)
  conv => whnf
  refine s_T_isPlace hto (fun h => ?_) (fun h => ?_)
  · conv => whnf
    first | refine ⟨fun _ => ?_, fun q => absurd (by decide) q⟩ | refine ⟨fun q => absurd q (by decide), fun _ => ?_⟩
    conv => whnf
    refine s_AL_isGroup hk hn (fun h4 => ?_) (fun h4 => ?_)
    · conv => whnf
      first | refine ⟨fun _ => ?_, fun q => absurd (by decide) q⟩ | refine ⟨fun q => absurd q (by decide), fun _ => ?_⟩
      conv => whnf
      refine s_AL_makeGroupMap (by decide) h4 (fun M1 g1 g2 => ?_)
      conv => whnf
      refine s_T_keepMade h (CS_cst hC (cst_pm (by decide) g1)) g2 (fun M' h6 h7 => ?_)
      conv => whnf
      exact h3 h h4 M' h6 (csm_trans (csm_pm g1) h7)
    · conv => whnf
      first | refine ⟨fun _ => ?_, fun q => absurd (by decide) q⟩ | refine ⟨fun q => absurd q (by decide), fun _ => ?_⟩
      conv => whnf
      exact h2 h h4
  · conv => whnf
    first | refine ⟨fun _ => ?_, fun q => absurd (by decide) q⟩ | refine ⟨fun q => absurd q (by decide), fun _ => ?_⟩
    conv => whnf
    exact h1 h
end
