/-! the groups -/
def isG (kind n : Nat) : Prop := (kind = 0 ∧ 1 ≤ n ∧ n ≤ 6) ∨ (kind = 1 ∧ n = 4) ∨ (kind = 2 ∧ n = 6)
def gp (kind n x y : Nat) : Nat := if kind = 0 then (x + y) % n else if kind = 1 then x ^^^ y else (if x < 3 then x % 3 + y % 3 else x % 3 + 3 - y % 3) % 3 + 3 * ((x / 3 + y / 3) % 2)
def gi (kind n x : Nat) : Nat := fnd (fun z => decide (gp kind n x z = 0)) n
theorem isG_dec {P : Nat → Nat → Prop} (h0 : ∀ n, n < 7 → 0 < n → P 0 n) (h1 : P 1 4) (h2 : P 2 6) : ∀ kind n, isG kind n → P kind n := by
  rintro kind n (⟨rfl, h, h'⟩ | ⟨rfl, rfl⟩ | ⟨rfl, rfl⟩)
  · exact h0 n (by omega) h
  · exact h1
  · exact h2
theorem isG_le {kind n : Nat} (h : isG kind n) : 0 < n ∧ n ≤ 6 := by
  rcases h with h | h | h <;> omega
theorem gp_lt : ∀ kind n, isG kind n → ∀ x, x < n → ∀ y, y < n → gp kind n x y < n := isG_dec (P := fun kind n => ∀ x, x < n → ∀ y, y < n → gp kind n x y < n) (by decide +kernel) (by decide +kernel) (by decide +kernel)
theorem gi_is : ∀ kind n, isG kind n → ∀ x, x < n → gi kind n x < n ∧ gp kind n x (gi kind n x) = 0 ∧ ∀ z, z < n → gp kind n x z = 0 → z = gi kind n x := isG_dec (P := fun kind n => ∀ x, x < n → gi kind n x < n ∧ gp kind n x (gi kind n x) = 0 ∧ ∀ z, z < n → gp kind n x z = 0 → z = gi kind n x) (by decide +kernel) (by decide +kernel) (by decide +kernel)
def pgrp (kind n : Nat) : ZP := (n, fun x y => gp kind n (gp kind n x y) (gi kind n x), fun x _ => x)
theorem pgrp_wf {kind n : Nat} (h : isG kind n) : pwf (pgrp kind n) := ⟨(isG_le h).2, fun x y hx hy => ⟨gp_lt _ _ h _ (gp_lt _ _ h x hx y hy) _ (gi_is _ _ h x hx).1, hx⟩⟩
theorem turn_sub : ∀ a, a < 3 → ∀ b, b < 3 → nI a - nI b + nI 3 = nI (a + 3 - b) := by decide +kernel
section
variable {G : ZG} {M : ZM} {Z : Option ZV → ZM → Prop}
theorem s_AL_isGroup {kind n : Nat} (hk : kind < 2 ^ 32) (hn : n < 2 ^ 32) (h1 : isG kind n → Z (some (zi (nI 1))) M) (h2 : ¬ isG kind n → Z (some (zi (nI 0))) M) : Ctr 0 G mi_AL_isGroup [zi (nI kind), zi (nI n)] M Z := by
  have h10 : (¬ (kind = 0 ∧ 1 ≤ n ∧ n ≤ 6) ∧ ¬ (kind = 1 ∧ n = 4) ∧ ¬ (kind = 2 ∧ n = 6)) → Z (some (zi (nI 0))) M := fun q => h2 (fun w => by
    rcases w with w | w | w
    · exact q.1 w
    · exact q.2.1 w
    · exact q.2.2 w)
  refine go_AL_isGroup (fun Kz hKz => ?_)
  conv => whnf
  refine ⟨fun (q : nI kind = nI 0) => ?_, fun (q : ¬ nI kind = nI 0) => ?_⟩
  · rw [n_eq hk (by decide)] at q
    conv => whnf
    rw [n_ltb hn (by decide)]
    refine ⟨fun w => ?_, fun w => ?_⟩
    · conv => whnf
      exact ⟨Or.inl rfl, h10 (by omega)⟩
    · conv => whnf
      rw [n_blt hn (by decide)]
      refine ⟨fun w2 => ?_, fun w2 => ?_⟩
      · conv => whnf
        exact ⟨Or.inl rfl, h10 (by omega)⟩
      · conv => whnf
        exact ⟨Or.inr rfl, h1 (Or.inl (by omega))⟩
  · rw [n_eq hk (by decide)] at q
    conv => whnf
    refine ⟨fun (q1 : nI kind = nI 1) => ?_, fun (q1 : ¬ nI kind = nI 1) => ?_⟩
    · rw [n_eq hk (by decide)] at q1
      conv => whnf
      rw [n_eq hn (by decide)]
      refine ⟨fun w => ?_, fun w => ?_⟩
      · conv => whnf
        exact ⟨Or.inl rfl, h10 (by omega)⟩
      · conv => whnf
        exact ⟨Or.inr rfl, h1 (Or.inr (Or.inl (by omega)))⟩
    · rw [n_eq hk (by decide)] at q1
      conv => whnf
      refine ⟨fun (q2 : nI kind = nI 2) => ?_, fun (q2 : ¬ nI kind = nI 2) => ?_⟩
      · rw [n_eq hk (by decide)] at q2
        conv => whnf
        rw [n_eq hn (by decide)]
        refine ⟨fun w => ?_, fun w => ?_⟩
        · conv => whnf
          exact ⟨Or.inl rfl, h10 (by omega)⟩
        · conv => whnf
          exact ⟨Or.inr rfl, h1 (Or.inr (Or.inr (by omega)))⟩
      · rw [n_eq hk (by decide)] at q2
        conv => whnf
        exact ⟨Or.inl rfl, h10 (by omega)⟩
theorem s_AL_product {kind n x y : Nat} (h : isG kind n) (hx : x < n) (hy : y < n) (hZ : Z (some (zi (nI (gp kind n x y)))) M) : Ctr 0 G mi_AL_product [zi (nI kind), zi (nI n), zi (nI x), zi (nI y)] M Z := by
  have hn := isG_le h
  refine go_AL_product (fun Kz hKz => ?_)
  conv => whnf
  rw [n_ne (by rcases h with h | h | h <;> omega) (by decide)]
  refine ⟨fun q => ?_, fun q => ?_⟩
  · conv => whnf
    rw [n_ne (by rcases h with h | h | h <;> omega) (by decide)]
    refine ⟨fun q2 => ?_, fun q2 => ?_⟩
    · have e : kind = 2 ∧ n = 6 := by rcases h with h | h | h <;> omega
      obtain ⟨rfl, rfl⟩ := e
      simp only [gp, if_neg q, if_neg q2] at hZ
      conv => whnf
      rw [nI_leI (by omega) (by omega)]
      refine ⟨fun q3 => ?_, fun q3 => ?_⟩
      · rw [if_neg (by omega)] at hZ
        conv => whnf
        refine ⟨by decide, ?_⟩
        conv => whnf
        refine ⟨by decide, ?_⟩
        conv => whnf
        refine ⟨by decide, ?_⟩
        conv => whnf
        refine ⟨by decide, ?_⟩
        conv => whnf
        refine ⟨by decide, ?_⟩
        conv => whnf
        refine ⟨by decide, ?_⟩
        conv => whnf
        rw [n_mod (by omega) (by decide) (by decide), n_mod (by omega) (by decide) (by decide), turn_sub _ (Nat.mod_lt _ (by decide)) _ (Nat.mod_lt _ (by decide)), n_mod (by omega) (by decide) (by decide), pk_div (by omega) (by decide) (by decide), pk_div (by omega) (by decide) (by decide), nI_add, n_mod (by omega) (by decide) (by decide), pk_mul, nI_add]
        exact hZ
      · rw [if_pos (by omega)] at hZ
        conv => whnf
        refine ⟨by decide, ?_⟩
        conv => whnf
        refine ⟨by decide, ?_⟩
        conv => whnf
        refine ⟨by decide, ?_⟩
        conv => whnf
        refine ⟨by decide, ?_⟩
        conv => whnf
        refine ⟨by decide, ?_⟩
        conv => whnf
        refine ⟨by decide, ?_⟩
        conv => whnf
        rw [n_mod (by omega) (by decide) (by decide), n_mod (by omega) (by decide) (by decide), nI_add, n_mod (by omega) (by decide) (by decide), pk_div (by omega) (by decide) (by decide), pk_div (by omega) (by decide) (by decide), nI_add, n_mod (by omega) (by decide) (by decide), pk_mul, nI_add]
        exact hZ
    · have e : kind = 1 := Classical.not_not.mp q2
      subst e
      simp only [gp, if_neg q, if_pos trivial] at hZ
      conv => whnf
      rw [n_xor]
      exact hZ
  · have e : kind = 0 := Classical.not_not.mp q
    subst e
    simp only [gp, if_pos trivial] at hZ
    conv => whnf
    rw [nI_add, nI_leI (by omega) (by omega)]
    refine ⟨fun q3 => ?_, fun q3 => ?_⟩
    · rw [Nat.mod_eq_sub_mod q3, Nat.mod_eq_of_lt (by omega)] at hZ
      conv => whnf
      rw [nI_add, pk_sub q3]
      exact hZ
    · rw [Nat.mod_eq_of_lt (by omega)] at hZ
      conv => whnf
      rw [nI_add]
      exact hZ
end
