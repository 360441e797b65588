/-! a map by its number of points, L and R -/
abbrev ZP : Type := Nat × ((Nat → Nat → Nat) × (Nat → Nat → Nat))
def pwf (A : ZP) : Prop := A.1 ≤ 6 ∧ ∀ x y, x < A.1 → y < A.1 → A.2.1 x y < A.1 ∧ A.2.2 x y < A.1
def isPM (M : ZM) (k : Nat) (A : ZP) : Prop := pwf A ∧ M.1 0 k 1 = nI A.1 ∧ ∀ x y, x < A.1 → y < A.1 → M.1 1 k (8 * x + y) = nI (8 * A.2.1 x y + A.2.2 x y)
/-- nothing but the cells of S has changed -/
def zsm (S : Nat → Nat → Prop) (M M' : ZM) : Prop := M'.2 = M.2 ∧ ∀ a b, ¬ S a b → M'.1 a b = M.1 a b
theorem zsm_refl (S : Nat → Nat → Prop) (M : ZM) : zsm S M M := ⟨rfl, fun _ _ _ => rfl⟩
theorem zsm_trans {S : Nat → Nat → Prop} {M M' M'' : ZM} (h : zsm S M M') (h' : zsm S M' M'') : zsm S M M'' := ⟨h'.1.trans h.1, fun a b q => (h'.2 a b q).trans (h.2 a b q)⟩
theorem zsm_mono {S S' : Nat → Nat → Prop} {M M' : ZM} (h : zsm S M M') (hs : ∀ a b, S a b → S' a b) : zsm S' M M' := ⟨h.1, fun a b q => h.2 a b (fun z => q (hs a b z))⟩
theorem zsm_set {S : Nat → Nat → Prop} {M : ZM} {a b c : Nat} {v : Int32} (h : S a b) : zsm S M (zset a b c v M) := ⟨rfl, fun x y q => by
  funext z
  simp only [zset]
  rw [if_neg (fun w => q (by rw [w.1, w.2.1]; exact h))]⟩
theorem zset_eq {a b c : Nat} {v : Int32} {M : ZM} : (zset a b c v M).1 a b c = v := by simp [zset]
theorem zset_ne {a b c x y z : Nat} {v : Int32} {M : ZM} (h : ¬ (x = a ∧ y = b ∧ z = c)) : (zset a b c v M).1 x y z = M.1 x y z := by simp only [zset]; rw [if_neg h]
def pmS (k : Nat) : Nat → Nat → Prop := fun a b => (a = 0 ∨ a = 1) ∧ b = k
theorem isPM_same {S : Nat → Nat → Prop} {M M' : ZM} {k : Nat} {A : ZP} (h : isPM M k A) (hs : zsm S M M') (h0 : ¬ S 0 k) (h1 : ¬ S 1 k) : isPM M' k A := by
  refine ⟨h.1, ?_, fun x y hx hy => ?_⟩
  · rw [hs.2 0 k h0]; exact h.2.1
  · rw [hs.2 1 k h1]; exact h.2.2 x y hx hy
section
variable {G : ZG} {M : ZM} {Z : Option ZV → ZM → Prop}
/-! Codes -/
theorem s_CO_digit {m i : Nat} (hm : m < 2 ^ 32) (hi : i ≤ 9) (hZ : Z (some (zi (nI (m / 8 ^ i % 8)))) M) : Ctr 0 G mi_CO_digit [zi (nI m), zi (nI i)] M Z := by
  refine go_CO_digit (fun Kz hKz => ?_)
  conv => whnf
  rw [pk_mul, n_dig hm i hi]
  exact hZ
theorem s_CO_pairOf {x y : Nat} (hx : x < 8) (hy : y < 8) (hZ : Z (some (zi (nI (8 * x + y)))) M) : Ctr 0 G mi_CO_pairOf [zi (nI x), zi (nI y)] M Z := by
  refine go_CO_pairOf (fun Kz hKz => ?_)
  conv => whnf
  rw [n_shl _ 3 (by decide), n_or, show x * 2 ^ 3 ||| y = 8 * x + y from by
    have h : ∀ a, a < 8 → ∀ b, b < 8 → a * 2 ^ 3 ||| b = 8 * a + b := by decide
    exact h x hx y hy]
  exact hZ
/-! PairMap -/
theorem s_PM_points {k : Nat} (hk : k < 10) (hZ : Z (some (zi (M.1 0 k 1))) M) : Ctr 0 G mi_PM_points [zr 0 k] M Z := by
  refine go_PM_points (fun Kz hKz => ?_)
  conv => whnf
  refine ⟨by first | assumption | decide, ?_⟩
  conv => whnf
  exact hZ
theorem s_PM_imageOf {k j : Nat} (hk : k < 10) (hj : j < 64) (hZ : Z (some (zi (M.1 1 k j))) M) : Ctr 0 G mi_PM_imageOf [zr 0 k, zi (nI j)] M Z := by
  have h0 : nI j &&& nI 63 = nI j := by rw [n_and, show (63 : Nat) = 2 ^ 6 - 1 from rfl, Nat.and_two_pow_sub_one_eq_mod, Nat.mod_eq_of_lt hj]
  refine go_PM_imageOf (fun Kz hKz => ?_)
  conv => whnf
  refine ⟨by first | assumption | decide, ?_⟩
  conv => whnf
  refine ⟨hk, ?_, ?_⟩
  · rw [h0]; exact vp_in_nI hj (by decide)
  conv => whnf
  rw [h0, nI_clamp (by omega)]
  exact hZ
theorem s_PM_resize {k : Nat} {x : Int32} (hk : k < 10) (hZ : Z none (zset 0 k 1 x M)) : Ctr 0 G mi_PM_resize [zr 0 k, zi x] M Z := by
  refine go_PM_resize (fun Kz hKz => ?_)
  conv => whnf
  refine ⟨by first | assumption | decide, ?_⟩
  conv => whnf
  exact hZ
theorem s_PM_isEmpty {k : Nat} {A : ZP} (hk : k < 10) (hA : isPM M k A) (h1 : A.1 = 0 → Z (some (zi (nI 1))) M) (h2 : ¬ A.1 = 0 → Z (some (zi (nI 0))) M) : Ctr 0 G mi_PM_isEmpty [zr 0 k] M Z := by
  have hn : A.1 < 2 ^ 31 := Nat.lt_of_le_of_lt hA.1.1 (by decide)
  refine go_PM_isEmpty (fun Kz hKz => ?_)
  conv => whnf
  refine ⟨by first | assumption | decide, ?_⟩
  conv => whnf
  rw [hA.2.1, nI_eq hn (by decide)]
  refine ⟨fun h => ?_, fun h => ?_⟩
  · conv => whnf
    exact ⟨Or.inl rfl, h2 h⟩
  · conv => whnf
    exact ⟨Or.inr rfl, h1 (Classical.not_not.mp h)⟩
theorem s_PM_hasPoint {k m : Nat} {A : ZP} (hk : k < 10) (hm : m < 2 ^ 32) (hA : isPM M k A) (h1 : m < A.1 → Z (some (zi (nI 1))) M) (h2 : ¬ m < A.1 → Z (some (zi (nI 0))) M) : Ctr 0 G mi_PM_hasPoint [zr 0 k, zi (nI m)] M Z := by
  have hn := hA.1.1
  refine go_PM_hasPoint (fun Kz hKz => ?_)
  conv => whnf
  rw [n_ltb hm (by decide)]
  refine ⟨fun h => ?_, fun h => ?_⟩
  · conv => whnf
    exact ⟨Or.inl rfl, h2 (by omega)⟩
  · conv => whnf
    refine ⟨by first | assumption | decide, ?_⟩
    conv => whnf
    rw [hA.2.1, nI_leI (by omega) (by omega)]
    refine ⟨fun h3 => ?_, fun h3 => ?_⟩
    · conv => whnf
      exact ⟨Or.inl rfl, h2 (by omega)⟩
    · conv => whnf
      exact ⟨Or.inr rfl, h1 (by omega)⟩
theorem s_PM_left {k x y : Nat} {A : ZP} (hk : k < 10) (hA : isPM M k A) (hx : x < A.1) (hy : y < A.1) (hZ : Z (some (zi (nI (A.2.1 x y)))) M) : Ctr 0 G mi_PM_left [zr 0 k, zi (nI x), zi (nI y)] M Z := by
  have hn := hA.1.1
  have hLR := hA.1.2 x y hx hy
  refine go_PM_left (fun Kz hKz => ?_)
  conv => whnf
  refine s_CO_pairOf (by omega) (by omega) ?_
  conv => whnf
  refine ⟨by first | assumption | decide, ?_⟩
  conv => whnf
  refine s_PM_imageOf hk (by omega) ?_
  conv => whnf
  rw [hA.2.2 x y hx hy, n_shr 3 (by decide) (by omega), show (8 * A.2.1 x y + A.2.2 x y) / 2 ^ 3 = A.2.1 x y by omega]
  exact hZ
theorem s_PM_right {k x y : Nat} {A : ZP} (hk : k < 10) (hA : isPM M k A) (hx : x < A.1) (hy : y < A.1) (hZ : Z (some (zi (nI (A.2.2 x y)))) M) : Ctr 0 G mi_PM_right [zr 0 k, zi (nI x), zi (nI y)] M Z := by
  have hn := hA.1.1
  have hLR := hA.1.2 x y hx hy
  refine go_PM_right (fun Kz hKz => ?_)
  conv => whnf
  refine s_CO_pairOf (by omega) (by omega) ?_
  conv => whnf
  refine ⟨by first | assumption | decide, ?_⟩
  conv => whnf
  refine s_PM_imageOf hk (by omega) ?_
  conv => whnf
  rw [hA.2.2 x y hx hy, n_and, show (7 : Nat) = 2 ^ 3 - 1 from rfl, Nat.and_two_pow_sub_one_eq_mod, show (8 * A.2.1 x y + A.2.2 x y) % 2 ^ 3 = A.2.2 x y by omega]
  exact hZ
theorem s_PM_setImage {k x y l r : Nat} (hk : k < 10) (hx : x < 8) (hy : y < 8) (hl : l < 8) (hr : r < 8) (hZ : Z none (zset 1 k (8 * x + y) (nI (8 * l + r)) M)) : Ctr 0 G mi_PM_setImage [zr 0 k, zi (nI x), zi (nI y), zi (nI l), zi (nI r)] M Z := by
  have h0 : nI (8 * x + y) &&& nI 63 = nI (8 * x + y) := by rw [n_and, show (63 : Nat) = 2 ^ 6 - 1 from rfl, Nat.and_two_pow_sub_one_eq_mod, Nat.mod_eq_of_lt (by omega)]
  refine go_PM_setImage (fun Kz hKz => ?_)
  conv => whnf
  refine ⟨by first | assumption | decide, ?_⟩
  conv => whnf
  refine s_CO_pairOf hx hy ?_
  conv => whnf
  refine s_CO_pairOf hl hr ?_
  conv => whnf
  refine ⟨hk, ?_, ?_⟩
  · rw [h0]; exact vp_in_nI (by omega) (by decide)
  conv => whnf
  rw [h0, nI_clamp (by omega)]
  exact hZ
theorem s_PM_copy {k j : Nat} (hk : k < 10) (hj : j < 10) (hkj : k ≠ j) (hZ : ∀ M', zsm (pmS k) M M' → M'.1 0 k 1 = M.1 0 j 1 → (∀ c, c < 64 → M'.1 1 k c = M.1 1 j c) → Z none M') : Ctr 0 G mi_PM_copy [zr 0 k, zr 0 j] M Z := by
  have lp : ∀ i, i ≤ 64 → ∀ M', zsm (pmS k) M M' → M'.1 0 k 1 = M.1 0 j 1 → (∀ c, c < i → M'.1 1 k c = M.1 1 j c) → V 0 G mi_PM_copy Z 10 [(0, zr 0 k), (1, zr 0 j), (2, zi (nI i))] [] M' := by
    refine up_to ?_ ?_
    · intro M' h1 h2 h3
      refine z_run (cuts := cu_PM_copy) ok_PM_copy (fun Kz hKz => ?_)
      conv => whnf
      rw [nI_ltI (by decide) (by decide)]
      first | refine ⟨fun _ => ?_, fun q => absurd (by decide) q⟩ | refine ⟨fun q => absurd q (by decide), fun _ => ?_⟩
      conv => whnf
      exact hZ M' h1 h2 h3
    · intro i hi ih M' h1 h2 h3
      refine z_run (cuts := cu_PM_copy) ok_PM_copy (fun Kz hKz => ?_)
      conv => whnf
      rw [nI_ltI (by decide) (by omega)]
      refine ⟨fun q => absurd q (by omega), fun _ => ?_⟩
      conv => whnf
      refine ⟨by first | assumption | decide, ?_⟩
      conv => whnf
      refine ⟨by first | assumption | decide, ?_⟩
      conv => whnf
      refine ⟨hj, vp_in_nI hi (by decide), ?_⟩
      conv => whnf
      refine ⟨hk, vp_in_nI hi (by decide), ?_⟩
      conv => whnf
      rw [nI_clamp (by omega), nI_1']
      refine hKz _ _ _ _ ?_
      refine ih _ (zsm_trans h1 (zsm_set ⟨Or.inr rfl, rfl⟩)) ?_ (fun c hc => ?_)
      · rw [zset_ne (by omega)]; exact h2
      · by_cases hci : c = i
        · subst hci
          rw [zset_eq, h1.2 1 j (fun q => hkj q.2.symm)]
        · rw [zset_ne (by omega)]
          exact h3 c (by omega)
  refine go_PM_copy (fun Kz hKz => ?_)
  conv => whnf
  refine ⟨by first | assumption | decide, ?_⟩
  conv => whnf
  refine ⟨by first | assumption | decide, ?_⟩
  conv => whnf
  refine hKz _ _ _ _ ?_
  exact lp 0 (by decide) _ (zsm_set ⟨Or.inl rfl, rfl⟩) zset_eq (fun c hc => absurd hc (Nat.not_lt_zero _))
end
