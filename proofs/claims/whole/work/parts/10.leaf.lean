section
variable {G : ZG} {M : ZM} {Z : Option ZV → ZM → Prop}
/-! Codes -/
theorem s_CO_digit {m i : Nat} (hm : m < 2 ^ 32) (hi : i ≤ 9) (hZ : Z (some (zi (nI (m / 8 ^ i % 8)))) M) : Ctr 0 G mi_CO_digit [zi (nI m), zi (nI i)] M Z := by
  refine go_CO_digit (fun K hK => ?_)
  conv => whnf
  rw [pk_mul, n_dig hm i hi]
  exact hZ
theorem s_CO_pairOf {x y : Nat} (hx : x < 8) (hy : y < 8) (hZ : Z (some (zi (nI (8 * x + y)))) M) : Ctr 0 G mi_CO_pairOf [zi (nI x), zi (nI y)] M Z := by
  refine go_CO_pairOf (fun K hK => ?_)
  conv => whnf
  rw [n_shl _ 3 (by decide), n_or, show x * 2 ^ 3 ||| y = 8 * x + y from by
    have h : ∀ a, a < 8 → ∀ b, b < 8 → a * 2 ^ 3 ||| b = 8 * a + b := by decide
    exact h x hx y hy]
  exact hZ
/-! PairMap -/
theorem s_PM_points {k : Nat} (hk : k < 10) (hZ : Z (some (zi (M.1 0 k 1))) M) : Ctr 0 G mi_PM_points [zr 0 k] M Z := by
  refine go_PM_points (fun K hK => ?_)
  conv => whnf
  refine ⟨by first | assumption | decide, ?_⟩
  conv => whnf
  exact hZ
theorem s_PM_imageOf {k j : Nat} (hk : k < 10) (hj : j < 64) (hZ : Z (some (zi (M.1 1 k j))) M) : Ctr 0 G mi_PM_imageOf [zr 0 k, zi (nI j)] M Z := by
  have h0 : nI j &&& nI 63 = nI j := by rw [n_and, show (63 : Nat) = 2 ^ 6 - 1 from rfl, Nat.and_two_pow_sub_one_eq_mod, Nat.mod_eq_of_lt hj]
  refine go_PM_imageOf (fun K hK => ?_)
  conv => whnf
  refine ⟨by first | assumption | decide, ?_⟩
  conv => whnf
  refine ⟨hk, ?_, ?_⟩
  · rw [h0]; exact vp_in_nI hj (by decide)
  conv => whnf
  rw [h0, nI_clamp (by omega)]
  exact hZ
theorem s_PM_resize {k : Nat} {x : Int32} (hk : k < 10) (hZ : Z none (zset 0 k 1 x M)) : Ctr 0 G mi_PM_resize [zr 0 k, zi x] M Z := by
  refine go_PM_resize (fun K hK => ?_)
  conv => whnf
  refine ⟨by first | assumption | decide, ?_⟩
  conv => whnf
  exact hZ
end
