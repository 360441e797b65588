theorem pprod_lt {n m a b : Nat} (ha : a < n) (hb : b < m) : m * a + b < n * m := by
  have : m * (a + 1) ≤ m * n := Nat.mul_le_mul_left _ ha
  rw [Nat.mul_add, Nat.mul_comm m n] at this
  omega
theorem pprod_wf {A B : ZP} (hA : pwf A) (hB : pwf B) (h : A.1 * B.1 ≤ 6) : pwf (pprod A B) := by
  refine ⟨h, fun x y hx hy => ?_⟩
  have hx : x < A.1 * B.1 := hx
  have hy : y < A.1 * B.1 := hy
  have h0 : 0 < B.1 := by
    rcases Nat.eq_zero_or_pos B.1 with q | q
    · rw [q] at hx; omega
    · exact q
  have hx1 : x / B.1 < A.1 := Nat.div_lt_of_lt_mul (by rw [Nat.mul_comm]; exact hx)
  have hy1 : y / B.1 < A.1 := Nat.div_lt_of_lt_mul (by rw [Nat.mul_comm]; exact hy)
  have e1 := hA.2 _ _ hx1 hy1
  have e2 := hB.2 (x % B.1) (y % B.1) (Nat.mod_lt _ h0) (Nat.mod_lt _ h0)
  exact ⟨pprod_lt e1.1 e2.1, pprod_lt e1.2 e2.2⟩
section
variable {G : ZG} {M : ZM} {Z : Option ZV → ZM → Prop}
theorem s_PM_setBlock {k i j x y : Nat} {A B : ZP} (hk : k < 10) (hi : i < 10) (hj : j < 10) (hki : k ≠ i) (hkj : k ≠ j) (hA : isPM M i A) (hB : isPM M j B) (h6 : A.1 * B.1 ≤ 6) (hx : x < A.1) (hy : y < A.1) (hZ : ∀ M', winv M k B.1 (fun a b => 8 * (B.1 * x + a) + (B.1 * y + b)) (fun a b => 8 * (B.1 * A.2.1 x y + B.2.1 a b) + (B.1 * A.2.2 x y + B.2.2 a b)) B.1 0 M' → Z none M') : Ctr 0 G mi_PM_setBlock [zr 0 k, zr 0 i, zr 0 j, zi (nI x), zi (nI y)] M Z := by
  have hn := hA.1.1
  have hm := hB.1.1
  have hLRA := hA.1.2 x y hx hy
  refine go_PM_setBlock (fun Kz hKz => ?_)
  conv => whnf
  refine ⟨by first | assumption | decide, ?_⟩
  conv => whnf
  refine ⟨by first | assumption | decide, ?_⟩
  conv => whnf
  refine s_PM_left hi hA hx hy ?_
  conv => whnf
  refine ⟨by first | assumption | decide, ?_⟩
  conv => whnf
  refine s_PM_right hi hA hx hy ?_
  conv => whnf
  refine hKz _ _ _ _ ?_
  rw [hB.2.1, pk_mul, pk_mul]
  have hp : ∀ {M' : ZM} {a b : Nat}, winv M k B.1 (fun a b => 8 * (B.1 * x + a) + (B.1 * y + b)) (fun a b => 8 * (B.1 * A.2.1 x y + B.2.1 a b) + (B.1 * A.2.2 x y + B.2.2 a b)) a b M' → isPM M' j B := fun h => isPM_same hB h.1 (fun q => absurd q.1 (by decide)) (fun q => hkj q.2.symm)
  refine wloop0 (n := B.1) (inv := winv M k B.1 (fun a b => 8 * (B.1 * x + a) + (B.1 * y + b)) (fun a b => 8 * (B.1 * A.2.1 x y + B.2.1 a b) + (B.1 * A.2.2 x y + B.2.2 a b))) (O := fun z M' => V 0 G mi_PM_setBlock Z 33 [(0, zr 0 k), (2, zr 0 j), (3, zi (nI x)), (4, zi (nI y)), (5, zi (nI B.1)), (6, zi (nI (A.2.1 x y * B.1))), (7, zi (nI (A.2.2 x y * B.1))), (8, zi (nI z))] [] M') (I := fun z w M' => V 0 G mi_PM_setBlock Z 43 [(0, zr 0 k), (2, zr 0 j), (3, zi (nI x)), (4, zi (nI y)), (5, zi (nI B.1)), (6, zi (nI (A.2.1 x y * B.1))), (7, zi (nI (A.2.2 x y * B.1))), (8, zi (nI z)), (9, zi (nI w))] [] M') (winv_start _ _ _ _ _) (fun x M' h => winv_next h) (fun M' h => ?_) (fun z hz M' h h9 => ?_) (fun z hz M' h h9 => ?_) (fun z w hz hw M' h h8 => ?_)
  · refine z_run (cuts := cu_PM_setBlock) ok_PM_setBlock (fun Kz hKz => ?_)
    conv => whnf
    rw [nI_leI (by omega) (by omega)]
    refine ⟨fun _ => ?_, fun q => absurd (Nat.le_refl _) q⟩
    conv => whnf
    exact hZ M' h
  · refine z_run (cuts := cu_PM_setBlock) ok_PM_setBlock (fun Kz hKz => ?_)
    conv => whnf
    rw [nI_leI (by omega) (by omega)]
    refine ⟨fun q => absurd q (by omega), fun _ => ?_⟩
    conv => whnf
    refine hKz _ _ _ _ ?_
    exact h9
  · refine z_run (cuts := cu_PM_setBlock) ok_PM_setBlock (fun Kz hKz => ?_)
    conv => whnf
    rw [nI_leI (by omega) (by omega)]
    refine ⟨fun _ => ?_, fun q => absurd (Nat.le_refl _) q⟩
    conv => whnf
    refine hKz _ _ _ _ ?_
    rw [nI_1']
    exact h9
  · have hB' := hp h
    have hLR := hB.1.2 z w hz hw
    have b1 := pprod_lt hx hz
    have b2 := pprod_lt hy hw
    have b3 := pprod_lt hLRA.1 hLR.1
    have b4 := pprod_lt hLRA.2 hLR.2
    refine z_run (cuts := cu_PM_setBlock) ok_PM_setBlock (fun Kz hKz => ?_)
    conv => whnf
    rw [nI_leI (by omega) (by omega)]
    refine ⟨fun q => absurd q (by omega), fun _ => ?_⟩
    conv => whnf
    refine ⟨by first | assumption | decide, ?_⟩
    conv => whnf
    refine s_PM_left hj hB' hz hw ?_
    conv => whnf
    refine ⟨by first | assumption | decide, ?_⟩
    conv => whnf
    refine s_PM_right hj hB' hz hw ?_
    conv => whnf
    refine ⟨by first | assumption | decide, ?_⟩
    conv => whnf
    rw [pk_mul, pk_mul, nI_add, nI_add, nI_add, nI_add, Nat.mul_comm x, Nat.mul_comm y, Nat.mul_comm (A.2.1 x y), Nat.mul_comm (A.2.2 x y)]
    refine s_PM_setImage hk (by omega) (by omega) (by omega) (by omega) ?_
    conv => whnf
    refine hKz _ _ _ _ ?_
    rw [nI_1', Nat.mul_comm B.1 (A.2.1 x y), Nat.mul_comm B.1 (A.2.2 x y)]
    have h7 := h8 _ (winv_step (pos := fun a b => 8 * (B.1 * x + a) + (B.1 * y + b)) (val := fun a b => 8 * (B.1 * A.2.1 x y + B.2.1 a b) + (B.1 * A.2.2 x y + B.2.2 a b)) hz hw (fun a b ha hb he => by
      have c1 := pprod_lt hx ha
      have c2 := pprod_lt hy hb
      omega) h)
    rw [Nat.mul_comm B.1 (A.2.1 x y), Nat.mul_comm B.1 (A.2.2 x y)] at h7
    exact h7
/-- what a product's map has when the blocks before (x, y) are done -/
def pbinv (M : ZM) (k : Nat) (A B : ZP) (x y : Nat) (M' : ZM) : Prop := zsm (rwS k) M M' ∧ ∀ a b, a < A.1 → b < A.1 → (a < x ∨ (a = x ∧ b < y)) → ∀ z w, z < B.1 → w < B.1 → M'.1 1 k (8 * (B.1 * a + z) + (B.1 * b + w)) = nI (8 * (B.1 * A.2.1 a b + B.2.1 z w) + (B.1 * A.2.2 a b + B.2.2 z w))
theorem s_PM_becomeProduct {k i j : Nat} {A B : ZP} (hk : k < 10) (hi : i < 10) (hj : j < 10) (hki : k ≠ i) (hkj : k ≠ j) (hA : isPM M i A) (hB : isPM M j B) (h6 : A.1 * B.1 ≤ 6) (hZ : ∀ M', zsm (pmS k) M M' → isPM M' k (pprod A B) → Z none M') : Ctr 0 G mi_PM_becomeProduct [zr 0 k, zr 0 i, zr 0 j] M Z := by
  have hn := hA.1.1
  have hm := hB.1.1
  refine go_PM_becomeProduct (fun Kz hKz => ?_)
  conv => whnf
  refine ⟨by first | assumption | decide, ?_⟩
  conv => whnf
  refine ⟨by first | assumption | decide, ?_⟩
  conv => whnf
  refine ⟨by first | assumption | decide, ?_⟩
  conv => whnf
  refine hKz _ _ _ _ ?_
  rw [hA.2.1, hB.2.1, pk_mul]
  have hs0 : zsm (pmS k) M (zset 0 k 1 (nI (A.1 * B.1)) M) := zsm_set ⟨Or.inl rfl, rfl⟩
  have hA0 : isPM (zset 0 k 1 (nI (A.1 * B.1)) M) i A := isPM_same hA hs0 (fun q => hki q.2.symm) (fun q => hki q.2.symm)
  have hB0 : isPM (zset 0 k 1 (nI (A.1 * B.1)) M) j B := isPM_same hB hs0 (fun q => hkj q.2.symm) (fun q => hkj q.2.symm)
  have hpA : ∀ {M' : ZM}, zsm (rwS k) (zset 0 k 1 (nI (A.1 * B.1)) M) M' → isPM M' i A := fun h => isPM_same hA0 h (fun q => absurd q.1 (by decide)) (fun q => hki q.2.symm)
  have hpB : ∀ {M' : ZM}, zsm (rwS k) (zset 0 k 1 (nI (A.1 * B.1)) M) M' → isPM M' j B := fun h => isPM_same hB0 h (fun q => absurd q.1 (by decide)) (fun q => hkj q.2.symm)
  refine wloop0 (n := A.1) (inv := pbinv (zset 0 k 1 (nI (A.1 * B.1)) M) k A B) (O := fun x M' => V 0 G mi_PM_becomeProduct Z 15 [(0, zr 0 k), (1, zr 0 i), (2, zr 0 j), (3, zi (nI x))] [] M') (I := fun x y M' => V 0 G mi_PM_becomeProduct Z 26 [(0, zr 0 k), (1, zr 0 i), (2, zr 0 j), (3, zi (nI x)), (4, zi (nI y))] [] M') ⟨zsm_refl _ _, fun a b _ _ q => by omega⟩ (fun x M' h => ⟨h.1, fun a b ha hb q => h.2 a b ha hb (by omega)⟩) (fun M' h => ?_) (fun x hx M' h h9 => ?_) (fun x hx M' h h9 => ?_) (fun x y hx hy M' h h8 => ?_)
  · refine z_run (cuts := cu_PM_becomeProduct) ok_PM_becomeProduct (fun Kz hKz => ?_)
    conv => whnf
    refine ⟨by first | assumption | decide, ?_⟩
    conv => whnf
    rw [(hpA h.1).2.1, nI_leI (by omega) (by omega)]
    refine ⟨fun _ => ?_, fun q => absurd (Nat.le_refl _) q⟩
    conv => whnf
    refine hZ M' (zsm_trans hs0 (zsm_mono h.1 (fun a b q => ⟨Or.inr q.1, q.2⟩))) ⟨pprod_wf hA.1 hB.1 h6, ?_, fun x y hx hy => ?_⟩
    · rw [h.1.2 0 k (fun q => absurd q.1 (by decide)), zset_eq]
      rfl
    · have hx : x < A.1 * B.1 := hx
      have hy : y < A.1 * B.1 := hy
      have h0 : 0 < B.1 := by
        rcases Nat.eq_zero_or_pos B.1 with q | q
        · rw [q] at hx; omega
        · exact q
      have hx1 : x / B.1 < A.1 := Nat.div_lt_of_lt_mul (by rw [Nat.mul_comm]; exact hx)
      have hy1 : y / B.1 < A.1 := Nat.div_lt_of_lt_mul (by rw [Nat.mul_comm]; exact hy)
      have e := h.2 _ _ hx1 hy1 (Or.inl hx1) (x % B.1) (y % B.1) (Nat.mod_lt _ h0) (Nat.mod_lt _ h0)
      rw [Nat.div_add_mod, Nat.div_add_mod] at e
      exact e
  · refine z_run (cuts := cu_PM_becomeProduct) ok_PM_becomeProduct (fun Kz hKz => ?_)
    conv => whnf
    refine ⟨by first | assumption | decide, ?_⟩
    conv => whnf
    rw [(hpA h.1).2.1, nI_leI (by omega) (by omega)]
    refine ⟨fun q => absurd q (by omega), fun _ => ?_⟩
    conv => whnf
    refine hKz _ _ _ _ ?_
    exact h9
  · refine z_run (cuts := cu_PM_becomeProduct) ok_PM_becomeProduct (fun Kz hKz => ?_)
    conv => whnf
    refine ⟨by first | assumption | decide, ?_⟩
    conv => whnf
    rw [(hpA h.1).2.1, nI_leI (by omega) (by omega)]
    refine ⟨fun _ => ?_, fun q => absurd (Nat.le_refl _) q⟩
    conv => whnf
    refine hKz _ _ _ _ ?_
    rw [nI_1']
    exact h9
  · refine z_run (cuts := cu_PM_becomeProduct) ok_PM_becomeProduct (fun Kz hKz => ?_)
    conv => whnf
    refine ⟨by first | assumption | decide, ?_⟩
    conv => whnf
    rw [(hpA h.1).2.1, nI_leI (by omega) (by omega)]
    refine ⟨fun q => absurd q (by omega), fun _ => ?_⟩
    conv => whnf
    refine ⟨by first | assumption | decide, ?_⟩
    conv => whnf
    refine s_PM_setBlock hk hi hj hki hkj (hpA h.1) (hpB h.1) h6 hx hy (fun M2 h2 => ?_)
    conv => whnf
    refine hKz _ _ _ _ ?_
    rw [nI_1']
    refine h8 M2 ⟨zsm_trans h.1 h2.1, fun a b ha hb q z w hz hw => ?_⟩
    by_cases hab : a = x ∧ b = y
    · obtain ⟨rfl, rfl⟩ := hab
      exact h2.2.1 z w hz hw (Or.inl hz)
    · have e := h2.2.2 (8 * (B.1 * a + z) + (B.1 * b + w)) (fun z' w' hz' hw' _ he => by
        have c1 := pprod_lt ha hz
        have c2 := pprod_lt hb hw
        have c3 := pprod_lt hx hz'
        have c4 := pprod_lt hy hw'
        dsimp only at he
        have d1 : B.1 * x + z' = B.1 * a + z := by omega
        have d2 : B.1 * y + w' = B.1 * b + w := by omega
        have e1 := congrArg (· / B.1) d1
        have e2 := congrArg (· / B.1) d2
        have h0 : 0 < B.1 := by omega
        simp only [Nat.mul_add_div h0, Nat.div_eq_of_lt hz, Nat.div_eq_of_lt hz', Nat.div_eq_of_lt hw, Nat.div_eq_of_lt hw', Nat.add_zero] at e1 e2
        exact hab ⟨e1.symm, e2.symm⟩)
      rw [e]
      exact h.2 a b ha hb (by omega) z w hz hw
end
