/-- the set of the first k values of f -/
def orf (f : Nat → Nat) : Nat → Nat
  | 0 => 0
  | k + 1 => orf f k ||| 2 ^ f k
theorem orf_bit (f : Nat → Nat) : ∀ k v, (orf f k).testBit v = true ↔ ∃ i, i < k ∧ f i = v := by
  intro k
  induction k with
  | zero => intro v; simp [orf]
  | succ k ih =>
    intro v
    rw [orf, Nat.testBit_or, Bool.or_eq_true, ih, Nat.testBit_two_pow]
    constructor
    · rintro (⟨i, hi, he⟩ | h)
      · exact ⟨i, by omega, he⟩
      · exact ⟨k, by omega, of_decide_eq_true h⟩
    · rintro ⟨i, hi, he⟩
      rcases Nat.lt_succ_iff_lt_or_eq.mp hi with h | rfl
      · exact Or.inl ⟨i, h, he⟩
      · exact Or.inr (decide_eq_true he)
theorem orf_lt {f : Nat → Nat} {b : Nat} : ∀ k, (∀ i, i < k → f i < b) → orf f k < 2 ^ b := by
  intro k
  induction k with
  | zero => intro _; exact Nat.pow_pos (by decide)
  | succ k ih =>
    intro h
    exact Nat.or_lt_two_pow (ih fun i hi => h i (by omega)) (Nat.pow_lt_pow_right (by decide) (h k (by omega)))
theorem orf_congr {f g : Nat → Nat} : ∀ k, (∀ i, i < k → f i = g i) → orf f k = orf g k := by
  intro k
  induction k with
  | zero => intro _; rfl
  | succ k ih => intro h; rw [orf, orf, ih fun i hi => h i (by omega), h k (by omega)]
theorem orf_full {f : Nat → Nat} {n : Nat} (hf : ∀ i, i < n → f i < n) : orf f n = 2 ^ n - 1 ↔ ∀ i j, i < n → j < n → f i = f j → i = j := by
  constructor
  · intro h
    refine surj_inj hf fun v hv => ?_
    have hb : (orf f n).testBit v = true := by rw [h, Nat.testBit_two_pow_sub_one]; exact decide_eq_true hv
    exact (orf_bit f n v).mp hb
  · intro hi
    refine Nat.eq_of_testBit_eq fun v => ?_
    rw [Nat.testBit_two_pow_sub_one, Bool.eq_iff_iff, orf_bit]
    constructor
    · rintro ⟨i, hi, rfl⟩
      exact decide_eq_true (hf i hi)
    · intro hv
      exact inj_surj hf hi v (of_decide_eq_true hv)
theorem bct_or (r e : Nat) : ∀ k, bct (r ||| 2 ^ e) k = bct r k + (if e < k then (if r.testBit e then 0 else 1) else 0) := by
  intro k
  induction k with
  | zero => simp [bct]
  | succ k ih =>
    rw [bct, bct, ih, Nat.testBit_or, Nat.testBit_two_pow]
    by_cases he : e = k
    · subst he
      cases hr : r.testBit e <;> simp
    · have h1 : decide (e = k) = false := decide_eq_false he
      rw [h1, Bool.or_false]
      by_cases hk : e < k
      · have : e < k + 1 := by omega
        simp only [hk, this, if_true]
        omega
      · have : ¬ e < k + 1 := by omega
        simp only [hk, this, if_false]
        omega
theorem bct_orf {f : Nat → Nat} : ∀ k, (∀ i, i < k → f i < 64) → bct (orf f k) 64 ≤ k ∧ (bct (orf f k) 64 = k ↔ ∀ i j, i < k → j < k → f i = f j → i = j) := by
  intro k
  induction k with
  | zero =>
    intro _
    have : bct (orf f 0) 64 = 0 := (by decide : bct 0 64 = 0)
    exact ⟨by omega, fun _ i j hi => absurd hi (Nat.not_lt_zero _), fun _ => this⟩
  | succ k ih =>
    intro h
    obtain ⟨h1, h2⟩ := ih fun i hi => h i (by omega)
    rw [orf, bct_or, if_pos (h k (by omega))]
    by_cases hb : (orf f k).testBit (f k) = true
    · rw [if_pos hb]
      refine ⟨by omega, fun q => by omega, fun q => ?_⟩
      obtain ⟨i, hi, he⟩ := (orf_bit f k _).mp hb
      have := q i k (by omega) (by omega) he
      omega
    · rw [if_neg hb]
      refine ⟨by omega, fun q => ?_, fun q => ?_⟩
      · have h3 := h2.mp (by omega)
        intro i j hi hj he
        rcases Nat.lt_succ_iff_lt_or_eq.mp hi with hi | rfl
        · rcases Nat.lt_succ_iff_lt_or_eq.mp hj with hj | rfl
          · exact h3 i j hi hj he
          · exact absurd ((orf_bit f _ _).mpr ⟨i, hi, he⟩) hb
        · rcases Nat.lt_succ_iff_lt_or_eq.mp hj with hj | rfl
          · exact absurd ((orf_bit f _ _).mpr ⟨j, hj, he.symm⟩) hb
          · rfl
      · rw [h2.mpr fun i j hi hj he => q i j (by omega) (by omega) he]
/-- two loops, one in the other, that only read -/
theorem rloop {n m : Nat} {O : Nat → Prop} {I : Nat → Nat → Prop} (h1 : O n) (h2 : ∀ x, x < n → I x 0 → O x) (h3 : ∀ x, x < n → O (x + 1) → I x m) (h4 : ∀ x y, x < n → y < m → I x (y + 1) → I x y) : O 0 := by
  have out : ∀ x, x ≤ n → O x := by
    refine up_to h1 ?_
    intro x hx ih
    have inn : ∀ y, y ≤ m → I x y := up_to (h3 x hx ih) (fun y hy ih2 => h4 x y hx hy ih2)
    exact h2 x hx (inn 0 (Nat.zero_le _))
  exact out 0 (Nat.zero_le _)
/-- pair number j of a map's pairs -/
def pj (A : ZP) (c j : Nat) : Nat := c * A.2.1 (j / A.1) (j % A.1) + A.2.2 (j / A.1) (j % A.1)
theorem dvm {n x y : Nat} (hy : y < n) : (n * x + y) / n = x ∧ (n * x + y) % n = y := by
  have h0 : 0 < n := by omega
  exact ⟨by rw [Nat.mul_add_div h0, Nat.div_eq_of_lt hy, Nat.add_zero], by rw [Nat.mul_add_mod, Nat.mod_eq_of_lt hy]⟩
theorem dvlt {n j : Nat} (h : j < n * n) : j / n < n ∧ j % n < n := by
  have h0 : 0 < n := by
    rcases Nat.eq_zero_or_pos n with q | q
    · rw [q] at h; omega
    · exact q
  exact ⟨Nat.div_lt_of_lt_mul h, Nat.mod_lt _ h0⟩
theorem prlt {n x y : Nat} (hx : x < n) (hy : y < n) : n * x + y < n * n := by
  have : n * (x + 1) ≤ n * n := Nat.mul_le_mul_left _ hx
  rw [Nat.mul_add] at this
  omega
theorem pj_inj {A : ZP} {c : Nat} (hA : pwf A) (hc : A.1 ≤ c) : (∀ i j, i < A.1 * A.1 → j < A.1 * A.1 → pj A c i = pj A c j → i = j) ↔ pinj A := by
  constructor
  · intro h x y x' y' hx hy hx' hy' e1 e2
    have h1 := dvm (x := x) hy
    have h2 := dvm (x := x') hy'
    have := h _ _ (prlt hx hy) (prlt hx' hy') (by simp only [pj, h1.1, h1.2, h2.1, h2.2, e1, e2])
    have e3 := congrArg (· / A.1) this
    have e4 := congrArg (· % A.1) this
    simp only [h1.1, h1.2, h2.1, h2.2] at e3 e4
    exact ⟨e3, e4⟩
  · intro h i j hi hj he
    have h1 := dvlt hi
    have h2 := dvlt hj
    have h3 := hA.2 _ _ h1.1 h1.2
    have h4 := hA.2 _ _ h2.1 h2.2
    simp only [pj] at he
    have e := dvm (x := A.2.1 (i / A.1) (i % A.1)) (Nat.lt_of_lt_of_le h3.2 hc)
    have e' := dvm (x := A.2.1 (j / A.1) (j % A.1)) (Nat.lt_of_lt_of_le h4.2 hc)
    have e5 := congrArg (· / c) he
    have e6 := congrArg (· % c) he
    simp only [e.1, e.2, e'.1, e'.2] at e5 e6
    have := h _ _ _ _ h1.1 h1.2 h2.1 h2.2 e5 e6
    rw [← Nat.div_add_mod i A.1, ← Nat.div_add_mod j A.1, this.1, this.2]
section
variable {G : ZG} {M : ZM} {Z : Option ZV → ZM → Prop}
theorem s_CH_isBijective {k : Nat} {A : ZP} (hk : k < 10) (hA : isPM M k A) (h1 : pinj A → Z (some (zi (nI 1))) M) (h2 : ¬ pinj A → Z (some (zi (nI 0))) M) : Ctr 0 G mi_CH_isBijective [zr 0 k] M Z := by
  have hn := hA.1.1
  have hnn : A.1 * A.1 ≤ 6 * 6 := Nat.mul_le_mul hn hn
  have hlt : ∀ j, j < A.1 * A.1 → pj A 8 j < 64 := by
    intro j hj
    have h := dvlt hj
    have := hA.1.2 _ _ h.1 h.2
    unfold pj
    omega
  refine go_CH_isBijective (fun Kz hKz => ?_)
  conv => whnf
  refine ⟨by first | assumption | decide, ?_⟩
  conv => whnf
  refine s_PM_points hk ?_
  conv => whnf
  refine hKz _ _ _ _ ?_
  rw [hA.2.1, show (0 : Nat) = orf (pj A 8) (A.1 * 0) by rw [Nat.mul_zero]; rfl]
  refine rloop (n := A.1) (m := A.1) (O := fun x => V 0 G mi_CH_isBijective Z 10 [(0, zr 0 k), (1, zi (nI A.1)), (2, zl (lN (orf (pj A 8) (A.1 * x)))), (4, zi (nI x))] [] M) (I := fun x y => V 0 G mi_CH_isBijective Z 19 [(0, zr 0 k), (1, zi (nI A.1)), (2, zl (lN (orf (pj A 8) (A.1 * x + y)))), (4, zi (nI x)), (5, zi (nI y))] [] M) ?_ (fun x hx h => ?_) (fun x hx h => ?_) (fun x y hx hy h => ?_)
  · have hb := bct_orf (f := pj A 8) (A.1 * A.1) hlt
    have hol := orf_lt (f := pj A 8) (b := 64) (A.1 * A.1) hlt
    refine z_run (cuts := cu_CH_isBijective) ok_CH_isBijective (fun Kz hKz => ?_)
    conv => whnf
    rw [nI_leI (by omega) (by omega)]
    refine ⟨fun _ => ?_, fun q => absurd (Nat.le_refl _) q⟩
    conv => whnf
    refine s_JL_bitCount hol ?_
    conv => whnf
    rw [pk_mul, n_ne (by omega) (by omega)]
    refine ⟨fun q => ?_, fun q => ?_⟩
    · conv => whnf
      exact ⟨Or.inl rfl, h2 (fun z => q (hb.2.mpr ((pj_inj hA.1 (by omega)).mpr z)))⟩
    · conv => whnf
      exact ⟨Or.inr rfl, h1 ((pj_inj hA.1 (by omega)).mp (hb.2.mp (Classical.not_not.mp q)))⟩
  · refine z_run (cuts := cu_CH_isBijective) ok_CH_isBijective (fun Kz hKz => ?_)
    conv => whnf
    rw [nI_leI (by omega) (by omega)]
    refine ⟨fun q => absurd q (by omega), fun _ => ?_⟩
    conv => whnf
    refine hKz _ _ _ _ ?_
    exact h
  · refine z_run (cuts := cu_CH_isBijective) ok_CH_isBijective (fun Kz hKz => ?_)
    conv => whnf
    rw [nI_leI (by omega) (by omega)]
    refine ⟨fun _ => ?_, fun q => absurd (Nat.le_refl _) q⟩
    conv => whnf
    refine hKz _ _ _ _ ?_
    rw [nI_1', show A.1 * x + A.1 = A.1 * (x + 1) by rw [Nat.mul_add, Nat.mul_one]]
    exact h
  · have e := dvm (x := x) hy
    have hl := hlt _ (prlt hx hy)
    have he : pj A 8 (A.1 * x + y) = 8 * A.2.1 x y + A.2.2 x y := by unfold pj; rw [e.1, e.2]
    refine z_run (cuts := cu_CH_isBijective) ok_CH_isBijective (fun Kz hKz => ?_)
    conv => whnf
    rw [nI_leI (by omega) (by omega)]
    refine ⟨fun q => absurd q (by omega), fun _ => ?_⟩
    conv => whnf
    refine s_CO_pairOf (by omega) (by omega) ?_
    conv => whnf
    refine ⟨by first | assumption | decide, ?_⟩
    conv => whnf
    refine s_PM_imageOf hk (by omega) ?_
    conv => whnf
    refine hKz _ _ _ _ ?_
    rw [hA.2.2 x y hx hy, ← he, l_shl _ _ hl, Nat.one_mul, l_or, nI_1']
    exact h
end
