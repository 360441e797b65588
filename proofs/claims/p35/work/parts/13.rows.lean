/-! tuples as lists of numbers, and their turned codes -/
def tcl (w : List Nat) : Nat := w.foldl (fun a d => 8 * a + d) 0
theorem tcl_fold (w : List Nat) : ∀ a, w.foldl (fun a d => 8 * a + d) a = a * 8 ^ w.length + tcl w := by
  induction w with
  | nil => intro a; simp [tcl]
  | cons d r ih =>
    intro a
    rw [tcl, List.foldl_cons, List.foldl_cons, ih, ih (8 * 0 + d), List.length_cons, Nat.pow_succ, Nat.add_mul, Nat.mul_zero, Nat.zero_add, Nat.add_assoc, Nat.mul_comm 8 a, Nat.mul_assoc, Nat.mul_comm 8]
theorem tcl_app (u v : List Nat) : tcl (u ++ v) = tcl u * 8 ^ v.length + tcl v := by
  rw [tcl, List.foldl_append, tcl_fold]
  rfl
theorem tcl_lt {w : List Nat} (h : ∀ d ∈ w, d < 8) : tcl w < 8 ^ w.length := by
  induction w with
  | nil => exact Nat.one_pos
  | cons d r ih =>
    have h1 := ih (fun x hx => h x (List.mem_cons_of_mem _ hx))
    have h2 := h d List.mem_cons_self
    have e : tcl (d :: r) = d * 8 ^ r.length + tcl r := by
      have := tcl_app [d] r
      simpa [tcl] using this
    rw [e, List.length_cons, Nat.pow_succ]
    have h3 : d * 8 ^ r.length ≤ 7 * 8 ^ r.length := Nat.mul_le_mul_right _ (by omega)
    omega
/-- 8 ^ s * (64 * h + p) + l with p turned into q, by exclusive or -/
theorem n_swap {s h p q l : Nat} (hp : p < 64) (hq : q < 64) (hl : l < 8 ^ s) : (8 ^ s * (64 * h + p) + l) ^^^ ((p ^^^ q) * 8 ^ s) = 8 ^ s * (64 * h + q) + l := by
  have e8 : ∀ i, 8 ^ i = 2 ^ (3 * i) := fun i => by rw [Nat.pow_mul]
  rw [e8] at hl ⊢
  have hx : ∀ z, z < 64 → ∀ b, (64 * h + z).testBit b = if b < 6 then z.testBit b else h.testBit (b - 6) := by
    intro z hz b
    rw [show 64 * h + z = 2 ^ 6 * h + z from rfl, Nat.testBit_two_pow_mul_add _ (by omega)]
  apply Nat.eq_of_testBit_eq
  intro b
  rw [Nat.testBit_xor, Nat.testBit_two_pow_mul_add _ hl, Nat.testBit_two_pow_mul_add _ hl, Nat.mul_comm (p ^^^ q), Nat.testBit_two_pow_mul, hx p hp, hx q hq, Nat.testBit_xor]
  by_cases h1 : b < 3 * s
  · have h2 : ¬ 3 * s ≤ b := by omega
    simp [h1, h2]
  · have h2 : 3 * s ≤ b := by omega
    by_cases h3 : b - 3 * s < 6
    · simp only [h1, h2, h3, if_true, if_false, ge_iff_le, decide_true, Bool.true_and]
      cases p.testBit (b - 3 * s) <;> cases q.testBit (b - 3 * s) <;> rfl
    · have hp6 : p.testBit (b - 3 * s) = false := Nat.testBit_lt_two_pow (Nat.lt_of_lt_of_le hp (by rw [show 64 = 2 ^ 6 from rfl]; exact Nat.pow_le_pow_right (by decide) (by omega)))
      have hq6 : q.testBit (b - 3 * s) = false := Nat.testBit_lt_two_pow (Nat.lt_of_lt_of_le hq (by rw [show 64 = 2 ^ 6 from rfl]; exact Nat.pow_le_pow_right (by decide) (by omega)))
      simp [h1, h2, h3, hp6, hq6]
/-! rows of images that are written one by one -/
def rwS (k : Nat) : Nat → Nat → Prop := fun a b => a = 1 ∧ b = k
def winv (M : ZM) (k n : Nat) (pos val : Nat → Nat → Nat) (x y : Nat) (M' : ZM) : Prop :=
  zsm (rwS k) M M' ∧ (∀ a b, a < n → b < n → (a < x ∨ (a = x ∧ b < y)) → M'.1 1 k (pos a b) = nI (val a b)) ∧ ∀ c, (∀ a b, a < n → b < n → (a < x ∨ (a = x ∧ b < y)) → pos a b ≠ c) → M'.1 1 k c = M.1 1 k c
theorem winv_start (M : ZM) (k n : Nat) (pos val : Nat → Nat → Nat) : winv M k n pos val 0 0 M := ⟨zsm_refl _ _, fun a b _ _ h => by omega, fun _ _ => rfl⟩
theorem winv_next {M M' : ZM} {k n : Nat} {pos val : Nat → Nat → Nat} {x : Nat} (h : winv M k n pos val x n M') : winv M k n pos val (x + 1) 0 M' :=
  ⟨h.1, fun a b ha hb q => h.2.1 a b ha hb (by omega), fun c q => h.2.2 c (fun a b ha hb q2 => q a b ha hb (by omega))⟩
theorem winv_step {M M' : ZM} {k n : Nat} {pos val : Nat → Nat → Nat} {x y : Nat} (hx : x < n) (hy : y < n) (hinj : ∀ a b, a < n → b < n → pos a b = pos x y → a = x ∧ b = y) (h : winv M k n pos val x y M') : winv M k n pos val x (y + 1) (zset 1 k (pos x y) (nI (val x y)) M') := by
  refine ⟨zsm_trans h.1 (zsm_set ⟨rfl, rfl⟩), fun a b ha hb q => ?_, fun c q => ?_⟩
  · by_cases hp : pos a b = pos x y
    · obtain ⟨rfl, rfl⟩ := hinj a b ha hb hp
      exact zset_eq
    · rw [zset_ne (fun z => hp z.2.2)]
      exact h.2.1 a b ha hb (by
        rcases q with q | ⟨rfl, q⟩
        · exact Or.inl q
        · rcases Nat.lt_succ_iff_lt_or_eq.mp q with q | rfl
          · exact Or.inr ⟨rfl, q⟩
          · exact absurd rfl hp)
  · rw [zset_ne (fun z => q x y hx hy (Or.inr ⟨rfl, Nat.lt_succ_self y⟩) z.2.2.symm)]
    exact h.2.2 c (fun a b ha hb q2 => q a b ha hb (by omega))
theorem winv_pts {M M' : ZM} {k n : Nat} {pos val : Nat → Nat → Nat} {x y : Nat} (h : winv M k n pos val x y M') : M'.1 0 k 1 = M.1 0 k 1 := by
  rw [h.1.2 0 k (fun q => absurd q.1 (by decide))]
theorem pos8_inj {n x y : Nat} (hn : n ≤ 6) (hx : x < n) (hy : y < n) : ∀ a b, a < n → b < n → 8 * a + b = 8 * x + y → a = x ∧ b = y := by
  intro a b ha hb h
  omega
theorem winv_end {M M' : ZM} {k n : Nat} {v : Int32} {pos val : Nat → Nat → Nat} (h : winv (zset 0 k 1 v M) k n pos val n 0 M') : zsm (pmS k) M M' ∧ M'.1 0 k 1 = v ∧ ∀ x y, x < n → y < n → M'.1 1 k (pos x y) = nI (val x y) := by
  refine ⟨zsm_trans (zsm_set (a := 0) (b := k) (c := 1) (v := v) ⟨Or.inl rfl, rfl⟩) (zsm_mono h.1 ?_), by rw [winv_pts h, zset_eq], fun x y hx hy => h.2.1 x y hx hy (Or.inl hx)⟩
  intro a b q
  exact ⟨Or.inr q.1, q.2⟩
/-- two loops, one in the other, that write the images one by one -/
theorem wloop {M0 : ZM} {k n : Nat} {pos val : Nat → Nat → Nat} {O : Nat → ZM → Prop} {I : Nat → Nat → ZM → Prop} (hinj : ∀ x y, x < n → y < n → ∀ a b, a < n → b < n → pos a b = pos x y → a = x ∧ b = y)
    (h1 : ∀ M', winv M0 k n pos val n 0 M' → O n M') (h2 : ∀ x, x < n → ∀ M', I x 0 M' → O x M') (h3 : ∀ x, x < n → ∀ M', O (x + 1) M' → I x n M')
    (h4 : ∀ x y, x < n → y < n → ∀ M', winv M0 k n pos val x y M' → I x (y + 1) (zset 1 k (pos x y) (nI (val x y)) M') → I x y M') : O 0 M0 := by
  have out : ∀ x, x ≤ n → ∀ M', winv M0 k n pos val x 0 M' → O x M' := by
    refine up_to h1 ?_
    intro x hx ih M' h
    have inn : ∀ y, y ≤ n → ∀ M', winv M0 k n pos val x y M' → I x y M' := by
      refine up_to (fun M' h => h3 x hx M' (ih M' (winv_next h))) ?_
      intro y hy ih2 M' h
      exact h4 x y hx hy M' h (ih2 _ (winv_step hx hy (hinj x y hx hy) h))
    exact h2 x hx M' (inn 0 (Nat.zero_le _) M' h)
  exact out 0 (Nat.zero_le _) _ (winv_start _ _ _ _ _)
/-- the same, with any invariant -/
theorem wloop0 {M0 : ZM} {n : Nat} {O : Nat → ZM → Prop} {I : Nat → Nat → ZM → Prop} {inv : Nat → Nat → ZM → Prop} (h0 : inv 0 0 M0) (hn : ∀ x M', inv x n M' → inv (x + 1) 0 M')
    (h1 : ∀ M', inv n 0 M' → O n M') (h2 : ∀ x, x < n → ∀ M', inv x 0 M' → I x 0 M' → O x M') (h3 : ∀ x, x < n → ∀ M', inv x n M' → O (x + 1) M' → I x n M')
    (h4 : ∀ x y, x < n → y < n → ∀ M', inv x y M' → (∀ M'', inv x (y + 1) M'' → I x (y + 1) M'') → I x y M') : O 0 M0 := by
  have out : ∀ x, x ≤ n → ∀ M', inv x 0 M' → O x M' := by
    refine up_to h1 ?_
    intro x hx ih M' h
    have inn : ∀ y, y ≤ n → ∀ M', inv x y M' → I x y M' := by
      refine up_to (fun M' h => h3 x hx M' h (ih M' (hn x M' h))) ?_
      intro y hy ih2 M' h
      exact h4 x y hx hy M' h ih2
    exact h2 x hx M' h (inn 0 (Nat.zero_le _) M' h)
  exact out 0 (Nat.zero_le _) _ h0
theorem d8 (m i : Nat) : m / 8 ^ i % 8 < 8 := Nat.mod_lt _ (by decide)
section
variable {G : ZG} {M : ZM} {Z : Option ZV → ZM → Prop}
theorem s_PM_appliedAt {k x y : Nat} {u v : List Nat} {A : ZP} (hk : k < 10) (hA : isPM M k A) (hx : x < A.1) (hy : y < A.1) (hu : ∀ d ∈ u, d < 8) (hv : ∀ d ∈ v, d < 8) (hl : u.length + v.length ≤ 2) (hZ : Z (some (zi (nI (tcl (u ++ [A.2.1 x y, A.2.2 x y] ++ v))))) M) : Ctr 0 G mi_PM_appliedAt [zr 0 k, zi (nI (tcl (u ++ [x, y] ++ v))), zi (nI (3 * v.length))] M Z := by
  have hn := hA.1.1
  have hLR := hA.1.2 x y hx hy
  have e : ∀ a b, tcl (u ++ [a, b] ++ v) = 8 ^ v.length * (64 * tcl u + (8 * a + b)) + tcl v := by
    intro a b
    rw [tcl_app, tcl_app, show tcl [a, b] = 8 * a + b by simp [tcl], show [a, b].length = 2 from rfl, Nat.mul_comm (8 ^ v.length), Nat.mul_comm (tcl u)]
  have hvl := tcl_lt hv
  have hul := tcl_lt hu
  have hp : 0 < 8 ^ v.length := Nat.pow_pos (by decide)
  have hb : tcl (u ++ [x, y] ++ v) < 4096 := by
    have h1 := tcl_lt (w := u ++ [x, y] ++ v) (by
      intro d hd
      simp only [List.mem_append, List.mem_cons, List.not_mem_nil, or_false] at hd
      rcases hd with (h | h | h) | h
      · exact hu d h
      · omega
      · omega
      · exact hv d h)
    have h2 : 8 ^ (u ++ [x, y] ++ v).length ≤ 8 ^ 4 := Nat.pow_le_pow_right (by decide) (by simp; omega)
    omega
  refine go_PM_appliedAt (fun Kz hKz => ?_)
  conv => whnf
  have h64 : nI (tcl (u ++ [x, y] ++ v)) >>> (nI (3 * v.length) &&& 31) &&& nI 63 = nI (8 * x + y) := by
    rw [n_shr _ (by omega) (by omega), n_and, show (63 : Nat) = 2 ^ 6 - 1 from rfl, Nat.and_two_pow_sub_one_eq_mod, Nat.pow_mul, e, show (2 : Nat) ^ 3 = 8 from rfl, Nat.mul_add_div hp, Nat.div_eq_of_lt hvl]
    congr 1
    omega
  rw [h64]
  refine ⟨by first | assumption | decide, ?_⟩
  conv => whnf
  refine s_PM_imageOf hk (by omega) ?_
  conv => whnf
  rw [hA.2.2 x y hx hy, n_xor, n_shl _ _ (by omega), n_xor, Nat.pow_mul, e, show (2 : Nat) ^ 3 = 8 from rfl, n_swap (by omega) (by omega) hvl, ← e]
  exact hZ
end
