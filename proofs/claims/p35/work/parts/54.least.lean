/-! the L of a renamed map as a number; which listed map a map is like -/
def ora (f : Nat → Nat) : Nat → Nat
  | 0 => 0
  | k + 1 => ora f k ||| f k
theorem ora_bit (f : Nat → Nat) : ∀ k b, (ora f k).testBit b = true ↔ ∃ j, j < k ∧ (f j).testBit b = true := by
  intro k
  induction k with
  | zero => intro b; rw [ora, Nat.zero_testBit]; exact ⟨fun h => (by cases h), fun ⟨j, h, _⟩ => absurd h (Nat.not_lt_zero _)⟩
  | succ k ih =>
    intro b
    rw [ora, Nat.testBit_or, Bool.or_eq_true, ih b]
    constructor
    · rintro (⟨j, h1, h2⟩ | h)
      · exact ⟨j, by omega, h2⟩
      · exact ⟨k, by omega, h⟩
    · rintro ⟨j, h1, h2⟩
      rcases Nat.lt_succ_iff_lt_or_eq.mp h1 with h1 | rfl
      · exact Or.inl ⟨j, h1, h2⟩
      · exact Or.inr h2
theorem ora_lt {f : Nat → Nat} {b : Nat} : ∀ k, (∀ i, i < k → f i < 2 ^ b) → ora f k < 2 ^ b := by
  intro k
  induction k with
  | zero => intro _; exact Nat.two_pow_pos b
  | succ k ih => intro h; exact Nat.or_lt_two_pow (ih fun i hi => h i (by omega)) (h k (by omega))
theorem tb_mul (v e b : Nat) : (v * 2 ^ e).testBit b = (decide (e ≤ b) && v.testBit (b - e)) := by
  rw [← Nat.shiftLeft_eq, Nat.testBit_shiftLeft]
theorem tb_dig (N e b : Nat) : (N / 2 ^ e % 2 ^ 4).testBit b = (decide (b < 4) && N.testBit (e + b)) := by
  rw [Nat.testBit_mod_two_pow, Nat.testBit_div_two_pow]
  first | rfl | rw [Nat.add_comm]
theorem ora_digit {f v e : Nat → Nat} {k : Nat} (hf : ∀ j, j < k → f j = v j * 2 ^ (4 * e j)) (hv : ∀ j, j < k → v j < 16) (he : ∀ i j, i < k → j < k → e i = e j → i = j) {i : Nat} (hi : i < k) : ora f k / 2 ^ (4 * e i) % 2 ^ 4 = v i := by
  apply Nat.eq_of_testBit_eq
  intro b
  rw [tb_dig]
  by_cases hb : b < 4
  · rw [decide_eq_true hb, Bool.true_and, Bool.eq_iff_iff, ora_bit]
    constructor
    · rintro ⟨j, h1, h2⟩
      rw [hf j h1, tb_mul, Bool.and_eq_true] at h2
      have h3 := of_decide_eq_true h2.1
      have h4 : 4 * e i + b - 4 * e j < 4 := by
        refine Classical.byContradiction fun q => ?_
        have h5 := h2.2
        rw [Nat.testBit_lt_two_pow (Nat.lt_of_lt_of_le (hv j h1) (show 16 ≤ 2 ^ (4 * e i + b - 4 * e j) from Nat.le_trans (show 16 ≤ 2 ^ 4 by decide) (Nat.pow_le_pow_right (by decide) (by omega))))] at h5
        cases h5
      have h6 : j = i := he j i h1 hi (by omega)
      rw [h6, show 4 * e i + b - 4 * e i = b by omega] at h2
      exact h2.2
    · intro h
      refine ⟨i, hi, ?_⟩
      rw [hf i hi, tb_mul, show 4 * e i + b - 4 * e i = b by omega, h, Bool.and_true]
      exact decide_eq_true (by omega)
  · rw [decide_eq_false hb, Bool.false_and, Nat.testBit_lt_two_pow (Nat.lt_of_lt_of_le (hv i hi) (show 16 ≤ 2 ^ b from Nat.le_trans (show 16 ≤ 2 ^ 4 by decide) (Nat.pow_le_pow_right (by decide) (by omega))))]
def rrt (A : ZP) (w : List Nat) (j : Nat) : Nat := gw w (A.2.1 (j / A.1) (j % A.1)) * 2 ^ (4 * (A.1 * A.1 - 1 - (A.1 * gw w (j / A.1) + gw w (j % A.1))))
def rr (A : ZP) (w : List Nat) : Nat := ora (rrt A w) (A.1 * A.1)
theorem rrt_at {A : ZP} {w : List Nat} {x y : Nat} (hy : y < A.1) : rrt A w (A.1 * x + y) = gw w (A.2.1 x y) * 2 ^ (4 * (A.1 * A.1 - 1 - (A.1 * gw w x + gw w y))) := by
  unfold rrt
  rw [(dvm hy).1, (dvm hy).2]
theorem rr_lt {A : ZP} {w : List Nat} (h4 : A.1 ≤ 4) (hA : pwf A) (hw : wv w A.1) : rr A w < 2 ^ 63 := by
  have hnn : A.1 * A.1 ≤ 4 * 4 := Nat.mul_le_mul h4 h4
  refine ora_lt _ fun j hj => ?_
  have h := dvlt hj
  have h1 := hw.2 _ (hA.2 _ _ h.1 h.2).1
  unfold rrt
  have h2 : gw w (A.2.1 (j / A.1) (j % A.1)) * 2 ^ (4 * (A.1 * A.1 - 1 - (A.1 * gw w (j / A.1) + gw w (j % A.1)))) < 2 ^ 3 * 2 ^ (4 * (A.1 * A.1 - 1 - (A.1 * gw w (j / A.1) + gw w (j % A.1)))) := Nat.mul_lt_mul_of_pos_right (by omega) (Nat.two_pow_pos _)
  rw [← Nat.pow_add] at h2
  exact Nat.lt_of_lt_of_le h2 (Nat.pow_le_pow_right (by decide) (by omega))
theorem rr_iso {A B : ZP} {w u v : List Nat} (hA : pwf A) (hAB : A.1 = B.1) (hw : wp w A.1) (hi : isoB A B w = true) (hc : ∀ x, x < A.1 → gw v x = gw u (gw w x)) : rr A v = rr B u := by
  have key : ∀ x y, x < A.1 → y < A.1 → rrt A v (A.1 * x + y) = rrt B u (A.1 * gw w x + gw w y) := by
    intro x y hx hy
    have h1 := hw.1.2 x hx
    have h2 := hw.1.2 y hy
    rw [rrt_at hy, hAB, rrt_at (by rw [← hAB]; exact h2), ← hAB, hc _ (hA.2 x y hx hy).1, hc x hx, hc y hy, (isoB_iff.mp hi x hx y hy).1]
  apply Nat.eq_of_testBit_eq
  intro b
  unfold rr
  rw [Bool.eq_iff_iff, ora_bit, ora_bit, ← hAB]
  constructor
  · rintro ⟨j, h1, h2⟩
    have h := dvlt h1
    refine ⟨A.1 * gw w (j / A.1) + gw w (j % A.1), prlt (hw.1.2 _ h.1) (hw.1.2 _ h.2), ?_⟩
    rw [← key _ _ h.1 h.2, Nat.div_add_mod]
    exact h2
  · rintro ⟨j, h1, h2⟩
    have h := dvlt h1
    obtain ⟨x, hx, ex⟩ := inj_surj hw.1.2 hw.2 _ h.1
    obtain ⟨y, hy, ey⟩ := inj_surj hw.1.2 hw.2 _ h.2
    refine ⟨A.1 * x + y, prlt hx hy, ?_⟩
    rw [key x y hx hy, ex, ey, Nat.div_add_mod]
    exact h2
theorem rr_dig {A : ZP} {w : List Nat} (hA : pwf A) (hw : wp w A.1) {x y : Nat} (hx : x < A.1) (hy : y < A.1) : rr A w / 2 ^ (4 * (A.1 * A.1 - 1 - (A.1 * gw w x + gw w y))) % 2 ^ 4 = gw w (A.2.1 x y) := by
  have h := ora_digit (f := rrt A w) (v := fun j => gw w (A.2.1 (j / A.1) (j % A.1))) (e := fun j => A.1 * A.1 - 1 - (A.1 * gw w (j / A.1) + gw w (j % A.1))) (k := A.1 * A.1) (fun j _ => rfl) (fun j hj => by
    have h := dvlt hj
    have h1 := hw.1.2 _ (hA.2 _ _ h.1 h.2).1
    have := hA.1
    show gw w _ < 16
    omega) (fun i j hi hj e => by
    have h1 := dvlt hi
    have h2 := dvlt hj
    have g1 := prlt (hw.1.2 _ h1.1) (hw.1.2 _ h1.2)
    have g2 := prlt (hw.1.2 _ h2.1) (hw.1.2 _ h2.2)
    have e2 : A.1 * gw w (i / A.1) + gw w (i % A.1) = A.1 * gw w (j / A.1) + gw w (j % A.1) := by omega
    have d1 := dvm (n := A.1) (x := gw w (i / A.1)) (hw.1.2 _ h1.2)
    have d2 := dvm (n := A.1) (x := gw w (j / A.1)) (hw.1.2 _ h2.2)
    have e3 := hw.2 _ _ h1.1 h2.1 (by rw [← d1.1, ← d2.1, e2])
    have e4 := hw.2 _ _ h1.2 h2.2 (by rw [← d1.2, ← d2.2, e2])
    rw [← Nat.div_add_mod i A.1, ← Nat.div_add_mod j A.1, e3, e4]) (prlt hx hy)
  simp only [(dvm hy).1, (dvm hy).2] at h
  exact h
/-! what is checked of the list by counting -/
def pw_B (n j : Nat) : Bool := decide (∀ x, x < n → gw (pw n j) x < n) && (decide (∀ x, x < n → ∀ y, y < n → gw (pw n j) x = gw (pw n j) y → x = y) && decide (lm (gw (pw n j)) n n = j))
theorem pw_all : ∀ n, n ≤ 4 → ∀ j, j < fac n → pw_B n j = true := by decide +kernel
theorem df_fac : ∀ n, n ≤ 6 → df n n = fac n := by decide
theorem pw_wp {n j : Nat} (h1 : 1 ≤ n) (h4 : n ≤ 4) (hj : j < fac n) : wp (pw n j) n ∧ lm (gw (pw n j)) n n = j := by
  have h := pw_all n h4 j hj
  unfold pw_B at h
  simp only [Bool.and_eq_true, decide_eq_true_eq] at h
  exact ⟨⟨wv_pw h1 j, fun i k hi hk => h.2.1 i hi k hk⟩, h.2.2⟩
theorem pw_full {n : Nat} (h1 : 1 ≤ n) (h4 : n ≤ 4) {u : List Nat} (hu : wp u n) : ∃ j, j < fac n ∧ pw n j = u := by
  have h := lm_lt (gw u) n n (Nat.le_refl _)
  rw [df_fac n (by omega)] at h
  have h2 := pw_wp h1 h4 h
  exact ⟨_, h, wp_lm (by omega) h2.1 hu h2.2⟩
def ckB (n i : Nat) : Bool := decide (∀ x, x < n → ∀ y, y < n → (plist n i).2.1 ((plist n i).2.1 x y) ((plist n i).2.2 x y) = x ∧ (plist n i).2.2 ((plist n i).2.1 x y) ((plist n i).2.2 x y) = y)
def ckL (n i : Nat) : Bool := decide (∀ x, x < n → ∀ y, y < n → ∀ z, z < n → (plist n i).2.1 x y = (plist n i).2.1 x z → y = z)
def ckR (n i : Nat) : Bool := decide (rr (plist n i) (List.range n) = rwn n i) && decide (∀ j, j < fac n → rwn n i ≤ rr (plist n i) (pw n j))
def ckD (n i : Nat) : Bool := decide (∀ j, j < i → rwn n j ≠ rwn n i)
theorem ck_all : ∀ n, n ≤ 4 → 1 ≤ n → ∀ i, i < sz n → (ckB n i && (ckL n i && (ckR n i && ckD n i))) = true := by decide +kernel
theorem ck_of {n i : Nat} (h1 : 1 ≤ n) (h4 : n ≤ 4) (hi : i < sz n) : pinvo (plist n i) ∧ plnd (plist n i) ∧ rr (plist n i) (List.range n) = rwn n i ∧ (∀ j, j < fac n → rwn n i ≤ rr (plist n i) (pw n j)) ∧ ∀ j, j < i → rwn n j ≠ rwn n i := by
  have h := ck_all n h4 h1 i hi
  simp only [Bool.and_eq_true] at h
  obtain ⟨hB, hL, hR, hD⟩ := h
  have hR2 := hR
  unfold ckR at hR2
  simp only [Bool.and_eq_true, decide_eq_true_eq] at hR2
  exact ⟨fun x y hx hy => of_decide_eq_true hB x hx y hy, (plnd_inj (plist_wf h1 h4 hi)).mpr fun x hx i j hi hj => of_decide_eq_true hL x hx i hi j hj, hR2.1, hR2.2, of_decide_eq_true hD⟩
