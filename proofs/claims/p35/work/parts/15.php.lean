/-! counting: as many pigeons as holes -/
theorem php : ∀ (n : Nat) (f : Nat → Nat), (∀ i, i ≤ n → f i < n) → ∃ i j, i < j ∧ j ≤ n ∧ f i = f j := by
  intro n
  induction n with
  | zero => intro f h; exact absurd (h 0 (Nat.le_refl 0)) (Nat.not_lt_zero _)
  | succ n ih =>
    intro f h
    by_cases hx : ∃ i, i ≤ n ∧ f i = f (n + 1)
    · obtain ⟨i, hi, he⟩ := hx
      exact ⟨i, n + 1, by omega, Nat.le_refl _, he⟩
    · have hne : ∀ i, i ≤ n → f i ≠ f (n + 1) := fun i hi he => hx ⟨i, hi, he⟩
      obtain ⟨i, j, hij, hj, he⟩ := ih (fun i => if f i = n then f (n + 1) else f i) (fun i hi => by
        have h1 := h i (by omega)
        have h2 := h (n + 1) (Nat.le_refl _)
        have h3 := hne i hi
        by_cases hc : f i = n
        · simp only [hc, if_true]; omega
        · simp only [hc, if_false]; omega)
      refine ⟨i, j, hij, by omega, ?_⟩
      have h1 := hne i (by omega)
      have h2 := hne j hj
      by_cases hc : f i = n
      · by_cases hd : f j = n
        · rw [hc, hd]
        · rw [if_pos hc, if_neg hd] at he
          exact absurd he.symm h2
      · by_cases hd : f j = n
        · rw [if_neg hc, if_pos hd] at he
          exact absurd he h1
        · rw [if_neg hc, if_neg hd] at he
          exact he
theorem inj_surj {n : Nat} {f : Nat → Nat} (hf : ∀ i, i < n → f i < n) (hinj : ∀ i j, i < n → j < n → f i = f j → i = j) : ∀ v, v < n → ∃ i, i < n ∧ f i = v := by
  intro v hv
  refine Classical.byContradiction fun hno => ?_
  have hne : ∀ i, i < n → f i ≠ v := fun i hi he => hno ⟨i, hi, he⟩
  obtain ⟨m, rfl⟩ : ∃ m, n = m + 1 := ⟨n - 1, by omega⟩
  obtain ⟨i, j, hij, hj, he⟩ := php m (fun i => if f i = m then v else f i) (fun i hi => by
    have h1 := hf i (by omega)
    have h3 := hne i (by omega)
    by_cases hc : f i = m
    · simp only [hc, if_true]
      have : f i ≠ v := h3
      omega
    · simp only [hc, if_false]; omega)
  have h1 := hne i (by omega)
  have h2 := hne j (by omega)
  have : f i = f j := by
    by_cases hc : f i = m
    · by_cases hd : f j = m
      · rw [hc, hd]
      · rw [if_pos hc, if_neg hd] at he
        exact absurd he.symm h2
    · by_cases hd : f j = m
      · rw [if_neg hc, if_pos hd] at he
        exact absurd he h1
      · rw [if_neg hc, if_neg hd] at he
        exact he
  have := hinj i j (by omega) (by omega) this
  omega
theorem surj_inj {n : Nat} {f : Nat → Nat} (hf : ∀ i, i < n → f i < n) (hs : ∀ v, v < n → ∃ i, i < n ∧ f i = v) : ∀ i j, i < n → j < n → f i = f j → i = j := by
  have h : ∀ v, ∃ i, v < n → i < n ∧ f i = v := by
    intro v
    by_cases hv : v < n
    · obtain ⟨i, hi⟩ := hs v hv
      exact ⟨i, fun _ => hi⟩
    · exact ⟨0, fun q => absurd q hv⟩
  obtain ⟨g, hg⟩ := Classical.axiomOfChoice h
  have gs := inj_surj (f := g) (fun v hv => (hg v hv).1) (fun v w hv hw e => by rw [← (hg v hv).2, ← (hg w hw).2, e])
  intro i j hi hj he
  obtain ⟨v, hv, rfl⟩ := gs i hi
  obtain ⟨w, hw, rfl⟩ := gs j hj
  rw [(hg v hv).2, (hg w hw).2] at he
  rw [he]
theorem st8_bit (m : Nat) : ∀ k v, (st8 m k).testBit v = true ↔ ∃ i, i < k ∧ m / 8 ^ i % 8 = v := by
  intro k
  induction k with
  | zero => intro v; simp [st8]
  | succ k ih =>
    intro v
    rw [st8, Nat.testBit_or, Bool.or_eq_true, ih, Nat.testBit_two_pow]
    constructor
    · rintro (⟨i, hi, he⟩ | h)
      · exact ⟨i, by omega, he⟩
      · exact ⟨k, by omega, of_decide_eq_true h⟩
    · rintro ⟨i, hi, he⟩
      rcases Nat.lt_succ_iff_lt_or_eq.mp hi with h | rfl
      · exact Or.inl ⟨i, h, he⟩
      · exact Or.inr (decide_eq_true he)
/-- number i of a code -/
def dg (m i : Nat) : Nat := m / 8 ^ i % 8
theorem isP_facts {m n : Nat} (h : isP m n) : (∀ i, i < n → dg m i < n) ∧ (∀ i j, i < n → j < n → dg m i = dg m j → i = j) ∧ ∀ v, v < n → ∃ i, i < n ∧ dg m i = v := by
  have h1 : ∀ i, i < n → dg m i < n := h.1.2
  have h2 : ∀ v, v < n → ∃ i, i < n ∧ dg m i = v := by
    intro v hv
    have hb : (st8 m n).testBit v = true := by rw [h.2, Nat.testBit_two_pow_sub_one]; exact decide_eq_true hv
    exact (st8_bit m n v).mp hb
  exact ⟨h1, surj_inj h1 h2, h2⟩
theorem isP_of {m n : Nat} (hc : isC m n n) (hinj : ∀ i j, i < n → j < n → dg m i = dg m j → i = j) : isP m n := by
  refine ⟨hc, Nat.eq_of_testBit_eq fun v => ?_⟩
  rw [Nat.testBit_two_pow_sub_one, Bool.eq_iff_iff, st8_bit]
  constructor
  · rintro ⟨i, hi, rfl⟩
    exact decide_eq_true (hc.2 i hi)
  · intro hv
    exact inj_surj (f := dg m) hc.2 hinj v (of_decide_eq_true hv)
/-! maps made of maps -/
def pinj (A : ZP) : Prop := ∀ x y x' y', x < A.1 → y < A.1 → x' < A.1 → y' < A.1 → A.2.1 x y = A.2.1 x' y' → A.2.2 x y = A.2.2 x' y' → x = x' ∧ y = y'
theorem pinj_surj {A : ZP} (hw : pwf A) (hi : pinj A) : ∀ p q, p < A.1 → q < A.1 → ∃ z : Nat × Nat, z.1 < A.1 ∧ z.2 < A.1 ∧ A.2.1 z.1 z.2 = p ∧ A.2.2 z.1 z.2 = q := by
  intro p q hp hq
  have h0 : 0 < A.1 := by omega
  have e : ∀ a b, b < A.1 → (A.1 * a + b) / A.1 = a ∧ (A.1 * a + b) % A.1 = b := by
    intro a b hb
    exact ⟨by rw [Nat.mul_add_div h0, Nat.div_eq_of_lt hb, Nat.add_zero], by rw [Nat.mul_add_mod, Nat.mod_eq_of_lt hb]⟩
  have lt : ∀ a b, a < A.1 → b < A.1 → A.1 * a + b < A.1 * A.1 := by
    intro a b ha hb
    have : A.1 * (a + 1) ≤ A.1 * A.1 := Nat.mul_le_mul_left _ ha
    rw [Nat.mul_add] at this
    omega
  have dv : ∀ i, i < A.1 * A.1 → i / A.1 < A.1 ∧ i % A.1 < A.1 := fun i hi => ⟨Nat.div_lt_of_lt_mul hi, Nat.mod_lt _ h0⟩
  obtain ⟨i, hi1, hi2⟩ := inj_surj (n := A.1 * A.1) (f := fun i => A.1 * A.2.1 (i / A.1) (i % A.1) + A.2.2 (i / A.1) (i % A.1)) (fun i h => by
    have h1 := dv i h
    have h2 := hw.2 _ _ h1.1 h1.2
    exact lt _ _ h2.1 h2.2) (fun i j h h' he => by
    have h1 := dv i h
    have h2 := dv j h'
    have h3 := hw.2 _ _ h1.1 h1.2
    have h4 := hw.2 _ _ h2.1 h2.2
    have h5 := congrArg (· / A.1) he
    have h6 := congrArg (· % A.1) he
    simp only [(e _ _ h3.2).1, (e _ _ h4.2).1, (e _ _ h3.2).2, (e _ _ h4.2).2] at h5 h6
    have h7 := hi _ _ _ _ h1.1 h1.2 h2.1 h2.2 h5 h6
    rw [← Nat.div_add_mod i A.1, ← Nat.div_add_mod j A.1, h7.1, h7.2]) (A.1 * p + q) (lt p q hp hq)
  have h1 := dv i hi1
  have h3 := hw.2 _ _ h1.1 h1.2
  have h5 := congrArg (· / A.1) hi2
  have h6 := congrArg (· % A.1) hi2
  simp only [(e _ _ h3.2).1, (e _ _ hq).1, (e _ _ h3.2).2, (e _ _ hq).2] at h5 h6
  exact ⟨(i / A.1, i % A.1), h1.1, h1.2, h5, h6⟩
noncomputable def pinvz (A : ZP) (p q : Nat) : Nat × Nat := Classical.epsilon fun z : Nat × Nat => z.1 < A.1 ∧ z.2 < A.1 ∧ A.2.1 z.1 z.2 = p ∧ A.2.2 z.1 z.2 = q
/-- the inverse map -/
noncomputable def pinv (A : ZP) : ZP := (A.1, fun p q => (pinvz A p q).1, fun p q => (pinvz A p q).2)
theorem pinvz_spec {A : ZP} (hw : pwf A) (hi : pinj A) {p q : Nat} (hp : p < A.1) (hq : q < A.1) : (pinvz A p q).1 < A.1 ∧ (pinvz A p q).2 < A.1 ∧ A.2.1 (pinvz A p q).1 (pinvz A p q).2 = p ∧ A.2.2 (pinvz A p q).1 (pinvz A p q).2 = q :=
  Classical.epsilon_spec (pinj_surj hw hi p q hp hq)
theorem pinvz_of {A : ZP} (hw : pwf A) (hi : pinj A) {x y : Nat} (hx : x < A.1) (hy : y < A.1) : pinvz A (A.2.1 x y) (A.2.2 x y) = (x, y) := by
  have h0 := hw.2 x y hx hy
  have h1 := pinvz_spec hw hi h0.1 h0.2
  have h2 := hi _ _ _ _ h1.1 h1.2.1 hx hy h1.2.2.1 h1.2.2.2
  exact Prod.ext h2.1 h2.2
theorem pinv_wf {A : ZP} (hw : pwf A) (hi : pinj A) : pwf (pinv A) := ⟨hw.1, fun p q hp hq => by
  have h := pinvz_spec hw hi (show p < A.1 from hp) (show q < A.1 from hq)
  exact ⟨h.1, h.2.1⟩⟩
/-- a map's points renamed by f, g the names backward -/
def pren (A : ZP) (f g : Nat → Nat) : ZP := (A.1, fun x y => f (A.2.1 (g x) (g y)), fun x y => f (A.2.2 (g x) (g y)))
def pmir (A : ZP) : ZP := (A.1, fun x y => A.2.2 y x, fun x y => A.2.1 y x)
def puni (A B : ZP) : ZP := (A.1 + B.1, fun x y => if x < A.1 then (if y < A.1 then A.2.1 x y else y) else (if y < A.1 then y else A.1 + B.2.1 (x - A.1) (y - A.1)), fun x y => if x < A.1 then (if y < A.1 then A.2.2 x y else x) else (if y < A.1 then x else A.1 + B.2.2 (x - A.1) (y - A.1)))
def pprod (A B : ZP) : ZP := (A.1 * B.1, fun x y => B.1 * A.2.1 (x / B.1) (y / B.1) + B.2.1 (x % B.1) (y % B.1), fun x y => B.1 * A.2.2 (x / B.1) (y / B.1) + B.2.2 (x % B.1) (y % B.1))
def ptwist (n f g : Nat) : ZP := (n, fun _ y => dg f y, fun x _ => dg g x)
def pflip (n : Nat) : ZP := (n, fun _ y => y, fun x _ => x)
