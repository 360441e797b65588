/-! the codes of units, in their order -/
def unl (n : Nat) : List Nat := (List.range n).filter (un n)
def uc (n : Nat) : Nat → Nat → Nat
  | 0, _ => 0
  | k + 1, j => (unl n).getD (j % (unl n).length) 0 + 8 * uc n k (j / (unl n).length)
theorem unl_is : ∀ n, n < 7 → 2 ≤ n → 0 < (unl n).length ∧ (unl n).length = cnt (un n) n ∧ (∀ i, i < (unl n).length → un n ((unl n).getD i 0) = true) ∧ (∀ i, i < (unl n).length → ∀ j, j < i → (unl n).getD j 0 < (unl n).getD i 0) ∧ ∀ m, m < n → un n m = true → ∃ i, i < (unl n).length ∧ (unl n).getD i 0 = m := by
  have h : ∀ n, n < 7 → ∀ (_ : 2 ≤ n), (0 < (unl n).length ∧ (unl n).length = cnt (un n) n ∧ (∀ i, i < (unl n).length → un n ((unl n).getD i 0) = true) ∧ (∀ i, i < (unl n).length → ∀ j, j < i → (unl n).getD j 0 < (unl n).getD i 0)) := by decide +kernel
  have h2 : ∀ n, n < 7 → ∀ m, m < n → un n m = true → decide (fnd (fun i => decide ((unl n).getD i 0 = m)) (unl n).length < (unl n).length) = true := by decide +kernel
  intro n hn hn2
  obtain ⟨a, b, c, d⟩ := h n hn hn2
  refine ⟨a, b, c, d, fun m hm hu => ?_⟩
  have q := of_decide_eq_true (h2 n hn m hm hu)
  exact ⟨_, q, of_decide_eq_true (fnd_is (fun i => decide ((unl n).getD i 0 = m)) _ q)⟩
theorem uc_lt {n : Nat} (h6 : n < 7) (h2 : 2 ≤ n) : ∀ k j, uc n k j < 8 ^ k := by
  have h := unl_is n h6 h2
  intro k
  induction k with
  | zero => intro j; exact Nat.one_pos
  | succ k ih =>
    intro j
    have h3 := ih (j / (unl n).length)
    have h4 := (un_iff.mp (h.2.2.1 _ (Nat.mod_lt j h.1))).2.1
    rw [uc, Nat.pow_succ]
    omega
theorem uc_mono {n : Nat} (h6 : n < 7) (h2 : 2 ≤ n) : ∀ k i j, i < j → j < (unl n).length ^ k → uc n k i < uc n k j := by
  have h := unl_is n h6 h2
  intro k
  induction k with
  | zero => intro i j h3 h4; rw [Nat.pow_zero] at h4; omega
  | succ k ih =>
    intro i j h3 h4
    have a1 := (un_iff.mp (h.2.2.1 _ (Nat.mod_lt i h.1))).2.1
    have a2 := (un_iff.mp (h.2.2.1 _ (Nat.mod_lt j h.1))).2.1
    rw [uc, uc]
    rcases Nat.lt_or_ge (i / (unl n).length) (j / (unl n).length) with q | q
    · have := ih _ _ q (Nat.div_lt_of_lt_mul (by rw [Nat.mul_comm]; exact h4))
      omega
    · have e : i / (unl n).length = j / (unl n).length := Nat.le_antisymm (Nat.div_le_div_right (Nat.le_of_lt h3)) q
      have e1 := Nat.div_add_mod i (unl n).length
      have e2 := Nat.div_add_mod j (unl n).length
      rw [e] at e1 ⊢
      have := h.2.2.2.1 _ (Nat.mod_lt j h.1) (i % (unl n).length) (by omega)
      omega
theorem uc_surj {n : Nat} (h6 : n < 7) (h2 : 2 ≤ n) : ∀ k v, v < 8 ^ k → (∀ a, a < k → un n (dg v a) = true) → ∃ j, j < (unl n).length ^ k ∧ uc n k j = v := by
  have h := unl_is n h6 h2
  intro k
  induction k with
  | zero => intro v hv _; rw [Nat.pow_zero] at hv; exact ⟨0, Nat.one_pos, by rw [uc]; omega⟩
  | succ k ih =>
    intro v hv hd
    obtain ⟨j, h3, h4⟩ := ih (v / 8) (by rw [Nat.pow_succ] at hv; omega) (fun a ha => by
      have := hd (a + 1) (by omega)
      unfold dg at this ⊢
      rw [Nat.div_div_eq_div_mul, Nat.mul_comm, ← Nat.pow_succ]
      exact this)
    have h0 := hd 0 (by omega)
    unfold dg at h0
    rw [Nat.pow_zero, Nat.div_one] at h0
    obtain ⟨i, h5, h7⟩ := h.2.2.2.2 _ (un_iff.mp h0).2.1 h0
    refine ⟨(unl n).length * j + i, ?_, ?_⟩
    · have : (unl n).length * (j + 1) ≤ (unl n).length * (unl n).length ^ k := Nat.mul_le_mul_left _ h3
      rw [Nat.pow_succ, Nat.mul_comm ((unl n).length ^ k)]
      rw [Nat.mul_add] at this
      omega
    · rw [uc, (dvm h5).1, (dvm h5).2, h4, h7]
      omega
theorem uc_dig {n : Nat} (h6 : n < 7) (h2 : 2 ≤ n) : ∀ k j a, a < k → un n (dg (uc n k j) a) = true := by
  have h := unl_is n h6 h2
  intro k
  induction k with
  | zero => intro j a ha; exact absurd ha (Nat.not_lt_zero _)
  | succ k ih =>
    intro j a ha
    have hu := h.2.2.1 _ (Nat.mod_lt j h.1)
    have a1 := (un_iff.mp hu).2.1
    cases a with
    | zero =>
      unfold dg
      rw [uc, Nat.pow_zero, Nat.div_one, Nat.add_mul_mod_self_left, Nat.mod_eq_of_lt (by omega)]
      exact hu
    | succ a =>
      have := ih (j / (unl n).length) a (by omega)
      unfold dg at this ⊢
      rw [uc, Nat.pow_succ, Nat.mul_comm (8 ^ a) 8, ← Nat.div_div_eq_div_mul, Nat.add_mul_div_left _ _ (by decide : 0 < 8), Nat.div_eq_of_lt (show (unl n).getD (j % (unl n).length) 0 < 8 by omega), Nat.zero_add]
      exact this
/-- counting along what is met in its order -/
theorem cnt_map {g : Nat → Nat} {N B : Nat} {p : Nat → Bool} (hm : ∀ i j, i < j → j < N → g i < g j) (hs : ∀ v, v < B → p v = true → ∃ i, i < N ∧ g i = v) : ∀ v, v ≤ B → ∀ j, j ≤ N → (∀ i, i < j → g i < v) → (∀ i, j ≤ i → i < N → v ≤ g i) → cnt p v = cnt (fun i => p (g i)) j := by
  intro v
  induction v with
  | zero =>
    intro _ j hj h1 _
    cases j with
    | zero => rfl
    | succ j => exact absurd (h1 j (by omega)) (Nat.not_lt_zero _)
  | succ v ih =>
    intro hv j hj h1 h2
    by_cases q : ∃ i, i + 1 = j ∧ g i = v
    · obtain ⟨i, rfl, hg⟩ := q
      have h3 := ih (by omega) i (by omega) (fun i' hi' => by rw [← hg]; exact hm _ _ hi' (by omega)) (fun i' h4 h5 => by
        rcases Nat.lt_or_eq_of_le h4 with h6 | rfl
        · have := hm _ _ h6 h5; omega
        · omega)
      rw [cnt, cnt, h3, hg]
    · have hne : ∀ i, i < N → g i ≠ v := by
        intro i hi he
        rcases Nat.lt_or_ge i j with h3 | h3
        · rcases Nat.lt_or_eq_of_le (show i + 1 ≤ j from h3) with h4 | h4
          · have := hm i (i + 1) (by omega) (by omega)
            have := h1 (i + 1) h4
            omega
          · exact q ⟨i, h4, he⟩
        · have := h2 i h3 hi; omega
      have hp : p v = false := by
        cases hp : p v with
        | false => rfl
        | true => obtain ⟨i, h3, h4⟩ := hs v (by omega) hp; exact absurd h4 (hne i h3)
      have h3 := ih (by omega) j hj (fun i hi => by have := h1 i hi; have := hne i (by omega); omega) (fun i h4 h5 => by have := h2 i h4 h5; omega)
      rw [cnt, hp, h3]
      rfl
/-- the next units -/
def ua (n m : Nat) : Nat := if fnd (fun v => decide (m < v) && un n v) n < n then fnd (fun v => decide (m < v) && un n v) n else 1
def nuw (n : Nat) : Nat → Nat → Nat → Nat
  | 0, _, r => r
  | f + 1, a, r => if ua n (dg r a) ≤ dg r a then nuw n f (a + 1) (r - dg r a * 8 ^ a + ua n (dg r a) * 8 ^ a) else r - dg r a * 8 ^ a + ua n (dg r a) * 8 ^ a
def nxb (n : Nat) : Bool := (List.range ((unl n).length ^ n - 1)).all fun j => decide (nuw n n 0 (uc n n j) = uc n n (j + 1))
theorem nxb_all : ∀ n, n < 7 → 2 ≤ n → nxb n = true := by decide +kernel
theorem nx_is {n j : Nat} (h6 : n < 7) (h2 : 2 ≤ n) (hj : j + 1 < (unl n).length ^ n) : nuw n n 0 (uc n n j) = uc n n (j + 1) :=
  of_decide_eq_true (List.all_eq_true.mp (nxb_all n h6 h2) j (List.mem_range.mpr (by omega)))
def ons : Nat → Nat
  | 0 => 0
  | k + 1 => ons k ||| 2 ^ (3 * k)
theorem ons_is : ∀ n, n < 7 → 2 ≤ n → uc n n 0 = ons n := by decide +kernel
theorem nI_wrap (x c : Nat) : nI (x + 2 ^ 32 * c) = nI x := n_ext (by
  rw [n_bv, n_bv]
  refine BitVec.eq_of_toNat_eq ?_
  rw [BitVec.toNat_ofNat, BitVec.toNat_ofNat, Nat.add_mul_mod_self_left])
theorem dig_sub : ∀ a, a < 8 → ∀ b, b < 8 → nI a - nI b = nI (a + (4294967296 - b)) := by decide +kernel
theorem dig_le (r a : Nat) : dg r a * 8 ^ a ≤ r := by
  unfold dg
  exact Nat.le_trans (Nat.mul_le_mul_right _ (Nat.mod_le _ _)) (Nat.div_mul_le_self _ _)
theorem ua_lt {n : Nat} (h2 : 2 ≤ n) (m : Nat) : ua n m < n := by
  unfold ua
  split
  · assumption
  · omega
section
variable {G : ZG} {M : ZM} {Z : Option ZV → ZM → Prop}
/-- what tells the codes of braces -/
def isBr (n : Nat) (p : Nat → Bool) : Prop := ∀ v, p v = true ↔ areU n v ∧ bra n v
theorem isBr_uniq {n : Nat} {p q : Nat → Bool} (h : isBr n p) (h' : isBr n q) : p = q := funext fun v => by
  rw [Bool.eq_iff_iff]
  exact (h v).trans (h' v).symm
theorem isBr_ex (n : Nat) : ∃ p, isBr n p := ⟨fun v => @decide (areU n v ∧ bra n v) (Classical.propDecidable _), fun v => @decide_eq_true_iff _ (Classical.propDecidable _)⟩
theorem br_cnt {n : Nat} {p : Nat → Bool} (h2 : 2 ≤ n) (h6 : n ≤ 6) (hp : isBr n p) : (∀ j, j < (unl n).length ^ n → cnt p (uc n n j) = cnt (fun i => p (uc n n i)) j) ∧ cnt p (8 ^ n) = cnt (fun i => p (uc n n i)) ((unl n).length ^ n) := by
  have hm : ∀ i j, i < j → j < (unl n).length ^ n → uc n n i < uc n n j := uc_mono (by omega) h2 n
  have hs : ∀ v, v < 8 ^ n → p v = true → ∃ i, i < (unl n).length ^ n ∧ uc n n i = v := fun v hv h => uc_surj (by omega) h2 n v hv ((hp v).mp h).1.2
  have hl := uc_lt (n := n) (by omega) h2 n
  refine ⟨fun j hj => cnt_map hm hs _ (Nat.le_of_lt (hl j)) j (Nat.le_of_lt hj) (fun i hi => hm i j hi hj) (fun i hi hi2 => ?_), cnt_map hm hs _ (Nat.le_refl _) _ (Nat.le_refl _) (fun i _ => hl i) (fun i hi hi2 => by omega)⟩
  rcases Nat.lt_or_eq_of_le hi with q | rfl
  · exact Nat.le_of_lt (hm _ _ q hi2)
  · exact Nat.le_refl _
theorem uc_br {n : Nat} {p : Nat → Bool} (h2 : 2 ≤ n) (h6 : n ≤ 6) (hp : isBr n p) (j : Nat) : p (uc n n j) = true ↔ bra n (uc n n j) := by
  rw [hp]
  exact ⟨fun h => h.2, fun h => ⟨⟨uc_lt (by omega) h2 n j, uc_dig (by omega) h2 n j⟩, h⟩⟩
theorem cands_le : ∀ n, n < 7 → (unl n).length ^ n ≤ 1024 := by decide +kernel
theorem n_m1le {i : Nat} (hi : i < 2 ^ 32) : (-1 : Int32) ≤ nI i ↔ (i < 2 ^ 31 ∨ i = 4294967295) := by
  have e : (-1 : Int32).toInt = -1 := by decide
  rw [Int32.le_iff_toInt_le, e]
  by_cases h : i < 2 ^ 31
  · rw [nI_toInt h]; omega
  · rw [n_neg (by omega) hi]; omega
theorem n_m1ne {i : Nat} (hi : i < 2 ^ 32) : (¬ nI i = (-1 : Int32)) ↔ i ≠ 4294967295 := by
  rw [n_m1, n_eq hi (by decide)]
end
