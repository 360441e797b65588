/-! cycles of a one-to-one step, and what is common to their lengths -/
theorem least_of {P : Nat → Prop} : ∀ n, P n → ∃ m, m ≤ n ∧ P m ∧ ∀ k, k < m → ¬ P k := by
  intro n
  induction n using Nat.strongRecOn with
  | _ n ih =>
    intro h
    by_cases q : ∃ k, k < n ∧ P k
    · obtain ⟨k, hk, hp⟩ := q
      obtain ⟨m, h1, h2, h3⟩ := ih k hk hp
      exact ⟨m, by omega, h2, h3⟩
    · exact ⟨n, Nat.le_refl _, h, fun k hk hp => q ⟨k, hk, hp⟩⟩
theorem itr_add (f : Nat → Nat) (p a : Nat) : ∀ b, itr f p (a + b) = itr f (itr f p a) b := by
  intro b
  induction b with
  | zero => rfl
  | succ b ih => rw [← Nat.add_assoc, itr, ih, itr]
def isCyc (f : Nat → Nat) (p c : Nat) : Prop := 0 < c ∧ itr f p c = p ∧ ∀ k, 0 < k → k < c → itr f p k ≠ p
theorem cyc_uniq {f : Nat → Nat} {p c c' : Nat} (h : isCyc f p c) (h' : isCyc f p c') : c = c' := by
  rcases Nat.lt_trichotomy c c' with q | q | q
  · exact absurd h.2.1 (h'.2.2 c h.1 q)
  · exact q
  · exact absurd h'.2.1 (h.2.2 c' h'.1 q)
section
variable {f : Nat → Nat} {N : Nat}
theorem itr_lt (hf : ∀ p, p < N → f p < N) {p : Nat} (hp : p < N) : ∀ k, itr f p k < N := by
  intro k
  induction k with
  | zero => exact hp
  | succ k ih => exact hf _ ih
theorem itr_inj (hf : ∀ p, p < N → f p < N) (hi : ∀ p q, p < N → q < N → f p = f q → p = q) {p q : Nat} (hp : p < N) (hq : q < N) : ∀ k, itr f p k = itr f q k → p = q := by
  intro k
  induction k with
  | zero => exact id
  | succ k ih => intro h; exact ih (hi _ _ (itr_lt hf hp k) (itr_lt hf hq k) h)
theorem itr_back (hf : ∀ p, p < N → f p < N) (hi : ∀ p q, p < N → q < N → f p = f q → p = q) {p i j : Nat} (hp : p < N) (hij : i ≤ j) (h : itr f p i = itr f p j) : itr f p (j - i) = p := by
  obtain ⟨d, rfl⟩ : ∃ d, j = d + i := ⟨j - i, by omega⟩
  rw [Nat.add_sub_cancel]
  rw [itr_add] at h
  exact (itr_inj hf hi hp (itr_lt hf hp d) i h).symm
theorem cyc_ex (hf : ∀ p, p < N → f p < N) (hi : ∀ p q, p < N → q < N → f p = f q → p = q) {p : Nat} (hp : p < N) : ∃ c, c ≤ N ∧ isCyc f p c := by
  obtain ⟨i, j, h1, h2, h3⟩ := php N (fun k => itr f p k) (fun k _ => itr_lt hf hp k)
  have h4 := itr_back hf hi hp (Nat.le_of_lt h1) h3
  obtain ⟨m, h5, h6, h7⟩ := least_of (P := fun c => 0 < c ∧ itr f p c = p) (j - i) ⟨by omega, h4⟩
  exact ⟨m, by omega, h6.1, h6.2, fun k q1 q2 q3 => h7 k q2 ⟨q1, q3⟩⟩
theorem cyc_dist (hf : ∀ p, p < N → f p < N) (hi : ∀ p q, p < N → q < N → f p = f q → p = q) {p c : Nat} (hp : p < N) (h : isCyc f p c) : ∀ i j, i < c → j < c → itr f p i = itr f p j → i = j := by
  intro i j h1 h2 h3
  rcases Nat.lt_trichotomy i j with q | q | q
  · exact absurd (itr_back hf hi hp (Nat.le_of_lt q) h3) (h.2.2 _ (by omega) (by omega))
  · exact q
  · exact absurd (itr_back hf hi hp (Nat.le_of_lt q) h3.symm) (h.2.2 _ (by omega) (by omega))
theorem cyc_along (hf : ∀ p, p < N → f p < N) (hi : ∀ p q, p < N → q < N → f p = f q → p = q) {p c : Nat} (hp : p < N) (h : isCyc f p c) (k : Nat) : isCyc f (itr f p k) c := by
  refine ⟨h.1, ?_, fun d h1 h2 h3 => h.2.2 d h1 h2 ?_⟩
  · rw [← itr_add, Nat.add_comm, itr_add, h.2.1]
  · rw [← itr_add, Nat.add_comm, itr_add] at h3
    exact itr_inj hf hi (itr_lt hf hp d) hp k h3
theorem bct_add (g : Nat → Nat) (U : Nat) : ∀ k, (∀ i, i < k → g i < N) → (∀ i j, i < k → j < k → g i = g j → i = j) → (∀ i, i < k → U.testBit (g i) = false) → bct (U ||| orf g k) N = bct U N + k := by
  intro k
  induction k with
  | zero => intro _ _ _; rw [orf, Nat.or_zero]; rfl
  | succ k ih =>
    intro h1 h2 h3
    have hb : (U ||| orf g k).testBit (g k) = false := by
      rw [Nat.testBit_or, h3 k (by omega), Bool.false_or, Bool.eq_false_iff]
      intro q
      obtain ⟨i, hi, he⟩ := (orf_bit g k (g k)).mp q
      have := h2 i k (by omega) (by omega) he
      omega
    rw [orf, ← Nat.or_assoc, bct_or, ih (fun i hi => h1 i (by omega)) (fun i j hi hj => h2 i j (by omega) (by omega)) (fun i hi => h3 i (by omega)), hb, if_pos (h1 k (by omega)), if_neg (by decide)]
    omega
theorem orf_lt2 {g : Nat → Nat} {v : Nat} (k : Nat) (h : (orf g k).testBit v = true) : ∃ i, i < k ∧ g i = v := (orf_bit g k v).mp h
def lcmU (C : Nat → Nat) : Nat → Nat
  | 0 => 1
  | j + 1 => Nat.lcm (lcmU C j) (C j)
def covU (f : Nat → Nat) (C : Nat → Nat) : Nat → Nat
  | 0 => 0
  | j + 1 => covU f C j ||| orf (itr f j) (C j)
theorem covU_bit (f : Nat → Nat) (C : Nat → Nat) : ∀ j v, (covU f C j).testBit v = true → ∃ p i, p < j ∧ i < C p ∧ itr f p i = v := by
  intro j
  induction j with
  | zero => intro v h; rw [covU, Nat.zero_testBit] at h; cases h
  | succ j ih =>
    intro v h
    rw [covU, Nat.testBit_or, Bool.or_eq_true] at h
    rcases h with h | h
    · obtain ⟨p, i, h1, h2, h3⟩ := ih v h
      exact ⟨p, i, by omega, h2, h3⟩
    · obtain ⟨i, h1, h2⟩ := (orf_bit _ _ _).mp h
      exact ⟨j, i, by omega, h1, h2⟩
theorem lcmU_pos {C : Nat → Nat} : ∀ j, (∀ p, p < j → 0 < C p) → 0 < lcmU C j := by
  intro j
  induction j with
  | zero => intro _; exact Nat.one_pos
  | succ j ih => intro h; exact Nat.lcm_pos (ih fun p hp => h p (by omega)) (h j (by omega))
theorem lcmU_dvd {C : Nat → Nat} : ∀ j p, p < j → C p ∣ lcmU C j := by
  intro j
  induction j with
  | zero => intro p hp; exact absurd hp (Nat.not_lt_zero _)
  | succ j ih =>
    intro p hp
    rcases Nat.lt_succ_iff_lt_or_eq.mp hp with hp | rfl
    · exact Nat.dvd_trans (ih p hp) (Nat.dvd_lcm_left _ _)
    · exact Nat.dvd_lcm_right _ _
theorem cube_le : ∀ c, c < 37 → c ^ 3 ≤ 3 ^ c := by decide
theorem lcmU_cube (hf : ∀ p, p < N → f p < N) (hi : ∀ p q, p < N → q < N → f p = f q → p = q) (hN : N ≤ 36) {C : Nat → Nat} (hC : ∀ p, p < N → C p ≤ N ∧ isCyc f p (C p)) : ∀ j, j ≤ N → lcmU C j ^ 3 ≤ 3 ^ bct (covU f C j) N := by
  intro j
  induction j with
  | zero => intro _; rw [lcmU, Nat.one_pow]; exact Nat.pow_pos (by decide)
  | succ j ih =>
    intro hj
    have hCj := hC j (by omega)
    have h := ih (by omega)
    by_cases q : ∃ i, i < C j ∧ (covU f C j).testBit (itr f j i) = true
    · obtain ⟨i, h1, h2⟩ := q
      obtain ⟨p, i', h3, h4, h5⟩ := covU_bit f C j _ h2
      have e1 := cyc_along hf hi (show p < N by omega) (hC p (by omega)).2 i'
      have e2 := cyc_along hf hi (show j < N by omega) hCj.2 i
      rw [h5] at e1
      have e := cyc_uniq e1 e2
      have hd := lcmU_dvd (C := C) j p h3
      rw [e] at hd
      rw [lcmU, Nat.lcm_eq_left hd]
      exact Nat.le_trans h (Nat.pow_le_pow_right (by decide) (bct_mono sub2_l N))
    · have hb := bct_add (N := N) (itr f j) (covU f C j) (C j) (fun i _ => itr_lt hf (by omega) i) (cyc_dist hf hi (by omega) hCj.2) (fun i hi2 => by
        cases hb : (covU f C j).testBit (itr f j i) with
        | false => rfl
        | true => exact absurd ⟨i, hi2, hb⟩ q)
      have hl : lcmU C (j + 1) ≤ lcmU C j * C j := Nat.le_of_dvd (Nat.mul_pos (lcmU_pos j fun p hp => (hC p (by omega)).2.1) hCj.2.1) (Nat.lcm_dvd_mul _ _)
      rw [covU, hb, Nat.pow_add]
      refine Nat.le_trans (Nat.pow_le_pow_left hl 3) ?_
      rw [Nat.mul_pow]
      exact Nat.mul_le_mul h (cube_le _ (by omega))
theorem lcmU_le (hf : ∀ p, p < N → f p < N) (hi : ∀ p q, p < N → q < N → f p = f q → p = q) (hN : N ≤ 36) {C : Nat → Nat} (hC : ∀ p, p < N → C p ≤ N ∧ isCyc f p (C p)) {j : Nat} (hj : j ≤ N) : lcmU C j ≤ 531441 := by
  have h := lcmU_cube hf hi hN hC j hj
  have h2 : (3 : Nat) ^ bct (covU f C j) N ≤ 3 ^ 36 := Nat.pow_le_pow_right (by decide) (Nat.le_trans (bct_le _ _) hN)
  rcases Nat.lt_or_ge 531441 (lcmU C j) with q | q
  · have h3 := Nat.pow_le_pow_left (show 531442 ≤ lcmU C j from q) 3
    have h4 : (3 : Nat) ^ 36 < 531442 ^ 3 := by decide
    omega
  · exact q
end
