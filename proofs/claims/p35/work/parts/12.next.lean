theorem enc_zero {n : Nat} (h0 : 0 < n) (k : Nat) : enc n k 0 = 0 := by
  induction k with
  | zero => rfl
  | succ k ih => simp only [enc, Nat.zero_div, Nat.zero_mod, ih]
/-- 8 ^ i at once, from the i lowest places on -/
theorem enc_dig {n : Nat} (hn : n ≤ 8) (h0 : 0 < n) : ∀ (i k j : Nat), i < k → enc n k j / 8 ^ i % 8 = j / n ^ i % n := by
  intro i
  induction i with
  | zero =>
    intro k j hk
    obtain ⟨k, rfl⟩ : ∃ k', k = k' + 1 := ⟨k - 1, by omega⟩
    have h := Nat.mod_lt j h0
    simp only [enc, Nat.pow_zero, Nat.div_one]
    omega
  | succ i ih =>
    intro k j hk
    obtain ⟨k, rfl⟩ : ∃ k', k = k' + 1 := ⟨k - 1, by omega⟩
    have h := Nat.mod_lt j h0
    have e1 : enc n (k + 1) j / 8 ^ (i + 1) = enc n k (j / n) / 8 ^ i := by
      rw [Nat.pow_succ, Nat.mul_comm, ← Nat.div_div_eq_div_mul]
      congr 1
      simp only [enc]
      omega
    rw [e1, ih k (j / n) (by omega), Nat.pow_succ, Nat.mul_comm, Nat.div_div_eq_div_mul]
theorem enc_shift {n : Nat} (h0 : 0 < n) : ∀ (i k X : Nat), i ≤ k → enc n k (n ^ i * X) = 8 ^ i * enc n (k - i) X := by
  intro i
  induction i with
  | zero => intro k X _; simp
  | succ i ih =>
    intro k X hk
    obtain ⟨k, rfl⟩ : ∃ k', k = k' + 1 := ⟨k - 1, by omega⟩
    have e : n ^ (i + 1) * X = n * (n ^ i * X) := by rw [Nat.pow_succ, Nat.mul_comm (n ^ i) n, Nat.mul_assoc]
    simp only [enc]
    rw [e, Nat.mul_mod_right, Nat.mul_div_cancel_left _ h0, ih k X (by omega), Nat.pow_succ, show k + 1 - (i + 1) = k - i by omega, Nat.mul_comm (8 ^ i) 8, Nat.mul_assoc]
    rfl
theorem n_clr {i q d : Nat} (hd : d < 8) (h : 8 ^ i * (8 * q + d) < 2 ^ 32) : 8 ^ i * (8 * q + d) &&& (7 * 8 ^ i ^^^ 4294967295) = 8 ^ (i + 1) * q := by
  have e8 : ∀ i, 8 ^ i = 2 ^ (3 * i) := fun i => by rw [Nat.pow_mul]
  apply Nat.eq_of_testBit_eq
  intro b
  rw [Nat.testBit_and, Nat.testBit_xor, show (4294967295 : Nat) = 2 ^ 32 - 1 from rfl, Nat.testBit_two_pow_sub_one, Nat.mul_comm 7, show (7 : Nat) = 2 ^ 3 - 1 from rfl]
  by_cases hb : 32 ≤ b
  · have h1 : (8 ^ i * (8 * q + d)).testBit b = false := Nat.testBit_lt_two_pow (Nat.lt_of_lt_of_le h (Nat.pow_le_pow_right (by decide) hb))
    have h2 : (8 ^ (i + 1) * q).testBit b = false := by
      apply Nat.testBit_lt_two_pow
      refine Nat.lt_of_le_of_lt ?_ (Nat.lt_of_lt_of_le h (Nat.pow_le_pow_right (by decide) hb))
      rw [Nat.pow_succ, Nat.mul_assoc]
      exact Nat.mul_le_mul_left _ (by omega)
    rw [h1, h2, Bool.false_and]
  · have hd2 : (8 * q + d).testBit = fun j => if j < 3 then d.testBit j else q.testBit (j - 3) := by
      funext j
      rw [show 8 * q + d = 2 ^ 3 * q + d from rfl, Nat.testBit_two_pow_mul_add _ (by omega)]
    rw [e8, e8, Nat.testBit_two_pow_mul, Nat.testBit_two_pow_mul, Nat.testBit_two_pow_mul, Nat.testBit_two_pow_sub_one, hd2]
    by_cases h1 : 3 * i ≤ b
    · by_cases h2 : b - 3 * i < 3
      · have h3 : ¬ 3 * (i + 1) ≤ b := by omega
        have h4 : b < 32 := by omega
        simp [h1, h2, h3, h4]
      · have h3 : 3 * (i + 1) ≤ b := by omega
        have h4 : b < 32 := by omega
        simp [h1, h2, h3, h4, show b - 3 * i - 3 = b - 3 * (i + 1) by omega]
    · have h3 : ¬ 3 * (i + 1) ≤ b := by omega
      simp [h1, h3]
section
variable {G : ZG} {M : ZM} {Z : Option ZV → ZM → Prop}
theorem s_CO_next {n k j : Nat} (h0 : 0 < n) (hn : n ≤ 6) (hk : k ≤ 4) (hj : j < n ^ k) (hZ : ∀ t, t < 4096 → (j + 1 < n ^ k → t = enc n k (j + 1)) → Z (some (zi (nI t))) M) : Ctr 0 G mi_CO_next [zi (nI (enc n k j)), zi (nI k), zi (nI n)] M Z := by
  have h8 : ∀ i, i ≤ 4 → 8 ^ i ≤ 4096 := fun i hi => Nat.pow_le_pow_right (by decide) hi
  have lp : ∀ i, i ≤ k → ∀ J, j + 1 = n ^ i * (J + 1) → V 0 G mi_CO_next Z 5 [(1, zi (nI k)), (2, zi (nI n)), (3, zi (nI (8 ^ i * enc n (k - i) J))), (4, zi (nI i))] [] M := by
    refine up_to ?_ ?_
    · intro J hJ
      refine z_run (cuts := cu_CO_next) ok_CO_next (fun Kz hKz => ?_)
      conv => whnf
      rw [nI_leI (by omega) (by omega)]
      refine ⟨fun _ => ?_, fun q => absurd (Nat.le_refl _) q⟩
      conv => whnf
      rw [Nat.sub_self, show enc n 0 J = 0 from rfl, Nat.mul_zero]
      refine hZ 0 (by decide) (fun q => ?_)
      have : n ^ k * 1 ≤ n ^ k * (J + 1) := Nat.mul_le_mul_left _ (by omega)
      omega
    · intro i hi ih J hJ
      obtain ⟨K, hK⟩ : ∃ K, k - i = K + 1 := ⟨k - i - 1, by omega⟩
      have hen := enc_lt (show n ≤ 8 by omega) h0 K (J / n)
      have hJn := Nat.mod_lt J h0
      have h81 : 8 ^ K ≤ 8 ^ 4 := Nat.pow_le_pow_right (by decide) (by omega)
      have hp : 0 < 8 ^ i := Nat.pow_pos (by decide)
      have hb1 : 8 ^ i * (8 * enc n K (J / n) + J % n) < 4096 := by
        have e1 : 8 * enc n K (J / n) + J % n + 1 ≤ 8 ^ (K + 1) := by rw [Nat.pow_succ]; omega
        have e2 : 8 ^ i * (8 * enc n K (J / n) + J % n + 1) ≤ 8 ^ i * 8 ^ (K + 1) := Nat.mul_le_mul_left _ e1
        rw [← Nat.pow_add] at e2
        have e3 := h8 (i + (K + 1)) (by omega)
        rw [Nat.mul_add] at e2
        omega
      refine z_run (cuts := cu_CO_next) ok_CO_next (fun Kz hKz => ?_)
      conv => whnf
      rw [nI_leI (by omega) (by omega)]
      refine ⟨fun q => absurd q (by omega), fun _ => ?_⟩
      conv => whnf
      rw [hK]
      simp only [enc]
      refine s_CO_digit (by omega) (by omega) ?_
      conv => whnf
      rw [Nat.mul_div_cancel_left _ hp, show (8 * enc n K (J / n) + J % n) % 8 = J % n by omega, nI_1', nI_leI (by omega) (by omega)]
      refine ⟨fun h => ?_, fun h => ?_⟩
      · conv => whnf
        refine hKz _ _ _ _ ?_
        have hJ1 : J % n = n - 1 := by omega
        have hJ2 : J + 1 = n * (J / n + 1) := by
          have := Nat.div_add_mod J n
          rw [Nat.mul_add]
          omega
        rw [n_m1, n_shl _ (3 * i) (by omega) |> fun e => (by rw [pk_mul]; exact e : nI 7 <<< (nI 3 * nI i &&& 31) = nI (7 * 2 ^ (3 * i))), Nat.pow_mul, n_xor, n_and, n_clr (by omega) (by omega), nI_1']
        have h9 := ih (J / n) (by rw [hJ, hJ2, Nat.pow_succ, Nat.mul_assoc])
        rw [show k - (i + 1) = K by omega] at h9
        exact h9
      · conv => whnf
        rw [pk_mul, n_shl _ (3 * i) (by omega), Nat.pow_mul, Nat.one_mul, nI_add]
        have hJ3 : (J + 1) / n = J / n ∧ (J + 1) % n = J % n + 1 := by
          have h1 := Nat.div_add_mod J n
          have hlt : J % n + 1 < n := by omega
          have e : J + 1 = n * (J / n) + (J % n + 1) := by omega
          constructor
          · rw [e, Nat.mul_add_div h0, Nat.div_eq_of_lt hlt, Nat.add_zero]
          · rw [e, Nat.mul_add_mod, Nat.mod_eq_of_lt hlt]
        rw [show (2 : Nat) ^ 3 = 8 from rfl]
        refine hZ _ ?_ (fun q => ?_)
        · have e1 : 8 * enc n K (J / n) + J % n + 1 < 8 ^ (K + 1) := by rw [Nat.pow_succ]; omega
          have e2 : 8 ^ i * (8 * enc n K (J / n) + J % n + 1) < 8 ^ i * 8 ^ (K + 1) := Nat.mul_lt_mul_of_pos_left e1 hp
          rw [← Nat.pow_add] at e2
          have e3 := h8 (i + (K + 1)) (by omega)
          rw [Nat.mul_add] at e2
          omega
        · rw [hJ, enc_shift h0 i k (J + 1) (by omega), hK]
          simp only [enc]
          rw [hJ3.1, hJ3.2, ← Nat.add_assoc, Nat.mul_add (8 ^ i) _ 1, Nat.mul_one]
  refine go_CO_next (fun Kz hKz => ?_)
  conv => whnf
  refine hKz _ _ _ _ ?_
  have h := lp 0 (Nat.zero_le _) j (by rw [Nat.pow_zero, Nat.one_mul])
  rw [Nat.pow_zero, Nat.one_mul, Nat.sub_zero] at h
  exact h
theorem s_CO_commonMultiple {a b : Nat} (ha : 0 < a) (hb : 0 < b) (hab : a * b < 2 ^ 31) (hZ : Z (some (zi (nI (Nat.lcm a b)))) M) : Ctr 0 G mi_CO_commonMultiple [zi (nI a), zi (nI b)] M Z := by
  have ha1 : a < 2 ^ 31 := Nat.lt_of_le_of_lt (Nat.le_mul_of_pos_right a hb) hab
  have hb1 : b < 2 ^ 31 := Nat.lt_of_le_of_lt (Nat.le_mul_of_pos_left b ha) hab
  have key : ∀ k, 0 < k → k ≤ b → b ∣ a * k → (∀ j, 0 < j → j < k → ¬ b ∣ a * j) → a * k = Nat.lcm a b := by
    intro k hk0 hkb hd hmin
    have h1 : Nat.lcm a b ∣ a * k := Nat.lcm_dvd (Nat.dvd_mul_right a k) hd
    obtain ⟨c, hc⟩ := Nat.dvd_lcm_left a b
    have hl0 : 0 < Nat.lcm a b := Nat.lcm_pos ha hb
    have hc0 : 0 < c := by
      rcases Nat.eq_zero_or_pos c with h | h
      · rw [h, Nat.mul_zero] at hc; omega
      · exact h
    have h2 : ¬ c < k := fun q => hmin c hc0 q (by rw [← hc]; exact Nat.dvd_lcm_right a b)
    have h3 := Nat.le_of_dvd (Nat.mul_pos ha hk0) h1
    rw [hc] at h3 ⊢
    have h4 : c ≤ k := Nat.le_of_mul_le_mul_left h3 ha
    rw [show c = k by omega]
  have lp : ∀ k, k ≤ b → 0 < k → (∀ j, 0 < j → j < k → ¬ b ∣ a * j) → V 0 G mi_CO_commonMultiple Z 2 [(0, zi (nI a)), (1, zi (nI b)), (2, zi (nI k))] [] M := by
    refine up_to ?_ ?_
    · intro h0 hm
      refine z_run (cuts := cu_CO_commonMultiple) ok_CO_commonMultiple (fun Kz hKz => ?_)
      conv => whnf
      rw [nI_leI hb1 hb1]
      refine ⟨fun _ => ?_, fun q => absurd (Nat.le_refl _) q⟩
      conv => whnf
      rw [pk_mul, key b hb (Nat.le_refl _) (Nat.dvd_mul_left b a) hm]
      exact hZ
    · intro k hk ih h0 hm
      have hak : a * k < 2 ^ 31 := Nat.lt_of_le_of_lt (Nat.mul_le_mul_left a (Nat.le_of_lt hk)) hab
      refine z_run (cuts := cu_CO_commonMultiple) ok_CO_commonMultiple (fun Kz hKz => ?_)
      conv => whnf
      rw [nI_leI hb1 (by omega)]
      refine ⟨fun q => absurd q (by omega), fun _ => ?_⟩
      conv => whnf
      refine ⟨?_, ?_⟩
      · rw [nI_eq hb1 (by decide)]; omega
      conv => whnf
      rw [pk_mul, n_mod hak hb hb1, nI_eq (Nat.lt_trans (Nat.mod_lt _ hb) hb1) (by decide)]
      refine ⟨fun h => ?_, fun h => ?_⟩
      · conv => whnf
        refine hKz _ _ _ _ ?_
        rw [nI_1']
        refine ih (by omega) (fun j hj0 hj => ?_)
        rcases Nat.lt_succ_iff_lt_or_eq.mp hj with h3 | h3
        · exact hm j hj0 h3
        · rw [h3]; exact fun q => h (Nat.mod_eq_zero_of_dvd q)
      · conv => whnf
        rw [pk_mul, key k h0 (by omega) (Nat.dvd_of_mod_eq_zero (Classical.not_not.mp h)) hm]
        exact hZ
  refine go_CO_commonMultiple (fun Kz hKz => ?_)
  conv => whnf
  refine hKz _ _ _ _ ?_
  exact lp 1 hb (by decide) (fun j h1 h2 => by omega)
end
