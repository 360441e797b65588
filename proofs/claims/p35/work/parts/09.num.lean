/-! numbers: every int is an nI below 2^32, every long an lN below 2^64 -/
theorem n_of (x : Int32) : ∃ m, m < 2 ^ 32 ∧ x = nI m := ⟨x.toBitVec.toNat, x.toBitVec.isLt, Int32.toBitVec_inj.mp (by show _ = BitVec.ofNat 32 _; simp)⟩
theorem n_bv (n : Nat) : (nI n).toBitVec = BitVec.ofNat 32 n := rfl
theorem n_tn {n : Nat} (h : n < 2 ^ 32) : (nI n).toBitVec.toNat = n := by rw [n_bv, BitVec.toNat_ofNat, Nat.mod_eq_of_lt h]
theorem n_ext {x y : Int32} (h : x.toBitVec = y.toBitVec) : x = y := Int32.toBitVec_inj.mp h
theorem n_or (a b : Nat) : nI a ||| nI b = nI (a ||| b) := n_ext (by
  rw [Int32.toBitVec_or, n_bv, n_bv, n_bv]
  apply BitVec.eq_of_toNat_eq
  simp only [BitVec.toNat_or, BitVec.toNat_ofNat]
  apply Nat.eq_of_testBit_eq
  intro i
  simp only [Nat.testBit_or, Nat.testBit_mod_two_pow]
  cases decide (i < 32) <;> simp)
theorem n_and (a b : Nat) : nI a &&& nI b = nI (a &&& b) := n_ext (by
  rw [Int32.toBitVec_and, n_bv, n_bv, n_bv]
  apply BitVec.eq_of_toNat_eq
  simp only [BitVec.toNat_and, BitVec.toNat_ofNat]
  apply Nat.eq_of_testBit_eq
  intro i
  simp only [Nat.testBit_and, Nat.testBit_mod_two_pow]
  cases decide (i < 32) <;> simp)
theorem n_xor (a b : Nat) : nI a ^^^ nI b = nI (a ^^^ b) := n_ext (by
  rw [Int32.toBitVec_xor, n_bv, n_bv, n_bv]
  apply BitVec.eq_of_toNat_eq
  simp only [BitVec.toNat_xor, BitVec.toNat_ofNat]
  apply Nat.eq_of_testBit_eq
  intro i
  simp only [Nat.testBit_xor, Nat.testBit_mod_two_pow]
  cases decide (i < 32) <;> simp)
theorem n_sm : ∀ k, k < 32 → ((nI k &&& 31).toBitVec.smod 32).toNat = k := by decide +kernel
theorem n_shl (a k : Nat) (hk : k < 32) : nI a <<< (nI k &&& 31) = nI (a * 2 ^ k) := n_ext (by
  rw [Int32.toBitVec_shiftLeft, n_bv, n_bv]
  apply BitVec.eq_of_toNat_eq
  have h := n_sm k hk
  show (BitVec.ofNat 32 a <<< ((nI k &&& 31).toBitVec.smod 32)).toNat = _
  rw [BitVec.shiftLeft_eq', h]
  simp only [BitVec.toNat_shiftLeft, BitVec.toNat_ofNat, Nat.shiftLeft_eq]
  rw [Nat.mod_mul_mod])
theorem n_shr {a : Nat} (k : Nat) (hk : k < 32) (ha : a < 2 ^ 31) : nI a >>> (nI k &&& 31) = nI (a / 2 ^ k) := pk_shrN ha _ k (n_sm k hk)
theorem n_mod {a b : Nat} (ha : a < 2 ^ 31) (h0 : 0 < b) (hb : b < 2 ^ 31) : nI a % nI b = nI (a % b) := by
  rw [← irem_eq_mod]; exact pk_rem ha h0 hb
theorem n_ne {a b : Nat} (ha : a < 2 ^ 31) (hb : b < 2 ^ 31) : (¬ nI a = nI b) ↔ a ≠ b := by rw [nI_eq ha hb]
theorem n_dig {m : Nat} (hm : m < 2 ^ 32) (i : Nat) (hi : i ≤ 9) : nI m >>> (nI (3 * i) &&& 31) &&& nI 7 = nI (m / 8 ^ i % 8) := n_ext (by
  rw [Int32.toBitVec_and, Int32.toBitVec_shiftRight, n_bv, n_bv, n_bv]
  have h := n_sm (3 * i) (by omega)
  apply BitVec.eq_of_getLsbD_eq
  intro j hj
  rw [BitVec.getLsbD_and]
  have h7 : (BitVec.ofNat 32 7).getLsbD j = decide (j < 3) := by
    rw [BitVec.getLsbD_ofNat]
    have : (7 : Nat) = 2 ^ 3 - 1 := rfl
    rw [this, Nat.testBit_two_pow_sub_one]
    simp only [hj, decide_true, Bool.true_and]
  rw [h7, BitVec.getLsbD_ofNat, show (8 : Nat) = 2 ^ 3 from rfl, ← Nat.pow_mul, Nat.testBit_mod_two_pow, Nat.testBit_div_two_pow]
  by_cases h3 : j < 3
  · simp only [hj, h3, decide_true, Bool.true_and, Bool.and_true]
    show ((BitVec.ofNat 32 m).sshiftRight ((nI (3 * i) &&& 31).toBitVec.smod 32).toNat).getLsbD j = _
    rw [h, BitVec.getLsbD_sshiftRight]
    have e : 3 * i + j < 32 := by omega
    simp only [e, hj, if_true, BitVec.getLsbD_ofNat, decide_true, Bool.true_and]
    have : ¬ 32 ≤ j := by omega
    simp only [this, decide_false, Bool.not_false, Bool.true_and, Nat.add_comm]
  · simp only [h3, decide_false, Bool.false_and, Bool.and_false])
/-! longs -/
theorem l_of (x : Int64) : ∃ m, m < 2 ^ 64 ∧ x = lN m := ⟨x.toBitVec.toNat, x.toBitVec.isLt, Int64.toBitVec_inj.mp (by show _ = BitVec.ofNat 64 _; simp)⟩
theorem l_bv (n : Nat) : (lN n).toBitVec = BitVec.ofNat 64 n := rfl
theorem l_ext {x y : Int64} (h : x.toBitVec = y.toBitVec) : x = y := Int64.toBitVec_inj.mp h
theorem l_or (a b : Nat) : lN a ||| lN b = lN (a ||| b) := l_ext (by
  rw [Int64.toBitVec_or, l_bv, l_bv, l_bv]
  apply BitVec.eq_of_toNat_eq
  simp only [BitVec.toNat_or, BitVec.toNat_ofNat]
  apply Nat.eq_of_testBit_eq
  intro i
  simp only [Nat.testBit_or, Nat.testBit_mod_two_pow]
  cases decide (i < 64) <;> simp)
theorem l_and (a b : Nat) : lN a &&& lN b = lN (a &&& b) := l_ext (by
  rw [Int64.toBitVec_and, l_bv, l_bv, l_bv]
  apply BitVec.eq_of_toNat_eq
  simp only [BitVec.toNat_and, BitVec.toNat_ofNat]
  apply Nat.eq_of_testBit_eq
  intro i
  simp only [Nat.testBit_and, Nat.testBit_mod_two_pow]
  cases decide (i < 64) <;> simp)
theorem l_sm : ∀ k, k < 64 → (((nI k).toInt64 &&& 63).toBitVec.smod 64).toNat = k := by decide +kernel
theorem l_shl (a k : Nat) (hk : k < 64) : lN a <<< ((nI k).toInt64 &&& 63) = lN (a * 2 ^ k) := l_ext (by
  rw [Int64.toBitVec_shiftLeft, l_bv, l_bv]
  apply BitVec.eq_of_toNat_eq
  have h := l_sm k hk
  rw [BitVec.shiftLeft_eq', h]
  simp only [BitVec.toNat_shiftLeft, BitVec.toNat_ofNat, Nat.shiftLeft_eq]
  rw [Nat.mod_mul_mod])
theorem l_tn {n : Nat} (h : n < 2 ^ 64) : (lN n).toBitVec.toNat = n := by rw [l_bv, BitVec.toNat_ofNat, Nat.mod_eq_of_lt h]
theorem l_inj {a b : Nat} (ha : a < 2 ^ 64) (hb : b < 2 ^ 64) (h : lN a = lN b) : a = b := by
  have := congrArg (fun x : Int64 => x.toBitVec.toNat) h
  simpa only [l_tn ha, l_tn hb] using this
theorem l_eq {a b : Nat} (ha : a < 2 ^ 64) (hb : b < 2 ^ 64) : lN a = lN b ↔ a = b := ⟨l_inj ha hb, fun h => by rw [h]⟩
theorem n_inj {a b : Nat} (ha : a < 2 ^ 32) (hb : b < 2 ^ 32) (h : nI a = nI b) : a = b := by
  have := congrArg (fun x : Int32 => x.toBitVec.toNat) h
  simpa only [n_tn ha, n_tn hb] using this
theorem n_eq {a b : Nat} (ha : a < 2 ^ 32) (hb : b < 2 ^ 32) : nI a = nI b ↔ a = b := ⟨n_inj ha hb, fun h => by rw [h]⟩
theorem n_neg {a : Nat} (h1 : 2 ^ 31 ≤ a) (h2 : a < 2 ^ 32) : (nI a).toInt = (a : Int) - 2 ^ 32 := by
  show (BitVec.ofNat 32 a).toInt = _
  rw [BitVec.toInt_eq_toNat_cond, BitVec.toNat_ofNat, Nat.mod_eq_of_lt h2]
  split <;> omega
/-- within 0 .. b, as the machine compares: an nI within 0 .. b -/
theorem n_nonneg {a : Nat} (h2 : a < 2 ^ 32) : nI 0 ≤ nI a ↔ a < 2 ^ 31 := by
  rw [Int32.le_iff_toInt_le]
  by_cases h : a < 2 ^ 31
  · rw [nI_toInt h, nI_toInt (by decide)]; omega
  · rw [n_neg (by omega) h2, nI_toInt (by decide)]; omega
theorem n_leb {a b : Nat} (ha : a < 2 ^ 32) (hb : b < 2 ^ 31) : nI a ≤ nI b ↔ (a ≤ b ∨ 2 ^ 31 ≤ a) := by
  rw [Int32.le_iff_toInt_le, nI_toInt hb]
  by_cases h : a < 2 ^ 31
  · rw [nI_toInt h]; omega
  · rw [n_neg (by omega) ha]; omega
theorem n_ltb {a b : Nat} (ha : a < 2 ^ 32) (hb : b < 2 ^ 31) : nI a < nI b ↔ (a < b ∨ 2 ^ 31 ≤ a) := by
  rw [Int32.lt_iff_toInt_lt, nI_toInt hb]
  by_cases h : a < 2 ^ 31
  · rw [nI_toInt h]; omega
  · rw [n_neg (by omega) ha]; omega
theorem n_ble {a b : Nat} (ha : a < 2 ^ 32) (hb : b < 2 ^ 31) : nI b ≤ nI a ↔ (b ≤ a ∧ a < 2 ^ 31) := by
  rw [Int32.le_iff_toInt_le, nI_toInt hb]
  by_cases h : a < 2 ^ 31
  · rw [nI_toInt h]; omega
  · rw [n_neg (by omega) ha]; omega
theorem n_blt {a b : Nat} (ha : a < 2 ^ 32) (hb : b < 2 ^ 31) : nI b < nI a ↔ (b < a ∧ a < 2 ^ 31) := by
  rw [Int32.lt_iff_toInt_lt, nI_toInt hb]
  by_cases h : a < 2 ^ 31
  · rw [nI_toInt h]; omega
  · rw [n_neg (by omega) ha]; omega
theorem n_m1 : (-1 : Int32) = nI 4294967295 := by decide +kernel
/-- a loop that counts up to n: backward from its end -/
theorem up_to {n : Nat} {P : Nat → Prop} (h0 : P n) (h1 : ∀ i, i < n → P (i + 1) → P i) : ∀ i, i ≤ n → P i := by
  intro i hi
  obtain ⟨d, rfl⟩ : ∃ d, n = i + d := ⟨n - i, by omega⟩
  clear hi
  induction d generalizing i with
  | zero => exact h0
  | succ d ih =>
    refine h1 i (by omega) (ih (i + 1) ?_ ?_)
    · rw [show i + 1 + d = i + (d + 1) by omega]; exact h0
    · intro j hj
      exact h1 j (by omega)
theorem nI_1' (a : Nat) : nI a + nI 1 = nI (a + 1) := nI_add a 1
