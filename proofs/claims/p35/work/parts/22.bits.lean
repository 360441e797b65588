/-! the bits of a long, counted as java/lang/Long does -/
def pc8 (b : Nat) : Nat := b % 2 + b / 2 % 2 + b / 4 % 2 + b / 8 % 2 + b / 16 % 2 + b / 32 % 2 + b / 64 % 2 + b / 128 % 2
/-- byte by byte -/
def rep8 (m : Nat) : Nat → Nat
  | 0 => 0
  | k + 1 => 256 * rep8 m k + m
theorem and8 {a b c d : Nat} (hb : b < 256) (hd : d < 256) : (256 * a + b) &&& (256 * c + d) = 256 * (a &&& c) + (b &&& d) := by
  have hbd : b &&& d < 2 ^ 8 := Nat.lt_of_le_of_lt Nat.and_le_left hb
  apply Nat.eq_of_testBit_eq
  intro i
  rw [Nat.testBit_and, show 256 * a + b = 2 ^ 8 * a + b from rfl, show 256 * c + d = 2 ^ 8 * c + d from rfl, show 256 * (a &&& c) + (b &&& d) = 2 ^ 8 * (a &&& c) + (b &&& d) from rfl, Nat.testBit_two_pow_mul_add _ hb, Nat.testBit_two_pow_mul_add _ hd, Nat.testBit_two_pow_mul_add _ hbd]
  by_cases h : i < 8
  · simp [h]
  · simp [h]
def bs1 (i m : Nat) : Nat := i - (i / 2 &&& m)
def bs2 (i m : Nat) : Nat := (i &&& m) + (i / 4 &&& m)
def bs3 (i m : Nat) : Nat := (i + i / 16) &&& m
theorem by1 : ∀ b, b < 256 → (b / 2 &&& 85) ≤ b ∧ ((128 + b / 2) &&& 85) = (b / 2 &&& 85) ∧ bs1 b 85 < 256 ∧ (bs1 b 85 &&& 51) + (bs1 b 85 / 4 &&& 51) < 256 := by decide +kernel
theorem by2 : ∀ t, t < 256 → ∀ r, r < 4 → ((64 * r + t / 4) &&& 51) = (t / 4 &&& 51) := by decide +kernel
theorem by3 : ∀ b, b < 256 → (bs3 (bs2 (bs1 b 85) 51) 15 = pc8 b ∧ bs2 (bs1 b 85) 51 % 16 ≤ 4 ∧ bs2 (bs1 b 85) 51 / 16 ≤ 4) := by decide +kernel
theorem by4 : ∀ t, t < 256 → t % 16 ≤ 4 → t / 16 ≤ 4 → ∀ r, r < 16 → ((t + t / 16 + 16 * r) &&& 15) = ((t + t / 16) &&& 15) ∧ t + t / 16 + 16 * r < 512 := by decide +kernel
theorem bs1_step (a b k : Nat) (hb : b < 256) : bs1 (256 * a + b) (rep8 85 (k + 1)) = 256 * bs1 a (rep8 85 k) + bs1 b 85 := by
  have h := by1 b hb
  have e1 : (256 * a + b) / 2 = 256 * (a / 2) + (128 * (a % 2) + b / 2) := by omega
  have e2 : ((128 * (a % 2) + b / 2) &&& 85) = (b / 2 &&& 85) := by
    rcases Nat.mod_two_eq_zero_or_one a with q | q
    · rw [q]; simp
    · rw [q]; exact h.2.1
  have hle : (a / 2 &&& rep8 85 k) ≤ a := Nat.le_trans Nat.and_le_left (Nat.div_le_self _ _)
  rw [bs1, rep8, e1, and8 (by omega) (by decide), e2]
  simp only [bs1]
  have := h.1
  rw [show 256 * (a - (a / 2 &&& rep8 85 k)) = 256 * a - 256 * (a / 2 &&& rep8 85 k) by omega]
  omega
theorem bs2_step (a b k : Nat) (hb : b < 256) : bs2 (256 * a + b) (rep8 51 (k + 1)) = 256 * bs2 a (rep8 51 k) + bs2 b 51 := by
  have e1 : (256 * a + b) / 4 = 256 * (a / 4) + (64 * (a % 4) + b / 4) := by omega
  rw [bs2, rep8, e1, and8 hb (by decide), and8 (by omega) (by decide), by2 b hb (a % 4) (Nat.mod_lt _ (by decide))]
  simp only [bs2]
  omega
theorem bs3_step (a b k : Nat) (hb : b < 256) (h1 : b % 16 ≤ 4) (h2 : b / 16 ≤ 4) (h3 : a % 16 ≤ 4) : bs3 (256 * a + b) (rep8 15 (k + 1)) = 256 * bs3 a (rep8 15 k) + bs3 b 15 := by
  have e1 : (256 * a + b) + (256 * a + b) / 16 = 256 * (a + a / 16) + (b + b / 16 + 16 * (a % 16)) := by omega
  have h := by4 b hb h1 h2 (a % 16) (Nat.mod_lt _ (by decide))
  rw [bs3, rep8, e1, and8 (by omega) (by decide), h.1]
  rfl
/-- the bytes, each replaced by the number of its bits -/
def pcb (i : Nat) : Nat → Nat
  | 0 => 0
  | k + 1 => 256 * pcb (i / 256) k + pc8 (i % 256)
theorem bs123 : ∀ (k i : Nat), i < 256 ^ k → bs3 (bs2 (bs1 i (rep8 85 k)) (rep8 51 k)) (rep8 15 k) = pcb i k ∧ bs2 (bs1 i (rep8 85 k)) (rep8 51 k) % 16 ≤ 4 := by
  intro k
  induction k with
  | zero =>
    intro i h
    have : i = 0 := by rw [Nat.pow_zero] at h; omega
    subst this
    decide
  | succ k ih =>
    intro i h
    have h1 := ih (i / 256) (Nat.div_lt_of_lt_mul (by rw [Nat.pow_succ, Nat.mul_comm] at h; exact h))
    have hb : i % 256 < 256 := Nat.mod_lt _ (by decide)
    have h2 := by3 _ hb
    have h3 := by1 _ hb
    have e : i = 256 * (i / 256) + i % 256 := (Nat.div_add_mod i 256).symm
    have e1 : bs1 i (rep8 85 (k + 1)) = 256 * bs1 (i / 256) (rep8 85 k) + bs1 (i % 256) 85 := by
      have := bs1_step (i / 256) (i % 256) k hb
      rw [← e] at this
      exact this
    have e2 : bs2 (bs1 i (rep8 85 (k + 1))) (rep8 51 (k + 1)) = 256 * bs2 (bs1 (i / 256) (rep8 85 k)) (rep8 51 k) + bs2 (bs1 (i % 256) 85) 51 := by rw [e1, bs2_step _ _ _ h3.2.2.1]
    rw [e2]
    have hlt : bs2 (bs1 (i % 256) 85) 51 < 256 := h3.2.2.2
    refine ⟨?_, by omega⟩
    rw [bs3_step _ _ _ hlt h2.2.1 h2.2.2 h1.2, h1.1, h2.1]
    rfl
/-- how many of the first k bits are set -/
def bct (i : Nat) : Nat → Nat
  | 0 => 0
  | k + 1 => bct i k + (i.testBit k).toNat
theorem tb (i k : Nat) : (i.testBit k).toNat = i / 2 ^ k % 2 := Nat.toNat_testBit i k
theorem pc8_eq (i k : Nat) : pc8 (i / 2 ^ k % 256) = (i.testBit k).toNat + (i.testBit (k + 1)).toNat + (i.testBit (k + 2)).toNat + (i.testBit (k + 3)).toNat + (i.testBit (k + 4)).toNat + (i.testBit (k + 5)).toNat + (i.testBit (k + 6)).toNat + (i.testBit (k + 7)).toNat := by
  simp only [tb, Nat.pow_add, ← Nat.div_div_eq_div_mul]
  generalize i / 2 ^ k = a
  simp only [pc8]
  omega
theorem bct8 (i k : Nat) : bct i (k + 8) = bct i k + pc8 (i / 2 ^ k % 256) := by
  rw [pc8_eq]
  simp only [bct]
  omega
theorem bct_pcb (i : Nat) : bct i 64 = pc8 (i % 256) + pc8 (i / 256 % 256) + pc8 (i / 65536 % 256) + pc8 (i / 16777216 % 256) + pc8 (i / 4294967296 % 256) + pc8 (i / 1099511627776 % 256) + pc8 (i / 281474976710656 % 256) + pc8 (i / 72057594037927936 % 256) := by
  have h0 := bct8 i 0
  have h1 := bct8 i 8
  have h2 := bct8 i 16
  have h3 := bct8 i 24
  have h4 := bct8 i 32
  have h5 := bct8 i 40
  have h6 := bct8 i 48
  have h7 := bct8 i 56
  simp only [Nat.reducePow, Nat.reduceAdd, Nat.div_one] at h0 h1 h2 h3 h4 h5 h6 h7
  have hz : bct i 0 = 0 := rfl
  omega
theorem pc8_le (b : Nat) : pc8 b ≤ 8 := by unfold pc8; omega
theorem bl2 {p0 p1 p2 T3 : Nat} (h0 : p0 ≤ 8) (h1 : p1 ≤ 8) (h2 : p2 ≤ 8) : ((256 * (256 * (256 * T3 + p2) + p1) + p0) + (256 * (256 * T3 + p2) + p1)) / 65536 = (256 * T3 + p2) + T3 := by
  rw [show (256 * (256 * (256 * T3 + p2) + p1) + p0) + (256 * (256 * T3 + p2) + p1) = 65536 * ((256 * T3 + p2) + T3) + (256 * (p1 + p2) + p0 + p1) by omega]
  rw [Nat.mul_add_div (by decide), Nat.div_eq_of_lt (by omega), Nat.add_zero]
theorem bl3 {p0 p1 p2 T3 : Nat} : (256 * (256 * (256 * T3 + p2) + p1) + p0) + (256 * (256 * T3 + p2) + p1) = (p0 + p1 + 256 * (p1 + p2)) + 65536 * ((256 * T3 + p2) + T3) := by omega
theorem bl4 {a0 a1 a2 Q : Nat} (h0 : a0 < 20000) (h1 : a1 < 20000) (h2 : a2 < 20000) (hQ : Q < 20000) : (a0 + 65536 * (a1 + 65536 * (a2 + 65536 * Q)) + (a1 + 65536 * (a2 + 65536 * Q))) / 4294967296 = (a2 + 65536 * Q) + Q := by
  rw [show a0 + 65536 * (a1 + 65536 * (a2 + 65536 * Q)) + (a1 + 65536 * (a2 + 65536 * Q)) = 4294967296 * ((a2 + 65536 * Q) + Q) + (a0 + a1 + 65536 * (a1 + a2)) by omega]
  rw [Nat.mul_add_div (by decide), Nat.div_eq_of_lt (by omega), Nat.add_zero]
theorem bl5 {a0 a1 a2 Q : Nat} : (a0 + 65536 * (a1 + 65536 * (a2 + 65536 * Q)) + (a1 + 65536 * (a2 + 65536 * Q)) + ((a2 + 65536 * Q) + Q)) % 128 = (a0 + a1 + a2 + Q) % 128 := by
  rw [show a0 + 65536 * (a1 + 65536 * (a2 + 65536 * Q)) + (a1 + 65536 * (a2 + 65536 * Q)) + ((a2 + 65536 * Q) + Q) = (a0 + a1 + a2 + Q) + 128 * (512 * (a1 + 65536 * (a2 + 65536 * Q)) + 512 * (a2 + 65536 * Q) + 512 * Q) by omega, Nat.add_mul_mod_self_left]
theorem bl6 {p0 p1 p2 p3 p4 p5 p6 p7 : Nat} (h : p0 + p1 + p2 + p3 + p4 + p5 + p6 + p7 < 128) : ((p0 + p1 + 256 * (p1 + p2)) + (p2 + p3 + 256 * (p3 + p4)) + (p4 + p5 + 256 * (p5 + p6)) + (p6 + p7 + 256 * p7)) % 128 = p0 + p1 + p2 + p3 + p4 + p5 + p6 + p7 := by
  rw [show (p0 + p1 + 256 * (p1 + p2)) + (p2 + p3 + 256 * (p3 + p4)) + (p4 + p5 + 256 * (p5 + p6)) + (p6 + p7 + 256 * p7) = (p0 + p1 + p2 + p3 + p4 + p5 + p6 + p7) + 128 * (2 * (p1 + p2) + 2 * (p3 + p4) + 2 * (p5 + p6) + 2 * p7) by omega, Nat.add_mul_mod_self_left, Nat.mod_eq_of_lt h]
theorem bct_last (i : Nat) : (pcb i 8 + pcb i 8 / 256 + (pcb i 8 + pcb i 8 / 256) / 65536 + (pcb i 8 + pcb i 8 / 256 + (pcb i 8 + pcb i 8 / 256) / 65536) / 4294967296) % 128 = bct i 64 ∧ pcb i 8 < 2 ^ 61 := by
  rw [bct_pcb]
  simp only [pcb, Nat.div_div_eq_div_mul, Nat.reduceMul, Nat.mul_zero, Nat.zero_add]
  have g0 := pc8_le (i % 256)
  have g1 := pc8_le (i / 256 % 256)
  have g2 := pc8_le (i / 65536 % 256)
  have g3 := pc8_le (i / 16777216 % 256)
  have g4 := pc8_le (i / 4294967296 % 256)
  have g5 := pc8_le (i / 1099511627776 % 256)
  have g6 := pc8_le (i / 281474976710656 % 256)
  have g7 := pc8_le (i / 72057594037927936 % 256)
  generalize pc8 (i % 256) = p0 at *
  generalize pc8 (i / 256 % 256) = p1 at *
  generalize pc8 (i / 65536 % 256) = p2 at *
  generalize pc8 (i / 16777216 % 256) = p3 at *
  generalize pc8 (i / 4294967296 % 256) = p4 at *
  generalize pc8 (i / 1099511627776 % 256) = p5 at *
  generalize pc8 (i / 281474976710656 % 256) = p6 at *
  generalize pc8 (i / 72057594037927936 % 256) = p7 at *
  have e0 : ∀ T, (256 * T + p0) / 256 = T := fun T => by omega
  rw [e0, bl2 g0 g1 g2, bl3]
  have e2 : (256 * (256 * (256 * (256 * (256 * p7 + p6) + p5) + p4) + p3) + p2) + (256 * (256 * (256 * (256 * p7 + p6) + p5) + p4) + p3) = (p2 + p3 + 256 * (p3 + p4)) + 65536 * ((256 * (256 * (256 * p7 + p6) + p5) + p4) + (256 * (256 * p7 + p6) + p5)) := bl3
  have e4 : (256 * (256 * (256 * p7 + p6) + p5) + p4) + (256 * (256 * p7 + p6) + p5) = (p4 + p5 + 256 * (p5 + p6)) + 65536 * ((256 * p7 + p6) + p7) := bl3
  have e6 : (256 * p7 + p6) + p7 = p6 + p7 + 256 * p7 := by omega
  rw [e2, e4, e6, bl4 (by omega) (by omega) (by omega) (by omega), bl5, bl6 (by omega)]
  exact ⟨rfl, by omega⟩
theorem l_cu : ∀ k, k < 64 → ((nI k).toInt64.toUInt64 &&& Int64.toUInt64 63) = UInt64.ofNat k := by decide +kernel
theorem l_ushr {n k : Nat} (hn : n < 2 ^ 64) (hk : k < 64) : ((lN n).toUInt64 >>> ((nI k).toInt64.toUInt64 &&& Int64.toUInt64 63)).toInt64 = lN (n / 2 ^ k) := by
  rw [l_cu k hk]
  apply l_ext
  apply BitVec.eq_of_toNat_eq
  show ((lN n).toUInt64 >>> UInt64.ofNat k).toNat = _
  rw [UInt64.toNat_shiftRight, UInt64.toNat_ofNat_of_lt' (by show k < 2 ^ 64; omega), l_bv, BitVec.toNat_ofNat, Nat.mod_eq_of_lt (Nat.lt_of_le_of_lt (Nat.div_le_self _ _) hn), Nat.mod_eq_of_lt hk, Nat.shiftRight_eq_div_pow]
  congr 1
  show (lN n).toBitVec.toNat = n
  exact l_tn hn
section
variable {G : ZG} {M : ZM} {Z : Option ZV → ZM → Prop}
theorem s_JL_bitCount {m : Nat} (hm : m < 2 ^ 64) (hZ : Z (some (zi (nI (bct m 64)))) M) : Ctr 0 G mi_JL_bitCount [zl (lN m)] M Z := by
  have h1 := (bs123 8 m (by rw [show (256 : Nat) ^ 8 = 2 ^ 64 from rfl]; exact hm)).1
  have e85 : rep8 85 8 = 6148914691236517205 := rfl
  have e51 : rep8 51 8 = 3689348814741910323 := rfl
  have e15 : rep8 15 8 = 1085102592571150095 := rfl
  rw [e85, e51, e15] at h1
  have hl := bct_last m
  rw [← h1] at hl
  have b1 : (m / 2 &&& 6148914691236517205) ≤ m := Nat.le_trans Nat.and_le_left (Nat.div_le_self _ _)
  have c1 : bs1 m 6148914691236517205 < 2 ^ 64 := Nat.lt_of_le_of_lt (Nat.sub_le _ _) hm
  have c2a : (bs1 m 6148914691236517205 &&& 3689348814741910323) ≤ 3689348814741910323 := Nat.and_le_right
  have c2b : (bs1 m 6148914691236517205 / 4 &&& 3689348814741910323) ≤ 3689348814741910323 := Nat.and_le_right
  have c2 : bs2 (bs1 m 6148914691236517205) 3689348814741910323 ≤ 7378697629483820646 := by unfold bs2; omega
  refine go_JL_bitCount (fun Kz hKz => ?_)
  conv => whnf
  rw [l_ushr hm (by decide), l_and, Nat.pow_one, lN_sub b1, show m - (m / 2 &&& 6148914691236517205) = bs1 m 6148914691236517205 from rfl]
  generalize bs1 m 6148914691236517205 = x1 at *
  rw [l_ushr c1 (by decide), l_and, l_and, lN_add, show (x1 &&& 3689348814741910323) + (x1 / 2 ^ 2 &&& 3689348814741910323) = bs2 x1 3689348814741910323 from rfl]
  generalize bs2 x1 3689348814741910323 = x2 at *
  rw [l_ushr (by omega) (by decide), lN_add, l_and, show (x2 + x2 / 2 ^ 4) &&& 1085102592571150095 = bs3 x2 1085102592571150095 from rfl]
  generalize bs3 x2 1085102592571150095 = x3 at *
  obtain ⟨hl1, hl2⟩ := hl
  rw [l_ushr (by omega) (by decide), lN_add, l_ushr (by omega) (by decide), lN_add, l_ushr (by omega) (by decide), lN_add, lN_i, n_and, show (127 : Nat) = 2 ^ 7 - 1 from rfl, Nat.and_two_pow_sub_one_eq_mod]
  have e : (x3 + x3 / 2 ^ 8 + (x3 + x3 / 2 ^ 8) / 2 ^ 16 + (x3 + x3 / 2 ^ 8 + (x3 + x3 / 2 ^ 8) / 2 ^ 16) / 2 ^ 32) % 2 ^ 7 = bct m 64 := hl1
  rw [e]
  exact hZ
end
