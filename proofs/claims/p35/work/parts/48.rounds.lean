/-! bits of longs; how often a braid acts until all is back -/
theorem lc_eq (x y : Int64) : lg_cmp x y = nI 0 ↔ x = y := by rw [nI_0]; exact lg_cmp_eq x y
theorem l_sh63 {v : Nat} (hv : v < 2 ^ 31) : (nI v).toInt64 &&& 63 = (nI (v % 64)).toInt64 &&& 63 := by
  rw [nI_l hv, nI_l (by omega)]
  show lN v &&& lN 63 = lN (v % 64) &&& lN 63
  rw [l_and, l_and, show (63 : Nat) = 2 ^ 6 - 1 from rfl, Nat.and_two_pow_sub_one_eq_mod, Nat.and_two_pow_sub_one_eq_mod, show (2 : Nat) ^ 6 = 64 from rfl, Nat.mod_mod]
theorem l_bit (m k : Nat) (hk : k < 64) : lN m >>> ((nI k).toInt64 &&& 63) &&& lN 1 = lN (m.testBit k).toNat := l_ext (by
  rw [Int64.toBitVec_and, Int64.toBitVec_shiftRight, l_bv, l_bv, l_bv]
  have h := l_sm k hk
  apply BitVec.eq_of_getLsbD_eq
  intro j hj
  rw [BitVec.getLsbD_and]
  rcases Nat.eq_zero_or_pos j with rfl | h0
  · show (((BitVec.ofNat 64 m).sshiftRight (((nI k).toInt64 &&& 63).toBitVec.smod 64).toNat).getLsbD 0 && _) = _
    rw [h, BitVec.getLsbD_sshiftRight]
    have e : k + 0 < 64 := by omega
    have e2 : ¬ 64 ≤ 0 := by omega
    have e3 : (BitVec.ofNat 64 m).getLsbD k = m.testBit k := by rw [BitVec.getLsbD_ofNat, decide_eq_true hk, Bool.true_and]
    rw [decide_eq_false e2, Bool.not_false, Bool.true_and, if_pos e, Nat.add_zero, e3]
    cases m.testBit k <;> simp
  · have h1 : (BitVec.ofNat 64 1).getLsbD j = false := by
      rw [BitVec.getLsbD_ofNat, Bool.eq_false_iff.mpr (fun q => absurd (Nat.testBit_one_eq_true_iff_self_eq_zero.mp q) (by omega)), Bool.and_false]
    have h2 : (BitVec.ofNat 64 (m.testBit k).toNat).getLsbD j = false := by
      cases m.testBit k
      · simp
      · exact h1
    rw [h1, h2, Bool.and_false])
def itT (f : List Nat → List Nat) (u : List Nat) : Nat → List Nat
  | 0 => u
  | k + 1 => f (itT f u k)
theorem itT_add (f : List Nat → List Nat) (u : List Nat) (a : Nat) : ∀ b, itT f u (a + b) = itT f (itT f u a) b := by
  intro b
  induction b with
  | zero => rfl
  | succ b ih => rw [← Nat.add_assoc, itT, ih, itT]
theorem itT_mul {f : List Nat → List Nat} {u : List Nat} {c : Nat} (h : itT f u c = u) : ∀ q, itT f u (c * q) = u := by
  intro q
  induction q with
  | zero => rfl
  | succ q ih => rw [Nat.mul_succ, itT_add, ih, h]
theorem itT_dvd {f : List Nat → List Nat} {u : List Nat} {c : Nat} (h0 : 1 ≤ c) (h : itT f u c = u) (hm : ∀ d, 1 ≤ d → d < c → itT f u d ≠ u) (d : Nat) : itT f u d = u ↔ c ∣ d := by
  constructor
  · intro hd
    have h1 := Nat.mod_lt d (show c > 0 by omega)
    have h2 := Nat.div_add_mod d c
    rw [← h2, itT_add, itT_mul h] at hd
    rcases Nat.eq_zero_or_pos (d % c) with q | q
    · exact Nat.dvd_of_mod_eq_zero q
    · exact absurd hd (hm _ q h1)
  · rintro ⟨q, rfl⟩
    exact itT_mul h q
/-- after d times all tuples are back -/
noncomputable def backs (A : ZP) (w : List (Nat × Bool)) (s n d : Nat) : Prop := ∀ j, j < n → itT (brun A w) (dgl A.1 s j) d = dgl A.1 s j
def isSn (M : ZM) (U : Nat → Bool) : Prop := ∀ q, q < 64 → ∃ m, m < 2 ^ 64 ∧ M.2 19 0 q = lN m ∧ ∀ b, b < 64 → m.testBit b = U (64 * q + b)
theorem isBA_l {M M' : ZM} {A : ZP} (h : isBA M A) (hM : M'.1 = M.1) : isBA M' A := ⟨isPM_eq h.1 (by rw [hM]) (by rw [hM]), fun q => isPM_eq (h.2 q) (by rw [hM]) (by rw [hM])⟩
theorem isBR_l {M M' : ZM} {b : Nat} {w : List (Nat × Bool)} (h : isBR M b w) (hM : M'.1 = M.1) : isBR M' b w := isBR_eq h (by rw [hM]) (by rw [hM]) (by rw [hM])
theorem itT_vW {A : ZP} (hA : pwf A) {s : Nat} {w : List (Nat × Bool)} (hf : fit A w s) {u : List Nat} (hu : vW A s u) : ∀ k, vW A s (itT (brun A w) u k) := by
  intro k
  induction k with
  | zero => exact hu
  | succ k ih => exact brun_vW hA w _ (fit_letter hf) ih
section
variable {G : ZG} {M : ZM} {Z : Option ZV → ZM → Prop} {S : ZS}
end
