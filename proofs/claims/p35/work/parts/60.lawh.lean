/-! the law's own rows: 8 longs a map: how many points, six rows of cells; numbers -/
theorem n_nz {b : Nat} (h0 : 0 < b) (hb : b < 2 ^ 31) : ¬ nI b = nI 0 := by rw [nI_eq hb (by decide)]; omega
theorem lg_lt0 (x y : Int64) : lg_cmp x y < nI 0 ↔ x < y := by rw [nI_0]; exact lg_cmp_lt x y
theorem lg_gt0 (x y : Int64) : nI 0 < lg_cmp x y ↔ y < x := by rw [nI_0]; exact lg_cmp_gt x y
theorem lg_le0 (x y : Int64) : lg_cmp x y ≤ nI 0 ↔ ¬ y < x := by rw [← lg_gt0, Int32.not_lt]
theorem b2i_t : b2i true = nI 1 := rfl
theorem b2i_f : b2i false = nI 0 := rfl
theorem n_dm {k n : Nat} (hk : k < 2 ^ 31) (h0 : 0 < n) (hn : n < 2 ^ 31) : nI k / nI n = nI (k / n) ∧ nI k % nI n = nI (k % n) := ⟨pk_div hk h0 hn, n_mod hk h0 hn⟩
theorem l_xor (a b : Nat) : lN a ^^^ lN b = lN (a ^^^ b) := l_ext (by
  rw [Int64.toBitVec_xor, l_bv, l_bv, l_bv]
  apply BitVec.eq_of_toNat_eq
  simp only [BitVec.toNat_xor, BitVec.toNat_ofNat]
  apply Nat.eq_of_testBit_eq
  intro i
  simp only [Nat.testBit_xor, Nat.testBit_mod_two_pow]
  cases decide (i < 64) <;> simp)
theorem l_m1 : (-1 : Int64) = lN (2 ^ 64 - 1) := by decide +kernel
/-- digits of three bits -/
theorem sh_tb {v p q i : Nat} (hv : v < 8) (hi : i < 3) : (v * 2 ^ (3 * p)).testBit (3 * q + i) = (decide (q = p) && v.testBit i) := by
  rw [Nat.testBit_mul_two_pow]
  rcases Nat.lt_trichotomy q p with h | h | h
  · rw [decide_eq_false (show ¬ 3 * p ≤ 3 * q + i by omega), decide_eq_false (show ¬ q = p by omega)]
    rfl
  · rw [h, decide_eq_true (show 3 * p ≤ 3 * p + i by omega), decide_eq_true rfl, show 3 * p + i - 3 * p = i by omega]
  · rw [decide_eq_false (show ¬ q = p by omega), Bool.false_and, Nat.testBit_lt_two_pow (show v < 2 ^ (3 * q + i - 3 * p) from Nat.lt_of_lt_of_le hv (Nat.pow_le_pow_right (n := 2) (i := 3) (by decide) (by omega))), Bool.and_false]
theorem dg3_tb (w q i : Nat) (hi : i < 3) : (w / 2 ^ (3 * q) % 8).testBit i = w.testBit (3 * q + i) := by
  rw [show (8 : Nat) = 2 ^ 3 from rfl, Nat.testBit_mod_two_pow, Nat.testBit_div_two_pow, decide_eq_true hi, Bool.true_and, Nat.add_comm]
theorem dg3_ext {a b : Nat} (ha : a < 8) (hb : b < 8) (h : ∀ i, i < 3 → a.testBit i = b.testBit i) : a = b := by
  apply Nat.eq_of_testBit_eq
  intro i
  by_cases hi : i < 3
  · exact h i hi
  · rw [Nat.testBit_lt_two_pow (Nat.lt_of_lt_of_le ha (Nat.pow_le_pow_right (n := 2) (i := 3) (by decide) (by omega))), Nat.testBit_lt_two_pow (Nat.lt_of_lt_of_le hb (Nat.pow_le_pow_right (n := 2) (i := 3) (by decide) (by omega)))]
theorem seven_tb : ∀ i, i < 3 → (7 : Nat).testBit i = true := by decide
/-- two digits laid anew -/
def ly2 (w p q u v : Nat) : Nat := ((w &&& ((7 * 2 ^ (3 * p) ||| 7 * 2 ^ (3 * q)) ^^^ (2 ^ 64 - 1))) ||| u * 2 ^ (3 * p)) ||| v * 2 ^ (3 * q)
theorem ly2_dg {w p q u v r : Nat} (hp : p < 21) (hq : q < 21) (hpq : p ≠ q) (hr : r < 21) (hu : u < 8) (hv : v < 8) : ly2 w p q u v / 2 ^ (3 * r) % 8 = if r = p then u else if r = q then v else w / 2 ^ (3 * r) % 8 := by
  refine dg3_ext (Nat.mod_lt _ (by decide)) (by split; exact hu; split; exact hv; exact Nat.mod_lt _ (by decide)) (fun i hi => ?_)
  rw [dg3_tb _ _ _ hi]
  unfold ly2
  rw [Nat.testBit_or, Nat.testBit_or, Nat.testBit_and, Nat.testBit_xor, Nat.testBit_or, sh_tb (by decide) hi, sh_tb (by decide) hi, sh_tb hu hi, sh_tb hv hi, Nat.testBit_two_pow_sub_one, seven_tb i hi, decide_eq_true (show 3 * r + i < 64 by omega)]
  by_cases h1 : r = p
  · rw [if_pos h1, decide_eq_true h1, decide_eq_false (show ¬ r = q by omega)]
    simp
  · rw [if_neg h1, decide_eq_false h1]
    by_cases h2 : r = q
    · rw [if_pos h2, decide_eq_true h2]
      simp
    · rw [if_neg h2, decide_eq_false h2, dg3_tb _ _ _ hi]
      simp
theorem ly2_lt {w p q u v : Nat} (hw : w < 2 ^ 36) (hp : p < 12) (hq : q < 12) (hu : u < 8) (hv : v < 8) : ly2 w p q u v < 2 ^ 36 := by
  have h3 : ∀ a r, a < 8 → r < 12 → a * 2 ^ (3 * r) < 2 ^ 36 := fun a r ha hr => by
    have h4 : a * 2 ^ (3 * r) < 8 * 2 ^ (3 * r) := Nat.mul_lt_mul_of_pos_right ha (Nat.two_pow_pos _)
    have h5 : 8 * 2 ^ (3 * r) = 2 ^ (3 + 3 * r) := by rw [Nat.pow_add]
    have h6 : (2 : Nat) ^ (3 + 3 * r) ≤ 2 ^ 36 := Nat.pow_le_pow_right (by decide) (by omega)
    omega
  exact Nat.or_lt_two_pow (Nat.or_lt_two_pow (Nat.lt_of_le_of_lt Nat.and_le_left hw) (h3 u p hu hp)) (h3 v q hv hq)
/-- a row's word; a cell's two numbers -/
def hw (M : ZM) (m x : Nat) : Nat := (M.2 20 0 (8 * m + 1 + x)).toBitVec.toNat
theorem hw_eq (M : ZM) (m x : Nat) : M.2 20 0 (8 * m + 1 + x) = lN (hw M m x) := l_ext (by
  rw [l_bv]
  unfold hw
  apply BitVec.eq_of_toNat_eq
  rw [BitVec.toNat_ofNat, Nat.mod_eq_of_lt (BitVec.isLt _)])
def hcl (M : ZM) (m x y : Nat) : Nat := hw M m x / 2 ^ (3 * y) % 8
def hcr (M : ZM) (m x y : Nat) : Nat := hw M m x / 2 ^ (3 * (6 + y)) % 8
def hok (M : ZM) : Prop := ∀ m, m < 5 → ∀ x, x < 6 → hw M m x < 2 ^ 36
def hfr (M M' : ZM) : Prop := M'.1 = M.1 ∧ ∀ a b, ¬ (a = 20 ∧ b = 0) → M'.2 a b = M.2 a b
theorem hfr_refl (M : ZM) : hfr M M := ⟨rfl, fun _ _ _ => rfl⟩
theorem hfr_trans {M M' M'' : ZM} (h : hfr M M') (h' : hfr M' M'') : hfr M M'' := ⟨h'.1.trans h.1, fun a b q => (h'.2 a b q).trans (h.2 a b q)⟩
/-- a cell is laid; all other cells, all points are as they were -/
def hly (m x y u v : Nat) (M M' : ZM) : Prop := hfr M M' ∧ hok M' ∧ (∀ k, k < 5 → M'.2 20 0 (8 * k) = M.2 20 0 (8 * k)) ∧ ∀ k a b, k < 5 → a < 6 → b < 6 → hcl M' k a b = (if k = m ∧ a = x ∧ b = y then u else hcl M k a b) ∧ hcr M' k a b = (if k = m ∧ a = x ∧ b = y then v else hcr M k a b)
def isH (M : ZM) (m : Nat) (A : ZP) : Prop := pwf A ∧ M.2 20 0 (8 * m) = lN A.1 ∧ ∀ x y, x < A.1 → y < A.1 → hcl M m x y = A.2.1 x y ∧ hcr M m x y = A.2.2 x y
def LH (M : ZM) (S : ZS) : Prop := hok M ∧ ∀ m, m < 4 → isH M m (S.1 m)
theorem hok_eq {M M' : ZM} (h : hok M) (q : M'.2 20 0 = M.2 20 0) : hok M' := fun m hm x hx => by unfold hw; rw [q]; exact h m hm x hx
theorem isH_eq {M M' : ZM} {m : Nat} {A : ZP} (h : isH M m A) (q : M'.2 20 0 = M.2 20 0) : isH M' m A := by
  unfold isH hcl hcr hw
  rw [q]
  exact h
theorem LH_eq {M M' : ZM} {S : ZS} (h : LH M S) (q : M'.2 20 0 = M.2 20 0) : LH M' S := ⟨hok_eq h.1 q, fun m hm => isH_eq (h.2 m hm) q⟩
theorem LH_csm {M M' : ZM} {S : ZS} (h : LH M S) (q : csm M M') : LH M' S := LH_eq h (q 20 0 (by decide)).2
theorem CS_hfr {M M' : ZM} {S : ZS} (h : CS M S) (q : hfr M M') : CS M' S := by
  unfold CS isPM isBR at *
  rw [q.1]
  exact h
theorem hly_set {M : ZM} {m x y u v : Nat} (hM : hok M) (hm : m < 5) (hx : x < 6) (hy : y < 6) (hu : u < 8) (hv : v < 8) : hly m x y u v M (zsetL 20 0 (8 * m + 1 + x) (lN (ly2 (hw M m x) y (6 + y) u v)) M) := by
  have w0 := hM m hm x hx
  have wl := ly2_lt (p := y) (q := 6 + y) w0 (by omega) (by omega) hu hv
  have hwe : ∀ k a, k < 5 → a < 6 → hw (zsetL 20 0 (8 * m + 1 + x) (lN (ly2 (hw M m x) y (6 + y) u v)) M) k a = if k = m ∧ a = x then ly2 (hw M m x) y (6 + y) u v else hw M k a := by
    intro k a hk ha
    by_cases h : k = m ∧ a = x
    · rw [if_pos h, h.1, h.2]
      show ((zsetL 20 0 (8 * m + 1 + x) _ M).2 20 0 (8 * m + 1 + x)).toBitVec.toNat = _
      rw [zsetL_eq, l_tn (by omega)]
    · rw [if_neg h]
      show ((zsetL 20 0 (8 * m + 1 + x) _ M).2 20 0 (8 * k + 1 + a)).toBitVec.toNat = _
      rw [zsetL_ne (by omega)]
      rfl
  refine ⟨⟨rfl, fun a b q => zsetL_off q⟩, fun k hk a ha => ?_, fun k hk => zsetL_ne (by omega), fun k a b hk ha hb => ?_⟩
  · rw [hwe k a hk ha]
    split
    · exact wl
    · exact hM k hk a ha
  · unfold hcl hcr
    rw [hwe k a hk ha]
    by_cases h : k = m ∧ a = x
    · rw [if_pos h, ly2_dg (by omega) (by omega) (by omega) (by omega) hu hv, ly2_dg (by omega) (by omega) (by omega) (by omega) hu hv, if_neg (show ¬ 6 + b = y by omega), if_neg (show ¬ b = 6 + y by omega), h.1, h.2]
      by_cases h2 : b = y
      · rw [if_pos h2, if_pos (show 6 + b = 6 + y by omega), if_pos ⟨rfl, rfl, h2⟩, if_pos ⟨rfl, rfl, h2⟩]
        exact ⟨rfl, rfl⟩
      · rw [if_neg h2, if_neg (show ¬ 6 + b = 6 + y by omega), if_neg (fun z => h2 z.2.2), if_neg (fun z => h2 z.2.2)]
        exact ⟨rfl, rfl⟩
    · rw [if_neg h, if_neg (fun z => h ⟨z.1, z.2.1⟩), if_neg (fun z => h ⟨z.1, z.2.1⟩)]
      exact ⟨rfl, rfl⟩
section
variable {G : ZG} {M : ZM} {Z : Option ZV → ZM → Prop} {S : ZS}
theorem h_cell {k : Nat} (hk : k < 2 ^ 31) (hN : gN G < 2 ^ 31) (hZ : ∀ v, Z (some (zi v)) M) : Ctr 0 G mi_LW_cell [zr 39 0, zi (nI k)] M Z := by
  refine go_LW_cell (fun Kz hKz => ?_)
  conv => whnf
  rw [nI_leI hN hk]
  refine ⟨fun q => ?_, fun q => ?_⟩
  · conv => whnf
    exact hZ _
  · conv => whnf
    refine ⟨vp_in_nI (by omega) hN, ?_⟩
    conv => whnf
    exact hZ _
theorem h_low {v : Int32} {n : Nat} (h0 : 0 < n) (hn : n < 2 ^ 31) (hZ : ∀ r, r < n → Z (some (zi (nI r))) M) : Ctr 0 G mi_LW_low [zi v, zi (nI n)] M Z := by
  obtain ⟨a, ha, rfl⟩ := n_of v
  refine go_LW_low (fun Kz hKz => ?_)
  conv => whnf
  refine ⟨n_nz h0 hn, ?_⟩
  conv => whnf
  rw [n_and, show (2147483647 : Nat) = 2 ^ 31 - 1 from rfl, Nat.and_two_pow_sub_one_eq_mod, n_mod (Nat.mod_lt _ (by decide)) h0 hn]
  exact hZ _ (Nat.mod_lt _ h0)
theorem h_points {m : Nat} {A : ZP} (hm : m < 5) (hA : isH M m A) (hZ : Z (some (zi (nI A.1))) M) : Ctr 0 G mi_LW_points [zr 20 0, zi (nI m)] M Z := by
  refine go_LW_points (fun Kz hKz => ?_)
  conv => whnf
  rw [pk_mul]
  refine ⟨vp_in_nI (by omega) (by decide), ?_⟩
  conv => whnf
  rw [nI_clamp (by omega), hA.2.1, lN_i]
  exact hZ
theorem h_l {m x y : Nat} {A : ZP} (hm : m < 5) (hM : hok M) (hA : isH M m A) (hx : x < A.1) (hy : y < A.1) (hZ : Z (some (zi (nI (A.2.1 x y)))) M) : Ctr 0 G mi_LW_l [zr 20 0, zi (nI m), zi (nI x), zi (nI y)] M Z := by
  have hn := hA.1.1
  have w0 := hM m hm x (by omega)
  refine go_LW_l (fun Kz hKz => ?_)
  conv => whnf
  rw [pk_mul, nI_add, nI_add]
  refine ⟨vp_in_nI (by omega) (by decide), ?_⟩
  conv => whnf
  rw [nI_clamp (by omega), hw_eq, pk_mul, l_shr _ (by omega) (by omega), l_and, lN_i, show (7 : Nat) = 2 ^ 3 - 1 from rfl, Nat.and_two_pow_sub_one_eq_mod]
  rw [← (hA.2.2 x y hx hy).1] at hZ
  exact hZ
theorem h_r {m x y : Nat} {A : ZP} (hm : m < 5) (hM : hok M) (hA : isH M m A) (hx : x < A.1) (hy : y < A.1) (hZ : Z (some (zi (nI (A.2.2 x y)))) M) : Ctr 0 G mi_LW_r [zr 20 0, zi (nI m), zi (nI x), zi (nI y)] M Z := by
  have hn := hA.1.1
  have w0 := hM m hm x (by omega)
  refine go_LW_r (fun Kz hKz => ?_)
  conv => whnf
  rw [pk_mul, nI_add, nI_add]
  refine ⟨vp_in_nI (by omega) (by decide), ?_⟩
  conv => whnf
  rw [nI_clamp (by omega), hw_eq, pk_mul, nI_add, l_shr _ (by omega) (by omega), l_and, lN_i, show (7 : Nat) = 2 ^ 3 - 1 from rfl, Nat.and_two_pow_sub_one_eq_mod]
  rw [← (hA.2.2 x y hx hy).2] at hZ
  unfold hcr at hZ
  rw [Nat.mul_add] at hZ
  exact hZ
theorem h_lays {m x y u v : Nat} (hm : m < 5) (hM : hok M) (hx : x < 6) (hy : y < 6) (hu : u < 8) (hv : v < 8) (hZ : ∀ M', hly m x y u v M M' → Z none M') : Ctr 0 G mi_LW_lays [zr 20 0, zi (nI m), zi (nI x), zi (nI y), zi (nI u), zi (nI v)] M Z := by
  refine go_LW_lays (fun Kz hKz => ?_)
  conv => whnf
  rw [pk_mul, nI_add, nI_add]
  refine ⟨vp_in_nI (by omega) (by decide), ?_⟩
  conv => whnf
  rw [pk_mul, nI_add, nI_add]
  refine ⟨vp_in_nI (by omega) (by decide), ?_⟩
  conv => whnf
  rw [nI_clamp (by omega), hw_eq, pk_mul, nI_add, nI_l (by omega : u < 2 ^ 31), nI_l (by omega : v < 2 ^ 31), l_shl _ _ (by omega), l_shl _ _ (by omega), l_shl _ _ (by omega), l_shl _ _ (by omega), l_or, l_m1, l_xor, l_and, l_or, l_or]
  have h := hZ _ (hly_set hM hm hx hy hu hv)
  unfold ly2 at h
  rw [Nat.mul_add] at h
  exact h
end
