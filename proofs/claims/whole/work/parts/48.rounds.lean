/-! bits of longs; how often a braid acts until all is back -/
theorem lc_eq (x y : Int64) : lg_cmp x y = nI 0 ↔ x = y := by rw [nI_0]; exact lg_cmp_eq x y
theorem l_sh63 {v : Nat} (hv : v < 2 ^ 31) : (nI v).toInt64 &&& 63 = (nI (v % 64)).toInt64 &&& 63 := by
  rw [nI_l hv, nI_l (by omega)]
  show lN v &&& lN 63 = lN (v % 64) &&& lN 63
  rw [l_and, l_and, show (63 : Nat) = 2 ^ 6 - 1 from rfl, Nat.and_two_pow_sub_one_eq_mod, Nat.and_two_pow_sub_one_eq_mod, show (2 : Nat) ^ 6 = 64 from rfl, Nat.mod_mod]
theorem l_bit (m k : Nat) (hk : k < 64) : lN m >>> ((nI k).toInt64 &&& 63) &&& lN 1 = lN (m.testBit k).toNat := l_ext (by
  rw [Int64.toBitVec_and, Int64.toBitVec_shiftRight, l_bv, l_bv, l_bv]
  have h := l_sm k hk
  apply BitVec.eq_of_getLsbD_eq
  intro j hj
  rw [BitVec.getLsbD_and]
  rcases Nat.eq_zero_or_pos j with rfl | h0
  · show (((BitVec.ofNat 64 m).sshiftRight (((nI k).toInt64 &&& 63).toBitVec.smod 64).toNat).getLsbD 0 && _) = _
    rw [h, BitVec.getLsbD_sshiftRight]
    have e : k + 0 < 64 := by omega
    have e2 : ¬ 64 ≤ 0 := by omega
    have e3 : (BitVec.ofNat 64 m).getLsbD k = m.testBit k := by rw [BitVec.getLsbD_ofNat, decide_eq_true hk, Bool.true_and]
    rw [decide_eq_false e2, Bool.not_false, Bool.true_and, if_pos e, Nat.add_zero, e3]
    cases m.testBit k <;> simp
  · have h1 : (BitVec.ofNat 64 1).getLsbD j = false := by
      rw [BitVec.getLsbD_ofNat, Bool.eq_false_iff.mpr (fun q => absurd (Nat.testBit_one_eq_true_iff_self_eq_zero.mp q) (by omega)), Bool.and_false]
    have h2 : (BitVec.ofNat 64 (m.testBit k).toNat).getLsbD j = false := by
      cases m.testBit k
      · simp
      · exact h1
    rw [h1, h2, Bool.and_false])
def itT (f : List Nat → List Nat) (u : List Nat) : Nat → List Nat
  | 0 => u
  | k + 1 => f (itT f u k)
theorem itT_add (f : List Nat → List Nat) (u : List Nat) (a : Nat) : ∀ b, itT f u (a + b) = itT f (itT f u a) b := by
  intro b
  induction b with
  | zero => rfl
  | succ b ih => rw [← Nat.add_assoc, itT, ih, itT]
theorem itT_mul {f : List Nat → List Nat} {u : List Nat} {c : Nat} (h : itT f u c = u) : ∀ q, itT f u (c * q) = u := by
  intro q
  induction q with
  | zero => rfl
  | succ q ih => rw [Nat.mul_succ, itT_add, ih, h]
theorem itT_dvd {f : List Nat → List Nat} {u : List Nat} {c : Nat} (h0 : 1 ≤ c) (h : itT f u c = u) (hm : ∀ d, 1 ≤ d → d < c → itT f u d ≠ u) (d : Nat) : itT f u d = u ↔ c ∣ d := by
  constructor
  · intro hd
    have h1 := Nat.mod_lt d (show c > 0 by omega)
    have h2 := Nat.div_add_mod d c
    rw [← h2, itT_add, itT_mul h] at hd
    rcases Nat.eq_zero_or_pos (d % c) with q | q
    · exact Nat.dvd_of_mod_eq_zero q
    · exact absurd hd (hm _ q h1)
  · rintro ⟨q, rfl⟩
    exact itT_mul h q
/-- after d times all tuples are back -/
noncomputable def backs (A : ZP) (w : List (Nat × Bool)) (s n d : Nat) : Prop := ∀ j, j < n → itT (brun A w) (dgl A.1 s j) d = dgl A.1 s j
def isSn (M : ZM) (U : Nat → Bool) : Prop := ∀ q, q < 64 → ∃ m, m < 2 ^ 64 ∧ M.2 19 0 q = lN m ∧ ∀ b, b < 64 → m.testBit b = U (64 * q + b)
theorem isBA_l {M M' : ZM} {A : ZP} (h : isBA M A) (hM : M'.1 = M.1) : isBA M' A := ⟨isPM_eq h.1 (by rw [hM]) (by rw [hM]), fun q => isPM_eq (h.2 q) (by rw [hM]) (by rw [hM])⟩
theorem isBR_l {M M' : ZM} {b : Nat} {w : List (Nat × Bool)} (h : isBR M b w) (hM : M'.1 = M.1) : isBR M' b w := isBR_eq h (by rw [hM]) (by rw [hM]) (by rw [hM])
theorem itT_vW {A : ZP} (hA : pwf A) {s : Nat} {w : List (Nat × Bool)} (hf : fit A w s) {u : List Nat} (hu : vW A s u) : ∀ k, vW A s (itT (brun A w) u k) := by
  intro k
  induction k with
  | zero => exact hu
  | succ k ih => exact brun_vW hA w _ (fit_letter hf) ih
section
variable {G : ZG} {M : ZM} {Z : Option ZV → ZM → Prop} {S : ZS}
theorem s_BA_isSeen {v : Nat} {U : Nat → Bool} (hv : v < 4096) (hs : isSn M U) (h1 : U v = true → Z (some (zi (nI 1))) M) (h2 : U v = false → Z (some (zi (nI 0))) M) : Ctr 0 G mi_BA_isSeen [zr 18 0, zi (nI v)] M Z := by
  have hq : v / 64 < 64 := by omega
  have hb : v % 64 < 64 := Nat.mod_lt _ (by decide)
  obtain ⟨m, hm, e1, e2⟩ := hs (v / 64) hq
  have e3 := e2 (v % 64) hb
  rw [Nat.div_add_mod] at e3
  refine go_BA_isSeen (fun Kz hKz => ?_)
  conv => whnf
  rw [n_shr 6 (by decide) (by omega), n_and, show (63 : Nat) = 2 ^ 6 - 1 from rfl, Nat.and_two_pow_sub_one_eq_mod, show (2 : Nat) ^ 6 = 64 from rfl, Nat.mod_eq_of_lt hq]
  refine ⟨vp_in_nI hq (by decide), ?_⟩
  conv => whnf
  rw [nI_clamp (by omega), e1, l_sh63 (by omega), l_bit m _ hb, e3, lc_eq]
  cases hU : U v with
  | false =>
    refine ⟨fun _ => ?_, fun q => absurd rfl q⟩
    conv => whnf
    exact ⟨Or.inl rfl, h2 hU⟩
  | true =>
    refine ⟨fun q => absurd q (by decide), fun _ => ?_⟩
    conv => whnf
    exact ⟨Or.inr rfl, h1 hU⟩
theorem s_BA_see {v : Nat} {U : Nat → Bool} (hv : v < 4096) (hs : isSn M U) (hZ : ∀ M', zsl 19 M M' → isSn M' (fun x => U x || decide (x = v)) → Z none M') : Ctr 0 G mi_BA_see [zr 18 0, zi (nI v)] M Z := by
  have hq : v / 64 < 64 := by omega
  have hb : v % 64 < 64 := Nat.mod_lt _ (by decide)
  obtain ⟨m, hm, e1, e2⟩ := hs (v / 64) hq
  refine go_BA_see (fun Kz hKz => ?_)
  conv => whnf
  rw [n_shr 6 (by decide) (by omega), n_and, show (63 : Nat) = 2 ^ 6 - 1 from rfl, Nat.and_two_pow_sub_one_eq_mod, show (2 : Nat) ^ 6 = 64 from rfl, Nat.mod_eq_of_lt hq]
  refine ⟨vp_in_nI hq (by decide), ?_⟩
  conv => whnf
  refine ⟨vp_in_nI hq (by decide), ?_⟩
  conv => whnf
  rw [nI_clamp (by omega), e1, l_sh63 (by omega), l_shl _ _ hb, l_or, Nat.one_mul]
  refine hZ _ zsl_set (fun q hq2 => ?_)
  by_cases e : q = v / 64
  · subst e
    refine ⟨m ||| 2 ^ (v % 64), Nat.or_lt_two_pow hm (Nat.pow_lt_pow_right (by decide) hb), zsetL_eq, fun b hb2 => ?_⟩
    rw [Nat.testBit_or, Nat.testBit_two_pow, e2 b hb2]
    show (U (64 * (v / 64) + b) || _) = (U (64 * (v / 64) + b) || _)
    have : v % 64 = b ↔ 64 * (v / 64) + b = v := by omega
    simp only [this]
  · obtain ⟨m2, g1, g2, g3⟩ := hs q hq2
    refine ⟨m2, g1, by rw [zsetL_ne (by omega)]; exact g2, fun b hb2 => ?_⟩
    rw [g3 b hb2]
    have : ¬ 64 * q + b = v := by omega
    simp only [this, decide_false, Bool.or_false]
theorem s_BA_cycleLength {b s : Nat} {A : ZP} {w : List (Nat × Bool)} {u : List Nat} {U : Nat → Bool} (hb : b < 3) (h2 : 2 ≤ s) (h4 : s ≤ 4) (hB : isBA M A) (hw : isBR M b w) (hf : fit A w s) (hu : vW A s u) (hs : isSn M U) (h1 : ∀ c, 1 ≤ c → c ≤ 60 → itT (brun A w) u c = u → (∀ d, 1 ≤ d → d < c → itT (brun A w) u d ≠ u) → ∀ M' U', zsl 19 M M' → isSn M' U' → (∀ v, U' v = true → U v = true ∨ ∃ e, v = tcl (itT (brun A w) u e)) → Z (some (zi (nI c))) M') (h0 : (∀ d, 1 ≤ d → d ≤ 60 → itT (brun A w) u d ≠ u) → ∀ M', zsl 19 M M' → Z (some (zi (-1))) M') : Ctr 0 G mi_BA_cycleLength [zr 18 0, zr 2 b, zi (nI s), zi (nI (tcl u))] M Z := by
  have h84 : 8 ^ s ≤ 8 ^ 4 := Nat.pow_le_pow_right (by decide) h4
  have hn := hB.1.1.1
  have lp : ∀ j, j ≤ 60 → ∀ M' U', zsl 19 M M' → isSn M' U' → (∀ v, U' v = true → U v = true ∨ ∃ e, v = tcl (itT (brun A w) u e)) → (∀ d, 1 ≤ d → d ≤ j → itT (brun A w) u d ≠ u) → V 0 G mi_BA_cycleLength Z 6 [(0, zr 18 0), (1, zr 2 b), (2, zi (nI s)), (3, zi (nI (tcl u))), (4, zi (nI (tcl (itT (brun A w) u j)))), (5, zi (nI (j + 1)))] [] M' := by
    refine up_to ?_ ?_
    · intro M' U' g1 g2 g3 g4
      refine z_run (cuts := cu_BA_cycleLength) ok_BA_cycleLength (fun Kz hKz => ?_)
      conv => whnf
      rw [nI_ltI (by omega) (by omega)]
      refine ⟨fun _ => ?_, fun q => absurd (by omega) q⟩
      conv => whnf
      exact h0 g4 M' g1
    · intro j hj ih M' U' g1 g2 g3 g4
      have hv := itT_vW hB.1.1 hf hu j
      have hv2 := itT_vW hB.1.1 hf hu (j + 1)
      have t1 := tcl_lt (w := u) (fun d hd => by have := hu.1 d hd; omega)
      have t2 := tcl_lt (w := itT (brun A w) u (j + 1)) (fun d hd => by have := hv2.1 d hd; omega)
      rw [hu.2] at t1
      rw [hv2.2] at t2
      refine z_run (cuts := cu_BA_cycleLength) ok_BA_cycleLength (fun Kz hKz => ?_)
      conv => whnf
      rw [nI_ltI (by omega) (by omega)]
      refine ⟨fun q => absurd q (by omega), fun _ => ?_⟩
      conv => whnf
      refine s_BA_resultOf hb h2 h4 (isBA_l hB g1.1) (isBR_l hw g1.1) hf hv ?_
      rw [show brun A w (itT (brun A w) u j) = itT (brun A w) u (j + 1) from rfl]
      conv => whnf
      refine s_BA_see (by omega) g2 (fun M2 r1 r2 => ?_)
      have g5 : ∀ v, (U' v || decide (v = tcl (itT (brun A w) u (j + 1)))) = true → U v = true ∨ ∃ e, v = tcl (itT (brun A w) u e) := by
        intro v hv
        rw [Bool.or_eq_true] at hv
        rcases hv with hv | hv
        · exact g3 v hv
        · exact Or.inr ⟨j + 1, of_decide_eq_true hv⟩
      have g6 := zsl_trans g1 r1
      conv => whnf
      rw [nI_eq (by omega) (by omega)]
      refine ⟨fun q => ?_, fun q => ?_⟩
      · have q2 : itT (brun A w) u (j + 1) ≠ u := fun e => q (by rw [e])
        conv => whnf
        refine hKz _ _ _ _ ?_
        rw [nI_1']
        refine ih M2 _ g6 r2 g5 (fun d e1 e2 => ?_)
        rcases Nat.lt_or_ge j d with e3 | e3
        · rw [show d = j + 1 by omega]; exact q2
        · exact g4 d e1 e3
      · have q2 : itT (brun A w) u (j + 1) = u := vW_inj hB.1.1 hv2 hu (Classical.not_not.mp q)
        conv => whnf
        exact h1 (j + 1) (by omega) (by omega) q2 (fun d e1 e2 => g4 d e1 (by omega)) M2 _ g6 r2 g5
  refine go_BA_cycleLength (fun Kz hKz => ?_)
  conv => whnf
  refine hKz _ _ _ _ ?_
  exact lp 0 (by decide) M U (zsl_refl _ _) hs (fun v h => Or.inl h) (fun d e1 e2 => absurd e1 (by omega))
end
