/-! which permutations rename one map into another -/
def fac : Nat → Nat
  | 0 => 1
  | n + 1 => fac n * (n + 1)
def wv (w : List Nat) (n : Nat) : Prop := w.length = n ∧ ∀ x, x < n → gw w x < n
theorem gw_out {w : List Nat} {x : Nat} (h : w.length ≤ x) : gw w x = 0 := by
  unfold gw
  rw [List.getD_eq_getElem?_getD, List.getElem?_eq_none h]
  rfl
theorem wv_lt {w : List Nat} {n : Nat} (h : wv w n) (h6 : n ≤ 6) : ∀ x, gw w x < 8 := by
  intro x
  rcases Nat.lt_or_ge x n with q | q
  · have := h.2 x q; omega
  · rw [gw_out (by rw [h.1]; exact q)]; decide
theorem wv_sw {w : List Nat} {n i j : Nat} (h : wv w n) (hi : i < n) (hj : j < n) : wv (sw w i j) n := by
  refine ⟨by rw [sw_len]; exact h.1, fun x hx => ?_⟩
  rw [gw_sw (by rw [h.1]; exact hi) (by rw [h.1]; exact hj)]
  split
  · exact h.2 i hi
  · split
    · exact h.2 j hj
    · exact h.2 x hx
theorem wv_rvs {n : Nat} : ∀ f (w : List Nat) l h, wv w n → h < n → wv (rvs w f l h) n := by
  intro f
  induction f with
  | zero => intro w l h g _; exact g
  | succ f ih =>
    intro w l h g g2
    rw [rvs]
    split
    · exact ih _ _ _ (wv_sw g (by omega) g2) (by omega)
    · exact g
theorem pvt_le (w : List Nat) : ∀ i, pvt w i ≤ i := by
  intro i
  induction i with
  | zero => exact Nat.le_refl _
  | succ i ih =>
    rw [pvt]
    split
    · exact Nat.le_refl _
    · omega
theorem grt_le (w : List Nat) (p : Nat) : ∀ i, grt w p i ≤ i := by
  intro i
  induction i with
  | zero => exact Nat.le_refl _
  | succ i ih =>
    rw [grt]
    split
    · omega
    · exact Nat.le_refl _
theorem wv_nxp {w : List Nat} {n : Nat} (h : wv w n) (h1 : 1 ≤ n) : wv (nxp w) n := by
  have e := h.1
  have h2 := pvt_le w (w.length - 1)
  have h3 := grt_le w (pvt w (w.length - 1) - 1) (w.length - 1)
  rw [nxp]
  split
  · exact h
  · exact wv_rvs _ _ _ _ (wv_sw h (by omega) (by omega)) (by omega)
theorem wv_pw {n : Nat} (h1 : 1 ≤ n) : ∀ j, wv (pw n j) n := by
  intro j
  induction j with
  | zero => exact ⟨List.length_range, fun x hx => by simp [pw, gw, hx]⟩
  | succ j ih => exact wv_nxp ih h1
theorem fac_le : ∀ n, n ≤ 6 → fac n ≤ 720 := by decide
def isoB (A B : ZP) (w : List Nat) : Bool := decide (∀ x, x < A.1 → ∀ y, y < A.1 → B.2.1 (gw w x) (gw w y) = gw w (A.2.1 x y) ∧ B.2.2 (gw w x) (gw w y) = gw w (A.2.2 x y))
theorem isoB_iff {A B : ZP} {w : List Nat} : isoB A B w = true ↔ ∀ x, x < A.1 → ∀ y, y < A.1 → B.2.1 (gw w x) (gw w y) = gw w (A.2.1 x y) ∧ B.2.2 (gw w x) (gw w y) = gw w (A.2.2 x y) := decide_eq_true_iff
section
variable {G : ZG} {M : ZM} {Z : Option ZV → ZM → Prop}
theorem s_RN_imageOf8 {m : Nat} (hm : m < 64) (hZ : Z (some (zi (M.1 12 0 (m % 8)))) M) : Ctr 0 G mi_RN_imageOf [zr 11 0, zi (nI m)] M Z := by
  have h8 : m % 8 < 8 := Nat.mod_lt _ (by decide)
  refine go_RN_imageOf (fun Kz hKz => ?_)
  conv => whnf
  rw [n_and, show (7 : Nat) = 2 ^ 3 - 1 from rfl, Nat.and_two_pow_sub_one_eq_mod, show (2 : Nat) ^ 3 = 8 from rfl]
  refine ⟨vp_in_nI h8 (by decide), ?_⟩
  conv => whnf
  rw [nI_clamp (by omega)]
  exact hZ
theorem s_RN_isIsomorphism {k j : Nat} {A B : ZP} {w : List Nat} (hk : k < 10) (hj : j < 10) (hA : isPM M k A) (hB : isPM M j B) (hAB : A.1 = B.1) (hw : isW M w) (hv : wv w A.1) (hZ : Z (some (zi (b2i (isoB A B w)))) M) : Ctr 0 G mi_RN_isIsomorphism [zr 11 0, zr 0 k, zr 0 j] M Z := by
  have hn := hA.1.1
  have rd : ∀ x, x < A.1 → M.1 12 0 x = nI (gw w x) := fun x hx => hw x (by rw [hv.1]; exact hx)
  refine go_RN_isIsomorphism (fun Kz hKz => ?_)
  conv => whnf
  refine ⟨by first | assumption | decide, ?_⟩
  conv => whnf
  refine s_PM_points hk ?_
  conv => whnf
  refine hKz _ _ _ _ ?_
  rw [hA.2.1]
  refine rloop (n := A.1) (m := A.1) (O := fun x => (∀ a b, a < A.1 → b < A.1 → a < x → B.2.1 (gw w a) (gw w b) = gw w (A.2.1 a b) ∧ B.2.2 (gw w a) (gw w b) = gw w (A.2.2 a b)) → V 0 G mi_RN_isIsomorphism Z 8 [(0, zr 11 0), (1, zr 0 k), (2, zr 0 j), (3, zi (nI A.1)), (4, zi (nI x))] [] M) (I := fun x y => (∀ a b, a < A.1 → b < A.1 → (a < x ∨ (a = x ∧ b < y)) → B.2.1 (gw w a) (gw w b) = gw w (A.2.1 a b) ∧ B.2.2 (gw w a) (gw w b) = gw w (A.2.2 a b)) → V 0 G mi_RN_isIsomorphism Z 25 [(0, zr 11 0), (1, zr 0 k), (2, zr 0 j), (3, zi (nI A.1)), (4, zi (nI x)), (5, zi (nI (gw w x))), (6, zi (nI y))] [] M) (fun q => ?_) (fun x hx h q => ?_) (fun x hx h q => ?_) (fun x y hx hy h q => ?_) (fun a b _ _ q => absurd q (Nat.not_lt_zero _))
  · have e : isoB A B w = true := isoB_iff.mpr (fun x hx y hy => q x y hx hy hx)
    rw [e] at hZ
    refine z_run (cuts := cu_RN_isIsomorphism) ok_RN_isIsomorphism (fun Kz hKz => ?_)
    conv => whnf
    rw [nI_leI (by omega) (by omega)]
    refine ⟨fun _ => ?_, fun q => absurd (Nat.le_refl _) q⟩
    conv => whnf
    exact ⟨Or.inr rfl, hZ⟩
  · refine z_run (cuts := cu_RN_isIsomorphism) ok_RN_isIsomorphism (fun Kz hKz => ?_)
    conv => whnf
    rw [nI_leI (by omega) (by omega)]
    refine ⟨fun q => absurd q (by omega), fun _ => ?_⟩
    conv => whnf
    refine s_RN_imageOf (by omega) ?_
    conv => whnf
    refine hKz _ _ _ _ ?_
    rw [rd x hx]
    exact h (fun a b ha hb q2 => q a b ha hb (by omega))
  · refine z_run (cuts := cu_RN_isIsomorphism) ok_RN_isIsomorphism (fun Kz hKz => ?_)
    conv => whnf
    rw [nI_leI (by omega) (by omega)]
    refine ⟨fun _ => ?_, fun q => absurd (Nat.le_refl _) q⟩
    conv => whnf
    refine hKz _ _ _ _ ?_
    rw [nI_1']
    exact h (fun a b ha hb q2 => q a b ha hb (by omega))
  · have hLR := hA.1.2 x y hx hy
    have v1 := hv.2 x hx
    have v2 := hv.2 y hy
    have v3 := hv.2 _ hLR.1
    have v4 := hv.2 _ hLR.2
    have hLB := hB.1.2 (gw w x) (gw w y) (by omega) (by omega)
    have d1 : (8 * A.2.1 x y + A.2.2 x y) / 2 ^ 3 = A.2.1 x y := by rw [show (2 : Nat) ^ 3 = 8 from rfl]; omega
    have d2 : (8 * A.2.1 x y + A.2.2 x y) % 8 = A.2.2 x y := by omega
    refine z_run (cuts := cu_RN_isIsomorphism) ok_RN_isIsomorphism (fun Kz hKz => ?_)
    conv => whnf
    rw [nI_leI (by omega) (by omega)]
    refine ⟨fun q => absurd q (by omega), fun _ => ?_⟩
    conv => whnf
    refine s_CO_pairOf (by omega) (by omega) ?_
    conv => whnf
    refine ⟨by first | assumption | decide, ?_⟩
    conv => whnf
    refine s_PM_imageOf hk (by omega) ?_
    conv => whnf
    rw [hA.2.2 x y hx hy, n_shr _ (by omega) (by omega), d1]
    refine s_RN_imageOf (by omega) ?_
    conv => whnf
    rw [rd _ hLR.1]
    refine s_RN_imageOf8 (by omega) ?_
    conv => whnf
    rw [d2, rd _ hLR.2]
    refine s_CO_pairOf (by omega) (by omega) ?_
    conv => whnf
    refine s_RN_imageOf (by omega) ?_
    conv => whnf
    rw [rd y hy]
    refine s_CO_pairOf (by omega) (by omega) ?_
    conv => whnf
    refine ⟨by first | assumption | decide, ?_⟩
    conv => whnf
    refine s_PM_imageOf hj (by omega) ?_
    conv => whnf
    rw [hB.2.2 _ _ (by omega) (by omega), nI_eq (by omega) (by omega)]
    refine ⟨fun z => ?_, fun z => ?_⟩
    · conv => whnf
      refine hKz _ _ _ _ ?_
      rw [nI_1']
      refine h (fun a b ha hb q2 => ?_)
      by_cases hab : a = x ∧ b = y
      · rw [hab.1, hab.2]; omega
      · exact q a b ha hb (by omega)
    · have e : isoB A B w = false := by
        rw [Bool.eq_false_iff]
        intro g
        have := isoB_iff.mp g x hx y hy
        exact z (by rw [this.1, this.2])
      rw [e] at hZ
      conv => whnf
      exact ⟨Or.inl rfl, hZ⟩
theorem s_RN_permutations {n : Nat} (h1 : 1 ≤ n) (h6 : n ≤ 6) (hZ : Z (some (zi (nI (fac n)))) M) : Ctr 0 G mi_RN_permutations [zi (nI n)] M Z := by
  have lp : ∀ i, i ≤ n → V 0 G mi_RN_permutations Z 4 [(0, zi (nI n)), (1, zi (nI (fac i))), (2, zi (nI (i + 1)))] [] M := by
    refine up_to ?_ ?_
    · refine z_run (cuts := cu_RN_permutations) ok_RN_permutations (fun Kz hKz => ?_)
      conv => whnf
      rw [nI_ltI (by omega) (by omega)]
      refine ⟨fun _ => ?_, fun q => absurd (Nat.lt_succ_self _) q⟩
      conv => whnf
      exact hZ
    · intro i hi ih
      refine z_run (cuts := cu_RN_permutations) ok_RN_permutations (fun Kz hKz => ?_)
      conv => whnf
      rw [nI_ltI (by omega) (by omega)]
      refine ⟨fun q => absurd q (by omega), fun _ => ?_⟩
      conv => whnf
      refine hKz _ _ _ _ ?_
      rw [pk_mul, nI_1']
      exact ih
  refine go_RN_permutations (fun Kz hKz => ?_)
  conv => whnf
  refine hKz _ _ _ _ ?_
  exact lp 1 h1
def codW (w : List Nat) : Nat → Nat
  | 0 => 0
  | x + 1 => codW w x ||| gw w x * 8 ^ x
theorem codW_lt {w : List Nat} (h : ∀ x, gw w x < 8) : ∀ n, codW w n < 8 ^ n := by
  intro n
  induction n with
  | zero => exact Nat.one_pos
  | succ n ih =>
    have e : (8 : Nat) ^ (n + 1) = 2 ^ (3 * (n + 1)) := by rw [Nat.pow_mul]
    have e2 : (8 : Nat) ^ n ≤ 8 ^ (n + 1) := Nat.pow_le_pow_right (by decide) (Nat.le_succ n)
    rw [codW, e]
    refine Nat.or_lt_two_pow (by rw [← e]; exact Nat.lt_of_lt_of_le ih e2) ?_
    rw [← e, Nat.pow_succ, Nat.mul_comm]
    exact Nat.mul_lt_mul_of_pos_left (h n) (Nat.pow_pos (by decide))
/-- how many of the first i permutations rename A into B -/
def nIso (A B : ZP) : Nat → Nat := cnt fun j => isoB A B (pw A.1 j)
theorem isPM_rn {M M' : ZM} {k : Nat} {A : ZP} (h : isPM M k A) (hs : zsm rnS M M') : isPM M' k A := isPM_same h hs (fun q => absurd q.1 (by decide)) (fun q => absurd q.1 (by decide))
theorem s_RN_isomorphisms {k j : Nat} {A B : ZP} (hk : k < 10) (hj : j < 10) (hA : isPM M k A) (hB : isPM M j B) (h0 : 0 < A.1) (h1 : A.1 = B.1 → ∀ M', zsm rnS M M' → Z (some (zi (nI (nIso A B (fac A.1))))) M') (h2 : ¬ A.1 = B.1 → Z (some (zi (nI 0))) M) : Ctr 0 G mi_RN_isomorphisms [zr 11 0, zr 0 k, zr 0 j] M Z := by
  have hn := hA.1.1
  have hnB := hB.1.1
  have hf := fac_le A.1 hn
  refine go_RN_isomorphisms (fun Kz hKz => ?_)
  conv => whnf
  refine ⟨by first | assumption | decide, ?_⟩
  conv => whnf
  refine s_PM_points hk ?_
  conv => whnf
  refine ⟨by first | assumption | decide, ?_⟩
  conv => whnf
  refine s_PM_points hj ?_
  conv => whnf
  rw [hA.2.1, hB.2.1, nI_eq (by omega) (by omega)]
  refine ⟨fun q => ?_, fun q => ?_⟩
  · have lp : ∀ i, i ≤ fac A.1 → ∀ M', zsm rnS M M' → isW M' (pw A.1 i) → V 0 G mi_RN_isomorphisms Z 28 [(0, zr 11 0), (1, zr 0 k), (2, zr 0 j), (3, zi (nI A.1)), (4, zi (nI (nIso A B i))), (5, zi (nI (fac A.1 - i)))] [] M' := by
      refine up_to ?_ ?_
      · intro M' g1 g2
        refine z_run (cuts := cu_RN_isomorphisms) ok_RN_isomorphisms (fun Kz hKz => ?_)
        conv => whnf
        rw [Nat.sub_self, nI_leI (by omega) (by omega)]
        refine ⟨fun _ => ?_, fun q => absurd (Nat.le_refl _) q⟩
        conv => whnf
        exact h1 q M' g1
      · intro i hi ih M' g1 g2
        obtain ⟨d, hd⟩ : ∃ d, fac A.1 - i = d + 1 := ⟨fac A.1 - i - 1, by omega⟩
        have hd2 : fac A.1 - (i + 1) = d := by omega
        have hv := wv_pw (n := A.1) h0 i
        refine z_run (cuts := cu_RN_isomorphisms) ok_RN_isomorphisms (fun Kz hKz => ?_)
        conv => whnf
        rw [nI_leI (by omega) (by omega)]
        refine ⟨fun q => absurd q (by omega), fun _ => ?_⟩
        conv => whnf
        refine s_RN_isIsomorphism hk hj (isPM_rn hA g1) (isPM_rn hB g1) q g2 hv ?_
        conv => whnf
        refine s_T_oneIfb ?_
        conv => whnf
        refine s_RN_step hv.1 h0 hn (wv_lt hv hn) g2 (fun M2 g3 g4 => ?_)
        conv => whnf
        refine hKz _ _ _ _ ?_
        rw [nI_add, hd, pk_m1, ← hd2]
        exact ih M2 (zsm_trans g1 g3) g4
    conv => whnf
    refine s_RN_start (fun M1 g1 g2 => ?_)
    conv => whnf
    refine s_RN_permutations h0 hn ?_
    conv => whnf
    refine hKz _ _ _ _ ?_
    exact lp 0 (Nat.zero_le _) M1 g1 (g2 A.1 hn)
  · conv => whnf
    exact h2 q
theorem cst_rn {M M' : ZM} (h : zsm rnS M M') : cst M M' :=
  cst_of h (fun b hb => ⟨fun q => absurd q.1 (by decide), fun q => absurd q.1 (by decide)⟩) (fun b hb => ⟨fun q => absurd q.1 (by decide), fun q => absurd q.1 (by decide), fun q => absurd q.1 (by decide)⟩)
theorem csm_rn {M M' : ZM} (h : zsm rnS M M') : csm M M' := csm_of h (fun a b q => by have := q.1; omega)
end
