/-! the properties of a map: what each number asks -/
def nBrk (A : ZP) : Nat := cnt (fun j => brk A (dgl A.1 3 j)) (A.1 ^ 3)
def whR (A : ZP) (v : Int32) : Nat → Prop
  | 0 => v = nI A.1
  | 1 => v = nI (decide (nBrk A = 0)).toNat
  | 2 => v = nI (nBrk A)
  | 3 => (pinj A → v = nI 1) ∧ (¬ pinj A → v = nI 0)
  | 4 => (pinvo A → v = nI 1) ∧ (¬ pinvo A → v = nI 0)
  | 5 => (plnd A → v = nI 1) ∧ (¬ plnd A → v = nI 0)
  | 6 => (prnd A → v = nI 1) ∧ (¬ prnd A → v = nI 0)
  | 7 => (psq A → v = nI 1) ∧ (¬ psq A → v = nI 0)
  | 8 => ∃ p : Nat → Bool, (∀ x, x < A.1 → ∃ r, isOrb A x r ∧ (p x = true ↔ ∀ i, i < x → r.testBit i = false)) ∧ v = nI (cnt p A.1)
  | 9 => ∃ t, isLev A t ∧ ((rt A t).1 = 1 → v = nI t) ∧ (¬ (rt A t).1 = 1 → v = -1)
  | 10 => (¬ plnd A → v = -1) ∧ (plnd A → ∃ L, isGen A L ∧ v = nI L.length)
  | 11 => v = nI (nIso A A (fac A.1))
  | 12 => (¬ pinj A → v = -1) ∧ (pinj A → ∃ C : Nat → Nat, (∀ p, p < A.1 * A.1 → isCyc (pj A A.1) p (C p)) ∧ v = nI (lcmU C (A.1 * A.1)))
  | 13 => v = nI (cnt (clSb A) (2 ^ A.1))
  | 14 => (∃ i, A.1 ≤ 4 ∧ i < sz A.1 ∧ 0 < nIso A (plist A.1 i) (fac A.1) ∧ (∀ j, j < i → ¬ 0 < nIso A (plist A.1 j) (fac A.1)) ∧ v = nI i) ∨ ((A.1 ≤ 4 → ∀ i, i < sz A.1 → ¬ 0 < nIso A (plist A.1 i) (fac A.1)) ∧ v = -1)
  | _ => v = -1000002
theorem yn_uniq {P : Prop} {v v' : Int32} (h : (P → v = nI 1) ∧ (¬ P → v = nI 0)) (h' : (P → v' = nI 1) ∧ (¬ P → v' = nI 0)) : v = v' := by
  by_cases q : P
  · rw [h.1 q, h'.1 q]
  · rw [h.2 q, h'.2 q]
theorem cnt_congr {p q : Nat → Bool} : ∀ k, (∀ i, i < k → p i = q i) → cnt p k = cnt q k := by
  intro k
  induction k with
  | zero => intro _; rfl
  | succ k ih => intro h; rw [cnt, cnt, ih fun i hi => h i (by omega), h k (by omega)]
theorem lcmU_congr {C D : Nat → Nat} : ∀ k, (∀ i, i < k → C i = D i) → lcmU C k = lcmU D k := by
  intro k
  induction k with
  | zero => intro _; rfl
  | succ k ih => intro h; rw [lcmU, lcmU, ih fun i hi => h i (by omega), h k (by omega)]
theorem whR_uniq {A : ZP} {v v' : Int32} : ∀ c, whR A v c → whR A v' c → v = v'
  | 0, h, h' => h.trans h'.symm
  | 1, h, h' => h.trans h'.symm
  | 2, h, h' => h.trans h'.symm
  | 3, h, h' => yn_uniq h h'
  | 4, h, h' => yn_uniq h h'
  | 5, h, h' => yn_uniq h h'
  | 6, h, h' => yn_uniq h h'
  | 7, h, h' => yn_uniq h h'
  | 8, ⟨p, h1, h2⟩, ⟨p', h1', h2'⟩ => by
    rw [h2, h2']
    refine congrArg nI (cnt_congr _ fun x hx => ?_)
    obtain ⟨r, g1, g2⟩ := h1 x hx
    obtain ⟨r', g1', g2'⟩ := h1' x hx
    rw [isOrb_uniq g1' g1] at g2'
    rw [Bool.eq_iff_iff, g2, g2']
  | 9, ⟨t, h1, h2, h3⟩, ⟨t', h1', h2', h3'⟩ => by
    have e := isLev_uniq h1' h1
    subst e
    by_cases q : (rt A t').1 = 1
    · rw [h2 q, h2' q]
    · rw [h3 q, h3' q]
  | 10, h, h' => by
    by_cases q : plnd A
    · obtain ⟨L, g1, g2⟩ := h.2 q
      obtain ⟨L', g1', g2'⟩ := h'.2 q
      rw [g2, g2', isGen_uniq g1 g1']
    · rw [h.1 q, h'.1 q]
  | 11, h, h' => h.trans h'.symm
  | 12, h, h' => by
    by_cases q : pinj A
    · obtain ⟨C, g1, g2⟩ := h.2 q
      obtain ⟨C', g1', g2'⟩ := h'.2 q
      rw [g2, g2']
      exact congrArg nI (lcmU_congr _ fun i hi => cyc_uniq (g1 i hi) (g1' i hi))
    · rw [h.1 q, h'.1 q]
  | 13, h, h' => h.trans h'.symm
  | 14, h, h' => by
    rcases h with ⟨i, g1, g2, g3, g4, g5⟩ | ⟨g1, g2⟩
    · rcases h' with ⟨i', g1', g2', g3', g4', g5'⟩ | ⟨g1', g2'⟩
      · rw [g5, g5']
        rcases Nat.lt_trichotomy i i' with q | q | q
        · exact absurd g3 (g4' i q)
        · rw [q]
        · exact absurd g3' (g4 i' q)
      · exact absurd g3 (g1' g1 i g2)
    · rcases h' with ⟨i', g1', g2', g3', g4', g5'⟩ | ⟨g1', g2'⟩
      · exact absurd g3' (g1 g1' i' g2')
      · rw [g2, g2']
  | c + 15, h, h' => Eq.trans (b := (-1000002 : Int32)) h (Eq.symm h')
theorem csm_gr {M M' : ZM} (h : grs M M') : csm M M' := fun a b q => ⟨h.1 a b (by omega), funext fun c => h.2 a b c (by omega)⟩
theorem cst_gr {M M' : ZM} (h : grs M M') : cst M M' := ⟨fun b _ => ⟨h.1 0 b (by omega), h.1 1 b (by omega)⟩, fun b _ => ⟨h.1 2 b (by omega), h.1 3 b (by omega), h.1 4 b (by omega)⟩⟩
theorem lvS_no {a b : Nat} (h : lvS a b) : ¬ ((a = 2 ∨ a = 3 ∨ a = 4) ∨ ((a = 0 ∨ a = 1) ∧ b < 5)) ∧ a < 20 := by
  rcases h with h | h | h
  · have h2 := h.1; have := h.2; omega
  · have h2 := h.1; have := h.2; omega
  · have h2 := h.1; have := h.2; omega
theorem cst_lv {M M' : ZM} (h : zsm lvS M M') : cst M M' :=
  cst_of h (fun b hb => ⟨fun q => (lvS_no q).1 (by omega), fun q => (lvS_no q).1 (by omega)⟩) (fun b hb => ⟨fun q => (lvS_no q).1 (by omega), fun q => (lvS_no q).1 (by omega), fun q => (lvS_no q).1 (by omega)⟩)
theorem csm_lv {M M' : ZM} (h : zsm lvS M M') : csm M M' := csm_of h (fun a b q => (lvS_no q).2)
section
variable {G : ZG} {M : ZM} {Z : Option ZV → ZM → Prop} {S : ZS}
theorem c_whole {a c : Nat} (ha : a < 2 ^ 32) (hc : c < 2 ^ 32) (hC : CS M S) (h1 : (plA S a).1 = 0 → Z (some (zi (-1000001))) M) (h2 : ¬ (plA S a).1 = 0 → ∀ v, whR (plA S a) v c → ∀ M', CS M' S → csm M M' → Z (some (zi v)) M') : Ctr 0 G mi_T_whole [zr 5 0, zi (nI a), zi (nI c)] M Z := by
  have hA := CS_pl hC a
  have ka := plk_lt a
  have hn := hA.1.1
  have yes : ∀ {P : Prop}, P → (P → nI 1 = nI 1) ∧ (¬ P → nI 1 = nI 0) := fun h => ⟨fun _ => rfl, fun q => absurd h q⟩
  have no : ∀ {P : Prop}, ¬ P → (P → nI 0 = nI 1) ∧ (¬ P → nI 0 = nI 0) := fun h => ⟨fun q => absurd q h, fun _ => rfl⟩
  refine go_T_whole (fun Kz hKz => ?_)
  conv => whnf
  refine s_T_mapAt ha ?_
  conv => whnf
  refine ⟨by show plk a < 10; omega, ?_⟩
  refine s_PM_isEmpty (by omega) hA (fun e1 => ?_) (fun e1 => ?_)
  · conv => whnf
    first | refine ⟨fun _ => ?_, fun q => absurd (by decide) q⟩ | refine ⟨fun q => absurd q (by decide), fun _ => ?_⟩
    conv => whnf
    exact h1 e1
  · have h2 := h2 e1
    have hk : plk a < 10 := by omega
    have hpos : 0 < (plA S a).1 := by omega
    conv => whnf
    first | refine ⟨fun _ => ?_, fun q => absurd (by decide) q⟩ | refine ⟨fun q => absurd q (by decide), fun _ => ?_⟩
    conv => whnf
    refine ⟨fun (q : nI c = nI 0) => ?_, fun (q : ¬ nI c = nI 0) => ?_⟩
    · rw [n_eq hc (by decide)] at q
      subst q
      conv => whnf
      refine ⟨by show plk a < 10; omega, ?_⟩
      refine s_PM_points hk ?_
      rw [hA.2.1]
      conv => whnf
      exact h2 _ rfl M hC (csm_refl M)
    rw [n_eq hc (by decide)] at q
    conv => whnf
    refine ⟨fun (q : nI c = nI 1) => ?_, fun (q : ¬ nI c = nI 1) => ?_⟩
    · rw [n_eq hc (by decide)] at q
      subst q
      have hle := cnt_le (fun j => brk (plA S a) (dgl (plA S a).1 3 j)) ((plA S a).1 ^ 3)
      have h3 : (plA S a).1 ^ 3 ≤ 6 ^ 3 := Nat.pow_le_pow_left hn 3
      have h63 : (6 : Nat) ^ 3 = 216 := by decide
      conv => whnf
      refine s_CH_brokenTriples hk hA hpos ?_
      conv => whnf
      rw [n_ne (by omega) (by decide)]
      refine ⟨fun z => ?_, fun z => ?_⟩
      · have e : (decide (nBrk (plA S a) = 0)).toNat = 0 := by rw [decide_eq_false (show ¬ nBrk (plA S a) = 0 from z)]; rfl
        conv => whnf
        refine s_T_oneIfb (b := false) ?_
        conv => whnf
        exact h2 _ (show nI 0 = nI (decide (nBrk (plA S a) = 0)).toNat by rw [e]) M hC (csm_refl M)
      · have e : (decide (nBrk (plA S a) = 0)).toNat = 1 := by rw [decide_eq_true (show nBrk (plA S a) = 0 from Classical.not_not.mp z)]; rfl
        conv => whnf
        refine s_T_oneIfb (b := true) ?_
        conv => whnf
        exact h2 _ (show nI 1 = nI (decide (nBrk (plA S a) = 0)).toNat by rw [e]) M hC (csm_refl M)
    rw [n_eq hc (by decide)] at q
    conv => whnf
    refine ⟨fun (q : nI c = nI 2) => ?_, fun (q : ¬ nI c = nI 2) => ?_⟩
    · rw [n_eq hc (by decide)] at q
      subst q
      conv => whnf
      refine s_CH_brokenTriples hk hA hpos ?_
      conv => whnf
      exact h2 _ (show nI _ = nI (nBrk (plA S a)) from rfl) M hC (csm_refl M)
    rw [n_eq hc (by decide)] at q
    conv => whnf
    refine ⟨fun (q : nI c = nI 3) => ?_, fun (q : ¬ nI c = nI 3) => ?_⟩
    · rw [n_eq hc (by decide)] at q
      subst q
      conv => whnf
      refine s_CH_isBijective hk hA (fun z => ?_) (fun z => ?_)
      · conv => whnf
        refine s_T_oneIfb (b := true) ?_
        conv => whnf
        exact h2 _ (yes z) M hC (csm_refl M)
      · conv => whnf
        refine s_T_oneIfb (b := false) ?_
        conv => whnf
        exact h2 _ (no z) M hC (csm_refl M)
    rw [n_eq hc (by decide)] at q
    conv => whnf
    refine ⟨fun (q : nI c = nI 4) => ?_, fun (q : ¬ nI c = nI 4) => ?_⟩
    · rw [n_eq hc (by decide)] at q
      subst q
      conv => whnf
      refine s_CH_isInvolutive hk hA (fun z => ?_) (fun z => ?_)
      · conv => whnf
        refine s_T_oneIfb (b := true) ?_
        conv => whnf
        exact h2 _ (yes z) M hC (csm_refl M)
      · conv => whnf
        refine s_T_oneIfb (b := false) ?_
        conv => whnf
        exact h2 _ (no z) M hC (csm_refl M)
    rw [n_eq hc (by decide)] at q
    conv => whnf
    refine ⟨fun (q : nI c = nI 5) => ?_, fun (q : ¬ nI c = nI 5) => ?_⟩
    · rw [n_eq hc (by decide)] at q
      subst q
      conv => whnf
      refine s_CH_isLeftNondegenerate hk hA (fun z => ?_) (fun z => ?_)
      · conv => whnf
        refine s_T_oneIfb (b := true) ?_
        conv => whnf
        exact h2 _ (yes z) M hC (csm_refl M)
      · conv => whnf
        refine s_T_oneIfb (b := false) ?_
        conv => whnf
        exact h2 _ (no z) M hC (csm_refl M)
    rw [n_eq hc (by decide)] at q
    conv => whnf
    refine ⟨fun (q : nI c = nI 6) => ?_, fun (q : ¬ nI c = nI 6) => ?_⟩
    · rw [n_eq hc (by decide)] at q
      subst q
      conv => whnf
      refine s_CH_isRightNondegenerate hk hA (fun z => ?_) (fun z => ?_)
      · conv => whnf
        refine s_T_oneIfb (b := true) ?_
        conv => whnf
        exact h2 _ (yes z) M hC (csm_refl M)
      · conv => whnf
        refine s_T_oneIfb (b := false) ?_
        conv => whnf
        exact h2 _ (no z) M hC (csm_refl M)
    rw [n_eq hc (by decide)] at q
    conv => whnf
    refine ⟨fun (q : nI c = nI 7) => ?_, fun (q : ¬ nI c = nI 7) => ?_⟩
    · rw [n_eq hc (by decide)] at q
      subst q
      conv => whnf
      refine s_CH_isSquareFree hk hA (fun z => ?_) (fun z => ?_)
      · conv => whnf
        refine s_T_oneIfb (b := true) ?_
        conv => whnf
        exact h2 _ (yes z) M hC (csm_refl M)
      · conv => whnf
        refine s_T_oneIfb (b := false) ?_
        conv => whnf
        exact h2 _ (no z) M hC (csm_refl M)
    rw [n_eq hc (by decide)] at q
    conv => whnf
    refine ⟨fun (q : nI c = nI 8) => ?_, fun (q : ¬ nI c = nI 8) => ?_⟩
    · rw [n_eq hc (by decide)] at q
      subst q
      conv => whnf
      refine s_CH_orbits hk hA (fun p hp => ?_)
      conv => whnf
      exact h2 _ ⟨p, hp, rfl⟩ M hC (csm_refl M)
    rw [n_eq hc (by decide)] at q
    conv => whnf
    refine ⟨fun (q : nI c = nI 9) => ?_, fun (q : ¬ nI c = nI 9) => ?_⟩
    · rw [n_eq hc (by decide)] at q
      subst q
      conv => whnf
      refine s_AC_levelOf (by omega) hA hpos (fun t g1 g2 M' g3 => ?_) (fun t g1 g2 M' g3 => ?_)
      · conv => whnf
        exact h2 _ ⟨t, g1, fun _ => rfl, fun z => absurd g2 z⟩ M' (CS_cst hC (cst_lv g3)) (csm_lv g3)
      · conv => whnf
        exact h2 _ ⟨t, g1, fun z => absurd z g2, fun _ => rfl⟩ M' (CS_cst hC (cst_lv g3)) (csm_lv g3)
    rw [n_eq hc (by decide)] at q
    conv => whnf
    refine ⟨fun (q : nI c = nI 10) => ?_, fun (q : ¬ nI c = nI 10) => ?_⟩
    · rw [n_eq hc (by decide)] at q
      subst q
      conv => whnf
      refine s_RG_orderFor hk hA (fun z => ?_) (fun z L g1 g2 M' g3 => ?_)
      · conv => whnf
        exact h2 _ ⟨fun _ => rfl, fun y => absurd y z⟩ M hC (csm_refl M)
      · conv => whnf
        exact h2 _ ⟨fun y => absurd z y, fun _ => ⟨L, g1, rfl⟩⟩ M' (CS_cst hC (cst_gr g3)) (csm_gr g3)
    rw [n_eq hc (by decide)] at q
    conv => whnf
    refine ⟨fun (q : nI c = nI 11) => ?_, fun (q : ¬ nI c = nI 11) => ?_⟩
    · rw [n_eq hc (by decide)] at q
      subst q
      conv => whnf
      refine s_RN_isomorphisms hk hk hA hA hpos (fun _ M' g1 => ?_) (fun z => absurd rfl z)
      conv => whnf
      exact h2 _ rfl M' (CS_cst hC (cst_rn g1)) (csm_rn g1)
    rw [n_eq hc (by decide)] at q
    conv => whnf
    refine ⟨fun (q : nI c = nI 12) => ?_, fun (q : ¬ nI c = nI 12) => ?_⟩
    · rw [n_eq hc (by decide)] at q
      subst q
      conv => whnf
      refine s_CH_periodOf hk hA (fun z => ?_) (fun z C g1 g2 => ?_)
      · conv => whnf
        exact h2 _ ⟨fun _ => rfl, fun y => absurd y z⟩ M hC (csm_refl M)
      · conv => whnf
        exact h2 _ ⟨fun y => absurd z y, fun _ => ⟨C, fun p hp => (g1 p hp).2, rfl⟩⟩ M hC (csm_refl M)
    rw [n_eq hc (by decide)] at q
    conv => whnf
    refine ⟨fun (q : nI c = nI 13) => ?_, fun (q : ¬ nI c = nI 13) => ?_⟩
    · rw [n_eq hc (by decide)] at q
      subst q
      conv => whnf
      refine s_CH_closedSets hk hA ?_
      conv => whnf
      exact h2 _ rfl M hC (csm_refl M)
    rw [n_eq hc (by decide)] at q
    conv => whnf
    refine ⟨fun (q : nI c = nI 14) => ?_, fun (q : ¬ nI c = nI 14) => ?_⟩
    · rw [n_eq hc (by decide)] at q
      subst q
      conv => whnf
      refine s_SL_indexOf hk hpos hA (fun g1 i g2 g3 g4 M' g5 => ?_) (fun g1 M' g5 => ?_)
      · conv => whnf
        exact h2 _ (Or.inl ⟨i, g1, g2, g3, g4, rfl⟩) M' (CS_cst hC (cst_rn g5)) (csm_rn g5)
      · conv => whnf
        exact h2 _ (Or.inr ⟨g1, rfl⟩) M' (CS_cst hC (cst_rn g5)) (csm_rn g5)
    rw [n_eq hc (by decide)] at q
    obtain ⟨d, rfl⟩ : ∃ d, c = d + 15 := ⟨c - 15, by omega⟩
    conv => whnf
    exact h2 _ (show (-1000002 : Int32) = -1000002 from rfl) M hC (csm_refl M)
end
