/-- how many tuples a braid leaves as they are -/
noncomputable def nFix (A : ZP) (w : List (Nat × Bool)) (s : Nat) : Nat → Nat := cnt fun j => decide (brun A w (dgl A.1 s j) = dgl A.1 s j)
section
variable {G : ZG} {M : ZM} {Z : Option ZV → ZM → Prop} {S : ZS}
theorem s_T_actionError {a b s : Nat} (ha : a < 2 ^ 32) (hb : b < 2 ^ 32) (hs : s < 2 ^ 32) (hC : CS M S) (h1 : (plA S a).1 = 0 ∨ ¬ b < 2 → Z (some (zi (-1000001))) M) (h2 : ¬ (plA S a).1 = 0 → b < 2 → ¬ (2 ≤ s ∧ s ≤ 4) → Z (some (zi (-1000002))) M) (h3 : ¬ (plA S a).1 = 0 → b < 2 → 2 ≤ s → s ≤ 4 → ¬ fit (plA S a) (S.2 b) s → Z (some (zi (-1000003))) M) (h4 : ¬ (plA S a).1 = 0 → b < 2 → 2 ≤ s → s ≤ 4 → fit (plA S a) (S.2 b) s → Z (some (zi (nI 0))) M) : Ctr 0 G mi_T_actionError [zr 5 0, zi (nI a), zi (nI b), zi (nI s)] M Z := by
  have hA := CS_pl hC a
  have ka := plk_lt a
  refine go_T_actionError (fun Kz hKz => ?_)
  conv => whnf
  refine s_T_mapAt ha ?_
  conv => whnf
  refine ⟨by show plk a < 10; omega, ?_⟩
  refine s_PM_isEmpty (by omega) hA (fun e1 => ?_) (fun e1 => ?_)
  · conv => whnf
    first | refine ⟨fun _ => ?_, fun q => absurd (by decide) q⟩ | refine ⟨fun q => absurd q (by decide), fun _ => ?_⟩
    conv => whnf
    exact h1 (Or.inl e1)
  · conv => whnf
    first | refine ⟨fun _ => ?_, fun q => absurd (by decide) q⟩ | refine ⟨fun q => absurd q (by decide), fun _ => ?_⟩
    conv => whnf
    refine s_T_isBraid hb (fun e2 => ?_) (fun e2 => ?_)
    · have hB := hC.2.2.1 b e2
      conv => whnf
      first | refine ⟨fun _ => ?_, fun q => absurd (by decide) q⟩ | refine ⟨fun q => absurd q (by decide), fun _ => ?_⟩
      conv => whnf
      refine s_T_isTupleLength hs (fun e3 e4 => ?_) (fun e3 => ?_)
      · conv => whnf
        first | refine ⟨fun _ => ?_, fun q => absurd (by decide) q⟩ | refine ⟨fun q => absurd q (by decide), fun _ => ?_⟩
        conv => whnf
        refine s_T_braidAt hb ?_
        rw [if_pos e2]
        conv => whnf
        refine s_BA_isFit (by omega) (by omega) (by omega) hA hB (isBR_bstr hB) (fun hf => ?_) (fun hf => ?_)
        · conv => whnf
          first | refine ⟨fun _ => ?_, fun q => absurd (by decide) q⟩ | refine ⟨fun q => absurd q (by decide), fun _ => ?_⟩
          conv => whnf
          exact h4 e1 e2 e3 e4 hf
        · conv => whnf
          first | refine ⟨fun _ => ?_, fun q => absurd (by decide) q⟩ | refine ⟨fun q => absurd q (by decide), fun _ => ?_⟩
          conv => whnf
          exact h3 e1 e2 e3 e4 hf
      · conv => whnf
        first | refine ⟨fun _ => ?_, fun q => absurd (by decide) q⟩ | refine ⟨fun q => absurd q (by decide), fun _ => ?_⟩
        conv => whnf
        exact h2 e1 e2 e3
    · conv => whnf
      first | refine ⟨fun _ => ?_, fun q => absurd (by decide) q⟩ | refine ⟨fun q => absurd q (by decide), fun _ => ?_⟩
      conv => whnf
      exact h1 (Or.inr e2)
theorem s_BA_tuples {s : Nat} {A : ZP} (h4 : s ≤ 4) (hA : isPM M 8 A) (hZ : Z (some (zi (nI (A.1 ^ s)))) M) : Ctr 0 G mi_BA_tuples [zr 18 0, zi (nI s)] M Z := by
  have hn := hA.1.1
  refine go_BA_tuples (fun Kz hKz => ?_)
  conv => whnf
  refine ⟨by decide, ?_⟩
  refine s_PM_points (by decide) ?_
  rw [hA.2.1]
  conv => whnf
  refine s_CO_sequences (by omega) hn ?_
  conv => whnf
  exact hZ
theorem s_BA_fixedTuples {b s : Nat} {A : ZP} {w : List (Nat × Bool)} (hb : b < 3) (h2 : 2 ≤ s) (h4 : s ≤ 4) (h0 : 0 < A.1) (hB : isBA M A) (hw : isBR M b w) (hf : fit A w s) (hZ : Z (some (zi (nI (nFix A w s (A.1 ^ s))))) M) : Ctr 0 G mi_BA_fixedTuples [zr 18 0, zr 2 b, zi (nI s)] M Z := by
  have hA := hB.1
  have hn := hA.1.1
  have h84 : 8 ^ s ≤ 8 ^ 4 := Nat.pow_le_pow_right (by decide) h4
  have hN : A.1 ^ s ≤ 1296 := Nat.le_trans (Nat.pow_le_pow_left hn s) (Nat.le_trans (Nat.pow_le_pow_right (by decide) h4) (by decide))
  have lp : ∀ j, j ≤ A.1 ^ s → ∀ t, (j < A.1 ^ s → t = enc A.1 s j) → V 0 G mi_BA_fixedTuples Z 12 [(0, zr 18 0), (1, zr 2 b), (2, zi (nI s)), (3, zi (nI (nFix A w s j))), (4, zi (nI t)), (5, zi (nI (A.1 ^ s - j)))] [] M := by
    refine up_to ?_ ?_
    · intro t _
      refine z_run (cuts := cu_BA_fixedTuples) ok_BA_fixedTuples (fun Kz hKz => ?_)
      conv => whnf
      rw [Nat.sub_self, nI_leI (by omega) (by omega)]
      refine ⟨fun _ => ?_, fun q => absurd (Nat.le_refl _) q⟩
      conv => whnf
      exact hZ
    · intro j hj ih t ht
      have hv : vW A s (dgl A.1 s j) := vW_dgl h0
      have hr := brun_vW hA.1 w _ (fit_letter hf) hv
      have t1 := tcl_lt (w := dgl A.1 s j) (fun d hd => by have := hv.1 d hd; omega)
      have t2 := tcl_lt (w := brun A w (dgl A.1 s j)) (fun d hd => by have := hr.1 d hd; omega)
      rw [hv.2] at t1
      rw [hr.2] at t2
      obtain ⟨d, hd⟩ : ∃ d, A.1 ^ s - j = d + 1 := ⟨A.1 ^ s - j - 1, by omega⟩
      have hd2 : A.1 ^ s - (j + 1) = d := by omega
      have ih2 : ∀ c, c = nFix A w s (j + 1) → ∀ t, (j + 1 < A.1 ^ s → t = enc A.1 s (j + 1)) → V 0 G mi_BA_fixedTuples Z 12 [(0, zr 18 0), (1, zr 2 b), (2, zi (nI s)), (3, zi (nI c)), (4, zi (nI t)), (5, zi (nI d))] [] M := by
        rintro c rfl
        rw [← hd2]
        exact ih
      refine z_run (cuts := cu_BA_fixedTuples) ok_BA_fixedTuples (fun Kz hKz => ?_)
      conv => whnf
      rw [nI_leI (by omega) (by omega)]
      refine ⟨fun q => absurd q (by omega), fun _ => ?_⟩
      conv => whnf
      rw [ht hj, ← tcl_dgl]
      refine s_BA_resultOf hb h2 h4 hB hw hf hv ?_
      conv => whnf
      rw [n_ne (by omega) (by omega)]
      refine ⟨fun q => ?_, fun q => ?_⟩
      · have q2 : ¬ brun A w (dgl A.1 s j) = dgl A.1 s j := fun e => q (by rw [e])
        conv => whnf
        refine s_T_oneIfb (b := false) ?_
        conv => whnf
        refine ⟨by decide, ?_⟩
        refine s_PM_points (by decide) ?_
        rw [hA.2.1, tcl_dgl]
        conv => whnf
        refine s_CO_next h0 hn h4 hj (fun t2 ht1 ht2 => ?_)
        conv => whnf
        refine hKz _ _ _ _ ?_
        rw [nI_add, hd, pk_m1]
        refine ih2 _ ?_ t2 ht2
        simp only [nFix, cnt, decide_eq_false q2, Bool.toNat_false, Nat.add_zero]
      · have q2 : brun A w (dgl A.1 s j) = dgl A.1 s j := vW_inj hA.1 hr hv (Classical.not_not.mp q)
        conv => whnf
        refine s_T_oneIfb (b := true) ?_
        conv => whnf
        refine ⟨by decide, ?_⟩
        refine s_PM_points (by decide) ?_
        rw [hA.2.1, tcl_dgl]
        conv => whnf
        refine s_CO_next h0 hn h4 hj (fun t2 ht1 ht2 => ?_)
        conv => whnf
        refine hKz _ _ _ _ ?_
        rw [nI_add, hd, pk_m1]
        refine ih2 _ ?_ t2 ht2
        simp only [nFix, cnt, decide_eq_true q2, Bool.toNat_true]
  refine go_BA_fixedTuples (fun Kz hKz => ?_)
  conv => whnf
  refine s_BA_tuples h4 hA ?_
  conv => whnf
  refine hKz _ _ _ _ ?_
  exact lp 0 (Nat.zero_le _) 0 (fun _ => (enc_zero h0 s).symm)
theorem c_stays {a b s : Nat} (ha : a < 2 ^ 32) (hb : b < 2 ^ 32) (hs : s < 2 ^ 32) (hC : CS M S) (h1 : (plA S a).1 = 0 ∨ ¬ b < 2 → Z (some (zi (-1000001))) M) (h2 : ¬ (plA S a).1 = 0 → b < 2 → ¬ (2 ≤ s ∧ s ≤ 4) → Z (some (zi (-1000002))) M) (h3 : ¬ (plA S a).1 = 0 → b < 2 → 2 ≤ s → s ≤ 4 → ¬ fit (plA S a) (S.2 b) s → Z (some (zi (-1000003))) M) (h4 : ¬ (plA S a).1 = 0 → b < 2 → 2 ≤ s → s ≤ 4 → fit (plA S a) (S.2 b) s → ∀ M', CS M' S → csm M M' → Z (some (zi (nI (nFix (plA S a) (S.2 b) s ((plA S a).1 ^ s))))) M') : Ctr 0 G mi_T_stays [zr 5 0, zi (nI a), zi (nI b), zi (nI s)] M Z := by
  have hA := CS_pl hC a
  have ka := plk_lt a
  refine go_T_stays (fun Kz hKz => ?_)
  conv => whnf
  refine s_T_actionError ha hb hs hC (fun e => ?_) (fun e e2 e3 => ?_) (fun e e2 e3 e4 e5 => ?_) (fun e e2 e3 e4 hf => ?_)
  · conv => whnf
    first | refine ⟨fun _ => ?_, fun q => absurd (by decide) q⟩ | refine ⟨fun q => absurd q (by decide), fun _ => ?_⟩
    conv => whnf
    exact h1 e
  · conv => whnf
    first | refine ⟨fun _ => ?_, fun q => absurd (by decide) q⟩ | refine ⟨fun q => absurd q (by decide), fun _ => ?_⟩
    conv => whnf
    exact h2 e e2 e3
  · conv => whnf
    first | refine ⟨fun _ => ?_, fun q => absurd (by decide) q⟩ | refine ⟨fun q => absurd q (by decide), fun _ => ?_⟩
    conv => whnf
    exact h3 e e2 e3 e4 e5
  · conv => whnf
    first | refine ⟨fun _ => ?_, fun q => absurd (by decide) q⟩ | refine ⟨fun q => absurd q (by decide), fun _ => ?_⟩
    conv => whnf
    refine s_T_mapAt ha ?_
    conv => whnf
    refine s_BA_prepare (by omega) hA (fun M1 g1 g2 => ?_)
    have hC1 := CS_cst hC (cst_ba g1)
    conv => whnf
    refine s_T_braidAt hb ?_
    rw [if_pos e2]
    conv => whnf
    refine s_BA_fixedTuples (by omega) e3 e4 (by omega) g2 (hC1.2.2.1 b e2) hf ?_
    conv => whnf
    exact h4 e e2 e3 e4 hf M1 hC1 (csm_ba g1)
end
