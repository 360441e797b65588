/-- the braids lead tuple j to different tuples -/
def dif (A : ZP) (w v : List (Nat × Bool)) (s j : Nat) : Prop := ¬ brun A w (dgl A.1 s j) = brun A v (dgl A.1 s j)
section
variable {G : ZG} {M : ZM} {Z : Option ZV → ZM → Prop} {S : ZS}
theorem s_BA_firstDifference {b c s : Nat} {A : ZP} {w v : List (Nat × Bool)} (hb : b < 3) (hc : c < 3) (h2 : 2 ≤ s) (h4 : s ≤ 4) (h0 : 0 < A.1) (hB : isBA M A) (hw : isBR M b w) (hv : isBR M c v) (hfw : fit A w s) (hfv : fit A v s) (hZ1 : ∀ j, j < A.1 ^ s → dif A w v s j → (∀ i, i < j → ¬ dif A w v s i) → Z (some (zi (nI (tcl (dgl A.1 s j))))) M) (hZ2 : (∀ i, i < A.1 ^ s → ¬ dif A w v s i) → Z (some (zi (-1))) M) : Ctr 0 G mi_BA_firstDifference [zr 18 0, zr 2 b, zr 2 c, zi (nI s)] M Z := by
  have hA := hB.1
  have hn := hA.1.1
  have h84 : 8 ^ s ≤ 8 ^ 4 := Nat.pow_le_pow_right (by decide) h4
  have hN : A.1 ^ s ≤ 1296 := Nat.le_trans (Nat.pow_le_pow_left hn s) (Nat.le_trans (Nat.pow_le_pow_right (by decide) h4) (by decide))
  have lp : ∀ j, j ≤ A.1 ^ s → ∀ t, (j < A.1 ^ s → t = enc A.1 s j) → (∀ i, i < j → ¬ dif A w v s i) → V 0 G mi_BA_firstDifference Z 10 [(0, zr 18 0), (1, zr 2 b), (2, zr 2 c), (3, zi (nI s)), (4, zi (nI t)), (5, zi (nI (A.1 ^ s - j)))] [] M := by
    refine up_to ?_ ?_
    · intro t _ g
      refine z_run (cuts := cu_BA_firstDifference) ok_BA_firstDifference (fun Kz hKz => ?_)
      conv => whnf
      rw [Nat.sub_self, nI_leI (by omega) (by omega)]
      refine ⟨fun _ => ?_, fun q => absurd (Nat.le_refl _) q⟩
      conv => whnf
      exact hZ2 g
    · intro j hj ih t ht g
      have hu : vW A s (dgl A.1 s j) := vW_dgl h0
      have hr := brun_vW hA.1 w _ (fit_letter hfw) hu
      have hr2 := brun_vW hA.1 v _ (fit_letter hfv) hu
      have t1 := tcl_lt (w := brun A v (dgl A.1 s j)) (fun d hd => by have := hr2.1 d hd; omega)
      have t2 := tcl_lt (w := brun A w (dgl A.1 s j)) (fun d hd => by have := hr.1 d hd; omega)
      rw [hr2.2] at t1
      rw [hr.2] at t2
      obtain ⟨d, hd⟩ : ∃ d, A.1 ^ s - j = d + 1 := ⟨A.1 ^ s - j - 1, by omega⟩
      have hd2 : A.1 ^ s - (j + 1) = d := by omega
      rw [hd2] at ih
      refine z_run (cuts := cu_BA_firstDifference) ok_BA_firstDifference (fun Kz hKz => ?_)
      conv => whnf
      rw [nI_leI (by omega) (by omega)]
      refine ⟨fun q => absurd q (by omega), fun _ => ?_⟩
      conv => whnf
      rw [ht hj, ← tcl_dgl]
      refine s_BA_resultOf hb h2 h4 hB hw hfw hu ?_
      conv => whnf
      refine s_BA_resultOf hc h2 h4 hB hv hfv hu ?_
      conv => whnf
      rw [nI_eq (by omega) (by omega)]
      refine ⟨fun q => ?_, fun q => ?_⟩
      · have q2 : ¬ dif A w v s j := fun e => e (vW_inj hA.1 hr hr2 q)
        conv => whnf
        refine ⟨by decide, ?_⟩
        refine s_PM_points (by decide) ?_
        rw [hA.2.1, tcl_dgl]
        conv => whnf
        refine s_CO_next h0 hn h4 hj (fun t2 ht1 ht2 => ?_)
        conv => whnf
        refine hKz _ _ _ _ ?_
        rw [hd, pk_m1]
        refine ih t2 ht2 (fun i hi => ?_)
        rcases Nat.lt_succ_iff_lt_or_eq.mp hi with hi | rfl
        · exact g i hi
        · exact q2
      · conv => whnf
        exact hZ1 j hj (fun e => q (by rw [e])) g
  refine go_BA_firstDifference (fun Kz hKz => ?_)
  conv => whnf
  refine s_BA_tuples h4 hA ?_
  conv => whnf
  refine hKz _ _ _ _ ?_
  exact lp 0 (Nat.zero_le _) 0 (fun _ => (enc_zero h0 s).symm) (fun i hi => absurd hi (Nat.not_lt_zero _))
theorem c_part {a s : Nat} (ha : a < 2 ^ 32) (hs : s < 2 ^ 32) (hC : CS M S) (h1 : (plA S a).1 = 0 → Z (some (zi (-1000001))) M) (h2 : ¬ (plA S a).1 = 0 → ¬ (2 ≤ s ∧ s ≤ 4) → Z (some (zi (-1000002))) M) (h3 : ¬ (plA S a).1 = 0 → 2 ≤ s → s ≤ 4 → ¬ (fit (plA S a) (S.2 0) s ∧ fit (plA S a) (S.2 1) s) → Z (some (zi (-1000003))) M) (h4 : ¬ (plA S a).1 = 0 → 2 ≤ s → s ≤ 4 → fit (plA S a) (S.2 0) s → fit (plA S a) (S.2 1) s → ∀ j, j < (plA S a).1 ^ s → dif (plA S a) (S.2 0) (S.2 1) s j → (∀ i, i < j → ¬ dif (plA S a) (S.2 0) (S.2 1) s i) → ∀ M', CS M' S → csm M M' → Z (some (zi (nI (tn (tcl (dgl (plA S a).1 s j)) s)))) M') (h5 : ¬ (plA S a).1 = 0 → 2 ≤ s → s ≤ 4 → fit (plA S a) (S.2 0) s → fit (plA S a) (S.2 1) s → (∀ i, i < (plA S a).1 ^ s → ¬ dif (plA S a) (S.2 0) (S.2 1) s i) → ∀ M', CS M' S → csm M M' → Z (some (zi (-1))) M') : Ctr 0 G mi_T_part [zr 5 0, zi (nI a), zi (nI s)] M Z := by
  have hA := CS_pl hC a
  have ka := plk_lt a
  have hn := hA.1.1
  have b0 := hC.2.2.1 0 (by decide)
  have b1 := hC.2.2.1 1 (by decide)
  refine go_T_part (fun Kz hKz => ?_)
  conv => whnf
  refine s_T_mapAt ha ?_
  conv => whnf
  refine ⟨by show plk a < 10; omega, ?_⟩
  refine s_PM_isEmpty (by omega) hA (fun e1 => ?_) (fun e1 => ?_)
  · conv => whnf
    first | refine ⟨fun _ => ?_, fun q => absurd (by decide) q⟩ | refine ⟨fun q => absurd q (by decide), fun _ => ?_⟩
    conv => whnf
    exact h1 e1
  · conv => whnf
    first | refine ⟨fun _ => ?_, fun q => absurd (by decide) q⟩ | refine ⟨fun q => absurd q (by decide), fun _ => ?_⟩
    conv => whnf
    refine s_T_isTupleLength hs (fun e3 e4 => ?_) (fun e3 => ?_)
    · conv => whnf
      first | refine ⟨fun _ => ?_, fun q => absurd (by decide) q⟩ | refine ⟨fun q => absurd q (by decide), fun _ => ?_⟩
      conv => whnf
      refine s_T_braidAt (by decide) ?_
      rw [if_pos (by decide)]
      conv => whnf
      refine s_T_braidAt (by decide) ?_
      rw [if_pos (by decide)]
      conv => whnf
      refine s_BA_isFit (by omega) (by decide) (by omega) hA b0 (isBR_bstr b0) (fun f0 => ?_) (fun f0 => ?_)
      · conv => whnf
        first | refine ⟨fun _ => ?_, fun q => absurd (by decide) q⟩ | refine ⟨fun q => absurd q (by decide), fun _ => ?_⟩
        conv => whnf
        refine s_BA_isFit (by omega) (by decide) (by omega) hA b1 (isBR_bstr b1) (fun f1 => ?_) (fun f1 => ?_)
        · conv => whnf
          first | refine ⟨fun _ => ?_, fun q => absurd (by decide) q⟩ | refine ⟨fun q => absurd q (by decide), fun _ => ?_⟩
          conv => whnf
          refine s_BA_prepare (by omega) hA (fun M1 g1 g2 => ?_)
          have hC1 := CS_cst hC (cst_ba g1)
          conv => whnf
          refine s_BA_firstDifference (by decide) (by decide) e3 e4 (by omega) g2 (hC1.2.2.1 0 (by decide)) (hC1.2.2.1 1 (by decide)) f0 f1 (fun j hj hd hi => ?_) (fun hi => ?_)
          · have hu : vW (plA S a) s (dgl (plA S a).1 s j) := vW_dgl (by omega)
            have t1 := tcl_lt (w := dgl (plA S a).1 s j) (fun d hd => by have := hu.1 d hd; omega)
            have h84 : 8 ^ s ≤ 8 ^ 4 := Nat.pow_le_pow_right (by decide) e4
            rw [hu.2] at t1
            conv => whnf
            rw [n_m1ne (by omega)]
            refine ⟨fun _ => ?_, fun w => absurd (by omega) w⟩
            conv => whnf
            refine s_CO_turned (by omega) (by omega) ?_
            conv => whnf
            exact h4 e1 e3 e4 f0 f1 j hj hd hi M1 hC1 (csm_ba g1)
          · conv => whnf
            refine ⟨fun w => absurd rfl w, fun _ => ?_⟩
            conv => whnf
            exact h5 e1 e3 e4 f0 f1 hi M1 hC1 (csm_ba g1)
        · conv => whnf
          first | refine ⟨fun _ => ?_, fun q => absurd (by decide) q⟩ | refine ⟨fun q => absurd q (by decide), fun _ => ?_⟩
          conv => whnf
          exact h3 e1 e3 e4 (fun q => f1 q.2)
      · conv => whnf
        first | refine ⟨fun _ => ?_, fun q => absurd (by decide) q⟩ | refine ⟨fun q => absurd q (by decide), fun _ => ?_⟩
        conv => whnf
        exact h3 e1 e3 e4 (fun q => f0 q.1)
    · conv => whnf
      first | refine ⟨fun _ => ?_, fun q => absurd (by decide) q⟩ | refine ⟨fun q => absurd q (by decide), fun _ => ?_⟩
      conv => whnf
      exact h2 e1 e3
end
