theorem backs_le {A : ZP} {w : List (Nat × Bool)} {s n d : Nat} (h : backs A w s (n + 1) d) : backs A w s n d := fun j hj => h j (by omega)
section
variable {G : ZG} {M : ZM} {Z : Option ZV → ZM → Prop} {S : ZS}
theorem s_BA_periodOf {b s : Nat} {A : ZP} {w : List (Nat × Bool)} (hb : b < 3) (h2 : 2 ≤ s) (h4 : s ≤ 4) (ha : 0 < A.1) (hB : isBA M A) (hw : isBR M b w) (hf : fit A w s) (h1 : ∀ p, 1 ≤ p → p ≤ 60 → (∀ d, backs A w s (A.1 ^ s) d ↔ p ∣ d) → ∀ M', zsl 19 M M' → Z (some (zi (nI p))) M') (h0 : (∀ d, 1 ≤ d → d ≤ 60 → ¬ backs A w s (A.1 ^ s) d) → ∀ M', zsl 19 M M' → Z (some (zi (-1))) M') : Ctr 0 G mi_BA_periodOf [zr 18 0, zr 2 b, zi (nI s)] M Z := by
  have hA := hB.1
  have hn := hA.1.1
  have h84 : 8 ^ s ≤ 8 ^ 4 := Nat.pow_le_pow_right (by decide) h4
  have hN : A.1 ^ s ≤ 1296 := Nat.le_trans (Nat.pow_le_pow_left hn s) (Nat.le_trans (Nat.pow_le_pow_right (by decide) h4) (by decide))
  have mono : ∀ d k j, backs A w s (j + k) d → backs A w s j d := fun d k j h i hi => h i (by omega)
  have lp : ∀ j, j ≤ A.1 ^ s → ∀ t p M' U, (j < A.1 ^ s → t = enc A.1 s j) → zsl 19 M M' → isSn M' U → (∀ v, U v = true → ∃ i, i < j ∧ ∃ e, v = tcl (itT (brun A w) (dgl A.1 s i) e)) → 1 ≤ p → p ≤ 60 → (∀ d, backs A w s j d ↔ p ∣ d) → V 0 G mi_BA_periodOf Z 20 [(0, zr 18 0), (1, zr 2 b), (2, zi (nI s)), (3, zi (nI p)), (4, zi (nI t)), (5, zi (nI (A.1 ^ s - j)))] [] M' := by
    refine up_to ?_ ?_
    · intro t p M' U _ g1 g2 g3 p1 p2 hp
      refine z_run (cuts := cu_BA_periodOf) ok_BA_periodOf (fun Kz hKz => ?_)
      conv => whnf
      rw [Nat.sub_self, nI_leI (by omega) (by omega)]
      refine ⟨fun _ => ?_, fun q => absurd (Nat.le_refl _) q⟩
      conv => whnf
      exact h1 p p1 p2 hp M' g1
    · intro j hj ih t p M' U ht g1 g2 g3 p1 p2 hp
      have hv : vW A s (dgl A.1 s j) := vW_dgl ha
      have t1 := tcl_lt (w := dgl A.1 s j) (fun d hd => by have := hv.1 d hd; omega)
      rw [hv.2] at t1
      obtain ⟨d, hd⟩ : ∃ d, A.1 ^ s - j = d + 1 := ⟨A.1 ^ s - j - 1, by omega⟩
      have hd2 : A.1 ^ s - (j + 1) = d := by omega
      rw [hd2] at ih
      have hsplit : ∀ d, backs A w s (j + 1) d ↔ (backs A w s j d ∧ itT (brun A w) (dgl A.1 s j) d = dgl A.1 s j) := by
        intro d
        constructor
        · intro q; exact ⟨backs_le q, q j (by omega)⟩
        · rintro ⟨q1, q2⟩ i hi
          rcases Nat.lt_succ_iff_lt_or_eq.mp hi with hi | rfl
          · exact q1 i hi
          · exact q2
      refine z_run (cuts := cu_BA_periodOf) ok_BA_periodOf (fun Kz hKz => ?_)
      conv => whnf
      rw [hd, nI_leI (by omega) (by omega)]
      refine ⟨fun q => absurd q (by omega), fun _ => ?_⟩
      conv => whnf
      rw [ht hj]
      refine s_BA_isSeen (by rw [← tcl_dgl]; omega) g2 (fun hU => ?_) (fun hU => ?_)
      · obtain ⟨i, hi, e, he⟩ := g3 _ hU
        rw [← tcl_dgl] at he
        have hvi : vW A s (dgl A.1 s i) := vW_dgl ha
        have he2 := vW_inj hA.1 hv (itT_vW hA.1 hf hvi e) he
        have hp2 : ∀ d, backs A w s (j + 1) d ↔ p ∣ d := by
          intro d
          rw [hsplit d, ← hp d]
          refine ⟨fun q => q.1, fun q => ⟨q, ?_⟩⟩
          rw [he2, ← itT_add, Nat.add_comm, itT_add, q i hi]
        conv => whnf
        first | refine ⟨fun _ => ?_, fun q => absurd (by decide) q⟩ | refine ⟨fun q => absurd q (by decide), fun _ => ?_⟩
        conv => whnf
        rw [nI_leI (by omega) (by omega)]
        refine ⟨fun _ => ?_, fun q => absurd p2 q⟩
        conv => whnf
        refine ⟨by decide, ?_⟩
        refine s_PM_points (by decide) ?_
        rw [g1.1, hA.2.1]
        conv => whnf
        refine s_CO_next ha hn h4 hj (fun t2 ht1 ht2 => ?_)
        conv => whnf
        refine hKz _ _ _ _ ?_
        rw [pk_m1]
        exact ih t2 p M' U ht2 g1 g2 (fun v hv => by obtain ⟨i, hi, e⟩ := g3 v hv; exact ⟨i, by omega, e⟩) p1 p2 hp2
      · conv => whnf
        first | refine ⟨fun _ => ?_, fun q => absurd (by decide) q⟩ | refine ⟨fun q => absurd q (by decide), fun _ => ?_⟩
        conv => whnf
        rw [← tcl_dgl]
        refine s_BA_cycleLength hb h2 h4 (isBA_l hB g1.1) (isBR_l hw g1.1) hf hv g2 (fun c c1 c2 c3 c4 M2 U2 r1 r2 r3 => ?_) (fun hno M2 r1 => ?_)
        · have hlcm : ∀ d, backs A w s (j + 1) d ↔ Nat.lcm p c ∣ d := by
            intro d
            rw [hsplit d, hp d, itT_dvd c1 c3 c4 d, Nat.lcm_dvd_iff]
          have hl0 := Nat.lcm_pos (show 0 < p by omega) (show 0 < c by omega)
          have hl1 : Nat.lcm p c ≤ p * c := Nat.le_of_dvd (Nat.mul_pos (by omega) (by omega)) (Nat.lcm_dvd_mul _ _)
          have hl2 : p * c ≤ 60 * 60 := Nat.mul_le_mul p2 c2
          conv => whnf
          rw [n_m1ne (by omega)]
          refine ⟨fun q => ?_, fun q => absurd (by omega) q⟩
          conv => whnf
          refine s_CO_commonMultiple (by omega) (by omega) (by omega) ?_
          conv => whnf
          rw [nI_leI (by omega) (by omega)]
          refine ⟨fun q2 => ?_, fun q2 => ?_⟩
          · rw [tcl_dgl]
            conv => whnf
            refine ⟨by decide, ?_⟩
            refine s_PM_points (by decide) ?_
            rw [(zsl_trans g1 r1).1, hA.2.1]
            conv => whnf
            refine s_CO_next ha hn h4 hj (fun t2 ht1 ht2 => ?_)
            conv => whnf
            refine hKz _ _ _ _ ?_
            rw [pk_m1]
            exact ih t2 _ M2 U2 ht2 (zsl_trans g1 r1) r2 (fun v hv => by
              rcases r3 v hv with h | h
              · obtain ⟨i, hi, e⟩ := g3 v h
                exact ⟨i, by omega, e⟩
              · exact ⟨j, by omega, h⟩) (by omega) q2 hlcm
          · conv => whnf
            refine h0 (fun d d1 d2 hb => ?_) M2 (zsl_trans g1 r1)
            obtain ⟨k, hk⟩ : ∃ k, A.1 ^ s = j + 1 + k := ⟨A.1 ^ s - (j + 1), by omega⟩
            rw [hk] at hb
            have := Nat.le_of_dvd (by omega) ((hlcm d).mp (mono d k (j + 1) hb))
            omega
        · conv => whnf
          first | refine ⟨fun _ => ?_, fun q => absurd (by decide) q⟩ | refine ⟨fun q => absurd q (by decide), fun _ => ?_⟩
          conv => whnf
          exact h0 (fun d d1 d2 hb => hno d d1 d2 (hb j hj)) M2 (zsl_trans g1 r1)
  refine go_BA_periodOf (fun Kz hKz => ?_)
  conv => whnf
  refine s_JA_fill19 (fun M1 g1 g2 => ?_)
  conv => whnf
  refine s_BA_tuples h4 (isBA_l hB g1.1).1 ?_
  conv => whnf
  refine hKz _ _ _ _ ?_
  refine lp 0 (Nat.zero_le _) 0 1 M1 (fun _ => false) (fun _ => (enc_zero ha s).symm) g1 (fun q hq => ⟨0, by decide, g2 q hq, fun b _ => Nat.zero_testBit b⟩) (fun v hv => by cases hv) (Nat.le_refl _) (by decide) (fun d => ⟨fun _ => Nat.one_dvd d, fun _ j hj => absurd hj (Nat.not_lt_zero _)⟩)
theorem CS_l {M M' : ZM} (h : CS M S) (hM : M'.1 = M.1) : CS M' S := CS_cst h ⟨fun b _ => ⟨by rw [hM], by rw [hM]⟩, fun b _ => ⟨by rw [hM], by rw [hM], by rw [hM]⟩⟩
theorem csm_l {M M' : ZM} (hM : M'.1 = M.1) : csm M M' := fun a b _ => by rw [hM]
theorem c_rounds {a b s : Nat} (ha : a < 2 ^ 32) (hb : b < 2 ^ 32) (hs : s < 2 ^ 32) (hC : CS M S) (h1 : (plA S a).1 = 0 ∨ ¬ b < 2 → Z (some (zi (-1000001))) M) (h2 : ¬ (plA S a).1 = 0 → b < 2 → ¬ (2 ≤ s ∧ s ≤ 4) → Z (some (zi (-1000002))) M) (h3 : ¬ (plA S a).1 = 0 → b < 2 → 2 ≤ s → s ≤ 4 → ¬ fit (plA S a) (S.2 b) s → Z (some (zi (-1000003))) M) (h4 : ¬ (plA S a).1 = 0 → b < 2 → 2 ≤ s → s ≤ 4 → fit (plA S a) (S.2 b) s → ∀ r, 1 ≤ r → r ≤ 60 → backs (plA S a) (S.2 b) s ((plA S a).1 ^ s) r → (∀ d, 1 ≤ d → d < r → ¬ backs (plA S a) (S.2 b) s ((plA S a).1 ^ s) d) → ∀ M', CS M' S → csm M M' → Z (some (zi (nI r))) M') (h5 : ¬ (plA S a).1 = 0 → b < 2 → 2 ≤ s → s ≤ 4 → fit (plA S a) (S.2 b) s → (∀ d, 1 ≤ d → d ≤ 60 → ¬ backs (plA S a) (S.2 b) s ((plA S a).1 ^ s) d) → ∀ M', CS M' S → csm M M' → Z (some (zi (-1))) M') : Ctr 0 G mi_T_rounds [zr 5 0, zi (nI a), zi (nI b), zi (nI s)] M Z := by
  have hA := CS_pl hC a
  have ka := plk_lt a
  refine go_T_rounds (fun Kz hKz => ?_)
  conv => whnf
  refine s_T_actionError ha hb hs hC (fun e => ?_) (fun e e2 e3 => ?_) (fun e e2 e3 e4 e5 => ?_) (fun e e2 e3 e4 hf => ?_)
  · conv => whnf
    first | refine ⟨fun _ => ?_, fun q => absurd (by decide) q⟩ | refine ⟨fun q => absurd q (by decide), fun _ => ?_⟩
    conv => whnf
    exact h1 e
  · conv => whnf
    first | refine ⟨fun _ => ?_, fun q => absurd (by decide) q⟩ | refine ⟨fun q => absurd q (by decide), fun _ => ?_⟩
    conv => whnf
    exact h2 e e2 e3
  · conv => whnf
    first | refine ⟨fun _ => ?_, fun q => absurd (by decide) q⟩ | refine ⟨fun q => absurd q (by decide), fun _ => ?_⟩
    conv => whnf
    exact h3 e e2 e3 e4 e5
  · conv => whnf
    first | refine ⟨fun _ => ?_, fun q => absurd (by decide) q⟩ | refine ⟨fun q => absurd q (by decide), fun _ => ?_⟩
    conv => whnf
    refine s_T_mapAt ha ?_
    conv => whnf
    refine s_BA_prepare (by omega) hA (fun M1 g1 g2 => ?_)
    have hC1 := CS_cst hC (cst_ba g1)
    conv => whnf
    refine s_T_braidAt hb ?_
    rw [if_pos e2]
    conv => whnf
    refine s_BA_periodOf (by omega) e3 e4 (by omega) g2 (hC1.2.2.1 b e2) hf (fun p p1 p2 hp M2 g3 => ?_) (fun hno M2 g3 => ?_)
    · conv => whnf
      refine h4 e e2 e3 e4 hf p p1 p2 ((hp p).mpr (Nat.dvd_refl p)) (fun d d1 d2 q => ?_) M2 (CS_l hC1 g3.1) (csm_trans (csm_ba g1) (csm_l g3.1))
      have := Nat.le_of_dvd (by omega) ((hp d).mp q)
      omega
    · conv => whnf
      exact h5 e e2 e3 e4 hf hno M2 (CS_l hC1 g3.1) (csm_trans (csm_ba g1) (csm_l g3.1))
end
