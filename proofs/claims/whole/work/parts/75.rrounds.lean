/-! the reference: rounds, part -/
theorem itT_comm (f : List Nat → List Nat) (u : List Nat) (k : Nat) : itT f u (k + 1) = f (itT f u k) := rfl
section
variable {G : ZG} {M : ZM} {Z : Option ZV → ZM → Prop} {S : ZS}
theorem r_rounds {a b s : Nat} (ha : a < 2 ^ 32) (hb : b < 2 ^ 32) (hs : s < 2 ^ 32) (hR : RS M S) (h1 : (plA S a).1 = 0 ∨ ¬ b < 2 → Z (some (zi (-1000001))) M) (h2 : ¬ (plA S a).1 = 0 → b < 2 → ¬ (2 ≤ s ∧ s ≤ 4) → Z (some (zi (-1000002))) M) (h3 : ¬ (plA S a).1 = 0 → b < 2 → 2 ≤ s → s ≤ 4 → ¬ fit (plA S a) (S.2 b) s → Z (some (zi (-1000003))) M) (h4 : ¬ (plA S a).1 = 0 → b < 2 → 2 ≤ s → s ≤ 4 → fit (plA S a) (S.2 b) s → ∀ r, 1 ≤ r → r ≤ 60 → backs (plA S a) (S.2 b) s ((plA S a).1 ^ s) r → (∀ d, 1 ≤ d → d < r → ¬ backs (plA S a) (S.2 b) s ((plA S a).1 ^ s) d) → ∀ M', RS M' S → rsm M M' → Z (some (zi (nI r))) M') (h5 : ¬ (plA S a).1 = 0 → b < 2 → 2 ≤ s → s ≤ 4 → fit (plA S a) (S.2 b) s → (∀ d, 1 ≤ d → d ≤ 60 → ¬ backs (plA S a) (S.2 b) s ((plA S a).1 ^ s) d) → ∀ M', RS M' S → rsm M M' → Z (some (zi (-1))) M') : Ctr 0 G mi_R_rounds [zr 20 0, zi (nI a), zi (nI b), zi (nI s)] M Z := by
  refine go_R_rounds (fun Kz hKz => ?_)
  conv => whnf
  refine s_R_refuses ha hb hs hR (fun e => ?_) (fun e e2 e3 => ?_) (fun e e2 e3 e4 hf => ?_) (fun e e2 e3 e4 hf => ?_)
  · conv => whnf
    first | refine ⟨fun _ => ?_, fun q => absurd (by decide) q⟩ | refine ⟨fun q => absurd q (by decide), fun _ => ?_⟩
    conv => whnf
    exact h1 e
  · conv => whnf
    first | refine ⟨fun _ => ?_, fun q => absurd (by decide) q⟩ | refine ⟨fun q => absurd q (by decide), fun _ => ?_⟩
    conv => whnf
    exact h2 e e2 e3
  · conv => whnf
    first | refine ⟨fun _ => ?_, fun q => absurd (by decide) q⟩ | refine ⟨fun q => absurd q (by decide), fun _ => ?_⟩
    conv => whnf
    exact h3 e e2 e3 e4 hf
  · have hA := RS_pl hR e
    have ha4 := plA_lt e
    have hwb := hR.2.1 b e2
    generalize plA S a = A at *
    have h4 := h4 e e2 e3 e4 hf
    have h5 := h5 e e2 e3 e4 hf
    generalize S.2 b = w at *
    have hn := hA.1.1
    have h0 : 0 < A.1 := by omega
    have hN := lt_pw hn e4
    have hvi : ∀ k o, vW A s (itT (brun A w) (dgl A.1 s k) o) := fun k o => itT_vW hA.1 hf (vW_dgl h0) o
    have hti : ∀ k o, tnn A.1 (itT (brun A w) (dgl A.1 s k) o) s < A.1 ^ s ∧ dgl A.1 s (tnn A.1 (itT (brun A w) (dgl A.1 s k) o) s) = itT (brun A w) (dgl A.1 s k) o := fun k o => tnn_is h0 (hvi k o).2 (hvi k o).1
    have hsp : ∀ k o, stp A w s (tnn A.1 (itT (brun A w) (dgl A.1 s k) o) s) = tnn A.1 (itT (brun A w) (dgl A.1 s k) (o + 1)) s := fun k o => by
      unfold stp
      rw [(hti k o).2]
      rfl
    have hid : ∀ k o, k < A.1 ^ s → (tnn A.1 (itT (brun A w) (dgl A.1 s k) o) s = k ↔ itT (brun A w) (dgl A.1 s k) o = dgl A.1 s k) := fun k o hk => by
      constructor
      · intro q
        have := (hti k o).2
        rw [q] at this
        exact this.symm
      · intro q
        rw [q]
        exact tnn_dgl h0 s k hk
    conv => whnf
    first | refine ⟨fun _ => ?_, fun q => absurd (by decide) q⟩ | refine ⟨fun q => absurd q (by decide), fun _ => ?_⟩
    conv => whnf
    refine s_R_laySteps (by omega) e2 e4 hA h0 hwb hf (fun M1 g1 g2 => ?_)
    have hA1 := isRM_s hA g1
    have keep : ∀ {M' : ZM}, rf (fun a _ => a = 35) M1 M' → rf sF M M' ∧ ∀ k, k < A.1 ^ s → M'.1 34 0 k = nI (stp A w s k) := fun h => ⟨rf_trans g1 (rf_mono h fun a c q => Or.inr (Or.inr q)), fun k hk => by rw [h.2 34 0 k (fun q => absurd (show (34 : Nat) = 35 from q.2) (by decide))]; exact g2 k hk⟩
    have rnd : ∀ o, o ≤ 60 → ∀ M', rf (fun a _ => a = 35) M1 M' → (∀ k, k < A.1 ^ s → M'.1 35 0 k = nI (tnn A.1 (itT (brun A w) (dgl A.1 s k) o) s)) → (∀ d, 1 ≤ d → d ≤ o → ¬ backs A w s (A.1 ^ s) d) → V 0 G mi_R_rounds Z 64 [(0, zr 20 0), (5, zi (nI (A.1 ^ s))), (6, zi (nI (o + 1)))] [] M' := by
      refine up_to ?_ ?_
      · intro M' y1 y2 y3
        obtain ⟨k1, k2⟩ := keep y1
        refine z_run (cuts := cu_R_rounds) ok_R_rounds (fun Kz hKz => ?_)
        conv => whnf
        rw [nI_ltI (by omega) (by omega)]
        refine ⟨fun _ => ?_, fun q => absurd (by omega) q⟩
        conv => whnf
        exact h5 y3 M' (RS_rf hR k1 sF_no) (rsm_s k1)
      · intro o ho ih M' y1 y2 y3
        have inner : ∀ k, k ≤ A.1 ^ s → ∀ M' (c : Bool), rf (fun a _ => a = 35) M1 M' → (∀ j, j < A.1 ^ s → M'.1 35 0 j = nI (tnn A.1 (itT (brun A w) (dgl A.1 s j) (if j < k then o + 1 else o)) s)) → (c = true ↔ ∀ j, j < k → itT (brun A w) (dgl A.1 s j) (o + 1) = dgl A.1 s j) → V 0 G mi_R_rounds Z 77 [(0, zr 20 0), (5, zi (nI (A.1 ^ s))), (6, zi (nI (o + 1))), (7, zi (b2i c)), (8, zi (nI k))] [] M' := by
          refine up_to ?_ ?_
          · intro M' c y1 y2 y4
            obtain ⟨k1, k2⟩ := keep y1
            refine z_run (cuts := cu_R_rounds) ok_R_rounds (fun Kz hKz => ?_)
            conv => whnf
            rw [nI_leI (by omega) (by omega)]
            refine ⟨fun _ => ?_, fun q => absurd (by omega) q⟩
            conv => whnf
            cases hc : c with
            | true =>
              first | refine ⟨fun _ => ?_, fun q => absurd (by decide) q⟩ | refine ⟨fun q => absurd q (by decide), fun _ => ?_⟩
              conv => whnf
              exact h4 (o + 1) (by omega) (by omega) (y4.mp hc) (fun d d1 d2 => y3 d d1 (by omega)) M' (RS_rf hR k1 sF_no) (rsm_s k1)
            | false =>
              have hno : ¬ backs A w s (A.1 ^ s) (o + 1) := fun q => by rw [y4.mpr q] at hc; cases hc
              first | refine ⟨fun _ => ?_, fun q => absurd (by decide) q⟩ | refine ⟨fun q => absurd q (by decide), fun _ => ?_⟩
              conv => whnf
              refine hKz _ _ _ _ ?_
              rw [nI_1']
              refine ih M' y1 (fun j hj => ?_) (fun d d1 d2 => ?_)
              · have := y2 j hj
                rw [if_pos hj] at this
                exact this
              · rcases Nat.lt_or_ge o d with z | z
                · rw [show d = o + 1 by omega]; exact hno
                · exact y3 d d1 z
          · intro k hk ih2 M' c y1 y2 y4
            obtain ⟨k1, k2⟩ := keep y1
            have ek := y2 k hk
            rw [if_neg (Nat.lt_irrefl k)] at ek
            have t1 := hti k o
            have t2 := hti k (o + 1)
            have nxt : ∀ d : Bool, (d = true ↔ (c = true ∧ itT (brun A w) (dgl A.1 s k) (o + 1) = dgl A.1 s k)) → V 0 G mi_R_rounds Z 77 [(0, zr 20 0), (5, zi (nI (A.1 ^ s))), (6, zi (nI (o + 1))), (7, zi (b2i d)), (8, zi (nI (k + 1)))] [] (zset 35 0 k (nI (tnn A.1 (itT (brun A w) (dgl A.1 s k) (o + 1)) s)) M') := by
              intro d hd
              refine ih2 _ d (rf_trans y1 (rf_set rfl)) (fun j hj => ?_) ?_
              · by_cases z : j = k
                · rw [z, zset_eq, if_pos (Nat.lt_succ_self k)]
                · rw [zset_ne (by omega), y2 j hj]
                  by_cases y : j < k
                  · rw [if_pos y, if_pos (by omega)]
                  · rw [if_neg y, if_neg (by omega)]
              · rw [hd, y4]
                constructor
                · rintro ⟨q1, q2⟩ j hj
                  rcases fin_cases_eq hj with z | z
                  · exact q1 j z
                  · rw [z]; exact q2
                · intro q
                  exact ⟨fun j hj => q j (by omega), q k (by omega)⟩
            refine z_run (cuts := cu_R_rounds) ok_R_rounds (fun Kz hKz => ?_)
            conv => whnf
            rw [nI_leI (by omega) (by omega)]
            refine ⟨fun q => absurd q (by omega), fun _ => ?_⟩
            conv => whnf
            refine ⟨vp_in_nI (by omega) (by decide), ?_⟩
            conv => whnf
            rw [nI_clamp (by omega), ek]
            refine ⟨vp_in_nI (by omega) (by decide), ?_⟩
            conv => whnf
            rw [nI_clamp (by omega), nI_clamp (by omega), k2 _ t1.1, hsp]
            refine ⟨vp_in_nI (by omega) (by decide), ?_⟩
            conv => whnf
            cases hc : c with
            | false =>
              first | refine ⟨fun _ => ?_, fun q => absurd (by decide) q⟩ | refine ⟨fun q => absurd q (by decide), fun _ => ?_⟩
              conv => whnf
              refine hKz _ _ _ _ ?_
              rw [nI_1']
              exact nxt false (by rw [hc]; simp)
            | true =>
              first | refine ⟨fun _ => ?_, fun q => absurd (by decide) q⟩ | refine ⟨fun q => absurd q (by decide), fun _ => ?_⟩
              conv => whnf
              refine ⟨vp_in_nI (by omega) (by decide), ?_⟩
              conv => whnf
              rw [nI_clamp (by omega), zset_eq, n_ne (by omega) (by omega)]
              refine ⟨fun q => ?_, fun q => ?_⟩
              · conv => whnf
                refine hKz _ _ _ _ ?_
                rw [nI_1']
                exact nxt false ⟨fun y => (by cases y), fun y => absurd ((hid k (o + 1) hk).mpr y.2) q⟩
              · conv => whnf
                refine hKz _ _ _ _ ?_
                rw [nI_1']
                exact nxt true ⟨fun _ => ⟨hc, (hid k (o + 1) hk).mp (Classical.not_not.mp q)⟩, fun _ => rfl⟩
        refine z_run (cuts := cu_R_rounds) ok_R_rounds (fun Kz hKz => ?_)
        conv => whnf
        rw [nI_ltI (by omega) (by omega)]
        refine ⟨fun q => absurd q (by omega), fun _ => ?_⟩
        conv => whnf
        refine hKz _ _ _ _ ?_
        exact inner 0 (Nat.zero_le _) M' true y1 (fun j hj => by rw [if_neg (Nat.not_lt_zero _)]; exact y2 j hj) ⟨fun _ j hj => absurd hj (Nat.not_lt_zero _), fun _ => rfl⟩
    have lay : ∀ k, k ≤ A.1 ^ s → ∀ M', rf (fun a _ => a = 35) M1 M' → (∀ j, j < k → M'.1 35 0 j = nI j) → V 0 G mi_R_rounds Z 39 [(0, zr 20 0), (5, zi (nI (A.1 ^ s))), (6, zi (nI k))] [] M' := by
      refine up_to ?_ ?_
      · intro M' y1 y2
        refine z_run (cuts := cu_R_rounds) ok_R_rounds (fun Kz hKz => ?_)
        conv => whnf
        rw [nI_leI (by omega) (by omega)]
        refine ⟨fun _ => ?_, fun q => absurd (by omega) q⟩
        conv => whnf
        refine hKz _ _ _ _ ?_
        refine rnd 0 (Nat.zero_le _) M' y1 (fun k hk => ?_) (fun d d1 d2 => by omega)
        rw [y2 k hk]
        show nI k = nI (tnn A.1 (dgl A.1 s k) s)
        rw [tnn_dgl h0 s k hk]
      · intro k hk ih M' y1 y2
        refine z_run (cuts := cu_R_rounds) ok_R_rounds (fun Kz hKz => ?_)
        conv => whnf
        rw [nI_leI (by omega) (by omega)]
        refine ⟨fun q => absurd q (by omega), fun _ => ?_⟩
        conv => whnf
        refine ⟨vp_in_nI (by omega) (by decide), ?_⟩
        conv => whnf
        refine hKz _ _ _ _ ?_
        rw [nI_clamp (by omega), nI_1']
        refine ih _ (rf_trans y1 (rf_set rfl)) (fun j hj => ?_)
        rcases fin_cases_eq hj with z | z
        · rw [zset_ne (by omega)]; exact y2 j z
        · rw [z]; exact zset_eq
    conv => whnf
    refine ⟨vp_in_nI (by omega) (by decide), ?_⟩
    conv => whnf
    rw [nI_clamp (by omega), hA1.2.1]
    refine s_R_rowsTo (by omega) ?_
    conv => whnf
    refine hKz _ _ _ _ ?_
    exact lay 0 (Nat.zero_le _) M1 (rf_refl _ _) (fun j hj => absurd hj (Nat.not_lt_zero _))
theorem r_part {a s : Nat} (ha : a < 2 ^ 32) (hs : s < 2 ^ 32) (hR : RS M S) (h1 : (plA S a).1 = 0 → Z (some (zi (-1000001))) M) (h2 : ¬ (plA S a).1 = 0 → ¬ (2 ≤ s ∧ s ≤ 4) → Z (some (zi (-1000002))) M) (h3 : ¬ (plA S a).1 = 0 → 2 ≤ s → s ≤ 4 → ¬ (fit (plA S a) (S.2 0) s ∧ fit (plA S a) (S.2 1) s) → Z (some (zi (-1000003))) M) (h4 : ¬ (plA S a).1 = 0 → 2 ≤ s → s ≤ 4 → fit (plA S a) (S.2 0) s → fit (plA S a) (S.2 1) s → ∀ j, j < (plA S a).1 ^ s → dif (plA S a) (S.2 0) (S.2 1) s j → (∀ i, i < j → ¬ dif (plA S a) (S.2 0) (S.2 1) s i) → ∀ M', RS M' S → rsm M M' → Z (some (zi (nI (tn (tcl (dgl (plA S a).1 s j)) s)))) M') (h5 : ¬ (plA S a).1 = 0 → 2 ≤ s → s ≤ 4 → fit (plA S a) (S.2 0) s → fit (plA S a) (S.2 1) s → (∀ i, i < (plA S a).1 ^ s → ¬ dif (plA S a) (S.2 0) (S.2 1) s i) → ∀ M', RS M' S → rsm M M' → Z (some (zi (-1))) M') : Ctr 0 G mi_R_part [zr 20 0, zi (nI a), zi (nI s)] M Z := by
  refine go_R_part (fun Kz hKz => ?_)
  conv => whnf
  refine s_R_refuses ha (by decide) hs hR (fun e => ?_) (fun e _ e3 => ?_) (fun e _ e3 e4 hf => ?_) (fun e _ e3 e4 hf => ?_)
  · conv => whnf
    refine ⟨fun _ => ?_, fun q => absurd rfl q⟩
    conv => whnf
    exact h1 (by omega)
  · conv => whnf
    first | refine ⟨fun _ => ?_, fun q => absurd (by decide) q⟩ | refine ⟨fun q => absurd q (by decide), fun _ => ?_⟩
    conv => whnf
    refine ⟨fun q => absurd rfl q, fun _ => ?_⟩
    conv => whnf
    exact h2 e e3
  · conv => whnf
    first | refine ⟨fun _ => ?_, fun q => absurd (by decide) q⟩ | refine ⟨fun q => absurd q (by decide), fun _ => ?_⟩
    conv => whnf
    first | refine ⟨fun _ => ?_, fun q => absurd (by decide) q⟩ | refine ⟨fun q => absurd q (by decide), fun _ => ?_⟩
    conv => whnf
    refine ⟨fun _ => ?_, fun q => absurd rfl q⟩
    conv => whnf
    exact h3 e e3 e4 (fun q => hf q.1)
  · have hA := RS_pl hR e
    have ha4 := plA_lt e
    have w0 := hR.2.1 0 (by decide)
    have w1 := hR.2.1 1 (by decide)
    generalize plA S a = A at *
    have hn := hA.1.1
    have h0 : 0 < A.1 := by omega
    have hN := lt_pw hn e4
    conv => whnf
    first | refine ⟨fun _ => ?_, fun q => absurd (by decide) q⟩ | refine ⟨fun q => absurd q (by decide), fun _ => ?_⟩
    conv => whnf
    first | refine ⟨fun _ => ?_, fun q => absurd (by decide) q⟩ | refine ⟨fun q => absurd q (by decide), fun _ => ?_⟩
    conv => whnf
    first | refine ⟨fun _ => ?_, fun q => absurd (by decide) q⟩ | refine ⟨fun q => absurd q (by decide), fun _ => ?_⟩
    conv => whnf
    refine s_R_doesFit (by omega) (by decide) e4 hA h0 w1 (fun hf1 => ?_) (fun hf1 => ?_)
    · conv => whnf
      first | refine ⟨fun _ => ?_, fun q => absurd (by decide) q⟩ | refine ⟨fun q => absurd q (by decide), fun _ => ?_⟩
      conv => whnf
      refine ⟨vp_in_nI (by omega) (by decide), ?_⟩
      conv => whnf
      rw [nI_clamp (by omega), hA.2.1]
      refine s_R_laySteps (by omega) (by decide) e4 hA h0 w0 hf (fun M1 g1 g2 => ?_)
      have lp : ∀ j, j ≤ A.1 ^ s → ∀ M', rf tF M1 M' → (∀ i, i < j → ¬ dif A (S.2 0) (S.2 1) s i) → V 0 G mi_R_part Z 59 [(0, zr 20 0), (1, zi (nI a)), (2, zi (nI s)), (4, zi (nI A.1)), (5, zi (nI j))] [] M' := by
        refine up_to ?_ ?_
        · intro M' y1 y2
          have f1 := rf_trans g1 (tF_sF y1)
          refine z_run (cuts := cu_R_part) ok_R_part (fun Kz hKz => ?_)
          conv => whnf
          refine s_R_rowsTo (by omega) ?_
          conv => whnf
          rw [nI_leI (by omega) (by omega)]
          refine ⟨fun _ => ?_, fun q => absurd (by omega) q⟩
          conv => whnf
          exact h5 e e3 e4 hf hf1 y2 M' (RS_rf hR f1 sF_no) (rsm_s f1)
        · intro j hj ih M' y1 y2
          have f1 := rf_trans g1 (tF_sF y1)
          have hv := vW_dgl (A := A) (k := s) (j := j) h0
          have hvb := brun_vW hA.1 (S.2 1) _ (fit_letter hf1) hv
          have hst := stp_is hA.1 h0 (j := j) hf
          have hst1 := tnn_is h0 hvb.2 hvb.1
          have hdif : tnn A.1 (brun A (S.2 1) (dgl A.1 s j)) s = stp A (S.2 0) s j ↔ ¬ dif A (S.2 0) (S.2 1) s j := by
            unfold dif
            rw [Classical.not_not, ← hst.2, ← hst1.2]
            constructor
            · intro q; rw [← hst1.2, q]
            · intro q
              have h9 := congrArg (fun u => tnn A.1 u s) q
              simp only [tnn_dgl h0 s _ hst.1] at h9
              rw [h9, hst1.2]
          have hcod := tn_cod (u := dgl A.1 s j) (by rw [hv.2]; exact e4) (fun d hd => by have := hv.1 d hd; omega)
          rw [hv.2] at hcod
          refine z_run (cuts := cu_R_part) ok_R_part (fun Kz hKz => ?_)
          conv => whnf
          refine s_R_rowsTo (by omega) ?_
          conv => whnf
          rw [nI_leI (by omega) (by omega)]
          refine ⟨fun q => absurd q (by omega), fun _ => ?_⟩
          conv => whnf
          refine s_R_layTuple h0 hn e4 (by omega) (fun M2 r1 r2 => ?_)
          have f2 := rf_trans f1 (tF_sF r1)
          conv => whnf
          refine s_R_goesThrough (by omega) (by decide) e4 (isRM_s hA f2) (isRB_s w1 f2) hf1 r2 hv (fun M3 r3 r4 => ?_)
          have k34 : M3.1 34 0 j = nI (stp A (S.2 0) s j) := by
            rw [r3.2 34 0 j (fun q => absurd (show (34 : Nat) = 27 from q.2) (by decide)), r1.2 34 0 j (fun q => absurd (show (34 : Nat) = 27 from q.2) (by decide)), y1.2 34 0 j (fun q => absurd (show (34 : Nat) = 27 from q.2) (by decide))]
            exact g2 j hj
          conv => whnf
          refine s_R_tupleNumber e4 r4 hvb.2 ?_
          conv => whnf
          refine ⟨vp_in_nI (by omega) (by decide), ?_⟩
          conv => whnf
          rw [nI_clamp (by omega), k34, nI_eq (by omega) (by omega), hdif]
          refine ⟨fun q => ?_, fun q => ?_⟩
          · conv => whnf
            refine hKz _ _ _ _ ?_
            rw [nI_1']
            refine ih M3 (rf_trans (rf_trans y1 r1) r3) (fun i hi => ?_)
            rcases fin_cases_eq hi with z | z
            · exact y2 i z
            · rw [z]; exact q
          · conv => whnf
            refine s_R_layTuple h0 hn e4 (by omega) (fun M4 r5 r6 => ?_)
            conv => whnf
            refine s_R_tupleCode e4 r6 hv.2 ?_
            have f4 := rf_trans (rf_trans f2 (tF_sF r3)) (tF_sF r5)
            conv => whnf
            rw [← hcod]
            exact h4 e e3 e4 hf hf1 j hj (Classical.not_not.mp q) y2 M4 (RS_rf hR f4 sF_no) (rsm_s f4)
      conv => whnf
      refine hKz _ _ _ _ ?_
      exact lp 0 (Nat.zero_le _) M1 (rf_refl _ _) (fun i hi => absurd hi (Nat.not_lt_zero _))
    · conv => whnf
      first | refine ⟨fun _ => ?_, fun q => absurd (by decide) q⟩ | refine ⟨fun q => absurd q (by decide), fun _ => ?_⟩
      conv => whnf
      exact h3 e e3 e4 (fun q => hf1 q.2)
end
