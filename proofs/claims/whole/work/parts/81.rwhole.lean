/-! the reference: listed, take, whole -/
theorem nIso_le (A B : ZP) (k : Nat) : nIso A B k ≤ k := cnt_le _ k
theorem zsw_cons {v a : Int32} {t : Nat} {r : List (Int32 × Nat)} {k : Nat → Prop} {d : Prop} (h1 : v = a → k t) (h2 : ¬ v = a → zsw r v k d) : zsw ((a, t) :: r) v k d := ⟨h1, h2⟩
theorem zsw_nil {v : Int32} {k : Nat → Prop} {d : Prop} (h : d) : zsw [] v k d := h
theorem zsw_V {G : ZG} {mi : ZI} {Z : Option ZV → ZM → Prop} {cd : List ZE} {pc : Nat} {l : ZL} {st : List ZV} {M : ZM} {v : Int32} {d lo hi : Int} {offs : Array Int} {x : ZX} {cm : ZI} (hcd : zgood2 mi cd) (he : zfind pc cd = some (pc, .tableswitch d lo hi offs, x, cm)) (h : zsw x.2.2.2 v (fun t => V 0 G mi Z t l st M) (V 0 G mi Z (zq x 0) l st M)) : V 0 G mi Z pc l (zi v :: st) M := by
  obtain ⟨h1, -⟩ := zfind_ex he
  have h3 := List.all_eq_true.mp hcd.1 _ h1
  unfold zchk at h3
  simp only [Bool.and_eq_true, decide_eq_true_eq] at h3
  exact z_switch h3.1 h3.2 (fun t q => q) h
section
variable {G : ZG} {M : ZM} {Z : Option ZV → ZM → Prop} {S : ZS}
theorem r_listed {n : Nat} (hn : n < 2 ^ 32) (hR : RS M S) (h1 : 1 ≤ n → n ≤ 4 → ∀ M', RS M' S → rsm M M' → Z (some (zi (nI (sz n)))) M') (h2 : ¬ (1 ≤ n ∧ n ≤ 4) → Z (some (zi (-1000002))) M) : Ctr 0 G mi_R_listed [zr 20 0, zi (nI n)] M Z := by
  refine go_R_listed (fun Kz hKz => ?_)
  conv => whnf
  refine s_R_in hn (by decide) (by decide) (fun e1 e2 _ => ?_) (fun e => ?_)
  · conv => whnf
    first | refine ⟨fun _ => ?_, fun q => absurd (by decide) q⟩ | refine ⟨fun q => absurd q (by decide), fun _ => ?_⟩
    conv => whnf
    refine s_R_layList e1 e2 hR (fun M' g1 g2 g3 => ?_)
    conv => whnf
    exact h1 e1 e2 M' g1 g2
  · conv => whnf
    first | refine ⟨fun _ => ?_, fun q => absurd (by decide) q⟩ | refine ⟨fun q => absurd q (by decide), fun _ => ?_⟩
    conv => whnf
    exact h2 (fun q => e ⟨q.1, q.2, by omega⟩)
theorem r_take {n i to : Nat} (hn : n < 2 ^ 32) (hi : i < 2 ^ 32) (ht : to < 2 ^ 32) (hR : RS M S) (h1 : ¬ to < 4 → Z (some (zi (-1000001))) M) (h2 : to < 4 → ¬ (1 ≤ n ∧ n ≤ 4 ∧ i < 2 ^ 31) → Z (some (zi (-1000002))) M) (h3 : to < 4 → 1 ≤ n → n ≤ 4 → i < 2 ^ 31 → sz n ≤ i → ∀ M', RS M' S → rsm M M' → Z (some (zi (-1))) M') (h4 : to < 4 → 1 ≤ n → n ≤ 4 → i < sz n → ∀ M', RS M' (upS S to (plist n i)) → rsm M M' → Z (some (zi (nI n))) M') : Ctr 0 G mi_R_take [zr 20 0, zi (nI n), zi (nI i), zi (nI to)] M Z := by
  refine go_R_take (fun Kz hKz => ?_)
  conv => whnf
  refine s_R_isPlace ht (fun e1 => ?_) (fun e1 => ?_)
  · conv => whnf
    first | refine ⟨fun _ => ?_, fun q => absurd (by decide) q⟩ | refine ⟨fun q => absurd q (by decide), fun _ => ?_⟩
    conv => whnf
    refine s_R_in hn (by decide) (by decide) (fun e2 e3 _ => ?_) (fun e2 => ?_)
    · have hsz := sz_le n e3 e2
      conv => whnf
      first | refine ⟨fun _ => ?_, fun q => absurd (by decide) q⟩ | refine ⟨fun q => absurd q (by decide), fun _ => ?_⟩
      conv => whnf
      rw [n_nonneg hi]
      refine ⟨fun q => ?_, fun q => ?_⟩
      · conv => whnf
        refine s_R_layList e2 e3 hR (fun M1 g1 g2 g3 => ?_)
        conv => whnf
        rw [nI_ltI (by omega) (by omega)]
        refine ⟨fun q2 => ?_, fun q2 => ?_⟩
        · conv => whnf
          refine s_R_layListed e2 e3 q2 g3 (fun M2 r1 r2 => ?_)
          conv => whnf
          refine s_R_copies (by decide) (by omega) (by omega) r2 (fun M3 r3 r4 => ?_)
          conv => whnf
          exact h4 e1 e2 e3 q2 M3 (RS_put (RS_rf g1 r1 (rgm_no (by decide))) e1 r3 r4) (rsm_trans g2 (rsm_trans (rsm_gm r1) (rsm_gm r3)))
        · conv => whnf
          exact h3 e1 e2 e3 q (by omega) M1 g1 g2
      · conv => whnf
        exact h2 e1 (by omega)
    · conv => whnf
      first | refine ⟨fun _ => ?_, fun q => absurd (by decide) q⟩ | refine ⟨fun q => absurd q (by decide), fun _ => ?_⟩
      conv => whnf
      exact h2 e1 (by omega)
  · conv => whnf
    first | refine ⟨fun _ => ?_, fun q => absurd (by decide) q⟩ | refine ⟨fun q => absurd q (by decide), fun _ => ?_⟩
    conv => whnf
    exact h1 e1
theorem s_R_listedAs {m : Nat} {A : ZP} (hm : m < 4) (hAS : S.1 m = A) (h0 : 0 < A.1) (hR : RS M S) (hi : A.1 ≤ 4 → ∀ i, i < sz A.1 → 0 < nIso A (plist A.1 i) (fac A.1) → (∀ j, j < i → ¬ 0 < nIso A (plist A.1 j) (fac A.1)) → ∀ M', RS M' S → rsm M M' → Z (some (zi (nI i))) M') (hno : (A.1 ≤ 4 → ∀ i, i < sz A.1 → ¬ 0 < nIso A (plist A.1 i) (fac A.1)) → ∀ M', RS M' S → rsm M M' → Z (some (zi (-1))) M') : Ctr 0 G mi_R_listedAs [zr 20 0, zi (nI m)] M Z := by
  have hA : isRM M m A := by rw [← hAS]; exact hR.1 m hm
  have hn := hA.1.1
  refine go_R_listedAs (fun Kz hKz => ?_)
  conv => whnf
  refine ⟨vp_in_nI (by omega) (by decide), ?_⟩
  conv => whnf
  rw [nI_clamp (by omega), hA.2.1, nI_ltI (by omega) (by omega)]
  refine ⟨fun q => ?_, fun q => ?_⟩
  · conv => whnf
    refine hKz _ _ _ _ ?_
    refine z_run (cuts := cu_R_listedAs) ok_R_listedAs (fun Kz hKz => ?_)
    conv => whnf
    first | refine ⟨fun _ => ?_, fun q => absurd (by decide) q⟩ | refine ⟨fun q => absurd q (by decide), fun _ => ?_⟩
    conv => whnf
    exact hno (fun z => absurd z (by omega)) M hR (rsm_refl M)
  · have h4 : A.1 ≤ 4 := by omega
    have hsz := sz_le A.1 h4 h0
    have hf := fac_le4 A.1 h4
    conv => whnf
    refine s_R_layList h0 h4 hR (fun M1 g1 g2 g3 => ?_)
    have lp : ∀ i, i ≤ sz A.1 → ∀ M', RS M' S → rsm M M' → LE M' A.1 (sz A.1) → (∀ j, j < i → ¬ 0 < nIso A (plist A.1 j) (fac A.1)) → V 0 G mi_R_listedAs Z 28 [(0, zr 20 0), (1, zi (nI m)), (2, zi (-1)), (3, zi (nI A.1)), (4, zi (nI (sz A.1))), (5, zi (nI i))] [] M' := by
      refine up_to ?_ ?_
      · intro M' y1 y2 y3 y4
        refine z_run (cuts := cu_R_listedAs) ok_R_listedAs (fun Kz hKz => ?_)
        conv => whnf
        rw [nI_leI (by omega) (by omega)]
        refine ⟨fun _ => ?_, fun q => absurd (by omega) q⟩
        conv => whnf
        exact hno (fun _ => y4) M' y1 y2
      · intro i hi2 ih M' y1 y2 y3 y4
        refine z_run (cuts := cu_R_listedAs) ok_R_listedAs (fun Kz hKz => ?_)
        conv => whnf
        rw [nI_leI (by omega) (by omega)]
        refine ⟨fun q => absurd q (by omega), fun _ => ?_⟩
        conv => whnf
        refine ⟨fun z => absurd rfl z, fun _ => ?_⟩
        conv => whnf
        refine s_R_layListed h0 h4 hi2 y3 (fun M2 r1 r2 => ?_)
        have y1' := RS_rf y1 r1 (rgm_no (by decide))
        have hA2 : isRM M2 m A := by rw [← hAS]; exact y1'.1 m hm
        have y3' := LE_rf y3 r1 (fun c q => by unfold rgm at q; omega)
        conv => whnf
        refine s_R_likenesses (by omega) (by decide) (by decide) hA2 r2 h0 (fun _ M3 r3 _ => ?_) (fun z => absurd rfl z)
        have y1'' := RS_rf y1' r3 lkF_no
        have y2'' := rsm_trans y2 (rsm_trans (rsm_gm r1) (rsm_lk r3))
        have y3'' := LE_rf y3' r3 (fun c q => by unfold lkF at q; omega)
        have hle := nIso_le A (plist A.1 i) (fac A.1)
        conv => whnf
        rw [nI_leI (by omega) (by omega)]
        refine ⟨fun z => ?_, fun z => ?_⟩
        · conv => whnf
          refine hKz _ _ _ _ ?_
          rw [nI_1']
          refine ih M3 y1'' y2'' y3'' (fun j hj => ?_)
          rcases fin_cases_eq hj with w | w
          · exact y4 j w
          · rw [w]; omega
        · conv => whnf
          refine hKz _ _ _ _ ?_
          rw [nI_1']
          refine z_run (cuts := cu_R_listedAs) ok_R_listedAs (fun Kz hKz => ?_)
          conv => whnf
          rw [nI_leI (by omega) (by omega)]
          refine ⟨fun w => ?_, fun w => ?_⟩
          · conv => whnf
            exact hi h4 i hi2 (by omega) y4 M3 y1'' y2''
          · conv => whnf
            rw [n_m1ne (by omega)]
            refine ⟨fun _ => ?_, fun x => absurd (by omega) x⟩
            conv => whnf
            exact hi h4 i hi2 (by omega) y4 M3 y1'' y2''
    conv => whnf
    refine hKz _ _ _ _ ?_
    exact lp 0 (Nat.zero_le _) M1 g1 g2 g3 (fun j hj => absurd hj (Nat.not_lt_zero _))
theorem s_R_asNumber {b : Bool} (hZ : Z (some (zi (nI b.toNat))) M) : Ctr 0 G mi_R_asNumber [zi (b2i b)] M Z := by
  cases b with
  | true =>
    refine go_R_asNumber (fun Kz hKz => ?_)
    conv => whnf
    first | refine ⟨fun _ => ?_, fun q => absurd (by decide) q⟩ | refine ⟨fun q => absurd q (by decide), fun _ => ?_⟩
    conv => whnf
    exact hZ
  | false =>
    refine go_R_asNumber (fun Kz hKz => ?_)
    conv => whnf
    first | refine ⟨fun _ => ?_, fun q => absurd (by decide) q⟩ | refine ⟨fun q => absurd q (by decide), fun _ => ?_⟩
    conv => whnf
    exact hZ
theorem r_wholeLater {a c : Nat} {A : ZP} (ha : a < 4) (hc : c < 2 ^ 32) (h8 : ¬ c < 8) (hAS : S.1 a = A) (h0 : 0 < A.1) (hR : RS M S) (h2 : ∀ v, whR A v c → ∀ M', RS M' S → rsm M M' → Z (some (zi v)) M') : Ctr 0 G mi_R_wholeLater [zr 20 0, zi (nI a), zi (nI c)] M Z := by
  have hA : isRM M a A := by rw [← hAS]; exact hR.1 a ha
  have ha6 : a < 6 := by omega
  refine go_R_wholeLater (fun Kz hKz => ?_)
  conv => whnf
  refine ⟨fun (q : nI c = nI 8) => ?_, fun (q : ¬ nI c = nI 8) => ?_⟩
  · rw [n_eq hc (by decide)] at q
    subst q
    conv => whnf
    refine s_R_manyOrbits ha6 hA ?_
    conv => whnf
    refine h2 _ ⟨_, fun x hx => ⟨orb A x, orb_is hA.1 hx, ?_⟩, rfl⟩ M hR (rsm_refl M)
    rw [decide_eq_true_iff]
    exact low_zero _ _
  rw [n_eq hc (by decide)] at q
  conv => whnf
  refine ⟨fun (q : nI c = nI 9) => ?_, fun (q : ¬ nI c = nI 9) => ?_⟩
  · rw [n_eq hc (by decide)] at q
    subst q
    conv => whnf
    refine s_R_level ha hA h0 (fun t g1 g2 M' g3 => ?_) (fun t g1 g2 M' g3 => ?_)
    · conv => whnf
      exact h2 _ ⟨t, g1, fun _ => rfl, fun z => absurd g2 z⟩ M' (RS_rf hR g3 lvF_no) (rsm_lv g3)
    · conv => whnf
      exact h2 _ ⟨t, g1, fun z => absurd z g2, fun _ => rfl⟩ M' (RS_rf hR g3 lvF_no) (rsm_lv g3)
  rw [n_eq hc (by decide)] at q
  conv => whnf
  refine ⟨fun (q : nI c = nI 10) => ?_, fun (q : ¬ nI c = nI 10) => ?_⟩
  · rw [n_eq hc (by decide)] at q
    subst q
    conv => whnf
    refine s_R_groupSize ha6 hA h0 (fun z => ?_) (fun z L g1 M' g3 => ?_)
    · conv => whnf
      exact h2 _ ⟨fun _ => rfl, fun y => absurd y z⟩ M hR (rsm_refl M)
    · conv => whnf
      exact h2 _ ⟨fun y => absurd z y, fun _ => ⟨L, g1, rfl⟩⟩ M' (RS_rf hR g3 seF_no) (rsm_se g3)
  rw [n_eq hc (by decide)] at q
  conv => whnf
  refine ⟨fun (q : nI c = nI 11) => ?_, fun (q : ¬ nI c = nI 11) => ?_⟩
  · rw [n_eq hc (by decide)] at q
    subst q
    conv => whnf
    refine s_R_likenesses ha6 ha6 (by decide) hA hA h0 (fun _ M' g1 _ => ?_) (fun z => absurd rfl z)
    conv => whnf
    exact h2 _ rfl M' (RS_rf hR g1 lkF_no) (rsm_lk g1)
  rw [n_eq hc (by decide)] at q
  conv => whnf
  refine ⟨fun (q : nI c = nI 12) => ?_, fun (q : ¬ nI c = nI 12) => ?_⟩
  · rw [n_eq hc (by decide)] at q
    subst q
    conv => whnf
    refine s_R_order ha6 hA h0 (fun z => ?_) (fun z C g1 M' g2 => ?_)
    · conv => whnf
      exact h2 _ ⟨fun _ => rfl, fun y => absurd y z⟩ M hR (rsm_refl M)
    · conv => whnf
      exact h2 _ ⟨fun y => absurd z y, fun _ => ⟨C, g1, rfl⟩⟩ M' (RS_rf hR g2 tF_no) (rsm_t g2)
  rw [n_eq hc (by decide)] at q
  conv => whnf
  refine ⟨fun (q : nI c = nI 13) => ?_, fun (q : ¬ nI c = nI 13) => ?_⟩
  · rw [n_eq hc (by decide)] at q
    subst q
    conv => whnf
    refine s_R_manyClosed ha6 hA ?_
    conv => whnf
    exact h2 _ rfl M hR (rsm_refl M)
  rw [n_eq hc (by decide)] at q
  conv => whnf
  refine ⟨fun (q : nI c = nI 14) => ?_, fun (q : ¬ nI c = nI 14) => ?_⟩
  · rw [n_eq hc (by decide)] at q
    subst q
    conv => whnf
    refine s_R_listedAs ha hAS h0 hR (fun g1 i g2 g3 g4 M' g5 g6 => ?_) (fun g1 M' g5 g6 => ?_)
    · conv => whnf
      exact h2 _ (Or.inl ⟨i, g1, g2, g3, g4, rfl⟩) M' g5 g6
    · conv => whnf
      exact h2 _ (Or.inr ⟨g1, rfl⟩) M' g5 g6
  rw [n_eq hc (by decide)] at q
  obtain ⟨d, rfl⟩ : ∃ d, c = d + 15 := ⟨c - 15, by omega⟩
  conv => whnf
  exact h2 _ (show (-1000002 : Int32) = -1000002 from rfl) M hR (rsm_refl M)
theorem s_R_isPlainL {m : Nat} {A : ZP} (hm : m < 6) (hA : isRM M m A) (h1 : plnd A → Z (some (zi (nI 1))) M) (h2 : ¬ plnd A → Z (some (zi (nI 0))) M) : Ctr 0 G mi_R_isPlain [zr 20 0, zi (nI m), zi (b2i true)] M Z := by
  have e : (fun x y => pln A true x y) = fun x y => A.2.1 x y := by
    funext x y
    exact if_pos rfl
  have e2 : ∀ x, (fun y => pln A true x y) = fun y => A.2.1 x y := fun x => congrFun e x
  refine s_R_isPlain hm hA (fun z => h1 fun x hx => ?_) (fun z => h2 fun y => z fun x hx => ?_)
  · rw [← e2 x]; exact z x hx
  · rw [e2 x]; exact y x hx
theorem s_R_isPlainR {m : Nat} {A : ZP} (hm : m < 6) (hA : isRM M m A) (h1 : prnd A → Z (some (zi (nI 1))) M) (h2 : ¬ prnd A → Z (some (zi (nI 0))) M) : Ctr 0 G mi_R_isPlain [zr 20 0, zi (nI m), zi (b2i false)] M Z := by
  have e : (fun x y => pln A false x y) = fun x y => A.2.2 y x := by
    funext x y
    exact if_neg Bool.false_ne_true
  have e2 : ∀ x, (fun y => pln A false x y) = fun y => A.2.2 y x := fun x => congrFun e x
  refine s_R_isPlain hm hA (fun z => h1 fun x hx => ?_) (fun z => h2 fun y => z fun x hx => ?_)
  · rw [← e2 x]; exact z x hx
  · rw [e2 x]; exact y x hx
theorem r_whole {a c : Nat} (ha : a < 2 ^ 32) (hc : c < 2 ^ 32) (hR : RS M S) (h1 : (plA S a).1 = 0 → Z (some (zi (-1000001))) M) (h2 : ¬ (plA S a).1 = 0 → ∀ v, whR (plA S a) v c → ∀ M', RS M' S → rsm M M' → Z (some (zi v)) M') : Ctr 0 G mi_R_whole [zr 20 0, zi (nI a), zi (nI c)] M Z := by
  have yes : ∀ {P : Prop}, P → (P → nI 1 = nI 1) ∧ (¬ P → nI 1 = nI 0) := fun h => ⟨fun _ => rfl, fun q => absurd h q⟩
  have no : ∀ {P : Prop}, ¬ P → (P → nI 0 = nI 1) ∧ (¬ P → nI 0 = nI 0) := fun h => ⟨fun q => absurd q h, fun _ => rfl⟩
  refine z_start (cuts := [(12, [0, 1, 2])]) ok_R_whole rfl rfl (fun Kz hKz => ?_)
  conv => whnf
  refine s_R_isMap ha hR (fun e => ?_) (fun e => ?_)
  · have hA := RS_pl hR e
    have ha4 := plA_lt e
    have h2 := h2 e
    have hAS : S.1 a = plA S a := (plA_eq ha4).symm
    generalize plA S a = A at *
    have hn := hA.1.1
    have h0 : 0 < A.1 := by omega
    have ha6 : a < 6 := by omega
    conv => whnf
    first | refine ⟨fun _ => ?_, fun q => absurd (by decide) q⟩ | refine ⟨fun q => absurd q (by decide), fun _ => ?_⟩
    conv => whnf
    refine hKz _ _ _ _ ?_
    refine zsw_V ok_R_whole rfl ?_
    refine zsw_cons (fun q => ?_) (fun q => ?_)
    · rw [n_eq hc (by decide)] at q
      subst q
      refine z_run (cuts := cu_R_whole) ok_R_whole (fun Kz hKz => ?_)
      conv => whnf
      refine ⟨vp_in_nI ha6 (by decide), ?_⟩
      conv => whnf
      rw [nI_clamp (by omega), hA.2.1]
      exact h2 _ rfl M hR (rsm_refl M)
    rw [n_eq hc (by decide)] at q
    refine zsw_cons (fun q => ?_) (fun q => ?_)
    · rw [n_eq hc (by decide)] at q
      subst q
      have hle := cnt_le (fun j => brk A (dgl A.1 3 j)) (A.1 ^ 3)
      have h3 : A.1 ^ 3 ≤ 6 ^ 3 := Nat.pow_le_pow_left hn 3
      have h63 : (6 : Nat) ^ 3 = 216 := by decide
      have hbl : nBrk A ≤ 216 := by unfold nBrk; omega
      refine z_run (cuts := cu_R_whole) ok_R_whole (fun Kz hKz => ?_)
      conv => whnf
      refine s_R_manyFail ha6 hA h0 (fun M' g1 => ?_)
      conv => whnf
      rw [n_ne (show nBrk A < 2 ^ 31 by omega) (by decide)]
      refine ⟨fun z => ?_, fun z => ?_⟩
      · have e : (decide (nBrk A = 0)).toNat = 0 := by rw [decide_eq_false z]; rfl
        conv => whnf
        refine s_R_asNumber (b := false) ?_
        conv => whnf
        exact h2 _ (show nI 0 = nI (decide (nBrk A = 0)).toNat by rw [e]) M' (RS_rf hR g1 tF_no) (rsm_t g1)
      · have e : (decide (nBrk A = 0)).toNat = 1 := by rw [decide_eq_true (Classical.not_not.mp z)]; rfl
        conv => whnf
        refine s_R_asNumber (b := true) ?_
        conv => whnf
        exact h2 _ (show nI 1 = nI (decide (nBrk A = 0)).toNat by rw [e]) M' (RS_rf hR g1 tF_no) (rsm_t g1)
    rw [n_eq hc (by decide)] at q
    refine zsw_cons (fun q => ?_) (fun q => ?_)
    · rw [n_eq hc (by decide)] at q
      subst q
      refine z_run (cuts := cu_R_whole) ok_R_whole (fun Kz hKz => ?_)
      conv => whnf
      refine s_R_manyFail ha6 hA h0 (fun M' g1 => ?_)
      conv => whnf
      exact h2 _ (show nI _ = nI (nBrk A) from rfl) M' (RS_rf hR g1 tF_no) (rsm_t g1)
    rw [n_eq hc (by decide)] at q
    refine zsw_cons (fun q => ?_) (fun q => ?_)
    · rw [n_eq hc (by decide)] at q
      subst q
      refine z_run (cuts := cu_R_whole) ok_R_whole (fun Kz hKz => ?_)
      conv => whnf
      refine s_R_isBijective ha6 hA h0 (fun z => ?_) (fun z => ?_)
      · conv => whnf
        refine s_R_asNumber (b := true) ?_
        conv => whnf
        exact h2 _ (yes z) M hR (rsm_refl M)
      · conv => whnf
        refine s_R_asNumber (b := false) ?_
        conv => whnf
        exact h2 _ (no z) M hR (rsm_refl M)
    rw [n_eq hc (by decide)] at q
    refine zsw_cons (fun q => ?_) (fun q => ?_)
    · rw [n_eq hc (by decide)] at q
      subst q
      refine z_run (cuts := cu_R_whole) ok_R_whole (fun Kz hKz => ?_)
      conv => whnf
      refine s_R_comesBack ha6 hA h0 (fun z M' g1 => ?_) (fun z M' g1 => ?_)
      · conv => whnf
        refine s_R_asNumber (b := true) ?_
        conv => whnf
        exact h2 _ (yes z) M' (RS_rf hR g1 tF_no) (rsm_t g1)
      · conv => whnf
        refine s_R_asNumber (b := false) ?_
        conv => whnf
        exact h2 _ (no z) M' (RS_rf hR g1 tF_no) (rsm_t g1)
    rw [n_eq hc (by decide)] at q
    refine zsw_cons (fun q => ?_) (fun q => ?_)
    · rw [n_eq hc (by decide)] at q
      subst q
      refine z_run (cuts := cu_R_whole) ok_R_whole (fun Kz hKz => ?_)
      conv => whnf
      refine s_R_isPlainL ha6 hA (fun z => ?_) (fun z => ?_)
      · conv => whnf
        refine s_R_asNumber (b := true) ?_
        conv => whnf
        exact h2 _ (yes z) M hR (rsm_refl M)
      · conv => whnf
        refine s_R_asNumber (b := false) ?_
        conv => whnf
        exact h2 _ (no z) M hR (rsm_refl M)
    rw [n_eq hc (by decide)] at q
    refine zsw_cons (fun q => ?_) (fun q => ?_)
    · rw [n_eq hc (by decide)] at q
      subst q
      refine z_run (cuts := cu_R_whole) ok_R_whole (fun Kz hKz => ?_)
      conv => whnf
      refine s_R_isPlainR ha6 hA (fun z => ?_) (fun z => ?_)
      · conv => whnf
        refine s_R_asNumber (b := true) ?_
        conv => whnf
        exact h2 _ (yes z) M hR (rsm_refl M)
      · conv => whnf
        refine s_R_asNumber (b := false) ?_
        conv => whnf
        exact h2 _ (no z) M hR (rsm_refl M)
    rw [n_eq hc (by decide)] at q
    refine zsw_cons (fun q => ?_) (fun q => ?_)
    · rw [n_eq hc (by decide)] at q
      subst q
      refine z_run (cuts := cu_R_whole) ok_R_whole (fun Kz hKz => ?_)
      conv => whnf
      refine s_R_doSquaresStay ha6 hA (fun z => ?_) (fun z => ?_)
      · conv => whnf
        refine s_R_asNumber (b := true) ?_
        conv => whnf
        exact h2 _ (yes z) M hR (rsm_refl M)
      · conv => whnf
        refine s_R_asNumber (b := false) ?_
        conv => whnf
        exact h2 _ (no z) M hR (rsm_refl M)
    rw [n_eq hc (by decide)] at q
    refine zsw_nil ?_
    refine z_run (cuts := cu_R_whole) ok_R_whole (fun Kz hKz => ?_)
    conv => whnf
    refine r_wholeLater ha4 hc (by omega) hAS h0 hR (fun v hv M' g1 g2 => ?_)
    conv => whnf
    exact h2 v hv M' g1 g2
  · conv => whnf
    first | refine ⟨fun _ => ?_, fun q => absurd (by decide) q⟩ | refine ⟨fun q => absurd q (by decide), fun _ => ?_⟩
    conv => whnf
    exact h1 e
end
