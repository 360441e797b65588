/-! the reference: unite, pair, isBijective, invert -/
theorem bct_top {s : Nat} (hs : s < 2 ^ 36) : ∀ d, bct s (36 + d) = bct s 36 := by
  intro d
  induction d with
  | zero => rfl
  | succ d ih =>
    rw [← Nat.add_assoc, bct, ih, Nat.testBit_lt_two_pow (Nat.lt_of_lt_of_le hs (Nat.pow_le_pow_right (by decide) (by omega)))]
    rfl
section
variable {G : ZG} {M : ZM} {Z : Option ZV → ZM → Prop} {S : ZS}
theorem r_unite {a b to : Nat} (ha : a < 2 ^ 32) (hb : b < 2 ^ 32) (hto : to < 2 ^ 32) (hR : RS M S) (h1 : (plA S a).1 = 0 ∨ (plA S b).1 = 0 ∨ ¬ to < 4 → Z (some (zi (-1000001))) M) (h2 : ¬ (plA S a).1 = 0 → ¬ (plA S b).1 = 0 → to < 4 → ¬ (plA S a).1 + (plA S b).1 ≤ 6 → Z (some (zi (-1000004))) M) (h3 : ¬ (plA S a).1 = 0 → ¬ (plA S b).1 = 0 → to < 4 → (plA S a).1 + (plA S b).1 ≤ 6 → ∀ M', RS M' (upS S to (puni (plA S a) (plA S b))) → rsm M M' → Z (some (zi (nI ((plA S a).1 + (plA S b).1)))) M') : Ctr 0 G mi_R_unite [zr 20 0, zi (nI a), zi (nI b), zi (nI to)] M Z := by
  refine go_R_unite (fun Kz hKz => ?_)
  conv => whnf
  refine s_R_isMap ha hR (fun ea => ?_) (fun ea => ?_)
  · conv => whnf
    first | refine ⟨fun _ => ?_, fun q => absurd (by decide) q⟩ | refine ⟨fun q => absurd q (by decide), fun _ => ?_⟩
    conv => whnf
    refine s_R_isMap hb hR (fun eb => ?_) (fun eb => ?_)
    · conv => whnf
      first | refine ⟨fun _ => ?_, fun q => absurd (by decide) q⟩ | refine ⟨fun q => absurd q (by decide), fun _ => ?_⟩
      conv => whnf
      refine s_R_isPlace hto (fun e1 => ?_) (fun e1 => ?_)
      · have hA := RS_pl hR ea
        have hB := RS_pl hR eb
        have ha4 := plA_lt ea
        have hb4 := plA_lt eb
        generalize plA S a = A at *
        generalize plA S b = B at *
        have hn := hA.1.1
        have hm := hB.1.1
        conv => whnf
        first | refine ⟨fun _ => ?_, fun q => absurd (by decide) q⟩ | refine ⟨fun q => absurd q (by decide), fun _ => ?_⟩
        conv => whnf
        refine ⟨vp_in_nI (by omega) (by decide), ?_⟩
        conv => whnf
        refine ⟨vp_in_nI (by omega) (by decide), ?_⟩
        conv => whnf
        rw [nI_clamp (by omega), nI_clamp (by omega), hA.2.1, hB.2.1, nI_add, nI_leI (by omega) (by omega)]
        refine ⟨fun q => ?_, fun q => ?_⟩
        · have hnn : (A.1 + B.1) * (A.1 + B.1) ≤ 6 * 6 := Nat.mul_le_mul q q
          have hz := n_nz (b := A.1 + B.1) (by omega) (by omega)
          conv => whnf
          refine ⟨vp_in_nI (by decide) (by decide), ?_⟩
          conv => whnf
          refine hKz _ _ _ _ ?_
          rw [nI_clamp (by omega)]
          refine r_build (m := 4) (N := (A.1 + B.1) * (A.1 + B.1)) (pos := sp (A.1 + B.1)) (vl := fun k => (puni A B).2.1 (k / (A.1 + B.1)) (k % (A.1 + B.1))) (vr := fun k => (puni A B).2.2 (k / (A.1 + B.1)) (k % (A.1 + B.1))) (P := fun k M' => V 0 G mi_R_unite Z 66 [(0, zr 20 0), (1, zi (nI a)), (2, zi (nI b)), (3, zi (nI to)), (4, zi (nI A.1)), (5, zi (nI (A.1 + B.1))), (6, zi (nI k))] [] M') (fun k hk => sp_lt q hk) (sp_inj q) (fun M' hl => ?_) (fun k hk M' hl h => ?_)
          · have hC : isRM M' 4 (puni A B) := sp_isRM (A := puni A B) hl (puni_wf hA.1 hB.1 q) zset_eq (fun k hk => ⟨rfl, rfl⟩)
            have g0 : rf (rgm 4) M M' := rf_trans (rf_set (Or.inl ⟨rfl, rfl⟩)) (laid_gm hl)
            refine z_run (cuts := cu_R_unite) ok_R_unite (fun Kz hKz => ?_)
            conv => whnf
            rw [pk_mul, nI_leI (by omega) (by omega)]
            refine ⟨fun _ => ?_, fun q => absurd (by omega) q⟩
            conv => whnf
            refine s_R_comes e1 hC (fun M2 g1 g2 => ?_)
            conv => whnf
            exact h3 ea eb e1 q M2 (RS_put (RS_rf hR g0 (rgm_no (by decide))) e1 g1 g2) (rsm_trans (rsm_gm g0) (rsm_gm g1))
          · have hd := dvlt hk
            obtain ⟨ed, em⟩ := n_dm (k := k) (n := A.1 + B.1) (by omega) (by omega) (by omega)
            have g0 : rf (rgm 4) M M' := rf_trans (rf_set (Or.inl ⟨rfl, rfl⟩)) (laid_gm hl)
            have hA' : isRM M' a A := isRM_rf hA g0 (fun a c q z => by unfold rgm at q z; omega)
            have hB' : isRM M' b B := isRM_rf hB g0 (fun a c q z => by unfold rgm at q z; omega)
            have pl : ∀ x y, (puni A B).2.1 x y = if x < A.1 then (if y < A.1 then A.2.1 x y else y) else (if y < A.1 then y else A.1 + B.2.1 (x - A.1) (y - A.1)) := fun _ _ => rfl
            have pr : ∀ x y, (puni A B).2.2 x y = if x < A.1 then (if y < A.1 then A.2.2 x y else x) else (if y < A.1 then x else A.1 + B.2.2 (x - A.1) (y - A.1)) := fun _ _ => rfl
            rw [pl, pr] at h
            unfold sp at h
            clear hl
            generalize k / (A.1 + B.1) = x at *
            generalize k % (A.1 + B.1) = y at *
            refine z_run (cuts := cu_R_unite) ok_R_unite (fun Kz hKz => ?_)
            conv => whnf
            rw [pk_mul, nI_leI (by omega) (by omega)]
            refine ⟨fun q => absurd q (by omega), fun _ => ?_⟩
            conv => whnf
            refine ⟨hz, ?_⟩
            conv => whnf
            refine ⟨hz, ?_⟩
            conv => whnf
            rw [ed, em, nI_leI (by omega) (by omega)]
            refine ⟨fun qx => ?_, fun qx => ?_⟩
            · simp only [if_neg (show ¬ x < A.1 by omega)] at h
              conv => whnf
              rw [nI_ltI (by omega) (by omega)]
              refine ⟨fun q => absurd q (by omega), fun _ => ?_⟩
              conv => whnf
              rw [nI_ltI (by omega) (by omega)]
              refine ⟨fun qy => ?_, fun qy => ?_⟩
              · simp only [if_pos qy] at h
                conv => whnf
                refine s_R_lay (by decide) (by omega) (by omega) ?_
                conv => whnf
                refine hKz _ _ _ _ ?_
                rw [nI_1']
                exact h
              · simp only [if_neg qy] at h
                have hLR := hB.1.2 (x - A.1) (y - A.1) (by omega) (by omega)
                conv => whnf
                rw [pk_sub (by omega), pk_sub (by omega)]
                refine s_R_l (by omega) hB' (by omega) (by omega) ?_
                conv => whnf
                rw [pk_sub (by omega), pk_sub (by omega)]
                refine s_R_r (by omega) hB' (by omega) (by omega) ?_
                conv => whnf
                rw [nI_add, nI_add]
                refine s_R_lay (by decide) (by omega) (by omega) ?_
                conv => whnf
                refine hKz _ _ _ _ ?_
                rw [nI_1']
                exact h
            · simp only [if_pos (show x < A.1 by omega)] at h
              conv => whnf
              rw [nI_leI (by omega) (by omega)]
              refine ⟨fun qy => ?_, fun qy => ?_⟩
              · simp only [if_neg (show ¬ y < A.1 by omega)] at h
                conv => whnf
                rw [nI_ltI (by omega) (by omega)]
                refine ⟨fun _ => ?_, fun z => absurd (by omega) z⟩
                conv => whnf
                refine s_R_lay (by decide) (by omega) (by omega) ?_
                conv => whnf
                refine hKz _ _ _ _ ?_
                rw [nI_1']
                exact h
              · simp only [if_pos (show y < A.1 by omega)] at h
                conv => whnf
                refine s_R_l (by omega) hA' (by omega) (by omega) ?_
                conv => whnf
                refine s_R_r (by omega) hA' (by omega) (by omega) ?_
                conv => whnf
                refine s_R_lay (by decide) (by omega) (by omega) ?_
                conv => whnf
                refine hKz _ _ _ _ ?_
                rw [nI_1']
                exact h
        · conv => whnf
          exact h2 ea eb e1 q
      · conv => whnf
        first | refine ⟨fun _ => ?_, fun q => absurd (by decide) q⟩ | refine ⟨fun q => absurd q (by decide), fun _ => ?_⟩
        conv => whnf
        exact h1 (Or.inr (Or.inr e1))
    · conv => whnf
      first | refine ⟨fun _ => ?_, fun q => absurd (by decide) q⟩ | refine ⟨fun q => absurd q (by decide), fun _ => ?_⟩
      conv => whnf
      exact h1 (Or.inr (Or.inl eb))
  · conv => whnf
    first | refine ⟨fun _ => ?_, fun q => absurd (by decide) q⟩ | refine ⟨fun q => absurd q (by decide), fun _ => ?_⟩
    conv => whnf
    exact h1 (Or.inl ea)
theorem r_pair {a b to : Nat} (ha : a < 2 ^ 32) (hb : b < 2 ^ 32) (hto : to < 2 ^ 32) (hR : RS M S) (h1 : (plA S a).1 = 0 ∨ (plA S b).1 = 0 ∨ ¬ to < 4 → Z (some (zi (-1000001))) M) (h2 : ¬ (plA S a).1 = 0 → ¬ (plA S b).1 = 0 → to < 4 → ¬ (plA S a).1 * (plA S b).1 ≤ 6 → Z (some (zi (-1000004))) M) (h3 : ¬ (plA S a).1 = 0 → ¬ (plA S b).1 = 0 → to < 4 → (plA S a).1 * (plA S b).1 ≤ 6 → ∀ M', RS M' (upS S to (pprod (plA S a) (plA S b))) → rsm M M' → Z (some (zi (nI ((plA S a).1 * (plA S b).1)))) M') : Ctr 0 G mi_R_pair [zr 20 0, zi (nI a), zi (nI b), zi (nI to)] M Z := by
  refine go_R_pair (fun Kz hKz => ?_)
  conv => whnf
  refine s_R_isMap ha hR (fun ea => ?_) (fun ea => ?_)
  · conv => whnf
    first | refine ⟨fun _ => ?_, fun q => absurd (by decide) q⟩ | refine ⟨fun q => absurd q (by decide), fun _ => ?_⟩
    conv => whnf
    refine s_R_isMap hb hR (fun eb => ?_) (fun eb => ?_)
    · conv => whnf
      first | refine ⟨fun _ => ?_, fun q => absurd (by decide) q⟩ | refine ⟨fun q => absurd q (by decide), fun _ => ?_⟩
      conv => whnf
      refine s_R_isPlace hto (fun e1 => ?_) (fun e1 => ?_)
      · have hA := RS_pl hR ea
        have hB := RS_pl hR eb
        have ha4 := plA_lt ea
        have hb4 := plA_lt eb
        generalize plA S a = A at *
        generalize plA S b = B at *
        have hn := hA.1.1
        have hm := hB.1.1
        have hpos : 0 < A.1 * B.1 := Nat.mul_pos (by omega) (by omega)
        have hbig : A.1 * B.1 ≤ 6 * 6 := Nat.mul_le_mul hn hm
        conv => whnf
        first | refine ⟨fun _ => ?_, fun q => absurd (by decide) q⟩ | refine ⟨fun q => absurd q (by decide), fun _ => ?_⟩
        conv => whnf
        refine ⟨vp_in_nI (by omega) (by decide), ?_⟩
        conv => whnf
        refine ⟨vp_in_nI (by omega) (by decide), ?_⟩
        conv => whnf
        rw [nI_clamp (by omega), nI_clamp (by omega), hA.2.1, hB.2.1, pk_mul, nI_leI (by omega) (by omega)]
        refine ⟨fun q => ?_, fun q => ?_⟩
        · have hnn : (A.1 * B.1) * (A.1 * B.1) ≤ 6 * 6 := Nat.mul_le_mul q q
          have hz := n_nz (b := A.1 * B.1) (by omega) (by omega)
          have hzb := n_nz (b := B.1) (by omega) (by omega)
          conv => whnf
          refine ⟨vp_in_nI (by decide) (by decide), ?_⟩
          conv => whnf
          refine hKz _ _ _ _ ?_
          rw [nI_clamp (by omega)]
          refine r_build (m := 4) (N := (A.1 * B.1) * (A.1 * B.1)) (pos := sp (A.1 * B.1)) (vl := fun k => (pprod A B).2.1 (k / (A.1 * B.1)) (k % (A.1 * B.1))) (vr := fun k => (pprod A B).2.2 (k / (A.1 * B.1)) (k % (A.1 * B.1))) (P := fun k M' => V 0 G mi_R_pair Z 66 [(0, zr 20 0), (1, zi (nI a)), (2, zi (nI b)), (3, zi (nI to)), (4, zi (nI B.1)), (5, zi (nI (A.1 * B.1))), (6, zi (nI k))] [] M') (fun k hk => sp_lt q hk) (sp_inj q) (fun M' hl => ?_) (fun k hk M' hl h => ?_)
          · have hC : isRM M' 4 (pprod A B) := sp_isRM (A := pprod A B) hl (pprod_wf hA.1 hB.1 q) zset_eq (fun k hk => ⟨rfl, rfl⟩)
            have g0 : rf (rgm 4) M M' := rf_trans (rf_set (Or.inl ⟨rfl, rfl⟩)) (laid_gm hl)
            refine z_run (cuts := cu_R_pair) ok_R_pair (fun Kz hKz => ?_)
            conv => whnf
            rw [pk_mul, nI_leI (by omega) (by omega)]
            refine ⟨fun _ => ?_, fun q => absurd (by omega) q⟩
            conv => whnf
            refine s_R_comes e1 hC (fun M2 g1 g2 => ?_)
            conv => whnf
            exact h3 ea eb e1 q M2 (RS_put (RS_rf hR g0 (rgm_no (by decide))) e1 g1 g2) (rsm_trans (rsm_gm g0) (rsm_gm g1))
          · have hd := dvlt hk
            obtain ⟨ed, em⟩ := n_dm (k := k) (n := A.1 * B.1) (by omega) (by omega) (by omega)
            have g0 : rf (rgm 4) M M' := rf_trans (rf_set (Or.inl ⟨rfl, rfl⟩)) (laid_gm hl)
            have hA' : isRM M' a A := isRM_rf hA g0 (fun a c q z => by unfold rgm at q z; omega)
            have hB' : isRM M' b B := isRM_rf hB g0 (fun a c q z => by unfold rgm at q z; omega)
            have pl : ∀ x y, (pprod A B).2.1 x y = B.1 * A.2.1 (x / B.1) (y / B.1) + B.2.1 (x % B.1) (y % B.1) := fun _ _ => rfl
            have pr : ∀ x y, (pprod A B).2.2 x y = B.1 * A.2.2 (x / B.1) (y / B.1) + B.2.2 (x % B.1) (y % B.1) := fun _ _ => rfl
            rw [pl, pr] at h
            unfold sp at h
            clear hl
            generalize k / (A.1 * B.1) = x at *
            generalize k % (A.1 * B.1) = y at *
            have dx : x / B.1 < A.1 := Nat.div_lt_of_lt_mul (by rw [Nat.mul_comm]; exact hd.1)
            have dy : y / B.1 < A.1 := Nat.div_lt_of_lt_mul (by rw [Nat.mul_comm]; exact hd.2)
            have mx : x % B.1 < B.1 := Nat.mod_lt _ (by omega)
            have my : y % B.1 < B.1 := Nat.mod_lt _ (by omega)
            obtain ⟨x1, x2⟩ := n_dm (k := x) (n := B.1) (by omega) (by omega) (by omega)
            obtain ⟨y1, y2⟩ := n_dm (k := y) (n := B.1) (by omega) (by omega) (by omega)
            refine z_run (cuts := cu_R_pair) ok_R_pair (fun Kz hKz => ?_)
            conv => whnf
            rw [pk_mul, nI_leI (by omega) (by omega)]
            refine ⟨fun q => absurd q (by omega), fun _ => ?_⟩
            conv => whnf
            refine ⟨hz, ?_⟩
            conv => whnf
            refine ⟨hz, ?_⟩
            conv => whnf
            refine ⟨hzb, ?_⟩
            conv => whnf
            refine ⟨hzb, ?_⟩
            conv => whnf
            rw [ed, em, x1, y1]
            refine s_R_l (by omega) hA' dx dy ?_
            conv => whnf
            refine ⟨hzb, ?_⟩
            conv => whnf
            refine ⟨hzb, ?_⟩
            conv => whnf
            rw [x2, y2]
            refine s_R_l (by omega) hB' mx my ?_
            conv => whnf
            refine ⟨hzb, ?_⟩
            conv => whnf
            refine ⟨hzb, ?_⟩
            conv => whnf
            rw [x1, y1]
            refine s_R_r (by omega) hA' dx dy ?_
            conv => whnf
            refine ⟨hzb, ?_⟩
            conv => whnf
            refine ⟨hzb, ?_⟩
            conv => whnf
            rw [x2, y2]
            refine s_R_r (by omega) hB' mx my ?_
            conv => whnf
            rw [pk_mul, pk_mul, nI_add, nI_add]
            refine s_R_lay (by decide) (by omega) (by omega) ?_
            conv => whnf
            refine hKz _ _ _ _ ?_
            rw [nI_1']
            exact h
        · conv => whnf
          exact h2 ea eb e1 q
      · conv => whnf
        first | refine ⟨fun _ => ?_, fun q => absurd (by decide) q⟩ | refine ⟨fun q => absurd q (by decide), fun _ => ?_⟩
        conv => whnf
        exact h1 (Or.inr (Or.inr e1))
    · conv => whnf
      first | refine ⟨fun _ => ?_, fun q => absurd (by decide) q⟩ | refine ⟨fun q => absurd q (by decide), fun _ => ?_⟩
      conv => whnf
      exact h1 (Or.inr (Or.inl eb))
  · conv => whnf
    first | refine ⟨fun _ => ?_, fun q => absurd (by decide) q⟩ | refine ⟨fun q => absurd q (by decide), fun _ => ?_⟩
    conv => whnf
    exact h1 (Or.inl ea)
theorem s_R_isBijective {a : Nat} {A : ZP} (ha : a < 6) (hA : isRM M a A) (h0 : 0 < A.1) (h1 : pinj A → Z (some (zi (nI 1))) M) (h2 : ¬ pinj A → Z (some (zi (nI 0))) M) : Ctr 0 G mi_R_isBijective [zr 20 0, zi (nI a)] M Z := by
  have hn := hA.1.1
  have hnn : A.1 * A.1 ≤ 6 * 6 := Nat.mul_le_mul hn hn
  have hz := n_nz (b := A.1) (by omega) (by omega)
  have hf : ∀ i, i < A.1 * A.1 → pj A 6 i < 36 := fun i hi => by
    have hd := dvlt hi
    have hLR := hA.1.2 _ _ hd.1 hd.2
    unfold pj
    omega
  have hs : orf (pj A 6) (A.1 * A.1) < 2 ^ 36 := orf_lt _ hf
  have hb := bct_orf (f := pj A 6) (A.1 * A.1) (fun i hi => by have := hf i hi; omega)
  have hbt := bct_top hs 28
  rw [show 36 + 28 = 64 from rfl] at hbt
  rw [hbt, pj_inj hA.1 hn] at hb
  have lp2 : ∀ k, k ≤ 36 → V 0 G mi_R_isBijective Z 74 [(2, zl (lN (orf (pj A 6) (A.1 * A.1)))), (4, zi (nI A.1)), (5, zi (nI (bct (orf (pj A 6) (A.1 * A.1)) k))), (6, zi (nI k))] [] M := by
    refine up_to ?_ ?_
    · refine z_run (cuts := cu_R_isBijective) ok_R_isBijective (fun Kz hKz => ?_)
      conv => whnf
      first | refine ⟨fun _ => ?_, fun q => absurd (by decide) q⟩ | refine ⟨fun q => absurd q (by decide), fun _ => ?_⟩
      conv => whnf
      rw [pk_mul, n_ne (by omega) (by omega)]
      refine ⟨fun q => ?_, fun q => ?_⟩
      · conv => whnf
        exact ⟨Or.inl rfl, h2 (fun z => q (hb.2.mpr z))⟩
      · conv => whnf
        exact ⟨Or.inr rfl, h1 (hb.2.mp (Classical.not_not.mp q))⟩
    · intro k hk ih
      rw [bct] at ih
      refine z_run (cuts := cu_R_isBijective) ok_R_isBijective (fun Kz hKz => ?_)
      conv => whnf
      rw [nI_leI (by omega) (by omega)]
      refine ⟨fun q => absurd q (by omega), fun _ => ?_⟩
      conv => whnf
      rw [l_bit _ _ (by omega), lc_eq]
      cases hbit : (orf (pj A 6) (A.1 * A.1)).testBit k with
      | false =>
        rw [hbit] at ih
        refine ⟨fun _ => ?_, fun q => absurd (by decide) q⟩
        conv => whnf
        refine hKz _ _ _ _ ?_
        rw [nI_add, nI_1']
        exact ih
      | true =>
        rw [hbit] at ih
        refine ⟨fun q => absurd rfl q, fun _ => ?_⟩
        conv => whnf
        refine hKz _ _ _ _ ?_
        rw [nI_add, nI_1']
        exact ih
  have lp1 : ∀ k, k ≤ A.1 * A.1 → V 0 G mi_R_isBijective Z 13 [(0, zr 20 0), (1, zi (nI a)), (2, zl (lN (orf (pj A 6) k))), (4, zi (nI A.1)), (5, zi (nI k))] [] M := by
    refine up_to ?_ ?_
    · refine z_run (cuts := cu_R_isBijective) ok_R_isBijective (fun Kz hKz => ?_)
      conv => whnf
      rw [pk_mul, nI_leI (by omega) (by omega)]
      refine ⟨fun _ => ?_, fun q => absurd (by omega) q⟩
      conv => whnf
      refine hKz _ _ _ _ ?_
      exact lp2 0 (Nat.zero_le _)
    · intro k hk ih
      have hd := dvlt hk
      have hLR := hA.1.2 _ _ hd.1 hd.2
      have hk2 := hf k hk
      obtain ⟨ed, em⟩ := n_dm (k := k) (n := A.1) (by omega) (by omega) (by omega)
      refine z_run (cuts := cu_R_isBijective) ok_R_isBijective (fun Kz hKz => ?_)
      conv => whnf
      rw [pk_mul, nI_leI (by omega) (by omega)]
      refine ⟨fun q => absurd q (by omega), fun _ => ?_⟩
      conv => whnf
      refine ⟨hz, ?_⟩
      conv => whnf
      refine ⟨hz, ?_⟩
      conv => whnf
      rw [ed, em]
      refine s_R_l (by omega) hA hd.1 hd.2 ?_
      conv => whnf
      refine ⟨hz, ?_⟩
      conv => whnf
      refine ⟨hz, ?_⟩
      conv => whnf
      rw [ed, em]
      refine s_R_r (by omega) hA hd.1 hd.2 ?_
      conv => whnf
      refine hKz _ _ _ _ ?_
      rw [pk_mul, nI_add, nI_1']
      rw [show 6 * A.2.1 (k / A.1) (k % A.1) + A.2.2 (k / A.1) (k % A.1) = pj A 6 k from rfl, l_shl _ _ (by omega), l_or, Nat.one_mul]
      exact ih
  refine go_R_isBijective (fun Kz hKz => ?_)
  conv => whnf
  refine ⟨vp_in_nI (by omega) (by decide), ?_⟩
  conv => whnf
  refine hKz _ _ _ _ ?_
  rw [nI_clamp (by omega), hA.2.1]
  exact lp1 0 (Nat.zero_le _)
theorem r_invert {a to : Nat} (ha : a < 2 ^ 32) (hto : to < 2 ^ 32) (hR : RS M S) (h1 : (plA S a).1 = 0 ∨ ¬ to < 4 → Z (some (zi (-1000001))) M) (h2 : ¬ (plA S a).1 = 0 → to < 4 → ¬ pinj (plA S a) → Z (some (zi (-1000003))) M) (h3 : ¬ (plA S a).1 = 0 → to < 4 → pinj (plA S a) → ∀ M', RS M' (upS S to (pinv (plA S a))) → rsm M M' → Z (some (zi (nI (plA S a).1))) M') : Ctr 0 G mi_R_invert [zr 20 0, zi (nI a), zi (nI to)] M Z := by
  refine go_R_invert (fun Kz hKz => ?_)
  conv => whnf
  refine s_R_isMap ha hR (fun e => ?_) (fun e => ?_)
  · conv => whnf
    first | refine ⟨fun _ => ?_, fun q => absurd (by decide) q⟩ | refine ⟨fun q => absurd q (by decide), fun _ => ?_⟩
    conv => whnf
    refine s_R_isPlace hto (fun e1 => ?_) (fun e1 => ?_)
    · have hA := RS_pl hR e
      have ha4 := plA_lt e
      generalize plA S a = A at *
      have e3 := hA.1.1
      have hnn : A.1 * A.1 ≤ 6 * 6 := Nat.mul_le_mul e3 e3
      have hz := n_nz (b := A.1) (by omega) (by omega)
      conv => whnf
      first | refine ⟨fun _ => ?_, fun q => absurd (by decide) q⟩ | refine ⟨fun q => absurd q (by decide), fun _ => ?_⟩
      conv => whnf
      refine s_R_isBijective (by omega) hA (by omega) (fun hi => ?_) (fun hi => ?_)
      · have hinj := (pj_inj hA.1 e3).mpr hi
        conv => whnf
        first | refine ⟨fun _ => ?_, fun q => absurd (by decide) q⟩ | refine ⟨fun q => absurd q (by decide), fun _ => ?_⟩
        conv => whnf
        refine ⟨vp_in_nI (by omega) (by decide), ?_⟩
        conv => whnf
        refine ⟨vp_in_nI (by decide) (by decide), ?_⟩
        conv => whnf
        refine hKz _ _ _ _ ?_
        rw [nI_clamp (by omega), nI_clamp (by omega), hA.2.1]
        refine r_build (m := 4) (N := A.1 * A.1) (pos := pj A 6) (vl := fun k => k / A.1) (vr := fun k => k % A.1) (P := fun k M' => V 0 G mi_R_invert Z 46 [(0, zr 20 0), (1, zi (nI a)), (2, zi (nI to)), (3, zi (nI A.1)), (4, zi (nI k))] [] M') (fun k hk => ?_) hinj (fun M' hl => ?_) (fun k hk M' hl h => ?_)
        · have hd := dvlt hk
          have hLR := hA.1.2 _ _ hd.1 hd.2
          unfold pj
          omega
        · have hB : isRM M' 4 (pinv A) := by
            refine laid_isRM hl (pinv_wf hA.1 hi) zset_eq (fun p q hp hq => ?_)
            obtain ⟨z1, z2, z3, z4⟩ := pinvz_spec hA.1 hi hp hq
            refine ⟨A.1 * (pinvz A p q).1 + (pinvz A p q).2, prlt z1 z2, ?_, ?_, ?_⟩
            · unfold pj
              rw [(dvm z2).1, (dvm z2).2, z3, z4]
            · show (A.1 * (pinvz A p q).1 + (pinvz A p q).2) / A.1 = (pinvz A p q).1
              exact (dvm z2).1
            · show (A.1 * (pinvz A p q).1 + (pinvz A p q).2) % A.1 = (pinvz A p q).2
              exact (dvm z2).2
          have g0 : rf (rgm 4) M M' := rf_trans (rf_set (Or.inl ⟨rfl, rfl⟩)) (laid_gm hl)
          refine z_run (cuts := cu_R_invert) ok_R_invert (fun Kz hKz => ?_)
          conv => whnf
          rw [pk_mul, nI_leI (by omega) (by omega)]
          refine ⟨fun _ => ?_, fun q => absurd (by omega) q⟩
          conv => whnf
          refine s_R_comes e1 hB (fun M2 g1 g2 => ?_)
          conv => whnf
          exact h3 e e1 hi M2 (RS_put (RS_rf hR g0 (rgm_no (by decide))) e1 g1 g2) (rsm_trans (rsm_gm g0) (rsm_gm g1))
        · have hd := dvlt hk
          have hLR := hA.1.2 _ _ hd.1 hd.2
          obtain ⟨ed, em⟩ := n_dm (k := k) (n := A.1) (by omega) (by omega) (by omega)
          have g0 : rf (rgm 4) M M' := rf_trans (rf_set (Or.inl ⟨rfl, rfl⟩)) (laid_gm hl)
          have hA' : isRM M' a A := isRM_rf hA g0 (fun a c q z => by unfold rgm at q z; omega)
          refine z_run (cuts := cu_R_invert) ok_R_invert (fun Kz hKz => ?_)
          conv => whnf
          rw [pk_mul, nI_leI (by omega) (by omega)]
          refine ⟨fun q => absurd q (by omega), fun _ => ?_⟩
          conv => whnf
          refine ⟨hz, ?_⟩
          conv => whnf
          refine ⟨hz, ?_⟩
          conv => whnf
          rw [ed, em]
          refine s_R_l (by omega) hA' hd.1 hd.2 ?_
          conv => whnf
          refine ⟨hz, ?_⟩
          conv => whnf
          refine ⟨hz, ?_⟩
          conv => whnf
          rw [ed, em]
          refine s_R_r (by omega) hA' hd.1 hd.2 ?_
          conv => whnf
          refine ⟨hz, ?_⟩
          conv => whnf
          refine ⟨hz, ?_⟩
          conv => whnf
          rw [ed, em]
          refine s_R_lay (x := A.2.1 (k / A.1) (k % A.1)) (y := A.2.2 (k / A.1) (k % A.1)) (by decide) (by omega) (by omega) ?_
          conv => whnf
          refine hKz _ _ _ _ ?_
          rw [nI_1']
          exact h
      · conv => whnf
        first | refine ⟨fun _ => ?_, fun q => absurd (by decide) q⟩ | refine ⟨fun q => absurd q (by decide), fun _ => ?_⟩
        conv => whnf
        exact h2 e e1 hi
    · conv => whnf
      first | refine ⟨fun _ => ?_, fun q => absurd (by decide) q⟩ | refine ⟨fun q => absurd q (by decide), fun _ => ?_⟩
      conv => whnf
      exact h1 (Or.inr e1)
  · conv => whnf
    first | refine ⟨fun _ => ?_, fun q => absurd (by decide) q⟩ | refine ⟨fun q => absurd q (by decide), fun _ => ?_⟩
    conv => whnf
    exact h1 (Or.inl e)
end
