/-! the law: maps side by side and pair by pair, turned maps, whether a map is bijective -/
section
variable {G : ZG} {M : ZM} {Z : Option ZV → ZM → Prop} {S : ZS}
theorem h_joinsU {a b : Nat} {A B : ZP} (ha : a < 4) (hb : b < 4) (hA : isH M a A) (hB : isH M b B) (h0 : 0 < A.1) (h0' : 0 < B.1) (q : A.1 + B.1 ≤ 6) (hL : LH M S) (hZ : ∀ M', hfr M M' → LH M' S → isH M' 4 (puni A B) → Z none M') : Ctr 0 G mi_LW_joins [zr 20 0, zi (nI a), zi (nI b), zi (nI 0)] M Z := by
  have hn := hA.1.1
  have hm := hB.1.1
  have hpos : 0 < A.1 * B.1 := Nat.mul_pos h0 h0'
  have hbig : A.1 * B.1 ≤ 6 * 6 := Nat.mul_le_mul hn hm
  have hnn : (A.1 + B.1) * (A.1 + B.1) ≤ 6 * 6 := Nat.mul_le_mul q q
  have hz := n_nz (b := A.1 + B.1) (by omega) (by omega)
  have hzb := n_nz (b := B.1) (by omega) (by omega)
  refine go_LW_joins (fun Kz hKz => ?_)
  conv => whnf
  refine h_points (by omega) hA ?_
  conv => whnf
  refine h_points (by omega) hB ?_
  conv => whnf
  first | refine ⟨fun _ => ?_, fun z => absurd rfl z⟩ | refine ⟨fun z => absurd z (by decide), fun _ => ?_⟩
  conv => whnf
  refine ⟨vp_in_nI (by decide) (by decide), ?_⟩
  conv => whnf
  refine hKz _ _ _ _ ?_
  rw [nI_clamp (by decide), nI_add, nI_l (by omega)]
  refine h_build (M0 := hz4 (A.1 + B.1) M) (N := (A.1 + B.1) * (A.1 + B.1)) (pos := sp (A.1 + B.1)) (vl := fun k => (puni A B).2.1 (k / (A.1 + B.1)) (k % (A.1 + B.1))) (vr := fun k => (puni A B).2.2 (k / (A.1 + B.1)) (k % (A.1 + B.1))) (P := fun k M' => V 0 G mi_LW_joins Z 43 [(0, zr 20 0), (1, zi (nI a)), (2, zi (nI b)), (3, zi (nI 0)), (4, zi (nI A.1)), (5, zi (nI B.1)), (6, zi (nI (A.1 + B.1))), (7, zi (nI k))] [] M') (hz4_hok hL.1) (fun k hk => sp_lt q hk) (sp_inj q) (fun M' hl => ?_) (fun k hk M' hl h => ?_)
  · refine z_run (cuts := cu_LW_joins) ok_LW_joins (fun Kz hKz => ?_)
    conv => whnf
    rw [pk_mul, nI_leI (by omega) (by omega)]
    refine ⟨fun _ => ?_, fun q => absurd (by omega) q⟩
    conv => whnf
    exact hZ M' (hfr_trans (hz4_fr M _) hl.1.1) (LH_stp (hz4_LS hL) hl.1) (sp_isH (A := puni A B) hl (puni_wf hA.1 hB.1 q) (hz4_at M _) (fun k hk => ⟨rfl, rfl⟩))
  · have hd := dvlt hk
    obtain ⟨ed, em⟩ := n_dm (k := k) (n := A.1 + B.1) (by omega) (by omega) (by omega)
    have hM' := hl.1.2.1
    have hA' : isH M' a A := isH_stp (hz4_isH hA ha) ha hl.1
    have hB' : isH M' b B := isH_stp (hz4_isH hB hb) hb hl.1
    have h := h (k / (A.1 + B.1)) (k % (A.1 + B.1)) rfl (by omega)
    clear hl
    have pl : ∀ x y, (puni A B).2.1 x y = if x < A.1 then (if y < A.1 then A.2.1 x y else y) else (if y < A.1 then y else A.1 + B.2.1 (x - A.1) (y - A.1)) := fun _ _ => rfl
    have pr : ∀ x y, (puni A B).2.2 x y = if x < A.1 then (if y < A.1 then A.2.2 x y else x) else (if y < A.1 then x else A.1 + B.2.2 (x - A.1) (y - A.1)) := fun _ _ => rfl
    rw [pl, pr] at h
    generalize k / (A.1 + B.1) = x at *
    generalize k % (A.1 + B.1) = y at *
    refine z_run (cuts := cu_LW_joins) ok_LW_joins (fun Kz hKz => ?_)
    conv => whnf
    rw [pk_mul, nI_leI (by omega) (by omega)]
    refine ⟨fun q => absurd q (by omega), fun _ => ?_⟩
    conv => whnf
    refine ⟨hz, ?_⟩
    conv => whnf
    rw [ed]
    refine ⟨hz, ?_⟩
    conv => whnf
    rw [em]
    refine ⟨fun _ => ?_, fun z => absurd rfl z⟩
    conv => whnf
    rw [nI_leI (by omega) (by omega)]
    refine ⟨fun qx => ?_, fun qx => ?_⟩
    · simp only [if_neg (show ¬ x < A.1 by omega)] at h
      conv => whnf
      rw [nI_ltI (by omega) (by omega)]
      refine ⟨fun q => absurd q (by omega), fun _ => ?_⟩
      conv => whnf
      rw [nI_ltI (by omega) (by omega)]
      refine ⟨fun qy => ?_, fun qy => ?_⟩
      · simp only [if_pos qy] at h
        conv => whnf
        refine h_lays (by decide) hM' (by omega) (by omega) (by omega) (by omega) (fun M2 g => ?_)
        conv => whnf
        refine hKz _ _ _ _ ?_
        rw [nI_1']
        exact h M2 g
      · simp only [if_neg qy] at h
        have hLR := hB.1.2 (x - A.1) (y - A.1) (by omega) (by omega)
        conv => whnf
        rw [pk_sub (by omega), pk_sub (by omega)]
        refine h_l (by omega) hM' hB' (by omega) (by omega) ?_
        conv => whnf
        rw [pk_sub (by omega), pk_sub (by omega)]
        refine h_r (by omega) hM' hB' (by omega) (by omega) ?_
        conv => whnf
        rw [nI_add, nI_add]
        refine h_lays (by decide) hM' (by omega) (by omega) (by omega) (by omega) (fun M2 g => ?_)
        conv => whnf
        refine hKz _ _ _ _ ?_
        rw [nI_1']
        exact h M2 g
    · simp only [if_pos (show x < A.1 by omega)] at h
      conv => whnf
      rw [nI_leI (by omega) (by omega)]
      refine ⟨fun qy => ?_, fun qy => ?_⟩
      · simp only [if_neg (show ¬ y < A.1 by omega)] at h
        conv => whnf
        rw [nI_ltI (by omega) (by omega)]
        refine ⟨fun _ => ?_, fun z => absurd (by omega) z⟩
        conv => whnf
        refine h_lays (by decide) hM' (by omega) (by omega) (by omega) (by omega) (fun M2 g => ?_)
        conv => whnf
        refine hKz _ _ _ _ ?_
        rw [nI_1']
        exact h M2 g
      · simp only [if_pos (show y < A.1 by omega)] at h
        have hLR := hA.1.2 x y (by omega) (by omega)
        conv => whnf
        refine h_l (by omega) hM' hA' (by omega) (by omega) ?_
        conv => whnf
        refine h_r (by omega) hM' hA' (by omega) (by omega) ?_
        conv => whnf
        refine h_lays (by decide) hM' (by omega) (by omega) (by omega) (by omega) (fun M2 g => ?_)
        conv => whnf
        refine hKz _ _ _ _ ?_
        rw [nI_1']
        exact h M2 g
theorem h_joinsP {a b : Nat} {A B : ZP} (ha : a < 4) (hb : b < 4) (hA : isH M a A) (hB : isH M b B) (h0 : 0 < A.1) (h0' : 0 < B.1) (q : A.1 * B.1 ≤ 6) (hL : LH M S) (hZ : ∀ M', hfr M M' → LH M' S → isH M' 4 (pprod A B) → Z none M') : Ctr 0 G mi_LW_joins [zr 20 0, zi (nI a), zi (nI b), zi (nI 1)] M Z := by
  have hn := hA.1.1
  have hm := hB.1.1
  have hpos : 0 < A.1 * B.1 := Nat.mul_pos h0 h0'
  have hbig : A.1 * B.1 ≤ 6 * 6 := Nat.mul_le_mul hn hm
  have hnn : (A.1 * B.1) * (A.1 * B.1) ≤ 6 * 6 := Nat.mul_le_mul q q
  have hz := n_nz (b := A.1 * B.1) (by omega) (by omega)
  have hzb := n_nz (b := B.1) (by omega) (by omega)
  refine go_LW_joins (fun Kz hKz => ?_)
  conv => whnf
  refine h_points (by omega) hA ?_
  conv => whnf
  refine h_points (by omega) hB ?_
  conv => whnf
  first | refine ⟨fun _ => ?_, fun z => absurd rfl z⟩ | refine ⟨fun z => absurd z (by decide), fun _ => ?_⟩
  conv => whnf
  refine ⟨vp_in_nI (by decide) (by decide), ?_⟩
  conv => whnf
  refine hKz _ _ _ _ ?_
  rw [nI_clamp (by decide), pk_mul, nI_l (by omega)]
  refine h_build (M0 := hz4 (A.1 * B.1) M) (N := (A.1 * B.1) * (A.1 * B.1)) (pos := sp (A.1 * B.1)) (vl := fun k => (pprod A B).2.1 (k / (A.1 * B.1)) (k % (A.1 * B.1))) (vr := fun k => (pprod A B).2.2 (k / (A.1 * B.1)) (k % (A.1 * B.1))) (P := fun k M' => V 0 G mi_LW_joins Z 43 [(0, zr 20 0), (1, zi (nI a)), (2, zi (nI b)), (3, zi (nI 1)), (4, zi (nI A.1)), (5, zi (nI B.1)), (6, zi (nI (A.1 * B.1))), (7, zi (nI k))] [] M') (hz4_hok hL.1) (fun k hk => sp_lt q hk) (sp_inj q) (fun M' hl => ?_) (fun k hk M' hl h => ?_)
  · refine z_run (cuts := cu_LW_joins) ok_LW_joins (fun Kz hKz => ?_)
    conv => whnf
    rw [pk_mul, nI_leI (by omega) (by omega)]
    refine ⟨fun _ => ?_, fun q => absurd (by omega) q⟩
    conv => whnf
    exact hZ M' (hfr_trans (hz4_fr M _) hl.1.1) (LH_stp (hz4_LS hL) hl.1) (sp_isH (A := pprod A B) hl (pprod_wf hA.1 hB.1 q) (hz4_at M _) (fun k hk => ⟨rfl, rfl⟩))
  · have hd := dvlt hk
    obtain ⟨ed, em⟩ := n_dm (k := k) (n := A.1 * B.1) (by omega) (by omega) (by omega)
    have hM' := hl.1.2.1
    have hA' : isH M' a A := isH_stp (hz4_isH hA ha) ha hl.1
    have hB' : isH M' b B := isH_stp (hz4_isH hB hb) hb hl.1
    have h := h (k / (A.1 * B.1)) (k % (A.1 * B.1)) rfl (by omega)
    clear hl
    have pl : ∀ x y, (pprod A B).2.1 x y = B.1 * A.2.1 (x / B.1) (y / B.1) + B.2.1 (x % B.1) (y % B.1) := fun _ _ => rfl
    have pr : ∀ x y, (pprod A B).2.2 x y = B.1 * A.2.2 (x / B.1) (y / B.1) + B.2.2 (x % B.1) (y % B.1) := fun _ _ => rfl
    have hwf := (pprod_wf hA.1 hB.1 q).2 _ _ hd.1 hd.2
    rw [pl, pr] at h hwf
    have hwf : _ < A.1 * B.1 ∧ _ < A.1 * B.1 := hwf
    generalize k / (A.1 * B.1) = x at *
    generalize k % (A.1 * B.1) = y at *
    have dx : x / B.1 < A.1 := Nat.div_lt_of_lt_mul (by rw [Nat.mul_comm]; exact hd.1)
    have dy : y / B.1 < A.1 := Nat.div_lt_of_lt_mul (by rw [Nat.mul_comm]; exact hd.2)
    have mx : x % B.1 < B.1 := Nat.mod_lt _ (by omega)
    have my : y % B.1 < B.1 := Nat.mod_lt _ (by omega)
    obtain ⟨x1, x2⟩ := n_dm (k := x) (n := B.1) (by omega) (by omega) (by omega)
    obtain ⟨y1, y2⟩ := n_dm (k := y) (n := B.1) (by omega) (by omega) (by omega)
    refine z_run (cuts := cu_LW_joins) ok_LW_joins (fun Kz hKz => ?_)
    conv => whnf
    rw [pk_mul, nI_leI (by omega) (by omega)]
    refine ⟨fun q => absurd q (by omega), fun _ => ?_⟩
    conv => whnf
    refine ⟨hz, ?_⟩
    conv => whnf
    rw [ed]
    refine ⟨hz, ?_⟩
    conv => whnf
    rw [em]
    refine ⟨fun z => absurd z (by decide), fun _ => ?_⟩
    conv => whnf
    refine ⟨hzb, ?_⟩
    conv => whnf
    refine ⟨hzb, ?_⟩
    conv => whnf
    rw [x1, y1]
    refine h_l (by omega) hM' hA' dx dy ?_
    conv => whnf
    refine ⟨hzb, ?_⟩
    conv => whnf
    refine ⟨hzb, ?_⟩
    conv => whnf
    rw [x2, y2]
    refine h_l (by omega) hM' hB' mx my ?_
    conv => whnf
    refine ⟨hzb, ?_⟩
    conv => whnf
    refine ⟨hzb, ?_⟩
    conv => whnf
    rw [x1, y1]
    refine h_r (by omega) hM' hA' dx dy ?_
    conv => whnf
    refine ⟨hzb, ?_⟩
    conv => whnf
    refine ⟨hzb, ?_⟩
    conv => whnf
    rw [x2, y2]
    refine h_r (by omega) hM' hB' mx my ?_
    conv => whnf
    rw [pk_mul, pk_mul, nI_add, nI_add]
    refine h_lays (by decide) hM' (by omega) (by omega) (by omega) (by omega) (fun M2 g => ?_)
    conv => whnf
    refine hKz _ _ _ _ ?_
    rw [nI_1']
    exact h M2 g
theorem h_turns0 {a : Nat} {f : Int32} {A : ZP} (ha : a < 4) (hA : isH M a A) (h0 : 0 < A.1) (hi : pinj A) (hL : LH M S) (hZ : ∀ M', hfr M M' → LH M' S → isH M' 4 (pinv A) → Z none M') : Ctr 0 G mi_LW_turns [zr 20 0, zi (nI a), zi (nI 0), zi f] M Z := by
  have hn := hA.1.1
  have hnn : A.1 * A.1 ≤ 6 * 6 := Nat.mul_le_mul hn hn
  have hz := n_nz (b := A.1) (by omega) (by omega)
  refine go_LW_turns (fun Kz hKz => ?_)
  conv => whnf
  refine h_points (by omega) hA ?_
  conv => whnf
  refine ⟨vp_in_nI (by decide) (by decide), ?_⟩
  conv => whnf
  refine hKz _ _ _ _ ?_
  rw [nI_clamp (by decide), nI_l (by omega)]
  refine h_build (M0 := hz4 A.1 M) (N := A.1 * A.1) (pos := pj A 6) (vl := fun k => k / A.1) (vr := fun k => k % A.1) (P := fun k M' => V 0 G mi_LW_turns Z 17 [(0, zr 20 0), (1, zi (nI a)), (2, zi (nI 0)), (3, zi f), (4, zi (nI A.1)), (5, zi (nI k))] [] M') (hz4_hok hL.1) (fun k hk => ?_) ((pj_inj hA.1 hn).mpr hi) (fun M' hl => ?_) (fun k hk M' hl h => ?_)
  · have hd := dvlt hk
    have hLR := hA.1.2 _ _ hd.1 hd.2
    unfold pj
    omega
  · refine z_run (cuts := cu_LW_turns) ok_LW_turns (fun Kz hKz => ?_)
    conv => whnf
    rw [pk_mul, nI_leI (by omega) (by omega)]
    refine ⟨fun _ => ?_, fun q => absurd (by omega) q⟩
    conv => whnf
    have hB : isH M' 4 (pinv A) := by
      refine laid_isH hl (pinv_wf hA.1 hi) (hz4_at M _) (fun p q hp hq => ?_)
      obtain ⟨z1, z2, z3, z4⟩ := pinvz_spec hA.1 hi hp hq
      refine ⟨A.1 * (pinvz A p q).1 + (pinvz A p q).2, prlt z1 z2, ?_, ?_, ?_⟩
      · unfold pj
        rw [(dvm z2).1, (dvm z2).2, z3, z4]
      · show (A.1 * (pinvz A p q).1 + (pinvz A p q).2) / A.1 = (pinvz A p q).1
        exact (dvm z2).1
      · show (A.1 * (pinvz A p q).1 + (pinvz A p q).2) % A.1 = (pinvz A p q).2
        exact (dvm z2).2
    exact hZ M' (hfr_trans (hz4_fr M _) hl.1.1) (LH_stp (hz4_LS hL) hl.1) hB
  · have hd := dvlt hk
    have hLR := hA.1.2 _ _ hd.1 hd.2
    obtain ⟨ed, em⟩ := n_dm (k := k) (n := A.1) (by omega) (by omega) (by omega)
    have hM' := hl.1.2.1
    have hA' : isH M' a A := isH_stp (hz4_isH hA ha) ha hl.1
    have h := h (A.2.1 (k / A.1) (k % A.1)) (A.2.2 (k / A.1) (k % A.1)) rfl (by omega)
    clear hl
    refine z_run (cuts := cu_LW_turns) ok_LW_turns (fun Kz hKz => ?_)
    conv => whnf
    rw [pk_mul, nI_leI (by omega) (by omega)]
    refine ⟨fun q => absurd q (by omega), fun _ => ?_⟩
    conv => whnf
    refine ⟨hz, ?_⟩
    conv => whnf
    rw [ed]
    refine ⟨hz, ?_⟩
    conv => whnf
    rw [em]
    refine h_l (by omega) hM' hA' hd.1 hd.2 ?_
    conv => whnf
    refine h_r (by omega) hM' hA' hd.1 hd.2 ?_
    conv => whnf
    refine ⟨fun z => absurd rfl z, fun _ => ?_⟩
    conv => whnf
    refine h_lays (by decide) hM' (by omega) (by omega) (by omega) (by omega) (fun M2 g => ?_)
    conv => whnf
    refine hKz _ _ _ _ ?_
    rw [nI_1']
    exact h M2 g
theorem h_turns1 {a : Nat} {f : Int32} {A : ZP} (ha : a < 4) (hA : isH M a A) (h0 : 0 < A.1) (hL : LH M S) (hZ : ∀ M', hfr M M' → LH M' S → isH M' 4 (pmir A) → Z none M') : Ctr 0 G mi_LW_turns [zr 20 0, zi (nI a), zi (nI 1), zi f] M Z := by
  have hn := hA.1.1
  have hnn : A.1 * A.1 ≤ 6 * 6 := Nat.mul_le_mul hn hn
  have hz := n_nz (b := A.1) (by omega) (by omega)
  refine go_LW_turns (fun Kz hKz => ?_)
  conv => whnf
  refine h_points (by omega) hA ?_
  conv => whnf
  refine ⟨vp_in_nI (by decide) (by decide), ?_⟩
  conv => whnf
  refine hKz _ _ _ _ ?_
  rw [nI_clamp (by decide), nI_l (by omega)]
  refine h_build (M0 := hz4 A.1 M) (N := A.1 * A.1) (pos := fun k => 6 * (k % A.1) + k / A.1) (vl := fun k => A.2.2 (k / A.1) (k % A.1)) (vr := fun k => A.2.1 (k / A.1) (k % A.1)) (P := fun k M' => V 0 G mi_LW_turns Z 17 [(0, zr 20 0), (1, zi (nI a)), (2, zi (nI 1)), (3, zi f), (4, zi (nI A.1)), (5, zi (nI k))] [] M') (hz4_hok hL.1) (fun k hk => ?_) (fun i j hi hj q => ?_) (fun M' hl => ?_) (fun k hk M' hl h => ?_)
  · have hd := dvlt hk
    show 6 * (k % A.1) + k / A.1 < 36
    omega
  · have hd1 := dvlt hi
    have hd2 := dvlt hj
    have q2 : 6 * (i % A.1) + i / A.1 = 6 * (j % A.1) + j / A.1 := q
    obtain ⟨c1, c2⟩ := (show ∀ p q p' q' : Nat, p < 6 → p' < 6 → 6 * q + p = 6 * q' + p' → p = p' ∧ q = q' by omega) _ _ _ _ (Nat.lt_of_lt_of_le hd1.1 hn) (Nat.lt_of_lt_of_le hd2.1 hn) q2
    rw [← Nat.div_add_mod i A.1, ← Nat.div_add_mod j A.1, c1, c2]
  · refine z_run (cuts := cu_LW_turns) ok_LW_turns (fun Kz hKz => ?_)
    conv => whnf
    rw [pk_mul, nI_leI (by omega) (by omega)]
    refine ⟨fun _ => ?_, fun q => absurd (by omega) q⟩
    conv => whnf
    have hB : isH M' 4 (pmir A) := by
      refine laid_isH hl (pmir_wf hA.1) (hz4_at M _) (fun x y hx hy => ?_)
      have hx : x < A.1 := hx
      have hy : y < A.1 := hy
      refine ⟨A.1 * y + x, prlt hy hx, ?_, ?_, ?_⟩
      · show 6 * ((A.1 * y + x) % A.1) + (A.1 * y + x) / A.1 = _
        rw [(dvm hx).1, (dvm hx).2]
      · show A.2.2 ((A.1 * y + x) / A.1) ((A.1 * y + x) % A.1) = A.2.2 y x
        rw [(dvm hx).1, (dvm hx).2]
      · show A.2.1 ((A.1 * y + x) / A.1) ((A.1 * y + x) % A.1) = A.2.1 y x
        rw [(dvm hx).1, (dvm hx).2]
    exact hZ M' (hfr_trans (hz4_fr M _) hl.1.1) (LH_stp (hz4_LS hL) hl.1) hB
  · have hd := dvlt hk
    have hLR := hA.1.2 _ _ hd.1 hd.2
    obtain ⟨ed, em⟩ := n_dm (k := k) (n := A.1) (by omega) (by omega) (by omega)
    have hM' := hl.1.2.1
    have hA' : isH M' a A := isH_stp (hz4_isH hA ha) ha hl.1
    have h := h (k % A.1) (k / A.1) rfl (by omega)
    clear hl
    refine z_run (cuts := cu_LW_turns) ok_LW_turns (fun Kz hKz => ?_)
    conv => whnf
    rw [pk_mul, nI_leI (by omega) (by omega)]
    refine ⟨fun q => absurd q (by omega), fun _ => ?_⟩
    conv => whnf
    refine ⟨hz, ?_⟩
    conv => whnf
    rw [ed]
    refine ⟨hz, ?_⟩
    conv => whnf
    rw [em]
    refine h_l (by omega) hM' hA' hd.1 hd.2 ?_
    conv => whnf
    refine h_r (by omega) hM' hA' hd.1 hd.2 ?_
    conv => whnf
    refine ⟨fun _ => ?_, fun z => absurd (by decide) z⟩
    conv => whnf
    refine ⟨fun z => absurd rfl z, fun _ => ?_⟩
    conv => whnf
    refine h_lays (by decide) hM' (by omega) (by omega) (by omega) (by omega) (fun M2 g => ?_)
    conv => whnf
    refine hKz _ _ _ _ ?_
    rw [nI_1']
    exact h M2 g
theorem h_turns2 {a : Nat} {f : Nat} {A : ZP} (ha : a < 4) (hA : isH M a A) (h0 : 0 < A.1) (pf : isP f A.1) (hL : LH M S) (hZ : ∀ M', hfr M M' → LH M' S → isH M' 4 (pren A (dg f) (dgi f A.1)) → Z none M') : Ctr 0 G mi_LW_turns [zr 20 0, zi (nI a), zi (nI 2), zi (nI f)] M Z := by
  have hn := hA.1.1
  have hnn : A.1 * A.1 ≤ 6 * 6 := Nat.mul_le_mul hn hn
  have hz := n_nz (b := A.1) (by omega) (by omega)
  obtain ⟨f1, f2, f3⟩ := isP_facts pf
  have h8 := p8_le hn
  have hf : f < 2 ^ 32 := by have := pf.1.1; omega
  refine go_LW_turns (fun Kz hKz => ?_)
  conv => whnf
  refine h_points (by omega) hA ?_
  conv => whnf
  refine ⟨vp_in_nI (by decide) (by decide), ?_⟩
  conv => whnf
  refine hKz _ _ _ _ ?_
  rw [nI_clamp (by decide), nI_l (by omega)]
  refine h_build (M0 := hz4 A.1 M) (N := A.1 * A.1) (pos := fun k => 6 * dg f (k / A.1) + dg f (k % A.1)) (vl := fun k => dg f (A.2.1 (k / A.1) (k % A.1))) (vr := fun k => dg f (A.2.2 (k / A.1) (k % A.1))) (P := fun k M' => V 0 G mi_LW_turns Z 17 [(0, zr 20 0), (1, zi (nI a)), (2, zi (nI 2)), (3, zi (nI f)), (4, zi (nI A.1)), (5, zi (nI k))] [] M') (hz4_hok hL.1) (fun k hk => ?_) (fun i j hi hj q => ?_) (fun M' hl => ?_) (fun k hk M' hl h => ?_)
  · have hd := dvlt hk
    have := f1 _ hd.1
    have := f1 _ hd.2
    show 6 * dg f (k / A.1) + dg f (k % A.1) < 36
    omega
  · have hd1 := dvlt hi
    have hd2 := dvlt hj
    have b1 := f1 _ hd1.2
    have b2 := f1 _ hd2.2
    have q2 : 6 * dg f (i / A.1) + dg f (i % A.1) = 6 * dg f (j / A.1) + dg f (j % A.1) := q
    have c1 := f2 _ _ hd1.1 hd2.1 (by omega)
    have c2 := f2 _ _ hd1.2 hd2.2 (by omega)
    rw [← Nat.div_add_mod i A.1, ← Nat.div_add_mod j A.1, c1, c2]
  · refine z_run (cuts := cu_LW_turns) ok_LW_turns (fun Kz hKz => ?_)
    conv => whnf
    rw [pk_mul, nI_leI (by omega) (by omega)]
    refine ⟨fun _ => ?_, fun q => absurd (by omega) q⟩
    conv => whnf
    have hB : isH M' 4 (pren A (dg f) (dgi f A.1)) := by
      refine laid_isH hl (pren_wf hA.1 pf) (hz4_at M _) (fun x y hx hy => ?_)
      obtain ⟨x', hx', ex⟩ := f3 x hx
      obtain ⟨y', hy', ey⟩ := f3 y hy
      refine ⟨A.1 * x' + y', prlt hx' hy', ?_, ?_, ?_⟩
      · show 6 * dg f ((A.1 * x' + y') / A.1) + dg f ((A.1 * x' + y') % A.1) = _
        rw [(dvm hy').1, (dvm hy').2, ex, ey]
      · show dg f (A.2.1 ((A.1 * x' + y') / A.1) ((A.1 * x' + y') % A.1)) = dg f (A.2.1 (dgi f A.1 x) (dgi f A.1 y))
        rw [(dvm hy').1, (dvm hy').2, ← ex, ← ey, dgi_of pf hx', dgi_of pf hy']
      · show dg f (A.2.2 ((A.1 * x' + y') / A.1) ((A.1 * x' + y') % A.1)) = dg f (A.2.2 (dgi f A.1 x) (dgi f A.1 y))
        rw [(dvm hy').1, (dvm hy').2, ← ex, ← ey, dgi_of pf hx', dgi_of pf hy']
    exact hZ M' (hfr_trans (hz4_fr M _) hl.1.1) (LH_stp (hz4_LS hL) hl.1) hB
  · have hd := dvlt hk
    have hLR := hA.1.2 _ _ hd.1 hd.2
    obtain ⟨ed, em⟩ := n_dm (k := k) (n := A.1) (by omega) (by omega) (by omega)
    have hM' := hl.1.2.1
    have hA' : isH M' a A := isH_stp (hz4_isH hA ha) ha hl.1
    have b1 := f1 _ hd.1
    have b2 := f1 _ hd.2
    have b3 := f1 _ hLR.1
    have b4 := f1 _ hLR.2
    have h := h (dg f (k / A.1)) (dg f (k % A.1)) rfl (by omega)
    clear hl
    refine z_run (cuts := cu_LW_turns) ok_LW_turns (fun Kz hKz => ?_)
    conv => whnf
    rw [pk_mul, nI_leI (by omega) (by omega)]
    refine ⟨fun q => absurd q (by omega), fun _ => ?_⟩
    conv => whnf
    refine ⟨hz, ?_⟩
    conv => whnf
    rw [ed]
    refine ⟨hz, ?_⟩
    conv => whnf
    rw [em]
    refine h_l (by omega) hM' hA' hd.1 hd.2 ?_
    conv => whnf
    refine h_r (by omega) hM' hA' hd.1 hd.2 ?_
    conv => whnf
    refine ⟨fun _ => ?_, fun z => absurd (by decide) z⟩
    conv => whnf
    refine ⟨fun _ => ?_, fun z => absurd (by decide) z⟩
    conv => whnf
    refine h_digit hf (by omega) ?_
    conv => whnf
    refine h_digit hf (by omega) ?_
    conv => whnf
    refine h_digit hf (by omega) ?_
    conv => whnf
    refine h_digit hf (by omega) ?_
    conv => whnf
    refine h_lays (by decide) hM' (by omega) (by omega) (by omega) (by omega) (fun M2 g => ?_)
    conv => whnf
    refine hKz _ _ _ _ ?_
    rw [nI_1']
    exact h M2 g
theorem h_bijective {m : Nat} {A : ZP} (hm : m < 5) (hM : hok M) (hA : isH M m A) (h1 : pinj A → Z (some (zi (nI 1))) M) (h0 : ¬ pinj A → Z (some (zi (nI 0))) M) : Ctr 0 G mi_LW_bijective [zr 20 0, zi (nI m)] M Z := by
  have hn := hA.1.1
  have hnn : A.1 * A.1 ≤ 6 * 6 := Nat.mul_le_mul hn hn
  have plt : ∀ j, j < A.1 * A.1 → pj A 6 j < 36 := fun j hj => by
    have hd := dvlt hj
    have hLR := hA.1.2 _ _ hd.1 hd.2
    unfold pj
    omega
  have lp : ∀ k, k ≤ A.1 * A.1 → ∀ b : Bool, (b = true ↔ ∀ i j, i < k → j < k → pj A 6 i = pj A 6 j → i = j) → V 0 G mi_LW_bijective Z 14 [(0, zr 20 0), (1, zi (nI m)), (2, zi (nI A.1)), (3, zl (lN (orf (pj A 6) k))), (5, zi (b2i b)), (6, zi (nI k))] [] M := by
    refine up_to ?_ ?_
    · intro b hb
      rw [pj_inj hA.1 hn] at hb
      refine z_run (cuts := cu_LW_bijective) ok_LW_bijective (fun Kz hKz => ?_)
      conv => whnf
      rw [pk_mul, nI_leI (by omega) (by omega)]
      refine ⟨fun _ => ?_, fun q => absurd (by omega) q⟩
      conv => whnf
      cases b with
      | true => exact ⟨Or.inr rfl, h1 (hb.mp rfl)⟩
      | false => exact ⟨Or.inl rfl, h0 (fun z => by have := hb.mpr z; cases this)⟩
    · intro k hk ih b hb
      have hd := dvlt hk
      have hLR := hA.1.2 _ _ hd.1 hd.2
      have hz := n_nz (b := A.1) (by omega) (by omega)
      obtain ⟨ed, em⟩ := n_dm (k := k) (n := A.1) (by omega) (by omega) (by omega)
      have hp := plt k hk
      have hs : orf (pj A 6) k < 2 ^ 36 := orf_lt k (fun i hi => plt i (by omega))
      have ep : 6 * A.2.1 (k / A.1) (k % A.1) + A.2.2 (k / A.1) (k % A.1) = pj A 6 k := rfl
      have hb2 : (2 : Nat) ^ pj A 6 k < 2 ^ 36 := Nat.pow_lt_pow_right (by decide) hp
      have hbit : (orf (pj A 6) k).testBit (pj A 6 k) = false ↔ ∀ i, i < k → pj A 6 i ≠ pj A 6 k := by
        rw [← Bool.not_eq_true, orf_bit]
        exact ⟨fun h i hi e => h ⟨i, hi, e⟩, fun h ⟨i, hi, e⟩ => h i hi e⟩
      have nxt : ∀ d : Bool, (d = true ↔ (b = true ∧ (orf (pj A 6) k).testBit (pj A 6 k) = false)) → (d = true ↔ ∀ i j, i < k + 1 → j < k + 1 → pj A 6 i = pj A 6 j → i = j) := by
        intro d hd2
        rw [hd2, hb, hbit]
        constructor
        · rintro ⟨g1, g2⟩ i j hi hj e
          rcases Nat.lt_succ_iff_lt_or_eq.mp hi with hi | rfl
          · rcases Nat.lt_succ_iff_lt_or_eq.mp hj with hj | rfl
            · exact g1 i j hi hj e
            · exact absurd e (g2 i hi)
          · rcases Nat.lt_succ_iff_lt_or_eq.mp hj with hj | rfl
            · exact absurd e.symm (g2 j hj)
            · rfl
        · intro g
          exact ⟨fun i j hi hj e => g i j (by omega) (by omega) e, fun i hi e => by have := g i k (by omega) (by omega) e; omega⟩
      have ih : ∀ d : Bool, (d = true ↔ (b = true ∧ (orf (pj A 6) k).testBit (pj A 6 k) = false)) → V 0 G mi_LW_bijective Z 14 [(0, zr 20 0), (1, zi (nI m)), (2, zi (nI A.1)), (3, zl (lN (orf (pj A 6) k ||| 2 ^ pj A 6 k))), (5, zi (b2i d)), (6, zi (nI (k + 1)))] [] M := fun d hd2 => ih d (nxt d hd2)
      refine z_run (cuts := cu_LW_bijective) ok_LW_bijective (fun Kz hKz => ?_)
      conv => whnf
      rw [pk_mul, nI_leI (by omega) (by omega)]
      refine ⟨fun q => absurd q (by omega), fun _ => ?_⟩
      conv => whnf
      refine ⟨hz, ?_⟩
      conv => whnf
      refine ⟨hz, ?_⟩
      conv => whnf
      rw [ed, em]
      refine h_l hm hM hA hd.1 hd.2 ?_
      conv => whnf
      refine ⟨hz, ?_⟩
      conv => whnf
      refine ⟨hz, ?_⟩
      conv => whnf
      rw [ed, em]
      refine h_r hm hM hA hd.1 hd.2 ?_
      conv => whnf
      rw [pk_mul, nI_add, ep, l_shl _ _ (by omega), Nat.one_mul]
      cases hb4 : b with
      | false =>
        first | refine ⟨fun _ => ?_, fun q => absurd (by decide) q⟩ | refine ⟨fun q => absurd q (by decide), fun _ => ?_⟩
        conv => whnf
        refine hKz _ _ _ _ ?_
        rw [l_or, nI_1']
        exact ih false (by rw [hb4]; simp)
      | true =>
        first | refine ⟨fun _ => ?_, fun q => absurd (by decide) q⟩ | refine ⟨fun q => absurd q (by decide), fun _ => ?_⟩
        conv => whnf
        rw [l_and, lc_eq, l_eq (Nat.lt_of_le_of_lt Nat.and_le_left (by omega)) (by decide), and_bit]
        refine ⟨fun q => ?_, fun q => ?_⟩
        · conv => whnf
          refine hKz _ _ _ _ ?_
          rw [l_or, nI_1']
          exact ih false (by simp [q])
        · conv => whnf
          refine hKz _ _ _ _ ?_
          rw [l_or, nI_1']
          exact ih true (by simp [hb4, Classical.not_not.mp q])
  refine go_LW_bijective (fun Kz hKz => ?_)
  conv => whnf
  refine h_points hm hA ?_
  conv => whnf
  refine hKz _ _ _ _ ?_
  exact lp 0 (Nat.zero_le _) true ⟨fun _ i j hi _ _ => absurd hi (Nat.not_lt_zero _), fun _ => rfl⟩
end
