/-! a map is like the listed map whose rows are its least ones -/
theorem nIso_pos {A B : ZP} {k : Nat} : 0 < nIso A B k ↔ ∃ j, j < k ∧ isoB A B (pw A.1 j) = true := by
  constructor
  · intro h
    obtain ⟨i, h1, h2, _⟩ := cnt_surj k h
    exact ⟨i, h1, h2⟩
  · rintro ⟨j, h1, h2⟩
    exact Nat.lt_of_le_of_lt (Nat.zero_le _) (cnt_step h2 h1)
theorem list_to {A : ZP} (hA : pwf A) (h1 : 1 ≤ A.1) (h4 : A.1 ≤ 4) {i : Nat} (hi : i < sz A.1) (h : 0 < nIso A (plist A.1 i) (fac A.1)) : pinvo A ∧ plnd A ∧ (∀ j, j < fac A.1 → rwn A.1 i ≤ rr A (pw A.1 j)) ∧ ∃ j, j < fac A.1 ∧ rr A (pw A.1 j) = rwn A.1 i := by
  obtain ⟨j, hj, hiso⟩ := nIso_pos.mp h
  obtain ⟨c1, c2, c3, c4, c5⟩ := ck_of h1 h4 hi
  have hwB := plist_wf h1 h4 hi
  have hw := (pw_wp h1 h4 hj).1
  generalize hB : plist A.1 i = B at *
  have hAB : A.1 = B.1 := by rw [← hB]; rfl
  have hs := isoB_iff.mp hiso
  have hlB := (plnd_inj hwB).mp c2
  refine ⟨fun x y hx hy => ?_, (plnd_inj hA).mpr fun x hx a b ha hb e => ?_, fun j' hj' => ?_, ⟨j, hj, ?_⟩⟩
  · have hLR := hA.2 x y hx hy
    have hLL := hA.2 _ _ hLR.1 hLR.2
    have e1 := hs x hx y hy
    have e2 := hs _ hLR.1 _ hLR.2
    have e3 := c1 _ _ (show gw (pw A.1 j) x < B.1 by rw [← hAB]; exact hw.1.2 x hx) (show gw (pw A.1 j) y < B.1 by rw [← hAB]; exact hw.1.2 y hy)
    rw [e1.1, e1.2] at e3
    exact ⟨hw.2 _ _ hLL.1 hx (e2.1.symm.trans e3.1), hw.2 _ _ hLL.2 hy (e2.2.symm.trans e3.2)⟩
  · have e1 := (hs x hx a ha).1
    have e2 := (hs x hx b hb).1
    exact hw.2 _ _ ha hb (hlB _ (by rw [← hAB]; exact hw.1.2 x hx) _ _ (by rw [← hAB]; exact hw.1.2 a ha) (by rw [← hAB]; exact hw.1.2 b hb) (by rw [e1, e2, e]))
  · have hv := (pw_wp h1 h4 hj').1
    have hf : ∀ x, x < A.1 → fnd (fun z => decide (gw (pw A.1 j) z = gw (pw A.1 j) x)) A.1 = x := fun x hx => fnd_eq hx (decide_eq_true rfl) (fun z hz => decide_eq_false (fun e => by have := hw.2 z x (by omega) hx e; omega))
    have hu : ∀ p, p < A.1 → gw ((List.range A.1).map fun p => gw (pw A.1 j') (fnd (fun z => decide (gw (pw A.1 j) z = p)) A.1)) p = gw (pw A.1 j') (fnd (fun z => decide (gw (pw A.1 j) z = p)) A.1) := fun p hp => by
      rw [gw_map (by rw [List.length_range]; exact hp)]
      simp [gw, hp]
    have hux : ∀ x, x < A.1 → gw ((List.range A.1).map fun p => gw (pw A.1 j') (fnd (fun z => decide (gw (pw A.1 j) z = p)) A.1)) (gw (pw A.1 j) x) = gw (pw A.1 j') x := fun x hx => by
      rw [hu _ (hw.1.2 x hx), hf x hx]
    have hwu : wp ((List.range A.1).map fun p => gw (pw A.1 j') (fnd (fun z => decide (gw (pw A.1 j) z = p)) A.1)) A.1 := by
      refine ⟨⟨by rw [List.length_map, List.length_range], fun p hp => ?_⟩, fun p q hp hq e => ?_⟩
      · obtain ⟨x, hx, ex⟩ := inj_surj hw.1.2 hw.2 p hp
        rw [← ex, hux x hx]
        exact hv.1.2 x hx
      · obtain ⟨x, hx, ex⟩ := inj_surj hw.1.2 hw.2 p hp
        obtain ⟨y, hy, ey⟩ := inj_surj hw.1.2 hw.2 q hq
        rw [← ex, ← ey, hux x hx, hux y hy] at e
        rw [← ex, ← ey, hv.2 x y hx hy e]
    obtain ⟨j2, hj2, e2⟩ := pw_full h1 h4 hwu
    have := c4 j2 hj2
    rw [e2] at this
    rw [rr_iso hA hAB hw hiso (fun x hx => (hux x hx).symm)]
    exact this
  · rw [← c3]
    exact rr_iso hA hAB hw hiso (fun x hx => by have := hw.1.2 x hx; simp [gw] at this ⊢; simp [this])
theorem list_of {A : ZP} (hA : pwf A) (h1 : 1 ≤ A.1) (h4 : A.1 ≤ 4) {i : Nat} (hi : i < sz A.1) (hv : pinvo A) (hl : plnd A) (h : ∃ j, j < fac A.1 ∧ rr A (pw A.1 j) = rwn A.1 i) : 0 < nIso A (plist A.1 i) (fac A.1) := by
  obtain ⟨j, hj, he⟩ := h
  obtain ⟨c1, c2, c3, c4, c5⟩ := ck_of h1 h4 hi
  have hwB := plist_wf h1 h4 hi
  have hw := (pw_wp h1 h4 hj).1
  have hid := wp_id A.1
  have hg : ∀ x, x < A.1 → gw (List.range A.1) x = x := fun x hx => by simp [gw, hx]
  have hL : ∀ x y, x < A.1 → y < A.1 → (plist A.1 i).2.1 (gw (pw A.1 j) x) (gw (pw A.1 j) y) = gw (pw A.1 j) (A.2.1 x y) := by
    intro x y hx hy
    have d1 := rr_dig hA hw hx hy
    have d2 := rr_dig (A := plist A.1 i) hwB (w := List.range A.1) hid (hw.1.2 x hx) (hw.1.2 y hy)
    have hb := (hwB.2 _ _ (hw.1.2 x hx) (hw.1.2 y hy)).1
    rw [he, ← c3] at d1
    rw [hg _ (hw.1.2 x hx), hg _ (hw.1.2 y hy), hg _ hb] at d2
    exact d2.symm.trans d1
  refine nIso_pos.mpr ⟨j, hj, isoB_iff.mpr fun x hx y hy => ⟨hL x y hx hy, ?_⟩⟩
  have hLR := hA.2 x y hx hy
  show fnd (fun c => decide ((plist A.1 i).2.1 ((plist A.1 i).2.1 (gw (pw A.1 j) x) (gw (pw A.1 j) y)) c = gw (pw A.1 j) x)) A.1 = _
  have e0 : (plist A.1 i).2.1 (gw (pw A.1 j) (A.2.1 x y)) (gw (pw A.1 j) (A.2.2 x y)) = gw (pw A.1 j) x := by
    rw [hL _ _ hLR.1 hLR.2, (hv x y hx hy).1]
  rw [hL x y hx hy]
  refine fnd_eq (hw.1.2 _ hLR.2) (decide_eq_true e0) (fun c hc => decide_eq_false fun e => ?_)
  have hcn : c < A.1 := Nat.lt_trans hc (hw.1.2 _ hLR.2)
  have := (plnd_inj hwB).mp c2 _ (hw.1.2 _ hLR.1) c _ hcn (hw.1.2 _ hLR.2) (e.trans e0.symm)
  omega
/-- the least of the rows -/
def mnR (A : ZP) : Nat → Nat
  | 0 => 2 ^ 63 - 1
  | k + 1 => if rr A (pw A.1 k) < mnR A k then rr A (pw A.1 k) else mnR A k
theorem mnR_le (A : ZP) : ∀ k, mnR A k ≤ 2 ^ 63 - 1 ∧ ∀ j, j < k → mnR A k ≤ rr A (pw A.1 j) := by
  intro k
  induction k with
  | zero => exact ⟨Nat.le_refl _, fun j hj => absurd hj (Nat.not_lt_zero _)⟩
  | succ k ih =>
    rw [mnR]
    by_cases q : rr A (pw A.1 k) < mnR A k
    · rw [if_pos q]
      refine ⟨by omega, fun j hj => ?_⟩
      rcases Nat.lt_succ_iff_lt_or_eq.mp hj with hj | rfl
      · have := ih.2 j hj; omega
      · exact Nat.le_refl _
    · rw [if_neg q]
      refine ⟨ih.1, fun j hj => ?_⟩
      rcases Nat.lt_succ_iff_lt_or_eq.mp hj with hj | rfl
      · exact ih.2 j hj
      · omega
theorem mnR_at (A : ZP) : ∀ k, mnR A k = 2 ^ 63 - 1 ∨ ∃ j, j < k ∧ rr A (pw A.1 j) = mnR A k := by
  intro k
  induction k with
  | zero => exact Or.inl rfl
  | succ k ih =>
    rw [mnR]
    by_cases q : rr A (pw A.1 k) < mnR A k
    · rw [if_pos q]
      exact Or.inr ⟨k, by omega, rfl⟩
    · rw [if_neg q]
      rcases ih with h | ⟨j, h1, h2⟩
      · exact Or.inl h
      · exact Or.inr ⟨j, by omega, h2⟩
theorem list_iff {A : ZP} (hA : pwf A) (h1 : 1 ≤ A.1) (h4 : A.1 ≤ 4) {i : Nat} (hi : i < sz A.1) (hv : pinvo A) (hl : plnd A) : rwn A.1 i = mnR A (fac A.1) ↔ 0 < nIso A (plist A.1 i) (fac A.1) := by
  have hs := st0_sz A.1 h4 h1
  have hr := rowN_lt (st0 A.1 + i) (by omega)
  constructor
  · intro e
    refine list_of hA h1 h4 hi hv hl ?_
    rcases mnR_at A (fac A.1) with h | ⟨j, g1, g2⟩
    · rw [← e] at h
      unfold rwn at h
      omega
    · exact ⟨j, g1, g2.trans e.symm⟩
  · intro h
    obtain ⟨_, _, g1, ⟨j, g2, g3⟩⟩ := list_to hA h1 h4 hi h
    have g4 := (mnR_le A (fac A.1)).2 j g2
    rcases mnR_at A (fac A.1) with h | ⟨j2, y1, y2⟩
    · have g5 := (mnR_le A (fac A.1)).1
      unfold rwn at g3 ⊢
      omega
    · have := g1 j2 y1
      omega
theorem l_ti {a : Nat} (h : a < 2 ^ 63) : (lN a).toInt = a := by
  show (BitVec.ofNat 64 a).toInt = _
  rw [BitVec.toInt_eq_toNat_cond, BitVec.toNat_ofNat, Nat.mod_eq_of_lt (by omega)]
  split <;> omega
theorem l_lt {a b : Nat} (ha : a < 2 ^ 63) (hb : b < 2 ^ 63) : lN a < lN b ↔ a < b := by
  rw [Int64.lt_iff_toInt_lt, l_ti ha, l_ti hb]
  omega
section
variable {G : ZG} {M : ZM} {Z : Option ZV → ZM → Prop} {S : ZS}
theorem s_RN_renamedRows {k : Nat} {A : ZP} {w : List Nat} (hk : k < 10) (h4 : A.1 ≤ 4) (hA : isPM M k A) (hw : isW M w) (hv : wp w A.1) (hZ : Z (some (zl (lN (rr A w)))) M) : Ctr 0 G mi_RN_renamedRows [zr 11 0, zr 0 k] M Z := by
  have rd : ∀ x, x < A.1 → M.1 12 0 x = nI (gw w x) := fun x hx => hw x (by rw [hv.1.1]; exact hx)
  have hnn : A.1 * A.1 ≤ 4 * 4 := Nat.mul_le_mul h4 h4
  refine go_RN_renamedRows (fun Kz hKz => ?_)
  conv => whnf
  refine ⟨hk, ?_⟩
  refine s_PM_points hk ?_
  rw [hA.2.1]
  conv => whnf
  refine hKz _ _ _ _ ?_
  refine rloop (n := A.1) (m := A.1) (O := fun x => ∀ v, v = ora (rrt A w) (A.1 * x) → V 0 G mi_RN_renamedRows Z 10 [(0, zr 11 0), (1, zr 0 k), (2, zi (nI A.1)), (3, zl (lN v)), (5, zi (nI x))] [] M) (I := fun x y => V 0 G mi_RN_renamedRows Z 19 [(0, zr 11 0), (1, zr 0 k), (2, zi (nI A.1)), (3, zl (lN (ora (rrt A w) (A.1 * x + y)))), (5, zi (nI x)), (6, zi (nI y))] [] M) (fun v hv2 => ?_) (fun x hx h v hv2 => ?_) (fun x hx h => ?_) (fun x y hx hy h => ?_) 0 rfl
  · refine z_run (cuts := cu_RN_renamedRows) ok_RN_renamedRows (fun Kz hKz => ?_)
    conv => whnf
    rw [nI_leI (by omega) (by omega)]
    refine ⟨fun _ => ?_, fun q => absurd (Nat.le_refl _) q⟩
    conv => whnf
    rw [hv2]
    exact hZ
  · refine z_run (cuts := cu_RN_renamedRows) ok_RN_renamedRows (fun Kz hKz => ?_)
    conv => whnf
    rw [nI_leI (by omega) (by omega)]
    refine ⟨fun q => absurd q (by omega), fun _ => ?_⟩
    conv => whnf
    refine hKz _ _ _ _ ?_
    rw [hv2]
    exact h
  · refine z_run (cuts := cu_RN_renamedRows) ok_RN_renamedRows (fun Kz hKz => ?_)
    conv => whnf
    rw [nI_leI (by omega) (by omega)]
    refine ⟨fun _ => ?_, fun q => absurd (Nat.le_refl _) q⟩
    conv => whnf
    refine hKz _ _ _ _ ?_
    rw [nI_1']
    exact h _ (by rw [Nat.mul_succ])
  · have hLR := hA.1.2 x y hx hy
    have v1 := hv.1.2 x hx
    have v2 := hv.1.2 y hy
    have v3 := hv.1.2 _ hLR.1
    have hp := prlt v1 v2
    refine z_run (cuts := cu_RN_renamedRows) ok_RN_renamedRows (fun Kz hKz => ?_)
    conv => whnf
    rw [nI_leI (by omega) (by omega)]
    refine ⟨fun q => absurd q (by omega), fun _ => ?_⟩
    conv => whnf
    refine s_RN_imageOf (by omega) ?_
    rw [rd x hx]
    conv => whnf
    refine s_RN_imageOf (by omega) ?_
    rw [rd y hy]
    conv => whnf
    refine ⟨hk, ?_⟩
    refine s_PM_left hk hA hx hy ?_
    conv => whnf
    refine s_RN_imageOf (by omega) ?_
    rw [rd _ hLR.1]
    conv => whnf
    rw [pk_mul, nI_add, Nat.mul_comm (gw w x) A.1]
    refine s_SL_shiftOf (by omega) hp ?_
    conv => whnf
    refine hKz _ _ _ _ ?_
    have e := rrt_at (A := A) (w := w) (x := x) hy
    rw [nI_l (by omega), l_shl _ _ (by omega), l_or, nI_1', ← e]
    exact h
def mqR (A : ZP) (k : Nat) : Nat := min (mnR A k) (rr A (pw A.1 0))
theorem mqR_0 {A : ZP} (h : rr A (pw A.1 0) < 2 ^ 63) : mqR A 0 = rr A (pw A.1 0) := by
  show min (2 ^ 63 - 1) _ = _
  omega
theorem mqR_succ (A : ZP) (k : Nat) : mqR A (k + 1) = if rr A (pw A.1 k) < mqR A k then rr A (pw A.1 k) else mqR A k := by
  unfold mqR
  rw [mnR]
  by_cases q : rr A (pw A.1 k) < mnR A k
  · rw [if_pos q]
    split <;> omega
  · rw [if_neg q, if_neg (fun z => q (by omega))]
theorem mqR_le (A : ZP) (k : Nat) : mqR A k ≤ 2 ^ 63 - 1 := Nat.le_trans (Nat.min_le_left _ _) (mnR_le A k).1
theorem fac_ps : ∀ n, n ≤ 4 → 0 < fac n := by decide
theorem mqR_fac {A : ZP} (h1 : 1 ≤ A.1) (h4 : A.1 ≤ 4) : mqR A (fac A.1) = mnR A (fac A.1) := Nat.min_eq_left ((mnR_le A (fac A.1)).2 0 (fac_ps A.1 h4))
theorem s_RN_smallestRows {k : Nat} {A : ZP} (hk : k < 10) (h1 : 1 ≤ A.1) (h4 : A.1 ≤ 4) (hA : isPM M k A) (hZ : ∀ M', zsm rnS M M' → Z (some (zl (lN (mnR A (fac A.1))))) M') : Ctr 0 G mi_RN_smallestRows [zr 11 0, zr 0 k] M Z := by
  have hf := fac_le A.1 (by omega)
  have lp : ∀ i, i ≤ fac A.1 → ∀ M', zsm rnS M M' → isW M' (pw A.1 i) → V 0 G mi_RN_smallestRows Z 21 [(0, zr 11 0), (1, zr 0 k), (2, zi (nI A.1)), (3, zl (lN (mqR A i))), (5, zi (nI (fac A.1 - i)))] [] M' := by
    refine up_to ?_ ?_
    · intro M' g1 g2
      refine z_run (cuts := cu_RN_smallestRows) ok_RN_smallestRows (fun Kz hKz => ?_)
      conv => whnf
      rw [Nat.sub_self, nI_leI (by omega) (by omega)]
      refine ⟨fun _ => ?_, fun q => absurd (Nat.le_refl _) q⟩
      conv => whnf
      rw [mqR_fac h1 h4]
      exact hZ M' g1
    · intro i hi ih M' g1 g2
      obtain ⟨d, hd⟩ : ∃ d, fac A.1 - i = d + 1 := ⟨fac A.1 - i - 1, by omega⟩
      have hd2 : fac A.1 - (i + 1) = d := by omega
      have hv := (pw_wp h1 h4 hi).1
      have b1 := rr_lt h4 hA.1 hv.1
      have b2 := mqR_le A i
      refine z_run (cuts := cu_RN_smallestRows) ok_RN_smallestRows (fun Kz hKz => ?_)
      conv => whnf
      rw [nI_leI (by omega) (by omega)]
      refine ⟨fun q => absurd q (by omega), fun _ => ?_⟩
      conv => whnf
      refine s_RN_renamedRows hk h4 (isPM_rn hA g1) g2 hv ?_
      conv => whnf
      refine s_RN_step hv.1.1 h1 (by omega) (wv_lt hv.1 (by omega)) g2 (fun M2 g3 g4 => ?_)
      conv => whnf
      refine hKz _ _ _ _ ?_
      rw [hd, pk_m1, ← hd2]
      have e : (if lN (rr A (pw A.1 i)) < lN (mqR A i) then lN (rr A (pw A.1 i)) else lN (mqR A i)) = lN (mqR A (i + 1)) := by
        rw [mqR_succ]
        by_cases q : rr A (pw A.1 i) < mqR A i
        · rw [if_pos q, if_pos ((l_lt b1 (by omega)).mpr q)]
        · rw [if_neg q, if_neg (fun z => q ((l_lt b1 (by omega)).mp z))]
      rw [e]
      exact ih M2 (zsm_trans g1 g3) g4
  refine go_RN_smallestRows (fun Kz hKz => ?_)
  conv => whnf
  refine ⟨hk, ?_⟩
  refine s_PM_points hk ?_
  rw [hA.2.1]
  conv => whnf
  refine s_RN_start (fun M1 g1 g2 => ?_)
  conv => whnf
  have hv0 := (pw_wp h1 h4 (show 0 < fac A.1 from fac_ps A.1 h4)).1
  refine s_RN_renamedRows hk h4 (isPM_rn hA g1) (g2 A.1 (by omega)) hv0 ?_
  conv => whnf
  refine s_RN_permutations h1 (by omega) ?_
  conv => whnf
  refine hKz _ _ _ _ ?_
  rw [show rr A (List.range A.1) = mqR A 0 from (mqR_0 (rr_lt h4 hA.1 hv0.1)).symm]
  exact lp 0 (Nat.zero_le _) M1 g1 (g2 A.1 (by omega))
theorem s_SL_indexOf {k : Nat} {A : ZP} (hk : k < 10) (h1 : 1 ≤ A.1) (hA : isPM M k A) (hi : A.1 ≤ 4 → ∀ i, i < sz A.1 → 0 < nIso A (plist A.1 i) (fac A.1) → (∀ j, j < i → ¬ 0 < nIso A (plist A.1 j) (fac A.1)) → ∀ M', zsm rnS M M' → Z (some (zi (nI i))) M') (h0 : (A.1 ≤ 4 → ∀ i, i < sz A.1 → ¬ 0 < nIso A (plist A.1 i) (fac A.1)) → ∀ M', zsm rnS M M' → Z (some (zi (-1))) M') : Ctr 0 G mi_SL_indexOf [zr 0 k, zr 11 0] M Z := by
  have hn := hA.1.1
  refine go_SL_indexOf (fun Kz hKz => ?_)
  conv => whnf
  refine ⟨hk, ?_⟩
  refine s_PM_points hk ?_
  rw [hA.2.1]
  conv => whnf
  refine s_SL_hasPoints (by omega) (fun _ h4 => ?_) (fun h4 => ?_)
  · have hs := st0_sz A.1 h4 h1
    conv => whnf
    first | refine ⟨fun _ => ?_, fun q => absurd (by decide) q⟩ | refine ⟨fun q => absurd q (by decide), fun _ => ?_⟩
    conv => whnf
    refine s_CH_isInvolutive hk hA (fun hv => ?_) (fun hv => ?_)
    · conv => whnf
      first | refine ⟨fun _ => ?_, fun q => absurd (by decide) q⟩ | refine ⟨fun q => absurd q (by decide), fun _ => ?_⟩
      conv => whnf
      refine s_CH_isLeftNondegenerate hk hA (fun hl => ?_) (fun hl => ?_)
      · conv => whnf
        first | refine ⟨fun _ => ?_, fun q => absurd (by decide) q⟩ | refine ⟨fun q => absurd q (by decide), fun _ => ?_⟩
        conv => whnf
        refine s_RN_smallestRows hk h1 h4 hA (fun M1 g1 => ?_)
        conv => whnf
        refine hKz _ _ _ _ ?_
        have b2 := (mnR_le A (fac A.1)).1
        have lp : ∀ i, i ≤ sz A.1 → (∀ j, j < i → ¬ 0 < nIso A (plist A.1 j) (fac A.1)) → V 0 G mi_SL_indexOf Z 37 [(2, zi (nI A.1)), (3, zl (lN (mnR A (fac A.1)))), (5, zi (nI i))] [] M1 := by
          refine up_to ?_ ?_
          · intro hno
            refine z_run (cuts := cu_SL_indexOf) ok_SL_indexOf (fun Kz hKz => ?_)
            conv => whnf
            refine s_SL_size h1 h4 ?_
            conv => whnf
            rw [nI_leI (by omega) (by omega)]
            refine ⟨fun _ => ?_, fun q => absurd (Nat.le_refl _) q⟩
            conv => whnf
            exact h0 (fun _ => hno) M1 g1
          · intro i hi2 ih hno
            have hr := rowN_lt (st0 A.1 + i) (by omega)
            have hlif := list_iff hA.1 h1 h4 hi2 hv hl
            refine z_run (cuts := cu_SL_indexOf) ok_SL_indexOf (fun Kz hKz => ?_)
            conv => whnf
            refine s_SL_size h1 h4 ?_
            conv => whnf
            rw [nI_leI (by omega) (by omega)]
            refine ⟨fun q => absurd q (by omega), fun _ => ?_⟩
            conv => whnf
            refine s_SL_rowsAt h1 h4 hi2 ?_
            conv => whnf
            rw [lc_eq, l_eq (by unfold rwn; omega) (by omega), hlif]
            refine ⟨fun q => ?_, fun q => ?_⟩
            · conv => whnf
              refine hKz _ _ _ _ ?_
              rw [nI_1']
              refine ih (fun j hj => ?_)
              rcases Nat.lt_succ_iff_lt_or_eq.mp hj with hj | rfl
              · exact hno j hj
              · exact q
            · conv => whnf
              exact hi h4 i hi2 (Classical.not_not.mp q) hno M1 g1
        exact lp 0 (Nat.zero_le _) (fun j hj => absurd hj (Nat.not_lt_zero _))
      · conv => whnf
        first | refine ⟨fun _ => ?_, fun q => absurd (by decide) q⟩ | refine ⟨fun q => absurd q (by decide), fun _ => ?_⟩
        conv => whnf
        exact h0 (fun _ i hi2 h => hl (list_to hA.1 h1 h4 hi2 h).2.1) M (zsm_refl _ _)
    · conv => whnf
      first | refine ⟨fun _ => ?_, fun q => absurd (by decide) q⟩ | refine ⟨fun q => absurd q (by decide), fun _ => ?_⟩
      conv => whnf
      exact h0 (fun _ i hi2 h => hv (list_to hA.1 h1 h4 hi2 h).1) M (zsm_refl _ _)
  · conv => whnf
    first | refine ⟨fun _ => ?_, fun q => absurd (by decide) q⟩ | refine ⟨fun q => absurd q (by decide), fun _ => ?_⟩
    conv => whnf
    exact h0 (fun q => absurd ⟨h1, q⟩ h4) M (zsm_refl _ _)
end
