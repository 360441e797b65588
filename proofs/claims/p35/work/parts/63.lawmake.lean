/-! the law: groups' and braces' maps, maps side by side and pair by pair, turned maps -/
def gcb (kind n x y : Nat) : Bool := decide (∀ c, c < n → (gp kind n c x = gp kind n x y ↔ c = gp kind n (gp kind n x y) (gi kind n x)))
theorem gcb_all : ∀ kind n, isG kind n → ∀ x, x < n → ∀ y, y < n → gcb kind n x y = true := isG_dec (P := fun kind n => ∀ x, x < n → ∀ y, y < n → gcb kind n x y = true) (by decide +kernel) (by decide +kernel) (by decide +kernel)
section
variable {G : ZG} {M : ZM} {Z : Option ZV → ZM → Prop} {S : ZS}
theorem h_makesG {kind n : Nat} {w : Int32} (hG : isG kind n) (hL : LH M S) (hZ : ∀ M', hfr M M' → LH M' S → isH M' 4 (pgrp kind n) → Z none M') : Ctr 0 G mi_LW_makes [zr 20 0, zi (nI kind), zi (nI n), zi w] M Z := by
  have hn := isG_le hG
  have hk3 : kind < 3 := by rcases hG with h | h | h <;> omega
  have hnn : n * n ≤ 6 * 6 := Nat.mul_le_mul hn.2 hn.2
  have hz := n_nz (b := n) (by omega) (by omega)
  have hwf := pgrp_wf hG
  refine go_LW_makes (fun Kz hKz => ?_)
  conv => whnf
  refine ⟨vp_in_nI (by decide) (by decide), ?_⟩
  conv => whnf
  refine hKz _ _ _ _ ?_
  rw [nI_clamp (by decide), nI_l (by omega)]
  refine h_build (M0 := hz4 n M) (N := n * n) (pos := sp n) (vl := fun k => gp kind n (gp kind n (k / n) (k % n)) (gi kind n (k / n))) (vr := fun k => k / n) (P := fun k M' => V 0 G mi_LW_makes Z 9 [(0, zr 20 0), (1, zi (nI kind)), (2, zi (nI n)), (3, zi w), (4, zi (nI k))] [] M') (hz4_hok hL.1) (fun k hk => sp_lt hn.2 hk) (sp_inj hn.2) (fun M' hl => ?_) (fun k hk M' hl h => ?_)
  · refine z_run (cuts := cu_LW_makes) ok_LW_makes (fun Kz hKz => ?_)
    conv => whnf
    rw [pk_mul, nI_leI (by omega) (by omega)]
    refine ⟨fun _ => ?_, fun q => absurd (by omega) q⟩
    conv => whnf
    exact hZ M' (hfr_trans (hz4_fr M n) hl.1.1) (LH_stp (hz4_LS hL) hl.1) (sp_isH (A := pgrp kind n) hl hwf (hz4_at M n) (fun k hk => ⟨rfl, rfl⟩))
  · have hd := dvlt hk
    obtain ⟨ed, em⟩ := n_dm (k := k) (n := n) (by omega) (by omega) (by omega)
    have hv := (hwf.2 (k / n) (k % n) hd.1 hd.2).1
    have hv : gp kind n (gp kind n (k / n) (k % n)) (gi kind n (k / n)) < n := hv
    have hc := of_decide_eq_true (gcb_all _ _ hG _ hd.1 _ hd.2)
    have hlast := lastc_is (p := fun c => decide (gp kind n c (k / n) = gp kind n (k / n) (k % n))) (d := 0) hv (fun c hc2 => by rw [decide_eq_true_iff]; exact hc c hc2)
    have e2 := h (k / n) (k % n) rfl (by omega)
    clear h
    generalize k / n = x at *
    generalize k % n = y at *
    have inner : ∀ c, c ≤ n → V 0 G mi_LW_makes Z 67 [(0, zr 20 0), (1, zi (nI kind)), (2, zi (nI n)), (3, zi w), (4, zi (nI k)), (5, zi (nI x)), (6, zi (nI y)), (7, zi (nI (lastc (fun c => decide (gp kind n c x = gp kind n x y)) 0 c))), (8, zi (nI x)), (9, zi (nI c))] [] M' := by
      refine up_to ?_ ?_
      · rw [hlast]
        refine z_run (cuts := cu_LW_makes) ok_LW_makes (fun Kz hKz => ?_)
        conv => whnf
        rw [nI_leI (by omega) (by omega)]
        refine ⟨fun _ => ?_, fun q => absurd (by omega) q⟩
        conv => whnf
        refine h_lays (by decide) hl.1.2.1 (by omega) (by omega) (by omega) (by omega) (fun M2 q => ?_)
        conv => whnf
        refine hKz _ _ _ _ ?_
        rw [nI_1']
        exact e2 M2 q
      · intro c hc2 ih
        rw [lastc] at ih
        refine z_run (cuts := cu_LW_makes) ok_LW_makes (fun Kz hKz => ?_)
        conv => whnf
        rw [nI_leI (by omega) (by omega)]
        refine ⟨fun q => absurd q (by omega), fun _ => ?_⟩
        conv => whnf
        rw [n_ne (by omega) (by decide)]
        refine ⟨fun _ => ?_, fun q => absurd (show kind ≠ 3 by omega) q⟩
        conv => whnf
        rw [nI_leI (by omega) (by omega)]
        refine ⟨fun q => absurd q (by omega), fun _ => ?_⟩
        conv => whnf
        refine h_times hG hc2 hd.1 ?_
        conv => whnf
        refine h_times hG hd.1 hd.2 ?_
        conv => whnf
        have g1 := gp_lt _ _ hG c hc2 x hd.1
        have g2 := gp_lt _ _ hG x hd.1 y hd.2
        rw [n_ne (by omega) (by omega)]
        refine ⟨fun q => ?_, fun q => ?_⟩
        · rw [if_neg (by simpa using q)] at ih
          conv => whnf
          refine hKz _ _ _ _ ?_
          rw [nI_1']
          exact ih
        · rw [if_pos (by simpa using q)] at ih
          conv => whnf
          refine hKz _ _ _ _ ?_
          rw [nI_1']
          exact ih
    refine z_run (cuts := cu_LW_makes) ok_LW_makes (fun Kz hKz => ?_)
    conv => whnf
    rw [pk_mul, nI_leI (by omega) (by omega)]
    refine ⟨fun q => absurd q (by omega), fun _ => ?_⟩
    conv => whnf
    refine ⟨hz, ?_⟩
    conv => whnf
    rw [ed]
    refine ⟨hz, ?_⟩
    conv => whnf
    rw [em, n_ne (by omega) (by decide)]
    refine ⟨fun _ => ?_, fun q => absurd (show kind ≠ 3 by omega) q⟩
    conv => whnf
    rw [n_ne (by omega) (by decide)]
    refine ⟨fun _ => ?_, fun q => absurd (show kind ≠ 3 by omega) q⟩
    conv => whnf
    refine hKz _ _ _ _ ?_
    exact inner 0 (Nat.zero_le _)
theorem h_makesB {n u : Nat} (h2 : 2 ≤ n) (h6 : n ≤ 6) (hU : areU n u) (hL : LH M S) (hZ : ∀ M', hfr M M' → LH M' S → isH M' 4 (pbra n u) → Z none M') : Ctr 0 G mi_LW_makes [zr 20 0, zi (nI 3), zi (nI n), zi (nI u)] M Z := by
  have h8 := p8_le h6
  have hu : u < 2 ^ 32 := by have := hU.1; omega
  have hnn : n * n ≤ 6 * 6 := Nat.mul_le_mul h6 h6
  have hz := n_nz (b := n) (by omega) (by omega)
  have hwf := pbra_wf h2 h6 hU
  have hdn : ∀ a, a < n → dg u a < n := fun a ha => (un_iff.mp (hU.2 a ha)).2.1
  refine go_LW_makes (fun Kz hKz => ?_)
  conv => whnf
  refine ⟨vp_in_nI (by decide) (by decide), ?_⟩
  conv => whnf
  refine hKz _ _ _ _ ?_
  rw [nI_clamp (by decide), nI_l (by omega)]
  refine h_build (M0 := hz4 n M) (N := n * n) (pos := sp n) (vl := fun k => dg u (k / n) * (k % n) % n) (vr := fun k => qt n (k / n) (dg u (dg u (k / n) * (k % n) % n))) (P := fun k M' => V 0 G mi_LW_makes Z 9 [(0, zr 20 0), (1, zi (nI 3)), (2, zi (nI n)), (3, zi (nI u)), (4, zi (nI k))] [] M') (hz4_hok hL.1) (fun k hk => sp_lt h6 hk) (sp_inj h6) (fun M' hl => ?_) (fun k hk M' hl h => ?_)
  · refine z_run (cuts := cu_LW_makes) ok_LW_makes (fun Kz hKz => ?_)
    conv => whnf
    rw [pk_mul, nI_leI (by omega) (by omega)]
    refine ⟨fun _ => ?_, fun q => absurd (by omega) q⟩
    conv => whnf
    exact hZ M' (hfr_trans (hz4_fr M n) hl.1.1) (LH_stp (hz4_LS hL) hl.1) (sp_isH (A := pbra n u) hl hwf (hz4_at M n) (fun k hk => ⟨rfl, rfl⟩))
  · have hd := dvlt hk
    have hd1 := hdn _ hd.1
    have hm1 : dg u (k / n) * (k % n) ≤ 6 * 6 := Nat.mul_le_mul (by omega) (by omega)
    have ht1 : dg u (k / n) * (k % n) % n < n := Nat.mod_lt _ (by omega)
    obtain ⟨ed, em⟩ := n_dm (k := k) (n := n) (by omega) (by omega) (by omega)
    have e2 := h (k / n) (k % n) rfl (by omega)
    clear h
    have e2 : ∀ M2, hly 4 (k / n) (k % n) (dg u (k / n) * (k % n) % n) (qt n (k / n) (dg u (dg u (k / n) * (k % n) % n))) M' M2 → _ := e2
    generalize k / n = x at *
    generalize k % n = y at *
    generalize hT : dg u x * y % n = T at *
    have hd2 := hdn T ht1
    obtain ⟨q1, q2, q3⟩ := qt_is n (by omega) h2 (dg u T) hd2 (hU.2 T ht1) x hd.1
    have hlast := lastc_is (p := fun c => decide (dg u T * c % n = x)) (d := 0) q1 (fun c hc2 => by rw [decide_eq_true_iff]; exact ⟨fun z => q3 c hc2 z, fun z => by rw [z]; exact q2⟩)
    have inner : ∀ c, c ≤ n → V 0 G mi_LW_makes Z 67 [(0, zr 20 0), (1, zi (nI 3)), (2, zi (nI n)), (3, zi (nI u)), (4, zi (nI k)), (5, zi (nI x)), (6, zi (nI y)), (7, zi (nI T)), (8, zi (nI (lastc (fun c => decide (dg u T * c % n = x)) 0 c))), (9, zi (nI c))] [] M' := by
      refine up_to ?_ ?_
      · rw [hlast]
        refine z_run (cuts := cu_LW_makes) ok_LW_makes (fun Kz hKz => ?_)
        conv => whnf
        rw [nI_leI (by omega) (by omega)]
        refine ⟨fun _ => ?_, fun q => absurd (by omega) q⟩
        conv => whnf
        refine h_lays (by decide) hl.1.2.1 (by omega) (by omega) (by omega) (by omega) (fun M2 q => ?_)
        conv => whnf
        refine hKz _ _ _ _ ?_
        rw [nI_1']
        exact e2 M2 q
      · intro c hc2 ih
        have hm2 : dg u T * c ≤ 6 * 6 := Nat.mul_le_mul (by omega) (by omega)
        have hr2 : dg u T * c % n < n := Nat.mod_lt _ (by omega)
        rw [lastc] at ih
        refine z_run (cuts := cu_LW_makes) ok_LW_makes (fun Kz hKz => ?_)
        conv => whnf
        rw [nI_leI (by omega) (by omega)]
        refine ⟨fun q => absurd q (by omega), fun _ => ?_⟩
        conv => whnf
        refine ⟨fun q => absurd rfl q, fun _ => ?_⟩
        conv => whnf
        refine h_digit hu (by omega) ?_
        conv => whnf
        rw [pk_mul]
        refine ⟨hz, ?_⟩
        conv => whnf
        rw [n_mod (by omega) (by omega) (by omega), n_ne (by omega) (by omega)]
        refine ⟨fun q => ?_, fun q => ?_⟩
        · rw [if_neg (by simpa using q)] at ih
          conv => whnf
          rw [nI_leI (by decide) (by decide)]
          first | refine ⟨fun _ => ?_, fun q => absurd (by decide) q⟩ | refine ⟨fun q => absurd q (by decide), fun _ => ?_⟩
          conv => whnf
          refine hKz _ _ _ _ ?_
          rw [nI_1']
          exact ih
        · rw [if_pos (by simpa using q)] at ih
          conv => whnf
          rw [nI_leI (by decide) (by decide)]
          first | refine ⟨fun _ => ?_, fun q => absurd (by decide) q⟩ | refine ⟨fun q => absurd q (by decide), fun _ => ?_⟩
          conv => whnf
          refine hKz _ _ _ _ ?_
          rw [nI_1']
          exact ih
    refine z_run (cuts := cu_LW_makes) ok_LW_makes (fun Kz hKz => ?_)
    conv => whnf
    rw [pk_mul, nI_leI (by omega) (by omega)]
    refine ⟨fun q => absurd q (by omega), fun _ => ?_⟩
    conv => whnf
    refine ⟨hz, ?_⟩
    conv => whnf
    rw [ed]
    refine ⟨hz, ?_⟩
    conv => whnf
    rw [em]
    refine ⟨fun q => absurd rfl q, fun _ => ?_⟩
    conv => whnf
    refine h_digit hu (by omega) ?_
    conv => whnf
    rw [pk_mul]
    refine ⟨hz, ?_⟩
    conv => whnf
    rw [n_mod (by omega) (by omega) (by omega), hT]
    refine ⟨fun q => absurd rfl q, fun _ => ?_⟩
    conv => whnf
    refine hKz _ _ _ _ ?_
    exact inner 0 (Nat.zero_le _)
end
