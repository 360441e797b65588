/-! the reference: twist, mirror, rename, drop, cell, put -/
section
variable {G : ZG} {M : ZM} {Z : Option ZV → ZM → Prop} {S : ZS}
theorem r_twist {to n f g : Nat} (hto : to < 2 ^ 32) (hn : n < 2 ^ 32) (hf : f < 2 ^ 32) (hg : g < 2 ^ 32) (hR : RS M S) (h1 : ¬ to < 4 → Z (some (zi (-1000001))) M) (h2 : to < 4 → ¬ ((1 ≤ n ∧ n ≤ 6) ∧ isP f n ∧ isP g n) → Z (some (zi (-1000002))) M) (h3 : to < 4 → 1 ≤ n → n ≤ 6 → isP f n → isP g n → ∀ M', RS M' (upS S to (ptwist n f g)) → rsm M M' → Z (some (zi (nI n))) M') : Ctr 0 G mi_R_twist [zr 20 0, zi (nI to), zi (nI n), zi (nI f), zi (nI g)] M Z := by
  refine go_R_twist (fun Kz hKz => ?_)
  conv => whnf
  refine s_R_isPlace hto (fun e1 => ?_) (fun e1 => ?_)
  · conv => whnf
    first | refine ⟨fun _ => ?_, fun q => absurd (by decide) q⟩ | refine ⟨fun q => absurd q (by decide), fun _ => ?_⟩
    conv => whnf
    refine s_R_in hn (by decide) (by decide) (fun e2 e3 _ => ?_) (fun e2 => ?_)
    · conv => whnf
      first | refine ⟨fun _ => ?_, fun q => absurd (by decide) q⟩ | refine ⟨fun q => absurd q (by decide), fun _ => ?_⟩
      conv => whnf
      refine s_R_isPermutation hf e3 (fun pf => ?_) (fun pf => ?_)
      · conv => whnf
        first | refine ⟨fun _ => ?_, fun q => absurd (by decide) q⟩ | refine ⟨fun q => absurd q (by decide), fun _ => ?_⟩
        conv => whnf
        refine s_R_isPermutation hg e3 (fun pg => ?_) (fun pg => ?_)
        · have hwf : pwf (ptwist n f g) := ptwist_wf e3 pf pg
          have hnn : n * n ≤ 6 * 6 := Nat.mul_le_mul e3 e3
          have hz := n_nz (b := n) (by omega) (by omega)
          conv => whnf
          first | refine ⟨fun _ => ?_, fun q => absurd (by decide) q⟩ | refine ⟨fun q => absurd q (by decide), fun _ => ?_⟩
          conv => whnf
          refine ⟨vp_in_nI (by decide) (by decide), ?_⟩
          conv => whnf
          refine hKz _ _ _ _ ?_
          rw [nI_clamp (by omega)]
          refine r_build (m := 4) (N := n * n) (pos := sp n) (vl := fun k => dg f (k % n)) (vr := fun k => dg g (k / n)) (P := fun k M' => V 0 G mi_R_twist Z 52 [(0, zr 20 0), (1, zi (nI to)), (2, zi (nI n)), (3, zi (nI f)), (4, zi (nI g)), (5, zi (nI k))] [] M') (fun k hk => sp_lt e3 hk) (sp_inj e3) (fun M' hl => ?_) (fun k hk M' hl h => ?_)
          · have hB : isRM M' 4 (ptwist n f g) := sp_isRM (A := ptwist n f g) hl hwf zset_eq (fun k hk => ⟨rfl, rfl⟩)
            have g0 : rf (rgm 4) M M' := rf_trans (rf_set (Or.inl ⟨rfl, rfl⟩)) (laid_gm hl)
            refine z_run (cuts := cu_R_twist) ok_R_twist (fun Kz hKz => ?_)
            conv => whnf
            rw [pk_mul, nI_leI (by omega) (by omega)]
            refine ⟨fun _ => ?_, fun q => absurd (by omega) q⟩
            conv => whnf
            refine s_R_comes e1 hB (fun M2 g1 g2 => ?_)
            conv => whnf
            exact h3 e1 e2 e3 pf pg M2 (RS_put (RS_rf hR g0 (rgm_no (by decide))) e1 g1 g2) (rsm_trans (rsm_gm g0) (rsm_gm g1))
          · have hd := dvlt hk
            obtain ⟨ed, em⟩ := n_dm (k := k) (n := n) (by omega) (by omega) (by omega)
            refine z_run (cuts := cu_R_twist) ok_R_twist (fun Kz hKz => ?_)
            conv => whnf
            rw [pk_mul, nI_leI (by omega) (by omega)]
            refine ⟨fun q => absurd q (by omega), fun _ => ?_⟩
            conv => whnf
            refine ⟨hz, ?_⟩
            conv => whnf
            refine ⟨hz, ?_⟩
            conv => whnf
            refine ⟨hz, ?_⟩
            conv => whnf
            rw [ed, em]
            refine s_R_digit hf (by omega) ?_
            conv => whnf
            refine ⟨hz, ?_⟩
            conv => whnf
            rw [ed]
            refine s_R_digit hg (by omega) ?_
            conv => whnf
            refine s_R_lay (by decide) (by omega) (by omega) ?_
            conv => whnf
            refine hKz _ _ _ _ ?_
            rw [nI_1']
            exact h
        · conv => whnf
          first | refine ⟨fun _ => ?_, fun q => absurd (by decide) q⟩ | refine ⟨fun q => absurd q (by decide), fun _ => ?_⟩
          conv => whnf
          exact h2 e1 (fun q => pg q.2.2)
      · conv => whnf
        first | refine ⟨fun _ => ?_, fun q => absurd (by decide) q⟩ | refine ⟨fun q => absurd q (by decide), fun _ => ?_⟩
        conv => whnf
        exact h2 e1 (fun q => pf q.2.1)
    · conv => whnf
      first | refine ⟨fun _ => ?_, fun q => absurd (by decide) q⟩ | refine ⟨fun q => absurd q (by decide), fun _ => ?_⟩
      conv => whnf
      exact h2 e1 (fun q => e2 ⟨q.1.1, q.1.2, by omega⟩)
  · conv => whnf
    first | refine ⟨fun _ => ?_, fun q => absurd (by decide) q⟩ | refine ⟨fun q => absurd q (by decide), fun _ => ?_⟩
    conv => whnf
    exact h1 e1
theorem r_mirror {a to : Nat} (ha : a < 2 ^ 32) (hto : to < 2 ^ 32) (hR : RS M S) (h1 : (plA S a).1 = 0 ∨ ¬ to < 4 → Z (some (zi (-1000001))) M) (h3 : ¬ (plA S a).1 = 0 → to < 4 → ∀ M', RS M' (upS S to (pmir (plA S a))) → rsm M M' → Z (some (zi (nI (plA S a).1))) M') : Ctr 0 G mi_R_mirror [zr 20 0, zi (nI a), zi (nI to)] M Z := by
  refine go_R_mirror (fun Kz hKz => ?_)
  conv => whnf
  refine s_R_isMap ha hR (fun e => ?_) (fun e => ?_)
  · conv => whnf
    first | refine ⟨fun _ => ?_, fun q => absurd (by decide) q⟩ | refine ⟨fun q => absurd q (by decide), fun _ => ?_⟩
    conv => whnf
    refine s_R_isPlace hto (fun e1 => ?_) (fun e1 => ?_)
    · have hA := RS_pl hR e
      have ha4 := plA_lt e
      generalize plA S a = A at *
      have e3 := hA.1.1
      have hnn : A.1 * A.1 ≤ 6 * 6 := Nat.mul_le_mul e3 e3
      have hz := n_nz (b := A.1) (by omega) (by omega)
      conv => whnf
      first | refine ⟨fun _ => ?_, fun q => absurd (by decide) q⟩ | refine ⟨fun q => absurd q (by decide), fun _ => ?_⟩
      conv => whnf
      refine ⟨vp_in_nI (by omega) (by decide), ?_⟩
      conv => whnf
      refine ⟨vp_in_nI (by decide) (by decide), ?_⟩
      conv => whnf
      refine hKz _ _ _ _ ?_
      rw [nI_clamp (by omega), nI_clamp (by omega), hA.2.1]
      refine r_build (m := 4) (N := A.1 * A.1) (pos := sp A.1) (vl := fun k => A.2.2 (k % A.1) (k / A.1)) (vr := fun k => A.2.1 (k % A.1) (k / A.1)) (P := fun k M' => V 0 G mi_R_mirror Z 35 [(0, zr 20 0), (1, zi (nI a)), (2, zi (nI to)), (3, zi (nI A.1)), (4, zi (nI k))] [] M') (fun k hk => sp_lt e3 hk) (sp_inj e3) (fun M' hl => ?_) (fun k hk M' hl h => ?_)
      · have hB : isRM M' 4 (pmir A) := sp_isRM (A := pmir A) hl (pmir_wf hA.1) zset_eq (fun k hk => ⟨rfl, rfl⟩)
        have g0 : rf (rgm 4) M M' := rf_trans (rf_set (Or.inl ⟨rfl, rfl⟩)) (laid_gm hl)
        refine z_run (cuts := cu_R_mirror) ok_R_mirror (fun Kz hKz => ?_)
        conv => whnf
        rw [pk_mul, nI_leI (by omega) (by omega)]
        refine ⟨fun _ => ?_, fun q => absurd (by omega) q⟩
        conv => whnf
        refine s_R_comes e1 hB (fun M2 g1 g2 => ?_)
        conv => whnf
        exact h3 e e1 M2 (RS_put (RS_rf hR g0 (rgm_no (by decide))) e1 g1 g2) (rsm_trans (rsm_gm g0) (rsm_gm g1))
      · have hd := dvlt hk
        obtain ⟨ed, em⟩ := n_dm (k := k) (n := A.1) (by omega) (by omega) (by omega)
        have g0 : rf (rgm 4) M M' := rf_trans (rf_set (Or.inl ⟨rfl, rfl⟩)) (laid_gm hl)
        have hA' : isRM M' a A := isRM_rf hA g0 (fun a c q z => by unfold rgm at q z; omega)
        refine z_run (cuts := cu_R_mirror) ok_R_mirror (fun Kz hKz => ?_)
        conv => whnf
        rw [pk_mul, nI_leI (by omega) (by omega)]
        refine ⟨fun q => absurd q (by omega), fun _ => ?_⟩
        conv => whnf
        refine ⟨hz, ?_⟩
        conv => whnf
        refine ⟨hz, ?_⟩
        conv => whnf
        refine ⟨hz, ?_⟩
        conv => whnf
        refine ⟨hz, ?_⟩
        conv => whnf
        rw [ed, em]
        refine s_R_r (by omega) hA' hd.2 hd.1 ?_
        conv => whnf
        refine ⟨hz, ?_⟩
        conv => whnf
        refine ⟨hz, ?_⟩
        conv => whnf
        rw [ed, em]
        refine s_R_l (by omega) hA' hd.2 hd.1 ?_
        conv => whnf
        refine s_R_lay (by decide) (by omega) (by omega) ?_
        conv => whnf
        refine hKz _ _ _ _ ?_
        rw [nI_1']
        exact h
    · conv => whnf
      first | refine ⟨fun _ => ?_, fun q => absurd (by decide) q⟩ | refine ⟨fun q => absurd q (by decide), fun _ => ?_⟩
      conv => whnf
      exact h1 (Or.inr e1)
  · conv => whnf
    first | refine ⟨fun _ => ?_, fun q => absurd (by decide) q⟩ | refine ⟨fun q => absurd q (by decide), fun _ => ?_⟩
    conv => whnf
    exact h1 (Or.inl e)
theorem r_rename {a f to : Nat} (ha : a < 2 ^ 32) (hf : f < 2 ^ 32) (hto : to < 2 ^ 32) (hR : RS M S) (h1 : (plA S a).1 = 0 ∨ ¬ to < 4 → Z (some (zi (-1000001))) M) (h2 : ¬ (plA S a).1 = 0 → to < 4 → ¬ isP f (plA S a).1 → Z (some (zi (-1000002))) M) (h3 : ¬ (plA S a).1 = 0 → to < 4 → isP f (plA S a).1 → ∀ M', RS M' (upS S to (pren (plA S a) (dg f) (dgi f (plA S a).1))) → rsm M M' → Z (some (zi (nI (plA S a).1))) M') : Ctr 0 G mi_R_rename [zr 20 0, zi (nI a), zi (nI f), zi (nI to)] M Z := by
  refine go_R_rename (fun Kz hKz => ?_)
  conv => whnf
  refine s_R_isMap ha hR (fun e => ?_) (fun e => ?_)
  · conv => whnf
    first | refine ⟨fun _ => ?_, fun q => absurd (by decide) q⟩ | refine ⟨fun q => absurd q (by decide), fun _ => ?_⟩
    conv => whnf
    refine s_R_isPlace hto (fun e1 => ?_) (fun e1 => ?_)
    · have hA := RS_pl hR e
      have ha4 := plA_lt e
      generalize plA S a = A at *
      have e3 := hA.1.1
      have hnn : A.1 * A.1 ≤ 6 * 6 := Nat.mul_le_mul e3 e3
      have hz := n_nz (b := A.1) (by omega) (by omega)
      conv => whnf
      first | refine ⟨fun _ => ?_, fun q => absurd (by decide) q⟩ | refine ⟨fun q => absurd q (by decide), fun _ => ?_⟩
      conv => whnf
      refine ⟨vp_in_nI (by omega) (by decide), ?_⟩
      conv => whnf
      rw [nI_clamp (by omega), hA.2.1]
      refine s_R_isPermutation hf e3 (fun pf => ?_) (fun pf => ?_)
      · obtain ⟨f1, f2, f3⟩ := isP_facts pf
        conv => whnf
        first | refine ⟨fun _ => ?_, fun q => absurd (by decide) q⟩ | refine ⟨fun q => absurd q (by decide), fun _ => ?_⟩
        conv => whnf
        refine ⟨vp_in_nI (by decide) (by decide), ?_⟩
        conv => whnf
        refine hKz _ _ _ _ ?_
        rw [nI_clamp (by omega)]
        refine r_build (m := 4) (N := A.1 * A.1) (pos := fun k => 6 * dg f (k / A.1) + dg f (k % A.1)) (vl := fun k => dg f (A.2.1 (k / A.1) (k % A.1))) (vr := fun k => dg f (A.2.2 (k / A.1) (k % A.1))) (P := fun k M' => V 0 G mi_R_rename Z 49 [(0, zr 20 0), (1, zi (nI a)), (2, zi (nI f)), (3, zi (nI to)), (4, zi (nI A.1)), (5, zi (nI k))] [] M') (fun k hk => ?_) (fun i j hi hj q => ?_) (fun M' hl => ?_) (fun k hk M' hl h => ?_)
        · have hd := dvlt hk
          have := f1 _ hd.1
          have := f1 _ hd.2
          show 6 * dg f (k / A.1) + dg f (k % A.1) < 36
          omega
        · have hd1 := dvlt hi
          have hd2 := dvlt hj
          have b1 := f1 _ hd1.2
          have b2 := f1 _ hd2.2
          have q2 : 6 * dg f (i / A.1) + dg f (i % A.1) = 6 * dg f (j / A.1) + dg f (j % A.1) := q
          have c1 := f2 _ _ hd1.1 hd2.1 (by omega)
          have c2 := f2 _ _ hd1.2 hd2.2 (by omega)
          rw [← Nat.div_add_mod i A.1, ← Nat.div_add_mod j A.1, c1, c2]
        · have hB : isRM M' 4 (pren A (dg f) (dgi f A.1)) := by
            refine laid_isRM hl (pren_wf hA.1 pf) zset_eq (fun x y hx hy => ?_)
            obtain ⟨x', hx', ex⟩ := f3 x hx
            obtain ⟨y', hy', ey⟩ := f3 y hy
            refine ⟨A.1 * x' + y', prlt hx' hy', ?_, ?_, ?_⟩
            · show 6 * dg f ((A.1 * x' + y') / A.1) + dg f ((A.1 * x' + y') % A.1) = _
              rw [(dvm hy').1, (dvm hy').2, ex, ey]
            · show dg f (A.2.1 ((A.1 * x' + y') / A.1) ((A.1 * x' + y') % A.1)) = dg f (A.2.1 (dgi f A.1 x) (dgi f A.1 y))
              rw [(dvm hy').1, (dvm hy').2, ← ex, ← ey, dgi_of pf hx', dgi_of pf hy']
            · show dg f (A.2.2 ((A.1 * x' + y') / A.1) ((A.1 * x' + y') % A.1)) = dg f (A.2.2 (dgi f A.1 x) (dgi f A.1 y))
              rw [(dvm hy').1, (dvm hy').2, ← ex, ← ey, dgi_of pf hx', dgi_of pf hy']
          have g0 : rf (rgm 4) M M' := rf_trans (rf_set (Or.inl ⟨rfl, rfl⟩)) (laid_gm hl)
          refine z_run (cuts := cu_R_rename) ok_R_rename (fun Kz hKz => ?_)
          conv => whnf
          rw [pk_mul, nI_leI (by omega) (by omega)]
          refine ⟨fun _ => ?_, fun q => absurd (by omega) q⟩
          conv => whnf
          refine s_R_comes e1 hB (fun M2 g1 g2 => ?_)
          conv => whnf
          exact h3 e e1 pf M2 (RS_put (RS_rf hR g0 (rgm_no (by decide))) e1 g1 g2) (rsm_trans (rsm_gm g0) (rsm_gm g1))
        · have hd := dvlt hk
          have hLR := hA.1.2 _ _ hd.1 hd.2
          have b1 := f1 _ hd.1
          have b2 := f1 _ hd.2
          obtain ⟨ed, em⟩ := n_dm (k := k) (n := A.1) (by omega) (by omega) (by omega)
          have g0 : rf (rgm 4) M M' := rf_trans (rf_set (Or.inl ⟨rfl, rfl⟩)) (laid_gm hl)
          have hA' : isRM M' a A := isRM_rf hA g0 (fun a c q z => by unfold rgm at q z; omega)
          refine z_run (cuts := cu_R_rename) ok_R_rename (fun Kz hKz => ?_)
          conv => whnf
          rw [pk_mul, nI_leI (by omega) (by omega)]
          refine ⟨fun q => absurd q (by omega), fun _ => ?_⟩
          conv => whnf
          refine ⟨hz, ?_⟩
          conv => whnf
          refine ⟨hz, ?_⟩
          conv => whnf
          rw [ed, em]
          refine s_R_digit hf (by omega) ?_
          conv => whnf
          refine s_R_digit hf (by omega) ?_
          conv => whnf
          refine s_R_l (by omega) hA' hd.1 hd.2 ?_
          conv => whnf
          refine s_R_digit hf (by omega) ?_
          conv => whnf
          refine s_R_r (by omega) hA' hd.1 hd.2 ?_
          conv => whnf
          refine s_R_digit hf (by omega) ?_
          conv => whnf
          refine s_R_lay (x := dg f (k / A.1)) (y := dg f (k % A.1)) (by decide) (by omega) (by omega) ?_
          conv => whnf
          refine hKz _ _ _ _ ?_
          rw [nI_1']
          exact h
      · conv => whnf
        first | refine ⟨fun _ => ?_, fun q => absurd (by decide) q⟩ | refine ⟨fun q => absurd q (by decide), fun _ => ?_⟩
        conv => whnf
        exact h2 e e1 pf
    · conv => whnf
      first | refine ⟨fun _ => ?_, fun q => absurd (by decide) q⟩ | refine ⟨fun q => absurd q (by decide), fun _ => ?_⟩
      conv => whnf
      exact h1 (Or.inr e1)
  · conv => whnf
    first | refine ⟨fun _ => ?_, fun q => absurd (by decide) q⟩ | refine ⟨fun q => absurd q (by decide), fun _ => ?_⟩
    conv => whnf
    exact h1 (Or.inl e)
theorem r_drop {a : Nat} (ha : a < 2 ^ 32) (hR : RS M S) (h1 : (plA S a).1 = 0 → Z (some (zi (-1000001))) M) (h3 : ¬ (plA S a).1 = 0 → ∀ M', RS M' (upS S a p0) → rsm M M' → Z (some (zi (nI (plA S a).1))) M') : Ctr 0 G mi_R_drop [zr 20 0, zi (nI a)] M Z := by
  refine go_R_drop (fun Kz hKz => ?_)
  conv => whnf
  refine s_R_isMap ha hR (fun e => ?_) (fun e => ?_)
  · have hA := RS_pl hR e
    have ha4 := plA_lt e
    conv => whnf
    first | refine ⟨fun _ => ?_, fun q => absurd (by decide) q⟩ | refine ⟨fun q => absurd q (by decide), fun _ => ?_⟩
    conv => whnf
    refine ⟨vp_in_nI (by omega) (by decide), ?_⟩
    conv => whnf
    refine ⟨vp_in_nI (by omega) (by decide), ?_⟩
    conv => whnf
    rw [nI_clamp (by omega), hA.2.1]
    have g0 : rf (rgm a) M (zset 21 0 a (nI 0) M) := rf_set (Or.inl ⟨rfl, rfl⟩)
    exact h3 e _ (RS_put hR ha4 g0 ⟨p0_wf, zset_eq, fun x y hx _ => absurd hx (Nat.not_lt_zero _)⟩) (rsm_gm g0)
  · conv => whnf
    first | refine ⟨fun _ => ?_, fun q => absurd (by decide) q⟩ | refine ⟨fun q => absurd q (by decide), fun _ => ?_⟩
    conv => whnf
    exact h1 e
theorem r_cell {a x y w : Nat} (ha : a < 2 ^ 32) (hx : x < 2 ^ 32) (hy : y < 2 ^ 32) (hw : w < 2 ^ 32) (hR : RS M S) (h1 : ¬ (x < (plA S a).1 ∧ y < (plA S a).1) → Z (some (zi (-1000001))) M) (h2 : x < (plA S a).1 → y < (plA S a).1 → ¬ w ≤ 1 → Z (some (zi (-1000002))) M) (h3 : x < (plA S a).1 → y < (plA S a).1 → w = 0 → Z (some (zi (nI ((plA S a).2.1 x y)))) M) (h4 : x < (plA S a).1 → y < (plA S a).1 → w = 1 → Z (some (zi (nI ((plA S a).2.2 x y)))) M) : Ctr 0 G mi_R_cell [zr 20 0, zi (nI a), zi (nI x), zi (nI y), zi (nI w)] M Z := by
  refine go_R_cell (fun Kz hKz => ?_)
  conv => whnf
  refine s_R_isMap ha hR (fun e => ?_) (fun e => ?_)
  · have hA := RS_pl hR e
    have ha4 := plA_lt e
    conv => whnf
    first | refine ⟨fun _ => ?_, fun q => absurd (by decide) q⟩ | refine ⟨fun q => absurd q (by decide), fun _ => ?_⟩
    conv => whnf
    refine s_R_isPoint (by omega) hx (by omega) hA (fun e1 => ?_) (fun e1 => ?_)
    · conv => whnf
      first | refine ⟨fun _ => ?_, fun q => absurd (by decide) q⟩ | refine ⟨fun q => absurd q (by decide), fun _ => ?_⟩
      conv => whnf
      refine s_R_isPoint (by omega) hy (by omega) hA (fun e2 => ?_) (fun e2 => ?_)
      · conv => whnf
        first | refine ⟨fun _ => ?_, fun q => absurd (by decide) q⟩ | refine ⟨fun q => absurd q (by decide), fun _ => ?_⟩
        conv => whnf
        rw [n_eq hw (by decide)]
        refine ⟨fun q => ?_, fun q => ?_⟩
        · conv => whnf
          rw [n_eq hw (by decide)]
          refine ⟨fun q2 => ?_, fun q2 => ?_⟩
          · conv => whnf
            exact h2 e1 e2 (by omega)
          · conv => whnf
            refine s_R_r (by omega) hA e1 e2 ?_
            conv => whnf
            exact h4 e1 e2 (Classical.not_not.mp q2)
        · conv => whnf
          refine s_R_l (by omega) hA e1 e2 ?_
          conv => whnf
          exact h3 e1 e2 (Classical.not_not.mp q)
      · conv => whnf
        first | refine ⟨fun _ => ?_, fun q => absurd (by decide) q⟩ | refine ⟨fun q => absurd q (by decide), fun _ => ?_⟩
        conv => whnf
        exact h1 (fun q => e2 q.2)
    · conv => whnf
      first | refine ⟨fun _ => ?_, fun q => absurd (by decide) q⟩ | refine ⟨fun q => absurd q (by decide), fun _ => ?_⟩
      conv => whnf
      exact h1 (fun q => e1 q.1)
  · conv => whnf
    first | refine ⟨fun _ => ?_, fun q => absurd (by decide) q⟩ | refine ⟨fun q => absurd q (by decide), fun _ => ?_⟩
    conv => whnf
    exact h1 (by omega)
theorem r_put {a x y u v : Nat} (ha : a < 2 ^ 32) (hx : x < 2 ^ 32) (hy : y < 2 ^ 32) (hu : u < 2 ^ 32) (hv : v < 2 ^ 32) (hR : RS M S) (h1 : ¬ (x < (plA S a).1 ∧ y < (plA S a).1 ∧ u < (plA S a).1 ∧ v < (plA S a).1) → Z (some (zi (-1000001))) M) (h3 : x < (plA S a).1 → y < (plA S a).1 → u < (plA S a).1 → v < (plA S a).1 → ∀ M', RS M' (upS S a (pput (plA S a) x y u v)) → rsm M M' → Z (some (zi (nI ((plA S a).2.1 x y + 8 * (plA S a).2.2 x y)))) M') : Ctr 0 G mi_R_put [zr 20 0, zi (nI a), zi (nI x), zi (nI y), zi (nI u), zi (nI v)] M Z := by
  refine go_R_put (fun Kz hKz => ?_)
  conv => whnf
  refine s_R_isMap ha hR (fun e => ?_) (fun e => ?_)
  · have hA := RS_pl hR e
    have ha4 := plA_lt e
    have hn := hA.1.1
    conv => whnf
    first | refine ⟨fun _ => ?_, fun q => absurd (by decide) q⟩ | refine ⟨fun q => absurd q (by decide), fun _ => ?_⟩
    conv => whnf
    refine s_R_isPoint (by omega) hx (by omega) hA (fun e1 => ?_) (fun e1 => ?_)
    · conv => whnf
      first | refine ⟨fun _ => ?_, fun q => absurd (by decide) q⟩ | refine ⟨fun q => absurd q (by decide), fun _ => ?_⟩
      conv => whnf
      refine s_R_isPoint (by omega) hy (by omega) hA (fun e2 => ?_) (fun e2 => ?_)
      · conv => whnf
        first | refine ⟨fun _ => ?_, fun q => absurd (by decide) q⟩ | refine ⟨fun q => absurd q (by decide), fun _ => ?_⟩
        conv => whnf
        refine s_R_isPoint (by omega) hu (by omega) hA (fun e3 => ?_) (fun e3 => ?_)
        · conv => whnf
          first | refine ⟨fun _ => ?_, fun q => absurd (by decide) q⟩ | refine ⟨fun q => absurd q (by decide), fun _ => ?_⟩
          conv => whnf
          refine s_R_isPoint (by omega) hv (by omega) hA (fun e4 => ?_) (fun e4 => ?_)
          · conv => whnf
            first | refine ⟨fun _ => ?_, fun q => absurd (by decide) q⟩ | refine ⟨fun q => absurd q (by decide), fun _ => ?_⟩
            conv => whnf
            refine s_R_l (by omega) hA e1 e2 ?_
            conv => whnf
            refine s_R_r (by omega) hA e1 e2 ?_
            conv => whnf
            refine s_R_lay (by omega) (by omega) (by omega) ?_
            conv => whnf
            rw [pk_mul, nI_add]
            have g0 : rf (rgm a) M (zset 23 0 (36 * a + (6 * x + y)) (nI v) (zset 22 0 (36 * a + (6 * x + y)) (nI u) M)) := rf_trans (rf_set (Or.inr ⟨Or.inl rfl, by omega, by omega⟩)) (rf_set (Or.inr ⟨Or.inr rfl, by omega, by omega⟩))
            refine h3 e1 e2 e3 e4 _ (RS_put hR ha4 g0 ⟨pput_wf hA.1 e3 e4, ?_, fun p q hp hq => ?_⟩) (rsm_gm g0)
            · rw [zset_ne (by omega), zset_ne (by omega)]
              exact hA.2.1
            · have hp : p < (plA S a).1 := hp
              have hq : q < (plA S a).1 := hq
              show _ = nI (if p = x ∧ q = y then u else (plA S a).2.1 p q) ∧ _ = nI (if p = x ∧ q = y then v else (plA S a).2.2 p q)
              by_cases hpq : p = x ∧ q = y
              · rw [if_pos hpq, if_pos hpq, hpq.1, hpq.2, zset_ne (by omega), zset_eq, zset_eq]
                exact ⟨rfl, rfl⟩
              · rw [if_neg hpq, if_neg hpq, zset_ne (by omega), zset_ne (by omega), zset_ne (by omega), zset_ne (by omega)]
                exact hA.2.2 p q hp hq
          · conv => whnf
            first | refine ⟨fun _ => ?_, fun q => absurd (by decide) q⟩ | refine ⟨fun q => absurd q (by decide), fun _ => ?_⟩
            conv => whnf
            exact h1 (fun q => e4 q.2.2.2)
        · conv => whnf
          first | refine ⟨fun _ => ?_, fun q => absurd (by decide) q⟩ | refine ⟨fun q => absurd q (by decide), fun _ => ?_⟩
          conv => whnf
          exact h1 (fun q => e3 q.2.2.1)
      · conv => whnf
        first | refine ⟨fun _ => ?_, fun q => absurd (by decide) q⟩ | refine ⟨fun q => absurd q (by decide), fun _ => ?_⟩
        conv => whnf
        exact h1 (fun q => e2 q.2.1)
    · conv => whnf
      first | refine ⟨fun _ => ?_, fun q => absurd (by decide) q⟩ | refine ⟨fun q => absurd q (by decide), fun _ => ?_⟩
      conv => whnf
      exact h1 (fun q => e1 q.1)
  · conv => whnf
    first | refine ⟨fun _ => ?_, fun q => absurd (by decide) q⟩ | refine ⟨fun q => absurd q (by decide), fun _ => ?_⟩
    conv => whnf
    exact h1 (by omega)
end
