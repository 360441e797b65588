section
variable {G : ZG} {M : ZM} {Z : Option ZV → ZM → Prop}
theorem s_PM_becomeTwist {k n f g : Nat} (hk : k < 10) (hn : n ≤ 6) (hf : f < 2 ^ 32) (hg : g < 2 ^ 32) (hZ : ∀ M', zsm (pmS k) M M' ∧ M'.1 0 k 1 = nI n ∧ (∀ x y, x < n → y < n → M'.1 1 k (8 * x + y) = nI (8 * (f / 8 ^ y % 8) + g / 8 ^ x % 8)) → Z none M') : Ctr 0 G mi_PM_becomeTwist [zr 0 k, zi (nI n), zi (nI f), zi (nI g)] M Z := by
  refine go_PM_becomeTwist (fun Kz hKz => ?_)
  conv => whnf
  refine ⟨by first | assumption | decide, ?_⟩
  conv => whnf
  refine hKz _ _ _ _ ?_
  refine wloop (k := k) (pos := fun a b => 8 * a + b) (val := fun a b => 8 * (f / 8 ^ b % 8) + g / 8 ^ a % 8) (O := fun x M' => V 0 G mi_PM_becomeTwist Z 8 [(0, zr 0 k), (1, zi (nI n)), (2, zi (nI f)), (3, zi (nI g)), (4, zi (nI x))] [] M') (I := fun x y M' => V 0 G mi_PM_becomeTwist Z 17 [(0, zr 0 k), (1, zi (nI n)), (2, zi (nI f)), (3, zi (nI g)), (4, zi (nI x)), (5, zi (nI y))] [] M') (fun x y hx hy => pos8_inj hn hx hy) (fun M' h => ?_) (fun x hx M' h => ?_) (fun x hx M' h => ?_) (fun x y hx hy M' h h9 => ?_)
  · refine z_run (cuts := cu_PM_becomeTwist) ok_PM_becomeTwist (fun Kz hKz => ?_)
    conv => whnf
    rw [nI_leI (by omega) (by omega)]
    refine ⟨fun _ => ?_, fun q => absurd (Nat.le_refl _) q⟩
    conv => whnf
    exact hZ M' (winv_end h)
  · refine z_run (cuts := cu_PM_becomeTwist) ok_PM_becomeTwist (fun Kz hKz => ?_)
    conv => whnf
    rw [nI_leI (by omega) (by omega)]
    refine ⟨fun q => absurd q (by omega), fun _ => ?_⟩
    conv => whnf
    refine hKz _ _ _ _ ?_
    exact h
  · refine z_run (cuts := cu_PM_becomeTwist) ok_PM_becomeTwist (fun Kz hKz => ?_)
    conv => whnf
    rw [nI_leI (by omega) (by omega)]
    refine ⟨fun _ => ?_, fun q => absurd (Nat.le_refl _) q⟩
    conv => whnf
    refine hKz _ _ _ _ ?_
    rw [nI_1']
    exact h
  · refine z_run (cuts := cu_PM_becomeTwist) ok_PM_becomeTwist (fun Kz hKz => ?_)
    conv => whnf
    rw [nI_leI (by omega) (by omega)]
    refine ⟨fun q => absurd q (by omega), fun _ => ?_⟩
    conv => whnf
    refine s_CO_digit hf (by omega) ?_
    conv => whnf
    refine s_CO_digit hg (by omega) ?_
    conv => whnf
    refine ⟨by first | assumption | decide, ?_⟩
    conv => whnf
    refine s_PM_setImage hk (by omega) (by omega) (d8 f y) (d8 g x) ?_
    conv => whnf
    refine hKz _ _ _ _ ?_
    rw [nI_1']
    exact h9
theorem idn_dig : ∀ i, i < 6 → 181896 / 8 ^ i % 8 = i := by decide
theorem s_PM_becomeFlip {k n : Nat} (hk : k < 10) (hn : n ≤ 6) (hZ : ∀ M', zsm (pmS k) M M' ∧ M'.1 0 k 1 = nI n ∧ (∀ x y, x < n → y < n → M'.1 1 k (8 * x + y) = nI (8 * y + x)) → Z none M') : Ctr 0 G mi_PM_becomeFlip [zr 0 k, zi (nI n)] M Z := by
  refine go_PM_becomeFlip (fun Kz hKz => ?_)
  conv => whnf
  refine ⟨by first | assumption | decide, ?_⟩
  conv => whnf
  refine s_PM_becomeTwist hk hn (by decide) (by decide) (fun M' h => ?_)
  conv => whnf
  refine hZ M' ⟨h.1, h.2.1, fun x y hx hy => ?_⟩
  rw [h.2.2 x y hx hy, idn_dig x (by omega), idn_dig y (by omega)]
theorem s_PM_becomeMirror {k j : Nat} {A : ZP} (hk : k < 10) (hj : j < 10) (hkj : k ≠ j) (hA : isPM M j A) (hZ : ∀ M', zsm (pmS k) M M' ∧ M'.1 0 k 1 = nI A.1 ∧ (∀ x y, x < A.1 → y < A.1 → M'.1 1 k (8 * x + y) = nI (8 * A.2.2 y x + A.2.1 y x)) → Z none M') : Ctr 0 G mi_PM_becomeMirror [zr 0 k, zr 0 j] M Z := by
  have hn := hA.1.1
  refine go_PM_becomeMirror (fun Kz hKz => ?_)
  conv => whnf
  refine ⟨by first | assumption | decide, ?_⟩
  conv => whnf
  refine ⟨by first | assumption | decide, ?_⟩
  conv => whnf
  refine hKz _ _ _ _ ?_
  rw [hA.2.1]
  have hp : ∀ {M' : ZM} {x y : Nat}, winv (zset 0 k 1 (nI A.1) M) k A.1 (fun a b => 8 * a + b) (fun a b => 8 * A.2.2 b a + A.2.1 b a) x y M' → M'.1 0 k 1 = nI A.1 ∧ isPM M' j A := by
    intro M' x y h
    refine ⟨by rw [winv_pts h, zset_eq], ?_⟩
    have h1 : isPM (zset 0 k 1 (nI A.1) M) j A := isPM_same hA (S := pmS k) (zsm_set ⟨Or.inl rfl, rfl⟩) (fun q => hkj q.2.symm) (fun q => hkj q.2.symm)
    exact isPM_same h1 h.1 (fun q => absurd q.1 (by decide)) (fun q => hkj q.2.symm)
  refine wloop (k := k) (pos := fun a b => 8 * a + b) (val := fun a b => 8 * A.2.2 b a + A.2.1 b a) (n := A.1) (O := fun x M' => M'.1 0 k 1 = nI A.1 → V 0 G mi_PM_becomeMirror Z 10 [(0, zr 0 k), (1, zr 0 j), (2, zi (nI x))] [] M') (I := fun x y M' => M'.1 0 k 1 = nI A.1 → V 0 G mi_PM_becomeMirror Z 20 [(0, zr 0 k), (1, zr 0 j), (2, zi (nI x)), (3, zi (nI y))] [] M') (fun x y hx hy => pos8_inj hn hx hy) (fun M' h e => ?_) (fun x hx M' h e => ?_) (fun x hx M' h e => ?_) (fun x y hx hy M' h h9 e => ?_) zset_eq
  · refine z_run (cuts := cu_PM_becomeMirror) ok_PM_becomeMirror (fun Kz hKz => ?_)
    conv => whnf
    refine ⟨by first | assumption | decide, ?_⟩
    conv => whnf
    rw [e, nI_leI (by omega) (by omega)]
    refine ⟨fun _ => ?_, fun q => absurd (Nat.le_refl _) q⟩
    conv => whnf
    exact hZ M' (winv_end h)
  · refine z_run (cuts := cu_PM_becomeMirror) ok_PM_becomeMirror (fun Kz hKz => ?_)
    conv => whnf
    refine ⟨by first | assumption | decide, ?_⟩
    conv => whnf
    rw [e, nI_leI (by omega) (by omega)]
    refine ⟨fun q => absurd q (by omega), fun _ => ?_⟩
    conv => whnf
    refine hKz _ _ _ _ ?_
    exact h e
  · refine z_run (cuts := cu_PM_becomeMirror) ok_PM_becomeMirror (fun Kz hKz => ?_)
    conv => whnf
    refine ⟨by first | assumption | decide, ?_⟩
    conv => whnf
    rw [e, nI_leI (by omega) (by omega)]
    refine ⟨fun _ => ?_, fun q => absurd (Nat.le_refl _) q⟩
    conv => whnf
    refine hKz _ _ _ _ ?_
    rw [nI_1']
    exact h e
  · have hA' := (hp h).2
    have hLR := hA.1.2 y x hy hx
    refine z_run (cuts := cu_PM_becomeMirror) ok_PM_becomeMirror (fun Kz hKz => ?_)
    conv => whnf
    refine ⟨by first | assumption | decide, ?_⟩
    conv => whnf
    rw [e, nI_leI (by omega) (by omega)]
    refine ⟨fun q => absurd q (by omega), fun _ => ?_⟩
    conv => whnf
    refine ⟨by first | assumption | decide, ?_⟩
    conv => whnf
    refine s_PM_right hj hA' hy hx ?_
    conv => whnf
    refine ⟨by first | assumption | decide, ?_⟩
    conv => whnf
    refine s_PM_left hj hA' hy hx ?_
    conv => whnf
    refine ⟨by first | assumption | decide, ?_⟩
    conv => whnf
    refine s_PM_setImage hk (by omega) (by omega) (by omega) (by omega) ?_
    conv => whnf
    refine hKz _ _ _ _ ?_
    rw [nI_1']
    exact h9 (by rw [zset_ne (by omega)]; exact e)
theorem s_PM_becomeInverse {k j : Nat} {A : ZP} (hk : k < 10) (hj : j < 10) (hkj : k ≠ j) (hA : isPM M j A) (hZ : ∀ M', zsm (pmS k) M M' → M'.1 0 k 1 = nI A.1 → (pinj A → isPM M' k (pinv A)) → Z none M') : Ctr 0 G mi_PM_becomeInverse [zr 0 k, zr 0 j] M Z := by
  have hn := hA.1.1
  refine go_PM_becomeInverse (fun Kz hKz => ?_)
  conv => whnf
  refine ⟨by first | assumption | decide, ?_⟩
  conv => whnf
  refine ⟨by first | assumption | decide, ?_⟩
  conv => whnf
  refine hKz _ _ _ _ ?_
  rw [hA.2.1]
  have hp : ∀ {M' : ZM}, zsm (rwS k) (zset 0 k 1 (nI A.1) M) M' → M'.1 0 k 1 = nI A.1 ∧ isPM M' j A := by
    intro M' h
    refine ⟨by rw [h.2 0 k (fun q => absurd q.1 (by decide)), zset_eq], ?_⟩
    have h1 : isPM (zset 0 k 1 (nI A.1) M) j A := isPM_same hA (S := pmS k) (zsm_set ⟨Or.inl rfl, rfl⟩) (fun q => hkj q.2.symm) (fun q => hkj q.2.symm)
    exact isPM_same h1 h (fun q => absurd q.1 (by decide)) (fun q => hkj q.2.symm)
  refine wloop0 (n := A.1) (inv := fun x y M' => zsm (rwS k) (zset 0 k 1 (nI A.1) M) M' ∧ (pinj A → winv (zset 0 k 1 (nI A.1) M) k A.1 (fun a b => 8 * A.2.1 a b + A.2.2 a b) (fun a b => 8 * a + b) x y M')) (O := fun x M' => V 0 G mi_PM_becomeInverse Z 10 [(0, zr 0 k), (1, zr 0 j), (2, zi (nI x))] [] M') (I := fun x y M' => V 0 G mi_PM_becomeInverse Z 20 [(0, zr 0 k), (1, zr 0 j), (2, zi (nI x)), (3, zi (nI y))] [] M') ⟨zsm_refl _ _, fun _ => winv_start _ _ _ _ _⟩ (fun x M' h => ⟨h.1, fun q => winv_next (h.2 q)⟩) (fun M' h => ?_) (fun x hx M' h h9 => ?_) (fun x hx M' h h9 => ?_) (fun x y hx hy M' h h8 => ?_)
  · refine z_run (cuts := cu_PM_becomeInverse) ok_PM_becomeInverse (fun Kz hKz => ?_)
    conv => whnf
    refine ⟨by first | assumption | decide, ?_⟩
    conv => whnf
    rw [(hp h.1).1, nI_leI (by omega) (by omega)]
    refine ⟨fun _ => ?_, fun q => absurd (Nat.le_refl _) q⟩
    conv => whnf
    have hpt := (hp h.1).1
    have hsm : zsm (pmS k) M M' := zsm_trans (zsm_set (a := 0) (b := k) (c := 1) (v := nI A.1) ⟨Or.inl rfl, rfl⟩) (zsm_mono h.1 (by intro a b q; exact ⟨Or.inr q.1, q.2⟩))
    refine hZ M' hsm hpt (fun q => ⟨pinv_wf hA.1 q, hpt, fun x y hx hy => ?_⟩)
    obtain ⟨z, hz1, hz2, rfl, rfl⟩ := pinj_surj hA.1 q x y hx hy
    have := (h.2 q).2.1 z.1 z.2 hz1 hz2 (Or.inl hz1)
    rw [this]
    simp only [pinv, pinvz_of hA.1 q hz1 hz2]
  · refine z_run (cuts := cu_PM_becomeInverse) ok_PM_becomeInverse (fun Kz hKz => ?_)
    conv => whnf
    refine ⟨by first | assumption | decide, ?_⟩
    conv => whnf
    rw [(hp h.1).1, nI_leI (by omega) (by omega)]
    refine ⟨fun q => absurd q (by omega), fun _ => ?_⟩
    conv => whnf
    refine hKz _ _ _ _ ?_
    exact h9
  · refine z_run (cuts := cu_PM_becomeInverse) ok_PM_becomeInverse (fun Kz hKz => ?_)
    conv => whnf
    refine ⟨by first | assumption | decide, ?_⟩
    conv => whnf
    rw [(hp h.1).1, nI_leI (by omega) (by omega)]
    refine ⟨fun _ => ?_, fun q => absurd (Nat.le_refl _) q⟩
    conv => whnf
    refine hKz _ _ _ _ ?_
    rw [nI_1']
    exact h9
  · have hA' := (hp h.1).2
    have hLR := hA.1.2 x y hx hy
    have h9 := h8 (zset 1 k (8 * A.2.1 x y + A.2.2 x y) (nI (8 * x + y)) M') ⟨zsm_trans h.1 (zsm_set ⟨rfl, rfl⟩), fun q => winv_step hx hy (fun a b ha hb he => ?_) (h.2 q)⟩
    rotate_left
    · have h1 := hA.1.2 a b ha hb
      exact q a b x y ha hb hx hy (by omega) (by omega)
    · refine z_run (cuts := cu_PM_becomeInverse) ok_PM_becomeInverse (fun Kz hKz => ?_)
      conv => whnf
      refine ⟨by first | assumption | decide, ?_⟩
      conv => whnf
      rw [(hp h.1).1, nI_leI (by omega) (by omega)]
      refine ⟨fun q => absurd q (by omega), fun _ => ?_⟩
      conv => whnf
      refine ⟨by first | assumption | decide, ?_⟩
      conv => whnf
      refine s_PM_left hj hA' hx hy ?_
      conv => whnf
      refine ⟨by first | assumption | decide, ?_⟩
      conv => whnf
      refine s_PM_right hj hA' hx hy ?_
      conv => whnf
      refine ⟨by first | assumption | decide, ?_⟩
      conv => whnf
      refine s_PM_setImage hk (by omega) (by omega) (by omega) (by omega) ?_
      conv => whnf
      refine hKz _ _ _ _ ?_
      rw [nI_1']
      exact h9
theorem s_PM_becomeRenamed {k j f : Nat} {A : ZP} (hk : k < 10) (hj : j < 10) (hkj : k ≠ j) (hA : isPM M j A) (hf : f < 2 ^ 32) (hP : isP f A.1) (hZ : ∀ M', zsm (pmS k) M M' → M'.1 0 k 1 = nI A.1 → (∀ x y, x < A.1 → y < A.1 → M'.1 1 k (8 * dg f x + dg f y) = nI (8 * dg f (A.2.1 x y) + dg f (A.2.2 x y))) → Z none M') : Ctr 0 G mi_PM_becomeRenamed [zr 0 k, zr 0 j, zi (nI f)] M Z := by
  have hn := hA.1.1
  obtain ⟨hf1, hf2, -⟩ := isP_facts hP
  refine go_PM_becomeRenamed (fun Kz hKz => ?_)
  conv => whnf
  refine ⟨by first | assumption | decide, ?_⟩
  conv => whnf
  refine ⟨by first | assumption | decide, ?_⟩
  conv => whnf
  refine hKz _ _ _ _ ?_
  rw [hA.2.1]
  have hp : ∀ {M' : ZM} {x y : Nat}, winv (zset 0 k 1 (nI A.1) M) k A.1 (fun a b => 8 * dg f a + dg f b) (fun a b => 8 * dg f (A.2.1 a b) + dg f (A.2.2 a b)) x y M' → M'.1 0 k 1 = nI A.1 ∧ isPM M' j A := by
    intro M' x y h
    refine ⟨by rw [winv_pts h, zset_eq], ?_⟩
    have h1 : isPM (zset 0 k 1 (nI A.1) M) j A := isPM_same hA (S := pmS k) (zsm_set ⟨Or.inl rfl, rfl⟩) (fun q => hkj q.2.symm) (fun q => hkj q.2.symm)
    exact isPM_same h1 h.1 (fun q => absurd q.1 (by decide)) (fun q => hkj q.2.symm)
  refine wloop (k := k) (pos := fun a b => 8 * dg f a + dg f b) (val := fun a b => 8 * dg f (A.2.1 a b) + dg f (A.2.2 a b)) (n := A.1) (O := fun x M' => M'.1 0 k 1 = nI A.1 → V 0 G mi_PM_becomeRenamed Z 10 [(0, zr 0 k), (1, zr 0 j), (2, zi (nI f)), (3, zi (nI x))] [] M') (I := fun x y M' => M'.1 0 k 1 = nI A.1 → V 0 G mi_PM_becomeRenamed Z 21 [(0, zr 0 k), (1, zr 0 j), (2, zi (nI f)), (3, zi (nI x)), (4, zi (nI y))] [] M') (fun x y hx hy a b ha hb he => ?_) (fun M' h e => ?_) (fun x hx M' h e => ?_) (fun x hx M' h e => ?_) (fun x y hx hy M' h h9 e => ?_) zset_eq
  · have h1 := hf1 a ha
    have h2 := hf1 b hb
    have h3 := hf1 x hx
    have h4 := hf1 y hy
    exact ⟨hf2 a x ha hx (by omega), hf2 b y hb hy (by omega)⟩
  · refine z_run (cuts := cu_PM_becomeRenamed) ok_PM_becomeRenamed (fun Kz hKz => ?_)
    conv => whnf
    refine ⟨by first | assumption | decide, ?_⟩
    conv => whnf
    rw [e, nI_leI (by omega) (by omega)]
    refine ⟨fun _ => ?_, fun q => absurd (Nat.le_refl _) q⟩
    conv => whnf
    have h5 := winv_end h
    exact hZ M' h5.1 h5.2.1 h5.2.2
  · refine z_run (cuts := cu_PM_becomeRenamed) ok_PM_becomeRenamed (fun Kz hKz => ?_)
    conv => whnf
    refine ⟨by first | assumption | decide, ?_⟩
    conv => whnf
    rw [e, nI_leI (by omega) (by omega)]
    refine ⟨fun q => absurd q (by omega), fun _ => ?_⟩
    conv => whnf
    refine hKz _ _ _ _ ?_
    exact h e
  · refine z_run (cuts := cu_PM_becomeRenamed) ok_PM_becomeRenamed (fun Kz hKz => ?_)
    conv => whnf
    refine ⟨by first | assumption | decide, ?_⟩
    conv => whnf
    rw [e, nI_leI (by omega) (by omega)]
    refine ⟨fun _ => ?_, fun q => absurd (Nat.le_refl _) q⟩
    conv => whnf
    refine hKz _ _ _ _ ?_
    rw [nI_1']
    exact h e
  · have hA' := (hp h).2
    have hLR := hA.1.2 x y hx hy
    refine z_run (cuts := cu_PM_becomeRenamed) ok_PM_becomeRenamed (fun Kz hKz => ?_)
    conv => whnf
    refine ⟨by first | assumption | decide, ?_⟩
    conv => whnf
    rw [e, nI_leI (by omega) (by omega)]
    refine ⟨fun q => absurd q (by omega), fun _ => ?_⟩
    conv => whnf
    refine ⟨by first | assumption | decide, ?_⟩
    conv => whnf
    refine s_PM_left hj hA' hx hy ?_
    conv => whnf
    refine s_CO_digit hf (by omega) ?_
    conv => whnf
    refine ⟨by first | assumption | decide, ?_⟩
    conv => whnf
    refine s_PM_right hj hA' hx hy ?_
    conv => whnf
    refine s_CO_digit hf (by omega) ?_
    conv => whnf
    refine s_CO_digit hf (by omega) ?_
    conv => whnf
    refine s_CO_digit hf (by omega) ?_
    conv => whnf
    refine ⟨by first | assumption | decide, ?_⟩
    conv => whnf
    refine s_PM_setImage hk (d8 _ _) (d8 _ _) (d8 _ _) (d8 _ _) ?_
    conv => whnf
    refine hKz _ _ _ _ ?_
    rw [nI_1']
    exact h9 (by rw [zset_ne (by omega)]; exact e)
theorem s_PM_setShifted {k j d : Nat} {A : ZP} (hk : k < 10) (hj : j < 10) (hkj : k ≠ j) (hA : isPM M j A) (hd : d + A.1 ≤ 6) (hZ : ∀ M', winv M k A.1 (fun a b => 8 * (d + a) + (d + b)) (fun a b => 8 * (d + A.2.1 a b) + (d + A.2.2 a b)) A.1 0 M' → Z none M') : Ctr 0 G mi_PM_setShifted [zr 0 k, zr 0 j, zi (nI d)] M Z := by
  have hn := hA.1.1
  refine go_PM_setShifted (fun Kz hKz => ?_)
  conv => whnf
  refine hKz _ _ _ _ ?_
  have hp : ∀ {M' : ZM} {x y : Nat}, winv M k A.1 (fun a b => 8 * (d + a) + (d + b)) (fun a b => 8 * (d + A.2.1 a b) + (d + A.2.2 a b)) x y M' → isPM M' j A := fun h => isPM_same hA h.1 (fun q => absurd q.1 (by decide)) (fun q => hkj q.2.symm)
  refine wloop0 (n := A.1) (inv := winv M k A.1 (fun a b => 8 * (d + a) + (d + b)) (fun a b => 8 * (d + A.2.1 a b) + (d + A.2.2 a b))) (O := fun x M' => V 0 G mi_PM_setShifted Z 2 [(0, zr 0 k), (1, zr 0 j), (2, zi (nI d)), (3, zi (nI x))] [] M') (I := fun x y M' => V 0 G mi_PM_setShifted Z 13 [(0, zr 0 k), (1, zr 0 j), (2, zi (nI d)), (3, zi (nI x)), (4, zi (nI y))] [] M') (winv_start _ _ _ _ _) (fun x M' h => winv_next h) (fun M' h => ?_) (fun x hx M' h h9 => ?_) (fun x hx M' h h9 => ?_) (fun x y hx hy M' h h8 => ?_)
  · refine z_run (cuts := cu_PM_setShifted) ok_PM_setShifted (fun Kz hKz => ?_)
    conv => whnf
    refine ⟨by first | assumption | decide, ?_⟩
    conv => whnf
    rw [(hp h).2.1, nI_leI (by omega) (by omega)]
    refine ⟨fun _ => ?_, fun q => absurd (Nat.le_refl _) q⟩
    conv => whnf
    exact hZ M' h
  · refine z_run (cuts := cu_PM_setShifted) ok_PM_setShifted (fun Kz hKz => ?_)
    conv => whnf
    refine ⟨by first | assumption | decide, ?_⟩
    conv => whnf
    rw [(hp h).2.1, nI_leI (by omega) (by omega)]
    refine ⟨fun q => absurd q (by omega), fun _ => ?_⟩
    conv => whnf
    refine hKz _ _ _ _ ?_
    exact h9
  · refine z_run (cuts := cu_PM_setShifted) ok_PM_setShifted (fun Kz hKz => ?_)
    conv => whnf
    refine ⟨by first | assumption | decide, ?_⟩
    conv => whnf
    rw [(hp h).2.1, nI_leI (by omega) (by omega)]
    refine ⟨fun _ => ?_, fun q => absurd (Nat.le_refl _) q⟩
    conv => whnf
    refine hKz _ _ _ _ ?_
    rw [nI_1']
    exact h9
  · have hA' := hp h
    have hLR := hA.1.2 x y hx hy
    refine z_run (cuts := cu_PM_setShifted) ok_PM_setShifted (fun Kz hKz => ?_)
    conv => whnf
    refine ⟨by first | assumption | decide, ?_⟩
    conv => whnf
    rw [(hp h).2.1, nI_leI (by omega) (by omega)]
    refine ⟨fun q => absurd q (by omega), fun _ => ?_⟩
    conv => whnf
    refine ⟨by first | assumption | decide, ?_⟩
    conv => whnf
    refine s_PM_left hj hA' hx hy ?_
    conv => whnf
    refine ⟨by first | assumption | decide, ?_⟩
    conv => whnf
    refine s_PM_right hj hA' hx hy ?_
    conv => whnf
    refine ⟨by first | assumption | decide, ?_⟩
    conv => whnf
    rw [nI_add, nI_add, nI_add, nI_add]
    refine s_PM_setImage hk (by omega) (by omega) (by omega) (by omega) ?_
    conv => whnf
    refine hKz _ _ _ _ ?_
    rw [nI_1']
    exact h8 _ (winv_step (pos := fun a b => 8 * (d + a) + (d + b)) (val := fun a b => 8 * (d + A.2.1 a b) + (d + A.2.2 a b)) hx hy (fun a b ha hb he => by
      have he : 8 * (d + a) + (d + b) = 8 * (d + x) + (d + y) := he
      omega) h)
theorem puni_wf {A B : ZP} (hA : pwf A) (hB : pwf B) (h : A.1 + B.1 ≤ 6) : pwf (puni A B) := by
  refine ⟨h, fun x y hx hy => ?_⟩
  have hx : x < A.1 + B.1 := hx
  have hy : y < A.1 + B.1 := hy
  show _ < A.1 + B.1 ∧ _ < A.1 + B.1
  simp only [puni]
  by_cases h1 : x < A.1
  · by_cases h2 : y < A.1
    · have := hA.2 x y h1 h2
      simp only [h1, h2, if_true]
      omega
    · simp only [h1, h2, if_true, if_false]
      omega
  · by_cases h2 : y < A.1
    · simp only [h1, h2, if_true, if_false]
      omega
    · have := hB.2 (x - A.1) (y - A.1) (by omega) (by omega)
      simp only [h1, h2, if_false]
      omega
theorem s_PM_becomeUnion {k i j : Nat} {A B : ZP} (hk : k < 10) (hi : i < 10) (hj : j < 10) (hki : k ≠ i) (hkj : k ≠ j) (hA : isPM M i A) (hB : isPM M j B) (h6 : A.1 + B.1 ≤ 6) (hZ : ∀ M', zsm (pmS k) M M' → isPM M' k (puni A B) → Z none M') : Ctr 0 G mi_PM_becomeUnion [zr 0 k, zr 0 i, zr 0 j] M Z := by
  have hnA := hA.1.1
  have hnB := hB.1.1
  refine go_PM_becomeUnion (fun Kz hKz => ?_)
  conv => whnf
  refine ⟨by first | assumption | decide, ?_⟩
  conv => whnf
  refine ⟨by first | assumption | decide, ?_⟩
  conv => whnf
  rw [hA.2.1, hB.2.1, nI_add]
  refine ⟨by first | assumption | decide, ?_⟩
  conv => whnf
  refine s_PM_becomeFlip hk h6 (fun M1 h1 => ?_)
  conv => whnf
  refine ⟨by first | assumption | decide, ?_⟩
  conv => whnf
  have hA1 : isPM M1 i A := isPM_same hA h1.1 (fun q => hki q.2.symm) (fun q => hki q.2.symm)
  have hB1 : isPM M1 j B := isPM_same hB h1.1 (fun q => hkj q.2.symm) (fun q => hkj q.2.symm)
  refine s_PM_setShifted hk hi hki hA1 (by omega) (fun M2 h2 => ?_)
  have hA2 : isPM M2 i A := isPM_same hA1 h2.1 (fun q => absurd q.1 (by decide)) (fun q => hki q.2.symm)
  have hB2 : isPM M2 j B := isPM_same hB1 h2.1 (fun q => absurd q.1 (by decide)) (fun q => hkj q.2.symm)
  conv => whnf
  refine ⟨by first | assumption | decide, ?_⟩
  conv => whnf
  rw [hA2.2.1]
  refine ⟨by first | assumption | decide, ?_⟩
  conv => whnf
  refine s_PM_setShifted hk hj hkj hB2 (by omega) (fun M3 h3 => ?_)
  conv => whnf
  have hm : ∀ a b, rwS k a b → pmS k a b := fun a b q => ⟨Or.inr q.1, q.2⟩
  refine hZ M3 (zsm_trans h1.1 (zsm_trans (zsm_mono h2.1 hm) (zsm_mono h3.1 hm))) ⟨puni_wf hA.1 hB.1 h6, ?_, fun x y hx hy => ?_⟩
  · rw [winv_pts h3, winv_pts h2, h1.2.1]
    rfl
  · have hx : x < A.1 + B.1 := hx
    have hy : y < A.1 + B.1 := hy
    simp only [puni]
    by_cases hxy : ¬ x < A.1 ∧ ¬ y < A.1
    · have e := h3.2.1 (x - A.1) (y - A.1) (by omega) (by omega) (Or.inl (by omega))
      dsimp only at e
      rw [show A.1 + (x - A.1) = x by omega, show A.1 + (y - A.1) = y by omega] at e
      rw [if_neg hxy.1, if_neg hxy.2, if_neg hxy.1, if_neg hxy.2, e]
    · have e3 := h3.2.2 (8 * x + y) (fun a b ha hb _ he => by dsimp only at he; omega)
      rw [e3]
      by_cases hxy2 : x < A.1 ∧ y < A.1
      · have e := h2.2.1 x y hxy2.1 hxy2.2 (Or.inl hxy2.1)
        dsimp only at e
        rw [Nat.zero_add, Nat.zero_add] at e
        rw [e, if_pos hxy2.1, if_pos hxy2.2, if_pos hxy2.1, if_pos hxy2.2, Nat.zero_add, Nat.zero_add]
      · have e2 := h2.2.2 (8 * x + y) (fun a b ha hb _ he => by dsimp only at he; omega)
        rw [e2, h1.2.2 x y hx hy]
        by_cases h7 : x < A.1
        · have h8 : ¬ y < A.1 := fun q => hxy2 ⟨h7, q⟩
          rw [if_pos h7, if_neg h8, if_pos h7, if_neg h8]
        · have h8 : y < A.1 := Classical.not_not.mp (fun q => hxy ⟨h7, q⟩)
          rw [if_neg h7, if_pos h8, if_neg h7, if_pos h8]
end
