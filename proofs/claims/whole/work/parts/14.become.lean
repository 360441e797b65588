section
variable {G : ZG} {M : ZM} {Z : Option ZV → ZM → Prop}
theorem s_PM_becomeTwist {k n f g : Nat} (hk : k < 10) (hn : n ≤ 6) (hf : f < 2 ^ 32) (hg : g < 2 ^ 32) (hZ : ∀ M', zsm (pmS k) M M' ∧ M'.1 0 k 1 = nI n ∧ (∀ x y, x < n → y < n → M'.1 1 k (8 * x + y) = nI (8 * (f / 8 ^ y % 8) + g / 8 ^ x % 8)) → Z none M') : Ctr 0 G mi_PM_becomeTwist [zr 0 k, zi (nI n), zi (nI f), zi (nI g)] M Z := by
  refine go_PM_becomeTwist (fun Kz hKz => ?_)
  conv => whnf
  refine ⟨by first | assumption | decide, ?_⟩
  conv => whnf
  refine hKz _ _ _ _ ?_
  refine wloop (k := k) (pos := fun a b => 8 * a + b) (val := fun a b => 8 * (f / 8 ^ b % 8) + g / 8 ^ a % 8) (O := fun x M' => V 0 G mi_PM_becomeTwist Z 8 [(0, zr 0 k), (1, zi (nI n)), (2, zi (nI f)), (3, zi (nI g)), (4, zi (nI x))] [] M') (I := fun x y M' => V 0 G mi_PM_becomeTwist Z 17 [(0, zr 0 k), (1, zi (nI n)), (2, zi (nI f)), (3, zi (nI g)), (4, zi (nI x)), (5, zi (nI y))] [] M') (fun x y hx hy => pos8_inj hn hx hy) (fun M' h => ?_) (fun x hx M' h => ?_) (fun x hx M' h => ?_) (fun x y hx hy M' h h9 => ?_)
  · refine z_run (cuts := cu_PM_becomeTwist) ok_PM_becomeTwist (fun Kz hKz => ?_)
    conv => whnf
    rw [nI_leI (by omega) (by omega)]
    refine ⟨fun _ => ?_, fun q => absurd (Nat.le_refl _) q⟩
    conv => whnf
    exact hZ M' (winv_end h)
  · refine z_run (cuts := cu_PM_becomeTwist) ok_PM_becomeTwist (fun Kz hKz => ?_)
    conv => whnf
    rw [nI_leI (by omega) (by omega)]
    refine ⟨fun q => absurd q (by omega), fun _ => ?_⟩
    conv => whnf
    refine hKz _ _ _ _ ?_
    exact h
  · refine z_run (cuts := cu_PM_becomeTwist) ok_PM_becomeTwist (fun Kz hKz => ?_)
    conv => whnf
    rw [nI_leI (by omega) (by omega)]
    refine ⟨fun _ => ?_, fun q => absurd (Nat.le_refl _) q⟩
    conv => whnf
    refine hKz _ _ _ _ ?_
    rw [nI_1']
    exact h
  · refine z_run (cuts := cu_PM_becomeTwist) ok_PM_becomeTwist (fun Kz hKz => ?_)
    conv => whnf
    rw [nI_leI (by omega) (by omega)]
    refine ⟨fun q => absurd q (by omega), fun _ => ?_⟩
    conv => whnf
    refine s_CO_digit hf (by omega) ?_
    conv => whnf
    refine s_CO_digit hg (by omega) ?_
    conv => whnf
    refine ⟨by first | assumption | decide, ?_⟩
    conv => whnf
    refine s_PM_setImage hk (by omega) (by omega) (d8 f y) (d8 g x) ?_
    conv => whnf
    refine hKz _ _ _ _ ?_
    rw [nI_1']
    exact h9
theorem idn_dig : ∀ i, i < 6 → 181896 / 8 ^ i % 8 = i := by decide
theorem s_PM_becomeFlip {k n : Nat} (hk : k < 10) (hn : n ≤ 6) (hZ : ∀ M', zsm (pmS k) M M' ∧ M'.1 0 k 1 = nI n ∧ (∀ x y, x < n → y < n → M'.1 1 k (8 * x + y) = nI (8 * y + x)) → Z none M') : Ctr 0 G mi_PM_becomeFlip [zr 0 k, zi (nI n)] M Z := by
  refine go_PM_becomeFlip (fun Kz hKz => ?_)
  conv => whnf
  refine ⟨by first | assumption | decide, ?_⟩
  conv => whnf
  refine s_PM_becomeTwist hk hn (by decide) (by decide) (fun M' h => ?_)
  conv => whnf
  refine hZ M' ⟨h.1, h.2.1, fun x y hx hy => ?_⟩
  rw [h.2.2 x y hx hy, idn_dig x (by omega), idn_dig y (by omega)]
theorem s_PM_becomeMirror {k j : Nat} {A : ZP} (hk : k < 10) (hj : j < 10) (hkj : k ≠ j) (hA : isPM M j A) (hZ : ∀ M', zsm (pmS k) M M' ∧ M'.1 0 k 1 = nI A.1 ∧ (∀ x y, x < A.1 → y < A.1 → M'.1 1 k (8 * x + y) = nI (8 * A.2.2 y x + A.2.1 y x)) → Z none M') : Ctr 0 G mi_PM_becomeMirror [zr 0 k, zr 0 j] M Z := by
  have hn := hA.1.1
  refine go_PM_becomeMirror (fun Kz hKz => ?_)
  conv => whnf
  refine ⟨by first | assumption | decide, ?_⟩
  conv => whnf
  refine ⟨by first | assumption | decide, ?_⟩
  conv => whnf
  refine hKz _ _ _ _ ?_
  rw [hA.2.1]
  have hp : ∀ {M' : ZM} {x y : Nat}, winv (zset 0 k 1 (nI A.1) M) k A.1 (fun a b => 8 * a + b) (fun a b => 8 * A.2.2 b a + A.2.1 b a) x y M' → M'.1 0 k 1 = nI A.1 ∧ isPM M' j A := by
    intro M' x y h
    refine ⟨by rw [winv_pts h, zset_eq], ?_⟩
    have h1 : isPM (zset 0 k 1 (nI A.1) M) j A := isPM_same hA (S := pmS k) (zsm_set ⟨Or.inl rfl, rfl⟩) (fun q => hkj q.2.symm) (fun q => hkj q.2.symm)
    exact isPM_same h1 h.1 (fun q => absurd q.1 (by decide)) (fun q => hkj q.2.symm)
  refine wloop (k := k) (pos := fun a b => 8 * a + b) (val := fun a b => 8 * A.2.2 b a + A.2.1 b a) (n := A.1) (O := fun x M' => M'.1 0 k 1 = nI A.1 → V 0 G mi_PM_becomeMirror Z 10 [(0, zr 0 k), (1, zr 0 j), (2, zi (nI x))] [] M') (I := fun x y M' => M'.1 0 k 1 = nI A.1 → V 0 G mi_PM_becomeMirror Z 20 [(0, zr 0 k), (1, zr 0 j), (2, zi (nI x)), (3, zi (nI y))] [] M') (fun x y hx hy => pos8_inj hn hx hy) (fun M' h e => ?_) (fun x hx M' h e => ?_) (fun x hx M' h e => ?_) (fun x y hx hy M' h h9 e => ?_) zset_eq
  · refine z_run (cuts := cu_PM_becomeMirror) ok_PM_becomeMirror (fun Kz hKz => ?_)
    conv => whnf
    refine ⟨by first | assumption | decide, ?_⟩
    conv => whnf
    rw [e, nI_leI (by omega) (by omega)]
    refine ⟨fun _ => ?_, fun q => absurd (Nat.le_refl _) q⟩
    conv => whnf
    exact hZ M' (winv_end h)
  · refine z_run (cuts := cu_PM_becomeMirror) ok_PM_becomeMirror (fun Kz hKz => ?_)
    conv => whnf
    refine ⟨by first | assumption | decide, ?_⟩
    conv => whnf
    rw [e, nI_leI (by omega) (by omega)]
    refine ⟨fun q => absurd q (by omega), fun _ => ?_⟩
    conv => whnf
    refine hKz _ _ _ _ ?_
    exact h e
  · refine z_run (cuts := cu_PM_becomeMirror) ok_PM_becomeMirror (fun Kz hKz => ?_)
    conv => whnf
    refine ⟨by first | assumption | decide, ?_⟩
    conv => whnf
    rw [e, nI_leI (by omega) (by omega)]
    refine ⟨fun _ => ?_, fun q => absurd (Nat.le_refl _) q⟩
    conv => whnf
    refine hKz _ _ _ _ ?_
    rw [nI_1']
    exact h e
  · have hA' := (hp h).2
    have hLR := hA.1.2 y x hy hx
    refine z_run (cuts := cu_PM_becomeMirror) ok_PM_becomeMirror (fun Kz hKz => ?_)
    conv => whnf
    refine ⟨by first | assumption | decide, ?_⟩
    conv => whnf
    rw [e, nI_leI (by omega) (by omega)]
    refine ⟨fun q => absurd q (by omega), fun _ => ?_⟩
    conv => whnf
    refine ⟨by first | assumption | decide, ?_⟩
    conv => whnf
    refine s_PM_right hj hA' hy hx ?_
    conv => whnf
    refine ⟨by first | assumption | decide, ?_⟩
    conv => whnf
    refine s_PM_left hj hA' hy hx ?_
    conv => whnf
    refine ⟨by first | assumption | decide, ?_⟩
    conv => whnf
    refine s_PM_setImage hk (by omega) (by omega) (by omega) (by omega) ?_
    conv => whnf
    refine hKz _ _ _ _ ?_
    rw [nI_1']
    exact h9 (by rw [zset_ne (by omega)]; exact e)
end
