section
variable {G : ZG} {M : ZM} {Z : Option ZV → ZM → Prop}
theorem s_AC_makeRetraction {k j : Nat} {A : ZP} (hk : k < 10) (hj : j < 10) (hkj : k ≠ j) (hA : isPM M j A) (hC : acv A A.1 M) (hZ : ∀ M', zsm (pmS k) M M' → isPM M' k (pretr A) → Z none M') : Ctr 0 G mi_AC_makeRetraction [zr 8 0, zr 0 k, zr 0 j] M Z := by
  have hn := hA.1.1
  have hkn := ksz_le A
  have e0 : M.1 8 0 2 = nI (ksz A) := hC.1
  have hp : ∀ {M' : ZM} {x y : Nat}, winv (zset 0 k 1 (nI (ksz A)) M) k (ksz A) (fun a b => 8 * a + b) (fun a b => 8 * (pretr A).2.1 a b + (pretr A).2.2 a b) x y M' → isPM M' j A ∧ acv A A.1 M' ∧ M'.1 8 0 2 = nI (ksz A) := by
    intro M' x y h
    have h0 : zsm (pmS k) M (zset 0 k 1 (nI (ksz A)) M) := zsm_set ⟨Or.inl rfl, rfl⟩
    have h1 : isPM (zset 0 k 1 (nI (ksz A)) M) j A := isPM_same hA h0 (fun q => hkj q.2.symm) (fun q => hkj q.2.symm)
    have h2 := acv_same hC h0 (fun q => absurd q.1 (by decide)) (fun q => absurd q.1 (by decide)) (fun q => absurd q.1 (by decide))
    have h3 := acv_same h2 h.1 (fun q => absurd q.1 (by decide)) (fun q => absurd q.1 (by decide)) (fun q => absurd q.1 (by decide))
    exact ⟨isPM_same h1 h.1 (fun q => absurd q.1 (by decide)) (fun q => hkj q.2.symm), h3, h3.1⟩
  refine go_AC_makeRetraction (fun Kz hKz => ?_)
  conv => whnf
  refine ⟨hk, ?_⟩
  rw [e0]
  refine s_PM_resize hk ?_
  conv => whnf
  refine hKz _ _ _ _ ?_
  refine wloop (k := k) (pos := fun a b => 8 * a + b) (val := fun a b => 8 * (pretr A).2.1 a b + (pretr A).2.2 a b) (n := ksz A) (O := fun x M' => M'.1 8 0 2 = nI (ksz A) → V 0 G mi_AC_makeRetraction Z 10 [(0, zr 8 0), (1, zr 0 k), (2, zr 0 j), (3, zi (nI x))] [] M') (I := fun x y M' => M'.1 8 0 2 = nI (ksz A) → V 0 G mi_AC_makeRetraction Z 21 [(0, zr 8 0), (1, zr 0 k), (2, zr 0 j), (3, zi (nI x)), (4, zi (nI y))] [] M') (fun x y hx hy => pos8_inj (by omega) hx hy) (fun M' h e => ?_) (fun x hx M' h e => ?_) (fun x hx M' h e => ?_) (fun x y hx hy M' h h9 e => ?_) (by rw [zset_ne (by omega)]; exact e0)
  · refine z_run (cuts := cu_AC_makeRetraction) ok_AC_makeRetraction (fun Kz hKz => ?_)
    conv => whnf
    rw [e, nI_leI (by omega) (by omega)]
    refine ⟨fun _ => ?_, fun q => absurd (Nat.le_refl _) q⟩
    conv => whnf
    have he := winv_end h
    exact hZ M' he.1 ⟨pretr_wf hA.1, he.2.1, he.2.2⟩
  · refine z_run (cuts := cu_AC_makeRetraction) ok_AC_makeRetraction (fun Kz hKz => ?_)
    conv => whnf
    rw [e, nI_leI (by omega) (by omega)]
    refine ⟨fun q => absurd q (by omega), fun _ => ?_⟩
    conv => whnf
    refine hKz _ _ _ _ ?_
    exact h e
  · refine z_run (cuts := cu_AC_makeRetraction) ok_AC_makeRetraction (fun Kz hKz => ?_)
    conv => whnf
    rw [e, nI_leI (by omega) (by omega)]
    refine ⟨fun _ => ?_, fun q => absurd (Nat.le_refl _) q⟩
    conv => whnf
    refine hKz _ _ _ _ ?_
    rw [nI_1']
    exact h e
  · have hp' := hp h
    have lx := lst_is hx
    have ly := lst_is hy
    have hLR := hA.1.2 _ _ lx.1 ly.1
    have c1 := clz_lt hLR.1
    have c2 := clz_lt hLR.2
    have s1 : M'.1 10 0 x = nI (lst A x) := by
      have := hp'.2.1.2.2 _ lx.1 lx.2.1
      rw [lx.2.2] at this
      exact this
    have s2 : M'.1 10 0 y = nI (lst A y) := by
      have := hp'.2.1.2.2 _ ly.1 ly.2.1
      rw [ly.2.2] at this
      exact this
    refine z_run (cuts := cu_AC_makeRetraction) ok_AC_makeRetraction (fun Kz hKz => ?_)
    conv => whnf
    rw [e, nI_leI (by omega) (by omega)]
    refine ⟨fun q => absurd q (by omega), fun _ => ?_⟩
    conv => whnf
    refine s_AC_smallestOf (by omega) ?_
    conv => whnf
    rw [s1]
    refine s_AC_smallestOf (by omega) ?_
    conv => whnf
    rw [s2]
    refine ⟨by first | assumption | decide, ?_⟩
    conv => whnf
    refine s_PM_left hj hp'.1 lx.1 ly.1 ?_
    conv => whnf
    refine s_AC_classOf (by omega) ?_
    conv => whnf
    rw [hp'.2.1.2.1 _ hLR.1]
    refine ⟨by first | assumption | decide, ?_⟩
    conv => whnf
    refine s_PM_right hj hp'.1 lx.1 ly.1 ?_
    conv => whnf
    refine s_AC_classOf (by omega) ?_
    conv => whnf
    rw [hp'.2.1.2.1 _ hLR.2]
    refine ⟨by first | assumption | decide, ?_⟩
    conv => whnf
    refine s_PM_setImage hk (by omega) (by omega) (by omega) (by omega) ?_
    conv => whnf
    refine hKz _ _ _ _ ?_
    rw [nI_1']
    exact h9 (by rw [zset_ne (by omega)]; exact e)
end
