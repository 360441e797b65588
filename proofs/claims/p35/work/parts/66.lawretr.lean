/-! the law: the map of the classes -/
def dn (k : Nat) : Int32 := match k with
  | 0 => -1
  | k + 1 => nI k
theorem dn_down (k : Nat) : dn (k + 1) + -1 = dn k := by
  cases k with
  | zero => decide
  | succ k => exact pk_m1 k
theorem dn_top {n : Nat} (h : 1 ≤ n) : nI n - nI 1 = dn n := by
  obtain ⟨k, rfl⟩ : ∃ k, n = k + 1 := ⟨n - 1, by omega⟩
  exact pk_sub (by omega)
def rdone (A : ZP) (X Y : Nat) (M : ZM) : Prop := ∀ c d, c < ksz A → d < ksz A → (X ≤ lst A c ∨ (lst A c + 1 = X ∧ Y ≤ lst A d)) → hcl M 4 c d = (pretr A).2.1 c d ∧ hcr M 4 c d = (pretr A).2.2 c d
theorem rdone_row {A : ZP} {X : Nat} {M : ZM} (h : rdone A (X + 1) 0 M) : rdone A X A.1 M := fun c d hc hd q => h c d hc hd (by
  have := (lst_is hd).1
  omega)
theorem clz_lst {A : ZP} {c x : Nat} (hc : c < ksz A) (h : lst A c = x) : clz A x = c ∧ rep A x = x := by
  have h1 := lst_is hc
  rw [h] at h1
  have h2 : rep A x = x := of_decide_eq_true h1.2.1
  exact ⟨by unfold clz; rw [h2]; exact h1.2.2, h2⟩
theorem rdone_ly {A : ZP} {x y : Nat} {M M' : ZM} (hn : A.1 ≤ 6) (hx : x < A.1) (hy : y < A.1) (h : rdone A (x + 1) (y + 1) M) (q : hly 4 (clz A x) (clz A y) (clz A (A.2.1 x y)) (clz A (A.2.2 x y)) M M') : rdone A (x + 1) y M' := by
  intro c d hc hd hq
  have hk := ksz_le A
  have e := q.2.2.2 4 c d (by decide) (by omega) (by omega)
  by_cases z : 4 = 4 ∧ c = clz A x ∧ d = clz A y
  · rw [if_pos z, if_pos z] at e
    have l1 : lst A c = rep A x := by rw [z.2.1]; exact lst_clz hx
    have l2 : lst A d = rep A y := by rw [z.2.2]; exact lst_clz hy
    have r1 := rep_le A x
    have r2 := rep_le A y
    have m1 : lst A c = x := by omega
    have m2 : lst A d = y := by omega
    rw [e.1, e.2]
    show _ = clz A (A.2.1 (lst A c) (lst A d)) ∧ _ = clz A (A.2.2 (lst A c) (lst A d))
    rw [m1, m2]
    exact ⟨rfl, rfl⟩
  · rw [if_neg z, if_neg z] at e
    rw [e.1, e.2]
    refine h c d hc hd ?_
    rcases hq with g | ⟨g1, g2⟩
    · exact Or.inl g
    · refine Or.inr ⟨g1, ?_⟩
      rcases Nat.lt_or_eq_of_le g2 with w | w
      · omega
      · exact absurd ⟨rfl, ((clz_lst hc (show lst A c = x by omega)).1).symm, ((clz_lst hd w.symm).1).symm⟩ z
section
variable {G : ZG} {M : ZM} {Z : Option ZV → ZM → Prop} {S : ZS}
theorem h_retracts {a : Nat} {A : ZP} (ha : a < 4) (hA : isH M a A) (h0 : 0 < A.1) (hL : LH M S) (hZ : ∀ M', hfr M M' → LH M' S → isH M' 4 (pretr A) → Z none M') : Ctr 0 G mi_LW_retracts [zr 20 0, zi (nI a)] M Z := by
  have hn := hA.1.1
  have hk := ksz_le A
  have hwf := pretr_wf hA.1
  have lx : ∀ X, X ≤ A.1 → ∀ M', hstp (hz4 (ksz A) M) M' → rdone A X A.1 M' → V 0 G mi_LW_retracts Z 59 [(0, zr 20 0), (1, zi (nI a)), (2, zi (nI A.1)), (4, zi (dn X))] [] M' := by
    intro X
    induction X with
    | zero =>
      intro _ M' g1 g2
      refine z_run (cuts := cu_LW_retracts) ok_LW_retracts (fun Kz hKz => ?_)
      conv => whnf
      refine ⟨fun _ => ?_, fun z => absurd (by decide) z⟩
      conv => whnf
      refine hZ M' (hfr_trans (hz4_fr M _) g1.1) (LH_stp (hz4_LS hL) g1) ⟨hwf, (g1.2.2.1 4 (by decide)).trans (hz4_at M _), fun c d hc hd => g2 c d hc hd (Or.inl (Nat.zero_le _))⟩
    | succ x ih =>
      intro hx M' g1 g2
      have ly : ∀ Y, Y ≤ A.1 → ∀ M', hstp (hz4 (ksz A) M) M' → rdone A (x + 1) Y M' → V 0 G mi_LW_retracts Z 69 [(0, zr 20 0), (1, zi (nI a)), (2, zi (nI A.1)), (4, zi (nI x)), (5, zi (dn Y))] [] M' := by
        intro Y
        induction Y with
        | zero =>
          intro _ M' g1 g2
          refine z_run (cuts := cu_LW_retracts) ok_LW_retracts (fun Kz hKz => ?_)
          conv => whnf
          refine ⟨fun _ => ?_, fun z => absurd (by decide) z⟩
          conv => whnf
          refine hKz _ _ _ _ ?_
          have e : nI x + -1 = dn x := dn_down x
          rw [e]
          exact ih (by omega) M' g1 (rdone_row g2)
        | succ y ih2 =>
          intro hy M' g1 g2
          have hA' : isH M' a A := isH_stp (hz4_isH hA ha) ha g1
          have hLR := hA.1.2 x y (by omega) (by omega)
          have c1 := clz_lt (A := A) (x := x) (by omega)
          have c2 := clz_lt (A := A) (x := y) (by omega)
          have c3 := clz_lt hLR.1
          have c4 := clz_lt hLR.2
          refine z_run (cuts := cu_LW_retracts) ok_LW_retracts (fun Kz hKz => ?_)
          rw [show dn (y + 1) = nI y from rfl]
          conv => whnf
          rw [nI_ltI (by omega) (by decide)]
          refine ⟨fun q => absurd q (by omega), fun _ => ?_⟩
          conv => whnf
          refine h_clazz (by omega) g1.2.1 hA' (by omega) ?_
          conv => whnf
          refine h_clazz (by omega) g1.2.1 hA' (by omega) ?_
          conv => whnf
          refine h_l (by omega) g1.2.1 hA' (by omega) (by omega) ?_
          conv => whnf
          refine h_clazz (by omega) g1.2.1 hA' hLR.1 ?_
          conv => whnf
          refine h_r (by omega) g1.2.1 hA' (by omega) (by omega) ?_
          conv => whnf
          refine h_clazz (by omega) g1.2.1 hA' hLR.2 ?_
          conv => whnf
          refine h_lays (by decide) g1.2.1 (by omega) (by omega) (by omega) (by omega) (fun M2 q => ?_)
          conv => whnf
          refine hKz _ _ _ _ ?_
          have e : nI y + -1 = dn y := dn_down y
          rw [e]
          exact ih2 (by omega) M2 (hstp_trans g1 (hstp_ly q)) (rdone_ly hn (by omega) (by omega) g2 q)
      refine z_run (cuts := cu_LW_retracts) ok_LW_retracts (fun Kz hKz => ?_)
      rw [show dn (x + 1) = nI x from rfl]
      conv => whnf
      rw [nI_ltI (by omega) (by decide)]
      refine ⟨fun q => absurd q (by omega), fun _ => ?_⟩
      conv => whnf
      rw [dn_top (by omega)]
      refine hKz _ _ _ _ ?_
      exact ly A.1 (Nat.le_refl _) M' g1 (fun c d hc hd q => g2 c d hc hd (by
        have := (lst_is hd).1
        omega))
  have lc : ∀ x, x ≤ A.1 → V 0 G mi_LW_retracts Z 11 [(0, zr 20 0), (1, zi (nI a)), (2, zi (nI A.1)), (3, zi (nI (cnt (isRep A) x))), (4, zi (nI x))] [] M := by
    refine up_to ?_ ?_
    · refine z_run (cuts := cu_LW_retracts) ok_LW_retracts (fun Kz hKz => ?_)
      conv => whnf
      rw [nI_leI (by omega) (by omega)]
      refine ⟨fun _ => ?_, fun q => absurd (by omega) q⟩
      conv => whnf
      refine ⟨vp_in_nI (by decide) (by decide), ?_⟩
      conv => whnf
      rw [nI_clamp (by decide), nI_l (by have := cnt_le (isRep A) A.1; omega), dn_top (by omega)]
      refine hKz _ _ _ _ ?_
      exact lx A.1 (Nat.le_refl _) _ (hstp_refl (hz4_hok hL.1)) (fun c d hc hd q => by
        have := (lst_is hc).1
        have := (lst_is hd).1
        omega)
    · intro x hx ih
      have hc1 := cnt_le (isRep A) x
      have hc2 := clz_lt hx
      refine z_run (cuts := cu_LW_retracts) ok_LW_retracts (fun Kz hKz => ?_)
      conv => whnf
      rw [nI_leI (by omega) (by omega)]
      refine ⟨fun q => absurd q (by omega), fun _ => ?_⟩
      conv => whnf
      refine h_clazz (by omega) hL.1 hA hx ?_
      conv => whnf
      rw [nI_ltI (by omega) (by omega)]
      cases hq : isRep A x with
      | true =>
        have e : clz A x = cnt (isRep A) x := by unfold clz; rw [of_decide_eq_true hq]
        have e2 : cnt (isRep A) (x + 1) = cnt (isRep A) x + 1 := by rw [cnt, hq]; rfl
        rw [e2] at ih
        refine ⟨fun q => absurd q (by omega), fun _ => ?_⟩
        conv => whnf
        refine h_clazz (by omega) hL.1 hA hx ?_
        conv => whnf
        refine hKz _ _ _ _ ?_
        rw [e, nI_add, nI_1']
        exact ih
      | false =>
        have h2 : rep A x < x := by
          have := rep_le A x
          have := of_decide_eq_false hq
          omega
        have e : clz A x < cnt (isRep A) x := cnt_step (isRep_rep A x) h2
        have e2 : cnt (isRep A) (x + 1) = cnt (isRep A) x := by rw [cnt, hq]; rfl
        rw [e2] at ih
        refine ⟨fun _ => ?_, fun q => absurd (by omega) q⟩
        conv => whnf
        refine hKz _ _ _ _ ?_
        rw [nI_1']
        exact ih
  refine go_LW_retracts (fun Kz hKz => ?_)
  conv => whnf
  refine h_points (by omega) hA ?_
  conv => whnf
  refine hKz _ _ _ _ ?_
  exact lc 0 (Nat.zero_le _)
end
