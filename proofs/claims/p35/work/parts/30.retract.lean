/-- often retracted -/
def rt (A : ZP) : Nat → ZP
  | 0 => A
  | i + 1 => pretr (rt A i)
theorem rt_wf {A : ZP} (hA : pwf A) : ∀ i, pwf (rt A i) := by
  intro i
  induction i with
  | zero => exact hA
  | succ i ih => exact pretr_wf ih
theorem ksz_pos {A : ZP} (h : 0 < A.1) : 0 < ksz A := Nat.lt_of_le_of_lt (Nat.zero_le _) (clz_lt (x := 0) h)
theorem rt_pos {A : ZP} (h : 0 < A.1) : ∀ i, 0 < (rt A i).1 := by
  intro i
  induction i with
  | zero => exact h
  | succ i ih => exact ksz_pos ih
theorem rt_less {A : ZP} : ∀ i, (∀ j, j < i → ksz (rt A j) < (rt A j).1) → (rt A i).1 + i ≤ A.1 := by
  intro i
  induction i with
  | zero => intro _; exact Nat.le_refl _
  | succ i ih =>
    intro h
    have h1 := ih fun j hj => h j (by omega)
    have h2 := h i (by omega)
    show ksz (rt A i) + (i + 1) ≤ A.1
    omega
def lvS : Nat → Nat → Prop := fun a b => acS a b ∨ pmS 6 a b ∨ pmS 7 a b
/-- the level: how often, until nothing changes -/
def isLev (A : ZP) (t : Nat) : Prop := (∀ i, i < t → ksz (rt A i) < (rt A i).1) ∧ ksz (rt A t) = (rt A t).1
theorem isLev_uniq {A : ZP} {t t' : Nat} (h : isLev A t) (h' : isLev A t') : t = t' := by
  rcases Nat.lt_trichotomy t t' with q | q | q
  · have := h'.1 t q; have := h.2; omega
  · exact q
  · have := h.1 t' q; have := h'.2; omega
section
variable {G : ZG} {M : ZM} {Z : Option ZV → ZM → Prop}
theorem s_AC_makeRetraction {k j : Nat} {A : ZP} (hk : k < 10) (hj : j < 10) (hkj : k ≠ j) (hA : isPM M j A) (hC : acv A A.1 M) (hZ : ∀ M', zsm (pmS k) M M' → isPM M' k (pretr A) → Z none M') : Ctr 0 G mi_AC_makeRetraction [zr 8 0, zr 0 k, zr 0 j] M Z := by
  have hn := hA.1.1
  have hkn := ksz_le A
  have e0 : M.1 8 0 2 = nI (ksz A) := hC.1
  have hp : ∀ {M' : ZM} {x y : Nat}, winv (zset 0 k 1 (nI (ksz A)) M) k (ksz A) (fun a b => 8 * a + b) (fun a b => 8 * (pretr A).2.1 a b + (pretr A).2.2 a b) x y M' → isPM M' j A ∧ acv A A.1 M' ∧ M'.1 8 0 2 = nI (ksz A) := by
    intro M' x y h
    have h0 : zsm (pmS k) M (zset 0 k 1 (nI (ksz A)) M) := zsm_set ⟨Or.inl rfl, rfl⟩
    have h1 : isPM (zset 0 k 1 (nI (ksz A)) M) j A := isPM_same hA h0 (fun q => hkj q.2.symm) (fun q => hkj q.2.symm)
    have h2 := acv_same hC h0 (fun q => absurd q.1 (by decide)) (fun q => absurd q.1 (by decide)) (fun q => absurd q.1 (by decide))
    have h3 := acv_same h2 h.1 (fun q => absurd q.1 (by decide)) (fun q => absurd q.1 (by decide)) (fun q => absurd q.1 (by decide))
    exact ⟨isPM_same h1 h.1 (fun q => absurd q.1 (by decide)) (fun q => hkj q.2.symm), h3, h3.1⟩
  refine go_AC_makeRetraction (fun Kz hKz => ?_)
  conv => whnf
  refine ⟨hk, ?_⟩
  rw [e0]
  refine s_PM_resize hk ?_
  conv => whnf
  refine hKz _ _ _ _ ?_
  refine wloop (k := k) (pos := fun a b => 8 * a + b) (val := fun a b => 8 * (pretr A).2.1 a b + (pretr A).2.2 a b) (n := ksz A) (O := fun x M' => M'.1 8 0 2 = nI (ksz A) → V 0 G mi_AC_makeRetraction Z 10 [(0, zr 8 0), (1, zr 0 k), (2, zr 0 j), (3, zi (nI x))] [] M') (I := fun x y M' => M'.1 8 0 2 = nI (ksz A) → V 0 G mi_AC_makeRetraction Z 21 [(0, zr 8 0), (1, zr 0 k), (2, zr 0 j), (3, zi (nI x)), (4, zi (nI y))] [] M') (fun x y hx hy => pos8_inj (by omega) hx hy) (fun M' h e => ?_) (fun x hx M' h e => ?_) (fun x hx M' h e => ?_) (fun x y hx hy M' h h9 e => ?_) (by rw [zset_ne (by omega)]; exact e0)
  · refine z_run (cuts := cu_AC_makeRetraction) ok_AC_makeRetraction (fun Kz hKz => ?_)
    conv => whnf
    rw [e, nI_leI (by omega) (by omega)]
    refine ⟨fun _ => ?_, fun q => absurd (Nat.le_refl _) q⟩
    conv => whnf
    have he := winv_end h
    exact hZ M' he.1 ⟨pretr_wf hA.1, he.2.1, he.2.2⟩
  · refine z_run (cuts := cu_AC_makeRetraction) ok_AC_makeRetraction (fun Kz hKz => ?_)
    conv => whnf
    rw [e, nI_leI (by omega) (by omega)]
    refine ⟨fun q => absurd q (by omega), fun _ => ?_⟩
    conv => whnf
    refine hKz _ _ _ _ ?_
    exact h e
  · refine z_run (cuts := cu_AC_makeRetraction) ok_AC_makeRetraction (fun Kz hKz => ?_)
    conv => whnf
    rw [e, nI_leI (by omega) (by omega)]
    refine ⟨fun _ => ?_, fun q => absurd (Nat.le_refl _) q⟩
    conv => whnf
    refine hKz _ _ _ _ ?_
    rw [nI_1']
    exact h e
  · have hp' := hp h
    have lx := lst_is hx
    have ly := lst_is hy
    have hLR := hA.1.2 _ _ lx.1 ly.1
    have c1 := clz_lt hLR.1
    have c2 := clz_lt hLR.2
    have s1 : M'.1 10 0 x = nI (lst A x) := by
      have := hp'.2.1.2.2 _ lx.1 lx.2.1
      rw [lx.2.2] at this
      exact this
    have s2 : M'.1 10 0 y = nI (lst A y) := by
      have := hp'.2.1.2.2 _ ly.1 ly.2.1
      rw [ly.2.2] at this
      exact this
    refine z_run (cuts := cu_AC_makeRetraction) ok_AC_makeRetraction (fun Kz hKz => ?_)
    conv => whnf
    rw [e, nI_leI (by omega) (by omega)]
    refine ⟨fun q => absurd q (by omega), fun _ => ?_⟩
    conv => whnf
    refine s_AC_smallestOf (by omega) ?_
    conv => whnf
    rw [s1]
    refine s_AC_smallestOf (by omega) ?_
    conv => whnf
    rw [s2]
    refine ⟨by first | assumption | decide, ?_⟩
    conv => whnf
    refine s_PM_left hj hp'.1 lx.1 ly.1 ?_
    conv => whnf
    refine s_AC_classOf (by omega) ?_
    conv => whnf
    rw [hp'.2.1.2.1 _ hLR.1]
    refine ⟨by first | assumption | decide, ?_⟩
    conv => whnf
    refine s_PM_right hj hp'.1 lx.1 ly.1 ?_
    conv => whnf
    refine s_AC_classOf (by omega) ?_
    conv => whnf
    rw [hp'.2.1.2.1 _ hLR.2]
    refine ⟨by first | assumption | decide, ?_⟩
    conv => whnf
    refine s_PM_setImage hk (by omega) (by omega) (by omega) (by omega) ?_
    conv => whnf
    refine hKz _ _ _ _ ?_
    rw [nI_1']
    exact h9 (by rw [zset_ne (by omega)]; exact e)
theorem s_AC_levelOf {k : Nat} {A : ZP} (hk : k < 6) (hA : isPM M k A) (h0 : 0 < A.1) (h1 : ∀ t, isLev A t → (rt A t).1 = 1 → ∀ M', zsm lvS M M' → Z (some (zi (nI t))) M') (h2 : ∀ t, isLev A t → ¬ (rt A t).1 = 1 → ∀ M', zsm lvS M M' → Z (some (zi (-1))) M') : Ctr 0 G mi_AC_levelOf [zr 8 0, zr 0 k] M Z := by
  have hn := hA.1.1
  have lp : ∀ d i, d = 6 - i → i ≤ 5 → (∀ j, j < i → ksz (rt A j) < (rt A j).1) → ∀ M', zsm lvS M M' → isPM M' 6 (rt A i) → V 0 G mi_AC_levelOf Z 10 [(0, zr 8 0), (2, zi (nI i))] [] M' := by
    intro d
    induction d with
    | zero => intro i hd hi; omega
    | succ d ih =>
      intro i hd hi hl M' hs hB
      have hless := rt_less i hl
      have hBn := hB.1.1
      have hpos := rt_pos h0 i
      have hkz := ksz_pos hpos
      have hkle := ksz_le (rt A i)
      refine z_run (cuts := cu_AC_levelOf) ok_AC_levelOf (fun Kz hKz => ?_)
      conv => whnf
      rw [nI_leI (by omega) (by omega)]
      refine ⟨fun q => absurd q (by omega), fun _ => ?_⟩
      conv => whnf
      refine ⟨by decide, ?_⟩
      refine s_PM_points (by decide) ?_
      conv => whnf
      rw [hB.2.1, n_ne (by omega) (by omega)]
      refine ⟨fun q => ?_, fun q => ?_⟩
      · conv => whnf
        refine s_AC_find (by decide) hB (fun M1 g1 g2 => ?_)
        have hB1 : isPM M1 6 (rt A i) := isPM_same hB g1 (fun q => absurd q.1 (by decide)) (fun q => absurd q.1 (by decide))
        have s1 : zsm lvS M M1 := zsm_trans hs (zsm_mono g1 fun a b q => Or.inl q)
        conv => whnf
        refine ⟨by decide, ?_⟩
        refine s_PM_points (by decide) ?_
        conv => whnf
        rw [g2.1, hB1.2.1]
        show _ ∧ _
        rw [n_ne (show cnt (isRep (rt A i)) (rt A i).1 < 2 ^ 31 from Nat.lt_of_le_of_lt hkle (by omega)) (by omega)]
        refine ⟨fun q2 => ?_, fun q2 => ?_⟩
        · have hlt : ksz (rt A i) < (rt A i).1 := Nat.lt_of_le_of_ne hkle q2
          conv => whnf
          refine s_AC_makeRetraction (by decide) (by decide) (by decide) hB1 g2 (fun M2 g3 g4 => ?_)
          conv => whnf
          refine ⟨by decide, ?_⟩
          refine s_PM_copy (by decide) (by decide) (by decide) (fun M3 g5 g6 g7 => ?_)
          conv => whnf
          refine hKz _ _ _ _ ?_
          rw [nI_1']
          refine ih (i + 1) (by omega) (by omega) (fun j hj => ?_) M3 (zsm_trans (zsm_trans s1 (zsm_mono g3 fun a b q => Or.inr (Or.inr q))) (zsm_mono g5 fun a b q => Or.inr (Or.inl q))) ⟨g4.1, ?_, fun x y hx hy => ?_⟩
          · rcases Nat.lt_succ_iff_lt_or_eq.mp hj with hj | rfl
            · exact hl j hj
            · exact hlt
          · rw [g6]; exact g4.2.1
          · have hx6 : x < 6 := Nat.lt_of_lt_of_le hx (Nat.le_trans hkle hBn)
            have hy6 : y < 6 := Nat.lt_of_lt_of_le hy (Nat.le_trans hkle hBn)
            rw [g7 _ (by omega)]
            exact g4.2.2 x y hx hy
        · have q2 := Classical.not_not.mp q2
          conv => whnf
          exact h2 i ⟨hl, q2⟩ q M1 s1
      · have q := Classical.not_not.mp q
        conv => whnf
        exact h1 i ⟨hl, by omega⟩ q M' hs
  refine go_AC_levelOf (fun Kz hKz => ?_)
  conv => whnf
  refine ⟨by decide, ?_⟩
  refine s_PM_copy (by decide) (by omega) (by omega) (fun M1 g1 g2 g3 => ?_)
  conv => whnf
  refine hKz _ _ _ _ ?_
  refine lp 6 0 rfl (by decide) (fun j hj => absurd hj (Nat.not_lt_zero _)) M1 (zsm_mono g1 fun a b q => Or.inr (Or.inl q)) ⟨hA.1, by rw [g2]; exact hA.2.1, fun x y hx hy => ?_⟩
  have hx6 : x < 6 := Nat.lt_of_lt_of_le hx hn
  have hy6 : y < 6 := Nat.lt_of_lt_of_le hy hn
  rw [g3 _ (by omega)]
  exact hA.2.2 x y hx hy
theorem cst_ac {M M' : ZM} (h : zsm acS M M') : cst M M' :=
  cst_of h (fun b hb => ⟨fun q => absurd q.1 (by decide), fun q => absurd q.1 (by decide)⟩) (fun b hb => ⟨fun q => absurd q.1 (by decide), fun q => absurd q.1 (by decide), fun q => absurd q.1 (by decide)⟩)
theorem csm_ac {M M' : ZM} (h : zsm acS M M') : csm M M' := csm_of h (fun a b q => by rcases q.1 with q | q | q <;> omega)
theorem c_retract {a to : Nat} {S : ZS} (ha : a < 2 ^ 32) (hto : to < 2 ^ 32) (hC : CS M S) (h1 : (plA S a).1 = 0 ∨ ¬ to < 4 → Z (some (zi (-1000001))) M) (h3 : ¬ (plA S a).1 = 0 → to < 4 → ∀ M', CS M' (upS S to (pretr (plA S a))) → csm M M' → Z (some (zi (nI (ksz (plA S a))))) M') : Ctr 0 G mi_T_retract [zr 5 0, zi (nI a), zi (nI to)] M Z := by
  have hA := CS_pl hC a
  have ka := plk_lt a
  refine go_T_retract (fun Kz hKz => ?_)
  conv => whnf
  refine s_T_mapAt ha ?_
  conv => whnf
  refine ⟨by show plk a < 10; omega, ?_⟩
  refine s_PM_isEmpty (by omega) hA (fun e1 => ?_) (fun e1 => ?_)
  · conv => whnf
    first | refine ⟨fun _ => ?_, fun q => absurd (by decide) q⟩ | refine ⟨fun q => absurd q (by decide), fun _ => ?_⟩
    conv => whnf
    exact h1 (Or.inl e1)
  · conv => whnf
    first | refine ⟨fun _ => ?_, fun q => absurd (by decide) q⟩ | refine ⟨fun q => absurd q (by decide), fun _ => ?_⟩
    conv => whnf
    refine s_T_isPlace hto (fun h => ?_) (fun h => ?_)
    · conv => whnf
      first | refine ⟨fun _ => ?_, fun q => absurd (by decide) q⟩ | refine ⟨fun q => absurd q (by decide), fun _ => ?_⟩
      conv => whnf
      refine s_AC_find (by omega) hA (fun M1 g1 g2 => ?_)
      have hA1 : isPM M1 (plk a) (plA S a) := isPM_same hA g1 (fun q => absurd q.1 (by decide)) (fun q => absurd q.1 (by decide))
      conv => whnf
      refine s_AC_makeRetraction (by decide) (by omega) (by omega) hA1 g2 (fun M2 g3 g4 => ?_)
      conv => whnf
      refine s_T_keepMade h (CS_cst (CS_cst hC (cst_ac g1)) (cst_pm (by decide) g3)) g4 (fun M' h6 h7 => ?_)
      conv => whnf
      exact h3 e1 h M' h6 (csm_trans (csm_trans (csm_ac g1) (csm_pm g3)) h7)
    · conv => whnf
      first | refine ⟨fun _ => ?_, fun q => absurd (by decide) q⟩ | refine ⟨fun q => absurd q (by decide), fun _ => ?_⟩
      conv => whnf
      exact h1 (Or.inr h)
theorem c_alike {a x : Nat} {S : ZS} (ha : a < 2 ^ 32) (hx : x < 2 ^ 32) (hC : CS M S) (h1 : ¬ x < (plA S a).1 → Z (some (zi (-1000001))) M) (h3 : x < (plA S a).1 → ∀ M', CS M' S → csm M M' → Z (some (zi (nI (clz (plA S a) x)))) M') : Ctr 0 G mi_T_alike [zr 5 0, zi (nI a), zi (nI x)] M Z := by
  have hA := CS_pl hC a
  have ka := plk_lt a
  have hn := hA.1.1
  refine go_T_alike (fun Kz hKz => ?_)
  conv => whnf
  refine s_T_mapAt ha ?_
  conv => whnf
  refine ⟨by show plk a < 10; omega, ?_⟩
  refine s_PM_hasPoint (by omega) hx hA (fun e1 => ?_) (fun e1 => ?_)
  · conv => whnf
    first | refine ⟨fun _ => ?_, fun q => absurd (by decide) q⟩ | refine ⟨fun q => absurd q (by decide), fun _ => ?_⟩
    conv => whnf
    refine s_AC_find (by omega) hA (fun M1 g1 g2 => ?_)
    conv => whnf
    refine s_AC_classOf (by omega) ?_
    conv => whnf
    rw [g2.2.1 x e1]
    exact h3 e1 M1 (CS_cst hC (cst_ac g1)) (csm_ac g1)
  · conv => whnf
    first | refine ⟨fun _ => ?_, fun q => absurd (by decide) q⟩ | refine ⟨fun q => absurd q (by decide), fun _ => ?_⟩
    conv => whnf
    exact h1 e1
end
