/-! counting, the first that is -/
theorem cnt_mono (p : Nat → Bool) (i : Nat) : ∀ d, cnt p i ≤ cnt p (i + d) := by
  intro d
  induction d with
  | zero => exact Nat.le_refl _
  | succ d ih => exact Nat.le_trans ih (Nat.le_add_right _ _)
theorem cnt_step {p : Nat → Bool} {i j : Nat} (h : p i = true) (hij : i < j) : cnt p i < cnt p j := by
  obtain ⟨d, rfl⟩ : ∃ d, j = i + 1 + d := ⟨j - (i + 1), by omega⟩
  have := cnt_mono p (i + 1) d
  rw [cnt, h, Bool.toNat_true] at this
  omega
theorem cnt_inj {p : Nat → Bool} {i j : Nat} (h : p i = true) (h' : p j = true) (he : cnt p i = cnt p j) : i = j := by
  rcases Nat.lt_trichotomy i j with q | q | q
  · have := cnt_step h q; omega
  · exact q
  · have := cnt_step h' q; omega
theorem cnt_surj {p : Nat → Bool} {c : Nat} : ∀ k, c < cnt p k → ∃ i, i < k ∧ p i = true ∧ cnt p i = c := by
  intro k
  induction k with
  | zero => intro h; exact absurd h (Nat.not_lt_zero _)
  | succ k ih =>
    intro h
    by_cases q : c < cnt p k
    · obtain ⟨i, h1, h2⟩ := ih q
      exact ⟨i, by omega, h2⟩
    · cases hp : p k with
      | false => rw [cnt, hp, Bool.toNat_false] at h; omega
      | true =>
        rw [cnt, hp, Bool.toNat_true] at h
        exact ⟨k, by omega, hp, by omega⟩
def fnd (p : Nat → Bool) : Nat → Nat
  | 0 => 0
  | k + 1 => if fnd p k < k then fnd p k else if p k = true then k else k + 1
theorem fnd_le (p : Nat → Bool) : ∀ k, fnd p k ≤ k := by
  intro k
  induction k with
  | zero => exact Nat.le_refl _
  | succ k ih =>
    rw [fnd]
    split
    · omega
    · split <;> omega
theorem fnd_min (p : Nat → Bool) : ∀ k i, i < fnd p k → p i = false := by
  intro k
  induction k with
  | zero => intro i h; exact absurd h (Nat.not_lt_zero _)
  | succ k ih =>
    intro i h
    rw [fnd] at h
    have hk := fnd_le p k
    split at h
    · exact ih i h
    · split at h
      · exact ih i (by omega)
      · rename_i hp
        rcases Nat.lt_succ_iff_lt_or_eq.mp h with h | rfl
        · exact ih i (by omega)
        · exact Bool.eq_false_iff.mpr hp
theorem fnd_is (p : Nat → Bool) : ∀ k, fnd p k < k → p (fnd p k) = true := by
  intro k
  induction k with
  | zero => intro h; exact absurd h (Nat.not_lt_zero _)
  | succ k ih =>
    intro h
    rw [fnd] at h ⊢
    split
    · rename_i q; exact ih q
    · split
      · rename_i q; exact q
      · rename_i q1 q2; rw [if_neg q1, if_neg q2] at h; omega
theorem fnd_eq {p : Nat → Bool} {k i : Nat} (hi : i < k) (hp : p i = true) (hm : ∀ j, j < i → p j = false) : fnd p k = i := by
  have h1 : fnd p k ≤ i := by
    rcases Nat.lt_or_ge i (fnd p k) with q | q
    · have := fnd_min p k i q; rw [hp] at this; cases this
    · exact q
  rcases Nat.lt_or_eq_of_le h1 with q | q
  · have := fnd_is p k (by omega); rw [hm _ q] at this; cases this
  · exact q
/-! points that are alike -/
def twin (A : ZP) (x y : Nat) : Prop := ∀ z, z < A.1 → A.2.1 x z = A.2.1 y z ∧ A.2.2 z x = A.2.2 z y
theorem twin_refl (A : ZP) (x : Nat) : twin A x x := fun _ _ => ⟨rfl, rfl⟩
theorem twin_symm {A : ZP} {x y : Nat} (h : twin A x y) : twin A y x := fun z hz => ⟨(h z hz).1.symm, (h z hz).2.symm⟩
theorem twin_trans {A : ZP} {x y z : Nat} (h : twin A x y) (h' : twin A y z) : twin A x z := fun w hw => ⟨(h w hw).1.trans (h' w hw).1, (h w hw).2.trans (h' w hw).2⟩
def twb (A : ZP) (x y : Nat) : Bool := decide (∀ z, z < A.1 → A.2.1 x z = A.2.1 y z ∧ A.2.2 z x = A.2.2 z y)
theorem twb_iff {A : ZP} {x y : Nat} : twb A x y = true ↔ twin A x y := decide_eq_true_iff
theorem twb_no {A : ZP} {x y : Nat} : twb A x y = false ↔ ¬ twin A x y := decide_eq_false_iff_not
def rep (A : ZP) (x : Nat) : Nat := fnd (twb A x) x
theorem rep_le (A : ZP) (x : Nat) : rep A x ≤ x := fnd_le _ _
theorem rep_twin (A : ZP) (x : Nat) : twin A x (rep A x) := by
  rcases Nat.lt_or_eq_of_le (rep_le A x) with q | q
  · exact twb_iff.mp (fnd_is _ _ q)
  · rw [q]; exact twin_refl A x
theorem rep_min {A : ZP} {x y : Nat} (h : twin A x y) : rep A x ≤ y := by
  rcases Nat.lt_or_ge y (rep A x) with q | q
  · exact absurd h (twb_no.mp (fnd_min _ _ y q))
  · exact q
theorem rep_eq {A : ZP} {x y : Nat} (h : twin A x y) : rep A x = rep A y :=
  Nat.le_antisymm (rep_min (twin_trans h (rep_twin A y))) (rep_min (twin_trans (twin_symm h) (rep_twin A x)))
theorem rep_rep (A : ZP) (x : Nat) : rep A (rep A x) = rep A x := (rep_eq (rep_twin A x)).symm
def isRep (A : ZP) (x : Nat) : Bool := decide (rep A x = x)
def clz (A : ZP) (x : Nat) : Nat := cnt (isRep A) (rep A x)
def ksz (A : ZP) : Nat := cnt (isRep A) A.1
def lst (A : ZP) (c : Nat) : Nat := fnd (fun x => isRep A x && decide (cnt (isRep A) x = c)) A.1
theorem isRep_rep (A : ZP) (x : Nat) : isRep A (rep A x) = true := decide_eq_true (rep_rep A x)
theorem clz_lt {A : ZP} {x : Nat} (hx : x < A.1) : clz A x < ksz A := cnt_step (isRep_rep A x) (Nat.lt_of_le_of_lt (rep_le A x) hx)
theorem lst_of {A : ZP} {x : Nat} (hx : x < A.1) (hr : isRep A x = true) : lst A (cnt (isRep A) x) = x := by
  refine fnd_eq hx (by rw [hr, Bool.true_and]; exact decide_eq_true rfl) (fun j hj => ?_)
  cases hq : isRep A j with
  | false => rfl
  | true =>
    rw [Bool.true_and]
    refine decide_eq_false fun he => ?_
    have := cnt_inj hq hr he
    omega
theorem lst_is {A : ZP} {c : Nat} (hc : c < ksz A) : lst A c < A.1 ∧ isRep A (lst A c) = true ∧ cnt (isRep A) (lst A c) = c := by
  obtain ⟨i, h1, h2, h3⟩ := cnt_surj A.1 hc
  have h := lst_of h1 h2
  rw [h3] at h
  rw [h]
  exact ⟨h1, h2, h3⟩
theorem lst_clz {A : ZP} {x : Nat} (hx : x < A.1) : lst A (clz A x) = rep A x := lst_of (Nat.lt_of_le_of_lt (rep_le A x) hx) (isRep_rep A x)
def pretr (A : ZP) : ZP := (ksz A, fun c d => clz A (A.2.1 (lst A c) (lst A d)), fun c d => clz A (A.2.2 (lst A c) (lst A d)))
theorem ksz_le (A : ZP) : ksz A ≤ A.1 := cnt_le _ _
theorem pretr_wf {A : ZP} (hA : pwf A) : pwf (pretr A) := by
  refine ⟨Nat.le_trans (ksz_le A) hA.1, fun x y hx hy => ?_⟩
  have h := hA.2 _ _ (lst_is hx).1 (lst_is hy).1
  exact ⟨clz_lt h.1, clz_lt h.2⟩
/-! what AlikeClasses holds -/
def acS : Nat → Nat → Prop := fun a b => (a = 8 ∨ a = 9 ∨ a = 10) ∧ b = 0
def acv (A : ZP) (x : Nat) (M : ZM) : Prop := M.1 8 0 2 = nI (cnt (isRep A) x) ∧ (∀ y, y < x → M.1 9 0 y = nI (clz A y)) ∧ ∀ y, y < x → isRep A y = true → M.1 10 0 (cnt (isRep A) y) = nI y
section
variable {G : ZG} {M : ZM} {Z : Option ZV → ZM → Prop}
theorem n_mask {x : Nat} (hx : x < 8) : nI x &&& nI 7 = nI x := by rw [n_and, show (7 : Nat) = 2 ^ 3 - 1 from rfl, Nat.and_two_pow_sub_one_eq_mod, Nat.mod_eq_of_lt hx]
theorem s_AC_classOf {x : Nat} (hx : x < 8) (hZ : Z (some (zi (M.1 9 0 x))) M) : Ctr 0 G mi_AC_classOf [zr 8 0, zi (nI x)] M Z := by
  refine go_AC_classOf (fun Kz hKz => ?_)
  conv => whnf
  rw [n_mask hx]
  refine ⟨vp_in_nI hx (by decide), ?_⟩
  conv => whnf
  rw [nI_clamp (by omega)]
  exact hZ
theorem s_AC_smallestOf {x : Nat} (hx : x < 8) (hZ : Z (some (zi (M.1 10 0 x))) M) : Ctr 0 G mi_AC_smallestOf [zr 8 0, zi (nI x)] M Z := by
  refine go_AC_smallestOf (fun Kz hKz => ?_)
  conv => whnf
  rw [n_mask hx]
  refine ⟨vp_in_nI hx (by decide), ?_⟩
  conv => whnf
  rw [nI_clamp (by omega)]
  exact hZ
theorem s_AC_areTwins {k x y : Nat} {A : ZP} (hk : k < 10) (hA : isPM M k A) (hx : x < A.1) (hy : y < A.1) (h1 : twin A x y → Z (some (zi (nI 1))) M) (h2 : ¬ twin A x y → Z (some (zi (nI 0))) M) : Ctr 0 G mi_AC_areTwins [zr 0 k, zi (nI x), zi (nI y)] M Z := by
  have hn := hA.1.1
  have lp : ∀ z, z ≤ A.1 → (∀ w, w < z → A.2.1 x w = A.2.1 y w ∧ A.2.2 w x = A.2.2 w y) → V 0 G mi_AC_areTwins Z 2 [(0, zr 0 k), (1, zi (nI x)), (2, zi (nI y)), (3, zi (nI z))] [] M := by
    refine up_to ?_ ?_
    · intro h
      refine z_run (cuts := cu_AC_areTwins) ok_AC_areTwins (fun Kz hKz => ?_)
      conv => whnf
      refine ⟨by first | assumption | decide, ?_⟩
      conv => whnf
      refine s_PM_points hk ?_
      conv => whnf
      rw [hA.2.1, nI_leI (by omega) (by omega)]
      refine ⟨fun _ => ?_, fun q => absurd (Nat.le_refl _) q⟩
      conv => whnf
      exact ⟨Or.inr rfl, h1 h⟩
    · intro z hz ih h
      have a1 := hA.1.2 x z hx hz
      have a2 := hA.1.2 y z hy hz
      have a3 := hA.1.2 z x hz hx
      have a4 := hA.1.2 z y hz hy
      refine z_run (cuts := cu_AC_areTwins) ok_AC_areTwins (fun Kz hKz => ?_)
      conv => whnf
      refine ⟨by first | assumption | decide, ?_⟩
      conv => whnf
      refine s_PM_points hk ?_
      conv => whnf
      rw [hA.2.1, nI_leI (by omega) (by omega)]
      refine ⟨fun q => absurd q (by omega), fun _ => ?_⟩
      conv => whnf
      refine ⟨by first | assumption | decide, ?_⟩
      conv => whnf
      refine s_PM_left hk hA hx hz ?_
      conv => whnf
      refine ⟨by first | assumption | decide, ?_⟩
      conv => whnf
      refine s_PM_left hk hA hy hz ?_
      conv => whnf
      rw [n_ne (by omega) (by omega)]
      refine ⟨fun q => ?_, fun q => ?_⟩
      · conv => whnf
        exact ⟨Or.inl rfl, h2 (fun w => q (w z hz).1)⟩
      · have q := Classical.not_not.mp q
        conv => whnf
        refine ⟨by first | assumption | decide, ?_⟩
        conv => whnf
        refine s_PM_right hk hA hz hx ?_
        conv => whnf
        refine ⟨by first | assumption | decide, ?_⟩
        conv => whnf
        refine s_PM_right hk hA hz hy ?_
        conv => whnf
        rw [nI_eq (by omega) (by omega)]
        refine ⟨fun q2 => ?_, fun q2 => ?_⟩
        · conv => whnf
          refine hKz _ _ _ _ ?_
          rw [nI_1']
          refine ih (fun w hw => ?_)
          rcases Nat.lt_succ_iff_lt_or_eq.mp hw with hw | rfl
          · exact h w hw
          · exact ⟨q, q2⟩
        · conv => whnf
          exact ⟨Or.inl rfl, h2 (fun w => q2 (w z hz).2)⟩
  refine go_AC_areTwins (fun Kz hKz => ?_)
  conv => whnf
  refine hKz _ _ _ _ ?_
  exact lp 0 (Nat.zero_le _) (fun w hw => absurd hw (Nat.not_lt_zero _))
theorem s_AC_smallestTwin {k x : Nat} {A : ZP} (hk : k < 10) (hA : isPM M k A) (hx : x < A.1) (hZ : Z (some (zi (nI (rep A x)))) M) : Ctr 0 G mi_AC_smallestTwin [zr 0 k, zi (nI x)] M Z := by
  have hn := hA.1.1
  have lp : ∀ y, y ≤ x → (∀ w, w < y → twb A x w = false) → V 0 G mi_AC_smallestTwin Z 2 [(0, zr 0 k), (1, zi (nI x)), (2, zi (nI y))] [] M := by
    refine up_to ?_ ?_
    · intro h
      have e : rep A x = x := by
        rcases Nat.lt_or_eq_of_le (rep_le A x) with q | q
        · have := h _ q; rw [twb_iff.mpr (rep_twin A x)] at this; cases this
        · exact q
      rw [e] at hZ
      refine z_run (cuts := cu_AC_smallestTwin) ok_AC_smallestTwin (fun Kz hKz => ?_)
      conv => whnf
      rw [nI_leI (by omega) (by omega)]
      refine ⟨fun _ => ?_, fun q => absurd (Nat.le_refl _) q⟩
      conv => whnf
      exact hZ
    · intro y hy ih h
      refine z_run (cuts := cu_AC_smallestTwin) ok_AC_smallestTwin (fun Kz hKz => ?_)
      conv => whnf
      rw [nI_leI (by omega) (by omega)]
      refine ⟨fun q => absurd q (by omega), fun _ => ?_⟩
      conv => whnf
      refine s_AC_areTwins hk hA hx (by omega) (fun q => ?_) (fun q => ?_)
      · conv => whnf
        first | refine ⟨fun _ => ?_, fun q => absurd (by decide) q⟩ | refine ⟨fun q => absurd q (by decide), fun _ => ?_⟩
        conv => whnf
        have e : rep A x = y := fnd_eq hy (twb_iff.mpr q) h
        rw [e] at hZ
        exact hZ
      · conv => whnf
        first | refine ⟨fun _ => ?_, fun q => absurd (by decide) q⟩ | refine ⟨fun q => absurd q (by decide), fun _ => ?_⟩
        conv => whnf
        refine hKz _ _ _ _ ?_
        rw [nI_1']
        refine ih (fun w hw => ?_)
        rcases Nat.lt_succ_iff_lt_or_eq.mp hw with hw | rfl
        · exact h w hw
        · exact twb_no.mpr q
  refine go_AC_smallestTwin (fun Kz hKz => ?_)
  conv => whnf
  refine hKz _ _ _ _ ?_
  exact lp 0 (Nat.zero_le _) (fun w hw => absurd hw (Nat.not_lt_zero _))
theorem acv_same {S : Nat → Nat → Prop} {M M' : ZM} {A : ZP} {x : Nat} (h : acv A x M) (hs : zsm S M M') (h8 : ¬ S 8 0) (h9 : ¬ S 9 0) (h10 : ¬ S 10 0) : acv A x M' := by
  unfold acv
  rw [hs.2 8 0 h8, hs.2 9 0 h9, hs.2 10 0 h10]
  exact h
theorem s_AC_find {k : Nat} {A : ZP} (hk : k < 10) (hA : isPM M k A) (hZ : ∀ M', zsm acS M M' → acv A A.1 M' → Z none M') : Ctr 0 G mi_AC_find [zr 8 0, zr 0 k] M Z := by
  have hn := hA.1.1
  have pk : ∀ {M' : ZM}, zsm acS M M' → isPM M' k A := fun h => isPM_same hA h (fun q => absurd q.1 (by decide)) (fun q => absurd q.1 (by decide))
  have lp : ∀ x, x ≤ A.1 → ∀ M', zsm acS M M' → acv A x M' → V 0 G mi_AC_find Z 7 [(0, zr 8 0), (1, zr 0 k), (2, zi (nI x))] [] M' := by
    refine up_to ?_ ?_
    · intro M' h1 h2
      refine z_run (cuts := cu_AC_find) ok_AC_find (fun Kz hKz => ?_)
      conv => whnf
      refine ⟨by first | assumption | decide, ?_⟩
      conv => whnf
      refine s_PM_points hk ?_
      conv => whnf
      rw [(pk h1).2.1, nI_leI (by omega) (by omega)]
      refine ⟨fun _ => ?_, fun q => absurd (Nat.le_refl _) q⟩
      conv => whnf
      exact hZ M' h1 h2
    · intro x hx ih M' h1 h2
      have hr := rep_le A x
      have hc := cnt_le (isRep A) x
      refine z_run (cuts := cu_AC_find) ok_AC_find (fun Kz hKz => ?_)
      conv => whnf
      refine ⟨by first | assumption | decide, ?_⟩
      conv => whnf
      refine s_PM_points hk ?_
      conv => whnf
      rw [(pk h1).2.1, nI_leI (by omega) (by omega)]
      refine ⟨fun q => absurd q (by omega), fun _ => ?_⟩
      conv => whnf
      refine s_AC_smallestTwin hk (pk h1) hx ?_
      conv => whnf
      rw [n_ne (by omega) (by omega)]
      refine ⟨fun q => ?_, fun q => ?_⟩
      · conv => whnf
        rw [n_mask (by omega)]
        refine s_AC_classOf (x := rep A x) (by omega) ?_
        conv => whnf
        refine ⟨vp_in_nI (show x < 8 by omega) (by decide), ?_⟩
        conv => whnf
        refine hKz _ _ _ _ ?_
        rw [nI_1', nI_clamp (by omega), h2.2.1 (rep A x) (by omega)]
        have e : clz A (rep A x) = clz A x := by unfold clz; rw [rep_rep]
        have e2 : isRep A x = false := decide_eq_false q
        rw [e]
        refine ih _ (zsm_trans h1 (zsm_set ⟨Or.inr (Or.inl rfl), rfl⟩)) ⟨?_, fun y hy => ?_, fun y hy hi => ?_⟩
        · rw [zset_ne (by omega), h2.1, cnt, e2]; rfl
        · rcases Nat.lt_succ_iff_lt_or_eq.mp hy with hy | rfl
          · rw [zset_ne (by omega)]; exact h2.2.1 y hy
          · exact zset_eq
        · rcases Nat.lt_succ_iff_lt_or_eq.mp hy with hy | rfl
          · rw [zset_ne (by omega)]; exact h2.2.2 y hy hi
          · rw [e2] at hi; cases hi
      · have q := Classical.not_not.mp q
        have e2 : isRep A x = true := decide_eq_true q
        conv => whnf
        rw [h2.1, n_mask (by omega)]
        refine ⟨vp_in_nI (show cnt (isRep A) x < 8 by omega) (by decide), ?_⟩
        conv => whnf
        rw [n_mask (by omega), zset_ne (by omega), h2.1]
        refine ⟨vp_in_nI (show x < 8 by omega) (by decide), ?_⟩
        conv => whnf
        refine hKz _ _ _ _ ?_
        rw [zset_ne (by omega), zset_ne (by omega), h2.1, nI_1', nI_1', nI_clamp (by omega), nI_clamp (by omega)]
        have e : clz A x = cnt (isRep A) x := by unfold clz; rw [q]
        rw [← e]
        refine ih _ (zsm_trans (zsm_trans (zsm_trans h1 (zsm_set ⟨Or.inr (Or.inr rfl), rfl⟩)) (zsm_set ⟨Or.inr (Or.inl rfl), rfl⟩)) (zsm_set ⟨Or.inl rfl, rfl⟩)) ⟨?_, fun y hy => ?_, fun y hy hi => ?_⟩
        · rw [zset_eq, cnt, e2, e]; rfl
        · rw [zset_ne (by omega)]
          rcases Nat.lt_succ_iff_lt_or_eq.mp hy with hy | rfl
          · rw [zset_ne (by omega), zset_ne (by omega)]; exact h2.2.1 y hy
          · exact zset_eq
        · rw [zset_ne (by omega), zset_ne (by omega)]
          rcases Nat.lt_succ_iff_lt_or_eq.mp hy with hy | rfl
          · have := cnt_step hi hy
            rw [zset_ne (by omega)]; exact h2.2.2 y hy hi
          · rw [e]; exact zset_eq
  refine go_AC_find (fun Kz hKz => ?_)
  conv => whnf
  refine hKz _ _ _ _ ?_
  exact lp 0 (Nat.zero_le _) _ (zsm_set ⟨Or.inl rfl, rfl⟩) ⟨zset_eq, fun y hy => absurd hy (Nat.not_lt_zero _), fun y hy => absurd hy (Nat.not_lt_zero _)⟩
end
