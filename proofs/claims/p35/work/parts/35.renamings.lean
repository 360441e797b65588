/-! permutations in their order -/
def gw (w : List Nat) (x : Nat) : Nat := w.getD x 0
def sw (w : List Nat) (i j : Nat) : List Nat := (w.set i (gw w j)).set j (gw w i)
theorem sw_len (w : List Nat) (i j : Nat) : (sw w i j).length = w.length := by simp [sw]
theorem gw_sw {w : List Nat} {i j : Nat} (hi : i < w.length) (hj : j < w.length) (x : Nat) : gw (sw w i j) x = if x = j then gw w i else if x = i then gw w j else gw w x := by
  unfold gw sw
  simp only [List.getD_eq_getElem?_getD, List.getElem?_set, List.length_set]
  by_cases h1 : x = j
  · subst h1; simp [hj, gw]
  · by_cases h2 : x = i
    · subst h2; simp [hi, h1, Ne.symm h1, gw]
    · simp [h1, h2, Ne.symm h1, Ne.symm h2]
def pvt (w : List Nat) : Nat → Nat
  | 0 => 0
  | i + 1 => if gw w i ≤ gw w (i + 1) then i + 1 else pvt w i
def grt (w : List Nat) (p : Nat) : Nat → Nat
  | 0 => 0
  | j + 1 => if p < j + 1 ∧ gw w (j + 1) < gw w p then grt w p j else j + 1
def rvs (w : List Nat) : Nat → Nat → Nat → List Nat
  | 0, _, _ => w
  | f + 1, l, h => if l < h then rvs (sw w l h) f (l + 1) (h - 1) else w
def nxp (w : List Nat) : List Nat := if pvt w (w.length - 1) = 0 then w else rvs (sw w (pvt w (w.length - 1) - 1) (grt w (pvt w (w.length - 1) - 1) (w.length - 1))) w.length (pvt w (w.length - 1)) (w.length - 1)
def pw (n : Nat) : Nat → List Nat
  | 0 => List.range n
  | j + 1 => nxp (pw n j)
def rnS : Nat → Nat → Prop := fun a b => a = 12 ∧ b = 0
def isW (M : ZM) (w : List Nat) : Prop := ∀ x, x < w.length → M.1 12 0 x = nI (gw w x)
theorem isW_sw {M : ZM} {w : List Nat} {i j : Nat} (h : isW M w) (hi : i < w.length) (hj : j < w.length) : isW (zset 12 0 j (M.1 12 0 i) (zset 12 0 i (M.1 12 0 j) M)) (sw w i j) := by
  intro x hx
  rw [sw_len] at hx
  rw [gw_sw hi hj]
  by_cases h1 : x = j
  · rw [if_pos h1, h1, zset_eq]; exact h i hi
  · rw [if_neg h1, zset_ne (by omega)]
    by_cases h2 : x = i
    · rw [if_pos h2, h2, zset_eq]; exact h j hj
    · rw [if_neg h2, zset_ne (by omega)]; exact h x hx
section
variable {G : ZG} {M : ZM} {Z : Option ZV → ZM → Prop}
theorem s_RN_imageOf {x : Nat} (hx : x < 8) (hZ : Z (some (zi (M.1 12 0 x))) M) : Ctr 0 G mi_RN_imageOf [zr 11 0, zi (nI x)] M Z := by
  refine go_RN_imageOf (fun Kz hKz => ?_)
  conv => whnf
  rw [n_mask hx]
  refine ⟨vp_in_nI hx (by decide), ?_⟩
  conv => whnf
  rw [nI_clamp (by omega)]
  exact hZ
theorem s_RN_swap {x y : Nat} (hx : x < 8) (hy : y < 8) (hZ : Z none (zset 12 0 y (M.1 12 0 x) (zset 12 0 x (M.1 12 0 y) M))) : Ctr 0 G mi_RN_swap [zr 11 0, zi (nI x), zi (nI y)] M Z := by
  refine go_RN_swap (fun Kz hKz => ?_)
  conv => whnf
  refine s_RN_imageOf hx ?_
  conv => whnf
  rw [n_mask hx]
  refine s_RN_imageOf hy ?_
  conv => whnf
  refine ⟨vp_in_nI hx (by decide), ?_⟩
  conv => whnf
  rw [n_mask hy, nI_clamp (by omega)]
  refine ⟨vp_in_nI hy (by decide), ?_⟩
  conv => whnf
  rw [nI_clamp (by omega)]
  exact hZ
theorem s_RN_start (hZ : ∀ M', zsm rnS M M' → (∀ n, n ≤ 6 → isW M' (List.range n)) → Z none M') : Ctr 0 G mi_RN_start [zr 11 0] M Z := by
  have lp : ∀ i, i ≤ 8 → ∀ M', zsm rnS M M' → (∀ x, x < i → M'.1 12 0 x = nI x) → V 0 G mi_RN_start Z 2 [(0, zr 11 0), (1, zi (nI i))] [] M' := by
    refine up_to ?_ ?_
    · intro M' h1 h2
      have h3 : ∀ n, n ≤ 6 → isW M' (List.range n) := fun n hn x hx => by
        rw [List.length_range] at hx
        rw [h2 x (by omega)]
        simp [gw, hx]
      refine z_run (cuts := cu_RN_start) ok_RN_start (fun Kz hKz => ?_)
      conv => whnf
      first | refine ⟨fun _ => ?_, fun q => absurd (by decide) q⟩ | refine ⟨fun q => absurd q (by decide), fun _ => ?_⟩
      conv => whnf
      exact hZ M' h1 h3
    · intro i hi ih M' h1 h2
      refine z_run (cuts := cu_RN_start) ok_RN_start (fun Kz hKz => ?_)
      conv => whnf
      rw [nI_ltI (by omega) (by omega)]
      refine ⟨fun q => absurd q (by omega), fun _ => ?_⟩
      conv => whnf
      refine ⟨vp_in_nI hi (by decide), ?_⟩
      conv => whnf
      refine hKz _ _ _ _ ?_
      rw [nI_clamp (by omega), nI_1']
      refine ih _ (zsm_trans h1 (zsm_set ⟨rfl, rfl⟩)) (fun x hx => ?_)
      rcases Nat.lt_succ_iff_lt_or_eq.mp hx with hx | rfl
      · rw [zset_ne (by omega)]; exact h2 x hx
      · exact zset_eq
  refine go_RN_start (fun Kz hKz => ?_)
  conv => whnf
  refine hKz _ _ _ _ ?_
  exact lp 0 (Nat.zero_le _) M (zsm_refl _ _) (fun x hx => absurd hx (Nat.not_lt_zero _))
theorem pvI_two : ∀ n, n < 7 → 0 < n → nI n - nI 2 = nI (n - 1 + 4294967295) := by decide +kernel
theorem s_RN_step {w : List Nat} {n : Nat} (hl : w.length = n) (h1 : 1 ≤ n) (h6 : n ≤ 6) (hb : ∀ x, gw w x < 8) (hw : isW M w) (hZ : ∀ M', zsm rnS M M' → isW M' (nxp w) → Z none M') : Ctr 0 G mi_RN_step [zr 11 0, zi (nI n)] M Z := by
  subst hl
  have lp3 : ∀ f l h v M', zsm rnS M M' → isW M' v → v.length = w.length → h ≤ l + f → h < w.length → l ≤ w.length → rvs v f l h = nxp w → V 0 G mi_RN_step Z 78 [(0, zr 11 0), (4, zi (nI h)), (5, zi (nI l))] [] M' := by
    intro f
    induction f with
    | zero =>
      intro l h v M' g1 g2 g3 g4 g5 g6 g7
      rw [rvs] at g7
      refine z_run (cuts := cu_RN_step) ok_RN_step (fun Kz hKz => ?_)
      conv => whnf
      rw [nI_leI (by omega) (by omega)]
      refine ⟨fun _ => ?_, fun q => absurd (show h ≤ l by omega) q⟩
      conv => whnf
      exact hZ M' g1 (by rw [← g7]; exact g2)
    | succ f ih =>
      intro l h v M' g1 g2 g3 g4 g5 g6 g7
      rw [rvs] at g7
      refine z_run (cuts := cu_RN_step) ok_RN_step (fun Kz hKz => ?_)
      conv => whnf
      rw [nI_leI (by omega) (by omega)]
      refine ⟨fun q => ?_, fun q => ?_⟩
      · rw [if_neg (by omega)] at g7
        conv => whnf
        exact hZ M' g1 (by rw [← g7]; exact g2)
      · rw [if_pos (by omega)] at g7
        obtain ⟨d, rfl⟩ : ∃ d, h = d + 1 := ⟨h - 1, by omega⟩
        conv => whnf
        refine s_RN_swap (by omega) (by omega) ?_
        conv => whnf
        refine hKz _ _ _ _ ?_
        rw [pk_m1, nI_1']
        exact ih (l + 1) d (sw v l (d + 1)) _ (zsm_trans (zsm_trans g1 (zsm_set ⟨rfl, rfl⟩)) (zsm_set ⟨rfl, rfl⟩)) (isW_sw g2 (by omega) (by omega)) (by rw [sw_len, g3]) (by omega) (by omega) (by omega) g7
  have lp2 : ∀ p, pvt w (w.length - 1) = p + 1 → p + 1 < w.length → ∀ j, p ≤ j → j < w.length → grt w p j = grt w p (w.length - 1) → V 0 G mi_RN_step Z 38 [(0, zr 11 0), (1, zi (nI w.length)), (2, zi (nI p)), (3, zi (nI j))] [] M := by
    intro p hp hpl
    have tail : ∀ j, p ≤ j → j < w.length → j = grt w p (w.length - 1) → ∀ M', M' = zset 12 0 j (M.1 12 0 p) (zset 12 0 p (M.1 12 0 j) M) → V 0 G mi_RN_step Z 78 [(0, zr 11 0), (4, zi (nI (w.length - 1))), (5, zi (nI (p + 1)))] [] M' := by
      rintro j hj1 hj2 hj3 M' rfl
      refine lp3 w.length (p + 1) (w.length - 1) (sw w p j) _ (zsm_trans (zsm_set ⟨rfl, rfl⟩) (zsm_set ⟨rfl, rfl⟩)) (isW_sw hw (by omega) hj2) (sw_len _ _ _) (by omega) (by omega) (by omega) ?_
      rw [nxp, hp, if_neg (by omega), Nat.add_sub_cancel, ← hj3]
    intro j
    induction j with
    | zero =>
      intro g1 g2 g3
      have hp0 : p = 0 := by omega
      subst hp0
      refine z_run (cuts := cu_RN_step) ok_RN_step (fun Kz hKz => ?_)
      conv => whnf
      refine ⟨fun _ => ?_, fun q => absurd ((nI_leI (by omega) (by omega)).mpr (Nat.le_refl 0)) q⟩
      conv => whnf
      refine s_RN_swap (by omega) (by omega) ?_
      conv => whnf
      refine hKz _ _ _ _ ?_
      rw [pk_sub (by omega), nI_1']
      exact tail 0 g1 g2 g3 _ rfl
    | succ j ih =>
      intro g1 g2 g3
      rw [grt] at g3
      refine z_run (cuts := cu_RN_step) ok_RN_step (fun Kz hKz => ?_)
      conv => whnf
      rw [nI_leI (by omega) (by omega)]
      refine ⟨fun q => ?_, fun q => ?_⟩
      · rw [if_neg (by omega)] at g3
        conv => whnf
        refine s_RN_swap (by omega) (by omega) ?_
        conv => whnf
        refine hKz _ _ _ _ ?_
        rw [pk_sub (by omega), nI_1']
        exact tail (j + 1) g1 g2 g3 _ rfl
      · have b1 := hb (j + 1)
        have b2 := hb p
        conv => whnf
        refine s_RN_imageOf (by omega) ?_
        conv => whnf
        rw [hw (j + 1) g2]
        refine s_RN_imageOf (by omega) ?_
        conv => whnf
        rw [hw p (by omega), nI_leI (by omega) (by omega)]
        refine ⟨fun q2 => ?_, fun q2 => ?_⟩
        · rw [if_neg (by omega)] at g3
          conv => whnf
          refine s_RN_swap (by omega) (by omega) ?_
          conv => whnf
          refine hKz _ _ _ _ ?_
          rw [pk_sub (by omega), nI_1']
          exact tail (j + 1) g1 g2 g3 _ rfl
        · rw [if_pos (by omega)] at g3
          conv => whnf
          refine hKz _ _ _ _ ?_
          rw [pk_m1]
          exact ih (by omega) (by omega) g3
  have lp1 : ∀ i, i < w.length → pvt w i = pvt w (w.length - 1) → V 0 G mi_RN_step Z 4 [(0, zr 11 0), (1, zi (nI w.length)), (2, zi (nI (i + 4294967295)))] [] M := by
    intro i
    induction i with
    | zero =>
      intro g1 g2
      rw [pvt] at g2
      have e : nxp w = w := by rw [nxp, if_pos g2.symm]
      rw [e] at hZ
      refine z_run (cuts := cu_RN_step) ok_RN_step (fun Kz hKz => ?_)
      conv => whnf
      first | refine ⟨fun _ => ?_, fun q => absurd (by decide) q⟩ | refine ⟨fun q => absurd q (by decide), fun _ => ?_⟩
      conv => whnf
      first | refine ⟨fun _ => ?_, fun q => absurd (by decide) q⟩ | refine ⟨fun q => absurd q (by decide), fun _ => ?_⟩
      conv => whnf
      exact hZ M (zsm_refl _ _) hw
    | succ i ih =>
      intro g1 g2
      rw [pvt] at g2
      have b1 := hb i
      have b2 := hb (i + 1)
      have e : nI (i + 1 + 4294967295) = nI i := by rw [show i + 1 + 4294967295 = i + 2 ^ 32 * 1 by omega]; exact nI_wrap i 1
      rw [e]
      refine z_run (cuts := cu_RN_step) ok_RN_step (fun Kz hKz => ?_)
      conv => whnf
      rw [nI_ltI (by omega) (by omega)]
      refine ⟨fun q => absurd q (by omega), fun _ => ?_⟩
      conv => whnf
      refine s_RN_imageOf (by omega) ?_
      conv => whnf
      rw [hw i (by omega), nI_1']
      refine s_RN_imageOf (by omega) ?_
      conv => whnf
      rw [hw (i + 1) g1, nI_leI (by omega) (by omega)]
      refine ⟨fun q => ?_, fun q => ?_⟩
      · rw [if_pos q] at g2
        conv => whnf
        rw [nI_leI (by omega) (by omega)]
        refine ⟨fun _ => ?_, fun q => absurd (Nat.zero_le _) q⟩
        conv => whnf
        refine hKz _ _ _ _ ?_
        rw [pk_sub (by omega)]
        exact lp2 i g2.symm g1 (w.length - 1) (by omega) (by omega) rfl
      · rw [if_neg q] at g2
        conv => whnf
        refine hKz _ _ _ _ ?_
        rw [n_m1, nI_add]
        exact ih (by omega) g2
  refine go_RN_step (fun Kz hKz => ?_)
  conv => whnf
  refine hKz _ _ _ _ ?_
  rw [pvI_two _ (by omega) (by omega)]
  exact lp1 (w.length - 1) (by omega) rfl
end
