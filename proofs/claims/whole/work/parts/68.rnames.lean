/-! the reference: names one after the other -/
def nF (a _c : Nat) : Prop := a = 24
def isN (M : ZM) (w : List Nat) : Prop := ∀ x, x < w.length → M.1 24 0 x = nI (gw w x)
theorem isN_sw {M : ZM} {w : List Nat} {i j : Nat} (h : isN M w) (hi : i < w.length) (hj : j < w.length) : isN (zset 24 0 j (M.1 24 0 i) (zset 24 0 i (M.1 24 0 j) M)) (sw w i j) := by
  intro x hx
  rw [sw_len] at hx
  rw [gw_sw hi hj]
  by_cases h1 : x = j
  · rw [if_pos h1, h1, zset_eq]; exact h i hi
  · rw [if_neg h1, zset_ne (by omega)]
    by_cases h2 : x = i
    · rw [if_pos h2, h2, zset_eq]; exact h j hj
    · rw [if_neg h2, zset_ne (by omega)]; exact h x hx
theorem nF_no : ∀ a c, nF a c → ¬ rst a c := fun a c h => by unfold nF at h; unfold rst; omega
theorem rsm_n {M M' : ZM} (h : rf nF M M') : rsm M M' := rsm_rf h (fun a c q => by unfold nF at q; omega)
theorem isRM_n {M M' : ZM} {k : Nat} {A : ZP} (h : isRM M k A) (hs : rf nF M M') : isRM M' k A := isRM_rf h hs (fun a c q z => by unfold nF at q; unfold rgm at z; omega)
theorem lo_like {v0 v1 v2 : ZV} {a3 a4 a5 a6 a7 : Int32} : lput 7 (zi a7) (lput 6 (zi a6) [(0, v0), (1, v1), (2, v2), (3, zi a3), (4, zi a4), (5, zi a5)]) = [(0, v0), (1, v1), (2, v2), (3, zi a3), (4, zi a4), (5, zi a5), (6, zi a6), (7, zi a7)] := rfl
def lkF (a c : Nat) : Prop := a = 24 ∨ (a = 20 ∧ c = 9)
theorem lkF_no : ∀ a c, lkF a c → ¬ rst a c := fun a c h => by unfold lkF at h; unfold rst; omega
theorem rsm_lk {M M' : ZM} (h : rf lkF M M') : rsm M M' := rsm_rf h (fun a c q => by unfold lkF at q; omega)
theorem isRM_lk {M M' : ZM} {k : Nat} {A : ZP} (h : isRM M k A) (hs : rf lkF M M') : isRM M' k A := isRM_rf h hs (fun a c q z => by unfold lkF at q; unfold rgm at z; omega)
theorem pw_last {n j : Nat} (h1 : 1 ≤ n) (h6 : n ≤ 6) (hj : j < fac n) : pvt (pw n j) (n - 1) = 0 ↔ j + 1 = fac n := by
  have h := pw_last6 n h6 h1 j hj
  constructor
  · intro q; rw [decide_eq_true q] at h; exact of_decide_eq_true h.symm
  · intro q; rw [decide_eq_true q] at h; exact of_decide_eq_true h
/-- what is kept of the likenesses: the code of number i -/
def lkS (A B : ZP) (i j : Nat) (x : Int32) : Prop := (x = -1 ∧ (i < 2 ^ 31 → nIso A B j ≤ i)) ∨ ∃ v, v < j ∧ isoB A B (pw A.1 v) = true ∧ nIso A B v = i ∧ x = nI (codW (pw A.1 v) A.1)
section
variable {G : ZG} {M : ZM} {Z : Option ZV → ZM → Prop} {S : ZS}
theorem s_R_firstName {n : Nat} (h6 : n ≤ 6) (hZ : ∀ M', rf nF M M' → isN M' (List.range n) → Z none M') : Ctr 0 G mi_R_firstName [zr 20 0, zi (nI n)] M Z := by
  have lp : ∀ i, i ≤ n → ∀ M', rf nF M M' → (∀ x, x < i → M'.1 24 0 x = nI x) → V 0 G mi_R_firstName Z 2 [(0, zr 20 0), (1, zi (nI n)), (2, zi (nI i))] [] M' := by
    refine up_to ?_ ?_
    · intro M' g1 g2
      refine z_run (cuts := cu_R_firstName) ok_R_firstName (fun Kz hKz => ?_)
      conv => whnf
      rw [nI_leI (by omega) (by omega)]
      refine ⟨fun _ => ?_, fun q => absurd (by omega) q⟩
      conv => whnf
      refine hZ M' g1 (fun x hx => ?_)
      rw [List.length_range] at hx
      rw [g2 x hx]
      simp [gw, hx]
    · intro i hi ih M' g1 g2
      refine z_run (cuts := cu_R_firstName) ok_R_firstName (fun Kz hKz => ?_)
      conv => whnf
      rw [nI_leI (by omega) (by omega)]
      refine ⟨fun q => absurd q (by omega), fun _ => ?_⟩
      conv => whnf
      refine ⟨vp_in_nI (by omega) (by decide), ?_⟩
      conv => whnf
      refine hKz _ _ _ _ ?_
      rw [nI_clamp (by omega), nI_1']
      refine ih _ (rf_trans g1 (rf_set rfl)) (fun x hx => ?_)
      rcases fin_cases_eq hx with z | z
      · rw [zset_ne (by omega)]; exact g2 x z
      · rw [z]; exact zset_eq
  refine go_R_firstName (fun Kz hKz => ?_)
  conv => whnf
  refine hKz _ _ _ _ ?_
  exact lp 0 (Nat.zero_le _) M (rf_refl _ _) (fun x hx => absurd hx (Nat.not_lt_zero _))
theorem s_R_nextName {w : List Nat} {n : Nat} (hl : w.length = n) (h1 : 1 ≤ n) (h6 : n ≤ 6) (hb : ∀ x, gw w x < 8) (hw : isN M w) (hno : pvt w (n - 1) = 0 → Z (some (zi (nI 0))) M) (hZ : ¬ pvt w (n - 1) = 0 → ∀ M', rf nF M M' → isN M' (nxp w) → Z (some (zi (nI 1))) M') : Ctr 0 G mi_R_nextName [zr 20 0, zi (nI n)] M Z := by
  subst hl
  have lp3 : ∀ p, ¬ pvt w (w.length - 1) = 0 → ∀ f k v M', rf nF M M' → isN M' v → v.length = w.length → 1 ≤ k → w.length - k ≤ p + k + f → p + k ≤ w.length → rvs v f (p + k) (w.length - k) = nxp w → V 0 G mi_R_nextName Z 93 [(0, zr 20 0), (1, zi (nI w.length)), (2, zi (nI p)), (5, zi (nI k))] [] M' := by
    intro p hp f
    induction f with
    | zero =>
      intro k v M' g1 g2 g3 g4 g5 g6 g7
      rw [rvs] at g7
      refine z_run (cuts := cu_R_nextName) ok_R_nextName (fun Kz hKz => ?_)
      conv => whnf
      rw [nI_add, pk_sub (by omega), nI_leI (by omega) (by omega)]
      refine ⟨fun _ => ?_, fun q => absurd (by omega) q⟩
      conv => whnf
      exact ⟨Or.inr rfl, hZ hp M' g1 (by rw [← g7]; exact g2)⟩
    | succ f ih =>
      intro k v M' g1 g2 g3 g4 g5 g6 g7
      rw [rvs] at g7
      refine z_run (cuts := cu_R_nextName) ok_R_nextName (fun Kz hKz => ?_)
      conv => whnf
      rw [nI_add, pk_sub (by omega), nI_leI (by omega) (by omega)]
      refine ⟨fun q => ?_, fun q => ?_⟩
      · rw [if_neg (by omega)] at g7
        conv => whnf
        exact ⟨Or.inr rfl, hZ hp M' g1 (by rw [← g7]; exact g2)⟩
      · rw [if_pos (by omega)] at g7
        conv => whnf
        rw [nI_add]
        refine ⟨vp_in_nI (by omega) (by decide), ?_⟩
        conv => whnf
        rw [nI_clamp (by omega), nI_add, pk_sub (by omega)]
        refine ⟨vp_in_nI (by omega) (by decide), ?_⟩
        conv => whnf
        refine ⟨vp_in_nI (by omega) (by decide), ?_⟩
        conv => whnf
        rw [nI_clamp (by omega), nI_clamp (by omega), pk_sub (by omega)]
        refine ⟨vp_in_nI (by omega) (by decide), ?_⟩
        conv => whnf
        refine hKz _ _ _ _ ?_
        rw [nI_clamp (by omega), nI_1']
        exact ih (k + 1) (sw v (p + k) (w.length - k)) _ (rf_trans (rf_trans g1 (rf_set rfl)) (rf_set rfl)) (isN_sw g2 (by omega) (by omega)) (by rw [sw_len, g3]) (by omega) (by omega) (by omega) (by rw [← Nat.add_assoc, show w.length - (k + 1) = w.length - k - 1 by omega]; exact g7)
  have lp2 : ∀ p, pvt w (w.length - 1) = p + 1 → p + 1 < w.length → ∀ j, p ≤ j → j < w.length → grt w p j = grt w p (w.length - 1) → V 0 G mi_R_nextName Z 41 [(0, zr 20 0), (1, zi (nI w.length)), (2, zi (nI p)), (3, zi (nI j))] [] M := by
    intro p hp hpl
    have tail : ∀ j, p ≤ j → j < w.length → j = grt w p (w.length - 1) → ∀ M', M' = zset 24 0 j (M.1 24 0 p) (zset 24 0 p (M.1 24 0 j) M) → V 0 G mi_R_nextName Z 93 [(0, zr 20 0), (1, zi (nI w.length)), (2, zi (nI p)), (5, zi (nI 1))] [] M' := by
      rintro j hj1 hj2 hj3 M' rfl
      refine lp3 p (by omega) w.length 1 (sw w p j) _ (rf_trans (rf_set rfl) (rf_set rfl)) (isN_sw hw (by omega) hj2) (sw_len _ _ _) (Nat.le_refl _) (by omega) (by omega) ?_
      rw [nxp, hp, if_neg (by omega), Nat.add_sub_cancel, ← hj3]
    intro j
    induction j with
    | zero =>
      intro g1 g2 g3
      have hp0 : p = 0 := by omega
      subst hp0
      have b1 := hb 0
      refine z_run (cuts := cu_R_nextName) ok_R_nextName (fun Kz hKz => ?_)
      conv => whnf
      refine ⟨vp_in_nI (by omega) (by decide), ?_⟩
      conv => whnf
      refine ⟨vp_in_nI (by omega) (by decide), ?_⟩
      conv => whnf
      rw [nI_clamp (by omega), hw 0 g2, nI_leI (by omega) (by omega)]
      refine ⟨fun _ => ?_, fun q => absurd (Nat.le_refl _) q⟩
      conv => whnf
      refine ⟨vp_in_nI (by omega) (by decide), ?_⟩
      conv => whnf
      refine ⟨vp_in_nI (by omega) (by decide), ?_⟩
      conv => whnf
      refine ⟨vp_in_nI (by omega) (by decide), ?_⟩
      conv => whnf
      refine ⟨vp_in_nI (by omega) (by decide), ?_⟩
      conv => whnf
      refine hKz _ _ _ _ ?_
      rw [nI_clamp (by omega)]
      exact tail 0 g1 g2 g3 _ rfl
    | succ j ih =>
      intro g1 g2 g3
      rw [grt] at g3
      have b1 := hb (j + 1)
      have b2 := hb p
      refine z_run (cuts := cu_R_nextName) ok_R_nextName (fun Kz hKz => ?_)
      conv => whnf
      refine ⟨vp_in_nI (by omega) (by decide), ?_⟩
      conv => whnf
      refine ⟨vp_in_nI (by omega) (by decide), ?_⟩
      conv => whnf
      rw [nI_clamp (by omega), nI_clamp (by omega), hw (j + 1) g2, hw p (by omega), nI_leI (by omega) (by omega)]
      refine ⟨fun q => ?_, fun q => ?_⟩
      · rw [if_neg (by omega)] at g3
        conv => whnf
        refine ⟨vp_in_nI (by omega) (by decide), ?_⟩
        conv => whnf
        refine ⟨vp_in_nI (by omega) (by decide), ?_⟩
        conv => whnf
        refine ⟨vp_in_nI (by omega) (by decide), ?_⟩
        conv => whnf
        refine ⟨vp_in_nI (by omega) (by decide), ?_⟩
        conv => whnf
        refine hKz _ _ _ _ ?_
        rw [nI_clamp (by omega), nI_clamp (by omega)]
        exact tail (j + 1) g1 g2 g3 _ rfl
      · have hpj : p < j + 1 := by
          rcases Nat.lt_or_ge p (j + 1) with z | z
          · exact z
          · have : p = j + 1 := by omega
            rw [this] at q
            exact absurd (Nat.le_refl _) q
        rw [if_pos (by omega)] at g3
        conv => whnf
        refine hKz _ _ _ _ ?_
        rw [pk_m1]
        exact ih (by omega) (by omega) g3
  have lp1 : ∀ i, i < w.length → pvt w i = pvt w (w.length - 1) → V 0 G mi_R_nextName Z 4 [(0, zr 20 0), (1, zi (nI w.length)), (2, zi (nI (i + 4294967295)))] [] M := by
    intro i
    induction i with
    | zero =>
      intro g1 g2
      rw [pvt] at g2
      refine z_run (cuts := cu_R_nextName) ok_R_nextName (fun Kz hKz => ?_)
      conv => whnf
      first | refine ⟨fun _ => ?_, fun q => absurd (by decide) q⟩ | refine ⟨fun q => absurd q (by decide), fun _ => ?_⟩
      conv => whnf
      first | refine ⟨fun _ => ?_, fun q => absurd (by decide) q⟩ | refine ⟨fun q => absurd q (by decide), fun _ => ?_⟩
      conv => whnf
      exact ⟨Or.inl rfl, hno g2.symm⟩
    | succ i ih =>
      intro g1 g2
      rw [pvt] at g2
      have b1 := hb i
      have b2 := hb (i + 1)
      have e : nI (i + 1 + 4294967295) = nI i := by rw [show i + 1 + 4294967295 = i + 2 ^ 32 * 1 by omega]; exact nI_wrap i 1
      rw [e]
      refine z_run (cuts := cu_R_nextName) ok_R_nextName (fun Kz hKz => ?_)
      conv => whnf
      rw [nI_ltI (by omega) (by omega)]
      refine ⟨fun q => absurd q (by omega), fun _ => ?_⟩
      conv => whnf
      refine ⟨vp_in_nI (by omega) (by decide), ?_⟩
      conv => whnf
      rw [nI_1']
      refine ⟨vp_in_nI (by omega) (by decide), ?_⟩
      conv => whnf
      rw [nI_clamp (by omega), nI_clamp (by omega), hw i (by omega), hw (i + 1) g1, nI_leI (by omega) (by omega)]
      refine ⟨fun q => ?_, fun q => ?_⟩
      · rw [if_pos q] at g2
        conv => whnf
        rw [nI_leI (by omega) (by omega)]
        refine ⟨fun _ => ?_, fun q => absurd (Nat.zero_le _) q⟩
        conv => whnf
        refine hKz _ _ _ _ ?_
        rw [pk_sub (by omega)]
        exact lp2 i g2.symm g1 (w.length - 1) (by omega) (by omega) rfl
      · rw [if_neg q] at g2
        conv => whnf
        refine hKz _ _ _ _ ?_
        rw [n_m1, nI_add]
        exact ih (by omega) g2
  refine go_R_nextName (fun Kz hKz => ?_)
  conv => whnf
  refine hKz _ _ _ _ ?_
  rw [pvI_two _ (by omega) (by omega)]
  exact lp1 (w.length - 1) (by omega) rfl
theorem s_R_nameCode {w : List Nat} {n : Nat} (h6 : n ≤ 6) (hw : isN M w) (hv : wv w n) (hZ : Z (some (zi (nI (codW w n)))) M) : Ctr 0 G mi_R_nameCode [zr 20 0, zi (nI n)] M Z := by
  have lp : ∀ i, i ≤ n → V 0 G mi_R_nameCode Z 4 [(0, zr 20 0), (1, zi (nI n)), (2, zi (nI (codW w i))), (3, zi (nI i))] [] M := by
    refine up_to ?_ ?_
    · refine z_run (cuts := cu_R_nameCode) ok_R_nameCode (fun Kz hKz => ?_)
      conv => whnf
      rw [nI_leI (by omega) (by omega)]
      refine ⟨fun _ => ?_, fun q => absurd (by omega) q⟩
      conv => whnf
      exact hZ
    · intro i hi ih
      refine z_run (cuts := cu_R_nameCode) ok_R_nameCode (fun Kz hKz => ?_)
      conv => whnf
      rw [nI_leI (by omega) (by omega)]
      refine ⟨fun q => absurd q (by omega), fun _ => ?_⟩
      conv => whnf
      refine ⟨vp_in_nI (by omega) (by decide), ?_⟩
      conv => whnf
      refine hKz _ _ _ _ ?_
      rw [nI_clamp (by omega), hw i (by rw [hv.1]; exact hi), pk_mul, n_shl _ _ (by omega), n_or, nI_1', Nat.pow_mul]
      exact ih
  refine go_R_nameCode (fun Kz hKz => ?_)
  conv => whnf
  refine hKz _ _ _ _ ?_
  exact lp 0 (Nat.zero_le _)
theorem s_R_isLike {a b : Nat} {A B : ZP} {w : List Nat} (ha : a < 6) (hb : b < 6) (hA : isRM M a A) (hB : isRM M b B) (hAB : A.1 = B.1) (h0 : 0 < A.1) (hw : isN M w) (hv : wv w A.1) (hZ : Z (some (zi (b2i (isoB A B w)))) M) : Ctr 0 G mi_R_isLike [zr 20 0, zi (nI a), zi (nI b)] M Z := by
  have hn := hA.1.1
  have hnn : A.1 * A.1 ≤ 6 * 6 := Nat.mul_le_mul hn hn
  have hz := n_nz (b := A.1) (by omega) (by omega)
  have rd : ∀ x, x < A.1 → M.1 24 0 x = nI (gw w x) := fun x hx => hw x (by rw [hv.1]; exact hx)
  have fin : ∀ k, k ≤ A.1 * A.1 → ∀ c : Bool, (c = true ↔ ∀ j, j < k → B.2.1 (gw w (j / A.1)) (gw w (j % A.1)) = gw w (A.2.1 (j / A.1) (j % A.1)) ∧ B.2.2 (gw w (j / A.1)) (gw w (j % A.1)) = gw w (A.2.2 (j / A.1) (j % A.1))) → (k = A.1 * A.1 ∨ c = false) → c = isoB A B w := by
    intro k hk c hc hor
    rw [Bool.eq_iff_iff, isoB_iff]
    constructor
    · intro q x hx y hy
      rcases hor with z | z
      · have := hc.mp q (A.1 * x + y) (by rw [z]; exact prlt hx hy)
        rw [(dvm hy).1, (dvm hy).2] at this
        exact this
      · rw [z] at q; cases q
    · intro q
      refine hc.mpr (fun j hj => ?_)
      have hd := dvlt (show j < A.1 * A.1 by omega)
      exact q _ hd.1 _ hd.2
  have lp : ∀ k, k ≤ A.1 * A.1 → ∀ c : Bool, (c = true ↔ ∀ j, j < k → B.2.1 (gw w (j / A.1)) (gw w (j % A.1)) = gw w (A.2.1 (j / A.1) (j % A.1)) ∧ B.2.2 (gw w (j / A.1)) (gw w (j % A.1)) = gw w (A.2.2 (j / A.1) (j % A.1))) → V 0 G mi_R_isLike Z 27 [(0, zr 20 0), (1, zi (nI a)), (2, zi (nI b)), (3, zi (nI A.1)), (4, zi (b2i c)), (5, zi (nI k))] [] M := by
    refine up_to ?_ ?_
    · intro c hc
      have hf := fin _ (Nat.le_refl _) c hc (Or.inl rfl)
      rw [← hf] at hZ
      refine z_run (cuts := cu_R_isLike) ok_R_isLike (fun Kz hKz => ?_)
      conv => whnf
      rw [pk_mul, nI_leI (by omega) (by omega)]
      refine ⟨fun _ => ?_, fun q => absurd (by omega) q⟩
      conv => whnf
      cases hc2 : c with
      | true => rw [hc2] at hZ; exact ⟨Or.inr rfl, hZ⟩
      | false => rw [hc2] at hZ; exact ⟨Or.inl rfl, hZ⟩
    · intro k hk ih c hc
      have hd := dvlt hk
      have hLR := hA.1.2 _ _ hd.1 hd.2
      have v1 := hv.2 _ hd.1
      have v2 := hv.2 _ hd.2
      have v3 := hv.2 _ hLR.1
      have v4 := hv.2 _ hLR.2
      have hLB := hB.1.2 _ _ (show gw w (k / A.1) < B.1 by omega) (show gw w (k % A.1) < B.1 by omega)
      obtain ⟨ed, em⟩ := n_dm (k := k) (n := A.1) (by omega) (by omega) (by omega)
      have nxt : ∀ d : Bool, (d = true ↔ (c = true ∧ (B.2.1 (gw w (k / A.1)) (gw w (k % A.1)) = gw w (A.2.1 (k / A.1) (k % A.1)) ∧ B.2.2 (gw w (k / A.1)) (gw w (k % A.1)) = gw w (A.2.2 (k / A.1) (k % A.1))))) → (d = true ↔ ∀ j, j < k + 1 → B.2.1 (gw w (j / A.1)) (gw w (j % A.1)) = gw w (A.2.1 (j / A.1) (j % A.1)) ∧ B.2.2 (gw w (j / A.1)) (gw w (j % A.1)) = gw w (A.2.2 (j / A.1) (j % A.1))) := by
        intro d hd
        rw [hd, hc]
        constructor
        · rintro ⟨q1, q2⟩ z hz
          rcases fin_cases_eq hz with y | y
          · exact q1 z y
          · rw [y]; exact q2
        · intro q
          exact ⟨fun z hz => q z (by omega), q k (by omega)⟩
      refine z_run (cuts := cu_R_isLike) ok_R_isLike (fun Kz hKz => ?_)
      conv => whnf
      rw [pk_mul, nI_leI (by omega) (by omega)]
      refine ⟨fun q => absurd q (by omega), fun _ => ?_⟩
      conv => whnf
      cases hc2 : c with
      | false =>
        have hf := fin k (by omega) c hc (Or.inr hc2)
        rw [hc2] at hf
        rw [← hf] at hZ
        first | refine ⟨fun _ => ?_, fun q => absurd (by decide) q⟩ | refine ⟨fun q => absurd q (by decide), fun _ => ?_⟩
        conv => whnf
        exact ⟨Or.inl rfl, hZ⟩
      | true =>
        first | refine ⟨fun _ => ?_, fun q => absurd (by decide) q⟩ | refine ⟨fun q => absurd q (by decide), fun _ => ?_⟩
        conv => whnf
        refine ⟨hz, ?_⟩
        conv => whnf
        rw [ed]
        refine ⟨hz, ?_⟩
        conv => whnf
        rw [em]
        refine ⟨vp_in_nI (by omega) (by decide), ?_⟩
        conv => whnf
        refine ⟨vp_in_nI (by omega) (by decide), ?_⟩
        conv => whnf
        rw [nI_clamp (by omega), nI_clamp (by omega), rd _ hd.1, rd _ hd.2, lo_like]
        refine s_R_l hb hB (by omega) (by omega) ?_
        conv => whnf
        refine ⟨vp_in_nI (by omega) (by decide), ?_⟩
        conv => whnf
        refine ⟨vp_in_nI (by omega) (by decide), ?_⟩
        conv => whnf
        rw [nI_clamp (by omega), nI_clamp (by omega), rd _ hd.1, rd _ hd.2]
        refine s_R_r hb hB (by omega) (by omega) ?_
        conv => whnf
        refine s_R_l ha hA hd.1 hd.2 ?_
        conv => whnf
        refine ⟨vp_in_nI (by omega) (by decide), ?_⟩
        conv => whnf
        rw [nI_clamp (by omega), rd _ hLR.1, n_ne (by omega) (by omega)]
        refine ⟨fun q => ?_, fun q => ?_⟩
        · conv => whnf
          refine hKz _ _ _ _ ?_
          rw [nI_1']
          exact ih false (nxt false ⟨fun z => (by cases z), fun z => absurd z.2.1 q⟩)
        · conv => whnf
          refine s_R_r ha hA hd.1 hd.2 ?_
          conv => whnf
          refine ⟨vp_in_nI (by omega) (by decide), ?_⟩
          conv => whnf
          rw [nI_clamp (by omega), rd _ hLR.2, n_ne (by omega) (by omega)]
          refine ⟨fun q2 => ?_, fun q2 => ?_⟩
          · conv => whnf
            refine hKz _ _ _ _ ?_
            rw [nI_1']
            exact ih false (nxt false ⟨fun z => (by cases z), fun z => absurd z.2.2 q2⟩)
          · conv => whnf
            refine hKz _ _ _ _ ?_
            rw [nI_1']
            exact ih true (nxt true ⟨fun _ => ⟨hc2, Classical.not_not.mp q, Classical.not_not.mp q2⟩, fun _ => rfl⟩)
  refine go_R_isLike (fun Kz hKz => ?_)
  conv => whnf
  refine ⟨vp_in_nI ha (by decide), ?_⟩
  conv => whnf
  refine ⟨vp_in_nI hb (by decide), ?_⟩
  conv => whnf
  rw [nI_clamp (by omega), nI_clamp (by omega), hA.2.1, hB.2.1, n_ne (by omega) (by omega)]
  refine ⟨fun q => absurd hAB q, fun _ => ?_⟩
  conv => whnf
  refine hKz _ _ _ _ ?_
  exact lp 0 (Nat.zero_le _) true ⟨fun _ j hj => absurd hj (Nat.not_lt_zero _), fun _ => rfl⟩
end
