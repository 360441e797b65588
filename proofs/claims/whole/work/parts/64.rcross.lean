/-! the reference: points that cross -/
def tF (a _c : Nat) : Prop := a = 27
def isT (M : ZM) (u : List Nat) : Prop := ∀ i, i < u.length → M.1 27 0 i = nI (gw u i)
theorem gw_act {A : ZP} {i : Nat} {w : List Nat} (h : i + 1 < w.length) (j : Nat) : gw (act A i w) j = if j = i then A.2.1 (gw w i) (gw w (i + 1)) else if j = i + 1 then A.2.2 (gw w i) (gw w (i + 1)) else gw w j := by
  have hl : (w.take i).length = i := by rw [List.length_take]; omega
  unfold gw act
  rw [List.getD_eq_getElem?_getD]
  rcases Nat.lt_trichotomy j i with q | q | q
  · rw [if_neg (by omega), if_neg (by omega), List.append_assoc, List.getElem?_append_left (by omega), List.getElem?_take_of_lt q, List.getD_eq_getElem?_getD]
  · subst q
    rw [if_pos rfl, List.append_assoc, List.getElem?_append_right (by omega), hl, Nat.sub_self]
    rfl
  · rw [if_neg (by omega)]
    by_cases q2 : j = i + 1
    · subst q2
      rw [if_pos rfl, List.append_assoc, List.getElem?_append_right (by omega), hl, Nat.add_sub_cancel_left]
      rfl
    · rw [if_neg q2, List.getElem?_append_right (by rw [List.length_append, hl]; show i + 2 ≤ j; omega), List.length_append, hl, List.getElem?_drop]
      show (w[i + 2 + (j - (i + 2))]?).getD 0 = _
      rw [show i + 2 + (j - (i + 2)) = j by omega, List.getD_eq_getElem?_getD]
theorem tF_no : ∀ a c, tF a c → ¬ rst a c := fun a c h => by unfold tF at h; unfold rst; omega
theorem rsm_t {M M' : ZM} (h : rf tF M M') : rsm M M' := rsm_rf h (fun a c q => by unfold tF at q; omega)
theorem isRM_t {M M' : ZM} {k : Nat} {A : ZP} (h : isRM M k A) (hs : rf tF M M') : isRM M' k A := isRM_rf h hs (fun a c q z => by unfold tF at q; unfold rgm at z; omega)
theorem allB_gw {n : Nat} {w : List Nat} (h : allB n w) {i : Nat} (hi : i < w.length) : gw w i < n := allB_get h hi
theorem isT_set2 {M : ZM} {A : ZP} {u : List Nat} {i : Nat} (h : isT M u) (hi : i + 1 < u.length) {p q : Nat} (hp : p = A.2.1 (gw u i) (gw u (i + 1))) (hq : q = A.2.2 (gw u i) (gw u (i + 1))) : isT (zset 27 0 (i + 1) (nI q) (zset 27 0 i (nI p) M)) (act A i u) := by
  intro j hj
  rw [act_len hi] at hj
  rw [gw_act hi]
  by_cases e : j = i
  · rw [if_pos e, e, zset_ne (by omega), zset_eq, hp]
  · rw [if_neg e]
    by_cases e2 : j = i + 1
    · rw [if_pos e2, e2, zset_eq, hq]
    · rw [if_neg e2, zset_ne (by omega), zset_ne (by omega)]
      exact h j hj
theorem isT2 {M : ZM} {x y : Nat} (h0 : M.1 27 0 0 = nI x) (h1 : M.1 27 0 1 = nI y) : isT M [x, y] := fun i hi => by
  have hi : i < 2 := hi
  rcases (show i = 0 ∨ i = 1 by omega) with rfl | rfl
  · exact h0
  · exact h1
section
variable {G : ZG} {M : ZM} {Z : Option ZV → ZM → Prop} {S : ZS}
theorem s_R_crosses {m i : Nat} {A : ZP} {u : List Nat} (hm : m < 6) (hA : isRM M m A) (hu : isT M u) (hv : allB A.1 u) (hi : i + 1 < u.length) (hl : u.length ≤ 4) (hZ : ∀ M', rf tF M M' → isT M' (act A i u) → Z none M') : Ctr 0 G mi_R_crosses [zr 20 0, zi (nI m), zi (nI i)] M Z := by
  have hx := allB_gw hv (show i < u.length by omega)
  have hy := allB_gw hv hi
  have e0 := hu i (by omega)
  have e1 := hu (i + 1) hi
  refine go_R_crosses (fun Kz hKz => ?_)
  conv => whnf
  refine ⟨vp_in_nI (by omega) (by decide), ?_⟩
  conv => whnf
  rw [nI_clamp (by omega), e0, nI_1']
  refine ⟨vp_in_nI (by omega) (by decide), ?_⟩
  conv => whnf
  rw [nI_clamp (by omega), e1]
  refine s_R_l hm hA hx hy ?_
  conv => whnf
  refine ⟨vp_in_nI (by omega) (by decide), ?_⟩
  conv => whnf
  rw [nI_clamp (by omega)]
  refine s_R_r hm (isRM_t hA (rf_set (show tF 27 i from rfl))) hx hy ?_
  conv => whnf
  rw [nI_1']
  refine ⟨vp_in_nI (by omega) (by decide), ?_⟩
  conv => whnf
  rw [nI_clamp (by omega)]
  exact hZ _ (rf_trans (rf_set rfl) (rf_set rfl)) (isT_set2 hu hi rfl rfl)
theorem s_R_goesBack {m i : Nat} {A : ZP} {u : List Nat} (hm : m < 6) (hA : isRM M m A) (hin : pinj A) (hu : isT M u) (hv : allB A.1 u) (hi : i + 1 < u.length) (hl : u.length ≤ 4) (hZ : ∀ M', rf tF M M' → isT M' (act (pinv A) i u) → Z none M') : Ctr 0 G mi_R_goesBack [zr 20 0, zi (nI m), zi (nI i)] M Z := by
  have hn := hA.1.1
  have hnn : A.1 * A.1 ≤ 6 * 6 := Nat.mul_le_mul hn hn
  have hx := allB_gw hv (show i < u.length by omega)
  have hy := allB_gw hv hi
  have e0 := hu i (by omega)
  have e1 := hu (i + 1) hi
  have hz := n_nz (b := A.1) (by omega) (by omega)
  obtain ⟨z1, z2, z3, z4⟩ := pinvz_spec hA.1 hin hx hy
  have hk0 := prlt z1 z2
  have lp : ∀ k, k ≤ A.1 * A.1 → ∀ M', rf tF M M' → (k ≤ A.1 * (pinvz A (gw u i) (gw u (i + 1))).1 + (pinvz A (gw u i) (gw u (i + 1))).2 → isT M' u) → (A.1 * (pinvz A (gw u i) (gw u (i + 1))).1 + (pinvz A (gw u i) (gw u (i + 1))).2 < k → isT M' (act (pinv A) i u)) → V 0 G mi_R_goesBack Z 28 [(0, zr 20 0), (1, zi (nI m)), (2, zi (nI i)), (3, zi (nI (gw u i))), (4, zi (nI (gw u (i + 1)))), (5, zi (nI A.1)), (6, zi (nI k))] [] M' := by
    refine up_to ?_ ?_
    · intro M' g1 g2 g3
      refine z_run (cuts := cu_R_goesBack) ok_R_goesBack (fun Kz hKz => ?_)
      conv => whnf
      rw [pk_mul, nI_leI (by omega) (by omega)]
      refine ⟨fun _ => ?_, fun q => absurd (by omega) q⟩
      conv => whnf
      exact hZ M' g1 (g3 hk0)
    · intro k hk ih M' g1 g2 g3
      have hd := dvlt hk
      have hA' := isRM_t hA g1
      have hLR := hA.1.2 _ _ hd.1 hd.2
      obtain ⟨ed, em⟩ := n_dm (k := k) (n := A.1) (by omega) (by omega) (by omega)
      have key : (A.2.1 (k / A.1) (k % A.1) = gw u i ∧ A.2.2 (k / A.1) (k % A.1) = gw u (i + 1)) ↔ k = A.1 * (pinvz A (gw u i) (gw u (i + 1))).1 + (pinvz A (gw u i) (gw u (i + 1))).2 := by
        constructor
        · rintro ⟨q1, q2⟩
          have := pinvz_of hA.1 hin hd.1 hd.2
          rw [q1, q2] at this
          rw [this]
          exact (Nat.div_add_mod k A.1).symm
        · intro q
          rw [q, (dvm z2).1, (dvm z2).2]
          exact ⟨z3, z4⟩
      refine z_run (cuts := cu_R_goesBack) ok_R_goesBack (fun Kz hKz => ?_)
      conv => whnf
      rw [pk_mul, nI_leI (by omega) (by omega)]
      refine ⟨fun q => absurd q (by omega), fun _ => ?_⟩
      conv => whnf
      refine ⟨hz, ?_⟩
      conv => whnf
      refine ⟨hz, ?_⟩
      conv => whnf
      rw [ed, em]
      refine s_R_l hm hA' hd.1 hd.2 ?_
      conv => whnf
      rw [n_ne (by omega) (by omega)]
      refine ⟨fun q => ?_, fun q => ?_⟩
      · conv => whnf
        refine hKz _ _ _ _ ?_
        rw [nI_1']
        exact ih M' g1 (fun z => g2 (by omega)) (fun z => g3 (by have : ¬ k = _ := fun y => q (key.mpr y).1; omega))
      · conv => whnf
        refine ⟨hz, ?_⟩
        conv => whnf
        refine ⟨hz, ?_⟩
        conv => whnf
        rw [ed, em]
        refine s_R_r hm hA' hd.1 hd.2 ?_
        conv => whnf
        rw [n_ne (by omega) (by omega)]
        refine ⟨fun q2 => ?_, fun q2 => ?_⟩
        · conv => whnf
          refine hKz _ _ _ _ ?_
          rw [nI_1']
          exact ih M' g1 (fun z => g2 (by omega)) (fun z => g3 (by have : ¬ k = _ := fun y => q2 (key.mpr y).2; omega))
        · have hkk := key.mp ⟨Classical.not_not.mp q, Classical.not_not.mp q2⟩
          conv => whnf
          refine ⟨hz, ?_⟩
          conv => whnf
          rw [ed]
          refine ⟨vp_in_nI (by omega) (by decide), ?_⟩
          conv => whnf
          rw [nI_clamp (by omega), nI_1']
          refine ⟨hz, ?_⟩
          conv => whnf
          rw [em]
          refine ⟨vp_in_nI (by omega) (by decide), ?_⟩
          conv => whnf
          refine hKz _ _ _ _ ?_
          rw [nI_clamp (by omega), nI_1']
          refine ih _ (rf_trans (rf_trans g1 (rf_set rfl)) (rf_set rfl)) (fun z => absurd z (by omega)) (fun _ => ?_)
          refine isT_set2 (A := pinv A) (g2 (by omega)) hi ?_ ?_
          · show k / A.1 = (pinvz A (gw u i) (gw u (i + 1))).1
            rw [hkk, (dvm z2).1]
          · show k % A.1 = (pinvz A (gw u i) (gw u (i + 1))).2
            rw [hkk, (dvm z2).2]
  refine go_R_goesBack (fun Kz hKz => ?_)
  conv => whnf
  refine ⟨vp_in_nI (by omega) (by decide), ?_⟩
  conv => whnf
  rw [nI_clamp (by omega), e0, nI_1']
  refine ⟨vp_in_nI (by omega) (by decide), ?_⟩
  conv => whnf
  rw [nI_clamp (by omega), e1]
  refine ⟨vp_in_nI (by omega) (by decide), ?_⟩
  conv => whnf
  refine hKz _ _ _ _ ?_
  rw [nI_clamp (by omega), hA.2.1]
  exact lp 0 (Nat.zero_le _) M (rf_refl _ _) (fun _ => hu) (fun q => absurd q (Nat.not_lt_zero _))
/-- the code of a triple, the first point leading -/
theorem dgl3 {n k : Nat} (hk : k < n ^ 3) : dgl n 3 k = [k / (n * n), k / n % n, k % n] := by
  have e : n ^ 3 = n * n * n := by rw [Nat.pow_succ, Nat.pow_succ, Nat.pow_one]
  rw [e] at hk
  show ([k / n / n % n] ++ [k / n % n]) ++ [k % n] = _
  rw [Nat.div_div_eq_div_mul, Nat.mod_eq_of_lt (Nat.div_lt_of_lt_mul hk)]
  rfl
theorem s_R_threeBy {m k f : Nat} {A : ZP} (hm : m < 6) (hA : isRM M m A) (h0 : 0 < A.1) (hk : k < A.1 ^ 3) (hf : f < 2) (hZ : ∀ M' a b c, rf tF M M' → act A f (act A (1 - f) (act A f (dgl A.1 3 k))) = [a, b, c] → Z (some (zi (nI (a + 8 * b + 64 * c)))) M') : Ctr 0 G mi_R_threeBy [zr 20 0, zi (nI m), zi (nI k), zi (nI f)] M Z := by
  have hn := hA.1.1
  have h3 : A.1 ^ 3 ≤ 6 ^ 3 := Nat.pow_le_pow_left hn 3
  have h63 : (6 : Nat) ^ 3 = 216 := by decide
  have hnn : A.1 * A.1 ≤ 6 * 6 := Nat.mul_le_mul hn hn
  have hnp : 0 < A.1 * A.1 := Nat.mul_pos h0 h0
  have hz := n_nz (b := A.1) (by omega) (by omega)
  have hz2 := n_nz (b := A.1 * A.1) (by omega) (by omega)
  obtain ⟨ed, em⟩ := n_dm (k := k) (n := A.1) (by omega) (by omega) (by omega)
  have ed2 := (n_dm (k := k) (n := A.1 * A.1) (by omega) (by omega) (by omega)).1
  have hkn : k / A.1 ≤ k := Nat.div_le_self _ _
  have em2 := (n_dm (k := k / A.1) (n := A.1) (by omega) (by omega) (by omega)).2
  have hv : vW A 3 (dgl A.1 3 k) := vW_dgl h0
  have hsub : nI 1 - nI f = nI (1 - f) := pk_sub (by omega)
  have v1 : vW A 3 (act A f (dgl A.1 3 k)) := vW_act hA.1 hv (by omega)
  have v2 : vW A 3 (act A (1 - f) (act A f (dgl A.1 3 k))) := vW_act hA.1 v1 (by omega)
  have v3 : vW A 3 (act A f (act A (1 - f) (act A f (dgl A.1 3 k)))) := vW_act hA.1 v2 (by omega)
  have ht : isT (zset 27 0 2 (nI (k % A.1)) (zset 27 0 1 (nI (k / A.1 % A.1)) (zset 27 0 0 (nI (k / (A.1 * A.1))) M))) (dgl A.1 3 k) := by
    rw [dgl3 hk]
    intro i hi
    have hi : i < 3 := hi
    rcases (show i = 0 ∨ i = 1 ∨ i = 2 by omega) with rfl | rfl | rfl
    · rw [zset_ne (by omega), zset_ne (by omega), zset_eq]; rfl
    · rw [zset_ne (by omega), zset_eq]; rfl
    · rw [zset_eq]; rfl
  refine go_R_threeBy (fun Kz hKz => ?_)
  conv => whnf
  refine ⟨vp_in_nI (by omega) (by decide), ?_⟩
  conv => whnf
  rw [nI_clamp (by omega), hA.2.1, pk_mul]
  refine ⟨hz2, ?_⟩
  conv => whnf
  rw [ed2]
  refine ⟨vp_in_nI (by decide) (by decide), ?_⟩
  conv => whnf
  rw [nI_clamp (by omega)]
  refine ⟨hz, ?_⟩
  conv => whnf
  rw [ed]
  refine ⟨hz, ?_⟩
  conv => whnf
  rw [em2]
  refine ⟨vp_in_nI (by decide) (by decide), ?_⟩
  conv => whnf
  rw [nI_clamp (by omega)]
  refine ⟨hz, ?_⟩
  conv => whnf
  rw [em]
  refine ⟨vp_in_nI (by decide) (by decide), ?_⟩
  conv => whnf
  rw [nI_clamp (by omega)]
  have f0 : rf tF M (zset 27 0 2 (nI (k % A.1)) (zset 27 0 1 (nI (k / A.1 % A.1)) (zset 27 0 0 (nI (k / (A.1 * A.1))) M))) := rf_trans (rf_trans (rf_set rfl) (rf_set rfl)) (rf_set rfl)
  refine s_R_crosses hm (isRM_t hA f0) ht hv.1 (by rw [hv.2]; omega) (by rw [hv.2]; decide) (fun M1 g1 g2 => ?_)
  conv => whnf
  rw [hsub]
  refine s_R_crosses hm (isRM_t hA (rf_trans f0 g1)) g2 v1.1 (by rw [v1.2]; omega) (by rw [v1.2]; decide) (fun M2 g3 g4 => ?_)
  conv => whnf
  refine s_R_crosses hm (isRM_t hA (rf_trans (rf_trans f0 g1) g3)) g4 v2.1 (by rw [v2.2]; omega) (by rw [v2.2]; decide) (fun M3 g5 g6 => ?_)
  obtain ⟨a, b, c, habc⟩ : ∃ a b c, act A f (act A (1 - f) (act A f (dgl A.1 3 k))) = [a, b, c] := by
    have h := v3.2
    generalize act A f (act A (1 - f) (act A f (dgl A.1 3 k))) = w at h
    match w, h with
    | [a, b, c], _ => exact ⟨a, b, c, rfl⟩
  rw [habc] at g6
  have r0 : M3.1 27 0 0 = nI a := g6 0 (by simp)
  have r1 : M3.1 27 0 1 = nI b := g6 1 (by simp)
  have r2 : M3.1 27 0 2 = nI c := g6 2 (by simp)
  conv => whnf
  refine ⟨vp_in_nI (by decide) (by decide), ?_⟩
  conv => whnf
  refine ⟨vp_in_nI (by decide) (by decide), ?_⟩
  conv => whnf
  refine ⟨vp_in_nI (by decide) (by decide), ?_⟩
  conv => whnf
  rw [nI_clamp (by omega), nI_clamp (by omega), nI_clamp (by omega), r0, r1, r2, pk_mul, nI_add, pk_mul, nI_add]
  exact hZ M3 a b c (rf_trans (rf_trans (rf_trans f0 g1) g3) g5) habc
theorem s_R_failsAt {m k : Nat} {A : ZP} (hm : m < 6) (hA : isRM M m A) (h0 : 0 < A.1) (hk : k < A.1 ^ 3) (hZ : ∀ M', rf tF M M' → Z (some (zi (b2i (brk A (dgl A.1 3 k))))) M') : Ctr 0 G mi_R_failsAt [zr 20 0, zi (nI m), zi (nI k)] M Z := by
  have hn := hA.1.1
  have hv : vW A 3 (dgl A.1 3 k) := vW_dgl h0
  have va : vW A 3 (act A 0 (act A 1 (act A 0 (dgl A.1 3 k)))) := vW_act hA.1 (vW_act hA.1 (vW_act hA.1 hv (by decide)) (by decide)) (by decide)
  have vb : vW A 3 (act A 1 (act A 0 (act A 1 (dgl A.1 3 k)))) := vW_act hA.1 (vW_act hA.1 (vW_act hA.1 hv (by decide)) (by decide)) (by decide)
  refine go_R_failsAt (fun Kz hKz => ?_)
  conv => whnf
  refine s_R_threeBy hm hA h0 hk (by decide) (fun M1 a b c g1 g2 => ?_)
  conv => whnf
  refine s_R_threeBy hm (isRM_t hA g1) h0 hk (by decide) (fun M2 a' b' c' g3 g4 => ?_)
  rw [show act A 0 (act A (1 - 0) (act A 0 (dgl A.1 3 k))) = act A 0 (act A 1 (act A 0 (dgl A.1 3 k))) from rfl] at g2
  rw [show act A 1 (act A (1 - 1) (act A 1 (dgl A.1 3 k))) = act A 1 (act A 0 (act A 1 (dgl A.1 3 k))) from rfl] at g4
  have ha := va.1
  have hb := vb.1
  rw [g2] at ha
  rw [g4] at hb
  have a1 := ha a (by simp)
  have a2 := ha b (by simp)
  have a3 := ha c (by simp)
  have b1 := hb a' (by simp)
  have b2 := hb b' (by simp)
  have b3 := hb c' (by simp)
  have hbr : brk A (dgl A.1 3 k) = decide ([a, b, c] ≠ [a', b', c']) := by
    unfold brk
    rw [g2, g4]
  have hiff : a + 8 * b + 64 * c = a' + 8 * b' + 64 * c' ↔ [a, b, c] = [a', b', c'] := by
    constructor
    · intro q
      rw [show a = a' by omega, show b = b' by omega, show c = c' by omega]
    · intro q
      simp only [List.cons.injEq, and_true] at q
      omega
  have hZ := hZ M2 (rf_trans g1 g3)
  conv => whnf
  rw [nI_eq (by omega) (by omega)]
  refine ⟨fun q => ?_, fun q => ?_⟩
  · rw [hbr, decide_eq_false (by rw [hiff.mp q]; simp)] at hZ
    conv => whnf
    exact ⟨Or.inl rfl, hZ⟩
  · rw [hbr, decide_eq_true (show [a, b, c] ≠ [a', b', c'] from fun z => q (hiff.mpr z))] at hZ
    conv => whnf
    exact ⟨Or.inr rfl, hZ⟩
theorem s_R_manyFail {m : Nat} {A : ZP} (hm : m < 6) (hA : isRM M m A) (h0 : 0 < A.1) (hZ : ∀ M', rf tF M M' → Z (some (zi (nI (nBrk A)))) M') : Ctr 0 G mi_R_manyFail [zr 20 0, zi (nI m)] M Z := by
  have hn := hA.1.1
  have h3 : A.1 ^ 3 ≤ 6 ^ 3 := Nat.pow_le_pow_left hn 3
  have h63 : (6 : Nat) ^ 3 = 216 := by decide
  have e3 : A.1 * A.1 * A.1 = A.1 ^ 3 := by rw [Nat.pow_succ, Nat.pow_succ, Nat.pow_one]
  have lp : ∀ k, k ≤ A.1 ^ 3 → ∀ M', rf tF M M' → V 0 G mi_R_manyFail Z 12 [(0, zr 20 0), (1, zi (nI m)), (2, zi (nI A.1)), (3, zi (nI (cnt (fun j => brk A (dgl A.1 3 j)) k))), (4, zi (nI k))] [] M' := by
    refine up_to ?_ ?_
    · intro M' g1
      refine z_run (cuts := cu_R_manyFail) ok_R_manyFail (fun Kz hKz => ?_)
      conv => whnf
      rw [pk_mul, pk_mul, e3, nI_leI (by omega) (by omega)]
      refine ⟨fun _ => ?_, fun q => absurd (by omega) q⟩
      conv => whnf
      exact hZ M' g1
    · intro k hk ih M' g1
      refine z_run (cuts := cu_R_manyFail) ok_R_manyFail (fun Kz hKz => ?_)
      conv => whnf
      rw [pk_mul, pk_mul, e3, nI_leI (by omega) (by omega)]
      refine ⟨fun q => absurd q (by omega), fun _ => ?_⟩
      conv => whnf
      refine s_R_failsAt hm (isRM_t hA g1) h0 hk (fun M2 g2 => ?_)
      rw [cnt] at ih
      cases hb : brk A (dgl A.1 3 k) with
      | true =>
        rw [hb] at ih
        conv => whnf
        first | refine ⟨fun _ => ?_, fun q => absurd (by decide) q⟩ | refine ⟨fun q => absurd q (by decide), fun _ => ?_⟩
        conv => whnf
        refine hKz _ _ _ _ ?_
        rw [nI_add, nI_1']
        exact ih M2 (rf_trans g1 g2)
      | false =>
        rw [hb] at ih
        conv => whnf
        first | refine ⟨fun _ => ?_, fun q => absurd (by decide) q⟩ | refine ⟨fun q => absurd q (by decide), fun _ => ?_⟩
        conv => whnf
        refine hKz _ _ _ _ ?_
        rw [nI_add, nI_1']
        exact ih M2 (rf_trans g1 g2)
  refine go_R_manyFail (fun Kz hKz => ?_)
  conv => whnf
  refine ⟨vp_in_nI (by omega) (by decide), ?_⟩
  conv => whnf
  refine hKz _ _ _ _ ?_
  rw [nI_clamp (by omega), hA.2.1]
  exact lp 0 (Nat.zero_le _) M (rf_refl _ _)
theorem tn_enc3 {n j : Nat} (h0 : 0 < n) (hn : n ≤ 6) (hj : j < n ^ 3) : tn (enc n 3 j) 3 = j / (n * n) + 8 * (j / n % n) + 64 * (j % n) := by
  have e : n ^ 3 = n * n * n := by rw [Nat.pow_succ, Nat.pow_succ, Nat.pow_one]
  rw [e] at hj
  have e0 : enc n 3 j / 8 ^ 0 % 8 = j % n := by rw [enc_dig (by omega) h0 0 3 j (by decide), Nat.pow_zero, Nat.div_one]
  have e1 : enc n 3 j / 8 ^ 1 % 8 = j / n % n := by rw [enc_dig (by omega) h0 1 3 j (by decide), Nat.pow_one]
  have e2 : enc n 3 j / 8 ^ 2 % 8 = j / (n * n) := by rw [enc_dig (by omega) h0 2 3 j (by decide), Nat.pow_succ, Nat.pow_one, Nat.mod_eq_of_lt (Nat.div_lt_of_lt_mul hj)]
  simp only [tn, e0, e1, e2]
  omega
theorem r_fails {a i : Nat} (ha : a < 2 ^ 32) (hi : i < 2 ^ 32) (hR : RS M S) (h1 : (plA S a).1 = 0 → Z (some (zi (-1000001))) M) (h2 : ¬ (plA S a).1 = 0 → ¬ i < 2 ^ 31 → Z (some (zi (-1000002))) M) (h3 : ¬ (plA S a).1 = 0 → i < 2 ^ 31 → ∀ j, j < (plA S a).1 ^ 3 → brk (plA S a) (dgl (plA S a).1 3 j) = true → cnt (fun j => brk (plA S a) (dgl (plA S a).1 3 j)) j = i → ∀ M', RS M' S → rsm M M' → Z (some (zi (nI (tn (enc (plA S a).1 3 j) 3)))) M') (h4 : ¬ (plA S a).1 = 0 → i < 2 ^ 31 → cnt (fun j => brk (plA S a) (dgl (plA S a).1 3 j)) ((plA S a).1 ^ 3) ≤ i → ∀ M', RS M' S → rsm M M' → Z (some (zi (-1))) M') : Ctr 0 G mi_R_fails [zr 20 0, zi (nI a), zi (nI i)] M Z := by
  refine go_R_fails (fun Kz hKz => ?_)
  conv => whnf
  refine s_R_isMap ha hR (fun e => ?_) (fun e => ?_)
  · have hA := RS_pl hR e
    have ha4 := plA_lt e
    generalize plA S a = A at *
    have hn := hA.1.1
    have h0 : 0 < A.1 := by omega
    have h36 : A.1 ^ 3 ≤ 6 ^ 3 := Nat.pow_le_pow_left hn 3
    have h63 : (6 : Nat) ^ 3 = 216 := by decide
    have e3 : A.1 * A.1 * A.1 = A.1 ^ 3 := by rw [Nat.pow_succ, Nat.pow_succ, Nat.pow_one]
    have hnn : A.1 * A.1 ≤ 6 * 6 := Nat.mul_le_mul hn hn
    have hnp : 0 < A.1 * A.1 := Nat.mul_pos h0 h0
    have hz := n_nz (b := A.1) (by omega) (by omega)
    have hz2 := n_nz (b := A.1 * A.1) (by omega) (by omega)
    conv => whnf
    first | refine ⟨fun _ => ?_, fun q => absurd (by decide) q⟩ | refine ⟨fun q => absurd q (by decide), fun _ => ?_⟩
    conv => whnf
    rw [n_nonneg hi]
    refine ⟨fun q => ?_, fun q => ?_⟩
    · have lp : ∀ k, k ≤ A.1 ^ 3 → ∀ M' (x : Int32), rf tF M M' → ((x = -1 ∧ cnt (fun j => brk A (dgl A.1 3 j)) k ≤ i) ∨ ∃ v, v < k ∧ brk A (dgl A.1 3 v) = true ∧ cnt (fun j => brk A (dgl A.1 3 j)) v = i ∧ x = nI (tn (enc A.1 3 v) 3)) → V 0 G mi_R_fails Z 34 [(0, zr 20 0), (1, zi (nI a)), (2, zi (nI i)), (3, zi (nI A.1)), (4, zi (nI (cnt (fun j => brk A (dgl A.1 3 j)) k))), (5, zi x), (6, zi (nI k))] [] M' := by
        refine up_to ?_ ?_
        · intro M' x g1 hx
          refine z_run (cuts := cu_R_fails) ok_R_fails (fun Kz hKz => ?_)
          conv => whnf
          rw [pk_mul, pk_mul, e3, nI_leI (by omega) (by omega)]
          refine ⟨fun _ => ?_, fun q => absurd (by omega) q⟩
          conv => whnf
          rcases hx with ⟨rfl, hx⟩ | ⟨v, v1, v2, v3, rfl⟩
          · exact h4 e q hx M' (RS_rf hR g1 tF_no) (rsm_t g1)
          · exact h3 e q v v1 v2 v3 M' (RS_rf hR g1 tF_no) (rsm_t g1)
        · intro k hk ih M' x g1 hx
          have hcl := cnt_le (fun j => brk A (dgl A.1 3 j)) k
          refine z_run (cuts := cu_R_fails) ok_R_fails (fun Kz hKz => ?_)
          conv => whnf
          rw [pk_mul, pk_mul, e3, nI_leI (by omega) (by omega)]
          refine ⟨fun q => absurd q (by omega), fun _ => ?_⟩
          conv => whnf
          refine s_R_failsAt (by omega) (isRM_t hA g1) h0 hk (fun M2 g2 => ?_)
          rw [cnt] at ih
          cases hb : brk A (dgl A.1 3 k) with
          | true =>
            rw [hb] at ih
            conv => whnf
            first | refine ⟨fun _ => ?_, fun q => absurd (by decide) q⟩ | refine ⟨fun q => absurd q (by decide), fun _ => ?_⟩
            conv => whnf
            rw [n_ne (by omega) (by omega)]
            refine ⟨fun z => ?_, fun z => ?_⟩
            · conv => whnf
              refine hKz _ _ _ _ ?_
              rw [nI_1', nI_1']
              refine ih M2 x (rf_trans g1 g2) ?_
              rcases hx with ⟨rfl, hx⟩ | ⟨v, v1, v2, v3, rfl⟩
              · exact Or.inl ⟨rfl, by rw [Bool.toNat_true]; omega⟩
              · exact Or.inr ⟨v, by omega, v2, v3, rfl⟩
            · obtain ⟨ed, em⟩ := n_dm (k := k) (n := A.1) (by omega) (by omega) (by omega)
              have ed2 := (n_dm (k := k) (n := A.1 * A.1) (by omega) (by omega) (by omega)).1
              have hkn : k / A.1 ≤ k := Nat.div_le_self _ _
              have em2 := (n_dm (k := k / A.1) (n := A.1) (by omega) (by omega) (by omega)).2
              conv => whnf
              rw [pk_mul]
              refine ⟨hz2, ?_⟩
              conv => whnf
              refine ⟨hz, ?_⟩
              conv => whnf
              rw [ed2, ed]
              refine ⟨hz, ?_⟩
              conv => whnf
              refine ⟨hz, ?_⟩
              conv => whnf
              refine hKz _ _ _ _ ?_
              rw [em2, em, nI_1', nI_1', pk_mul, nI_add, pk_mul, nI_add, ← tn_enc3 h0 hn hk]
              exact ih M2 _ (rf_trans g1 g2) (Or.inr ⟨k, by omega, hb, Classical.not_not.mp z, rfl⟩)
          | false =>
            rw [hb] at ih
            conv => whnf
            first | refine ⟨fun _ => ?_, fun q => absurd (by decide) q⟩ | refine ⟨fun q => absurd q (by decide), fun _ => ?_⟩
            conv => whnf
            refine hKz _ _ _ _ ?_
            rw [nI_1']
            refine ih M2 x (rf_trans g1 g2) ?_
            rcases hx with ⟨rfl, hx⟩ | ⟨v, v1, v2, v3, rfl⟩
            · exact Or.inl ⟨rfl, hx⟩
            · exact Or.inr ⟨v, by omega, v2, v3, rfl⟩
      conv => whnf
      refine ⟨vp_in_nI (by omega) (by decide), ?_⟩
      conv => whnf
      refine hKz _ _ _ _ ?_
      rw [nI_clamp (by omega), hA.2.1]
      exact lp 0 (Nat.zero_le _) M (-1) (rf_refl _ _) (Or.inl ⟨rfl, Nat.zero_le _⟩)
    · conv => whnf
      exact h2 e q
  · conv => whnf
    first | refine ⟨fun _ => ?_, fun q => absurd (by decide) q⟩ | refine ⟨fun q => absurd q (by decide), fun _ => ?_⟩
    conv => whnf
    exact h1 e
end
