/-! labels of words that go down to the least of their class -/
theorem isLst_ex (A : ZP) (k : Nat) : ∃ r, isLst A k r := by
  have h : ∀ w, ∃ u, vW A k w → vW A k u ∧ wEq A k w u ∧ ∀ v, vW A k v → wEq A k w v → tcl u ≤ tcl v := by
    intro w
    by_cases hw : vW A k w
    · obtain ⟨m, h1, ⟨u, u1, u2, u3⟩, h3⟩ := least_of (P := fun c => ∃ u, vW A k u ∧ wEq A k w u ∧ tcl u = c) (tcl w) ⟨w, hw, wEq_refl A k w, rfl⟩
      refine ⟨u, fun _ => ⟨u1, u2, fun v v1 v2 => ?_⟩⟩
      rcases Nat.lt_or_ge (tcl v) (tcl u) with q | q
      · exact absurd ⟨v, v1, v2, rfl⟩ (h3 (tcl v) (by omega))
      · exact q
    · exact ⟨w, fun q => absurd q hw⟩
  exact ⟨fun w => Classical.choose (h w), fun w hw => Classical.choose_spec (h w) hw⟩
/-- the number of the least word of a class; the number of the word that crossing leads to -/
def fin (A : ZP) (k : Nat) (r : List Nat → List Nat) (w : Nat) : Nat := tnn A.1 (r (dgl A.1 k w)) k
def nb (A : ZP) (k i w : Nat) : Nat := tnn A.1 (act A i (dgl A.1 k w)) k
section
variable {A : ZP} {k : Nat} {r : List Nat → List Nat}
theorem nb_lt (hA : pwf A) (h0 : 0 < A.1) {i w : Nat} (hi : i + 1 < k) : nb A k i w < A.1 ^ k ∧ dgl A.1 k (nb A k i w) = act A i (dgl A.1 k w) := by
  have h := vW_act hA (vW_dgl (A := A) (k := k) (j := w) h0) hi
  exact tnn_is h0 h.2 h.1
theorem fin_lt (h0 : 0 < A.1) (hr : isLst A k r) (w : Nat) : fin A k r w < A.1 ^ k ∧ dgl A.1 k (fin A k r w) = r (dgl A.1 k w) := by
  have h := (hr _ (vW_dgl (A := A) (k := k) (j := w) h0)).1
  exact tnn_is h0 h.2 h.1
theorem le_of_tcl (hA : pwf A) (h0 : 0 < A.1) {i j : Nat} (hi : i < A.1 ^ k) (h : tcl (dgl A.1 k i) ≤ tcl (dgl A.1 k j)) : i ≤ j := by
  rcases Nat.lt_or_ge j i with q | q
  · rw [tcl_dgl, tcl_dgl] at h
    rcases enc_mono (n := A.1) (by have := hA.1; omega) h0 k j i q with z | z
    · omega
    · exact absurd hi z
  · exact q
theorem fin_le (hA : pwf A) (h0 : 0 < A.1) (hr : isLst A k r) (w : Nat) : fin A k r w ≤ w := by
  have hw := vW_dgl (A := A) (k := k) (j := w) h0
  have h := fin_lt h0 hr w
  refine le_of_tcl hA h0 h.1 ?_
  rw [h.2]
  exact (hr _ hw).2.2 _ hw (wEq_refl A k _)
theorem r_same (hA : pwf A) (hr : isLst A k r) {u v : List Nat} (hu : vW A k u) (hv : vW A k v) (h : wEq A k u v) : r u = r v := by
  have h1 := hr u hu
  have h2 := hr v hv
  refine vW_inj hA h1.1 h2.1 (Nat.le_antisymm (h1.2.2 _ h2.1 (wEq_trans h h2.2.1)) (h2.2.2 _ h1.1 (wEq_trans (wEq_symm h) h1.2.1)))
theorem fin_nb (hA : pwf A) (h0 : 0 < A.1) (hr : isLst A k r) {i w : Nat} (hi : i + 1 < k) : fin A k r (nb A k i w) = fin A k r w := by
  have hw := vW_dgl (A := A) (k := k) (j := w) h0
  unfold fin
  rw [(nb_lt hA h0 hi).2, r_same hA hr hw (vW_act hA hw hi) (wEq_act hw hi)]
theorem fin_fin (hA : pwf A) (h0 : 0 < A.1) (hr : isLst A k r) (w : Nat) : fin A k r (fin A k r w) = fin A k r w := by
  have hw := vW_dgl (A := A) (k := k) (j := w) h0
  have h := hr _ hw
  unfold fin
  rw [(tnn_is h0 h.1.2 h.1.1).2, ← r_same hA hr hw h.1 h.2.1]
/-- between the least and the word itself -/
def lbw (A : ZP) (k : Nat) (r : List Nat → List Nat) (lab : Nat → Nat) : Prop := ∀ w, w < A.1 ^ k → fin A k r w ≤ lab w ∧ lab w ≤ w
theorem lbw_root (hA : pwf A) (h0 : 0 < A.1) (hr : isLst A k r) {lab : Nat → Nat} (h : lbw A k r lab) {w : Nat} : lab (fin A k r w) = fin A k r w := by
  have h1 := h _ (fin_lt h0 hr w).1
  rw [fin_fin hA h0 hr] at h1
  omega
/-- what is alike on both ends of each crossing is alike in a class -/
theorem inv_fin (hA : pwf A) (h0 : 0 < A.1) (hr : isLst A k r) {f : Nat → Nat} (hf : ∀ w i, w < A.1 ^ k → i + 1 < k → f (nb A k i w) = f w) {w : Nat} (hw : w < A.1 ^ k) : f w = f (fin A k r w) := by
  have hv := vW_dgl (A := A) (k := k) (j := w) h0
  have h := hr _ hv
  have h2 := h.2.1 (fun u => f (tnn A.1 u k)) (fun u i hu hi => by
    have ht := tnn_is h0 hu.2 hu.1
    have := hf (tnn A.1 u k) i ht.1 hi
    unfold nb at this
    rw [ht.2] at this
    exact this)
  have e : tnn A.1 (dgl A.1 k w) k = w := tnn_dgl h0 k w hw
  rw [e] at h2
  exact h2
theorem lbw_done (hA : pwf A) (h0 : 0 < A.1) (hr : isLst A k r) {lab : Nat → Nat} (h : lbw A k r lab) (hc : ∀ w i, w < A.1 ^ k → i + 1 < k → lab (nb A k i w) = lab w) : ∀ w, w < A.1 ^ k → lab w = fin A k r w := by
  intro w hw
  rw [inv_fin hA h0 hr hc hw]
  exact lbw_root hA h0 hr h
/-- how many are not at their end yet -/
def nfin (A : ZP) (k : Nat) (r : List Nat → List Nat) (lab : Nat → Nat) : Nat := cnt (fun w => decide (lab w ≠ fin A k r w)) (A.1 ^ k)
theorem cnt_zero {p : Nat → Bool} : ∀ N, cnt p N = 0 → ∀ i, i < N → p i = false := by
  intro N
  induction N with
  | zero => intro _ i hi; exact absurd hi (Nat.not_lt_zero _)
  | succ N ih =>
    intro h i hi
    rw [cnt] at h
    rcases fin_cases_eq hi with z | z
    · exact ih (by omega) i z
    · rw [z]
      cases hp : p N with
      | false => rfl
      | true => rw [hp, Bool.toNat_true] at h; omega
theorem cnt_sub {p q : Nat → Bool} : ∀ N, (∀ i, i < N → q i = true → p i = true) → cnt q N ≤ cnt p N := by
  intro N
  induction N with
  | zero => intro _; exact Nat.le_refl _
  | succ N ih =>
    intro h
    have h1 := ih fun i hi => h i (by omega)
    have h2 := h N (by omega)
    rw [cnt, cnt]
    cases hq : q N with
    | false => rw [Bool.toNat_false]; omega
    | true => rw [h2 hq]; omega
theorem cnt_less {p q : Nat → Bool} : ∀ N, (∀ i, i < N → q i = true → p i = true) → (∃ i, i < N ∧ p i = true ∧ q i = false) → cnt q N < cnt p N := by
  intro N
  induction N with
  | zero => rintro _ ⟨i, hi, _⟩; exact absurd hi (Nat.not_lt_zero _)
  | succ N ih =>
    rintro h ⟨i, hi, h1, h2⟩
    rw [cnt, cnt]
    rcases fin_cases_eq hi with z | z
    · have := ih (fun i hi => h i (by omega)) ⟨i, z, h1, h2⟩
      have h3 := h N (by omega)
      cases hq : q N with
      | false => rw [Bool.toNat_false]; omega
      | true => rw [h3 hq]; omega
    · rw [z] at h1 h2
      have := cnt_sub N (fun i hi => h i (by omega))
      rw [h1, h2, Bool.toNat_true, Bool.toNat_false]
      omega
/-- one pass brings one more to its end, as long as one is not there -/
theorem nfin_step (hA : pwf A) (h0 : 0 < A.1) (hr : isLst A k r) {lab lab' : Nat → Nat} (h : lbw A k r lab) (hk : ∀ w, w < A.1 ^ k → lab w = fin A k r w → lab' w = fin A k r w) (hn : ∀ w i, w < A.1 ^ k → i + 1 < k → (lab w = fin A k r w ∨ lab (nb A k i w) = fin A k r w) → lab' w = fin A k r w ∧ lab' (nb A k i w) = fin A k r w) : nfin A k r lab' ≤ nfin A k r lab - 1 := by
  have hsub : ∀ i, i < A.1 ^ k → decide (lab' i ≠ fin A k r i) = true → decide (lab i ≠ fin A k r i) = true := fun i hi q => by
    have q := of_decide_eq_true q
    exact decide_eq_true fun z => q (hk i hi z)
  by_cases hz : nfin A k r lab = 0
  · have := cnt_sub (A.1 ^ k) hsub
    unfold nfin at hz ⊢
    omega
  · by_cases hx : ∃ w i, w < A.1 ^ k ∧ i + 1 < k ∧ ¬ (lab w = fin A k r w ↔ lab (nb A k i w) = fin A k r w)
    · obtain ⟨w, i, hw, hi, hne⟩ := hx
      have hnb := (nb_lt hA h0 (w := w) hi).1
      have hf := fin_nb hA h0 hr (w := w) hi
      have hboth : lab w = fin A k r w ∨ lab (nb A k i w) = fin A k r w := by
        refine Classical.byContradiction fun q => hne ⟨fun z => absurd (Or.inl z) q, fun z => absurd (Or.inr z) q⟩
      have h2 := hn w i hw hi hboth
      have := cnt_less (A.1 ^ k) hsub (by
        by_cases z : lab w = fin A k r w
        · refine ⟨nb A k i w, hnb, decide_eq_true ?_, decide_eq_false ?_⟩
          · rw [hf]; exact fun y => hne ⟨fun _ => y, fun _ => z⟩
          · rw [hf]; exact fun y => y h2.2
        · exact ⟨w, hw, decide_eq_true z, decide_eq_false fun y => y h2.1⟩)
      unfold nfin
      omega
    · have hall : ∀ w i, w < A.1 ^ k → i + 1 < k → (lab w = fin A k r w ↔ lab (nb A k i w) = fin A k r w) := fun w i hw hi => Classical.byContradiction fun q => hx ⟨w, i, hw, hi, q⟩
      have hdone : ∀ w, w < A.1 ^ k → lab w = fin A k r w := by
        intro w hw
        have h3 := inv_fin hA h0 hr (f := fun w => (decide (lab w = fin A k r w)).toNat) (fun w i hw hi => by
          have := hall w i hw hi
          show (decide (lab (nb A k i w) = fin A k r (nb A k i w))).toNat = (decide (lab w = fin A k r w)).toNat
          rw [fin_nb hA h0 hr hi]
          by_cases z : lab w = fin A k r w
          · rw [decide_eq_true z, decide_eq_true (this.mp z)]
          · rw [decide_eq_false z, decide_eq_false (fun y => z (this.mpr y))]) hw
        have h4 : (decide (lab (fin A k r w) = fin A k r (fin A k r w))).toNat = 1 := by
          rw [fin_fin hA h0 hr, lbw_root hA h0 hr h, decide_eq_true rfl]
          rfl
        have h5 : (decide (lab w = fin A k r w)).toNat = 1 := h3.trans h4
        refine Classical.byContradiction fun z => ?_
        rw [decide_eq_false z] at h5
        cases h5
      refine absurd ?_ hz
      unfold nfin
      rw [cnt_congr (q := fun _ => false) _ (fun i hi => decide_eq_false (fun z => z (hdone i hi)))]
      have : ∀ N, cnt (fun _ => false) N = 0 := by
        intro N
        induction N with
        | zero => rfl
        | succ N ih => rw [cnt, ih]; rfl
      exact this _
theorem nfin_zero {lab : Nat → Nat} (h : nfin A k r lab = 0) : ∀ w, w < A.1 ^ k → lab w = fin A k r w := fun w hw => by
  have := cnt_zero _ h w hw
  refine Classical.byContradiction fun q => ?_
  rw [decide_eq_true q] at this
  cases this
end
