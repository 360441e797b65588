/-! words that are the same: no function that acting leaves as it is tells them apart -/
def vW (A : ZP) (k : Nat) (w : List Nat) : Prop := allB A.1 w ∧ w.length = k
def wEq (A : ZP) (k : Nat) (w v : List Nat) : Prop := ∀ f : List Nat → Nat, (∀ u i, vW A k u → i + 1 < k → f (act A i u) = f u) → f w = f v
theorem wEq_refl (A : ZP) (k : Nat) (w : List Nat) : wEq A k w w := fun _ _ => rfl
theorem wEq_symm {A : ZP} {k : Nat} {w v : List Nat} (h : wEq A k w v) : wEq A k v w := fun f hf => (h f hf).symm
theorem wEq_trans {A : ZP} {k : Nat} {u v w : List Nat} (h : wEq A k u v) (h' : wEq A k v w) : wEq A k u w := fun f hf => (h f hf).trans (h' f hf)
theorem wEq_act {A : ZP} {k i : Nat} {w : List Nat} (h : vW A k w) (hi : i + 1 < k) : wEq A k w (act A i w) := fun f hf => (hf w i h hi).symm
theorem vW_act {A : ZP} (hA : pwf A) {k i : Nat} {w : List Nat} (h : vW A k w) (hi : i + 1 < k) : vW A k (act A i w) := ⟨act_all hA h.1 (by rw [h.2]; exact hi), by rw [act_len (by rw [h.2]; exact hi), h.2]⟩
theorem vW_inj {A : ZP} (hA : pwf A) {k : Nat} {w v : List Nat} (h : vW A k w) (h' : vW A k v) (e : tcl w = tcl v) : w = v := by
  have := hA.1
  exact tcl_inj _ _ (by rw [h.2, h'.2]) (fun d hd => by have := h.1 d hd; omega) (fun d hd => by have := h'.1 d hd; omega) e
/-- the first of each class of words -/
def isLst (A : ZP) (k : Nat) (r : List Nat → List Nat) : Prop := ∀ w, vW A k w → vW A k (r w) ∧ wEq A k w (r w) ∧ ∀ v, vW A k v → wEq A k w v → tcl (r w) ≤ tcl v
theorem isLst_uniq {A : ZP} (hA : pwf A) {k : Nat} {r r' : List Nat → List Nat} (h : isLst A k r) (h' : isLst A k r') {w : List Nat} (hw : vW A k w) : r w = r' w := by
  have a := h w hw
  have b := h' w hw
  exact vW_inj hA a.1 b.1 (Nat.le_antisymm (a.2.2 _ b.1 b.2.1) (b.2.2 _ a.1 a.2.1))
/-- an s whose ends are words of the same class -/
def sound (A : ZP) (k : Nat) (s : Nat → Nat) : Prop := uwf s ∧ ∀ w, vW A k w → ∃ v, vW A k v ∧ root s (tcl w) = tcl v ∧ wEq A k w v
theorem sound_join {A : ZP} (hA : pwf A) {k i : Nat} {s s' : Nat → Nat} (h : sound A k s) (hs' : uwf s') {u : List Nat} (hu : vW A k u) (hi : i + 1 < k) (hr : ∀ v, root s' v = jr (root s) (tcl u) (tcl (act A i u)) v) : sound A k s' := by
  obtain ⟨a, ha1, ha2, ha3⟩ := h.2 u hu
  obtain ⟨b, hb1, hb2, hb3⟩ := h.2 _ (vW_act hA hu hi)
  have hab : wEq A k a b := wEq_trans (wEq_symm ha3) (wEq_trans (wEq_act hu hi) hb3)
  refine ⟨hs', fun w hw => ?_⟩
  obtain ⟨v, hv1, hv2, hv3⟩ := h.2 w hw
  rw [hr, jr, hv2, ha2, hb2]
  by_cases q : tcl v = max (tcl a) (tcl b)
  · rw [if_pos q]
    have hva : wEq A k v a := by
      rcases Nat.le_total (tcl a) (tcl b) with h1 | h1
      · rw [Nat.max_eq_right h1] at q
        rw [vW_inj hA hv1 hb1 q]
        exact wEq_symm hab
      · rw [Nat.max_eq_left h1] at q
        rw [vW_inj hA hv1 ha1 q]
        exact wEq_refl _ _ _
    rcases Nat.le_total (tcl a) (tcl b) with h1 | h1
    · exact ⟨a, ha1, Nat.min_eq_left h1, wEq_trans hv3 hva⟩
    · exact ⟨b, hb1, Nat.min_eq_right h1, wEq_trans hv3 (wEq_trans hva hab)⟩
  · rw [if_neg q]
    exact ⟨v, hv1, rfl, hv3⟩
/-- once joined, joined -/
theorem jr_keeps {r : Nat → Nat} {a b x y : Nat} (h : r x = r y) : jr r a b x = jr r a b y := by unfold jr; rw [h]
theorem jr_joins (r : Nat → Nat) (a b : Nat) : jr r a b a = jr r a b b := by
  unfold jr
  rcases Nat.le_total (r a) (r b) with h | h
  · rw [Nat.max_eq_right h, Nat.min_eq_left h, if_pos rfl]
    split <;> rfl
  · rw [Nat.max_eq_left h, Nat.min_eq_right h, if_pos rfl]
    split <;> rfl
/-- all joined: the ends are the first words -/
theorem root_lst {A : ZP} {k : Nat} {s : Nat → Nat} (h : sound A k s) (hj : ∀ u i, vW A k u → i + 1 < k → root s (tcl (act A i u)) = root s (tcl u)) : ∃ r, isLst A k r ∧ ∀ w, vW A k w → root s (tcl w) = tcl (r w) := by
  have hex : ∀ w, ∃ v, vW A k w → vW A k v ∧ root s (tcl w) = tcl v ∧ wEq A k w v := by
    intro w
    by_cases hw : vW A k w
    · obtain ⟨v, hv⟩ := h.2 w hw
      exact ⟨v, fun _ => hv⟩
    · exact ⟨w, fun q => absurd q hw⟩
  refine ⟨fun w => Classical.choose (hex w), fun w hw => ?_, fun w hw => (Classical.choose_spec (hex w) hw).2.1⟩
  have hv := Classical.choose_spec (hex w) hw
  refine ⟨hv.1, hv.2.2, fun u hu he => ?_⟩
  rw [← hv.2.1, he (fun w => root s (tcl w)) hj]
  exact root_le h.1 _
