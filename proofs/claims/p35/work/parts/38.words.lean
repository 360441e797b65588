/-! from each number to a smaller one; where that ends -/
def rtf (s : Nat → Nat) : Nat → Nat → Nat
  | 0, w => w
  | f + 1, w => if s w = w then w else rtf s f (s w)
def root (s : Nat → Nat) (w : Nat) : Nat := rtf s w w
def uwf (s : Nat → Nat) : Prop := ∀ w, s w ≤ w
theorem rtf_enough {s : Nat → Nat} (h : uwf s) : ∀ f g w, w ≤ f → w ≤ g → rtf s f w = rtf s g w := by
  intro f
  induction f with
  | zero =>
    intro g w h1 h2
    have e : w = 0 := by omega
    subst e
    cases g with
    | zero => rfl
    | succ g => rw [rtf, rtf, if_pos (Nat.le_zero.mp (h 0))]
  | succ f ih =>
    intro g w h1 h2
    cases g with
    | zero =>
      have e : w = 0 := by omega
      subst e
      rw [rtf, rtf, if_pos (Nat.le_zero.mp (h 0))]
    | succ g =>
      rw [rtf, rtf]
      by_cases q : s w = w
      · rw [if_pos q, if_pos q]
      · have := h w
        rw [if_neg q, if_neg q]
        exact ih g (s w) (by omega) (by omega)
theorem root_self {s : Nat → Nat} {w : Nat} (h : s w = w) : root s w = w := by
  unfold root
  cases w with
  | zero => rfl
  | succ w => rw [rtf, if_pos h]
theorem root_step {s : Nat → Nat} (h : uwf s) (w : Nat) : root s (s w) = root s w := by
  by_cases q : s w = w
  · rw [q]
  · have hw := h w
    obtain ⟨v, rfl⟩ : ∃ v, w = v + 1 := ⟨w - 1, by omega⟩
    show rtf s (s (v + 1)) (s (v + 1)) = rtf s (v + 1) (v + 1)
    rw [rtf, if_neg q]
    exact rtf_enough h _ _ _ (Nat.le_refl _) (by omega)
/-- what is as it is one step on, and at the ends, is the root -/
theorem root_uniq {s : Nat → Nat} (h : uwf s) {r : Nat → Nat} (h1 : ∀ w, r (s w) = r w) (h2 : ∀ w, s w = w → r w = w) : ∀ w, root s w = r w := by
  intro w
  induction w using Nat.strongRecOn with
  | _ w ih =>
    by_cases q : s w = w
    · rw [root_self q, h2 w q]
    · have hw := h w
      rw [← root_step h, ih (s w) (by omega), h1]
theorem root_end {s : Nat → Nat} (h : uwf s) : ∀ w, s (root s w) = root s w := by
  intro w
  induction w using Nat.strongRecOn with
  | _ w ih =>
    by_cases q : s w = w
    · rw [root_self q, q]
    · have hw := h w
      rw [← root_step h]
      exact ih (s w) (by omega)
theorem root_le {s : Nat → Nat} (h : uwf s) : ∀ w, root s w ≤ w := by
  intro w
  induction w using Nat.strongRecOn with
  | _ w ih =>
    by_cases q : s w = w
    · rw [root_self q]; exact Nat.le_refl _
    · have hw := h w
      have := ih (s w) (by omega)
      rw [root_step h] at this
      omega
def upN (s : Nat → Nat) (r v : Nat) : Nat → Nat := fun w => if w = r then v else s w
theorem uwf_upN {s : Nat → Nat} {r v : Nat} (h : uwf s) (hv : v ≤ r) : uwf (upN s r v) := fun w => by
  unfold upN
  split
  · omega
  · exact h w
/-- a shorter way has the same end -/
theorem root_half {s : Nat → Nat} (h : uwf s) (r : Nat) : ∀ w, root (upN s r (s (s r))) w = root s w := by
  have hr := h r
  have hr2 := h (s r)
  refine root_uniq (uwf_upN h (by omega)) (fun w => ?_) (fun w q => ?_)
  · unfold upN
    split
    · rename_i e; rw [e, root_step h, root_step h]
    · exact root_step h w
  · unfold upN at q
    split at q
    · rename_i e
      subst e
      exact root_self (by omega)
    · exact root_self q
/-- one end led to another -/
theorem root_join {s : Nat → Nat} (h : uwf s) {a b : Nat} (ha : s a = a) (hb : s b = b) (hab : a < b) : ∀ w, root (upN s b a) w = if root s w = b then a else root s w := by
  refine root_uniq (r := fun w => if root s w = b then a else root s w) (uwf_upN h (by omega)) (fun w => ?_) (fun w q => ?_)
  · unfold upN
    split
    · rename_i e
      show (if root s a = b then a else root s a) = if root s w = b then a else root s w
      rw [e, root_self ha, root_self hb, if_neg (by omega), if_pos rfl]
    · show (if root s (s w) = b then a else root s (s w)) = _
      rw [root_step h]
  · unfold upN at q
    split at q
    · omega
    · rename_i e
      show (if root s w = b then a else root s w) = w
      rw [root_self q, if_neg e]
def isU (M : ZM) (s : Nat → Nat) : Prop := ∀ w, w < 4096 → M.1 17 0 w = nI (s w)
def wcS : Nat → Nat → Prop := fun a b => (a = 16 ∨ a = 17) ∧ b = 0
def smS : Nat → Nat → Prop := fun a b => a = 17 ∧ b = 0
theorem isU_set {M : ZM} {s : Nat → Nat} {r v : Nat} (h : isU M s) : isU (zset 17 0 r (nI v) M) (upN s r v) := by
  intro w hw
  unfold upN
  by_cases e : w = r
  · rw [if_pos e, e, zset_eq]
  · rw [if_neg e, zset_ne (by omega)]; exact h w hw
theorem n_mask12 {x : Nat} (hx : x < 4096) : nI x &&& nI 4095 = nI x := by rw [n_and, show (4095 : Nat) = 2 ^ 12 - 1 from rfl, Nat.and_two_pow_sub_one_eq_mod, Nat.mod_eq_of_lt hx]
section
variable {G : ZG} {M : ZM} {Z : Option ZV → ZM → Prop}
theorem isU_same {M M' : ZM} {s : Nat → Nat} (h : isU M s) (hs : M'.1 17 0 = M.1 17 0) : isU M' s := fun w hw => by rw [hs]; exact h w hw
def jr (r : Nat → Nat) (a b v : Nat) : Nat := if r v = max (r a) (r b) then min (r a) (r b) else r v
theorem jr_same {r : Nat → Nat} {a b : Nat} (h : r a = r b) (v : Nat) : jr r a b v = r v := by
  unfold jr
  rw [h, Nat.max_self, Nat.min_self]
  split
  · rename_i q; exact q.symm
  · rfl
end
