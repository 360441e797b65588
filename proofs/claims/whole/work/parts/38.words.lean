/-! from each number to a smaller one; where that ends -/
def rtf (s : Nat → Nat) : Nat → Nat → Nat
  | 0, w => w
  | f + 1, w => if s w = w then w else rtf s f (s w)
def root (s : Nat → Nat) (w : Nat) : Nat := rtf s w w
def uwf (s : Nat → Nat) : Prop := ∀ w, s w ≤ w
theorem rtf_enough {s : Nat → Nat} (h : uwf s) : ∀ f g w, w ≤ f → w ≤ g → rtf s f w = rtf s g w := by
  intro f
  induction f with
  | zero =>
    intro g w h1 h2
    have e : w = 0 := by omega
    subst e
    cases g with
    | zero => rfl
    | succ g => rw [rtf, rtf, if_pos (Nat.le_zero.mp (h 0))]
  | succ f ih =>
    intro g w h1 h2
    cases g with
    | zero =>
      have e : w = 0 := by omega
      subst e
      rw [rtf, rtf, if_pos (Nat.le_zero.mp (h 0))]
    | succ g =>
      rw [rtf, rtf]
      by_cases q : s w = w
      · rw [if_pos q, if_pos q]
      · have := h w
        rw [if_neg q, if_neg q]
        exact ih g (s w) (by omega) (by omega)
theorem root_self {s : Nat → Nat} {w : Nat} (h : s w = w) : root s w = w := by
  unfold root
  cases w with
  | zero => rfl
  | succ w => rw [rtf, if_pos h]
theorem root_step {s : Nat → Nat} (h : uwf s) (w : Nat) : root s (s w) = root s w := by
  by_cases q : s w = w
  · rw [q]
  · have hw := h w
    obtain ⟨v, rfl⟩ : ∃ v, w = v + 1 := ⟨w - 1, by omega⟩
    show rtf s (s (v + 1)) (s (v + 1)) = rtf s (v + 1) (v + 1)
    rw [rtf, if_neg q]
    exact rtf_enough h _ _ _ (Nat.le_refl _) (by omega)
/-- what is as it is one step on, and at the ends, is the root -/
theorem root_uniq {s : Nat → Nat} (h : uwf s) {r : Nat → Nat} (h1 : ∀ w, r (s w) = r w) (h2 : ∀ w, s w = w → r w = w) : ∀ w, root s w = r w := by
  intro w
  induction w using Nat.strongRecOn with
  | _ w ih =>
    by_cases q : s w = w
    · rw [root_self q, h2 w q]
    · have hw := h w
      rw [← root_step h, ih (s w) (by omega), h1]
theorem root_end {s : Nat → Nat} (h : uwf s) : ∀ w, s (root s w) = root s w := by
  intro w
  induction w using Nat.strongRecOn with
  | _ w ih =>
    by_cases q : s w = w
    · rw [root_self q, q]
    · have hw := h w
      rw [← root_step h]
      exact ih (s w) (by omega)
theorem root_le {s : Nat → Nat} (h : uwf s) : ∀ w, root s w ≤ w := by
  intro w
  induction w using Nat.strongRecOn with
  | _ w ih =>
    by_cases q : s w = w
    · rw [root_self q]; exact Nat.le_refl _
    · have hw := h w
      have := ih (s w) (by omega)
      rw [root_step h] at this
      omega
def upN (s : Nat → Nat) (r v : Nat) : Nat → Nat := fun w => if w = r then v else s w
theorem uwf_upN {s : Nat → Nat} {r v : Nat} (h : uwf s) (hv : v ≤ r) : uwf (upN s r v) := fun w => by
  unfold upN
  split
  · omega
  · exact h w
/-- a shorter way has the same end -/
theorem root_half {s : Nat → Nat} (h : uwf s) (r : Nat) : ∀ w, root (upN s r (s (s r))) w = root s w := by
  have hr := h r
  have hr2 := h (s r)
  refine root_uniq (uwf_upN h (by omega)) (fun w => ?_) (fun w q => ?_)
  · unfold upN
    split
    · rename_i e; rw [e, root_step h, root_step h]
    · exact root_step h w
  · unfold upN at q
    split at q
    · rename_i e
      subst e
      exact root_self (by omega)
    · exact root_self q
/-- one end led to another -/
theorem root_join {s : Nat → Nat} (h : uwf s) {a b : Nat} (ha : s a = a) (hb : s b = b) (hab : a < b) : ∀ w, root (upN s b a) w = if root s w = b then a else root s w := by
  refine root_uniq (r := fun w => if root s w = b then a else root s w) (uwf_upN h (by omega)) (fun w => ?_) (fun w q => ?_)
  · unfold upN
    split
    · rename_i e
      show (if root s a = b then a else root s a) = if root s w = b then a else root s w
      rw [e, root_self ha, root_self hb, if_neg (by omega), if_pos rfl]
    · show (if root s (s w) = b then a else root s (s w)) = _
      rw [root_step h]
  · unfold upN at q
    split at q
    · omega
    · rename_i e
      show (if root s w = b then a else root s w) = w
      rw [root_self q, if_neg e]
def isU (M : ZM) (s : Nat → Nat) : Prop := ∀ w, w < 4096 → M.1 17 0 w = nI (s w)
def wcS : Nat → Nat → Prop := fun a b => (a = 16 ∨ a = 17) ∧ b = 0
def smS : Nat → Nat → Prop := fun a b => a = 17 ∧ b = 0
theorem isU_set {M : ZM} {s : Nat → Nat} {r v : Nat} (h : isU M s) : isU (zset 17 0 r (nI v) M) (upN s r v) := by
  intro w hw
  unfold upN
  by_cases e : w = r
  · rw [if_pos e, e, zset_eq]
  · rw [if_neg e, zset_ne (by omega)]; exact h w hw
theorem n_mask12 {x : Nat} (hx : x < 4096) : nI x &&& nI 4095 = nI x := by rw [n_and, show (4095 : Nat) = 2 ^ 12 - 1 from rfl, Nat.and_two_pow_sub_one_eq_mod, Nat.mod_eq_of_lt hx]
section
variable {G : ZG} {M : ZM} {Z : Option ZV → ZM → Prop}
theorem s_WC_smallerOf {x : Nat} (hx : x < 4096) (hZ : Z (some (zi (M.1 17 0 x))) M) : Ctr 0 G mi_WC_smallerOf [zr 16 0, zi (nI x)] M Z := by
  refine go_WC_smallerOf (fun Kz hKz => ?_)
  conv => whnf
  rw [n_mask12 hx]
  refine ⟨vp_in_nI hx (by decide), ?_⟩
  conv => whnf
  rw [nI_clamp (by omega)]
  exact hZ
theorem s_WC_smallest {w : Nat} {s : Nat → Nat} (hw : w < 4096) (hU : isU M s) (hs : uwf s) (hZ : ∀ M' s', zsm smS M M' → isU M' s' → uwf s' → (∀ v, root s' v = root s v) → Z (some (zi (nI (root s w)))) M') : Ctr 0 G mi_WC_smallest [zr 16 0, zi (nI w)] M Z := by
  have lp : ∀ d st r M' s', d + st = 4095 → r + st ≤ 4095 → zsm smS M M' → isU M' s' → uwf s' → (∀ v, root s' v = root s v) → root s' r = root s w → V 0 G mi_WC_smallest Z 8 [(0, zr 16 0), (2, zi (nI r)), (3, zi (nI st))] [] M' := by
    intro d
    induction d with
    | zero =>
      intro st r M' s' h1 h2 g1 g2 g3 g4 g5
      have hr : r = 0 := by omega
      have := root_le g3 r
      have e : root s w = r := by omega
      have hZ := hZ M' s' g1 g2 g3 g4
      rw [e] at hZ
      refine z_run (cuts := cu_WC_smallest) ok_WC_smallest (fun Kz hKz => ?_)
      conv => whnf
      rw [nI_leI (by omega) (by omega)]
      refine ⟨fun _ => ?_, fun q => absurd (show 4095 ≤ st by omega) q⟩
      conv => whnf
      exact hZ
    | succ d ih =>
      intro st r M' s' h1 h2 g1 g2 g3 g4 g5
      have l1 := g3 r
      have l2 := g3 (s' r)
      have hr : r < 4096 := by omega
      refine z_run (cuts := cu_WC_smallest) ok_WC_smallest (fun Kz hKz => ?_)
      conv => whnf
      rw [nI_leI (by omega) (by omega)]
      refine ⟨fun q => absurd q (by omega), fun _ => ?_⟩
      conv => whnf
      refine s_WC_smallerOf hr ?_
      conv => whnf
      rw [g2 r hr, nI_eq (by omega) (by omega)]
      refine ⟨fun q => ?_, fun q => ?_⟩
      · have e : root s w = r := by rw [← g5]; exact root_self q
        have hZ := hZ M' s' g1 g2 g3 g4
        rw [e] at hZ
        conv => whnf
        exact hZ
      · conv => whnf
        refine s_WC_smallerOf hr ?_
        conv => whnf
        rw [g2 r hr]
        refine s_WC_smallerOf (x := s' r) (by omega) ?_
        conv => whnf
        rw [g2 (s' r) (by omega), n_mask12 hr]
        refine ⟨vp_in_nI hr (by decide), ?_⟩
        conv => whnf
        rw [nI_clamp (by omega)]
        refine s_WC_smallerOf hr ?_
        rw [zset_eq]
        conv => whnf
        refine hKz _ _ _ _ ?_
        rw [nI_1']
        refine ih (st + 1) (s' (s' r)) _ (upN s' r (s' (s' r))) (by omega) (by omega) (zsm_trans g1 (zsm_set ⟨rfl, rfl⟩)) (isU_set g2) (uwf_upN g3 (by omega)) (fun v => by rw [root_half g3, g4]) ?_
        rw [root_half g3, root_step g3, root_step g3, g5]
  refine go_WC_smallest (fun Kz hKz => ?_)
  conv => whnf
  rw [n_mask12 hw]
  refine hKz _ _ _ _ ?_
  exact lp 4095 0 w M s rfl (by omega) (zsm_refl _ _) hU hs (fun _ => rfl) rfl
theorem isU_same {M M' : ZM} {s : Nat → Nat} (h : isU M s) (hs : M'.1 17 0 = M.1 17 0) : isU M' s := fun w hw => by rw [hs]; exact h w hw
def jr (r : Nat → Nat) (a b v : Nat) : Nat := if r v = max (r a) (r b) then min (r a) (r b) else r v
theorem jr_same {r : Nat → Nat} {a b : Nat} (h : r a = r b) (v : Nat) : jr r a b v = r v := by
  unfold jr
  rw [h, Nat.max_self, Nat.min_self]
  split
  · rename_i q; exact q.symm
  · rfl
theorem s_WC_join {a b c : Nat} {s : Nat → Nat} (ha : a < 4096) (hb : b < 4096) (hU : isU M s) (hs : uwf s) (hc : M.1 16 0 1 = nI (c + 1)) (hZ : ∀ M' s', zsm wcS M M' → isU M' s' → uwf s' → (∀ v, root s' v = jr (root s) a b v) → M'.1 16 0 1 = nI (if root s a = root s b then c + 1 else c) → Z none M') : Ctr 0 G mi_WC_join [zr 16 0, zi (nI a), zi (nI b)] M Z := by
  have la := root_le hs a
  have lb := root_le hs b
  refine go_WC_join (fun Kz hKz => ?_)
  conv => whnf
  refine s_WC_smallest ha hU hs (fun M1 s1 g1 g2 g3 g4 => ?_)
  conv => whnf
  refine s_WC_smallest hb g2 g3 (fun M2 s2 g5 g6 g7 g8 => ?_)
  have e8 : ∀ v, root s2 v = root s v := fun v => by rw [g8, g4]
  have hz : zsm smS M M2 := zsm_trans g1 g5
  have hz2 : zsm wcS M M2 := zsm_mono hz (fun a b q => ⟨Or.inr q.1, q.2⟩)
  have hc2 : M2.1 16 0 1 = nI (c + 1) := by rw [hz.2 16 0 (fun q => absurd q.1 (by decide))]; exact hc
  rw [g4]
  conv => whnf
  rw [nI_eq (by omega) (by omega)]
  refine ⟨fun q => ?_, fun q => ?_⟩
  · conv => whnf
    refine hZ M2 s2 hz2 g6 g7 (fun v => ?_) ?_
    · rw [e8, jr_same q]
    · rw [if_pos q]; exact hc2
  · have emax : (if nI (root s a) < nI (root s b) then nI (root s b) else nI (root s a)) = nI (max (root s a) (root s b)) := by
      by_cases h : root s a < root s b
      · rw [if_pos (nI_lt h (by omega)), Nat.max_eq_right (by omega)]
      · rw [if_neg (nI_nlt (by omega) (by omega)), Nat.max_eq_left (by omega)]
    have emin : (if nI (root s b) < nI (root s a) then nI (root s b) else nI (root s a)) = nI (min (root s a) (root s b)) := by
      by_cases h : root s b < root s a
      · rw [if_pos (nI_lt h (by omega)), Nat.min_eq_right (by omega)]
      · rw [if_neg (nI_nlt (by omega) (by omega)), Nat.min_eq_left (by omega)]
    have hmx : max (root s a) (root s b) < 4096 := by omega
    have ea : s2 (root s a) = root s a := by rw [← e8]; exact root_end g7 a
    have eb : s2 (root s b) = root s b := by rw [← e8]; exact root_end g7 b
    have hmin : s2 (min (root s a) (root s b)) = min (root s a) (root s b) := by
      rcases Nat.le_total (root s a) (root s b) with h | h
      · rw [Nat.min_eq_left h]; exact ea
      · rw [Nat.min_eq_right h]; exact eb
    have hmax : s2 (max (root s a) (root s b)) = max (root s a) (root s b) := by
      rcases Nat.le_total (root s a) (root s b) with h | h
      · rw [Nat.max_eq_right h]; exact eb
      · rw [Nat.max_eq_left h]; exact ea
    have hlt : min (root s a) (root s b) < max (root s a) (root s b) := by omega
    conv => whnf
    rw [emax, emin, n_mask12 hmx]
    refine ⟨vp_in_nI hmx (by decide), ?_⟩
    conv => whnf
    rw [nI_clamp (by omega), zset_ne (by omega), hc2, pk_sub (by omega), Nat.add_sub_cancel]
    refine hZ _ (upN s2 (max (root s a) (root s b)) (min (root s a) (root s b))) (zsm_trans (zsm_trans hz2 (zsm_set ⟨Or.inr rfl, rfl⟩)) (zsm_set ⟨Or.inl rfl, rfl⟩)) ?_ (uwf_upN g7 (Nat.le_of_lt hlt)) (fun v => ?_) ?_
    · intro w hw
      rw [zset_ne (by omega)]
      exact isU_set g6 w hw
    · rw [root_join g7 hmin hmax hlt, e8]
      rfl
    · rw [zset_eq, if_neg q]
end
