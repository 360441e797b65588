theorem jn_and (s a b : Nat) : s &&& (2 ^ a ||| 2 ^ b) = 0 ↔ (s.testBit a || s.testBit b) = false := by
  refine ⟨fun h => ?_, fun h => ?_⟩
  · have h1 : (s &&& (2 ^ a ||| 2 ^ b)).testBit a = false := by rw [h]; exact Nat.zero_testBit _
    have h2 : (s &&& (2 ^ a ||| 2 ^ b)).testBit b = false := by rw [h]; exact Nat.zero_testBit _
    simp at h1 h2
    simp [h1, h2]
  · rw [Bool.or_eq_false_iff] at h
    refine Nat.eq_of_testBit_eq fun i => ?_
    rw [Nat.zero_testBit, Nat.testBit_and, Nat.testBit_or, Nat.testBit_two_pow, Nat.testBit_two_pow]
    by_cases ha : a = i
    · rw [← ha, h.1, Bool.false_and]
    · by_cases hb : b = i
      · rw [← hb, h.2, Bool.false_and]
      · rw [decide_eq_false ha, decide_eq_false hb, Bool.or_false, Bool.and_false]
def lnk (A : ZP) (j : Nat) : Nat × Nat := if j % 2 = 0 then (j / 2 % A.1, A.2.1 (j / 2 / A.1) (j / 2 % A.1)) else (j / 2 / A.1, A.2.2 (j / 2 / A.1) (j / 2 % A.1))
theorem lnk_l {A : ZP} {x y : Nat} (hy : y < A.1) : lnk A (2 * (A.1 * x + y)) = (y, A.2.1 x y) := by
  unfold lnk
  rw [if_pos (Nat.mul_mod_right 2 _), Nat.mul_div_cancel_left _ (by decide : 0 < 2), (dvm hy).1, (dvm hy).2]
theorem lnk_r {A : ZP} {x y : Nat} (hy : y < A.1) : lnk A (2 * (A.1 * x + y) + 1) = (x, A.2.2 x y) := by
  unfold lnk
  have h1 : (2 * (A.1 * x + y) + 1) % 2 = 1 := by omega
  have h2 : (2 * (A.1 * x + y) + 1) / 2 = A.1 * x + y := by omega
  rw [h1, if_neg (by decide), h2, (dvm hy).1, (dvm hy).2]
theorem lnk_lt {A : ZP} (hA : pwf A) : ∀ i, i < 2 * (A.1 * A.1) → (lnk A i).1 < A.1 ∧ (lnk A i).2 < A.1 := by
  intro i hi
  have hj : i / 2 < A.1 * A.1 := by omega
  have h := dvlt hj
  have hLR := hA.2 _ _ h.1 h.2
  unfold lnk
  split
  · exact ⟨h.2, hLR.1⟩
  · exact ⟨h.1, hLR.2⟩
theorem lnk_cl (A : ZP) (s : Nat) : (∀ i, i < 2 * (A.1 * A.1) → s.testBit (lnk A i).1 = s.testBit (lnk A i).2) ↔ clO A s := by
  refine ⟨fun h x y hx hy => ?_, fun h i hi => ?_⟩
  · have hp := prlt hx hy
    have h1 := h (2 * (A.1 * x + y)) (by omega)
    have h2 := h (2 * (A.1 * x + y) + 1) (by omega)
    rw [lnk_l hy] at h1
    rw [lnk_r hy] at h2
    exact ⟨h1, h2⟩
  · have hj : i / 2 < A.1 * A.1 := by omega
    have q := dvlt hj
    have hc := h _ _ q.1 q.2
    unfold lnk
    split
    · exact hc.1
    · exact hc.2
theorem jns_two (A : ZP) (s : Nat) {x y : Nat} (hy : y < A.1) : jns (lnk A) s (2 * (A.1 * x + y + 1)) = jn (jn (jns (lnk A) s (2 * (A.1 * x + y))) y (A.2.1 x y)) x (A.2.2 x y) := by
  rw [show 2 * (A.1 * x + y + 1) = 2 * (A.1 * x + y) + 1 + 1 by omega, jns, jns, lnk_l hy, lnk_r hy]
theorem bit_and1 (s x y : Nat) : (s / 2 ^ x &&& s / 2 ^ y) &&& 1 = (s.testBit x && s.testBit y).toNat := by
  rw [show (1 : Nat) = 2 ^ 1 - 1 from rfl, Nat.and_two_pow_sub_one_eq_mod, Nat.pow_one]
  have h : ∀ z, s / 2 ^ z % 2 = (s.testBit z).toNat := fun z => (Nat.toNat_testBit s z).symm
  have e : (s / 2 ^ x &&& s / 2 ^ y) % 2 = ((s / 2 ^ x &&& s / 2 ^ y).testBit 0).toNat := by rw [Nat.toNat_testBit, Nat.pow_zero, Nat.div_one]
  rw [e, Nat.testBit_and, Nat.testBit_div_two_pow, Nat.testBit_div_two_pow, Nat.zero_add, Nat.zero_add]
/-- the images of the pairs of a set -/
def wim (A : ZP) (s : Nat) : Nat → Nat
  | 0 => s
  | j + 1 => if (s.testBit (j / A.1) && s.testBit (j % A.1)) = true then wim A s j ||| (2 ^ (A.2.1 (j / A.1) (j % A.1)) ||| 2 ^ (A.2.2 (j / A.1) (j % A.1))) else wim A s j
def clS (A : ZP) (s : Nat) : Prop := ∀ x y, x < A.1 → y < A.1 → s.testBit x = true → s.testBit y = true → s.testBit (A.2.1 x y) = true ∧ s.testBit (A.2.2 x y) = true
theorem wim_sub (A : ZP) (s : Nat) : ∀ j, sub2 s (wim A s j) := by
  intro j
  induction j with
  | zero => exact sub2_refl _
  | succ j ih =>
    rw [wim]
    split
    · exact sub2_trans ih sub2_l
    · exact ih
theorem wim_step (A : ZP) (s j : Nat) : sub2 (wim A s j) (wim A s (j + 1)) := by
  rw [wim]
  split
  · exact sub2_l
  · exact sub2_refl _
theorem wim_mono (A : ZP) (s : Nat) : ∀ d j, sub2 (wim A s j) (wim A s (j + d)) := by
  intro d
  induction d with
  | zero => intro j; exact sub2_refl _
  | succ d ih => intro j; exact sub2_trans (ih j) (wim_step A s (j + d))
theorem wim_lt {A : ZP} (hA : pwf A) {s : Nat} (hs : s < 2 ^ A.1) : ∀ j, j ≤ A.1 * A.1 → wim A s j < 2 ^ A.1 := by
  intro j
  induction j with
  | zero => intro _; exact hs
  | succ j ih =>
    intro hj
    have q := dvlt (show j < A.1 * A.1 by omega)
    have hLR := hA.2 _ _ q.1 q.2
    rw [wim]
    split
    · exact Nat.or_lt_two_pow (ih (by omega)) (Nat.or_lt_two_pow (Nat.pow_lt_pow_right (by decide) hLR.1) (Nat.pow_lt_pow_right (by decide) hLR.2))
    · exact ih (by omega)
theorem wim_fix (A : ZP) {s : Nat} (h : wim A s (A.1 * A.1) = s) : clS A s := by
  intro x y hx hy h1 h2
  have hp := prlt hx hy
  have hs : sub2 (wim A s (A.1 * x + y + 1)) s := by
    have := wim_mono A s (A.1 * A.1 - (A.1 * x + y + 1)) (A.1 * x + y + 1)
    rw [Nat.add_sub_cancel' (by omega), h] at this
    exact this
  rw [wim, (dvm hy).1, (dvm hy).2, h1, h2, Bool.true_and, if_pos rfl] at hs
  exact ⟨hs _ (by simp), hs _ (by simp)⟩
theorem wim_min {A : ZP} {s t : Nat} (h : sub2 s t) (hc : clS A t) : ∀ j, j ≤ A.1 * A.1 → sub2 (wim A s j) t := by
  intro j
  induction j with
  | zero => intro _; exact h
  | succ j ih =>
    intro hj
    have q := dvlt (show j < A.1 * A.1 by omega)
    rw [wim]
    split
    · rename_i g
      rw [Bool.and_eq_true] at g
      have hc2 := hc _ _ q.1 q.2 (h _ g.1) (h _ g.2)
      exact sub2_or (ih (by omega)) (sub2_or (sub2_pow hc2.1) (sub2_pow hc2.2))
    · exact ih (by omega)
def clSb (A : ZP) (s : Nat) : Bool := decide (wim A s (A.1 * A.1) = s)
theorem clSb_iff (A : ZP) (s : Nat) : clSb A s = true ↔ clS A s := by
  unfold clSb
  rw [decide_eq_true_iff]
  exact ⟨wim_fix A, fun h => sub2_anti (wim_min (sub2_refl _) h _ (Nat.le_refl _)) (wim_sub A s _)⟩
def isShut (A : ZP) (s r : Nat) : Prop := r < 2 ^ A.1 ∧ sub2 s r ∧ clS A r ∧ ∀ t, sub2 s t → clS A t → sub2 r t
theorem isShut_uniq {A : ZP} {s r r' : Nat} (h : isShut A s r) (h' : isShut A s r') : r = r' := sub2_anti (h.2.2.2 r' h'.2.1 h'.2.2.1) (h'.2.2.2 r h.2.1 h.2.2.1)
theorem shut_of {A : ZP} (hA : pwf A) {s : Nat} (hs : s < 2 ^ A.1) : isShut A s (itr (fun s => wim A s (A.1 * A.1)) s A.1) :=
  least_closed (n := A.1) (f := fun s => wim A s (A.1 * A.1)) (cl := clS A) (fun s => wim_sub A s _) (fun s _ h => wim_fix A h) (fun s t h1 h2 => wim_min h1 h2 _ (Nat.le_refl _)) (fun s h => wim_lt hA h _ (Nat.le_refl _)) hs
section
variable {G : ZG} {M : ZM} {Z : Option ZV → ZM → Prop}
theorem s_CH_joined {s a b : Nat} (hs : s < 2 ^ 31) (ha : a < 8) (hb : b < 8) (hZ : Z (some (zi (nI (jn s a b)))) M) : Ctr 0 G mi_CH_joined [zi (nI s), zi (nI a), zi (nI b)] M Z := by
  refine go_CH_joined (fun Kz hKz => ?_)
  conv => whnf
  rw [n_shl _ _ (by omega), n_shl _ _ (by omega), Nat.one_mul, Nat.one_mul, n_or, n_and, nI_eq (Nat.lt_of_le_of_lt Nat.and_le_left hs) (by decide), jn_and]
  unfold jn at hZ
  refine ⟨fun q => ?_, fun q => ?_⟩
  · rw [Bool.not_eq_false] at q
    rw [if_pos q, ← n_or] at hZ
    conv => whnf
    exact hZ
  · rw [Classical.not_not] at q
    rw [if_neg (by rw [q]; decide)] at hZ
    conv => whnf
    exact hZ
theorem s_CH_withLinked {k s : Nat} {A : ZP} (hk : k < 10) (hA : isPM M k A) (hs : s < 2 ^ A.1) (hZ : Z (some (zi (nI (jns (lnk A) s (2 * (A.1 * A.1)))))) M) : Ctr 0 G mi_CH_withLinked [zr 0 k, zi (nI s)] M Z := by
  have hn := hA.1.1
  have hp : 2 ^ A.1 ≤ 2 ^ 6 := Nat.pow_le_pow_right (by decide) hn
  have hlt : ∀ j, j ≤ 2 * (A.1 * A.1) → jns (lnk A) s j < 2 ^ A.1 := fun j hj => jns_lt hs j (fun i hi => lnk_lt hA.1 i (by omega))
  refine go_CH_withLinked (fun Kz hKz => ?_)
  conv => whnf
  refine ⟨by first | assumption | decide, ?_⟩
  conv => whnf
  refine s_PM_points hk ?_
  conv => whnf
  refine hKz _ _ _ _ ?_
  rw [hA.2.1]
  refine rloop (n := A.1) (m := A.1) (O := fun x => ∀ v, v = jns (lnk A) s (2 * (A.1 * x)) → V 0 G mi_CH_withLinked Z 10 [(0, zr 0 k), (2, zi (nI A.1)), (3, zi (nI v)), (4, zi (nI x))] [] M) (I := fun x y => V 0 G mi_CH_withLinked Z 19 [(0, zr 0 k), (2, zi (nI A.1)), (3, zi (nI (jns (lnk A) s (2 * (A.1 * x + y))))), (4, zi (nI x)), (5, zi (nI y))] [] M) (fun v hv => ?_) (fun x hx h v hv => ?_) (fun x hx h => ?_) (fun x y hx hy h => ?_) s rfl
  · refine z_run (cuts := cu_CH_withLinked) ok_CH_withLinked (fun Kz hKz => ?_)
    conv => whnf
    rw [nI_leI (by omega) (by omega)]
    refine ⟨fun _ => ?_, fun q => absurd (Nat.le_refl _) q⟩
    conv => whnf
    rw [hv]
    exact hZ
  · refine z_run (cuts := cu_CH_withLinked) ok_CH_withLinked (fun Kz hKz => ?_)
    conv => whnf
    rw [nI_leI (by omega) (by omega)]
    refine ⟨fun q => absurd q (by omega), fun _ => ?_⟩
    conv => whnf
    refine hKz _ _ _ _ ?_
    rw [hv]
    exact h
  · refine z_run (cuts := cu_CH_withLinked) ok_CH_withLinked (fun Kz hKz => ?_)
    conv => whnf
    rw [nI_leI (by omega) (by omega)]
    refine ⟨fun _ => ?_, fun q => absurd (Nat.le_refl _) q⟩
    conv => whnf
    refine hKz _ _ _ _ ?_
    rw [nI_1']
    exact h _ (by rw [Nat.mul_succ])
  · have hLR := hA.1.2 x y hx hy
    have hpr := prlt hx hy
    have j1 := hlt (2 * (A.1 * x + y)) (by omega)
    have j2 := jn_lt j1 hy hLR.1
    refine z_run (cuts := cu_CH_withLinked) ok_CH_withLinked (fun Kz hKz => ?_)
    conv => whnf
    rw [nI_leI (by omega) (by omega)]
    refine ⟨fun q => absurd q (by omega), fun _ => ?_⟩
    conv => whnf
    refine ⟨by first | assumption | decide, ?_⟩
    conv => whnf
    refine s_PM_left hk hA hx hy ?_
    conv => whnf
    refine s_CH_joined (by omega) (by omega) (by omega) ?_
    conv => whnf
    refine ⟨by first | assumption | decide, ?_⟩
    conv => whnf
    refine s_PM_right hk hA hx hy ?_
    conv => whnf
    refine s_CH_joined (by omega) (by omega) (by omega) ?_
    conv => whnf
    refine hKz _ _ _ _ ?_
    rw [nI_1', ← jns_two A s hy]
    exact h
theorem s_CH_orbitOf {k x : Nat} {A : ZP} (hk : k < 10) (hA : isPM M k A) (hx : x < A.1) (hZ : ∀ r, isOrb A x r → Z (some (zi (nI r))) M) : Ctr 0 G mi_CH_orbitOf [zr 0 k, zi (nI x)] M Z := by
  have hn := hA.1.1
  have ho := orb_of (lnk_lt hA.1) (lnk_cl A) hx
  have hlt : ∀ j, itr (fun s => jns (lnk A) s (2 * (A.1 * A.1))) (2 ^ x) j < 2 ^ A.1 := by
    intro j
    induction j with
    | zero => exact Nat.pow_lt_pow_right (by decide) hx
    | succ j ih => exact jns_lt ih _ (lnk_lt hA.1)
  have lp : ∀ j, j ≤ A.1 → V 0 G mi_CH_orbitOf Z 6 [(0, zr 0 k), (2, zi (nI (itr (fun s => jns (lnk A) s (2 * (A.1 * A.1))) (2 ^ x) j))), (3, zi (nI j))] [] M := by
    refine up_to ?_ ?_
    · refine z_run (cuts := cu_CH_orbitOf) ok_CH_orbitOf (fun Kz hKz => ?_)
      conv => whnf
      refine ⟨by first | assumption | decide, ?_⟩
      conv => whnf
      refine s_PM_points hk ?_
      conv => whnf
      rw [hA.2.1, nI_leI (by omega) (by omega)]
      refine ⟨fun _ => ?_, fun q => absurd (Nat.le_refl _) q⟩
      conv => whnf
      exact hZ _ ho
    · intro j hj ih
      refine z_run (cuts := cu_CH_orbitOf) ok_CH_orbitOf (fun Kz hKz => ?_)
      conv => whnf
      refine ⟨by first | assumption | decide, ?_⟩
      conv => whnf
      refine s_PM_points hk ?_
      conv => whnf
      rw [hA.2.1, nI_leI (by omega) (by omega)]
      refine ⟨fun q => absurd q (by omega), fun _ => ?_⟩
      conv => whnf
      refine s_CH_withLinked hk hA (hlt j) ?_
      conv => whnf
      refine hKz _ _ _ _ ?_
      rw [nI_1']
      exact ih
  refine go_CH_orbitOf (fun Kz hKz => ?_)
  conv => whnf
  refine hKz _ _ _ _ ?_
  rw [n_shl _ _ (by omega), Nat.one_mul]
  exact lp 0 (Nat.zero_le _)
theorem s_CH_orbits {k : Nat} {A : ZP} (hk : k < 10) (hA : isPM M k A) (hZ : ∀ p : Nat → Bool, (∀ x, x < A.1 → ∃ r, isOrb A x r ∧ (p x = true ↔ ∀ i, i < x → r.testBit i = false)) → Z (some (zi (nI (cnt p A.1)))) M) : Ctr 0 G mi_CH_orbits [zr 0 k] M Z := by
  have hn := hA.1.1
  have hp : 2 ^ A.1 ≤ 2 ^ 6 := Nat.pow_le_pow_right (by decide) hn
  have orb : ∀ x, x < A.1 → isOrb A x (itr (fun s => jns (lnk A) s (2 * (A.1 * A.1))) (2 ^ x) A.1) := fun x hx => orb_of (lnk_lt hA.1) (lnk_cl A) hx
  have hlow : ∀ r x, r &&& (2 ^ x - 1) = 0 ↔ ∀ i, i < x → r.testBit i = false := by
    intro r x
    refine ⟨fun h i hi => ?_, fun h => Nat.eq_of_testBit_eq fun i => ?_⟩
    · have : (r &&& (2 ^ x - 1)).testBit i = false := by rw [h]; exact Nat.zero_testBit _
      rw [Nat.testBit_and, Nat.testBit_two_pow_sub_one, decide_eq_true hi, Bool.and_true] at this
      exact this
    · rw [Nat.zero_testBit, Nat.testBit_and, Nat.testBit_two_pow_sub_one]
      by_cases hi : i < x
      · rw [h i hi, Bool.false_and]
      · rw [decide_eq_false hi, Bool.and_false]
  have hp' := hZ (fun x => decide (itr (fun s => jns (lnk A) s (2 * (A.1 * A.1))) (2 ^ x) A.1 &&& (2 ^ x - 1) = 0)) (fun x hx => ⟨_, orb x hx, by rw [decide_eq_true_iff]; exact hlow _ _⟩)
  have lp : ∀ j, j ≤ A.1 → V 0 G mi_CH_orbits Z 4 [(0, zr 0 k), (1, zi (nI (cnt (fun x => decide (itr (fun s => jns (lnk A) s (2 * (A.1 * A.1))) (2 ^ x) A.1 &&& (2 ^ x - 1) = 0)) j))), (2, zi (nI j))] [] M := by
    refine up_to ?_ ?_
    · refine z_run (cuts := cu_CH_orbits) ok_CH_orbits (fun Kz hKz => ?_)
      conv => whnf
      refine ⟨by first | assumption | decide, ?_⟩
      conv => whnf
      refine s_PM_points hk ?_
      conv => whnf
      rw [hA.2.1, nI_leI (by omega) (by omega)]
      refine ⟨fun _ => ?_, fun q => absurd (Nat.le_refl _) q⟩
      conv => whnf
      exact hp'
    · intro j hj ih
      have hj2 : 2 ^ j ≤ 2 ^ 6 := Nat.pow_le_pow_right (by decide) (by omega)
      have hj0 : 0 < 2 ^ j := Nat.pow_pos (by decide)
      refine z_run (cuts := cu_CH_orbits) ok_CH_orbits (fun Kz hKz => ?_)
      conv => whnf
      refine ⟨by first | assumption | decide, ?_⟩
      conv => whnf
      refine s_PM_points hk ?_
      conv => whnf
      rw [hA.2.1, nI_leI (by omega) (by omega)]
      refine ⟨fun q => absurd q (by omega), fun _ => ?_⟩
      conv => whnf
      refine s_CH_orbitOf hk hA hj (fun r hr => ?_)
      have e := isOrb_uniq hr (orb j hj)
      subst e
      conv => whnf
      rw [n_shl _ _ (by omega), Nat.one_mul, pk_sub hj0, n_and, nI_eq (Nat.lt_of_le_of_lt Nat.and_le_right (by omega)) (by decide)]
      have ih2 : ∀ v, v = cnt (fun x => decide (itr (fun s => jns (lnk A) s (2 * (A.1 * A.1))) (2 ^ x) A.1 &&& (2 ^ x - 1) = 0)) (j + 1) → V 0 G mi_CH_orbits Z 4 [(0, zr 0 k), (1, zi (nI v)), (2, zi (nI (j + 1)))] [] M := by
        rintro v rfl; exact ih
      refine ⟨fun q => ?_, fun q => ?_⟩
      · conv => whnf
        refine s_T_oneIfb (b := false) ?_
        conv => whnf
        refine hKz _ _ _ _ ?_
        rw [nI_add, nI_1']
        refine ih2 _ ?_
        have q2 : ¬ itr (fun s => jns (lnk A) s (2 * (A.1 * A.1))) (2 ^ j) A.1 &&& (2 ^ j - 1) = 0 := q
        simp only [cnt, decide_eq_false q2, Bool.toNat_false, Nat.add_zero]
      · conv => whnf
        refine s_T_oneIfb (b := true) ?_
        conv => whnf
        refine hKz _ _ _ _ ?_
        rw [nI_add, nI_1']
        refine ih2 _ ?_
        have q2 : itr (fun s => jns (lnk A) s (2 * (A.1 * A.1))) (2 ^ j) A.1 &&& (2 ^ j - 1) = 0 := Classical.not_not.mp q
        simp only [cnt, decide_eq_true q2, Bool.toNat_true]
  refine go_CH_orbits (fun Kz hKz => ?_)
  conv => whnf
  refine hKz _ _ _ _ ?_
  exact lp 0 (Nat.zero_le _)
theorem s_CH_withImages {k s : Nat} {A : ZP} (hk : k < 10) (hA : isPM M k A) (hs : s < 2 ^ A.1) (hZ : Z (some (zi (nI (wim A s (A.1 * A.1))))) M) : Ctr 0 G mi_CH_withImages [zr 0 k, zi (nI s)] M Z := by
  have hn := hA.1.1
  have hp : 2 ^ A.1 ≤ 2 ^ 6 := Nat.pow_le_pow_right (by decide) hn
  refine go_CH_withImages (fun Kz hKz => ?_)
  conv => whnf
  refine ⟨by first | assumption | decide, ?_⟩
  conv => whnf
  refine s_PM_points hk ?_
  conv => whnf
  refine hKz _ _ _ _ ?_
  rw [hA.2.1]
  refine rloop (n := A.1) (m := A.1) (O := fun x => ∀ v, v = wim A s (A.1 * x) → V 0 G mi_CH_withImages Z 10 [(0, zr 0 k), (1, zi (nI s)), (2, zi (nI A.1)), (3, zi (nI v)), (4, zi (nI x))] [] M) (I := fun x y => V 0 G mi_CH_withImages Z 19 [(0, zr 0 k), (1, zi (nI s)), (2, zi (nI A.1)), (3, zi (nI (wim A s (A.1 * x + y)))), (4, zi (nI x)), (5, zi (nI y))] [] M) (fun v hv => ?_) (fun x hx h v hv => ?_) (fun x hx h => ?_) (fun x y hx hy h => ?_) s rfl
  · refine z_run (cuts := cu_CH_withImages) ok_CH_withImages (fun Kz hKz => ?_)
    conv => whnf
    rw [nI_leI (by omega) (by omega)]
    refine ⟨fun _ => ?_, fun q => absurd (Nat.le_refl _) q⟩
    conv => whnf
    rw [hv]
    exact hZ
  · refine z_run (cuts := cu_CH_withImages) ok_CH_withImages (fun Kz hKz => ?_)
    conv => whnf
    rw [nI_leI (by omega) (by omega)]
    refine ⟨fun q => absurd q (by omega), fun _ => ?_⟩
    conv => whnf
    refine hKz _ _ _ _ ?_
    rw [hv]
    exact h
  · refine z_run (cuts := cu_CH_withImages) ok_CH_withImages (fun Kz hKz => ?_)
    conv => whnf
    rw [nI_leI (by omega) (by omega)]
    refine ⟨fun _ => ?_, fun q => absurd (Nat.le_refl _) q⟩
    conv => whnf
    refine hKz _ _ _ _ ?_
    rw [nI_1']
    exact h _ (by rw [Nat.mul_succ])
  · have hLR := hA.1.2 x y hx hy
    have e : wim A s (A.1 * x + (y + 1)) = if (s.testBit x && s.testBit y) = true then wim A s (A.1 * x + y) ||| (2 ^ (A.2.1 x y) ||| 2 ^ (A.2.2 x y)) else wim A s (A.1 * x + y) := by
      rw [← Nat.add_assoc, wim, (dvm hy).1, (dvm hy).2]
    rw [e] at h
    refine z_run (cuts := cu_CH_withImages) ok_CH_withImages (fun Kz hKz => ?_)
    conv => whnf
    rw [nI_leI (by omega) (by omega)]
    refine ⟨fun q => absurd q (by omega), fun _ => ?_⟩
    conv => whnf
    rw [n_shr _ (by omega) (by omega), n_shr _ (by omega) (by omega), n_and, n_and, bit_and1]
    cases hb : s.testBit x && s.testBit y
    · rw [hb, if_neg (by decide)] at h
      first | refine ⟨fun _ => ?_, fun q => absurd (by decide) q⟩ | refine ⟨fun q => absurd q (by decide), fun _ => ?_⟩
      conv => whnf
      refine hKz _ _ _ _ ?_
      rw [nI_1']
      exact h
    · rw [hb, if_pos rfl] at h
      first | refine ⟨fun _ => ?_, fun q => absurd (by decide) q⟩ | refine ⟨fun q => absurd q (by decide), fun _ => ?_⟩
      conv => whnf
      refine ⟨by first | assumption | decide, ?_⟩
      conv => whnf
      refine s_PM_left hk hA hx hy ?_
      conv => whnf
      refine ⟨by first | assumption | decide, ?_⟩
      conv => whnf
      refine s_PM_right hk hA hx hy ?_
      conv => whnf
      refine hKz _ _ _ _ ?_
      rw [n_shl _ _ (by omega), n_shl _ _ (by omega), Nat.one_mul, Nat.one_mul, n_or, n_or, nI_1']
      exact h
theorem s_CH_closureOf {k s : Nat} {A : ZP} (hk : k < 10) (hA : isPM M k A) (hs : s < 2 ^ A.1) (hZ : ∀ r, isShut A s r → Z (some (zi (nI r))) M) : Ctr 0 G mi_CH_closureOf [zr 0 k, zi (nI s)] M Z := by
  have hn := hA.1.1
  have hlt : ∀ j, itr (fun s => wim A s (A.1 * A.1)) s j < 2 ^ A.1 := by
    intro j
    induction j with
    | zero => exact hs
    | succ j ih => exact wim_lt hA.1 ih _ (Nat.le_refl _)
  have lp : ∀ j, j ≤ A.1 → V 0 G mi_CH_closureOf Z 4 [(0, zr 0 k), (2, zi (nI (itr (fun s => wim A s (A.1 * A.1)) s j))), (3, zi (nI j))] [] M := by
    refine up_to ?_ ?_
    · refine z_run (cuts := cu_CH_closureOf) ok_CH_closureOf (fun Kz hKz => ?_)
      conv => whnf
      refine ⟨by first | assumption | decide, ?_⟩
      conv => whnf
      refine s_PM_points hk ?_
      conv => whnf
      rw [hA.2.1, nI_leI (by omega) (by omega)]
      refine ⟨fun _ => ?_, fun q => absurd (Nat.le_refl _) q⟩
      conv => whnf
      exact hZ _ (shut_of hA.1 hs)
    · intro j hj ih
      refine z_run (cuts := cu_CH_closureOf) ok_CH_closureOf (fun Kz hKz => ?_)
      conv => whnf
      refine ⟨by first | assumption | decide, ?_⟩
      conv => whnf
      refine s_PM_points hk ?_
      conv => whnf
      rw [hA.2.1, nI_leI (by omega) (by omega)]
      refine ⟨fun q => absurd q (by omega), fun _ => ?_⟩
      conv => whnf
      refine s_CH_withImages hk hA (hlt j) ?_
      conv => whnf
      refine hKz _ _ _ _ ?_
      rw [nI_1']
      exact ih
  refine go_CH_closureOf (fun Kz hKz => ?_)
  conv => whnf
  refine hKz _ _ _ _ ?_
  exact lp 0 (Nat.zero_le _)
theorem s_CH_closedSets {k : Nat} {A : ZP} (hk : k < 10) (hA : isPM M k A) (hZ : Z (some (zi (nI (cnt (clSb A) (2 ^ A.1))))) M) : Ctr 0 G mi_CH_closedSets [zr 0 k] M Z := by
  have hn := hA.1.1
  have hp : 2 ^ A.1 ≤ 2 ^ 6 := Nat.pow_le_pow_right (by decide) hn
  have lp : ∀ j, j ≤ 2 ^ A.1 → V 0 G mi_CH_closedSets Z 4 [(0, zr 0 k), (1, zi (nI (cnt (clSb A) j))), (2, zi (nI j))] [] M := by
    refine up_to ?_ ?_
    · refine z_run (cuts := cu_CH_closedSets) ok_CH_closedSets (fun Kz hKz => ?_)
      conv => whnf
      refine ⟨by first | assumption | decide, ?_⟩
      conv => whnf
      refine s_PM_points hk ?_
      conv => whnf
      rw [hA.2.1, n_shl _ _ (by omega), Nat.one_mul, nI_leI (by omega) (by omega)]
      refine ⟨fun _ => ?_, fun q => absurd (Nat.le_refl _) q⟩
      conv => whnf
      exact hZ
    · intro j hj ih
      have hw := wim_lt hA.1 hj (A.1 * A.1) (Nat.le_refl _)
      have ih2 : ∀ v, v = cnt (clSb A) (j + 1) → V 0 G mi_CH_closedSets Z 4 [(0, zr 0 k), (1, zi (nI v)), (2, zi (nI (j + 1)))] [] M := by
        rintro v rfl; exact ih
      refine z_run (cuts := cu_CH_closedSets) ok_CH_closedSets (fun Kz hKz => ?_)
      conv => whnf
      refine ⟨by first | assumption | decide, ?_⟩
      conv => whnf
      refine s_PM_points hk ?_
      conv => whnf
      rw [hA.2.1, n_shl _ _ (by omega), Nat.one_mul, nI_leI (by omega) (by omega)]
      refine ⟨fun q => absurd q (by omega), fun _ => ?_⟩
      conv => whnf
      refine s_CH_withImages hk hA hj ?_
      conv => whnf
      rw [nI_eq (by omega) (by omega)]
      refine ⟨fun q => ?_, fun q => ?_⟩
      · conv => whnf
        refine s_T_oneIfb (b := false) ?_
        conv => whnf
        refine hKz _ _ _ _ ?_
        rw [nI_add, nI_1']
        refine ih2 _ ?_
        simp [cnt, clSb, q]
      · conv => whnf
        refine s_T_oneIfb (b := true) ?_
        conv => whnf
        refine hKz _ _ _ _ ?_
        rw [nI_add, nI_1']
        refine ih2 _ ?_
        simp [cnt, clSb, Classical.not_not.mp q]
  refine go_CH_closedSets (fun Kz hKz => ?_)
  conv => whnf
  refine hKz _ _ _ _ ?_
  exact lp 0 (Nat.zero_le _)
end
