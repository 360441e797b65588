/-! the law: orbits, closed sets, properties of a map -/
theorem low_zero (r x : Nat) : r % 2 ^ x = 0 ↔ ∀ i, i < x → r.testBit i = false := by
  constructor
  · intro h i hi
    have := congrArg (fun z => z.testBit i) h
    simp only [Nat.testBit_mod_two_pow, Nat.zero_testBit, hi, decide_true, Bool.true_and] at this
    exact this
  · intro h
    apply Nat.eq_of_testBit_eq
    intro i
    rw [Nat.testBit_mod_two_pow, Nat.zero_testBit]
    by_cases q : i < x
    · rw [h i q, Bool.and_false]
    · rw [decide_eq_false q, Bool.false_and]
theorem jn_eq (s a b : Nat) : jn s a b = if s &&& (2 ^ a ||| 2 ^ b) = 0 then s else s ||| (2 ^ a ||| 2 ^ b) := by
  unfold jn
  by_cases q : s &&& (2 ^ a ||| 2 ^ b) = 0
  · rw [if_pos q, (jn_and s a b).mp q]
    rfl
  · have : (s.testBit a || s.testBit b) = true := (Bool.not_eq_false _).mp (fun z => q ((jn_and s a b).mpr z))
    rw [if_neg q, if_pos this]
theorem jn_no {s a b : Nat} (h : s &&& (2 ^ a ||| 2 ^ b) = 0) : jn s a b = s := by rw [jn_eq, if_pos h]
theorem jn_ye {s a b : Nat} (h : ¬ s &&& (2 ^ a ||| 2 ^ b) = 0) : jn s a b = s ||| (2 ^ a ||| 2 ^ b) := by rw [jn_eq, if_neg h]
/-- one pass that takes what it adds at once -/
def wim2 (A : ZP) (s : Nat) : Nat → Nat
  | 0 => s
  | j + 1 => if ((wim2 A s j).testBit (j / A.1) && (wim2 A s j).testBit (j % A.1)) = true then wim2 A s j ||| (2 ^ (A.2.1 (j / A.1) (j % A.1)) ||| 2 ^ (A.2.2 (j / A.1) (j % A.1))) else wim2 A s j
theorem wim2_step (A : ZP) (s j : Nat) : sub2 (wim2 A s j) (wim2 A s (j + 1)) := by
  rw [wim2]
  split
  · exact sub2_l
  · exact sub2_refl _
theorem wim2_mono (A : ZP) (s j : Nat) : ∀ d, sub2 (wim2 A s j) (wim2 A s (j + d)) := by
  intro d
  induction d with
  | zero => exact sub2_refl _
  | succ d ih => exact sub2_trans ih (wim2_step A s (j + d))
theorem wim2_sub (A : ZP) (s j : Nat) : sub2 s (wim2 A s j) := by
  have := wim2_mono A s 0 j
  rw [Nat.zero_add] at this
  exact this
theorem wim2_lt {A : ZP} (hA : pwf A) {s : Nat} (hs : s < 2 ^ A.1) : ∀ j, j ≤ A.1 * A.1 → wim2 A s j < 2 ^ A.1 := by
  intro j
  induction j with
  | zero => intro _; exact hs
  | succ j ih =>
    intro hj
    have hd := dvlt (show j < A.1 * A.1 by omega)
    have hLR := hA.2 _ _ hd.1 hd.2
    have h := ih (by omega)
    rw [wim2]
    split
    · exact Nat.or_lt_two_pow h (Nat.or_lt_two_pow (Nat.pow_lt_pow_right (by decide) hLR.1) (Nat.pow_lt_pow_right (by decide) hLR.2))
    · exact h
theorem wim2_fix (A : ZP) {s : Nat} (h : wim2 A s (A.1 * A.1) = s) : clS A s := by
  have hall : ∀ j, j ≤ A.1 * A.1 → wim2 A s j = s := fun j hj => by
    obtain ⟨d, hd⟩ : ∃ d, A.1 * A.1 = j + d := ⟨A.1 * A.1 - j, by omega⟩
    refine (sub2_anti (wim2_sub A s j) ?_).symm
    have := wim2_mono A s j d
    rw [← hd, h] at this
    exact this
  intro x y hx hy h1 h2
  have hk := prlt hx hy
  have e0 := hall (A.1 * x + y) (by omega)
  have e1 := hall (A.1 * x + y + 1) (by omega)
  rw [wim2, e0, (dvm hy).1, (dvm hy).2, h1, h2, if_pos (show (true && true) = true from rfl)] at e1
  constructor
  · rw [← e1]; simp
  · rw [← e1]; simp
theorem wim2_min {A : ZP} {s t : Nat} (h : sub2 s t) (hc : clS A t) : ∀ j, j ≤ A.1 * A.1 → sub2 (wim2 A s j) t := by
  intro j
  induction j with
  | zero => intro _; exact h
  | succ j ih =>
    intro hj
    have hd := dvlt (show j < A.1 * A.1 by omega)
    have h2 := ih (by omega)
    rw [wim2]
    split
    · rename_i g
      rw [Bool.and_eq_true] at g
      have hc2 := hc _ _ hd.1 hd.2 (h2 _ g.1) (h2 _ g.2)
      exact sub2_or h2 (sub2_or (sub2_pow hc2.1) (sub2_pow hc2.2))
    · exact h2
/-- one step, one pass of the law's orbit -/
def st2 (t a b c d : Nat) : Nat := jn t a b ||| jn t c d
theorem st2_code (t a b c d : Nat) : st2 t a b c d = t ||| ((if t &&& (2 ^ a ||| 2 ^ b) = 0 then 0 else 2 ^ a ||| 2 ^ b) ||| (if t &&& (2 ^ c ||| 2 ^ d) = 0 then 0 else 2 ^ c ||| 2 ^ d)) := by
  unfold st2
  rw [jn_eq, jn_eq]
  apply Nat.eq_of_testBit_eq
  intro i
  by_cases h1 : t &&& (2 ^ a ||| 2 ^ b) = 0
  · rw [if_pos h1, if_pos h1]
    by_cases h2 : t &&& (2 ^ c ||| 2 ^ d) = 0
    · rw [if_pos h2, if_pos h2]; simp
    · rw [if_neg h2, if_neg h2]
      simp only [Nat.testBit_or, Nat.zero_testBit]
      cases t.testBit i <;> simp
  · rw [if_neg h1, if_neg h1]
    by_cases h2 : t &&& (2 ^ c ||| 2 ^ d) = 0
    · rw [if_pos h2, if_pos h2]
      simp only [Nat.testBit_or, Nat.zero_testBit]
      cases t.testBit i <;> simp
    · rw [if_neg h2, if_neg h2]
      simp only [Nat.testBit_or]
      cases t.testBit i <;> simp
theorem st2_sub (t a b c d : Nat) : sub2 t (st2 t a b c d) := sub2_trans (jn_sub t a b) sub2_l
theorem st2_fix {t a b c d : Nat} (h : st2 t a b c d = t) : t.testBit a = t.testBit b ∧ t.testBit c = t.testBit d := by
  have h1 : sub2 (jn t a b) t := fun i hi => by
    rw [← h]
    unfold st2
    rw [Nat.testBit_or, hi, Bool.true_or]
  have h2 : sub2 (jn t c d) t := fun i hi => by
    rw [← h]
    unfold st2
    rw [Nat.testBit_or, hi, Bool.or_true]
  exact ⟨jn_fix (sub2_anti h1 (jn_sub t a b)), jn_fix (sub2_anti h2 (jn_sub t c d))⟩
theorem st2_min {s t a b c d : Nat} (h : sub2 s t) (h1 : t.testBit a = t.testBit b) (h2 : t.testBit c = t.testBit d) : sub2 (st2 s a b c d) t := sub2_or (jn_min h h1) (jn_min h h2)
theorem st2_lt {t a b c d n : Nat} (h : t < 2 ^ n) (ha : a < n) (hb : b < n) (hc : c < n) (hd : d < n) : st2 t a b c d < 2 ^ n := Nat.or_lt_two_pow (jn_lt h ha hb) (jn_lt h hc hd)
def ob2 (A : ZP) (s : Nat) : Nat → Nat
  | 0 => s
  | k + 1 => st2 (ob2 A s k) (k % A.1) (A.2.1 (k / A.1) (k % A.1)) (k % A.1) (A.2.2 (k % A.1) (k / A.1))
theorem ob2_mono (A : ZP) (s j : Nat) : ∀ d, sub2 (ob2 A s j) (ob2 A s (j + d)) := by
  intro d
  induction d with
  | zero => exact sub2_refl _
  | succ d ih => exact sub2_trans ih (st2_sub _ _ _ _ _)
theorem ob2_sub (A : ZP) (s j : Nat) : sub2 s (ob2 A s j) := by
  have := ob2_mono A s 0 j
  rw [Nat.zero_add] at this
  exact this
theorem ob2_lt {A : ZP} (hA : pwf A) {s : Nat} (hs : s < 2 ^ A.1) : ∀ j, j ≤ A.1 * A.1 → ob2 A s j < 2 ^ A.1 := by
  intro j
  induction j with
  | zero => intro _; exact hs
  | succ j ih =>
    intro hj
    have hd := dvlt (show j < A.1 * A.1 by omega)
    have h1 := hA.2 _ _ hd.1 hd.2
    have h2 := hA.2 _ _ hd.2 hd.1
    exact st2_lt (ih (by omega)) hd.2 h1.1 hd.2 h2.2
theorem ob2_fix (A : ZP) {s : Nat} (h : ob2 A s (A.1 * A.1) = s) : clO A s := by
  have hall : ∀ j, j ≤ A.1 * A.1 → ob2 A s j = s := fun j hj => by
    obtain ⟨d, hd⟩ : ∃ d, A.1 * A.1 = j + d := ⟨A.1 * A.1 - j, by omega⟩
    refine (sub2_anti (ob2_sub A s j) ?_).symm
    have := ob2_mono A s j d
    rw [← hd, h] at this
    exact this
  have one : ∀ x y, x < A.1 → y < A.1 → s.testBit y = s.testBit (A.2.1 x y) ∧ s.testBit y = s.testBit (A.2.2 y x) := by
    intro x y hx hy
    have hk := prlt hx hy
    have e0 := hall (A.1 * x + y) (by omega)
    have e1 := hall (A.1 * x + y + 1) (by omega)
    rw [ob2, e0, (dvm hy).1, (dvm hy).2] at e1
    exact st2_fix e1
  intro x y hx hy
  exact ⟨(one x y hx hy).1, (one y x hy hx).2⟩
theorem ob2_min {A : ZP} {s t : Nat} (h : sub2 s t) (hc : clO A t) : ∀ j, j ≤ A.1 * A.1 → sub2 (ob2 A s j) t := by
  intro j
  induction j with
  | zero => intro _; exact h
  | succ j ih =>
    intro hj
    have hd := dvlt (show j < A.1 * A.1 by omega)
    exact st2_min (ih (by omega)) (hc _ _ hd.1 hd.2).1 (hc _ _ hd.2 hd.1).2
/-- a set that grows: at most as often as there are numbers -/
theorem grows {s t n : Nat} (h : sub2 s t) (ht : t < 2 ^ n) (hne : t ≠ s) : bct s n + 1 ≤ bct t n := by
  have : ∃ i, i < n ∧ s.testBit i = false ∧ t.testBit i = true := by
    refine Classical.byContradiction fun hno => hne (sub2_anti (fun i hi => ?_) h)
    have hin := bit_lt ht hi
    cases hb : s.testBit i with
    | true => rfl
    | false => exact absurd ⟨i, hin, hb, hi⟩ hno
  have := bct_strict h n this
  omega
section
variable {G : ZG} {M : ZM} {Z : Option ZV → ZM → Prop} {S : ZS}
theorem h_orbit {m x : Nat} {A : ZP} (hm : m < 5) (hM : hok M) (hA : isH M m A) (hx : x < A.1) (hZ : ∀ r, isOrb A x r → Z (some (zi (nI r))) M) : Ctr 0 G mi_LW_orbit [zr 20 0, zi (nI m), zi (nI x)] M Z := by
  have hn := hA.1.1
  have hnn : A.1 * A.1 ≤ 6 * 6 := Nat.mul_le_mul hn hn
  have hz := n_nz (b := A.1) (by omega) (by omega)
  have p6 : 2 ^ A.1 ≤ 2 ^ 6 := Nat.pow_le_pow_right (by decide) hn
  have ex : ∀ s, isOrb A x s → V 0 G mi_LW_orbit Z 14 [(0, zr 20 0), (1, zi (nI m)), (3, zi (nI A.1)), (4, zi (nI s)), (5, zi (nI s))] [] M := by
    intro s hs
    refine z_run (cuts := cu_LW_orbit) ok_LW_orbit (fun Kz hKz => ?_)
    conv => whnf
    refine ⟨fun _ => ?_, fun z => absurd rfl z⟩
    conv => whnf
    exact hZ s hs
  have lp : ∀ d (w : Int32) s, s < 2 ^ A.1 → A.1 < bct s A.1 + d → s.testBit x = true → (∀ t, t.testBit x = true → clO A t → sub2 s t) → ¬ nI s = w → V 0 G mi_LW_orbit Z 14 [(0, zr 20 0), (1, zi (nI m)), (3, zi (nI A.1)), (4, zi w), (5, zi (nI s))] [] M := by
    intro d
    induction d with
    | zero =>
      intro w s hs hd
      have := bct_le s A.1
      omega
    | succ d ih =>
      intro w s hs hd hsx hmin hw
      have pass : ∀ k, k ≤ A.1 * A.1 → V 0 G mi_LW_orbit Z 28 [(0, zr 20 0), (1, zi (nI m)), (3, zi (nI A.1)), (4, zi (nI s)), (5, zi (nI (ob2 A s k))), (6, zi (nI k))] [] M := by
        refine up_to ?_ ?_
        · refine z_run (cuts := cu_LW_orbit) ok_LW_orbit (fun Kz hKz => ?_)
          conv => whnf
          rw [pk_mul, nI_leI (by omega) (by omega)]
          refine ⟨fun _ => ?_, fun q => absurd (by omega) q⟩
          conv => whnf
          refine hKz _ _ _ _ ?_
          have hl := ob2_lt hA.1 hs (A.1 * A.1) (Nat.le_refl _)
          by_cases e : ob2 A s (A.1 * A.1) = s
          · rw [e]
            exact ex s ⟨hs, hsx, ob2_fix A e, hmin⟩
          · have hg := grows (ob2_sub A s (A.1 * A.1)) hl e
            refine ih (nI s) _ hl (by omega) (ob2_sub A s _ x hsx) (fun t h1 h2 => ob2_min (hmin t h1 h2) h2 _ (Nat.le_refl _)) ?_
            rw [nI_eq (by omega) (by omega)]
            exact e
        · intro k hk ih2
          have hd2 := dvlt hk
          have hL := (hA.1.2 _ _ hd2.1 hd2.2).1
          have hRR := (hA.1.2 _ _ hd2.2 hd2.1).2
          have b0 := ob2_lt hA.1 hs k (by omega)
          obtain ⟨ed, em⟩ := n_dm (k := k) (n := A.1) (by omega) (by omega) (by omega)
          have hh1 : 2 ^ (k % A.1) ||| 2 ^ (A.2.1 (k / A.1) (k % A.1)) < 2 ^ 6 := Nat.or_lt_two_pow (Nat.pow_lt_pow_right (by decide) (by omega)) (Nat.pow_lt_pow_right (by decide) (by omega))
          have hh2 : 2 ^ (k % A.1) ||| 2 ^ (A.2.2 (k % A.1) (k / A.1)) < 2 ^ 6 := Nat.or_lt_two_pow (Nat.pow_lt_pow_right (by decide) (by omega)) (Nat.pow_lt_pow_right (by decide) (by omega))
          rw [ob2, st2_code] at ih2
          generalize ob2 A s k = T at *
          have a1 : T &&& (2 ^ (k % A.1) ||| 2 ^ (A.2.1 (k / A.1) (k % A.1))) < 2 ^ 6 := Nat.lt_of_le_of_lt Nat.and_le_right hh1
          have a2 : T &&& (2 ^ (k % A.1) ||| 2 ^ (A.2.2 (k % A.1) (k / A.1))) < 2 ^ 6 := Nat.lt_of_le_of_lt Nat.and_le_right hh2
          generalize hH1 : 2 ^ (k % A.1) ||| 2 ^ (A.2.1 (k / A.1) (k % A.1)) = H1 at *
          generalize hH2 : 2 ^ (k % A.1) ||| 2 ^ (A.2.2 (k % A.1) (k / A.1)) = H2 at *
          have tail : V 0 G mi_LW_orbit Z 82 [(0, zr 20 0), (1, zi (nI m)), (3, zi (nI A.1)), (4, zi (nI s)), (5, zi (nI T)), (6, zi (nI k)), (8, zi (nI H1)), (9, zi (nI H2))] [] M := by
            refine z_run (cuts := cu_LW_orbit) ok_LW_orbit (fun Kz hKz => ?_)
            conv => whnf
            rw [n_and, nI_eq (by omega) (by decide)]
            refine ⟨fun q => ?_, fun q => ?_⟩
            · rw [if_pos q] at ih2
              conv => whnf
              rw [n_and, nI_eq (by omega) (by decide)]
              refine ⟨fun q2 => ?_, fun q2 => ?_⟩
              · rw [if_pos q2] at ih2
                conv => whnf
                refine hKz _ _ _ _ ?_
                rw [n_or, n_or, nI_1']
                exact ih2
              · rw [if_neg q2] at ih2
                conv => whnf
                refine hKz _ _ _ _ ?_
                rw [n_or, n_or, nI_1']
                exact ih2
            · rw [if_neg q] at ih2
              conv => whnf
              rw [n_and, nI_eq (by omega) (by decide)]
              refine ⟨fun q2 => ?_, fun q2 => ?_⟩
              · rw [if_pos q2] at ih2
                conv => whnf
                refine hKz _ _ _ _ ?_
                rw [n_or, n_or, nI_1']
                exact ih2
              · rw [if_neg q2] at ih2
                conv => whnf
                refine hKz _ _ _ _ ?_
                rw [n_or, n_or, nI_1']
                exact ih2
          refine z_run (cuts := [(82, [0, 1, 3, 4, 5, 6, 8, 9])]) ok_LW_orbit (fun Kz hKz => ?_)
          conv => whnf
          rw [pk_mul, nI_leI (by omega) (by omega)]
          refine ⟨fun q => absurd q (by omega), fun _ => ?_⟩
          conv => whnf
          refine ⟨hz, ?_⟩
          conv => whnf
          rw [em]
          refine ⟨hz, ?_⟩
          conv => whnf
          rw [ed]
          refine h_l hm hM hA hd2.1 hd2.2 ?_
          conv => whnf
          refine ⟨hz, ?_⟩
          conv => whnf
          rw [ed]
          refine h_r hm hM hA hd2.2 hd2.1 ?_
          conv => whnf
          refine hKz _ _ _ _ ?_
          rw [n_shl 1 (k % A.1) (by omega), n_shl 1 (A.2.1 (k / A.1) (k % A.1)) (by omega), n_shl 1 (A.2.2 (k % A.1) (k / A.1)) (by omega), Nat.one_mul, Nat.one_mul, Nat.one_mul, n_or, n_or, hH1, hH2]
          exact tail
      refine z_run (cuts := cu_LW_orbit) ok_LW_orbit (fun Kz hKz => ?_)
      conv => whnf
      refine ⟨fun z => absurd z hw, fun _ => ?_⟩
      conv => whnf
      refine hKz _ _ _ _ ?_
      exact pass 0 (Nat.zero_le _)
  refine go_LW_orbit (fun Kz hKz => ?_)
  conv => whnf
  refine h_points hm hA ?_
  conv => whnf
  refine hKz _ _ _ _ ?_
  rw [n_shl _ _ (by omega), Nat.one_mul]
  have hx2 : 2 ^ x < 2 ^ A.1 := Nat.pow_lt_pow_right (by decide) hx
  have hx3 : 0 < 2 ^ x := Nat.two_pow_pos x
  refine lp (A.1 + 1) (nI 0) (2 ^ x) hx2 (by omega) (by rw [Nat.testBit_two_pow]; exact decide_eq_true rfl) (fun t h1 _ => sub2_pow h1) ?_
  rw [nI_eq (by omega) (by decide)]
  omega
theorem h_shut {m s0 : Nat} {A : ZP} (hm : m < 5) (hM : hok M) (hA : isH M m A) (hs0 : s0 < 2 ^ A.1) (hZ : ∀ r, isShut A s0 r → Z (some (zi (nI r))) M) : Ctr 0 G mi_LW_shut [zr 20 0, zi (nI m), zi (nI s0)] M Z := by
  have hn := hA.1.1
  have hnn : A.1 * A.1 ≤ 6 * 6 := Nat.mul_le_mul hn hn
  have p6 : 2 ^ A.1 ≤ 2 ^ 6 := Nat.pow_le_pow_right (by decide) hn
  have ex : ∀ s, isShut A s0 s → V 0 G mi_LW_shut Z 12 [(0, zr 20 0), (1, zi (nI m)), (3, zi (nI A.1)), (4, zi (nI s)), (5, zi (nI s))] [] M := by
    intro s hs
    refine z_run (cuts := cu_LW_shut) ok_LW_shut (fun Kz hKz => ?_)
    conv => whnf
    refine ⟨fun _ => ?_, fun z => absurd rfl z⟩
    conv => whnf
    exact hZ s hs
  have lp : ∀ d (w : Int32) s, s < 2 ^ A.1 → A.1 < bct s A.1 + d → sub2 s0 s → (∀ t, sub2 s0 t → clS A t → sub2 s t) → ¬ nI s = w → V 0 G mi_LW_shut Z 12 [(0, zr 20 0), (1, zi (nI m)), (3, zi (nI A.1)), (4, zi w), (5, zi (nI s))] [] M := by
    intro d
    induction d with
    | zero =>
      intro w s hs hd
      have := bct_le s A.1
      omega
    | succ d ih =>
      intro w s hs hd hsx hmin hw
      have pass : ∀ k, k ≤ A.1 * A.1 → V 0 G mi_LW_shut Z 26 [(0, zr 20 0), (1, zi (nI m)), (3, zi (nI A.1)), (4, zi (nI s)), (5, zi (nI (wim2 A s k))), (6, zi (nI k))] [] M := by
        refine up_to ?_ ?_
        · refine z_run (cuts := cu_LW_shut) ok_LW_shut (fun Kz hKz => ?_)
          conv => whnf
          rw [pk_mul, nI_leI (by omega) (by omega)]
          refine ⟨fun _ => ?_, fun q => absurd (by omega) q⟩
          conv => whnf
          refine hKz _ _ _ _ ?_
          have hl := wim2_lt hA.1 hs (A.1 * A.1) (Nat.le_refl _)
          by_cases e : wim2 A s (A.1 * A.1) = s
          · rw [e]
            exact ex s ⟨hs, hsx, wim2_fix A e, hmin⟩
          · have hg := grows (wim2_sub A s (A.1 * A.1)) hl e
            refine ih (nI s) _ hl (by omega) (sub2_trans hsx (wim2_sub A s _)) (fun t h1 h2 => wim2_min (hmin t h1 h2) h2 _ (Nat.le_refl _)) ?_
            rw [nI_eq (by omega) (by omega)]
            exact e
        · intro k hk ih2
          have hz := n_nz (b := A.1) (by
            rcases Nat.eq_zero_or_pos A.1 with z | z
            · rw [z] at hk; omega
            · exact z) (by omega)
          have hd2 := dvlt hk
          have hLR := hA.1.2 _ _ hd2.1 hd2.2
          have b0 := wim2_lt hA.1 hs k (by omega)
          obtain ⟨ed, em⟩ := n_dm (k := k) (n := A.1) (by omega) (by omega) (by omega)
          rw [wim2] at ih2
          generalize wim2 A s k = T at *
          have hbit := bit_and1 T (k / A.1) (k % A.1)
          refine z_run (cuts := cu_LW_shut) ok_LW_shut (fun Kz hKz => ?_)
          conv => whnf
          rw [pk_mul, nI_leI (by omega) (by omega)]
          refine ⟨fun q => absurd q (by omega), fun _ => ?_⟩
          conv => whnf
          refine ⟨hz, ?_⟩
          conv => whnf
          refine ⟨hz, ?_⟩
          conv => whnf
          rw [ed, em, n_shr _ (by omega) (by omega), n_shr _ (by omega) (by omega), n_and, n_and, hbit]
          cases hq : (T.testBit (k / A.1) && T.testBit (k % A.1)) with
          | false =>
            rw [hq, if_neg (by decide)] at ih2
            first | refine ⟨fun _ => ?_, fun q => absurd (by decide) q⟩ | refine ⟨fun q => absurd q (by decide), fun _ => ?_⟩
            conv => whnf
            first | refine ⟨fun _ => ?_, fun q => absurd (by decide) q⟩ | refine ⟨fun q => absurd q (by decide), fun _ => ?_⟩
            conv => whnf
            refine hKz _ _ _ _ ?_
            rw [n_or, Nat.or_zero, nI_1']
            exact ih2
          | true =>
            rw [hq, if_pos rfl] at ih2
            first | refine ⟨fun _ => ?_, fun q => absurd (by decide) q⟩ | refine ⟨fun q => absurd q (by decide), fun _ => ?_⟩
            conv => whnf
            first | refine ⟨fun _ => ?_, fun q => absurd (by decide) q⟩ | refine ⟨fun q => absurd q (by decide), fun _ => ?_⟩
            conv => whnf
            refine ⟨hz, ?_⟩
            conv => whnf
            refine ⟨hz, ?_⟩
            conv => whnf
            rw [ed, em]
            refine h_l hm hM hA hd2.1 hd2.2 ?_
            conv => whnf
            refine ⟨hz, ?_⟩
            conv => whnf
            refine ⟨hz, ?_⟩
            conv => whnf
            rw [ed, em]
            refine h_r hm hM hA hd2.1 hd2.2 ?_
            conv => whnf
            refine hKz _ _ _ _ ?_
            rw [n_shl 1 (A.2.1 (k / A.1) (k % A.1)) (by omega), n_shl 1 (A.2.2 (k / A.1) (k % A.1)) (by omega), Nat.one_mul, Nat.one_mul, n_or, n_or, nI_1']
            exact ih2
      refine z_run (cuts := cu_LW_shut) ok_LW_shut (fun Kz hKz => ?_)
      conv => whnf
      refine ⟨fun z => absurd z hw, fun _ => ?_⟩
      conv => whnf
      refine hKz _ _ _ _ ?_
      exact pass 0 (Nat.zero_le _)
  refine go_LW_shut (fun Kz hKz => ?_)
  conv => whnf
  refine h_points hm hA ?_
  conv => whnf
  refine hKz _ _ _ _ ?_
  refine lp (A.1 + 1) (-1) s0 hs0 (by omega) (sub2_refl _) (fun t h1 _ => h1) ?_
  rw [n_ones, n_eq (by omega) (by decide)]
  omega
end
