/-! the reference: orbits, closed sets -/
def lnk2 (A : ZP) (j : Nat) : Nat × Nat := if j % 2 = 0 then (j / 2 % A.1, A.2.1 (j / 2 / A.1) (j / 2 % A.1)) else (j / 2 % A.1, A.2.2 (j / 2 % A.1) (j / 2 / A.1))
theorem lnk2_l (A : ZP) (k : Nat) : lnk2 A (2 * k) = (k % A.1, A.2.1 (k / A.1) (k % A.1)) := by
  unfold lnk2
  rw [if_pos (by omega), show 2 * k / 2 = k by omega]
theorem lnk2_r (A : ZP) (k : Nat) : lnk2 A (2 * k + 1) = (k % A.1, A.2.2 (k % A.1) (k / A.1)) := by
  unfold lnk2
  rw [if_neg (by omega), show (2 * k + 1) / 2 = k by omega]
theorem lnk2_cl (A : ZP) (s : Nat) : (∀ i, i < 2 * (A.1 * A.1) → s.testBit (lnk2 A i).1 = s.testBit (lnk2 A i).2) ↔ clO A s := by
  constructor
  · intro h x y hx hy
    have h1 := prlt hx hy
    have h2 := prlt hy hx
    have a1 := h (2 * (A.1 * x + y)) (by omega)
    have a2 := h (2 * (A.1 * y + x) + 1) (by omega)
    rw [lnk2_l, (dvm hy).1, (dvm hy).2] at a1
    rw [lnk2_r, (dvm hx).1, (dvm hx).2] at a2
    exact ⟨a1, a2⟩
  · intro h i hi
    have hd := dvlt (show i / 2 < A.1 * A.1 by omega)
    rcases (show i = 2 * (i / 2) ∨ i = 2 * (i / 2) + 1 by omega) with e | e
    · rw [e, lnk2_l]
      exact (h _ _ hd.1 hd.2).1
    · rw [e, lnk2_r]
      exact (h _ _ hd.2 hd.1).2
theorem lnk2_lt {A : ZP} (hA : pwf A) : ∀ i, i < 2 * (A.1 * A.1) → (lnk2 A i).1 < A.1 ∧ (lnk2 A i).2 < A.1 := by
  intro i hi
  have hd := dvlt (show i / 2 < A.1 * A.1 by omega)
  rcases (show i = 2 * (i / 2) ∨ i = 2 * (i / 2) + 1 by omega) with e | e
  · rw [e, lnk2_l]
    exact ⟨hd.2, (hA.2 _ _ hd.1 hd.2).1⟩
  · rw [e, lnk2_r]
    exact ⟨hd.2, (hA.2 _ _ hd.2 hd.1).2⟩
def orb (A : ZP) (x : Nat) : Nat := itr (fun s => jns (lnk2 A) s (2 * (A.1 * A.1))) (2 ^ x) A.1
theorem orb_is {A : ZP} (hA : pwf A) {x : Nat} (hx : x < A.1) : isOrb A x (orb A x) := orb_of (lnk2_lt hA) (lnk2_cl A) hx
theorem low_zero (r x : Nat) : r % 2 ^ x = 0 ↔ ∀ i, i < x → r.testBit i = false := by
  constructor
  · intro h i hi
    have := congrArg (fun z => z.testBit i) h
    simp only [Nat.testBit_mod_two_pow, Nat.zero_testBit, hi, decide_true, Bool.true_and] at this
    exact this
  · intro h
    apply Nat.eq_of_testBit_eq
    intro i
    rw [Nat.testBit_mod_two_pow, Nat.zero_testBit]
    by_cases q : i < x
    · rw [h i q, Bool.and_false]
    · rw [decide_eq_false q, Bool.false_and]
theorem jn_eq (s a b : Nat) : jn s a b = if s &&& (2 ^ a ||| 2 ^ b) = 0 then s else s ||| (2 ^ a ||| 2 ^ b) := by
  unfold jn
  by_cases q : s &&& (2 ^ a ||| 2 ^ b) = 0
  · rw [if_pos q, (jn_and s a b).mp q]
    rfl
  · have : (s.testBit a || s.testBit b) = true := (Bool.not_eq_false _).mp (fun z => q ((jn_and s a b).mpr z))
    rw [if_neg q, if_pos this]
theorem jn_no {s a b : Nat} (h : s &&& (2 ^ a ||| 2 ^ b) = 0) : jn s a b = s := by rw [jn_eq, if_pos h]
theorem jn_ye {s a b : Nat} (h : ¬ s &&& (2 ^ a ||| 2 ^ b) = 0) : jn s a b = s ||| (2 ^ a ||| 2 ^ b) := by rw [jn_eq, if_neg h]
/-- one pass that takes what it adds at once -/
def wim2 (A : ZP) (s : Nat) : Nat → Nat
  | 0 => s
  | j + 1 => if ((wim2 A s j).testBit (j / A.1) && (wim2 A s j).testBit (j % A.1)) = true then wim2 A s j ||| (2 ^ (A.2.1 (j / A.1) (j % A.1)) ||| 2 ^ (A.2.2 (j / A.1) (j % A.1))) else wim2 A s j
theorem wim2_step (A : ZP) (s j : Nat) : sub2 (wim2 A s j) (wim2 A s (j + 1)) := by
  rw [wim2]
  split
  · exact sub2_l
  · exact sub2_refl _
theorem wim2_mono (A : ZP) (s j : Nat) : ∀ d, sub2 (wim2 A s j) (wim2 A s (j + d)) := by
  intro d
  induction d with
  | zero => exact sub2_refl _
  | succ d ih => exact sub2_trans ih (wim2_step A s (j + d))
theorem wim2_sub (A : ZP) (s j : Nat) : sub2 s (wim2 A s j) := by
  have := wim2_mono A s 0 j
  rw [Nat.zero_add] at this
  exact this
theorem wim2_lt {A : ZP} (hA : pwf A) {s : Nat} (hs : s < 2 ^ A.1) : ∀ j, j ≤ A.1 * A.1 → wim2 A s j < 2 ^ A.1 := by
  intro j
  induction j with
  | zero => intro _; exact hs
  | succ j ih =>
    intro hj
    have hd := dvlt (show j < A.1 * A.1 by omega)
    have hLR := hA.2 _ _ hd.1 hd.2
    have h := ih (by omega)
    rw [wim2]
    split
    · exact Nat.or_lt_two_pow h (Nat.or_lt_two_pow (Nat.pow_lt_pow_right (by decide) hLR.1) (Nat.pow_lt_pow_right (by decide) hLR.2))
    · exact h
theorem wim2_fix (A : ZP) {s : Nat} (h : wim2 A s (A.1 * A.1) = s) : clS A s := by
  have hall : ∀ j, j ≤ A.1 * A.1 → wim2 A s j = s := fun j hj => by
    obtain ⟨d, hd⟩ : ∃ d, A.1 * A.1 = j + d := ⟨A.1 * A.1 - j, by omega⟩
    refine (sub2_anti (wim2_sub A s j) ?_).symm
    have := wim2_mono A s j d
    rw [← hd, h] at this
    exact this
  intro x y hx hy h1 h2
  have hk := prlt hx hy
  have e0 := hall (A.1 * x + y) (by omega)
  have e1 := hall (A.1 * x + y + 1) (by omega)
  rw [wim2, e0, (dvm hy).1, (dvm hy).2, h1, h2, if_pos (show (true && true) = true from rfl)] at e1
  constructor
  · rw [← e1]; simp
  · rw [← e1]; simp
theorem wim2_min {A : ZP} {s t : Nat} (h : sub2 s t) (hc : clS A t) : ∀ j, j ≤ A.1 * A.1 → sub2 (wim2 A s j) t := by
  intro j
  induction j with
  | zero => intro _; exact h
  | succ j ih =>
    intro hj
    have hd := dvlt (show j < A.1 * A.1 by omega)
    have h2 := ih (by omega)
    rw [wim2]
    split
    · rename_i g
      rw [Bool.and_eq_true] at g
      have hc2 := hc _ _ hd.1 hd.2 (h2 _ g.1) (h2 _ g.2)
      exact sub2_or h2 (sub2_or (sub2_pow hc2.1) (sub2_pow hc2.2))
    · exact h2
theorem shut_of2 {A : ZP} (hA : pwf A) {s : Nat} (hs : s < 2 ^ A.1) : isShut A s (itr (fun s => wim2 A s (A.1 * A.1)) s A.1) :=
  least_closed (n := A.1) (f := fun s => wim2 A s (A.1 * A.1)) (cl := clS A) (fun s => wim2_sub A s _) (fun s _ h => wim2_fix A h) (fun s t h1 h2 => wim2_min h1 h2 _ (Nat.le_refl _)) (fun s hs => wim2_lt hA hs _ (Nat.le_refl _)) hs
theorem lo_orb {v0 v1 : ZV} {a3 a4 a5 a6 a7 a8 a9 : Int32} : lput 9 (zi a9) (lput 8 (zi a8) (lput 7 (zi a7) [(0, v0), (1, v1), (3, zi a3), (4, zi a4), (5, zi a5), (6, zi a6)])) = [(0, v0), (1, v1), (3, zi a3), (4, zi a4), (5, zi a5), (6, zi a6), (7, zi a7), (8, zi a8), (9, zi a9)] := rfl
section
variable {G : ZG} {M : ZM} {Z : Option ZV → ZM → Prop} {S : ZS}
theorem s_R_orbitOf {m x : Nat} {A : ZP} (hm : m < 6) (hA : isRM M m A) (hx : x < A.1) (hZ : Z (some (zi (nI (orb A x)))) M) : Ctr 0 G mi_R_orbitOf [zr 20 0, zi (nI m), zi (nI x)] M Z := by
  have hn := hA.1.1
  have hnn : A.1 * A.1 ≤ 6 * 6 := Nat.mul_le_mul hn hn
  have hz := n_nz (b := A.1) (by omega) (by omega)
  have p6 : 2 ^ A.1 ≤ 2 ^ 6 := Nat.pow_le_pow_right (by decide) hn
  have jl : ∀ s, s < 2 ^ A.1 → ∀ k, k ≤ 2 * (A.1 * A.1) → jns (lnk2 A) s k < 2 ^ A.1 := fun s hs k hk => jns_lt hs k (fun i hi => lnk2_lt hA.1 i (by omega))
  have outer : ∀ r, r ≤ A.1 → ∀ s, s < 2 ^ A.1 → itr (fun s => jns (lnk2 A) s (2 * (A.1 * A.1))) s (A.1 - r) = orb A x → V 0 G mi_R_orbitOf Z 15 [(0, zr 20 0), (1, zi (nI m)), (3, zi (nI A.1)), (4, zi (nI s)), (5, zi (nI r))] [] M := by
    refine up_to ?_ ?_
    · intro s hs he
      rw [Nat.sub_self] at he
      have he : s = orb A x := he
      rw [← he] at hZ
      refine z_run (cuts := cu_R_orbitOf) ok_R_orbitOf (fun Kz hKz => ?_)
      conv => whnf
      rw [nI_leI (by omega) (by omega)]
      refine ⟨fun _ => ?_, fun q => absurd (by omega) q⟩
      conv => whnf
      exact hZ
    · intro r hr ih s hs he
      have inner : ∀ k, k ≤ A.1 * A.1 → V 0 G mi_R_orbitOf Z 24 [(0, zr 20 0), (1, zi (nI m)), (3, zi (nI A.1)), (4, zi (nI (jns (lnk2 A) s (2 * k)))), (5, zi (nI r)), (6, zi (nI k))] [] M := by
        refine up_to ?_ ?_
        · refine z_run (cuts := cu_R_orbitOf) ok_R_orbitOf (fun Kz hKz => ?_)
          conv => whnf
          rw [pk_mul, nI_leI (by omega) (by omega)]
          refine ⟨fun _ => ?_, fun q => absurd (by omega) q⟩
          conv => whnf
          refine hKz _ _ _ _ ?_
          rw [nI_1']
          refine ih _ (jl s hs _ (Nat.le_refl _)) ?_
          rw [← he, show A.1 - r = 1 + (A.1 - (r + 1)) by omega, itr_add]
          rfl
        · intro k hk ih2
          have hd := dvlt hk
          have hL := (hA.1.2 _ _ hd.1 hd.2).1
          have hRR := (hA.1.2 _ _ hd.2 hd.1).2
          have b1 := jl s hs (2 * k) (by omega)
          have b2 := jl s hs (2 * k + 1) (by omega)
          obtain ⟨ed, em⟩ := n_dm (k := k) (n := A.1) (by omega) (by omega) (by omega)
          have hh1 : 2 ^ (k % A.1) ||| 2 ^ (A.2.1 (k / A.1) (k % A.1)) < 2 ^ 6 := Nat.or_lt_two_pow (Nat.pow_lt_pow_right (by decide) (by omega)) (Nat.pow_lt_pow_right (by decide) (by omega))
          have hh2 : 2 ^ (k % A.1) ||| 2 ^ (A.2.2 (k % A.1) (k / A.1)) < 2 ^ 6 := Nat.or_lt_two_pow (Nat.pow_lt_pow_right (by decide) (by omega)) (Nat.pow_lt_pow_right (by decide) (by omega))
          have a1 : jns (lnk2 A) s (2 * k) &&& (2 ^ (k % A.1) ||| 2 ^ (A.2.1 (k / A.1) (k % A.1))) < 2 ^ 6 := Nat.lt_of_le_of_lt Nat.and_le_right hh1
          have a2 : jns (lnk2 A) s (2 * k + 1) &&& (2 ^ (k % A.1) ||| 2 ^ (A.2.2 (k % A.1) (k / A.1))) < 2 ^ 6 := Nat.lt_of_le_of_lt Nat.and_le_right hh2
          have e1 := jn_no (s := jns (lnk2 A) s (2 * k)) (a := k % A.1) (b := A.2.1 (k / A.1) (k % A.1))
          have e1' := jn_ye (s := jns (lnk2 A) s (2 * k)) (a := k % A.1) (b := A.2.1 (k / A.1) (k % A.1))
          have e2 := jn_no (s := jns (lnk2 A) s (2 * k + 1)) (a := k % A.1) (b := A.2.2 (k % A.1) (k / A.1))
          have e2' := jn_ye (s := jns (lnk2 A) s (2 * k + 1)) (a := k % A.1) (b := A.2.2 (k % A.1) (k / A.1))
          have d1 : jn (jns (lnk2 A) s (2 * k)) (k % A.1) (A.2.1 (k / A.1) (k % A.1)) = jns (lnk2 A) s (2 * k + 1) := by rw [jns, lnk2_l]
          have d2 : jn (jns (lnk2 A) s (2 * k + 1)) (k % A.1) (A.2.2 (k % A.1) (k / A.1)) = jns (lnk2 A) s (2 * (k + 1)) := by
            show _ = jn (jns (lnk2 A) s (2 * k + 1)) (lnk2 A (2 * k + 1)).1 (lnk2 A (2 * k + 1)).2
            rw [lnk2_r]
          rw [d1] at e1 e1'
          rw [d2] at e2 e2'
          clear d1 d2
          generalize jns (lnk2 A) s (2 * k) = T0 at *
          generalize jns (lnk2 A) s (2 * k + 1) = T1 at *
          generalize jns (lnk2 A) s (2 * (k + 1)) = T2 at *
          generalize hH1 : 2 ^ (k % A.1) ||| 2 ^ (A.2.1 (k / A.1) (k % A.1)) = H1 at *
          generalize hH2 : 2 ^ (k % A.1) ||| 2 ^ (A.2.2 (k % A.1) (k / A.1)) = H2 at *
          refine z_run (cuts := cu_R_orbitOf) ok_R_orbitOf (fun Kz hKz => ?_)
          conv => whnf
          rw [pk_mul, nI_leI (by omega) (by omega)]
          refine ⟨fun q => absurd q (by omega), fun _ => ?_⟩
          conv => whnf
          refine ⟨hz, ?_⟩
          conv => whnf
          rw [ed]
          refine ⟨hz, ?_⟩
          conv => whnf
          rw [em]
          refine s_R_l hm hA hd.1 hd.2 ?_
          conv => whnf
          rw [n_shl 1 (k % A.1) (by omega), n_shl 1 (A.2.1 (k / A.1) (k % A.1)) (by omega), Nat.one_mul, Nat.one_mul, n_or, hH1, n_and, nI_eq (by omega) (by decide), lo_orb]
          refine ⟨fun q => ?_, fun q => ?_⟩
          · have e1 := e1 q
            clear e1'
            conv => whnf
            rw [n_or, Nat.or_zero, ← e1]
            refine s_R_r hm hA hd.2 hd.1 ?_
            conv => whnf
            rw [n_shl 1 (k % A.1) (by omega), n_shl 1 (A.2.2 (k % A.1) (k / A.1)) (by omega), Nat.one_mul, Nat.one_mul, n_or, hH2, n_and, nI_eq (by omega) (by decide)]
            refine ⟨fun q2 => ?_, fun q2 => ?_⟩
            · rw [e2 q2] at ih2
              conv => whnf
              refine hKz _ _ _ _ ?_
              rw [n_or, Nat.or_zero, nI_1']
              exact ih2
            · rw [e2' q2] at ih2
              conv => whnf
              refine hKz _ _ _ _ ?_
              rw [n_or, nI_1']
              exact ih2
          · have e1 := e1' q
            clear e1'
            conv => whnf
            rw [n_or, ← e1]
            refine s_R_r hm hA hd.2 hd.1 ?_
            conv => whnf
            rw [n_shl 1 (k % A.1) (by omega), n_shl 1 (A.2.2 (k % A.1) (k / A.1)) (by omega), Nat.one_mul, Nat.one_mul, n_or, hH2, n_and, nI_eq (by omega) (by decide)]
            refine ⟨fun q2 => ?_, fun q2 => ?_⟩
            · rw [e2 q2] at ih2
              conv => whnf
              refine hKz _ _ _ _ ?_
              rw [n_or, Nat.or_zero, nI_1']
              exact ih2
            · rw [e2' q2] at ih2
              conv => whnf
              refine hKz _ _ _ _ ?_
              rw [n_or, nI_1']
              exact ih2
      refine z_run (cuts := cu_R_orbitOf) ok_R_orbitOf (fun Kz hKz => ?_)
      conv => whnf
      rw [nI_leI (by omega) (by omega)]
      refine ⟨fun q => absurd q (by omega), fun _ => ?_⟩
      conv => whnf
      refine hKz _ _ _ _ ?_
      exact inner 0 (Nat.zero_le _)
  refine go_R_orbitOf (fun Kz hKz => ?_)
  conv => whnf
  refine ⟨vp_in_nI hm (by decide), ?_⟩
  conv => whnf
  refine hKz _ _ _ _ ?_
  rw [nI_clamp (by omega), hA.2.1, n_shl _ _ (by omega), Nat.one_mul]
  exact outer 0 (Nat.zero_le _) _ (Nat.pow_lt_pow_right (by decide) hx) rfl
theorem s_R_manyOrbits {m : Nat} {A : ZP} (hm : m < 6) (hA : isRM M m A) (hZ : Z (some (zi (nI (cnt (fun x => decide (orb A x % 2 ^ x = 0)) A.1)))) M) : Ctr 0 G mi_R_manyOrbits [zr 20 0, zi (nI m)] M Z := by
  have hn := hA.1.1
  have p6 : 2 ^ A.1 ≤ 2 ^ 6 := Nat.pow_le_pow_right (by decide) hn
  have lp : ∀ x, x ≤ A.1 → V 0 G mi_R_manyOrbits Z 4 [(0, zr 20 0), (1, zi (nI m)), (2, zi (nI (cnt (fun x => decide (orb A x % 2 ^ x = 0)) x))), (3, zi (nI x))] [] M := by
    refine up_to ?_ ?_
    · refine z_run (cuts := cu_R_manyOrbits) ok_R_manyOrbits (fun Kz hKz => ?_)
      conv => whnf
      refine ⟨vp_in_nI hm (by decide), ?_⟩
      conv => whnf
      rw [nI_clamp (by omega), hA.2.1, nI_leI (by omega) (by omega)]
      refine ⟨fun _ => ?_, fun q => absurd (by omega) q⟩
      conv => whnf
      exact hZ
    · intro x hx ih
      have ho := (orb_is hA.1 hx).1
      have hp : 0 < 2 ^ x := Nat.two_pow_pos _
      have hm2 : orb A x % 2 ^ x < 2 ^ 31 := Nat.lt_of_le_of_lt (Nat.mod_le _ _) (by omega)
      rw [cnt] at ih
      refine z_run (cuts := cu_R_manyOrbits) ok_R_manyOrbits (fun Kz hKz => ?_)
      conv => whnf
      refine ⟨vp_in_nI hm (by decide), ?_⟩
      conv => whnf
      rw [nI_clamp (by omega), hA.2.1, nI_leI (by omega) (by omega)]
      refine ⟨fun q => absurd q (by omega), fun _ => ?_⟩
      conv => whnf
      refine s_R_orbitOf hm hA hx ?_
      conv => whnf
      rw [n_shl _ _ (by omega), Nat.one_mul, pk_sub hp, n_and, Nat.and_two_pow_sub_one_eq_mod, nI_eq hm2 (by decide)]
      refine ⟨fun q => ?_, fun q => ?_⟩
      · rw [decide_eq_false q] at ih
        conv => whnf
        refine hKz _ _ _ _ ?_
        rw [nI_add, nI_1']
        exact ih
      · rw [decide_eq_true (Classical.not_not.mp q)] at ih
        conv => whnf
        refine hKz _ _ _ _ ?_
        rw [nI_add, nI_1']
        exact ih
  refine go_R_manyOrbits (fun Kz hKz => ?_)
  conv => whnf
  refine hKz _ _ _ _ ?_
  exact lp 0 (Nat.zero_le _)
theorem s_R_isClosed {m s : Nat} {A : ZP} (hm : m < 6) (hA : isRM M m A) (hs : s < 2 ^ A.1) (hZ : Z (some (zi (b2i (clSb A s)))) M) : Ctr 0 G mi_R_isClosed [zr 20 0, zi (nI m), zi (nI s)] M Z := by
  have hn := hA.1.1
  have hnn : A.1 * A.1 ≤ 6 * 6 := Nat.mul_le_mul hn hn
  have p6 : 2 ^ A.1 ≤ 2 ^ 6 := Nat.pow_le_pow_right (by decide) hn
  have lp : ∀ k, k ≤ A.1 * A.1 → ∀ b : Bool, (b = true ↔ ∀ j, j < k → (s.testBit (j / A.1) && s.testBit (j % A.1)) = true → (s.testBit (A.2.1 (j / A.1) (j % A.1)) && s.testBit (A.2.2 (j / A.1) (j % A.1))) = true) → V 0 G mi_R_isClosed Z 13 [(0, zr 20 0), (1, zi (nI m)), (2, zi (nI s)), (3, zi (nI A.1)), (4, zi (b2i b)), (5, zi (nI k))] [] M := by
    refine up_to ?_ ?_
    · intro b hb
      have e : b = clSb A s := by
        rw [Bool.eq_iff_iff, hb, clSb_iff]
        constructor
        · intro q x y hx hy h1 h2
          have := q (A.1 * x + y) (prlt hx hy)
          rw [(dvm hy).1, (dvm hy).2, h1, h2] at this
          exact Bool.and_eq_true_iff.mp (this rfl)
        · intro q j hj h
          have hd := dvlt hj
          rw [Bool.and_eq_true] at h ⊢
          exact q _ _ hd.1 hd.2 h.1 h.2
      rw [← e] at hZ
      refine z_run (cuts := cu_R_isClosed) ok_R_isClosed (fun Kz hKz => ?_)
      conv => whnf
      rw [pk_mul, nI_leI (by omega) (by omega)]
      refine ⟨fun _ => ?_, fun q => absurd (by omega) q⟩
      conv => whnf
      cases hb2 : b with
      | true => rw [hb2] at hZ; exact ⟨Or.inr rfl, hZ⟩
      | false => rw [hb2] at hZ; exact ⟨Or.inl rfl, hZ⟩
    · intro k hk ih b hb
      have hd := dvlt hk
      have hLR := hA.1.2 _ _ hd.1 hd.2
      have hz := n_nz (b := A.1) (by omega) (by omega)
      obtain ⟨ed, em⟩ := n_dm (k := k) (n := A.1) (by omega) (by omega) (by omega)
      have nxt : ∀ d : Bool, (d = true ↔ (b = true ∧ ((s.testBit (k / A.1) && s.testBit (k % A.1)) = true → (s.testBit (A.2.1 (k / A.1) (k % A.1)) && s.testBit (A.2.2 (k / A.1) (k % A.1))) = true))) → (d = true ↔ ∀ j, j < k + 1 → (s.testBit (j / A.1) && s.testBit (j % A.1)) = true → (s.testBit (A.2.1 (j / A.1) (j % A.1)) && s.testBit (A.2.2 (j / A.1) (j % A.1))) = true) := by
        intro d hd
        rw [hd, hb]
        constructor
        · rintro ⟨q1, q2⟩ z hz
          rcases fin_cases_eq hz with w | w
          · exact q1 z w
          · rw [w]; exact q2
        · intro q
          exact ⟨fun z hz => q z (by omega), q k (by omega)⟩
      refine z_run (cuts := cu_R_isClosed) ok_R_isClosed (fun Kz hKz => ?_)
      conv => whnf
      rw [pk_mul, nI_leI (by omega) (by omega)]
      refine ⟨fun q => absurd q (by omega), fun _ => ?_⟩
      conv => whnf
      refine ⟨hz, ?_⟩
      conv => whnf
      refine ⟨hz, ?_⟩
      conv => whnf
      rw [ed, em, n_shr _ (by omega) (by omega), n_shr _ (by omega) (by omega), n_and, n_and, bit_and1]
      cases hc : (s.testBit (k / A.1) && s.testBit (k % A.1)) with
      | false =>
        rw [hc] at nxt
        first | refine ⟨fun _ => ?_, fun q => absurd (by decide) q⟩ | refine ⟨fun q => absurd q (by decide), fun _ => ?_⟩
        conv => whnf
        cases hb2 : b with
        | false =>
          first | refine ⟨fun _ => ?_, fun q => absurd (by decide) q⟩ | refine ⟨fun q => absurd q (by decide), fun _ => ?_⟩
          conv => whnf
          refine hKz _ _ _ _ ?_
          rw [nI_1']
          exact ih false (nxt false (by rw [hb2]; simp))
        | true =>
          first | refine ⟨fun _ => ?_, fun q => absurd (by decide) q⟩ | refine ⟨fun q => absurd q (by decide), fun _ => ?_⟩
          conv => whnf
          first | refine ⟨fun _ => ?_, fun q => absurd (by decide) q⟩ | refine ⟨fun q => absurd q (by decide), fun _ => ?_⟩
          conv => whnf
          refine hKz _ _ _ _ ?_
          rw [nI_1']
          exact ih true (nxt true (by rw [hb2]; simp))
      | true =>
        rw [hc] at nxt
        first | refine ⟨fun _ => ?_, fun q => absurd (by decide) q⟩ | refine ⟨fun q => absurd q (by decide), fun _ => ?_⟩
        conv => whnf
        cases hb2 : b with
        | false =>
          first | refine ⟨fun _ => ?_, fun q => absurd (by decide) q⟩ | refine ⟨fun q => absurd q (by decide), fun _ => ?_⟩
          conv => whnf
          refine hKz _ _ _ _ ?_
          rw [nI_1']
          exact ih false (nxt false (by rw [hb2]; simp))
        | true =>
          first | refine ⟨fun _ => ?_, fun q => absurd (by decide) q⟩ | refine ⟨fun q => absurd q (by decide), fun _ => ?_⟩
          conv => whnf
          first | refine ⟨fun _ => ?_, fun q => absurd (by decide) q⟩ | refine ⟨fun q => absurd q (by decide), fun _ => ?_⟩
          conv => whnf
          refine ⟨hz, ?_⟩
          conv => whnf
          refine ⟨hz, ?_⟩
          conv => whnf
          rw [ed, em]
          refine s_R_l hm hA hd.1 hd.2 ?_
          conv => whnf
          refine ⟨hz, ?_⟩
          conv => whnf
          refine ⟨hz, ?_⟩
          conv => whnf
          rw [ed, em]
          refine s_R_r hm hA hd.1 hd.2 ?_
          conv => whnf
          rw [n_shr _ (by omega) (by omega), n_shr _ (by omega) (by omega), n_and, n_and, bit_and1]
          cases hc2 : (s.testBit (A.2.1 (k / A.1) (k % A.1)) && s.testBit (A.2.2 (k / A.1) (k % A.1))) with
          | false =>
            rw [hc2] at nxt
            first | refine ⟨fun _ => ?_, fun q => absurd (by decide) q⟩ | refine ⟨fun q => absurd q (by decide), fun _ => ?_⟩
            conv => whnf
            refine hKz _ _ _ _ ?_
            rw [nI_1']
            exact ih false (nxt false (by simp))
          | true =>
            rw [hc2] at nxt
            first | refine ⟨fun _ => ?_, fun q => absurd (by decide) q⟩ | refine ⟨fun q => absurd q (by decide), fun _ => ?_⟩
            conv => whnf
            refine hKz _ _ _ _ ?_
            rw [nI_1']
            exact ih true (nxt true (by rw [hb2]; simp))
  refine go_R_isClosed (fun Kz hKz => ?_)
  conv => whnf
  refine ⟨vp_in_nI hm (by decide), ?_⟩
  conv => whnf
  refine hKz _ _ _ _ ?_
  rw [nI_clamp (by omega), hA.2.1]
  exact lp 0 (Nat.zero_le _) true ⟨fun _ j hj => absurd hj (Nat.not_lt_zero _), fun _ => rfl⟩
theorem s_R_manyClosed {m : Nat} {A : ZP} (hm : m < 6) (hA : isRM M m A) (hZ : Z (some (zi (nI (cnt (clSb A) (2 ^ A.1))))) M) : Ctr 0 G mi_R_manyClosed [zr 20 0, zi (nI m)] M Z := by
  have hn := hA.1.1
  have p6 : 2 ^ A.1 ≤ 2 ^ 6 := Nat.pow_le_pow_right (by decide) hn
  have lp : ∀ s, s ≤ 2 ^ A.1 → V 0 G mi_R_manyClosed Z 4 [(0, zr 20 0), (1, zi (nI m)), (2, zi (nI (cnt (clSb A) s))), (3, zi (nI s))] [] M := by
    refine up_to ?_ ?_
    · refine z_run (cuts := cu_R_manyClosed) ok_R_manyClosed (fun Kz hKz => ?_)
      conv => whnf
      refine ⟨vp_in_nI hm (by decide), ?_⟩
      conv => whnf
      rw [nI_clamp (by omega), hA.2.1, n_shl _ _ (by omega), Nat.one_mul, nI_leI (by omega) (by omega)]
      refine ⟨fun _ => ?_, fun q => absurd (by omega) q⟩
      conv => whnf
      exact hZ
    · intro s hs ih
      rw [cnt] at ih
      refine z_run (cuts := cu_R_manyClosed) ok_R_manyClosed (fun Kz hKz => ?_)
      conv => whnf
      refine ⟨vp_in_nI hm (by decide), ?_⟩
      conv => whnf
      rw [nI_clamp (by omega), hA.2.1, n_shl _ _ (by omega), Nat.one_mul, nI_leI (by omega) (by omega)]
      refine ⟨fun q => absurd q (by omega), fun _ => ?_⟩
      conv => whnf
      refine s_R_isClosed hm hA hs ?_
      cases hc : clSb A s with
      | true =>
        rw [hc] at ih
        conv => whnf
        first | refine ⟨fun _ => ?_, fun q => absurd (by decide) q⟩ | refine ⟨fun q => absurd q (by decide), fun _ => ?_⟩
        conv => whnf
        refine hKz _ _ _ _ ?_
        rw [nI_add, nI_1']
        exact ih
      | false =>
        rw [hc] at ih
        conv => whnf
        first | refine ⟨fun _ => ?_, fun q => absurd (by decide) q⟩ | refine ⟨fun q => absurd q (by decide), fun _ => ?_⟩
        conv => whnf
        refine hKz _ _ _ _ ?_
        rw [nI_add, nI_1']
        exact ih
  refine go_R_manyClosed (fun Kz hKz => ?_)
  conv => whnf
  refine hKz _ _ _ _ ?_
  exact lp 0 (Nat.zero_le _)
theorem r_orbit {a x : Nat} (ha : a < 2 ^ 32) (hx : x < 2 ^ 32) (hR : RS M S) (h1 : ¬ x < (plA S a).1 → Z (some (zi (-1000001))) M) (h3 : x < (plA S a).1 → Z (some (zi (nI (orb (plA S a) x)))) M) : Ctr 0 G mi_R_orbit [zr 20 0, zi (nI a), zi (nI x)] M Z := by
  refine go_R_orbit (fun Kz hKz => ?_)
  conv => whnf
  refine s_R_isMap ha hR (fun e => ?_) (fun e => ?_)
  · have hA := RS_pl hR e
    have ha4 := plA_lt e
    conv => whnf
    first | refine ⟨fun _ => ?_, fun q => absurd (by decide) q⟩ | refine ⟨fun q => absurd q (by decide), fun _ => ?_⟩
    conv => whnf
    refine s_R_isPoint (by omega) hx (by omega) hA (fun e1 => ?_) (fun e1 => ?_)
    · conv => whnf
      first | refine ⟨fun _ => ?_, fun q => absurd (by decide) q⟩ | refine ⟨fun q => absurd q (by decide), fun _ => ?_⟩
      conv => whnf
      refine s_R_orbitOf (by omega) hA e1 ?_
      conv => whnf
      exact h3 e1
    · conv => whnf
      first | refine ⟨fun _ => ?_, fun q => absurd (by decide) q⟩ | refine ⟨fun q => absurd q (by decide), fun _ => ?_⟩
      conv => whnf
      exact h1 e1
  · conv => whnf
    first | refine ⟨fun _ => ?_, fun q => absurd (by decide) q⟩ | refine ⟨fun q => absurd q (by decide), fun _ => ?_⟩
    conv => whnf
    exact h1 (by omega)
theorem r_shut {a s : Nat} (ha : a < 2 ^ 32) (hs : s < 2 ^ 32) (hR : RS M S) (h1 : (plA S a).1 = 0 → Z (some (zi (-1000001))) M) (h2 : ¬ (plA S a).1 = 0 → ¬ s < 2 ^ (plA S a).1 → Z (some (zi (-1000002))) M) (h3 : ¬ (plA S a).1 = 0 → s < 2 ^ (plA S a).1 → ∀ r, isShut (plA S a) s r → Z (some (zi (nI r))) M) : Ctr 0 G mi_R_shut [zr 20 0, zi (nI a), zi (nI s)] M Z := by
  refine go_R_shut (fun Kz hKz => ?_)
  conv => whnf
  refine s_R_isMap ha hR (fun e => ?_) (fun e => ?_)
  · have hA := RS_pl hR e
    have ha4 := plA_lt e
    generalize plA S a = A at *
    have hn := hA.1.1
    have hnn : A.1 * A.1 ≤ 6 * 6 := Nat.mul_le_mul hn hn
    have p6 : 2 ^ A.1 ≤ 2 ^ 6 := Nat.pow_le_pow_right (by decide) hn
    have hp : 0 < 2 ^ A.1 := Nat.two_pow_pos _
    have hz := n_nz (b := A.1) (by omega) (by omega)
    conv => whnf
    first | refine ⟨fun _ => ?_, fun q => absurd (by decide) q⟩ | refine ⟨fun q => absurd q (by decide), fun _ => ?_⟩
    conv => whnf
    refine ⟨vp_in_nI (by omega) (by decide), ?_⟩
    conv => whnf
    rw [nI_clamp (by omega), hA.2.1, n_shl _ _ (by omega), Nat.one_mul, pk_sub hp, nI_l (show 2 ^ A.1 - 1 < 2 ^ 31 by omega)]
    refine s_R_in hs (by decide) (by omega) (fun _ e2 _ => ?_) (fun e2 => ?_)
    · have hs2 : s < 2 ^ A.1 := by omega
      have outer : ∀ r, r ≤ A.1 → ∀ t, t < 2 ^ A.1 → itr (fun s => wim2 A s (A.1 * A.1)) t (A.1 - r) = itr (fun s => wim2 A s (A.1 * A.1)) s A.1 → V 0 G mi_R_shut Z 42 [(0, zr 20 0), (1, zi (nI a)), (3, zi (nI A.1)), (4, zi (nI t)), (5, zi (nI r))] [] M := by
        refine up_to ?_ ?_
        · intro t ht he
          rw [Nat.sub_self] at he
          have he : t = itr (fun s => wim2 A s (A.1 * A.1)) s A.1 := he
          refine z_run (cuts := cu_R_shut) ok_R_shut (fun Kz hKz => ?_)
          conv => whnf
          rw [nI_leI (by omega) (by omega)]
          refine ⟨fun _ => ?_, fun q => absurd (by omega) q⟩
          conv => whnf
          rw [he]
          exact h3 e hs2 _ (shut_of2 hA.1 hs2)
        · intro r hr ih t ht he
          have wl : ∀ k, k ≤ A.1 * A.1 → wim2 A t k < 2 ^ A.1 := wim2_lt hA.1 ht
          have inner : ∀ k, k ≤ A.1 * A.1 → ∀ u, u = wim2 A t k → V 0 G mi_R_shut Z 51 [(0, zr 20 0), (1, zi (nI a)), (3, zi (nI A.1)), (4, zi (nI u)), (5, zi (nI r)), (6, zi (nI k))] [] M := by
            refine up_to ?_ ?_
            · intro u hu
              refine z_run (cuts := cu_R_shut) ok_R_shut (fun Kz hKz => ?_)
              conv => whnf
              rw [pk_mul, nI_leI (by omega) (by omega)]
              refine ⟨fun _ => ?_, fun q => absurd (by omega) q⟩
              conv => whnf
              refine hKz _ _ _ _ ?_
              rw [nI_1', hu]
              refine ih _ (wl _ (Nat.le_refl _)) ?_
              rw [← he, show A.1 - r = 1 + (A.1 - (r + 1)) by omega, itr_add]
              rfl
            · intro k hk ih2 u hu
              have hd := dvlt hk
              have hLR := hA.1.2 _ _ hd.1 hd.2
              have hw := wl k (by omega)
              rw [← hu] at hw
              obtain ⟨ed, em⟩ := n_dm (k := k) (n := A.1) (by omega) (by omega) (by omega)
              have w1 : (u.testBit (k / A.1) && u.testBit (k % A.1)) = true → wim2 A t (k + 1) = u ||| (2 ^ (A.2.1 (k / A.1) (k % A.1)) ||| 2 ^ (A.2.2 (k / A.1) (k % A.1))) := fun q => by rw [wim2, ← hu, if_pos q]
              have w0 : (u.testBit (k / A.1) && u.testBit (k % A.1)) = false → wim2 A t (k + 1) = u := fun q => by rw [wim2, ← hu, if_neg (by rw [q]; decide)]
              refine z_run (cuts := cu_R_shut) ok_R_shut (fun Kz hKz => ?_)
              conv => whnf
              rw [pk_mul, nI_leI (by omega) (by omega)]
              refine ⟨fun q => absurd q (by omega), fun _ => ?_⟩
              conv => whnf
              refine ⟨hz, ?_⟩
              conv => whnf
              refine ⟨hz, ?_⟩
              conv => whnf
              rw [ed, em, n_shr _ (by omega) (by omega), n_shr _ (by omega) (by omega), n_and, n_and, bit_and1]
              cases hc : (u.testBit (k / A.1) && u.testBit (k % A.1)) with
              | false =>
                first | refine ⟨fun _ => ?_, fun q => absurd (by decide) q⟩ | refine ⟨fun q => absurd q (by decide), fun _ => ?_⟩
                conv => whnf
                first | refine ⟨fun _ => ?_, fun q => absurd (by decide) q⟩ | refine ⟨fun q => absurd q (by decide), fun _ => ?_⟩
                conv => whnf
                refine hKz _ _ _ _ ?_
                rw [n_or, Nat.or_zero, nI_1']
                exact ih2 u (w0 hc).symm
              | true =>
                first | refine ⟨fun _ => ?_, fun q => absurd (by decide) q⟩ | refine ⟨fun q => absurd q (by decide), fun _ => ?_⟩
                conv => whnf
                first | refine ⟨fun _ => ?_, fun q => absurd (by decide) q⟩ | refine ⟨fun q => absurd q (by decide), fun _ => ?_⟩
                conv => whnf
                refine ⟨hz, ?_⟩
                conv => whnf
                refine ⟨hz, ?_⟩
                conv => whnf
                rw [ed, em]
                refine s_R_l (by omega) hA hd.1 hd.2 ?_
                conv => whnf
                refine ⟨hz, ?_⟩
                conv => whnf
                refine ⟨hz, ?_⟩
                conv => whnf
                rw [ed, em]
                refine s_R_r (by omega) hA hd.1 hd.2 ?_
                conv => whnf
                refine hKz _ _ _ _ ?_
                rw [n_shl _ _ (by omega), n_shl _ _ (by omega), Nat.one_mul, Nat.one_mul, n_or, n_or, nI_1']
                exact ih2 _ (w1 hc).symm
          refine z_run (cuts := cu_R_shut) ok_R_shut (fun Kz hKz => ?_)
          conv => whnf
          rw [nI_leI (by omega) (by omega)]
          refine ⟨fun q => absurd q (by omega), fun _ => ?_⟩
          conv => whnf
          refine hKz _ _ _ _ ?_
          exact inner 0 (Nat.zero_le _) t rfl
      conv => whnf
      first | refine ⟨fun _ => ?_, fun q => absurd (by decide) q⟩ | refine ⟨fun q => absurd q (by decide), fun _ => ?_⟩
      conv => whnf
      refine hKz _ _ _ _ ?_
      exact outer 0 (Nat.zero_le _) s hs2 rfl
    · conv => whnf
      first | refine ⟨fun _ => ?_, fun q => absurd (by decide) q⟩ | refine ⟨fun q => absurd q (by decide), fun _ => ?_⟩
      conv => whnf
      exact h2 e (by omega)
  · conv => whnf
    first | refine ⟨fun _ => ?_, fun q => absurd (by decide) q⟩ | refine ⟨fun q => absurd q (by decide), fun _ => ?_⟩
    conv => whnf
    exact h1 e
end
