/-- number j of the sequences of k numbers below n -/
def dgl (n : Nat) : Nat → Nat → List Nat
  | 0, _ => []
  | k + 1, j => dgl n k (j / n) ++ [j % n]
theorem dgl_len (n : Nat) : ∀ k j, (dgl n k j).length = k := by
  intro k
  induction k with
  | zero => intro j; rfl
  | succ k ih => intro j; simp [dgl, ih]
theorem dgl_lt {n : Nat} (h0 : 0 < n) : ∀ k j, ∀ d ∈ dgl n k j, d < n := by
  intro k
  induction k with
  | zero => intro j d hd; cases hd
  | succ k ih =>
    intro j d hd
    simp only [dgl, List.mem_append, List.mem_cons, List.not_mem_nil, or_false] at hd
    rcases hd with h | h
    · exact ih _ d h
    · rw [h]; exact Nat.mod_lt _ h0
theorem tcl_dgl (n : Nat) : ∀ k j, tcl (dgl n k j) = enc n k j := by
  intro k
  induction k with
  | zero => intro j; rfl
  | succ k ih =>
    intro j
    rw [dgl, tcl_app, ih, enc]
    simp [tcl, Nat.mul_comm]
theorem tcl_inj : ∀ (u v : List Nat), u.length = v.length → (∀ d ∈ u, d < 8) → (∀ d ∈ v, d < 8) → tcl u = tcl v → u = v := by
  have e : ∀ d (r : List Nat), tcl (d :: r) = d * 8 ^ r.length + tcl r := by
    intro d r
    have := tcl_app [d] r
    simpa [tcl] using this
  intro u
  induction u with
  | nil =>
    intro v hl _ _ _
    cases v with
    | nil => rfl
    | cons a r => cases hl
  | cons d u ih =>
    intro v hl hu hv h
    cases v with
    | nil => cases hl
    | cons d' v =>
      have hl2 : u.length = v.length := Nat.succ.inj hl
      have hu2 := tcl_lt (w := u) (fun x hx => hu x (List.mem_cons_of_mem _ hx))
      have hv2 := tcl_lt (w := v) (fun x hx => hv x (List.mem_cons_of_mem _ hx))
      rw [e, e, hl2] at h
      rw [hl2] at hu2
      have h0 : 0 < 8 ^ v.length := Nat.pow_pos (by decide)
      have h1 := congrArg (· / 8 ^ v.length) h
      have h2 := congrArg (· % 8 ^ v.length) h
      simp only [Nat.mul_comm _ (8 ^ v.length), Nat.mul_add_div h0, Nat.mul_add_mod, Nat.div_eq_of_lt hu2, Nat.div_eq_of_lt hv2, Nat.mod_eq_of_lt hu2, Nat.mod_eq_of_lt hv2, Nat.add_zero] at h1 h2
      rw [h1, ih v hl2 (fun x hx => hu x (List.mem_cons_of_mem _ hx)) (fun x hx => hv x (List.mem_cons_of_mem _ hx)) h2]
/-- r applied to the numbers at i and i + 1 -/
def act (A : ZP) (i : Nat) (w : List Nat) : List Nat := w.take i ++ [A.2.1 (w.getD i 0) (w.getD (i + 1) 0), A.2.2 (w.getD i 0) (w.getD (i + 1) 0)] ++ w.drop (i + 2)
def allB (n : Nat) (w : List Nat) : Prop := ∀ d ∈ w, d < n
theorem allB_get {n : Nat} {w : List Nat} (h : allB n w) {i : Nat} (hi : i < w.length) : w.getD i 0 < n := by
  rw [List.getD_eq_getElem?_getD, List.getElem?_eq_getElem hi]
  exact h _ (List.getElem_mem hi)
theorem act_len {A : ZP} {i : Nat} {w : List Nat} (h : i + 1 < w.length) : (act A i w).length = w.length := by
  simp [act]
  omega
theorem act_all {A : ZP} {i : Nat} {w : List Nat} (hA : pwf A) (hw : allB A.1 w) (h : i + 1 < w.length) : allB A.1 (act A i w) := by
  intro d hd
  have hLR := hA.2 _ _ (allB_get hw (show i < w.length by omega)) (allB_get hw h)
  simp only [act, List.mem_append, List.mem_cons, List.not_mem_nil, or_false] at hd
  rcases hd with (hd | hd | hd) | hd
  · exact hw d (List.mem_of_mem_take hd)
  · rw [hd]; exact hLR.1
  · rw [hd]; exact hLR.2
  · exact hw d (List.mem_of_mem_drop hd)
theorem cut_list {w : List Nat} {i : Nat} (h : i + 1 < w.length) : w = w.take i ++ [w.getD i 0, w.getD (i + 1) 0] ++ w.drop (i + 2) := by
  have h1 : w.getD i 0 = w[i] := by rw [List.getD_eq_getElem?_getD, List.getElem?_eq_getElem]; rfl
  have h2 : w.getD (i + 1) 0 = w[i + 1] := by rw [List.getD_eq_getElem?_getD, List.getElem?_eq_getElem]; rfl
  rw [h1, h2]
  have e1 : w.drop i = w[i] :: w.drop (i + 1) := List.drop_eq_getElem_cons (by omega)
  have e2 : w.drop (i + 1) = w[i + 1] :: w.drop (i + 2) := List.drop_eq_getElem_cons h
  rw [List.append_assoc]
  show w = w.take i ++ (w[i] :: w[i + 1] :: w.drop (i + 2))
  rw [← e2, ← e1, List.take_append_drop]
def brk (A : ZP) (w : List Nat) : Bool := decide (act A 0 (act A 1 (act A 0 w)) ≠ act A 1 (act A 0 (act A 1 w)))
/-- how many below k -/
def cnt (p : Nat → Bool) : Nat → Nat
  | 0 => 0
  | k + 1 => cnt p k + (p k).toNat
theorem cnt_le (p : Nat → Bool) : ∀ k, cnt p k ≤ k := by
  intro k
  induction k with
  | zero => exact Nat.le_refl _
  | succ k ih =>
    have : (p k).toNat ≤ 1 := by cases p k <;> decide
    simp only [cnt]
    omega
section
variable {G : ZG} {M : ZM} {Z : Option ZV → ZM → Prop}
theorem s_T_oneIfb {b : Bool} (hZ : Z (some (zi (nI b.toNat))) M) : Ctr 0 G mi_T_oneIf [zi (b2i b)] M Z := by
  cases b
  · exact s_T_oneIf (fun q => absurd rfl q) (fun _ => hZ)
  · exact s_T_oneIf (fun _ => hZ) (fun q => absurd q (by decide))
theorem s_PM_act {k i s : Nat} {A : ZP} {w : List Nat} (hk : k < 10) (hA : isPM M k A) (hw : allB A.1 w) (hi : i + 1 < w.length) (hl : w.length ≤ 4) (hs : s = 3 * (w.length - 2 - i)) (hZ : Z (some (zi (nI (tcl (act A i w))))) M) : Ctr 0 G mi_PM_appliedAt [zr 0 k, zi (nI (tcl w)), zi (nI s)] M Z := by
  have hn := hA.1.1
  have h8 : ∀ d ∈ w, d < 8 := fun d hd => by have := hw d hd; omega
  have h := s_PM_appliedAt (G := G) (Z := Z) (u := w.take i) (v := w.drop (i + 2)) (x := w.getD i 0) (y := w.getD (i + 1) 0) hk hA (allB_get hw (by omega)) (allB_get hw hi) (fun d hd => h8 d (List.mem_of_mem_take hd)) (fun d hd => h8 d (List.mem_of_mem_drop hd)) (by simp; omega) hZ
  rw [← cut_list hi, show 3 * (w.drop (i + 2)).length = s by rw [List.length_drop, hs]; omega] at h
  exact h
theorem s_CH_isBroken {k : Nat} {A : ZP} {w : List Nat} (hk : k < 10) (hA : isPM M k A) (hw : allB A.1 w) (hl : w.length = 3) (hZ : Z (some (zi (b2i (brk A w)))) M) : Ctr 0 G mi_CH_isBroken [zr 0 k, zi (nI (tcl w))] M Z := by
  have hn := hA.1.1
  have l1 := act_len (A := A) (i := 0) (w := w) (by omega)
  have a1 := act_all hA.1 hw (i := 0) (by omega)
  have l2 := act_len (A := A) (i := 1) (w := act A 0 w) (by omega)
  have a2 := act_all hA.1 a1 (i := 1) (by omega)
  have l3 := act_len (A := A) (i := 0) (w := act A 1 (act A 0 w)) (by omega)
  have a3 := act_all hA.1 a2 (i := 0) (by omega)
  have m1 := act_len (A := A) (i := 1) (w := w) (by omega)
  have b1 := act_all hA.1 hw (i := 1) (by omega)
  have m2 := act_len (A := A) (i := 0) (w := act A 1 w) (by omega)
  have b2 := act_all hA.1 b1 (i := 0) (by omega)
  have m3 := act_len (A := A) (i := 1) (w := act A 0 (act A 1 w)) (by omega)
  have b3 := act_all hA.1 b2 (i := 1) (by omega)
  have t3 := tcl_lt (w := act A 0 (act A 1 (act A 0 w))) (fun d hd => by have := a3 d hd; omega)
  have u3 := tcl_lt (w := act A 1 (act A 0 (act A 1 w))) (fun d hd => by have := b3 d hd; omega)
  rw [l3, l2, l1, hl] at t3
  rw [m3, m2, m1, hl] at u3
  refine go_CH_isBroken (fun Kz hKz => ?_)
  conv => whnf
  refine ⟨by first | assumption | decide, ?_⟩
  conv => whnf
  refine s_PM_act (i := 0) hk hA hw (by omega) (by omega) (by rw [hl]) ?_
  conv => whnf
  refine ⟨by first | assumption | decide, ?_⟩
  conv => whnf
  refine s_PM_act (i := 1) hk hA a1 (by omega) (by omega) (by rw [l1, hl]) ?_
  conv => whnf
  refine ⟨by first | assumption | decide, ?_⟩
  conv => whnf
  refine s_PM_act (i := 0) hk hA a2 (by omega) (by omega) (by rw [l2, l1, hl]) ?_
  conv => whnf
  refine ⟨by first | assumption | decide, ?_⟩
  conv => whnf
  refine s_PM_act (i := 1) hk hA hw (by omega) (by omega) (by rw [hl]) ?_
  conv => whnf
  refine ⟨by first | assumption | decide, ?_⟩
  conv => whnf
  refine s_PM_act (i := 0) hk hA b1 (by omega) (by omega) (by rw [m1, hl]) ?_
  conv => whnf
  refine ⟨by first | assumption | decide, ?_⟩
  conv => whnf
  refine s_PM_act (i := 1) hk hA b2 (by omega) (by omega) (by rw [m2, m1, hl]) ?_
  conv => whnf
  rw [nI_eq (by omega) (by omega)]
  have e : tcl (act A 0 (act A 1 (act A 0 w))) = tcl (act A 1 (act A 0 (act A 1 w))) ↔ brk A w = false := by
    unfold brk
    rw [decide_eq_false_iff_not, Classical.not_not]
    refine ⟨fun h => tcl_inj _ _ (by omega) (fun d hd => by have := a3 d hd; omega) (fun d hd => by have := b3 d hd; omega) h, fun h => by rw [h]⟩
  rw [e]
  refine ⟨fun q => ?_, fun q => ?_⟩
  · conv => whnf
    rw [q] at hZ
    exact ⟨Or.inl rfl, hZ⟩
  · conv => whnf
    rw [Bool.not_eq_false] at q
    rw [q] at hZ
    exact ⟨Or.inr rfl, hZ⟩
theorem s_CH_brokenTriples {k : Nat} {A : ZP} (hk : k < 10) (hA : isPM M k A) (h0 : 0 < A.1) (hZ : Z (some (zi (nI (cnt (fun j => brk A (dgl A.1 3 j)) (A.1 ^ 3))))) M) : Ctr 0 G mi_CH_brokenTriples [zr 0 k] M Z := by
  have hn := hA.1.1
  have h3 : A.1 ^ 3 = A.1 * A.1 * A.1 := by rw [Nat.pow_succ, Nat.pow_succ, Nat.pow_succ, Nat.pow_zero, Nat.one_mul]
  have hb : A.1 ^ 3 ≤ 6 ^ 3 := Nat.pow_le_pow_left hn 3
  have lp : ∀ j, j ≤ A.1 ^ 3 → ∀ t, (j < A.1 ^ 3 → t = enc A.1 3 j) → V 0 G mi_CH_brokenTriples Z 12 [(0, zr 0 k), (1, zi (nI A.1)), (2, zi (nI (cnt (fun j => brk A (dgl A.1 3 j)) j))), (3, zi (nI t)), (4, zi (nI j))] [] M := by
    refine up_to ?_ ?_
    · intro t ht
      refine z_run (cuts := cu_CH_brokenTriples) ok_CH_brokenTriples (fun Kz hKz => ?_)
      conv => whnf
      rw [pk_mul, pk_mul, ← h3, nI_leI (by omega) (by omega)]
      refine ⟨fun _ => ?_, fun q => absurd (Nat.le_refl _) q⟩
      conv => whnf
      exact hZ
    · intro j hj ih t ht
      refine z_run (cuts := cu_CH_brokenTriples) ok_CH_brokenTriples (fun Kz hKz => ?_)
      conv => whnf
      rw [pk_mul, pk_mul, ← h3, nI_leI (by omega) (by omega)]
      refine ⟨fun q => absurd q (by omega), fun _ => ?_⟩
      conv => whnf
      rw [ht hj, ← tcl_dgl]
      refine s_CH_isBroken hk hA (dgl_lt h0 3 j) (dgl_len _ 3 j) ?_
      conv => whnf
      refine s_T_oneIfb ?_
      conv => whnf
      rw [tcl_dgl]
      refine s_CO_next h0 hn (by decide) hj (fun t2 ht1 ht2 => ?_)
      conv => whnf
      refine hKz _ _ _ _ ?_
      rw [nI_add, nI_1']
      exact ih t2 ht2
  refine go_CH_brokenTriples (fun Kz hKz => ?_)
  conv => whnf
  refine ⟨by first | assumption | decide, ?_⟩
  conv => whnf
  refine s_PM_points hk ?_
  conv => whnf
  refine hKz _ _ _ _ ?_
  rw [hA.2.1]
  exact lp 0 (Nat.zero_le _) 0 (fun _ => (enc_zero h0 3).symm)
end
