/-! every word has its number; how many ends there are -/
theorem enc_inj {n : Nat} (hn : n ≤ 8) (h0 : 0 < n) : ∀ k i j, i < n ^ k → j < n ^ k → enc n k i = enc n k j → i = j := by
  intro k
  induction k with
  | zero => intro i j hi hj _; rw [Nat.pow_zero] at hi hj; omega
  | succ k ih =>
    intro i j hi hj h
    rw [enc, enc] at h
    have m1 := Nat.mod_lt i h0
    have m2 := Nat.mod_lt j h0
    have hi2 : i / n < n ^ k := Nat.div_lt_of_lt_mul (by rw [Nat.mul_comm, ← Nat.pow_succ]; exact hi)
    have hj2 : j / n < n ^ k := Nat.div_lt_of_lt_mul (by rw [Nat.mul_comm, ← Nat.pow_succ]; exact hj)
    have e := ih _ _ hi2 hj2 (by omega)
    have e1 := Nat.div_add_mod i n
    have e2 := Nat.div_add_mod j n
    rw [e] at e1
    omega
theorem dgl_surj {n : Nat} (h0 : 0 < n) : ∀ k (w : List Nat), w.length = k → allB n w → ∃ j, j < n ^ k ∧ dgl n k j = w := by
  intro k
  induction k with
  | zero =>
    intro w hl _
    exact ⟨0, Nat.one_pos, by rw [dgl, List.length_eq_zero_iff.mp hl]⟩
  | succ k ih =>
    intro w hl hw
    have hne : w ≠ [] := fun e => by rw [e] at hl; cases hl
    obtain ⟨j, h1, h2⟩ := ih w.dropLast (by rw [List.length_dropLast, hl]; rfl) (fun d hd => hw d ((List.dropLast_sublist w).subset hd))
    have hd := hw _ (List.getLast_mem hne)
    refine ⟨n * j + w.getLast hne, ?_, ?_⟩
    · have : n * (j + 1) ≤ n * n ^ k := Nat.mul_le_mul_left _ h1
      rw [Nat.pow_succ, Nat.mul_comm (n ^ k)]
      rw [Nat.mul_add] at this
      omega
    · rw [dgl, (dvm hd).1, (dvm hd).2, h2]
      exact List.dropLast_concat_getLast hne
theorem vW_dgl {A : ZP} {k j : Nat} (h0 : 0 < A.1) : vW A k (dgl A.1 k j) := ⟨dgl_lt h0 k j, dgl_len _ k j⟩
theorem cnt_drop {p q : Nat → Bool} {N j0 : Nat} (h0 : j0 < N) (h1 : p j0 = true) (h2 : q j0 = false) (h3 : ∀ j, j < N → j ≠ j0 → q j = p j) : cnt q N + 1 = cnt p N := by
  have low : ∀ j, j ≤ j0 → cnt q j = cnt p j := by
    intro j
    induction j with
    | zero => intro _; rfl
    | succ j ih => intro hj; rw [cnt, cnt, ih (by omega), h3 j (by omega) (by omega)]
  have high : ∀ d, j0 + 1 + d ≤ N → cnt q (j0 + 1 + d) + 1 = cnt p (j0 + 1 + d) := by
    intro d
    induction d with
    | zero => intro _; show cnt q (j0 + 1) + 1 = cnt p (j0 + 1); rw [cnt, cnt, low j0 (Nat.le_refl _), h1, h2]; rfl
    | succ d ih =>
      intro hd
      have := ih (by omega)
      show cnt q (j0 + 1 + d + 1) + 1 = cnt p (j0 + 1 + d + 1)
      rw [cnt, cnt, h3 (j0 + 1 + d) (by omega) (by omega)]
      omega
  have := high (N - (j0 + 1)) (by omega)
  rw [Nat.add_sub_cancel' (by omega)] at this
  exact this
/-- how many words are ends -/
def nRt (A : ZP) (k : Nat) (s : Nat → Nat) : Nat := cnt (fun j => decide (root s (enc A.1 k j) = enc A.1 k j)) (A.1 ^ k)
theorem nRt_join {A : ZP} (hA : pwf A) (h0 : 0 < A.1) {k i : Nat} {s s' : Nat → Nat} (h : sound A k s) {u : List Nat} (hu : vW A k u) (hi : i + 1 < k) (hr : ∀ v, root s' v = jr (root s) (tcl u) (tcl (act A i u)) v) : nRt A k s = if root s (tcl u) = root s (tcl (act A i u)) then nRt A k s' else nRt A k s' + 1 := by
  have hn := hA.1
  split
  · rename_i q
    unfold nRt
    refine congrArg (fun p => cnt p (A.1 ^ k)) (funext fun j => ?_)
    rw [hr, jr_same q]
  · rename_i q
    obtain ⟨a, ha1, ha2, ha3⟩ := h.2 u hu
    obtain ⟨b, hb1, hb2, hb3⟩ := h.2 _ (vW_act hA hu hi)
    have ea := root_end h.1 (tcl u)
    have eb := root_end h.1 (tcl (act A i u))
    obtain ⟨v, hv1, hv2⟩ : ∃ v, vW A k v ∧ max (root s (tcl u)) (root s (tcl (act A i u))) = tcl v := by
      rcases Nat.le_total (root s (tcl u)) (root s (tcl (act A i u))) with h1 | h1
      · exact ⟨b, hb1, by rw [Nat.max_eq_right h1]; exact hb2⟩
      · exact ⟨a, ha1, by rw [Nat.max_eq_left h1]; exact ha2⟩
    have rmx : root s (max (root s (tcl u)) (root s (tcl (act A i u)))) = max (root s (tcl u)) (root s (tcl (act A i u))) := by
      rcases Nat.le_total (root s (tcl u)) (root s (tcl (act A i u))) with h1 | h1
      · rw [Nat.max_eq_right h1]; exact root_self eb
      · rw [Nat.max_eq_left h1]; exact root_self ea
    have rmn : root s (min (root s (tcl u)) (root s (tcl (act A i u)))) = min (root s (tcl u)) (root s (tcl (act A i u))) := by
      rcases Nat.le_total (root s (tcl u)) (root s (tcl (act A i u))) with h1 | h1
      · rw [Nat.min_eq_left h1]; exact root_self ea
      · rw [Nat.min_eq_right h1]; exact root_self eb
    have hlt : min (root s (tcl u)) (root s (tcl (act A i u))) < max (root s (tcl u)) (root s (tcl (act A i u))) := by omega
    obtain ⟨j0, hj0, hj1⟩ := dgl_surj h0 k v hv1.2 hv1.1
    have e0 : enc A.1 k j0 = max (root s (tcl u)) (root s (tcl (act A i u))) := by rw [hv2, ← hj1, tcl_dgl]
    have hjr : ∀ v, jr (root s) (tcl u) (tcl (act A i u)) v = if root s v = max (root s (tcl u)) (root s (tcl (act A i u))) then min (root s (tcl u)) (root s (tcl (act A i u))) else root s v := fun _ => rfl
    generalize max (root s (tcl u)) (root s (tcl (act A i u))) = mx at *
    generalize min (root s (tcl u)) (root s (tcl (act A i u))) = mn at *
    unfold nRt
    refine (cnt_drop (j0 := j0) hj0 ?_ ?_ (fun j hj hne => ?_)).symm
    · refine decide_eq_true ?_
      rw [e0]; exact rmx
    · refine decide_eq_false ?_
      rw [e0, hr, hjr, if_pos rmx]
      omega
    · have hne2 : enc A.1 k j ≠ mx := fun e => hne (enc_inj (by omega) h0 k j j0 hj hj0 (by rw [e, e0]))
      rw [hr, hjr]
      by_cases g : root s (enc A.1 k j) = mx
      · rw [if_pos g, g]
        have hne3 : mn ≠ enc A.1 k j := fun e => by rw [← e, rmn] at g; omega
        rw [decide_eq_false hne3, decide_eq_false (fun e => hne2 e.symm)]
      · rw [if_neg g]
