/-! sets as bits; a pass that adds what must be in, until nothing is missing -/
def sub2 (s t : Nat) : Prop := ∀ i, s.testBit i = true → t.testBit i = true
theorem sub2_refl (s : Nat) : sub2 s s := fun _ h => h
theorem sub2_trans {s t u : Nat} (h : sub2 s t) (h' : sub2 t u) : sub2 s u := fun i q => h' i (h i q)
theorem sub2_anti {s t : Nat} (h : sub2 s t) (h' : sub2 t s) : s = t := Nat.eq_of_testBit_eq fun i => by
  rw [Bool.eq_iff_iff]
  exact ⟨h i, h' i⟩
theorem sub2_or {s a t : Nat} (h : sub2 s t) (ha : sub2 a t) : sub2 (s ||| a) t := fun i q => by
  rw [Nat.testBit_or, Bool.or_eq_true] at q
  exact q.elim (h i) (ha i)
theorem sub2_pow {e t : Nat} (h : t.testBit e = true) : sub2 (2 ^ e) t := fun i q => by
  rw [Nat.testBit_two_pow] at q
  rw [← of_decide_eq_true q]; exact h
theorem sub2_l {s a : Nat} : sub2 s (s ||| a) := fun i q => by rw [Nat.testBit_or, q, Bool.true_or]
theorem bct_mono {s t : Nat} (h : sub2 s t) : ∀ k, bct s k ≤ bct t k := by
  intro k
  induction k with
  | zero => exact Nat.le_refl _
  | succ k ih =>
    have : (s.testBit k).toNat ≤ (t.testBit k).toNat := by
      cases hs : s.testBit k with
      | false => exact Nat.zero_le _
      | true => rw [h k hs]; exact Nat.le_refl _
    simp only [bct]
    omega
theorem bct_strict {s t : Nat} (h : sub2 s t) : ∀ k, (∃ i, i < k ∧ s.testBit i = false ∧ t.testBit i = true) → bct s k < bct t k := by
  intro k
  induction k with
  | zero => rintro ⟨i, hi, _⟩; exact absurd hi (Nat.not_lt_zero _)
  | succ k ih =>
    rintro ⟨i, hi, h1, h2⟩
    simp only [bct]
    rcases Nat.lt_succ_iff_lt_or_eq.mp hi with hi | rfl
    · have h3 := ih ⟨i, hi, h1, h2⟩
      have : (s.testBit k).toNat ≤ (t.testBit k).toNat := by
        cases hs : s.testBit k with
        | false => exact Nat.zero_le _
        | true => rw [h k hs]; exact Nat.le_refl _
      omega
    · have h3 := bct_mono h i
      rw [h1, h2]
      simp only [Bool.toNat_false, Bool.toNat_true]
      omega
theorem bct_le (s : Nat) : ∀ k, bct s k ≤ k := by
  intro k
  induction k with
  | zero => exact Nat.le_refl _
  | succ k ih =>
    have : (s.testBit k).toNat ≤ 1 := by cases s.testBit k <;> decide
    simp only [bct]
    omega
theorem bit_lt {s n i : Nat} (hs : s < 2 ^ n) (h : s.testBit i = true) : i < n := by
  rcases Nat.lt_or_ge i n with q | q
  · exact q
  · rw [Nat.testBit_lt_two_pow (Nat.lt_of_lt_of_le hs (Nat.pow_le_pow_right (by decide) q))] at h
    cases h
def itr (f : Nat → Nat) (s : Nat) : Nat → Nat
  | 0 => s
  | k + 1 => f (itr f s k)
/-- what n passes give: the least closed set -/
theorem least_closed {n : Nat} {f : Nat → Nat} {cl : Nat → Prop} (P1 : ∀ s, sub2 s (f s)) (P2 : ∀ s, s < 2 ^ n → f s = s → cl s) (P3 : ∀ s t, sub2 s t → cl t → sub2 (f s) t) (P4 : ∀ s, s < 2 ^ n → f s < 2 ^ n) {s0 : Nat} (h0 : s0 < 2 ^ n) :
    itr f s0 n < 2 ^ n ∧ sub2 s0 (itr f s0 n) ∧ cl (itr f s0 n) ∧ ∀ t, sub2 s0 t → cl t → sub2 (itr f s0 n) t := by
  have hlt : ∀ k, itr f s0 k < 2 ^ n := by
    intro k
    induction k with
    | zero => exact h0
    | succ k ih => exact P4 _ ih
  have hsub : ∀ k, sub2 s0 (itr f s0 k) := by
    intro k
    induction k with
    | zero => exact sub2_refl _
    | succ k ih => exact sub2_trans ih (P1 _)
  have hmin : ∀ t, sub2 s0 t → cl t → ∀ k, sub2 (itr f s0 k) t := by
    intro t h1 h2 k
    induction k with
    | zero => exact h1
    | succ k ih => exact P3 _ _ ih h2
  have hgrow : ∀ k, f (itr f s0 k) = itr f s0 k ∨ k ≤ bct (itr f s0 k) n := by
    intro k
    induction k with
    | zero => exact Or.inr (Nat.zero_le _)
    | succ k ih =>
      rcases ih with h | h
      · exact Or.inl (by rw [itr, h, h])
      · by_cases he : itr f s0 (k + 1) = itr f s0 k
        · exact Or.inl (by rw [he]; exact he)
        · refine Or.inr ?_
          have hs := P1 (itr f s0 k)
          have : ∃ i, i < n ∧ (itr f s0 k).testBit i = false ∧ (itr f s0 (k + 1)).testBit i = true := by
            refine Classical.byContradiction fun hno => he (sub2_anti (fun i hi => ?_) hs)
            have hin := bit_lt (hlt (k + 1)) hi
            cases hb : (itr f s0 k).testBit i with
            | true => rfl
            | false => exact absurd ⟨i, hin, hb, hi⟩ hno
          have := bct_strict hs n this
          show k + 1 ≤ bct (f (itr f s0 k)) n
          omega
  refine ⟨hlt n, hsub n, ?_, fun t h1 h2 => hmin t h1 h2 n⟩
  refine P2 _ (hlt n) ?_
  rcases hgrow n with h | h
  · exact h
  · have hfull : ∀ i, i < n → (itr f s0 n).testBit i = true := by
      intro i hi
      cases hb : (itr f s0 n).testBit i with
      | true => rfl
      | false =>
        exfalso
        have h1 : sub2 (itr f s0 n) (2 ^ n - 1) := fun j hj => by rw [Nat.testBit_two_pow_sub_one]; exact decide_eq_true (bit_lt (hlt n) hj)
        have h2 := bct_strict h1 n ⟨i, hi, hb, by rw [Nat.testBit_two_pow_sub_one]; exact decide_eq_true hi⟩
        have h3 := bct_le (2 ^ n - 1) n
        omega
    exact sub2_anti (fun i hi => hfull i (bit_lt (P4 _ (hlt n)) hi)) (P1 _)
/-! orbits -/
def jn (s a b : Nat) : Nat := if s.testBit a || s.testBit b then s ||| (2 ^ a ||| 2 ^ b) else s
theorem jn_sub (s a b : Nat) : sub2 s (jn s a b) := by
  unfold jn
  split
  · exact sub2_l
  · exact sub2_refl _
theorem jn_fix {s a b : Nat} (h : jn s a b = s) : s.testBit a = s.testBit b := by
  unfold jn at h
  cases ha : s.testBit a <;> cases hb : s.testBit b
  · rfl
  · rw [ha, hb, Bool.false_or, if_pos rfl] at h
    have : (s ||| (2 ^ a ||| 2 ^ b)).testBit a = true := by simp
    rw [h, ha] at this
    cases this
  · rw [ha, hb, Bool.true_or, if_pos rfl] at h
    have : (s ||| (2 ^ a ||| 2 ^ b)).testBit b = true := by simp
    rw [h, hb] at this
    cases this
  · rfl
theorem jn_min {s t a b : Nat} (h : sub2 s t) (hc : t.testBit a = t.testBit b) : sub2 (jn s a b) t := by
  unfold jn
  split
  · rename_i q
    rw [Bool.or_eq_true] at q
    have hb : t.testBit b = true := by
      rcases q with q | q
      · rw [← hc]; exact h a q
      · exact h b q
    exact sub2_or h (sub2_or (sub2_pow (hc.trans hb)) (sub2_pow hb))
  · exact h
theorem jn_lt {s a b n : Nat} (h : s < 2 ^ n) (ha : a < n) (hb : b < n) : jn s a b < 2 ^ n := by
  unfold jn
  split
  · exact Nat.or_lt_two_pow h (Nat.or_lt_two_pow (Nat.pow_lt_pow_right (by decide) ha) (Nat.pow_lt_pow_right (by decide) hb))
  · exact h
/-- links one by one -/
def jns (l : Nat → Nat × Nat) (s : Nat) : Nat → Nat
  | 0 => s
  | k + 1 => jn (jns l s k) (l k).1 (l k).2
theorem jns_sub (l : Nat → Nat × Nat) (s : Nat) : ∀ k, sub2 s (jns l s k) := by
  intro k
  induction k with
  | zero => exact sub2_refl _
  | succ k ih => exact sub2_trans ih (jn_sub _ _ _)
theorem jns_fix {l : Nat → Nat × Nat} {s : Nat} : ∀ k, jns l s k = s → ∀ i, i < k → s.testBit (l i).1 = s.testBit (l i).2 := by
  intro k
  induction k with
  | zero => intro _ i hi; exact absurd hi (Nat.not_lt_zero _)
  | succ k ih =>
    intro h i hi
    have h1 : jns l s k = s := sub2_anti (fun j hj => by rw [← h]; exact jn_sub _ _ _ j hj) (jns_sub l s k)
    rcases Nat.lt_succ_iff_lt_or_eq.mp hi with hi | rfl
    · exact ih h1 i hi
    · rw [jns, h1] at h
      exact jn_fix h
theorem jns_min {l : Nat → Nat × Nat} {s t : Nat} (h : sub2 s t) : ∀ k, (∀ i, i < k → t.testBit (l i).1 = t.testBit (l i).2) → sub2 (jns l s k) t := by
  intro k
  induction k with
  | zero => intro _; exact h
  | succ k ih => intro hc; exact jn_min (ih fun i hi => hc i (by omega)) (hc k (by omega))
theorem jns_lt {l : Nat → Nat × Nat} {s n : Nat} (h : s < 2 ^ n) : ∀ k, (∀ i, i < k → (l i).1 < n ∧ (l i).2 < n) → jns l s k < 2 ^ n := by
  intro k
  induction k with
  | zero => intro _; exact h
  | succ k ih => intro hc; exact jn_lt (ih fun i hi => hc i (by omega)) (hc k (by omega)).1 (hc k (by omega)).2
/-- a set that the links of a map lead neither into nor out of -/
def clO (A : ZP) (s : Nat) : Prop := ∀ x y, x < A.1 → y < A.1 → s.testBit y = s.testBit (A.2.1 x y) ∧ s.testBit x = s.testBit (A.2.2 x y)
def isOrb (A : ZP) (x r : Nat) : Prop := r < 2 ^ A.1 ∧ r.testBit x = true ∧ clO A r ∧ ∀ t, t.testBit x = true → clO A t → sub2 r t
theorem isOrb_uniq {A : ZP} {x r r' : Nat} (h : isOrb A x r) (h' : isOrb A x r') : r = r' := sub2_anti (h.2.2.2 r' h'.2.1 h'.2.2.1) (h'.2.2.2 r h.2.1 h.2.2.1)
/-- n passes over links that are a map's links give the orbit -/
theorem orb_of {A : ZP} {l : Nat → Nat × Nat} {k : Nat} (hl : ∀ i, i < k → (l i).1 < A.1 ∧ (l i).2 < A.1) (hcl : ∀ s, (∀ i, i < k → s.testBit (l i).1 = s.testBit (l i).2) ↔ clO A s) {x : Nat} (hx : x < A.1) : isOrb A x (itr (fun s => jns l s k) (2 ^ x) A.1) := by
  have h := least_closed (n := A.1) (f := fun s => jns l s k) (cl := clO A) (fun s => jns_sub l s k) (fun s _ hs => (hcl s).mp (jns_fix k hs)) (fun s t h1 h2 => jns_min h1 k ((hcl t).mpr h2)) (fun s hs => jns_lt hs k hl) (s0 := 2 ^ x) (Nat.pow_lt_pow_right (by decide) hx)
  refine ⟨h.1, h.2.1 x (by rw [Nat.testBit_two_pow]; exact decide_eq_true rfl), h.2.2.1, fun t h1 h2 => h.2.2.2 t (sub2_pow h1) h2⟩
