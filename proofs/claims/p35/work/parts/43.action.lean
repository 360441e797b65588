/-! braids on tuples -/
def fit (A : ZP) (w : List (Nat × Bool)) (s : Nat) : Prop := bstr w ≤ s ∧ (bcap w = true → pinj A)
def baS : Nat → Nat → Prop := fun a b => (a = 0 ∨ a = 1) ∧ (b = 8 ∨ b = 9)
/-- what prepare leaves -/
def isBA (M : ZM) (A : ZP) : Prop := isPM M 8 A ∧ (pinj A → isPM M 9 (pinv A))
noncomputable def ltr (A : ZP) (q : Nat × Bool) (u : List Nat) : List Nat := act (if q.2 = true then pinv A else A) q.1 u
noncomputable def brun (A : ZP) (w : List (Nat × Bool)) (u : List Nat) : List Nat := w.foldl (fun u q => ltr A q u) u
theorem bstr_mem : ∀ (w : List (Nat × Bool)) q, q ∈ w → q.1 + 2 ≤ bstr w := by
  intro w
  induction w with
  | nil => intro q h; cases h
  | cons a w ih =>
    intro q h
    rw [bstr]
    rcases List.mem_cons.mp h with h | h
    · rw [h]; exact Nat.le_max_left _ _
    · exact Nat.le_trans (ih q h) (Nat.le_max_right _ _)
theorem fit_letter {A : ZP} {w : List (Nat × Bool)} {s : Nat} (h : fit A w s) : ∀ q ∈ w, q.1 + 2 ≤ s ∧ (q.2 = true → pinj A) := by
  intro q hq
  refine ⟨Nat.le_trans (bstr_mem w q hq) h.1, fun hc => h.2 ?_⟩
  exact List.any_eq_true.mpr ⟨q, hq, hc⟩
theorem ltr_vW {A : ZP} (hA : pwf A) {s : Nat} {q : Nat × Bool} {u : List Nat} (hq : q.1 + 2 ≤ s ∧ (q.2 = true → pinj A)) (hu : vW A s u) : vW A s (ltr A q u) := by
  unfold ltr
  cases hc : q.2 with
  | false => rw [if_neg (by decide)]; exact vW_act hA hu (by omega)
  | true =>
    rw [if_pos rfl]
    exact vW_act (A := pinv A) (pinv_wf hA (hq.2 hc)) hu (by omega)
theorem brun_vW {A : ZP} (hA : pwf A) {s : Nat} : ∀ (w : List (Nat × Bool)) (u : List Nat), (∀ q ∈ w, q.1 + 2 ≤ s ∧ (q.2 = true → pinj A)) → vW A s u → vW A s (brun A w u) := by
  intro w
  induction w with
  | nil => intro u _ h; exact h
  | cons a w ih =>
    intro u h hu
    exact ih _ (fun q hq => h q (List.mem_cons_of_mem _ hq)) (ltr_vW hA (h a (List.mem_cons_self ..)) hu)
theorem brun_take {A : ZP} {w : List (Nat × Bool)} {u : List Nat} {i : Nat} {q : Nat × Bool} (h : w[i]? = some q) : brun A (w.take (i + 1)) u = ltr A q (brun A (w.take i) u) := by
  unfold brun
  rw [List.take_succ, h, Option.toList_some, List.foldl_append]
  rfl
section
variable {G : ZG} {M : ZM} {Z : Option ZV → ZM → Prop}
end
