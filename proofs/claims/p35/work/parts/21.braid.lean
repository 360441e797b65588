/-- a letter: where it acts, whether it is a capital -/
def lpos (c : Nat) : Nat := if 97 ≤ c then c - 97 else c - 65
def isLet (c : Nat) : Prop := (97 ≤ c ∧ c < 100) ∨ (65 ≤ c ∧ c < 68)
def capl (c : Nat) : Bool := decide (c < 97)
theorem lpos_lt {c : Nat} (h : isLet c) : lpos c < 3 := by
  unfold lpos; unfold isLet at h; split <;> omega
/-- how many points the letters ask; is one a capital -/
def bstr : List (Nat × Bool) → Nat
  | [] => 0
  | q :: r => max (q.1 + 2) (bstr r)
def bcap (w : List (Nat × Bool)) : Bool := w.any (fun q => q.2)
section
variable {G : ZG} {M : ZM} {Z : Option ZV → ZM → Prop}
theorem s_BR_length {b : Nat} (hb : b < 3) (hZ : Z (some (zi (M.1 2 b 2))) M) : Ctr 0 G mi_BR_length [zr 2 b] M Z := by
  refine go_BR_length (fun Kz hKz => ?_)
  conv => whnf
  refine ⟨by first | assumption | decide, ?_⟩
  conv => whnf
  exact hZ
def brS (b : Nat) : Nat → Nat → Prop := fun a c => (a = 2 ∨ a = 3 ∨ a = 4) ∧ c = b
theorem bstr_app (u : List (Nat × Bool)) (q : Nat × Bool) : bstr (u ++ [q]) = max (bstr u) (q.1 + 2) := by
  induction u with
  | nil => simp [bstr]
  | cons a r ih => simp only [List.cons_append, bstr, ih]; omega
end
