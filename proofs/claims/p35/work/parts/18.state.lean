/-! the class's state: the maps at the four places, the two braids (where each letter acts, whether it is a capital) -/
abbrev ZS : Type := (Nat → ZP) × (Nat → List (Nat × Bool))
def p0 : ZP := (0, fun _ _ => 0, fun _ _ => 0)
def b2i (b : Bool) : Int32 := if b then nI 1 else nI 0
def isBR (M : ZM) (b : Nat) (w : List (Nat × Bool)) : Prop := w.length ≤ 24 ∧ M.1 2 b 2 = nI w.length ∧ ∀ i q, w[i]? = some q → q.1 < 3 ∧ M.1 3 b i = nI q.1 ∧ M.1 4 b i = b2i q.2
def CS (M : ZM) (S : ZS) : Prop := (∀ m, m < 4 → isPM M m (S.1 m)) ∧ isPM M 4 p0 ∧ (∀ b, b < 2 → isBR M b (S.2 b)) ∧ isBR M 2 []
/-- the reference's cells are as they were -/
def csm (M M' : ZM) : Prop := ∀ a b, 20 ≤ a → M'.1 a b = M.1 a b ∧ M'.2 a b = M.2 a b
theorem csm_refl (M : ZM) : csm M M := fun _ _ _ => ⟨rfl, rfl⟩
theorem csm_trans {M M' M'' : ZM} (h : csm M M') (h' : csm M' M'') : csm M M'' := fun a b q => ⟨(h' a b q).1.trans (h a b q).1, (h' a b q).2.trans (h a b q).2⟩
theorem csm_of {S : Nat → Nat → Prop} {M M' : ZM} (h : zsm S M M') (hs : ∀ a b, S a b → a < 20) : csm M M' := fun a b q => ⟨h.2 a b (fun z => by have := hs a b z; omega), by rw [h.1]⟩
theorem csm_pm {k : Nat} {M M' : ZM} (h : zsm (pmS k) M M') : csm M M' := csm_of h (fun a b q => by rcases q.1 with q | q <;> omega)
def upS (S : ZS) (to : Nat) (A : ZP) : ZS := (fun m => if m = to then A else S.1 m, S.2)
def plk (m : Nat) : Nat := if m < 4 then m else 4
def plA (S : ZS) (m : Nat) : ZP := if m < 4 then S.1 m else p0
theorem plk_lt (m : Nat) : plk m < 5 := by unfold plk; split <;> omega
theorem CS_pl {M : ZM} {S : ZS} (h : CS M S) (m : Nat) : isPM M (plk m) (plA S m) := by
  unfold plk plA
  by_cases hm : m < 4
  · rw [if_pos hm, if_pos hm]; exact h.1 m hm
  · rw [if_neg hm, if_neg hm]; exact h.2.1
theorem isBR_same {S : Nat → Nat → Prop} {M M' : ZM} {b : Nat} {w : List (Nat × Bool)} (h : isBR M b w) (hs : zsm S M M') (h2 : ¬ S 2 b) (h3 : ¬ S 3 b) (h4 : ¬ S 4 b) : isBR M' b w := by
  refine ⟨h.1, by rw [hs.2 2 b h2]; exact h.2.1, fun i q hi => ?_⟩
  rw [hs.2 3 b h3, hs.2 4 b h4]
  exact h.2.2 i q hi
theorem isBR_eq {M M' : ZM} {b : Nat} {w : List (Nat × Bool)} (h : isBR M b w) (h2 : M'.1 2 b = M.1 2 b) (h3 : M'.1 3 b = M.1 3 b) (h4 : M'.1 4 b = M.1 4 b) : isBR M' b w := by
  refine ⟨h.1, by rw [h2]; exact h.2.1, fun i q hi => ?_⟩
  rw [h3, h4]
  exact h.2.2 i q hi
theorem isPM_eq {M M' : ZM} {k : Nat} {A : ZP} (h : isPM M k A) (h0 : M'.1 0 k = M.1 0 k) (h1 : M'.1 1 k = M.1 1 k) : isPM M' k A := by
  refine ⟨h.1, by rw [h0]; exact h.2.1, fun x y hx hy => ?_⟩
  rw [h1]
  exact h.2.2 x y hx hy
/-- the places and the braids are as they were -/
def cst (M M' : ZM) : Prop := (∀ b, b < 5 → M'.1 0 b = M.1 0 b ∧ M'.1 1 b = M.1 1 b) ∧ ∀ b, b < 3 → M'.1 2 b = M.1 2 b ∧ M'.1 3 b = M.1 3 b ∧ M'.1 4 b = M.1 4 b
theorem CS_cst {M M' : ZM} {S : ZS} (h : CS M S) (hc : cst M M') : CS M' S :=
  ⟨fun m hm => isPM_eq (h.1 m hm) (hc.1 m (by omega)).1 (hc.1 m (by omega)).2, isPM_eq h.2.1 (hc.1 4 (by omega)).1 (hc.1 4 (by omega)).2, fun b hb => isBR_eq (h.2.2.1 b hb) (hc.2 b (by omega)).1 (hc.2 b (by omega)).2.1 (hc.2 b (by omega)).2.2, isBR_eq h.2.2.2 (hc.2 2 (by omega)).1 (hc.2 2 (by omega)).2.1 (hc.2 2 (by omega)).2.2⟩
theorem cst_of {S : Nat → Nat → Prop} {M M' : ZM} (h : zsm S M M') (h0 : ∀ b, b < 5 → ¬ S 0 b ∧ ¬ S 1 b) (h2 : ∀ b, b < 3 → ¬ S 2 b ∧ ¬ S 3 b ∧ ¬ S 4 b) : cst M M' :=
  ⟨fun b hb => ⟨h.2 0 b (h0 b hb).1, h.2 1 b (h0 b hb).2⟩, fun b hb => ⟨h.2 2 b (h2 b hb).1, h.2 3 b (h2 b hb).2.1, h.2 4 b (h2 b hb).2.2⟩⟩
theorem cst_pm {k : Nat} {M M' : ZM} (hk : 5 ≤ k) (h : zsm (pmS k) M M') : cst M M' :=
  cst_of h (fun b hb => ⟨fun q => by have := q.2; omega, fun q => by have := q.2; omega⟩) (fun b hb => ⟨fun q => absurd q.1 (by decide), fun q => absurd q.1 (by decide), fun q => absurd q.1 (by decide)⟩)
theorem CS_put {M M' : ZM} {S : ZS} {to : Nat} {A : ZP} (h : CS M S) (hto : to < 4) (hs : zsm (pmS to) M M') (hA : isPM M' to A) : CS M' (upS S to A) := by
  refine ⟨fun m hm => ?_, isPM_same h.2.1 hs (fun q => by have := q.2; omega) (fun q => by have := q.2; omega), fun b hb => isBR_same (h.2.2.1 b hb) hs (fun q => absurd q.1 (by decide)) (fun q => absurd q.1 (by decide)) (fun q => absurd q.1 (by decide)), isBR_same h.2.2.2 hs (fun q => absurd q.1 (by decide)) (fun q => absurd q.1 (by decide)) (fun q => absurd q.1 (by decide))⟩
  simp only [upS]
  by_cases he : m = to
  · rw [if_pos he, he]; exact hA
  · rw [if_neg he]
    exact isPM_same (h.1 m hm) hs (fun q => he q.2) (fun q => he q.2)
section
variable {G : ZG} {M : ZM} {Z : Option ZV → ZM → Prop}
theorem s_T_mapAt {m : Nat} (hm : m < 2 ^ 32) (hZ : Z (some (zr 0 (plk m))) M) : Ctr 0 G mi_T_mapAt [zr 5 0, zi (nI m)] M Z := by
  refine go_T_mapAt (fun Kz hKz => ?_)
  conv => whnf
  refine s_T_isPlace hm (fun h => ?_) (fun h => ?_)
  · conv => whnf
    first | refine ⟨fun _ => ?_, fun q => absurd (by decide) q⟩ | refine ⟨fun q => absurd q (by decide), fun _ => ?_⟩
    conv => whnf
    refine ⟨vp_in_nI h (by decide), ?_⟩
    conv => whnf
    rw [nI_clamp (by omega)]
    rw [plk, if_pos h] at hZ
    exact hZ
  · conv => whnf
    first | refine ⟨fun _ => ?_, fun q => absurd (by decide) q⟩ | refine ⟨fun q => absurd q (by decide), fun _ => ?_⟩
    conv => whnf
    rw [plk, if_neg h] at hZ
    exact hZ
theorem s_T_braidAt {m : Nat} (hm : m < 2 ^ 32) (hZ : Z (some (zr 2 (if m < 2 then m else 2))) M) : Ctr 0 G mi_T_braidAt [zr 5 0, zi (nI m)] M Z := by
  refine go_T_braidAt (fun Kz hKz => ?_)
  conv => whnf
  refine s_T_isBraid hm (fun h => ?_) (fun h => ?_)
  · conv => whnf
    first | refine ⟨fun _ => ?_, fun q => absurd (by decide) q⟩ | refine ⟨fun q => absurd q (by decide), fun _ => ?_⟩
    conv => whnf
    refine ⟨vp_in_nI h (by decide), ?_⟩
    conv => whnf
    rw [nI_clamp (by omega)]
    rw [if_pos h] at hZ
    exact hZ
  · conv => whnf
    first | refine ⟨fun _ => ?_, fun q => absurd (by decide) q⟩ | refine ⟨fun q => absurd q (by decide), fun _ => ?_⟩
    conv => whnf
    rw [if_neg h] at hZ
    exact hZ
theorem s_T_keepMade {to : Nat} {B : ZP} {S : ZS} (hto : to < 4) (hC : CS M S) (hB : isPM M 5 B) (hZ : ∀ M', CS M' (upS S to B) → csm M M' → Z (some (zi (nI B.1))) M') : Ctr 0 G mi_T_keepMade [zr 5 0, zi (nI to)] M Z := by
  refine go_T_keepMade (fun Kz hKz => ?_)
  conv => whnf
  refine s_T_isPlace (by omega) (fun h => ?_) (fun h => absurd hto h)
  conv => whnf
  first | refine ⟨fun _ => ?_, fun q => absurd (by decide) q⟩ | refine ⟨fun q => absurd q (by decide), fun _ => ?_⟩
  conv => whnf
  refine ⟨vp_in_nI h (by decide), ?_⟩
  conv => whnf
  rw [nI_clamp (by omega)]
  refine ⟨by show to < 10; omega, ?_⟩
  refine s_PM_copy (by omega) (by decide) (by omega) (fun M' h1 h2 h3 => ?_)
  conv => whnf
  refine ⟨by first | assumption | decide, ?_⟩
  conv => whnf
  have hB' : isPM M' to B := by
    refine ⟨hB.1, h2.trans hB.2.1, fun x y hx hy => ?_⟩
    have := hB.1.1
    rw [h3 _ (by omega)]
    exact hB.2.2 x y hx hy
  have hB5 : isPM M' 5 B := isPM_same hB h1 (fun q => by have := q.2; omega) (fun q => by have := q.2; omega)
  refine s_PM_points (by decide) ?_
  conv => whnf
  rw [hB5.2.1]
  exact hZ M' (CS_put hC hto h1 hB') (csm_pm h1)
theorem c_flip {to n : Nat} {S : ZS} (hto : to < 2 ^ 32) (hn : n < 2 ^ 32) (hC : CS M S) (h1 : ¬ to < 4 → Z (some (zi (-1000001))) M) (h2 : to < 4 → ¬ (1 ≤ n ∧ n ≤ 6) → Z (some (zi (-1000002))) M) (h3 : to < 4 → 1 ≤ n → n ≤ 6 → ∀ M', CS M' (upS S to (pflip n)) → csm M M' → Z (some (zi (nI n))) M') : Ctr 0 G mi_T_flip [zr 5 0, zi (nI to), zi (nI n)] M Z := by
  refine go_T_flip (fun Kz hKz => ?_)
  conv => whnf
  refine s_T_isPlace hto (fun h => ?_) (fun h => ?_)
  · conv => whnf
    first | refine ⟨fun _ => ?_, fun q => absurd (by decide) q⟩ | refine ⟨fun q => absurd q (by decide), fun _ => ?_⟩
    conv => whnf
    refine s_T_isWithin hn (by decide) (by decide) (fun h4 h5 => ?_) (fun h4 => ?_)
    · conv => whnf
      first | refine ⟨fun _ => ?_, fun q => absurd (by decide) q⟩ | refine ⟨fun q => absurd q (by decide), fun _ => ?_⟩
      conv => whnf
      refine ⟨by decide, ?_⟩
      refine s_PM_becomeFlip (by decide) h5 (fun M1 hM1 => ?_)
      conv => whnf
      have hwf : pwf (pflip n) := ⟨h5, fun x y hx hy => ⟨hy, hx⟩⟩
      refine s_T_keepMade h (CS_cst hC (cst_pm (by decide) hM1.1)) ⟨hwf, hM1.2.1, fun x y hx hy => hM1.2.2 x y hx hy⟩ (fun M' h6 h7 => ?_)
      conv => whnf
      exact h3 h h4 h5 M' h6 (csm_trans (csm_pm hM1.1) h7)
    · conv => whnf
      first | refine ⟨fun _ => ?_, fun q => absurd (by decide) q⟩ | refine ⟨fun q => absurd q (by decide), fun _ => ?_⟩
      conv => whnf
      exact h2 h h4
  · conv => whnf
    first | refine ⟨fun _ => ?_, fun q => absurd (by decide) q⟩ | refine ⟨fun q => absurd q (by decide), fun _ => ?_⟩
    conv => whnf
    exact h1 h
end
