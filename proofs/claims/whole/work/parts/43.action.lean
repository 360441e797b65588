/-! braids on tuples -/
def fit (A : ZP) (w : List (Nat × Bool)) (s : Nat) : Prop := bstr w ≤ s ∧ (bcap w = true → pinj A)
def baS : Nat → Nat → Prop := fun a b => (a = 0 ∨ a = 1) ∧ (b = 8 ∨ b = 9)
/-- what prepare leaves -/
def isBA (M : ZM) (A : ZP) : Prop := isPM M 8 A ∧ (pinj A → isPM M 9 (pinv A))
section
variable {G : ZG} {M : ZM} {Z : Option ZV → ZM → Prop}
theorem s_BA_isFit {k b s : Nat} {A : ZP} {w : List (Nat × Bool)} (hk : k < 10) (hb : b < 3) (hs : s < 8) (hA : isPM M k A) (hw : isBR M b w) (hst : bstr w ≤ 4) (h1 : fit A w s → Z (some (zi (nI 1))) M) (h2 : ¬ fit A w s → Z (some (zi (nI 0))) M) : Ctr 0 G mi_BA_isFit [zr 0 k, zr 2 b, zi (nI s)] M Z := by
  refine go_BA_isFit (fun Kz hKz => ?_)
  conv => whnf
  refine ⟨by show b < 3; omega, ?_⟩
  refine s_BR_strands hb hw ?_
  conv => whnf
  rw [nI_ltI (by omega) (by omega)]
  refine ⟨fun q => ?_, fun q => ?_⟩
  · conv => whnf
    exact ⟨Or.inl rfl, h2 (fun z => by have := z.1; omega)⟩
  · conv => whnf
    refine ⟨by show b < 3; omega, ?_⟩
    refine s_BR_hasCapital hb hw ?_
    cases hc : bcap w with
    | false =>
      conv => whnf
      first | refine ⟨fun _ => ?_, fun q => absurd (by decide) q⟩ | refine ⟨fun q => absurd q (by decide), fun _ => ?_⟩
      conv => whnf
      exact ⟨Or.inr rfl, h1 ⟨by omega, fun z => by rw [hc] at z; cases z⟩⟩
    | true =>
      conv => whnf
      first | refine ⟨fun _ => ?_, fun q => absurd (by decide) q⟩ | refine ⟨fun q => absurd q (by decide), fun _ => ?_⟩
      conv => whnf
      refine s_CH_isBijective hk hA (fun z => ?_) (fun z => ?_)
      · conv => whnf
        first | refine ⟨fun _ => ?_, fun q => absurd (by decide) q⟩ | refine ⟨fun q => absurd q (by decide), fun _ => ?_⟩
        conv => whnf
        exact ⟨Or.inr rfl, h1 ⟨by omega, fun _ => z⟩⟩
      · conv => whnf
        first | refine ⟨fun _ => ?_, fun q => absurd (by decide) q⟩ | refine ⟨fun q => absurd q (by decide), fun _ => ?_⟩
        conv => whnf
        exact ⟨Or.inl rfl, h2 (fun y => z (y.2 hc))⟩
theorem s_BA_prepare {k : Nat} {A : ZP} (hk : k < 8) (hA : isPM M k A) (hZ : ∀ M', zsm baS M M' → isBA M' A → Z none M') : Ctr 0 G mi_BA_prepare [zr 18 0, zr 0 k] M Z := by
  have hn := hA.1.1
  refine go_BA_prepare (fun Kz hKz => ?_)
  conv => whnf
  refine ⟨by decide, ?_⟩
  refine s_PM_copy (by decide) (by omega) (by omega) (fun M1 g1 g2 g3 => ?_)
  have hA1 : isPM M1 k A := isPM_same hA g1 (fun q => by have := q.2; omega) (fun q => by have := q.2; omega)
  have hA8 : isPM M1 8 A := ⟨hA.1, by rw [g2]; exact hA.2.1, fun x y hx hy => by
    have hx6 : x < 6 := Nat.lt_of_lt_of_le hx hn
    have hy6 : y < 6 := Nat.lt_of_lt_of_le hy hn
    rw [g3 _ (by omega)]
    exact hA.2.2 x y hx hy⟩
  conv => whnf
  refine ⟨by decide, ?_⟩
  refine s_PM_becomeInverse (by decide) (by omega) (by omega) hA1 (fun M2 r1 r2 r3 => ?_)
  conv => whnf
  exact hZ M2 (zsm_trans (zsm_mono g1 fun a b q => ⟨q.1, Or.inl q.2⟩) (zsm_mono r1 fun a b q => ⟨q.1, Or.inr q.2⟩)) ⟨isPM_same hA8 r1 (fun q => absurd q.2 (by decide)) (fun q => absurd q.2 (by decide)), r3⟩
end
