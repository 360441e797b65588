/-! braids on tuples -/
def fit (A : ZP) (w : List (Nat × Bool)) (s : Nat) : Prop := bstr w ≤ s ∧ (bcap w = true → pinj A)
def baS : Nat → Nat → Prop := fun a b => (a = 0 ∨ a = 1) ∧ (b = 8 ∨ b = 9)
/-- what prepare leaves -/
def isBA (M : ZM) (A : ZP) : Prop := isPM M 8 A ∧ (pinj A → isPM M 9 (pinv A))
noncomputable def ltr (A : ZP) (q : Nat × Bool) (u : List Nat) : List Nat := act (if q.2 = true then pinv A else A) q.1 u
noncomputable def brun (A : ZP) (w : List (Nat × Bool)) (u : List Nat) : List Nat := w.foldl (fun u q => ltr A q u) u
theorem bstr_mem : ∀ (w : List (Nat × Bool)) q, q ∈ w → q.1 + 2 ≤ bstr w := by
  intro w
  induction w with
  | nil => intro q h; cases h
  | cons a w ih =>
    intro q h
    rw [bstr]
    rcases List.mem_cons.mp h with h | h
    · rw [h]; exact Nat.le_max_left _ _
    · exact Nat.le_trans (ih q h) (Nat.le_max_right _ _)
theorem fit_letter {A : ZP} {w : List (Nat × Bool)} {s : Nat} (h : fit A w s) : ∀ q ∈ w, q.1 + 2 ≤ s ∧ (q.2 = true → pinj A) := by
  intro q hq
  refine ⟨Nat.le_trans (bstr_mem w q hq) h.1, fun hc => h.2 ?_⟩
  exact List.any_eq_true.mpr ⟨q, hq, hc⟩
theorem ltr_vW {A : ZP} (hA : pwf A) {s : Nat} {q : Nat × Bool} {u : List Nat} (hq : q.1 + 2 ≤ s ∧ (q.2 = true → pinj A)) (hu : vW A s u) : vW A s (ltr A q u) := by
  unfold ltr
  cases hc : q.2 with
  | false => rw [if_neg (by decide)]; exact vW_act hA hu (by omega)
  | true =>
    rw [if_pos rfl]
    exact vW_act (A := pinv A) (pinv_wf hA (hq.2 hc)) hu (by omega)
theorem brun_vW {A : ZP} (hA : pwf A) {s : Nat} : ∀ (w : List (Nat × Bool)) (u : List Nat), (∀ q ∈ w, q.1 + 2 ≤ s ∧ (q.2 = true → pinj A)) → vW A s u → vW A s (brun A w u) := by
  intro w
  induction w with
  | nil => intro u _ h; exact h
  | cons a w ih =>
    intro u h hu
    exact ih _ (fun q hq => h q (List.mem_cons_of_mem _ hq)) (ltr_vW hA (h a (List.mem_cons_self ..)) hu)
theorem brun_take {A : ZP} {w : List (Nat × Bool)} {u : List Nat} {i : Nat} {q : Nat × Bool} (h : w[i]? = some q) : brun A (w.take (i + 1)) u = ltr A q (brun A (w.take i) u) := by
  unfold brun
  rw [List.take_succ, h, Option.toList_some, List.foldl_append]
  rfl
section
variable {G : ZG} {M : ZM} {Z : Option ZV → ZM → Prop}
theorem s_BA_isFit {k b s : Nat} {A : ZP} {w : List (Nat × Bool)} (hk : k < 10) (hb : b < 3) (hs : s < 8) (hA : isPM M k A) (hw : isBR M b w) (hst : bstr w ≤ 4) (h1 : fit A w s → Z (some (zi (nI 1))) M) (h2 : ¬ fit A w s → Z (some (zi (nI 0))) M) : Ctr 0 G mi_BA_isFit [zr 0 k, zr 2 b, zi (nI s)] M Z := by
  refine go_BA_isFit (fun Kz hKz => ?_)
  conv => whnf
  refine ⟨by show b < 3; omega, ?_⟩
  refine s_BR_strands hb hw ?_
  conv => whnf
  rw [nI_ltI (by omega) (by omega)]
  refine ⟨fun q => ?_, fun q => ?_⟩
  · conv => whnf
    exact ⟨Or.inl rfl, h2 (fun z => by have := z.1; omega)⟩
  · conv => whnf
    refine ⟨by show b < 3; omega, ?_⟩
    refine s_BR_hasCapital hb hw ?_
    cases hc : bcap w with
    | false =>
      conv => whnf
      first | refine ⟨fun _ => ?_, fun q => absurd (by decide) q⟩ | refine ⟨fun q => absurd q (by decide), fun _ => ?_⟩
      conv => whnf
      exact ⟨Or.inr rfl, h1 ⟨by omega, fun z => by rw [hc] at z; cases z⟩⟩
    | true =>
      conv => whnf
      first | refine ⟨fun _ => ?_, fun q => absurd (by decide) q⟩ | refine ⟨fun q => absurd q (by decide), fun _ => ?_⟩
      conv => whnf
      refine s_CH_isBijective hk hA (fun z => ?_) (fun z => ?_)
      · conv => whnf
        first | refine ⟨fun _ => ?_, fun q => absurd (by decide) q⟩ | refine ⟨fun q => absurd q (by decide), fun _ => ?_⟩
        conv => whnf
        exact ⟨Or.inr rfl, h1 ⟨by omega, fun _ => z⟩⟩
      · conv => whnf
        first | refine ⟨fun _ => ?_, fun q => absurd (by decide) q⟩ | refine ⟨fun q => absurd q (by decide), fun _ => ?_⟩
        conv => whnf
        exact ⟨Or.inl rfl, h2 (fun y => z (y.2 hc))⟩
theorem s_BA_prepare {k : Nat} {A : ZP} (hk : k < 8) (hA : isPM M k A) (hZ : ∀ M', zsm baS M M' → isBA M' A → Z none M') : Ctr 0 G mi_BA_prepare [zr 18 0, zr 0 k] M Z := by
  have hn := hA.1.1
  refine go_BA_prepare (fun Kz hKz => ?_)
  conv => whnf
  refine ⟨by decide, ?_⟩
  refine s_PM_copy (by decide) (by omega) (by omega) (fun M1 g1 g2 g3 => ?_)
  have hA1 : isPM M1 k A := isPM_same hA g1 (fun q => by have := q.2; omega) (fun q => by have := q.2; omega)
  have hA8 : isPM M1 8 A := ⟨hA.1, by rw [g2]; exact hA.2.1, fun x y hx hy => by
    have hx6 : x < 6 := Nat.lt_of_lt_of_le hx hn
    have hy6 : y < 6 := Nat.lt_of_lt_of_le hy hn
    rw [g3 _ (by omega)]
    exact hA.2.2 x y hx hy⟩
  conv => whnf
  refine ⟨by decide, ?_⟩
  refine s_PM_becomeInverse (by decide) (by omega) (by omega) hA1 (fun M2 r1 r2 r3 => ?_)
  conv => whnf
  exact hZ M2 (zsm_trans (zsm_mono g1 fun a b q => ⟨q.1, Or.inl q.2⟩) (zsm_mono r1 fun a b q => ⟨q.1, Or.inr q.2⟩)) ⟨isPM_same hA8 r1 (fun q => absurd q.2 (by decide)) (fun q => absurd q.2 (by decide)), r3⟩
theorem s_BA_resultOf {b s : Nat} {A : ZP} {w : List (Nat × Bool)} {u : List Nat} (hb : b < 3) (h2 : 2 ≤ s) (h4 : s ≤ 4) (hB : isBA M A) (hw : isBR M b w) (hf : fit A w s) (hu : vW A s u) (hZ : Z (some (zi (nI (tcl (brun A w u))))) M) : Ctr 0 G mi_BA_resultOf [zr 18 0, zr 2 b, zi (nI s), zi (nI (tcl u))] M Z := by
  have hl := hw.1
  have hlet := fit_letter hf
  have lp : ∀ i, i ≤ w.length → V 0 G mi_BA_resultOf Z 6 [(0, zr 18 0), (1, zr 2 b), (2, zi (nI s)), (4, zi (nI (tcl (brun A (w.take i) u)))), (5, zi (nI i))] [] M := by
    refine up_to ?_ ?_
    · refine z_run (cuts := cu_BA_resultOf) ok_BA_resultOf (fun Kz hKz => ?_)
      conv => whnf
      refine ⟨by show b < 3; omega, ?_⟩
      refine s_BR_length hb ?_
      conv => whnf
      rw [hw.2.1, nI_leI (by omega) (by omega)]
      refine ⟨fun _ => ?_, fun q => absurd (Nat.le_refl _) q⟩
      conv => whnf
      rw [List.take_length]
      exact hZ
    · intro i hi ih
      obtain ⟨q, hq⟩ : ∃ q, w[i]? = some q := ⟨w[i], List.getElem?_eq_getElem hi⟩
      have hqm : q ∈ w := List.mem_of_getElem? hq
      have hlq := hlet q hqm
      have hr := hw.2.2 i q hq
      have hv : vW A s (brun A (w.take i) u) := brun_vW hB.1.1 _ _ (fun q hq => hlet q (List.mem_of_mem_take hq)) hu
      rw [brun_take hq] at ih
      unfold ltr at ih
      refine z_run (cuts := cu_BA_resultOf) ok_BA_resultOf (fun Kz hKz => ?_)
      conv => whnf
      refine ⟨by show b < 3; omega, ?_⟩
      refine s_BR_length hb ?_
      conv => whnf
      rw [hw.2.1, nI_leI (by omega) (by omega)]
      refine ⟨fun q => absurd q (by omega), fun _ => ?_⟩
      conv => whnf
      refine ⟨by show b < 3; omega, ?_⟩
      refine s_BR_position hb (by omega) ?_
      conv => whnf
      refine ⟨by show b < 3; omega, ?_⟩
      refine s_BR_isCapitalAt hb (by omega) hr.2.2 ?_
      cases hc : q.2 with
      | false =>
        rw [hc, if_neg (by decide)] at ih
        conv => whnf
        first | refine ⟨fun _ => ?_, fun q => absurd (by decide) q⟩ | refine ⟨fun q => absurd q (by decide), fun _ => ?_⟩
        conv => whnf
        rw [hr.2.1, pk_sub h2, pk_sub (by omega), pk_mul]
        refine ⟨by decide, ?_⟩
        refine s_PM_act (i := q.1) (by decide) hB.1 hv.1 (by rw [hv.2]; omega) (by rw [hv.2]; omega) (by rw [hv.2]) ?_
        conv => whnf
        refine hKz _ _ _ _ ?_
        rw [nI_1']
        exact ih
      | true =>
        rw [hc, if_pos rfl] at ih
        conv => whnf
        first | refine ⟨fun _ => ?_, fun q => absurd (by decide) q⟩ | refine ⟨fun q => absurd q (by decide), fun _ => ?_⟩
        conv => whnf
        rw [hr.2.1, pk_sub h2, pk_sub (by omega), pk_mul]
        refine ⟨by decide, ?_⟩
        refine s_PM_act (i := q.1) (by decide) (hB.2 (hlq.2 hc)) hv.1 (by rw [hv.2]; omega) (by rw [hv.2]; omega) (by rw [hv.2]) ?_
        conv => whnf
        refine hKz _ _ _ _ ?_
        rw [nI_1']
        exact ih
  refine go_BA_resultOf (fun Kz hKz => ?_)
  conv => whnf
  refine hKz _ _ _ _ ?_
  exact lp 0 (Nat.zero_le _)
end
