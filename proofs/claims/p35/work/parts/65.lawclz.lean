/-! the law: classes of points that are alike; the map of the classes -/
theorem twn {A : ZP} {x y i : Nat} {b d : Bool} (hb : b = true ↔ ∀ z, z < i → A.2.1 x z = A.2.1 y z ∧ A.2.2 z x = A.2.2 z y) (hd : d = true ↔ (b = true ∧ (A.2.1 x i = A.2.1 y i ∧ A.2.2 i x = A.2.2 i y))) : d = true ↔ ∀ z, z < i + 1 → A.2.1 x z = A.2.1 y z ∧ A.2.2 z x = A.2.2 z y := by
  rw [hd, hb]
  constructor
  · rintro ⟨q1, q2⟩ z hz
    rcases Nat.lt_succ_iff_lt_or_eq.mp hz with w | w
    · exact q1 z w
    · rw [w]; exact q2
  · intro q
    exact ⟨fun z hz => q z (by omega), q i (by omega)⟩
theorem tw0 {A : ZP} {x y : Nat} : true = true ↔ ∀ z, z < 0 → A.2.1 x z = A.2.1 y z ∧ A.2.2 z x = A.2.2 z y := ⟨fun _ z hz => absurd hz (Nat.not_lt_zero _), fun _ => rfl⟩
theorem tw_end {A : ZP} {x y : Nat} {b : Bool} (hb : b = true ↔ ∀ z, z < A.1 → A.2.1 x z = A.2.1 y z ∧ A.2.2 z x = A.2.2 z y) : b = true ↔ twin A x y := hb
theorem rep_is {A : ZP} {c f : Nat} (h1 : twin A c f) (h2 : ∀ d, d ≤ c → twin A c d → f ≤ d) : f = rep A c := Nat.le_antisymm (h2 _ (rep_le A c) (rep_twin A c)) (rep_min h1)
section
variable {G : ZG} {M : ZM} {Z : Option ZV → ZM → Prop} {S : ZS}
theorem h_clazz {m x : Nat} {A : ZP} (hm : m < 5) (hM : hok M) (hA : isH M m A) (hx : x < A.1) (hZ : Z (some (zi (nI (clz A x)))) M) : Ctr 0 G mi_LW_clazz [zr 20 0, zi (nI m), zi (nI x)] M Z := by
  have hn := hA.1.1
  have hr := rep_le A x
  have n1 : ∀ a, a < 2 ^ 31 → ¬ nI a = -1 := by
    intro a ha
    rw [n_ones, n_eq (by omega) (by decide)]
    omega
  have ex : ∀ nu c, c < A.1 → V 0 G mi_LW_clazz Z 15 [(0, zr 20 0), (1, zi (nI m)), (2, zi (nI x)), (3, zi (nI A.1)), (4, zi nu), (5, zi (nI (clz A x))), (6, zi (nI (c + 1)))] [] M := by
    intro nu c hc
    have hk := clz_lt hx
    have hk2 := ksz_le A
    refine z_run (cuts := cu_LW_clazz) ok_LW_clazz (fun Kz hKz => ?_)
    conv => whnf
    rw [nI_ltI (by omega) (by omega)]
    refine ⟨fun q => ?_, fun q => ?_⟩
    · conv => whnf
      exact hZ
    · conv => whnf
      refine ⟨fun _ => ?_, fun z => absurd (n1 _ (by omega)) z⟩
      conv => whnf
      exact hZ
  have lp : ∀ c, c ≤ rep A x → V 0 G mi_LW_clazz Z 15 [(0, zr 20 0), (1, zi (nI m)), (2, zi (nI x)), (3, zi (nI A.1)), (4, zi (nI (cnt (isRep A) c))), (5, zi (-1)), (6, zi (nI c))] [] M := by
    have body : ∀ c, c ≤ rep A x → (c < rep A x → V 0 G mi_LW_clazz Z 15 [(0, zr 20 0), (1, zi (nI m)), (2, zi (nI x)), (3, zi (nI A.1)), (4, zi (nI (cnt (isRep A) (c + 1)))), (5, zi (-1)), (6, zi (nI (c + 1)))] [] M) → V 0 G mi_LW_clazz Z 15 [(0, zr 20 0), (1, zi (nI m)), (2, zi (nI x)), (3, zi (nI A.1)), (4, zi (nI (cnt (isRep A) c))), (5, zi (-1)), (6, zi (nI c))] [] M := by
      intro c hc ih
      have hcn := cnt_le (isRep A) c
      have hrc := rep_le A c
      have nxn : nI (cnt (isRep A) c) + (if rep A c = c then nI 1 else nI 0) = nI (cnt (isRep A) (c + 1)) := by
        rw [cnt]
        by_cases q : rep A c = c
        · rw [if_pos q, show isRep A c = true from decide_eq_true q, nI_add]; rfl
        · rw [if_neg q, show isRep A c = false from decide_eq_false q, nI_add]; rfl
      have zl138 : ∀ i, i ≤ A.1 → ∀ b : Bool, (b = true ↔ ∀ z, z < i → A.2.1 c z = A.2.1 x z ∧ A.2.2 z c = A.2.2 z x) → V 0 G mi_LW_clazz Z 138 [(0, zr 20 0), (1, zi (nI m)), (2, zi (nI x)), (3, zi (nI A.1)), (4, zi (nI (cnt (isRep A) c))), (5, zi (-1)), (6, zi (nI c)), (7, zi (nI (rep A c))), (8, zi (b2i b)), (9, zi (nI i))] [] M := by
        refine up_to ?_ ?_
        · intro b hb
          have hb := tw_end hb
          refine z_run (cuts := cu_LW_clazz) ok_LW_clazz (fun Kz hKz => ?_)
          conv => whnf
          rw [nI_leI (by omega) (by omega)]
          refine ⟨fun _ => ?_, fun q => absurd (by omega) q⟩
          conv => whnf
          by_cases q : twin A c x
          · have e : c = rep A x := by
              have := rep_min (twin_symm q)
              omega
            rw [hb.mpr q]
            have ecl : nI (cnt (isRep A) c) = nI (clz A x) := by show nI (cnt (isRep A) c) = nI (cnt (isRep A) (rep A x)); rw [← e]
            first | refine ⟨fun _ => ?_, fun q => absurd (by decide) q⟩ | refine ⟨fun q => absurd q (by decide), fun _ => ?_⟩
            conv => whnf
            rw [n_ne (by omega) (by omega)]
            refine ⟨fun z => ?_, fun z => ?_⟩
            · conv => whnf
              refine hKz _ _ _ _ ?_
              rw [ecl, nI_1']
              exact ex _ c (by omega)
            · conv => whnf
              refine hKz _ _ _ _ ?_
              rw [ecl, nI_1', nI_1']
              exact ex _ c (by omega)
          · rw [show b = false from by rw [← Bool.not_eq_true, hb]; exact q]
            have e : c < rep A x := by
              rcases Nat.lt_or_eq_of_le hc with z | z
              · exact z
              · exact absurd (by rw [z]; exact twin_symm (rep_twin A x)) q
            first | refine ⟨fun _ => ?_, fun q => absurd (by decide) q⟩ | refine ⟨fun q => absurd q (by decide), fun _ => ?_⟩
            conv => whnf
            rw [n_ne (by omega) (by omega)]
            refine ⟨fun z => ?_, fun z => ?_⟩
            · rw [if_neg z] at nxn
              conv => whnf
              refine hKz _ _ _ _ ?_
              rw [nxn, nI_1']
              exact ih e
            · rw [if_pos (Classical.not_not.mp z)] at nxn
              conv => whnf
              refine hKz _ _ _ _ ?_
              rw [nxn, nI_1']
              exact ih e
        · intro i hi ih b hb
          have h1 := hA.1.2 c i (by omega) hi
          have h2 := hA.1.2 x i (by omega) hi
          have h3 := hA.1.2 i c hi (by omega)
          have h4 := hA.1.2 i x hi (by omega)
          refine z_run (cuts := cu_LW_clazz) ok_LW_clazz (fun Kz hKz => ?_)
          conv => whnf
          rw [nI_leI (by omega) (by omega)]
          refine ⟨fun q => absurd q (by omega), fun _ => ?_⟩
          conv => whnf
          cases hb2 : b with
          | false =>
            first | refine ⟨fun _ => ?_, fun q => absurd (by decide) q⟩ | refine ⟨fun q => absurd q (by decide), fun _ => ?_⟩
            conv => whnf
            refine hKz _ _ _ _ ?_
            rw [nI_1']
            exact ih false (twn hb (by rw [hb2]; simp))
          | true =>
            first | refine ⟨fun _ => ?_, fun q => absurd (by decide) q⟩ | refine ⟨fun q => absurd q (by decide), fun _ => ?_⟩
            conv => whnf
            refine h_l hm hM hA (by omega) hi ?_
            conv => whnf
            refine h_l hm hM hA (by omega) hi ?_
            conv => whnf
            rw [n_ne (by omega) (by omega)]
            refine ⟨fun q => ?_, fun q => ?_⟩
            · conv => whnf
              refine hKz _ _ _ _ ?_
              rw [nI_1']
              exact ih false (twn hb ⟨fun z => (by cases z), fun z => absurd z.2.1 q⟩)
            · conv => whnf
              refine h_r hm hM hA hi (by omega) ?_
              conv => whnf
              refine h_r hm hM hA hi (by omega) ?_
              conv => whnf
              rw [n_ne (by omega) (by omega)]
              refine ⟨fun q2 => ?_, fun q2 => ?_⟩
              · conv => whnf
                refine hKz _ _ _ _ ?_
                rw [nI_1']
                exact ih false (twn hb ⟨fun z => (by cases z), fun z => absurd z.2.2 q2⟩)
              · conv => whnf
                refine hKz _ _ _ _ ?_
                rw [nI_1']
                exact ih true (twn hb ⟨fun _ => ⟨hb2, Classical.not_not.mp q, Classical.not_not.mp q2⟩, fun _ => rfl⟩)
      have fin : V 0 G mi_LW_clazz Z 35 [(0, zr 20 0), (1, zi (nI m)), (2, zi (nI x)), (3, zi (nI A.1)), (4, zi (nI (cnt (isRep A) c))), (5, zi (-1)), (6, zi (nI c)), (7, zi (nI (rep A c))), (8, zi (-1))] [] M := by
        refine z_run (cuts := cu_LW_clazz) ok_LW_clazz (fun Kz hKz => ?_)
        conv => whnf
        refine ⟨fun _ => ?_, fun z => absurd (by decide) z⟩
        conv => whnf
        refine hKz _ _ _ _ ?_
        exact zl138 0 (Nat.zero_le _) true tw0
      have dl : ∀ d, d ≤ c → ∀ f, f ≤ c → twin A c f → (∀ e, d < e → e ≤ c → twin A c e → f ≤ e) → V 0 G mi_LW_clazz Z 35 [(0, zr 20 0), (1, zi (nI m)), (2, zi (nI x)), (3, zi (nI A.1)), (4, zi (nI (cnt (isRep A) c))), (5, zi (-1)), (6, zi (nI c)), (7, zi (nI f)), (8, zi (nI d))] [] M := by
        intro d
        induction d with
        | zero =>
          intro _ f hf ht hmin
          have nx : ∀ g, g ≤ c → twin A c g → (∀ e, e ≤ c → twin A c e → g ≤ e) → V 0 G mi_LW_clazz Z 35 [(0, zr 20 0), (1, zi (nI m)), (2, zi (nI x)), (3, zi (nI A.1)), (4, zi (nI (cnt (isRep A) c))), (5, zi (-1)), (6, zi (nI c)), (7, zi (nI g)), (8, zi (-1))] [] M := by
            intro g hg hg2 hg3
            rw [rep_is hg2 hg3]
            exact fin
          have zl46 : ∀ i, i ≤ A.1 → ∀ b : Bool, (b = true ↔ ∀ z, z < i → A.2.1 c z = A.2.1 0 z ∧ A.2.2 z c = A.2.2 z 0) → V 0 G mi_LW_clazz Z 46 [(0, zr 20 0), (1, zi (nI m)), (2, zi (nI x)), (3, zi (nI A.1)), (4, zi (nI (cnt (isRep A) c))), (5, zi (-1)), (6, zi (nI c)), (7, zi (nI f)), (8, zi (nI 0)), (9, zi (b2i b)), (10, zi (nI i))] [] M := by
            refine up_to ?_ ?_
            · intro b hb
              have hb := tw_end hb
              refine z_run (cuts := cu_LW_clazz) ok_LW_clazz (fun Kz hKz => ?_)
              conv => whnf
              rw [nI_leI (by omega) (by omega)]
              refine ⟨fun _ => ?_, fun q => absurd (by omega) q⟩
              conv => whnf
              by_cases q : twin A c (0)
              · rw [hb.mpr q]
                first | refine ⟨fun _ => ?_, fun q => absurd (by decide) q⟩ | refine ⟨fun q => absurd q (by decide), fun _ => ?_⟩
                conv => whnf
                refine hKz _ _ _ _ ?_
                rw [show nI 0 + -1 = (-1 : Int32) from by decide]
                refine nx 0 (Nat.zero_le _) q (fun e _ _ => Nat.zero_le _)
              · rw [show b = false from by rw [← Bool.not_eq_true, hb]; exact q]
                first | refine ⟨fun _ => ?_, fun q => absurd (by decide) q⟩ | refine ⟨fun q => absurd q (by decide), fun _ => ?_⟩
                conv => whnf
                refine hKz _ _ _ _ ?_
                rw [show nI 0 + -1 = (-1 : Int32) from by decide]
                refine nx f hf ht (fun e he h => ?_)
                rcases Nat.eq_zero_or_pos e with z | z
                · rw [z] at h; exact absurd h q
                · exact hmin e z he h
            · intro i hi ih b hb
              have h1 := hA.1.2 c i (by omega) hi
              have h2 := hA.1.2 0 i (by omega) hi
              have h3 := hA.1.2 i c hi (by omega)
              have h4 := hA.1.2 i 0 hi (by omega)
              refine z_run (cuts := cu_LW_clazz) ok_LW_clazz (fun Kz hKz => ?_)
              conv => whnf
              rw [nI_leI (by omega) (by omega)]
              refine ⟨fun q => absurd q (by omega), fun _ => ?_⟩
              conv => whnf
              cases hb2 : b with
              | false =>
                first | refine ⟨fun _ => ?_, fun q => absurd (by decide) q⟩ | refine ⟨fun q => absurd q (by decide), fun _ => ?_⟩
                conv => whnf
                refine hKz _ _ _ _ ?_
                rw [nI_1']
                exact ih false (twn hb (by rw [hb2]; simp))
              | true =>
                first | refine ⟨fun _ => ?_, fun q => absurd (by decide) q⟩ | refine ⟨fun q => absurd q (by decide), fun _ => ?_⟩
                conv => whnf
                refine h_l hm hM hA (by omega) hi ?_
                conv => whnf
                refine h_l hm hM hA (by omega) hi ?_
                conv => whnf
                rw [n_ne (by omega) (by omega)]
                refine ⟨fun q => ?_, fun q => ?_⟩
                · conv => whnf
                  refine hKz _ _ _ _ ?_
                  rw [nI_1']
                  exact ih false (twn hb ⟨fun z => (by cases z), fun z => absurd z.2.1 q⟩)
                · conv => whnf
                  refine h_r hm hM hA hi (by omega) ?_
                  conv => whnf
                  refine h_r hm hM hA hi (by omega) ?_
                  conv => whnf
                  rw [n_ne (by omega) (by omega)]
                  refine ⟨fun q2 => ?_, fun q2 => ?_⟩
                  · conv => whnf
                    refine hKz _ _ _ _ ?_
                    rw [nI_1']
                    exact ih false (twn hb ⟨fun z => (by cases z), fun z => absurd z.2.2 q2⟩)
                  · conv => whnf
                    refine hKz _ _ _ _ ?_
                    rw [nI_1']
                    exact ih true (twn hb ⟨fun _ => ⟨hb2, Classical.not_not.mp q, Classical.not_not.mp q2⟩, fun _ => rfl⟩)
          refine z_run (cuts := cu_LW_clazz) ok_LW_clazz (fun Kz hKz => ?_)
          conv => whnf
          rw [nI_ltI (by omega) (by decide)]
          refine ⟨fun q => absurd q (by omega), fun _ => ?_⟩
          conv => whnf
          refine hKz _ _ _ _ ?_
          exact zl46 0 (Nat.zero_le _) true tw0
        | succ d ihd =>
          intro hd f hf ht hmin
          have zl46 : ∀ i, i ≤ A.1 → ∀ b : Bool, (b = true ↔ ∀ z, z < i → A.2.1 c z = A.2.1 (d + 1) z ∧ A.2.2 z c = A.2.2 z (d + 1)) → V 0 G mi_LW_clazz Z 46 [(0, zr 20 0), (1, zi (nI m)), (2, zi (nI x)), (3, zi (nI A.1)), (4, zi (nI (cnt (isRep A) c))), (5, zi (-1)), (6, zi (nI c)), (7, zi (nI f)), (8, zi (nI (d + 1))), (9, zi (b2i b)), (10, zi (nI i))] [] M := by
            refine up_to ?_ ?_
            · intro b hb
              have hb := tw_end hb
              refine z_run (cuts := cu_LW_clazz) ok_LW_clazz (fun Kz hKz => ?_)
              conv => whnf
              rw [nI_leI (by omega) (by omega)]
              refine ⟨fun _ => ?_, fun q => absurd (by omega) q⟩
              conv => whnf
              by_cases q : twin A c ((d + 1))
              · rw [hb.mpr q]
                first | refine ⟨fun _ => ?_, fun q => absurd (by decide) q⟩ | refine ⟨fun q => absurd q (by decide), fun _ => ?_⟩
                conv => whnf
                refine hKz _ _ _ _ ?_
                rw [pk_m1]
                exact ihd (by omega) (d + 1) hd q (fun e he h hh => by omega)
              · rw [show b = false from by rw [← Bool.not_eq_true, hb]; exact q]
                first | refine ⟨fun _ => ?_, fun q => absurd (by decide) q⟩ | refine ⟨fun q => absurd q (by decide), fun _ => ?_⟩
                conv => whnf
                refine hKz _ _ _ _ ?_
                rw [pk_m1]
                refine ihd (by omega) f hf ht (fun e he h hh => ?_)
                rcases Nat.lt_or_eq_of_le (show d + 1 ≤ e by omega) with z | z
                · exact hmin e z h hh
                · rw [← z] at hh; exact absurd hh q
            · intro i hi ih b hb
              have h1 := hA.1.2 c i (by omega) hi
              have h2 := hA.1.2 (d + 1) i (by omega) hi
              have h3 := hA.1.2 i c hi (by omega)
              have h4 := hA.1.2 i (d + 1) hi (by omega)
              refine z_run (cuts := cu_LW_clazz) ok_LW_clazz (fun Kz hKz => ?_)
              conv => whnf
              rw [nI_leI (by omega) (by omega)]
              refine ⟨fun q => absurd q (by omega), fun _ => ?_⟩
              conv => whnf
              cases hb2 : b with
              | false =>
                first | refine ⟨fun _ => ?_, fun q => absurd (by decide) q⟩ | refine ⟨fun q => absurd q (by decide), fun _ => ?_⟩
                conv => whnf
                refine hKz _ _ _ _ ?_
                rw [nI_1']
                exact ih false (twn hb (by rw [hb2]; simp))
              | true =>
                first | refine ⟨fun _ => ?_, fun q => absurd (by decide) q⟩ | refine ⟨fun q => absurd q (by decide), fun _ => ?_⟩
                conv => whnf
                refine h_l hm hM hA (by omega) hi ?_
                conv => whnf
                refine h_l hm hM hA (by omega) hi ?_
                conv => whnf
                rw [n_ne (by omega) (by omega)]
                refine ⟨fun q => ?_, fun q => ?_⟩
                · conv => whnf
                  refine hKz _ _ _ _ ?_
                  rw [nI_1']
                  exact ih false (twn hb ⟨fun z => (by cases z), fun z => absurd z.2.1 q⟩)
                · conv => whnf
                  refine h_r hm hM hA hi (by omega) ?_
                  conv => whnf
                  refine h_r hm hM hA hi (by omega) ?_
                  conv => whnf
                  rw [n_ne (by omega) (by omega)]
                  refine ⟨fun q2 => ?_, fun q2 => ?_⟩
                  · conv => whnf
                    refine hKz _ _ _ _ ?_
                    rw [nI_1']
                    exact ih false (twn hb ⟨fun z => (by cases z), fun z => absurd z.2.2 q2⟩)
                  · conv => whnf
                    refine hKz _ _ _ _ ?_
                    rw [nI_1']
                    exact ih true (twn hb ⟨fun _ => ⟨hb2, Classical.not_not.mp q, Classical.not_not.mp q2⟩, fun _ => rfl⟩)
          refine z_run (cuts := cu_LW_clazz) ok_LW_clazz (fun Kz hKz => ?_)
          conv => whnf
          rw [nI_ltI (by omega) (by decide)]
          refine ⟨fun q => absurd q (by omega), fun _ => ?_⟩
          conv => whnf
          refine hKz _ _ _ _ ?_
          exact zl46 0 (Nat.zero_le _) true tw0
      refine z_run (cuts := cu_LW_clazz) ok_LW_clazz (fun Kz hKz => ?_)
      conv => whnf
      rw [nI_ltI (by omega) (by omega)]
      refine ⟨fun q => absurd q (by omega), fun _ => ?_⟩
      conv => whnf
      refine ⟨fun z => absurd rfl z, fun _ => ?_⟩
      conv => whnf
      refine hKz _ _ _ _ ?_
      exact dl c (Nat.le_refl _) c (Nat.le_refl _) (twin_refl A c) (fun e h1 h2 _ => by omega)
    refine up_to ?_ ?_
    · exact body _ (Nat.le_refl _) (fun q => absurd q (Nat.lt_irrefl _))
    · intro c hc ih
      exact body c (by omega) (fun _ => ih)
  refine go_LW_clazz (fun Kz hKz => ?_)
  conv => whnf
  refine h_points hm hA ?_
  conv => whnf
  refine hKz _ _ _ _ ?_
  exact lp 0 (Nat.zero_le _)
end
