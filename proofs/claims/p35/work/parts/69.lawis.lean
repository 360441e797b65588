/-! the law: whether pairs come back, rows are plain, squares stay -/
def icP (A : ZP) (w x y : Nat) : Prop := (0 < w ∨ (A.2.1 (A.2.1 x y) (A.2.2 x y) = x ∧ A.2.2 (A.2.1 x y) (A.2.2 x y) = y)) ∧ (w < 3 ∨ x ≠ y ∨ (A.2.1 x y = x ∧ A.2.2 x y = x))
def sfn (A : ZP) (w x y : Nat) : Nat := if w = 1 then A.2.1 x y else A.2.2 y x
def ocP (A : ZP) (w x : Nat) : Prop := w = 0 ∨ w = 3 ∨ orf (sfn A w x) A.1 = 2 ^ A.1 - 1
def prp (A : ZP) (w : Nat) : Prop := (w = 0 → pinvo A) ∧ (w = 1 → plnd A) ∧ (w = 2 → prnd A) ∧ (w = 3 → psq A)
theorem prp_iff {A : ZP} {w : Nat} (hw : w < 4) : (∀ x, x < A.1 → (∀ y, y < A.1 → icP A w x y) ∧ ocP A w x) ↔ prp A w := by
  have s1 : ∀ x, sfn A 1 x = fun y => A.2.1 x y := fun x => by funext y; unfold sfn; rw [if_pos rfl]
  have s2 : ∀ x, sfn A 2 x = fun y => A.2.2 y x := fun x => by funext y; unfold sfn; rw [if_neg (by decide)]
  constructor
  · intro h
    refine ⟨fun e => ?_, fun e => ?_, fun e => ?_, fun e => ?_⟩
    · subst e
      intro x y hx hy
      rcases ((h x hx).1 y hy).1 with z | z
      · omega
      · exact z
    · subst e
      intro x hx
      rcases (h x hx).2 with z | z | z
      · omega
      · omega
      · rw [s1] at z; exact z
    · subst e
      intro x hx
      rcases (h x hx).2 with z | z | z
      · omega
      · omega
      · rw [s2] at z; exact z
    · subst e
      intro x hx
      rcases ((h x hx).1 x hx).2 with z | z | z
      · omega
      · exact absurd rfl z
      · exact z
  · rintro ⟨p0, p1, p2, p3⟩ x hx
    obtain rfl | rfl | rfl | rfl : w = 0 ∨ w = 1 ∨ w = 2 ∨ w = 3 := by omega
    · exact ⟨fun y hy => ⟨Or.inr (p0 rfl x y hx hy), Or.inl (by decide)⟩, Or.inl rfl⟩
    · exact ⟨fun y hy => ⟨Or.inl (by decide), Or.inl (by decide)⟩, Or.inr (Or.inr (by rw [s1]; exact p1 rfl x hx))⟩
    · exact ⟨fun y hy => ⟨Or.inl (by decide), Or.inl (by decide)⟩, Or.inr (Or.inr (by rw [s2]; exact p2 rfl x hx))⟩
    · refine ⟨fun y hy => ⟨Or.inl (by decide), ?_⟩, Or.inr (Or.inl rfl)⟩
      by_cases e : x = y
      · exact Or.inr (Or.inr (by rw [← e]; exact p3 rfl x hx))
      · exact Or.inr (Or.inl e)
section
variable {G : ZG} {M : ZM} {Z : Option ZV → ZM → Prop} {S : ZS}
theorem h_is {m w : Nat} {A : ZP} (hm : m < 5) (hM : hok M) (hA : isH M m A) (hw : w < 4) (h1 : prp A w → Z (some (zi (nI 1))) M) (h0 : ¬ prp A w → Z (some (zi (nI 0))) M) : Ctr 0 G mi_LW_is [zr 20 0, zi (nI m), zi (nI w)] M Z := by
  have hn := hA.1.1
  have p6 : 2 ^ A.1 ≤ 2 ^ 6 := Nat.pow_le_pow_right (by decide) hn
  have p0 := Nat.two_pow_pos A.1
  have outer : ∀ x, x ≤ A.1 → ∀ b : Bool, (b = true ↔ ∀ x', x' < x → (∀ y, y < A.1 → icP A w x' y) ∧ ocP A w x') → V 0 G mi_LW_is Z 12 [(0, zr 20 0), (1, zi (nI m)), (2, zi (nI w)), (3, zi (nI A.1)), (4, zi (b2i b)), (5, zi (nI x))] [] M := by
    refine up_to ?_ ?_
    · intro b hb
      rw [prp_iff hw] at hb
      refine z_run (cuts := cu_LW_is) ok_LW_is (fun Kz hKz => ?_)
      conv => whnf
      rw [nI_leI (by omega) (by omega)]
      refine ⟨fun _ => ?_, fun q => absurd (by omega) q⟩
      conv => whnf
      cases b with
      | true => exact ⟨Or.inr rfl, h1 (hb.mp rfl)⟩
      | false => exact ⟨Or.inl rfl, h0 (fun z => by have := hb.mpr z; cases this)⟩
    · intro x hx ih b0 hb0
      have slt : ∀ y, y < A.1 → sfn A w x y < A.1 := fun y hy => by
        unfold sfn
        split
        · exact (hA.1.2 x y hx hy).1
        · exact (hA.1.2 y x hy hx).2
      have olt : orf (sfn A w x) A.1 < 2 ^ A.1 := orf_lt A.1 (fun i hi => slt i hi)
      have inner : ∀ y, y ≤ A.1 → ∀ b : Bool, (b = true ↔ (b0 = true ∧ ∀ y', y' < y → icP A w x y')) → V 0 G mi_LW_is Z 24 [(0, zr 20 0), (1, zi (nI m)), (2, zi (nI w)), (3, zi (nI A.1)), (4, zi (b2i b)), (5, zi (nI x)), (6, zi (nI (orf (sfn A w x) y))), (7, zi (nI y))] [] M := by
        refine up_to ?_ ?_
        · intro b hb
          have fin : ∀ d : Bool, (d = true ↔ (b = true ∧ ocP A w x)) → V 0 G mi_LW_is Z 12 [(0, zr 20 0), (1, zi (nI m)), (2, zi (nI w)), (3, zi (nI A.1)), (4, zi (b2i d)), (5, zi (nI (x + 1)))] [] M := by
            intro d hd
            refine ih d ?_
            rw [hd, hb, hb0]
            constructor
            · rintro ⟨⟨g1, g2⟩, g3⟩ x' hx'
              rcases Nat.lt_succ_iff_lt_or_eq.mp hx' with z | rfl
              · exact g1 x' z
              · exact ⟨g2, g3⟩
            · intro g
              exact ⟨⟨fun x' hx' => g x' (by omega), (g x (by omega)).1⟩, (g x (by omega)).2⟩
          refine z_run (cuts := cu_LW_is) ok_LW_is (fun Kz hKz => ?_)
          conv => whnf
          rw [nI_leI (by omega) (by omega)]
          refine ⟨fun _ => ?_, fun q => absurd (by omega) q⟩
          conv => whnf
          cases hb2 : b with
          | false =>
            first | refine ⟨fun _ => ?_, fun q => absurd (by decide) q⟩ | refine ⟨fun q => absurd q (by decide), fun _ => ?_⟩
            conv => whnf
            refine hKz _ _ _ _ ?_
            rw [nI_1']
            exact fin false (by rw [hb2]; simp)
          | true =>
            first | refine ⟨fun _ => ?_, fun q => absurd (by decide) q⟩ | refine ⟨fun q => absurd q (by decide), fun _ => ?_⟩
            conv => whnf
            rw [nI_eq (by omega) (by decide)]
            refine ⟨fun q => ?_, fun q => ?_⟩
            · conv => whnf
              refine hKz _ _ _ _ ?_
              rw [nI_1']
              exact fin true (by rw [hb2]; simp [ocP, q])
            · conv => whnf
              rw [nI_eq (by omega) (by decide)]
              refine ⟨fun q3 => ?_, fun q3 => ?_⟩
              · conv => whnf
                refine hKz _ _ _ _ ?_
                rw [nI_1']
                exact fin true (by rw [hb2]; simp [ocP, q3])
              · conv => whnf
                rw [n_shl _ _ (by omega), Nat.one_mul, pk_sub (by omega), n_ne (by omega) (by omega)]
                refine ⟨fun q4 => ?_, fun q4 => ?_⟩
                · conv => whnf
                  refine hKz _ _ _ _ ?_
                  rw [nI_1']
                  refine fin false ⟨fun z => (by cases z), fun z => ?_⟩
                  rcases z.2 with z | z | z
                  · exact absurd z q
                  · exact absurd z q3
                  · exact absurd z q4
                · conv => whnf
                  refine hKz _ _ _ _ ?_
                  rw [nI_1']
                  exact fin true ⟨fun _ => ⟨hb2, Or.inr (Or.inr (Classical.not_not.mp q4))⟩, fun _ => rfl⟩
        · intro y hy ih2 b hb
          have hLR := hA.1.2 x y hx hy
          have hLR2 := hA.1.2 y x hy hx
          have hLL := hA.1.2 _ _ hLR.1 hLR.2
          have oy : orf (sfn A w x) y < 2 ^ A.1 := orf_lt y (fun i hi => slt i (by omega))
          have sy := slt y hy
          have fin : ∀ d : Bool, (d = true ↔ (b = true ∧ icP A w x y)) → V 0 G mi_LW_is Z 24 [(0, zr 20 0), (1, zi (nI m)), (2, zi (nI w)), (3, zi (nI A.1)), (4, zi (b2i d)), (5, zi (nI x)), (6, zi (nI (orf (sfn A w x) (y + 1)))), (7, zi (nI (y + 1)))] [] M := by
            intro d hd
            refine ih2 d ?_
            rw [hd, hb]
            constructor
            · rintro ⟨⟨g1, g2⟩, g3⟩
              refine ⟨g1, fun y' hy' => ?_⟩
              rcases Nat.lt_succ_iff_lt_or_eq.mp hy' with z | rfl
              · exact g2 y' z
              · exact g3
            · rintro ⟨g1, g2⟩
              exact ⟨⟨g1, fun y' hy' => g2 y' (by omega)⟩, g2 y (by omega)⟩
          generalize hT : orf (sfn A w x) (y + 1) = T at *
          have t2 : b = true → (0 < w ∨ (A.2.1 (A.2.1 x y) (A.2.2 x y) = x ∧ A.2.2 (A.2.1 x y) (A.2.2 x y) = y)) → V 0 G mi_LW_is Z 115 [(0, zr 20 0), (1, zi (nI m)), (2, zi (nI w)), (3, zi (nI A.1)), (5, zi (nI x)), (6, zi (nI T)), (7, zi (nI y)), (8, zi (nI (A.2.1 x y))), (9, zi (nI (A.2.2 x y)))] [] M := by
            intro hb2 hc
            refine z_run (cuts := cu_LW_is) ok_LW_is (fun Kz hKz => ?_)
            conv => whnf
            rw [nI_ltI (by omega) (by decide)]
            refine ⟨fun q => ?_, fun q => ?_⟩
            · conv => whnf
              refine hKz _ _ _ _ ?_
              rw [nI_1']
              exact fin true ⟨fun _ => ⟨hb2, hc, Or.inl q⟩, fun _ => rfl⟩
            · conv => whnf
              rw [n_ne (by omega) (by omega)]
              refine ⟨fun q2 => ?_, fun q2 => ?_⟩
              · conv => whnf
                refine hKz _ _ _ _ ?_
                rw [nI_1']
                exact fin true ⟨fun _ => ⟨hb2, hc, Or.inr (Or.inl q2)⟩, fun _ => rfl⟩
              · conv => whnf
                rw [n_ne (by omega) (by omega)]
                refine ⟨fun q3 => ?_, fun q3 => ?_⟩
                · conv => whnf
                  refine hKz _ _ _ _ ?_
                  rw [nI_1']
                  refine fin false ⟨fun z => (by cases z), fun z => ?_⟩
                  rcases z.2.2 with z | z | z
                  · exact absurd z q
                  · exact absurd z q2
                  · exact absurd z.1 q3
                · conv => whnf
                  rw [n_ne (by omega) (by omega)]
                  refine ⟨fun q4 => ?_, fun q4 => ?_⟩
                  · conv => whnf
                    refine hKz _ _ _ _ ?_
                    rw [nI_1']
                    refine fin false ⟨fun z => (by cases z), fun z => ?_⟩
                    rcases z.2.2 with z | z | z
                    · exact absurd z q
                    · exact absurd z q2
                    · exact absurd z.2 q4
                  · conv => whnf
                    refine hKz _ _ _ _ ?_
                    rw [nI_1']
                    exact fin true ⟨fun _ => ⟨hb2, hc, Or.inr (Or.inr ⟨Classical.not_not.mp q3, Classical.not_not.mp q4⟩)⟩, fun _ => rfl⟩
          have t1 : V 0 G mi_LW_is Z 78 [(0, zr 20 0), (1, zi (nI m)), (2, zi (nI w)), (3, zi (nI A.1)), (4, zi (b2i b)), (5, zi (nI x)), (6, zi (nI T)), (7, zi (nI y)), (8, zi (nI (A.2.1 x y))), (9, zi (nI (A.2.2 x y)))] [] M := by
            refine z_run (cuts := [(24, [0, 1, 2, 3, 4, 5, 6, 7]), (115, [0, 1, 2, 3, 5, 6, 7, 8, 9])]) ok_LW_is (fun Kz hKz => ?_)
            conv => whnf
            cases hb2 : b with
            | false =>
              first | refine ⟨fun _ => ?_, fun q => absurd (by decide) q⟩ | refine ⟨fun q => absurd q (by decide), fun _ => ?_⟩
              conv => whnf
              refine hKz _ _ _ _ ?_
              rw [nI_1']
              exact fin false (by rw [hb2]; simp)
            | true =>
              first | refine ⟨fun _ => ?_, fun q => absurd (by decide) q⟩ | refine ⟨fun q => absurd q (by decide), fun _ => ?_⟩
              conv => whnf
              rw [nI_ltI (by decide) (by omega)]
              refine ⟨fun q => ?_, fun q => ?_⟩
              · conv => whnf
                refine hKz _ _ _ _ ?_
                exact t2 hb2 (Or.inl q)
              · conv => whnf
                refine h_l hm hM hA hLR.1 hLR.2 ?_
                conv => whnf
                rw [n_ne (by omega) (by omega)]
                refine ⟨fun q2 => ?_, fun q2 => ?_⟩
                · conv => whnf
                  refine hKz _ _ _ _ ?_
                  rw [nI_1']
                  refine fin false ⟨fun z => (by cases z), fun z => ?_⟩
                  rcases z.2.1 with z | z
                  · exact absurd z q
                  · exact absurd z.1 q2
                · conv => whnf
                  refine h_r hm hM hA hLR.1 hLR.2 ?_
                  conv => whnf
                  rw [n_ne (by omega) (by omega)]
                  refine ⟨fun q3 => ?_, fun q3 => ?_⟩
                  · conv => whnf
                    refine hKz _ _ _ _ ?_
                    rw [nI_1']
                    refine fin false ⟨fun z => (by cases z), fun z => ?_⟩
                    rcases z.2.1 with z | z
                    · exact absurd z q
                    · exact absurd z.2 q3
                  · conv => whnf
                    refine hKz _ _ _ _ ?_
                    exact t2 hb2 (Or.inr ⟨Classical.not_not.mp q2, Classical.not_not.mp q3⟩)
          refine z_run (cuts := [(78, [0, 1, 2, 3, 4, 5, 6, 7, 8, 9])]) ok_LW_is (fun Kz hKz => ?_)
          conv => whnf
          rw [nI_leI (by omega) (by omega)]
          refine ⟨fun q => absurd q (by omega), fun _ => ?_⟩
          conv => whnf
          refine h_l hm hM hA hx hy ?_
          conv => whnf
          refine h_r hm hM hA hx hy ?_
          conv => whnf
          rw [n_ne (by omega) (by decide)]
          have eT : orf (sfn A w x) y ||| 2 ^ sfn A w x y = T := hT
          refine ⟨fun q => ?_, fun q => ?_⟩
          · have es : sfn A w x y = A.2.2 y x := by unfold sfn; rw [if_neg q]
            rw [es] at eT
            conv => whnf
            refine h_r hm hM hA hy hx ?_
            conv => whnf
            refine hKz _ _ _ _ ?_
            rw [n_shl _ _ (by omega), Nat.one_mul, n_or, eT]
            exact t1
          · have es : sfn A w x y = A.2.1 x y := by unfold sfn; rw [if_pos (Classical.not_not.mp q)]
            rw [es] at eT
            conv => whnf
            refine hKz _ _ _ _ ?_
            rw [n_shl _ _ (by omega), Nat.one_mul, n_or, eT]
            exact t1
      refine z_run (cuts := cu_LW_is) ok_LW_is (fun Kz hKz => ?_)
      conv => whnf
      rw [nI_leI (by omega) (by omega)]
      refine ⟨fun q => absurd q (by omega), fun _ => ?_⟩
      conv => whnf
      refine hKz _ _ _ _ ?_
      exact inner 0 (Nat.zero_le _) b0 ⟨fun z => ⟨z, fun y' hy' => absurd hy' (Nat.not_lt_zero _)⟩, fun z => z.1⟩
  refine go_LW_is (fun Kz hKz => ?_)
  conv => whnf
  refine h_points hm hA ?_
  conv => whnf
  refine hKz _ _ _ _ ?_
  exact outer 0 (Nat.zero_le _) true ⟨fun _ x' hx' => absurd hx' (Nat.not_lt_zero _), fun _ => rfl⟩
theorem h_as1 (hZ : Z (some (zi (nI 1))) M) : Ctr 0 G mi_LW_as [zi (nI 1)] M Z := by
  refine go_LW_as (fun Kz hKz => ?_)
  conv => whnf
  first | refine ⟨fun _ => ?_, fun q => absurd (by decide) q⟩ | refine ⟨fun q => absurd q (by decide), fun _ => ?_⟩
  conv => whnf
  exact hZ
theorem h_as0 (hZ : Z (some (zi (nI 0))) M) : Ctr 0 G mi_LW_as [zi (nI 0)] M Z := by
  refine go_LW_as (fun Kz hKz => ?_)
  conv => whnf
  first | refine ⟨fun _ => ?_, fun q => absurd (by decide) q⟩ | refine ⟨fun q => absurd q (by decide), fun _ => ?_⟩
  conv => whnf
  exact hZ
end
