/-! the reference: properties that are checked pair by pair -/
theorem act2 (A : ZP) (x y : Nat) : act A 0 [x, y] = [A.2.1 x y, A.2.2 x y] := rfl
theorem allB2 {n x y : Nat} (hx : x < n) (hy : y < n) : allB n [x, y] := fun d hd => by
  simp only [List.mem_cons, List.not_mem_nil, or_false] at hd
  rcases hd with rfl | rfl
  · exact hx
  · exact hy
theorem lcm_div {a b : Nat} (h : 0 < a) : a / Nat.gcd a b * b = Nat.lcm a b := by
  have hg : 0 < Nat.gcd a b := Nat.gcd_pos_of_pos_left b h
  have h1 := Nat.gcd_mul_lcm a b
  obtain ⟨c, hc⟩ := Nat.gcd_dvd_left a b
  have h2 : a / Nat.gcd a b = c := Nat.div_eq_of_eq_mul_right hg hc
  rw [h2]
  apply Nat.eq_of_mul_eq_mul_left hg
  rw [h1, ← Nat.mul_assoc, ← hc]
section
variable {G : ZG} {M : ZM} {Z : Option ZV → ZM → Prop} {S : ZS}
theorem s_R_comesBack {m : Nat} {A : ZP} (hm : m < 6) (hA : isRM M m A) (h0 : 0 < A.1) (h1 : pinvo A → ∀ M', rf tF M M' → Z (some (zi (nI 1))) M') (h2 : ¬ pinvo A → ∀ M', rf tF M M' → Z (some (zi (nI 0))) M') : Ctr 0 G mi_R_comesBack [zr 20 0, zi (nI m)] M Z := by
  have hn := hA.1.1
  have hnn : A.1 * A.1 ≤ 6 * 6 := Nat.mul_le_mul hn hn
  have hz := n_nz (b := A.1) (by omega) (by omega)
  have lp : ∀ k, k ≤ A.1 * A.1 → ∀ M' (b : Bool), rf tF M M' → (b = true ↔ ∀ j, j < k → A.2.1 (A.2.1 (j / A.1) (j % A.1)) (A.2.2 (j / A.1) (j % A.1)) = j / A.1 ∧ A.2.2 (A.2.1 (j / A.1) (j % A.1)) (A.2.2 (j / A.1) (j % A.1)) = j % A.1) → V 0 G mi_R_comesBack Z 12 [(0, zr 20 0), (1, zi (nI m)), (2, zi (nI A.1)), (3, zi (b2i b)), (4, zi (nI k))] [] M' := by
    refine up_to ?_ ?_
    · intro M' b g1 hb
      have hiff : b = true ↔ pinvo A := by
        rw [hb]
        constructor
        · intro q x y hx hy
          have := q (A.1 * x + y) (prlt hx hy)
          rw [(dvm hy).1, (dvm hy).2] at this
          exact this
        · intro q j hj
          have hd := dvlt hj
          exact q _ _ hd.1 hd.2
      refine z_run (cuts := cu_R_comesBack) ok_R_comesBack (fun Kz hKz => ?_)
      conv => whnf
      rw [pk_mul, nI_leI (by omega) (by omega)]
      refine ⟨fun _ => ?_, fun q => absurd (by omega) q⟩
      conv => whnf
      cases hb2 : b with
      | true => exact ⟨Or.inr rfl, h1 (hiff.mp hb2) M' g1⟩
      | false => exact ⟨Or.inl rfl, h2 (fun q => by rw [hiff.mpr q] at hb2; cases hb2) M' g1⟩
    · intro k hk ih M' b g1 hb
      have hd := dvlt hk
      have hLR := hA.1.2 _ _ hd.1 hd.2
      have hLR2 := hA.1.2 _ _ hLR.1 hLR.2
      obtain ⟨ed, em⟩ := n_dm (k := k) (n := A.1) (by omega) (by omega) (by omega)
      have nxt : ∀ d : Bool, (d = true ↔ (b = true ∧ (A.2.1 (A.2.1 (k / A.1) (k % A.1)) (A.2.2 (k / A.1) (k % A.1)) = k / A.1 ∧ A.2.2 (A.2.1 (k / A.1) (k % A.1)) (A.2.2 (k / A.1) (k % A.1)) = k % A.1))) → (d = true ↔ ∀ j, j < k + 1 → A.2.1 (A.2.1 (j / A.1) (j % A.1)) (A.2.2 (j / A.1) (j % A.1)) = j / A.1 ∧ A.2.2 (A.2.1 (j / A.1) (j % A.1)) (A.2.2 (j / A.1) (j % A.1)) = j % A.1) := by
        intro d hd
        rw [hd, hb]
        constructor
        · rintro ⟨q1, q2⟩ z hz
          rcases fin_cases_eq hz with w | w
          · exact q1 z w
          · rw [w]; exact q2
        · intro q
          exact ⟨fun z hz => q z (by omega), q k (by omega)⟩
      have ht : isT (zset 27 0 1 (nI (k % A.1)) (zset 27 0 0 (nI (k / A.1)) M')) [k / A.1, k % A.1] := isT2 (by rw [zset_ne (by omega), zset_eq]) zset_eq
      have f0 : rf tF M (zset 27 0 1 (nI (k % A.1)) (zset 27 0 0 (nI (k / A.1)) M')) := rf_trans (rf_trans g1 (rf_set rfl)) (rf_set rfl)
      refine z_run (cuts := cu_R_comesBack) ok_R_comesBack (fun Kz hKz => ?_)
      conv => whnf
      rw [pk_mul, nI_leI (by omega) (by omega)]
      refine ⟨fun q => absurd q (by omega), fun _ => ?_⟩
      conv => whnf
      refine ⟨hz, ?_⟩
      conv => whnf
      rw [ed]
      refine ⟨vp_in_nI (by decide) (by decide), ?_⟩
      conv => whnf
      rw [nI_clamp (by omega)]
      refine ⟨hz, ?_⟩
      conv => whnf
      rw [em]
      refine ⟨vp_in_nI (by decide) (by decide), ?_⟩
      conv => whnf
      rw [nI_clamp (by omega)]
      refine s_R_crosses hm (isRM_t hA f0) ht (allB2 hd.1 hd.2) (by simp) (by simp) (fun M1 r1 r2 => ?_)
      rw [act2] at r2
      conv => whnf
      refine s_R_crosses hm (isRM_t hA (rf_trans f0 r1)) r2 (allB2 hLR.1 hLR.2) (by simp) (by simp) (fun M2 r3 r4 => ?_)
      rw [act2] at r4
      have t0 : M2.1 27 0 0 = nI (A.2.1 (A.2.1 (k / A.1) (k % A.1)) (A.2.2 (k / A.1) (k % A.1))) := r4 0 (by simp)
      have t1 : M2.1 27 0 1 = nI (A.2.2 (A.2.1 (k / A.1) (k % A.1)) (A.2.2 (k / A.1) (k % A.1))) := r4 1 (by simp)
      have g2 := rf_trans (rf_trans f0 r1) r3
      conv => whnf
      cases hb2 : b with
      | false =>
        first | refine ⟨fun _ => ?_, fun q => absurd (by decide) q⟩ | refine ⟨fun q => absurd q (by decide), fun _ => ?_⟩
        conv => whnf
        refine hKz _ _ _ _ ?_
        rw [nI_1']
        exact ih M2 false g2 (nxt false (by rw [hb2]; simp))
      | true =>
        first | refine ⟨fun _ => ?_, fun q => absurd (by decide) q⟩ | refine ⟨fun q => absurd q (by decide), fun _ => ?_⟩
        conv => whnf
        refine ⟨vp_in_nI (by decide) (by decide), ?_⟩
        conv => whnf
        refine ⟨hz, ?_⟩
        conv => whnf
        rw [nI_clamp (by omega), t0, ed, n_ne (by omega) (by omega)]
        refine ⟨fun q => ?_, fun q => ?_⟩
        · conv => whnf
          refine hKz _ _ _ _ ?_
          rw [nI_1']
          exact ih M2 false g2 (nxt false ⟨fun z => (by cases z), fun z => absurd z.2.1 q⟩)
        · conv => whnf
          refine ⟨vp_in_nI (by decide) (by decide), ?_⟩
          conv => whnf
          refine ⟨hz, ?_⟩
          conv => whnf
          rw [nI_clamp (by omega), t1, em, n_ne (by omega) (by omega)]
          refine ⟨fun q2 => ?_, fun q2 => ?_⟩
          · conv => whnf
            refine hKz _ _ _ _ ?_
            rw [nI_1']
            exact ih M2 false g2 (nxt false ⟨fun z => (by cases z), fun z => absurd z.2.2 q2⟩)
          · conv => whnf
            refine hKz _ _ _ _ ?_
            rw [nI_1']
            exact ih M2 true g2 (nxt true ⟨fun _ => ⟨hb2, Classical.not_not.mp q, Classical.not_not.mp q2⟩, fun _ => rfl⟩)
  refine go_R_comesBack (fun Kz hKz => ?_)
  conv => whnf
  refine ⟨vp_in_nI hm (by decide), ?_⟩
  conv => whnf
  refine hKz _ _ _ _ ?_
  rw [nI_clamp (by omega), hA.2.1]
  exact lp 0 (Nat.zero_le _) M true (rf_refl _ _) ⟨fun _ j hj => absurd hj (Nat.not_lt_zero _), fun _ => rfl⟩
def pln (A : ZP) (bl : Bool) (x y : Nat) : Nat := if bl = true then A.2.1 x y else A.2.2 y x
theorem s_R_isPlain {m : Nat} {A : ZP} {bl : Bool} (hm : m < 6) (hA : isRM M m A) (h1 : (∀ x, x < A.1 → orf (fun y => pln A bl x y) A.1 = 2 ^ A.1 - 1) → Z (some (zi (nI 1))) M) (h2 : ¬ (∀ x, x < A.1 → orf (fun y => pln A bl x y) A.1 = 2 ^ A.1 - 1) → Z (some (zi (nI 0))) M) : Ctr 0 G mi_R_isPlain [zr 20 0, zi (nI m), zi (b2i bl)] M Z := by
  have hn := hA.1.1
  have hp : 0 < 2 ^ A.1 := Nat.two_pow_pos _
  have hp2 : 2 ^ A.1 ≤ 2 ^ 6 := Nat.pow_le_pow_right (by decide) hn
  have hpl : ∀ x y, x < A.1 → y < A.1 → pln A bl x y < A.1 := fun x y hx hy => by
    unfold pln
    split
    · exact (hA.1.2 x y hx hy).1
    · exact (hA.1.2 y x hy hx).2
  have outer : ∀ x, x ≤ A.1 → ∀ b : Bool, (b = true ↔ ∀ z, z < x → orf (fun y => pln A bl z y) A.1 = 2 ^ A.1 - 1) → V 0 G mi_R_isPlain Z 13 [(0, zr 20 0), (1, zi (nI m)), (2, zi (b2i bl)), (3, zi (nI A.1)), (4, zi (b2i b)), (5, zi (nI x))] [] M := by
    refine up_to ?_ ?_
    · intro b hb
      refine z_run (cuts := cu_R_isPlain) ok_R_isPlain (fun Kz hKz => ?_)
      conv => whnf
      rw [nI_leI (by omega) (by omega)]
      refine ⟨fun _ => ?_, fun q => absurd (by omega) q⟩
      conv => whnf
      cases hb2 : b with
      | true => exact ⟨Or.inr rfl, h1 (hb.mp hb2)⟩
      | false => exact ⟨Or.inl rfl, h2 (fun q => by rw [hb.mpr q] at hb2; cases hb2)⟩
    · intro x hx ih b hb
      have inner : ∀ y, y ≤ A.1 → V 0 G mi_R_isPlain Z 25 [(0, zr 20 0), (1, zi (nI m)), (2, zi (b2i bl)), (3, zi (nI A.1)), (4, zi (b2i b)), (5, zi (nI x)), (6, zi (nI (orf (fun y => pln A bl x y) y))), (7, zi (nI y))] [] M := by
        refine up_to ?_ ?_
        · have hs : orf (fun y => pln A bl x y) A.1 < 2 ^ 6 := orf_lt _ (fun i hi => by have := hpl x i hx hi; omega)
          have nxt : ∀ d : Bool, (d = true ↔ (b = true ∧ orf (fun y => pln A bl x y) A.1 = 2 ^ A.1 - 1)) → (d = true ↔ ∀ z, z < x + 1 → orf (fun y => pln A bl z y) A.1 = 2 ^ A.1 - 1) := by
            intro d hd
            rw [hd, hb]
            constructor
            · rintro ⟨q1, q2⟩ z hz
              rcases fin_cases_eq hz with w | w
              · exact q1 z w
              · rw [w]; exact q2
            · intro q
              exact ⟨fun z hz => q z (by omega), q x (by omega)⟩
          refine z_run (cuts := cu_R_isPlain) ok_R_isPlain (fun Kz hKz => ?_)
          conv => whnf
          rw [nI_leI (by omega) (by omega)]
          refine ⟨fun _ => ?_, fun q => absurd (by omega) q⟩
          conv => whnf
          cases hb2 : b with
          | false =>
            first | refine ⟨fun _ => ?_, fun q => absurd (by decide) q⟩ | refine ⟨fun q => absurd q (by decide), fun _ => ?_⟩
            conv => whnf
            refine hKz _ _ _ _ ?_
            rw [nI_1']
            exact ih false (nxt false (by rw [hb2]; simp))
          | true =>
            first | refine ⟨fun _ => ?_, fun q => absurd (by decide) q⟩ | refine ⟨fun q => absurd q (by decide), fun _ => ?_⟩
            conv => whnf
            rw [n_shl _ _ (by omega), Nat.one_mul, pk_sub hp, n_ne (by omega) (by omega)]
            refine ⟨fun q => ?_, fun q => ?_⟩
            · conv => whnf
              refine hKz _ _ _ _ ?_
              rw [nI_1']
              exact ih false (nxt false ⟨fun z => (by cases z), fun z => absurd z.2 q⟩)
            · conv => whnf
              refine hKz _ _ _ _ ?_
              rw [nI_1']
              exact ih true (nxt true ⟨fun _ => ⟨hb2, Classical.not_not.mp q⟩, fun _ => rfl⟩)
        · intro y hy ih2
          have h6 := hpl x y hx hy
          rw [orf] at ih2
          refine z_run (cuts := cu_R_isPlain) ok_R_isPlain (fun Kz hKz => ?_)
          conv => whnf
          rw [nI_leI (by omega) (by omega)]
          refine ⟨fun q => absurd q (by omega), fun _ => ?_⟩
          conv => whnf
          cases hbl : bl with
          | true =>
            rw [hbl] at ih2 h6
            have e : pln A true x y = A.2.1 x y := if_pos rfl
            rw [e] at ih2 h6
            first | refine ⟨fun _ => ?_, fun q => absurd (by decide) q⟩ | refine ⟨fun q => absurd q (by decide), fun _ => ?_⟩
            conv => whnf
            refine s_R_l hm hA hx hy ?_
            conv => whnf
            refine hKz _ _ _ _ ?_
            rw [n_shl _ _ (by omega), Nat.one_mul, n_or, nI_1']
            exact ih2
          | false =>
            rw [hbl] at ih2 h6
            have e : pln A false x y = A.2.2 y x := if_neg (by decide)
            rw [e] at ih2 h6
            first | refine ⟨fun _ => ?_, fun q => absurd (by decide) q⟩ | refine ⟨fun q => absurd q (by decide), fun _ => ?_⟩
            conv => whnf
            refine s_R_r hm hA hy hx ?_
            conv => whnf
            refine hKz _ _ _ _ ?_
            rw [n_shl _ _ (by omega), Nat.one_mul, n_or, nI_1']
            exact ih2
      refine z_run (cuts := cu_R_isPlain) ok_R_isPlain (fun Kz hKz => ?_)
      conv => whnf
      rw [nI_leI (by omega) (by omega)]
      refine ⟨fun q => absurd q (by omega), fun _ => ?_⟩
      conv => whnf
      refine hKz _ _ _ _ ?_
      exact inner 0 (Nat.zero_le _)
  refine go_R_isPlain (fun Kz hKz => ?_)
  conv => whnf
  refine ⟨vp_in_nI hm (by decide), ?_⟩
  conv => whnf
  refine hKz _ _ _ _ ?_
  rw [nI_clamp (by omega), hA.2.1]
  exact outer 0 (Nat.zero_le _) true ⟨fun _ z hz => absurd hz (Nat.not_lt_zero _), fun _ => rfl⟩
theorem s_R_doSquaresStay {m : Nat} {A : ZP} (hm : m < 6) (hA : isRM M m A) (h1 : psq A → Z (some (zi (nI 1))) M) (h2 : ¬ psq A → Z (some (zi (nI 0))) M) : Ctr 0 G mi_R_doSquaresStay [zr 20 0, zi (nI m)] M Z := by
  have hn := hA.1.1
  have lp : ∀ x, x ≤ A.1 → ∀ b : Bool, (b = true ↔ ∀ z, z < x → A.2.1 z z = z ∧ A.2.2 z z = z) → V 0 G mi_R_doSquaresStay Z 4 [(0, zr 20 0), (1, zi (nI m)), (2, zi (b2i b)), (3, zi (nI x))] [] M := by
    refine up_to ?_ ?_
    · intro b hb
      refine z_run (cuts := cu_R_doSquaresStay) ok_R_doSquaresStay (fun Kz hKz => ?_)
      conv => whnf
      refine ⟨vp_in_nI hm (by decide), ?_⟩
      conv => whnf
      rw [nI_clamp (by omega), hA.2.1, nI_leI (by omega) (by omega)]
      refine ⟨fun _ => ?_, fun q => absurd (by omega) q⟩
      conv => whnf
      cases hb2 : b with
      | true => exact ⟨Or.inr rfl, h1 (hb.mp hb2)⟩
      | false => exact ⟨Or.inl rfl, h2 (fun q => by rw [hb.mpr q] at hb2; cases hb2)⟩
    · intro x hx ih b hb
      have hLR := hA.1.2 x x hx hx
      have nxt : ∀ d : Bool, (d = true ↔ (b = true ∧ A.2.1 x x = x ∧ A.2.2 x x = x)) → (d = true ↔ ∀ z, z < x + 1 → A.2.1 z z = z ∧ A.2.2 z z = z) := by
        intro d hd
        rw [hd, hb]
        constructor
        · rintro ⟨q1, q2⟩ z hz
          rcases fin_cases_eq hz with w | w
          · exact q1 z w
          · rw [w]; exact q2
        · intro q
          exact ⟨fun z hz => q z (by omega), q x (by omega)⟩
      refine z_run (cuts := cu_R_doSquaresStay) ok_R_doSquaresStay (fun Kz hKz => ?_)
      conv => whnf
      refine ⟨vp_in_nI hm (by decide), ?_⟩
      conv => whnf
      rw [nI_clamp (by omega), hA.2.1, nI_leI (by omega) (by omega)]
      refine ⟨fun q => absurd q (by omega), fun _ => ?_⟩
      conv => whnf
      cases hb2 : b with
      | false =>
        first | refine ⟨fun _ => ?_, fun q => absurd (by decide) q⟩ | refine ⟨fun q => absurd q (by decide), fun _ => ?_⟩
        conv => whnf
        refine hKz _ _ _ _ ?_
        rw [nI_1']
        exact ih false (nxt false (by rw [hb2]; simp))
      | true =>
        first | refine ⟨fun _ => ?_, fun q => absurd (by decide) q⟩ | refine ⟨fun q => absurd q (by decide), fun _ => ?_⟩
        conv => whnf
        refine s_R_l hm hA hx hx ?_
        conv => whnf
        rw [n_ne (by omega) (by omega)]
        refine ⟨fun q => ?_, fun q => ?_⟩
        · conv => whnf
          refine hKz _ _ _ _ ?_
          rw [nI_1']
          exact ih false (nxt false ⟨fun z => (by cases z), fun z => absurd z.2.1 q⟩)
        · conv => whnf
          refine s_R_r hm hA hx hx ?_
          conv => whnf
          rw [n_ne (by omega) (by omega)]
          refine ⟨fun q2 => ?_, fun q2 => ?_⟩
          · conv => whnf
            refine hKz _ _ _ _ ?_
            rw [nI_1']
            exact ih false (nxt false ⟨fun z => (by cases z), fun z => absurd z.2.2 q2⟩)
          · conv => whnf
            refine hKz _ _ _ _ ?_
            rw [nI_1']
            exact ih true (nxt true ⟨fun _ => ⟨hb2, Classical.not_not.mp q, Classical.not_not.mp q2⟩, fun _ => rfl⟩)
  refine go_R_doSquaresStay (fun Kz hKz => ?_)
  conv => whnf
  refine hKz _ _ _ _ ?_
  exact lp 0 (Nat.zero_le _) true ⟨fun _ z hz => absurd hz (Nat.not_lt_zero _), fun _ => rfl⟩
theorem pj_dm {A : ZP} (hA : pwf A) {p : Nat} (hp : p < A.1 * A.1) : pj A A.1 p / A.1 = A.2.1 (p / A.1) (p % A.1) ∧ pj A A.1 p % A.1 = A.2.2 (p / A.1) (p % A.1) := by
  have hd := dvlt hp
  have hLR := hA.2 _ _ hd.1 hd.2
  exact dvm hLR.2
theorem r_power {a x y k : Nat} (ha : a < 2 ^ 32) (hx : x < 2 ^ 32) (hy : y < 2 ^ 32) (hk : k < 2 ^ 32) (hR : RS M S) (h1 : ¬ (x < (plA S a).1 ∧ y < (plA S a).1) → Z (some (zi (-1000001))) M) (h2 : x < (plA S a).1 → y < (plA S a).1 → ¬ k ≤ 1000 → Z (some (zi (-1000002))) M) (h3 : x < (plA S a).1 → y < (plA S a).1 → k ≤ 1000 → ∀ M', RS M' S → rsm M M' → Z (some (zi (nI (tn (e8 (plA S a) (itr (pj (plA S a) (plA S a).1) ((plA S a).1 * x + y) k)) 2)))) M') : Ctr 0 G mi_R_power [zr 20 0, zi (nI a), zi (nI x), zi (nI y), zi (nI k)] M Z := by
  refine go_R_power (fun Kz hKz => ?_)
  conv => whnf
  refine s_R_isMap ha hR (fun e => ?_) (fun e => ?_)
  · have hA := RS_pl hR e
    have ha4 := plA_lt e
    generalize plA S a = A at *
    have hn := hA.1.1
    conv => whnf
    first | refine ⟨fun _ => ?_, fun q => absurd (by decide) q⟩ | refine ⟨fun q => absurd q (by decide), fun _ => ?_⟩
    conv => whnf
    refine s_R_isPoint (by omega) hx (by omega) hA (fun e1 => ?_) (fun e1 => ?_)
    · conv => whnf
      first | refine ⟨fun _ => ?_, fun q => absurd (by decide) q⟩ | refine ⟨fun q => absurd q (by decide), fun _ => ?_⟩
      conv => whnf
      refine s_R_isPoint (by omega) hy (by omega) hA (fun e2 => ?_) (fun e2 => ?_)
      · conv => whnf
        first | refine ⟨fun _ => ?_, fun q => absurd (by decide) q⟩ | refine ⟨fun q => absurd q (by decide), fun _ => ?_⟩
        conv => whnf
        refine s_R_in hk (by decide) (by decide) (fun _ e3 _ => ?_) (fun e3 => ?_)
        · have hpr := prlt e1 e2
          have il : ∀ i, itr (pj A A.1) (A.1 * x + y) i < A.1 * A.1 := itr_lt (pj_lt hA.1) hpr
          have lp : ∀ i, i ≤ k → ∀ M', rf tF M M' → isT M' [itr (pj A A.1) (A.1 * x + y) i / A.1, itr (pj A A.1) (A.1 * x + y) i % A.1] → V 0 G mi_R_power Z 62 [(0, zr 20 0), (1, zi (nI a)), (4, zi (nI k)), (5, zi (nI i))] [] M' := by
            refine up_to ?_ ?_
            · intro M' g1 g2
              have hd := dvlt (il k)
              have t0 : M'.1 27 0 0 = nI (itr (pj A A.1) (A.1 * x + y) k / A.1) := g2 0 (by simp)
              have t1 : M'.1 27 0 1 = nI (itr (pj A A.1) (A.1 * x + y) k % A.1) := g2 1 (by simp)
              have ev : tn (e8 A (itr (pj A A.1) (A.1 * x + y) k)) 2 = itr (pj A A.1) (A.1 * x + y) k / A.1 + 8 * (itr (pj A A.1) (A.1 * x + y) k % A.1) := by
                unfold e8
                generalize itr (pj A A.1) (A.1 * x + y) k / A.1 = p at *
                generalize itr (pj A A.1) (A.1 * x + y) k % A.1 = q at *
                simp only [tn]
                omega
              refine z_run (cuts := cu_R_power) ok_R_power (fun Kz hKz => ?_)
              conv => whnf
              rw [nI_leI (by omega) (by omega)]
              refine ⟨fun _ => ?_, fun q => absurd (by omega) q⟩
              conv => whnf
              refine ⟨vp_in_nI (by decide) (by decide), ?_⟩
              conv => whnf
              refine ⟨vp_in_nI (by decide) (by decide), ?_⟩
              conv => whnf
              rw [nI_clamp (by omega), nI_clamp (by omega), t0, t1, pk_mul, nI_add, ← ev]
              exact h3 e1 e2 e3 M' (RS_rf hR g1 tF_no) (rsm_t g1)
            · intro i hi ih M' g1 g2
              have hd := dvlt (il i)
              refine z_run (cuts := cu_R_power) ok_R_power (fun Kz hKz => ?_)
              conv => whnf
              rw [nI_leI (by omega) (by omega)]
              refine ⟨fun q => absurd q (by omega), fun _ => ?_⟩
              conv => whnf
              refine s_R_crosses (by omega) (isRM_t hA g1) g2 (allB2 hd.1 hd.2) (by simp) (by simp) (fun M2 r1 r2 => ?_)
              rw [act2, ← (pj_dm hA.1 (il i)).1, ← (pj_dm hA.1 (il i)).2] at r2
              conv => whnf
              refine hKz _ _ _ _ ?_
              rw [nI_1']
              exact ih M2 (rf_trans g1 r1) r2
          conv => whnf
          first | refine ⟨fun _ => ?_, fun q => absurd (by decide) q⟩ | refine ⟨fun q => absurd q (by decide), fun _ => ?_⟩
          conv => whnf
          refine ⟨vp_in_nI (by decide) (by decide), ?_⟩
          conv => whnf
          refine ⟨vp_in_nI (by decide) (by decide), ?_⟩
          conv => whnf
          refine hKz _ _ _ _ ?_
          rw [nI_clamp (by omega), nI_clamp (by omega)]
          refine lp 0 (Nat.zero_le _) _ (rf_trans (rf_set rfl) (rf_set rfl)) (isT2 ?_ ?_)
          · rw [zset_ne (by omega), zset_eq]
            show nI x = nI ((A.1 * x + y) / A.1)
            rw [(dvm e2).1]
          · rw [zset_eq]
            show nI y = nI ((A.1 * x + y) % A.1)
            rw [(dvm e2).2]
        · conv => whnf
          first | refine ⟨fun _ => ?_, fun q => absurd (by decide) q⟩ | refine ⟨fun q => absurd q (by decide), fun _ => ?_⟩
          conv => whnf
          exact h2 e1 e2 (fun q => e3 ⟨Nat.zero_le _, q, by omega⟩)
      · conv => whnf
        first | refine ⟨fun _ => ?_, fun q => absurd (by decide) q⟩ | refine ⟨fun q => absurd q (by decide), fun _ => ?_⟩
        conv => whnf
        exact h1 (fun q => e2 q.2)
    · conv => whnf
      first | refine ⟨fun _ => ?_, fun q => absurd (by decide) q⟩ | refine ⟨fun q => absurd q (by decide), fun _ => ?_⟩
      conv => whnf
      exact h1 (fun q => e1 q.1)
  · conv => whnf
    first | refine ⟨fun _ => ?_, fun q => absurd (by decide) q⟩ | refine ⟨fun q => absurd q (by decide), fun _ => ?_⟩
    conv => whnf
    exact h1 (by omega)
theorem s_R_commonOf {a b : Nat} (ha : a < 2 ^ 31) (hb : b < 2 ^ 31) (hZ : Z (some (zi (nI (Nat.gcd a b)))) M) : Ctr 0 G mi_R_commonOf [zi (nI a), zi (nI b)] M Z := by
  have lp : ∀ y, y < 2 ^ 31 → ∀ x, x < 2 ^ 31 → Nat.gcd x y = Nat.gcd a b → V 0 G mi_R_commonOf Z 4 [(2, zi (nI x)), (3, zi (nI y))] [] M := by
    intro y
    induction y using Nat.strongRecOn with
    | _ y ih =>
      intro hy x hx he
      refine z_run (cuts := cu_R_commonOf) ok_R_commonOf (fun Kz hKz => ?_)
      conv => whnf
      rw [nI_eq hy (by decide)]
      refine ⟨fun q => ?_, fun q => ?_⟩
      · rw [q, Nat.gcd_zero_right] at he
        rw [← he] at hZ
        conv => whnf
        exact hZ
      · have hlt : x % y < y := Nat.mod_lt _ (by omega)
        conv => whnf
        refine ⟨n_nz (by omega) hy, ?_⟩
        conv => whnf
        refine hKz _ _ _ _ ?_
        rw [n_mod hx (by omega) hy]
        refine ih (x % y) hlt (by omega) y hy ?_
        rw [← he, Nat.gcd_comm x y, Nat.gcd_rec y x, Nat.gcd_comm]
  refine go_R_commonOf (fun Kz hKz => ?_)
  conv => whnf
  refine hKz _ _ _ _ ?_
  exact lp b hb a ha rfl
theorem s_R_order {m : Nat} {A : ZP} (hm : m < 6) (hA : isRM M m A) (h0 : 0 < A.1) (h1 : ¬ pinj A → Z (some (zi (-1))) M) (h2 : pinj A → ∀ C : Nat → Nat, (∀ p, p < A.1 * A.1 → isCyc (pj A A.1) p (C p)) → ∀ M', rf tF M M' → Z (some (zi (nI (lcmU C (A.1 * A.1))))) M') : Ctr 0 G mi_R_order [zr 20 0, zi (nI m)] M Z := by
  have hn := hA.1.1
  have hnn : A.1 * A.1 ≤ 6 * 6 := Nat.mul_le_mul hn hn
  have hz := n_nz (b := A.1) (by omega) (by omega)
  refine go_R_order (fun Kz hKz => ?_)
  conv => whnf
  refine s_R_isBijective hm hA h0 (fun hi => ?_) (fun hi => ?_)
  · have hf := pj_lt hA.1
    have hinj : ∀ p q, p < A.1 * A.1 → q < A.1 * A.1 → pj A A.1 p = pj A A.1 q → p = q := (pj_inj hA.1 (Nat.le_refl _)).mpr hi
    have hex : ∀ p, ∃ c, p < A.1 * A.1 → c ≤ A.1 * A.1 ∧ isCyc (pj A A.1) p c := by
      intro p
      by_cases hp : p < A.1 * A.1
      · obtain ⟨c, hc⟩ := cyc_ex hf hinj hp
        exact ⟨c, fun _ => hc⟩
      · exact ⟨0, fun q => absurd q hp⟩
    obtain ⟨C, hC⟩ : ∃ C : Nat → Nat, ∀ p, p < A.1 * A.1 → C p ≤ A.1 * A.1 ∧ isCyc (pj A A.1) p (C p) := ⟨fun p => Classical.choose (hex p), fun p hp => Classical.choose_spec (hex p) hp⟩
    have hle : ∀ j, j ≤ A.1 * A.1 → 0 < lcmU C j ∧ lcmU C j ≤ 531441 := fun j hj => ⟨lcmU_pos j fun p hp => (hC p (by omega)).2.1, lcmU_le hf hinj (by omega) hC hj⟩
    have hZ := h2 hi C (fun p hp => (hC p hp).2)
    have lp : ∀ k, k ≤ A.1 * A.1 → ∀ M', rf tF M M' → V 0 G mi_R_order Z 22 [(0, zr 20 0), (1, zi (nI m)), (2, zi (nI A.1)), (3, zi (nI (lcmU C k))), (4, zi (nI k))] [] M' := by
      refine up_to ?_ ?_
      · intro M' g1
        refine z_run (cuts := cu_R_order) ok_R_order (fun Kz hKz => ?_)
        conv => whnf
        rw [pk_mul, nI_leI (by omega) (by omega)]
        refine ⟨fun _ => ?_, fun q => absurd (by omega) q⟩
        conv => whnf
        exact hZ M' g1
      · intro k hk ih M' g1
        have hd := dvlt hk
        have hl := hle k (by omega)
        have hCk := hC k hk
        obtain ⟨ed, em⟩ := n_dm (k := k) (n := A.1) (by omega) (by omega) (by omega)
        have il : ∀ i, itr (pj A A.1) k i < A.1 * A.1 := itr_lt hf hk
        have hg0 : 0 < Nat.gcd (lcmU C k) (C k) := Nat.gcd_pos_of_pos_left _ hl.1
        have hg1 : Nat.gcd (lcmU C k) (C k) ≤ lcmU C k := Nat.le_of_dvd hl.1 (Nat.gcd_dvd_left _ _)
        have inner : ∀ j, j ≤ C k - 1 → ∀ M', rf tF M M' → isT M' [itr (pj A A.1) k j / A.1, itr (pj A A.1) k j % A.1] → V 0 G mi_R_order Z 53 [(0, zr 20 0), (1, zi (nI m)), (2, zi (nI A.1)), (3, zi (nI (lcmU C k))), (4, zi (nI k)), (5, zi (nI j))] [] M' := by
          refine up_to ?_ ?_
          · intro M' g1 g2
            have hdj := dvlt (il (C k - 1))
            have h1j := il (C k - 1 + 1)
            have hdj1 := dvlt h1j
            refine z_run (cuts := cu_R_order) ok_R_order (fun Kz hKz => ?_)
            conv => whnf
            refine s_R_crosses hm (isRM_t hA g1) g2 (allB2 hdj.1 hdj.2) (by simp) (by simp) (fun M2 r1 r2 => ?_)
            rw [act2, ← (pj_dm hA.1 (il _)).1, ← (pj_dm hA.1 (il _)).2] at r2
            have eb : pj A A.1 (itr (pj A A.1) k (C k - 1)) = k := by
              have := hCk.2.2.1
              rw [show C k = C k - 1 + 1 by have := hCk.2.1; omega] at this
              exact this
            rw [eb] at r2
            have t0 : M2.1 27 0 0 = nI (k / A.1) := r2 0 (by simp)
            have t1 : M2.1 27 0 1 = nI (k % A.1) := r2 1 (by simp)
            have g3 := rf_trans g1 r1
            conv => whnf
            refine ⟨vp_in_nI (by decide) (by decide), ?_⟩
            conv => whnf
            refine ⟨vp_in_nI (by decide) (by decide), ?_⟩
            conv => whnf
            rw [nI_clamp (by omega), nI_clamp (by omega), t0, t1, pk_mul, nI_add, Nat.div_add_mod]
            refine ⟨fun q => absurd rfl q, fun _ => ?_⟩
            conv => whnf
            rw [nI_1', show C k - 1 + 1 = C k by have := hCk.2.1; omega]
            refine s_R_commonOf (by omega) (by omega) ?_
            conv => whnf
            refine ⟨n_nz hg0 (by omega), ?_⟩
            conv => whnf
            refine hKz _ _ _ _ ?_
            rw [pk_div (by omega) hg0 (by omega), pk_mul, nI_1', lcm_div hl.1]
            exact ih M2 g3
          · intro j hj ih2 M' g1 g2
            have hdj := dvlt (il j)
            have hdj1 := dvlt (il (j + 1))
            refine z_run (cuts := cu_R_order) ok_R_order (fun Kz hKz => ?_)
            conv => whnf
            refine s_R_crosses hm (isRM_t hA g1) g2 (allB2 hdj.1 hdj.2) (by simp) (by simp) (fun M2 r1 r2 => ?_)
            rw [act2, ← (pj_dm hA.1 (il _)).1, ← (pj_dm hA.1 (il _)).2] at r2
            have r2 : isT M2 [itr (pj A A.1) k (j + 1) / A.1, itr (pj A A.1) k (j + 1) % A.1] := r2
            have t0 : M2.1 27 0 0 = nI (itr (pj A A.1) k (j + 1) / A.1) := r2 0 (by simp)
            have t1 : M2.1 27 0 1 = nI (itr (pj A A.1) k (j + 1) % A.1) := r2 1 (by simp)
            have hne := hCk.2.2.2 (j + 1) (by omega) (by omega)
            have hlt := il (j + 1)
            conv => whnf
            refine ⟨vp_in_nI (by decide) (by decide), ?_⟩
            conv => whnf
            refine ⟨vp_in_nI (by decide) (by decide), ?_⟩
            conv => whnf
            rw [nI_clamp (by omega), nI_clamp (by omega), t0, t1, pk_mul, nI_add, Nat.div_add_mod, n_ne (by omega) (by omega)]
            refine ⟨fun _ => ?_, fun q => absurd hne q⟩
            conv => whnf
            refine hKz _ _ _ _ ?_
            rw [nI_1']
            exact ih2 M2 (rf_trans g1 r1) r2
        refine z_run (cuts := cu_R_order) ok_R_order (fun Kz hKz => ?_)
        conv => whnf
        rw [pk_mul, nI_leI (by omega) (by omega)]
        refine ⟨fun q => absurd q (by omega), fun _ => ?_⟩
        conv => whnf
        refine ⟨hz, ?_⟩
        conv => whnf
        rw [ed]
        refine ⟨vp_in_nI (by decide) (by decide), ?_⟩
        conv => whnf
        rw [nI_clamp (by omega)]
        refine ⟨hz, ?_⟩
        conv => whnf
        rw [em]
        refine ⟨vp_in_nI (by decide) (by decide), ?_⟩
        conv => whnf
        refine hKz _ _ _ _ ?_
        rw [nI_clamp (by omega)]
        exact inner 0 (Nat.zero_le _) _ (rf_trans (rf_trans g1 (rf_set rfl)) (rf_set rfl)) (isT2 (by rw [zset_ne (by omega), zset_eq]; rfl) zset_eq)
    conv => whnf
    first | refine ⟨fun _ => ?_, fun q => absurd (by decide) q⟩ | refine ⟨fun q => absurd q (by decide), fun _ => ?_⟩
    conv => whnf
    refine ⟨vp_in_nI hm (by decide), ?_⟩
    conv => whnf
    refine hKz _ _ _ _ ?_
    rw [nI_clamp (by omega), hA.2.1]
    exact lp 0 (Nat.zero_le _) M (rf_refl _ _)
  · conv => whnf
    first | refine ⟨fun _ => ?_, fun q => absurd (by decide) q⟩ | refine ⟨fun q => absurd q (by decide), fun _ => ?_⟩
    conv => whnf
    exact h1 hi
end
