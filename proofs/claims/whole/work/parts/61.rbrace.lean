/-! the reference: braces -/
section
variable {G : ZG} {M : ZM} {Z : Option ZV → ZM → Prop} {S : ZS}
theorem s_R_isBrace {n u : Nat} (h2 : 2 ≤ n) (h6 : n ≤ 6) (hu : u < 2 ^ 32) (h1 : areU n u → bra n u → Z (some (zi (nI 1))) M) (h0 : ¬ (areU n u ∧ bra n u) → Z (some (zi (nI 0))) M) : Ctr 0 G mi_R_isBrace [zi (nI u), zi (nI n)] M Z := by
  have hz := n_nz (b := n) (by omega) (by omega)
  refine go_R_isBrace (fun Kz hKz => ?_)
  conv => whnf
  refine s_R_areUnits h2 h6 hu (fun hU => ?_) (fun hU => ?_)
  · have hdn : ∀ a, a < n → dg u a < n := fun a ha => (un_iff.mp (hU.2 a ha)).2.1
    have outer : ∀ a, a ≤ n → ∀ b : Bool, (b = true ↔ ∀ x y, x < n → y < n → x < a → dg u ((x + dg u x * y) % n) = dg u x * dg u y % n) → V 0 G mi_R_isBrace Z 8 [(0, zi (nI u)), (1, zi (nI n)), (2, zi (b2i b)), (3, zi (nI a))] [] M := by
      refine up_to ?_ ?_
      · intro b hb
        refine z_run (cuts := cu_R_isBrace) ok_R_isBrace (fun Kz hKz => ?_)
        conv => whnf
        rw [nI_leI (by omega) (by omega)]
        refine ⟨fun _ => ?_, fun q => absurd (by omega) q⟩
        conv => whnf
        cases hb2 : b with
        | true => exact ⟨Or.inr rfl, h1 hU (fun x y hx hy => hb.mp hb2 x y hx hy hx)⟩
        | false => exact ⟨Or.inl rfl, h0 (fun q => by rw [hb.mpr (fun x y hx hy _ => q.2 x y hx hy)] at hb2; cases hb2)⟩
      · intro a ha ih b hb
        have hda := hdn a ha
        refine z_run (cuts := cu_R_isBrace) ok_R_isBrace (fun Kz hKz => ?_)
        conv => whnf
        rw [nI_leI (by omega) (by omega)]
        refine ⟨fun q => absurd q (by omega), fun _ => ?_⟩
        conv => whnf
        cases hb2 : b with
        | false =>
          first | refine ⟨fun _ => ?_, fun q => absurd (by decide) q⟩ | refine ⟨fun q => absurd q (by decide), fun _ => ?_⟩
          conv => whnf
          exact ⟨Or.inl rfl, h0 (fun q => by rw [hb.mpr (fun x y hx hy _ => q.2 x y hx hy)] at hb2; cases hb2)⟩
        | true =>
          have hb3 := hb.mp hb2
          have inner : ∀ c, c ≤ n → ∀ b : Bool, (b = true ↔ ∀ y, y < c → dg u ((a + dg u a * y) % n) = dg u a * dg u y % n) → V 0 G mi_R_isBrace Z 20 [(0, zi (nI u)), (1, zi (nI n)), (2, zi (b2i b)), (3, zi (nI a)), (4, zi (nI c))] [] M := by
            refine up_to ?_ ?_
            · intro b hb
              refine z_run (cuts := cu_R_isBrace) ok_R_isBrace (fun Kz hKz => ?_)
              conv => whnf
              rw [nI_leI (by omega) (by omega)]
              refine ⟨fun _ => ?_, fun q => absurd (by omega) q⟩
              conv => whnf
              refine hKz _ _ _ _ ?_
              rw [nI_1']
              refine ih b ?_
              rw [hb]
              constructor
              · intro q x y hx hy hxa
                rcases fin_cases_eq hxa with z | z
                · exact hb3 x y hx hy z
                · rw [z]; exact q y hy
              · intro q y hy
                exact q a y ha hy (by omega)
            · intro c hc ih2 b hb
              have hdc := hdn c hc
              have hm1 : dg u a * c ≤ 6 * 6 := Nat.mul_le_mul (by omega) (by omega)
              have hm2 : dg u a * dg u c ≤ 6 * 6 := Nat.mul_le_mul (by omega) (by omega)
              have hr : (a + dg u a * c) % n < n := Nat.mod_lt _ (by omega)
              have hr2 : dg u a * dg u c % n < n := Nat.mod_lt _ (by omega)
              have hd8 := dg_lt u ((a + dg u a * c) % n)
              have nxt : ∀ d : Bool, (d = true ↔ (b = true ∧ dg u ((a + dg u a * c) % n) = dg u a * dg u c % n)) → (d = true ↔ ∀ y, y < c + 1 → dg u ((a + dg u a * y) % n) = dg u a * dg u y % n) := by
                intro d hd
                rw [hd, hb]
                constructor
                · rintro ⟨q1, q2⟩ y hy
                  rcases fin_cases_eq hy with z | z
                  · exact q1 y z
                  · rw [z]; exact q2
                · intro q
                  exact ⟨fun y hy => q y (by omega), q c (by omega)⟩
              refine z_run (cuts := cu_R_isBrace) ok_R_isBrace (fun Kz hKz => ?_)
              conv => whnf
              rw [nI_leI (by omega) (by omega)]
              refine ⟨fun q => absurd q (by omega), fun _ => ?_⟩
              conv => whnf
              refine s_R_digit hu (by omega) ?_
              conv => whnf
              rw [pk_mul, nI_add]
              refine ⟨hz, ?_⟩
              conv => whnf
              rw [n_mod (by show a + dg u a * c < 2 ^ 31; omega) (by omega) (by omega)]
              cases hb4 : b with
              | false =>
                first | refine ⟨fun _ => ?_, fun q => absurd (by decide) q⟩ | refine ⟨fun q => absurd q (by decide), fun _ => ?_⟩
                conv => whnf
                refine hKz _ _ _ _ ?_
                rw [nI_1']
                exact ih2 false (nxt false (by rw [hb4]; simp))
              | true =>
                first | refine ⟨fun _ => ?_, fun q => absurd (by decide) q⟩ | refine ⟨fun q => absurd q (by decide), fun _ => ?_⟩
                conv => whnf
                refine s_R_digit (i := (a + dg u a * c) % n) hu (by omega) ?_
                conv => whnf
                refine s_R_digit hu (by omega) ?_
                conv => whnf
                refine s_R_digit hu (by omega) ?_
                conv => whnf
                rw [pk_mul]
                refine ⟨hz, ?_⟩
                conv => whnf
                rw [n_mod (by show dg u a * dg u c < 2 ^ 31; omega) (by omega) (by omega), n_ne (by show dg u ((a + dg u a * c) % n) < 2 ^ 31; omega) (by show dg u a * dg u c % n < 2 ^ 31; omega)]
                refine ⟨fun q => ?_, fun q => ?_⟩
                · conv => whnf
                  refine hKz _ _ _ _ ?_
                  rw [nI_1']
                  exact ih2 false (nxt false ⟨fun z => (by cases z), fun z => absurd z.2 q⟩)
                · conv => whnf
                  refine hKz _ _ _ _ ?_
                  rw [nI_1']
                  exact ih2 true (nxt true ⟨fun _ => ⟨hb4, Classical.not_not.mp q⟩, fun _ => rfl⟩)
          first | refine ⟨fun _ => ?_, fun q => absurd (by decide) q⟩ | refine ⟨fun q => absurd q (by decide), fun _ => ?_⟩
          conv => whnf
          refine hKz _ _ _ _ ?_
          exact inner 0 (Nat.zero_le _) true ⟨fun _ y hy => absurd hy (Nat.not_lt_zero _), fun _ => rfl⟩
    conv => whnf
    refine hKz _ _ _ _ ?_
    exact outer 0 (Nat.zero_le _) true ⟨fun _ x y hx hy q => absurd q (Nat.not_lt_zero _), fun _ => rfl⟩
  · conv => whnf
    refine hKz _ _ _ _ ?_
    refine z_run (cuts := cu_R_isBrace) ok_R_isBrace (fun Kz hKz => ?_)
    conv => whnf
    rw [nI_leI (by omega) (by omega)]
    refine ⟨fun q => absurd q (by omega), fun _ => ?_⟩
    conv => whnf
    first | refine ⟨fun _ => ?_, fun q => absurd (by decide) q⟩ | refine ⟨fun q => absurd q (by decide), fun _ => ?_⟩
    conv => whnf
    exact ⟨Or.inl rfl, h0 (fun q => hU q.1)⟩
theorem r_brace {to n u : Nat} (hto : to < 2 ^ 32) (hn : n < 2 ^ 32) (hu : u < 2 ^ 32) (hR : RS M S) (h1 : ¬ to < 4 → Z (some (zi (-1000001))) M) (h2 : to < 4 → ¬ (2 ≤ n ∧ n ≤ 6 ∧ areU n u) → Z (some (zi (-1000002))) M) (h3 : to < 4 → 2 ≤ n → n ≤ 6 → areU n u → ¬ bra n u → Z (some (zi (-1000003))) M) (h4 : to < 4 → 2 ≤ n → n ≤ 6 → areU n u → bra n u → ∀ M', RS M' (upS S to (pbra n u)) → rsm M M' → Z (some (zi (nI n))) M') : Ctr 0 G mi_R_brace [zr 20 0, zi (nI to), zi (nI n), zi (nI u)] M Z := by
  refine go_R_brace (fun Kz hKz => ?_)
  conv => whnf
  refine s_R_isPlace hto (fun e1 => ?_) (fun e1 => ?_)
  · conv => whnf
    first | refine ⟨fun _ => ?_, fun q => absurd (by decide) q⟩ | refine ⟨fun q => absurd q (by decide), fun _ => ?_⟩
    conv => whnf
    refine s_R_in hn (by decide) (by decide) (fun e2 e3 _ => ?_) (fun e2 => ?_)
    · conv => whnf
      first | refine ⟨fun _ => ?_, fun q => absurd (by decide) q⟩ | refine ⟨fun q => absurd q (by decide), fun _ => ?_⟩
      conv => whnf
      refine s_R_areUnits e2 e3 hu (fun hU => ?_) (fun hU => ?_)
      · conv => whnf
        first | refine ⟨fun _ => ?_, fun q => absurd (by decide) q⟩ | refine ⟨fun q => absurd q (by decide), fun _ => ?_⟩
        conv => whnf
        refine s_R_isBrace e2 e3 hu (fun _ hb => ?_) (fun hb => ?_)
        · have hwf := pbra_wf e2 e3 hU
          have hdn : ∀ a, a < n → dg u a < n := fun a ha => (un_iff.mp (hU.2 a ha)).2.1
          have hnn : n * n ≤ 6 * 6 := Nat.mul_le_mul e3 e3
          have hz := n_nz (b := n) (by omega) (by omega)
          conv => whnf
          first | refine ⟨fun _ => ?_, fun q => absurd (by decide) q⟩ | refine ⟨fun q => absurd q (by decide), fun _ => ?_⟩
          conv => whnf
          refine ⟨vp_in_nI (by decide) (by decide), ?_⟩
          conv => whnf
          refine hKz _ _ _ _ ?_
          rw [nI_clamp (by omega)]
          refine r_build (m := 4) (N := n * n) (pos := sp n) (vl := fun k => dg u (k / n) * (k % n) % n) (vr := fun k => qt n (k / n) (dg u (dg u (k / n) * (k % n) % n))) (P := fun k M' => V 0 G mi_R_brace Z 56 [(0, zr 20 0), (1, zi (nI to)), (2, zi (nI n)), (3, zi (nI u)), (4, zi (nI k))] [] M') (fun k hk => sp_lt e3 hk) (sp_inj e3) (fun M' hl => ?_) (fun k hk M' hl h => ?_)
          · have hB : isRM M' 4 (pbra n u) := sp_isRM (A := pbra n u) hl hwf zset_eq (fun k hk => ⟨rfl, rfl⟩)
            have g0 : rf (rgm 4) M M' := rf_trans (rf_set (Or.inl ⟨rfl, rfl⟩)) (laid_gm hl)
            refine z_run (cuts := cu_R_brace) ok_R_brace (fun Kz hKz => ?_)
            conv => whnf
            rw [pk_mul, nI_leI (by omega) (by omega)]
            refine ⟨fun _ => ?_, fun q => absurd (by omega) q⟩
            conv => whnf
            refine s_R_comes e1 hB (fun M2 g1 g2 => ?_)
            conv => whnf
            exact h4 e1 e2 e3 hU hb M2 (RS_put (RS_rf hR g0 (rgm_no (by decide))) e1 g1 g2) (rsm_trans (rsm_gm g0) (rsm_gm g1))
          · have hd := dvlt hk
            have hd1 := hdn _ hd.1
            have hm1 : dg u (k / n) * (k % n) ≤ 6 * 6 := Nat.mul_le_mul (by omega) (by omega)
            have ht1 : dg u (k / n) * (k % n) % n < n := Nat.mod_lt _ (by omega)
            generalize hT : dg u (k / n) * (k % n) % n = T at *
            have hd2 := hdn T ht1
            obtain ⟨q1, q2, q3⟩ := qt_is n (by omega) e2 (dg u T) hd2 (hU.2 T ht1) (k / n) hd.1
            obtain ⟨ed, em⟩ := n_dm (k := k) (n := n) (by omega) (by omega) (by omega)
            have inner : ∀ c, c ≤ n → ∀ v, v = (if qt n (k / n) (dg u T) < c then qt n (k / n) (dg u T) else 0) → V 0 G mi_R_brace Z 91 [(0, zr 20 0), (1, zi (nI to)), (2, zi (nI n)), (3, zi (nI u)), (4, zi (nI k)), (5, zi (nI (k / n))), (6, zi (nI T)), (7, zi (nI v)), (8, zi (nI c))] [] M' := by
              refine up_to ?_ ?_
              · intro v hv
                rw [if_pos q1] at hv
                refine z_run (cuts := cu_R_brace) ok_R_brace (fun Kz hKz => ?_)
                conv => whnf
                rw [nI_leI (by omega) (by omega)]
                refine ⟨fun _ => ?_, fun q => absurd (by omega) q⟩
                conv => whnf
                refine ⟨hz, ?_⟩
                conv => whnf
                rw [em]
                refine s_R_lay (by decide) (by omega) (by omega) ?_
                conv => whnf
                refine hKz _ _ _ _ ?_
                rw [nI_1', hv]
                exact h
              · intro c hc ih v hv
                have hm2 : dg u T * c ≤ 6 * 6 := Nat.mul_le_mul (by omega) (by omega)
                have hr2 : dg u T * c % n < n := Nat.mod_lt _ (by omega)
                refine z_run (cuts := cu_R_brace) ok_R_brace (fun Kz hKz => ?_)
                conv => whnf
                rw [nI_leI (by omega) (by omega)]
                refine ⟨fun q => absurd q (by omega), fun _ => ?_⟩
                conv => whnf
                refine s_R_digit hu (by omega) ?_
                conv => whnf
                rw [pk_mul]
                refine ⟨hz, ?_⟩
                conv => whnf
                rw [n_mod (by show dg u T * c < 2 ^ 31; omega) (by omega) (by omega), n_ne (by show dg u T * c % n < 2 ^ 31; omega) (by omega)]
                refine ⟨fun q => ?_, fun q => ?_⟩
                · conv => whnf
                  refine hKz _ _ _ _ ?_
                  rw [nI_1']
                  refine ih v ?_
                  have hne : qt n (k / n) (dg u T) ≠ c := fun e => q (by rw [← e]; exact q2)
                  by_cases z : qt n (k / n) (dg u T) < c
                  · rw [hv, if_pos z, if_pos (by omega)]
                  · rw [hv, if_neg z, if_neg (by omega)]
                · conv => whnf
                  refine hKz _ _ _ _ ?_
                  rw [nI_1']
                  refine ih c ?_
                  have := q3 c hc (Classical.not_not.mp q)
                  rw [if_pos (by omega)]
                  exact this
            refine z_run (cuts := cu_R_brace) ok_R_brace (fun Kz hKz => ?_)
            conv => whnf
            rw [pk_mul, nI_leI (by omega) (by omega)]
            refine ⟨fun q => absurd q (by omega), fun _ => ?_⟩
            conv => whnf
            refine ⟨hz, ?_⟩
            conv => whnf
            rw [ed]
            refine s_R_digit hu (by omega) ?_
            conv => whnf
            refine ⟨hz, ?_⟩
            conv => whnf
            rw [em, pk_mul]
            refine ⟨hz, ?_⟩
            conv => whnf
            refine hKz _ _ _ _ ?_
            rw [n_mod (by show dg u (k / n) * (k % n) < 2 ^ 31; omega) (by omega) (by omega)]
            have hT2 : u / 8 ^ (k / n) % 8 * (k % n) % n = T := hT
            rw [hT2]
            exact inner 0 (Nat.zero_le _) 0 (by rw [if_neg (Nat.not_lt_zero _)])
        · conv => whnf
          first | refine ⟨fun _ => ?_, fun q => absurd (by decide) q⟩ | refine ⟨fun q => absurd q (by decide), fun _ => ?_⟩
          conv => whnf
          exact h3 e1 e2 e3 hU (fun q => hb ⟨hU, q⟩)
      · conv => whnf
        first | refine ⟨fun _ => ?_, fun q => absurd (by decide) q⟩ | refine ⟨fun q => absurd q (by decide), fun _ => ?_⟩
        conv => whnf
        exact h2 e1 (fun q => hU q.2.2)
    · conv => whnf
      first | refine ⟨fun _ => ?_, fun q => absurd (by decide) q⟩ | refine ⟨fun q => absurd q (by decide), fun _ => ?_⟩
      conv => whnf
      exact h2 e1 (fun q => e2 ⟨q.1, q.2.1, by omega⟩)
  · conv => whnf
    first | refine ⟨fun _ => ?_, fun q => absurd (by decide) q⟩ | refine ⟨fun q => absurd q (by decide), fun _ => ?_⟩
    conv => whnf
    exact h1 e1
theorem r_braces {n i : Nat} (hn : n < 2 ^ 32) (hi : i < 2 ^ 32) (h1 : ¬ (2 ≤ n ∧ n ≤ 6) ∨ (2 ^ 31 ≤ i ∧ i ≠ 4294967295) → Z (some (zi (-1000002))) M) (h2 : 2 ≤ n → n ≤ 6 → i = 4294967295 → ∀ p, isBr n p → Z (some (zi (nI (cnt p (8 ^ n))))) M) (h3 : 2 ≤ n → n ≤ 6 → i < 2 ^ 31 → ∀ p, isBr n p → ∀ v, v < 8 ^ n → p v = true → cnt p v = i → Z (some (zi (nI v))) M) (h4 : 2 ≤ n → n ≤ 6 → i < 2 ^ 31 → ∀ p, isBr n p → cnt p (8 ^ n) ≤ i → Z (some (zi (-1))) M) : Ctr 0 G mi_R_braces [zr 20 0, zi (nI n), zi (nI i)] M Z := by
  refine go_R_braces (fun Kz hKz => ?_)
  conv => whnf
  refine s_R_in hn (by decide) (by decide) (fun e2 e3 _ => ?_) (fun e2 => ?_)
  · conv => whnf
    first | refine ⟨fun _ => ?_, fun q => absurd (by decide) q⟩ | refine ⟨fun q => absurd q (by decide), fun _ => ?_⟩
    conv => whnf
    rw [n_m1le hi]
    refine ⟨fun q => ?_, fun q => ?_⟩
    · obtain ⟨p, hp⟩ := isBr_ex n
      have h8 := p8_le e3
      have e8 : 2 ^ (3 * n) = 8 ^ n := by rw [Nat.pow_mul]
      have lp : ∀ c, c ≤ 8 ^ n → ∀ x : Int32, ((x = -1 ∧ (i < 2 ^ 31 → cnt p c ≤ i)) ∨ (i < 2 ^ 31 ∧ ∃ v, v < c ∧ p v = true ∧ cnt p v = i ∧ x = nI v)) → V 0 G mi_R_braces Z 30 [(1, zi (nI n)), (2, zi (nI i)), (3, zi (nI (cnt p c))), (4, zi x), (5, zi (nI c))] [] M := by
        refine up_to ?_ ?_
        · intro x hx
          refine z_run (cuts := cu_R_braces) ok_R_braces (fun Kz hKz => ?_)
          conv => whnf
          rw [pk_mul, n_shl _ _ (by omega), Nat.one_mul, e8, nI_leI (by omega) (by omega)]
          refine ⟨fun _ => ?_, fun q => absurd (by omega) q⟩
          conv => whnf
          rw [n_m1ne hi]
          refine ⟨fun z => ?_, fun z => ?_⟩
          · conv => whnf
            rcases hx with ⟨rfl, hx⟩ | ⟨_, v, v1, v2, v3, rfl⟩
            · exact h4 e2 e3 (by omega) p hp (hx (by omega))
            · exact h3 e2 e3 (by omega) p hp v v1 v2 v3
          · conv => whnf
            exact h2 e2 e3 (Classical.not_not.mp z) p hp
        · intro c hc ih x hx
          have hcl := cnt_le p c
          refine z_run (cuts := cu_R_braces) ok_R_braces (fun Kz hKz => ?_)
          conv => whnf
          rw [pk_mul, n_shl _ _ (by omega), Nat.one_mul, e8, nI_leI (by omega) (by omega)]
          refine ⟨fun q => absurd q (by omega), fun _ => ?_⟩
          conv => whnf
          refine s_R_isBrace e2 e3 (by omega) (fun hU hb => ?_) (fun hb => ?_)
          · have hpc : p c = true := (hp c).mpr ⟨hU, hb⟩
            have ec : cnt p (c + 1) = cnt p c + 1 := by rw [cnt, hpc]; rfl
            rw [ec] at ih
            conv => whnf
            first | refine ⟨fun _ => ?_, fun q => absurd (by decide) q⟩ | refine ⟨fun q => absurd q (by decide), fun _ => ?_⟩
            conv => whnf
            rw [n_eq (by omega) hi]
            refine ⟨fun z => ?_, fun z => ?_⟩
            · conv => whnf
              refine hKz _ _ _ _ ?_
              rw [nI_1', nI_1']
              refine ih x ?_
              rcases hx with ⟨rfl, hx⟩ | ⟨v0, v, v1, v2, v3, rfl⟩
              · exact Or.inl ⟨rfl, fun y => by have := hx y; omega⟩
              · exact Or.inr ⟨v0, v, by omega, v2, v3, rfl⟩
            · conv => whnf
              refine hKz _ _ _ _ ?_
              rw [nI_1', nI_1']
              exact ih (nI c) (Or.inr ⟨by omega, c, by omega, hpc, Classical.not_not.mp z, rfl⟩)
          · have hpc : p c = false := Bool.eq_false_iff.mpr (fun y => hb ((hp c).mp y))
            have ec : cnt p (c + 1) = cnt p c := by rw [cnt, hpc]; rfl
            rw [ec] at ih
            conv => whnf
            first | refine ⟨fun _ => ?_, fun q => absurd (by decide) q⟩ | refine ⟨fun q => absurd q (by decide), fun _ => ?_⟩
            conv => whnf
            refine hKz _ _ _ _ ?_
            rw [nI_1']
            refine ih x ?_
            rcases hx with ⟨rfl, hx⟩ | ⟨v0, v, v1, v2, v3, rfl⟩
            · exact Or.inl ⟨rfl, hx⟩
            · exact Or.inr ⟨v0, v, by omega, v2, v3, rfl⟩
      conv => whnf
      refine hKz _ _ _ _ ?_
      exact lp 0 (Nat.zero_le _) (-1) (Or.inl ⟨rfl, fun _ => Nat.zero_le _⟩)
    · conv => whnf
      exact h1 (by omega)
  · conv => whnf
    first | refine ⟨fun _ => ?_, fun q => absurd (by decide) q⟩ | refine ⟨fun q => absurd q (by decide), fun _ => ?_⟩
    conv => whnf
    exact h1 (by omega)
end
