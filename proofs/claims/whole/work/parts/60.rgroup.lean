/-! the reference: groups, braces -/
theorem fin_cases_eq {g i : Nat} (h : g < i + 1) : g < i ∨ g = i := by omega
section
variable {G : ZG} {M : ZM} {Z : Option ZV → ZM → Prop} {S : ZS}
theorem s_R_times {kind n x y : Nat} (h : isG kind n) (hx : x < n) (hy : y < n) (hZ : Z (some (zi (nI (gp kind n x y)))) M) : Ctr 0 G mi_R_times [zi (nI kind), zi (nI n), zi (nI x), zi (nI y)] M Z := by
  have h6 := isG_le h
  rcases h with ⟨rfl, _, _⟩ | ⟨rfl, rfl⟩ | ⟨rfl, rfl⟩
  · refine go_R_times (fun Kz hKz => ?_)
    conv => whnf
    first | refine ⟨fun _ => ?_, fun q => absurd (by decide) q⟩ | refine ⟨fun q => absurd q (by decide), fun _ => ?_⟩
    conv => whnf
    refine ⟨n_nz (by omega) (by omega), ?_⟩
    conv => whnf
    rw [nI_add, n_mod (by omega) (by omega) (by omega)]
    exact hZ
  · refine go_R_times (fun Kz hKz => ?_)
    conv => whnf
    first | refine ⟨fun _ => ?_, fun q => absurd (by decide) q⟩ | refine ⟨fun q => absurd q (by decide), fun _ => ?_⟩
    conv => whnf
    first | refine ⟨fun _ => ?_, fun q => absurd (by decide) q⟩ | refine ⟨fun q => absurd q (by decide), fun _ => ?_⟩
    conv => whnf
    rw [n_xor]
    exact hZ
  · have e3 : ¬ nI 3 = nI 0 := by decide
    have e2 : ¬ nI 2 = nI 0 := by decide
    refine go_R_times (fun Kz hKz => ?_)
    conv => whnf
    first | refine ⟨fun _ => ?_, fun q => absurd (by decide) q⟩ | refine ⟨fun q => absurd q (by decide), fun _ => ?_⟩
    conv => whnf
    first | refine ⟨fun _ => ?_, fun q => absurd (by decide) q⟩ | refine ⟨fun q => absurd q (by decide), fun _ => ?_⟩
    conv => whnf
    refine ⟨e3, ?_⟩
    conv => whnf
    rw [pk_div (by omega) (by decide) (by decide), n_ne (by omega) (by decide)]
    refine ⟨fun q => ?_, fun q => ?_⟩
    · have hv : gp 2 6 x y = (x % 3 + y % 3) % 3 + 3 * ((x / 3 + y / 3) % 2) := by
        unfold gp
        rw [if_neg (by decide), if_neg (by decide), if_pos (by omega)]
      rw [hv] at hZ
      conv => whnf
      refine ⟨e3, ?_⟩
      conv => whnf
      refine ⟨e3, ?_⟩
      conv => whnf
      rw [n_mod (a := x) (by omega) (by decide) (by decide), n_mod (a := y) (by omega) (by decide) (by decide), nI_add]
      refine ⟨e3, ?_⟩
      conv => whnf
      rw [n_mod (by omega) (by decide) (by decide)]
      refine ⟨e3, ?_⟩
      conv => whnf
      refine ⟨e3, ?_⟩
      conv => whnf
      rw [pk_div (a := x) (by omega) (by decide) (by decide), pk_div (a := y) (by omega) (by decide) (by decide), nI_add]
      refine ⟨e2, ?_⟩
      conv => whnf
      rw [n_mod (by omega) (by decide) (by decide), pk_mul, nI_add]
      exact hZ
    · have hv : gp 2 6 x y = (x % 3 + (3 - y % 3)) % 3 + 3 * ((x / 3 + y / 3) % 2) := by
        unfold gp
        rw [if_neg (by decide), if_neg (by decide), if_neg (by omega)]
        omega
      rw [hv] at hZ
      conv => whnf
      refine ⟨e3, ?_⟩
      conv => whnf
      rw [n_mod (a := y) (by omega) (by decide) (by decide), pk_sub (by omega)]
      refine ⟨e3, ?_⟩
      conv => whnf
      rw [n_mod (a := x) (by omega) (by decide) (by decide), nI_add]
      refine ⟨e3, ?_⟩
      conv => whnf
      rw [n_mod (by omega) (by decide) (by decide)]
      refine ⟨e3, ?_⟩
      conv => whnf
      refine ⟨e3, ?_⟩
      conv => whnf
      rw [pk_div (a := x) (by omega) (by decide) (by decide), pk_div (a := y) (by omega) (by decide) (by decide), nI_add]
      refine ⟨e2, ?_⟩
      conv => whnf
      rw [n_mod (by omega) (by decide) (by decide), pk_mul, nI_add]
      exact hZ
theorem s_R_backFrom {kind n x : Nat} (h : isG kind n) (hx : x < n) (hZ : Z (some (zi (nI (gi kind n x)))) M) : Ctr 0 G mi_R_backFrom [zi (nI kind), zi (nI n), zi (nI x)] M Z := by
  have h6 := isG_le h
  obtain ⟨g1, g2, g3⟩ := gi_is kind n h x hx
  have lp : ∀ i, i ≤ n → ∀ v, v = (if gi kind n x < i then gi kind n x else 0) → V 0 G mi_R_backFrom Z 5 [(0, zi (nI kind)), (1, zi (nI n)), (2, zi (nI x)), (3, zi (nI v)), (4, zi (nI i))] [] M := by
    refine up_to ?_ ?_
    · intro v hv
      rw [if_pos g1] at hv
      refine z_run (cuts := cu_R_backFrom) ok_R_backFrom (fun Kz hKz => ?_)
      conv => whnf
      rw [nI_leI (by omega) (by omega)]
      refine ⟨fun _ => ?_, fun q => absurd (by omega) q⟩
      conv => whnf
      rw [hv]
      exact hZ
    · intro i hi ih v hv
      have hb := gp_lt kind n h x hx i hi
      refine z_run (cuts := cu_R_backFrom) ok_R_backFrom (fun Kz hKz => ?_)
      conv => whnf
      rw [nI_leI (by omega) (by omega)]
      refine ⟨fun q => absurd q (by omega), fun _ => ?_⟩
      conv => whnf
      refine s_R_times h hx hi ?_
      conv => whnf
      rw [n_ne (by omega) (by decide)]
      refine ⟨fun q => ?_, fun q => ?_⟩
      · conv => whnf
        refine hKz _ _ _ _ ?_
        rw [nI_1']
        refine ih v ?_
        have hne : gi kind n x ≠ i := fun e => q (by rw [← e]; exact g2)
        by_cases z : gi kind n x < i
        · rw [hv, if_pos z, if_pos (by omega)]
        · rw [hv, if_neg z, if_neg (by omega)]
      · conv => whnf
        refine hKz _ _ _ _ ?_
        rw [nI_1']
        refine ih i ?_
        have := g3 i hi (Classical.not_not.mp q)
        rw [if_pos (by omega)]
        exact this
  refine go_R_backFrom (fun Kz hKz => ?_)
  conv => whnf
  refine hKz _ _ _ _ ?_
  exact lp 0 (Nat.zero_le _) 0 (by rw [if_neg (Nat.not_lt_zero _)])
theorem r_group {to kind n : Nat} (hto : to < 2 ^ 32) (hk : kind < 2 ^ 32) (hn : n < 2 ^ 32) (hR : RS M S) (h1 : ¬ to < 4 → Z (some (zi (-1000001))) M) (h2 : to < 4 → ¬ isG kind n → Z (some (zi (-1000002))) M) (h3 : to < 4 → isG kind n → ∀ M', RS M' (upS S to (pgrp kind n)) → rsm M M' → Z (some (zi (nI n))) M') : Ctr 0 G mi_R_group [zr 20 0, zi (nI to), zi (nI kind), zi (nI n)] M Z := by
  have tail : to < 4 → isG kind n → V 0 G mi_R_group Z 68 [(0, zr 20 0), (1, zi (nI to)), (2, zi (nI kind)), (3, zi (nI n)), (4, zi (nI 0))] [] (zset 21 0 4 (nI n) M) := by
    intro e1 hg
    have h6 := isG_le hg
    have hnn : n * n ≤ 6 * 6 := Nat.mul_le_mul h6.2 h6.2
    have hz := n_nz (b := n) (by omega) (by omega)
    refine r_build (m := 4) (N := n * n) (pos := sp n) (vl := fun k => gp kind n (gp kind n (k / n) (k % n)) (gi kind n (k / n))) (vr := fun k => k / n) (P := fun k M' => V 0 G mi_R_group Z 68 [(0, zr 20 0), (1, zi (nI to)), (2, zi (nI kind)), (3, zi (nI n)), (4, zi (nI k))] [] M') (fun k hk => sp_lt h6.2 hk) (sp_inj h6.2) (fun M' hl => ?_) (fun k hk M' hl h => ?_)
    · have hB : isRM M' 4 (pgrp kind n) := sp_isRM (A := pgrp kind n) hl (pgrp_wf hg) zset_eq (fun k hk => ⟨rfl, rfl⟩)
      have g0 : rf (rgm 4) M M' := rf_trans (rf_set (Or.inl ⟨rfl, rfl⟩)) (laid_gm hl)
      refine z_run (cuts := cu_R_group) ok_R_group (fun Kz hKz => ?_)
      conv => whnf
      rw [pk_mul, nI_leI (by omega) (by omega)]
      refine ⟨fun _ => ?_, fun q => absurd (by omega) q⟩
      conv => whnf
      refine s_R_comes e1 hB (fun M2 g1 g2 => ?_)
      conv => whnf
      exact h3 e1 hg M2 (RS_put (RS_rf hR g0 (rgm_no (by decide))) e1 g1 g2) (rsm_trans (rsm_gm g0) (rsm_gm g1))
    · have hd := dvlt hk
      have b1 := gp_lt kind n hg _ hd.1 _ hd.2
      have b2 := (gi_is kind n hg _ hd.1).1
      obtain ⟨ed, em⟩ := n_dm (k := k) (n := n) (by omega) (by omega) (by omega)
      refine z_run (cuts := cu_R_group) ok_R_group (fun Kz hKz => ?_)
      conv => whnf
      rw [pk_mul, nI_leI (by omega) (by omega)]
      refine ⟨fun q => absurd q (by omega), fun _ => ?_⟩
      conv => whnf
      refine ⟨hz, ?_⟩
      conv => whnf
      refine ⟨hz, ?_⟩
      conv => whnf
      rw [ed, em]
      refine s_R_times hg hd.1 hd.2 ?_
      conv => whnf
      refine s_R_backFrom hg hd.1 ?_
      conv => whnf
      refine ⟨hz, ?_⟩
      conv => whnf
      rw [em]
      refine s_R_times hg b1 b2 ?_
      conv => whnf
      refine s_R_lay (by decide) (by omega) (by omega) ?_
      conv => whnf
      refine hKz _ _ _ _ ?_
      rw [nI_1']
      exact h
  refine go_R_group (fun Kz hKz => ?_)
  conv => whnf
  refine s_R_isPlace hto (fun e1 => ?_) (fun e1 => ?_)
  · conv => whnf
    first | refine ⟨fun _ => ?_, fun q => absurd (by decide) q⟩ | refine ⟨fun q => absurd q (by decide), fun _ => ?_⟩
    conv => whnf
    refine s_R_in hk (by decide) (by decide) (fun _ e2 _ => ?_) (fun e2 => ?_)
    · conv => whnf
      first | refine ⟨fun _ => ?_, fun q => absurd (by decide) q⟩ | refine ⟨fun q => absurd q (by decide), fun _ => ?_⟩
      conv => whnf
      refine s_R_in hn (by decide) (by decide) (fun e3 e4 _ => ?_) (fun e3 => ?_)
      · conv => whnf
        first | refine ⟨fun _ => ?_, fun q => absurd (by decide) q⟩ | refine ⟨fun q => absurd q (by decide), fun _ => ?_⟩
        conv => whnf
        rw [n_ne (by omega) (by decide)]
        refine ⟨fun q => ?_, fun q => ?_⟩
        · conv => whnf
          rw [n_ne (by omega) (by decide)]
          refine ⟨fun q2 => ?_, fun q2 => ?_⟩
          · conv => whnf
            refine ⟨vp_in_nI (by decide) (by decide), ?_⟩
            conv => whnf
            refine hKz _ _ _ _ ?_
            rw [nI_clamp (by omega)]
            exact tail e1 (Or.inl ⟨by omega, e3, e4⟩)
          · conv => whnf
            rw [nI_eq (by omega) (by decide)]
            refine ⟨fun q3 => ?_, fun q3 => ?_⟩
            · conv => whnf
              refine ⟨vp_in_nI (by decide) (by decide), ?_⟩
              conv => whnf
              refine hKz _ _ _ _ ?_
              rw [nI_clamp (by omega)]
              exact tail e1 (Or.inr (Or.inr ⟨Classical.not_not.mp q2, q3⟩))
            · conv => whnf
              exact h2 e1 (by unfold isG; omega)
        · conv => whnf
          rw [n_ne (by omega) (by decide)]
          refine ⟨fun q2 => ?_, fun q2 => ?_⟩
          · conv => whnf
            exact h2 e1 (by unfold isG; omega)
          · conv => whnf
            rw [n_ne (by omega) (by decide)]
            refine ⟨fun _ => ?_, fun z => absurd (by omega) z⟩
            conv => whnf
            refine ⟨vp_in_nI (by decide) (by decide), ?_⟩
            conv => whnf
            refine hKz _ _ _ _ ?_
            rw [nI_clamp (by omega)]
            exact tail e1 (Or.inr (Or.inl ⟨Classical.not_not.mp q, Classical.not_not.mp q2⟩))
      · conv => whnf
        first | refine ⟨fun _ => ?_, fun q => absurd (by decide) q⟩ | refine ⟨fun q => absurd q (by decide), fun _ => ?_⟩
        conv => whnf
        exact h2 e1 (by unfold isG; omega)
    · conv => whnf
      first | refine ⟨fun _ => ?_, fun q => absurd (by decide) q⟩ | refine ⟨fun q => absurd q (by decide), fun _ => ?_⟩
      conv => whnf
      exact h2 e1 (by unfold isG; omega)
  · conv => whnf
    first | refine ⟨fun _ => ?_, fun q => absurd (by decide) q⟩ | refine ⟨fun q => absurd q (by decide), fun _ => ?_⟩
    conv => whnf
    exact h1 e1
theorem s_R_isUnit {n m : Nat} (h2 : 2 ≤ n) (h6 : n ≤ 6) (hm : m < 8) (hZ : Z (some (zi (b2i (un n m)))) M) : Ctr 0 G mi_R_isUnit [zi (nI m), zi (nI n)] M Z := by
  have lp : ∀ j, j ≤ n - 1 → ∀ b : Bool, (b = true ↔ (0 < m ∧ m < n ∧ ∀ e, e < j + 2 → 2 ≤ e → ¬ (n % e = 0 ∧ m % e = 0))) → V 0 G mi_R_isUnit Z 13 [(0, zi (nI m)), (1, zi (nI n)), (2, zi (b2i b)), (3, zi (nI (j + 2)))] [] M := by
    have fin : ∀ j, j ≤ n - 1 → ∀ b : Bool, (b = true ↔ (0 < m ∧ m < n ∧ ∀ e, e < j + 2 → 2 ≤ e → ¬ (n % e = 0 ∧ m % e = 0))) → (j = n - 1 ∨ b = false) → b = un n m := by
      intro j hj b hb hor
      rw [Bool.eq_iff_iff, hb, un_iff]
      constructor
      · rintro ⟨a1, a2, a3⟩
        refine ⟨a1, a2, fun d d1 d2 => ?_⟩
        rcases hor with q | q
        · exact a3 d (by omega) d2
        · rw [q] at hb
          exact absurd (hb.mpr ⟨a1, a2, a3⟩) (by decide)
      · rintro ⟨a1, a2, a3⟩
        refine ⟨a1, a2, fun e e1 e2 q => ?_⟩
        rcases Nat.lt_or_ge e n with z | z
        · exact a3 e z e2 q
        · have : e = n := by omega
          rw [this, Nat.mod_eq_of_lt a2] at q
          omega
    refine up_to ?_ ?_
    · intro b hb
      have hf := fin (n - 1) (Nat.le_refl _) b hb (Or.inl rfl)
      refine z_run (cuts := cu_R_isUnit) ok_R_isUnit (fun Kz hKz => ?_)
      conv => whnf
      rw [nI_ltI (by omega) (by omega)]
      refine ⟨fun _ => ?_, fun q => absurd (by omega) q⟩
      conv => whnf
      rw [hf]
      cases hb2 : un n m with
      | true => rw [hb2] at hZ; exact ⟨Or.inr rfl, hZ⟩
      | false => rw [hb2] at hZ; exact ⟨Or.inl rfl, hZ⟩
    · intro j hj ih b hb
      have hz := n_nz (b := j + 2) (by omega) (by omega)
      refine z_run (cuts := cu_R_isUnit) ok_R_isUnit (fun Kz hKz => ?_)
      conv => whnf
      rw [nI_ltI (by omega) (by omega)]
      refine ⟨fun q => absurd q (by omega), fun _ => ?_⟩
      conv => whnf
      cases hb2 : b with
      | false =>
        have hf := fin j (by omega) b hb (Or.inr hb2)
        rw [hb2] at hf
        rw [← hf] at hZ
        first | refine ⟨fun _ => ?_, fun q => absurd (by decide) q⟩ | refine ⟨fun q => absurd q (by decide), fun _ => ?_⟩
        conv => whnf
        exact ⟨Or.inl rfl, hZ⟩
      | true =>
        have hb3 := hb.mp hb2
        have nxt : ∀ c : Bool, (c = true ↔ ¬ (n % (j + 2) = 0 ∧ m % (j + 2) = 0)) → (c = true ↔ (0 < m ∧ m < n ∧ ∀ e, e < j + 1 + 2 → 2 ≤ e → ¬ (n % e = 0 ∧ m % e = 0))) := by
          intro c hc
          rw [hc]
          constructor
          · intro q
            refine ⟨hb3.1, hb3.2.1, fun e e1 e2 => ?_⟩
            rcases Nat.lt_or_ge e (j + 2) with z | z
            · exact hb3.2.2 e z e2
            · rw [show e = j + 2 by omega]; exact q
          · intro q
            exact q.2.2 (j + 2) (by omega) (by omega)
        first | refine ⟨fun _ => ?_, fun q => absurd (by decide) q⟩ | refine ⟨fun q => absurd q (by decide), fun _ => ?_⟩
        conv => whnf
        first | refine ⟨fun _ => ?_, fun q => absurd (by decide) q⟩ | refine ⟨fun q => absurd q (by decide), fun _ => ?_⟩
        conv => whnf
        refine ⟨hz, ?_⟩
        conv => whnf
        rw [n_mod (by omega) (by omega) (by omega), n_ne (Nat.lt_trans (Nat.mod_lt _ (by omega)) (by omega)) (by decide)]
        refine ⟨fun q => ?_, fun q => ?_⟩
        · conv => whnf
          refine hKz _ _ _ _ ?_
          rw [nI_1']
          exact ih true (nxt true (by simp; omega))
        · conv => whnf
          refine ⟨hz, ?_⟩
          conv => whnf
          rw [n_mod (a := m) (by omega) (by omega) (by omega), nI_eq (Nat.lt_trans (Nat.mod_lt _ (by omega)) (by omega)) (by decide)]
          refine ⟨fun q2 => ?_, fun q2 => ?_⟩
          · conv => whnf
            refine hKz _ _ _ _ ?_
            rw [nI_1']
            exact ih false (nxt false (by simp; omega))
          · conv => whnf
            refine hKz _ _ _ _ ?_
            rw [nI_1']
            exact ih true (nxt true (by simp; omega))
  have hstart : ∀ b : Bool, (b = true ↔ (0 < m ∧ m < n)) → (b = true ↔ (0 < m ∧ m < n ∧ ∀ e, e < 0 + 2 → 2 ≤ e → ¬ (n % e = 0 ∧ m % e = 0))) := fun b hb => by
    rw [hb]
    exact ⟨fun q => ⟨q.1, q.2, fun e e1 e2 => by omega⟩, fun q => ⟨q.1, q.2.1⟩⟩
  refine go_R_isUnit (fun Kz hKz => ?_)
  conv => whnf
  rw [pk_sub (by omega), nI_l (show n - 1 < 2 ^ 31 by omega)]
  refine s_R_in (by omega) (by decide) (by omega) (fun e1 e2 _ => ?_) (fun e1 => ?_)
  · conv => whnf
    refine hKz _ _ _ _ ?_
    exact lp 0 (Nat.zero_le _) true (hstart true (by simp; omega))
  · conv => whnf
    refine hKz _ _ _ _ ?_
    exact lp 0 (Nat.zero_le _) false (hstart false (by simp; omega))
theorem s_R_areUnits {n u : Nat} (h2 : 2 ≤ n) (h6 : n ≤ 6) (hu : u < 2 ^ 32) (h1 : areU n u → Z (some (zi (nI 1))) M) (h0 : ¬ areU n u → Z (some (zi (nI 0))) M) : Ctr 0 G mi_R_areUnits [zi (nI u), zi (nI n)] M Z := by
  have lp : ∀ i, i ≤ n → ∀ b : Bool, (b = true ↔ (u < 8 ^ n ∧ ∀ a, a < i → un n (dg u a) = true)) → V 0 G mi_R_areUnits Z 8 [(0, zi (nI u)), (1, zi (nI n)), (2, zi (b2i b)), (3, zi (nI i))] [] M := by
    refine up_to ?_ ?_
    · intro b hb
      refine z_run (cuts := cu_R_areUnits) ok_R_areUnits (fun Kz hKz => ?_)
      conv => whnf
      rw [nI_leI (by omega) (by omega)]
      refine ⟨fun _ => ?_, fun q => absurd (by omega) q⟩
      conv => whnf
      cases hb2 : b with
      | true => exact ⟨Or.inr rfl, h1 (hb.mp hb2)⟩
      | false => exact ⟨Or.inl rfl, h0 (fun q => by rw [hb.mpr q] at hb2; cases hb2)⟩
    · intro i hi ih b hb
      have hd := dg_lt u i
      refine z_run (cuts := cu_R_areUnits) ok_R_areUnits (fun Kz hKz => ?_)
      conv => whnf
      rw [nI_leI (by omega) (by omega)]
      refine ⟨fun q => absurd q (by omega), fun _ => ?_⟩
      conv => whnf
      cases hb2 : b with
      | false =>
        first | refine ⟨fun _ => ?_, fun q => absurd (by decide) q⟩ | refine ⟨fun q => absurd q (by decide), fun _ => ?_⟩
        conv => whnf
        exact ⟨Or.inl rfl, h0 (fun q => by rw [hb.mpr ⟨q.1, fun a ha => q.2 a (by omega)⟩] at hb2; cases hb2)⟩
      | true =>
        have hb3 := hb.mp hb2
        first | refine ⟨fun _ => ?_, fun q => absurd (by decide) q⟩ | refine ⟨fun q => absurd q (by decide), fun _ => ?_⟩
        conv => whnf
        refine s_R_digit hu (by omega) ?_
        conv => whnf
        refine s_R_isUnit h2 h6 hd ?_
        conv => whnf
        refine hKz _ _ _ _ ?_
        rw [nI_1']
        refine ih _ ⟨fun q => ⟨hb3.1, fun a ha => ?_⟩, fun q => q.2 i (by omega)⟩
        rcases fin_cases_eq ha with z | z
        · exact hb3.2 a z
        · rw [z]; exact q
  refine go_R_areUnits (fun Kz hKz => ?_)
  conv => whnf
  refine s_R_isCode hu h6 ?_
  conv => whnf
  refine hKz _ _ _ _ ?_
  exact lp 0 (Nat.zero_le _) _ (by rw [decide_eq_true_iff]; exact ⟨fun q => ⟨q, fun a ha => absurd ha (Nat.not_lt_zero _)⟩, fun q => q.1⟩)
end
