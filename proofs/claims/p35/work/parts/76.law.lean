/-! the law's walk, behind its start -/
def S0 : ZS := (fun _ => p0, fun _ => [])
theorem np0 : ¬ isP 0 2 := fun h => by have := (isP_facts h).2.1 0 1 (by decide) (by decide) (by decide); cases this
theorem np0n {n : Nat} (hn : 2 ≤ n) : ¬ isP 0 n := fun h => by
  have := (isP_facts h).2.1 0 1 (by omega) (by omega) (by decide)
  cases this
theorem npm {n : Nat} (h6 : n ≤ 6) : ¬ isP 4294967295 n := fun h => by
  have := p8_le h6
  have := h.1.1
  omega
theorem p82 : isP 8 2 := ⟨⟨by decide, by decide⟩, by decide⟩
theorem np64 : ¬ isP 64 2 := fun h => absurd h.1.1 (by decide)
theorem nu40 : ¬ areU 4 0 := fun h => absurd (h.2 0 (by decide)) (by decide)
theorem ng15 : ¬ isG 1 5 := fun h => by unfold isG at h; omega
section
variable {G : ZG} {M : ZM} {Z : Option ZV → ZM → Prop} {S : ZS}
theorem lw_end (hC : CS M S) : V 0 G mi_LW Z 553 [(1, zr 5 0)] [] M := by
  refine z_run (cuts := []) ok_LWf (fun Kz hKz => ?_)
  conv => whnf
  refine c_twist (by decide) (by decide) (by decide) (by decide) hC (fun z => absurd (by decide) z) (fun _ _ => ?_) (fun _ _ _ z => absurd z np0)
  conv => whnf
  refine ⟨fun z => absurd rfl z, fun _ => ?_⟩
  conv => whnf
  refine c_twist (by decide) (by decide) (by decide) (by decide) hC (fun z => absurd (by decide) z) (fun _ _ => ?_) (fun _ _ _ _ z => absurd z np64)
  conv => whnf
  refine ⟨fun z => absurd rfl z, fun _ => ?_⟩
  conv => whnf
  refine c_twist (by decide) (by decide) (by decide) (by decide) hC (fun z => absurd (by decide) z) (fun _ z => absurd ⟨by decide, p82, p82⟩ z) (fun _ _ _ _ _ M2 g1 g2 => ?_)
  conv => whnf
  refine ⟨fun z => absurd rfl z, fun _ => ?_⟩
  conv => whnf
  have e : plA (upS S 0 (ptwist 2 8 8)) 0 = ptwist 2 8 8 := rfl
  refine c_cell (by decide) (by decide) (by decide) (by decide) g1 (fun z => absurd (by rw [e]; exact ⟨by decide, by decide⟩) z) (fun _ _ z => absurd (by decide) z) (fun _ _ _ => ?_) (fun _ _ z => absurd z (by decide))
  rw [e, show (ptwist 2 8 8).2.1 0 1 = 1 from by decide]
  conv => whnf
  refine ⟨fun z => absurd rfl z, fun _ => ?_⟩
  conv => whnf
  refine c_cell (by decide) (by decide) (by decide) (by decide) g1 (fun z => absurd (by rw [e]; exact ⟨by decide, by decide⟩) z) (fun _ _ z => absurd (by decide) z) (fun _ _ z => absurd z (by decide)) (fun _ _ _ => ?_)
  rw [e, show (ptwist 2 8 8).2.2 0 1 = 0 from by decide]
  conv => whnf
  refine ⟨fun z => absurd rfl z, fun _ => ?_⟩
  conv => whnf
theorem lw_maps : ∀ d m S M, m + d = 4 → CS M S → LH M S → V 0 G mi_LW Z 299 [(1, zr 5 0), (2, zr 20 0), (3, zi (nI m))] [] M := by
  intro d
  induction d with
  | zero =>
    intro m S M hm hC hL
    have hm : m = 4 := by omega
    subst hm
    refine z_run (cuts := [(553, [1])]) ok_LWd (fun Kz hKz => ?_)
    conv => whnf
    rw [nI_leI (by decide) (by decide)]
    first | refine ⟨fun _ => ?_, fun q => absurd (by decide) q⟩ | refine ⟨fun q => absurd q (by decide), fun _ => ?_⟩
    conv => whnf
    refine hKz _ _ _ _ ?_
    exact lw_end hC
  | succ d ih =>
    intro m S M hm hC hL
    have h4 : m < 4 := by omega
    have hA := hL.2 m h4
    have hn := hA.1.1
    have ep := plA_in (S := S) h4
    have p6 : 2 ^ (S.1 m).1 ≤ 2 ^ 6 := Nat.pow_le_pow_right (by decide) hn
    have t531 : ∀ M', CS M' S → LH M' S → V 0 G mi_LW Z 531 [(1, zr 5 0), (2, zr 20 0), (3, zi (nI m)), (5, zi (nI 1))] [] M' := by
      intro M' hC hL
      refine z_run (cuts := [(299, [1, 2, 3])]) ok_LWe (fun Kz hKz => ?_)
      conv => whnf
      first | refine ⟨fun _ => ?_, fun q => absurd (by decide) q⟩ | refine ⟨fun q => absurd q (by decide), fun _ => ?_⟩
      conv => whnf
      refine h_same h4 hC hL (fun M2 g1 g2 => ?_)
      conv => whnf
      first | refine ⟨fun _ => ?_, fun q => absurd (by decide) q⟩ | refine ⟨fun q => absurd q (by decide), fun _ => ?_⟩
      conv => whnf
      refine hKz _ _ _ _ ?_
      rw [nI_1']
      exact ih (m + 1) S M2 (by omega) g1 g2
    have t524 : ∀ M', CS M' S → LH M' S → V 0 G mi_LW Z 524 [(1, zr 5 0), (2, zr 20 0), (3, zi (nI m))] [] M' := by
      intro M' hC hL
      refine z_run (cuts := [(531, [1, 2, 3, 5])]) ok_LWe (fun Kz hKz => ?_)
      conv => whnf
      refine hKz _ _ _ _ ?_
      exact t531 M' hC hL
    have t411 : ∀ M', CS M' S → LH M' S → V 0 G mi_LW Z 411 [(1, zr 5 0), (2, zr 20 0), (3, zi (nI m)), (4, zi (nI (S.1 m).1)), (5, zi (nI 1))] [] M' := by
      intro M' hC hL
      refine z_run (cuts := [(524, [1, 2, 3])]) ok_LWe (fun Kz hKz => ?_)
      conv => whnf
      first | refine ⟨fun _ => ?_, fun q => absurd (by decide) q⟩ | refine ⟨fun q => absurd q (by decide), fun _ => ?_⟩
      conv => whnf
      rw [nI_eq (by omega) (by decide)]
      refine ⟨fun q => ?_, fun q => ?_⟩
      · conv => whnf
        refine hKz _ _ _ _ ?_
        exact t524 M' hC hL
      · have q1 : ¬ (plA S m).1 = 0 := by rw [ep]; exact q
        have q2 : 0 < (plA S m).1 := by omega
        conv => whnf
        refine c_cell (by omega) (by decide) (by decide) (by decide) hC (fun z => absurd ⟨q2, q2⟩ z) (fun _ _ _ => ?_) (fun _ _ z => absurd z (by decide)) (fun _ _ z => absurd z (by decide))
        conv => whnf
        refine ⟨fun z => absurd rfl z, fun _ => ?_⟩
        conv => whnf
        rw [n_shl _ _ (by omega), Nat.one_mul]
        refine c_shut (by omega) (by omega) hC (fun z => absurd z q1) (fun _ _ => ?_) (fun _ z => absurd z (by rw [ep]; exact Nat.lt_irrefl _))
        conv => whnf
        refine ⟨fun z => absurd rfl z, fun _ => ?_⟩
        conv => whnf
        rw [n_ones]
        refine c_shut (by omega) (by decide) hC (fun z => absurd z q1) (fun _ _ => ?_) (fun _ z => absurd z (by rw [ep]; omega))
        conv => whnf
        refine ⟨fun z => absurd rfl z, fun _ => ?_⟩
        conv => whnf
        refine c_whole (by omega) (by decide) hC (fun z => absurd z q1) (fun _ v hv M2 g1 g2 => ?_)
        have hv : v = -1000002 := hv
        rw [hv]
        conv => whnf
        refine ⟨fun z => absurd rfl z, fun _ => ?_⟩
        conv => whnf
        rw [n_ones]
        refine c_whole (by omega) (by decide) g1 (fun z => absurd z q1) (fun _ v hv M3 g3 g4 => ?_)
        have hv : v = -1000002 := hv
        rw [hv]
        have hL3 := LH_csm (LH_csm hL g2) g4
        conv => whnf
        refine ⟨fun z => absurd rfl z, fun _ => ?_⟩
        conv => whnf
        refine c_rename (by omega) (by decide) (by decide) g3 (fun z => absurd z (fun y => y.elim (fun w => q1 w) (fun w => w (by decide)))) (fun _ _ _ => ?_) (fun _ _ z => absurd z (by rw [ep]; exact npm hn))
        conv => whnf
        refine ⟨fun z => absurd rfl z, fun _ => ?_⟩
        conv => whnf
        refine c_rename (by omega) (by decide) (by decide) g3 (fun _ => ?_) (fun _ z => absurd z (by decide)) (fun _ z => absurd z (by decide))
        conv => whnf
        refine ⟨fun z => absurd rfl z, fun _ => ?_⟩
        conv => whnf
        rw [nI_eq (by omega) (by decide)]
        refine ⟨fun w => ?_, fun w => ?_⟩
        · conv => whnf
          refine hKz _ _ _ _ ?_
          exact t524 M3 g3 hL3
        · conv => whnf
          refine c_rename (by omega) (by decide) (by decide) g3 (fun z => absurd z (fun y => y.elim (fun w => q1 w) (fun w => w (by decide)))) (fun _ _ _ => ?_) (fun _ _ z => absurd z (by rw [ep]; exact np0n (by omega)))
          conv => whnf
          refine ⟨fun z => absurd rfl z, fun _ => ?_⟩
          conv => whnf
          refine hKz _ _ _ _ ?_
          exact t524 M3 g3 hL3
    refine z_run (cuts := [(411, [1, 2, 3, 4, 5])]) ok_LWd (fun Kz hKz => ?_)
    conv => whnf
    rw [nI_leI (by decide) (by omega)]
    refine ⟨fun q => absurd q (by omega), fun _ => ?_⟩
    conv => whnf
    refine h_points (by omega) hA ?_
    conv => whnf
    refine h_same h4 hC hL (fun M2 g1 g2 => ?_)
    conv => whnf
    first | refine ⟨fun _ => ?_, fun q => absurd (by decide) q⟩ | refine ⟨fun q => absurd q (by decide), fun _ => ?_⟩
    conv => whnf
    refine c_cell (by omega) (by omega) (by decide) (by decide) g1 (fun _ => ?_) (fun z => absurd z (by rw [ep]; exact Nat.lt_irrefl _)) (fun z => absurd z (by rw [ep]; exact Nat.lt_irrefl _)) (fun z => absurd z (by rw [ep]; exact Nat.lt_irrefl _))
    conv => whnf
    refine ⟨fun z => absurd rfl z, fun _ => ?_⟩
    conv => whnf
    rw [n_ones]
    refine c_cell (by omega) (by decide) (by decide) (by decide) g1 (fun _ => ?_) (fun z => absurd z (by rw [ep]; omega)) (fun z => absurd z (by rw [ep]; omega)) (fun z => absurd z (by rw [ep]; omega))
    conv => whnf
    refine ⟨fun z => absurd rfl z, fun _ => ?_⟩
    conv => whnf
    refine c_put (by omega) (by omega) (by decide) (by decide) (by decide) g1 (fun _ => ?_) (fun z => absurd z (by rw [ep]; exact Nat.lt_irrefl _))
    conv => whnf
    refine ⟨fun z => absurd rfl z, fun _ => ?_⟩
    conv => whnf
    refine c_put (by omega) (by decide) (by decide) (by decide) (by omega) g1 (fun _ => ?_) (fun _ _ _ z => absurd z (by rw [ep]; exact Nat.lt_irrefl _))
    conv => whnf
    refine ⟨fun z => absurd rfl z, fun _ => ?_⟩
    conv => whnf
    refine c_orbit (by omega) (by omega) g1 (fun _ => ?_) (fun z => absurd z (by rw [ep]; exact Nat.lt_irrefl _))
    conv => whnf
    refine ⟨fun z => absurd rfl z, fun _ => ?_⟩
    conv => whnf
    first | rw [n_ones] | skip
    refine c_alike (by omega) (by decide) g1 (fun _ => ?_) (fun z => absurd z (by rw [ep]; omega))
    conv => whnf
    refine ⟨fun z => absurd rfl z, fun _ => ?_⟩
    conv => whnf
    refine hKz _ _ _ _ ?_
    exact t411 M2 g1 g2
theorem lw_turns (hN : gN G < 2 ^ 31) : ∀ d i S M, i + d = 12 → CS M S → LH M S → V 0 G mi_LW Z 117 [(0, zr 39 0), (1, zr 5 0), (2, zr 20 0), (3, zi (nI i))] [] M := by
  intro d
  induction d with
  | zero =>
    intro i S M hi hC hL
    have hi : i = 12 := by omega
    subst hi
    refine z_run (cuts := [(297, [1, 2])]) ok_LWb (fun Kz hKz => ?_)
    conv => whnf
    rw [nI_leI (by decide) (by decide)]
    first | refine ⟨fun _ => ?_, fun q => absurd (by decide) q⟩ | refine ⟨fun q => absurd q (by decide), fun _ => ?_⟩
    conv => whnf
    refine hKz _ _ _ _ ?_
    refine z_run (cuts := [(299, [1, 2, 3])]) ok_LWd (fun Kz hKz => ?_)
    conv => whnf
    refine hKz _ _ _ _ ?_
    exact lw_maps 4 0 S M rfl hC hL
  | succ d ih =>
    intro i S M hi hC hL
    have t227 : ∀ S' M', CS M' S' → LH M' S' → ∀ k, k ≤ 4 → V 0 G mi_LW Z 227 [(0, zr 39 0), (1, zr 5 0), (2, zr 20 0), (3, zi (nI i)), (7, zi (nI (cnt (fun m => decide (0 < (S'.1 m).1)) k))), (8, zi (nI (sumP S' k))), (9, zi (nI k))] [] M' := by
      intro S' M' hC hL
      refine up_to ?_ ?_
      · refine z_run (cuts := [(117, [0, 1, 2, 3])]) ok_LWc (fun Kz hKz => ?_)
        conv => whnf
        rw [nI_leI (by decide) (by decide)]
        first | refine ⟨fun _ => ?_, fun q => absurd (by decide) q⟩ | refine ⟨fun q => absurd q (by decide), fun _ => ?_⟩
        conv => whnf
        refine c_count (by decide) hC (fun _ => ?_) (fun z => absurd z (by decide)) (fun z => absurd z (by decide)) (fun z => absurd z (by decide)) (fun z => absurd (by decide) z)
        conv => whnf
        refine ⟨fun z => absurd rfl z, fun _ => ?_⟩
        conv => whnf
        refine c_count (by decide) hC (fun z => absurd z (by decide)) (fun _ => ?_) (fun z => absurd z (by decide)) (fun z => absurd z (by decide)) (fun z => absurd (by decide) z)
        conv => whnf
        refine ⟨fun _ => ?_, fun z => absurd rfl z⟩
        conv => whnf
        refine hKz _ _ _ _ ?_
        rw [nI_1']
        exact ih (i + 1) S' M' (by omega) hC hL
      · intro k hk ih2
        have hA := hL.2 k hk
        have hn := hA.1.1
        rw [cnt1, sumP] at ih2
        refine z_run (cuts := [(227, [0, 1, 2, 3, 7, 8, 9])]) ok_LWc (fun Kz hKz => ?_)
        conv => whnf
        rw [nI_leI (by decide) (by omega)]
        refine ⟨fun q => absurd q (by omega), fun _ => ?_⟩
        conv => whnf
        refine h_points (by omega) hA ?_
        conv => whnf
        rw [nI_leI (by omega) (by decide)]
        refine ⟨fun q => ?_, fun q => ?_⟩
        · rw [if_neg (by rw [decide_eq_true_iff]; omega)] at ih2
          conv => whnf
          refine h_points (by omega) hA ?_
          conv => whnf
          refine hKz _ _ _ _ ?_
          rw [nI_add, nI_add, nI_1']
          exact ih2
        · rw [if_pos (by rw [decide_eq_true_iff]; omega)] at ih2
          conv => whnf
          refine h_points (by omega) hA ?_
          conv => whnf
          refine hKz _ _ _ _ ?_
          rw [nI_add, nI_add, nI_1']
          exact ih2
    have t164 : ∀ (v : Int32) S' M', CS M' S' → LH M' S' → V 0 G mi_LW Z 164 [(0, zr 39 0), (1, zr 5 0), (2, zr 20 0), (3, zi (nI i)), (4, zi v)] [] M' := by
      intro v S' M' hC hL
      obtain ⟨m, hm, em⟩ := n_and3 (v >>> (nI 4 &&& 31))
      obtain ⟨a, ha, ea⟩ := n_and3 (v >>> (nI 6 &&& 31))
      refine z_run (cuts := [(218, [0, 1, 2, 3])]) ok_LWb (fun Kz hKz => ?_)
      conv => whnf
      rw [em]
      refine h_same hm hC hL (fun M2 g1 g2 => ?_)
      conv => whnf
      first | refine ⟨fun _ => ?_, fun q => absurd (by decide) q⟩ | refine ⟨fun q => absurd q (by decide), fun _ => ?_⟩
      conv => whnf
      rw [ea]
      refine h_same ha g1 g2 (fun M3 g3 g4 => ?_)
      conv => whnf
      first | refine ⟨fun _ => ?_, fun q => absurd (by decide) q⟩ | refine ⟨fun q => absurd q (by decide), fun _ => ?_⟩
      conv => whnf
      refine h_known hm g3 g4 (fun M4 g5 g6 => ?_)
      conv => whnf
      first | refine ⟨fun _ => ?_, fun q => absurd (by decide) q⟩ | refine ⟨fun q => absurd q (by decide), fun _ => ?_⟩
      conv => whnf
      refine hKz _ _ _ _ ?_
      refine z_run (cuts := [(227, [0, 1, 2, 3, 7, 8, 9])]) ok_LWb (fun Kz hKz => ?_)
      conv => whnf
      refine hKz _ _ _ _ ?_
      exact t227 S' M4 g5 g6 0 (by decide)
    refine z_run (cuts := [(164, [0, 1, 2, 3, 4])]) ok_LWb (fun Kz hKz => ?_)
    conv => whnf
    rw [nI_leI (by decide) (by omega)]
    refine ⟨fun q => absurd q (by omega), fun _ => ?_⟩
    conv => whnf
    rw [pk_mul]
    refine h_cell (by omega) hN (fun v => ?_)
    conv => whnf
    rw [pk_mul, nI_add]
    refine h_cell (by omega) hN (fun w => ?_)
    conv => whnf
    rw [nI_leI (by decide) (by omega)]
    refine ⟨fun q => ?_, fun q => ?_⟩
    · conv => whnf
      refine h_one (kinds := 13) (Or.inr rfl) hC hL (fun S' M' g1 g2 => ?_)
      conv => whnf
      first | refine ⟨fun _ => ?_, fun q => absurd (by decide) q⟩ | refine ⟨fun q => absurd q (by decide), fun _ => ?_⟩
      conv => whnf
      refine hKz _ _ _ _ ?_
      exact t164 v S' M' g1 g2
    · conv => whnf
      refine h_one (kinds := 4) (Or.inl rfl) hC hL (fun S' M' g1 g2 => ?_)
      conv => whnf
      first | refine ⟨fun _ => ?_, fun q => absurd (by decide) q⟩ | refine ⟨fun q => absurd q (by decide), fun _ => ?_⟩
      conv => whnf
      refine hKz _ _ _ _ ?_
      exact t164 v S' M' g1 g2
theorem lw_first (hN : gN G < 2 ^ 31) (hC : CS M S0) (hL : LH M S0) : V 0 G mi_LW Z 13 [(0, zr 39 0), (1, zr 5 0), (2, zr 20 0)] [] M := by
  have e : ∀ m, plA S0 m = p0 := fun m => by unfold plA; split <;> rfl
  refine z_run (cuts := [(117, [0, 1, 2, 3])]) ok_LWa (fun Kz hKz => ?_)
  conv => whnf
  refine c_count (by decide) hC (fun _ => ?_) (fun z => absurd z (by decide)) (fun z => absurd z (by decide)) (fun z => absurd z (by decide)) (fun z => absurd (by decide) z)
  rw [show cnt (fun m => decide (0 < (S0.1 m).1)) 4 = 0 from by decide]
  conv => whnf
  refine ⟨fun z => absurd rfl z, fun _ => ?_⟩
  conv => whnf
  refine c_count (by decide) hC (fun z => absurd z (by decide)) (fun _ => ?_) (fun z => absurd z (by decide)) (fun z => absurd z (by decide)) (fun z => absurd (by decide) z)
  rw [show sumP S0 4 = 0 from by decide]
  conv => whnf
  refine ⟨fun z => absurd rfl z, fun _ => ?_⟩
  conv => whnf
  refine c_count (by decide) hC (fun z => absurd z (by decide)) (fun z => absurd z (by decide)) (fun z => absurd z (by decide)) (fun z => absurd z (by decide)) (fun _ => ?_)
  conv => whnf
  refine ⟨fun z => absurd rfl z, fun _ => ?_⟩
  conv => whnf
  refine c_whole (by decide) (by decide) hC (fun _ => ?_) (fun z => absurd (by rw [e]; rfl) z)
  conv => whnf
  refine ⟨fun z => absurd rfl z, fun _ => ?_⟩
  conv => whnf
  refine c_flip (by decide) (by decide) hC (fun _ => ?_) (fun z => absurd z (by decide)) (fun z => absurd z (by decide))
  conv => whnf
  refine ⟨fun z => absurd rfl z, fun _ => ?_⟩
  conv => whnf
  refine c_flip (by decide) (by decide) hC (fun z => absurd (by decide) z) (fun _ _ => ?_) (fun _ _ z => absurd z (by decide))
  conv => whnf
  refine ⟨fun z => absurd rfl z, fun _ => ?_⟩
  conv => whnf
  refine c_group (by decide) (by decide) (by decide) hC (fun z => absurd (by decide) z) (fun _ _ => ?_) (fun _ z => absurd z ng15)
  conv => whnf
  refine ⟨fun z => absurd rfl z, fun _ => ?_⟩
  conv => whnf
  rw [n_ones]
  refine c_brace (by decide) (by decide) (by decide) hC (fun _ => ?_) (fun z => absurd z (by decide)) (fun z => absurd z (by decide)) (fun z => absurd z (by decide))
  conv => whnf
  refine ⟨fun z => absurd rfl z, fun _ => ?_⟩
  conv => whnf
  refine c_brace (by decide) (by decide) (by decide) hC (fun z => absurd (by decide) z) (fun _ _ => ?_) (fun _ _ _ z => absurd z nu40) (fun _ _ _ z => absurd z nu40)
  conv => whnf
  refine ⟨fun _ => ?_, fun z => absurd rfl z⟩
  conv => whnf
  refine hKz _ _ _ _ ?_
  exact lw_turns hN 12 0 S0 M rfl hC hL
end
