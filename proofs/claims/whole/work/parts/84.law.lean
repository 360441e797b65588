/-! the law's loop -/
theorem lw_lt {N i : Nat} (hN : N ≤ 3072) (hi : i ≤ 3078) : nI N - nI 6 < nI i ↔ N < i + 6 := by
  rw [Int32.lt_iff_toInt_lt, Int32.toInt_sub, nI_toInt (by omega : N < 2 ^ 31), nI_toInt (by omega : i < 2 ^ 31), nI_toInt (by decide : (6 : Nat) < 2 ^ 31), Int.bmod_eq_of_le (by omega) (by omega)]
  omega
section
variable {G : ZG} {M : ZM} {Z : Option ZV → ZM → Prop} {S : ZS}
theorem lw_0 {i : Nat} (hN : gN G ≤ 3072) (hi : i + 6 ≤ gN G) (hC : CS M S) (hR : RS M S) (next : ∀ S' M', CS M' S' → RS M' S' → V 0 G mi_LW Z 18 [(0, zr 39 0), (1, zr 5 0), (2, zr 20 0), (3, zi (nI (i + 6)))] [] M') : V 0 G mi_LW Z 176 [(0, zr 39 0), (1, zr 5 0), (2, zr 20 0), (3, zi (nI i))] [] M := by
  obtain ⟨x1, hx1, e1⟩ := n_of (gX G (i + 1))
  obtain ⟨x2, hx2, e2⟩ := n_of (gX G (i + 2))
  refine z_run (cuts := [(18, [0, 1, 2, 3])]) ok_LW0 (fun Kz hKz => ?_)
  conv => whnf
  rw [nI_add i 1]
  refine ⟨vp_in_nI (by omega) (by omega), ?_⟩
  rw [nI_clamp (by omega), e1]
  conv => whnf
  rw [nI_add i 2]
  refine ⟨vp_in_nI (by omega) (by omega), ?_⟩
  rw [nI_clamp (by omega), e2]
  conv => whnf
  refine ag_flip hx1 hx2 hC hR (fun v M1 hr => ?_)
  conv => whnf
  rw [nI_add i 1]
  refine ⟨vp_in_nI (by omega) (by omega), ?_⟩
  rw [nI_clamp (by omega), e1]
  conv => whnf
  rw [nI_add i 2]
  refine ⟨vp_in_nI (by omega) (by omega), ?_⟩
  rw [nI_clamp (by omega), e2]
  conv => whnf
  refine hr _ (fun M2 S2 g1 g2 => ?_)
  conv => whnf
  refine ⟨fun _ => ?_, fun q => absurd rfl q⟩
  conv => whnf
  refine hKz _ _ _ _ ?_
  rw [nI_add i 6]
  exact next _ _ g1 g2
theorem lw_1 {i : Nat} (hN : gN G ≤ 3072) (hi : i + 6 ≤ gN G) (hC : CS M S) (hR : RS M S) (next : ∀ S' M', CS M' S' → RS M' S' → V 0 G mi_LW Z 18 [(0, zr 39 0), (1, zr 5 0), (2, zr 20 0), (3, zi (nI (i + 6)))] [] M') : V 0 G mi_LW Z 209 [(0, zr 39 0), (1, zr 5 0), (2, zr 20 0), (3, zi (nI i))] [] M := by
  obtain ⟨x1, hx1, e1⟩ := n_of (gX G (i + 1))
  obtain ⟨x2, hx2, e2⟩ := n_of (gX G (i + 2))
  obtain ⟨x3, hx3, e3⟩ := n_of (gX G (i + 3))
  obtain ⟨x4, hx4, e4⟩ := n_of (gX G (i + 4))
  refine z_run (cuts := [(18, [0, 1, 2, 3])]) ok_LW1 (fun Kz hKz => ?_)
  conv => whnf
  rw [nI_add i 1]
  refine ⟨vp_in_nI (by omega) (by omega), ?_⟩
  rw [nI_clamp (by omega), e1]
  conv => whnf
  rw [nI_add i 2]
  refine ⟨vp_in_nI (by omega) (by omega), ?_⟩
  rw [nI_clamp (by omega), e2]
  conv => whnf
  rw [nI_add i 3]
  refine ⟨vp_in_nI (by omega) (by omega), ?_⟩
  rw [nI_clamp (by omega), e3]
  conv => whnf
  rw [nI_add i 4]
  refine ⟨vp_in_nI (by omega) (by omega), ?_⟩
  rw [nI_clamp (by omega), e4]
  conv => whnf
  refine ag_twist hx1 hx2 hx3 hx4 hC hR (fun v M1 hr => ?_)
  conv => whnf
  rw [nI_add i 1]
  refine ⟨vp_in_nI (by omega) (by omega), ?_⟩
  rw [nI_clamp (by omega), e1]
  conv => whnf
  rw [nI_add i 2]
  refine ⟨vp_in_nI (by omega) (by omega), ?_⟩
  rw [nI_clamp (by omega), e2]
  conv => whnf
  rw [nI_add i 3]
  refine ⟨vp_in_nI (by omega) (by omega), ?_⟩
  rw [nI_clamp (by omega), e3]
  conv => whnf
  rw [nI_add i 4]
  refine ⟨vp_in_nI (by omega) (by omega), ?_⟩
  rw [nI_clamp (by omega), e4]
  conv => whnf
  refine hr _ (fun M2 S2 g1 g2 => ?_)
  conv => whnf
  refine ⟨fun _ => ?_, fun q => absurd rfl q⟩
  conv => whnf
  refine hKz _ _ _ _ ?_
  rw [nI_add i 6]
  exact next _ _ g1 g2
theorem lw_2 {i : Nat} (hN : gN G ≤ 3072) (hi : i + 6 ≤ gN G) (hC : CS M S) (hR : RS M S) (next : ∀ S' M', CS M' S' → RS M' S' → V 0 G mi_LW Z 18 [(0, zr 39 0), (1, zr 5 0), (2, zr 20 0), (3, zi (nI (i + 6)))] [] M') : V 0 G mi_LW Z 262 [(0, zr 39 0), (1, zr 5 0), (2, zr 20 0), (3, zi (nI i))] [] M := by
  obtain ⟨x1, hx1, e1⟩ := n_of (gX G (i + 1))
  obtain ⟨x2, hx2, e2⟩ := n_of (gX G (i + 2))
  obtain ⟨x3, hx3, e3⟩ := n_of (gX G (i + 3))
  refine z_run (cuts := [(18, [0, 1, 2, 3])]) ok_LW2 (fun Kz hKz => ?_)
  conv => whnf
  rw [nI_add i 1]
  refine ⟨vp_in_nI (by omega) (by omega), ?_⟩
  rw [nI_clamp (by omega), e1]
  conv => whnf
  rw [nI_add i 2]
  refine ⟨vp_in_nI (by omega) (by omega), ?_⟩
  rw [nI_clamp (by omega), e2]
  conv => whnf
  rw [nI_add i 3]
  refine ⟨vp_in_nI (by omega) (by omega), ?_⟩
  rw [nI_clamp (by omega), e3]
  conv => whnf
  refine ag_group hx1 hx2 hx3 hC hR (fun v M1 hr => ?_)
  conv => whnf
  rw [nI_add i 1]
  refine ⟨vp_in_nI (by omega) (by omega), ?_⟩
  rw [nI_clamp (by omega), e1]
  conv => whnf
  rw [nI_add i 2]
  refine ⟨vp_in_nI (by omega) (by omega), ?_⟩
  rw [nI_clamp (by omega), e2]
  conv => whnf
  rw [nI_add i 3]
  refine ⟨vp_in_nI (by omega) (by omega), ?_⟩
  rw [nI_clamp (by omega), e3]
  conv => whnf
  refine hr _ (fun M2 S2 g1 g2 => ?_)
  conv => whnf
  refine ⟨fun _ => ?_, fun q => absurd rfl q⟩
  conv => whnf
  refine hKz _ _ _ _ ?_
  rw [nI_add i 6]
  exact next _ _ g1 g2
theorem lw_3 {i : Nat} (hN : gN G ≤ 3072) (hi : i + 6 ≤ gN G) (hC : CS M S) (hR : RS M S) (next : ∀ S' M', CS M' S' → RS M' S' → V 0 G mi_LW Z 18 [(0, zr 39 0), (1, zr 5 0), (2, zr 20 0), (3, zi (nI (i + 6)))] [] M') : V 0 G mi_LW Z 305 [(0, zr 39 0), (1, zr 5 0), (2, zr 20 0), (3, zi (nI i))] [] M := by
  obtain ⟨x1, hx1, e1⟩ := n_of (gX G (i + 1))
  obtain ⟨x2, hx2, e2⟩ := n_of (gX G (i + 2))
  obtain ⟨x3, hx3, e3⟩ := n_of (gX G (i + 3))
  refine z_run (cuts := [(18, [0, 1, 2, 3])]) ok_LW3 (fun Kz hKz => ?_)
  conv => whnf
  rw [nI_add i 1]
  refine ⟨vp_in_nI (by omega) (by omega), ?_⟩
  rw [nI_clamp (by omega), e1]
  conv => whnf
  rw [nI_add i 2]
  refine ⟨vp_in_nI (by omega) (by omega), ?_⟩
  rw [nI_clamp (by omega), e2]
  conv => whnf
  rw [nI_add i 3]
  refine ⟨vp_in_nI (by omega) (by omega), ?_⟩
  rw [nI_clamp (by omega), e3]
  conv => whnf
  refine ag_brace hx1 hx2 hx3 hC hR (fun v M1 hr => ?_)
  conv => whnf
  rw [nI_add i 1]
  refine ⟨vp_in_nI (by omega) (by omega), ?_⟩
  rw [nI_clamp (by omega), e1]
  conv => whnf
  rw [nI_add i 2]
  refine ⟨vp_in_nI (by omega) (by omega), ?_⟩
  rw [nI_clamp (by omega), e2]
  conv => whnf
  rw [nI_add i 3]
  refine ⟨vp_in_nI (by omega) (by omega), ?_⟩
  rw [nI_clamp (by omega), e3]
  conv => whnf
  refine hr _ (fun M2 S2 g1 g2 => ?_)
  conv => whnf
  refine ⟨fun _ => ?_, fun q => absurd rfl q⟩
  conv => whnf
  refine hKz _ _ _ _ ?_
  rw [nI_add i 6]
  exact next _ _ g1 g2
theorem lw_4 {i : Nat} (hN : gN G ≤ 3072) (hi : i + 6 ≤ gN G) (hC : CS M S) (hR : RS M S) (next : ∀ S' M', CS M' S' → RS M' S' → V 0 G mi_LW Z 18 [(0, zr 39 0), (1, zr 5 0), (2, zr 20 0), (3, zi (nI (i + 6)))] [] M') : V 0 G mi_LW Z 348 [(0, zr 39 0), (1, zr 5 0), (2, zr 20 0), (3, zi (nI i))] [] M := by
  obtain ⟨x1, hx1, e1⟩ := n_of (gX G (i + 1))
  obtain ⟨x2, hx2, e2⟩ := n_of (gX G (i + 2))
  refine z_run (cuts := [(18, [0, 1, 2, 3])]) ok_LW4 (fun Kz hKz => ?_)
  conv => whnf
  rw [nI_add i 1]
  refine ⟨vp_in_nI (by omega) (by omega), ?_⟩
  rw [nI_clamp (by omega), e1]
  conv => whnf
  rw [nI_add i 2]
  refine ⟨vp_in_nI (by omega) (by omega), ?_⟩
  rw [nI_clamp (by omega), e2]
  conv => whnf
  refine ag_braces hx1 hx2 hC hR (fun v M1 hr => ?_)
  conv => whnf
  rw [nI_add i 1]
  refine ⟨vp_in_nI (by omega) (by omega), ?_⟩
  rw [nI_clamp (by omega), e1]
  conv => whnf
  rw [nI_add i 2]
  refine ⟨vp_in_nI (by omega) (by omega), ?_⟩
  rw [nI_clamp (by omega), e2]
  conv => whnf
  refine hr _ (fun M2 S2 g1 g2 => ?_)
  conv => whnf
  refine ⟨fun _ => ?_, fun q => absurd rfl q⟩
  conv => whnf
  refine hKz _ _ _ _ ?_
  rw [nI_add i 6]
  exact next _ _ g1 g2
theorem lw_5 {i : Nat} (hN : gN G ≤ 3072) (hi : i + 6 ≤ gN G) (hC : CS M S) (hR : RS M S) (next : ∀ S' M', CS M' S' → RS M' S' → V 0 G mi_LW Z 18 [(0, zr 39 0), (1, zr 5 0), (2, zr 20 0), (3, zi (nI (i + 6)))] [] M') : V 0 G mi_LW Z 381 [(0, zr 39 0), (1, zr 5 0), (2, zr 20 0), (3, zi (nI i))] [] M := by
  obtain ⟨x1, hx1, e1⟩ := n_of (gX G (i + 1))
  obtain ⟨x2, hx2, e2⟩ := n_of (gX G (i + 2))
  obtain ⟨x3, hx3, e3⟩ := n_of (gX G (i + 3))
  obtain ⟨x4, hx4, e4⟩ := n_of (gX G (i + 4))
  obtain ⟨x5, hx5, e5⟩ := n_of (gX G (i + 5))
  refine z_run (cuts := [(18, [0, 1, 2, 3])]) ok_LW5 (fun Kz hKz => ?_)
  conv => whnf
  rw [nI_add i 1]
  refine ⟨vp_in_nI (by omega) (by omega), ?_⟩
  rw [nI_clamp (by omega), e1]
  conv => whnf
  rw [nI_add i 2]
  refine ⟨vp_in_nI (by omega) (by omega), ?_⟩
  rw [nI_clamp (by omega), e2]
  conv => whnf
  rw [nI_add i 3]
  refine ⟨vp_in_nI (by omega) (by omega), ?_⟩
  rw [nI_clamp (by omega), e3]
  conv => whnf
  rw [nI_add i 4]
  refine ⟨vp_in_nI (by omega) (by omega), ?_⟩
  rw [nI_clamp (by omega), e4]
  conv => whnf
  rw [nI_add i 5]
  refine ⟨vp_in_nI (by omega) (by omega), ?_⟩
  rw [nI_clamp (by omega), e5]
  conv => whnf
  refine ag_put hx1 hx2 hx3 hx4 hx5 hC hR (fun v M1 hr => ?_)
  conv => whnf
  rw [nI_add i 1]
  refine ⟨vp_in_nI (by omega) (by omega), ?_⟩
  rw [nI_clamp (by omega), e1]
  conv => whnf
  rw [nI_add i 2]
  refine ⟨vp_in_nI (by omega) (by omega), ?_⟩
  rw [nI_clamp (by omega), e2]
  conv => whnf
  rw [nI_add i 3]
  refine ⟨vp_in_nI (by omega) (by omega), ?_⟩
  rw [nI_clamp (by omega), e3]
  conv => whnf
  rw [nI_add i 4]
  refine ⟨vp_in_nI (by omega) (by omega), ?_⟩
  rw [nI_clamp (by omega), e4]
  conv => whnf
  rw [nI_add i 5]
  refine ⟨vp_in_nI (by omega) (by omega), ?_⟩
  rw [nI_clamp (by omega), e5]
  conv => whnf
  refine hr _ (fun M2 S2 g1 g2 => ?_)
  conv => whnf
  refine ⟨fun _ => ?_, fun q => absurd rfl q⟩
  conv => whnf
  refine hKz _ _ _ _ ?_
  rw [nI_add i 6]
  exact next _ _ g1 g2
theorem lw_6 {i : Nat} (hN : gN G ≤ 3072) (hi : i + 6 ≤ gN G) (hC : CS M S) (hR : RS M S) (next : ∀ S' M', CS M' S' → RS M' S' → V 0 G mi_LW Z 18 [(0, zr 39 0), (1, zr 5 0), (2, zr 20 0), (3, zi (nI (i + 6)))] [] M') : V 0 G mi_LW Z 444 [(0, zr 39 0), (1, zr 5 0), (2, zr 20 0), (3, zi (nI i))] [] M := by
  obtain ⟨x1, hx1, e1⟩ := n_of (gX G (i + 1))
  obtain ⟨x2, hx2, e2⟩ := n_of (gX G (i + 2))
  refine z_run (cuts := [(18, [0, 1, 2, 3])]) ok_LW6 (fun Kz hKz => ?_)
  conv => whnf
  rw [nI_add i 1]
  refine ⟨vp_in_nI (by omega) (by omega), ?_⟩
  rw [nI_clamp (by omega), e1]
  conv => whnf
  rw [nI_add i 2]
  refine ⟨vp_in_nI (by omega) (by omega), ?_⟩
  rw [nI_clamp (by omega), e2]
  conv => whnf
  refine ag_retract hx1 hx2 hC hR (fun v M1 hr => ?_)
  conv => whnf
  rw [nI_add i 1]
  refine ⟨vp_in_nI (by omega) (by omega), ?_⟩
  rw [nI_clamp (by omega), e1]
  conv => whnf
  rw [nI_add i 2]
  refine ⟨vp_in_nI (by omega) (by omega), ?_⟩
  rw [nI_clamp (by omega), e2]
  conv => whnf
  refine hr _ (fun M2 S2 g1 g2 => ?_)
  conv => whnf
  refine ⟨fun _ => ?_, fun q => absurd rfl q⟩
  conv => whnf
  refine hKz _ _ _ _ ?_
  rw [nI_add i 6]
  exact next _ _ g1 g2
theorem lw_7 {i : Nat} (hN : gN G ≤ 3072) (hi : i + 6 ≤ gN G) (hC : CS M S) (hR : RS M S) (next : ∀ S' M', CS M' S' → RS M' S' → V 0 G mi_LW Z 18 [(0, zr 39 0), (1, zr 5 0), (2, zr 20 0), (3, zi (nI (i + 6)))] [] M') : V 0 G mi_LW Z 477 [(0, zr 39 0), (1, zr 5 0), (2, zr 20 0), (3, zi (nI i))] [] M := by
  obtain ⟨x1, hx1, e1⟩ := n_of (gX G (i + 1))
  obtain ⟨x2, hx2, e2⟩ := n_of (gX G (i + 2))
  obtain ⟨x3, hx3, e3⟩ := n_of (gX G (i + 3))
  refine z_run (cuts := [(18, [0, 1, 2, 3])]) ok_LW7 (fun Kz hKz => ?_)
  conv => whnf
  rw [nI_add i 1]
  refine ⟨vp_in_nI (by omega) (by omega), ?_⟩
  rw [nI_clamp (by omega), e1]
  conv => whnf
  rw [nI_add i 2]
  refine ⟨vp_in_nI (by omega) (by omega), ?_⟩
  rw [nI_clamp (by omega), e2]
  conv => whnf
  rw [nI_add i 3]
  refine ⟨vp_in_nI (by omega) (by omega), ?_⟩
  rw [nI_clamp (by omega), e3]
  conv => whnf
  refine ag_unite hx1 hx2 hx3 hC hR (fun v M1 hr => ?_)
  conv => whnf
  rw [nI_add i 1]
  refine ⟨vp_in_nI (by omega) (by omega), ?_⟩
  rw [nI_clamp (by omega), e1]
  conv => whnf
  rw [nI_add i 2]
  refine ⟨vp_in_nI (by omega) (by omega), ?_⟩
  rw [nI_clamp (by omega), e2]
  conv => whnf
  rw [nI_add i 3]
  refine ⟨vp_in_nI (by omega) (by omega), ?_⟩
  rw [nI_clamp (by omega), e3]
  conv => whnf
  refine hr _ (fun M2 S2 g1 g2 => ?_)
  conv => whnf
  refine ⟨fun _ => ?_, fun q => absurd rfl q⟩
  conv => whnf
  refine hKz _ _ _ _ ?_
  rw [nI_add i 6]
  exact next _ _ g1 g2
theorem lw_8 {i : Nat} (hN : gN G ≤ 3072) (hi : i + 6 ≤ gN G) (hC : CS M S) (hR : RS M S) (next : ∀ S' M', CS M' S' → RS M' S' → V 0 G mi_LW Z 18 [(0, zr 39 0), (1, zr 5 0), (2, zr 20 0), (3, zi (nI (i + 6)))] [] M') : V 0 G mi_LW Z 520 [(0, zr 39 0), (1, zr 5 0), (2, zr 20 0), (3, zi (nI i))] [] M := by
  obtain ⟨x1, hx1, e1⟩ := n_of (gX G (i + 1))
  obtain ⟨x2, hx2, e2⟩ := n_of (gX G (i + 2))
  obtain ⟨x3, hx3, e3⟩ := n_of (gX G (i + 3))
  refine z_run (cuts := [(18, [0, 1, 2, 3])]) ok_LW8 (fun Kz hKz => ?_)
  conv => whnf
  rw [nI_add i 1]
  refine ⟨vp_in_nI (by omega) (by omega), ?_⟩
  rw [nI_clamp (by omega), e1]
  conv => whnf
  rw [nI_add i 2]
  refine ⟨vp_in_nI (by omega) (by omega), ?_⟩
  rw [nI_clamp (by omega), e2]
  conv => whnf
  rw [nI_add i 3]
  refine ⟨vp_in_nI (by omega) (by omega), ?_⟩
  rw [nI_clamp (by omega), e3]
  conv => whnf
  refine ag_pair hx1 hx2 hx3 hC hR (fun v M1 hr => ?_)
  conv => whnf
  rw [nI_add i 1]
  refine ⟨vp_in_nI (by omega) (by omega), ?_⟩
  rw [nI_clamp (by omega), e1]
  conv => whnf
  rw [nI_add i 2]
  refine ⟨vp_in_nI (by omega) (by omega), ?_⟩
  rw [nI_clamp (by omega), e2]
  conv => whnf
  rw [nI_add i 3]
  refine ⟨vp_in_nI (by omega) (by omega), ?_⟩
  rw [nI_clamp (by omega), e3]
  conv => whnf
  refine hr _ (fun M2 S2 g1 g2 => ?_)
  conv => whnf
  refine ⟨fun _ => ?_, fun q => absurd rfl q⟩
  conv => whnf
  refine hKz _ _ _ _ ?_
  rw [nI_add i 6]
  exact next _ _ g1 g2
theorem lw_9 {i : Nat} (hN : gN G ≤ 3072) (hi : i + 6 ≤ gN G) (hC : CS M S) (hR : RS M S) (next : ∀ S' M', CS M' S' → RS M' S' → V 0 G mi_LW Z 18 [(0, zr 39 0), (1, zr 5 0), (2, zr 20 0), (3, zi (nI (i + 6)))] [] M') : V 0 G mi_LW Z 563 [(0, zr 39 0), (1, zr 5 0), (2, zr 20 0), (3, zi (nI i))] [] M := by
  obtain ⟨x1, hx1, e1⟩ := n_of (gX G (i + 1))
  obtain ⟨x2, hx2, e2⟩ := n_of (gX G (i + 2))
  refine z_run (cuts := [(18, [0, 1, 2, 3])]) ok_LW9 (fun Kz hKz => ?_)
  conv => whnf
  rw [nI_add i 1]
  refine ⟨vp_in_nI (by omega) (by omega), ?_⟩
  rw [nI_clamp (by omega), e1]
  conv => whnf
  rw [nI_add i 2]
  refine ⟨vp_in_nI (by omega) (by omega), ?_⟩
  rw [nI_clamp (by omega), e2]
  conv => whnf
  refine ag_invert hx1 hx2 hC hR (fun v M1 hr => ?_)
  conv => whnf
  rw [nI_add i 1]
  refine ⟨vp_in_nI (by omega) (by omega), ?_⟩
  rw [nI_clamp (by omega), e1]
  conv => whnf
  rw [nI_add i 2]
  refine ⟨vp_in_nI (by omega) (by omega), ?_⟩
  rw [nI_clamp (by omega), e2]
  conv => whnf
  refine hr _ (fun M2 S2 g1 g2 => ?_)
  conv => whnf
  refine ⟨fun _ => ?_, fun q => absurd rfl q⟩
  conv => whnf
  refine hKz _ _ _ _ ?_
  rw [nI_add i 6]
  exact next _ _ g1 g2
theorem lw_10 {i : Nat} (hN : gN G ≤ 3072) (hi : i + 6 ≤ gN G) (hC : CS M S) (hR : RS M S) (next : ∀ S' M', CS M' S' → RS M' S' → V 0 G mi_LW Z 18 [(0, zr 39 0), (1, zr 5 0), (2, zr 20 0), (3, zi (nI (i + 6)))] [] M') : V 0 G mi_LW Z 596 [(0, zr 39 0), (1, zr 5 0), (2, zr 20 0), (3, zi (nI i))] [] M := by
  obtain ⟨x1, hx1, e1⟩ := n_of (gX G (i + 1))
  obtain ⟨x2, hx2, e2⟩ := n_of (gX G (i + 2))
  refine z_run (cuts := [(18, [0, 1, 2, 3])]) ok_LW10 (fun Kz hKz => ?_)
  conv => whnf
  rw [nI_add i 1]
  refine ⟨vp_in_nI (by omega) (by omega), ?_⟩
  rw [nI_clamp (by omega), e1]
  conv => whnf
  rw [nI_add i 2]
  refine ⟨vp_in_nI (by omega) (by omega), ?_⟩
  rw [nI_clamp (by omega), e2]
  conv => whnf
  refine ag_mirror hx1 hx2 hC hR (fun v M1 hr => ?_)
  conv => whnf
  rw [nI_add i 1]
  refine ⟨vp_in_nI (by omega) (by omega), ?_⟩
  rw [nI_clamp (by omega), e1]
  conv => whnf
  rw [nI_add i 2]
  refine ⟨vp_in_nI (by omega) (by omega), ?_⟩
  rw [nI_clamp (by omega), e2]
  conv => whnf
  refine hr _ (fun M2 S2 g1 g2 => ?_)
  conv => whnf
  refine ⟨fun _ => ?_, fun q => absurd rfl q⟩
  conv => whnf
  refine hKz _ _ _ _ ?_
  rw [nI_add i 6]
  exact next _ _ g1 g2
theorem lw_11 {i : Nat} (hN : gN G ≤ 3072) (hi : i + 6 ≤ gN G) (hC : CS M S) (hR : RS M S) (next : ∀ S' M', CS M' S' → RS M' S' → V 0 G mi_LW Z 18 [(0, zr 39 0), (1, zr 5 0), (2, zr 20 0), (3, zi (nI (i + 6)))] [] M') : V 0 G mi_LW Z 629 [(0, zr 39 0), (1, zr 5 0), (2, zr 20 0), (3, zi (nI i))] [] M := by
  obtain ⟨x1, hx1, e1⟩ := n_of (gX G (i + 1))
  obtain ⟨x2, hx2, e2⟩ := n_of (gX G (i + 2))
  obtain ⟨x3, hx3, e3⟩ := n_of (gX G (i + 3))
  refine z_run (cuts := [(18, [0, 1, 2, 3])]) ok_LW11 (fun Kz hKz => ?_)
  conv => whnf
  rw [nI_add i 1]
  refine ⟨vp_in_nI (by omega) (by omega), ?_⟩
  rw [nI_clamp (by omega), e1]
  conv => whnf
  rw [nI_add i 2]
  refine ⟨vp_in_nI (by omega) (by omega), ?_⟩
  rw [nI_clamp (by omega), e2]
  conv => whnf
  rw [nI_add i 3]
  refine ⟨vp_in_nI (by omega) (by omega), ?_⟩
  rw [nI_clamp (by omega), e3]
  conv => whnf
  refine ag_rename hx1 hx2 hx3 hC hR (fun v M1 hr => ?_)
  conv => whnf
  rw [nI_add i 1]
  refine ⟨vp_in_nI (by omega) (by omega), ?_⟩
  rw [nI_clamp (by omega), e1]
  conv => whnf
  rw [nI_add i 2]
  refine ⟨vp_in_nI (by omega) (by omega), ?_⟩
  rw [nI_clamp (by omega), e2]
  conv => whnf
  rw [nI_add i 3]
  refine ⟨vp_in_nI (by omega) (by omega), ?_⟩
  rw [nI_clamp (by omega), e3]
  conv => whnf
  refine hr _ (fun M2 S2 g1 g2 => ?_)
  conv => whnf
  refine ⟨fun _ => ?_, fun q => absurd rfl q⟩
  conv => whnf
  refine hKz _ _ _ _ ?_
  rw [nI_add i 6]
  exact next _ _ g1 g2
theorem lw_12 {i : Nat} (hN : gN G ≤ 3072) (hi : i + 6 ≤ gN G) (hC : CS M S) (hR : RS M S) (next : ∀ S' M', CS M' S' → RS M' S' → V 0 G mi_LW Z 18 [(0, zr 39 0), (1, zr 5 0), (2, zr 20 0), (3, zi (nI (i + 6)))] [] M') : V 0 G mi_LW Z 672 [(0, zr 39 0), (1, zr 5 0), (2, zr 20 0), (3, zi (nI i))] [] M := by
  obtain ⟨x1, hx1, e1⟩ := n_of (gX G (i + 1))
  refine z_run (cuts := [(18, [0, 1, 2, 3])]) ok_LW12 (fun Kz hKz => ?_)
  conv => whnf
  rw [nI_add i 1]
  refine ⟨vp_in_nI (by omega) (by omega), ?_⟩
  rw [nI_clamp (by omega), e1]
  conv => whnf
  refine ag_drop hx1 hC hR (fun v M1 hr => ?_)
  conv => whnf
  rw [nI_add i 1]
  refine ⟨vp_in_nI (by omega) (by omega), ?_⟩
  rw [nI_clamp (by omega), e1]
  conv => whnf
  refine hr _ (fun M2 S2 g1 g2 => ?_)
  conv => whnf
  refine ⟨fun _ => ?_, fun q => absurd rfl q⟩
  conv => whnf
  refine hKz _ _ _ _ ?_
  rw [nI_add i 6]
  exact next _ _ g1 g2
theorem lw_13 {i : Nat} (hN : gN G ≤ 3072) (hi : i + 6 ≤ gN G) (hC : CS M S) (hR : RS M S) (next : ∀ S' M', CS M' S' → RS M' S' → V 0 G mi_LW Z 18 [(0, zr 39 0), (1, zr 5 0), (2, zr 20 0), (3, zi (nI (i + 6)))] [] M') : V 0 G mi_LW Z 695 [(0, zr 39 0), (1, zr 5 0), (2, zr 20 0), (3, zi (nI i))] [] M := by
  obtain ⟨x1, hx1, e1⟩ := n_of (gX G (i + 1))
  obtain ⟨x2, hx2, e2⟩ := n_of (gX G (i + 2))
  obtain ⟨x3, hx3, e3⟩ := n_of (gX G (i + 3))
  obtain ⟨x4, hx4, e4⟩ := n_of (gX G (i + 4))
  refine z_run (cuts := [(18, [0, 1, 2, 3])]) ok_LW13 (fun Kz hKz => ?_)
  conv => whnf
  rw [nI_add i 1]
  refine ⟨vp_in_nI (by omega) (by omega), ?_⟩
  rw [nI_clamp (by omega), e1]
  conv => whnf
  rw [nI_add i 2]
  refine ⟨vp_in_nI (by omega) (by omega), ?_⟩
  rw [nI_clamp (by omega), e2]
  conv => whnf
  rw [nI_add i 3]
  refine ⟨vp_in_nI (by omega) (by omega), ?_⟩
  rw [nI_clamp (by omega), e3]
  conv => whnf
  rw [nI_add i 4]
  refine ⟨vp_in_nI (by omega) (by omega), ?_⟩
  rw [nI_clamp (by omega), e4]
  conv => whnf
  refine ag_cell hx1 hx2 hx3 hx4 hC hR (fun v M1 hr => ?_)
  conv => whnf
  rw [nI_add i 1]
  refine ⟨vp_in_nI (by omega) (by omega), ?_⟩
  rw [nI_clamp (by omega), e1]
  conv => whnf
  rw [nI_add i 2]
  refine ⟨vp_in_nI (by omega) (by omega), ?_⟩
  rw [nI_clamp (by omega), e2]
  conv => whnf
  rw [nI_add i 3]
  refine ⟨vp_in_nI (by omega) (by omega), ?_⟩
  rw [nI_clamp (by omega), e3]
  conv => whnf
  rw [nI_add i 4]
  refine ⟨vp_in_nI (by omega) (by omega), ?_⟩
  rw [nI_clamp (by omega), e4]
  conv => whnf
  refine hr _ (fun M2 S2 g1 g2 => ?_)
  conv => whnf
  refine ⟨fun _ => ?_, fun q => absurd rfl q⟩
  conv => whnf
  refine hKz _ _ _ _ ?_
  rw [nI_add i 6]
  exact next _ _ g1 g2
theorem lw_14 {i : Nat} (hN : gN G ≤ 3072) (hi : i + 6 ≤ gN G) (hC : CS M S) (hR : RS M S) (next : ∀ S' M', CS M' S' → RS M' S' → V 0 G mi_LW Z 18 [(0, zr 39 0), (1, zr 5 0), (2, zr 20 0), (3, zi (nI (i + 6)))] [] M') : V 0 G mi_LW Z 748 [(0, zr 39 0), (1, zr 5 0), (2, zr 20 0), (3, zi (nI i))] [] M := by
  obtain ⟨x1, hx1, e1⟩ := n_of (gX G (i + 1))
  obtain ⟨x2, hx2, e2⟩ := n_of (gX G (i + 2))
  refine z_run (cuts := [(18, [0, 1, 2, 3])]) ok_LW14 (fun Kz hKz => ?_)
  conv => whnf
  rw [nI_add i 1]
  refine ⟨vp_in_nI (by omega) (by omega), ?_⟩
  rw [nI_clamp (by omega), e1]
  conv => whnf
  rw [nI_add i 2]
  refine ⟨vp_in_nI (by omega) (by omega), ?_⟩
  rw [nI_clamp (by omega), e2]
  conv => whnf
  refine ag_whole hx1 hx2 hC hR (fun v M1 hr => ?_)
  conv => whnf
  rw [nI_add i 1]
  refine ⟨vp_in_nI (by omega) (by omega), ?_⟩
  rw [nI_clamp (by omega), e1]
  conv => whnf
  rw [nI_add i 2]
  refine ⟨vp_in_nI (by omega) (by omega), ?_⟩
  rw [nI_clamp (by omega), e2]
  conv => whnf
  refine hr _ (fun M2 S2 g1 g2 => ?_)
  conv => whnf
  refine ⟨fun _ => ?_, fun q => absurd rfl q⟩
  conv => whnf
  refine hKz _ _ _ _ ?_
  rw [nI_add i 6]
  exact next _ _ g1 g2
theorem lw_15 {i : Nat} (hN : gN G ≤ 3072) (hi : i + 6 ≤ gN G) (hC : CS M S) (hR : RS M S) (next : ∀ S' M', CS M' S' → RS M' S' → V 0 G mi_LW Z 18 [(0, zr 39 0), (1, zr 5 0), (2, zr 20 0), (3, zi (nI (i + 6)))] [] M') : V 0 G mi_LW Z 781 [(0, zr 39 0), (1, zr 5 0), (2, zr 20 0), (3, zi (nI i))] [] M := by
  obtain ⟨x1, hx1, e1⟩ := n_of (gX G (i + 1))
  obtain ⟨x2, hx2, e2⟩ := n_of (gX G (i + 2))
  refine z_run (cuts := [(18, [0, 1, 2, 3])]) ok_LW15 (fun Kz hKz => ?_)
  conv => whnf
  rw [nI_add i 1]
  refine ⟨vp_in_nI (by omega) (by omega), ?_⟩
  rw [nI_clamp (by omega), e1]
  conv => whnf
  rw [nI_add i 2]
  refine ⟨vp_in_nI (by omega) (by omega), ?_⟩
  rw [nI_clamp (by omega), e2]
  conv => whnf
  refine ag_fails hx1 hx2 hC hR (fun v M1 hr => ?_)
  conv => whnf
  rw [nI_add i 1]
  refine ⟨vp_in_nI (by omega) (by omega), ?_⟩
  rw [nI_clamp (by omega), e1]
  conv => whnf
  rw [nI_add i 2]
  refine ⟨vp_in_nI (by omega) (by omega), ?_⟩
  rw [nI_clamp (by omega), e2]
  conv => whnf
  refine hr _ (fun M2 S2 g1 g2 => ?_)
  conv => whnf
  refine ⟨fun _ => ?_, fun q => absurd rfl q⟩
  conv => whnf
  refine hKz _ _ _ _ ?_
  rw [nI_add i 6]
  exact next _ _ g1 g2
theorem lw_16 {i : Nat} (hN : gN G ≤ 3072) (hi : i + 6 ≤ gN G) (hC : CS M S) (hR : RS M S) (next : ∀ S' M', CS M' S' → RS M' S' → V 0 G mi_LW Z 18 [(0, zr 39 0), (1, zr 5 0), (2, zr 20 0), (3, zi (nI (i + 6)))] [] M') : V 0 G mi_LW Z 814 [(0, zr 39 0), (1, zr 5 0), (2, zr 20 0), (3, zi (nI i))] [] M := by
  obtain ⟨x1, hx1, e1⟩ := n_of (gX G (i + 1))
  obtain ⟨x2, hx2, e2⟩ := n_of (gX G (i + 2))
  refine z_run (cuts := [(18, [0, 1, 2, 3])]) ok_LW16 (fun Kz hKz => ?_)
  conv => whnf
  rw [nI_add i 1]
  refine ⟨vp_in_nI (by omega) (by omega), ?_⟩
  rw [nI_clamp (by omega), e1]
  conv => whnf
  rw [nI_add i 2]
  refine ⟨vp_in_nI (by omega) (by omega), ?_⟩
  rw [nI_clamp (by omega), e2]
  conv => whnf
  refine ag_orbit hx1 hx2 hC hR (fun v M1 hr => ?_)
  conv => whnf
  rw [nI_add i 1]
  refine ⟨vp_in_nI (by omega) (by omega), ?_⟩
  rw [nI_clamp (by omega), e1]
  conv => whnf
  rw [nI_add i 2]
  refine ⟨vp_in_nI (by omega) (by omega), ?_⟩
  rw [nI_clamp (by omega), e2]
  conv => whnf
  refine hr _ (fun M2 S2 g1 g2 => ?_)
  conv => whnf
  refine ⟨fun _ => ?_, fun q => absurd rfl q⟩
  conv => whnf
  refine hKz _ _ _ _ ?_
  rw [nI_add i 6]
  exact next _ _ g1 g2
theorem lw_17 {i : Nat} (hN : gN G ≤ 3072) (hi : i + 6 ≤ gN G) (hC : CS M S) (hR : RS M S) (next : ∀ S' M', CS M' S' → RS M' S' → V 0 G mi_LW Z 18 [(0, zr 39 0), (1, zr 5 0), (2, zr 20 0), (3, zi (nI (i + 6)))] [] M') : V 0 G mi_LW Z 847 [(0, zr 39 0), (1, zr 5 0), (2, zr 20 0), (3, zi (nI i))] [] M := by
  obtain ⟨x1, hx1, e1⟩ := n_of (gX G (i + 1))
  obtain ⟨x2, hx2, e2⟩ := n_of (gX G (i + 2))
  refine z_run (cuts := [(18, [0, 1, 2, 3])]) ok_LW17 (fun Kz hKz => ?_)
  conv => whnf
  rw [nI_add i 1]
  refine ⟨vp_in_nI (by omega) (by omega), ?_⟩
  rw [nI_clamp (by omega), e1]
  conv => whnf
  rw [nI_add i 2]
  refine ⟨vp_in_nI (by omega) (by omega), ?_⟩
  rw [nI_clamp (by omega), e2]
  conv => whnf
  refine ag_shut hx1 hx2 hC hR (fun v M1 hr => ?_)
  conv => whnf
  rw [nI_add i 1]
  refine ⟨vp_in_nI (by omega) (by omega), ?_⟩
  rw [nI_clamp (by omega), e1]
  conv => whnf
  rw [nI_add i 2]
  refine ⟨vp_in_nI (by omega) (by omega), ?_⟩
  rw [nI_clamp (by omega), e2]
  conv => whnf
  refine hr _ (fun M2 S2 g1 g2 => ?_)
  conv => whnf
  refine ⟨fun _ => ?_, fun q => absurd rfl q⟩
  conv => whnf
  refine hKz _ _ _ _ ?_
  rw [nI_add i 6]
  exact next _ _ g1 g2
theorem lw_18 {i : Nat} (hN : gN G ≤ 3072) (hi : i + 6 ≤ gN G) (hC : CS M S) (hR : RS M S) (next : ∀ S' M', CS M' S' → RS M' S' → V 0 G mi_LW Z 18 [(0, zr 39 0), (1, zr 5 0), (2, zr 20 0), (3, zi (nI (i + 6)))] [] M') : V 0 G mi_LW Z 880 [(0, zr 39 0), (1, zr 5 0), (2, zr 20 0), (3, zi (nI i))] [] M := by
  obtain ⟨x1, hx1, e1⟩ := n_of (gX G (i + 1))
  obtain ⟨x2, hx2, e2⟩ := n_of (gX G (i + 2))
  refine z_run (cuts := [(18, [0, 1, 2, 3])]) ok_LW18 (fun Kz hKz => ?_)
  conv => whnf
  rw [nI_add i 1]
  refine ⟨vp_in_nI (by omega) (by omega), ?_⟩
  rw [nI_clamp (by omega), e1]
  conv => whnf
  rw [nI_add i 2]
  refine ⟨vp_in_nI (by omega) (by omega), ?_⟩
  rw [nI_clamp (by omega), e2]
  conv => whnf
  refine ag_alike hx1 hx2 hC hR (fun v M1 hr => ?_)
  conv => whnf
  rw [nI_add i 1]
  refine ⟨vp_in_nI (by omega) (by omega), ?_⟩
  rw [nI_clamp (by omega), e1]
  conv => whnf
  rw [nI_add i 2]
  refine ⟨vp_in_nI (by omega) (by omega), ?_⟩
  rw [nI_clamp (by omega), e2]
  conv => whnf
  refine hr _ (fun M2 S2 g1 g2 => ?_)
  conv => whnf
  refine ⟨fun _ => ?_, fun q => absurd rfl q⟩
  conv => whnf
  refine hKz _ _ _ _ ?_
  rw [nI_add i 6]
  exact next _ _ g1 g2
theorem lw_19 {i : Nat} (hN : gN G ≤ 3072) (hi : i + 6 ≤ gN G) (hC : CS M S) (hR : RS M S) (next : ∀ S' M', CS M' S' → RS M' S' → V 0 G mi_LW Z 18 [(0, zr 39 0), (1, zr 5 0), (2, zr 20 0), (3, zi (nI (i + 6)))] [] M') : V 0 G mi_LW Z 913 [(0, zr 39 0), (1, zr 5 0), (2, zr 20 0), (3, zi (nI i))] [] M := by
  obtain ⟨x1, hx1, e1⟩ := n_of (gX G (i + 1))
  obtain ⟨x2, hx2, e2⟩ := n_of (gX G (i + 2))
  obtain ⟨x3, hx3, e3⟩ := n_of (gX G (i + 3))
  obtain ⟨x4, hx4, e4⟩ := n_of (gX G (i + 4))
  refine z_run (cuts := [(18, [0, 1, 2, 3])]) ok_LW19 (fun Kz hKz => ?_)
  conv => whnf
  rw [nI_add i 1]
  refine ⟨vp_in_nI (by omega) (by omega), ?_⟩
  rw [nI_clamp (by omega), e1]
  conv => whnf
  rw [nI_add i 2]
  refine ⟨vp_in_nI (by omega) (by omega), ?_⟩
  rw [nI_clamp (by omega), e2]
  conv => whnf
  rw [nI_add i 3]
  refine ⟨vp_in_nI (by omega) (by omega), ?_⟩
  rw [nI_clamp (by omega), e3]
  conv => whnf
  rw [nI_add i 4]
  refine ⟨vp_in_nI (by omega) (by omega), ?_⟩
  rw [nI_clamp (by omega), e4]
  conv => whnf
  refine ag_power hx1 hx2 hx3 hx4 hC hR (fun v M1 hr => ?_)
  conv => whnf
  rw [nI_add i 1]
  refine ⟨vp_in_nI (by omega) (by omega), ?_⟩
  rw [nI_clamp (by omega), e1]
  conv => whnf
  rw [nI_add i 2]
  refine ⟨vp_in_nI (by omega) (by omega), ?_⟩
  rw [nI_clamp (by omega), e2]
  conv => whnf
  rw [nI_add i 3]
  refine ⟨vp_in_nI (by omega) (by omega), ?_⟩
  rw [nI_clamp (by omega), e3]
  conv => whnf
  rw [nI_add i 4]
  refine ⟨vp_in_nI (by omega) (by omega), ?_⟩
  rw [nI_clamp (by omega), e4]
  conv => whnf
  refine hr _ (fun M2 S2 g1 g2 => ?_)
  conv => whnf
  refine ⟨fun _ => ?_, fun q => absurd rfl q⟩
  conv => whnf
  refine hKz _ _ _ _ ?_
  rw [nI_add i 6]
  exact next _ _ g1 g2
theorem lw_20 {i : Nat} (hN : gN G ≤ 3072) (hi : i + 6 ≤ gN G) (hC : CS M S) (hR : RS M S) (next : ∀ S' M', CS M' S' → RS M' S' → V 0 G mi_LW Z 18 [(0, zr 39 0), (1, zr 5 0), (2, zr 20 0), (3, zi (nI (i + 6)))] [] M') : V 0 G mi_LW Z 966 [(0, zr 39 0), (1, zr 5 0), (2, zr 20 0), (3, zi (nI i))] [] M := by
  obtain ⟨x1, hx1, e1⟩ := n_of (gX G (i + 1))
  obtain ⟨x2, hx2, e2⟩ := n_of (gX G (i + 2))
  obtain ⟨x3, hx3, e3⟩ := n_of (gX G (i + 3))
  refine z_run (cuts := [(18, [0, 1, 2, 3])]) ok_LW20 (fun Kz hKz => ?_)
  conv => whnf
  rw [nI_add i 1]
  refine ⟨vp_in_nI (by omega) (by omega), ?_⟩
  rw [nI_clamp (by omega), e1]
  conv => whnf
  rw [nI_add i 2]
  refine ⟨vp_in_nI (by omega) (by omega), ?_⟩
  rw [nI_clamp (by omega), e2]
  conv => whnf
  rw [nI_add i 3]
  refine ⟨vp_in_nI (by omega) (by omega), ?_⟩
  rw [nI_clamp (by omega), e3]
  conv => whnf
  refine ag_like hx1 hx2 hx3 hC hR (fun v M1 hr => ?_)
  conv => whnf
  rw [nI_add i 1]
  refine ⟨vp_in_nI (by omega) (by omega), ?_⟩
  rw [nI_clamp (by omega), e1]
  conv => whnf
  rw [nI_add i 2]
  refine ⟨vp_in_nI (by omega) (by omega), ?_⟩
  rw [nI_clamp (by omega), e2]
  conv => whnf
  rw [nI_add i 3]
  refine ⟨vp_in_nI (by omega) (by omega), ?_⟩
  rw [nI_clamp (by omega), e3]
  conv => whnf
  refine hr _ (fun M2 S2 g1 g2 => ?_)
  conv => whnf
  refine ⟨fun _ => ?_, fun q => absurd rfl q⟩
  conv => whnf
  refine hKz _ _ _ _ ?_
  rw [nI_add i 6]
  exact next _ _ g1 g2
theorem lw_21 {i : Nat} (hN : gN G ≤ 3072) (hi : i + 6 ≤ gN G) (hC : CS M S) (hR : RS M S) (next : ∀ S' M', CS M' S' → RS M' S' → V 0 G mi_LW Z 18 [(0, zr 39 0), (1, zr 5 0), (2, zr 20 0), (3, zi (nI (i + 6)))] [] M') : V 0 G mi_LW Z 1009 [(0, zr 39 0), (1, zr 5 0), (2, zr 20 0), (3, zi (nI i))] [] M := by
  obtain ⟨x1, hx1, e1⟩ := n_of (gX G (i + 1))
  obtain ⟨x2, hx2, e2⟩ := n_of (gX G (i + 2))
  refine z_run (cuts := [(18, [0, 1, 2, 3])]) ok_LW21 (fun Kz hKz => ?_)
  conv => whnf
  rw [nI_add i 1]
  refine ⟨vp_in_nI (by omega) (by omega), ?_⟩
  rw [nI_clamp (by omega), e1]
  conv => whnf
  rw [nI_add i 2]
  refine ⟨vp_in_nI (by omega) (by omega), ?_⟩
  rw [nI_clamp (by omega), e2]
  conv => whnf
  refine ag_words hx1 hx2 hC hR (fun v M1 hr => ?_)
  conv => whnf
  rw [nI_add i 1]
  refine ⟨vp_in_nI (by omega) (by omega), ?_⟩
  rw [nI_clamp (by omega), e1]
  conv => whnf
  rw [nI_add i 2]
  refine ⟨vp_in_nI (by omega) (by omega), ?_⟩
  rw [nI_clamp (by omega), e2]
  conv => whnf
  refine hr _ (fun M2 S2 g1 g2 => ?_)
  conv => whnf
  refine ⟨fun _ => ?_, fun q => absurd rfl q⟩
  conv => whnf
  refine hKz _ _ _ _ ?_
  rw [nI_add i 6]
  exact next _ _ g1 g2
theorem lw_22 {i : Nat} (hN : gN G ≤ 3072) (hi : i + 6 ≤ gN G) (hC : CS M S) (hR : RS M S) (next : ∀ S' M', CS M' S' → RS M' S' → V 0 G mi_LW Z 18 [(0, zr 39 0), (1, zr 5 0), (2, zr 20 0), (3, zi (nI (i + 6)))] [] M') : V 0 G mi_LW Z 1042 [(0, zr 39 0), (1, zr 5 0), (2, zr 20 0), (3, zi (nI i))] [] M := by
  obtain ⟨x1, hx1, e1⟩ := n_of (gX G (i + 1))
  obtain ⟨x2, hx2, e2⟩ := n_of (gX G (i + 2))
  obtain ⟨x3, hx3, e3⟩ := n_of (gX G (i + 3))
  refine z_run (cuts := [(18, [0, 1, 2, 3])]) ok_LW22 (fun Kz hKz => ?_)
  conv => whnf
  rw [nI_add i 1]
  refine ⟨vp_in_nI (by omega) (by omega), ?_⟩
  rw [nI_clamp (by omega), e1]
  conv => whnf
  rw [nI_add i 2]
  refine ⟨vp_in_nI (by omega) (by omega), ?_⟩
  rw [nI_clamp (by omega), e2]
  conv => whnf
  rw [nI_add i 3]
  refine ⟨vp_in_nI (by omega) (by omega), ?_⟩
  rw [nI_clamp (by omega), e3]
  conv => whnf
  refine ag_least hx1 hx2 hx3 hC hR (fun v M1 hr => ?_)
  conv => whnf
  rw [nI_add i 1]
  refine ⟨vp_in_nI (by omega) (by omega), ?_⟩
  rw [nI_clamp (by omega), e1]
  conv => whnf
  rw [nI_add i 2]
  refine ⟨vp_in_nI (by omega) (by omega), ?_⟩
  rw [nI_clamp (by omega), e2]
  conv => whnf
  rw [nI_add i 3]
  refine ⟨vp_in_nI (by omega) (by omega), ?_⟩
  rw [nI_clamp (by omega), e3]
  conv => whnf
  refine hr _ (fun M2 S2 g1 g2 => ?_)
  conv => whnf
  refine ⟨fun _ => ?_, fun q => absurd rfl q⟩
  conv => whnf
  refine hKz _ _ _ _ ?_
  rw [nI_add i 6]
  exact next _ _ g1 g2
theorem lw_23 {i : Nat} (hN : gN G ≤ 3072) (hi : i + 6 ≤ gN G) (hC : CS M S) (hR : RS M S) (next : ∀ S' M', CS M' S' → RS M' S' → V 0 G mi_LW Z 18 [(0, zr 39 0), (1, zr 5 0), (2, zr 20 0), (3, zi (nI (i + 6)))] [] M') : V 0 G mi_LW Z 1085 [(0, zr 39 0), (1, zr 5 0), (2, zr 20 0), (3, zi (nI i))] [] M := by
  obtain ⟨x1, hx1, e1⟩ := n_of (gX G (i + 1))
  obtain ⟨x2, hx2, e2⟩ := n_of (gX G (i + 2))
  refine z_run (cuts := [(18, [0, 1, 2, 3])]) ok_LW23 (fun Kz hKz => ?_)
  conv => whnf
  rw [nI_add i 1]
  refine ⟨vp_in_nI (by omega) (by omega), ?_⟩
  rw [nI_clamp (by omega), e1]
  conv => whnf
  rw [nI_add i 2]
  refine ⟨vp_in_nI (by omega) (by omega), ?_⟩
  rw [nI_clamp (by omega), e2]
  conv => whnf
  refine ag_write hx1 hx2 hC hR (fun v M1 hr => ?_)
  conv => whnf
  rw [nI_add i 1]
  refine ⟨vp_in_nI (by omega) (by omega), ?_⟩
  rw [nI_clamp (by omega), e1]
  conv => whnf
  rw [nI_add i 2]
  refine ⟨vp_in_nI (by omega) (by omega), ?_⟩
  rw [nI_clamp (by omega), e2]
  conv => whnf
  refine hr _ (fun M2 S2 g1 g2 => ?_)
  conv => whnf
  refine ⟨fun _ => ?_, fun q => absurd rfl q⟩
  conv => whnf
  refine hKz _ _ _ _ ?_
  rw [nI_add i 6]
  exact next _ _ g1 g2
theorem lw_24 {i : Nat} (hN : gN G ≤ 3072) (hi : i + 6 ≤ gN G) (hC : CS M S) (hR : RS M S) (next : ∀ S' M', CS M' S' → RS M' S' → V 0 G mi_LW Z 18 [(0, zr 39 0), (1, zr 5 0), (2, zr 20 0), (3, zi (nI (i + 6)))] [] M') : V 0 G mi_LW Z 1118 [(0, zr 39 0), (1, zr 5 0), (2, zr 20 0), (3, zi (nI i))] [] M := by
  obtain ⟨x1, hx1, e1⟩ := n_of (gX G (i + 1))
  refine z_run (cuts := [(18, [0, 1, 2, 3])]) ok_LW24 (fun Kz hKz => ?_)
  conv => whnf
  rw [nI_add i 1]
  refine ⟨vp_in_nI (by omega) (by omega), ?_⟩
  rw [nI_clamp (by omega), e1]
  conv => whnf
  refine ag_erase hx1 hC hR (fun v M1 hr => ?_)
  conv => whnf
  rw [nI_add i 1]
  refine ⟨vp_in_nI (by omega) (by omega), ?_⟩
  rw [nI_clamp (by omega), e1]
  conv => whnf
  refine hr _ (fun M2 S2 g1 g2 => ?_)
  conv => whnf
  refine ⟨fun _ => ?_, fun q => absurd rfl q⟩
  conv => whnf
  refine hKz _ _ _ _ ?_
  rw [nI_add i 6]
  exact next _ _ g1 g2
theorem lw_25 {i : Nat} (hN : gN G ≤ 3072) (hi : i + 6 ≤ gN G) (hC : CS M S) (hR : RS M S) (next : ∀ S' M', CS M' S' → RS M' S' → V 0 G mi_LW Z 18 [(0, zr 39 0), (1, zr 5 0), (2, zr 20 0), (3, zi (nI (i + 6)))] [] M') : V 0 G mi_LW Z 1141 [(0, zr 39 0), (1, zr 5 0), (2, zr 20 0), (3, zi (nI i))] [] M := by
  obtain ⟨x1, hx1, e1⟩ := n_of (gX G (i + 1))
  obtain ⟨x2, hx2, e2⟩ := n_of (gX G (i + 2))
  obtain ⟨x3, hx3, e3⟩ := n_of (gX G (i + 3))
  obtain ⟨x4, hx4, e4⟩ := n_of (gX G (i + 4))
  refine z_run (cuts := [(18, [0, 1, 2, 3])]) ok_LW25 (fun Kz hKz => ?_)
  conv => whnf
  rw [nI_add i 1]
  refine ⟨vp_in_nI (by omega) (by omega), ?_⟩
  rw [nI_clamp (by omega), e1]
  conv => whnf
  rw [nI_add i 2]
  refine ⟨vp_in_nI (by omega) (by omega), ?_⟩
  rw [nI_clamp (by omega), e2]
  conv => whnf
  rw [nI_add i 3]
  refine ⟨vp_in_nI (by omega) (by omega), ?_⟩
  rw [nI_clamp (by omega), e3]
  conv => whnf
  rw [nI_add i 4]
  refine ⟨vp_in_nI (by omega) (by omega), ?_⟩
  rw [nI_clamp (by omega), e4]
  conv => whnf
  refine ag_through hx1 hx2 hx3 hx4 hC hR (fun v M1 hr => ?_)
  conv => whnf
  rw [nI_add i 1]
  refine ⟨vp_in_nI (by omega) (by omega), ?_⟩
  rw [nI_clamp (by omega), e1]
  conv => whnf
  rw [nI_add i 2]
  refine ⟨vp_in_nI (by omega) (by omega), ?_⟩
  rw [nI_clamp (by omega), e2]
  conv => whnf
  rw [nI_add i 3]
  refine ⟨vp_in_nI (by omega) (by omega), ?_⟩
  rw [nI_clamp (by omega), e3]
  conv => whnf
  rw [nI_add i 4]
  refine ⟨vp_in_nI (by omega) (by omega), ?_⟩
  rw [nI_clamp (by omega), e4]
  conv => whnf
  refine hr _ (fun M2 S2 g1 g2 => ?_)
  conv => whnf
  refine ⟨fun _ => ?_, fun q => absurd rfl q⟩
  conv => whnf
  refine hKz _ _ _ _ ?_
  rw [nI_add i 6]
  exact next _ _ g1 g2
theorem lw_26 {i : Nat} (hN : gN G ≤ 3072) (hi : i + 6 ≤ gN G) (hC : CS M S) (hR : RS M S) (next : ∀ S' M', CS M' S' → RS M' S' → V 0 G mi_LW Z 18 [(0, zr 39 0), (1, zr 5 0), (2, zr 20 0), (3, zi (nI (i + 6)))] [] M') : V 0 G mi_LW Z 1194 [(0, zr 39 0), (1, zr 5 0), (2, zr 20 0), (3, zi (nI i))] [] M := by
  obtain ⟨x1, hx1, e1⟩ := n_of (gX G (i + 1))
  obtain ⟨x2, hx2, e2⟩ := n_of (gX G (i + 2))
  obtain ⟨x3, hx3, e3⟩ := n_of (gX G (i + 3))
  refine z_run (cuts := [(18, [0, 1, 2, 3])]) ok_LW26 (fun Kz hKz => ?_)
  conv => whnf
  rw [nI_add i 1]
  refine ⟨vp_in_nI (by omega) (by omega), ?_⟩
  rw [nI_clamp (by omega), e1]
  conv => whnf
  rw [nI_add i 2]
  refine ⟨vp_in_nI (by omega) (by omega), ?_⟩
  rw [nI_clamp (by omega), e2]
  conv => whnf
  rw [nI_add i 3]
  refine ⟨vp_in_nI (by omega) (by omega), ?_⟩
  rw [nI_clamp (by omega), e3]
  conv => whnf
  refine ag_stays hx1 hx2 hx3 hC hR (fun v M1 hr => ?_)
  conv => whnf
  rw [nI_add i 1]
  refine ⟨vp_in_nI (by omega) (by omega), ?_⟩
  rw [nI_clamp (by omega), e1]
  conv => whnf
  rw [nI_add i 2]
  refine ⟨vp_in_nI (by omega) (by omega), ?_⟩
  rw [nI_clamp (by omega), e2]
  conv => whnf
  rw [nI_add i 3]
  refine ⟨vp_in_nI (by omega) (by omega), ?_⟩
  rw [nI_clamp (by omega), e3]
  conv => whnf
  refine hr _ (fun M2 S2 g1 g2 => ?_)
  conv => whnf
  refine ⟨fun _ => ?_, fun q => absurd rfl q⟩
  conv => whnf
  refine hKz _ _ _ _ ?_
  rw [nI_add i 6]
  exact next _ _ g1 g2
theorem lw_27 {i : Nat} (hN : gN G ≤ 3072) (hi : i + 6 ≤ gN G) (hC : CS M S) (hR : RS M S) (next : ∀ S' M', CS M' S' → RS M' S' → V 0 G mi_LW Z 18 [(0, zr 39 0), (1, zr 5 0), (2, zr 20 0), (3, zi (nI (i + 6)))] [] M') : V 0 G mi_LW Z 1237 [(0, zr 39 0), (1, zr 5 0), (2, zr 20 0), (3, zi (nI i))] [] M := by
  obtain ⟨x1, hx1, e1⟩ := n_of (gX G (i + 1))
  obtain ⟨x2, hx2, e2⟩ := n_of (gX G (i + 2))
  obtain ⟨x3, hx3, e3⟩ := n_of (gX G (i + 3))
  refine z_run (cuts := [(18, [0, 1, 2, 3])]) ok_LW27 (fun Kz hKz => ?_)
  conv => whnf
  rw [nI_add i 1]
  refine ⟨vp_in_nI (by omega) (by omega), ?_⟩
  rw [nI_clamp (by omega), e1]
  conv => whnf
  rw [nI_add i 2]
  refine ⟨vp_in_nI (by omega) (by omega), ?_⟩
  rw [nI_clamp (by omega), e2]
  conv => whnf
  rw [nI_add i 3]
  refine ⟨vp_in_nI (by omega) (by omega), ?_⟩
  rw [nI_clamp (by omega), e3]
  conv => whnf
  refine ag_rounds hx1 hx2 hx3 hC hR (fun v M1 hr => ?_)
  conv => whnf
  rw [nI_add i 1]
  refine ⟨vp_in_nI (by omega) (by omega), ?_⟩
  rw [nI_clamp (by omega), e1]
  conv => whnf
  rw [nI_add i 2]
  refine ⟨vp_in_nI (by omega) (by omega), ?_⟩
  rw [nI_clamp (by omega), e2]
  conv => whnf
  rw [nI_add i 3]
  refine ⟨vp_in_nI (by omega) (by omega), ?_⟩
  rw [nI_clamp (by omega), e3]
  conv => whnf
  refine hr _ (fun M2 S2 g1 g2 => ?_)
  conv => whnf
  refine ⟨fun _ => ?_, fun q => absurd rfl q⟩
  conv => whnf
  refine hKz _ _ _ _ ?_
  rw [nI_add i 6]
  exact next _ _ g1 g2
theorem lw_28 {i : Nat} (hN : gN G ≤ 3072) (hi : i + 6 ≤ gN G) (hC : CS M S) (hR : RS M S) (next : ∀ S' M', CS M' S' → RS M' S' → V 0 G mi_LW Z 18 [(0, zr 39 0), (1, zr 5 0), (2, zr 20 0), (3, zi (nI (i + 6)))] [] M') : V 0 G mi_LW Z 1280 [(0, zr 39 0), (1, zr 5 0), (2, zr 20 0), (3, zi (nI i))] [] M := by
  obtain ⟨x1, hx1, e1⟩ := n_of (gX G (i + 1))
  obtain ⟨x2, hx2, e2⟩ := n_of (gX G (i + 2))
  refine z_run (cuts := [(18, [0, 1, 2, 3])]) ok_LW28 (fun Kz hKz => ?_)
  conv => whnf
  rw [nI_add i 1]
  refine ⟨vp_in_nI (by omega) (by omega), ?_⟩
  rw [nI_clamp (by omega), e1]
  conv => whnf
  rw [nI_add i 2]
  refine ⟨vp_in_nI (by omega) (by omega), ?_⟩
  rw [nI_clamp (by omega), e2]
  conv => whnf
  refine ag_part hx1 hx2 hC hR (fun v M1 hr => ?_)
  conv => whnf
  rw [nI_add i 1]
  refine ⟨vp_in_nI (by omega) (by omega), ?_⟩
  rw [nI_clamp (by omega), e1]
  conv => whnf
  rw [nI_add i 2]
  refine ⟨vp_in_nI (by omega) (by omega), ?_⟩
  rw [nI_clamp (by omega), e2]
  conv => whnf
  refine hr _ (fun M2 S2 g1 g2 => ?_)
  conv => whnf
  refine ⟨fun _ => ?_, fun q => absurd rfl q⟩
  conv => whnf
  refine hKz _ _ _ _ ?_
  rw [nI_add i 6]
  exact next _ _ g1 g2
theorem lw_29 {i : Nat} (hN : gN G ≤ 3072) (hi : i + 6 ≤ gN G) (hC : CS M S) (hR : RS M S) (next : ∀ S' M', CS M' S' → RS M' S' → V 0 G mi_LW Z 18 [(0, zr 39 0), (1, zr 5 0), (2, zr 20 0), (3, zi (nI (i + 6)))] [] M') : V 0 G mi_LW Z 1313 [(0, zr 39 0), (1, zr 5 0), (2, zr 20 0), (3, zi (nI i))] [] M := by
  obtain ⟨x1, hx1, e1⟩ := n_of (gX G (i + 1))
  refine z_run (cuts := [(18, [0, 1, 2, 3])]) ok_LW29 (fun Kz hKz => ?_)
  conv => whnf
  rw [nI_add i 1]
  refine ⟨vp_in_nI (by omega) (by omega), ?_⟩
  rw [nI_clamp (by omega), e1]
  conv => whnf
  refine ag_listed hx1 hC hR (fun v M1 hr => ?_)
  conv => whnf
  rw [nI_add i 1]
  refine ⟨vp_in_nI (by omega) (by omega), ?_⟩
  rw [nI_clamp (by omega), e1]
  conv => whnf
  refine hr _ (fun M2 S2 g1 g2 => ?_)
  conv => whnf
  refine ⟨fun _ => ?_, fun q => absurd rfl q⟩
  conv => whnf
  refine hKz _ _ _ _ ?_
  rw [nI_add i 6]
  exact next _ _ g1 g2
theorem lw_30 {i : Nat} (hN : gN G ≤ 3072) (hi : i + 6 ≤ gN G) (hC : CS M S) (hR : RS M S) (next : ∀ S' M', CS M' S' → RS M' S' → V 0 G mi_LW Z 18 [(0, zr 39 0), (1, zr 5 0), (2, zr 20 0), (3, zi (nI (i + 6)))] [] M') : V 0 G mi_LW Z 1336 [(0, zr 39 0), (1, zr 5 0), (2, zr 20 0), (3, zi (nI i))] [] M := by
  obtain ⟨x1, hx1, e1⟩ := n_of (gX G (i + 1))
  obtain ⟨x2, hx2, e2⟩ := n_of (gX G (i + 2))
  obtain ⟨x3, hx3, e3⟩ := n_of (gX G (i + 3))
  refine z_run (cuts := [(18, [0, 1, 2, 3])]) ok_LW30 (fun Kz hKz => ?_)
  conv => whnf
  rw [nI_add i 1]
  refine ⟨vp_in_nI (by omega) (by omega), ?_⟩
  rw [nI_clamp (by omega), e1]
  conv => whnf
  rw [nI_add i 2]
  refine ⟨vp_in_nI (by omega) (by omega), ?_⟩
  rw [nI_clamp (by omega), e2]
  conv => whnf
  rw [nI_add i 3]
  refine ⟨vp_in_nI (by omega) (by omega), ?_⟩
  rw [nI_clamp (by omega), e3]
  conv => whnf
  refine ag_take hx1 hx2 hx3 hC hR (fun v M1 hr => ?_)
  conv => whnf
  rw [nI_add i 1]
  refine ⟨vp_in_nI (by omega) (by omega), ?_⟩
  rw [nI_clamp (by omega), e1]
  conv => whnf
  rw [nI_add i 2]
  refine ⟨vp_in_nI (by omega) (by omega), ?_⟩
  rw [nI_clamp (by omega), e2]
  conv => whnf
  rw [nI_add i 3]
  refine ⟨vp_in_nI (by omega) (by omega), ?_⟩
  rw [nI_clamp (by omega), e3]
  conv => whnf
  refine hr _ (fun M2 S2 g1 g2 => ?_)
  conv => whnf
  refine ⟨fun _ => ?_, fun q => absurd rfl q⟩
  conv => whnf
  refine hKz _ _ _ _ ?_
  rw [nI_add i 6]
  exact next _ _ g1 g2
theorem lw_31 {i : Nat} (hN : gN G ≤ 3072) (hi : i + 6 ≤ gN G) (hC : CS M S) (hR : RS M S) (next : ∀ S' M', CS M' S' → RS M' S' → V 0 G mi_LW Z 18 [(0, zr 39 0), (1, zr 5 0), (2, zr 20 0), (3, zi (nI (i + 6)))] [] M') : V 0 G mi_LW Z 1379 [(0, zr 39 0), (1, zr 5 0), (2, zr 20 0), (3, zi (nI i))] [] M := by
  obtain ⟨x1, hx1, e1⟩ := n_of (gX G (i + 1))
  refine z_run (cuts := [(18, [0, 1, 2, 3])]) ok_LW31 (fun Kz hKz => ?_)
  conv => whnf
  rw [nI_add i 1]
  refine ⟨vp_in_nI (by omega) (by omega), ?_⟩
  rw [nI_clamp (by omega), e1]
  conv => whnf
  refine ag_count hx1 hC hR (fun v M1 hr => ?_)
  conv => whnf
  rw [nI_add i 1]
  refine ⟨vp_in_nI (by omega) (by omega), ?_⟩
  rw [nI_clamp (by omega), e1]
  conv => whnf
  refine hr _ (fun M2 S2 g1 g2 => ?_)
  conv => whnf
  refine ⟨fun _ => ?_, fun q => absurd rfl q⟩
  conv => whnf
  refine hKz _ _ _ _ ?_
  rw [nI_add i 6]
  exact next _ _ g1 g2
theorem lw_loop (hN : gN G ≤ 3072) : ∀ n i S M, gN G < i + n → i ≤ 3078 → CS M S → RS M S → V 0 G mi_LW Z 18 [(0, zr 39 0), (1, zr 5 0), (2, zr 20 0), (3, zi (nI i))] [] M := by
  intro n
  induction n with
  | zero =>
    intro i S M hn hi hC hR
    refine z_run (cuts := [(18, [0, 1, 2, 3]), (33, [0, 1, 2, 3])]) ok_LWh (fun Kz hKz => ?_)
    conv => whnf
    rw [lw_lt hN hi]
    refine ⟨fun _ => ?_, fun q => absurd (by omega) q⟩
    conv => whnf
  | succ n ih =>
    intro i S M hn hi hC hR
    refine z_run (cuts := [(18, [0, 1, 2, 3]), (33, [0, 1, 2, 3])]) ok_LWh (fun Kz hKz => ?_)
    conv => whnf
    rw [lw_lt hN hi]
    refine ⟨fun _ => ?_, fun q => ?_⟩
    · conv => whnf
    · have hi6 : i + 6 ≤ gN G := by omega
      have next : ∀ S' M', CS M' S' → RS M' S' → V 0 G mi_LW Z 18 [(0, zr 39 0), (1, zr 5 0), (2, zr 20 0), (3, zi (nI (i + 6)))] [] M' := fun S' M' g1 g2 => ih (i + 6) S' M' (by omega) (by omega) g1 g2
      conv => whnf
      refine ⟨vp_in_nI (by omega) (by omega), ?_⟩
      conv => whnf
      refine hKz _ _ _ _ ?_
      generalize gX G (nI i).toNatClampNeg &&& nI 31 = v
      refine zsw_V ok_LWh rfl ?_
      refine zsw_cons (fun _ => lw_0 hN hi6 hC hR next) (fun _ => ?_)
      refine zsw_cons (fun _ => lw_1 hN hi6 hC hR next) (fun _ => ?_)
      refine zsw_cons (fun _ => lw_2 hN hi6 hC hR next) (fun _ => ?_)
      refine zsw_cons (fun _ => lw_3 hN hi6 hC hR next) (fun _ => ?_)
      refine zsw_cons (fun _ => lw_4 hN hi6 hC hR next) (fun _ => ?_)
      refine zsw_cons (fun _ => lw_5 hN hi6 hC hR next) (fun _ => ?_)
      refine zsw_cons (fun _ => lw_6 hN hi6 hC hR next) (fun _ => ?_)
      refine zsw_cons (fun _ => lw_7 hN hi6 hC hR next) (fun _ => ?_)
      refine zsw_cons (fun _ => lw_8 hN hi6 hC hR next) (fun _ => ?_)
      refine zsw_cons (fun _ => lw_9 hN hi6 hC hR next) (fun _ => ?_)
      refine zsw_cons (fun _ => lw_10 hN hi6 hC hR next) (fun _ => ?_)
      refine zsw_cons (fun _ => lw_11 hN hi6 hC hR next) (fun _ => ?_)
      refine zsw_cons (fun _ => lw_12 hN hi6 hC hR next) (fun _ => ?_)
      refine zsw_cons (fun _ => lw_13 hN hi6 hC hR next) (fun _ => ?_)
      refine zsw_cons (fun _ => lw_14 hN hi6 hC hR next) (fun _ => ?_)
      refine zsw_cons (fun _ => lw_15 hN hi6 hC hR next) (fun _ => ?_)
      refine zsw_cons (fun _ => lw_16 hN hi6 hC hR next) (fun _ => ?_)
      refine zsw_cons (fun _ => lw_17 hN hi6 hC hR next) (fun _ => ?_)
      refine zsw_cons (fun _ => lw_18 hN hi6 hC hR next) (fun _ => ?_)
      refine zsw_cons (fun _ => lw_19 hN hi6 hC hR next) (fun _ => ?_)
      refine zsw_cons (fun _ => lw_20 hN hi6 hC hR next) (fun _ => ?_)
      refine zsw_cons (fun _ => lw_21 hN hi6 hC hR next) (fun _ => ?_)
      refine zsw_cons (fun _ => lw_22 hN hi6 hC hR next) (fun _ => ?_)
      refine zsw_cons (fun _ => lw_23 hN hi6 hC hR next) (fun _ => ?_)
      refine zsw_cons (fun _ => lw_24 hN hi6 hC hR next) (fun _ => ?_)
      refine zsw_cons (fun _ => lw_25 hN hi6 hC hR next) (fun _ => ?_)
      refine zsw_cons (fun _ => lw_26 hN hi6 hC hR next) (fun _ => ?_)
      refine zsw_cons (fun _ => lw_27 hN hi6 hC hR next) (fun _ => ?_)
      refine zsw_cons (fun _ => lw_28 hN hi6 hC hR next) (fun _ => ?_)
      refine zsw_cons (fun _ => lw_29 hN hi6 hC hR next) (fun _ => ?_)
      refine zsw_cons (fun _ => lw_30 hN hi6 hC hR next) (fun _ => ?_)
      refine zsw_cons (fun _ => lw_31 hN hi6 hC hR next) (fun _ => ?_)
      refine zsw_nil ?_
      refine z_run (cuts := [(18, [0, 1, 2, 3])]) ok_LWh (fun Kz hKz => ?_)
      conv => whnf
      refine hKz _ _ _ _ ?_
      rw [nI_add i 6]
      exact next _ _ hC hR
end
