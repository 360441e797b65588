/-! the law: each cell of a map, all that is known of it -/
theorem plA_in {S : ZS} {m : Nat} (h : m < 4) : plA S m = S.1 m := plA_eq h
theorem cnt1 (p : Nat → Bool) (k : Nat) : cnt p (k + 1) = cnt p k + (if p k = true then 1 else 0) := by
  rw [cnt]
  cases p k <;> rfl
theorem cls_shut {A : ZP} {s r : Nat} (hs : s < 2 ^ A.1) (h : isShut A s r) : r = s ↔ clSb A s = true := by
  rw [clSb_iff]
  constructor
  · intro e; rw [← e]; exact h.2.2.1
  · intro hc; exact sub2_anti (h.2.2.2 s (sub2_refl s) hc) h.2.1
section
variable {G : ZG} {M : ZM} {Z : Option ZV → ZM → Prop} {S : ZS}
theorem h_same {m : Nat} (hm : m < 4) (hC : CS M S) (hL : LH M S) (hZ : ∀ M', CS M' S → LH M' S → Z (some (zi (nI 1))) M') : Ctr 0 G mi_LW_same [zr 5 0, zr 20 0, zi (nI m)] M Z := by
  have hA := hL.2 m hm
  have hn := hA.1.1
  have ep := plA_in (S := S) hm
  have hnn : (S.1 m).1 * (S.1 m).1 ≤ 6 * 6 := Nat.mul_le_mul hn hn
  have lp : ∀ M', CS M' S → LH M' S → ∀ k, k ≤ (S.1 m).1 * (S.1 m).1 → V 0 G mi_LW_same Z 35 [(0, zr 5 0), (1, zr 20 0), (2, zi (nI m)), (3, zi (nI (S.1 m).1)), (4, zi (nI 1)), (5, zi (nI k))] [] M' := by
    intro M' hC hL
    have hA := hL.2 m hm
    refine up_to ?_ ?_
    · refine z_run (cuts := cu_LW_same) ok_LW_same (fun Kz hKz => ?_)
      conv => whnf
      rw [pk_mul, nI_leI (by omega) (by omega)]
      refine ⟨fun _ => ?_, fun q => absurd (by omega) q⟩
      conv => whnf
      exact ⟨Or.inr rfl, hZ M' hC hL⟩
    · intro k hk ih
      have hd := dvlt hk
      have hLR := hA.1.2 _ _ hd.1 hd.2
      have hz := n_nz (b := (S.1 m).1) (by omega) (by omega)
      obtain ⟨ed, em⟩ := n_dm (k := k) (n := (S.1 m).1) (by omega) (by omega) (by omega)
      have hd1 : k / (S.1 m).1 < (plA S m).1 := by rw [ep]; exact hd.1
      have hd2 : k % (S.1 m).1 < (plA S m).1 := by rw [ep]; exact hd.2
      refine z_run (cuts := cu_LW_same) ok_LW_same (fun Kz hKz => ?_)
      conv => whnf
      rw [pk_mul, nI_leI (by omega) (by omega)]
      refine ⟨fun q => absurd q (by omega), fun _ => ?_⟩
      conv => whnf
      first | refine ⟨fun _ => ?_, fun q => absurd (by decide) q⟩ | refine ⟨fun q => absurd q (by decide), fun _ => ?_⟩
      conv => whnf
      refine ⟨hz, ?_⟩
      conv => whnf
      refine ⟨hz, ?_⟩
      conv => whnf
      rw [ed, em]
      refine c_cell (by omega) (by omega) (by omega) (by decide) hC (fun z => absurd ⟨hd1, hd2⟩ z) (fun _ _ z => absurd (by decide) z) (fun _ _ _ => ?_) (fun _ _ z => absurd z (by decide))
      rw [ep]
      conv => whnf
      refine ⟨hz, ?_⟩
      conv => whnf
      refine ⟨hz, ?_⟩
      conv => whnf
      rw [ed, em]
      refine h_l (by omega) hL.1 hA hd.1 hd.2 ?_
      conv => whnf
      refine ⟨fun z => absurd rfl z, fun _ => ?_⟩
      conv => whnf
      refine ⟨hz, ?_⟩
      conv => whnf
      refine ⟨hz, ?_⟩
      conv => whnf
      rw [ed, em]
      refine c_cell (by omega) (by omega) (by omega) (by decide) hC (fun z => absurd ⟨hd1, hd2⟩ z) (fun _ _ z => absurd (by decide) z) (fun _ _ z => absurd z (by decide)) (fun _ _ _ => ?_)
      rw [ep]
      conv => whnf
      refine ⟨hz, ?_⟩
      conv => whnf
      refine ⟨hz, ?_⟩
      conv => whnf
      rw [ed, em]
      refine h_r (by omega) hL.1 hA hd.1 hd.2 ?_
      conv => whnf
      refine ⟨fun z => absurd rfl z, fun _ => ?_⟩
      conv => whnf
      refine hKz _ _ _ _ ?_
      rw [nI_1']
      exact ih
  refine go_LW_same (fun Kz hKz => ?_)
  conv => whnf
  refine h_points (by omega) hA ?_
  conv => whnf
  refine c_whole (by omega) (by decide) hC (fun e => ?_) (fun e v hv M2 g1 g2 => ?_)
  · rw [ep] at e
    conv => whnf
    rw [n_ne (by omega) (by decide)]
    refine ⟨fun z => absurd e z, fun _ => ?_⟩
    conv => whnf
    refine ⟨fun z => absurd rfl z, fun _ => ?_⟩
    conv => whnf
    refine hKz _ _ _ _ ?_
    exact lp M hC hL 0 (Nat.zero_le _)
  · rw [ep] at e hv
    have hv : v = nI (S.1 m).1 := hv
    rw [hv]
    conv => whnf
    rw [n_ne (by omega) (by decide)]
    refine ⟨fun _ => ?_, fun z => absurd e z⟩
    conv => whnf
    refine ⟨fun z => absurd rfl z, fun _ => ?_⟩
    conv => whnf
    refine hKz _ _ _ _ ?_
    exact lp M2 g1 (LH_csm hL g2) 0 (Nat.zero_le _)
theorem h_known {m : Nat} {w : Int32} (hm : m < 4) (hC : CS M S) (hL : LH M S) (hZ : ∀ M', CS M' S → LH M' S → Z (some (zi (nI 1))) M') : Ctr 0 G mi_LW_known [zr 5 0, zr 20 0, zi (nI m), zi w] M Z := by
  have hA := hL.2 m hm
  have hn := hA.1.1
  have ep := plA_in (S := S) hm
  have p6 : 2 ^ (S.1 m).1 ≤ 2 ^ 6 := Nat.pow_le_pow_right (by decide) hn
  have pp := Nat.two_pow_pos (S.1 m).1
  have horb : ∃ p : Nat → Bool, ∀ x, x < (S.1 m).1 → ∀ r, isOrb (S.1 m) x r → (p x = true ↔ r % 2 ^ x = 0) := by
    classical
    refine ⟨fun x => decide (∃ r, isOrb (S.1 m) x r ∧ r % 2 ^ x = 0), fun x hx r hr => ?_⟩
    rw [decide_eq_true_iff]
    constructor
    · rintro ⟨r', h1, h2⟩
      rw [isOrb_uniq hr h1]; exact h2
    · intro h; exact ⟨r, hr, h⟩
  obtain ⟨orbp, horb⟩ := horb
  have t311 : (S.1 m).1 ≠ 0 → ∀ st, st < 2 ^ (S.1 m).1 → ∀ M', CS M' S → LH M' S → V 0 G mi_LW_known Z 311 [(0, zr 5 0), (1, zr 20 0), (2, zi (nI m)), (7, zi (nI st))] [] M' := by
    intro h0 st hst M' hC hL
    have hA := hL.2 m hm
    refine z_run (cuts := []) ok_LW_known_5 (fun Kz hKz => ?_)
    conv => whnf
    refine c_shut (by omega) (by omega) hC (fun z => absurd (by rw [ep] at z; exact z) h0) (fun _ z => absurd (by rw [ep]; exact hst) z) (fun _ _ r hr => ?_)
    rw [ep] at hr
    conv => whnf
    refine h_shut (by omega) hL.1 hA hst (fun r' hr' => ?_)
    rw [isShut_uniq hr' hr]
    conv => whnf
    refine ⟨fun z => absurd rfl z, fun _ => ?_⟩
    conv => whnf
    exact ⟨Or.inr rfl, hZ M' hC hL⟩
  have t299 : (S.1 m).1 ≠ 0 → ∀ st, st < 2 ^ (S.1 m).1 → ∀ M', CS M' S → LH M' S → V 0 G mi_LW_known Z 299 [(0, zr 5 0), (1, zr 20 0), (2, zi (nI m)), (6, zi (nI (cnt (clSb (S.1 m)) (2 ^ (S.1 m).1)))), (7, zi (nI st))] [] M' := by
    intro h0 st hst M' hC hL
    have hA := hL.2 m hm
    refine z_run (cuts := [(311, [0, 1, 2, 7])]) ok_LW_known_5 (fun Kz hKz => ?_)
    conv => whnf
    refine c_whole (by omega) (by decide) hC (fun z => absurd (by rw [ep] at z; exact z) h0) (fun _ v hv M2 g1 g2 => ?_)
    rw [ep] at hv
    have hv : v = nI (cnt (clSb (S.1 m)) (2 ^ (S.1 m).1)) := hv
    rw [hv]
    conv => whnf
    refine ⟨fun z => absurd rfl z, fun _ => ?_⟩
    conv => whnf
    refine hKz _ _ _ _ ?_
    exact t311 h0 st hst M2 g1 (LH_csm hL g2)
  have t287 : (S.1 m).1 ≠ 0 → ∀ st, st < 2 ^ (S.1 m).1 → ∀ M', CS M' S → LH M' S → V 0 G mi_LW_known Z 287 [(0, zr 5 0), (1, zr 20 0), (2, zi (nI m)), (5, zi (nI (cnt orbp (S.1 m).1))), (6, zi (nI (cnt (clSb (S.1 m)) (2 ^ (S.1 m).1)))), (7, zi (nI st))] [] M' := by
    intro h0 st hst M' hC hL
    have hA := hL.2 m hm
    refine z_run (cuts := [(299, [0, 1, 2, 6, 7])]) ok_LW_known_4 (fun Kz hKz => ?_)
    conv => whnf
    refine c_whole (by omega) (by decide) hC (fun z => absurd (by rw [ep] at z; exact z) h0) (fun _ v hv M2 g1 g2 => ?_)
    rw [ep] at hv
    obtain ⟨p, hp, hv⟩ : ∃ p : Nat → Bool, (∀ x, x < (S.1 m).1 → ∃ r, isOrb (S.1 m) x r ∧ (p x = true ↔ ∀ i, i < x → r.testBit i = false)) ∧ v = nI (cnt p (S.1 m).1) := hv
    have e : cnt p (S.1 m).1 = cnt orbp (S.1 m).1 := cnt_congr _ (fun x hx => by
      obtain ⟨r, h1, h2⟩ := hp x hx
      rw [Bool.eq_iff_iff, h2, horb x hx r h1, low_zero])
    rw [hv, e]
    conv => whnf
    refine ⟨fun z => absurd rfl z, fun _ => ?_⟩
    conv => whnf
    refine hKz _ _ _ _ ?_
    exact t299 h0 st hst M2 g1 (LH_csm hL g2)
  have t268 : (S.1 m).1 ≠ 0 → ∀ st, st < 2 ^ (S.1 m).1 → ∀ M', CS M' S → LH M' S → V 0 G mi_LW_known Z 268 [(0, zr 5 0), (1, zr 20 0), (2, zi (nI m)), (5, zi (nI (cnt orbp (S.1 m).1))), (6, zi (nI (cnt (clSb (S.1 m)) (2 ^ (S.1 m).1)))), (7, zi (nI st))] [] M' := by
    intro h0 st hst M' hC hL
    have hA := hL.2 m hm
    refine z_run (cuts := [(287, [0, 1, 2, 5, 6, 7])]) ok_LW_known_4 (fun Kz hKz => ?_)
    conv => whnf
    refine c_whole (by omega) (by decide) hC (fun z => absurd (by rw [ep] at z; exact z) h0) (fun _ v hv M2 g1 g2 => ?_)
    rw [ep] at hv
    have hv : (psq (S.1 m) → v = nI 1) ∧ (¬ psq (S.1 m) → v = nI 0) := hv
    have hL2 := LH_csm hL g2
    have hA2 := hL2.2 m hm
    conv => whnf
    refine h_is (by omega) hL2.1 hA2 (by decide) (fun hp => ?_) (fun hp => ?_)
    · have hp : psq (S.1 m) := hp.2.2.2 rfl
      rw [hv.1 hp]
      conv => whnf
      refine h_as1 ?_
      conv => whnf
      refine ⟨fun z => absurd rfl z, fun _ => ?_⟩
      conv => whnf
      refine hKz _ _ _ _ ?_
      exact t287 h0 st hst M2 g1 hL2
    · have hp : ¬ psq (S.1 m) := fun z => hp ⟨fun y => absurd y (by decide), fun y => absurd y (by decide), fun y => absurd y (by decide), fun _ => z⟩
      rw [hv.2 hp]
      conv => whnf
      refine h_as0 ?_
      conv => whnf
      refine ⟨fun z => absurd rfl z, fun _ => ?_⟩
      conv => whnf
      refine hKz _ _ _ _ ?_
      exact t287 h0 st hst M2 g1 hL2
  have t249 : (S.1 m).1 ≠ 0 → ∀ st, st < 2 ^ (S.1 m).1 → ∀ M', CS M' S → LH M' S → V 0 G mi_LW_known Z 249 [(0, zr 5 0), (1, zr 20 0), (2, zi (nI m)), (5, zi (nI (cnt orbp (S.1 m).1))), (6, zi (nI (cnt (clSb (S.1 m)) (2 ^ (S.1 m).1)))), (7, zi (nI st))] [] M' := by
    intro h0 st hst M' hC hL
    have hA := hL.2 m hm
    refine z_run (cuts := [(268, [0, 1, 2, 5, 6, 7])]) ok_LW_known_4 (fun Kz hKz => ?_)
    conv => whnf
    refine c_whole (by omega) (by decide) hC (fun z => absurd (by rw [ep] at z; exact z) h0) (fun _ v hv M2 g1 g2 => ?_)
    rw [ep] at hv
    have hv : (prnd (S.1 m) → v = nI 1) ∧ (¬ prnd (S.1 m) → v = nI 0) := hv
    have hL2 := LH_csm hL g2
    have hA2 := hL2.2 m hm
    conv => whnf
    refine h_is (by omega) hL2.1 hA2 (by decide) (fun hp => ?_) (fun hp => ?_)
    · have hp : prnd (S.1 m) := hp.2.2.1 rfl
      rw [hv.1 hp]
      conv => whnf
      refine h_as1 ?_
      conv => whnf
      refine ⟨fun z => absurd rfl z, fun _ => ?_⟩
      conv => whnf
      refine hKz _ _ _ _ ?_
      exact t268 h0 st hst M2 g1 hL2
    · have hp : ¬ prnd (S.1 m) := fun z => hp ⟨fun y => absurd y (by decide), fun y => absurd y (by decide), fun _ => z, fun y => absurd y (by decide)⟩
      rw [hv.2 hp]
      conv => whnf
      refine h_as0 ?_
      conv => whnf
      refine ⟨fun z => absurd rfl z, fun _ => ?_⟩
      conv => whnf
      refine hKz _ _ _ _ ?_
      exact t268 h0 st hst M2 g1 hL2
  have t231 : (S.1 m).1 ≠ 0 → ∀ st, st < 2 ^ (S.1 m).1 → ∀ M', CS M' S → LH M' S → V 0 G mi_LW_known Z 231 [(0, zr 5 0), (1, zr 20 0), (2, zi (nI m)), (5, zi (nI (cnt orbp (S.1 m).1))), (6, zi (nI (cnt (clSb (S.1 m)) (2 ^ (S.1 m).1)))), (7, zi (nI st))] [] M' := by
    intro h0 st hst M' hC hL
    have hA := hL.2 m hm
    refine z_run (cuts := [(249, [0, 1, 2, 5, 6, 7])]) ok_LW_known_3 (fun Kz hKz => ?_)
    conv => whnf
    refine c_whole (by omega) (by decide) hC (fun z => absurd (by rw [ep] at z; exact z) h0) (fun _ v hv M2 g1 g2 => ?_)
    rw [ep] at hv
    have hv : (plnd (S.1 m) → v = nI 1) ∧ (¬ plnd (S.1 m) → v = nI 0) := hv
    have hL2 := LH_csm hL g2
    have hA2 := hL2.2 m hm
    conv => whnf
    refine h_is (by omega) hL2.1 hA2 (by decide) (fun hp => ?_) (fun hp => ?_)
    · have hp : plnd (S.1 m) := hp.2.1 rfl
      rw [hv.1 hp]
      conv => whnf
      refine h_as1 ?_
      conv => whnf
      refine ⟨fun z => absurd rfl z, fun _ => ?_⟩
      conv => whnf
      refine hKz _ _ _ _ ?_
      exact t249 h0 st hst M2 g1 hL2
    · have hp : ¬ plnd (S.1 m) := fun z => hp ⟨fun y => absurd y (by decide), fun _ => z, fun y => absurd y (by decide), fun y => absurd y (by decide)⟩
      rw [hv.2 hp]
      conv => whnf
      refine h_as0 ?_
      conv => whnf
      refine ⟨fun z => absurd rfl z, fun _ => ?_⟩
      conv => whnf
      refine hKz _ _ _ _ ?_
      exact t249 h0 st hst M2 g1 hL2
  have t213 : (S.1 m).1 ≠ 0 → ∀ st, st < 2 ^ (S.1 m).1 → ∀ M', CS M' S → LH M' S → V 0 G mi_LW_known Z 213 [(0, zr 5 0), (1, zr 20 0), (2, zi (nI m)), (5, zi (nI (cnt orbp (S.1 m).1))), (6, zi (nI (cnt (clSb (S.1 m)) (2 ^ (S.1 m).1)))), (7, zi (nI st))] [] M' := by
    intro h0 st hst M' hC hL
    have hA := hL.2 m hm
    refine z_run (cuts := [(231, [0, 1, 2, 5, 6, 7])]) ok_LW_known_3 (fun Kz hKz => ?_)
    conv => whnf
    refine c_whole (by omega) (by decide) hC (fun z => absurd (by rw [ep] at z; exact z) h0) (fun _ v hv M2 g1 g2 => ?_)
    rw [ep] at hv
    have hv : (pinvo (S.1 m) → v = nI 1) ∧ (¬ pinvo (S.1 m) → v = nI 0) := hv
    have hL2 := LH_csm hL g2
    have hA2 := hL2.2 m hm
    conv => whnf
    refine h_is (by omega) hL2.1 hA2 (by decide) (fun hp => ?_) (fun hp => ?_)
    · have hp : pinvo (S.1 m) := hp.1 rfl
      rw [hv.1 hp]
      conv => whnf
      refine h_as1 ?_
      conv => whnf
      refine ⟨fun z => absurd rfl z, fun _ => ?_⟩
      conv => whnf
      refine hKz _ _ _ _ ?_
      exact t231 h0 st hst M2 g1 hL2
    · have hp : ¬ pinvo (S.1 m) := fun z => hp ⟨fun _ => z, fun y => absurd y (by decide), fun y => absurd y (by decide), fun y => absurd y (by decide)⟩
      rw [hv.2 hp]
      conv => whnf
      refine h_as0 ?_
      conv => whnf
      refine ⟨fun z => absurd rfl z, fun _ => ?_⟩
      conv => whnf
      refine hKz _ _ _ _ ?_
      exact t231 h0 st hst M2 g1 hL2
  have t196 : (S.1 m).1 ≠ 0 → ∀ st, st < 2 ^ (S.1 m).1 → ∀ M', CS M' S → LH M' S → V 0 G mi_LW_known Z 196 [(0, zr 5 0), (1, zr 20 0), (2, zi (nI m)), (5, zi (nI (cnt orbp (S.1 m).1))), (6, zi (nI (cnt (clSb (S.1 m)) (2 ^ (S.1 m).1)))), (7, zi (nI st))] [] M' := by
    intro h0 st hst M' hC hL
    have hA := hL.2 m hm
    refine z_run (cuts := [(213, [0, 1, 2, 5, 6, 7])]) ok_LW_known_3 (fun Kz hKz => ?_)
    conv => whnf
    refine c_whole (by omega) (by decide) hC (fun z => absurd (by rw [ep] at z; exact z) h0) (fun _ v hv M2 g1 g2 => ?_)
    rw [ep] at hv
    have hv : (pinj (S.1 m) → v = nI 1) ∧ (¬ pinj (S.1 m) → v = nI 0) := hv
    have hL2 := LH_csm hL g2
    have hA2 := hL2.2 m hm
    conv => whnf
    refine h_bijective (by omega) hL2.1 hA2 (fun hp => ?_) (fun hp => ?_)
    · rw [hv.1 hp]
      conv => whnf
      refine h_as1 ?_
      conv => whnf
      refine ⟨fun z => absurd rfl z, fun _ => ?_⟩
      conv => whnf
      refine hKz _ _ _ _ ?_
      exact t213 h0 st hst M2 g1 hL2
    · rw [hv.2 hp]
      conv => whnf
      refine h_as0 ?_
      conv => whnf
      refine ⟨fun z => absurd rfl z, fun _ => ?_⟩
      conv => whnf
      refine hKz _ _ _ _ ?_
      exact t213 h0 st hst M2 g1 hL2
  have lset : (S.1 m).1 ≠ 0 → ∀ M', CS M' S → LH M' S → ∀ s, s ≤ 2 ^ (S.1 m).1 → V 0 G mi_LW_known Z 149 [(0, zr 5 0), (1, zr 20 0), (2, zi (nI m)), (3, zi w), (4, zi (nI (S.1 m).1)), (5, zi (nI (cnt orbp (S.1 m).1))), (6, zi (nI (cnt (clSb (S.1 m)) s))), (7, zi (nI s))] [] M' := by
    intro h0 M' hC hL
    have hA := hL.2 m hm
    refine up_to ?_ ?_
    · refine z_run (cuts := cu_LW_known) ok_LW_known_2 (fun Kz hKz => ?_)
      conv => whnf
      rw [n_shl _ _ (by omega), Nat.one_mul, nI_leI (by omega) (by omega)]
      refine ⟨fun _ => ?_, fun q => absurd (by omega) q⟩
      conv => whnf
      rw [n_shl _ _ (by omega), Nat.one_mul]
      refine h_low pp (by omega) (fun r hr => ?_)
      conv => whnf
      refine hKz _ _ _ _ ?_
      exact t196 h0 r hr M' hC hL
    · intro s hs ih
      have hcs := cnt_le (clSb (S.1 m)) s
      rw [cnt1] at ih
      refine z_run (cuts := cu_LW_known) ok_LW_known_2 (fun Kz hKz => ?_)
      conv => whnf
      rw [n_shl _ _ (by omega), Nat.one_mul, nI_leI (by omega) (by omega)]
      refine ⟨fun q => absurd q (by omega), fun _ => ?_⟩
      conv => whnf
      refine h_shut (by omega) hL.1 hA hs (fun r hr => ?_)
      have e := cls_shut hs hr
      have hr2 := hr.1
      conv => whnf
      rw [n_ne (by omega) (by omega)]
      refine ⟨fun q => ?_, fun q => ?_⟩
      · rw [if_neg (fun z => q (e.mpr z))] at ih
        conv => whnf
        refine hKz _ _ _ _ ?_
        rw [nI_add, nI_1']
        exact ih
      · rw [if_pos (e.mp (Classical.not_not.mp q))] at ih
        conv => whnf
        refine hKz _ _ _ _ ?_
        rw [nI_add, nI_1']
        exact ih
  have lpt : ∀ d, ∀ p, p + d = (S.1 m).1 → (S.1 m).1 ≠ 0 → ∀ M', CS M' S → LH M' S → V 0 G mi_LW_known Z 71 [(0, zr 5 0), (1, zr 20 0), (2, zi (nI m)), (3, zi w), (4, zi (nI (S.1 m).1)), (5, zi (nI (cnt orbp p))), (6, zi (nI 0)), (7, zi (nI p))] [] M' := by
    intro d
    induction d with
    | zero =>
      intro p hp h0 M' hC hL
      have hp : p = (S.1 m).1 := by omega
      refine z_run (cuts := cu_LW_known) ok_LW_known_1 (fun Kz hKz => ?_)
      conv => whnf
      rw [nI_leI (by omega) (by omega)]
      refine ⟨fun _ => ?_, fun q => absurd (by omega) q⟩
      conv => whnf
      refine hKz _ _ _ _ ?_
      rw [hp]
      refine z_run (cuts := cu_LW_known) ok_LW_known_2 (fun Kz hKz => ?_)
      conv => whnf
      refine hKz _ _ _ _ ?_
      exact lset h0 M' hC hL 0 (Nat.zero_le _)
    | succ d ihd =>
      intro p hp h0 M' hC hL
      have hA := hL.2 m hm
      have hcs := cnt_le orbp p
      have hpl : p < (S.1 m).1 := by omega
      have hpl2 : p < (plA S m).1 := by rw [ep]; exact hpl
      have ih := ihd (p + 1) (by omega) h0
      rw [cnt1] at ih
      have b1 : 2 ^ p < 2 ^ 6 := Nat.pow_lt_pow_right (by decide) (by omega)
      have b2 := Nat.two_pow_pos p
      refine z_run (cuts := [(109, [0, 1, 2, 3, 4, 5, 6, 7, 8])]) ok_LW_known_1 (fun Kz hKz => ?_)
      conv => whnf
      rw [nI_leI (by omega) (by omega)]
      refine ⟨fun q => absurd q (by omega), fun _ => ?_⟩
      conv => whnf
      refine h_orbit (by omega) hL.1 hA hpl (fun r hr => ?_)
      have e := horb p hpl r hr
      have hr2 := hr.1
      have hr3 : r % 2 ^ p ≤ r := Nat.mod_le _ _
      conv => whnf
      rw [n_shl _ _ (by omega), Nat.one_mul, pk_sub (by omega), n_and, Nat.and_two_pow_sub_one_eq_mod, n_ne (by omega) (by decide)]
      have more : ∀ v, v = cnt orbp p + (if orbp p = true then 1 else 0) → V 0 G mi_LW_known Z 109 [(0, zr 5 0), (1, zr 20 0), (2, zi (nI m)), (3, zi w), (4, zi (nI (S.1 m).1)), (5, zi (nI v)), (6, zi (nI 0)), (7, zi (nI p)), (8, zi (nI r))] [] M' := by
        intro v hv
        subst hv
        refine z_run (cuts := cu_LW_known) ok_LW_known_1 (fun Kz hKz => ?_)
        conv => whnf
        refine c_orbit (by omega) (by omega) hC (fun z => absurd hpl2 z) (fun _ r' hr' => ?_)
        rw [ep] at hr'
        rw [isOrb_uniq hr' hr]
        conv => whnf
        refine ⟨fun z => absurd rfl z, fun _ => ?_⟩
        conv => whnf
        refine c_alike (by omega) (by omega) hC (fun z => absurd hpl2 z) (fun _ M2 g1 g2 => ?_)
        rw [ep]
        have hL2 := LH_csm hL g2
        conv => whnf
        refine h_clazz (by omega) hL2.1 (hL2.2 m hm) hpl ?_
        conv => whnf
        refine ⟨fun _ => ?_, fun z => absurd rfl z⟩
        conv => whnf
        refine hKz _ _ _ _ ?_
        rw [nI_1']
        exact ih M2 g1 hL2
      refine ⟨fun q => ?_, fun q => ?_⟩
      · have q2 : ¬ orbp p = true := fun z => q (e.mp z)
        conv => whnf
        refine hKz _ _ _ _ ?_
        rw [nI_add]
        exact more _ (by rw [if_neg q2])
      · have q2 : orbp p = true := e.mpr (Classical.not_not.mp q)
        conv => whnf
        refine hKz _ _ _ _ ?_
        rw [nI_add]
        exact more _ (by rw [if_pos q2])
  refine go_LW_known (fun Kz hKz => ?_)
  conv => whnf
  refine h_points (by omega) hA ?_
  conv => whnf
  rw [n_ne (by omega) (by decide)]
  refine ⟨fun q => ?_, fun q => ?_⟩
  · conv => whnf
    refine hKz _ _ _ _ ?_
    refine z_run (cuts := cu_LW_known) ok_LW_known_1 (fun Kz hKz => ?_)
    conv => whnf
    refine hKz _ _ _ _ ?_
    exact lpt (S.1 m).1 0 (by omega) q M hC hL
  · have q : (plA S m).1 = 0 := by rw [ep]; exact Classical.not_not.mp q
    conv => whnf
    refine c_whole (by omega) (by decide) hC (fun _ => ?_) (fun z => absurd q z)
    conv => whnf
    refine ⟨fun z => absurd rfl z, fun _ => ?_⟩
    conv => whnf
    refine c_orbit (by omega) (by decide) hC (fun _ => ?_) (fun z => absurd z (by omega))
    conv => whnf
    refine ⟨fun z => absurd rfl z, fun _ => ?_⟩
    conv => whnf
    refine c_shut (by omega) (by decide) hC (fun _ => ?_) (fun z => absurd q z) (fun z => absurd q z)
    conv => whnf
    refine ⟨fun z => absurd rfl z, fun _ => ?_⟩
    conv => whnf
    refine c_alike (by omega) (by decide) hC (fun _ => ?_) (fun z => absurd z (by omega))
    conv => whnf
    refine ⟨fun z => absurd rfl z, fun _ => ?_⟩
    conv => whnf
    exact ⟨Or.inr rfl, hZ M hC hL⟩
end
