/-! the law: one more map is made: inverted, mirrored, renamed; classes; dropped; a cell put -/
theorem isH_zero {M : ZM} {a : Nat} {S : ZS} (ha : a < 4) (hL : LH M S) : LH (zsetL 20 0 (8 * a) (lN 0) M) (upS S a p0) := by
  have hwe : ∀ m x, m < 5 → x < 6 → hw (zsetL 20 0 (8 * a) (lN 0) M) m x = hw M m x := fun m x hm hx => by
    unfold hw
    rw [zsetL_ne (by omega)]
  refine ⟨fun m hm x hx => by rw [hwe m x hm hx]; exact hL.1 m hm x hx, fun m hm => ?_⟩
  simp only [upS]
  by_cases e : m = a
  · rw [if_pos e, e]
    exact ⟨p0_wf, zsetL_eq, fun x y hx _ => absurd hx (Nat.not_lt_zero _)⟩
  · rw [if_neg e]
    have hB := hL.2 m hm
    have hn := hB.1.1
    refine ⟨hB.1, ?_, fun x y hx hy => ?_⟩
    · rw [zsetL_ne (by omega)]
      exact hB.2.1
    · unfold hcl hcr
      rw [hwe m x (by omega) (by omega)]
      exact hB.2.2 x y hx hy
theorem LH_put {M M' : ZM} {a p q u v : Nat} {S : ZS} (ha : a < 4) (hL : LH M S) (hu : u < (S.1 a).1) (hv : v < (S.1 a).1) (h : hly a p q u v M M') : LH M' (upS S a (pput (S.1 a) p q u v)) := by
  refine ⟨h.2.1, fun m hm => ?_⟩
  simp only [upS]
  have hB := hL.2 m hm
  have hn := hB.1.1
  by_cases e : m = a
  · subst e
    rw [if_pos rfl]
    refine ⟨pput_wf hB.1 hu hv, (h.2.2.1 m (by omega)).trans hB.2.1, fun x y hx hy => ?_⟩
    have hx : x < (S.1 m).1 := hx
    have hy : y < (S.1 m).1 := hy
    have g := h.2.2.2 m x y (by omega) (by omega) (by omega)
    have b := hB.2.2 x y hx hy
    show _ = (if x = p ∧ y = q then u else (S.1 m).2.1 x y) ∧ _ = (if x = p ∧ y = q then v else (S.1 m).2.2 x y)
    by_cases z : x = p ∧ y = q
    · have z3 : m = m ∧ x = p ∧ y = q := ⟨rfl, z⟩
      rw [if_pos z3, if_pos z3] at g
      rw [if_pos z, if_pos z]
      exact g
    · have z3 : ¬ (m = m ∧ x = p ∧ y = q) := fun w => z w.2
      rw [if_neg z3, if_neg z3] at g
      rw [if_neg z, if_neg z, g.1, g.2]
      exact b
  · rw [if_neg e]
    refine ⟨hB.1, (h.2.2.1 m (by omega)).trans hB.2.1, fun x y hx hy => ?_⟩
    have g := h.2.2.2 m x y (by omega) (by omega) (by omega)
    rw [if_neg (fun w => e w.1), if_neg (fun w => e w.1)] at g
    rw [g.1, g.2]
    exact hB.2.2 x y hx hy
section
variable {G : ZG} {M : ZM} {Z : Option ZV → ZM → Prop} {S : ZS}
theorem o_turn {y : Int32} {what to a : Nat} (hto : to < 4) (ha : a < 4) (hw : what = 6 ∨ what = 7 ∨ what = 8) (hC : CS M S) (hL : LH M S) (h0 : M.2 20 0 32 = lN 0) (hZ : ∀ S' M', CS M' S' → LH M' S' → Z (some (zi (nI 1))) M') : V 0 G mi_LW_one Z 532 [(0, zr 5 0), (1, zr 20 0), (3, zi y), (5, zi (nI what)), (6, zi (nI to)), (7, zi (nI a)), (10, zi (nI (S.1 a).1))] [] M := by
  have hA := hL.2 a ha
  have hn := hA.1.1
  have ea := plA_in (S := S) ha
  -- the class's call at 619
  have bad : ∀ d f : Int32, (what = 6 → ∀ Z2, (Z2 (some (zi d)) M) → Ctr 0 G mi_T_invert [zr 5 0, zi (nI a), zi (nI to)] M Z2) → (what = 7 → ∀ Z2, (Z2 (some (zi d)) M) → Ctr 0 G mi_T_mirror [zr 5 0, zi (nI a), zi (nI to)] M Z2) → (what = 8 → ∀ Z2, (Z2 (some (zi d)) M) → Ctr 0 G mi_T_rename [zr 5 0, zi (nI a), zi f, zi (nI to)] M Z2) → V 0 G mi_LW_one Z 619 [(0, zr 5 0), (1, zr 20 0), (5, zi (nI what)), (6, zi (nI to)), (7, zi (nI a)), (11, zi d), (13, zi f)] [] M := by
    intro d f hi hm hr
    refine z_run (cuts := [(904, [1, 6, 11, 12])]) ok_LW_one_4 (fun Kz hKz => ?_)
    conv => whnf
    rw [n_ne (by omega) (by decide)]
    rcases hw with e | e | e
    · refine ⟨fun z => absurd e z, fun _ => ?_⟩
      conv => whnf
      refine hi e _ ?_
      conv => whnf
      refine hKz _ _ _ _ ?_
      exact o_tail0 hC hL h0 hZ
    · refine ⟨fun _ => ?_, fun z => absurd (show ¬ what = 6 by omega) z⟩
      conv => whnf
      rw [n_ne (by omega) (by decide)]
      refine ⟨fun z => absurd e z, fun _ => ?_⟩
      conv => whnf
      refine hm e _ ?_
      conv => whnf
      refine hKz _ _ _ _ ?_
      exact o_tail0 hC hL h0 hZ
    · refine ⟨fun _ => ?_, fun z => absurd (show ¬ what = 6 by omega) z⟩
      conv => whnf
      rw [n_ne (by omega) (by decide)]
      refine ⟨fun _ => ?_, fun z => absurd (show ¬ what = 7 by omega) z⟩
      conv => whnf
      refine hr e _ ?_
      conv => whnf
      refine hKz _ _ _ _ ?_
      exact o_tail0 hC hL h0 hZ
  have good : ∀ f, 0 < (S.1 a).1 → isP f (S.1 a).1 → ∀ M', hfr M M' → LH M' S → (what = 6 → pinj (S.1 a) ∧ isH M' 4 (pinv (S.1 a))) → (what = 7 → isH M' 4 (pmir (S.1 a))) → (what = 8 → isH M' 4 (pren (S.1 a) (dg f) (dgi f (S.1 a).1))) → V 0 G mi_LW_one Z 619 [(0, zr 5 0), (1, zr 20 0), (5, zi (nI what)), (6, zi (nI to)), (7, zi (nI a)), (11, zi (nI (S.1 a).1)), (13, zi (nI f))] [] M' := by
    intro f g0 pf M' g1 g2 h6 h7 h8
    have hC2 := CS_hfr hC g1
    have p8 := p8_le hn
    have hf : f < 2 ^ 32 := by have := pf.1.1; omega
    refine z_run (cuts := [(904, [1, 6, 11, 12])]) ok_LW_one_4 (fun Kz hKz => ?_)
    conv => whnf
    rw [n_ne (by omega) (by decide)]
    rcases hw with e | e | e
    · refine ⟨fun z => absurd e z, fun _ => ?_⟩
      conv => whnf
      refine c_invert (by omega) (by omega) hC2 (fun z => ?_) (fun _ _ z => ?_) (fun _ _ _ M3 q1 q2 => ?_)
      · rw [ea] at z; omega
      · rw [ea] at z; exact absurd (h6 e).1 z
      · rw [ea] at q1
        rw [ea]
        conv => whnf
        refine hKz _ _ _ _ ?_
        exact o_tail1 hto q1 (LH_csm g2 q2) (isH_eq (h6 e).2 (q2 20 0 (by decide)).2) g0 hZ
    · refine ⟨fun _ => ?_, fun z => absurd (show ¬ what = 6 by omega) z⟩
      conv => whnf
      rw [n_ne (by omega) (by decide)]
      refine ⟨fun z => absurd e z, fun _ => ?_⟩
      conv => whnf
      refine c_mirror (by omega) (by omega) hC2 (fun z => ?_) (fun _ _ M3 q1 q2 => ?_)
      · rw [ea] at z; omega
      · rw [ea] at q1
        rw [ea]
        conv => whnf
        refine hKz _ _ _ _ ?_
        exact o_tail1 hto q1 (LH_csm g2 q2) (isH_eq (h7 e) (q2 20 0 (by decide)).2) g0 hZ
    · refine ⟨fun _ => ?_, fun z => absurd (show ¬ what = 6 by omega) z⟩
      conv => whnf
      rw [n_ne (by omega) (by decide)]
      refine ⟨fun _ => ?_, fun z => absurd (show ¬ what = 7 by omega) z⟩
      conv => whnf
      refine c_rename (by omega) hf (by omega) hC2 (fun z => ?_) (fun _ _ z => ?_) (fun _ _ _ M3 q1 q2 => ?_)
      · rw [ea] at z; omega
      · rw [ea] at z; exact absurd pf z
      · rw [ea] at q1
        rw [ea]
        conv => whnf
        refine hKz _ _ _ _ ?_
        exact o_tail1 hto q1 (LH_csm g2 q2) (isH_eq (h8 e) (q2 20 0 (by decide)).2) g0 hZ
  -- no map there
  have none0 : (S.1 a).1 = 0 → ∀ f : Int32, V 0 G mi_LW_one Z 619 [(0, zr 5 0), (1, zr 20 0), (5, zi (nI what)), (6, zi (nI to)), (7, zi (nI a)), (11, zi (-1000001)), (13, zi f)] [] M := by
    intro z0 f
    obtain ⟨f, hf, rfl⟩ := n_of f
    have z1 : (plA S a).1 = 0 := by rw [ea]; exact z0
    exact bad _ _ (fun _ Z2 hz2 => c_invert (by omega) (by omega) hC (fun _ => hz2) (fun z => absurd z1 z) (fun z => absurd z1 z)) (fun _ Z2 hz2 => c_mirror (by omega) (by omega) hC (fun _ => hz2) (fun z => absurd z1 z)) (fun _ Z2 hz2 => c_rename (by omega) hf (by omega) hC (fun _ => hz2) (fun z => absurd z1 z) (fun z => absurd z1 z))
  -- from 595 on: what is due
  have at595 : ∀ (may : Bool) (f : Int32) M', (∀ d, (d = (if (S.1 a).1 = 0 then (-1000001 : Int32) else if may = true then nI (S.1 a).1 else -1000003)) → V 0 G mi_LW_one Z 619 [(0, zr 5 0), (1, zr 20 0), (5, zi (nI what)), (6, zi (nI to)), (7, zi (nI a)), (11, zi d), (13, zi f)] [] M') → V 0 G mi_LW_one Z 595 [(0, zr 5 0), (1, zr 20 0), (5, zi (nI what)), (6, zi (nI to)), (7, zi (nI a)), (10, zi (nI (S.1 a).1)), (13, zi f), (14, zi (b2i may))] [] M' := by
    intro may f M' h
    refine z_run (cuts := [(619, [0, 1, 5, 6, 7, 11, 13])]) ok_LW_one_4 (fun Kz hKz => ?_)
    conv => whnf
    rw [n_ne (by omega) (by decide)]
    refine ⟨fun q => ?_, fun q => ?_⟩
    · cases may with
      | true =>
        conv => whnf
        first | refine ⟨fun _ => ?_, fun q => absurd (by decide) q⟩ | refine ⟨fun q => absurd q (by decide), fun _ => ?_⟩
        conv => whnf
        refine hKz _ _ _ _ ?_
        exact h _ (by rw [if_neg q, if_pos rfl])
      | false =>
        conv => whnf
        first | refine ⟨fun _ => ?_, fun q => absurd (by decide) q⟩ | refine ⟨fun q => absurd q (by decide), fun _ => ?_⟩
        conv => whnf
        refine hKz _ _ _ _ ?_
        exact h _ (by rw [if_neg q, if_neg (by decide)])
    · conv => whnf
      refine hKz _ _ _ _ ?_
      exact h _ (by rw [if_pos (Classical.not_not.mp q)])
  have noM : (S.1 a).1 = 0 → ∀ (may : Bool) (f : Int32), V 0 G mi_LW_one Z 595 [(0, zr 5 0), (1, zr 20 0), (5, zi (nI what)), (6, zi (nI to)), (7, zi (nI a)), (10, zi (nI (S.1 a).1)), (13, zi f), (14, zi (b2i may))] [] M := by
    intro z0 may f
    refine at595 may f M (fun d hd => ?_)
    rw [if_pos z0] at hd
    rw [hd]
    exact none0 z0 f
  have at572 : ∀ (may : Bool) f, (0 < (S.1 a).1 → isP f (S.1 a).1) → (may = true ↔ (what = 6 → pinj (S.1 a))) → V 0 G mi_LW_one Z 572 [(0, zr 5 0), (1, zr 20 0), (5, zi (nI what)), (6, zi (nI to)), (7, zi (nI a)), (10, zi (nI (S.1 a).1)), (13, zi (nI f)), (14, zi (b2i may))] [] M := by
    intro may f pf hmay
    refine z_run (cuts := [(595, [0, 1, 5, 6, 7, 10, 13, 14])]) ok_LW_one_4 (fun Kz hKz => ?_)
    conv => whnf
    rw [nI_leI (by omega) (by decide)]
    refine ⟨fun q => ?_, fun q => ?_⟩
    · conv => whnf
      refine hKz _ _ _ _ ?_
      exact noM (by omega) may (nI f)
    · have q0 : 0 < (S.1 a).1 := by omega
      have q1 : ¬ (S.1 a).1 = 0 := by omega
      cases may with
      | false =>
        have hno : what = 6 ∧ ¬ pinj (S.1 a) := by
          refine Classical.byContradiction fun z => ?_
          have := hmay.mpr (fun e => Classical.byContradiction fun y => z ⟨e, y⟩)
          cases this
        conv => whnf
        first | refine ⟨fun _ => ?_, fun q => absurd (by decide) q⟩ | refine ⟨fun q => absurd q (by decide), fun _ => ?_⟩
        conv => whnf
        refine hKz _ _ _ _ ?_
        refine at595 false (nI f) M (fun d hd => ?_)
        rw [if_neg q1, if_neg (by decide)] at hd
        rw [hd]
        exact bad _ _ (fun _ Z2 hz2 => c_invert (by omega) (by omega) hC (fun z => by rw [ea] at z; omega) (fun _ _ _ => hz2) (fun _ _ z => absurd (by rw [ea] at z; exact z) hno.2)) (fun e => absurd hno.1 (by omega)) (fun e => absurd hno.1 (by omega))
      | true =>
        have hy := hmay.mp rfl
        have fin : ∀ M', hfr M M' → LH M' S → (what = 6 → pinj (S.1 a) ∧ isH M' 4 (pinv (S.1 a))) → (what = 7 → isH M' 4 (pmir (S.1 a))) → (what = 8 → isH M' 4 (pren (S.1 a) (dg f) (dgi f (S.1 a).1))) → V 0 G mi_LW_one Z 595 [(0, zr 5 0), (1, zr 20 0), (5, zi (nI what)), (6, zi (nI to)), (7, zi (nI a)), (10, zi (nI (S.1 a).1)), (13, zi (nI f)), (14, zi (b2i true))] [] M' := by
          intro M' g1 g2 g3 g4 g5
          refine at595 true (nI f) M' (fun d hd => ?_)
          rw [if_neg q1, if_pos rfl] at hd
          rw [hd]
          exact good f q0 (pf q0) M' g1 g2 g3 g4 g5
        conv => whnf
        first | refine ⟨fun _ => ?_, fun q => absurd (by decide) q⟩ | refine ⟨fun q => absurd q (by decide), fun _ => ?_⟩
        conv => whnf
        rw [pk_sub (by omega)]
        rcases hw with e | e | e
        · subst e
          refine h_turns0 ha hA q0 (hy rfl) hL (fun M2 g1 g2 g3 => ?_)
          conv => whnf
          refine hKz _ _ _ _ ?_
          exact fin M2 g1 g2 (fun _ => ⟨hy rfl, g3⟩) (fun z => absurd z (by decide)) (fun z => absurd z (by decide))
        · subst e
          refine h_turns1 ha hA q0 hL (fun M2 g1 g2 g3 => ?_)
          conv => whnf
          refine hKz _ _ _ _ ?_
          exact fin M2 g1 g2 (fun z => absurd z (by decide)) (fun _ => g3) (fun z => absurd z (by decide))
        · subst e
          refine h_turns2 ha hA q0 (pf q0) hL (fun M2 g1 g2 g3 => ?_)
          conv => whnf
          refine hKz _ _ _ _ ?_
          exact fin M2 g1 g2 (fun z => absurd z (by decide)) (fun z => absurd z (by decide)) (fun _ => g3)
  have at549 : ∀ f, (0 < (S.1 a).1 → isP f (S.1 a).1) → V 0 G mi_LW_one Z 549 [(0, zr 5 0), (1, zr 20 0), (5, zi (nI what)), (6, zi (nI to)), (7, zi (nI a)), (10, zi (nI (S.1 a).1)), (13, zi (nI f))] [] M := by
    intro f pf
    refine z_run (cuts := [(572, [0, 1, 5, 6, 7, 10, 13, 14])]) ok_LW_one_4 (fun Kz hKz => ?_)
    conv => whnf
    rw [nI_ltI (by decide) (by omega)]
    refine ⟨fun q => ?_, fun q => ?_⟩
    · conv => whnf
      refine hKz _ _ _ _ ?_
      exact at572 true f pf ⟨fun _ z => absurd z (by omega), fun _ => rfl⟩
    · conv => whnf
      refine h_bijective (by omega) hL.1 hA (fun hp => ?_) (fun hp => ?_)
      · conv => whnf
        first | refine ⟨fun _ => ?_, fun q => absurd (by decide) q⟩ | refine ⟨fun q => absurd q (by decide), fun _ => ?_⟩
        conv => whnf
        refine hKz _ _ _ _ ?_
        exact at572 true f pf ⟨fun _ _ => hp, fun _ => rfl⟩
      · conv => whnf
        first | refine ⟨fun _ => ?_, fun q => absurd (by decide) q⟩ | refine ⟨fun q => absurd q (by decide), fun _ => ?_⟩
        conv => whnf
        refine hKz _ _ _ _ ?_
        exact at572 false f pf ⟨fun z => (by cases z), fun z => absurd (z (by omega)) hp⟩
  refine z_run (cuts := [(549, [0, 1, 5, 6, 7, 10, 13])]) ok_LW_one_4 (fun Kz hKz => ?_)
  conv => whnf
  rw [nI_leI (by omega) (by decide)]
  refine ⟨fun q => ?_, fun q => ?_⟩
  · conv => whnf
    refine hKz _ _ _ _ ?_
    exact at549 0 (fun z => absurd z (by omega))
  · conv => whnf
    refine h_names (by omega) hn (fun f pf => ?_)
    conv => whnf
    refine hKz _ _ _ _ ?_
    exact at549 f (fun _ => pf)
theorem o_retr {to a : Nat} (hto : to < 4) (ha : a < 4) (hC : CS M S) (hL : LH M S) (h0 : M.2 20 0 32 = lN 0) (hZ : ∀ S' M', CS M' S' → LH M' S' → Z (some (zi (nI 1))) M') : V 0 G mi_LW_one Z 677 [(0, zr 5 0), (1, zr 20 0), (6, zi (nI to)), (7, zi (nI a)), (10, zi (nI (S.1 a).1))] [] M := by
  have hA := hL.2 a ha
  have hn := hA.1.1
  have ea := plA_in (S := S) ha
  refine z_run (cuts := [(904, [1, 6, 11, 12])]) ok_LW_one_5 (fun Kz hKz => ?_)
  conv => whnf
  rw [nI_leI (by omega) (by decide)]
  refine ⟨fun q => ?_, fun q => ?_⟩
  · have z1 : (plA S a).1 = 0 := by rw [ea]; omega
    conv => whnf
    rw [n_ne (by omega) (by decide)]
    refine ⟨fun z => absurd (show (S.1 a).1 = 0 by omega) z, fun _ => ?_⟩
    conv => whnf
    refine c_retract (by omega) (by omega) hC (fun _ => ?_) (fun z => absurd z1 z)
    conv => whnf
    refine hKz _ _ _ _ ?_
    exact o_tail0 hC hL h0 hZ
  · have q0 : 0 < (S.1 a).1 := by omega
    have hk : 0 < ksz (S.1 a) := Nat.lt_of_le_of_lt (Nat.zero_le _) (clz_lt q0)
    conv => whnf
    refine h_retracts ha hA q0 hL (fun M2 g1 g2 g3 => ?_)
    have hC2 := CS_hfr hC g1
    conv => whnf
    rw [n_ne (by omega) (by decide)]
    refine ⟨fun _ => ?_, fun z => absurd (show ¬ (S.1 a).1 = 0 by omega) z⟩
    conv => whnf
    refine h_points (by decide) g3 ?_
    conv => whnf
    refine c_retract (by omega) (by omega) hC2 (fun z => ?_) (fun _ _ M3 q1 q2 => ?_)
    · rw [ea] at z; omega
    · rw [ea] at q1
      rw [ea]
      conv => whnf
      refine hKz _ _ _ _ ?_
      exact o_tail1 hto q1 (LH_csm g2 q2) (isH_eq g3 (q2 20 0 (by decide)).2) hk hZ
theorem o_drop {to a : Nat} (ha : a < 4) (hC : CS M S) (hL : LH M S) (h0 : M.2 20 0 32 = lN 0) (hZ : ∀ S' M', CS M' S' → LH M' S' → Z (some (zi (nI 1))) M') : V 0 G mi_LW_one Z 725 [(0, zr 5 0), (1, zr 20 0), (6, zi (nI to)), (7, zi (nI a)), (10, zi (nI (S.1 a).1))] [] M := by
  have hA := hL.2 a ha
  have hn := hA.1.1
  have ea := plA_in (S := S) ha
  have hfz : hfr M (zsetL 20 0 (8 * a) (lN 0) M) := ⟨rfl, fun a b q => zsetL_off q⟩
  have hC2 := CS_hfr hC hfz
  have hL2 := isH_zero ha hL
  have h32 : (zsetL 20 0 (8 * a) (lN 0) M).2 20 0 32 = lN 0 := by rw [zsetL_ne (by omega)]; exact h0
  have hLs : (S.1 a).1 = 0 → LH (zsetL 20 0 (8 * a) (lN 0) M) S := by
    intro e
    refine ⟨hL2.1, fun m hm => ?_⟩
    have h := hL2.2 m hm
    simp only [upS] at h
    by_cases q : m = a
    · rw [if_pos q] at h
      rw [q] at h ⊢
      exact ⟨hA.1, by rw [e]; exact h.2.1, fun x y hx _ => by rw [e] at hx; omega⟩
    · rw [if_neg q] at h
      exact h
  refine z_run (cuts := [(904, [1, 6, 11, 12])]) ok_LW_one_6 (fun Kz hKz => ?_)
  conv => whnf
  rw [n_ne (by omega) (by decide)]
  refine ⟨fun q => ?_, fun q => ?_⟩
  · conv => whnf
    rw [pk_mul]
    refine ⟨vp_in_nI (by omega) (by decide), ?_⟩
    conv => whnf
    rw [nI_clamp (by omega)]
    refine c_drop (by omega) hC2 (fun z => ?_) (fun _ M3 q1 q2 => ?_)
    · rw [ea] at z; exact absurd z q
    · rw [ea]
      conv => whnf
      refine hKz _ _ _ _ ?_
      exact o_tail0 q1 (LH_csm hL2 q2) (by rw [(q2 20 0 (by decide)).2]; exact h32) hZ
  · have q : (S.1 a).1 = 0 := Classical.not_not.mp q
    conv => whnf
    rw [pk_mul]
    refine ⟨vp_in_nI (by omega) (by decide), ?_⟩
    conv => whnf
    rw [nI_clamp (by omega)]
    refine c_drop (by omega) hC2 (fun _ => ?_) (fun z => absurd (by rw [ea]; exact q) z)
    conv => whnf
    refine hKz _ _ _ _ ?_
    exact o_tail0 hC2 (hLs q) h32 hZ
theorem o_put {y : Int32} {to a : Nat} (ha : a < 4) (hC : CS M S) (hL : LH M S) (h0 : M.2 20 0 32 = lN 0) (hZ : ∀ S' M', CS M' S' → LH M' S' → Z (some (zi (nI 1))) M') : V 0 G mi_LW_one Z 758 [(0, zr 5 0), (1, zr 20 0), (3, zi y), (6, zi (nI to)), (7, zi (nI a)), (10, zi (nI (S.1 a).1))] [] M := by
  have hA := hL.2 a ha
  have hn := hA.1.1
  have ea := plA_in (S := S) ha
  have at833 : ∀ (is : Bool) p q u v, p < 6 → q < 6 → u < 6 → v < 6 → (is = true ↔ (p < (S.1 a).1 ∧ q < (S.1 a).1 ∧ u < (S.1 a).1 ∧ v < (S.1 a).1)) → V 0 G mi_LW_one Z 833 [(0, zr 5 0), (1, zr 20 0), (6, zi (nI to)), (7, zi (nI a)), (13, zi (nI p)), (14, zi (nI q)), (15, zi (nI u)), (16, zi (nI v)), (17, zi (b2i is))] [] M := by
    intro is p q u v b1 b2 b3 b4 his
    refine z_run (cuts := [(904, [1, 6, 11, 12])]) ok_LW_one_7 (fun Kz hKz => ?_)
    conv => whnf
    cases is with
    | false =>
      have hno : ¬ (p < (S.1 a).1 ∧ q < (S.1 a).1 ∧ u < (S.1 a).1 ∧ v < (S.1 a).1) := fun z => by have := his.mpr z; cases this
      first | refine ⟨fun _ => ?_, fun q => absurd (by decide) q⟩ | refine ⟨fun q => absurd q (by decide), fun _ => ?_⟩
      conv => whnf
      first | refine ⟨fun _ => ?_, fun q => absurd (by decide) q⟩ | refine ⟨fun q => absurd q (by decide), fun _ => ?_⟩
      conv => whnf
      refine c_put (by omega) (by omega) (by omega) (by omega) (by omega) hC (fun _ => ?_) (fun y1 y2 y3 y4 => ?_)
      · conv => whnf
        refine hKz _ _ _ _ ?_
        exact o_tail0 hC hL h0 hZ
      · rw [ea] at y1 y2 y3 y4
        exact absurd ⟨y1, y2, y3, y4⟩ hno
    | true =>
      obtain ⟨y1, y2, y3, y4⟩ := his.mp rfl
      have hLR := hA.1.2 p q y1 y2
      first | refine ⟨fun _ => ?_, fun q => absurd (by decide) q⟩ | refine ⟨fun q => absurd q (by decide), fun _ => ?_⟩
      conv => whnf
      refine h_l (by omega) hL.1 hA y1 y2 ?_
      conv => whnf
      refine h_r (by omega) hL.1 hA y1 y2 ?_
      conv => whnf
      first | refine ⟨fun _ => ?_, fun q => absurd (by decide) q⟩ | refine ⟨fun q => absurd q (by decide), fun _ => ?_⟩
      conv => whnf
      refine h_lays (by omega) hL.1 (by omega) (by omega) (by omega) (by omega) (fun M2 g => ?_)
      have hC2 := CS_hfr hC g.1
      have hL2 := LH_put ha hL y3 y4 g
      have h32 : M2.2 20 0 32 = lN 0 := (g.2.2.1 4 (by decide)).trans h0
      conv => whnf
      refine c_put (by omega) (by omega) (by omega) (by omega) (by omega) hC2 (fun z => ?_) (fun _ _ _ _ M3 q1 q2 => ?_)
      · rw [ea] at z
        exact absurd ⟨y1, y2, y3, y4⟩ z
      · rw [ea] at q1
        rw [ea, pk_mul, nI_add]
        conv => whnf
        refine hKz _ _ _ _ ?_
        exact o_tail0 q1 (LH_csm hL2 q2) (by rw [(q2 20 0 (by decide)).2]; exact h32) hZ
  refine z_run (cuts := [(833, [0, 1, 6, 7, 13, 14, 15, 16, 17])]) ok_LW_one_7 (fun Kz hKz => ?_)
  conv => whnf
  refine h_low (by decide) (by decide) (fun p b1 => ?_)
  conv => whnf
  refine h_low (by decide) (by decide) (fun q b2 => ?_)
  conv => whnf
  refine h_low (by decide) (by decide) (fun u b3 => ?_)
  conv => whnf
  refine h_low (by decide) (by decide) (fun v b4 => ?_)
  conv => whnf
  have yes := at833 true p q u v b1 b2 b3 b4
  have no := at833 false p q u v b1 b2 b3 b4
  rw [nI_leI (by omega) (by omega)]
  refine ⟨fun q1 => ?_, fun q1 => ?_⟩
  · conv => whnf
    refine hKz _ _ _ _ ?_
    exact no ⟨fun z => (by cases z), fun z => absurd z.1 (by omega)⟩
  · conv => whnf
    rw [nI_leI (by omega) (by omega)]
    refine ⟨fun q2 => ?_, fun q2 => ?_⟩
    · conv => whnf
      refine hKz _ _ _ _ ?_
      exact no ⟨fun z => (by cases z), fun z => absurd z.2.1 (by omega)⟩
    · conv => whnf
      rw [nI_leI (by omega) (by omega)]
      refine ⟨fun q3 => ?_, fun q3 => ?_⟩
      · conv => whnf
        refine hKz _ _ _ _ ?_
        exact no ⟨fun z => (by cases z), fun z => absurd z.2.2.1 (by omega)⟩
      · conv => whnf
        rw [nI_leI (by omega) (by omega)]
        refine ⟨fun q4 => ?_, fun q4 => ?_⟩
        · conv => whnf
          refine hKz _ _ _ _ ?_
          exact no ⟨fun z => (by cases z), fun z => absurd z.2.2.2 (by omega)⟩
        · conv => whnf
          refine hKz _ _ _ _ ?_
          exact yes ⟨fun _ => ⟨by omega, by omega, by omega, by omega⟩, fun _ => rfl⟩
end
