/-! the law: one more map is made, the other ways -/
section
variable {G : ZG} {M : ZM} {Z : Option ZV → ZM → Prop} {S : ZS}
theorem o_twist {y : Int32} {kinds what to n : Nat} (hto : to < 4) (h1 : 1 ≤ n) (h6 : n ≤ 6) (hkd : kinds < 2 ^ 31) (hw : what = 2 ∨ what = 3) (hC : CS M S) (hL : LH M S) (hZ : ∀ S' M', CS M' S' → LH M' S' → Z (some (zi (nI 1))) M') : V 0 G mi_LW_one Z 230 [(0, zr 5 0), (1, zr 20 0), (3, zi y), (4, zi (nI kinds)), (5, zi (nI what)), (6, zi (nI to)), (9, zi (nI n))] [] M := by
  have hnn : n * n ≤ 6 * 6 := Nat.mul_le_mul h6 h6
  have hz := n_nz (b := n) (by omega) (by omega)
  have h8 := p8_le h6
  have main : ∀ f g, isP f n → isP g n → V 0 G mi_LW_one Z 261 [(0, zr 5 0), (1, zr 20 0), (5, zi (nI what)), (6, zi (nI to)), (9, zi (nI n)), (13, zi (nI f)), (14, zi (nI g))] [] M := by
    intro f g pf pg
    have hf : f < 2 ^ 32 := by have := pf.1.1; omega
    have hg : g < 2 ^ 32 := by have := pg.1.1; omega
    obtain ⟨f1, f2, f3⟩ := isP_facts pf
    obtain ⟨g1, g2, g3⟩ := isP_facts pg
    have hwf : what = 2 → pwf (pflip n) := fun _ => ⟨h6, fun x y hx hy => ⟨hy, hx⟩⟩
    have hwt : pwf (ptwist n f g) := ⟨h6, fun x y hx hy => ⟨f1 y hy, g1 x hx⟩⟩
    refine z_run (cuts := [(271, [0, 1, 5, 6, 9, 13, 14, 15])]) ok_LW_one_2 (fun Kz hKz => ?_)
    conv => whnf
    refine ⟨vp_in_nI (by decide) (by decide), ?_⟩
    conv => whnf
    refine hKz _ _ _ _ ?_
    rw [nI_clamp (by decide), nI_l (by omega)]
    refine h_build (M0 := hz4 n M) (N := n * n) (pos := sp n) (vl := fun k => if what = 2 then k % n else dg f (k % n)) (vr := fun k => if what = 2 then k / n else dg g (k / n)) (P := fun k M' => V 0 G mi_LW_one Z 271 [(0, zr 5 0), (1, zr 20 0), (5, zi (nI what)), (6, zi (nI to)), (9, zi (nI n)), (13, zi (nI f)), (14, zi (nI g)), (15, zi (nI k))] [] M') (hz4_hok hL.1) (fun k hk => sp_lt h6 hk) (sp_inj h6) (fun M' hl => ?_) (fun k hk M' hl h => ?_)
    · have hC2 : CS M' S := CS_hfr hC (hfr_trans (hz4_fr M n) hl.1.1)
      have hL2 : LH M' S := LH_stp (hz4_LS hL) hl.1
      refine z_run (cuts := [(904, [1, 6, 11, 12])]) ok_LW_one_2 (fun Kz hKz => ?_)
      conv => whnf
      rw [pk_mul, nI_leI (by omega) (by omega)]
      refine ⟨fun _ => ?_, fun q => absurd (by omega) q⟩
      conv => whnf
      rw [n_ne (by omega) (by decide)]
      rcases hw with e | e
      · have hB : isH M' 4 (pflip n) := sp_isH (A := pflip n) hl (hwf e) (hz4_at M n) (fun k hk => ⟨if_pos e, if_pos e⟩)
        refine ⟨fun z => absurd e z, fun _ => ?_⟩
        conv => whnf
        refine c_flip (by omega) (by omega) hC2 (fun z => absurd hto z) (fun _ z => absurd ⟨h1, h6⟩ z) (fun _ _ _ M3 q1 q2 => ?_)
        conv => whnf
        refine hKz _ _ _ _ ?_
        exact o_tail1 hto q1 (LH_csm hL2 q2) (isH_eq hB (q2 20 0 (by decide)).2) (show 0 < n by omega) hZ
      · have e2 : ¬ what = 2 := by omega
        have hB : isH M' 4 (ptwist n f g) := sp_isH (A := ptwist n f g) hl hwt (hz4_at M n) (fun k hk => ⟨if_neg e2, if_neg e2⟩)
        refine ⟨fun _ => ?_, fun z => absurd e2 z⟩
        conv => whnf
        refine c_twist (by omega) (by omega) hf hg hC2 (fun z => absurd hto z) (fun _ z => absurd ⟨⟨h1, h6⟩, pf, pg⟩ z) (fun _ _ _ _ _ M3 q1 q2 => ?_)
        conv => whnf
        refine hKz _ _ _ _ ?_
        exact o_tail1 hto q1 (LH_csm hL2 q2) (isH_eq hB (q2 20 0 (by decide)).2) (show 0 < n by omega) hZ
    · have hd := dvlt hk
      obtain ⟨ed, em⟩ := n_dm (k := k) (n := n) (by omega) (by omega) (by omega)
      have hM' := hl.1.2.1
      have q1 := f1 _ hd.2
      have q2 := g1 _ hd.1
      have h := h (k / n) (k % n) rfl (by omega)
      clear hl
      refine z_run (cuts := cu_LW_one) ok_LW_one_2 (fun Kz hKz => ?_)
      conv => whnf
      rw [pk_mul, nI_leI (by omega) (by omega)]
      refine ⟨fun q => absurd q (by omega), fun _ => ?_⟩
      conv => whnf
      refine ⟨hz, ?_⟩
      conv => whnf
      refine ⟨hz, ?_⟩
      conv => whnf
      rw [n_ne (by omega) (by decide)]
      rcases hw with e | e
      · simp only [if_pos e] at h
        refine ⟨fun z => absurd e z, fun _ => ?_⟩
        conv => whnf
        refine ⟨hz, ?_⟩
        conv => whnf
        rw [n_ne (by omega) (by decide)]
        refine ⟨fun z => absurd e z, fun _ => ?_⟩
        conv => whnf
        refine ⟨hz, ?_⟩
        conv => whnf
        rw [ed, em]
        refine h_lays (by decide) hM' (by omega) (by omega) (by omega) (by omega) (fun M2 q => ?_)
        conv => whnf
        refine hKz _ _ _ _ ?_
        rw [nI_1']
        exact h M2 q
      · have e2 : ¬ what = 2 := by omega
        simp only [if_neg e2] at h
        refine ⟨fun _ => ?_, fun z => absurd e2 z⟩
        conv => whnf
        refine ⟨hz, ?_⟩
        conv => whnf
        rw [em]
        refine h_digit hf (by omega) ?_
        conv => whnf
        rw [n_ne (by omega) (by decide)]
        refine ⟨fun _ => ?_, fun z => absurd e2 z⟩
        conv => whnf
        refine ⟨hz, ?_⟩
        conv => whnf
        rw [ed]
        refine h_digit hg (by omega) ?_
        conv => whnf
        refine h_lays (x := k / n) (y := k % n) (u := dg f (k % n)) (v := dg g (k / n)) (by decide) hM' (by omega) (by omega) (by omega) (by omega) (fun M2 q => ?_)
        conv => whnf
        refine hKz _ _ _ _ ?_
        rw [nI_1']
        exact h M2 q
  refine z_run (cuts := [(261, [0, 1, 5, 6, 9, 13, 14])]) ok_LW_one_2 (fun Kz hKz => ?_)
  conv => whnf
  refine h_names h1 h6 (fun f pf => ?_)
  conv => whnf
  rw [nI_leI (by decide) (by omega)]
  refine ⟨fun q => ?_, fun q => ?_⟩
  · conv => whnf
    refine h_names h1 h6 (fun g pg => ?_)
    conv => whnf
    refine hKz _ _ _ _ ?_
    exact main f g pf pg
  · conv => whnf
    refine hKz _ _ _ _ ?_
    exact main f f pf pf
theorem o_join {what to a b : Nat} (hto : to < 4) (ha : a < 4) (hb : b < 4) (hw : what = 4 ∨ what = 5) (hC : CS M S) (hL : LH M S) (h0 : M.2 20 0 32 = lN 0) (hZ : ∀ S' M', CS M' S' → LH M' S' → Z (some (zi (nI 1))) M') : V 0 G mi_LW_one Z 395 [(0, zr 5 0), (1, zr 20 0), (5, zi (nI what)), (6, zi (nI to)), (7, zi (nI a)), (8, zi (nI b)), (10, zi (nI (S.1 a).1))] [] M := by
  have hA := hL.2 a ha
  have hB := hL.2 b hb
  have hn := hA.1.1
  have hm := hB.1.1
  have ea := plA_in (S := S) ha
  have eb := plA_in (S := S) hb
  have hbig : (S.1 a).1 * (S.1 b).1 ≤ 6 * 6 := Nat.mul_le_mul hn hm
  have cu : ∀ all : Nat, all = (if what = 4 then (S.1 a).1 + (S.1 b).1 else (S.1 a).1 * (S.1 b).1) → V 0 G mi_LW_one Z 424 [(0, zr 5 0), (1, zr 20 0), (5, zi (nI what)), (6, zi (nI to)), (7, zi (nI a)), (8, zi (nI b)), (10, zi (nI (S.1 a).1)), (13, zi (nI (S.1 b).1)), (14, zi (nI all))] [] M := by
    intro all hall
    have hal : all ≤ 36 := by rw [hall]; split <;> omega
    have bad : ∀ d : Int32, (what = 4 → ∀ Z2, (Z2 (some (zi d)) M) → Ctr 0 G mi_T_unite [zr 5 0, zi (nI a), zi (nI b), zi (nI to)] M Z2) → (what = 5 → ∀ Z2, (Z2 (some (zi d)) M) → Ctr 0 G mi_T_pair [zr 5 0, zi (nI a), zi (nI b), zi (nI to)] M Z2) → V 0 G mi_LW_one Z 491 [(0, zr 5 0), (1, zr 20 0), (5, zi (nI what)), (6, zi (nI to)), (7, zi (nI a)), (8, zi (nI b)), (11, zi d)] [] M := by
      intro d hu hp
      refine z_run (cuts := [(904, [1, 6, 11, 12])]) ok_LW_one_3 (fun Kz hKz => ?_)
      conv => whnf
      rw [n_ne (by omega) (by decide)]
      rcases hw with e | e
      · refine ⟨fun z => absurd e z, fun _ => ?_⟩
        conv => whnf
        refine hu e _ ?_
        conv => whnf
        refine hKz _ _ _ _ ?_
        exact o_tail0 hC hL h0 hZ
      · refine ⟨fun _ => ?_, fun z => absurd (show ¬ what = 4 by omega) z⟩
        conv => whnf
        refine hp e _ ?_
        conv => whnf
        refine hKz _ _ _ _ ?_
        exact o_tail0 hC hL h0 hZ
    have good : 0 < (S.1 a).1 → 0 < (S.1 b).1 → all ≤ 6 → ∀ M', hfr M M' → LH M' S → (what = 4 → isH M' 4 (puni (S.1 a) (S.1 b))) → (what = 5 → isH M' 4 (pprod (S.1 a) (S.1 b))) → V 0 G mi_LW_one Z 491 [(0, zr 5 0), (1, zr 20 0), (5, zi (nI what)), (6, zi (nI to)), (7, zi (nI a)), (8, zi (nI b)), (11, zi (nI all))] [] M' := by
      intro g1 g2 g3 M' g4 g5 g6 g7
      have hC2 := CS_hfr hC g4
      refine z_run (cuts := [(904, [1, 6, 11, 12])]) ok_LW_one_3 (fun Kz hKz => ?_)
      conv => whnf
      rw [n_ne (by omega) (by decide)]
      rcases hw with e | e
      · rw [if_pos e] at hall
        refine ⟨fun z => absurd e z, fun _ => ?_⟩
        conv => whnf
        refine c_unite (by omega) (by omega) (by omega) hC2 (fun z => ?_) (fun _ _ _ z => ?_) (fun _ _ _ _ M3 q1 q2 => ?_)
        · rw [ea, eb] at z; omega
        · rw [ea, eb] at z; omega
        · rw [ea, eb] at q1
          rw [ea, eb, ← hall]
          conv => whnf
          refine hKz _ _ _ _ ?_
          exact o_tail1 hto q1 (LH_csm g5 q2) (isH_eq (g6 e) (q2 20 0 (by decide)).2) (show 0 < (S.1 a).1 + (S.1 b).1 by omega) hZ
      · have e4 : ¬ what = 4 := by omega
        rw [if_neg e4] at hall
        refine ⟨fun _ => ?_, fun z => absurd e4 z⟩
        conv => whnf
        refine c_pair (by omega) (by omega) (by omega) hC2 (fun z => ?_) (fun _ _ _ z => ?_) (fun _ _ _ _ M3 q1 q2 => ?_)
        · rw [ea, eb] at z; omega
        · rw [ea, eb] at z; omega
        · rw [ea, eb] at q1
          rw [ea, eb, ← hall]
          conv => whnf
          refine hKz _ _ _ _ ?_
          exact o_tail1 hto q1 (LH_csm g5 q2) (isH_eq (g7 e) (q2 20 0 (by decide)).2) (Nat.mul_pos g1 g2) hZ
    have at460 : ∀ M', ((0 < (S.1 a).1 ∧ 0 < (S.1 b).1 ∧ all ≤ 6) → hfr M M' ∧ LH M' S ∧ (what = 4 → isH M' 4 (puni (S.1 a) (S.1 b))) ∧ (what = 5 → isH M' 4 (pprod (S.1 a) (S.1 b)))) → (¬ (0 < (S.1 a).1 ∧ 0 < (S.1 b).1 ∧ all ≤ 6) → M' = M) → V 0 G mi_LW_one Z 460 [(0, zr 5 0), (1, zr 20 0), (5, zi (nI what)), (6, zi (nI to)), (7, zi (nI a)), (8, zi (nI b)), (10, zi (nI (S.1 a).1)), (13, zi (nI (S.1 b).1)), (14, zi (nI all))] [] M' := by
      intro M' hy hno
      refine z_run (cuts := [(491, [0, 1, 5, 6, 7, 8, 11])]) ok_LW_one_3 (fun Kz hKz => ?_)
      conv => whnf
      rw [nI_eq (by omega) (by decide)]
      have unk : ((S.1 a).1 = 0 ∨ (S.1 b).1 = 0) → V 0 G mi_LW_one Z 491 [(0, zr 5 0), (1, zr 20 0), (5, zi (nI what)), (6, zi (nI to)), (7, zi (nI a)), (8, zi (nI b)), (11, zi (-1000001))] [] M' := by
        intro z
        rw [hno (by omega)]
        exact bad _ (fun _ Z2 hz2 => c_unite (by omega) (by omega) (by omega) hC (fun _ => hz2) (fun y1 y2 _ _ => by rw [ea] at y1; rw [eb] at y2; omega) (fun y1 y2 _ _ _ _ _ => by rw [ea] at y1; rw [eb] at y2; omega)) (fun _ Z2 hz2 => c_pair (by omega) (by omega) (by omega) hC (fun _ => hz2) (fun y1 y2 _ _ => by rw [ea] at y1; rw [eb] at y2; omega) (fun y1 y2 _ _ _ _ _ => by rw [ea] at y1; rw [eb] at y2; omega))
      refine ⟨fun q => ?_, fun q => ?_⟩
      · conv => whnf
        refine hKz _ _ _ _ ?_
        exact unk (Or.inl q)
      · conv => whnf
        rw [n_ne (by omega) (by decide)]
        refine ⟨fun q2 => ?_, fun q2 => ?_⟩
        · conv => whnf
          rw [nI_leI (by omega) (by decide)]
          refine ⟨fun q3 => ?_, fun q3 => ?_⟩
          · obtain ⟨g1, g2, g3, g4⟩ := hy ⟨by omega, by omega, q3⟩
            conv => whnf
            refine hKz _ _ _ _ ?_
            exact good (by omega) (by omega) q3 M' g1 g2 g3 g4
          · rw [hno (by omega)]
            conv => whnf
            refine hKz _ _ _ _ ?_
            refine bad _ (fun e Z2 hz2 => ?_) (fun e Z2 hz2 => ?_)
            · rw [if_pos e] at hall
              refine c_unite (by omega) (by omega) (by omega) hC (fun z => ?_) (fun _ _ _ _ => hz2) (fun _ _ _ z => ?_)
              · rw [ea, eb] at z; omega
              · rw [ea, eb] at z; omega
            · rw [if_neg (by omega)] at hall
              refine c_pair (by omega) (by omega) (by omega) hC (fun z => ?_) (fun _ _ _ _ => hz2) (fun _ _ _ z => ?_)
              · rw [ea, eb] at z; omega
              · rw [ea, eb] at z; omega
        · conv => whnf
          refine hKz _ _ _ _ ?_
          exact unk (Or.inr (Classical.not_not.mp q2))
    refine z_run (cuts := [(460, [0, 1, 5, 6, 7, 8, 10, 13, 14])]) ok_LW_one_3 (fun Kz hKz => ?_)
    conv => whnf
    rw [nI_leI (by omega) (by decide)]
    refine ⟨fun q => ?_, fun q => ?_⟩
    · conv => whnf
      refine hKz _ _ _ _ ?_
      exact at460 M (fun z => absurd z (by omega)) (fun _ => rfl)
    · conv => whnf
      rw [nI_leI (by omega) (by decide)]
      refine ⟨fun q2 => ?_, fun q2 => ?_⟩
      · conv => whnf
        refine hKz _ _ _ _ ?_
        exact at460 M (fun z => absurd z (by omega)) (fun _ => rfl)
      · conv => whnf
        rw [nI_leI (by decide) (by omega)]
        refine ⟨fun q3 => ?_, fun q3 => ?_⟩
        · conv => whnf
          refine hKz _ _ _ _ ?_
          exact at460 M (fun z => absurd z (by omega)) (fun _ => rfl)
        · conv => whnf
          rw [n_ne (by omega) (by decide)]
          rcases hw with e | e
          · rw [if_pos e] at hall
            refine ⟨fun _ => ?_, fun z => absurd (show ¬ what = 5 by omega) z⟩
            conv => whnf
            refine h_joinsU ha hb hA hB (by omega) (by omega) (by omega) hL (fun M2 g1 g2 g3 => ?_)
            conv => whnf
            refine hKz _ _ _ _ ?_
            exact at460 M2 (fun _ => ⟨g1, g2, fun _ => g3, fun z => absurd z (by omega)⟩) (fun z => absurd ⟨by omega, by omega, by omega⟩ z)
          · rw [if_neg (by omega)] at hall
            refine ⟨fun z => absurd e z, fun _ => ?_⟩
            conv => whnf
            refine h_joinsP ha hb hA hB (by omega) (by omega) (by omega) hL (fun M2 g1 g2 g3 => ?_)
            conv => whnf
            refine hKz _ _ _ _ ?_
            exact at460 M2 (fun _ => ⟨g1, g2, fun z => absurd z (by omega), fun _ => g3⟩) (fun z => absurd ⟨by omega, by omega, by omega⟩ z)
  refine z_run (cuts := [(424, [0, 1, 5, 6, 7, 8, 10, 13, 14])]) ok_LW_one_3 (fun Kz hKz => ?_)
  conv => whnf
  refine h_points (by omega) hB ?_
  conv => whnf
  rw [n_ne (by omega) (by decide)]
  rcases hw with e | e
  · refine ⟨fun z => absurd e z, fun _ => ?_⟩
    conv => whnf
    refine hKz _ _ _ _ ?_
    rw [nI_add]
    exact cu _ (by rw [if_pos e])
  · refine ⟨fun _ => ?_, fun z => absurd (show ¬ what = 4 by omega) z⟩
    conv => whnf
    refine hKz _ _ _ _ ?_
    rw [pk_mul]
    exact cu _ (by rw [if_neg (by omega)])
end
