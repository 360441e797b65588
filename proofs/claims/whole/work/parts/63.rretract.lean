/-! the reference: classes of points that are alike -/
def clF (a _c : Nat) : Prop := a = 25 ∨ a = 26
def mrF (a c : Nat) : Prop := (a = 25 ∨ a = 26) ∨ rgm 4 a c
def lvF (a c : Nat) : Prop := (a = 25 ∨ a = 26) ∨ rgm 4 a c ∨ rgm 5 a c
def rcl (M : ZM) (A : ZP) (x : Nat) : Prop := (∀ y, y < x → M.1 25 0 y = nI (clz A y)) ∧ ∀ y, y < x → isRep A y = true → M.1 26 0 (cnt (isRep A) y) = nI y
theorem rep_lt_of {A : ZP} {x : Nat} (h : isRep A x = false) : rep A x < x := by
  have := rep_le A x
  have h2 := of_decide_eq_false h
  omega
theorem clF_no : ∀ a c, clF a c → ¬ rst a c := fun a c h => by unfold clF at h; unfold rst; omega
theorem mrF_no : ∀ a c, mrF a c → ¬ rst a c := fun a c h => by unfold mrF rgm at h; unfold rst; omega
theorem lvF_no : ∀ a c, lvF a c → ¬ rst a c := fun a c h => by unfold lvF rgm at h; unfold rst; omega
theorem rsm_cl {M M' : ZM} (h : rf clF M M') : rsm M M' := rsm_rf h (fun a c q => by unfold clF at q; omega)
theorem rsm_mr {M M' : ZM} (h : rf mrF M M') : rsm M M' := rsm_rf h (fun a c q => by unfold mrF rgm at q; omega)
theorem rsm_lv {M M' : ZM} (h : rf lvF M M') : rsm M M' := rsm_rf h (fun a c q => by unfold lvF rgm at q; omega)
section
variable {G : ZG} {M : ZM} {Z : Option ZV → ZM → Prop} {S : ZS}
theorem s_R_areAlike {m x y : Nat} {A : ZP} (hm : m < 6) (hA : isRM M m A) (hx : x < A.1) (hy : y < A.1) (hZ : Z (some (zi (b2i (twb A x y)))) M) : Ctr 0 G mi_R_areAlike [zr 20 0, zi (nI m), zi (nI x), zi (nI y)] M Z := by
  have hn := hA.1.1
  have lp : ∀ i, i ≤ A.1 → ∀ b : Bool, (b = true ↔ ∀ z, z < i → A.2.1 x z = A.2.1 y z ∧ A.2.2 z x = A.2.2 z y) → V 0 G mi_R_areAlike Z 6 [(0, zr 20 0), (1, zi (nI m)), (2, zi (nI x)), (3, zi (nI y)), (4, zi (b2i b)), (5, zi (nI i))] [] M := by
    refine up_to ?_ ?_
    · intro b hb
      have e : b = twb A x y := by rw [Bool.eq_iff_iff, hb, twb_iff]; exact Iff.rfl
      rw [← e] at hZ
      refine z_run (cuts := cu_R_areAlike) ok_R_areAlike (fun Kz hKz => ?_)
      conv => whnf
      refine ⟨vp_in_nI hm (by decide), ?_⟩
      conv => whnf
      rw [nI_clamp (by omega), hA.2.1, nI_leI (by omega) (by omega)]
      refine ⟨fun _ => ?_, fun q => absurd (by omega) q⟩
      conv => whnf
      cases hb2 : b with
      | true => rw [hb2] at hZ; exact ⟨Or.inr rfl, hZ⟩
      | false => rw [hb2] at hZ; exact ⟨Or.inl rfl, hZ⟩
    · intro i hi ih b hb
      have h1 := hA.1.2 x i hx hi
      have h2 := hA.1.2 y i hy hi
      have h3 := hA.1.2 i x hi hx
      have h4 := hA.1.2 i y hi hy
      have nxt : ∀ d : Bool, (d = true ↔ (b = true ∧ (A.2.1 x i = A.2.1 y i ∧ A.2.2 i x = A.2.2 i y))) → (d = true ↔ ∀ z, z < i + 1 → A.2.1 x z = A.2.1 y z ∧ A.2.2 z x = A.2.2 z y) := by
        intro d hd
        rw [hd, hb]
        constructor
        · rintro ⟨q1, q2⟩ z hz
          rcases fin_cases_eq hz with w | w
          · exact q1 z w
          · rw [w]; exact q2
        · intro q
          exact ⟨fun z hz => q z (by omega), q i (by omega)⟩
      refine z_run (cuts := cu_R_areAlike) ok_R_areAlike (fun Kz hKz => ?_)
      conv => whnf
      refine ⟨vp_in_nI hm (by decide), ?_⟩
      conv => whnf
      rw [nI_clamp (by omega), hA.2.1, nI_leI (by omega) (by omega)]
      refine ⟨fun q => absurd q (by omega), fun _ => ?_⟩
      conv => whnf
      cases hb2 : b with
      | false =>
        first | refine ⟨fun _ => ?_, fun q => absurd (by decide) q⟩ | refine ⟨fun q => absurd q (by decide), fun _ => ?_⟩
        conv => whnf
        refine hKz _ _ _ _ ?_
        rw [nI_1']
        exact ih false (nxt false (by rw [hb2]; simp))
      | true =>
        first | refine ⟨fun _ => ?_, fun q => absurd (by decide) q⟩ | refine ⟨fun q => absurd q (by decide), fun _ => ?_⟩
        conv => whnf
        refine s_R_l hm hA hx hi ?_
        conv => whnf
        refine s_R_l hm hA hy hi ?_
        conv => whnf
        rw [n_ne (by omega) (by omega)]
        refine ⟨fun q => ?_, fun q => ?_⟩
        · conv => whnf
          refine hKz _ _ _ _ ?_
          rw [nI_1']
          exact ih false (nxt false ⟨fun z => (by cases z), fun z => absurd z.2.1 q⟩)
        · conv => whnf
          refine s_R_r hm hA hi hx ?_
          conv => whnf
          refine s_R_r hm hA hi hy ?_
          conv => whnf
          rw [n_ne (by omega) (by omega)]
          refine ⟨fun q2 => ?_, fun q2 => ?_⟩
          · conv => whnf
            refine hKz _ _ _ _ ?_
            rw [nI_1']
            exact ih false (nxt false ⟨fun z => (by cases z), fun z => absurd z.2.2 q2⟩)
          · conv => whnf
            refine hKz _ _ _ _ ?_
            rw [nI_1']
            exact ih true (nxt true ⟨fun _ => ⟨hb2, Classical.not_not.mp q, Classical.not_not.mp q2⟩, fun _ => rfl⟩)
  refine go_R_areAlike (fun Kz hKz => ?_)
  conv => whnf
  refine hKz _ _ _ _ ?_
  exact lp 0 (Nat.zero_le _) true ⟨fun _ z hz => absurd hz (Nat.not_lt_zero _), fun _ => rfl⟩
theorem s_R_layClasses {m : Nat} {A : ZP} (hm : m < 6) (hA : isRM M m A) (hZ : ∀ M', rf clF M M' → rcl M' A A.1 → Z (some (zi (nI (ksz A)))) M') : Ctr 0 G mi_R_layClasses [zr 20 0, zi (nI m)] M Z := by
  have hn := hA.1.1
  have keep : ∀ {M'}, rf clF M M' → isRM M' m A := fun h => isRM_rf hA h (fun a c q z => by unfold clF at q; unfold rgm at z; omega)
  have outer : ∀ x, x ≤ A.1 → ∀ M', rf clF M M' → rcl M' A x → V 0 G mi_R_layClasses Z 4 [(0, zr 20 0), (1, zi (nI m)), (2, zi (nI (cnt (isRep A) x))), (3, zi (nI x))] [] M' := by
    refine up_to ?_ ?_
    · intro M' g1 g2
      have hA' := keep g1
      refine z_run (cuts := cu_R_layClasses) ok_R_layClasses (fun Kz hKz => ?_)
      conv => whnf
      refine ⟨vp_in_nI hm (by decide), ?_⟩
      conv => whnf
      rw [nI_clamp (by omega), hA'.2.1, nI_leI (by omega) (by omega)]
      refine ⟨fun _ => ?_, fun q => absurd (by omega) q⟩
      conv => whnf
      exact hZ M' g1 g2
    · intro x hx ih M' g1 g2
      have hcx := cnt_le (isRep A) x
      have hclx : ∀ y, clz A y ≤ y := fun y => Nat.le_trans (cnt_le (isRep A) (rep A y)) (rep_le A y)
      have hcl6 := hclx x
      have inner : ∀ c, c ≤ cnt (isRep A) x → ∀ M', rf clF M M' → rcl M' A x → M'.1 25 0 x = (if rep A x < x ∧ clz A x < c then nI (clz A x) else -1) → V 0 G mi_R_layClasses Z 24 [(0, zr 20 0), (1, zi (nI m)), (2, zi (nI (cnt (isRep A) x))), (3, zi (nI x)), (4, zi (nI c))] [] M' := by
        refine up_to ?_ ?_
        · intro M' g1 g2 g3
          have hA' := keep g1
          cases hr : isRep A x with
          | true =>
            have hrx : rep A x = x := of_decide_eq_true hr
            have ec : cnt (isRep A) (x + 1) = cnt (isRep A) x + 1 := by rw [cnt, hr]; rfl
            have ecl : clz A x = cnt (isRep A) x := by unfold clz; rw [hrx]
            rw [if_neg (by omega)] at g3
            rw [ec] at ih
            refine z_run (cuts := cu_R_layClasses) ok_R_layClasses (fun Kz hKz => ?_)
            conv => whnf
            rw [nI_leI (by omega) (by omega)]
            refine ⟨fun _ => ?_, fun q => absurd (by omega) q⟩
            conv => whnf
            refine ⟨vp_in_nI (by omega) (by decide), ?_⟩
            conv => whnf
            rw [nI_clamp (by omega), g3]
            refine ⟨fun q => absurd rfl q, fun _ => ?_⟩
            conv => whnf
            refine ⟨vp_in_nI (by omega) (by decide), ?_⟩
            conv => whnf
            refine ⟨vp_in_nI (by omega) (by decide), ?_⟩
            conv => whnf
            refine hKz _ _ _ _ ?_
            rw [nI_clamp (by omega), nI_clamp (by omega), nI_1', nI_1']
            refine ih _ (rf_trans (rf_trans g1 (rf_set (Or.inl rfl))) (rf_set (Or.inr rfl))) ⟨fun y hy => ?_, fun y hy hry => ?_⟩
            · rw [zset_ne (by omega)]
              rcases fin_cases_eq hy with z | z
              · rw [zset_ne (by omega)]; exact g2.1 y z
              · rw [z, zset_eq, ecl]
            · rcases fin_cases_eq hy with z | z
              · have := cnt_step hry z
                rw [zset_ne (by omega), zset_ne (by omega)]
                exact g2.2 y z hry
              · rw [z, zset_eq]
          | false =>
            have hrx := rep_lt_of hr
            have ec : cnt (isRep A) (x + 1) = cnt (isRep A) x := by rw [cnt, hr]; rfl
            have hcc : clz A x < cnt (isRep A) x := cnt_step (isRep_rep A x) hrx
            rw [if_pos ⟨hrx, hcc⟩] at g3
            rw [ec] at ih
            refine z_run (cuts := cu_R_layClasses) ok_R_layClasses (fun Kz hKz => ?_)
            conv => whnf
            rw [nI_leI (by omega) (by omega)]
            refine ⟨fun _ => ?_, fun q => absurd (by omega) q⟩
            conv => whnf
            refine ⟨vp_in_nI (by omega) (by decide), ?_⟩
            conv => whnf
            rw [nI_clamp (by omega), g3, n_m1ne (by omega)]
            refine ⟨fun _ => ?_, fun q => absurd (by omega) q⟩
            conv => whnf
            refine hKz _ _ _ _ ?_
            rw [nI_1']
            refine ih _ g1 ⟨fun y hy => ?_, fun y hy hry => ?_⟩
            · rcases fin_cases_eq hy with z | z
              · exact g2.1 y z
              · rw [z]; exact g3
            · rcases fin_cases_eq hy with z | z
              · exact g2.2 y z hry
              · rw [z, hr] at hry; cases hry
        · intro c hc ih2 M' g1 g2 g3
          have hA' := keep g1
          obtain ⟨y, y1, y2, y3⟩ := cnt_surj x hc
          have hl := g2.2 y y1 y2
          rw [y3] at hl
          have hyr : rep A y = y := of_decide_eq_true y2
          have hiff : twb A x y = true ↔ (rep A x < x ∧ clz A x = c) := by
            rw [twb_iff]
            constructor
            · intro q
              have e := rep_eq q
              rw [hyr] at e
              refine ⟨by omega, ?_⟩
              unfold clz
              rw [e]
              exact y3
            · rintro ⟨q1, q2⟩
              have e : rep A x = y := cnt_inj (isRep_rep A x) y2 (by rw [y3]; exact q2)
              rw [← e]
              exact rep_twin A x
          have nxt : ∀ v : Int32, ((twb A x y = true → v = nI c) ∧ (twb A x y = false → v = M'.1 25 0 x)) → V 0 G mi_R_layClasses Z 24 [(0, zr 20 0), (1, zi (nI m)), (2, zi (nI (cnt (isRep A) x))), (3, zi (nI x)), (4, zi (nI (c + 1)))] [] (zset 25 0 x v M') := by
            intro v hv
            refine ih2 _ (rf_trans g1 (rf_set (Or.inl rfl))) ⟨fun z hz => ?_, fun z hz hrz => ?_⟩ ?_
            · rw [zset_ne (by omega)]; exact g2.1 z hz
            · rw [zset_ne (by omega)]; exact g2.2 z hz hrz
            · rw [zset_eq]
              cases hb : twb A x y with
              | true =>
                have := hiff.mp hb
                rw [hv.1 hb, if_pos ⟨this.1, by omega⟩, this.2]
              | false =>
                have hno : ¬ (rep A x < x ∧ clz A x = c) := fun q => by rw [hiff.mpr q] at hb; cases hb
                rw [hv.2 hb, g3]
                by_cases z : rep A x < x ∧ clz A x < c
                · rw [if_pos z, if_pos ⟨z.1, by omega⟩]
                · rw [if_neg z, if_neg (by omega)]
          refine z_run (cuts := cu_R_layClasses) ok_R_layClasses (fun Kz hKz => ?_)
          conv => whnf
          rw [nI_leI (by omega) (by omega)]
          refine ⟨fun q => absurd q (by omega), fun _ => ?_⟩
          conv => whnf
          refine ⟨vp_in_nI (by omega) (by decide), ?_⟩
          conv => whnf
          rw [nI_clamp (by omega), hl]
          refine s_R_areAlike hm hA' hx (by omega) ?_
          cases hb : twb A x y with
          | true =>
            conv => whnf
            first | refine ⟨fun _ => ?_, fun q => absurd (by decide) q⟩ | refine ⟨fun q => absurd q (by decide), fun _ => ?_⟩
            conv => whnf
            refine ⟨vp_in_nI (by omega) (by decide), ?_⟩
            conv => whnf
            refine hKz _ _ _ _ ?_
            rw [nI_clamp (by omega), nI_1']
            exact nxt _ ⟨fun _ => rfl, fun q => by rw [hb] at q; cases q⟩
          | false =>
            conv => whnf
            first | refine ⟨fun _ => ?_, fun q => absurd (by decide) q⟩ | refine ⟨fun q => absurd q (by decide), fun _ => ?_⟩
            conv => whnf
            refine ⟨vp_in_nI (by omega) (by decide), ?_⟩
            conv => whnf
            refine ⟨vp_in_nI (by omega) (by decide), ?_⟩
            conv => whnf
            refine hKz _ _ _ _ ?_
            rw [nI_clamp (by omega), nI_1']
            exact nxt _ ⟨fun q => (by rw [hb] at q; cases q), fun _ => rfl⟩
      have hA' := keep g1
      refine z_run (cuts := cu_R_layClasses) ok_R_layClasses (fun Kz hKz => ?_)
      conv => whnf
      refine ⟨vp_in_nI hm (by decide), ?_⟩
      conv => whnf
      rw [nI_clamp (by omega), hA'.2.1, nI_leI (by omega) (by omega)]
      refine ⟨fun q => absurd q (by omega), fun _ => ?_⟩
      conv => whnf
      refine ⟨vp_in_nI (by omega) (by decide), ?_⟩
      conv => whnf
      refine hKz _ _ _ _ ?_
      rw [nI_clamp (by omega)]
      refine inner 0 (Nat.zero_le _) _ (rf_trans g1 (rf_set (Or.inl rfl))) ⟨fun y hy => ?_, fun y hy hry => ?_⟩ ?_
      · rw [zset_ne (by omega)]; exact g2.1 y hy
      · rw [zset_ne (by omega)]; exact g2.2 y hy hry
      · rw [zset_eq, if_neg (by omega)]
  refine go_R_layClasses (fun Kz hKz => ?_)
  conv => whnf
  refine hKz _ _ _ _ ?_
  exact outer 0 (Nat.zero_le _) M (rf_refl _ _) ⟨fun y hy => absurd hy (Nat.not_lt_zero _), fun y hy => absurd hy (Nat.not_lt_zero _)⟩
theorem rcl_lst {A : ZP} (h : rcl M A A.1) {c : Nat} (hc : c < ksz A) : M.1 26 0 c = nI (lst A c) := by
  obtain ⟨h1, h2, h3⟩ := lst_is hc
  have := h.2 _ h1 h2
  rw [h3] at this
  exact this
theorem s_R_makeRetract {m : Nat} {A : ZP} (hm : m < 6) (hm4 : m ≠ 4) (h0 : 0 < A.1) (hA : isRM M m A) (hZ : ∀ M', rf mrF M M' → isRM M' 4 (pretr A) → Z none M') : Ctr 0 G mi_R_makeRetract [zr 20 0, zi (nI m)] M Z := by
  have hn := hA.1.1
  have hk6 := ksz_le A
  have hk0 := ksz_pos h0
  have hnn : ksz A * ksz A ≤ 6 * 6 := Nat.mul_le_mul (by omega) (by omega)
  have hz := n_nz (b := ksz A) (by omega) (by omega)
  refine go_R_makeRetract (fun Kz hKz => ?_)
  conv => whnf
  refine s_R_layClasses hm hA (fun M1 g1 g2 => ?_)
  have hA1 : isRM M1 m A := isRM_rf hA g1 (fun a c q z => by unfold clF at q; unfold rgm at z; omega)
  conv => whnf
  refine ⟨vp_in_nI (by decide) (by decide), ?_⟩
  conv => whnf
  refine hKz _ _ _ _ ?_
  rw [nI_clamp (by omega)]
  refine r_build (m := 4) (N := ksz A * ksz A) (pos := sp (ksz A)) (vl := fun k => (pretr A).2.1 (k / ksz A) (k % ksz A)) (vr := fun k => (pretr A).2.2 (k / ksz A) (k % ksz A)) (P := fun k M' => V 0 G mi_R_makeRetract Z 15 [(0, zr 20 0), (1, zi (nI m)), (2, zi (nI (ksz A))), (3, zi (nI k))] [] M') (fun k hk => sp_lt (by omega) hk) (sp_inj (by omega)) (fun M' hl => ?_) (fun k hk M' hl h => ?_)
  · have hB : isRM M' 4 (pretr A) := sp_isRM (A := pretr A) hl (pretr_wf hA.1) zset_eq (fun k hk => ⟨rfl, rfl⟩)
    have g0 : rf (rgm 4) M1 M' := rf_trans (rf_set (Or.inl ⟨rfl, rfl⟩)) (laid_gm hl)
    refine z_run (cuts := cu_R_makeRetract) ok_R_makeRetract (fun Kz hKz => ?_)
    conv => whnf
    rw [pk_mul, nI_leI (by omega) (by omega)]
    refine ⟨fun _ => ?_, fun q => absurd (by omega) q⟩
    conv => whnf
    exact hZ M' (rf_trans (rf_mono g1 fun a c q => Or.inl q) (rf_mono g0 fun a c q => Or.inr q)) hB
  · have hd := dvlt hk
    have g0 : rf (rgm 4) M1 M' := rf_trans (rf_set (Or.inl ⟨rfl, rfl⟩)) (laid_gm hl)
    have hA' : isRM M' m A := isRM_rf hA1 g0 (fun a c q z => by unfold rgm at q z; omega)
    have hc' : rcl M' A A.1 := ⟨fun y hy => by rw [g0.2 25 0 y (fun q => by have := q.2; unfold rgm at this; omega)]; exact g2.1 y hy, fun y hy hry => by rw [g0.2 26 0 _ (fun q => by have := q.2; unfold rgm at this; omega)]; exact g2.2 y hy hry⟩
    obtain ⟨ed, em⟩ := n_dm (k := k) (n := ksz A) (by omega) (by omega) (by omega)
    have l1 := lst_is hd.1
    have l2 := lst_is hd.2
    have e1 := rcl_lst hc' hd.1
    have e2 := rcl_lst hc' hd.2
    have hLR := hA.1.2 _ _ l1.1 l2.1
    refine z_run (cuts := cu_R_makeRetract) ok_R_makeRetract (fun Kz hKz => ?_)
    conv => whnf
    rw [pk_mul, nI_leI (by omega) (by omega)]
    refine ⟨fun q => absurd q (by omega), fun _ => ?_⟩
    conv => whnf
    refine ⟨hz, ?_⟩
    conv => whnf
    rw [ed]
    refine ⟨vp_in_nI (by omega) (by decide), ?_⟩
    conv => whnf
    rw [nI_clamp (by omega), e1]
    refine ⟨hz, ?_⟩
    conv => whnf
    rw [em]
    refine ⟨vp_in_nI (by omega) (by decide), ?_⟩
    conv => whnf
    rw [nI_clamp (by omega), e2]
    refine ⟨hz, ?_⟩
    conv => whnf
    refine ⟨hz, ?_⟩
    conv => whnf
    rw [ed, em]
    refine s_R_l hm hA' l1.1 l2.1 ?_
    conv => whnf
    refine ⟨vp_in_nI (by omega) (by decide), ?_⟩
    conv => whnf
    rw [nI_clamp (by omega), hc'.1 _ hLR.1]
    refine s_R_r hm hA' l1.1 l2.1 ?_
    conv => whnf
    refine ⟨vp_in_nI (by omega) (by decide), ?_⟩
    conv => whnf
    rw [nI_clamp (by omega), hc'.1 _ hLR.2]
    refine s_R_lay (by decide) (by omega) (by omega) ?_
    conv => whnf
    refine hKz _ _ _ _ ?_
    rw [nI_1']
    exact h
theorem r_retract {a to : Nat} (ha : a < 2 ^ 32) (hto : to < 2 ^ 32) (hR : RS M S) (h1 : (plA S a).1 = 0 ∨ ¬ to < 4 → Z (some (zi (-1000001))) M) (h3 : ¬ (plA S a).1 = 0 → to < 4 → ∀ M', RS M' (upS S to (pretr (plA S a))) → rsm M M' → Z (some (zi (nI (ksz (plA S a))))) M') : Ctr 0 G mi_R_retract [zr 20 0, zi (nI a), zi (nI to)] M Z := by
  refine go_R_retract (fun Kz hKz => ?_)
  conv => whnf
  refine s_R_isMap ha hR (fun e => ?_) (fun e => ?_)
  · conv => whnf
    first | refine ⟨fun _ => ?_, fun q => absurd (by decide) q⟩ | refine ⟨fun q => absurd q (by decide), fun _ => ?_⟩
    conv => whnf
    refine s_R_isPlace hto (fun e1 => ?_) (fun e1 => ?_)
    · have hA := RS_pl hR e
      have ha4 := plA_lt e
      conv => whnf
      first | refine ⟨fun _ => ?_, fun q => absurd (by decide) q⟩ | refine ⟨fun q => absurd q (by decide), fun _ => ?_⟩
      conv => whnf
      refine s_R_makeRetract (by omega) (by omega) (by omega) hA (fun M1 g1 g2 => ?_)
      conv => whnf
      refine s_R_comes e1 g2 (fun M2 r1 r2 => ?_)
      conv => whnf
      exact h3 e e1 M2 (RS_put (RS_rf hR g1 mrF_no) e1 r1 r2) (rsm_trans (rsm_mr g1) (rsm_gm r1))
    · conv => whnf
      first | refine ⟨fun _ => ?_, fun q => absurd (by decide) q⟩ | refine ⟨fun q => absurd q (by decide), fun _ => ?_⟩
      conv => whnf
      exact h1 (Or.inr e1)
  · conv => whnf
    first | refine ⟨fun _ => ?_, fun q => absurd (by decide) q⟩ | refine ⟨fun q => absurd q (by decide), fun _ => ?_⟩
    conv => whnf
    exact h1 (Or.inl e)
theorem r_alike {a x : Nat} (ha : a < 2 ^ 32) (hx : x < 2 ^ 32) (hR : RS M S) (h1 : ¬ x < (plA S a).1 → Z (some (zi (-1000001))) M) (h3 : x < (plA S a).1 → ∀ M', RS M' S → rsm M M' → Z (some (zi (nI (clz (plA S a) x)))) M') : Ctr 0 G mi_R_alike [zr 20 0, zi (nI a), zi (nI x)] M Z := by
  refine go_R_alike (fun Kz hKz => ?_)
  conv => whnf
  refine s_R_isMap ha hR (fun e => ?_) (fun e => ?_)
  · have hA := RS_pl hR e
    have ha4 := plA_lt e
    have hn := hA.1.1
    conv => whnf
    first | refine ⟨fun _ => ?_, fun q => absurd (by decide) q⟩ | refine ⟨fun q => absurd q (by decide), fun _ => ?_⟩
    conv => whnf
    refine s_R_isPoint (by omega) hx (by omega) hA (fun e1 => ?_) (fun e1 => ?_)
    · have hk0 := ksz_pos (A := plA S a) (by omega)
      have hk6 := ksz_le (plA S a)
      conv => whnf
      first | refine ⟨fun _ => ?_, fun q => absurd (by decide) q⟩ | refine ⟨fun q => absurd q (by decide), fun _ => ?_⟩
      conv => whnf
      refine s_R_layClasses (by omega) hA (fun M1 g1 g2 => ?_)
      conv => whnf
      rw [nI_leI (by omega) (by omega)]
      refine ⟨fun q => absurd q (by omega), fun _ => ?_⟩
      conv => whnf
      refine ⟨vp_in_nI (by omega) (by decide), ?_⟩
      conv => whnf
      rw [nI_clamp (by omega), g2.1 x e1]
      exact h3 e1 M1 (RS_rf hR g1 clF_no) (rsm_cl g1)
    · conv => whnf
      first | refine ⟨fun _ => ?_, fun q => absurd (by decide) q⟩ | refine ⟨fun q => absurd q (by decide), fun _ => ?_⟩
      conv => whnf
      exact h1 e1
  · conv => whnf
    first | refine ⟨fun _ => ?_, fun q => absurd (by decide) q⟩ | refine ⟨fun q => absurd q (by decide), fun _ => ?_⟩
    conv => whnf
    exact h1 (by omega)
theorem s_R_level {a : Nat} {A : ZP} (ha : a < 4) (hA : isRM M a A) (h0 : 0 < A.1) (h1 : ∀ t, isLev A t → (rt A t).1 = 1 → ∀ M', rf lvF M M' → Z (some (zi (nI t))) M') (h2 : ∀ t, isLev A t → ¬ (rt A t).1 = 1 → ∀ M', rf lvF M M' → Z (some (zi (-1))) M') : Ctr 0 G mi_R_level [zr 20 0, zi (nI a)] M Z := by
  have hn := hA.1.1
  have lp : ∀ i, i ≤ A.1 → ∀ M', rf lvF M M' → isRM M' 5 (rt A i) → isRM M' 4 (pretr (rt A i)) → (∀ j, j < i → ksz (rt A j) < (rt A j).1) → V 0 G mi_R_level Z 13 [(0, zr 20 0), (2, zi (nI i))] [] M' := by
    refine up_to ?_ ?_
    · intro M' g1 g2 g3 g4
      have := rt_less A.1 g4
      have := rt_pos h0 A.1
      omega
    · intro i hi ih M' g1 g2 g3 g4
      have hk := ksz_le (rt A i)
      have h6 := g2.1.1
      have hp := rt_pos h0 i
      have e4 : M'.1 21 0 4 = nI (ksz (rt A i)) := g3.2.1
      refine z_run (cuts := cu_R_level) ok_R_level (fun Kz hKz => ?_)
      conv => whnf
      refine ⟨vp_in_nI (by decide) (by decide), ?_⟩
      conv => whnf
      refine ⟨vp_in_nI (by decide) (by decide), ?_⟩
      conv => whnf
      rw [nI_clamp (by omega), nI_clamp (by omega), e4, g2.2.1, nI_leI (by omega) (by omega)]
      refine ⟨fun q => ?_, fun q => ?_⟩
      · have hlev : isLev A i := ⟨g4, by omega⟩
        conv => whnf
        refine ⟨vp_in_nI (by decide) (by decide), ?_⟩
        conv => whnf
        rw [nI_clamp (by omega), g2.2.1, n_ne (by omega) (by decide)]
        refine ⟨fun q2 => ?_, fun q2 => ?_⟩
        · conv => whnf
          exact h2 i hlev q2 M' g1
        · conv => whnf
          exact h1 i hlev (Classical.not_not.mp q2) M' g1
      · conv => whnf
        refine s_R_copies (by decide) (by decide) (by decide) g3 (fun M2 r1 r2 => ?_)
        conv => whnf
        refine s_R_makeRetract (by decide) (by decide) (ksz_pos hp) r2 (fun M3 r3 r4 => ?_)
        conv => whnf
        refine hKz _ _ _ _ ?_
        rw [nI_1']
        refine ih M3 (rf_trans (rf_trans g1 (rf_mono r1 fun a c q => Or.inr (Or.inr q))) (rf_mono r3 fun a c q => q.elim Or.inl (fun z => Or.inr (Or.inl z)))) (isRM_rf r2 r3 (fun a c q z => by unfold mrF rgm at q; unfold rgm at z; omega)) r4 (fun j hj => ?_)
        rcases fin_cases_eq hj with z | z
        · exact g4 j z
        · rw [z]; omega
  refine go_R_level (fun Kz hKz => ?_)
  conv => whnf
  refine s_R_copies (by omega) (by decide) (by omega) hA (fun M1 g1 g2 => ?_)
  conv => whnf
  refine s_R_makeRetract (by decide) (by decide) h0 g2 (fun M2 r1 r2 => ?_)
  conv => whnf
  refine hKz _ _ _ _ ?_
  exact lp 0 (Nat.zero_le _) M2 (rf_trans (rf_mono g1 fun a c q => Or.inr (Or.inr q)) (rf_mono r1 fun a c q => q.elim Or.inl (fun z => Or.inr (Or.inl z)))) (isRM_rf g2 r1 (fun a c q z => by unfold mrF rgm at q; unfold rgm at z; omega)) r2 (fun j hj => absurd hj (Nat.not_lt_zero _))
end
