/-! the reference: what its search asks of a map -/
theorem lo_lr {v0 : ZV} {a1 a2 a3 a4 : Int32} : lput 4 (zi a4) (lput 3 (zi a3) [(0, v0), (1, zi a1), (2, zi a2)]) = [(0, v0), (1, zi a1), (2, zi a2), (3, zi a3), (4, zi a4)] := rfl
def rtF (a c : Nat) : Prop := a = 23 ∧ 180 ≤ c ∧ c < 216
theorem rtF_gm {M M' : ZM} (h : rf rtF M M') : rf (rgm 5) M M' := rf_mono h (fun a c q => by unfold rtF at q; unfold rgm; omega)
section
variable {G : ZG} {M : ZM} {Z : Option ZV → ZM → Prop} {S : ZS}
theorem s_R_firstBad {A : ZP} (h0 : 0 < A.1) (h4 : A.1 ≤ 4) (hA : pwf A) (hc : cl5 M A.1 A.2.1) (hinv : ∀ x y c, x < A.1 → y < A.1 → c < A.1 → (A.2.1 (A.2.1 x y) c = x ↔ c = A.2.2 x y)) (h1 : (∀ d, d < A.1 → ∀ x y, x ≤ d → y ≤ d → ¬ fwA A d x y) → Z (some (zi (nI A.1))) M) (h2 : ∀ d, d < A.1 → (∃ x y, x ≤ d ∧ y ≤ d ∧ fwA A d x y) → (∀ e, e < d → ∀ x y, x ≤ e → y ≤ e → ¬ fwA A e x y) → Z (some (zi (nI d))) M) : Ctr 0 G mi_R_firstBad [zr 20 0] M Z := by
  have bad : ∀ d, d < A.1 → (∃ x y, x ≤ d ∧ y ≤ d ∧ fwA A d x y) → (∀ e, e < d → ∀ x y, x ≤ e → y ≤ e → ¬ fwA A e x y) → V 0 G mi_R_firstBad Z 11 [(0, zr 20 0), (1, zi (nI A.1)), (2, zi (nI d)), (3, zi (nI (d + 1)))] [] M := by
    intro d hd hex hno
    refine z_run (cuts := cu_R_firstBad) ok_R_firstBad (fun Kz hKz => ?_)
    conv => whnf
    rw [nI_leI (by omega) (by omega)]
    refine ⟨fun q => ?_, fun q => ?_⟩
    · conv => whnf
      exact h2 d hd hex hno
    · conv => whnf
      rw [n_ne (by omega) (by omega)]
      refine ⟨fun _ => ?_, fun z => absurd (by omega) z⟩
      conv => whnf
      exact h2 d hd hex hno
  have outer : ∀ d, d ≤ A.1 → (∀ e, e < d → ∀ x y, x ≤ e → y ≤ e → ¬ fwA A e x y) → V 0 G mi_R_firstBad Z 11 [(0, zr 20 0), (1, zi (nI A.1)), (2, zi (nI A.1)), (3, zi (nI d))] [] M := by
    refine up_to ?_ ?_
    · intro hno
      refine z_run (cuts := cu_R_firstBad) ok_R_firstBad (fun Kz hKz => ?_)
      conv => whnf
      rw [nI_leI (by omega) (by omega)]
      refine ⟨fun _ => ?_, fun q => absurd (by omega) q⟩
      conv => whnf
      exact h1 hno
    · intro d hd ih hno
      have hdd : (d + 1) * (d + 1) ≤ 4 * 4 := Nat.mul_le_mul (by omega) (by omega)
      have hz := n_nz (b := d + 1) (by omega) (by omega)
      have inner : ∀ k, k ≤ (d + 1) * (d + 1) → ∀ b, ((b = A.1 ∧ ∀ j, j < k → ¬ fwA A d (j / (d + 1)) (j % (d + 1))) ∨ (b = d ∧ ∃ x y, x ≤ d ∧ y ≤ d ∧ fwA A d x y)) → V 0 G mi_R_firstBad Z 24 [(0, zr 20 0), (1, zi (nI A.1)), (2, zi (nI b)), (3, zi (nI d)), (4, zi (nI k))] [] M := by
        refine up_to ?_ ?_
        · intro b hb
          refine z_run (cuts := cu_R_firstBad) ok_R_firstBad (fun Kz hKz => ?_)
          conv => whnf
          rw [nI_1', pk_mul, nI_leI (by omega) (by omega)]
          refine ⟨fun _ => ?_, fun q => absurd (by omega) q⟩
          conv => whnf
          refine hKz _ _ _ _ ?_
          rw [nI_1']
          rcases hb with ⟨b1, b2⟩ | ⟨b1, b2⟩
          · rw [b1]
            refine ih (fun e he x y hx hy => ?_)
            rcases fin_cases_eq he with z | z
            · exact hno e z x y hx hy
            · rw [z] at hx hy ⊢
              have := b2 ((d + 1) * x + y) (prlt (show x < d + 1 by omega) (show y < d + 1 by omega))
              rw [(dvm (show y < d + 1 by omega)).1, (dvm (show y < d + 1 by omega)).2] at this
              exact this
          · rw [b1]
            exact bad d hd b2 hno
        · intro k hk ih2 b hb
          have hdv := dvlt (n := d + 1) hk
          obtain ⟨ed, em⟩ := n_dm (k := k) (n := d + 1) (by omega) (by omega) (by omega)
          refine z_run (cuts := cu_R_firstBad) ok_R_firstBad (fun Kz hKz => ?_)
          conv => whnf
          rw [nI_1', pk_mul, nI_leI (by omega) (by omega)]
          refine ⟨fun q => absurd q (by omega), fun _ => ?_⟩
          conv => whnf
          rw [nI_1']
          refine ⟨hz, ?_⟩
          conv => whnf
          rw [nI_1']
          refine ⟨hz, ?_⟩
          conv => whnf
          rw [ed, em]
          refine s_R_failsWithin rfl h4 hA hc hinv hd (by omega) (by omega) (fun q => ?_) (fun q => ?_)
          · conv => whnf
            first | refine ⟨fun _ => ?_, fun q => absurd (by decide) q⟩ | refine ⟨fun q => absurd q (by decide), fun _ => ?_⟩
            conv => whnf
            refine hKz _ _ _ _ ?_
            rw [nI_1']
            exact ih2 d (Or.inr ⟨rfl, _, _, by omega, by omega, q⟩)
          · conv => whnf
            first | refine ⟨fun _ => ?_, fun q => absurd (by decide) q⟩ | refine ⟨fun q => absurd q (by decide), fun _ => ?_⟩
            conv => whnf
            refine hKz _ _ _ _ ?_
            rw [nI_1']
            refine ih2 b ?_
            rcases hb with ⟨b1, b2⟩ | hb
            · refine Or.inl ⟨b1, fun j hj => ?_⟩
              rcases fin_cases_eq hj with z | z
              · exact b2 j z
              · rw [z]; exact q
            · exact Or.inr hb
      refine z_run (cuts := cu_R_firstBad) ok_R_firstBad (fun Kz hKz => ?_)
      conv => whnf
      rw [nI_leI (by omega) (by omega)]
      refine ⟨fun q => absurd q (by omega), fun _ => ?_⟩
      conv => whnf
      rw [n_ne (by omega) (by omega)]
      refine ⟨fun z => absurd rfl z, fun _ => ?_⟩
      conv => whnf
      refine hKz _ _ _ _ ?_
      exact inner 0 (Nat.zero_le _) A.1 (Or.inl ⟨rfl, fun j hj => absurd hj (Nat.not_lt_zero _)⟩)
  refine go_R_firstBad (fun Kz hKz => ?_)
  conv => whnf
  refine ⟨vp_in_nI (by decide) (by decide), ?_⟩
  conv => whnf
  refine hKz _ _ _ _ ?_
  rw [nI_clamp (by omega), hc.1]
  exact outer 0 (Nat.zero_le _) (fun e he => absurd he (Nat.not_lt_zero _))
theorem s_R_layRight {A : ZP} (h0 : 0 < A.1) (h6 : A.1 ≤ 6) (hA : pwf A) (hc : cl5 M A.1 A.2.1) (hinv : ∀ x y c, x < A.1 → y < A.1 → c < A.1 → (A.2.1 (A.2.1 x y) c = x ↔ c = A.2.2 x y)) (hZ : ∀ M', rf rtF M M' → isRM M' 5 A → Z none M') : Ctr 0 G mi_R_layRight [zr 20 0] M Z := by
  have hnn : A.1 * A.1 ≤ 6 * 6 := Nat.mul_le_mul h6 h6
  have hz := n_nz (b := A.1) h0 (by omega)
  have keep : ∀ {M'}, rf rtF M M' → cl5 M' A.1 A.2.1 := fun h => cl5_rf hc h (fun c => ⟨fun q => absurd (show (21 : Nat) = 23 from q.1) (by decide), fun q => absurd (show (22 : Nat) = 23 from q.1) (by decide)⟩)
  have outer : ∀ k, k ≤ A.1 * A.1 → ∀ M', rf rtF M M' → (∀ j, j < k → M'.1 23 0 (36 * 5 + (6 * (j / A.1) + j % A.1)) = nI (A.2.2 (j / A.1) (j % A.1))) → V 0 G mi_R_layRight Z 9 [(0, zr 20 0), (1, zi (nI A.1)), (2, zi (nI k))] [] M' := by
    refine up_to ?_ ?_
    · intro M' g1 g2
      have hc' := keep g1
      refine z_run (cuts := cu_R_layRight) ok_R_layRight (fun Kz hKz => ?_)
      conv => whnf
      rw [pk_mul, nI_leI (by omega) (by omega)]
      refine ⟨fun _ => ?_, fun q => absurd (by omega) q⟩
      conv => whnf
      refine hZ M' g1 ⟨hA, hc'.1, fun x y hx hy => ⟨hc'.2 x y hx hy, ?_⟩⟩
      have := g2 (A.1 * x + y) (prlt hx hy)
      rw [(dvm hy).1, (dvm hy).2] at this
      exact this
    · intro k hk ih M' g1 g2
      have hd := dvlt hk
      have hLR := hA.2 _ _ hd.1 hd.2
      have hc' := keep g1
      obtain ⟨ed, em⟩ := n_dm (k := k) (n := A.1) (by omega) h0 (by omega)
      have ix : 180 + 6 * (k / A.1) + k % A.1 = 36 * 5 + (6 * (k / A.1) + k % A.1) := by omega
      have inner : ∀ y, y ≤ A.1 → ∀ M', rf rtF M M' → (∀ j, j < k → M'.1 23 0 (36 * 5 + (6 * (j / A.1) + j % A.1)) = nI (A.2.2 (j / A.1) (j % A.1))) → (A.2.2 (k / A.1) (k % A.1) < y → M'.1 23 0 (36 * 5 + (6 * (k / A.1) + k % A.1)) = nI (A.2.2 (k / A.1) (k % A.1))) → V 0 G mi_R_layRight Z 34 [(0, zr 20 0), (1, zi (nI A.1)), (2, zi (nI k)), (3, zi (nI (k / A.1))), (4, zi (nI (A.2.1 (k / A.1) (k % A.1)))), (5, zi (nI y))] [] M' := by
        refine up_to ?_ ?_
        · intro M' g1 g2 g3
          refine z_run (cuts := cu_R_layRight) ok_R_layRight (fun Kz hKz => ?_)
          conv => whnf
          rw [nI_leI (by omega) (by omega)]
          refine ⟨fun _ => ?_, fun q => absurd (by omega) q⟩
          conv => whnf
          refine hKz _ _ _ _ ?_
          rw [nI_1']
          refine ih M' g1 (fun j hj => ?_)
          rcases fin_cases_eq hj with z | z
          · exact g2 j z
          · rw [z]; exact g3 hLR.2
        · intro y hy ih2 M' g1 g2 g3
          have hc' := keep g1
          have b1 := (hA.2 _ y hLR.1 hy).1
          have hi := hinv _ _ y hd.1 hd.2 hy
          have sep : ∀ j, j < k → ¬ (36 * 5 + (6 * (j / A.1) + j % A.1) = 36 * 5 + (6 * (k / A.1) + k % A.1)) := fun j hj q => by
            have := sp_inj h6 j k (by omega) hk (by unfold sp; omega)
            omega
          have nxt : ∀ v, (A.2.2 (k / A.1) (k % A.1) < y + 1 → v = nI (A.2.2 (k / A.1) (k % A.1))) → V 0 G mi_R_layRight Z 34 [(0, zr 20 0), (1, zi (nI A.1)), (2, zi (nI k)), (3, zi (nI (k / A.1))), (4, zi (nI (A.2.1 (k / A.1) (k % A.1)))), (5, zi (nI (y + 1)))] [] (zset 23 0 (36 * 5 + (6 * (k / A.1) + k % A.1)) v M') := by
            intro v hv
            refine ih2 _ (rf_trans g1 (rf_set ⟨rfl, by omega, by omega⟩)) (fun j hj => ?_) (fun q => ?_)
            · rw [zset_ne (fun q => sep j hj q.2.2)]
              exact g2 j hj
            · rw [zset_eq]; exact hv q
          refine z_run (cuts := cu_R_layRight) ok_R_layRight (fun Kz hKz => ?_)
          conv => whnf
          rw [nI_leI (by omega) (by omega)]
          refine ⟨fun q => absurd q (by omega), fun _ => ?_⟩
          conv => whnf
          rw [pk_mul, nI_add]
          refine ⟨hz, ?_⟩
          conv => whnf
          rw [em, nI_add, ix]
          refine s_R_lc h6 hc' hLR.1 hy ?_
          conv => whnf
          rw [n_ne (by omega) (by omega)]
          refine ⟨fun q => ?_, fun q => ?_⟩
          · conv => whnf
            rw [pk_mul, nI_add]
            refine ⟨hz, ?_⟩
            conv => whnf
            rw [em, nI_add, ix]
            refine ⟨vp_in_nI (by omega) (by decide), ?_⟩
            conv => whnf
            rw [nI_clamp (by omega)]
            refine ⟨vp_in_nI (by omega) (by decide), ?_⟩
            conv => whnf
            refine hKz _ _ _ _ ?_
            rw [nI_1']
            refine nxt _ (fun w => g3 ?_)
            have : A.2.2 (k / A.1) (k % A.1) ≠ y := fun z => q (hi.mpr z.symm)
            omega
          · conv => whnf
            refine ⟨vp_in_nI (by omega) (by decide), ?_⟩
            conv => whnf
            refine hKz _ _ _ _ ?_
            rw [nI_clamp (by omega), nI_1']
            refine nxt _ (fun _ => ?_)
            rw [← hi.mp (Classical.not_not.mp q)]
      refine z_run (cuts := cu_R_layRight) ok_R_layRight (fun Kz hKz => ?_)
      conv => whnf
      rw [pk_mul, nI_leI (by omega) (by omega)]
      refine ⟨fun q => absurd q (by omega), fun _ => ?_⟩
      conv => whnf
      refine ⟨hz, ?_⟩
      conv => whnf
      rw [ed]
      refine ⟨hz, ?_⟩
      conv => whnf
      rw [em]
      refine s_R_lc h6 hc' hd.1 hd.2 ?_
      conv => whnf
      refine hKz _ _ _ _ ?_
      refine inner 0 (Nat.zero_le _) M' g1 g2 (fun q => absurd q (Nat.not_lt_zero _))
  refine go_R_layRight (fun Kz hKz => ?_)
  conv => whnf
  refine ⟨vp_in_nI (by decide) (by decide), ?_⟩
  conv => whnf
  refine hKz _ _ _ _ ?_
  rw [nI_clamp (by omega), hc.1]
  exact outer 0 (Nat.zero_le _) M (rf_refl _ _) (fun j hj => absurd hj (Nat.not_lt_zero _))
theorem s_R_comesBackHere {A : ZP} (h0 : 0 < A.1) (hA : isRM M 5 A) (h1 : pinvo A → Z (some (zi (nI 1))) M) (h2 : ¬ pinvo A → Z (some (zi (nI 0))) M) : Ctr 0 G mi_R_comesBackHere [zr 20 0] M Z := by
  have hn := hA.1.1
  have hnn : A.1 * A.1 ≤ 6 * 6 := Nat.mul_le_mul hn hn
  have hz := n_nz (b := A.1) h0 (by omega)
  have lp : ∀ k, k ≤ A.1 * A.1 → ∀ b : Bool, (b = true ↔ ∀ j, j < k → A.2.1 (A.2.1 (j / A.1) (j % A.1)) (A.2.2 (j / A.1) (j % A.1)) = j / A.1 ∧ A.2.2 (A.2.1 (j / A.1) (j % A.1)) (A.2.2 (j / A.1) (j % A.1)) = j % A.1) → V 0 G mi_R_comesBackHere Z 11 [(0, zr 20 0), (1, zi (nI A.1)), (2, zi (b2i b)), (3, zi (nI k))] [] M := by
    have nofin : ∀ k, k ≤ A.1 * A.1 → ∀ b : Bool, (b = true ↔ ∀ j, j < k → A.2.1 (A.2.1 (j / A.1) (j % A.1)) (A.2.2 (j / A.1) (j % A.1)) = j / A.1 ∧ A.2.2 (A.2.1 (j / A.1) (j % A.1)) (A.2.2 (j / A.1) (j % A.1)) = j % A.1) → b = false → ¬ pinvo A := by
      intro k hk b hb hf q
      rw [hb.mpr (fun j hj => by have hd := dvlt (show j < A.1 * A.1 by omega); exact q _ _ hd.1 hd.2)] at hf
      cases hf
    refine up_to ?_ ?_
    · intro b hb
      refine z_run (cuts := cu_R_comesBackHere) ok_R_comesBackHere (fun Kz hKz => ?_)
      conv => whnf
      rw [pk_mul, nI_leI (by omega) (by omega)]
      refine ⟨fun _ => ?_, fun q => absurd (by omega) q⟩
      conv => whnf
      cases hbb : b with
      | true =>
        refine ⟨Or.inr rfl, h1 (fun x y hx hy => ?_)⟩
        have := hb.mp hbb (A.1 * x + y) (prlt hx hy)
        rw [(dvm hy).1, (dvm hy).2] at this
        exact this
      | false => exact ⟨Or.inl rfl, h2 (nofin _ (Nat.le_refl _) b hb hbb)⟩
    · intro k hk ih b hb
      have hd := dvlt hk
      have hLR := hA.1.2 _ _ hd.1 hd.2
      have hLR2 := hA.1.2 _ _ hLR.1 hLR.2
      obtain ⟨ed, em⟩ := n_dm (k := k) (n := A.1) (by omega) h0 (by omega)
      have nxt : ∀ d : Bool, (d = true ↔ (b = true ∧ (A.2.1 (A.2.1 (k / A.1) (k % A.1)) (A.2.2 (k / A.1) (k % A.1)) = k / A.1 ∧ A.2.2 (A.2.1 (k / A.1) (k % A.1)) (A.2.2 (k / A.1) (k % A.1)) = k % A.1))) → (d = true ↔ ∀ j, j < k + 1 → A.2.1 (A.2.1 (j / A.1) (j % A.1)) (A.2.2 (j / A.1) (j % A.1)) = j / A.1 ∧ A.2.2 (A.2.1 (j / A.1) (j % A.1)) (A.2.2 (j / A.1) (j % A.1)) = j % A.1) := by
        intro d hd
        rw [hd, hb]
        constructor
        · rintro ⟨q1, q2⟩ z hz
          rcases fin_cases_eq hz with w | w
          · exact q1 z w
          · rw [w]; exact q2
        · intro q
          exact ⟨fun z hz => q z (by omega), q k (by omega)⟩
      refine z_run (cuts := cu_R_comesBackHere) ok_R_comesBackHere (fun Kz hKz => ?_)
      conv => whnf
      rw [pk_mul, nI_leI (by omega) (by omega)]
      refine ⟨fun q => absurd q (by omega), fun _ => ?_⟩
      conv => whnf
      cases hbb : b with
      | false =>
        first | refine ⟨fun _ => ?_, fun q => absurd (by decide) q⟩ | refine ⟨fun q => absurd q (by decide), fun _ => ?_⟩
        conv => whnf
        exact ⟨Or.inl rfl, h2 (nofin k (by omega) b hb hbb)⟩
      | true =>
        first | refine ⟨fun _ => ?_, fun q => absurd (by decide) q⟩ | refine ⟨fun q => absurd q (by decide), fun _ => ?_⟩
        conv => whnf
        refine ⟨hz, ?_⟩
        conv => whnf
        refine ⟨hz, ?_⟩
        conv => whnf
        rw [ed, em]
        refine s_R_l (by decide) hA hd.1 hd.2 ?_
        conv => whnf
        refine ⟨hz, ?_⟩
        conv => whnf
        refine ⟨hz, ?_⟩
        conv => whnf
        rw [ed, em]
        refine s_R_r (by decide) hA hd.1 hd.2 ?_
        conv => whnf
        refine s_R_l (by decide) hA hLR.1 hLR.2 ?_
        conv => whnf
        refine ⟨hz, ?_⟩
        conv => whnf
        rw [ed, n_ne (by omega) (by omega)]
        refine ⟨fun q => ?_, fun q => ?_⟩
        · conv => whnf
          refine hKz _ _ _ _ ?_
          rw [nI_1']
          exact ih false (nxt false ⟨fun z => (by cases z), fun z => absurd z.2.1 q⟩)
        · conv => whnf
          refine s_R_r (by decide) hA hLR.1 hLR.2 ?_
          conv => whnf
          refine ⟨hz, ?_⟩
          conv => whnf
          rw [em, n_ne (by omega) (by omega)]
          refine ⟨fun q2 => ?_, fun q2 => ?_⟩
          · conv => whnf
            refine hKz _ _ _ _ ?_
            rw [nI_1']
            exact ih false (nxt false ⟨fun z => (by cases z), fun z => absurd z.2.2 q2⟩)
          · conv => whnf
            refine hKz _ _ _ _ ?_
            rw [nI_1']
            exact ih true (nxt true ⟨fun _ => ⟨hbb, Classical.not_not.mp q, Classical.not_not.mp q2⟩, fun _ => rfl⟩)
  refine go_R_comesBackHere (fun Kz hKz => ?_)
  conv => whnf
  refine ⟨vp_in_nI (by decide) (by decide), ?_⟩
  conv => whnf
  refine hKz _ _ _ _ ?_
  rw [nI_clamp (by omega), hA.2.1]
  exact lp 0 (Nat.zero_le _) true ⟨fun _ j hj => absurd hj (Nat.not_lt_zero _), fun _ => rfl⟩
theorem s_R_isFirst {A : ZP} (h0 : 0 < A.1) (h4 : A.1 ≤ 4) (hA : isRM M 5 A) (h1 : frst A → ∀ M', rf nF M M' → Z (some (zi (nI 1))) M') (h2 : ¬ frst A → ∀ M', rf nF M M' → Z (some (zi (nI 0))) M') : Ctr 0 G mi_R_isFirst [zr 20 0] M Z := by
  have hnn : A.1 * A.1 ≤ 4 * 4 := Nat.mul_le_mul h4 h4
  have hz := n_nz (b := A.1) h0 (by omega)
  have hf0 := fac_pos A.1 (by omega)
  have stop0 : ∀ M' (mo : Int32), (mo = nI 0 ∨ mo = nI 1) → rf nF M M' → ¬ frst A → V 0 G mi_R_isFirst Z 16 [(0, zr 20 0), (1, zi (nI A.1)), (2, zi (nI 0)), (3, zi mo)] [] M' := by
    intro M' mo hm y1 y2
    rcases hm with rfl | rfl
    · refine z_run (cuts := cu_R_isFirst) ok_R_isFirst (fun Kz hKz => ?_)
      conv => whnf
      first | refine ⟨fun _ => ?_, fun q => absurd (by decide) q⟩ | refine ⟨fun q => absurd q (by decide), fun _ => ?_⟩
      conv => whnf
      exact ⟨Or.inl rfl, h2 y2 M' y1⟩
    · refine z_run (cuts := cu_R_isFirst) ok_R_isFirst (fun Kz hKz => ?_)
      conv => whnf
      first | refine ⟨fun _ => ?_, fun q => absurd (by decide) q⟩ | refine ⟨fun q => absurd q (by decide), fun _ => ?_⟩
      conv => whnf
      first | refine ⟨fun _ => ?_, fun q => absurd (by decide) q⟩ | refine ⟨fun q => absurd q (by decide), fun _ => ?_⟩
      conv => whnf
      exact ⟨Or.inl rfl, h2 y2 M' y1⟩
  have stop1 : ∀ M', rf nF M M' → frst A → V 0 G mi_R_isFirst Z 16 [(0, zr 20 0), (1, zi (nI A.1)), (2, zi (nI 1)), (3, zi (nI 0))] [] M' := by
    intro M' y1 y2
    refine z_run (cuts := cu_R_isFirst) ok_R_isFirst (fun Kz hKz => ?_)
    conv => whnf
    first | refine ⟨fun _ => ?_, fun q => absurd (by decide) q⟩ | refine ⟨fun q => absurd q (by decide), fun _ => ?_⟩
    conv => whnf
    exact ⟨Or.inr rfl, h1 y2 M' y1⟩
  have step : ∀ j, j < fac A.1 → (∀ M', rf nF M M' → isN M' (pw A.1 (j + 1)) → (∀ i, i < j + 1 → cmpA A (pw A.1 i) (A.1 * A.1) ≠ 1) → ¬ j + 1 = fac A.1 → V 0 G mi_R_isFirst Z 16 [(0, zr 20 0), (1, zi (nI A.1)), (2, zi (nI 1)), (3, zi (nI 1))] [] M') → ∀ M', rf nF M M' → isN M' (pw A.1 j) → (∀ i, i < j → cmpA A (pw A.1 i) (A.1 * A.1) ≠ 1) → V 0 G mi_R_isFirst Z 16 [(0, zr 20 0), (1, zi (nI A.1)), (2, zi (nI 1)), (3, zi (nI 1))] [] M' := by
    intro j hj ih M' y1 y2 y3
    have hwp := (pw_wp h0 h4 hj).1
    have hv := hwp.1
    have hlast := pw_last h0 (by omega) hj
    have hA' := isRM_n hA y1
    have inner : ∀ k, k ≤ A.1 * A.1 → ∀ x : Int32, sgn (cmpA A (pw A.1 j) k) x → V 0 G mi_R_isFirst Z 30 [(0, zr 20 0), (1, zi (nI A.1)), (4, zi x), (5, zi (nI k))] [] M' := by
      refine up_to ?_ ?_
      · intro x hx
        have tail : ∀ is : Int32, (is = nI 0 ∨ is = nI 1) → True := fun _ _ => trivial
        rcases hx with ⟨c1, c2⟩ | ⟨c1, a, b, c2, c3, c4⟩ | ⟨c1, a, c2, c3, c4⟩
        · have hall : ∀ i, i < j + 1 → cmpA A (pw A.1 i) (A.1 * A.1) ≠ 1 := fun i hi => by
            rcases fin_cases_eq hi with z | z
            · exact y3 i z
            · rw [z, c1]; decide
          rw [c2]
          refine z_run (cuts := cu_R_isFirst) ok_R_isFirst (fun Kz hKz => ?_)
          conv => whnf
          rw [pk_mul, nI_leI (by omega) (by omega)]
          refine ⟨fun _ => ?_, fun q => absurd (by omega) q⟩
          conv => whnf
          first | refine ⟨fun _ => ?_, fun q => absurd (by decide) q⟩ | refine ⟨fun q => absurd q (by decide), fun _ => ?_⟩
          conv => whnf
          refine s_R_nextName hv.1 h0 (by omega) (wv_lt hv (by omega)) y2 (fun y => ?_) (fun y M3 k1 k2 => ?_)
          · have he := hlast.mp y
            conv => whnf
            refine hKz _ _ _ _ ?_
            exact stop1 M' y1 (fun i hi => hall i (by omega))
          · conv => whnf
            refine hKz _ _ _ _ ?_
            exact ih M3 (rf_trans y1 k1) k2 hall (fun x => y (hlast.mpr x))
        · have hno : ¬ frst A := fun q => q j hj c1
          have hneg := sub_ng b c3 a c2
          rw [c4]
          refine z_run (cuts := cu_R_isFirst) ok_R_isFirst (fun Kz hKz => ?_)
          conv => whnf
          rw [pk_mul, nI_leI (by omega) (by omega)]
          refine ⟨fun _ => ?_, fun q => absurd (by omega) q⟩
          conv => whnf
          refine ⟨fun _ => ?_, fun q => absurd hneg q⟩
          conv => whnf
          refine s_R_nextName hv.1 h0 (by omega) (wv_lt hv (by omega)) y2 (fun y => ?_) (fun y M3 k1 k2 => ?_)
          · conv => whnf
            refine hKz _ _ _ _ ?_
            exact stop0 M' _ (Or.inl rfl) y1 hno
          · conv => whnf
            refine hKz _ _ _ _ ?_
            exact stop0 M3 _ (Or.inr rfl) (rf_trans y1 k1) hno
        · have hall : ∀ i, i < j + 1 → cmpA A (pw A.1 i) (A.1 * A.1) ≠ 1 := fun i hi => by
            rcases fin_cases_eq hi with z | z
            · exact y3 i z
            · rw [z, c1]; decide
          rw [c4]
          refine z_run (cuts := cu_R_isFirst) ok_R_isFirst (fun Kz hKz => ?_)
          conv => whnf
          rw [pk_mul, nI_leI (by omega) (by omega)]
          refine ⟨fun _ => ?_, fun q => absurd (by omega) q⟩
          conv => whnf
          rw [nI_ltI (by omega) (by omega)]
          refine ⟨fun q => absurd q (by omega), fun _ => ?_⟩
          conv => whnf
          refine s_R_nextName hv.1 h0 (by omega) (wv_lt hv (by omega)) y2 (fun y => ?_) (fun y M3 k1 k2 => ?_)
          · have he := hlast.mp y
            conv => whnf
            refine hKz _ _ _ _ ?_
            exact stop1 M' y1 (fun i hi => hall i (by omega))
          · conv => whnf
            refine hKz _ _ _ _ ?_
            exact ih M3 (rf_trans y1 k1) k2 hall (fun x => y (hlast.mpr x))
      · intro k hk ih2 x hx
        have hd := dvlt hk
        obtain ⟨ed, em⟩ := n_dm (k := k) (n := A.1) (by omega) h0 (by omega)
        have hcs : cmpA A (pw A.1 j) (k + 1) = (match cmpA A (pw A.1 j) k with
          | 0 => bif Nat.beq (gw (pw A.1 j) (A.2.1 (iv (pw A.1 j) A.1 (k / A.1)) (iv (pw A.1 j) A.1 (k % A.1)))) (A.2.1 (k / A.1) (k % A.1)) then 0 else (bif Nat.ble (gw (pw A.1 j) (A.2.1 (iv (pw A.1 j) A.1 (k / A.1)) (iv (pw A.1 j) A.1 (k % A.1)))) (A.2.1 (k / A.1) (k % A.1)) then 1 else 2)
          | c + 1 => c + 1) := rfl
        have hL0 := (hA.1.2 _ _ hd.1 hd.2).1
        refine z_run (cuts := cu_R_isFirst) ok_R_isFirst (fun Kz hKz => ?_)
        conv => whnf
        rw [pk_mul, nI_leI (by omega) (by omega)]
        refine ⟨fun q => absurd q (by omega), fun _ => ?_⟩
        conv => whnf
        refine ⟨hz, ?_⟩
        conv => whnf
        rw [ed]
        refine s_R_namedAs (by omega) y2 hwp hd.1 (fun i1 _ => ?_)
        conv => whnf
        refine ⟨hz, ?_⟩
        conv => whnf
        rw [em]
        refine s_R_namedAs (by omega) y2 hwp hd.2 (fun i2 _ => ?_)
        have hL1 := (hA.1.2 _ _ i1 i2).1
        have hg := hv.2 _ hL1
        generalize iv (pw A.1 j) A.1 (k / A.1) = p at *
        generalize iv (pw A.1 j) A.1 (k % A.1) = q at *
        conv => whnf
        rcases hx with ⟨c1, c2⟩ | ⟨c1, a, b, c2, c3, c4⟩ | ⟨c1, a, c2, c3, c4⟩
        · rw [c1] at hcs
          rw [c2]
          refine ⟨fun z => absurd rfl z, fun _ => ?_⟩
          conv => whnf
          refine s_R_l (by decide) hA' i1 i2 ?_
          conv => whnf
          refine ⟨vp_in_nI (by omega) (by decide), ?_⟩
          conv => whnf
          rw [nI_clamp (by omega), y2 _ (by rw [hv.1]; exact hL1)]
          refine ⟨hz, ?_⟩
          conv => whnf
          refine ⟨hz, ?_⟩
          conv => whnf
          rw [ed, em]
          refine s_R_l (by decide) hA' hd.1 hd.2 ?_
          conv => whnf
          refine hKz _ _ _ _ ?_
          rw [nI_1']
          generalize gw (pw A.1 j) (A.2.1 p q) = u at *
          generalize A.2.1 (k / A.1) (k % A.1) = w at *
          refine ih2 _ ?_
          rcases Nat.lt_trichotomy u w with z | z | z
          · have e1 : Nat.beq u w = false := Bool.eq_false_iff.mpr (fun y => by have := Nat.eq_of_beq_eq_true y; omega)
            have e2 : Nat.ble u w = true := Nat.ble_eq_true_of_le (by omega)
            rw [hcs]
            simp only [e1, e2, cond_false, cond_true]
            exact Or.inr (Or.inl ⟨rfl, u, w, z, by omega, rfl⟩)
          · rw [hcs, z]
            simp only [nbeq_self, cond_true]
            exact Or.inl ⟨rfl, by rw [pk_sub (Nat.le_refl _), Nat.sub_self]⟩
          · have e1 : Nat.beq u w = false := Bool.eq_false_iff.mpr (fun y => by have := Nat.eq_of_beq_eq_true y; omega)
            have e2 : Nat.ble u w = false := Bool.eq_false_iff.mpr (fun y => by have := Nat.le_of_ble_eq_true y; omega)
            rw [hcs]
            simp only [e1, e2, cond_false]
            exact Or.inr (Or.inr ⟨rfl, u - w, by omega, by omega, by rw [pk_sub (by omega)]⟩)
        · rw [c1] at hcs
          have hne := sub_ne b c3 a c2
          rw [c4]
          refine ⟨fun _ => ?_, fun z => absurd hne z⟩
          conv => whnf
          refine hKz _ _ _ _ ?_
          rw [nI_1']
          exact ih2 _ (Or.inr (Or.inl ⟨hcs, a, b, c2, c3, rfl⟩))
        · rw [c1] at hcs
          rw [c4, n_ne (by omega) (by decide)]
          refine ⟨fun _ => ?_, fun z => absurd (by omega) z⟩
          conv => whnf
          refine hKz _ _ _ _ ?_
          rw [nI_1']
          exact ih2 _ (Or.inr (Or.inr ⟨hcs, a, c2, c3, rfl⟩))
    refine z_run (cuts := cu_R_isFirst) ok_R_isFirst (fun Kz hKz => ?_)
    conv => whnf
    first | refine ⟨fun _ => ?_, fun q => absurd (by decide) q⟩ | refine ⟨fun q => absurd q (by decide), fun _ => ?_⟩
    conv => whnf
    first | refine ⟨fun _ => ?_, fun q => absurd (by decide) q⟩ | refine ⟨fun q => absurd q (by decide), fun _ => ?_⟩
    conv => whnf
    refine hKz _ _ _ _ ?_
    exact inner 0 (Nat.zero_le _) (nI 0) (Or.inl ⟨rfl, rfl⟩)
  have lp : ∀ j, j ≤ fac A.1 - 1 → ∀ M', rf nF M M' → isN M' (pw A.1 j) → (∀ i, i < j → cmpA A (pw A.1 i) (A.1 * A.1) ≠ 1) → V 0 G mi_R_isFirst Z 16 [(0, zr 20 0), (1, zi (nI A.1)), (2, zi (nI 1)), (3, zi (nI 1))] [] M' := by
    refine up_to ?_ ?_
    · exact step (fac A.1 - 1) (by omega) (fun M' _ _ _ y => absurd (by omega) y)
    · intro j hj ih
      exact step j (by omega) (fun M' k1 k2 k3 _ => ih M' k1 k2 k3)
  refine go_R_isFirst (fun Kz hKz => ?_)
  conv => whnf
  refine ⟨vp_in_nI (by decide) (by decide), ?_⟩
  conv => whnf
  rw [nI_clamp (by omega), hA.2.1]
  refine s_R_firstName (by omega) (fun M1 g1 g2 => ?_)
  conv => whnf
  refine hKz _ _ _ _ ?_
  exact lp 0 (Nat.zero_le _) M1 g1 g2 (fun i hi => absurd hi (Nat.not_lt_zero _))
end
