theorem sh_lim : ∀ k, k < 5 → 0 < k → ∀ q, q < 5 → (nI 3 * (nI k - nI 2) < nI (3 * q) ↔ k ≤ q + 1) := by decide +kernel
theorem nRt_pos {A : ZP} {k : Nat} {s : Nat → Nat} (h0 : 0 < A.1) (h : sound A k s) : 0 < nRt A k s := by
  obtain ⟨v, h1, h2, _⟩ := h.2 _ (vW_dgl (k := k) (j := 0) h0)
  obtain ⟨j, h3, h4⟩ := dgl_surj h0 k v h1.2 h1.1
  refine Nat.lt_of_le_of_lt (Nat.zero_le _) (cnt_step (i := j) (decide_eq_true ?_) h3)
  rw [← tcl_dgl, h4, ← h2]
  exact root_self (root_end h.1 _)
theorem cnt_all {p : Nat → Bool} (h : ∀ j, p j = true) : ∀ k, cnt p k = k := by
  intro k
  induction k with
  | zero => rfl
  | succ k ih => rw [cnt, ih, h]; rfl
def joined (A : ZP) (k q : Nat) (s : Nat → Nat) : Prop := ∀ u i, vW A k u → i + 1 < k → k < i + 2 + q → root s (tcl (act A i u)) = root s (tcl u)
section
variable {G : ZG} {M : ZM} {Z : Option ZV → ZM → Prop}
theorem s_WC_find {p k : Nat} {A : ZP} (hp : p < 10) (hA : isPM M p A) (h0 : 0 < A.1) (hk1 : 1 ≤ k) (hk4 : k ≤ 4) (hZ : ∀ M' s, zsm wcS M M' → isU M' s → sound A k s → M'.1 16 0 1 = nI (nRt A k s) → joined A k k s → Z none M') : Ctr 0 G mi_WC_find [zr 16 0, zr 0 p, zi (nI k)] M Z := by
  have hn := hA.1.1
  have hN : A.1 ^ k ≤ 1296 := Nat.le_trans (Nat.pow_le_pow_left hn k) (Nat.le_trans (Nat.pow_le_pow_right (by decide) hk4) (by decide))
  have pk : ∀ {M' : ZM}, zsm wcS M M' → isPM M' p A := fun h => isPM_same hA h (fun q => absurd q.1 (by decide)) (fun q => absurd q.1 (by decide))
  have lpo : ∀ d q M' s, d + q = k → zsm wcS M M' → isU M' s → sound A k s → M'.1 16 0 1 = nI (nRt A k s) → joined A k q s → V 0 G mi_WC_find Z 43 [(0, zr 16 0), (1, zr 0 p), (2, zi (nI k)), (3, zi (nI A.1)), (4, zi (nI (3 * q)))] [] M' := by
    intro d
    induction d with
    | zero =>
      intro q M' s hd g1 g2 g3 g4 g5
      have e : q = k := by omega
      refine z_run (cuts := cu_WC_find) ok_WC_find (fun Kz hKz => ?_)
      conv => whnf
      rw [sh_lim k (by omega) (by omega) q (by omega)]
      refine ⟨fun _ => ?_, fun w => absurd (by omega) w⟩
      conv => whnf
      exact hZ M' s g1 g2 g3 g4 (fun u i hu hi hiq => g5 u i hu hi (by omega))
    | succ d ih =>
      intro q M' s hd g1 g2 g3 g4 g5
      refine z_run (cuts := cu_WC_find) ok_WC_find (fun Kz hKz => ?_)
      conv => whnf
      rw [sh_lim k (by omega) (by omega) q (by omega)]
      refine ⟨fun w => ?_, fun w => ?_⟩
      · conv => whnf
        exact hZ M' s g1 g2 g3 g4 (fun u i hu hi hiq => g5 u i hu hi (by omega))
      · have lpi : ∀ j, j ≤ A.1 ^ k → ∀ M' s t, (j < A.1 ^ k → t = enc A.1 k j) → zsm wcS M M' → isU M' s → sound A k s → M'.1 16 0 1 = nI (nRt A k s) → joined A k q s → (∀ j', j' < j → root s (tcl (act A (k - 2 - q) (dgl A.1 k j'))) = root s (tcl (dgl A.1 k j'))) → V 0 G mi_WC_find Z 63 [(0, zr 16 0), (1, zr 0 p), (2, zi (nI k)), (3, zi (nI A.1)), (4, zi (nI (3 * q))), (5, zi (nI t)), (6, zi (nI (A.1 ^ k - j)))] [] M' := by
          refine up_to ?_ ?_
          · intro M' s t _ g1 g2 g3 g4 g5 g6
            refine z_run (cuts := cu_WC_find) ok_WC_find (fun Kz hKz => ?_)
            conv => whnf
            rw [Nat.sub_self, nI_leI (by omega) (by omega)]
            refine ⟨fun _ => ?_, fun q => absurd (Nat.le_refl _) q⟩
            conv => whnf
            refine hKz _ _ _ _ ?_
            rw [nI_add, show 3 * q + 3 = 3 * (q + 1) by omega]
            refine ih (q + 1) M' s (by omega) g1 g2 g3 g4 (fun u i hu hi hiq => ?_)
            by_cases e : i = k - 2 - q
            · obtain ⟨j, hj1, hj2⟩ := dgl_surj h0 k u hu.2 hu.1
              rw [e, ← hj2]
              exact g6 j hj1
            · exact g5 u i hu hi (by omega)
          · intro j hj ihj M' s t ht g1 g2 g3 g4 g5 g6
            have hw : vW A k (dgl A.1 k j) := vW_dgl h0
            have hi1 : k - 2 - q + 1 < k := by omega
            have hw2 := vW_act hA.1 hw hi1
            have t1 := tcl_lt (w := dgl A.1 k j) (fun d hd => by have := hw.1 d hd; omega)
            have t2 := tcl_lt (w := act A (k - 2 - q) (dgl A.1 k j)) (fun d hd => by have := hw2.1 d hd; omega)
            rw [hw.2] at t1
            rw [hw2.2] at t2
            have h84 : 8 ^ k ≤ 8 ^ 4 := Nat.pow_le_pow_right (by decide) hk4
            have hpos := nRt_pos h0 g3
            obtain ⟨c, hc⟩ : ∃ c, nRt A k s = c + 1 := ⟨nRt A k s - 1, by omega⟩
            obtain ⟨d', hd'⟩ : ∃ d, A.1 ^ k - j = d + 1 := ⟨A.1 ^ k - j - 1, by omega⟩
            have hd2 : A.1 ^ k - (j + 1) = d' := by omega
            rw [hc] at g4
            refine z_run (cuts := cu_WC_find) ok_WC_find (fun Kz hKz => ?_)
            conv => whnf
            rw [nI_leI (by omega) (by omega)]
            refine ⟨fun q => absurd q (by omega), fun _ => ?_⟩
            conv => whnf
            rw [ht hj, ← tcl_dgl]
            refine ⟨by show p < 10; omega, ?_⟩
            refine s_PM_act (i := k - 2 - q) hp (pk g1) hw.1 (by rw [hw.2]; omega) (by rw [hw.2]; omega) (by rw [hw.2]; omega) ?_
            conv => whnf
            refine s_WC_join (by omega) (by omega) g2 g3.1 g4 (fun M2 s2 r1 r2 r3 r4 r5 => ?_)
            conv => whnf
            rw [tcl_dgl]
            refine s_CO_next h0 hn hk4 hj (fun t2 ht1 ht2 => ?_)
            conv => whnf
            refine hKz _ _ _ _ ?_
            rw [hd', pk_m1, ← hd2]
            have hnj := nRt_join hA.1 h0 g3 hw hi1 r4
            refine ihj M2 s2 t2 ht2 (zsm_trans g1 r1) r2 (sound_join hA.1 g3 r3 hw hi1 r4) ?_ (fun u i hu hi hiq => ?_) (fun j' hj' => ?_)
            · rw [r5]
              split at hnj
              · rename_i q2; rw [if_pos q2, ← hnj, hc]
              · rename_i q2; rw [if_neg q2]; congr 1; omega
            · rw [r4, r4]
              exact jr_keeps (g5 u i hu hi hiq)
            · rw [r4, r4]
              rcases Nat.lt_succ_iff_lt_or_eq.mp hj' with hj' | rfl
              · exact jr_keeps (g6 j' hj')
              · exact (jr_joins _ _ _).symm
        conv => whnf
        refine s_CO_sequences (by omega) hn ?_
        conv => whnf
        refine hKz _ _ _ _ ?_
        exact lpi 0 (Nat.zero_le _) M' s 0 (fun _ => (enc_zero h0 k).symm) g1 g2 g3 g4 g5 (fun j hj => absurd hj (Nat.not_lt_zero _))
  have lp1 : ∀ i, i ≤ 4096 → ∀ M', zsm wcS M M' → M'.1 16 0 1 = nI (A.1 ^ k) → (∀ w, w < i → M'.1 17 0 w = nI w) → V 0 G mi_WC_find Z 17 [(0, zr 16 0), (1, zr 0 p), (2, zi (nI k)), (3, zi (nI A.1)), (4, zi (nI i))] [] M' := by
    refine up_to ?_ ?_
    · intro M' g1 g2 g3
      refine z_run (cuts := cu_WC_find) ok_WC_find (fun Kz hKz => ?_)
      conv => whnf
      first | refine ⟨fun _ => ?_, fun q => absurd (by decide) q⟩ | refine ⟨fun q => absurd q (by decide), fun _ => ?_⟩
      conv => whnf
      refine hKz _ _ _ _ ?_
      refine lpo k 0 M' id rfl g1 (fun w hw => g3 w hw) ⟨fun w => Nat.le_refl w, fun w hw => ⟨w, hw, root_self rfl, wEq_refl _ _ _⟩⟩ ?_ (fun u i _ hi hiq => absurd hiq (by omega))
      rw [g2, nRt, cnt_all (p := fun j => decide (root id (enc A.1 k j) = enc A.1 k j)) (fun j => decide_eq_true (root_self rfl))]
    · intro i hi ih M' g1 g2 g3
      refine z_run (cuts := cu_WC_find) ok_WC_find (fun Kz hKz => ?_)
      conv => whnf
      rw [nI_ltI (by omega) (by omega)]
      refine ⟨fun q => absurd q (by omega), fun _ => ?_⟩
      conv => whnf
      refine ⟨vp_in_nI hi (by decide), ?_⟩
      conv => whnf
      refine hKz _ _ _ _ ?_
      rw [nI_clamp (by omega), nI_1']
      refine ih _ (zsm_trans g1 (zsm_set ⟨Or.inr rfl, rfl⟩)) (by rw [zset_ne (by omega)]; exact g2) (fun w hw => ?_)
      rcases Nat.lt_succ_iff_lt_or_eq.mp hw with hw | rfl
      · rw [zset_ne (by omega)]; exact g3 w hw
      · exact zset_eq
  refine go_WC_find (fun Kz hKz => ?_)
  conv => whnf
  refine ⟨by show p < 10; omega, ?_⟩
  refine s_PM_points hp ?_
  conv => whnf
  rw [hA.2.1]
  refine s_CO_sequences (by omega) hn ?_
  conv => whnf
  refine hKz _ _ _ _ ?_
  exact lp1 0 (Nat.zero_le _) _ (zsm_set ⟨Or.inl rfl, rfl⟩) zset_eq (fun w hw => absurd hw (Nat.not_lt_zero _))
end
