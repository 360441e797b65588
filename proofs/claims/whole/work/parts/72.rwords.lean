/-! the reference: words -/
def wF (a _c : Nat) : Prop := a = 27 ∨ a = 33
theorem wF_no : ∀ a c, wF a c → ¬ rst a c := fun a c h => by unfold wF at h; unfold rst; omega
theorem rsm_w {M M' : ZM} (h : rf wF M M') : rsm M M' := rsm_rf h (fun a c q => by unfold wF at q; omega)
theorem isRM_w {M M' : ZM} {k : Nat} {A : ZP} (h : isRM M k A) (hs : rf wF M M') : isRM M' k A := isRM_rf h hs (fun a c q z => by unfold wF at q; unfold rgm at z; omega)
def isLb (M : ZM) (N : Nat) (lab : Nat → Nat) : Prop := ∀ w, w < N → M.1 33 0 w = nI (lab w)
def lup (lab : Nat → Nat) (w v x : Nat) : Nat → Nat := fun z => if z = v then x else if z = w then x else lab z
theorem isLb_up {M : ZM} {N : Nat} {lab : Nat → Nat} {w v x : Nat} (h : isLb M N lab) : isLb (zset 33 0 v (nI x) (zset 33 0 w (nI x) M)) N (lup lab w v x) := by
  intro z hz
  unfold lup
  by_cases q : z = v
  · rw [if_pos q, q, zset_eq]
  · rw [if_neg q, zset_ne (by omega)]
    by_cases q2 : z = w
    · rw [if_pos q2, q2, zset_eq]
    · rw [if_neg q2, zset_ne (by omega)]
      exact h z hz
theorem lo_w1 {v0 v1 v2 : ZV} {a3 a4 a5 a6 a7 a8 a9 : Int32} : lput 9 (zi a9) (lput 8 (zi a8) [(0, v0), (1, v1), (2, v2), (3, zi a3), (4, zi a4), (5, zi a5), (6, zi a6), (7, zi a7)]) = [(0, v0), (1, v1), (2, v2), (3, zi a3), (4, zi a4), (5, zi a5), (6, zi a6), (7, zi a7), (8, zi a8), (9, zi a9)] := rfl
section
variable {G : ZG} {M : ZM} {Z : Option ZV → ZM → Prop} {S : ZS}
theorem s_R_layWords {m k : Nat} {A : ZP} {r : List Nat → List Nat} (hm : m < 6) (hA : isRM M m A) (h0 : 0 < A.1) (hk1 : 1 ≤ k) (hk4 : k ≤ 4) (hr : isLst A k r) (hZ : ∀ M', rf wF M M' → isLb M' (A.1 ^ k) (fin A k r) → Z none M') : Ctr 0 G mi_R_layWords [zr 20 0, zi (nI m), zi (nI k)] M Z := by
  have hn := hA.1.1
  have hN : A.1 ^ k ≤ 1296 := Nat.le_trans (Nat.pow_le_pow_left hn k) (Nat.le_trans (Nat.pow_le_pow_right (by decide) hk4) (by decide))
  have hNk : A.1 ^ k * (k - 1) ≤ 1296 * 3 := Nat.mul_le_mul hN (by omega)
  have rounds : ∀ q, q ≤ 1296 → ∀ M' lab (ch : Bool), rf wF M M' → isLb M' (A.1 ^ k) lab → lbw A k r lab → (ch = false → ∀ w, w < A.1 ^ k → lab w = fin A k r w) → nfin A k r lab ≤ 1296 - q → V 0 G mi_R_layWords Z 45 [(0, zr 20 0), (1, zi (nI m)), (2, zi (nI k)), (3, zi (nI A.1)), (4, zi (nI (A.1 ^ k))), (5, zi (b2i ch)), (6, zi (nI q))] [] M' := by
    refine up_to ?_ ?_
    · intro M' lab ch g1 g2 g3 g4 g5
      have hd := nfin_zero (show nfin A k r lab = 0 by omega)
      refine z_run (cuts := cu_R_layWords) ok_R_layWords (fun Kz hKz => ?_)
      conv => whnf
      first | refine ⟨fun _ => ?_, fun q => absurd (by decide) q⟩ | refine ⟨fun q => absurd q (by decide), fun _ => ?_⟩
      conv => whnf
      exact hZ M' g1 (fun w hw => by rw [g2 w hw, hd w hw])
    · intro q hq ih M' lab0 ch0 g1 g2 g3 g4 g5
      cases hch0 : ch0 with
      | false =>
        have hd := g4 hch0
        refine z_run (cuts := cu_R_layWords) ok_R_layWords (fun Kz hKz => ?_)
        conv => whnf
        rw [nI_leI (by omega) (by omega)]
        refine ⟨fun q => absurd q (by omega), fun _ => ?_⟩
        conv => whnf
        first | refine ⟨fun _ => ?_, fun q => absurd (by decide) q⟩ | refine ⟨fun q => absurd q (by decide), fun _ => ?_⟩
        conv => whnf
        exact hZ M' g1 (fun w hw => by rw [g2 w hw, hd w hw])
      | true =>
        have pass : ∀ e, e ≤ A.1 ^ k * (k - 1) → ∀ M' lab (ch : Bool), rf wF M M' → isLb M' (A.1 ^ k) lab → lbw A k r lab → (∀ w, w < A.1 ^ k → lab0 w = fin A k r w → lab w = fin A k r w) → (∀ d, d < e → (lab0 (d / (k - 1)) = fin A k r (d / (k - 1)) ∨ lab0 (nb A k (d % (k - 1)) (d / (k - 1))) = fin A k r (d / (k - 1))) → lab (d / (k - 1)) = fin A k r (d / (k - 1)) ∧ lab (nb A k (d % (k - 1)) (d / (k - 1))) = fin A k r (d / (k - 1))) → (ch = false → (∀ w, w < A.1 ^ k → lab w = lab0 w) ∧ ∀ d, d < e → lab0 (nb A k (d % (k - 1)) (d / (k - 1))) = lab0 (d / (k - 1))) → V 0 G mi_R_layWords Z 64 [(0, zr 20 0), (1, zi (nI m)), (2, zi (nI k)), (3, zi (nI A.1)), (4, zi (nI (A.1 ^ k))), (5, zi (b2i ch)), (6, zi (nI q)), (7, zi (nI e))] [] M' := by
          refine up_to ?_ ?_
          · intro M' lab ch y1 y2 y3 y4 y5 y6
            have edge : ∀ w i, w < A.1 ^ k → i + 1 < k → ∃ d, d < A.1 ^ k * (k - 1) ∧ d / (k - 1) = w ∧ d % (k - 1) = i := by
              intro w i hw hi
              have h1 := dvm (n := k - 1) (x := w) (show i < k - 1 by omega)
              refine ⟨(k - 1) * w + i, ?_, h1.1, h1.2⟩
              have : (k - 1) * (w + 1) ≤ (k - 1) * A.1 ^ k := Nat.mul_le_mul_left _ hw
              rw [Nat.mul_succ, Nat.mul_comm (k - 1) (A.1 ^ k)] at this
              omega
            refine z_run (cuts := cu_R_layWords) ok_R_layWords (fun Kz hKz => ?_)
            conv => whnf
            rw [pk_sub hk1, pk_mul, nI_leI (by omega) (by omega)]
            refine ⟨fun _ => ?_, fun q => absurd (by omega) q⟩
            conv => whnf
            refine hKz _ _ _ _ ?_
            rw [nI_1']
            refine ih M' lab ch y1 y2 y3 (fun hc => ?_) ?_
            · obtain ⟨c1, c2⟩ := y6 hc
              intro w hw
              rw [c1 w hw]
              refine lbw_done hA.1 h0 hr g3 (fun w i hw hi => ?_) w hw
              obtain ⟨d, d1, d2, d3⟩ := edge w i hw hi
              have := c2 d d1
              rw [d2, d3] at this
              exact this
            · have := nfin_step hA.1 h0 hr g3 (lab' := lab) y4 (fun w i hw hi hor => by
                obtain ⟨d, d1, d2, d3⟩ := edge w i hw hi
                have := y5 d d1
                rw [d2, d3] at this
                exact this hor)
              omega
          · intro e he ih2 M' lab ch y1 y2 y3 y4 y5 y6
            have hk2 : 0 < k - 1 := by
              rcases Nat.eq_zero_or_pos (k - 1) with z | z
              · rw [z, Nat.mul_zero] at he; omega
              · exact z
            have hw : e / (k - 1) < A.1 ^ k := Nat.div_lt_of_lt_mul (by rw [Nat.mul_comm]; exact he)
            have hi : e % (k - 1) + 1 < k := by have := Nat.mod_lt e hk2; omega
            have hz := n_nz (b := k - 1) hk2 (by omega)
            obtain ⟨ed, em⟩ := n_dm (k := e) (n := k - 1) (by omega) hk2 (by omega)
            have hnb := nb_lt hA.1 h0 (A := A) (w := e / (k - 1)) hi
            have hfn := fin_nb hA.1 h0 hr (w := e / (k - 1)) hi
            have l1 := y3 _ hw
            have l2 := y3 _ hnb.1
            rw [hfn] at l2
            have hv := vW_dgl (A := A) (k := k) (j := e / (k - 1)) h0
            have nxt : ∀ x (ch' : Bool), (x = lab (e / (k - 1)) ∨ x = lab (nb A k (e % (k - 1)) (e / (k - 1)))) → x ≤ lab (e / (k - 1)) → x ≤ lab (nb A k (e % (k - 1)) (e / (k - 1))) → (ch' = false → ch = false ∧ lab (e / (k - 1)) = lab (nb A k (e % (k - 1)) (e / (k - 1)))) → ∀ M2, rf wF M M2 → isLb M2 (A.1 ^ k) (lup lab (e / (k - 1)) (nb A k (e % (k - 1)) (e / (k - 1))) x) → V 0 G mi_R_layWords Z 64 [(0, zr 20 0), (1, zi (nI m)), (2, zi (nI k)), (3, zi (nI A.1)), (4, zi (nI (A.1 ^ k))), (5, zi (b2i ch')), (6, zi (nI q)), (7, zi (nI (e + 1)))] [] M2 := by
              intro x ch' x1 x2 x3 x4 M2 x5 x6
              generalize hv1 : nb A k (e % (k - 1)) (e / (k - 1)) = v at *
              generalize hw1 : e / (k - 1) = w at *
              have hup : ∀ z, lup lab w v x z = if z = v then x else if z = w then x else lab z := fun _ => rfl
              have keep : ∀ z, z < A.1 ^ k → lab z = fin A k r z → lup lab w v x z = fin A k r z := by
                intro z hz2 hzf
                have hb := y3 z hz2
                rw [hup]
                by_cases q1 : z = v
                · rw [if_pos q1]
                  rw [q1] at hzf hb ⊢
                  rw [hfn] at hzf ⊢
                  rcases x1 with x1 | x1 <;> omega
                · rw [if_neg q1]
                  by_cases q2 : z = w
                  · rw [if_pos q2]
                    rw [q2] at hzf hb ⊢
                    rcases x1 with x1 | x1 <;> omega
                  · rw [if_neg q2]; exact hzf
              refine ih2 M2 _ ch' x5 x6 (fun z hz2 => ?_) (fun z hz2 hzf => keep z hz2 (y4 z hz2 hzf)) (fun d hd hor => ?_) (fun hc => ?_)
              · have hb := y3 z hz2
                rw [hup]
                by_cases q1 : z = v
                · rw [if_pos q1, q1, hfn]
                  rcases x1 with x1 | x1 <;> omega
                · rw [if_neg q1]
                  by_cases q2 : z = w
                  · rw [if_pos q2, q2]
                    rcases x1 with x1 | x1 <;> omega
                  · rw [if_neg q2]; exact hb
              · rcases fin_cases_eq hd with y | y
                · have h5 := y5 d y hor
                  have hwd : d / (k - 1) < A.1 ^ k := Nat.div_lt_of_lt_mul (by rw [Nat.mul_comm]; omega)
                  have hid : d % (k - 1) + 1 < k := by have := Nat.mod_lt d hk2; omega
                  have hnd := nb_lt hA.1 h0 (A := A) (w := d / (k - 1)) hid
                  have hfd := fin_nb hA.1 h0 hr (w := d / (k - 1)) hid
                  refine ⟨keep _ hwd h5.1, ?_⟩
                  have := keep _ hnd.1 (by rw [hfd]; exact h5.2)
                  rw [hfd] at this
                  exact this
                · rw [y, hw1, hv1] at hor ⊢
                  have hx : x = fin A k r w := by
                    rcases hor with y | y
                    · have := y4 w hw y
                      rcases x1 with x1 | x1 <;> omega
                    · have := y4 v hnb.1 (by rw [hfn]; exact y)
                      rw [hfn] at this
                      rcases x1 with x1 | x1 <;> omega
                  rw [hup, hup]
                  refine ⟨?_, by rw [if_pos rfl]; exact hx⟩
                  by_cases q1 : w = v
                  · rw [if_pos q1]; exact hx
                  · rw [if_neg q1, if_pos rfl]; exact hx
              · obtain ⟨c1, c2⟩ := x4 hc
                obtain ⟨c3, c4⟩ := y6 c1
                refine ⟨fun z hz2 => ?_, fun d hd => ?_⟩
                · rw [← c3 z hz2, hup]
                  by_cases q1 : z = v
                  · rw [if_pos q1, q1]
                    rcases x1 with x1 | x1 <;> omega
                  · rw [if_neg q1]
                    by_cases q2 : z = w
                    · rw [if_pos q2, q2]
                      rcases x1 with x1 | x1 <;> omega
                    · rw [if_neg q2]
                · rcases fin_cases_eq hd with y | y
                  · exact c4 d y
                  · rw [y, hw1, hv1, ← c3 v hnb.1, ← c3 w hw]
                    exact c2.symm
            refine z_run (cuts := cu_R_layWords) ok_R_layWords (fun Kz hKz => ?_)
            conv => whnf
            rw [pk_sub hk1, pk_mul, nI_leI (by omega) (by omega)]
            refine ⟨fun q => absurd q (by omega), fun _ => ?_⟩
            conv => whnf
            rw [pk_sub hk1]
            refine ⟨hz, ?_⟩
            conv => whnf
            rw [ed]
            refine s_R_layTuple h0 hn hk4 (by omega) (fun M2 r1 r2 => ?_)
            conv => whnf
            rw [pk_sub hk1]
            refine ⟨hz, ?_⟩
            conv => whnf
            rw [em]
            have f2 : rf wF M M2 := rf_trans y1 (rf_mono r1 fun a c q => Or.inl q)
            refine s_R_crosses hm (isRM_w hA f2) r2 hv.1 (by rw [hv.2]; exact hi) (by rw [hv.2]; exact hk4) (fun M3 r3 r4 => ?_)
            have f3 : rf wF M M3 := rf_trans f2 (rf_mono r3 fun a c q => Or.inl q)
            have hva := vW_act hA.1 hv hi
            have y2' : isLb M3 (A.1 ^ k) lab := fun z hz2 => by
              rw [r3.2 33 0 z (fun q => absurd (show (33 : Nat) = 27 from q.2) (by decide)), r1.2 33 0 z (fun q => absurd (show (33 : Nat) = 27 from q.2) (by decide))]
              exact y2 z hz2
            conv => whnf
            refine s_R_tupleNumber hk4 r4 hva.2 ?_
            rw [show tnn A.1 (act A (e % (k - 1)) (dgl A.1 k (e / (k - 1)))) k = nb A k (e % (k - 1)) (e / (k - 1)) from rfl]
            conv => whnf
            refine ⟨vp_in_nI (by omega) (by decide), ?_⟩
            conv => whnf
            refine ⟨vp_in_nI (by omega) (by decide), ?_⟩
            conv => whnf
            rw [nI_clamp (by omega), nI_clamp (by omega), y2' _ hw, y2' _ hnb.1, lo_w1, nI_leI (by omega) (by omega)]
            have upd : ∀ x, isLb (zset 33 0 (nb A k (e % (k - 1)) (e / (k - 1))) (nI x) (zset 33 0 (e / (k - 1)) (nI x) M3)) (A.1 ^ k) (lup lab (e / (k - 1)) (nb A k (e % (k - 1)) (e / (k - 1))) x) := fun x => isLb_up y2'
            have fup : ∀ x, rf wF M (zset 33 0 (nb A k (e % (k - 1)) (e / (k - 1))) (nI x) (zset 33 0 (e / (k - 1)) (nI x) M3)) := fun x => rf_trans (rf_trans f3 (rf_set (Or.inr rfl))) (rf_set (Or.inr rfl))
            refine ⟨fun q1 => ?_, fun q1 => ?_⟩
            · conv => whnf
              refine ⟨vp_in_nI (by omega) (by decide), ?_⟩
              conv => whnf
              rw [nI_clamp (by omega), y2' _ hnb.1]
              cases hch : ch with
              | true =>
                first | refine ⟨fun _ => ?_, fun q => absurd (by decide) q⟩ | refine ⟨fun q => absurd q (by decide), fun _ => ?_⟩
                conv => whnf
                refine ⟨vp_in_nI (by omega) (by decide), ?_⟩
                conv => whnf
                refine ⟨vp_in_nI (by omega) (by decide), ?_⟩
                conv => whnf
                refine hKz _ _ _ _ ?_
                rw [nI_clamp (by omega), nI_clamp (by omega), nI_1']
                exact nxt _ true (Or.inr rfl) q1 (Nat.le_refl _) (fun z => by cases z) _ (fup _) (upd _)
              | false =>
                first | refine ⟨fun _ => ?_, fun q => absurd (by decide) q⟩ | refine ⟨fun q => absurd q (by decide), fun _ => ?_⟩
                conv => whnf
                refine ⟨vp_in_nI (by omega) (by decide), ?_⟩
                conv => whnf
                refine ⟨vp_in_nI (by omega) (by decide), ?_⟩
                conv => whnf
                rw [nI_clamp (by omega), nI_clamp (by omega), y2' _ hw, y2' _ hnb.1, nI_eq (by omega) (by omega)]
                refine ⟨fun q2 => ?_, fun q2 => ?_⟩
                · conv => whnf
                  refine ⟨vp_in_nI (by omega) (by decide), ?_⟩
                  conv => whnf
                  refine ⟨vp_in_nI (by omega) (by decide), ?_⟩
                  conv => whnf
                  refine hKz _ _ _ _ ?_
                  rw [nI_clamp (by omega), nI_clamp (by omega), nI_1']
                  exact nxt _ false (Or.inr rfl) q1 (Nat.le_refl _) (fun _ => ⟨hch, q2⟩) _ (fup _) (upd _)
                · conv => whnf
                  refine ⟨vp_in_nI (by omega) (by decide), ?_⟩
                  conv => whnf
                  refine ⟨vp_in_nI (by omega) (by decide), ?_⟩
                  conv => whnf
                  refine hKz _ _ _ _ ?_
                  rw [nI_clamp (by omega), nI_clamp (by omega), nI_1']
                  exact nxt _ true (Or.inr rfl) q1 (Nat.le_refl _) (fun z => by cases z) _ (fup _) (upd _)
            · conv => whnf
              refine ⟨vp_in_nI (by omega) (by decide), ?_⟩
              conv => whnf
              rw [nI_clamp (by omega), y2' _ hw]
              cases hch : ch with
              | true =>
                first | refine ⟨fun _ => ?_, fun q => absurd (by decide) q⟩ | refine ⟨fun q => absurd q (by decide), fun _ => ?_⟩
                conv => whnf
                refine ⟨vp_in_nI (by omega) (by decide), ?_⟩
                conv => whnf
                refine ⟨vp_in_nI (by omega) (by decide), ?_⟩
                conv => whnf
                refine hKz _ _ _ _ ?_
                rw [nI_clamp (by omega), nI_clamp (by omega), nI_1']
                exact nxt _ true (Or.inl rfl) (Nat.le_refl _) (by omega) (fun z => by cases z) _ (fup _) (upd _)
              | false =>
                first | refine ⟨fun _ => ?_, fun q => absurd (by decide) q⟩ | refine ⟨fun q => absurd q (by decide), fun _ => ?_⟩
                conv => whnf
                refine ⟨vp_in_nI (by omega) (by decide), ?_⟩
                conv => whnf
                refine ⟨vp_in_nI (by omega) (by decide), ?_⟩
                conv => whnf
                rw [nI_clamp (by omega), nI_clamp (by omega), y2' _ hw, y2' _ hnb.1, nI_eq (by omega) (by omega)]
                refine ⟨fun q2 => ?_, fun q2 => ?_⟩
                · conv => whnf
                  refine ⟨vp_in_nI (by omega) (by decide), ?_⟩
                  conv => whnf
                  refine ⟨vp_in_nI (by omega) (by decide), ?_⟩
                  conv => whnf
                  refine hKz _ _ _ _ ?_
                  rw [nI_clamp (by omega), nI_clamp (by omega), nI_1']
                  exact nxt _ false (Or.inl rfl) (Nat.le_refl _) (by omega) (fun _ => ⟨hch, q2⟩) _ (fup _) (upd _)
                · conv => whnf
                  refine ⟨vp_in_nI (by omega) (by decide), ?_⟩
                  conv => whnf
                  refine ⟨vp_in_nI (by omega) (by decide), ?_⟩
                  conv => whnf
                  refine hKz _ _ _ _ ?_
                  rw [nI_clamp (by omega), nI_clamp (by omega), nI_1']
                  exact nxt _ true (Or.inl rfl) (Nat.le_refl _) (by omega) (fun z => by cases z) _ (fup _) (upd _)
        refine z_run (cuts := cu_R_layWords) ok_R_layWords (fun Kz hKz => ?_)
        conv => whnf
        rw [nI_leI (by omega) (by omega)]
        refine ⟨fun q => absurd q (by omega), fun _ => ?_⟩
        conv => whnf
        first | refine ⟨fun _ => ?_, fun q => absurd (by decide) q⟩ | refine ⟨fun q => absurd q (by decide), fun _ => ?_⟩
        conv => whnf
        refine hKz _ _ _ _ ?_
        exact pass 0 (Nat.zero_le _) M' lab0 false g1 g2 g3 (fun w hw z => z) (fun d hd => absurd hd (Nat.not_lt_zero _)) (fun _ => ⟨fun w hw => rfl, fun d hd => absurd hd (Nat.not_lt_zero _)⟩)
  have lay : ∀ w, w ≤ A.1 ^ k → ∀ M', rf wF M M' → (∀ z, z < w → M'.1 33 0 z = nI z) → V 0 G mi_R_layWords Z 17 [(0, zr 20 0), (1, zi (nI m)), (2, zi (nI k)), (3, zi (nI A.1)), (4, zi (nI (A.1 ^ k))), (5, zi (nI w))] [] M' := by
    refine up_to ?_ ?_
    · intro M' g1 g2
      refine z_run (cuts := cu_R_layWords) ok_R_layWords (fun Kz hKz => ?_)
      conv => whnf
      rw [nI_leI (by omega) (by omega)]
      refine ⟨fun _ => ?_, fun q => absurd (by omega) q⟩
      conv => whnf
      refine hKz _ _ _ _ ?_
      exact rounds 0 (Nat.zero_le _) M' (fun w => w) true g1 g2 (fun w hw => ⟨fin_le hA.1 h0 hr w, Nat.le_refl _⟩) (fun z => by cases z) (Nat.le_trans (cnt_le _ _) hN)
    · intro w hw ih M' g1 g2
      refine z_run (cuts := cu_R_layWords) ok_R_layWords (fun Kz hKz => ?_)
      conv => whnf
      rw [nI_leI (by omega) (by omega)]
      refine ⟨fun q => absurd q (by omega), fun _ => ?_⟩
      conv => whnf
      refine ⟨vp_in_nI (by omega) (by decide), ?_⟩
      conv => whnf
      refine hKz _ _ _ _ ?_
      rw [nI_clamp (by omega), nI_1']
      refine ih _ (rf_trans g1 (rf_set (Or.inr rfl))) (fun z hz => ?_)
      rcases fin_cases_eq hz with y | y
      · rw [zset_ne (by omega)]; exact g2 z y
      · rw [y]; exact zset_eq
  refine go_R_layWords (fun Kz hKz => ?_)
  conv => whnf
  refine ⟨vp_in_nI hm (by decide), ?_⟩
  conv => whnf
  rw [nI_clamp (by omega), hA.2.1]
  refine s_R_rowsTo (by omega) ?_
  conv => whnf
  refine hKz _ _ _ _ ?_
  exact lay 0 (Nat.zero_le _) M (rf_refl _ _) (fun z hz => absurd hz (Nat.not_lt_zero _))
end
