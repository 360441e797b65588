/-! the reference: words, least; write, erase, count -/
theorem lt_pw {n : Nat} (hn : n ≤ 6) {k : Nat} (hk : k ≤ 4) : n ^ k ≤ 1296 := Nat.le_trans (Nat.pow_le_pow_left hn k) (Nat.le_trans (Nat.pow_le_pow_right (by decide) hk) (by decide))
theorem tF_wF {M M' : ZM} (h : rf tF M M') : rf wF M M' := rf_mono h (fun a c q => Or.inl q)
theorem fin_id {A : ZP} (h0 : 0 < A.1) {k : Nat} {r : List Nat → List Nat} (hr : isLst A k r) {j : Nat} (hj : j < A.1 ^ k) : fin A k r j = j ↔ r (dgl A.1 k j) = dgl A.1 k j := by
  have h := fin_lt h0 hr j
  constructor
  · intro q
    have := h.2
    rw [q] at this
    exact this.symm
  · intro q
    unfold fin
    rw [q]
    exact tnn_dgl h0 k j hj
section
variable {G : ZG} {M : ZM} {Z : Option ZV → ZM → Prop} {S : ZS}
theorem r_words {a k : Nat} {r : List Nat → List Nat} (ha : a < 2 ^ 32) (hk : k < 2 ^ 32) (hR : RS M S) (hr : ¬ (plA S a).1 = 0 → 1 ≤ k → k ≤ 4 → isLst (plA S a) k r) (h1 : (plA S a).1 = 0 → Z (some (zi (-1000001))) M) (h2 : ¬ (plA S a).1 = 0 → ¬ (1 ≤ k ∧ k ≤ 4) → Z (some (zi (-1000002))) M) (h3 : ¬ (plA S a).1 = 0 → 1 ≤ k → k ≤ 4 → ∀ M', RS M' S → rsm M M' → Z (some (zi (nI (nLst (plA S a) k r)))) M') : Ctr 0 G mi_R_words [zr 20 0, zi (nI a), zi (nI k)] M Z := by
  refine go_R_words (fun Kz hKz => ?_)
  conv => whnf
  refine s_R_isMap ha hR (fun e => ?_) (fun e => ?_)
  · have hA := RS_pl hR e
    have ha4 := plA_lt e
    generalize plA S a = A at *
    have hn := hA.1.1
    conv => whnf
    first | refine ⟨fun _ => ?_, fun q => absurd (by decide) q⟩ | refine ⟨fun q => absurd q (by decide), fun _ => ?_⟩
    conv => whnf
    refine s_R_in hk (by decide) (by decide) (fun e1 e2 _ => ?_) (fun e1 => ?_)
    · have hr := hr e e1 e2
      have h0 : 0 < A.1 := by omega
      have hN := lt_pw hn e2
      conv => whnf
      first | refine ⟨fun _ => ?_, fun q => absurd (by decide) q⟩ | refine ⟨fun q => absurd q (by decide), fun _ => ?_⟩
      conv => whnf
      refine s_R_layWords (by omega) hA h0 e1 e2 hr (fun M1 g1 g2 => ?_)
      have hA1 := isRM_w hA g1
      have lp : ∀ j, j ≤ A.1 ^ k → V 0 G mi_R_words Z 37 [(0, zr 20 0), (1, zi (nI a)), (2, zi (nI k)), (3, zi (nI (cnt (fun j => decide (r (dgl A.1 k j) = dgl A.1 k j)) j))), (4, zi (nI j))] [] M1 := by
        refine up_to ?_ ?_
        · refine z_run (cuts := cu_R_words) ok_R_words (fun Kz hKz => ?_)
          conv => whnf
          refine ⟨vp_in_nI (by omega) (by decide), ?_⟩
          conv => whnf
          rw [nI_clamp (by omega), hA1.2.1]
          refine s_R_rowsTo (by omega) ?_
          conv => whnf
          rw [nI_leI (by omega) (by omega)]
          refine ⟨fun _ => ?_, fun q => absurd (by omega) q⟩
          conv => whnf
          exact h3 e e1 e2 M1 (RS_rf hR g1 wF_no) (rsm_w g1)
        · intro j hj ih
          have hfl := (fin_lt h0 hr j).1
          have hid := fin_id h0 hr hj
          rw [cnt] at ih
          refine z_run (cuts := cu_R_words) ok_R_words (fun Kz hKz => ?_)
          conv => whnf
          refine ⟨vp_in_nI (by omega) (by decide), ?_⟩
          conv => whnf
          rw [nI_clamp (by omega), hA1.2.1]
          refine s_R_rowsTo (by omega) ?_
          conv => whnf
          rw [nI_leI (by omega) (by omega)]
          refine ⟨fun q => absurd q (by omega), fun _ => ?_⟩
          conv => whnf
          refine ⟨vp_in_nI (by omega) (by decide), ?_⟩
          conv => whnf
          rw [nI_clamp (by omega), g2 j hj, n_ne (by omega) (by omega)]
          refine ⟨fun q => ?_, fun q => ?_⟩
          · rw [decide_eq_false (fun z => q (hid.mpr z))] at ih
            conv => whnf
            refine hKz _ _ _ _ ?_
            rw [nI_add, nI_1']
            exact ih
          · rw [decide_eq_true (hid.mp (Classical.not_not.mp q))] at ih
            conv => whnf
            refine hKz _ _ _ _ ?_
            rw [nI_add, nI_1']
            exact ih
      conv => whnf
      refine hKz _ _ _ _ ?_
      exact lp 0 (Nat.zero_le _)
    · conv => whnf
      first | refine ⟨fun _ => ?_, fun q => absurd (by decide) q⟩ | refine ⟨fun q => absurd q (by decide), fun _ => ?_⟩
      conv => whnf
      exact h2 e (fun q => e1 ⟨q.1, q.2, by omega⟩)
  · conv => whnf
    first | refine ⟨fun _ => ?_, fun q => absurd (by decide) q⟩ | refine ⟨fun q => absurd q (by decide), fun _ => ?_⟩
    conv => whnf
    exact h1 e
theorem r_least {a k m : Nat} {r : List Nat → List Nat} (ha : a < 2 ^ 32) (hk : k < 2 ^ 32) (hm : m < 2 ^ 32) (hR : RS M S) (hr : ¬ (plA S a).1 = 0 → 1 ≤ k → k ≤ 4 → isLst (plA S a) k r) (h1 : (plA S a).1 = 0 → Z (some (zi (-1000001))) M) (h2 : ¬ (plA S a).1 = 0 → ¬ (1 ≤ k ∧ k ≤ 4 ∧ isC m k (plA S a).1) → Z (some (zi (-1000002))) M) (h3 : ¬ (plA S a).1 = 0 → 1 ≤ k → k ≤ 4 → isC m k (plA S a).1 → ∀ M', RS M' S → rsm M M' → Z (some (zi (nI (tn (tcl (r (dgs m k))) k)))) M') : Ctr 0 G mi_R_least [zr 20 0, zi (nI a), zi (nI k), zi (nI m)] M Z := by
  refine go_R_least (fun Kz hKz => ?_)
  conv => whnf
  refine s_R_isMap ha hR (fun e => ?_) (fun e => ?_)
  · have hA := RS_pl hR e
    have ha4 := plA_lt e
    generalize plA S a = A at *
    have hn := hA.1.1
    conv => whnf
    first | refine ⟨fun _ => ?_, fun q => absurd (by decide) q⟩ | refine ⟨fun q => absurd q (by decide), fun _ => ?_⟩
    conv => whnf
    refine s_R_in hk (by decide) (by decide) (fun e1 e2 _ => ?_) (fun e1 => ?_)
    · have hr := hr e e1 e2
      have h0 : 0 < A.1 := by omega
      have hN := lt_pw hn e2
      conv => whnf
      first | refine ⟨fun _ => ?_, fun q => absurd (by decide) q⟩ | refine ⟨fun q => absurd q (by decide), fun _ => ?_⟩
      conv => whnf
      refine ⟨vp_in_nI (by omega) (by decide), ?_⟩
      conv => whnf
      rw [nI_clamp (by omega), hA.2.1]
      refine s_R_arePoints hm (by omega) hn (fun e3 => ?_) (fun e3 => ?_)
      · have hv : vW A k (dgs m k) := ⟨dgs_all k e3.2, dgs_len m k⟩
        have ht := tnn_is h0 hv.2 hv.1
        have hfl := fin_lt h0 hr (tnn A.1 (dgs m k) k)
        rw [ht.2] at hfl
        have hvr := (hr _ hv).1
        have hcod := tn_cod (u := r (dgs m k)) (by rw [hvr.2]; exact e2) (fun d hd => by have := hvr.1 d hd; omega)
        rw [hvr.2] at hcod
        conv => whnf
        first | refine ⟨fun _ => ?_, fun q => absurd (by decide) q⟩ | refine ⟨fun q => absurd q (by decide), fun _ => ?_⟩
        conv => whnf
        refine s_R_layWords (by omega) hA h0 e1 e2 hr (fun M1 g1 g2 => ?_)
        conv => whnf
        refine s_R_layCode hm e2 (fun M2 g3 g4 => ?_)
        have f2 := rf_trans g1 (tF_wF g3)
        have hA2 := isRM_w hA f2
        conv => whnf
        refine ⟨vp_in_nI (by omega) (by decide), ?_⟩
        conv => whnf
        rw [nI_clamp (by omega), hA2.2.1]
        refine s_R_tupleNumber e2 g4 hv.2 ?_
        conv => whnf
        refine ⟨vp_in_nI (by omega) (by decide), ?_⟩
        conv => whnf
        refine ⟨vp_in_nI (by omega) (by decide), ?_⟩
        conv => whnf
        rw [nI_clamp (by omega), nI_clamp (by omega), hA2.2.1, g3.2 33 0 _ (fun q => absurd (show (33 : Nat) = 27 from q.2) (by decide)), g2 _ ht.1]
        refine s_R_layTuple h0 hn e2 (by omega) (fun M3 g5 g6 => ?_)
        rw [hfl.2] at g6
        conv => whnf
        refine s_R_tupleCode e2 g6 hvr.2 ?_
        conv => whnf
        rw [← hcod]
        exact h3 e e1 e2 e3 M3 (RS_rf hR (rf_trans f2 (tF_wF g5)) wF_no) (rsm_w (rf_trans f2 (tF_wF g5)))
      · conv => whnf
        first | refine ⟨fun _ => ?_, fun q => absurd (by decide) q⟩ | refine ⟨fun q => absurd q (by decide), fun _ => ?_⟩
        conv => whnf
        exact h2 e (fun q => e3 q.2.2)
    · conv => whnf
      first | refine ⟨fun _ => ?_, fun q => absurd (by decide) q⟩ | refine ⟨fun q => absurd q (by decide), fun _ => ?_⟩
      conv => whnf
      exact h2 e (fun q => e1 ⟨q.1, q.2.1, by omega⟩)
  · conv => whnf
    first | refine ⟨fun _ => ?_, fun q => absurd (by decide) q⟩ | refine ⟨fun q => absurd q (by decide), fun _ => ?_⟩
    conv => whnf
    exact h1 e
theorem r_write {b c : Nat} (hb : b < 2 ^ 32) (hc : c < 2 ^ 32) (hR : RS M S) (h1 : ¬ b < 2 → Z (some (zi (-1000001))) M) (h2 : b < 2 → ¬ isLet c → Z (some (zi (-1000002))) M) (h3 : b < 2 → isLet c → (S.2 b).length = 24 → Z (some (zi (-1000004))) M) (h4 : b < 2 → isLet c → (S.2 b).length < 24 → ∀ M', RS M' (upB S b (S.2 b ++ [(lpos c, capl c)])) → rsm M M' → Z (some (zi (nI ((S.2 b).length + 1)))) M') : Ctr 0 G mi_R_write [zr 20 0, zi (nI b), zi (nI c)] M Z := by
  refine go_R_write (fun Kz hKz => ?_)
  conv => whnf
  refine s_R_isBraid hb (fun e1 => ?_) (fun e1 => ?_)
  · conv => whnf
    first | refine ⟨fun _ => ?_, fun q => absurd (by decide) q⟩ | refine ⟨fun q => absurd q (by decide), fun _ => ?_⟩
    conv => whnf
    refine s_R_in hc (by decide) (by decide) (fun e2 e3 _ => ?_) (fun e2 => ?_)
    · have e2 : isLet c := Or.inl ⟨e2, by omega⟩
      have hw := hR.2.1 b e1
      have hl := hw.1
      conv => whnf
      first | refine ⟨fun _ => ?_, fun q => absurd (by decide) q⟩ | refine ⟨fun q => absurd q (by decide), fun _ => ?_⟩
      conv => whnf
      refine ⟨vp_in_nI (by omega) (by decide), ?_⟩
      conv => whnf
      rw [nI_clamp (by omega), hw.2.1, n_ne (by omega) (by decide)]
      refine ⟨fun q => ?_, fun q => ?_⟩
      · conv => whnf
        rw [pk_mul]
        refine ⟨vp_in_nI (by omega) (by decide), ?_⟩
        conv => whnf
        rw [nI_clamp (by omega), hw.2.1, nI_add]
        refine ⟨vp_in_nI (by omega) (by decide), ?_⟩
        conv => whnf
        rw [nI_clamp (by omega)]
        refine ⟨vp_in_nI (by omega) (by decide), ?_⟩
        conv => whnf
        rw [nI_clamp (by omega), zset_ne (by omega), hw.2.1, nI_1']
        refine ⟨vp_in_nI (by omega) (by decide), ?_⟩
        conv => whnf
        rw [nI_clamp (by omega)]
        refine ⟨vp_in_nI (by omega) (by decide), ?_⟩
        conv => whnf
        rw [zset_eq]
        have f0 : rf (fun a c => a = 36 ∧ c = 24 * b + (S.2 b).length ∨ a = 37 ∧ c = b) M (zset 37 0 b (nI ((S.2 b).length + 1)) (zset 36 0 (24 * b + (S.2 b).length) (nI c) M)) := rf_trans (rf_set (Or.inl ⟨rfl, rfl⟩)) (rf_set (Or.inr ⟨rfl, rfl⟩))
        refine h4 e1 e2 (by omega) _ ⟨fun m hm => isRM_rf (hR.1 m hm) f0 (fun a c q z => by unfold rgm at z; omega), fun b' hb' => ?_, fun n h1 h4 => isRL_rf (hR.2.2 n h1 h4) f0 (fun c q => by omega) (fun c q => by omega)⟩ (rsm_rf f0 (fun a c q => by omega))
        by_cases e : b' = b
        · have hlet : letC (lpos c, capl c) = c := by
            unfold letC lpos capl
            unfold isLet at e2
            by_cases z : c < 97
            · rw [if_pos (decide_eq_true z), if_neg (by omega)]
              show 65 + (c - 65) = c
              omega
            · rw [if_neg (show ¬ decide (c < 97) = true by rw [decide_eq_false z]; decide), if_pos (by omega)]
              show 97 + (c - 97) = c
              omega
          have ew : (upB S b (S.2 b ++ [(lpos c, capl c)])).2 b' = S.2 b ++ [(lpos c, capl c)] := if_pos e
          rw [ew, e]
          refine ⟨by rw [List.length_append]; show (S.2 b).length + 1 ≤ 24; omega, by rw [zset_eq, List.length_append]; rfl, fun i q hi => ?_⟩
          rcases Nat.lt_or_ge i (S.2 b).length with z | z
          · rw [List.getElem?_append_left z] at hi
            rw [zset_ne (by omega), zset_ne (by omega)]
            exact hw.2.2 i q hi
          · rw [List.getElem?_append_right z] at hi
            have hii : i = (S.2 b).length := by
              rcases Nat.lt_or_ge (i - (S.2 b).length) 1 with y | y
              · omega
              · rw [List.getElem?_eq_none (by simpa using y)] at hi; cases hi
            rw [hii] at hi ⊢
            rw [Nat.sub_self] at hi
            rw [← Option.some.inj hi, zset_ne (by omega), zset_eq, hlet]
            exact ⟨lpos_lt e2, rfl⟩
        · have ew : (upB S b (S.2 b ++ [(lpos c, capl c)])).2 b' = S.2 b' := if_neg e
          have hw' := hR.2.1 b' hb'
          have hl' := hw'.1
          rw [ew]
          refine ⟨hl', by rw [zset_ne (by omega), zset_ne (by omega)]; exact hw'.2.1, fun i q hi => ?_⟩
          have hi2 := (List.getElem?_eq_some_iff.mp hi).1
          rw [zset_ne (by omega), zset_ne (by omega)]
          exact hw'.2.2 i q hi
      · conv => whnf
        exact h3 e1 e2 (Classical.not_not.mp q)
    · conv => whnf
      first | refine ⟨fun _ => ?_, fun q => absurd (by decide) q⟩ | refine ⟨fun q => absurd q (by decide), fun _ => ?_⟩
      conv => whnf
      refine s_R_in hc (by decide) (by decide) (fun e3 e4 _ => ?_) (fun e3 => ?_)
      · have e2 : isLet c := Or.inr ⟨e3, by omega⟩
        have hw := hR.2.1 b e1
        have hl := hw.1
        conv => whnf
        first | refine ⟨fun _ => ?_, fun q => absurd (by decide) q⟩ | refine ⟨fun q => absurd q (by decide), fun _ => ?_⟩
        conv => whnf
        refine ⟨vp_in_nI (by omega) (by decide), ?_⟩
        conv => whnf
        rw [nI_clamp (by omega), hw.2.1, n_ne (by omega) (by decide)]
        refine ⟨fun q => ?_, fun q => ?_⟩
        · conv => whnf
          rw [pk_mul]
          refine ⟨vp_in_nI (by omega) (by decide), ?_⟩
          conv => whnf
          rw [nI_clamp (by omega), hw.2.1, nI_add]
          refine ⟨vp_in_nI (by omega) (by decide), ?_⟩
          conv => whnf
          rw [nI_clamp (by omega)]
          refine ⟨vp_in_nI (by omega) (by decide), ?_⟩
          conv => whnf
          rw [nI_clamp (by omega), zset_ne (by omega), hw.2.1, nI_1']
          refine ⟨vp_in_nI (by omega) (by decide), ?_⟩
          conv => whnf
          rw [nI_clamp (by omega)]
          refine ⟨vp_in_nI (by omega) (by decide), ?_⟩
          conv => whnf
          rw [zset_eq]
          have f0 : rf (fun a c => a = 36 ∧ c = 24 * b + (S.2 b).length ∨ a = 37 ∧ c = b) M (zset 37 0 b (nI ((S.2 b).length + 1)) (zset 36 0 (24 * b + (S.2 b).length) (nI c) M)) := rf_trans (rf_set (Or.inl ⟨rfl, rfl⟩)) (rf_set (Or.inr ⟨rfl, rfl⟩))
          refine h4 e1 e2 (by omega) _ ⟨fun m hm => isRM_rf (hR.1 m hm) f0 (fun a c q z => by unfold rgm at z; omega), fun b' hb' => ?_, fun n h1 h4 => isRL_rf (hR.2.2 n h1 h4) f0 (fun c q => by omega) (fun c q => by omega)⟩ (rsm_rf f0 (fun a c q => by omega))
          by_cases e : b' = b
          · have hlet : letC (lpos c, capl c) = c := by
              unfold letC lpos capl
              unfold isLet at e2
              by_cases z : c < 97
              · rw [if_pos (decide_eq_true z), if_neg (by omega)]
                show 65 + (c - 65) = c
                omega
              · rw [if_neg (show ¬ decide (c < 97) = true by rw [decide_eq_false z]; decide), if_pos (by omega)]
                show 97 + (c - 97) = c
                omega
            have ew : (upB S b (S.2 b ++ [(lpos c, capl c)])).2 b' = S.2 b ++ [(lpos c, capl c)] := if_pos e
            rw [ew, e]
            refine ⟨by rw [List.length_append]; show (S.2 b).length + 1 ≤ 24; omega, by rw [zset_eq, List.length_append]; rfl, fun i q hi => ?_⟩
            rcases Nat.lt_or_ge i (S.2 b).length with z | z
            · rw [List.getElem?_append_left z] at hi
              rw [zset_ne (by omega), zset_ne (by omega)]
              exact hw.2.2 i q hi
            · rw [List.getElem?_append_right z] at hi
              have hii : i = (S.2 b).length := by
                rcases Nat.lt_or_ge (i - (S.2 b).length) 1 with y | y
                · omega
                · rw [List.getElem?_eq_none (by simpa using y)] at hi; cases hi
              rw [hii] at hi ⊢
              rw [Nat.sub_self] at hi
              rw [← Option.some.inj hi, zset_ne (by omega), zset_eq, hlet]
              exact ⟨lpos_lt e2, rfl⟩
          · have ew : (upB S b (S.2 b ++ [(lpos c, capl c)])).2 b' = S.2 b' := if_neg e
            have hw' := hR.2.1 b' hb'
            have hl' := hw'.1
            rw [ew]
            refine ⟨hl', by rw [zset_ne (by omega), zset_ne (by omega)]; exact hw'.2.1, fun i q hi => ?_⟩
            have hi2 := (List.getElem?_eq_some_iff.mp hi).1
            rw [zset_ne (by omega), zset_ne (by omega)]
            exact hw'.2.2 i q hi
        · conv => whnf
          exact h3 e1 e2 (Classical.not_not.mp q)
      · conv => whnf
        first | refine ⟨fun _ => ?_, fun q => absurd (by decide) q⟩ | refine ⟨fun q => absurd q (by decide), fun _ => ?_⟩
        conv => whnf
        exact h2 e1 (by unfold isLet; omega)
  · conv => whnf
    first | refine ⟨fun _ => ?_, fun q => absurd (by decide) q⟩ | refine ⟨fun q => absurd q (by decide), fun _ => ?_⟩
    conv => whnf
    exact h1 e1
theorem r_erase {b : Nat} (hb : b < 2 ^ 32) (hR : RS M S) (h1 : ¬ b < 2 → Z (some (zi (-1000001))) M) (h2 : b < 2 → ∀ M', RS M' (upB S b []) → rsm M M' → Z (some (zi (nI (S.2 b).length))) M') : Ctr 0 G mi_R_erase [zr 20 0, zi (nI b)] M Z := by
  refine go_R_erase (fun Kz hKz => ?_)
  conv => whnf
  refine s_R_isBraid hb (fun e1 => ?_) (fun e1 => ?_)
  · have hw := hR.2.1 b e1
    conv => whnf
    first | refine ⟨fun _ => ?_, fun q => absurd (by decide) q⟩ | refine ⟨fun q => absurd q (by decide), fun _ => ?_⟩
    conv => whnf
    refine ⟨vp_in_nI (by omega) (by decide), ?_⟩
    conv => whnf
    refine ⟨vp_in_nI (by omega) (by decide), ?_⟩
    conv => whnf
    rw [nI_clamp (by omega), hw.2.1]
    have f0 : rf (fun a c => a = 37 ∧ c = b) M (zset 37 0 b (nI 0) M) := rf_set ⟨rfl, rfl⟩
    refine h2 e1 _ ⟨fun m hm => isRM_rf (hR.1 m hm) f0 (fun a c q z => by unfold rgm at z; omega), fun b' hb' => ?_, fun n h1 h4 => isRL_rf (hR.2.2 n h1 h4) f0 (fun c q => by omega) (fun c q => by omega)⟩ (rsm_rf f0 (fun a c q => by omega))
    by_cases e : b' = b
    · have ew : (upB S b []).2 b' = [] := if_pos e
      rw [ew, e]
      exact ⟨Nat.zero_le _, zset_eq, fun i q hi => by cases hi⟩
    · have ew : (upB S b []).2 b' = S.2 b' := if_neg e
      rw [ew]
      exact isRB_rf (hR.2.1 b' hb') f0 (fun c q => by omega) (fun q => e q.2)
  · conv => whnf
    first | refine ⟨fun _ => ?_, fun q => absurd (by decide) q⟩ | refine ⟨fun q => absurd q (by decide), fun _ => ?_⟩
    conv => whnf
    exact h1 e1
theorem r_count {c : Nat} (hc : c < 2 ^ 32) (hR : RS M S) (h0 : c = 0 → Z (some (zi (nI (cnt (fun m => decide (0 < (S.1 m).1)) 4)))) M) (h1 : c = 1 → Z (some (zi (nI (sumP S 4)))) M) (h2 : c = 2 → Z (some (zi (nI (S.2 0).length))) M) (h3 : c = 3 → Z (some (zi (nI (S.2 1).length))) M) (h4 : ¬ c < 4 → Z (some (zi (-1000002))) M) : Ctr 0 G mi_R_count [zr 20 0, zi (nI c)] M Z := by
  have b0 := hR.2.1 0 (by decide)
  have b1 := hR.2.1 1 (by decide)
  have lp : ∀ i, i ≤ 4 → c = 0 → V 0 G mi_R_count Z 34 [(0, zr 20 0), (2, zi (nI (cnt (fun m => decide (0 < (S.1 m).1)) i))), (3, zi (nI i))] [] M := by
    refine up_to ?_ ?_
    · intro e
      refine z_run (cuts := cu_R_count) ok_R_count (fun Kz hKz => ?_)
      conv => whnf
      first | refine ⟨fun _ => ?_, fun q => absurd (by decide) q⟩ | refine ⟨fun q => absurd q (by decide), fun _ => ?_⟩
      conv => whnf
      exact h0 e
    · intro i hi ih e
      have hA := hR.1 i hi
      have hn := hA.1.1
      rw [cnt] at ih
      refine z_run (cuts := cu_R_count) ok_R_count (fun Kz hKz => ?_)
      conv => whnf
      rw [nI_leI (by omega) (by omega)]
      refine ⟨fun q => absurd q (by omega), fun _ => ?_⟩
      conv => whnf
      refine ⟨vp_in_nI (by omega) (by decide), ?_⟩
      conv => whnf
      rw [nI_clamp (by omega), hA.2.1, nI_leI (by omega) (by omega)]
      refine ⟨fun q => ?_, fun q => ?_⟩
      · rw [decide_eq_false (by omega)] at ih
        conv => whnf
        refine hKz _ _ _ _ ?_
        rw [nI_add, nI_1']
        exact ih e
      · rw [decide_eq_true (by omega)] at ih
        conv => whnf
        refine hKz _ _ _ _ ?_
        rw [nI_add, nI_1']
        exact ih e
  refine go_R_count (fun Kz hKz => ?_)
  conv => whnf
  refine ⟨fun (q : nI c = nI 0) => ?_, fun (q : ¬ nI c = nI 0) => ?_⟩
  · rw [n_eq hc (by decide)] at q
    conv => whnf
    refine hKz _ _ _ _ ?_
    exact lp 0 (Nat.zero_le _) q
  · rw [n_eq hc (by decide)] at q
    conv => whnf
    refine ⟨fun (q1 : nI c = nI 1) => ?_, fun (q1 : ¬ nI c = nI 1) => ?_⟩
    · rw [n_eq hc (by decide)] at q1
      conv => whnf
      refine ⟨vp_in_nI (by decide) (by decide), ?_⟩
      conv => whnf
      refine ⟨vp_in_nI (by decide) (by decide), ?_⟩
      conv => whnf
      refine ⟨vp_in_nI (by decide) (by decide), ?_⟩
      conv => whnf
      refine ⟨vp_in_nI (by decide) (by decide), ?_⟩
      conv => whnf
      rw [nI_clamp (by omega), nI_clamp (by omega), nI_clamp (by omega), nI_clamp (by omega), (hR.1 0 (by decide)).2.1, (hR.1 1 (by decide)).2.1, (hR.1 2 (by decide)).2.1, (hR.1 3 (by decide)).2.1, nI_add, nI_add, nI_add]
      have e : (S.1 0).1 + (S.1 1).1 + (S.1 2).1 + (S.1 3).1 = sumP S 4 := by
        simp only [sumP]
        omega
      rw [e]
      exact h1 q1
    · rw [n_eq hc (by decide)] at q1
      conv => whnf
      refine ⟨fun (q2 : nI c = nI 2) => ?_, fun (q2 : ¬ nI c = nI 2) => ?_⟩
      · rw [n_eq hc (by decide)] at q2
        subst q2
        conv => whnf
        rw [show nI 2 - nI 2 = nI 0 from rfl]
        refine ⟨vp_in_nI (by decide) (by decide), ?_⟩
        conv => whnf
        rw [nI_clamp (by omega), b0.2.1]
        exact h2 rfl
      · rw [n_eq hc (by decide)] at q2
        conv => whnf
        refine ⟨fun (q3 : nI c = nI 3) => ?_, fun (q3 : ¬ nI c = nI 3) => ?_⟩
        · rw [n_eq hc (by decide)] at q3
          subst q3
          conv => whnf
          rw [show nI 3 - nI 2 = nI 1 from rfl]
          refine ⟨vp_in_nI (by decide) (by decide), ?_⟩
          conv => whnf
          rw [nI_clamp (by omega), b1.2.1]
          exact h3 rfl
        · rw [n_eq hc (by decide)] at q3
          conv => whnf
          exact h4 (by omega)
end
