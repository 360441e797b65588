/-! the reference: likenesses; the size of the group -/
theorem lkS_step {A B : ZP} {i j : Nat} {x : Int32} (h : lkS A B i j x) (hb : isoB A B (pw A.1 j) = true) (hne : nIso A B j ≠ i) : lkS A B i (j + 1) x := by
  rcases h with ⟨h1, h2⟩ | ⟨v, v1, v2⟩
  · refine Or.inl ⟨h1, fun q => ?_⟩
    have := h2 q
    simp only [nIso, cnt] at this hne ⊢
    rw [hb, Bool.toNat_true]
    omega
  · exact Or.inr ⟨v, by omega, v2⟩
theorem lkS_skip {A B : ZP} {i j : Nat} {x : Int32} (h : lkS A B i j x) (hb : isoB A B (pw A.1 j) = false) : lkS A B i (j + 1) x := by
  rcases h with ⟨h1, h2⟩ | ⟨v, v1, v2⟩
  · refine Or.inl ⟨h1, fun q => ?_⟩
    have := h2 q
    simp only [nIso, cnt] at this ⊢
    rw [hb, Bool.toNat_false]
    exact this
  · exact Or.inr ⟨v, by omega, v2⟩
def seF (a _c : Nat) : Prop := a = 24 ∨ a = 28 ∨ a = 29
theorem seF_no : ∀ a c, seF a c → ¬ rst a c := fun a c h => by unfold seF at h; unfold rst; omega
theorem rsm_se {M M' : ZM} (h : rf seF M M') : rsm M M' := rsm_rf h (fun a c q => by unfold seF at q; omega)
theorem isRM_se {M M' : ZM} {k : Nat} {A : ZP} (h : isRM M k A) (hs : rf seF M M') : isRM M' k A := isRM_rf h hs (fun a c q z => by unfold seF at q; unfold rgm at z; omega)
def num (n : Nat) (w : List Nat) : Nat := lm (gw w) n n
def gsr (M : ZM) (n : Nat) (L : List (List Nat)) : Prop := (∀ i w, L[i]? = some w → M.1 29 0 i = nI (codW w n)) ∧ ∀ q, q < 720 → ((∃ w, w ∈ L ∧ num n w = q) → M.1 28 0 q = nI 1) ∧ (¬ (∃ w, w ∈ L ∧ num n w = q) → M.1 28 0 q = nI 0)
theorem gsr_add {M : ZM} {n : Nat} {L : List (List Nat)} {w : List Nat} (h : gsr M n L) : gsr (zset 29 0 L.length (nI (codW w n)) (zset 28 0 (num n w) (nI 1) M)) n (L ++ [w]) := by
  refine ⟨fun i v hv => ?_, fun q hq => ⟨fun hex => ?_, fun hno => ?_⟩⟩
  · rcases Nat.lt_or_ge i L.length with z | z
    · rw [List.getElem?_append_left z] at hv
      rw [zset_ne (by omega), zset_ne (by omega)]
      exact h.1 i v hv
    · rw [List.getElem?_append_right z] at hv
      have hi : i = L.length := by
        rcases Nat.lt_or_ge (i - L.length) 1 with y | y
        · omega
        · rw [List.getElem?_eq_none (by simpa using y)] at hv; cases hv
      rw [hi] at hv ⊢
      rw [zset_eq]
      rw [Nat.sub_self] at hv
      rw [Option.some.inj hv]
  · rw [zset_ne (by omega)]
    by_cases e : q = num n w
    · rw [e, zset_eq]
    · rw [zset_ne (by omega)]
      refine (h.2 q hq).1 ?_
      obtain ⟨v, v1, v2⟩ := hex
      rcases List.mem_append.mp v1 with g | g
      · exact ⟨v, g, v2⟩
      · rw [List.mem_singleton.mp g] at v2
        exact absurd v2.symm e
  · have e : q ≠ num n w := fun e => hno ⟨w, List.mem_append_right _ (List.mem_singleton.mpr rfl), e.symm⟩
    rw [zset_ne (by omega), zset_ne (by omega)]
    refine (h.2 q hq).2 (fun hex => hno ?_)
    obtain ⟨v, v1, v2⟩ := hex
    exact ⟨v, List.mem_append_left _ v1, v2⟩
theorem map_gw {f : Nat → Nat} {w : List Nat} {n x : Nat} (hw : w.length = n) (hx : x < n) : gw (w.map f) x = f (gw w x) := gw_map (by rw [hw]; exact hx)
section
variable {G : ZG} {M : ZM} {Z : Option ZV → ZM → Prop} {S : ZS}
theorem s_R_likenesses {a b i : Nat} {A B : ZP} (ha : a < 6) (hb : b < 6) (hi : i < 2 ^ 32) (hA : isRM M a A) (hB : isRM M b B) (h0 : 0 < A.1) (h1 : A.1 = B.1 → ∀ M', rf lkF M M' → lkS A B i (fac A.1) (M'.1 20 0 9) → Z (some (zi (nI (nIso A B (fac A.1))))) M') (h2 : ¬ A.1 = B.1 → ∀ M', rf lkF M M' → M'.1 20 0 9 = -1 → Z (some (zi (nI 0))) M') : Ctr 0 G mi_R_likenesses [zr 20 0, zi (nI a), zi (nI b), zi (nI i)] M Z := by
  have hn := hA.1.1
  have hnB := hB.1.1
  have hf := fac_le A.1 hn
  refine go_R_likenesses (fun Kz hKz => ?_)
  conv => whnf
  refine ⟨vp_in_nI ha (by decide), ?_⟩
  conv => whnf
  rw [nI_clamp (by omega), hA.2.1]
  refine s_R_firstName hn (fun M1 g1 g2 => ?_)
  have f1 : rf lkF M M1 := rf_trans (rf_set (Or.inr ⟨rfl, rfl⟩)) (rf_mono g1 fun a c q => Or.inl q)
  have hB1 := isRM_lk hB f1
  have e9 : M1.1 20 0 9 = -1 := by
    rw [g1.2 20 0 9 (fun q => absurd (show (20 : Nat) = 24 from q.2) (by decide))]
    exact zset_eq
  conv => whnf
  refine ⟨vp_in_nI hb (by decide), ?_⟩
  conv => whnf
  rw [nI_clamp (by omega), hB1.2.1, n_ne (by omega) (by omega)]
  refine ⟨fun q => ?_, fun q => ?_⟩
  · conv => whnf
    refine hKz _ _ _ _ ?_
    refine z_run (cuts := cu_R_likenesses) ok_R_likenesses (fun Kz hKz => ?_)
    conv => whnf
    first | refine ⟨fun _ => ?_, fun q => absurd (by decide) q⟩ | refine ⟨fun q => absurd q (by decide), fun _ => ?_⟩
    conv => whnf
    exact h2 q M1 f1 e9
  · have q := Classical.not_not.mp q
    have lp : ∀ j, j ≤ fac A.1 - 1 → ∀ M', rf lkF M M' → isN M' (pw A.1 j) → lkS A B i j (M'.1 20 0 9) → V 0 G mi_R_likenesses Z 40 [(0, zr 20 0), (1, zi (nI a)), (2, zi (nI b)), (3, zi (nI i)), (4, zi (nI A.1)), (5, zi (nI (nIso A B j))), (6, zi (nI 1))] [] M' := by
      have step : ∀ j, j < fac A.1 → (∀ M', rf lkF M M' → isN M' (pw A.1 (j + 1)) → lkS A B i (j + 1) (M'.1 20 0 9) → ¬ j + 1 = fac A.1 → V 0 G mi_R_likenesses Z 40 [(0, zr 20 0), (1, zi (nI a)), (2, zi (nI b)), (3, zi (nI i)), (4, zi (nI A.1)), (5, zi (nI (nIso A B (j + 1)))), (6, zi (nI 1))] [] M') → ∀ M', rf lkF M M' → isN M' (pw A.1 j) → lkS A B i j (M'.1 20 0 9) → V 0 G mi_R_likenesses Z 40 [(0, zr 20 0), (1, zi (nI a)), (2, zi (nI b)), (3, zi (nI i)), (4, zi (nI A.1)), (5, zi (nI (nIso A B j))), (6, zi (nI 1))] [] M' := by
        intro j hj ih M' g1 g2 g3
        have hv := wv_pw (n := A.1) h0 j
        have hlast := pw_last h0 hn hj
        have hcl : nIso A B j ≤ j := cnt_le _ j
        have done : ∀ M2, rf lkF M M2 → lkS A B i (j + 1) (M2.1 20 0 9) → j + 1 = fac A.1 → V 0 G mi_R_likenesses Z 40 [(0, zr 20 0), (1, zi (nI a)), (2, zi (nI b)), (3, zi (nI i)), (4, zi (nI A.1)), (5, zi (nI (nIso A B (j + 1)))), (6, zi (nI 0))] [] M2 := by
          intro M2 k1 k2 k3
          rw [k3] at k2 ⊢
          refine z_run (cuts := cu_R_likenesses) ok_R_likenesses (fun Kz hKz => ?_)
          conv => whnf
          first | refine ⟨fun _ => ?_, fun q => absurd (by decide) q⟩ | refine ⟨fun q => absurd q (by decide), fun _ => ?_⟩
          conv => whnf
          exact h1 q M2 k1 k2
        refine z_run (cuts := cu_R_likenesses) ok_R_likenesses (fun Kz hKz => ?_)
        conv => whnf
        first | refine ⟨fun _ => ?_, fun q => absurd (by decide) q⟩ | refine ⟨fun q => absurd q (by decide), fun _ => ?_⟩
        conv => whnf
        refine s_R_isLike ha hb (isRM_lk hA g1) (isRM_lk hB g1) q h0 g2 hv ?_
        cases hbb : isoB A B (pw A.1 j) with
        | true =>
          have en : nIso A B (j + 1) = nIso A B j + 1 := by simp only [nIso, cnt, hbb, Bool.toNat_true]
          rw [en] at ih done
          conv => whnf
          first | refine ⟨fun _ => ?_, fun q => absurd (by decide) q⟩ | refine ⟨fun q => absurd q (by decide), fun _ => ?_⟩
          conv => whnf
          rw [n_eq (by omega) hi]
          refine ⟨fun z => ?_, fun z => ?_⟩
          · have g3' := lkS_step g3 hbb z
            conv => whnf
            have f2 : rf lkF M (zset 20 0 9 (M'.1 20 0 9) M') := rf_trans g1 (rf_set (Or.inr ⟨rfl, rfl⟩))
            have n2 : isN (zset 20 0 9 (M'.1 20 0 9) M') (pw A.1 j) := fun x hx => by rw [zset_ne (by omega)]; exact g2 x hx
            refine s_R_nextName hv.1 h0 hn (wv_lt hv hn) n2 (fun y => ?_) (fun y M3 k1 k2 => ?_)
            · conv => whnf
              refine hKz _ _ _ _ ?_
              rw [nI_1']
              exact done _ f2 (by rw [zset_eq]; exact g3') (hlast.mp y)
            · conv => whnf
              refine hKz _ _ _ _ ?_
              rw [nI_1']
              refine ih M3 (rf_trans f2 (rf_mono k1 fun a c q => Or.inl q)) k2 ?_ (fun x => y (hlast.mpr x))
              rw [k1.2 20 0 9 (fun q => absurd (show (20 : Nat) = 24 from q.2) (by decide)), zset_eq]
              exact g3'
          · have z := Classical.not_not.mp z
            conv => whnf
            refine s_R_nameCode hn g2 hv ?_
            conv => whnf
            have g3' : lkS A B i (j + 1) (nI (codW (pw A.1 j) A.1)) := Or.inr ⟨j, by omega, hbb, z, rfl⟩
            have f2 : rf lkF M (zset 20 0 9 (nI (codW (pw A.1 j) A.1)) M') := rf_trans g1 (rf_set (Or.inr ⟨rfl, rfl⟩))
            have n2 : isN (zset 20 0 9 (nI (codW (pw A.1 j) A.1)) M') (pw A.1 j) := fun x hx => by rw [zset_ne (by omega)]; exact g2 x hx
            refine s_R_nextName hv.1 h0 hn (wv_lt hv hn) n2 (fun y => ?_) (fun y M3 k1 k2 => ?_)
            · conv => whnf
              refine hKz _ _ _ _ ?_
              rw [nI_1']
              exact done _ f2 (by rw [zset_eq]; exact g3') (hlast.mp y)
            · conv => whnf
              refine hKz _ _ _ _ ?_
              rw [nI_1']
              refine ih M3 (rf_trans f2 (rf_mono k1 fun a c q => Or.inl q)) k2 ?_ (fun x => y (hlast.mpr x))
              rw [k1.2 20 0 9 (fun q => absurd (show (20 : Nat) = 24 from q.2) (by decide)), zset_eq]
              exact g3'
        | false =>
          have en : nIso A B (j + 1) = nIso A B j := by simp only [nIso, cnt, hbb, Bool.toNat_false, Nat.add_zero]
          rw [en] at ih done
          have g3' := lkS_skip g3 hbb
          conv => whnf
          first | refine ⟨fun _ => ?_, fun q => absurd (by decide) q⟩ | refine ⟨fun q => absurd q (by decide), fun _ => ?_⟩
          conv => whnf
          refine s_R_nextName hv.1 h0 hn (wv_lt hv hn) g2 (fun y => ?_) (fun y M3 k1 k2 => ?_)
          · conv => whnf
            refine hKz _ _ _ _ ?_
            exact done _ g1 g3' (hlast.mp y)
          · conv => whnf
            refine hKz _ _ _ _ ?_
            refine ih M3 (rf_trans g1 (rf_mono k1 fun a c q => Or.inl q)) k2 ?_ (fun x => y (hlast.mpr x))
            rw [k1.2 20 0 9 (fun q => absurd (show (20 : Nat) = 24 from q.2) (by decide))]
            exact g3'
      refine up_to ?_ ?_
      · by_cases z : fac A.1 = 0
        · have : ∀ n, n ≤ 6 → 0 < fac n := by decide
          have := this A.1 hn
          omega
        · exact step (fac A.1 - 1) (by omega) (fun M' _ _ _ y => absurd (by omega) y)
      · intro j hj ih
        exact step j (by omega) (fun M' k1 k2 k3 _ => ih M' k1 k2 k3)
    conv => whnf
    refine hKz _ _ _ _ ?_
    exact lp 0 (Nat.zero_le _) M1 f1 g2 (Or.inl ⟨e9, fun _ => Nat.zero_le _⟩)
theorem r_like {a b i : Nat} (ha : a < 2 ^ 32) (hb : b < 2 ^ 32) (hi : i < 2 ^ 32) (hR : RS M S) (h1 : (plA S a).1 = 0 ∨ (plA S b).1 = 0 → Z (some (zi (-1000001))) M) (h2 : ¬ (plA S a).1 = 0 → ¬ (plA S b).1 = 0 → 2 ^ 31 ≤ i → i ≠ 4294967295 → Z (some (zi (-1000002))) M) (h3 : ¬ (plA S a).1 = 0 → ¬ (plA S b).1 = 0 → i = 4294967295 → ∀ M', RS M' S → rsm M M' → Z (some (zi (nI (if (plA S a).1 = (plA S b).1 then nIso (plA S a) (plA S b) (fac (plA S a).1) else 0)))) M') (h4 : ¬ (plA S a).1 = 0 → ¬ (plA S b).1 = 0 → i < 2 ^ 31 → (plA S a).1 = (plA S b).1 → ∀ j, j < fac (plA S a).1 → isoB (plA S a) (plA S b) (pw (plA S a).1 j) = true → nIso (plA S a) (plA S b) j = i → ∀ M', RS M' S → rsm M M' → Z (some (zi (nI (codW (pw (plA S a).1 j) (plA S a).1)))) M') (h5 : ¬ (plA S a).1 = 0 → ¬ (plA S b).1 = 0 → i < 2 ^ 31 → ((plA S a).1 = (plA S b).1 → nIso (plA S a) (plA S b) (fac (plA S a).1) ≤ i) → ∀ M', RS M' S → rsm M M' → Z (some (zi (-1))) M') : Ctr 0 G mi_R_like [zr 20 0, zi (nI a), zi (nI b), zi (nI i)] M Z := by
  refine go_R_like (fun Kz hKz => ?_)
  conv => whnf
  refine s_R_isMap ha hR (fun ea => ?_) (fun ea => ?_)
  · conv => whnf
    first | refine ⟨fun _ => ?_, fun q => absurd (by decide) q⟩ | refine ⟨fun q => absurd q (by decide), fun _ => ?_⟩
    conv => whnf
    refine s_R_isMap hb hR (fun eb => ?_) (fun eb => ?_)
    · have hA := RS_pl hR ea
      have hB := RS_pl hR eb
      have ha4 := plA_lt ea
      have hb4 := plA_lt eb
      conv => whnf
      first | refine ⟨fun _ => ?_, fun q => absurd (by decide) q⟩ | refine ⟨fun q => absurd q (by decide), fun _ => ?_⟩
      conv => whnf
      rw [n_m1le hi]
      refine ⟨fun q => ?_, fun q => ?_⟩
      · conv => whnf
        refine s_R_likenesses (by omega) (by omega) hi hA hB (by omega) (fun e M1 g1 g2 => ?_) (fun e M1 g1 g2 => ?_)
        · have hR1 := RS_rf hR g1 lkF_no
          conv => whnf
          rw [n_m1ne hi]
          refine ⟨fun z => ?_, fun z => ?_⟩
          · conv => whnf
            rcases g2 with ⟨x1, x2⟩ | ⟨v, v1, v2, v3, v4⟩
            · rw [x1]
              exact h5 ea eb (by omega) (fun _ => x2 (by omega)) M1 hR1 (rsm_lk g1)
            · rw [v4]
              exact h4 ea eb (by omega) e v v1 v2 v3 M1 hR1 (rsm_lk g1)
          · have h3 := h3 ea eb (Classical.not_not.mp z) M1 hR1 (rsm_lk g1)
            rw [if_pos e] at h3
            conv => whnf
            exact h3
        · have hR1 := RS_rf hR g1 lkF_no
          conv => whnf
          rw [n_m1ne hi]
          refine ⟨fun z => ?_, fun z => ?_⟩
          · conv => whnf
            rw [g2]
            exact h5 ea eb (by omega) (fun y => absurd y e) M1 hR1 (rsm_lk g1)
          · have h3 := h3 ea eb (Classical.not_not.mp z) M1 hR1 (rsm_lk g1)
            rw [if_neg e] at h3
            conv => whnf
            exact h3
      · conv => whnf
        exact h2 ea eb (by omega) (by omega)
    · conv => whnf
      first | refine ⟨fun _ => ?_, fun q => absurd (by decide) q⟩ | refine ⟨fun q => absurd q (by decide), fun _ => ?_⟩
      conv => whnf
      exact h1 (Or.inr eb)
  · conv => whnf
    first | refine ⟨fun _ => ?_, fun q => absurd (by decide) q⟩ | refine ⟨fun q => absurd q (by decide), fun _ => ?_⟩
    conv => whnf
    exact h1 (Or.inl ea)
theorem s_R_numberOf {w : List Nat} {n : Nat} (h6 : n ≤ 6) (hw : wv w n) (hZ : Z (some (zi (nI (num n w)))) M) : Ctr 0 G mi_R_numberOf [zi (nI (codW w n)), zi (nI n)] M Z := by
  have h8 := wv_lt hw h6
  have hc := codW_lt h8 n
  have hp8 := p8_le h6
  have hdf : ∀ i, i ≤ n → lm (gw w) n i ≤ 720 := by
    have hd : ∀ n, n ≤ 6 → ∀ i, i ≤ n → df n i ≤ 720 := by decide
    intro i hi
    have := lm_lt (gw w) n i hi
    have := hd n h6 i hi
    omega
  have outer : ∀ i, i ≤ n → V 0 G mi_R_numberOf Z 4 [(0, zi (nI (codW w n))), (1, zi (nI n)), (2, zi (nI (lm (gw w) n i))), (3, zi (nI i))] [] M := by
    refine up_to ?_ ?_
    · refine z_run (cuts := cu_R_numberOf) ok_R_numberOf (fun Kz hKz => ?_)
      conv => whnf
      rw [nI_leI (by omega) (by omega)]
      refine ⟨fun _ => ?_, fun q => absurd (by omega) q⟩
      conv => whnf
      exact hZ
    · intro i hi ih
      rw [lm] at ih
      have inner : ∀ k, k ≤ n - 1 - i → V 0 G mi_R_numberOf Z 17 [(0, zi (nI (codW w n))), (1, zi (nI n)), (2, zi (nI (lm (gw w) n i))), (3, zi (nI i)), (4, zi (nI (les (gw w) i k))), (5, zi (nI (i + 1 + k)))] [] M := by
        refine up_to ?_ ?_
        · refine z_run (cuts := cu_R_numberOf) ok_R_numberOf (fun Kz hKz => ?_)
          conv => whnf
          rw [nI_leI (by omega) (by omega)]
          refine ⟨fun _ => ?_, fun q => absurd (by omega) q⟩
          conv => whnf
          rw [pk_sub (by omega), pk_mul, nI_add]
          refine hKz _ _ _ _ ?_
          rw [nI_1']
          exact ih
        · intro k hk ih2
          have a1 := h8 (i + 1 + k)
          have a2 := h8 i
          rw [les] at ih2
          refine z_run (cuts := cu_R_numberOf) ok_R_numberOf (fun Kz hKz => ?_)
          conv => whnf
          rw [nI_leI (by omega) (by omega)]
          refine ⟨fun q => absurd q (by omega), fun _ => ?_⟩
          conv => whnf
          refine s_R_digit (by omega) (by omega) ?_
          conv => whnf
          refine s_R_digit (by omega) (by omega) ?_
          rw [codW_dig h8 n _ (by omega), codW_dig h8 n _ (by omega)]
          conv => whnf
          rw [nI_leI (by omega) (by omega)]
          refine ⟨fun q => ?_, fun q => ?_⟩
          · rw [if_neg (by omega)] at ih2
            conv => whnf
            refine hKz _ _ _ _ ?_
            rw [nI_add, nI_1']
            exact ih2
          · rw [if_pos (by omega)] at ih2
            conv => whnf
            refine hKz _ _ _ _ ?_
            rw [nI_add, nI_1']
            exact ih2
      refine z_run (cuts := cu_R_numberOf) ok_R_numberOf (fun Kz hKz => ?_)
      conv => whnf
      rw [nI_leI (by omega) (by omega)]
      refine ⟨fun q => absurd q (by omega), fun _ => ?_⟩
      conv => whnf
      refine hKz _ _ _ _ ?_
      rw [nI_1']
      exact inner 0 (Nat.zero_le _)
  refine go_R_numberOf (fun Kz hKz => ?_)
  conv => whnf
  refine hKz _ _ _ _ ?_
  exact outer 0 (Nat.zero_le _)
theorem s_R_behind {m x : Nat} {A : ZP} {w : List Nat} (hm : m < 6) (hA : isRM M m A) (hw : wv w A.1) (hx : x < A.1) (hZ : Z (some (zi (nI (codW (w.map (A.2.1 x)) A.1)))) M) : Ctr 0 G mi_R_behind [zr 20 0, zi (nI m), zi (nI (codW w A.1)), zi (nI x)] M Z := by
  have hn := hA.1.1
  have h8 := wv_lt hw hn
  have hc := codW_lt h8 A.1
  have hp8 := p8_le hn
  have lp : ∀ i, i ≤ A.1 → V 0 G mi_R_behind Z 6 [(0, zr 20 0), (1, zi (nI m)), (2, zi (nI (codW w A.1))), (3, zi (nI x)), (4, zi (nI (codW (w.map (A.2.1 x)) i))), (5, zi (nI i))] [] M := by
    refine up_to ?_ ?_
    · refine z_run (cuts := cu_R_behind) ok_R_behind (fun Kz hKz => ?_)
      conv => whnf
      refine ⟨vp_in_nI hm (by decide), ?_⟩
      conv => whnf
      rw [nI_clamp (by omega), hA.2.1, nI_leI (by omega) (by omega)]
      refine ⟨fun _ => ?_, fun q => absurd (by omega) q⟩
      conv => whnf
      exact hZ
    · intro i hi ih
      have e : gw (w.map (A.2.1 x)) i = A.2.1 x (gw w i) := map_gw hw.1 hi
      have e3 : codW (w.map (A.2.1 x)) (i + 1) = codW (w.map (A.2.1 x)) i ||| gw (w.map (A.2.1 x)) i * 8 ^ i := rfl
      rw [e3, e] at ih
      refine z_run (cuts := cu_R_behind) ok_R_behind (fun Kz hKz => ?_)
      conv => whnf
      refine ⟨vp_in_nI hm (by decide), ?_⟩
      conv => whnf
      rw [nI_clamp (by omega), hA.2.1, nI_leI (by omega) (by omega)]
      refine ⟨fun q => absurd q (by omega), fun _ => ?_⟩
      conv => whnf
      refine s_R_digit (by omega) (by omega) ?_
      rw [codW_dig h8 A.1 i hi]
      conv => whnf
      refine s_R_l hm hA hx (hw.2 i hi) ?_
      conv => whnf
      refine hKz _ _ _ _ ?_
      rw [pk_mul, n_shl _ _ (by omega), n_or, nI_1', Nat.pow_mul]
      exact ih
  refine go_R_behind (fun Kz hKz => ?_)
  conv => whnf
  refine hKz _ _ _ _ ?_
  exact lp 0 (Nat.zero_le _)
theorem s_R_groupSize {m : Nat} {A : ZP} (hm : m < 6) (hA : isRM M m A) (h0 : 0 < A.1) (h1 : ¬ plnd A → Z (some (zi (-1))) M) (h2 : plnd A → ∀ L, isGen A L → ∀ M', rf seF M M' → Z (some (zi (nI L.length))) M') : Ctr 0 G mi_R_groupSize [zr 20 0, zi (nI m)] M Z := by
  have hn := hA.1.1
  have hdf := df_le A.1 hn
  have num_lt : ∀ w, num A.1 w < 720 := fun w => Nat.lt_of_lt_of_le (lm_lt (gw w) A.1 A.1 (Nat.le_refl _)) hdf
  have cntL : ∀ L, grp A L → L.length ≤ 720 := fun L h => Nat.le_trans (wp_count hn h.2.1 h.1) hdf
  refine go_R_groupSize (fun Kz hKz => ?_)
  conv => whnf
  refine ⟨vp_in_nI hm (by decide), ?_⟩
  conv => whnf
  rw [nI_clamp (by omega), hA.2.1]
  refine s_R_isPlain (bl := true) hm hA (fun hl => ?_) (fun hl => ?_)
  · have hl : plnd A := hl
    have inner : ∀ i, i < 720 → (∀ L M', rf seF M M' → gsr M' A.1 L → grp A L → i + 1 ≤ L.length → gcl A L (i + 1) → V 0 G mi_R_groupSize Z 77 [(0, zr 20 0), (1, zi (nI m)), (2, zi (nI A.1)), (3, zi (nI L.length)), (4, zi (nI (i + 1)))] [] M') → ∀ y, y ≤ A.1 → ∀ L M' w, rf seF M M' → gsr M' A.1 L → grp A L → gcl A L i → L[i]? = some w → (∀ x, x < y → w.map (A.2.1 x) ∈ L) → V 0 G mi_R_groupSize Z 86 [(0, zr 20 0), (1, zi (nI m)), (2, zi (nI A.1)), (3, zi (nI L.length)), (4, zi (nI i)), (5, zi (nI y))] [] M' := by
      intro i hi nxt
      refine up_to ?_ ?_
      · intro L M' w g1 g2 g3 g4 g5 g6
        have hil := (List.getElem?_eq_some_iff.mp g5).1
        refine z_run (cuts := cu_R_groupSize) ok_R_groupSize (fun Kz hKz => ?_)
        conv => whnf
        rw [nI_leI (by omega) (by omega)]
        refine ⟨fun _ => ?_, fun q => absurd (by omega) q⟩
        conv => whnf
        refine hKz _ _ _ _ ?_
        rw [nI_1']
        refine nxt L M' g1 g2 g3 hil (fun j v hj hv x hx => ?_)
        rcases fin_cases_eq hj with z | z
        · exact g4 j v z hv x hx
        · rw [z, g5] at hv
          rw [← Option.some.inj hv]
          exact g6 x hx
      · intro y hy ih L M' w g1 g2 g3 g4 g5 g6
        have hil := (List.getElem?_eq_some_iff.mp g5).1
        have hw : w ∈ L := List.mem_of_getElem? g5
        have hwp := g3.2.1 w hw
        have hwn := wp_next hA.1 hl hwp hy
        have hA' := isRM_se hA g1
        have hlc := cntL L g3
        have hnl := num_lt (w.map (A.2.1 y))
        refine z_run (cuts := cu_R_groupSize) ok_R_groupSize (fun Kz hKz => ?_)
        conv => whnf
        rw [nI_leI (by omega) (by omega)]
        refine ⟨fun q => absurd q (by omega), fun _ => ?_⟩
        conv => whnf
        refine ⟨vp_in_nI (by omega) (by decide), ?_⟩
        conv => whnf
        rw [nI_clamp (by omega), g2.1 i w g5]
        refine s_R_behind hm hA' hwp.1 hy ?_
        conv => whnf
        refine s_R_numberOf hn hwn.1 ?_
        conv => whnf
        refine ⟨vp_in_nI hnl (by decide), ?_⟩
        conv => whnf
        rw [nI_clamp (by omega)]
        by_cases hin : w.map (A.2.1 y) ∈ L
        · rw [(g2.2 _ hnl).1 ⟨_, hin, rfl⟩]
          first | refine ⟨fun _ => ?_, fun q => absurd (by decide) q⟩ | refine ⟨fun q => absurd q (by decide), fun _ => ?_⟩
          conv => whnf
          refine hKz _ _ _ _ ?_
          rw [nI_1']
          refine ih L M' w g1 g2 g3 g4 g5 (fun x hx => ?_)
          rcases fin_cases_eq hx with z | z
          · exact g6 x z
          · rw [z]; exact hin
        · rw [(g2.2 _ hnl).2 (fun hex => by
            obtain ⟨v, v1, v2⟩ := hex
            exact hin (by rw [← wp_lm hn (g3.2.1 v v1) hwn v2]; exact v1))]
          have g3' := grp_add hA.1 hl g3 hw hy hin
          have hlc2 := cntL _ g3'
          have el : (L ++ [w.map (A.2.1 y)]).length = L.length + 1 := by rw [List.length_append]; rfl
          rw [el] at hlc2
          first | refine ⟨fun _ => ?_, fun q => absurd (by decide) q⟩ | refine ⟨fun q => absurd q (by decide), fun _ => ?_⟩
          conv => whnf
          refine s_R_numberOf hn hwn.1 ?_
          conv => whnf
          refine ⟨Or.inr rfl, vp_in_nI hnl (by decide), ?_⟩
          conv => whnf
          rw [nI_clamp (by omega)]
          refine ⟨vp_in_nI (by omega) (by decide), ?_⟩
          conv => whnf
          refine hKz _ _ _ _ ?_
          rw [nI_clamp (by omega), nI_1', nI_1', ← el]
          refine ih _ _ w (rf_trans (rf_trans g1 (rf_set (Or.inr (Or.inl rfl)))) (rf_set (Or.inr (Or.inr rfl)))) (gsr_add g2) g3' (gcl_snoc g4 (by omega)) (by rw [List.getElem?_append_left hil]; exact g5) (fun x hx => ?_)
          rcases fin_cases_eq hx with z | z
          · exact List.mem_append_left _ (g6 x z)
          · rw [z]; exact List.mem_append_right _ (List.mem_singleton.mpr rfl)
    have lp : ∀ i, i ≤ 720 → ∀ L M', rf seF M M' → gsr M' A.1 L → grp A L → i ≤ L.length → gcl A L i → V 0 G mi_R_groupSize Z 77 [(0, zr 20 0), (1, zi (nI m)), (2, zi (nI A.1)), (3, zi (nI L.length)), (4, zi (nI i))] [] M' := by
      refine up_to ?_ ?_
      · intro L M' g1 g2 g3 g4 g5
        have hlc := cntL L g3
        have e : L.length = 720 := by omega
        refine z_run (cuts := cu_R_groupSize) ok_R_groupSize (fun Kz hKz => ?_)
        conv => whnf
        rw [nI_leI (by omega) (by omega)]
        refine ⟨fun _ => ?_, fun q => absurd (by omega) q⟩
        conv => whnf
        exact h2 hl L (grp_gen g3 (by rw [e]; exact g5)) M' g1
      · intro i hi ih L M' g1 g2 g3 g4 g5
        have hlc := cntL L g3
        refine z_run (cuts := cu_R_groupSize) ok_R_groupSize (fun Kz hKz => ?_)
        conv => whnf
        rw [nI_leI (by omega) (by omega)]
        refine ⟨fun q => ?_, fun q => ?_⟩
        · have e : L.length = i := by omega
          conv => whnf
          exact h2 hl L (grp_gen g3 (by rw [e]; exact g5)) M' g1
        · conv => whnf
          refine hKz _ _ _ _ ?_
          obtain ⟨w, hw⟩ : ∃ w, L[i]? = some w := ⟨L[i]'(by omega), List.getElem?_eq_getElem (by omega)⟩
          exact inner i hi ih 0 (Nat.zero_le _) L M' w g1 g2 g3 g5 hw (fun x hx => absurd hx (Nat.not_lt_zero _))
    have clr : ∀ k, k ≤ 720 → ∀ M', rf seF M M' → (∀ q, q < k → M'.1 28 0 q = nI 0) → V 0 G mi_R_groupSize Z 20 [(0, zr 20 0), (1, zi (nI m)), (2, zi (nI A.1)), (3, zi (nI k))] [] M' := by
      refine up_to ?_ ?_
      · intro M' g1 g2
        have hid := wp_id A.1
        have hnl := num_lt (List.range A.1)
        refine z_run (cuts := cu_R_groupSize) ok_R_groupSize (fun Kz hKz => ?_)
        conv => whnf
        first | refine ⟨fun _ => ?_, fun q => absurd (by decide) q⟩ | refine ⟨fun q => absurd q (by decide), fun _ => ?_⟩
        conv => whnf
        refine s_R_firstName hn (fun M1 r1 r2 => ?_)
        conv => whnf
        refine s_R_nameCode hn r2 hid.1 ?_
        conv => whnf
        refine ⟨vp_in_nI (by decide) (by decide), ?_⟩
        conv => whnf
        rw [nI_clamp (by omega)]
        refine ⟨vp_in_nI (by decide) (by decide), ?_⟩
        conv => whnf
        rw [zset_eq]
        refine s_R_numberOf hn hid.1 ?_
        conv => whnf
        refine ⟨Or.inr rfl, vp_in_nI hnl (by decide), ?_⟩
        conv => whnf
        refine hKz _ _ _ _ ?_
        rw [nI_clamp (by omega)]
        refine lp 0 (Nat.zero_le _) [List.range A.1] _ (rf_trans (rf_trans (rf_trans g1 (rf_mono r1 fun a c q => Or.inl q)) (rf_set (Or.inr (Or.inr rfl)))) (rf_set (Or.inr (Or.inl rfl)))) ⟨fun i w hw => ?_, fun q hq => ⟨fun hex => ?_, fun hno => ?_⟩⟩ (grp_one A) (Nat.zero_le _) (fun j w hj => absurd hj (Nat.not_lt_zero _))
        · rcases Nat.lt_or_ge i 1 with z | z
          · have z : i = 0 := by omega
            rw [z] at hw ⊢
            rw [zset_ne (by omega), zset_eq]
            rw [← Option.some.inj (show some (List.range A.1) = some w from hw)]
          · rw [List.getElem?_eq_none (by simpa using z)] at hw; cases hw
        · obtain ⟨w, w1, w2⟩ := hex
          rw [List.mem_singleton.mp w1] at w2
          rw [← w2, zset_eq]
        · have e : q ≠ num A.1 (List.range A.1) := fun e => hno ⟨_, List.mem_singleton.mpr rfl, e.symm⟩
          rw [zset_ne (by omega), zset_ne (by omega), r1.2 28 0 q (fun q => absurd (show (28 : Nat) = 24 from q.2) (by decide))]
          exact g2 q hq
      · intro k hk ih M' g1 g2
        refine z_run (cuts := cu_R_groupSize) ok_R_groupSize (fun Kz hKz => ?_)
        conv => whnf
        rw [nI_leI (by omega) (by omega)]
        refine ⟨fun q => absurd q (by omega), fun _ => ?_⟩
        conv => whnf
        refine ⟨Or.inl rfl, vp_in_nI hk (by decide), ?_⟩
        conv => whnf
        refine hKz _ _ _ _ ?_
        rw [nI_clamp (by omega), nI_1']
        refine ih _ (rf_trans g1 (rf_set (Or.inr (Or.inl rfl)))) (fun q hq => ?_)
        rcases fin_cases_eq hq with z | z
        · rw [zset_ne (by omega)]; exact g2 q z
        · rw [z]; exact zset_eq
    conv => whnf
    first | refine ⟨fun _ => ?_, fun q => absurd (by decide) q⟩ | refine ⟨fun q => absurd q (by decide), fun _ => ?_⟩
    conv => whnf
    refine hKz _ _ _ _ ?_
    exact clr 0 (Nat.zero_le _) M (rf_refl _ _) (fun q hq => absurd hq (Nat.not_lt_zero _))
  · conv => whnf
    first | refine ⟨fun _ => ?_, fun q => absurd (by decide) q⟩ | refine ⟨fun q => absurd q (by decide), fun _ => ?_⟩
    conv => whnf
    exact h1 hl
end
