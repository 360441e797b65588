/-! RowGroup: the group that the rows generate -/
def x6 (w : List Nat) : List Nat := w ++ (List.range 6).drop w.length
theorem x6_len {w : List Nat} (h : w.length ≤ 6) : (x6 w).length = 6 := by simp [x6]; omega
theorem gw_x6 {w : List Nat} (h : w.length ≤ 6) {y : Nat} (hy : y < 6) : gw (x6 w) y = if y < w.length then gw w y else y := by
  unfold gw x6
  by_cases q : y < w.length
  · rw [if_pos q, List.getD_eq_getElem?_getD, List.getD_eq_getElem?_getD, List.getElem?_append_left q]
  · rw [if_neg q, List.getD_eq_getElem?_getD, List.getElem?_append_right (by omega), List.getElem?_drop, List.getElem?_range (by omega)]
    show w.length + (y - w.length) = y
    omega
theorem gw_x6_lt {w : List Nat} {n : Nat} (h : wv w n) (h6 : n ≤ 6) : ∀ y, gw (x6 w) y < 8 := by
  intro y
  have hl : w.length ≤ 6 := by rw [h.1]; exact h6
  rcases Nat.lt_or_ge y 6 with q | q
  · rw [gw_x6 hl q]
    split
    · have := h.2 y (by rw [← h.1]; assumption); omega
    · omega
  · rw [gw_out (by rw [x6_len hl]; exact q)]; decide
theorem codW_add {w : List Nat} (h : ∀ x, gw w x < 8) (n : Nat) : codW w (n + 1) = codW w n + 8 ^ n * gw w n := by
  have h1 := codW_lt h n
  have e : (8 : Nat) ^ n = 2 ^ (3 * n) := by rw [Nat.pow_mul]
  rw [codW, e, Nat.mul_comm, Nat.or_comm, ← Nat.two_pow_add_eq_or_of_lt (by rw [← e]; exact h1), Nat.add_comm]
theorem codW_dig {w : List Nat} (h : ∀ x, gw w x < 8) : ∀ n i, i < n → codW w n / 8 ^ i % 8 = gw w i := by
  intro n
  induction n with
  | zero => intro i hi; exact absurd hi (Nat.not_lt_zero _)
  | succ n ih =>
    intro i hi
    rw [codW_add h]
    rcases Nat.lt_succ_iff_lt_or_eq.mp hi with hi | rfl
    · obtain ⟨k, rfl⟩ : ∃ k, n = i + 1 + k := ⟨n - i - 1, by omega⟩
      rw [← ih i hi, show (8 : Nat) ^ (i + 1 + k) * gw w (i + 1 + k) = 8 ^ i * (8 * (8 ^ k * gw w (i + 1 + k))) by rw [Nat.pow_add, Nat.pow_add, Nat.pow_one]; simp only [Nat.mul_assoc], Nat.add_comm, Nat.mul_add_div (Nat.pow_pos (by decide)), Nat.mul_add_mod]
    · rw [Nat.add_comm, Nat.mul_add_div (Nat.pow_pos (by decide)), Nat.div_eq_of_lt (codW_lt h i), Nat.add_zero, Nat.mod_eq_of_lt (h i)]
theorem codW_mod {w : List Nat} (h : ∀ x, gw w x < 8) (n : Nat) : codW w (n + 1) % 8 ^ n = codW w n := by
  rw [codW_add h, Nat.add_mul_mod_self_left, Nat.mod_eq_of_lt (codW_lt h n)]
def kn (w : List Nat) : Nat := codW (x6 w) 5
theorem kn_inj {w v : List Nat} {n : Nat} (h6 : n ≤ 6) (hw : wp w n) (hv : wp v n) (h : kn w = kn v) : w = v := by
  have lw : w.length ≤ 6 := by rw [hw.1.1]; exact h6
  have lv : v.length ≤ 6 := by rw [hv.1.1]; exact h6
  have e : ∀ i, i < 5 → i < n → gw w i = gw v i := by
    intro i hi hin
    have g1 := codW_dig (gw_x6_lt hw.1 h6) 5 i hi
    have g2 := codW_dig (gw_x6_lt hv.1 h6) 5 i hi
    unfold kn at h
    rw [h, g2, gw_x6 lw (by omega), gw_x6 lv (by omega), if_pos (by rw [hv.1.1]; exact hin), if_pos (by rw [hw.1.1]; exact hin)] at g1
    exact g1.symm
  refine gw_ext hw.1.1 hv.1.1 (fun i hi => ?_)
  rcases Nat.lt_or_ge i 5 with q | q
  · exact e i q hi
  · have hi5 : i = 5 := by omega
    subst hi5
    obtain ⟨p, hp, hpe⟩ := inj_surj hw.1.2 hw.2 (gw v 5) (hv.1.2 5 hi)
    rcases Nat.lt_or_ge p 5 with q2 | q2
    · have := hv.2 p 5 hp hi (by rw [← e p q2 hp, hpe])
      omega
    · rw [show p = 5 by omega] at hpe
      exact hpe
theorem kn_lt {w : List Nat} {n : Nat} (h : wv w n) (h6 : n ≤ 6) : kn w < 32768 := codW_lt (gw_x6_lt h h6) 5
theorem and_bit (m b : Nat) : m &&& 2 ^ b = 0 ↔ m.testBit b = false := by
  constructor
  · intro h
    have h2 := congrArg (fun x => x.testBit b) h
    simp only [Nat.testBit_and, Nat.testBit_two_pow, Nat.zero_testBit, decide_true, Bool.and_true] at h2
    exact h2
  · intro h
    apply Nat.eq_of_testBit_eq
    intro i
    rw [Nat.testBit_and, Nat.testBit_two_pow, Nat.zero_testBit]
    by_cases e : b = i
    · rw [← e, h, Bool.false_and]
    · rw [decide_eq_false e, Bool.and_false]
/-- nothing but RowGroup's cells has changed -/
def grs (M M' : ZM) : Prop := (∀ a b, ¬ ((a = 13 ∨ a = 14) ∧ b = 0) → M'.1 a b = M.1 a b) ∧ ∀ a b c, ¬ (a = 15 ∧ b = 0) → M'.2 a b c = M.2 a b c
theorem grs_refl (M : ZM) : grs M M := ⟨fun _ _ _ => rfl, fun _ _ _ _ => rfl⟩
theorem grs_trans {M M' M'' : ZM} (h : grs M M') (h' : grs M' M'') : grs M M'' := ⟨fun a b q => (h'.1 a b q).trans (h.1 a b q), fun a b c q => (h'.2 a b c q).trans (h.2 a b c q)⟩
theorem grs_set {a c : Nat} {v : Int32} {M : ZM} (h : a = 13 ∨ a = 14) : grs M (zset a 0 c v M) := ⟨fun x y q => by
  funext z
  simp only [zset]
  rw [if_neg (fun w => q ⟨by rw [w.1]; exact h, w.2.1⟩)], fun _ _ _ _ => rfl⟩
theorem grs_l {M M' : ZM} (h : zsl 15 M M') : grs M M' := ⟨fun a b _ => by rw [h.1], h.2⟩
theorem isPM_gr {M M' : ZM} {k : Nat} {A : ZP} (h : isPM M k A) (hs : grs M M') : isPM M' k A := isPM_eq h (hs.1 0 k (by omega)) (hs.1 1 k (by omega))
def gst (M : ZM) (L : List (List Nat)) : Prop := M.1 13 0 2 = nI L.length ∧ (∀ i w, L[i]? = some w → M.1 14 0 i = nI (codW (x6 w) 6)) ∧ ∀ q, q < 512 → ∃ m, m < 2 ^ 64 ∧ M.2 15 0 q = lN m ∧ ∀ b, b < 64 → (m.testBit b = true ↔ ∃ w, w ∈ L ∧ kn w = 64 * q + b)
section
variable {G : ZG} {M : ZM} {Z : Option ZV → ZM → Prop}
theorem s_RG_followedBy {k x : Nat} {A : ZP} {w : List Nat} (hk : k < 10) (hA : isPM M k A) (hw : wv w A.1) (hx : x < A.1) (hZ : Z (some (zi (nI (codW (x6 (w.map (A.2.1 x))) 6)))) M) : Ctr 0 G mi_RG_followedBy [zi (nI (codW (x6 w) 6)), zr 0 k, zi (nI x)] M Z := by
  have hn := hA.1.1
  have h8 := gw_x6_lt hw hn
  have hc := codW_lt h8 6
  have hl : w.length ≤ 6 := by rw [hw.1]; exact hn
  have hl2 : (w.map (A.2.1 x)).length ≤ 6 := by rw [List.length_map]; exact hl
  have lp : ∀ i, i ≤ 6 → V 0 G mi_RG_followedBy Z 11 [(0, zi (nI (codW (x6 w) 6))), (1, zr 0 k), (2, zi (nI x)), (3, zi (nI A.1)), (4, zi (nI (codW (x6 (w.map (A.2.1 x))) i))), (5, zi (nI i))] [] M := by
    refine up_to ?_ ?_
    · refine z_run (cuts := cu_RG_followedBy) ok_RG_followedBy (fun Kz hKz => ?_)
      conv => whnf
      first | refine ⟨fun _ => ?_, fun q => absurd (by decide) q⟩ | refine ⟨fun q => absurd q (by decide), fun _ => ?_⟩
      conv => whnf
      exact hZ
    · intro i hi ih
      have e := gw_x6 hl hi
      have e2 := gw_x6 hl2 hi
      rw [List.length_map] at e2
      refine z_run (cuts := cu_RG_followedBy) ok_RG_followedBy (fun Kz hKz => ?_)
      conv => whnf
      rw [nI_leI (by omega) (by omega)]
      refine ⟨fun q => absurd q (by omega), fun _ => ?_⟩
      conv => whnf
      refine s_CO_digit (by omega) (by omega) ?_
      rw [codW_dig h8 6 i hi]
      conv => whnf
      have h9 := h8 i
      rw [nI_leI (by omega) (by omega)]
      refine ⟨fun q => ?_, fun q => ?_⟩
      · have hin : ¬ i < w.length := by
          intro z
          rw [if_pos z] at e
          have := hw.2 i (by rw [← hw.1]; exact z)
          omega
        rw [if_neg hin] at e e2
        conv => whnf
        refine hKz _ _ _ _ ?_
        rw [e, pk_mul, n_shl _ _ (by omega), n_or, nI_1', Nat.pow_mul]
        have e3 : codW (x6 (w.map (A.2.1 x))) (i + 1) = codW (x6 (w.map (A.2.1 x))) i ||| gw (x6 (w.map (A.2.1 x))) i * 8 ^ i := rfl
        rw [e3, e2] at ih
        exact ih
      · have hin : i < w.length := by
          refine Classical.byContradiction fun z => q ?_
          rw [if_neg z] at e
          rw [e, ← hw.1]
          omega
        rw [if_pos hin] at e e2
        rw [gw_map hin] at e2
        conv => whnf
        refine ⟨hk, ?_⟩
        refine s_PM_left hk hA hx (by omega) ?_
        conv => whnf
        refine hKz _ _ _ _ ?_
        rw [e, pk_mul, n_shl _ _ (by omega), n_or, nI_1', Nat.pow_mul]
        have e3 : codW (x6 (w.map (A.2.1 x))) (i + 1) = codW (x6 (w.map (A.2.1 x))) i ||| gw (x6 (w.map (A.2.1 x))) i * 8 ^ i := rfl
        rw [e3, e2] at ih
        exact ih
  refine go_RG_followedBy (fun Kz hKz => ?_)
  conv => whnf
  refine ⟨hk, ?_⟩
  refine s_PM_points hk ?_
  rw [hA.2.1]
  conv => whnf
  refine hKz _ _ _ _ ?_
  exact lp 0 (Nat.zero_le _)
theorem s_RG_add {n : Nat} {w : List Nat} {L : List (List Nat)} (h6 : n ≤ 6) (hw : wp w n) (hL : gst M L) (hLp : ∀ v ∈ L, wp v n) (hN : L.Nodup) (h1 : w ∈ L → Z none M) (h2 : w ∉ L → ∀ M', grs M M' → gst M' (L ++ [w]) → Z none M') : Ctr 0 G mi_RG_add [zr 13 0, zi (nI (codW (x6 w) 6))] M Z := by
  have h8 := gw_x6_lt hw.1 h6
  have hc := codW_lt h8 6
  have hk5 : codW (x6 w) 6 % 2 ^ 15 = kn w := codW_mod h8 5
  have hk := kn_lt hw.1 h6
  have hcnt := Nat.le_trans (wp_count h6 hLp hN) (df_le n h6)
  have hq : kn w / 64 < 512 := by omega
  have hb : kn w % 64 < 64 := Nat.mod_lt _ (by decide)
  obtain ⟨m, hm, e1, e2⟩ := hL.2.2 (kn w / 64) hq
  have e3 := e2 (kn w % 64) hb
  rw [Nat.div_add_mod] at e3
  have hmem : m.testBit (kn w % 64) = true ↔ w ∈ L := by
    rw [e3]
    constructor
    · rintro ⟨v, hv, he⟩
      rw [← kn_inj h6 (hLp v hv) hw he]
      exact hv
    · intro q; exact ⟨w, q, rfl⟩
  refine go_RG_add (fun Kz hKz => ?_)
  conv => whnf
  rw [n_and, show (32767 : Nat) = 2 ^ 15 - 1 from rfl, Nat.and_two_pow_sub_one_eq_mod, hk5, n_shr 6 (by decide) (by omega), n_and, show (511 : Nat) = 2 ^ 9 - 1 from rfl, Nat.and_two_pow_sub_one_eq_mod, show (2 : Nat) ^ 6 = 64 from rfl, show (2 : Nat) ^ 9 = 512 from rfl, Nat.mod_eq_of_lt hq]
  refine ⟨vp_in_nI hq (by decide), ?_⟩
  conv => whnf
  rw [nI_clamp (by omega), e1, l_sh63 (by omega), l_shl _ _ hb, Nat.one_mul, l_and, lc_eq, l_eq (Nat.lt_of_le_of_lt Nat.and_le_left hm) (by decide), and_bit]
  refine ⟨fun q => ?_, fun q => ?_⟩
  · conv => whnf
    exact h1 (hmem.mp ((Bool.not_eq_false _).mp q))
  · have hno : w ∉ L := fun z => q (by rw [hmem.mpr z]; decide)
    have hcnt2 := wp_count h6 (L := L ++ [w]) (fun v hv => by
      rcases List.mem_append.mp hv with g | g
      · exact hLp v g
      · rw [List.mem_singleton.mp g]; exact hw) (List.nodup_append.mpr ⟨hN, by simp, fun a ha b hb e => hno (by rw [← List.mem_singleton.mp hb, ← e]; exact ha)⟩)
    have hd := df_le n h6
    rw [List.length_append] at hcnt2
    have hl1 : [w].length = 1 := rfl
    conv => whnf
    rw [hL.1]
    refine ⟨fun z => absurd (show nI L.length < nI 0 from z) (fun y => by have := (nI_ltI (by omega) (by decide)).mp y; omega), fun _ => ?_⟩
    conv => whnf
    rw [hL.1, nI_leI (by omega) (by omega)]
    refine ⟨fun z => absurd z (by omega), fun _ => ?_⟩
    conv => whnf
    refine ⟨vp_in_nI hq (by decide), ?_⟩
    conv => whnf
    refine ⟨vp_in_nI hq (by decide), ?_⟩
    conv => whnf
    rw [nI_clamp (by omega), e1, l_or]
    rw [show (zsetL 15 0 (kn w / 64) (lN (m ||| 2 ^ (kn w % 64))) M).1 = M.1 from rfl, hL.1]
    refine ⟨vp_in_nI (by omega) (by decide), ?_⟩
    conv => whnf
    rw [nI_clamp (by omega), zset_ne (by omega), show (zsetL 15 0 (kn w / 64) (lN (m ||| 2 ^ (kn w % 64))) M).1 = M.1 from rfl, hL.1, nI_1']
    refine h2 hno _ (grs_trans (grs_trans (grs_l zsl_set) (grs_set (Or.inr rfl))) (grs_set (Or.inl rfl))) ⟨?_, ?_, ?_⟩
    · rw [zset_eq, List.length_append, hl1]
    · intro i v hv
      rw [zset_ne (by omega)]
      rcases Nat.lt_or_ge i L.length with z | z
      · rw [List.getElem?_append_left z] at hv
        rw [zset_ne (by omega)]
        exact hL.2.1 i v hv
      · rw [List.getElem?_append_right z] at hv
        have hi : i = L.length := by
          rcases Nat.lt_or_ge (i - L.length) 1 with y | y
          · omega
          · rw [List.getElem?_eq_none (by simpa using y)] at hv; cases hv
        rw [hi] at hv ⊢
        rw [zset_eq]
        rw [Nat.sub_self] at hv
        rw [Option.some.inj hv]
    · intro p hp
      show ∃ m2, m2 < 2 ^ 64 ∧ (zsetL 15 0 (kn w / 64) (lN (m ||| 2 ^ (kn w % 64))) M).2 15 0 p = lN m2 ∧ _
      by_cases e : p = kn w / 64
      · subst e
        refine ⟨m ||| 2 ^ (kn w % 64), Nat.or_lt_two_pow hm (Nat.pow_lt_pow_right (by decide) hb), zsetL_eq, fun b hb2 => ?_⟩
        rw [Nat.testBit_or, Nat.testBit_two_pow, Bool.or_eq_true, e2 b hb2]
        constructor
        · rintro (⟨v, g1, g2⟩ | g)
          · exact ⟨v, List.mem_append_left _ g1, g2⟩
          · refine ⟨w, List.mem_append_right _ (List.mem_singleton.mpr rfl), ?_⟩
            have := of_decide_eq_true g
            omega
        · rintro ⟨v, g1, g2⟩
          rcases List.mem_append.mp g1 with g1 | g1
          · exact Or.inl ⟨v, g1, g2⟩
          · rw [List.mem_singleton.mp g1] at g2
            exact Or.inr (decide_eq_true (by omega))
      · obtain ⟨m2, g1, g2, g3⟩ := hL.2.2 p hp
        refine ⟨m2, g1, by rw [zsetL_ne (by omega)]; exact g2, fun b hb2 => ?_⟩
        rw [g3 b hb2]
        constructor
        · rintro ⟨v, y1, y2⟩
          exact ⟨v, List.mem_append_left _ y1, y2⟩
        · rintro ⟨v, y1, y2⟩
          rcases List.mem_append.mp y1 with y1 | y1
          · exact ⟨v, y1, y2⟩
          · rw [List.mem_singleton.mp y1] at y2
            omega
end
