/-! the law: one more map is made -/
theorem n_and3 (v : Int32) : ∃ t, t < 4 ∧ v &&& nI 3 = nI t := by
  obtain ⟨a, ha, rfl⟩ := n_of v
  exact ⟨a % 2 ^ 2, Nat.mod_lt _ (by decide), by rw [n_and, show (3 : Nat) = 2 ^ 2 - 1 from rfl, Nat.and_two_pow_sub_one_eq_mod]⟩
def mvl (kind n : Nat) : Nat := if kind = 1 then 4 else if kind = 2 then 6 else if kind = 3 then (if n < 2 then 2 else n) else n
theorem mvl_G {kind n : Nat} (hk : kind < 3) (h1 : 1 ≤ n) (h6 : n ≤ 6) : isG kind (mvl kind n) := by
  unfold mvl isG
  obtain rfl | rfl | rfl : kind = 0 ∨ kind = 1 ∨ kind = 2 := by omega
  · exact Or.inl ⟨rfl, h1, h6⟩
  · exact Or.inr (Or.inl ⟨rfl, rfl⟩)
  · exact Or.inr (Or.inr ⟨rfl, rfl⟩)
theorem mvl_le {kind n : Nat} (h1 : 1 ≤ n) (h6 : n ≤ 6) : 1 ≤ mvl kind n ∧ mvl kind n ≤ 6 ∧ (kind = 3 → 2 ≤ mvl kind n) := by
  unfold mvl
  split
  · omega
  · split
    · omega
    · split
      · split <;> omega
      · omega
section
variable {G : ZG} {M : ZM} {Z : Option ZV → ZM → Prop} {S : ZS}
theorem o_tail0 {to : Nat} {d : Int32} (hC : CS M S) (hL : LH M S) (h0 : M.2 20 0 32 = lN 0) (hZ : ∀ S' M', CS M' S' → LH M' S' → Z (some (zi (nI 1))) M') : V 0 G mi_LW_one Z 904 [(1, zr 20 0), (6, zi (nI to)), (11, zi d), (12, zi d)] [] M := by
  refine z_run (cuts := []) ok_LW_one_8 (fun Kz hKz => ?_)
  conv => whnf
  refine ⟨vp_in_nI (by decide) (by decide), ?_⟩
  conv => whnf
  rw [nI_clamp (by decide), h0, lg_le0, l_lt (by decide) (by decide)]
  refine ⟨fun _ => ?_, fun z => absurd (by decide) z⟩
  conv => whnf
  refine ⟨fun z => absurd rfl z, fun _ => ?_⟩
  conv => whnf
  exact ⟨Or.inr rfl, hZ S M hC hL⟩
theorem o_tail1 {to : Nat} {d : Int32} {B : ZP} (hto : to < 4) (hC : CS M (upS S to B)) (hL : LH M S) (hB : isH M 4 B) (h0 : 0 < B.1) (hZ : ∀ S' M', CS M' S' → LH M' S' → Z (some (zi (nI 1))) M') : V 0 G mi_LW_one Z 904 [(1, zr 20 0), (6, zi (nI to)), (11, zi d), (12, zi d)] [] M := by
  have hn := hB.1.1
  have h32 : M.2 20 0 32 = lN B.1 := hB.2.1
  refine z_run (cuts := []) ok_LW_one_8 (fun Kz hKz => ?_)
  conv => whnf
  refine ⟨vp_in_nI (by decide) (by decide), ?_⟩
  conv => whnf
  rw [nI_clamp (by decide), h32, lg_le0, l_lt (by decide) (by omega)]
  refine ⟨fun z => absurd h0 z, fun _ => ?_⟩
  conv => whnf
  refine h_copies hto hB hL (fun M2 g1 g2 => ?_)
  conv => whnf
  refine ⟨fun z => absurd rfl z, fun _ => ?_⟩
  conv => whnf
  exact ⟨Or.inr rfl, hZ _ M2 (CS_hfr hC g1) g2⟩
theorem o_make {x y : Int32} {what to n : Nat} (hto : to < 4) (h1 : 1 ≤ n) (h6 : n ≤ 6) (hw : what < 2) (hC : CS M S) (hL : LH M S) (h0 : M.2 20 0 32 = lN 0) (hZ : ∀ S' M', CS M' S' → LH M' S' → Z (some (zi (nI 1))) M') : V 0 G mi_LW_one Z 70 [(0, zr 5 0), (1, zr 20 0), (2, zi x), (3, zi y), (5, zi (nI what)), (6, zi (nI to)), (9, zi (nI n))] [] M := by
  have at190 : ∀ kind m u, kind < 3 → ∀ M', isG kind m → CS M' S → LH M' S → isH M' 4 (pgrp kind m) → V 0 G mi_LW_one Z 190 [(0, zr 5 0), (1, zr 20 0), (6, zi (nI to)), (11, zi (nI m)), (13, zi (nI kind)), (14, zi (nI m)), (15, zi u)] [] M' := by
    intro kind m u hk M' hG hC hL hB
    have hm := isG_le hG
    refine z_run (cuts := [(904, [1, 6, 11, 12])]) ok_LW_one_1 (fun Kz hKz => ?_)
    conv => whnf
    rw [n_ne (by omega) (by decide)]
    refine ⟨fun _ => ?_, fun q => absurd (show kind ≠ 3 by omega) q⟩
    conv => whnf
    refine c_group (by omega) (by omega) (by omega) hC (fun z => absurd hto z) (fun _ z => absurd hG z) (fun _ _ M2 g1 g2 => ?_)
    conv => whnf
    refine hKz _ _ _ _ ?_
    exact o_tail1 hto g1 (LH_csm hL g2) (isH_eq hB (g2 20 0 (by decide)).2) (show 0 < m by omega) hZ
  have at190b : ∀ m u, 2 ≤ m → m ≤ 6 → areU m u → bra m u → ∀ M', CS M' S → LH M' S → isH M' 4 (pbra m u) → V 0 G mi_LW_one Z 190 [(0, zr 5 0), (1, zr 20 0), (6, zi (nI to)), (11, zi (nI m)), (13, zi (nI 3)), (14, zi (nI m)), (15, zi (nI u))] [] M' := by
    intro m u m2 m6 hU hb M' hC hL hB
    have h8 := p8_le m6
    have hu : u < 2 ^ 32 := by have := hU.1; omega
    refine z_run (cuts := [(904, [1, 6, 11, 12])]) ok_LW_one_1 (fun Kz hKz => ?_)
    conv => whnf
    refine ⟨fun q => absurd rfl q, fun _ => ?_⟩
    conv => whnf
    refine c_brace (by omega) (by omega) hu hC (fun z => absurd hto z) (fun _ z => absurd ⟨m2, m6, hU⟩ z) (fun _ _ _ _ z => absurd hb z) (fun _ _ _ _ _ M2 g1 g2 => ?_)
    conv => whnf
    refine hKz _ _ _ _ ?_
    exact o_tail1 hto g1 (LH_csm hL g2) (isH_eq hB (g2 20 0 (by decide)).2) (show 0 < m by omega) hZ
  have at190n : ∀ m u, 2 ≤ m → m ≤ 6 → areU m u → ¬ bra m u → V 0 G mi_LW_one Z 190 [(0, zr 5 0), (1, zr 20 0), (6, zi (nI to)), (11, zi (-1000003)), (13, zi (nI 3)), (14, zi (nI m)), (15, zi (nI u))] [] M := by
    intro m u m2 m6 hU hb
    have h8 := p8_le m6
    have hu : u < 2 ^ 32 := by have := hU.1; omega
    refine z_run (cuts := [(904, [1, 6, 11, 12])]) ok_LW_one_1 (fun Kz hKz => ?_)
    conv => whnf
    refine ⟨fun q => absurd rfl q, fun _ => ?_⟩
    conv => whnf
    refine c_brace (by omega) (by omega) hu hC (fun z => absurd hto z) (fun _ z => absurd ⟨m2, m6, hU⟩ z) (fun _ _ _ _ _ => ?_) (fun _ _ _ _ z => absurd z hb)
    conv => whnf
    refine hKz _ _ _ _ ?_
    exact o_tail0 hC hL h0 hZ
  have at130 : ∀ kind, kind ≤ 3 → V 0 G mi_LW_one Z 130 [(0, zr 5 0), (1, zr 20 0), (3, zi y), (6, zi (nI to)), (13, zi (nI kind)), (14, zi (nI (mvl kind n)))] [] M := by
    intro kind hk
    have hm := mvl_le (kind := kind) h1 h6
    refine z_run (cuts := [(190, [0, 1, 6, 11, 13, 14, 15])]) ok_LW_one_1 (fun Kz hKz => ?_)
    conv => whnf
    refine h_units hm.1 hm.2.1 (fun u hu1 hu2 => ?_)
    conv => whnf
    rw [nI_ltI (by omega) (by decide)]
    refine ⟨fun q => ?_, fun q => ?_⟩
    · have hG := mvl_G q h1 h6
      generalize mvl kind n = m at *
      conv => whnf
      first | refine ⟨fun _ => ?_, fun q => absurd (by decide) q⟩ | refine ⟨fun q => absurd q (by decide), fun _ => ?_⟩
      conv => whnf
      refine h_makesG hG hL (fun M2 g1 g2 g3 => ?_)
      conv => whnf
      first | refine ⟨fun _ => ?_, fun q => absurd (by decide) q⟩ | refine ⟨fun q => absurd q (by decide), fun _ => ?_⟩
      conv => whnf
      refine hKz _ _ _ _ ?_
      exact at190 kind m _ q M2 hG (CS_hfr hC g1) g2 g3
    · have e3 : kind = 3 := by omega
      subst e3
      have m2 := hm.2.2 rfl
      have hU := hu2 m2
      generalize mvl 3 n = m at *
      conv => whnf
      refine h_isBrace m2 hm.2.1 hU (fun hb => ?_) (fun hb => ?_)
      · conv => whnf
        first | refine ⟨fun _ => ?_, fun q => absurd (by decide) q⟩ | refine ⟨fun q => absurd q (by decide), fun _ => ?_⟩
        conv => whnf
        first | refine ⟨fun _ => ?_, fun q => absurd (by decide) q⟩ | refine ⟨fun q => absurd q (by decide), fun _ => ?_⟩
        conv => whnf
        refine h_makesB m2 hm.2.1 hU hL (fun M2 g1 g2 g3 => ?_)
        conv => whnf
        first | refine ⟨fun _ => ?_, fun q => absurd (by decide) q⟩ | refine ⟨fun q => absurd q (by decide), fun _ => ?_⟩
        conv => whnf
        refine hKz _ _ _ _ ?_
        exact at190b m u m2 hm.2.1 hU hb M2 (CS_hfr hC g1) g2 g3
      · conv => whnf
        first | refine ⟨fun _ => ?_, fun q => absurd (by decide) q⟩ | refine ⟨fun q => absurd q (by decide), fun _ => ?_⟩
        conv => whnf
        first | refine ⟨fun _ => ?_, fun q => absurd (by decide) q⟩ | refine ⟨fun q => absurd q (by decide), fun _ => ?_⟩
        conv => whnf
        first | refine ⟨fun _ => ?_, fun q => absurd (by decide) q⟩ | refine ⟨fun q => absurd q (by decide), fun _ => ?_⟩
        conv => whnf
        refine hKz _ _ _ _ ?_
        exact at190n m u m2 hm.2.1 hU hb
  have at89 : ∀ kind, kind ≤ 3 → V 0 G mi_LW_one Z 89 [(0, zr 5 0), (1, zr 20 0), (3, zi y), (6, zi (nI to)), (9, zi (nI n)), (13, zi (nI kind))] [] M := by
    intro kind hk
    have h := at130 kind hk
    refine z_run (cuts := [(130, [0, 1, 3, 6, 13, 14])]) ok_LW_one_1 (fun Kz hKz => ?_)
    conv => whnf
    rw [n_ne (by omega) (by decide)]
    refine ⟨fun q => ?_, fun q => ?_⟩
    · conv => whnf
      rw [n_ne (by omega) (by decide)]
      refine ⟨fun q2 => ?_, fun q2 => ?_⟩
      · conv => whnf
        rw [n_ne (by omega) (by decide)]
        refine ⟨fun q3 => ?_, fun q3 => ?_⟩
        · rw [mvl, if_neg q, if_neg q2, if_neg q3] at h
          conv => whnf
          refine hKz _ _ _ _ ?_
          exact h
        · have q3 := Classical.not_not.mp q3
          conv => whnf
          rw [nI_leI (by decide) (by omega)]
          refine ⟨fun q4 => ?_, fun q4 => ?_⟩
          · rw [mvl, if_neg q, if_neg q2, if_pos q3, if_neg (by omega)] at h
            conv => whnf
            refine hKz _ _ _ _ ?_
            exact h
          · rw [mvl, if_neg q, if_neg q2, if_pos q3, if_pos (by omega)] at h
            conv => whnf
            refine hKz _ _ _ _ ?_
            exact h
      · rw [mvl, if_neg q, if_pos (Classical.not_not.mp q2)] at h
        conv => whnf
        refine hKz _ _ _ _ ?_
        exact h
    · rw [mvl, if_pos (Classical.not_not.mp q)] at h
      conv => whnf
      refine hKz _ _ _ _ ?_
      exact h
  refine z_run (cuts := [(89, [0, 1, 3, 6, 9, 13])]) ok_LW_one_1 (fun Kz hKz => ?_)
  conv => whnf
  rw [n_ne (by omega) (by decide)]
  refine ⟨fun q => ?_, fun q => ?_⟩
  · conv => whnf
    refine h_low (by decide) (by decide) (fun r hr => ?_)
    conv => whnf
    refine hKz _ _ _ _ ?_
    exact at89 r (by omega)
  · conv => whnf
    refine hKz _ _ _ _ ?_
    exact at89 3 (Nat.le_refl _)
end
