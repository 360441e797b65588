/-! RowGroup.orderFor -/
def grp (A : ZP) (L : List (List Nat)) : Prop := L.Nodup ∧ (∀ w, w ∈ L → wp w A.1) ∧ List.range A.1 ∈ L ∧ ∀ P : List Nat → Prop, P (List.range A.1) → (∀ w, P w → ∀ x, x < A.1 → P (w.map (A.2.1 x))) → ∀ w, w ∈ L → P w
theorem nodup_snoc {L : List (List Nat)} {v : List Nat} (h : L.Nodup) (hv : v ∉ L) : (L ++ [v]).Nodup := List.nodup_append.mpr ⟨h, by simp, fun a ha b hb e => hv (by rw [← List.mem_singleton.mp hb, ← e]; exact ha)⟩
theorem grp_add {A : ZP} (hA : pwf A) (hl : plnd A) {L : List (List Nat)} (h : grp A L) {w : List Nat} (hw : w ∈ L) {x : Nat} (hx : x < A.1) (hno : w.map (A.2.1 x) ∉ L) : grp A (L ++ [w.map (A.2.1 x)]) := by
  refine ⟨nodup_snoc h.1 hno, fun v hv => ?_, List.mem_append_left _ h.2.2.1, fun P p1 p2 v hv => ?_⟩
  · rcases List.mem_append.mp hv with g | g
    · exact h.2.1 v g
    · rw [List.mem_singleton.mp g]; exact wp_next hA hl (h.2.1 w hw) hx
  · rcases List.mem_append.mp hv with g | g
    · exact h.2.2.2 P p1 p2 v g
    · rw [List.mem_singleton.mp g]; exact p2 w (h.2.2.2 P p1 p2 w hw) x hx
theorem grp_one (A : ZP) : grp A [List.range A.1] := ⟨by simp, fun w hw => by rw [List.mem_singleton.mp hw]; exact wp_id _, List.mem_singleton.mpr rfl, fun P p1 _ w hw => by rw [List.mem_singleton.mp hw]; exact p1⟩
/-- of the first i all that comes of them is there -/
def gcl (A : ZP) (L : List (List Nat)) (i : Nat) : Prop := ∀ j w, j < i → L[j]? = some w → ∀ x, x < A.1 → w.map (A.2.1 x) ∈ L
theorem grp_gen {A : ZP} {L : List (List Nat)} (h : grp A L) (hc : gcl A L L.length) : isGen A L := ⟨h.1, h.2.2.1, fun w hw x hx => by
  obtain ⟨j, hj⟩ := List.mem_iff_getElem?.mp hw
  exact hc j w (List.getElem?_eq_some_iff.mp hj).1 hj x hx, h.2.2.2⟩
theorem gcl_snoc {A : ZP} {L : List (List Nat)} {i : Nat} {v : List Nat} (h : gcl A L i) (hi : i ≤ L.length) : gcl A (L ++ [v]) i := fun j w hj hw x hx => by
  rw [List.getElem?_append_left (by omega)] at hw
  exact List.mem_append_left _ (h j w hj hw x hx)
section
variable {G : ZG} {M : ZM} {Z : Option ZV → ZM → Prop}
theorem id6 : ∀ n, n ≤ 6 → codW (x6 (List.range n)) 6 = 181896 := by decide
theorem s_RG_orderFor {k : Nat} {A : ZP} (hk : k < 10) (hA : isPM M k A) (h0 : ¬ plnd A → Z (some (zi (-1))) M) (h1 : plnd A → ∀ L, isGen A L → L.length ≤ 720 → ∀ M', grs M M' → Z (some (zi (nI L.length))) M') : Ctr 0 G mi_RG_orderFor [zr 13 0, zr 0 k] M Z := by
  have hn := hA.1.1
  have hdf := df_le A.1 hn
  refine go_RG_orderFor (fun Kz hKz => ?_)
  conv => whnf
  refine s_CH_isLeftNondegenerate hk hA (fun hl => ?_) (fun hl => ?_)
  · have cnt : ∀ L, grp A L → L.length ≤ 720 := fun L h => Nat.le_trans (wp_count hn h.2.1 h.1) hdf
    have inner : ∀ i, i < 720 → (∀ L M', grs M M' → gst M' L → grp A L → i + 1 ≤ L.length → gcl A L (i + 1) → V 0 G mi_RG_orderFor Z 30 [(0, zr 13 0), (1, zr 0 k), (2, zi (nI (i + 1)))] [] M') → ∀ y, y ≤ A.1 → ∀ L M' w, grs M M' → gst M' L → grp A L → gcl A L i → L[i]? = some w → (∀ x, x < y → w.map (A.2.1 x) ∈ L) → V 0 G mi_RG_orderFor Z 47 [(0, zr 13 0), (1, zr 0 k), (2, zi (nI i)), (3, zi (nI y))] [] M' := by
      intro i hi nxt
      refine up_to ?_ ?_
      · intro L M' w g1 g2 g3 g4 g5 g6
        have hil := (List.getElem?_eq_some_iff.mp g5).1
        refine z_run (cuts := cu_RG_orderFor) ok_RG_orderFor (fun Kz hKz => ?_)
        conv => whnf
        refine ⟨hk, ?_⟩
        refine s_PM_points hk ?_
        rw [(isPM_gr hA g1).2.1]
        conv => whnf
        rw [nI_leI (by omega) (by omega)]
        refine ⟨fun _ => ?_, fun q => absurd (Nat.le_refl _) q⟩
        conv => whnf
        refine hKz _ _ _ _ ?_
        rw [nI_1']
        refine nxt L M' g1 g2 g3 hil (fun j v hj hv x hx => ?_)
        rcases Nat.lt_succ_iff_lt_or_eq.mp hj with hj | rfl
        · exact g4 j v hj hv x hx
        · rw [g5] at hv
          rw [← Option.some.inj hv]
          exact g6 x hx
      · intro y hy ih L M' w g1 g2 g3 g4 g5 g6
        have hil := (List.getElem?_eq_some_iff.mp g5).1
        have hw : w ∈ L := List.mem_of_getElem? g5
        have hwp := g3.2.1 w hw
        have hA' := isPM_gr hA g1
        have hlc := cnt L g3
        refine z_run (cuts := cu_RG_orderFor) ok_RG_orderFor (fun Kz hKz => ?_)
        conv => whnf
        refine ⟨hk, ?_⟩
        refine s_PM_points hk ?_
        rw [hA'.2.1]
        conv => whnf
        rw [nI_leI (by omega) (by omega)]
        refine ⟨fun q => absurd q (by omega), fun _ => ?_⟩
        conv => whnf
        refine ⟨vp_in_nI hi (by decide), ?_⟩
        conv => whnf
        rw [nI_clamp (by omega), g2.2.1 i w g5]
        refine s_RG_followedBy hk hA' hwp.1 hy ?_
        conv => whnf
        refine s_RG_add hn (wp_next hA.1 hl hwp hy) g2 g3.2.1 g3.1 (fun hin => ?_) (fun hno M2 r1 r2 => ?_)
        · conv => whnf
          refine hKz _ _ _ _ ?_
          rw [nI_1']
          refine ih L M' w g1 g2 g3 g4 g5 (fun x hx => ?_)
          rcases Nat.lt_succ_iff_lt_or_eq.mp hx with hx | rfl
          · exact g6 x hx
          · exact hin
        · conv => whnf
          refine hKz _ _ _ _ ?_
          rw [nI_1']
          refine ih _ M2 w (grs_trans g1 r1) r2 (grp_add hA.1 hl g3 hw hy hno) (gcl_snoc g4 (by omega)) (by rw [List.getElem?_append_left hil]; exact g5) (fun x hx => ?_)
          rcases Nat.lt_succ_iff_lt_or_eq.mp hx with hx | rfl
          · exact List.mem_append_left _ (g6 x hx)
          · exact List.mem_append_right _ (List.mem_singleton.mpr rfl)
    have lp : ∀ i, i ≤ 720 → ∀ L M', grs M M' → gst M' L → grp A L → i ≤ L.length → gcl A L i → V 0 G mi_RG_orderFor Z 30 [(0, zr 13 0), (1, zr 0 k), (2, zi (nI i))] [] M' := by
      refine up_to ?_ ?_
      · intro L M' g1 g2 g3 g4 g5
        have hlc := cnt L g3
        have e : L.length = 720 := by omega
        refine z_run (cuts := cu_RG_orderFor) ok_RG_orderFor (fun Kz hKz => ?_)
        conv => whnf
        first | refine ⟨fun _ => ?_, fun q => absurd (by decide) q⟩ | refine ⟨fun q => absurd q (by decide), fun _ => ?_⟩
        conv => whnf
        rw [g2.1]
        exact h1 hl L (grp_gen g3 (by rw [e]; exact g5)) hlc M' g1
      · intro i hi ih L M' g1 g2 g3 g4 g5
        have hlc := cnt L g3
        refine z_run (cuts := cu_RG_orderFor) ok_RG_orderFor (fun Kz hKz => ?_)
        conv => whnf
        rw [nI_leI (by omega) (by omega)]
        refine ⟨fun q => absurd q (by omega), fun _ => ?_⟩
        conv => whnf
        rw [g2.1, nI_leI (by omega) (by omega)]
        refine ⟨fun q => ?_, fun q => ?_⟩
        · have e : L.length = i := by omega
          conv => whnf
          rw [g2.1]
          exact h1 hl L (grp_gen g3 (by rw [e]; exact g5)) hlc M' g1
        · conv => whnf
          refine hKz _ _ _ _ ?_
          obtain ⟨w, hw⟩ : ∃ w, L[i]? = some w := ⟨L[i]'(by omega), List.getElem?_eq_getElem (by omega)⟩
          exact inner i hi ih 0 (Nat.zero_le _) L M' w g1 g2 g3 g5 hw (fun x hx => absurd hx (Nat.not_lt_zero _))
    conv => whnf
    first | refine ⟨fun _ => ?_, fun q => absurd (by decide) q⟩ | refine ⟨fun q => absurd q (by decide), fun _ => ?_⟩
    conv => whnf
    refine s_JA_fill15 (fun M1 g1 g2 => ?_)
    conv => whnf
    have hst : gst (zset 13 0 2 (nI 0) M1) [] := ⟨zset_eq, fun i w h => (by cases h), fun q hq => ⟨0, by decide, g2 q hq, fun b _ => by rw [Nat.zero_testBit]; exact ⟨fun h => (by cases h), fun ⟨w, h, _⟩ => (by cases h)⟩⟩⟩
    rw [show nI 181896 = nI (codW (x6 (List.range A.1)) 6) by rw [id6 A.1 hn]]
    refine s_RG_add hn (wp_id A.1) hst (fun v hv => (by cases hv)) List.nodup_nil (fun h => by cases h) (fun _ M2 r1 r2 => ?_)
    conv => whnf
    refine hKz _ _ _ _ ?_
    exact lp 0 (Nat.zero_le _) [List.range A.1] M2 (grs_trans (grs_trans (grs_l g1) (grs_set (Or.inl rfl))) r1) r2 (grp_one A) (Nat.zero_le _) (fun j w hj => absurd hj (Nat.not_lt_zero _))
  · conv => whnf
    first | refine ⟨fun _ => ?_, fun q => absurd (by decide) q⟩ | refine ⟨fun q => absurd q (by decide), fun _ => ?_⟩
    conv => whnf
    exact h0 hl
end
