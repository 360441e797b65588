/-! the reference: braids on tuples -/
theorem fit_iff {A : ZP} {w : List (Nat × Bool)} {s : Nat} : fit A w s ↔ ∀ q, q ∈ w → q.1 + 2 ≤ s ∧ (q.2 = true → pinj A) := by
  constructor
  · exact fit_letter
  · intro h
    constructor
    · induction w with
      | nil => exact Nat.zero_le _
      | cons a w ih =>
        rw [bstr]
        exact Nat.max_le.mpr ⟨(h a (List.mem_cons_self ..)).1, ih fun q hq => h q (List.mem_cons_of_mem _ hq)⟩
    · intro hc
      obtain ⟨q, hq, hq2⟩ := List.any_eq_true.mp hc
      exact (h q hq).2 hq2
theorem isRB_t {M M' : ZM} {b : Nat} {w : List (Nat × Bool)} (h : isRB M b w) (hf : rf tF M M') : isRB M' b w := isRB_rf h hf (fun c q => absurd (show (36 : Nat) = 27 from q) (by decide)) (fun q => absurd (show (37 : Nat) = 27 from q) (by decide))
def sF (a _c : Nat) : Prop := a = 27 ∨ a = 34 ∨ a = 35
theorem sF_no : ∀ a c, sF a c → ¬ rst a c := fun a c h => by unfold sF at h; unfold rst; omega
theorem rsm_s {M M' : ZM} (h : rf sF M M') : rsm M M' := rsm_rf h (fun a c q => by unfold sF at q; omega)
theorem isRM_s {M M' : ZM} {k : Nat} {A : ZP} (h : isRM M k A) (hs : rf sF M M') : isRM M' k A := isRM_rf h hs (fun a c q z => by unfold sF at q; unfold rgm at z; omega)
theorem isRB_s {M M' : ZM} {b : Nat} {w : List (Nat × Bool)} (h : isRB M b w) (hf : rf sF M M') : isRB M' b w := isRB_rf h hf (fun c q => by unfold sF at q; omega) (fun q => by unfold sF at q; omega)
theorem tF_sF {M M' : ZM} (h : rf tF M M') : rf sF M M' := rf_mono h (fun a c q => Or.inl q)
/-- the number of the tuple that a braid leads tuple j to -/
noncomputable def stp (A : ZP) (w : List (Nat × Bool)) (s j : Nat) : Nat := tnn A.1 (brun A w (dgl A.1 s j)) s
theorem stp_is {A : ZP} (hA : pwf A) (h0 : 0 < A.1) {w : List (Nat × Bool)} {s j : Nat} (hf : fit A w s) : stp A w s j < A.1 ^ s ∧ dgl A.1 s (stp A w s j) = brun A w (dgl A.1 s j) := by
  have h := brun_vW hA w _ (fit_letter hf) (vW_dgl (A := A) (k := s) (j := j) h0)
  exact tnn_is h0 h.2 h.1
theorem letC_cap {q : Nat × Bool} (h : q.2 = true) : letC q = 65 + q.1 := if_pos h
theorem letC_low {q : Nat × Bool} (h : q.2 = false) : letC q = 97 + q.1 := if_neg (by rw [h]; decide)
section
variable {G : ZG} {M : ZM} {Z : Option ZV → ZM → Prop} {S : ZS}
theorem s_R_doesFit {m b s : Nat} {A : ZP} {w : List (Nat × Bool)} (hm : m < 6) (hb : b < 2) (hs : s ≤ 4) (hA : isRM M m A) (h0 : 0 < A.1) (hw : isRB M b w) (h1 : fit A w s → Z (some (zi (nI 1))) M) (h2 : ¬ fit A w s → Z (some (zi (nI 0))) M) : Ctr 0 G mi_R_doesFit [zr 20 0, zi (nI m), zi (nI b), zi (nI s)] M Z := by
  have hl := hw.1
  have lp : ∀ bi : Bool, (bi = true ↔ pinj A) → ∀ k, k ≤ w.length → ∀ c : Bool, (c = true ↔ ∀ i q, i < k → w[i]? = some q → q.1 + 2 ≤ s ∧ (q.2 = true → pinj A)) → V 0 G mi_R_doesFit Z 13 [(0, zr 20 0), (2, zi (nI b)), (3, zi (nI s)), (4, zi (b2i c)), (5, zi (b2i bi)), (6, zi (nI k))] [] M := by
    intro bi hbi
    refine up_to ?_ ?_
    · intro c hc
      have hiff : c = true ↔ fit A w s := by
        rw [hc, fit_iff]
        constructor
        · intro h q hq
          obtain ⟨i, hi⟩ := List.mem_iff_getElem?.mp hq
          exact h i q (List.getElem?_eq_some_iff.mp hi).1 hi
        · intro h i q _ hi
          exact h q (List.mem_of_getElem? hi)
      refine z_run (cuts := cu_R_doesFit) ok_R_doesFit (fun Kz hKz => ?_)
      conv => whnf
      refine ⟨vp_in_nI (by omega) (by decide), ?_⟩
      conv => whnf
      rw [nI_clamp (by omega), hw.2.1, nI_leI (by omega) (by omega)]
      refine ⟨fun _ => ?_, fun q => absurd (by omega) q⟩
      conv => whnf
      cases hc2 : c with
      | true => exact ⟨Or.inr rfl, h1 (hiff.mp hc2)⟩
      | false => exact ⟨Or.inl rfl, h2 (fun q => by rw [hiff.mpr q] at hc2; cases hc2)⟩
    · intro k hk ih c hc
      obtain ⟨q, hq⟩ : ∃ q, w[k]? = some q := ⟨w[k], List.getElem?_eq_getElem hk⟩
      have hr := hw.2.2 k q hq
      have nxt : ∀ d : Bool, (d = true ↔ (c = true ∧ (q.1 + 2 ≤ s ∧ (q.2 = true → pinj A)))) → (d = true ↔ ∀ i q, i < k + 1 → w[i]? = some q → q.1 + 2 ≤ s ∧ (q.2 = true → pinj A)) := by
        intro d hd
        rw [hd, hc]
        constructor
        · rintro ⟨q1, q2⟩ i q' hi hq'
          rcases fin_cases_eq hi with y | y
          · exact q1 i q' y hq'
          · rw [y, hq] at hq'
            rw [← Option.some.inj hq']
            exact q2
        · intro h
          exact ⟨fun i q' hi hq' => h i q' (by omega) hq', h k q (by omega) hq⟩
      refine z_run (cuts := cu_R_doesFit) ok_R_doesFit (fun Kz hKz => ?_)
      conv => whnf
      refine ⟨vp_in_nI (by omega) (by decide), ?_⟩
      conv => whnf
      rw [nI_clamp (by omega), hw.2.1, nI_leI (by omega) (by omega)]
      refine ⟨fun q => absurd q (by omega), fun _ => ?_⟩
      conv => whnf
      rw [pk_mul, nI_add]
      refine ⟨vp_in_nI (by omega) (by decide), ?_⟩
      conv => whnf
      rw [nI_clamp (by omega), hr.2]
      cases hcap : q.2 with
      | true =>
        rw [letC_cap hcap, nI_ltI (by omega) (by omega)]
        refine ⟨fun _ => ?_, fun z => absurd (by omega) z⟩
        conv => whnf
        cases hc2 : c with
        | false =>
          first | refine ⟨fun _ => ?_, fun q => absurd (by decide) q⟩ | refine ⟨fun q => absurd q (by decide), fun _ => ?_⟩
          conv => whnf
          refine hKz _ _ _ _ ?_
          rw [nI_1']
          exact ih false (nxt false (by rw [hc2]; simp))
        | true =>
          first | refine ⟨fun _ => ?_, fun q => absurd (by decide) q⟩ | refine ⟨fun q => absurd q (by decide), fun _ => ?_⟩
          conv => whnf
          rw [pk_sub (by omega), nI_add, nI_ltI (by omega) (by omega)]
          refine ⟨fun z => ?_, fun z => ?_⟩
          · conv => whnf
            refine hKz _ _ _ _ ?_
            rw [nI_1']
            exact ih false (nxt false ⟨fun y => (by cases y), fun y => absurd y.2.1 (by omega)⟩)
          · conv => whnf
            rw [nI_leI (by omega) (by omega)]
            refine ⟨fun y => absurd y (by omega), fun _ => ?_⟩
            conv => whnf
            cases hb2 : bi with
            | true =>
              rw [hb2] at ih
              first | refine ⟨fun _ => ?_, fun q => absurd (by decide) q⟩ | refine ⟨fun q => absurd q (by decide), fun _ => ?_⟩
              conv => whnf
              refine hKz _ _ _ _ ?_
              rw [nI_1']
              exact ih true (nxt true ⟨fun _ => ⟨hc2, by omega, fun _ => hbi.mp hb2⟩, fun _ => rfl⟩)
            | false =>
              rw [hb2] at ih
              first | refine ⟨fun _ => ?_, fun q => absurd (by decide) q⟩ | refine ⟨fun q => absurd q (by decide), fun _ => ?_⟩
              conv => whnf
              refine hKz _ _ _ _ ?_
              rw [nI_1']
              exact ih false (nxt false ⟨fun y => (by cases y), fun y => by have := hbi.mpr (y.2.2 hcap); rw [hb2] at this; exact this⟩)
      | false =>
        rw [letC_low hcap, nI_ltI (by omega) (by omega)]
        refine ⟨fun z => absurd z (by omega), fun _ => ?_⟩
        conv => whnf
        cases hc2 : c with
        | false =>
          first | refine ⟨fun _ => ?_, fun q => absurd (by decide) q⟩ | refine ⟨fun q => absurd q (by decide), fun _ => ?_⟩
          conv => whnf
          refine hKz _ _ _ _ ?_
          rw [nI_1']
          exact ih false (nxt false (by rw [hc2]; simp))
        | true =>
          first | refine ⟨fun _ => ?_, fun q => absurd (by decide) q⟩ | refine ⟨fun q => absurd q (by decide), fun _ => ?_⟩
          conv => whnf
          rw [pk_sub (by omega), nI_add, nI_ltI (by omega) (by omega)]
          refine ⟨fun z => ?_, fun z => ?_⟩
          · conv => whnf
            refine hKz _ _ _ _ ?_
            rw [nI_1']
            exact ih false (nxt false ⟨fun y => (by cases y), fun y => absurd y.2.1 (by omega)⟩)
          · conv => whnf
            rw [nI_leI (by omega) (by omega)]
            refine ⟨fun _ => ?_, fun y => absurd (by omega) y⟩
            conv => whnf
            refine hKz _ _ _ _ ?_
            rw [nI_1']
            exact ih true (nxt true ⟨fun _ => ⟨hc2, by omega, fun y => by rw [hcap] at y; cases y⟩, fun _ => rfl⟩)
  refine go_R_doesFit (fun Kz hKz => ?_)
  conv => whnf
  refine s_R_isBijective hm hA h0 (fun hi => ?_) (fun hi => ?_)
  · conv => whnf
    refine hKz _ _ _ _ ?_
    exact lp true ⟨fun _ => hi, fun _ => rfl⟩ 0 (Nat.zero_le _) true ⟨fun _ i q hi => absurd hi (Nat.not_lt_zero _), fun _ => rfl⟩
  · conv => whnf
    refine hKz _ _ _ _ ?_
    exact lp false ⟨fun z => (by cases z), fun z => absurd z hi⟩ 0 (Nat.zero_le _) true ⟨fun _ i q hi => absurd hi (Nat.not_lt_zero _), fun _ => rfl⟩
theorem s_R_goesThrough {m b s : Nat} {A : ZP} {w : List (Nat × Bool)} {u : List Nat} (hm : m < 6) (hb : b < 2) (hs : s ≤ 4) (hA : isRM M m A) (hw : isRB M b w) (hf : fit A w s) (hu : isT M u) (hv : vW A s u) (hZ : ∀ M', rf tF M M' → isT M' (brun A w u) → Z none M') : Ctr 0 G mi_R_goesThrough [zr 20 0, zi (nI m), zi (nI b)] M Z := by
  have hl := hw.1
  have hlet := fit_letter hf
  have lp : ∀ k, k ≤ w.length → ∀ M', rf tF M M' → isT M' (brun A (w.take k) u) → V 0 G mi_R_goesThrough Z 2 [(0, zr 20 0), (1, zi (nI m)), (2, zi (nI b)), (3, zi (nI k))] [] M' := by
    refine up_to ?_ ?_
    · intro M' g1 g2
      have hw' := isRB_t hw g1
      rw [List.take_length] at g2
      refine z_run (cuts := cu_R_goesThrough) ok_R_goesThrough (fun Kz hKz => ?_)
      conv => whnf
      refine ⟨vp_in_nI (by omega) (by decide), ?_⟩
      conv => whnf
      rw [nI_clamp (by omega), hw'.2.1, nI_leI (by omega) (by omega)]
      refine ⟨fun _ => ?_, fun q => absurd (by omega) q⟩
      conv => whnf
      exact hZ M' g1 g2
    · intro k hk ih M' g1 g2
      have hw' := isRB_t hw g1
      have hA' := isRM_t hA g1
      obtain ⟨q, hq⟩ : ∃ q, w[k]? = some q := ⟨w[k], List.getElem?_eq_getElem hk⟩
      have hr := hw'.2.2 k q hq
      have hlq := hlet q (List.mem_of_getElem? hq)
      have hvk : vW A s (brun A (w.take k) u) := brun_vW hA.1 _ _ (fun q hq => hlet q (List.mem_of_mem_take hq)) hv
      rw [brun_take hq] at ih
      unfold ltr at ih
      refine z_run (cuts := cu_R_goesThrough) ok_R_goesThrough (fun Kz hKz => ?_)
      conv => whnf
      refine ⟨vp_in_nI (by omega) (by decide), ?_⟩
      conv => whnf
      rw [nI_clamp (by omega), hw'.2.1, nI_leI (by omega) (by omega)]
      refine ⟨fun q => absurd q (by omega), fun _ => ?_⟩
      conv => whnf
      rw [pk_mul, nI_add]
      refine ⟨vp_in_nI (by omega) (by decide), ?_⟩
      conv => whnf
      rw [nI_clamp (by omega), hr.2]
      cases hcap : q.2 with
      | true =>
        rw [hcap, if_pos rfl] at ih
        rw [letC_cap hcap, nI_ltI (by omega) (by omega)]
        refine ⟨fun _ => ?_, fun z => absurd (by omega) z⟩
        conv => whnf
        rw [pk_sub (by omega), Nat.add_sub_cancel_left]
        refine s_R_goesBack hm hA' (hlq.2 hcap) g2 hvk.1 (by rw [hvk.2]; omega) (by rw [hvk.2]; exact hs) (fun M2 r1 r2 => ?_)
        conv => whnf
        refine hKz _ _ _ _ ?_
        rw [nI_1']
        exact ih M2 (rf_trans g1 r1) r2
      | false =>
        rw [hcap, if_neg (by decide)] at ih
        rw [letC_low hcap, nI_ltI (by omega) (by omega)]
        refine ⟨fun z => absurd z (by omega), fun _ => ?_⟩
        conv => whnf
        rw [pk_sub (by omega), Nat.add_sub_cancel_left]
        refine s_R_crosses hm hA' g2 hvk.1 (by rw [hvk.2]; omega) (by rw [hvk.2]; exact hs) (fun M2 r1 r2 => ?_)
        conv => whnf
        refine hKz _ _ _ _ ?_
        rw [nI_1']
        exact ih M2 (rf_trans g1 r1) r2
  refine go_R_goesThrough (fun Kz hKz => ?_)
  conv => whnf
  refine hKz _ _ _ _ ?_
  exact lp 0 (Nat.zero_le _) M (rf_refl _ _) hu
theorem s_R_refuses {a b s : Nat} (ha : a < 2 ^ 32) (hb : b < 2 ^ 32) (hs : s < 2 ^ 32) (hR : RS M S) (h1 : (plA S a).1 = 0 ∨ ¬ b < 2 → Z (some (zi (-1000001))) M) (h2 : ¬ (plA S a).1 = 0 → b < 2 → ¬ (2 ≤ s ∧ s ≤ 4) → Z (some (zi (-1000002))) M) (h3 : ¬ (plA S a).1 = 0 → b < 2 → 2 ≤ s → s ≤ 4 → ¬ fit (plA S a) (S.2 b) s → Z (some (zi (-1000003))) M) (h4 : ¬ (plA S a).1 = 0 → b < 2 → 2 ≤ s → s ≤ 4 → fit (plA S a) (S.2 b) s → Z (some (zi (nI 0))) M) : Ctr 0 G mi_R_refuses [zr 20 0, zi (nI a), zi (nI b), zi (nI s)] M Z := by
  refine go_R_refuses (fun Kz hKz => ?_)
  conv => whnf
  refine s_R_isMap ha hR (fun e => ?_) (fun e => ?_)
  · have hA := RS_pl hR e
    have ha4 := plA_lt e
    conv => whnf
    first | refine ⟨fun _ => ?_, fun q => absurd (by decide) q⟩ | refine ⟨fun q => absurd q (by decide), fun _ => ?_⟩
    conv => whnf
    refine s_R_isBraid hb (fun e1 => ?_) (fun e1 => ?_)
    · conv => whnf
      first | refine ⟨fun _ => ?_, fun q => absurd (by decide) q⟩ | refine ⟨fun q => absurd q (by decide), fun _ => ?_⟩
      conv => whnf
      refine s_R_in hs (by decide) (by decide) (fun e2 e3 _ => ?_) (fun e2 => ?_)
      · conv => whnf
        first | refine ⟨fun _ => ?_, fun q => absurd (by decide) q⟩ | refine ⟨fun q => absurd q (by decide), fun _ => ?_⟩
        conv => whnf
        refine s_R_doesFit (by omega) e1 e3 hA (by omega) (hR.2.1 b e1) (fun hf => ?_) (fun hf => ?_)
        · conv => whnf
          first | refine ⟨fun _ => ?_, fun q => absurd (by decide) q⟩ | refine ⟨fun q => absurd q (by decide), fun _ => ?_⟩
          conv => whnf
          exact h4 e e1 e2 e3 hf
        · conv => whnf
          first | refine ⟨fun _ => ?_, fun q => absurd (by decide) q⟩ | refine ⟨fun q => absurd q (by decide), fun _ => ?_⟩
          conv => whnf
          exact h3 e e1 e2 e3 hf
      · conv => whnf
        first | refine ⟨fun _ => ?_, fun q => absurd (by decide) q⟩ | refine ⟨fun q => absurd q (by decide), fun _ => ?_⟩
        conv => whnf
        exact h2 e e1 (fun q => e2 ⟨q.1, q.2, by omega⟩)
    · conv => whnf
      first | refine ⟨fun _ => ?_, fun q => absurd (by decide) q⟩ | refine ⟨fun q => absurd q (by decide), fun _ => ?_⟩
      conv => whnf
      exact h1 (Or.inr e1)
  · conv => whnf
    first | refine ⟨fun _ => ?_, fun q => absurd (by decide) q⟩ | refine ⟨fun q => absurd q (by decide), fun _ => ?_⟩
    conv => whnf
    exact h1 (Or.inl e)
theorem r_through {a b s m : Nat} (ha : a < 2 ^ 32) (hb : b < 2 ^ 32) (hs : s < 2 ^ 32) (hm : m < 2 ^ 32) (hR : RS M S) (h1 : (plA S a).1 = 0 ∨ ¬ b < 2 → Z (some (zi (-1000001))) M) (h2 : ¬ (plA S a).1 = 0 → b < 2 → ¬ (2 ≤ s ∧ s ≤ 4 ∧ isC m s (plA S a).1) → Z (some (zi (-1000002))) M) (h3 : ¬ (plA S a).1 = 0 → b < 2 → 2 ≤ s → s ≤ 4 → isC m s (plA S a).1 → ¬ fit (plA S a) (S.2 b) s → Z (some (zi (-1000003))) M) (h4 : ¬ (plA S a).1 = 0 → b < 2 → 2 ≤ s → s ≤ 4 → isC m s (plA S a).1 → fit (plA S a) (S.2 b) s → ∀ M', RS M' S → rsm M M' → Z (some (zi (nI (tn (tcl (brun (plA S a) (S.2 b) (dgs m s))) s)))) M') : Ctr 0 G mi_R_through [zr 20 0, zi (nI a), zi (nI b), zi (nI s), zi (nI m)] M Z := by
  refine go_R_through (fun Kz hKz => ?_)
  conv => whnf
  refine s_R_refuses ha hb hs hR (fun e => ?_) (fun e e2 e3 => ?_) (fun e e2 e3 e4 hf => ?_) (fun e e2 e3 e4 hf => ?_)
  · conv => whnf
    refine ⟨fun _ => ?_, fun q => absurd rfl q⟩
    conv => whnf
    exact h1 e
  · conv => whnf
    first | refine ⟨fun _ => ?_, fun q => absurd (by decide) q⟩ | refine ⟨fun q => absurd q (by decide), fun _ => ?_⟩
    conv => whnf
    refine ⟨fun q => absurd rfl q, fun _ => ?_⟩
    conv => whnf
    exact h2 e e2 (fun q => e3 ⟨q.1, q.2.1⟩)
  · have hA := RS_pl hR e
    have ha4 := plA_lt e
    have hn := hA.1.1
    conv => whnf
    first | refine ⟨fun _ => ?_, fun q => absurd (by decide) q⟩ | refine ⟨fun q => absurd q (by decide), fun _ => ?_⟩
    conv => whnf
    first | refine ⟨fun _ => ?_, fun q => absurd (by decide) q⟩ | refine ⟨fun q => absurd q (by decide), fun _ => ?_⟩
    conv => whnf
    refine ⟨vp_in_nI (by omega) (by decide), ?_⟩
    conv => whnf
    rw [nI_clamp (by omega), hA.2.1]
    refine s_R_arePoints hm (by omega) hn (fun g => ?_) (fun g => ?_)
    · conv => whnf
      first | refine ⟨fun _ => ?_, fun q => absurd (by decide) q⟩ | refine ⟨fun q => absurd q (by decide), fun _ => ?_⟩
      conv => whnf
      refine ⟨fun q => absurd rfl q, fun _ => ?_⟩
      conv => whnf
      exact h3 e e2 e3 e4 g hf
    · conv => whnf
      first | refine ⟨fun _ => ?_, fun q => absurd (by decide) q⟩ | refine ⟨fun q => absurd q (by decide), fun _ => ?_⟩
      conv => whnf
      exact h2 e e2 (fun q => g q.2.2)
  · have hA := RS_pl hR e
    have ha4 := plA_lt e
    have hn := hA.1.1
    conv => whnf
    first | refine ⟨fun _ => ?_, fun q => absurd (by decide) q⟩ | refine ⟨fun q => absurd q (by decide), fun _ => ?_⟩
    conv => whnf
    first | refine ⟨fun _ => ?_, fun q => absurd (by decide) q⟩ | refine ⟨fun q => absurd q (by decide), fun _ => ?_⟩
    conv => whnf
    refine ⟨vp_in_nI (by omega) (by decide), ?_⟩
    conv => whnf
    rw [nI_clamp (by omega), hA.2.1]
    refine s_R_arePoints hm (by omega) hn (fun g => ?_) (fun g => ?_)
    · have hv : vW (plA S a) s (dgs m s) := ⟨dgs_all s g.2, dgs_len m s⟩
      have hvb := brun_vW hA.1 (S.2 b) _ (fit_letter hf) hv
      have hcod := tn_cod (u := brun (plA S a) (S.2 b) (dgs m s)) (by rw [hvb.2]; exact e4) (fun d hd => by have := hvb.1 d hd; omega)
      rw [hvb.2] at hcod
      conv => whnf
      first | refine ⟨fun _ => ?_, fun q => absurd (by decide) q⟩ | refine ⟨fun q => absurd q (by decide), fun _ => ?_⟩
      conv => whnf
      first | refine ⟨fun _ => ?_, fun q => absurd (by decide) q⟩ | refine ⟨fun q => absurd q (by decide), fun _ => ?_⟩
      conv => whnf
      refine s_R_layCode hm e4 (fun M1 g1 g2 => ?_)
      conv => whnf
      refine s_R_goesThrough (by omega) e2 e4 (isRM_t hA g1) (isRB_t (hR.2.1 b e2) g1) hf g2 hv (fun M2 g3 g4 => ?_)
      conv => whnf
      refine s_R_tupleCode e4 g4 hvb.2 ?_
      conv => whnf
      rw [← hcod]
      exact h4 e e2 e3 e4 g hf M2 (RS_rf hR (rf_trans g1 g3) tF_no) (rsm_t (rf_trans g1 g3))
    · conv => whnf
      first | refine ⟨fun _ => ?_, fun q => absurd (by decide) q⟩ | refine ⟨fun q => absurd q (by decide), fun _ => ?_⟩
      conv => whnf
      exact h2 e e2 (fun q => g q.2.2)
theorem s_R_laySteps {m b s : Nat} {A : ZP} {w : List (Nat × Bool)} (hm : m < 6) (hb : b < 2) (hs : s ≤ 4) (hA : isRM M m A) (h0 : 0 < A.1) (hw : isRB M b w) (hf : fit A w s) (hZ : ∀ M', rf sF M M' → (∀ k, k < A.1 ^ s → M'.1 34 0 k = nI (stp A w s k)) → Z none M') : Ctr 0 G mi_R_laySteps [zr 20 0, zi (nI m), zi (nI b), zi (nI s)] M Z := by
  have hn := hA.1.1
  have hN := lt_pw hn hs
  have lp : ∀ k, k ≤ A.1 ^ s → ∀ M', rf sF M M' → (∀ j, j < k → M'.1 34 0 j = nI (stp A w s j)) → V 0 G mi_R_laySteps Z 11 [(0, zr 20 0), (1, zi (nI m)), (2, zi (nI b)), (3, zi (nI s)), (4, zi (nI A.1)), (5, zi (nI k))] [] M' := by
    refine up_to ?_ ?_
    · intro M' g1 g2
      refine z_run (cuts := cu_R_laySteps) ok_R_laySteps (fun Kz hKz => ?_)
      conv => whnf
      refine s_R_rowsTo (by omega) ?_
      conv => whnf
      rw [nI_leI (by omega) (by omega)]
      refine ⟨fun _ => ?_, fun q => absurd (by omega) q⟩
      conv => whnf
      exact hZ M' g1 g2
    · intro k hk ih M' g1 g2
      have hv := vW_dgl (A := A) (k := s) (j := k) h0
      have hvb := brun_vW hA.1 w _ (fit_letter hf) hv
      refine z_run (cuts := cu_R_laySteps) ok_R_laySteps (fun Kz hKz => ?_)
      conv => whnf
      refine s_R_rowsTo (by omega) ?_
      conv => whnf
      rw [nI_leI (by omega) (by omega)]
      refine ⟨fun q => absurd q (by omega), fun _ => ?_⟩
      conv => whnf
      refine s_R_layTuple h0 hn hs (by omega) (fun M1 r1 r2 => ?_)
      have f1 := rf_trans g1 (tF_sF r1)
      conv => whnf
      refine s_R_goesThrough hm hb hs (isRM_s hA f1) (isRB_s hw f1) hf r2 hv (fun M2 r3 r4 => ?_)
      have f2 := rf_trans f1 (tF_sF r3)
      conv => whnf
      refine s_R_tupleNumber hs r4 hvb.2 ?_
      conv => whnf
      refine ⟨vp_in_nI (by omega) (by decide), ?_⟩
      conv => whnf
      refine hKz _ _ _ _ ?_
      rw [nI_clamp (by omega), nI_1']
      refine ih _ (rf_trans f2 (rf_set (Or.inr (Or.inl rfl)))) (fun j hj => ?_)
      rcases fin_cases_eq hj with z | z
      · rw [zset_ne (by omega), r3.2 34 0 j (fun q => absurd (show (34 : Nat) = 27 from q.2) (by decide)), r1.2 34 0 j (fun q => absurd (show (34 : Nat) = 27 from q.2) (by decide))]
        exact g2 j z
      · rw [z, zset_eq]
        rfl
  refine go_R_laySteps (fun Kz hKz => ?_)
  conv => whnf
  refine ⟨vp_in_nI hm (by decide), ?_⟩
  conv => whnf
  refine hKz _ _ _ _ ?_
  rw [nI_clamp (by omega), hA.2.1]
  exact lp 0 (Nat.zero_le _) M (rf_refl _ _) (fun j hj => absurd hj (Nat.not_lt_zero _))
theorem r_stays {a b s : Nat} (ha : a < 2 ^ 32) (hb : b < 2 ^ 32) (hs : s < 2 ^ 32) (hR : RS M S) (h1 : (plA S a).1 = 0 ∨ ¬ b < 2 → Z (some (zi (-1000001))) M) (h2 : ¬ (plA S a).1 = 0 → b < 2 → ¬ (2 ≤ s ∧ s ≤ 4) → Z (some (zi (-1000002))) M) (h3 : ¬ (plA S a).1 = 0 → b < 2 → 2 ≤ s → s ≤ 4 → ¬ fit (plA S a) (S.2 b) s → Z (some (zi (-1000003))) M) (h4 : ¬ (plA S a).1 = 0 → b < 2 → 2 ≤ s → s ≤ 4 → fit (plA S a) (S.2 b) s → ∀ M', RS M' S → rsm M M' → Z (some (zi (nI (nFix (plA S a) (S.2 b) s ((plA S a).1 ^ s))))) M') : Ctr 0 G mi_R_stays [zr 20 0, zi (nI a), zi (nI b), zi (nI s)] M Z := by
  refine go_R_stays (fun Kz hKz => ?_)
  conv => whnf
  refine s_R_refuses ha hb hs hR (fun e => ?_) (fun e e2 e3 => ?_) (fun e e2 e3 e4 hf => ?_) (fun e e2 e3 e4 hf => ?_)
  · conv => whnf
    first | refine ⟨fun _ => ?_, fun q => absurd (by decide) q⟩ | refine ⟨fun q => absurd q (by decide), fun _ => ?_⟩
    conv => whnf
    exact h1 e
  · conv => whnf
    first | refine ⟨fun _ => ?_, fun q => absurd (by decide) q⟩ | refine ⟨fun q => absurd q (by decide), fun _ => ?_⟩
    conv => whnf
    exact h2 e e2 e3
  · conv => whnf
    first | refine ⟨fun _ => ?_, fun q => absurd (by decide) q⟩ | refine ⟨fun q => absurd q (by decide), fun _ => ?_⟩
    conv => whnf
    exact h3 e e2 e3 e4 hf
  · have hA := RS_pl hR e
    have ha4 := plA_lt e
    have hwb := hR.2.1 b e2
    generalize plA S a = A at *
    have hn := hA.1.1
    have h0 : 0 < A.1 := by omega
    have hN := lt_pw hn e4
    conv => whnf
    first | refine ⟨fun _ => ?_, fun q => absurd (by decide) q⟩ | refine ⟨fun q => absurd q (by decide), fun _ => ?_⟩
    conv => whnf
    refine s_R_laySteps (by omega) e2 e4 hA h0 hwb hf (fun M1 g1 g2 => ?_)
    have hA1 := isRM_s hA g1
    have lp : ∀ j, j ≤ A.1 ^ s → V 0 G mi_R_stays Z 30 [(0, zr 20 0), (1, zi (nI a)), (3, zi (nI s)), (5, zi (nI (nFix A (S.2 b) s j))), (6, zi (nI j))] [] M1 := by
      refine up_to ?_ ?_
      · refine z_run (cuts := cu_R_stays) ok_R_stays (fun Kz hKz => ?_)
        conv => whnf
        refine ⟨vp_in_nI (by omega) (by decide), ?_⟩
        conv => whnf
        rw [nI_clamp (by omega), hA1.2.1]
        refine s_R_rowsTo (by omega) ?_
        conv => whnf
        rw [nI_leI (by omega) (by omega)]
        refine ⟨fun _ => ?_, fun q => absurd (by omega) q⟩
        conv => whnf
        exact h4 e e2 e3 e4 hf M1 (RS_rf hR g1 sF_no) (rsm_s g1)
      · intro j hj ih
        have hst := stp_is hA.1 h0 (j := j) hf
        have hid : stp A (S.2 b) s j = j ↔ brun A (S.2 b) (dgl A.1 s j) = dgl A.1 s j := by
          constructor
          · intro q
            have := hst.2
            rw [q] at this
            exact this.symm
          · intro q
            unfold stp
            rw [q]
            exact tnn_dgl h0 s j hj
        simp only [nFix, cnt] at ih
        refine z_run (cuts := cu_R_stays) ok_R_stays (fun Kz hKz => ?_)
        conv => whnf
        refine ⟨vp_in_nI (by omega) (by decide), ?_⟩
        conv => whnf
        rw [nI_clamp (by omega), hA1.2.1]
        refine s_R_rowsTo (by omega) ?_
        conv => whnf
        rw [nI_leI (by omega) (by omega)]
        refine ⟨fun q => absurd q (by omega), fun _ => ?_⟩
        conv => whnf
        refine ⟨vp_in_nI (by omega) (by decide), ?_⟩
        conv => whnf
        rw [nI_clamp (by omega), g2 j hj, n_ne (by omega) (by omega)]
        refine ⟨fun q => ?_, fun q => ?_⟩
        · rw [decide_eq_false (fun z => q (hid.mpr z))] at ih
          conv => whnf
          refine hKz _ _ _ _ ?_
          rw [nI_add, nI_1']
          exact ih
        · rw [decide_eq_true (hid.mp (Classical.not_not.mp q))] at ih
          conv => whnf
          refine hKz _ _ _ _ ?_
          rw [nI_add, nI_1']
          exact ih
    conv => whnf
    refine hKz _ _ _ _ ?_
    exact lp 0 (Nat.zero_le _)
end
