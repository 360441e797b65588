theorem cst_wc {M M' : ZM} (h : zsm wcS M M') : cst M M' :=
  cst_of h (fun b hb => ⟨fun q => absurd q.1 (by decide), fun q => absurd q.1 (by decide)⟩) (fun b hb => ⟨fun q => absurd q.1 (by decide), fun q => absurd q.1 (by decide), fun q => absurd q.1 (by decide)⟩)
theorem csm_wc {M M' : ZM} (h : zsm wcS M M') : csm M M' := csm_of h (fun a b q => by rcases q.1 with q | q <;> omega)
/-- how many classes of words -/
def nLst (A : ZP) (k : Nat) (r : List Nat → List Nat) : Nat := cnt (fun j => decide (r (dgl A.1 k j) = dgl A.1 k j)) (A.1 ^ k)
theorem nRt_lst {A : ZP} (hA : pwf A) (h0 : 0 < A.1) {k : Nat} {s : Nat → Nat} {r : List Nat → List Nat} (hr : isLst A k r) (h : ∀ w, vW A k w → root s (tcl w) = tcl (r w)) : nRt A k s = nLst A k r := by
  refine congrArg (fun p => cnt p (A.1 ^ k)) (funext fun j => ?_)
  have hw := vW_dgl (k := k) (j := j) h0
  rw [← tcl_dgl, h _ hw, Bool.eq_iff_iff, decide_eq_true_iff, decide_eq_true_iff]
  exact ⟨fun e => vW_inj hA (hr _ hw).1 hw e, fun e => by rw [e]⟩
def dgs (m : Nat) : Nat → List Nat
  | 0 => []
  | k + 1 => dgs m k ++ [m / 8 ^ k % 8]
theorem dgs_len (m : Nat) : ∀ k, (dgs m k).length = k := by
  intro k
  induction k with
  | zero => rfl
  | succ k ih => rw [dgs, List.length_append, ih]; rfl
theorem dgs_all {m n : Nat} : ∀ k, (∀ i, i < k → m / 8 ^ i % 8 < n) → allB n (dgs m k) := by
  intro k
  induction k with
  | zero => intro _ d hd; cases hd
  | succ k ih =>
    intro h d hd
    rw [dgs, List.mem_append, List.mem_singleton] at hd
    rcases hd with hd | rfl
    · exact ih (fun i hi => h i (by omega)) d hd
    · exact h k (by omega)
theorem tn_dgs (m : Nat) : ∀ k, tcl (dgs m k) = tn m k := by
  intro k
  induction k with
  | zero => rfl
  | succ k ih => rw [dgs, tcl_app, ih, tn]; simp [tcl]; omega
section
variable {G : ZG} {M : ZM} {Z : Option ZV → ZM → Prop} {S : ZS}
theorem s_WC_number (hZ : Z (some (zi (M.1 16 0 1))) M) : Ctr 0 G mi_WC_number [zr 16 0] M Z := by
  refine go_WC_number (fun Kz hKz => ?_)
  conv => whnf
  exact hZ
theorem c_words {a k : Nat} (ha : a < 2 ^ 32) (hk : k < 2 ^ 32) (hC : CS M S) (h1 : (plA S a).1 = 0 → Z (some (zi (-1000001))) M) (h2 : ¬ (plA S a).1 = 0 → ¬ (1 ≤ k ∧ k ≤ 4) → Z (some (zi (-1000002))) M) (h3 : ¬ (plA S a).1 = 0 → 1 ≤ k → k ≤ 4 → ∀ r, isLst (plA S a) k r → ∀ M', CS M' S → csm M M' → Z (some (zi (nI (nLst (plA S a) k r)))) M') : Ctr 0 G mi_T_words [zr 5 0, zi (nI a), zi (nI k)] M Z := by
  have hA := CS_pl hC a
  have ka := plk_lt a
  refine go_T_words (fun Kz hKz => ?_)
  conv => whnf
  refine s_T_mapAt ha ?_
  conv => whnf
  refine ⟨by show plk a < 10; omega, ?_⟩
  refine s_PM_isEmpty (by omega) hA (fun e1 => ?_) (fun e1 => ?_)
  · conv => whnf
    first | refine ⟨fun _ => ?_, fun q => absurd (by decide) q⟩ | refine ⟨fun q => absurd q (by decide), fun _ => ?_⟩
    conv => whnf
    exact h1 e1
  · conv => whnf
    first | refine ⟨fun _ => ?_, fun q => absurd (by decide) q⟩ | refine ⟨fun q => absurd q (by decide), fun _ => ?_⟩
    conv => whnf
    refine s_T_isWithin hk (by decide) (by decide) (fun w w2 => ?_) (fun w => ?_)
    · conv => whnf
      first | refine ⟨fun _ => ?_, fun q => absurd (by decide) q⟩ | refine ⟨fun q => absurd q (by decide), fun _ => ?_⟩
      conv => whnf
      refine s_WC_find (by omega) hA (by omega) w w2 (fun M1 s g1 g2 g3 g4 g5 => ?_)
      obtain ⟨r, hr1, hr2⟩ := root_lst g3 (fun u i hu hi => g5 u i hu hi (by omega))
      have e := nRt_lst hA.1 (by omega) hr1 hr2
      conv => whnf
      refine s_WC_number ?_
      conv => whnf
      rw [g4, e]
      exact h3 e1 w w2 r hr1 M1 (CS_cst hC (cst_wc g1)) (csm_wc g1)
    · conv => whnf
      first | refine ⟨fun _ => ?_, fun q => absurd (by decide) q⟩ | refine ⟨fun q => absurd q (by decide), fun _ => ?_⟩
      conv => whnf
      exact h2 e1 w
theorem c_least {a k m : Nat} (ha : a < 2 ^ 32) (hk : k < 2 ^ 32) (hm : m < 2 ^ 32) (hC : CS M S) (h1 : (plA S a).1 = 0 → Z (some (zi (-1000001))) M) (h2 : ¬ (plA S a).1 = 0 → ¬ (1 ≤ k ∧ k ≤ 4 ∧ isC m k (plA S a).1) → Z (some (zi (-1000002))) M) (h3 : ¬ (plA S a).1 = 0 → 1 ≤ k → k ≤ 4 → isC m k (plA S a).1 → ∀ r, isLst (plA S a) k r → ∀ M', CS M' S → csm M M' → Z (some (zi (nI (tn (tcl (r (dgs m k))) k)))) M') : Ctr 0 G mi_T_least [zr 5 0, zi (nI a), zi (nI k), zi (nI m)] M Z := by
  have hA := CS_pl hC a
  have ka := plk_lt a
  have hn := hA.1.1
  refine go_T_least (fun Kz hKz => ?_)
  conv => whnf
  refine s_T_mapAt ha ?_
  conv => whnf
  refine ⟨by show plk a < 10; omega, ?_⟩
  refine s_PM_isEmpty (by omega) hA (fun e1 => ?_) (fun e1 => ?_)
  · conv => whnf
    first | refine ⟨fun _ => ?_, fun q => absurd (by decide) q⟩ | refine ⟨fun q => absurd q (by decide), fun _ => ?_⟩
    conv => whnf
    exact h1 e1
  · conv => whnf
    first | refine ⟨fun _ => ?_, fun q => absurd (by decide) q⟩ | refine ⟨fun q => absurd q (by decide), fun _ => ?_⟩
    conv => whnf
    refine s_T_isWithin hk (by decide) (by decide) (fun w w2 => ?_) (fun w => ?_)
    · conv => whnf
      first | refine ⟨fun _ => ?_, fun q => absurd (by decide) q⟩ | refine ⟨fun q => absurd q (by decide), fun _ => ?_⟩
      conv => whnf
      refine ⟨by show plk a < 10; omega, ?_⟩
      refine s_PM_points (by omega) ?_
      rw [hA.2.1]
      conv => whnf
      refine s_CO_isCode hm (by omega) hn (fun g => ?_) (fun g => ?_)
      · have hv : vW (plA S a) k (dgs m k) := ⟨dgs_all k g.2, dgs_len m k⟩
        have h84 : 8 ^ k ≤ 8 ^ 4 := Nat.pow_le_pow_right (by decide) w2
        have t1 := tcl_lt (w := dgs m k) (fun d hd => by have := hv.1 d hd; omega)
        rw [dgs_len, tn_dgs] at t1
        conv => whnf
        first | refine ⟨fun _ => ?_, fun q => absurd (by decide) q⟩ | refine ⟨fun q => absurd q (by decide), fun _ => ?_⟩
        conv => whnf
        refine s_WC_find (by omega) hA (by omega) w w2 (fun M1 s g1 g2 g3 g4 g5 => ?_)
        obtain ⟨r, hr1, hr2⟩ := root_lst g3 (fun u i hu hi => g5 u i hu hi (by omega))
        have e := hr2 _ hv
        have t2 := tcl_lt (w := r (dgs m k)) (fun d hd => by have := (hr1 _ hv).1.1 d hd; omega)
        rw [(hr1 _ hv).1.2] at t2
        rw [tn_dgs] at e
        conv => whnf
        refine s_CO_turned hm (by omega) ?_
        conv => whnf
        refine s_WC_smallest (by omega) g2 g3.1 (fun M2 s2 r1 r2 r3 r4 => ?_)
        rw [e]
        conv => whnf
        refine s_CO_turned (by omega) (by omega) ?_
        conv => whnf
        have r1' : zsm wcS M1 M2 := zsm_mono r1 (fun a b q => ⟨Or.inr q.1, q.2⟩)
        exact h3 e1 w w2 g r hr1 M2 (CS_cst (CS_cst hC (cst_wc g1)) (cst_wc r1')) (csm_trans (csm_wc g1) (csm_wc r1'))
      · conv => whnf
        first | refine ⟨fun _ => ?_, fun q => absurd (by decide) q⟩ | refine ⟨fun q => absurd q (by decide), fun _ => ?_⟩
        conv => whnf
        exact h2 e1 (fun q => g q.2.2)
    · conv => whnf
      first | refine ⟨fun _ => ?_, fun q => absurd (by decide) q⟩ | refine ⟨fun q => absurd q (by decide), fun _ => ?_⟩
      conv => whnf
      exact h2 e1 (fun q => w ⟨q.1, q.2.1⟩)
end
