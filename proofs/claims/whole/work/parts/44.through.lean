theorem bstr_le4 : ∀ (w : List (Nat × Bool)), (∀ q ∈ w, q.1 < 3) → bstr w ≤ 4 := by
  intro w
  induction w with
  | nil => intro _; exact Nat.zero_le _
  | cons a w ih =>
    intro h
    rw [bstr]
    have h1 := h a (List.mem_cons_self ..)
    exact Nat.max_le.mpr ⟨by omega, ih fun q hq => h q (List.mem_cons_of_mem _ hq)⟩
theorem isBR_bstr {M : ZM} {b : Nat} {w : List (Nat × Bool)} (h : isBR M b w) : bstr w ≤ 4 := bstr_le4 w fun q hq => by
  obtain ⟨i, hi⟩ := List.mem_iff_getElem?.mp hq
  exact (h.2.2 i q hi).1
theorem cst_ba {M M' : ZM} (h : zsm baS M M') : cst M M' :=
  cst_of h (fun b hb => ⟨fun q => by rcases q.2 with e | e <;> omega, fun q => by rcases q.2 with e | e <;> omega⟩) (fun b hb => ⟨fun q => absurd q.1 (by decide), fun q => absurd q.1 (by decide), fun q => absurd q.1 (by decide)⟩)
theorem csm_ba {M M' : ZM} (h : zsm baS M M') : csm M M' := csm_of h (fun a b q => by rcases q.1 with q | q <;> omega)
section
variable {G : ZG} {M : ZM} {Z : Option ZV → ZM → Prop} {S : ZS}
theorem c_through {a b s m : Nat} (ha : a < 2 ^ 32) (hb : b < 2 ^ 32) (hs : s < 2 ^ 32) (hm : m < 2 ^ 32) (hC : CS M S) (h1 : (plA S a).1 = 0 ∨ ¬ b < 2 → Z (some (zi (-1000001))) M) (h2 : ¬ (plA S a).1 = 0 → b < 2 → ¬ (2 ≤ s ∧ s ≤ 4 ∧ isC m s (plA S a).1) → Z (some (zi (-1000002))) M) (h3 : ¬ (plA S a).1 = 0 → b < 2 → 2 ≤ s → s ≤ 4 → isC m s (plA S a).1 → ¬ fit (plA S a) (S.2 b) s → Z (some (zi (-1000003))) M) (h4 : ¬ (plA S a).1 = 0 → b < 2 → 2 ≤ s → s ≤ 4 → isC m s (plA S a).1 → fit (plA S a) (S.2 b) s → ∀ M', CS M' S → csm M M' → Z (some (zi (nI (tn (tcl (brun (plA S a) (S.2 b) (dgs m s))) s)))) M') : Ctr 0 G mi_T_through [zr 5 0, zi (nI a), zi (nI b), zi (nI s), zi (nI m)] M Z := by
  have hA := CS_pl hC a
  have ka := plk_lt a
  have hn := hA.1.1
  refine go_T_through (fun Kz hKz => ?_)
  conv => whnf
  refine s_T_mapAt ha ?_
  conv => whnf
  refine ⟨by show plk a < 10; omega, ?_⟩
  refine s_PM_isEmpty (by omega) hA (fun e1 => ?_) (fun e1 => ?_)
  · conv => whnf
    first | refine ⟨fun _ => ?_, fun q => absurd (by decide) q⟩ | refine ⟨fun q => absurd q (by decide), fun _ => ?_⟩
    conv => whnf
    exact h1 (Or.inl e1)
  · conv => whnf
    first | refine ⟨fun _ => ?_, fun q => absurd (by decide) q⟩ | refine ⟨fun q => absurd q (by decide), fun _ => ?_⟩
    conv => whnf
    refine s_T_isBraid hb (fun e2 => ?_) (fun e2 => ?_)
    · have hB := hC.2.2.1 b e2
      conv => whnf
      first | refine ⟨fun _ => ?_, fun q => absurd (by decide) q⟩ | refine ⟨fun q => absurd q (by decide), fun _ => ?_⟩
      conv => whnf
      refine s_T_isTupleLength hs (fun e3 e4 => ?_) (fun e3 => ?_)
      · conv => whnf
        first | refine ⟨fun _ => ?_, fun q => absurd (by decide) q⟩ | refine ⟨fun q => absurd q (by decide), fun _ => ?_⟩
        conv => whnf
        refine ⟨by show plk a < 10; omega, ?_⟩
        refine s_PM_points (by omega) ?_
        rw [hA.2.1]
        conv => whnf
        refine s_CO_isCode hm (by omega) hn (fun g => ?_) (fun g => ?_)
        · have hv : vW (plA S a) s (dgs m s) := ⟨dgs_all s g.2, dgs_len m s⟩
          conv => whnf
          first | refine ⟨fun _ => ?_, fun q => absurd (by decide) q⟩ | refine ⟨fun q => absurd q (by decide), fun _ => ?_⟩
          conv => whnf
          refine s_T_braidAt hb ?_
          rw [if_pos e2]
          conv => whnf
          refine s_BA_isFit (by omega) (by omega) (by omega) hA hB (isBR_bstr hB) (fun hf => ?_) (fun hf => ?_)
          · have hr := brun_vW hA.1 _ _ (fit_letter hf) hv
            have t2 := tcl_lt (w := brun (plA S a) (S.2 b) (dgs m s)) (fun d hd => by have := hr.1 d hd; omega)
            have h84 : 8 ^ s ≤ 8 ^ 4 := Nat.pow_le_pow_right (by decide) e4
            rw [hr.2] at t2
            conv => whnf
            first | refine ⟨fun _ => ?_, fun q => absurd (by decide) q⟩ | refine ⟨fun q => absurd q (by decide), fun _ => ?_⟩
            conv => whnf
            refine s_BA_prepare (by omega) hA (fun M1 g1 g2 => ?_)
            have hC1 := CS_cst hC (cst_ba g1)
            conv => whnf
            refine s_CO_turned hm (by omega) ?_
            rw [← tn_dgs]
            conv => whnf
            refine s_BA_resultOf (by omega) e3 e4 g2 (hC1.2.2.1 b e2) hf hv ?_
            conv => whnf
            refine s_CO_turned (by omega) (by omega) ?_
            conv => whnf
            exact h4 e1 e2 e3 e4 g hf M1 hC1 (csm_ba g1)
          · conv => whnf
            first | refine ⟨fun _ => ?_, fun q => absurd (by decide) q⟩ | refine ⟨fun q => absurd q (by decide), fun _ => ?_⟩
            conv => whnf
            exact h3 e1 e2 e3 e4 g hf
        · conv => whnf
          first | refine ⟨fun _ => ?_, fun q => absurd (by decide) q⟩ | refine ⟨fun q => absurd q (by decide), fun _ => ?_⟩
          conv => whnf
          exact h2 e1 e2 (fun q => g q.2.2)
      · conv => whnf
        first | refine ⟨fun _ => ?_, fun q => absurd (by decide) q⟩ | refine ⟨fun q => absurd q (by decide), fun _ => ?_⟩
        conv => whnf
        exact h2 e1 e2 (fun q => e3 ⟨q.1, q.2.1⟩)
    · conv => whnf
      first | refine ⟨fun _ => ?_, fun q => absurd (by decide) q⟩ | refine ⟨fun q => absurd q (by decide), fun _ => ?_⟩
      conv => whnf
      exact h1 (Or.inr e2)
end
