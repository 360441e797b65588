def upB (S : ZS) (b : Nat) (w : List (Nat × Bool)) : ZS := (S.1, fun i => if i = b then w else S.2 i)
theorem CS_br {M M' : ZM} {S : ZS} {b : Nat} {w : List (Nat × Bool)} (h : CS M S) (hb : b < 2) (hs : zsm (brS b) M M') (hw : isBR M' b w) : CS M' (upB S b w) := by
  refine ⟨fun m hm => isPM_same (h.1 m hm) hs (fun q => absurd q.1 (by decide)) (fun q => absurd q.1 (by decide)), isPM_same h.2.1 hs (fun q => absurd q.1 (by decide)) (fun q => absurd q.1 (by decide)), fun c hc => ?_, isBR_same h.2.2.2 hs (fun q => by have := q.2; omega) (fun q => by have := q.2; omega) (fun q => by have := q.2; omega)⟩
  simp only [upB]
  by_cases he : c = b
  · rw [if_pos he, he]; exact hw
  · rw [if_neg he]
    exact isBR_same (h.2.2.1 c hc) hs (fun q => he q.2) (fun q => he q.2) (fun q => he q.2)
theorem csm_br {b : Nat} {M M' : ZM} (h : zsm (brS b) M M') : csm M M' := csm_of h (fun a c q => by rcases q.1 with q | q | q <;> omega)
def sumP (S : ZS) : Nat → Nat
  | 0 => 0
  | k + 1 => sumP S k + (S.1 k).1
section
variable {G : ZG} {M : ZM} {Z : Option ZV → ZM → Prop} {S : ZS}
theorem s_T_mapsHeld (hC : CS M S) (hZ : Z (some (zi (nI (cnt (fun m => decide (0 < (S.1 m).1)) 4)))) M) : Ctr 0 G mi_T_mapsHeld [zr 5 0] M Z := by
  have lp : ∀ i, i ≤ 4 → V 0 G mi_T_mapsHeld Z 4 [(0, zr 5 0), (1, zi (nI (cnt (fun m => decide (0 < (S.1 m).1)) i))), (2, zi (nI i))] [] M := by
    refine up_to ?_ ?_
    · refine z_run (cuts := cu_T_mapsHeld) ok_T_mapsHeld (fun Kz hKz => ?_)
      conv => whnf
      first | refine ⟨fun _ => ?_, fun q => absurd (by decide) q⟩ | refine ⟨fun q => absurd q (by decide), fun _ => ?_⟩
      conv => whnf
      exact hZ
    · intro i hi ih
      have hA := hC.1 i hi
      have e : plk i = i := by unfold plk; rw [if_pos hi]
      refine z_run (cuts := cu_T_mapsHeld) ok_T_mapsHeld (fun Kz hKz => ?_)
      conv => whnf
      rw [nI_leI (by omega) (by omega)]
      refine ⟨fun q => absurd q (by omega), fun _ => ?_⟩
      conv => whnf
      refine s_T_mapAt (by omega) ?_
      rw [e]
      conv => whnf
      refine ⟨by show i < 10; omega, ?_⟩
      refine s_PM_isEmpty (by omega) hA (fun e1 => ?_) (fun e1 => ?_)
      · rw [cnt, decide_eq_false (by omega)] at ih
        conv => whnf
        first | refine ⟨fun _ => ?_, fun q => absurd (by decide) q⟩ | refine ⟨fun q => absurd q (by decide), fun _ => ?_⟩
        conv => whnf
        refine s_T_oneIfb (b := false) ?_
        conv => whnf
        refine hKz _ _ _ _ ?_
        rw [nI_add, nI_1']
        exact ih
      · rw [cnt, decide_eq_true (by omega)] at ih
        conv => whnf
        first | refine ⟨fun _ => ?_, fun q => absurd (by decide) q⟩ | refine ⟨fun q => absurd q (by decide), fun _ => ?_⟩
        conv => whnf
        refine s_T_oneIfb (b := true) ?_
        conv => whnf
        refine hKz _ _ _ _ ?_
        rw [nI_add, nI_1']
        exact ih
  refine go_T_mapsHeld (fun Kz hKz => ?_)
  conv => whnf
  refine hKz _ _ _ _ ?_
  exact lp 0 (Nat.zero_le _)
theorem s_T_pointsHeld (hC : CS M S) (hZ : Z (some (zi (nI (sumP S 4)))) M) : Ctr 0 G mi_T_pointsHeld [zr 5 0] M Z := by
  have lp : ∀ i, i ≤ 4 → V 0 G mi_T_pointsHeld Z 4 [(0, zr 5 0), (1, zi (nI (sumP S i))), (2, zi (nI i))] [] M := by
    refine up_to ?_ ?_
    · refine z_run (cuts := cu_T_pointsHeld) ok_T_pointsHeld (fun Kz hKz => ?_)
      conv => whnf
      first | refine ⟨fun _ => ?_, fun q => absurd (by decide) q⟩ | refine ⟨fun q => absurd q (by decide), fun _ => ?_⟩
      conv => whnf
      exact hZ
    · intro i hi ih
      have hA := hC.1 i hi
      have e : plk i = i := by unfold plk; rw [if_pos hi]
      refine z_run (cuts := cu_T_pointsHeld) ok_T_pointsHeld (fun Kz hKz => ?_)
      conv => whnf
      rw [nI_leI (by omega) (by omega)]
      refine ⟨fun q => absurd q (by omega), fun _ => ?_⟩
      conv => whnf
      refine s_T_mapAt (by omega) ?_
      rw [e]
      conv => whnf
      refine ⟨by show i < 10; omega, ?_⟩
      refine s_PM_points (by omega) ?_
      conv => whnf
      refine hKz _ _ _ _ ?_
      rw [hA.2.1, nI_add, nI_1']
      exact ih
  refine go_T_pointsHeld (fun Kz hKz => ?_)
  conv => whnf
  refine hKz _ _ _ _ ?_
  exact lp 0 (Nat.zero_le _)
theorem c_count {c : Nat} (hc : c < 2 ^ 32) (hC : CS M S) (h0 : c = 0 → Z (some (zi (nI (cnt (fun m => decide (0 < (S.1 m).1)) 4)))) M) (h1 : c = 1 → Z (some (zi (nI (sumP S 4)))) M) (h2 : c = 2 → Z (some (zi (nI (S.2 0).length))) M) (h3 : c = 3 → Z (some (zi (nI (S.2 1).length))) M) (h4 : ¬ c < 4 → Z (some (zi (-1000002))) M) : Ctr 0 G mi_T_count [zr 5 0, zi (nI c)] M Z := by
  have b0 := hC.2.2.1 0 (by decide)
  have b1 := hC.2.2.1 1 (by decide)
  refine go_T_count (fun Kz hKz => ?_)
  conv => whnf
  refine ⟨fun (q : nI c = nI 0) => ?_, fun (q : ¬ nI c = nI 0) => ?_⟩
  · rw [n_eq hc (by decide)] at q
    conv => whnf
    refine s_T_mapsHeld hC ?_
    conv => whnf
    exact h0 q
  · rw [n_eq hc (by decide)] at q
    conv => whnf
    refine ⟨fun (q1 : nI c = nI 1) => ?_, fun (q1 : ¬ nI c = nI 1) => ?_⟩
    · rw [n_eq hc (by decide)] at q1
      conv => whnf
      refine s_T_pointsHeld hC ?_
      conv => whnf
      exact h1 q1
    · rw [n_eq hc (by decide)] at q1
      conv => whnf
      refine ⟨fun (q2 : nI c = nI 2) => ?_, fun (q2 : ¬ nI c = nI 2) => ?_⟩
      · rw [n_eq hc (by decide)] at q2
        conv => whnf
        refine s_T_braidAt (by decide) ?_
        conv => whnf
        refine ⟨by decide, ?_⟩
        refine s_BR_length (by decide) ?_
        conv => whnf
        rw [if_pos (by decide), b0.2.1]
        exact h2 q2
      · rw [n_eq hc (by decide)] at q2
        conv => whnf
        refine ⟨fun (q3 : nI c = nI 3) => ?_, fun (q3 : ¬ nI c = nI 3) => ?_⟩
        · rw [n_eq hc (by decide)] at q3
          conv => whnf
          refine s_T_braidAt (by decide) ?_
          conv => whnf
          refine ⟨by decide, ?_⟩
          refine s_BR_length (by decide) ?_
          conv => whnf
          rw [if_pos (by decide), b1.2.1]
          exact h3 q3
        · rw [n_eq hc (by decide)] at q3
          conv => whnf
          exact h4 (by omega)
end
