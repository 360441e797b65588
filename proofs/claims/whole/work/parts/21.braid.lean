/-- a letter: where it acts, whether it is a capital -/
def lpos (c : Nat) : Nat := if 97 ≤ c then c - 97 else c - 65
def isLet (c : Nat) : Prop := (97 ≤ c ∧ c < 100) ∨ (65 ≤ c ∧ c < 68)
def capl (c : Nat) : Bool := decide (c < 97)
theorem lpos_lt {c : Nat} (h : isLet c) : lpos c < 3 := by
  unfold lpos; unfold isLet at h; split <;> omega
/-- how many points the letters ask; is one a capital -/
def bstr : List (Nat × Bool) → Nat
  | [] => 0
  | q :: r => max (q.1 + 2) (bstr r)
def bcap (w : List (Nat × Bool)) : Bool := w.any (fun q => q.2)
section
variable {G : ZG} {M : ZM} {Z : Option ZV → ZM → Prop}
theorem s_BR_isCapital {c : Nat} (hc : c < 2 ^ 32) (h1 : 65 ≤ c → c < 68 → Z (some (zi (nI 1))) M) (h2 : ¬ (65 ≤ c ∧ c < 68) → Z (some (zi (nI 0))) M) : Ctr 0 G mi_BR_isCapital [zi (nI c)] M Z := by
  refine go_BR_isCapital (fun Kz hKz => ?_)
  conv => whnf
  rw [n_ltb hc (by decide)]
  refine ⟨fun q => ?_, fun q => ?_⟩
  · conv => whnf
    exact ⟨Or.inl rfl, h2 (by omega)⟩
  · conv => whnf
    rw [n_ble hc (by decide)]
    refine ⟨fun q2 => ?_, fun q2 => ?_⟩
    · conv => whnf
      exact ⟨Or.inl rfl, h2 (by omega)⟩
    · conv => whnf
      exact ⟨Or.inr rfl, h1 (by omega) (by omega)⟩
theorem s_BR_isLetter {c : Nat} (hc : c < 2 ^ 32) (h1 : isLet c → Z (some (zi (nI 1))) M) (h2 : ¬ isLet c → Z (some (zi (nI 0))) M) : Ctr 0 G mi_BR_isLetter [zi (nI c)] M Z := by
  have cap : ∀ Z : Option ZV → ZM → Prop, (isLet c → Z (some (zi (nI 1))) M) → (¬ isLet c → Z (some (zi (nI 0))) M) → ¬ (97 ≤ c ∧ c < 100) → Ctr 0 G mi_BR_isCapital [zi (nI c)] M Z := by
    intro Z h1 h2 h
    refine s_BR_isCapital hc (fun h4 h5 => h1 (Or.inr ⟨h4, h5⟩)) (fun h4 => h2 ?_)
    unfold isLet
    omega
  refine go_BR_isLetter (fun Kz hKz => ?_)
  conv => whnf
  rw [n_ltb hc (by decide)]
  refine ⟨fun q => ?_, fun q => ?_⟩
  · conv => whnf
    refine cap _ (fun h => ?_) (fun h => ?_) (by omega)
    · conv => whnf
      first | refine ⟨fun _ => ?_, fun q => absurd (by decide) q⟩ | refine ⟨fun q => absurd q (by decide), fun _ => ?_⟩
      conv => whnf
      exact ⟨Or.inr rfl, h1 h⟩
    · conv => whnf
      first | refine ⟨fun _ => ?_, fun q => absurd (by decide) q⟩ | refine ⟨fun q => absurd q (by decide), fun _ => ?_⟩
      conv => whnf
      exact ⟨Or.inl rfl, h2 h⟩
  · conv => whnf
    rw [n_ltb hc (by decide)]
    refine ⟨fun q2 => ?_, fun q2 => ?_⟩
    · conv => whnf
      exact ⟨Or.inr rfl, h1 (Or.inl (by omega))⟩
    · conv => whnf
      refine cap _ (fun h => ?_) (fun h => ?_) (by omega)
      · conv => whnf
        first | refine ⟨fun _ => ?_, fun q => absurd (by decide) q⟩ | refine ⟨fun q => absurd q (by decide), fun _ => ?_⟩
        conv => whnf
        exact ⟨Or.inr rfl, h1 h⟩
      · conv => whnf
        first | refine ⟨fun _ => ?_, fun q => absurd (by decide) q⟩ | refine ⟨fun q => absurd q (by decide), fun _ => ?_⟩
        conv => whnf
        exact ⟨Or.inl rfl, h2 h⟩
theorem s_BR_length {b : Nat} (hb : b < 3) (hZ : Z (some (zi (M.1 2 b 2))) M) : Ctr 0 G mi_BR_length [zr 2 b] M Z := by
  refine go_BR_length (fun Kz hKz => ?_)
  conv => whnf
  refine ⟨by first | assumption | decide, ?_⟩
  conv => whnf
  exact hZ
theorem s_BR_hasIndex {i : Nat} (hi : i < 2 ^ 31) (h1 : i < 24 → Z (some (zi (nI 1))) M) (h2 : ¬ i < 24 → Z (some (zi (nI 0))) M) : Ctr 0 G mi_BR_hasIndex [zi (nI i)] M Z := by
  refine go_BR_hasIndex (fun Kz hKz => ?_)
  conv => whnf
  rw [n_ltb (by omega) (by decide)]
  refine ⟨fun q => absurd q (by omega), fun _ => ?_⟩
  conv => whnf
  rw [nI_leI (by decide) (by omega)]
  refine ⟨fun q => ?_, fun q => ?_⟩
  · conv => whnf
    exact ⟨Or.inl rfl, h2 (by omega)⟩
  · conv => whnf
    exact ⟨Or.inr rfl, h1 (by omega)⟩
theorem s_BR_position {b i : Nat} (hb : b < 3) (hi : i < 24) (hZ : Z (some (zi (M.1 3 b i))) M) : Ctr 0 G mi_BR_position [zr 2 b, zi (nI i)] M Z := by
  refine go_BR_position (fun Kz hKz => ?_)
  conv => whnf
  refine s_BR_hasIndex (by omega) (fun h => ?_) (fun h => absurd hi h)
  conv => whnf
  first | refine ⟨fun _ => ?_, fun q => absurd (by decide) q⟩ | refine ⟨fun q => absurd q (by decide), fun _ => ?_⟩
  conv => whnf
  refine ⟨by first | assumption | decide, ?_⟩
  conv => whnf
  refine ⟨hb, vp_in_nI hi (by decide), ?_⟩
  conv => whnf
  rw [nI_clamp (by omega)]
  exact hZ
theorem s_BR_isCapitalAt {b i : Nat} {v : Bool} (hb : b < 3) (hi : i < 24) (hv : M.1 4 b i = b2i v) (hZ : Z (some (zi (b2i v))) M) : Ctr 0 G mi_BR_isCapitalAt [zr 2 b, zi (nI i)] M Z := by
  refine go_BR_isCapitalAt (fun Kz hKz => ?_)
  conv => whnf
  refine s_BR_hasIndex (by omega) (fun h => ?_) (fun h => absurd hi h)
  conv => whnf
  first | refine ⟨fun _ => ?_, fun q => absurd (by decide) q⟩ | refine ⟨fun q => absurd q (by decide), fun _ => ?_⟩
  conv => whnf
  refine ⟨by first | assumption | decide, ?_⟩
  conv => whnf
  refine ⟨hb, vp_in_nI hi (by decide), ?_⟩
  conv => whnf
  rw [nI_clamp (by omega), hv]
  cases v
  · first | refine ⟨fun _ => ?_, fun q => absurd (by decide) q⟩ | refine ⟨fun q => absurd q (by decide), fun _ => ?_⟩
    conv => whnf
    exact ⟨Or.inl rfl, hZ⟩
  · first | refine ⟨fun _ => ?_, fun q => absurd (by decide) q⟩ | refine ⟨fun q => absurd q (by decide), fun _ => ?_⟩
    conv => whnf
    exact ⟨Or.inr rfl, hZ⟩
theorem s_BR_isFull {b : Nat} {w : List (Nat × Bool)} (hb : b < 3) (hw : isBR M b w) (h1 : w.length = 24 → Z (some (zi (nI 1))) M) (h2 : w.length < 24 → Z (some (zi (nI 0))) M) : Ctr 0 G mi_BR_isFull [zr 2 b] M Z := by
  have hl := hw.1
  refine go_BR_isFull (fun Kz hKz => ?_)
  conv => whnf
  refine ⟨by first | assumption | decide, ?_⟩
  conv => whnf
  rw [hw.2.1, nI_ltI (by omega) (by decide)]
  refine ⟨fun q => ?_, fun q => ?_⟩
  · conv => whnf
    exact ⟨Or.inl rfl, h2 q⟩
  · conv => whnf
    exact ⟨Or.inr rfl, h1 (by omega)⟩
def brS (b : Nat) : Nat → Nat → Prop := fun a c => (a = 2 ∨ a = 3 ∨ a = 4) ∧ c = b
theorem s_BR_clear {b : Nat} (hb : b < 3) (hZ : ∀ M', zsm (brS b) M M' → isBR M' b [] → Z none M') : Ctr 0 G mi_BR_clear [zr 2 b] M Z := by
  refine go_BR_clear (fun Kz hKz => ?_)
  conv => whnf
  refine ⟨by first | assumption | decide, ?_⟩
  conv => whnf
  exact hZ _ (zsm_set ⟨Or.inl rfl, rfl⟩) ⟨by decide, zset_eq, fun i q h => by cases h⟩
theorem s_BR_append {b c : Nat} {w : List (Nat × Bool)} (hb : b < 3) (hw : isBR M b w) (hl : w.length < 24) (hc : isLet c) (hZ : ∀ M', zsm (brS b) M M' → isBR M' b (w ++ [(lpos c, capl c)]) → Z none M') : Ctr 0 G mi_BR_append [zr 2 b, zi (nI c)] M Z := by
  have hc2 : c < 100 := by unfold isLet at hc; omega
  have fin : ∀ v : Int32, ∀ M', M' = zset 2 b 2 (nI (w.length + 1)) (zset 4 b w.length (b2i (capl c)) (zset 3 b w.length v M)) → v = nI (lpos c) → Z none M' := by
    rintro v M' rfl rfl
    refine hZ _ (zsm_trans (zsm_trans (zsm_set ⟨Or.inr (Or.inl rfl), rfl⟩) (zsm_set ⟨Or.inr (Or.inr rfl), rfl⟩)) (zsm_set ⟨Or.inl rfl, rfl⟩)) ⟨by simp; omega, by rw [zset_eq]; simp, fun i q hi => ?_⟩
    rw [List.getElem?_append] at hi
    by_cases h : i < w.length
    · rw [if_pos h] at hi
      rw [zset_ne (by omega), zset_ne (by omega), zset_ne (by omega), zset_ne (by omega), zset_ne (by omega), zset_ne (by omega)]
      exact hw.2.2 i q hi
    · rw [if_neg h] at hi
      have h0 : i - w.length = 0 := by
        have := (List.getElem?_eq_some_iff.mp hi).1
        simp at this
        omega
      rw [h0] at hi
      cases hi
      have he : i = w.length := by omega
      subst he
      rw [zset_ne (by omega), zset_ne (by omega), zset_eq, zset_ne (by omega), zset_eq]
      exact ⟨lpos_lt hc, rfl, rfl⟩
  refine go_BR_append (fun Kz hKz => ?_)
  conv => whnf
  refine ⟨by first | assumption | decide, ?_⟩
  conv => whnf
  rw [hw.2.1]
  refine s_BR_hasIndex (by omega) (fun h => ?_) (fun h => absurd hl h)
  conv => whnf
  first | refine ⟨fun _ => ?_, fun q => absurd (by decide) q⟩ | refine ⟨fun q => absurd q (by decide), fun _ => ?_⟩
  conv => whnf
  refine s_BR_isCapital (by omega) (fun h4 h5 => ?_) (fun h4 => ?_)
  · conv => whnf
    refine ⟨by first | assumption | decide, ?_⟩
    conv => whnf
    refine ⟨by first | assumption | decide, ?_⟩
    conv => whnf
    first | refine ⟨fun _ => ?_, fun q => absurd (by decide) q⟩ | refine ⟨fun q => absurd q (by decide), fun _ => ?_⟩
    conv => whnf
    rw [hw.2.1]
    refine ⟨hb, vp_in_nI hl (by decide), ?_⟩
    conv => whnf
    refine ⟨by first | assumption | decide, ?_⟩
    conv => whnf
    refine ⟨by first | assumption | decide, ?_⟩
    conv => whnf
    rw [zset_ne (by omega), hw.2.1]
    refine ⟨hb, Or.inr rfl, vp_in_nI hl (by decide), ?_⟩
    conv => whnf
    refine ⟨by first | assumption | decide, ?_⟩
    conv => whnf
    refine ⟨by first | assumption | decide, ?_⟩
    conv => whnf
    rw [zset_ne (by omega), zset_ne (by omega), hw.2.1, nI_1', nI_clamp (by omega)]
    refine fin _ _ (by rw [show capl c = true from decide_eq_true (by omega)]; rfl) ?_
    rw [pk_sub h4, lpos, if_neg (by omega)]
  · have h97 : 97 ≤ c ∧ c < 100 := by unfold isLet at hc; omega
    conv => whnf
    refine ⟨by first | assumption | decide, ?_⟩
    conv => whnf
    refine ⟨by first | assumption | decide, ?_⟩
    conv => whnf
    first | refine ⟨fun _ => ?_, fun q => absurd (by decide) q⟩ | refine ⟨fun q => absurd q (by decide), fun _ => ?_⟩
    conv => whnf
    rw [hw.2.1]
    refine ⟨hb, vp_in_nI hl (by decide), ?_⟩
    conv => whnf
    refine ⟨by first | assumption | decide, ?_⟩
    conv => whnf
    refine ⟨by first | assumption | decide, ?_⟩
    conv => whnf
    rw [zset_ne (by omega), hw.2.1]
    refine ⟨hb, Or.inl rfl, vp_in_nI hl (by decide), ?_⟩
    conv => whnf
    refine ⟨by first | assumption | decide, ?_⟩
    conv => whnf
    refine ⟨by first | assumption | decide, ?_⟩
    conv => whnf
    rw [zset_ne (by omega), zset_ne (by omega), hw.2.1, nI_1', nI_clamp (by omega)]
    refine fin _ _ (by rw [show capl c = false from decide_eq_false (by omega)]; rfl) ?_
    rw [pk_sub h97.1, lpos, if_pos h97.1]
theorem s_BR_hasCapital {b : Nat} {w : List (Nat × Bool)} (hb : b < 3) (hw : isBR M b w) (hZ : Z (some (zi (b2i (bcap w)))) M) : Ctr 0 G mi_BR_hasCapital [zr 2 b] M Z := by
  have hl := hw.1
  have lp : ∀ i, i ≤ w.length → (w.take i).any (fun q => q.2) = false → V 0 G mi_BR_hasCapital Z 2 [(0, zr 2 b), (1, zi (nI i))] [] M := by
    refine up_to ?_ ?_
    · intro h
      rw [List.take_length] at h
      refine z_run (cuts := cu_BR_hasCapital) ok_BR_hasCapital (fun Kz hKz => ?_)
      conv => whnf
      refine ⟨by first | assumption | decide, ?_⟩
      conv => whnf
      rw [hw.2.1, nI_leI (by omega) (by omega)]
      refine ⟨fun _ => ?_, fun q => absurd (Nat.le_refl _) q⟩
      conv => whnf
      rw [bcap, h] at hZ
      exact ⟨Or.inl rfl, hZ⟩
    · intro i hi ih h
      have hq : w[i]? = some w[i] := List.getElem?_eq_getElem hi
      have hv := (hw.2.2 i _ hq).2.2
      refine z_run (cuts := cu_BR_hasCapital) ok_BR_hasCapital (fun Kz hKz => ?_)
      conv => whnf
      refine ⟨by first | assumption | decide, ?_⟩
      conv => whnf
      rw [hw.2.1, nI_leI (by omega) (by omega)]
      refine ⟨fun q => absurd q (by omega), fun _ => ?_⟩
      conv => whnf
      refine ⟨by first | assumption | decide, ?_⟩
      conv => whnf
      refine s_BR_isCapitalAt hb (by omega) hv ?_
      conv => whnf
      cases hc : w[i].2
      · first | refine ⟨fun _ => ?_, fun q => absurd (by decide) q⟩ | refine ⟨fun q => absurd q (by decide), fun _ => ?_⟩
        conv => whnf
        refine hKz _ _ _ _ ?_
        rw [nI_1']
        refine ih ?_
        rw [List.take_succ, hq, List.any_append, h]
        simp [hc]
      · first | refine ⟨fun _ => ?_, fun q => absurd (by decide) q⟩ | refine ⟨fun q => absurd q (by decide), fun _ => ?_⟩
        conv => whnf
        have : bcap w = true := by
          rw [bcap, List.any_eq_true]
          exact ⟨w[i], List.getElem_mem hi, hc⟩
        rw [this] at hZ
        exact ⟨Or.inr rfl, hZ⟩
  refine go_BR_hasCapital (fun Kz hKz => ?_)
  conv => whnf
  refine hKz _ _ _ _ ?_
  exact lp 0 (Nat.zero_le _) rfl
theorem bstr_app (u : List (Nat × Bool)) (q : Nat × Bool) : bstr (u ++ [q]) = max (bstr u) (q.1 + 2) := by
  induction u with
  | nil => simp [bstr]
  | cons a r ih => simp only [List.cons_append, bstr, ih]; omega
theorem s_BR_strands {b : Nat} {w : List (Nat × Bool)} (hb : b < 3) (hw : isBR M b w) (hZ : Z (some (zi (nI (bstr w)))) M) : Ctr 0 G mi_BR_strands [zr 2 b] M Z := by
  have hl := hw.1
  have hs : ∀ i, i ≤ w.length → bstr (w.take i) ≤ 4 := by
    intro i
    induction i with
    | zero => intro _; simp [bstr]
    | succ i ih =>
      intro hi
      have hq : w[i]? = some w[i] := List.getElem?_eq_getElem (by omega)
      have := (hw.2.2 i _ hq).1
      have h2 := ih (by omega)
      rw [List.take_succ, hq, Option.toList_some, bstr_app]
      omega
  have lp : ∀ i, i ≤ w.length → V 0 G mi_BR_strands Z 4 [(0, zr 2 b), (1, zi (nI (bstr (w.take i)))), (2, zi (nI i))] [] M := by
    refine up_to ?_ ?_
    · refine z_run (cuts := cu_BR_strands) ok_BR_strands (fun Kz hKz => ?_)
      conv => whnf
      refine ⟨by first | assumption | decide, ?_⟩
      conv => whnf
      rw [hw.2.1, nI_leI (by omega) (by omega)]
      refine ⟨fun _ => ?_, fun q => absurd (Nat.le_refl _) q⟩
      conv => whnf
      rw [List.take_length]
      exact hZ
    · intro i hi ih
      have hq : w[i]? = some w[i] := List.getElem?_eq_getElem hi
      have hv := hw.2.2 i _ hq
      have hsi := hs i (by omega)
      refine z_run (cuts := cu_BR_strands) ok_BR_strands (fun Kz hKz => ?_)
      conv => whnf
      refine ⟨by first | assumption | decide, ?_⟩
      conv => whnf
      rw [hw.2.1, nI_leI (by omega) (by omega)]
      refine ⟨fun q => absurd q (by omega), fun _ => ?_⟩
      conv => whnf
      refine ⟨by first | assumption | decide, ?_⟩
      conv => whnf
      refine s_BR_position hb (by omega) ?_
      conv => whnf
      rw [hv.2.1]
      refine hKz _ _ _ _ ?_
      rw [nI_1', nI_add]
      have e : (if nI (bstr (w.take i)) < nI (w[i].1 + 2) then nI (w[i].1 + 2) else nI (bstr (w.take i))) = nI (bstr (w.take (i + 1))) := by
        rw [List.take_succ, hq, Option.toList_some, bstr_app]
        by_cases h : bstr (w.take i) < w[i].1 + 2
        · rw [if_pos (nI_lt h (by omega)), Nat.max_eq_right (by omega)]
        · rw [if_neg (nI_nlt (by omega) (by omega)), Nat.max_eq_left (by omega)]
      rw [e]
      exact ih
  refine go_BR_strands (fun Kz hKz => ?_)
  conv => whnf
  refine hKz _ _ _ _ ?_
  exact lp 0 (Nat.zero_le _)
end
