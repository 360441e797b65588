/-! the reference: frames, maps, its first methods -/
def rf (F : Nat → Nat → Prop) (M M' : ZM) : Prop := M'.2 = M.2 ∧ ∀ a b c, ¬ (b = 0 ∧ F a c) → M'.1 a b c = M.1 a b c
theorem rf_refl (F : Nat → Nat → Prop) (M : ZM) : rf F M M := ⟨rfl, fun _ _ _ _ => rfl⟩
theorem rf_trans {F : Nat → Nat → Prop} {M M' M'' : ZM} (h : rf F M M') (h' : rf F M' M'') : rf F M M'' := ⟨h'.1.trans h.1, fun a b c q => (h'.2 a b c q).trans (h.2 a b c q)⟩
theorem rf_mono {F F' : Nat → Nat → Prop} {M M' : ZM} (h : rf F M M') (hs : ∀ a c, F a c → F' a c) : rf F' M M' := ⟨h.1, fun a b c q => h.2 a b c (fun z => q ⟨z.1, hs a c z.2⟩)⟩
theorem rf_set {F : Nat → Nat → Prop} {M : ZM} {a c : Nat} {v : Int32} (h : F a c) : rf F M (zset a 0 c v M) := ⟨rfl, fun x y z q => by
  rw [zset_ne]
  rintro ⟨rfl, rfl, rfl⟩
  exact q ⟨rfl, h⟩⟩
def rgm (k a c : Nat) : Prop := (a = 21 ∧ c = k) ∨ ((a = 22 ∨ a = 23) ∧ 36 * k ≤ c ∧ c < 36 * k + 36)
def isRM (M : ZM) (k : Nat) (A : ZP) : Prop := pwf A ∧ M.1 21 0 k = nI A.1 ∧ ∀ x y, x < A.1 → y < A.1 → M.1 22 0 (36 * k + (6 * x + y)) = nI (A.2.1 x y) ∧ M.1 23 0 (36 * k + (6 * x + y)) = nI (A.2.2 x y)
theorem isRM_rf {F : Nat → Nat → Prop} {M M' : ZM} {k : Nat} {A : ZP} (h : isRM M k A) (hs : rf F M M') (hF : ∀ a c, F a c → ¬ rgm k a c) : isRM M' k A := by
  refine ⟨h.1, ?_, fun x y hx hy => ?_⟩
  · rw [hs.2 21 0 k (fun q => hF 21 k q.2 (Or.inl ⟨rfl, rfl⟩))]; exact h.2.1
  · have hn := h.1.1
    rw [hs.2 22 0 _ (fun q => hF 22 _ q.2 (Or.inr ⟨Or.inl rfl, by omega, by omega⟩)), hs.2 23 0 _ (fun q => hF 23 _ q.2 (Or.inr ⟨Or.inr rfl, by omega, by omega⟩))]
    exact h.2.2 x y hx hy
theorem n_nz {b : Nat} (h0 : 0 < b) (hb : b < 2 ^ 31) : ¬ nI b = nI 0 := by rw [nI_eq hb (by decide)]; omega
/-! ints as longs -/
theorem i64_ti {m : Nat} (hm : m < 2 ^ 32) : (nI m).toInt64.toInt = if m < 2 ^ 31 then (m : Int) else (m : Int) - 2 ^ 32 := by
  rw [Int32.toInt_toInt64]
  by_cases q : m < 2 ^ 31
  · rw [if_pos q, nI_toInt q]
  · rw [if_neg q, n_neg (by omega) hm]
theorem lg_lt0 (x y : Int64) : lg_cmp x y < nI 0 ↔ x < y := by rw [nI_0]; exact lg_cmp_lt x y
theorem lg_gt0 (x y : Int64) : nI 0 < lg_cmp x y ↔ y < x := by rw [nI_0]; exact lg_cmp_gt x y
theorem l_ti2 {a : Nat} (h : a < 2 ^ 63) : (lN a).toInt = a := l_ti h
def alb (p : Nat → Bool) : Nat → Bool
  | 0 => true
  | k + 1 => alb p k && p k
theorem alb_iff (p : Nat → Bool) : ∀ k, alb p k = true ↔ ∀ i, i < k → p i = true := by
  intro k
  induction k with
  | zero => exact ⟨fun _ i hi => absurd hi (Nat.not_lt_zero _), fun _ => rfl⟩
  | succ k ih =>
    rw [alb, Bool.and_eq_true, ih]
    constructor
    · rintro ⟨h1, h2⟩ i hi
      rcases Nat.lt_succ_iff_lt_or_eq.mp hi with hi | rfl
      · exact h1 i hi
      · exact h2
    · intro h
      exact ⟨fun i hi => h i (by omega), h k (by omega)⟩
theorem b2i_t : b2i true = nI 1 := rfl
theorem b2i_f : b2i false = nI 0 := rfl
section
variable {G : ZG} {M : ZM} {Z : Option ZV → ZM → Prop}
theorem s_R_in {m lo hi : Nat} (hm : m < 2 ^ 32) (hlo : lo < 2 ^ 31) (hhi : hi < 2 ^ 63) (h1 : lo ≤ m → m ≤ hi → m < 2 ^ 31 → Z (some (zi (nI 1))) M) (h2 : ¬ (lo ≤ m ∧ m ≤ hi ∧ m < 2 ^ 31) → Z (some (zi (nI 0))) M) : Ctr 0 G mi_R_in [zl (nI m).toInt64, zl (lN lo), zl (lN hi)] M Z := by
  have g1 : (nI m).toInt64 < lN lo ↔ ¬ (lo ≤ m ∧ m < 2 ^ 31) := by
    rw [Int64.lt_iff_toInt_lt, i64_ti hm, l_ti (by omega)]
    split <;> omega
  have g2 : lN hi < (nI m).toInt64 ↔ (hi < m ∧ m < 2 ^ 31) := by
    rw [Int64.lt_iff_toInt_lt, i64_ti hm, l_ti hhi]
    split <;> omega
  refine go_R_in (fun Kz hKz => ?_)
  conv => whnf
  rw [lg_lt0, g1]
  refine ⟨fun q => ?_, fun q => ?_⟩
  · conv => whnf
    exact ⟨Or.inl rfl, h2 (by omega)⟩
  · conv => whnf
    rw [lg_gt0, g2]
    refine ⟨fun q2 => ?_, fun q2 => ?_⟩
    · conv => whnf
      exact ⟨Or.inl rfl, h2 (by omega)⟩
    · conv => whnf
      exact ⟨Or.inr rfl, h1 (by omega) (by omega) (by omega)⟩
theorem s_R_isPlace {m : Nat} (hm : m < 2 ^ 32) (h1 : m < 4 → Z (some (zi (nI 1))) M) (h2 : ¬ m < 4 → Z (some (zi (nI 0))) M) : Ctr 0 G mi_R_isPlace [zi (nI m)] M Z := by
  refine go_R_isPlace (fun Kz hKz => ?_)
  conv => whnf
  refine s_R_in hm (by decide) (by decide) (fun _ e _ => ?_) (fun e => ?_)
  · conv => whnf
    exact ⟨Or.inr rfl, h1 (by omega)⟩
  · conv => whnf
    exact ⟨Or.inl rfl, h2 (by omega)⟩
theorem s_R_isBraid {m : Nat} (hm : m < 2 ^ 32) (h1 : m < 2 → Z (some (zi (nI 1))) M) (h2 : ¬ m < 2 → Z (some (zi (nI 0))) M) : Ctr 0 G mi_R_isBraid [zi (nI m)] M Z := by
  refine go_R_isBraid (fun Kz hKz => ?_)
  conv => whnf
  refine s_R_in hm (by decide) (by decide) (fun _ e _ => ?_) (fun e => ?_)
  · conv => whnf
    exact ⟨Or.inr rfl, h1 (by omega)⟩
  · conv => whnf
    exact ⟨Or.inl rfl, h2 (by omega)⟩
theorem s_R_isPoint {m x : Nat} {A : ZP} (hm : m < 6) (hx : x < 2 ^ 32) (h0 : 0 < A.1) (hA : isRM M m A) (h1 : x < A.1 → Z (some (zi (nI 1))) M) (h2 : ¬ x < A.1 → Z (some (zi (nI 0))) M) : Ctr 0 G mi_R_isPoint [zr 20 0, zi (nI m), zi (nI x)] M Z := by
  have hn := hA.1.1
  refine go_R_isPoint (fun Kz hKz => ?_)
  conv => whnf
  refine ⟨vp_in_nI hm (by decide), ?_⟩
  conv => whnf
  rw [nI_clamp (by omega), hA.2.1, pk_sub (by omega), nI_l (show A.1 - 1 < 2 ^ 31 by omega)]
  refine s_R_in hx (by decide) (by omega) (fun _ e _ => ?_) (fun e => ?_)
  · conv => whnf
    exact ⟨Or.inr rfl, h1 (by omega)⟩
  · conv => whnf
    exact ⟨Or.inl rfl, h2 (by omega)⟩
theorem s_R_l {m x y : Nat} {A : ZP} (hm : m < 6) (hA : isRM M m A) (hx : x < A.1) (hy : y < A.1) (hZ : Z (some (zi (nI (A.2.1 x y)))) M) : Ctr 0 G mi_R_l [zr 20 0, zi (nI m), zi (nI x), zi (nI y)] M Z := by
  have hn := hA.1.1
  refine go_R_l (fun Kz hKz => ?_)
  conv => whnf
  rw [pk_mul, pk_mul, nI_add, nI_add, Nat.add_assoc]
  refine ⟨vp_in_nI (by omega) (by decide), ?_⟩
  conv => whnf
  rw [nI_clamp (by omega), (hA.2.2 x y hx hy).1]
  exact hZ
theorem s_R_r {m x y : Nat} {A : ZP} (hm : m < 6) (hA : isRM M m A) (hx : x < A.1) (hy : y < A.1) (hZ : Z (some (zi (nI (A.2.2 x y)))) M) : Ctr 0 G mi_R_r [zr 20 0, zi (nI m), zi (nI x), zi (nI y)] M Z := by
  have hn := hA.1.1
  refine go_R_r (fun Kz hKz => ?_)
  conv => whnf
  rw [pk_mul, pk_mul, nI_add, nI_add, Nat.add_assoc]
  refine ⟨vp_in_nI (by omega) (by decide), ?_⟩
  conv => whnf
  rw [nI_clamp (by omega), (hA.2.2 x y hx hy).2]
  exact hZ
theorem s_R_lay {m x y : Nat} {u v : Int32} (hm : m < 6) (hx : x < 6) (hy : y < 6) (hZ : Z none (zset 23 0 (36 * m + (6 * x + y)) v (zset 22 0 (36 * m + (6 * x + y)) u M))) : Ctr 0 G mi_R_lay [zr 20 0, zi (nI m), zi (nI x), zi (nI y), zi u, zi v] M Z := by
  refine go_R_lay (fun Kz hKz => ?_)
  conv => whnf
  rw [pk_mul, pk_mul, nI_add, nI_add, Nat.add_assoc]
  refine ⟨vp_in_nI (by omega) (by decide), ?_⟩
  conv => whnf
  rw [nI_clamp (by omega), pk_mul, pk_mul, nI_add, nI_add, Nat.add_assoc]
  refine ⟨vp_in_nI (by omega) (by decide), ?_⟩
  conv => whnf
  rw [nI_clamp (by omega)]
  exact hZ
theorem s_R_copies {i j : Nat} {A : ZP} (hi : i < 6) (hj : j < 6) (hij : i ≠ j) (hA : isRM M i A) (hZ : ∀ M', rf (rgm j) M M' → isRM M' j A → Z none M') : Ctr 0 G mi_R_copies [zr 20 0, zi (nI i), zi (nI j)] M Z := by
  have lp : ∀ k, k ≤ 36 → ∀ M', rf (rgm j) M M' → M'.1 21 0 j = nI A.1 → (∀ c, c < k → M'.1 22 0 (36 * j + c) = M.1 22 0 (36 * i + c) ∧ M'.1 23 0 (36 * j + c) = M.1 23 0 (36 * i + c)) → V 0 G mi_R_copies Z 14 [(0, zr 20 0), (1, zi (nI i)), (2, zi (nI j)), (3, zi (nI k))] [] M' := by
    refine up_to ?_ ?_
    · intro M' g1 g2 g3
      refine z_run (cuts := cu_R_copies) ok_R_copies (fun Kz hKz => ?_)
      conv => whnf
      first | refine ⟨fun _ => ?_, fun q => absurd (by decide) q⟩ | refine ⟨fun q => absurd q (by decide), fun _ => ?_⟩
      conv => whnf
      have hn := hA.1.1
      exact hZ M' g1 ⟨hA.1, g2, fun x y hx hy => by
        have h1 := hA.2.2 x y hx hy
        have h2 := g3 (6 * x + y) (by omega)
        rw [h2.1, h2.2]
        exact h1⟩
    · intro k hk ih M' g1 g2 g3
      refine z_run (cuts := cu_R_copies) ok_R_copies (fun Kz hKz => ?_)
      conv => whnf
      rw [nI_leI (by omega) (by omega)]
      refine ⟨fun q => absurd q (by omega), fun _ => ?_⟩
      conv => whnf
      rw [pk_mul, nI_add, pk_mul, nI_add]
      refine ⟨vp_in_nI (by omega) (by decide), ?_⟩
      conv => whnf
      refine ⟨vp_in_nI (by omega) (by decide), ?_⟩
      conv => whnf
      rw [nI_clamp (by omega), nI_clamp (by omega), pk_mul, nI_add, pk_mul, nI_add]
      refine ⟨vp_in_nI (by omega) (by decide), ?_⟩
      conv => whnf
      refine ⟨vp_in_nI (by omega) (by decide), ?_⟩
      conv => whnf
      refine hKz _ _ _ _ ?_
      rw [nI_clamp (by omega), nI_clamp (by omega), nI_1']
      refine ih _ (rf_trans (rf_trans g1 (rf_set (Or.inr ⟨Or.inl rfl, by omega, by omega⟩))) (rf_set (Or.inr ⟨Or.inr rfl, by omega, by omega⟩))) ?_ (fun c hc => ?_)
      · rw [zset_ne (by omega), zset_ne (by omega)]; exact g2
      · rw [zset_ne (by omega)]
        by_cases e : c = k
        · subst e
          rw [zset_eq, zset_eq, zset_ne (by omega), g1.2 22 0 (36 * i + c) (fun q => by rcases q.2 with q | q <;> omega), g1.2 23 0 (36 * i + c) (fun q => by rcases q.2 with q | q <;> omega)]
          exact ⟨rfl, rfl⟩
        · rw [zset_ne (by omega), zset_ne (by omega), zset_ne (by omega)]
          exact g3 c (by omega)
  refine go_R_copies (fun Kz hKz => ?_)
  conv => whnf
  refine ⟨vp_in_nI hi (by decide), ?_⟩
  conv => whnf
  refine ⟨vp_in_nI hj (by decide), ?_⟩
  conv => whnf
  refine hKz _ _ _ _ ?_
  rw [nI_clamp (by omega), nI_clamp (by omega), hA.2.1]
  exact lp 0 (Nat.zero_le _) _ (rf_set (Or.inl ⟨rfl, rfl⟩)) zset_eq (fun c hc => absurd hc (Nat.not_lt_zero _))
theorem s_R_comes {j : Nat} {A : ZP} (hj : j < 4) (hA : isRM M 4 A) (hZ : ∀ M', rf (rgm j) M M' → isRM M' j A → Z (some (zi (nI A.1))) M') : Ctr 0 G mi_R_comes [zr 20 0, zi (nI j)] M Z := by
  refine go_R_comes (fun Kz hKz => ?_)
  conv => whnf
  refine s_R_copies (by decide) (by omega) (by omega) hA (fun M' g1 g2 => ?_)
  conv => whnf
  refine ⟨vp_in_nI (by omega) (by decide), ?_⟩
  conv => whnf
  rw [nI_clamp (by omega), g2.2.1]
  exact hZ M' g1 g2
theorem s_R_digit {m i : Nat} (hm : m < 2 ^ 32) (hi : i ≤ 9) (hZ : Z (some (zi (nI (m / 8 ^ i % 8)))) M) : Ctr 0 G mi_R_digit [zi (nI m), zi (nI i)] M Z := by
  refine go_R_digit (fun Kz hKz => ?_)
  conv => whnf
  rw [pk_mul, n_dig hm i hi]
  exact hZ
theorem s_R_isCode {m k : Nat} (hm : m < 2 ^ 32) (hk : k ≤ 6) (hZ : Z (some (zi (b2i (decide (m < 8 ^ k))))) M) : Ctr 0 G mi_R_isCode [zi (nI m), zi (nI k)] M Z := by
  have h8 := p8_le hk
  have hp : 0 < 8 ^ k := Nat.pow_pos (by decide)
  have e : 2 ^ (3 * k) = 8 ^ k := by rw [Nat.pow_mul]
  refine go_R_isCode (fun Kz hKz => ?_)
  conv => whnf
  rw [pk_mul, l_shl _ _ (by omega), Nat.one_mul, e, lN_sub (by omega)]
  refine s_R_in hm (by decide) (by omega) (fun _ q _ => ?_) (fun q => ?_)
  · rw [decide_eq_true (show m < 8 ^ k by omega)] at hZ
    conv => whnf
    exact ⟨Or.inr rfl, hZ⟩
  · rw [decide_eq_false (show ¬ m < 8 ^ k by omega)] at hZ
    conv => whnf
    exact ⟨Or.inl rfl, hZ⟩
theorem s_R_arePoints {m k n : Nat} (hm : m < 2 ^ 32) (hk : k ≤ 6) (hn : n ≤ 6) (h1 : isC m k n → Z (some (zi (nI 1))) M) (h2 : ¬ isC m k n → Z (some (zi (nI 0))) M) : Ctr 0 G mi_R_arePoints [zi (nI m), zi (nI k), zi (nI n)] M Z := by
  have lp : ∀ i, i ≤ k → ∀ b, b = (decide (m < 8 ^ k) && alb (fun j => decide (m / 8 ^ j % 8 < n)) i) → V 0 G mi_R_arePoints Z 9 [(0, zi (nI m)), (1, zi (nI k)), (2, zi (nI n)), (3, zi (b2i b)), (4, zi (nI i))] [] M := by
    refine up_to ?_ ?_
    · intro b hb
      refine z_run (cuts := cu_R_arePoints) ok_R_arePoints (fun Kz hKz => ?_)
      conv => whnf
      rw [nI_leI (by omega) (by omega)]
      refine ⟨fun _ => ?_, fun q => absurd (by omega) q⟩
      conv => whnf
      cases hb2 : b with
      | true =>
        rw [hb2] at hb
        have hb3 := hb.symm
        rw [Bool.and_eq_true, alb_iff, decide_eq_true_iff] at hb3
        exact ⟨Or.inr rfl, h1 ⟨hb3.1, fun i hi => of_decide_eq_true (hb3.2 i hi)⟩⟩
      | false =>
        rw [hb2] at hb
        refine ⟨Or.inl rfl, h2 (fun q => ?_)⟩
        have : (decide (m < 8 ^ k) && alb (fun j => decide (m / 8 ^ j % 8 < n)) k) = true := by
          rw [Bool.and_eq_true, alb_iff, decide_eq_true_iff]
          exact ⟨q.1, fun i hi => decide_eq_true (q.2 i hi)⟩
        rw [← hb] at this
        cases this
    · intro i hi ih b hb
      have hd := d8 m i
      have ih2 : ∀ c : Bool, (c = true ↔ (b = true ∧ m / 8 ^ i % 8 < n)) → V 0 G mi_R_arePoints Z 9 [(0, zi (nI m)), (1, zi (nI k)), (2, zi (nI n)), (3, zi (b2i c)), (4, zi (nI (i + 1)))] [] M := fun c hc => ih c (by
        rw [Bool.eq_iff_iff, hc, hb, alb, Bool.and_eq_true, Bool.and_eq_true, Bool.and_eq_true, decide_eq_true_iff, decide_eq_true_iff, and_assoc])
      refine z_run (cuts := cu_R_arePoints) ok_R_arePoints (fun Kz hKz => ?_)
      conv => whnf
      rw [nI_leI (by omega) (by omega)]
      refine ⟨fun q => absurd q (by omega), fun _ => ?_⟩
      conv => whnf
      cases hb2 : b with
      | false =>
        first | refine ⟨fun _ => ?_, fun q => absurd (by decide) q⟩ | refine ⟨fun q => absurd q (by decide), fun _ => ?_⟩
        conv => whnf
        refine hKz _ _ _ _ ?_
        rw [nI_1']
        exact ih2 false (by rw [hb2]; simp)
      | true =>
        first | refine ⟨fun _ => ?_, fun q => absurd (by decide) q⟩ | refine ⟨fun q => absurd q (by decide), fun _ => ?_⟩
        conv => whnf
        refine s_R_digit hm (by omega) ?_
        conv => whnf
        rw [nI_leI (by omega) (by omega)]
        refine ⟨fun q => ?_, fun q => ?_⟩
        · conv => whnf
          refine hKz _ _ _ _ ?_
          rw [nI_1']
          exact ih2 false (by rw [hb2]; simp; omega)
        · conv => whnf
          refine hKz _ _ _ _ ?_
          rw [nI_1']
          exact ih2 true (by rw [hb2]; simp; omega)
  refine go_R_arePoints (fun Kz hKz => ?_)
  conv => whnf
  refine s_R_isCode hm hk ?_
  conv => whnf
  refine hKz _ _ _ _ ?_
  exact lp 0 (Nat.zero_le _) _ (by rw [alb, Bool.and_true])
theorem s_R_isPermutation {m n : Nat} (hm : m < 2 ^ 32) (hn : n ≤ 6) (h1 : isP m n → Z (some (zi (nI 1))) M) (h2 : ¬ isP m n → Z (some (zi (nI 0))) M) : Ctr 0 G mi_R_isPermutation [zi (nI m), zi (nI n)] M Z := by
  have hst : ∀ i, i ≤ n → st8 m i < 2 ^ 31 := fun i hi => by
    have : st8 m i < 2 ^ 8 := by
      refine Classical.byContradiction fun q => ?_
      obtain ⟨b, hb1, hb2⟩ := Nat.exists_ge_and_testBit_of_ge_two_pow (Nat.le_of_not_lt q)
      obtain ⟨j, h3, h4⟩ := (st8_bit m i b).mp hb2
      have := d8 m j
      omega
    omega
  have lp : ∀ i, i ≤ n → V 0 G mi_R_isPermutation Z 4 [(0, zi (nI m)), (1, zi (nI n)), (2, zi (nI (st8 m i))), (3, zi (nI i))] [] M := by
    refine up_to ?_ ?_
    · have hs := hst n (Nat.le_refl _)
      have hp : 0 < 2 ^ n := Nat.two_pow_pos n
      have hp2 : 2 ^ n ≤ 2 ^ 6 := Nat.pow_le_pow_right (by decide) hn
      refine z_run (cuts := cu_R_isPermutation) ok_R_isPermutation (fun Kz hKz => ?_)
      conv => whnf
      rw [nI_leI (by omega) (by omega)]
      refine ⟨fun _ => ?_, fun q => absurd (by omega) q⟩
      conv => whnf
      refine s_R_arePoints hm hn hn (fun q => ?_) (fun q => ?_)
      · conv => whnf
        first | refine ⟨fun _ => ?_, fun q => absurd (by decide) q⟩ | refine ⟨fun q => absurd q (by decide), fun _ => ?_⟩
        conv => whnf
        rw [n_shl _ _ (by omega), Nat.one_mul, pk_sub hp, n_ne (by omega) (by omega)]
        refine ⟨fun z => ?_, fun z => ?_⟩
        · conv => whnf
          exact ⟨Or.inl rfl, h2 (fun y => z y.2)⟩
        · conv => whnf
          exact ⟨Or.inr rfl, h1 ⟨q, Classical.not_not.mp z⟩⟩
      · conv => whnf
        first | refine ⟨fun _ => ?_, fun q => absurd (by decide) q⟩ | refine ⟨fun q => absurd q (by decide), fun _ => ?_⟩
        conv => whnf
        exact ⟨Or.inl rfl, h2 (fun y => q y.1)⟩
    · intro i hi ih
      have hd := d8 m i
      refine z_run (cuts := cu_R_isPermutation) ok_R_isPermutation (fun Kz hKz => ?_)
      conv => whnf
      rw [nI_leI (by omega) (by omega)]
      refine ⟨fun q => absurd q (by omega), fun _ => ?_⟩
      conv => whnf
      refine s_R_digit hm (by omega) ?_
      conv => whnf
      refine hKz _ _ _ _ ?_
      rw [n_shl _ _ (by omega), n_or, nI_1', Nat.one_mul]
      exact ih
  refine go_R_isPermutation (fun Kz hKz => ?_)
  conv => whnf
  refine hKz _ _ _ _ ?_
  exact lp 0 (Nat.zero_le _)
end
