/-! the law: copies, numbers of a code, permutations and units out of a cell, groups' products, braces -/
/-- the inner row of 'names': the unused number with s unused ones before it, how many were seen -/
def pk2 (left s : Nat) : Nat → Nat × Nat
  | 0 => (0, 0)
  | k + 1 => if left.testBit k then ((if (pk2 left s k).2 = s then k else (pk2 left s k).1), (pk2 left s k).2 + 1) else pk2 left s k
theorem pk2_le (left s : Nat) : ∀ k, (pk2 left s k).2 ≤ k ∧ (pk2 left s k).1 ≤ k := by
  intro k
  induction k with
  | zero => exact ⟨Nat.le_refl _, Nat.le_refl _⟩
  | succ k ih =>
    rw [pk2]
    split
    · refine ⟨by show (pk2 left s k).2 + 1 ≤ k + 1; omega, ?_⟩
      show (if _ then k else (pk2 left s k).1) ≤ k + 1
      split <;> omega
    · exact ⟨by omega, by omega⟩
def nmL (n : Nat) : Nat → List (Nat × Nat)
  | 0 => [(0, 2 ^ n - 1)]
  | i + 1 => (nmL n i).flatMap fun q => (List.range (n - i)).map fun r => (q.1 ||| (pk2 q.2 r n).1 * 2 ^ (3 * i), q.2 &&& (1 * 2 ^ (pk2 q.2 r n).1 ^^^ 4294967295))
theorem nmL_next {n i r : Nat} {q : Nat × Nat} (h : q ∈ nmL n i) (hr : r < n - i) : (q.1 ||| (pk2 q.2 r n).1 * 2 ^ (3 * i), q.2 &&& (1 * 2 ^ (pk2 q.2 r n).1 ^^^ 4294967295)) ∈ nmL n (i + 1) :=
  List.mem_flatMap.mpr ⟨q, h, List.mem_map.mpr ⟨r, List.mem_range.mpr hr, rfl⟩⟩
def isPB (m n : Nat) : Bool := decide (m < 8 ^ n ∧ (∀ i, i < n → m / 8 ^ i % 8 < n) ∧ st8 m n = 2 ^ n - 1)
theorem isPB_iff {m n : Nat} (h : isPB m n = true) : isP m n := by
  have := of_decide_eq_true h
  exact ⟨⟨this.1, this.2.1⟩, this.2.2⟩
def nmB (n : Nat) : Bool := (nmL n n).all fun q => isPB q.1 n
theorem nmB_all : ∀ n, n ≤ 6 → nmB n = true := by decide +kernel
def nmC (n : Nat) : Bool := (List.range (n + 1)).all fun i => (nmL n i).all fun q => decide (q.2 < 64)
theorem nmC_all : ∀ n, n ≤ 6 → nmC n = true := by decide +kernel
theorem nmL_lt {n i : Nat} {q : Nat × Nat} (hn : n ≤ 6) (hi : i ≤ n) (h : q ∈ nmL n i) : q.2 < 64 := by
  have h1 := nmC_all n hn
  unfold nmC at h1
  have h2 := List.all_eq_true.mp h1 i (List.mem_range.mpr (by omega))
  exact of_decide_eq_true (List.all_eq_true.mp h2 q h)
theorem nmL_isP {n : Nat} {q : Nat × Nat} (hn : n ≤ 6) (h : q ∈ nmL n n) : isP q.1 n := isPB_iff (List.all_eq_true.mp (nmB_all n hn) q h)
/-- 'units' -/
def wls (n : Nat) : List Nat := if n = 5 then [1, 2, 3, 4] else [1, n - 1]
def unL (n : Nat) : Nat → List Nat
  | 0 => [0]
  | i + 1 => (unL n i).flatMap fun c => (wls n).map fun w => c ||| w * 2 ^ (3 * i)
def unB (n : Nat) : Bool := (unL n n).all fun c => decide (c < 8 ^ n) && (List.range n).all fun a => decide (n < 2) || un n (dg c a)
theorem unB_all : ∀ n, n ≤ 6 → unB n = true := by decide +kernel
theorem unL_lt {n c : Nat} (hn : n ≤ 6) (h : c ∈ unL n n) : c < 8 ^ n := by
  have h1 := List.all_eq_true.mp (unB_all n hn) c h
  simp only [Bool.and_eq_true, decide_eq_true_eq] at h1
  exact h1.1
theorem unL_areU {n c : Nat} (h2 : 2 ≤ n) (hn : n ≤ 6) (h : c ∈ unL n n) : areU n c := by
  have h1 := List.all_eq_true.mp (unB_all n hn) c h
  simp only [Bool.and_eq_true, decide_eq_true_eq] at h1
  refine ⟨h1.1, fun a ha => ?_⟩
  have h3 := List.all_eq_true.mp h1.2 a (List.mem_range.mpr ha)
  rw [decide_eq_false (show ¬ n < 2 by omega), Bool.false_or] at h3
  exact h3
theorem n_ones : (-1 : Int32) = nI 4294967295 := by decide +kernel
theorem n_ti0 {a : Nat} (ha : a < 2 ^ 32) : nI a = nI 0 ↔ a = 0 := by
  constructor
  · intro h
    have h1 := congrArg (fun z : Int32 => z.toBitVec.toNat) h
    have h2 : (nI a).toBitVec.toNat = (nI 0).toBitVec.toNat := h1
    rw [n_tn ha, n_tn (by decide)] at h2
    exact h2
  · intro h; rw [h]
theorem n_mod32 (a : Nat) : nI a = nI (a % 2 ^ 32) := n_ext (by
  rw [n_bv, n_bv]
  apply BitVec.eq_of_toNat_eq
  rw [BitVec.toNat_ofNat, BitVec.toNat_ofNat, Nat.mod_mod])
section
variable {G : ZG} {M : ZM} {Z : Option ZV → ZM → Prop} {S : ZS}
theorem h_digit {m i : Nat} (hm : m < 2 ^ 32) (hi : i ≤ 9) (hZ : Z (some (zi (nI (dg m i)))) M) : Ctr 0 G mi_LW_digit [zi (nI m), zi (nI i)] M Z := by
  refine go_LW_digit (fun Kz hKz => ?_)
  conv => whnf
  rw [pk_mul, n_dig hm i hi]
  exact hZ
theorem h_copies {to : Nat} {A : ZP} (hto : to < 4) (hA : isH M 4 A) (hL : LH M S) (hZ : ∀ M', hfr M M' → LH M' (upS S to A) → Z none M') : Ctr 0 G mi_LW_copies [zr 20 0, zi (nI 4), zi (nI to)] M Z := by
  have lp : ∀ k, k ≤ 8 → ∀ M', hfr M M' → (∀ c, M'.2 20 0 c = if 8 * to ≤ c ∧ c < 8 * to + k then M.2 20 0 (32 + (c - 8 * to)) else M.2 20 0 c) → V 0 G mi_LW_copies Z 2 [(0, zr 20 0), (1, zi (nI 4)), (2, zi (nI to)), (3, zi (nI k))] [] M' := by
    refine up_to ?_ ?_
    · intro M' h1 h2
      have e1 : ∀ m x, m < 4 → x < 6 → hw M' m x = if m = to then hw M 4 x else hw M m x := by
        intro m x hm hx
        unfold hw
        rw [h2]
        by_cases q : m = to
        · rw [if_pos q, if_pos (by omega), show 32 + (8 * m + 1 + x - 8 * to) = 8 * 4 + 1 + x by omega]
        · rw [if_neg q, if_neg (by omega)]
      have e4 : ∀ x, x < 6 → hw M' 4 x = hw M 4 x := by
        intro x hx
        unfold hw
        rw [h2, if_neg (by omega)]
      have hM' : hok M' := by
        intro m hm x hx
        by_cases q4 : m = 4
        · rw [q4, e4 x hx]; exact hL.1 4 (by decide) x hx
        · rw [e1 m x (by omega) hx]
          split
          · exact hL.1 4 (by decide) x hx
          · exact hL.1 m hm x hx
      have hL' : LH M' (upS S to A) := by
        refine ⟨hM', fun m hm => ?_⟩
        simp only [upS]
        by_cases q : m = to
        · rw [if_pos q, q]
          have hn := hA.1.1
          refine ⟨hA.1, ?_, fun x y hx hy => ?_⟩
          · rw [h2, if_pos (by omega), show 32 + (8 * to - 8 * to) = 8 * 4 by omega]
            exact hA.2.1
          · unfold hcl hcr
            rw [e1 to x hto (by omega), if_pos rfl]
            exact hA.2.2 x y hx hy
        · rw [if_neg q]
          have hB := hL.2 m hm
          have hn := hB.1.1
          refine ⟨hB.1, ?_, fun x y hx hy => ?_⟩
          · rw [h2, if_neg (by omega)]
            exact hB.2.1
          · unfold hcl hcr
            rw [e1 m x hm (by omega), if_neg q]
            exact hB.2.2 x y hx hy
      refine z_run (cuts := cu_LW_copies) ok_LW_copies (fun Kz hKz => ?_)
      conv => whnf
      rw [nI_leI (by decide) (by decide)]
      first | refine ⟨fun _ => ?_, fun q => absurd (by decide) q⟩ | refine ⟨fun q => absurd q (by decide), fun _ => ?_⟩
      conv => whnf
      exact hZ M' h1 hL'
    · intro k hk ih M' h1 h2
      refine z_run (cuts := cu_LW_copies) ok_LW_copies (fun Kz hKz => ?_)
      conv => whnf
      rw [nI_leI (by omega) (by omega)]
      refine ⟨fun q => absurd q (by omega), fun _ => ?_⟩
      conv => whnf
      rw [pk_mul, nI_add]
      refine ⟨vp_in_nI (by omega) (by decide), ?_⟩
      conv => whnf
      rw [pk_mul, nI_add]
      refine ⟨vp_in_nI (by omega) (by decide), ?_⟩
      conv => whnf
      refine hKz _ _ _ _ ?_
      rw [nI_clamp (by omega), nI_clamp (by omega), nI_1']
      refine ih _ (hfr_trans h1 ⟨rfl, fun a b q => zsetL_off q⟩) (fun c => ?_)
      by_cases q : c = 8 * to + k
      · rw [q, zsetL_eq, h2, if_neg (by omega), if_pos (by omega), show 8 * 4 + k = 32 + (8 * to + k - 8 * to) by omega]
      · rw [zsetL_ne (by omega), h2]
        by_cases q2 : 8 * to ≤ c ∧ c < 8 * to + k
        · rw [if_pos q2, if_pos (by omega)]
        · rw [if_neg q2, if_neg (by omega)]
  refine go_LW_copies (fun Kz hKz => ?_)
  conv => whnf
  refine hKz _ _ _ _ ?_
  exact lp 0 (Nat.zero_le _) M (hfr_refl M) (fun c => by rw [if_neg (by omega)])
theorem h_names {n : Nat} {v : Int32} (h1 : 1 ≤ n) (h6 : n ≤ 6) (hZ : ∀ f, isP f n → Z (some (zi (nI f))) M) : Ctr 0 G mi_LW_names [zi (nI n), zi v] M Z := by
  have outer : ∀ i, i ≤ n → ∀ q, q ∈ nmL n i → V 0 G mi_LW_names Z 11 [(0, zi (nI n)), (1, zi v), (2, zi (nI q.1)), (3, zi (nI q.2)), (4, zi (nI i))] [] M := by
    refine up_to ?_ ?_
    · intro q hq
      refine z_run (cuts := cu_LW_names) ok_LW_names (fun Kz hKz => ?_)
      conv => whnf
      rw [nI_leI (by omega) (by omega)]
      refine ⟨fun _ => ?_, fun q => absurd (by omega) q⟩
      conv => whnf
      exact hZ _ (nmL_isP h6 hq)
    · intro i hi ih q hq
      have hlt := nmL_lt h6 (by omega) hq
      refine z_run (cuts := cu_LW_names) ok_LW_names (fun Kz hKz => ?_)
      conv => whnf
      rw [nI_leI (by omega) (by omega)]
      refine ⟨fun q => absurd q (by omega), fun _ => ?_⟩
      conv => whnf
      rw [pk_sub (by omega)]
      refine h_low (by omega) (by omega) (fun r hr => ?_)
      conv => whnf
      refine hKz _ _ _ _ ?_
      have inner : ∀ k, k ≤ n → V 0 G mi_LW_names Z 38 [(0, zi (nI n)), (1, zi v), (2, zi (nI q.1)), (3, zi (nI q.2)), (4, zi (nI i)), (5, zi (nI (r + 4294967295 * (pk2 q.2 r k).2))), (6, zi (nI (pk2 q.2 r k).1)), (7, zi (nI k))] [] M := by
        refine up_to ?_ ?_
        · have hp := (pk2_le q.2 r n).2
          refine z_run (cuts := cu_LW_names) ok_LW_names (fun Kz hKz => ?_)
          conv => whnf
          rw [nI_leI (by omega) (by omega)]
          refine ⟨fun _ => ?_, fun q => absurd (by omega) q⟩
          conv => whnf
          refine hKz _ _ _ _ ?_
          have h := ih _ (nmL_next hq hr)
          rw [n_shl _ _ (by omega), n_ones, n_xor, n_and, pk_mul, n_shl _ _ (by omega), n_or, nI_1']
          exact h
        · intro k hk ih2
          have hp := pk2_le q.2 r k
          refine z_run (cuts := cu_LW_names) ok_LW_names (fun Kz hKz => ?_)
          conv => whnf
          rw [nI_leI (by omega) (by omega)]
          refine ⟨fun q => absurd q (by omega), fun _ => ?_⟩
          conv => whnf
          rw [n_shr k (by omega) (by omega), n_and, Nat.and_one_is_mod, nI_eq (by omega) (by decide)]
          have ht : q.2.testBit k = decide (q.2 / 2 ^ k % 2 = 1) := by rw [Nat.testBit_eq_decide_div_mod_eq]
          refine ⟨fun e => ?_, fun e => ?_⟩
          · conv => whnf
            rw [pk2, if_neg (by rw [ht]; simpa using e)] at ih2
            refine hKz _ _ _ _ ?_
            rw [nI_1']
            exact ih2
          · have e : q.2 / 2 ^ k % 2 = 1 := by omega
            rw [pk2, if_pos (by rw [ht]; simpa using e)] at ih2
            have e2 : nI (r + 4294967295 * (pk2 q.2 r k).2) = nI 0 ↔ (pk2 q.2 r k).2 = r := by
              rw [n_mod32, n_ti0 (Nat.mod_lt _ (by decide))]
              omega
            have e3 : nI (r + 4294967295 * (pk2 q.2 r k).2) + -1 = nI (r + 4294967295 * ((pk2 q.2 r k).2 + 1)) := by
              rw [n_ones, nI_add, Nat.mul_add, Nat.mul_one, Nat.add_assoc]
            conv => whnf
            rw [e2]
            refine ⟨fun g => ?_, fun g => ?_⟩
            · rw [if_neg g] at ih2
              conv => whnf
              refine hKz _ _ _ _ ?_
              rw [e3, nI_1']
              exact ih2
            · have g : (pk2 q.2 r k).2 = r := Decidable.not_not.mp g
              rw [if_pos g] at ih2
              conv => whnf
              refine hKz _ _ _ _ ?_
              rw [e3, nI_1']
              exact ih2
      exact inner 0 (Nat.zero_le _)
  refine go_LW_names (fun Kz hKz => ?_)
  conv => whnf
  rw [n_shl _ _ (by omega), pk_sub (by have := Nat.two_pow_pos n; omega), Nat.one_mul]
  refine hKz _ _ _ _ ?_
  exact outer 0 (Nat.zero_le _) (0, 2 ^ n - 1) (List.mem_singleton.mpr rfl)
end
