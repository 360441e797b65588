/-- the turned code of the first k digits -/
def tn (m : Nat) : Nat → Nat
  | 0 => 0
  | k + 1 => 8 * tn m k + m / 8 ^ k % 8
theorem tn_lt (m k : Nat) : tn m k < 8 ^ k := by
  induction k with
  | zero => exact Nat.one_pos
  | succ k ih =>
    have h : m / 8 ^ k % 8 < 8 := Nat.mod_lt _ (by decide)
    simp only [tn, Nat.pow_succ]
    omega
theorem n_or8 {a d : Nat} (hd : d < 8) : a * 2 ^ 3 ||| d = 8 * a + d := by
  have h := Nat.shiftLeft_add_eq_or_of_lt (a := a) (b := d) (i := 3) hd
  rw [Nat.shiftLeft_eq] at h
  rw [← h]
  omega
theorem p8_le {k : Nat} (hk : k ≤ 6) : 8 ^ k ≤ 262144 := by
  have : 8 ^ k ≤ 8 ^ 6 := Nat.pow_le_pow_right (by decide) hk
  omega
def isC (m k n : Nat) : Prop := m < 8 ^ k ∧ ∀ i, i < k → m / 8 ^ i % 8 < n
/-- the set of the first k digits -/
def st8 (m : Nat) : Nat → Nat
  | 0 => 0
  | k + 1 => st8 m k ||| 2 ^ (m / 8 ^ k % 8)
def isP (m n : Nat) : Prop := isC m n n ∧ st8 m n = 2 ^ n - 1
/-- number j of the sequences of k numbers below n, turned -/
def enc (n : Nat) : Nat → Nat → Nat
  | 0, _ => 0
  | k + 1, j => 8 * enc n k (j / n) + j % n
theorem enc_lt {n : Nat} (hn : n ≤ 8) (h0 : 0 < n) (k : Nat) : ∀ j, enc n k j < 8 ^ k := by
  induction k with
  | zero => intro j; exact Nat.one_pos
  | succ k ih =>
    intro j
    have h1 := ih (j / n)
    have h2 : j % n < n := Nat.mod_lt _ h0
    simp only [enc, Nat.pow_succ]
    omega
section
variable {G : ZG} {M : ZM} {Z : Option ZV → ZM → Prop}
theorem s_CO_turned {m k : Nat} (hm : m < 2 ^ 32) (hk : k ≤ 6) (hZ : Z (some (zi (nI (tn m k)))) M) : Ctr 0 G mi_CO_turned [zi (nI m), zi (nI k)] M Z := by
  have lp : ∀ i, i ≤ k → V 0 G mi_CO_turned Z 4 [(0, zi (nI m)), (1, zi (nI k)), (2, zi (nI (tn m i))), (3, zi (nI i))] [] M := by
    refine up_to ?_ ?_
    · refine z_run (cuts := cu_CO_turned) ok_CO_turned (fun Kz hKz => ?_)
      conv => whnf
      rw [nI_leI (by omega) (by omega)]
      refine ⟨fun _ => ?_, fun q => absurd (Nat.le_refl _) q⟩
      conv => whnf
      exact hZ
    · intro i hi ih
      refine z_run (cuts := cu_CO_turned) ok_CO_turned (fun Kz hKz => ?_)
      conv => whnf
      rw [nI_leI (by omega) (by omega)]
      refine ⟨fun q => absurd q (by omega), fun _ => ?_⟩
      conv => whnf
      refine s_CO_digit hm (by omega) ?_
      conv => whnf
      refine hKz _ _ _ _ ?_
      rw [n_shl _ 3 (by decide), n_or, n_or8 (Nat.mod_lt _ (by decide)), nI_1']
      exact ih
  refine go_CO_turned (fun Kz hKz => ?_)
  conv => whnf
  refine hKz _ _ _ _ ?_
  exact lp 0 (Nat.zero_le _)
theorem s_CO_isCode {m k n : Nat} (hm : m < 2 ^ 32) (hk : k ≤ 6) (hn : n ≤ 6) (h1 : isC m k n → Z (some (zi (nI 1))) M) (h2 : ¬ isC m k n → Z (some (zi (nI 0))) M) : Ctr 0 G mi_CO_isCode [zi (nI m), zi (nI k), zi (nI n)] M Z := by
  have hu : ((nI m).toUInt32 >>> ((nI 3 * nI k).toUInt32 &&& Int32.toUInt32 31)).toInt32 = nI (m / 8 ^ k) := by
    have hs : ∀ k, k ≤ 6 → (((nI 3 * nI k).toUInt32 &&& Int32.toUInt32 31).toBitVec % 32).toNat = 3 * k := by decide +kernel
    have h := pk_ushrN hm (nI 3 * nI k) (3 * k) (hs k hk)
    rw [Nat.pow_mul] at h
    exact h
  have hd : m / 8 ^ k = 0 ↔ m < 8 ^ k := by
    have hp : 0 < 8 ^ k := Nat.pow_pos (by decide)
    constructor
    · intro h
      exact (Nat.div_eq_zero_iff_lt hp).mp h
    · intro h
      exact Nat.div_eq_of_lt h
  have lp : ∀ i, i ≤ k → (∀ j, j < i → m / 8 ^ j % 8 < n) → V 0 G mi_CO_isCode Z 2 [(0, zi (nI m)), (1, zi (nI k)), (2, zi (nI n)), (3, zi (nI i))] [] M := by
    refine up_to ?_ ?_
    · intro hj
      refine z_run (cuts := cu_CO_isCode) ok_CO_isCode (fun Kz hKz => ?_)
      conv => whnf
      rw [nI_leI (by omega) (by omega)]
      refine ⟨fun _ => ?_, fun q => absurd (Nat.le_refl _) q⟩
      conv => whnf
      rw [hu, n_eq (Nat.lt_of_le_of_lt (Nat.div_le_self _ _) hm) (by decide), hd]
      refine ⟨fun h => ?_, fun h => ?_⟩
      · conv => whnf
        exact ⟨Or.inl rfl, h2 (fun q => h q.1)⟩
      · conv => whnf
        exact ⟨Or.inr rfl, h1 ⟨Classical.not_not.mp h, hj⟩⟩
    · intro i hi ih hj
      refine z_run (cuts := cu_CO_isCode) ok_CO_isCode (fun Kz hKz => ?_)
      conv => whnf
      rw [nI_leI (by omega) (by omega)]
      refine ⟨fun q => absurd q (by omega), fun _ => ?_⟩
      conv => whnf
      refine s_CO_digit hm (by omega) ?_
      conv => whnf
      have hlt : m / 8 ^ i % 8 < 8 := Nat.mod_lt _ (by decide)
      rw [nI_ltI (by omega) (by omega)]
      refine ⟨fun h => ?_, fun h => ?_⟩
      · conv => whnf
        refine hKz _ _ _ _ ?_
        rw [nI_1']
        refine ih (fun j hj2 => ?_)
        rcases Nat.lt_succ_iff_lt_or_eq.mp hj2 with h3 | h3
        · exact hj j h3
        · rw [h3]; exact h
      · conv => whnf
        exact ⟨Or.inl rfl, h2 (fun q => h (q.2 i hi))⟩
  refine go_CO_isCode (fun Kz hKz => ?_)
  conv => whnf
  refine hKz _ _ _ _ ?_
  exact lp 0 (Nat.zero_le _) (fun j hj => absurd hj (Nat.not_lt_zero _))
theorem s_CO_isPermutation {m n : Nat} (hm : m < 2 ^ 32) (hn : n ≤ 6) (h1 : isP m n → Z (some (zi (nI 1))) M) (h2 : ¬ isP m n → Z (some (zi (nI 0))) M) : Ctr 0 G mi_CO_isPermutation [zi (nI m), zi (nI n)] M Z := by
  have hst : ∀ i, i ≤ 6 → st8 m i < 2 ^ 8 := by
    intro i
    induction i with
    | zero => intro _; exact Nat.pow_pos (by decide)
    | succ i ih =>
      intro hi
      have h1 := ih (by omega)
      have h2 : m / 8 ^ i % 8 < 8 := Nat.mod_lt _ (by decide)
      exact Nat.or_lt_two_pow h1 (Nat.pow_lt_pow_right (by decide) h2)
  have lp : ∀ i, i ≤ n → V 0 G mi_CO_isPermutation Z 4 [(0, zi (nI m)), (1, zi (nI n)), (2, zi (nI (st8 m i))), (3, zi (nI i))] [] M := by
    refine up_to ?_ ?_
    · refine z_run (cuts := cu_CO_isPermutation) ok_CO_isPermutation (fun Kz hKz => ?_)
      conv => whnf
      rw [nI_leI (by omega) (by omega)]
      refine ⟨fun _ => ?_, fun q => absurd (Nat.le_refl _) q⟩
      conv => whnf
      refine s_CO_isCode hm hn hn (fun h => ?_) (fun h => ?_)
      · conv => whnf
        first | refine ⟨fun _ => ?_, fun q => absurd (by decide) q⟩ | refine ⟨fun q => absurd q (by decide), fun _ => ?_⟩
        conv => whnf
        have hp : 2 ^ n ≤ 2 ^ 6 := Nat.pow_le_pow_right (by decide) hn
        have hp0 : 0 < 2 ^ n := Nat.pow_pos (by decide)
        rw [n_shl _ n (by omega), Nat.one_mul, pk_sub hp0, n_ne (Nat.lt_trans (hst n hn) (by decide)) (by omega)]
        refine ⟨fun h3 => ?_, fun h3 => ?_⟩
        · conv => whnf
          exact ⟨Or.inl rfl, h2 (fun q => h3 q.2)⟩
        · conv => whnf
          exact ⟨Or.inr rfl, h1 ⟨h, Classical.not_not.mp h3⟩⟩
      · conv => whnf
        first | refine ⟨fun _ => ?_, fun q => absurd (by decide) q⟩ | refine ⟨fun q => absurd q (by decide), fun _ => ?_⟩
        conv => whnf
        exact ⟨Or.inl rfl, h2 (fun q => h q.1)⟩
    · intro i hi ih
      refine z_run (cuts := cu_CO_isPermutation) ok_CO_isPermutation (fun Kz hKz => ?_)
      conv => whnf
      rw [nI_leI (by omega) (by omega)]
      refine ⟨fun q => absurd q (by omega), fun _ => ?_⟩
      conv => whnf
      refine s_CO_digit hm (by omega) ?_
      conv => whnf
      refine hKz _ _ _ _ ?_
      have hlt : m / 8 ^ i % 8 < 8 := Nat.mod_lt _ (by decide)
      rw [n_shl _ _ (by omega), Nat.one_mul, n_or, nI_1']
      exact ih
  refine go_CO_isPermutation (fun Kz hKz => ?_)
  conv => whnf
  refine hKz _ _ _ _ ?_
  exact lp 0 (Nat.zero_le _)
theorem s_T_isWithin {m l h : Nat} (hm : m < 2 ^ 32) (hl : l < 2 ^ 31) (hh : h < 2 ^ 31) (h1 : l ≤ m → m ≤ h → Z (some (zi (nI 1))) M) (h2 : ¬ (l ≤ m ∧ m ≤ h) → Z (some (zi (nI 0))) M) : Ctr 0 G mi_T_isWithin [zi (nI m), zi (nI l), zi (nI h)] M Z := by
  refine go_T_isWithin (fun Kz hKz => ?_)
  conv => whnf
  rw [n_ltb hm hl]
  refine ⟨fun q => ?_, fun q => ?_⟩
  · conv => whnf
    exact ⟨Or.inl rfl, h2 (by omega)⟩
  · conv => whnf
    rw [n_blt hm hh]
    refine ⟨fun q2 => ?_, fun q2 => ?_⟩
    · conv => whnf
      exact ⟨Or.inl rfl, h2 (by omega)⟩
    · conv => whnf
      exact ⟨Or.inr rfl, h1 (by omega) (by omega)⟩
theorem s_T_isPlace {m : Nat} (hm : m < 2 ^ 32) (h1 : m < 4 → Z (some (zi (nI 1))) M) (h2 : ¬ m < 4 → Z (some (zi (nI 0))) M) : Ctr 0 G mi_T_isPlace [zi (nI m)] M Z := by
  refine go_T_isPlace (fun Kz hKz => ?_)
  conv => whnf
  refine s_T_isWithin hm (by decide) (by decide) (fun h3 h4 => ?_) (fun h => ?_)
  · conv => whnf
    exact ⟨Or.inr rfl, h1 (by omega)⟩
  · conv => whnf
    exact ⟨Or.inl rfl, h2 (by omega)⟩
theorem s_T_isBraid {m : Nat} (hm : m < 2 ^ 32) (h1 : m < 2 → Z (some (zi (nI 1))) M) (h2 : ¬ m < 2 → Z (some (zi (nI 0))) M) : Ctr 0 G mi_T_isBraid [zi (nI m)] M Z := by
  refine go_T_isBraid (fun Kz hKz => ?_)
  conv => whnf
  refine s_T_isWithin hm (by decide) (by decide) (fun h3 h4 => ?_) (fun h => ?_)
  · conv => whnf
    exact ⟨Or.inr rfl, h1 (by omega)⟩
  · conv => whnf
    exact ⟨Or.inl rfl, h2 (by omega)⟩
theorem s_T_oneIf {x : Int32} (h1 : ¬ x = nI 0 → Z (some (zi (nI 1))) M) (h2 : x = nI 0 → Z (some (zi (nI 0))) M) : Ctr 0 G mi_T_oneIf [zi x] M Z := by
  refine go_T_oneIf (fun Kz hKz => ?_)
  conv => whnf
  refine ⟨fun q => ?_, fun q => ?_⟩
  · conv => whnf
    exact h2 q
  · conv => whnf
    exact h1 q
end
