/-! the reference: tuples and their numbers -/
def tnn (n : Nat) (u : List Nat) : Nat → Nat
  | 0 => 0
  | i + 1 => n * tnn n u i + gw u i
theorem tnn_congr {n : Nat} {u v : List Nat} : ∀ k, (∀ i, i < k → gw u i = gw v i) → tnn n u k = tnn n v k := by
  intro k
  induction k with
  | zero => intro _; rfl
  | succ k ih => intro h; rw [tnn, tnn, ih fun i hi => h i (by omega), h k (by omega)]
theorem gw_snoc {u : List Nat} {d i : Nat} : gw (u ++ [d]) i = if i < u.length then gw u i else if i = u.length then d else 0 := by
  unfold gw
  rw [List.getD_eq_getElem?_getD, List.getD_eq_getElem?_getD]
  by_cases q : i < u.length
  · rw [if_pos q, List.getElem?_append_left q]
  · rw [if_neg q, List.getElem?_append_right (by omega)]
    by_cases q2 : i = u.length
    · rw [if_pos q2, q2, Nat.sub_self]
      rfl
    · rw [if_neg q2, List.getElem?_eq_none (by simp; omega)]
      rfl
theorem tnn_dgl {n : Nat} (h0 : 0 < n) : ∀ k j, j < n ^ k → tnn n (dgl n k j) k = j := by
  intro k
  induction k with
  | zero => intro j hj; rw [Nat.pow_zero] at hj; show 0 = j; omega
  | succ k ih =>
    intro j hj
    have hl := dgl_len n k (j / n)
    have hj2 : j / n < n ^ k := Nat.div_lt_of_lt_mul (by rw [Nat.mul_comm, ← Nat.pow_succ]; exact hj)
    rw [tnn, dgl]
    rw [gw_snoc, if_neg (by omega), if_pos hl.symm]
    rw [tnn_congr (v := dgl n k (j / n)) k (fun i hi => by rw [gw_snoc, if_pos (by omega)]), ih _ hj2]
    exact Nat.div_add_mod j n
theorem tnn_is {n k : Nat} (h0 : 0 < n) {u : List Nat} (hl : u.length = k) (hu : allB n u) : tnn n u k < n ^ k ∧ dgl n k (tnn n u k) = u := by
  obtain ⟨j, h1, h2⟩ := dgl_surj h0 k u hl hu
  rw [← h2, tnn_dgl h0 k j h1]
  exact ⟨h1, rfl⟩
theorem dgl_gw {n : Nat} : ∀ k j i, i < k → gw (dgl n k j) i = j / n ^ (k - 1 - i) % n := by
  intro k
  induction k with
  | zero => intro j i hi; exact absurd hi (Nat.not_lt_zero _)
  | succ k ih =>
    intro j i hi
    have hl := dgl_len n k (j / n)
    rw [dgl, gw_snoc]
    by_cases q : i < k
    · rw [if_pos (by omega), ih _ _ q, Nat.div_div_eq_div_mul, Nat.mul_comm, ← Nat.pow_succ]
      rw [show (k - 1 - i).succ = k + 1 - 1 - i by omega]
    · rw [if_neg (by omega), if_pos (by omega), show k + 1 - 1 - i = 0 by omega, Nat.pow_zero, Nat.div_one]
theorem enc_mono {n : Nat} (hn : n ≤ 8) (h0 : 0 < n) : ∀ k i j, i < j → enc n k i < enc n k j ∨ ¬ j < n ^ k := by
  intro k
  induction k with
  | zero => intro i j _; right; rw [Nat.pow_zero]; omega
  | succ k ih =>
    intro i j hij
    by_cases hj : j < n ^ (k + 1)
    · left
      have hj2 : j / n < n ^ k := Nat.div_lt_of_lt_mul (by rw [Nat.mul_comm, ← Nat.pow_succ]; exact hj)
      have m1 := Nat.mod_lt i h0
      have e1 := Nat.div_add_mod i n
      have e2 := Nat.div_add_mod j n
      simp only [enc]
      rcases Nat.lt_trichotomy (i / n) (j / n) with q | q | q
      · rcases ih _ _ q with h | h
        · omega
        · exact absurd hj2 h
      · rw [q] at e1 ⊢
        omega
      · have : n * (j / n + 1) ≤ n * (i / n) := Nat.mul_le_mul_left n q
        rw [Nat.mul_succ] at this
        have m2 := Nat.mod_lt j h0
        omega
    · exact Or.inr hj
theorem dig4 {a b c d : Nat} (ha : a < 8) (hb : b < 8) (hc : c < 8) (hd : d < 8) : (8 * (8 * (8 * a + b) + c) + d) % 8 = d ∧ (8 * (8 * (8 * a + b) + c) + d) / 8 % 8 = c ∧ (8 * (8 * (8 * a + b) + c) + d) / 64 % 8 = b ∧ (8 * (8 * (8 * a + b) + c) + d) / 512 % 8 = a := by
  refine ⟨?_, ?_, ?_, ?_⟩
  · omega
  · omega
  · have : (8 * (8 * (8 * a + b) + c) + d) / 64 = 8 * a + b := by omega
    rw [this]; omega
  · have : (8 * (8 * (8 * a + b) + c) + d) / 512 = a := by omega
    rw [this]; omega
theorem tn_cod {u : List Nat} (hl : u.length ≤ 4) (h8 : ∀ d ∈ u, d < 8) : tn (tcl u) u.length = codW u u.length := by
  have hb : ∀ x, gw u x < 8 := fun x => by
    unfold gw
    rw [List.getD_eq_getElem?_getD]
    cases hx : u[x]? with
    | none => decide
    | some d => exact h8 d (List.mem_of_getElem? hx)
  have ca : ∀ k, codW u (k + 1) = codW u k + 8 ^ k * gw u k := codW_add hb
  match u, hl, h8, ca with
  | [], _, _, _ => rfl
  | [a], _, h8, ca =>
    have e0 := ca 0
    have a1 := h8 a (by simp)
    show 8 * 0 + (8 * 0 + a) / 1 % 8 = codW [a] (0 + 1)
    rw [e0]
    show _ = 0 + 1 * a
    omega
  | [a, b], _, h8, ca =>
    have a1 := h8 a (by simp)
    have a2 := h8 b (by simp)
    show 8 * (8 * 0 + (8 * (8 * 0 + a) + b) / 1 % 8) + (8 * (8 * 0 + a) + b) / 8 % 8 = codW [a, b] (1 + 1)
    rw [ca 1, ca 0]
    show _ = (0 + 1 * a) + 8 * b
    omega
  | [a, b, c], _, h8, ca =>
    have a1 := h8 a (by simp)
    have a2 := h8 b (by simp)
    have a3 := h8 c (by simp)
    show 8 * (8 * (8 * 0 + (8 * (8 * (8 * 0 + a) + b) + c) / 1 % 8) + (8 * (8 * (8 * 0 + a) + b) + c) / 8 % 8) + (8 * (8 * (8 * 0 + a) + b) + c) / 64 % 8 = codW [a, b, c] (2 + 1)
    rw [ca 2, ca 1, ca 0]
    show _ = ((0 + 1 * a) + 8 * b) + 64 * c
    omega
  | [a, b, c, d], _, h8, ca =>
    have a1 := h8 a (by simp)
    have a2 := h8 b (by simp)
    have a3 := h8 c (by simp)
    have a4 := h8 d (by simp)
    have t : tcl [a, b, c, d] = 8 * (8 * (8 * a + b) + c) + d := by simp [tcl]
    have c4 : codW [a, b, c, d] 4 = codW [a, b, c, d] 3 + 8 ^ 3 * d := ca 3
    have c3 : codW [a, b, c, d] 3 = codW [a, b, c, d] 2 + 8 ^ 2 * c := ca 2
    have c2 : codW [a, b, c, d] 2 = codW [a, b, c, d] 1 + 8 ^ 1 * b := ca 1
    have c1 : codW [a, b, c, d] 1 = 0 + 8 ^ 0 * a := ca 0
    rw [show [a, b, c, d].length = 4 from rfl, t, c4, c3, c2, c1]
    have q0 : (8 * (8 * (8 * a + b) + c) + d) / 8 ^ 0 % 8 = d := by rw [Nat.pow_zero, Nat.div_one]; exact (dig4 a1 a2 a3 a4).1
    have q1 : (8 * (8 * (8 * a + b) + c) + d) / 8 ^ 1 % 8 = c := by rw [Nat.pow_one]; exact (dig4 a1 a2 a3 a4).2.1
    have q2 : (8 * (8 * (8 * a + b) + c) + d) / 8 ^ 2 % 8 = b := by
      exact (dig4 a1 a2 a3 a4).2.2.1
    have q3 : (8 * (8 * (8 * a + b) + c) + d) / 8 ^ 3 % 8 = a := by
      exact (dig4 a1 a2 a3 a4).2.2.2
    simp only [tn, q0, q1, q2, q3]
    show 8 * (8 * (8 * (8 * 0 + d) + c) + b) + a = 0 + 1 * a + 8 * b + 64 * c + 512 * d
    omega
theorem dgs_gw (m : Nat) : ∀ k i, i < k → gw (dgs m k) i = m / 8 ^ i % 8 := by
  intro k
  induction k with
  | zero => intro i hi; exact absurd hi (Nat.not_lt_zero _)
  | succ k ih =>
    intro i hi
    have hl := dgs_len m k
    rw [dgs, gw_snoc]
    by_cases q : i < k
    · rw [if_pos (by omega), ih i q]
    · rw [if_neg (by omega), if_pos (by omega), show i = k by omega]
section
variable {G : ZG} {M : ZM} {Z : Option ZV → ZM → Prop} {S : ZS}
theorem s_R_rowsTo {r k : Nat} (hk : k < 2 ^ 31) (hZ : Z (some (zi (nI (r ^ k)))) M) : Ctr 0 G mi_R_rowsTo [zi (nI r), zi (nI k)] M Z := by
  have lp : ∀ i, i ≤ k → V 0 G mi_R_rowsTo Z 4 [(0, zi (nI r)), (1, zi (nI k)), (2, zi (nI (r ^ i))), (3, zi (nI i))] [] M := by
    refine up_to ?_ ?_
    · refine z_run (cuts := cu_R_rowsTo) ok_R_rowsTo (fun Kz hKz => ?_)
      conv => whnf
      rw [nI_leI (by omega) (by omega)]
      refine ⟨fun _ => ?_, fun q => absurd (by omega) q⟩
      conv => whnf
      exact hZ
    · intro i hi ih
      refine z_run (cuts := cu_R_rowsTo) ok_R_rowsTo (fun Kz hKz => ?_)
      conv => whnf
      rw [nI_leI (by omega) (by omega)]
      refine ⟨fun q => absurd q (by omega), fun _ => ?_⟩
      conv => whnf
      refine hKz _ _ _ _ ?_
      rw [pk_mul, nI_1', ← Nat.pow_succ]
      exact ih
  refine go_R_rowsTo (fun Kz hKz => ?_)
  conv => whnf
  refine hKz _ _ _ _ ?_
  exact lp 0 (Nat.zero_le _)
theorem s_R_layTuple {j n k : Nat} (h0 : 0 < n) (hn : n ≤ 6) (hk : k ≤ 4) (hj : j < 2 ^ 31) (hZ : ∀ M', rf tF M M' → isT M' (dgl n k j) → Z none M') : Ctr 0 G mi_R_layTuple [zr 20 0, zi (nI j), zi (nI n), zi (nI k)] M Z := by
  have hz := n_nz (b := n) h0 (by omega)
  have lp : ∀ c, c ≤ k → ∀ M', rf tF M M' → (∀ i, c ≤ i → i < k → M'.1 27 0 i = nI (gw (dgl n k j) i)) → V 0 G mi_R_layTuple Z 8 [(0, zr 20 0), (2, zi (nI n)), (4, zi (nI (j / n ^ (k - c)))), (5, zi (nI (c + 4294967295)))] [] M' := by
    intro c
    induction c with
    | zero =>
      intro _ M' g1 g2
      refine z_run (cuts := cu_R_layTuple) ok_R_layTuple (fun Kz hKz => ?_)
      conv => whnf
      first | refine ⟨fun _ => ?_, fun q => absurd (by decide) q⟩ | refine ⟨fun q => absurd q (by decide), fun _ => ?_⟩
      conv => whnf
      refine hZ M' g1 (fun i hi => ?_)
      rw [dgl_len] at hi
      exact g2 i (Nat.zero_le _) hi
    | succ c ih =>
      intro hc M' g1 g2
      have e : nI (c + 1 + 4294967295) = nI c := by rw [show c + 1 + 4294967295 = c + 2 ^ 32 * 1 by omega]; exact nI_wrap c 1
      have hd : j / n ^ (k - (c + 1)) ≤ j := Nat.div_le_self _ _
      obtain ⟨ed, em⟩ := n_dm (k := j / n ^ (k - (c + 1))) (n := n) (by omega) h0 (by omega)
      have e2 : j / n ^ (k - (c + 1)) / n = j / n ^ (k - c) := by
        rw [Nat.div_div_eq_div_mul, ← Nat.pow_succ, show (k - (c + 1)).succ = k - c by omega]
      rw [e]
      refine z_run (cuts := cu_R_layTuple) ok_R_layTuple (fun Kz hKz => ?_)
      conv => whnf
      rw [nI_ltI (by omega) (by omega)]
      refine ⟨fun q => absurd q (by omega), fun _ => ?_⟩
      conv => whnf
      refine ⟨hz, ?_⟩
      conv => whnf
      rw [em]
      refine ⟨vp_in_nI (by omega) (by decide), ?_⟩
      conv => whnf
      rw [nI_clamp (by omega)]
      refine ⟨hz, ?_⟩
      conv => whnf
      refine hKz _ _ _ _ ?_
      rw [ed, e2, n_m1, nI_add]
      refine ih (by omega) _ (rf_trans g1 (rf_set rfl)) (fun i h1 h2 => ?_)
      by_cases q : i = c
      · rw [q, zset_eq, dgl_gw k j c (by omega), show k - 1 - c = k - (c + 1) by omega]
      · rw [zset_ne (by omega)]
        exact g2 i (by omega) h2
  refine go_R_layTuple (fun Kz hKz => ?_)
  conv => whnf
  refine hKz _ _ _ _ ?_
  have es : nI k - nI 1 = nI (k + 4294967295) := by
    have : ∀ k, k < 5 → nI k - nI 1 = nI (k + 4294967295) := by decide +kernel
    exact this k (by omega)
  rw [es]
  have := lp k (Nat.le_refl _) M (rf_refl _ _) (fun i h1 h2 => absurd h2 (by omega))
  rw [Nat.sub_self, Nat.pow_zero, Nat.div_one] at this
  exact this
theorem s_R_tupleNumber {n k : Nat} {u : List Nat} (hk : k ≤ 4) (hu : isT M u) (hl : u.length = k) (hZ : Z (some (zi (nI (tnn n u k)))) M) : Ctr 0 G mi_R_tupleNumber [zr 20 0, zi (nI n), zi (nI k)] M Z := by
  have lp : ∀ i, i ≤ k → V 0 G mi_R_tupleNumber Z 5 [(0, zr 20 0), (1, zi (nI n)), (2, zi (nI k)), (3, zi (nI (tnn n u i))), (4, zi (nI i))] [] M := by
    refine up_to ?_ ?_
    · refine z_run (cuts := cu_R_tupleNumber) ok_R_tupleNumber (fun Kz hKz => ?_)
      conv => whnf
      rw [nI_leI (by omega) (by omega)]
      refine ⟨fun _ => ?_, fun q => absurd (by omega) q⟩
      conv => whnf
      exact hZ
    · intro i hi ih
      refine z_run (cuts := cu_R_tupleNumber) ok_R_tupleNumber (fun Kz hKz => ?_)
      conv => whnf
      rw [nI_leI (by omega) (by omega)]
      refine ⟨fun q => absurd q (by omega), fun _ => ?_⟩
      conv => whnf
      refine ⟨vp_in_nI (by omega) (by decide), ?_⟩
      conv => whnf
      refine hKz _ _ _ _ ?_
      rw [nI_clamp (by omega), hu i (by omega), pk_mul, nI_add, nI_1']
      exact ih
  refine go_R_tupleNumber (fun Kz hKz => ?_)
  conv => whnf
  refine hKz _ _ _ _ ?_
  exact lp 0 (Nat.zero_le _)
theorem s_R_tupleCode {k : Nat} {u : List Nat} (hk : k ≤ 4) (hu : isT M u) (hl : u.length = k) (hZ : Z (some (zi (nI (codW u k)))) M) : Ctr 0 G mi_R_tupleCode [zr 20 0, zi (nI k)] M Z := by
  have lp : ∀ i, i ≤ k → V 0 G mi_R_tupleCode Z 4 [(0, zr 20 0), (1, zi (nI k)), (2, zi (nI (codW u i))), (3, zi (nI i))] [] M := by
    refine up_to ?_ ?_
    · refine z_run (cuts := cu_R_tupleCode) ok_R_tupleCode (fun Kz hKz => ?_)
      conv => whnf
      rw [nI_leI (by omega) (by omega)]
      refine ⟨fun _ => ?_, fun q => absurd (by omega) q⟩
      conv => whnf
      exact hZ
    · intro i hi ih
      refine z_run (cuts := cu_R_tupleCode) ok_R_tupleCode (fun Kz hKz => ?_)
      conv => whnf
      rw [nI_leI (by omega) (by omega)]
      refine ⟨fun q => absurd q (by omega), fun _ => ?_⟩
      conv => whnf
      refine ⟨vp_in_nI (by omega) (by decide), ?_⟩
      conv => whnf
      refine hKz _ _ _ _ ?_
      rw [nI_clamp (by omega), hu i (by omega), pk_mul, n_shl _ _ (by omega), n_or, nI_1', Nat.pow_mul]
      exact ih
  refine go_R_tupleCode (fun Kz hKz => ?_)
  conv => whnf
  refine hKz _ _ _ _ ?_
  exact lp 0 (Nat.zero_le _)
theorem s_R_layCode {m k : Nat} (hm : m < 2 ^ 32) (hk : k ≤ 4) (hZ : ∀ M', rf tF M M' → isT M' (dgs m k) → Z none M') : Ctr 0 G mi_R_layCode [zr 20 0, zi (nI m), zi (nI k)] M Z := by
  have lp : ∀ i, i ≤ k → ∀ M', rf tF M M' → (∀ c, c < i → M'.1 27 0 c = nI (m / 8 ^ c % 8)) → V 0 G mi_R_layCode Z 2 [(0, zr 20 0), (1, zi (nI m)), (2, zi (nI k)), (3, zi (nI i))] [] M' := by
    refine up_to ?_ ?_
    · intro M' g1 g2
      refine z_run (cuts := cu_R_layCode) ok_R_layCode (fun Kz hKz => ?_)
      conv => whnf
      rw [nI_leI (by omega) (by omega)]
      refine ⟨fun _ => ?_, fun q => absurd (by omega) q⟩
      conv => whnf
      refine hZ M' g1 (fun i hi => ?_)
      rw [dgs_len] at hi
      rw [dgs_gw m k i hi]
      exact g2 i hi
    · intro i hi ih M' g1 g2
      refine z_run (cuts := cu_R_layCode) ok_R_layCode (fun Kz hKz => ?_)
      conv => whnf
      rw [nI_leI (by omega) (by omega)]
      refine ⟨fun q => absurd q (by omega), fun _ => ?_⟩
      conv => whnf
      refine s_R_digit hm (by omega) ?_
      conv => whnf
      refine ⟨vp_in_nI (by omega) (by decide), ?_⟩
      conv => whnf
      refine hKz _ _ _ _ ?_
      rw [nI_clamp (by omega), nI_1']
      refine ih _ (rf_trans g1 (rf_set rfl)) (fun c hc => ?_)
      rcases fin_cases_eq hc with z | z
      · rw [zset_ne (by omega)]; exact g2 c z
      · rw [z]; exact zset_eq
  refine go_R_layCode (fun Kz hKz => ?_)
  conv => whnf
  refine hKz _ _ _ _ ?_
  exact lp 0 (Nat.zero_le _) M (rf_refl _ _) (fun c hc => absurd hc (Nat.not_lt_zero _))
end
