/-! cycles of a one-to-one step, and what is common to their lengths -/
theorem least_of {P : Nat → Prop} : ∀ n, P n → ∃ m, m ≤ n ∧ P m ∧ ∀ k, k < m → ¬ P k := by
  intro n
  induction n using Nat.strongRecOn with
  | _ n ih =>
    intro h
    by_cases q : ∃ k, k < n ∧ P k
    · obtain ⟨k, hk, hp⟩ := q
      obtain ⟨m, h1, h2, h3⟩ := ih k hk hp
      exact ⟨m, by omega, h2, h3⟩
    · exact ⟨n, Nat.le_refl _, h, fun k hk hp => q ⟨k, hk, hp⟩⟩
theorem itr_add (f : Nat → Nat) (p a : Nat) : ∀ b, itr f p (a + b) = itr f (itr f p a) b := by
  intro b
  induction b with
  | zero => rfl
  | succ b ih => rw [← Nat.add_assoc, itr, ih, itr]
def isCyc (f : Nat → Nat) (p c : Nat) : Prop := 0 < c ∧ itr f p c = p ∧ ∀ k, 0 < k → k < c → itr f p k ≠ p
theorem cyc_uniq {f : Nat → Nat} {p c c' : Nat} (h : isCyc f p c) (h' : isCyc f p c') : c = c' := by
  rcases Nat.lt_trichotomy c c' with q | q | q
  · exact absurd h.2.1 (h'.2.2 c h.1 q)
  · exact q
  · exact absurd h'.2.1 (h.2.2 c' h'.1 q)
section
variable {f : Nat → Nat} {N : Nat}
theorem itr_lt (hf : ∀ p, p < N → f p < N) {p : Nat} (hp : p < N) : ∀ k, itr f p k < N := by
  intro k
  induction k with
  | zero => exact hp
  | succ k ih => exact hf _ ih
theorem itr_inj (hf : ∀ p, p < N → f p < N) (hi : ∀ p q, p < N → q < N → f p = f q → p = q) {p q : Nat} (hp : p < N) (hq : q < N) : ∀ k, itr f p k = itr f q k → p = q := by
  intro k
  induction k with
  | zero => exact id
  | succ k ih => intro h; exact ih (hi _ _ (itr_lt hf hp k) (itr_lt hf hq k) h)
theorem itr_back (hf : ∀ p, p < N → f p < N) (hi : ∀ p q, p < N → q < N → f p = f q → p = q) {p i j : Nat} (hp : p < N) (hij : i ≤ j) (h : itr f p i = itr f p j) : itr f p (j - i) = p := by
  obtain ⟨d, rfl⟩ : ∃ d, j = d + i := ⟨j - i, by omega⟩
  rw [Nat.add_sub_cancel]
  rw [itr_add] at h
  exact (itr_inj hf hi hp (itr_lt hf hp d) i h).symm
theorem cyc_ex (hf : ∀ p, p < N → f p < N) (hi : ∀ p q, p < N → q < N → f p = f q → p = q) {p : Nat} (hp : p < N) : ∃ c, c ≤ N ∧ isCyc f p c := by
  obtain ⟨i, j, h1, h2, h3⟩ := php N (fun k => itr f p k) (fun k _ => itr_lt hf hp k)
  have h4 := itr_back hf hi hp (Nat.le_of_lt h1) h3
  obtain ⟨m, h5, h6, h7⟩ := least_of (P := fun c => 0 < c ∧ itr f p c = p) (j - i) ⟨by omega, h4⟩
  exact ⟨m, by omega, h6.1, h6.2, fun k q1 q2 q3 => h7 k q2 ⟨q1, q3⟩⟩
theorem cyc_dist (hf : ∀ p, p < N → f p < N) (hi : ∀ p q, p < N → q < N → f p = f q → p = q) {p c : Nat} (hp : p < N) (h : isCyc f p c) : ∀ i j, i < c → j < c → itr f p i = itr f p j → i = j := by
  intro i j h1 h2 h3
  rcases Nat.lt_trichotomy i j with q | q | q
  · exact absurd (itr_back hf hi hp (Nat.le_of_lt q) h3) (h.2.2 _ (by omega) (by omega))
  · exact q
  · exact absurd (itr_back hf hi hp (Nat.le_of_lt q) h3.symm) (h.2.2 _ (by omega) (by omega))
theorem cyc_along (hf : ∀ p, p < N → f p < N) (hi : ∀ p q, p < N → q < N → f p = f q → p = q) {p c : Nat} (hp : p < N) (h : isCyc f p c) (k : Nat) : isCyc f (itr f p k) c := by
  refine ⟨h.1, ?_, fun d h1 h2 h3 => h.2.2 d h1 h2 ?_⟩
  · rw [← itr_add, Nat.add_comm, itr_add, h.2.1]
  · rw [← itr_add, Nat.add_comm, itr_add] at h3
    exact itr_inj hf hi (itr_lt hf hp d) hp k h3
theorem bct_add (g : Nat → Nat) (U : Nat) : ∀ k, (∀ i, i < k → g i < N) → (∀ i j, i < k → j < k → g i = g j → i = j) → (∀ i, i < k → U.testBit (g i) = false) → bct (U ||| orf g k) N = bct U N + k := by
  intro k
  induction k with
  | zero => intro _ _ _; rw [orf, Nat.or_zero]; rfl
  | succ k ih =>
    intro h1 h2 h3
    have hb : (U ||| orf g k).testBit (g k) = false := by
      rw [Nat.testBit_or, h3 k (by omega), Bool.false_or, Bool.eq_false_iff]
      intro q
      obtain ⟨i, hi, he⟩ := (orf_bit g k (g k)).mp q
      have := h2 i k (by omega) (by omega) he
      omega
    rw [orf, ← Nat.or_assoc, bct_or, ih (fun i hi => h1 i (by omega)) (fun i j hi hj => h2 i j (by omega) (by omega)) (fun i hi => h3 i (by omega)), hb, if_pos (h1 k (by omega)), if_neg (by decide)]
    omega
theorem orf_lt2 {g : Nat → Nat} {v : Nat} (k : Nat) (h : (orf g k).testBit v = true) : ∃ i, i < k ∧ g i = v := (orf_bit g k v).mp h
def lcmU (C : Nat → Nat) : Nat → Nat
  | 0 => 1
  | j + 1 => Nat.lcm (lcmU C j) (C j)
def covU (f : Nat → Nat) (C : Nat → Nat) : Nat → Nat
  | 0 => 0
  | j + 1 => covU f C j ||| orf (itr f j) (C j)
theorem covU_bit (f : Nat → Nat) (C : Nat → Nat) : ∀ j v, (covU f C j).testBit v = true → ∃ p i, p < j ∧ i < C p ∧ itr f p i = v := by
  intro j
  induction j with
  | zero => intro v h; rw [covU, Nat.zero_testBit] at h; cases h
  | succ j ih =>
    intro v h
    rw [covU, Nat.testBit_or, Bool.or_eq_true] at h
    rcases h with h | h
    · obtain ⟨p, i, h1, h2, h3⟩ := ih v h
      exact ⟨p, i, by omega, h2, h3⟩
    · obtain ⟨i, h1, h2⟩ := (orf_bit _ _ _).mp h
      exact ⟨j, i, by omega, h1, h2⟩
theorem lcmU_pos {C : Nat → Nat} : ∀ j, (∀ p, p < j → 0 < C p) → 0 < lcmU C j := by
  intro j
  induction j with
  | zero => intro _; exact Nat.one_pos
  | succ j ih => intro h; exact Nat.lcm_pos (ih fun p hp => h p (by omega)) (h j (by omega))
theorem lcmU_dvd {C : Nat → Nat} : ∀ j p, p < j → C p ∣ lcmU C j := by
  intro j
  induction j with
  | zero => intro p hp; exact absurd hp (Nat.not_lt_zero _)
  | succ j ih =>
    intro p hp
    rcases Nat.lt_succ_iff_lt_or_eq.mp hp with hp | rfl
    · exact Nat.dvd_trans (ih p hp) (Nat.dvd_lcm_left _ _)
    · exact Nat.dvd_lcm_right _ _
theorem cube_le : ∀ c, c < 37 → c ^ 3 ≤ 3 ^ c := by decide
theorem lcmU_cube (hf : ∀ p, p < N → f p < N) (hi : ∀ p q, p < N → q < N → f p = f q → p = q) (hN : N ≤ 36) {C : Nat → Nat} (hC : ∀ p, p < N → C p ≤ N ∧ isCyc f p (C p)) : ∀ j, j ≤ N → lcmU C j ^ 3 ≤ 3 ^ bct (covU f C j) N := by
  intro j
  induction j with
  | zero => intro _; rw [lcmU, Nat.one_pow]; exact Nat.pow_pos (by decide)
  | succ j ih =>
    intro hj
    have hCj := hC j (by omega)
    have h := ih (by omega)
    by_cases q : ∃ i, i < C j ∧ (covU f C j).testBit (itr f j i) = true
    · obtain ⟨i, h1, h2⟩ := q
      obtain ⟨p, i', h3, h4, h5⟩ := covU_bit f C j _ h2
      have e1 := cyc_along hf hi (show p < N by omega) (hC p (by omega)).2 i'
      have e2 := cyc_along hf hi (show j < N by omega) hCj.2 i
      rw [h5] at e1
      have e := cyc_uniq e1 e2
      have hd := lcmU_dvd (C := C) j p h3
      rw [e] at hd
      rw [lcmU, Nat.lcm_eq_left hd]
      exact Nat.le_trans h (Nat.pow_le_pow_right (by decide) (bct_mono sub2_l N))
    · have hb := bct_add (N := N) (itr f j) (covU f C j) (C j) (fun i _ => itr_lt hf (by omega) i) (cyc_dist hf hi (by omega) hCj.2) (fun i hi2 => by
        cases hb : (covU f C j).testBit (itr f j i) with
        | false => rfl
        | true => exact absurd ⟨i, hi2, hb⟩ q)
      have hl : lcmU C (j + 1) ≤ lcmU C j * C j := Nat.le_of_dvd (Nat.mul_pos (lcmU_pos j fun p hp => (hC p (by omega)).2.1) hCj.2.1) (Nat.lcm_dvd_mul _ _)
      rw [covU, hb, Nat.pow_add]
      refine Nat.le_trans (Nat.pow_le_pow_left hl 3) ?_
      rw [Nat.mul_pow]
      exact Nat.mul_le_mul h (cube_le _ (by omega))
theorem lcmU_le (hf : ∀ p, p < N → f p < N) (hi : ∀ p q, p < N → q < N → f p = f q → p = q) (hN : N ≤ 36) {C : Nat → Nat} (hC : ∀ p, p < N → C p ≤ N ∧ isCyc f p (C p)) {j : Nat} (hj : j ≤ N) : lcmU C j ≤ 531441 := by
  have h := lcmU_cube hf hi hN hC j hj
  have h2 : (3 : Nat) ^ bct (covU f C j) N ≤ 3 ^ 36 := Nat.pow_le_pow_right (by decide) (Nat.le_trans (bct_le _ _) hN)
  rcases Nat.lt_or_ge 531441 (lcmU C j) with q | q
  · have h3 := Nat.pow_le_pow_left (show 531442 ≤ lcmU C j from q) 3
    have h4 : (3 : Nat) ^ 36 < 531442 ^ 3 := by decide
    omega
  · exact q
end
/-- the code of pair number j -/
def e8 (A : ZP) (j : Nat) : Nat := 8 * (j / A.1) + j % A.1
theorem e8_pj {A : ZP} (hA : pwf A) {j : Nat} (hj : j < A.1 * A.1) : e8 A (pj A A.1 j) = 8 * A.2.1 (j / A.1) (j % A.1) + A.2.2 (j / A.1) (j % A.1) := by
  have h := dvlt hj
  have hLR := hA.2 _ _ h.1 h.2
  unfold e8 pj
  rw [(dvm hLR.2).1, (dvm hLR.2).2]
theorem e8_lt {A : ZP} (hA : pwf A) {j : Nat} (hj : j < A.1 * A.1) : e8 A j < 64 := by
  have h := dvlt hj
  have := hA.1
  unfold e8
  omega
theorem e8_inj {A : ZP} (hA : pwf A) {i j : Nat} (hi : i < A.1 * A.1) (hj : j < A.1 * A.1) (h : e8 A i = e8 A j) : i = j := by
  have h1 := dvlt hi
  have h2 := dvlt hj
  have h3 := hA.1
  have e1 := Nat.div_add_mod i A.1
  have e2 := Nat.div_add_mod j A.1
  unfold e8 at h
  generalize i / A.1 = a at *
  generalize i % A.1 = b at *
  generalize j / A.1 = a' at *
  generalize j % A.1 = b' at *
  have ha : a = a' := by omega
  subst ha
  have hb : b = b' := by omega
  subst hb
  omega
theorem pj_lt {A : ZP} (hA : pwf A) : ∀ j, j < A.1 * A.1 → pj A A.1 j < A.1 * A.1 := by
  intro j hj
  have h := dvlt hj
  have hLR := hA.2 _ _ h.1 h.2
  exact prlt hLR.1 hLR.2
section
variable {G : ZG} {M : ZM} {Z : Option ZV → ZM → Prop}
theorem s_PM_step {k j : Nat} {A : ZP} (hk : k < 10) (hA : isPM M k A) (hj : j < A.1 * A.1) (hZ : Z (some (zi (nI (e8 A (pj A A.1 j))))) M) : Ctr 0 G mi_PM_imageOf [zr 0 k, zi (nI (e8 A j))] M Z := by
  have h := dvlt hj
  refine s_PM_imageOf hk (e8_lt hA.1 hj) ?_
  rw [e8_pj hA.1 hj] at hZ
  unfold e8
  rw [hA.2.2 _ _ h.1 h.2]
  exact hZ
theorem s_CH_cycleLength {k p c : Nat} {A : ZP} (hk : k < 10) (hA : isPM M k A) (hp : p < A.1 * A.1) (hc : c ≤ A.1 * A.1) (hcy : isCyc (pj A A.1) p c) (hZ : Z (some (zi (nI c))) M) : Ctr 0 G mi_CH_cycleLength [zr 0 k, zi (nI (e8 A p))] M Z := by
  have hn := hA.1.1
  have hnn : A.1 * A.1 ≤ 6 * 6 := Nat.mul_le_mul hn hn
  have il : ∀ i, itr (pj A A.1) p i < A.1 * A.1 := itr_lt (pj_lt hA.1) hp
  have lp : ∀ i, i ≤ c → 0 < i → V 0 G mi_CH_cycleLength Z 19 [(0, zr 0 k), (1, zi (nI (e8 A p))), (2, zi (nI (A.1 * A.1))), (3, zi (nI (e8 A (itr (pj A A.1) p i)))), (4, zi (nI i))] [] M := by
    refine up_to ?_ ?_
    · intro _
      rw [hcy.2.1]
      have h8 := e8_lt hA.1 hp
      refine z_run (cuts := cu_CH_cycleLength) ok_CH_cycleLength (fun Kz hKz => ?_)
      conv => whnf
      rw [nI_leI (by omega) (by omega)]
      refine ⟨fun q => ?_, fun q => ?_⟩
      · conv => whnf
        exact hZ
      · conv => whnf
        refine ⟨fun _ => ?_, fun q => absurd rfl q⟩
        conv => whnf
        exact hZ
    · intro i hi ih hi0
      have h8 := e8_lt hA.1 hp
      have h9 := e8_lt hA.1 (il i)
      refine z_run (cuts := cu_CH_cycleLength) ok_CH_cycleLength (fun Kz hKz => ?_)
      conv => whnf
      rw [nI_leI (by omega) (by omega)]
      refine ⟨fun q => absurd q (by omega), fun _ => ?_⟩
      conv => whnf
      rw [nI_eq (by omega) (by omega)]
      refine ⟨fun q => absurd (e8_inj hA.1 (il i) hp q) (hcy.2.2 i hi0 hi), fun _ => ?_⟩
      conv => whnf
      refine ⟨by first | assumption | decide, ?_⟩
      conv => whnf
      refine s_PM_step hk hA (il i) ?_
      conv => whnf
      refine hKz _ _ _ _ ?_
      rw [nI_1']
      exact ih (Nat.succ_pos _)
  refine go_CH_cycleLength (fun Kz hKz => ?_)
  conv => whnf
  refine ⟨by first | assumption | decide, ?_⟩
  conv => whnf
  refine s_PM_points hk ?_
  conv => whnf
  refine ⟨by first | assumption | decide, ?_⟩
  conv => whnf
  refine s_PM_points hk ?_
  conv => whnf
  refine ⟨by first | assumption | decide, ?_⟩
  conv => whnf
  refine s_PM_step hk hA hp ?_
  conv => whnf
  refine hKz _ _ _ _ ?_
  rw [hA.2.1, pk_mul]
  exact lp 1 hcy.1 Nat.one_pos
theorem s_CH_periodOf {k : Nat} {A : ZP} (hk : k < 10) (hA : isPM M k A) (h0 : ¬ pinj A → Z (some (zi (-1))) M) (h1 : pinj A → ∀ C : Nat → Nat, (∀ p, p < A.1 * A.1 → C p ≤ A.1 * A.1 ∧ isCyc (pj A A.1) p (C p)) → (∀ j, j ≤ A.1 * A.1 → 0 < lcmU C j ∧ lcmU C j ≤ 531441) → Z (some (zi (nI (lcmU C (A.1 * A.1))))) M) : Ctr 0 G mi_CH_periodOf [zr 0 k] M Z := by
  have hn := hA.1.1
  have hnn : A.1 * A.1 ≤ 6 * 6 := Nat.mul_le_mul hn hn
  refine go_CH_periodOf (fun Kz hKz => ?_)
  conv => whnf
  refine s_CH_isBijective hk hA (fun hi => ?_) (fun hi => ?_)
  · have hf := pj_lt hA.1
    have hinj : ∀ p q, p < A.1 * A.1 → q < A.1 * A.1 → pj A A.1 p = pj A A.1 q → p = q := (pj_inj hA.1 (Nat.le_refl _)).mpr hi
    have hex : ∀ p, ∃ c, p < A.1 * A.1 → c ≤ A.1 * A.1 ∧ isCyc (pj A A.1) p c := by
      intro p
      by_cases hp : p < A.1 * A.1
      · obtain ⟨c, hc⟩ := cyc_ex hf hinj hp
        exact ⟨c, fun _ => hc⟩
      · exact ⟨0, fun q => absurd q hp⟩
    obtain ⟨C, hC⟩ : ∃ C : Nat → Nat, ∀ p, p < A.1 * A.1 → C p ≤ A.1 * A.1 ∧ isCyc (pj A A.1) p (C p) := ⟨fun p => Classical.choose (hex p), fun p hp => Classical.choose_spec (hex p) hp⟩
    have hle : ∀ j, j ≤ A.1 * A.1 → 0 < lcmU C j ∧ lcmU C j ≤ 531441 := fun j hj => ⟨lcmU_pos j fun p hp => (hC p (by omega)).2.1, lcmU_le hf hinj (by omega) hC hj⟩
    have hZ := h1 hi C hC hle
    conv => whnf
    first | refine ⟨fun _ => ?_, fun q => absurd (by decide) q⟩ | refine ⟨fun q => absurd q (by decide), fun _ => ?_⟩
    conv => whnf
    refine ⟨by first | assumption | decide, ?_⟩
    conv => whnf
    refine s_PM_points hk ?_
    conv => whnf
    refine hKz _ _ _ _ ?_
    rw [hA.2.1]
    refine rloop (n := A.1) (m := A.1) (O := fun x => ∀ v, v = lcmU C (A.1 * x) → V 0 G mi_CH_periodOf Z 18 [(0, zr 0 k), (1, zi (nI A.1)), (2, zi (nI v)), (3, zi (nI x))] [] M) (I := fun x y => V 0 G mi_CH_periodOf Z 26 [(0, zr 0 k), (1, zi (nI A.1)), (2, zi (nI (lcmU C (A.1 * x + y)))), (3, zi (nI x)), (4, zi (nI y))] [] M) (fun v hv => ?_) (fun x hx h v hv => ?_) (fun x hx h => ?_) (fun x y hx hy h => ?_) 1 rfl
    · refine z_run (cuts := cu_CH_periodOf) ok_CH_periodOf (fun Kz hKz => ?_)
      conv => whnf
      rw [nI_leI (by omega) (by omega)]
      refine ⟨fun _ => ?_, fun q => absurd (Nat.le_refl _) q⟩
      conv => whnf
      rw [hv]
      exact hZ
    · refine z_run (cuts := cu_CH_periodOf) ok_CH_periodOf (fun Kz hKz => ?_)
      conv => whnf
      rw [nI_leI (by omega) (by omega)]
      refine ⟨fun q => absurd q (by omega), fun _ => ?_⟩
      conv => whnf
      refine hKz _ _ _ _ ?_
      rw [hv]
      exact h
    · refine z_run (cuts := cu_CH_periodOf) ok_CH_periodOf (fun Kz hKz => ?_)
      conv => whnf
      rw [nI_leI (by omega) (by omega)]
      refine ⟨fun _ => ?_, fun q => absurd (Nat.le_refl _) q⟩
      conv => whnf
      refine hKz _ _ _ _ ?_
      rw [nI_1']
      exact h _ (by rw [Nat.mul_succ])
    · have hpr := prlt hx hy
      have hl := hle (A.1 * x + y) (by omega)
      have hCp := hC _ hpr
      have hm : lcmU C (A.1 * x + y) * C (A.1 * x + y) ≤ 531441 * 36 := Nat.mul_le_mul hl.2 (by omega)
      refine z_run (cuts := cu_CH_periodOf) ok_CH_periodOf (fun Kz hKz => ?_)
      conv => whnf
      rw [nI_leI (by omega) (by omega)]
      refine ⟨fun q => absurd q (by omega), fun _ => ?_⟩
      conv => whnf
      refine s_CO_pairOf (by omega) (by omega) ?_
      conv => whnf
      have e : 8 * x + y = e8 A (A.1 * x + y) := by unfold e8; rw [(dvm hy).1, (dvm hy).2]
      rw [e]
      refine s_CH_cycleLength hk hA hpr hCp.1 hCp.2 ?_
      conv => whnf
      refine s_CO_commonMultiple hl.1 hCp.2.1 (by omega) ?_
      conv => whnf
      refine hKz _ _ _ _ ?_
      rw [nI_1']
      exact h
  · conv => whnf
    first | refine ⟨fun _ => ?_, fun q => absurd (by decide) q⟩ | refine ⟨fun q => absurd q (by decide), fun _ => ?_⟩
    conv => whnf
    exact h0 hi
end
