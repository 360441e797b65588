/-! the number of a permutation: how many lesser ones stand behind each -/
def les (d : Nat → Nat) (i : Nat) : Nat → Nat
  | 0 => 0
  | k + 1 => les d i k + (if d (i + 1 + k) < d i then 1 else 0)
def lm (d : Nat → Nat) (n : Nat) : Nat → Nat
  | 0 => 0
  | i + 1 => lm d n i * (n - i) + les d i (n - 1 - i)
def msk (d : Nat → Nat) (i : Nat) : Nat → Nat
  | 0 => 0
  | k + 1 => if d (i + 1 + k) < d i then msk d i k ||| 2 ^ d (i + 1 + k) else msk d i k
def df (n : Nat) : Nat → Nat
  | 0 => 1
  | i + 1 => df n i * (n - i)
theorem les_le (d : Nat → Nat) (i : Nat) : ∀ k, les d i k ≤ k := by
  intro k
  induction k with
  | zero => exact Nat.le_refl _
  | succ k ih =>
    rw [les]
    split <;> omega
theorem lm_lt (d : Nat → Nat) (n : Nat) : ∀ i, i ≤ n → lm d n i < df n i := by
  intro i
  induction i with
  | zero => intro _; exact Nat.one_pos
  | succ i ih =>
    intro h
    have h1 := ih (by omega)
    have h2 := les_le d i (n - 1 - i)
    have h3 : (lm d n i + 1) * (n - i) ≤ df n i * (n - i) := Nat.mul_le_mul_right _ h1
    rw [Nat.add_mul] at h3
    rw [lm, df]
    omega
theorem df_le : ∀ n, n ≤ 6 → df n n ≤ 720 := by decide
theorem msk_bit (d : Nat → Nat) (i : Nat) : ∀ k v, (msk d i k).testBit v = true ↔ ∃ j, j < k ∧ d (i + 1 + j) < d i ∧ d (i + 1 + j) = v := by
  intro k
  induction k with
  | zero => intro v; rw [msk, Nat.zero_testBit]; exact ⟨fun h => (by cases h), fun ⟨j, h, _⟩ => absurd h (Nat.not_lt_zero _)⟩
  | succ k ih =>
    intro v
    rw [msk]
    by_cases q : d (i + 1 + k) < d i
    · rw [if_pos q, Nat.testBit_or, Nat.testBit_two_pow, Bool.or_eq_true, ih v]
      constructor
      · rintro (⟨j, h1, h2⟩ | h)
        · exact ⟨j, by omega, h2⟩
        · exact ⟨k, by omega, q, of_decide_eq_true h⟩
      · rintro ⟨j, h1, h2, h3⟩
        rcases Nat.lt_succ_iff_lt_or_eq.mp h1 with h1 | rfl
        · exact Or.inl ⟨j, h1, h2, h3⟩
        · exact Or.inr (decide_eq_true h3)
    · rw [if_neg q, ih v]
      constructor
      · rintro ⟨j, h1, h2⟩
        exact ⟨j, by omega, h2⟩
      · rintro ⟨j, h1, h2, h3⟩
        rcases Nat.lt_succ_iff_lt_or_eq.mp h1 with h1 | rfl
        · exact ⟨j, h1, h2, h3⟩
        · exact absurd h2 q
theorem bct_msk {d : Nat → Nat} {i : Nat} : ∀ k, (∀ a b, a < i + 1 + k → b < i + 1 + k → d a = d b → a = b) → (∀ a, a < i + 1 + k → d a < 8) → bct (msk d i k) 8 = les d i k := by
  intro k
  induction k with
  | zero => intro _ _; show bct 0 8 = 0; decide
  | succ k ih =>
    intro h1 h2
    have h3 := ih (fun a b ha hb => h1 a b (by omega) (by omega)) (fun a ha => h2 a (by omega))
    rw [msk, les]
    by_cases q : d (i + 1 + k) < d i
    · have hb : ¬ (msk d i k).testBit (d (i + 1 + k)) = true := by
        rw [msk_bit]
        rintro ⟨j, g1, g2, g3⟩
        have := h1 (i + 1 + j) (i + 1 + k) (by omega) (by omega) g3
        omega
      rw [if_pos q, if_pos q, bct_or, if_pos (h2 _ (by omega)), if_neg hb, h3]
    · rw [if_neg q, if_neg q, h3]
      rfl
theorem les_lt {d e : Nat → Nat} {n i : Nat} (hi : i < n) (h8 : n ≤ 8) (d1 : ∀ a, a < n → d a < n) (d2 : ∀ a b, a < n → b < n → d a = d b → a = b) (e1 : ∀ a, a < n → e a < n) (e2 : ∀ a b, a < n → b < n → e a = e b → a = b) (hag : ∀ j, j < i → d j = e j) (hlt : d i < e i) : les d i (n - 1 - i) < les e i (n - 1 - i) := by
  rw [← bct_msk (n - 1 - i) (fun a b ha hb => d2 a b (by omega) (by omega)) (fun a ha => by have := d1 a (by omega); omega), ← bct_msk (n - 1 - i) (fun a b ha hb => e2 a b (by omega) (by omega)) (fun a ha => by have := e1 a (by omega); omega)]
  have hs := inj_surj e1 e2
  refine bct_strict (fun v hv => ?_) 8 ⟨d i, by have := d1 i hi; omega, ?_, ?_⟩
  · obtain ⟨j, h1, h2, h3⟩ := (msk_bit d i _ v).mp hv
    obtain ⟨p, hp, hpe⟩ := hs v (by have := d1 (i + 1 + j) (by omega); omega)
    rw [msk_bit]
    have hip : i < p := by
      rcases Nat.lt_trichotomy p i with q | q | q
      · have := d2 p (i + 1 + j) hp (by omega) (by rw [hag p q, hpe, h3])
        omega
      · rw [q] at hpe; omega
      · exact q
    refine ⟨p - (i + 1), by omega, ?_, ?_⟩
    · rw [show i + 1 + (p - (i + 1)) = p by omega, hpe]; omega
    · rw [show i + 1 + (p - (i + 1)) = p by omega, hpe]
  · rw [Bool.eq_false_iff]
    intro q
    obtain ⟨j, h1, h2, h3⟩ := (msk_bit d i _ _).mp q
    omega
  · obtain ⟨p, hp, hpe⟩ := hs (d i) (d1 i hi)
    rw [msk_bit]
    have hip : i < p := by
      rcases Nat.lt_trichotomy p i with q | q | q
      · have := d2 p i hp hi (by rw [hag p q, hpe])
        omega
      · rw [q] at hpe; omega
      · exact q
    refine ⟨p - (i + 1), by omega, ?_, ?_⟩
    · rw [show i + 1 + (p - (i + 1)) = p by omega, hpe]; exact hlt
    · rw [show i + 1 + (p - (i + 1)) = p by omega, hpe]
theorem lm_back {d e : Nat → Nat} {n : Nat} (h : lm d n n = lm e n n) : ∀ i, i ≤ n → lm d n i = lm e n i := by
  refine up_to h ?_
  intro i hi ih
  have h1 := les_le d i (n - 1 - i)
  have h2 := les_le e i (n - 1 - i)
  rw [lm, lm] at ih
  have g := congrArg (· / (n - i)) ih
  simp only [Nat.mul_comm _ (n - i), Nat.mul_add_div (show 0 < n - i by omega), Nat.div_eq_of_lt (show les d i (n - 1 - i) < n - i by omega), Nat.div_eq_of_lt (show les e i (n - 1 - i) < n - i by omega), Nat.add_zero] at g
  exact g
theorem lm_inj {d e : Nat → Nat} {n : Nat} (h8 : n ≤ 8) (d1 : ∀ a, a < n → d a < n) (d2 : ∀ a b, a < n → b < n → d a = d b → a = b) (e1 : ∀ a, a < n → e a < n) (e2 : ∀ a b, a < n → b < n → e a = e b → a = b) (h : lm d n n = lm e n n) : ∀ i, i < n → d i = e i := by
  intro i
  induction i using Nat.strongRecOn with
  | _ i ih =>
    intro hi
    have hag : ∀ j, j < i → d j = e j := fun j hj => ih j hj (by omega)
    have g := lm_back h (i + 1) (by omega)
    rw [lm, lm, lm_back h i (by omega)] at g
    rcases Nat.lt_trichotomy (d i) (e i) with q | q | q
    · have := les_lt hi h8 d1 d2 e1 e2 hag q
      omega
    · exact q
    · have := les_lt hi h8 e1 e2 d1 d2 (fun j hj => (hag j hj).symm) q
      omega
/-! permutations as lists -/
def wp (w : List Nat) (n : Nat) : Prop := wv w n ∧ ∀ i j, i < n → j < n → gw w i = gw w j → i = j
theorem gw_ext {w v : List Nat} {n : Nat} (hw : w.length = n) (hv : v.length = n) (h : ∀ i, i < n → gw w i = gw v i) : w = v := by
  apply List.ext_getElem?
  intro i
  rcases Nat.lt_or_ge i n with q | q
  · have := h i q
    unfold gw at this
    rw [List.getD_eq_getElem?_getD, List.getD_eq_getElem?_getD, List.getElem?_eq_getElem (by omega), List.getElem?_eq_getElem (by omega)] at this
    rw [List.getElem?_eq_getElem (by omega), List.getElem?_eq_getElem (by omega)]
    exact congrArg some this
  · rw [List.getElem?_eq_none (by omega), List.getElem?_eq_none (by omega)]
theorem wp_lm {w v : List Nat} {n : Nat} (h6 : n ≤ 6) (hw : wp w n) (hv : wp v n) (h : lm (gw w) n n = lm (gw v) n n) : w = v :=
  gw_ext hw.1.1 hv.1.1 (lm_inj (by omega) hw.1.2 hw.2 hv.1.2 hv.2 h)
theorem wp_count {n : Nat} (h6 : n ≤ 6) {L : List (List Nat)} (hL : ∀ w ∈ L, wp w n) (hN : L.Nodup) : L.length ≤ df n n := by
  refine Classical.byContradiction fun hno => ?_
  have hg : ∀ i, i < L.length → L.getD i [] ∈ L := fun i hi => by
    rw [List.getD_eq_getElem?_getD, List.getElem?_eq_getElem hi]
    exact List.getElem_mem hi
  obtain ⟨i, j, h1, h2, h3⟩ := php (df n n) (fun i => lm (gw (L.getD i [])) n n) (fun i _ => lm_lt _ n n (Nat.le_refl _))
  have h4 := wp_lm h6 (hL _ (hg i (by omega))) (hL _ (hg j (by omega))) h3
  rw [List.getD_eq_getElem?_getD, List.getD_eq_getElem?_getD, List.getElem?_eq_getElem (by omega), List.getElem?_eq_getElem (by omega)] at h4
  have h5 := (List.getElem_inj hN).mp h4
  omega
theorem gw_map {w : List Nat} {f : Nat → Nat} {i : Nat} (hi : i < w.length) : gw (w.map f) i = f (gw w i) := by
  unfold gw
  rw [List.getD_eq_getElem?_getD, List.getD_eq_getElem?_getD, List.getElem?_map, List.getElem?_eq_getElem hi]
  rfl
theorem wp_id (n : Nat) : wp (List.range n) n := by
  have h : ∀ i, i < n → gw (List.range n) i = i := fun i hi => by simp [gw, hi]
  exact ⟨⟨List.length_range, fun x hx => by rw [h x hx]; exact hx⟩, fun i j hi hj e => by rwa [h i hi, h j hj] at e⟩
theorem plnd_inj {A : ZP} (hA : pwf A) : plnd A ↔ ∀ x, x < A.1 → ∀ i j, i < A.1 → j < A.1 → A.2.1 x i = A.2.1 x j → i = j := by
  constructor
  · intro h x hx
    exact (orf_full fun y hy => (hA.2 x y hx hy).1).mp (h x hx)
  · intro h x hx
    exact (orf_full fun y hy => (hA.2 x y hx hy).1).mpr (h x hx)
theorem wp_next {A : ZP} (hA : pwf A) (hl : plnd A) {w : List Nat} (hw : wp w A.1) {x : Nat} (hx : x < A.1) : wp (w.map (A.2.1 x)) A.1 := by
  have hr := (plnd_inj hA).mp hl x hx
  refine ⟨⟨by rw [List.length_map]; exact hw.1.1, fun y hy => ?_⟩, fun i j hi hj e => ?_⟩
  · rw [gw_map (by rw [hw.1.1]; exact hy)]
    exact (hA.2 x _ hx (hw.1.2 y hy)).1
  · rw [gw_map (by rw [hw.1.1]; exact hi), gw_map (by rw [hw.1.1]; exact hj)] at e
    exact hw.2 i j hi hj (hr _ _ (hw.1.2 i hi) (hw.1.2 j hj) e)
/-- the group that the rows generate, each element once -/
def isGen (A : ZP) (L : List (List Nat)) : Prop := L.Nodup ∧ List.range A.1 ∈ L ∧ (∀ w, w ∈ L → ∀ x, x < A.1 → w.map (A.2.1 x) ∈ L) ∧ ∀ P : List Nat → Prop, P (List.range A.1) → (∀ w, P w → ∀ x, x < A.1 → P (w.map (A.2.1 x))) → ∀ w, w ∈ L → P w
theorem isGen_uniq {A : ZP} {L K : List (List Nat)} (h : isGen A L) (h' : isGen A K) : L.length = K.length :=
  List.Perm.length_eq ((List.perm_ext_iff_of_nodup h.1 h'.1).mpr fun w => ⟨h.2.2.2 (fun w => w ∈ K) h'.2.1 h'.2.2.1 w, h'.2.2.2 (fun w => w ∈ L) h.2.1 h.2.2.1 w⟩)
