/-! the numbers whose maps the list holds -/
def dgt (n p x : Nat) : Nat := p / fac n ^ (n - 1 - x) % fac n
def Lp (n p x y : Nat) : Nat := gw (pw n (dgt n p x)) y
def Ap (n p : Nat) : ZP := (n, Lp n p, fun x y => fnd (fun c => decide (Lp n p (Lp n p x y) c = x)) n)
def fwA (A : ZP) (d x y : Nat) : Prop := A.2.1 x y ≤ d ∧ A.2.2 x y ≤ d ∧ ∃ z, z < A.1 ∧ A.2.1 x (A.2.1 y z) ≠ A.2.1 (A.2.1 x y) (A.2.1 (A.2.2 x y) z)
def iv (w : List Nat) (n v : Nat) : Nat := fnd (fun k => decide (gw w k = v)) n
def cmpA (A : ZP) (w : List Nat) : Nat → Nat := cmpG (fun k => gw w (A.2.1 (iv w A.1 (k / A.1)) (iv w A.1 (k % A.1)))) (fun k => A.2.1 (k / A.1) (k % A.1))
def frst (A : ZP) : Prop := ∀ j, j < fac A.1 → cmpA A (pw A.1 j) (A.1 * A.1) ≠ 1
def okA (A : ZP) : Prop := (∀ d, d < A.1 → ∀ x y, x ≤ d → y ≤ d → ¬ fwA A d x y) ∧ pinvo A ∧ nBrk A = 0 ∧ frst A
theorem fac_pos : ∀ n, n ≤ 6 → 0 < fac n := by decide
theorem nbeq_self : ∀ a : Nat, Nat.beq a a = true := fun a => by
  induction a with
  | zero => rfl
  | succ a ih => exact ih
def tbB (n r : Nat) : Bool := decide (∀ y, y < n → tT n r y = gw (pw n r) y) && (decide (∀ y, y < n → tI n r y < n) && decide (∀ y, y < n → gw (pw n r) (tI n r y) = y))
theorem tb_all : ∀ n, n ≤ 4 → 1 ≤ n → ∀ r, r < fac n → tbB n r = true := by decide +kernel
def tbC (n r s : Nat) : Bool := decide (tC n r s < fac n) && decide (∀ z, z < n → gw (pw n (tC n r s)) z = gw (pw n r) (gw (pw n s) z))
theorem tc_all : ∀ n, n ≤ 4 → 1 ≤ n → ∀ r, r < fac n → ∀ s, s < fac n → tbC n r s = true := by decide +kernel
theorem cmpG_congr {f g f' g' : Nat → Nat} : ∀ k, (∀ i, i < k → f i = f' i ∧ g i = g' i) → cmpG f g k = cmpG f' g' k := by
  intro k
  induction k with
  | zero => intro _; rfl
  | succ k ih =>
    intro h
    have h1 := h k (by omega)
    rw [cmpG, cmpG, ih fun i hi => h i (by omega), h1.1, h1.2]
section
variable {n : Nat}
theorem tT_eq (h1 : 1 ≤ n) (h4 : n ≤ 4) {r y : Nat} (hr : r < fac n) (hy : y < n) : tT n r y = gw (pw n r) y := by
  have h := tb_all n h4 h1 r hr
  unfold tbB at h
  simp only [Bool.and_eq_true] at h
  exact of_decide_eq_true h.1 y hy
theorem tI_eq (h1 : 1 ≤ n) (h4 : n ≤ 4) {r y : Nat} (hr : r < fac n) (hy : y < n) : tI n r y < n ∧ gw (pw n r) (tI n r y) = y := by
  have h := tb_all n h4 h1 r hr
  unfold tbB at h
  simp only [Bool.and_eq_true] at h
  exact ⟨of_decide_eq_true h.2.1 y hy, of_decide_eq_true h.2.2 y hy⟩
theorem tC_eq (h1 : 1 ≤ n) (h4 : n ≤ 4) {r s : Nat} (hr : r < fac n) (hs : s < fac n) : tC n r s < fac n ∧ ∀ z, z < n → gw (pw n (tC n r s)) z = gw (pw n r) (gw (pw n s) z) := by
  have h := tc_all n h4 h1 r hr s hs
  unfold tbC at h
  simp only [Bool.and_eq_true] at h
  exact ⟨of_decide_eq_true h.1, of_decide_eq_true h.2⟩
theorem pw_same (h1 : 1 ≤ n) (h4 : n ≤ 4) {a b : Nat} (ha : a < fac n) (hb : b < fac n) (h : ∀ z, z < n → gw (pw n a) z = gw (pw n b) z) : a = b := by
  have wa := pw_wp h1 h4 ha
  have wb := pw_wp h1 h4 hb
  have e := gw_ext wa.1.1.1 wb.1.1.1 h
  rw [← wa.2, ← wb.2, e]
theorem fnd_inv {w : List Nat} (hw : wp w n) {v c : Nat} (hc : c < n) (h : gw w c = v) : fnd (fun k => decide (gw w k = v)) n = c := fnd_eq hc (decide_eq_true h) (fun j hj => decide_eq_false fun q => by
  have := hw.2 j c (by omega) hc (q.trans h.symm)
  omega)
theorem tI_fnd (h1 : 1 ≤ n) (h4 : n ≤ 4) {r v : Nat} (hr : r < fac n) (hv : v < n) : fnd (fun k => decide (gw (pw n r) k = v)) n = tI n r v := by
  have h := tI_eq h1 h4 hr hv
  exact fnd_inv (pw_wp h1 h4 hr).1 h.1 h.2
theorem dgt_lt (h4 : n ≤ 4) (p x : Nat) : dgt n p x < fac n := Nat.mod_lt _ (fac_pos n (by omega))
theorem Lp_lt (h1 : 1 ≤ n) (h4 : n ≤ 4) (p : Nat) {x y : Nat} (hy : y < n) : Lp n p x y < n := (pw_wp h1 h4 (dgt_lt h4 p x)).1.1.2 y hy
theorem Lp_inj (h1 : 1 ≤ n) (h4 : n ≤ 4) (p : Nat) (x : Nat) : ∀ i j, i < n → j < n → Lp n p x i = Lp n p x j → i = j := (pw_wp h1 h4 (dgt_lt h4 p x)).1.2
theorem Rp_eq (h1 : 1 ≤ n) (h4 : n ≤ 4) (p : Nat) {x y : Nat} (hx : x < n) : (Ap n p).2.2 x y = tI n (dgt n p (Lp n p x y)) x := tI_fnd h1 h4 (dgt_lt h4 p _) hx
theorem Ap_wf (h1 : 1 ≤ n) (h4 : n ≤ 4) (p : Nat) : pwf (Ap n p) := ⟨by show n ≤ 6; omega, fun x y hx hy => ⟨Lp_lt h1 h4 p hy, by rw [Rp_eq h1 h4 p hx]; exact (tI_eq h1 h4 (dgt_lt h4 p _) hx).1⟩⟩
theorem rw0_eq {p d x : Nat} (hd : d < n) (hx : x ≤ d) : rw0 (fac n) (p / fac n ^ (n - 1 - d)) d x = dgt n p x := by
  unfold rw0 dgt
  rw [Nat.div_div_eq_div_mul, ← Nat.pow_add, show n - 1 - d + (d - x) = n - 1 - x by omega]
theorem anyD_iff (p : Nat → Bool) : ∀ k, anyD p k = true ↔ ∃ i, i < k ∧ p i = true := by
  intro k
  induction k with
  | zero => exact ⟨fun h => (by cases h), fun ⟨i, h, _⟩ => absurd h (Nat.not_lt_zero _)⟩
  | succ k ih =>
    rw [anyD, Bool.or_eq_true, ih]
    constructor
    · rintro (h | ⟨i, h1, h2⟩)
      · exact ⟨k, by omega, h⟩
      · exact ⟨i, by omega, h2⟩
    · rintro ⟨i, h1, h2⟩
      rcases fin_cases_eq h1 with z | z
      · exact Or.inr ⟨i, z, h2⟩
      · rw [z] at h2; exact Or.inl h2
theorem allD_at {p : Nat → Bool} : ∀ k, allD p k = true → ∀ i, i < k → p i = true := by
  intro k
  induction k with
  | zero => intro _ i hi; exact absurd hi (Nat.not_lt_zero _)
  | succ k ih =>
    intro h i hi
    rw [allD, Bool.and_eq_true] at h
    rcases fin_cases_eq hi with z | z
    · exact ih h.2 i z
    · rw [z]; exact h.1
theorem afail_fw (h1 : 1 ≤ n) (h4 : n ≤ 4) {p d : Nat} (hd : d < n) (h : afail n (fac n) (p / fac n ^ (n - 1 - d)) d = true) : ∃ x y, x ≤ d ∧ y ≤ d ∧ fwA (Ap n p) d x y := by
  obtain ⟨k, hk, hp⟩ := (anyD_iff _ _).mp h
  have hdv := dvlt (n := d + 1) hk
  generalize k / (d + 1) = x at *
  generalize k % (d + 1) = y at *
  have hx : x ≤ d := by omega
  have hy : y ≤ d := by omega
  unfold pfail at hp
  rw [rw0_eq hd hx, rw0_eq hd hy, tT_eq h1 h4 (dgt_lt h4 p x) (show y < n by omega)] at hp
  rw [Bool.and_eq_true] at hp
  have hu : Lp n p x y ≤ d := Nat.le_of_ble_eq_true hp.1
  have hp := hp.2
  rw [show gw (pw n (dgt n p x)) y = Lp n p x y from rfl, rw0_eq hd hu, ← Rp_eq h1 h4 p (show x < n by omega), Bool.and_eq_true] at hp
  have hv : (Ap n p).2.2 x y ≤ d := Nat.le_of_ble_eq_true hp.1
  have hp := hp.2
  rw [rw0_eq hd hv] at hp
  refine ⟨x, y, hx, hy, hu, hv, Classical.byContradiction fun hno => ?_⟩
  have ca := tC_eq h1 h4 (dgt_lt h4 p x) (dgt_lt h4 p y)
  have cb := tC_eq h1 h4 (dgt_lt h4 p (Lp n p x y)) (dgt_lt h4 p ((Ap n p).2.2 x y))
  have e := pw_same h1 h4 ca.1 cb.1 (fun z hz => by
    rw [ca.2 z hz, cb.2 z hz]
    refine Classical.byContradiction fun q => hno ⟨z, hz, q⟩)
  rw [e] at hp
  rw [nbeq_self] at hp
  cases hp
theorem srch_sound : ∀ f d q, d + f = n → srch n (fac n) f d q = true → ∀ p, p / fac n ^ f = q → (∀ d', d' < n → d ≤ d' → afail n (fac n) (p / fac n ^ (n - 1 - d')) d' = false) → 0 < fac n → leafB n (fac n) p = true := by
  intro f
  induction f with
  | zero =>
    intro d q _ h p hp _ _
    rw [Nat.pow_zero, Nat.div_one] at hp
    rw [hp]
    exact h
  | succ f ih =>
    intro d q hdf h p hp hno h0
    rw [srch] at h
    have hr := allD_at _ h (p / fac n ^ f % fac n) (Nat.mod_lt _ h0)
    have e : fac n * q + p / fac n ^ f % fac n = p / fac n ^ f := by
      rw [← hp, Nat.pow_succ, ← Nat.div_div_eq_div_mul]
      exact Nat.div_add_mod _ _
    rw [e, Bool.or_eq_true] at hr
    have hd := hno d (by omega) (Nat.le_refl _)
    rw [show n - 1 - d = f by omega] at hd
    rcases hr with hr | hr
    · rw [hd] at hr; cases hr
    · exact ih (d + 1) _ (by omega) hr p rfl (fun d' h1 h2 => hno d' h1 (by omega)) h0
theorem srch_4 : srch 4 24 4 0 0 = true := by
  have h : ∀ r, r < 24 → (afail 4 24 (24 * 0 + r) 0 || srch 4 24 3 1 (24 * 0 + r)) = true := by
    intro r hr
    match r, hr with
    | 0, _ => exact srch_4_0
    | 1, _ => exact srch_4_1
    | 2, _ => exact srch_4_2
    | 3, _ => exact srch_4_3
    | 4, _ => exact srch_4_4
    | 5, _ => exact srch_4_5
    | 6, _ => exact srch_4_6
    | 7, _ => exact srch_4_7
    | 8, _ => exact srch_4_8
    | 9, _ => exact srch_4_9
    | 10, _ => exact srch_4_10
    | 11, _ => exact srch_4_11
    | 12, _ => exact srch_4_12
    | 13, _ => exact srch_4_13
    | 14, _ => exact srch_4_14
    | 15, _ => exact srch_4_15
    | 16, _ => exact srch_4_16
    | 17, _ => exact srch_4_17
    | 18, _ => exact srch_4_18
    | 19, _ => exact srch_4_19
    | 20, _ => exact srch_4_20
    | 21, _ => exact srch_4_21
    | 22, _ => exact srch_4_22
    | 23, _ => exact srch_4_23
    | r + 24, h => exact absurd h (by omega)
  have hall : ∀ (p : Nat → Bool) k, (∀ i, i < k → p i = true) → allD p k = true := by
    intro p k
    induction k with
    | zero => intro _; rfl
    | succ k ih => intro h; rw [allD, h k (by omega), ih fun i hi => h i (by omega)]; rfl
  exact hall _ 24 h
theorem srch_all (h1 : 1 ≤ n) (h4 : n ≤ 4) : srch n (fac n) n 0 0 = true := by
  rcases (show n = 1 ∨ n = 2 ∨ n = 3 ∨ n = 4 by omega) with rfl | rfl | rfl | rfl
  · exact srch_1
  · exact srch_2
  · exact srch_3
  · exact srch_4
theorem memN_ex (q : Nat) : ∀ l : List Nat, memN q l = true → ∃ i, i < l.length ∧ l.getD i 0 = q := by
  intro l
  induction l with
  | nil => intro h; cases h
  | cons a l ih =>
    intro h
    rw [memN, Bool.or_eq_true] at h
    rcases h with h | h
    · exact ⟨0, Nat.zero_lt_succ _, (Nat.eq_of_beq_eq_true h).symm⟩
    · obtain ⟨i, h1, h2⟩ := ih h
      exact ⟨i + 1, Nat.succ_lt_succ h1, h2⟩
theorem nmL_len : ∀ n, n ≤ 4 → 1 ≤ n → (nmL n).length = sz n := by decide
theorem lcmp_eq (h1 : 1 ≤ n) (h4 : n ≤ 4) {p j : Nat} (hj : j < fac n) : lcmp n (fac n) p j = cmpA (Ap n p) (pw n j) (n * n) := by
  have wj := (pw_wp h1 h4 hj).1
  refine cmpG_congr _ (fun k hk => ?_)
  have hd := dvlt hk
  have ei : ∀ v, v < n → iv (pw n j) n v = tI n j v := fun v hv => tI_fnd h1 h4 hj hv
  have er : ∀ x, x < n → rw0 (fac n) p (n - 1) x = dgt n p x := fun x hx => by
    have := rw0_eq (n := n) (p := p) (d := n - 1) (x := x) (by omega) (by omega)
    rw [Nat.sub_self, Nat.pow_zero, Nat.div_one] at this
    exact this
  have i1 := tI_eq h1 h4 hj hd.1
  have i2 := tI_eq h1 h4 hj hd.2
  constructor
  · show tT n j (tT n (rw0 (fac n) p (n - 1) (tI n j (k / n))) (tI n j (k % n))) = gw (pw n j) (Lp n p (iv (pw n j) n (k / n)) (iv (pw n j) n (k % n)))
    rw [er _ i1.1, tT_eq h1 h4 (dgt_lt h4 p _) i2.1, ei _ hd.1, ei _ hd.2]
    exact tT_eq h1 h4 hj (Lp_lt h1 h4 p (x := tI n j (k / n)) i2.1)
  · show tT n (rw0 (fac n) p (n - 1) (k / n)) (k % n) = Lp n p (k / n) (k % n)
    rw [er _ hd.1, tT_eq h1 h4 (dgt_lt h4 p _) hd.2]
    rfl
theorem ok_nm (h1 : 1 ≤ n) (h4 : n ≤ 4) {p : Nat} (hp : p < fac n ^ n) (h : okA (Ap n p)) : ∃ i, i < sz n ∧ p = nm n i := by
  have h0 := fac_pos n (by omega)
  have hl := srch_sound (n := n) n 0 0 (by omega) (srch_all h1 h4) p (Nat.div_eq_of_lt hp) (fun d hd _ => by
    cases hb : afail n (fac n) (p / fac n ^ (n - 1 - d)) d with
    | false => rfl
    | true =>
      obtain ⟨x, y, hx, hy, hf⟩ := afail_fw h1 h4 hd hb
      exact absurd hf (h.1 d hd x y hx hy)) h0
  unfold leafB at hl
  rw [Bool.or_eq_true] at hl
  rcases hl with hl | hl
  · obtain ⟨i, i1, i2⟩ := memN_ex _ _ hl
    rw [nmL_len n h4 h1] at i1
    exact ⟨i, i1, i2.symm⟩
  · obtain ⟨j, j1, j2⟩ := (anyD_iff _ _).mp hl
    have := Nat.eq_of_beq_eq_true j2
    rw [lcmp_eq h1 h4 j1] at this
    exact absurd this (h.2.2.2 j j1)
end
def fwB (A : ZP) (d x y : Nat) : Bool := Nat.ble (A.2.1 x y) d && (Nat.ble (A.2.2 x y) d && !(alb (fun z => Nat.beq (A.2.1 x (A.2.1 y z)) (A.2.1 (A.2.1 x y) (A.2.1 (A.2.2 x y) z))) A.1))
def okB (A : ZP) : Bool := alb (fun d => alb (fun k => !(fwB A d (k / (d + 1)) (k % (d + 1)))) ((d + 1) * (d + 1))) A.1 && (decide (∀ x, x < A.1 → ∀ y, y < A.1 → A.2.1 (A.2.1 x y) (A.2.2 x y) = x ∧ A.2.2 (A.2.1 x y) (A.2.2 x y) = y) && (Nat.beq (nBrk A) 0 && alb (fun j => !(Nat.beq (cmpA A (pw A.1 j) (A.1 * A.1)) 1)) (fac A.1)))
theorem okB_is {A : ZP} (h : okB A = true) : okA A := by
  unfold okB at h
  simp only [Bool.and_eq_true] at h
  obtain ⟨h1, h2, h3, h4⟩ := h
  refine ⟨fun d hd x y hx hy hf => ?_, fun x y hx hy => of_decide_eq_true h2 x hx y hy, Nat.eq_of_beq_eq_true h3, fun j hj e => ?_⟩
  · have hk := (alb_iff _ _).mp ((alb_iff _ _).mp h1 d hd) ((d + 1) * x + y) (prlt (show x < d + 1 by omega) (show y < d + 1 by omega))
    rw [(dvm (show y < d + 1 by omega)).1, (dvm (show y < d + 1 by omega)).2] at hk
    obtain ⟨f1, f2, z, f3, f4⟩ := hf
    have hb : fwB A d x y = true := by
      unfold fwB
      rw [Nat.ble_eq_true_of_le f1, Nat.ble_eq_true_of_le f2]
      cases ha : alb (fun z => Nat.beq (A.2.1 x (A.2.1 y z)) (A.2.1 (A.2.1 x y) (A.2.1 (A.2.2 x y) z))) A.1 with
      | false => rfl
      | true => exact absurd (Nat.eq_of_beq_eq_true ((alb_iff _ _).mp ha z f3)) f4
    rw [hb] at hk
    cases hk
  · have hk := (alb_iff _ _).mp h4 j hj
    rw [e] at hk
    cases hk
def nmB (n i : Nat) : Bool := decide (nm n i < fac n ^ n) && (decide (∀ x, x < n → ∀ y, y < n → Lp n (nm n i) x y = pt (rwn n i) n x y) && (decide (∀ j, j < i → nm n j < nm n i) && okB (Ap n (nm n i))))
theorem nm_all1 : ∀ n, n ≤ 3 → 1 ≤ n → ∀ i, i < sz n → nmB n i = true := by decide +kernel
theorem nm_all4 : ∀ i, i < 23 → nmB 4 i = true := by decide +kernel
theorem nm_is {n i : Nat} (h1 : 1 ≤ n) (h4 : n ≤ 4) (hi : i < sz n) : nm n i < fac n ^ n ∧ (∀ x y, x < n → y < n → Lp n (nm n i) x y = pt (rwn n i) n x y) ∧ (∀ j, j < i → nm n j < nm n i) ∧ okA (Ap n (nm n i)) := by
  have h : nmB n i = true := by
    rcases (show n ≤ 3 ∨ n = 4 by omega) with z | z
    · exact nm_all1 n z h1 i hi
    · subst z
      exact nm_all4 i hi
  unfold nmB at h
  simp only [Bool.and_eq_true] at h
  exact ⟨of_decide_eq_true h.1, fun x y hx hy => of_decide_eq_true h.2.1 x hx y hy, of_decide_eq_true h.2.2.1, okB_is h.2.2.2⟩
