/-! units and braces -/
def un (n m : Nat) : Bool := decide (0 < m ∧ m < n ∧ ∀ d, d < n → 2 ≤ d → ¬ (n % d = 0 ∧ m % d = 0))
theorem un_iff {n m : Nat} : un n m = true ↔ (0 < m ∧ m < n ∧ ∀ d, d < n → 2 ≤ d → ¬ (n % d = 0 ∧ m % d = 0)) := decide_eq_true_iff
def areU (n u : Nat) : Prop := u < 8 ^ n ∧ ∀ a, a < n → un n (dg u a) = true
def bra (n u : Nat) : Prop := ∀ a b, a < n → b < n → dg u ((a + dg u a * b) % n) = dg u a * dg u b % n
def qt (n a m : Nat) : Nat := fnd (fun c => decide (m * c % n = a)) n
def qtb (n m a : Nat) : Bool := decide (qt n a m < n ∧ m * qt n a m % n = a ∧ ∀ c, c < n → m * c % n = a → c = qt n a m)
theorem qt_is0 : ∀ n, n < 7 → ∀ m, m < n → ∀ a, a < n → (2 ≤ n ∧ un n m = true) → qtb n m a = true := by decide +kernel
theorem qt_is (n : Nat) (h : n < 7) (h2 : 2 ≤ n) (m : Nat) (hm : m < n) (hu : un n m = true) (a : Nat) (ha : a < n) : qt n a m < n ∧ m * qt n a m % n = a ∧ ∀ c, c < n → m * c % n = a → c = qt n a m := of_decide_eq_true (qt_is0 n h m hm a ha ⟨h2, hu⟩)
def pbra (n u : Nat) : ZP := (n, fun a b => dg u a * b % n, fun a b => qt n a (dg u (dg u a * b % n)))
theorem dg_lt (u a : Nat) : dg u a < 8 := Nat.mod_lt _ (by decide)
theorem pbra_wf {n u : Nat} (h2 : 2 ≤ n) (h6 : n ≤ 6) (h : areU n u) : pwf (pbra n u) := by
  refine ⟨h6, fun a b ha hb => ?_⟩
  have hl : dg u a * b % n < n := Nat.mod_lt _ (by omega)
  have hu := h.2 _ hl
  exact ⟨hl, (qt_is n (by omega) h2 _ (un_iff.mp hu).2.1 hu a ha).1⟩
section
variable {G : ZG} {M : ZM} {Z : Option ZV → ZM → Prop}
theorem s_AL_isUnit {n m : Nat} (h2 : 2 ≤ n) (h6 : n ≤ 6) (hm : m < 8) (hZ : Z (some (zi (b2i (un n m)))) M) : Ctr 0 G mi_AL_isUnit [zi (nI n), zi (nI m)] M Z := by
  have lp : ∀ d, d ≤ n → 2 ≤ d → (∀ e, e < d → 2 ≤ e → ¬ (n % e = 0 ∧ m % e = 0)) → V 0 G mi_AL_isUnit Z 2 [(0, zi (nI n)), (1, zi (nI m)), (2, zi (nI d))] [] M := by
    refine up_to ?_ ?_
    · intro _ q
      have e1 : ¬ (0 < m ∧ m < n) → un n m = false := fun w => decide_eq_false (fun z => w ⟨z.1, z.2.1⟩)
      have e2 : 0 < m → m < n → un n m = true := fun w w2 => decide_eq_true ⟨w, w2, q⟩
      refine z_run (cuts := cu_AL_isUnit) ok_AL_isUnit (fun Kz hKz => ?_)
      conv => whnf
      rw [nI_leI (by omega) (by omega)]
      refine ⟨fun _ => ?_, fun q => absurd (Nat.le_refl _) q⟩
      conv => whnf
      rw [nI_leI (by omega) (by omega)]
      refine ⟨fun w => ?_, fun w => ?_⟩
      · rw [e1 (by omega)] at hZ
        conv => whnf
        exact ⟨Or.inl rfl, hZ⟩
      · conv => whnf
        rw [nI_leI (by omega) (by omega)]
        refine ⟨fun w2 => ?_, fun w2 => ?_⟩
        · rw [e1 (by omega)] at hZ
          conv => whnf
          exact ⟨Or.inl rfl, hZ⟩
        · rw [e2 (by omega) (by omega)] at hZ
          conv => whnf
          exact ⟨Or.inr rfl, hZ⟩
    · intro d hd ih hd2 q
      have nx : ¬ (n % d = 0 ∧ m % d = 0) → V 0 G mi_AL_isUnit Z 2 [(0, zi (nI n)), (1, zi (nI m)), (2, zi (nI (d + 1)))] [] M := by
        intro w
        refine ih (by omega) (fun e he h2 => ?_)
        rcases Nat.lt_succ_iff_lt_or_eq.mp he with he | rfl
        · exact q e he h2
        · exact w
      have dm : n % d < d := Nat.mod_lt _ (by omega)
      have dm2 : m % d < d := Nat.mod_lt _ (by omega)
      refine z_run (cuts := cu_AL_isUnit) ok_AL_isUnit (fun Kz hKz => ?_)
      conv => whnf
      rw [nI_leI (by omega) (by omega)]
      refine ⟨fun q => absurd q (by omega), fun _ => ?_⟩
      conv => whnf
      refine ⟨fun w => absurd ((nI_eq (by omega) (by decide)).mp w) (by omega), ?_⟩
      conv => whnf
      rw [n_mod (by omega) (by omega) (by omega), n_ne (by omega) (by decide)]
      refine ⟨fun w => ?_, fun w => ?_⟩
      · conv => whnf
        refine hKz _ _ _ _ ?_
        rw [nI_1']
        exact nx (fun z => w z.1)
      · conv => whnf
        refine ⟨fun w => absurd ((nI_eq (by omega) (by decide)).mp w) (by omega), ?_⟩
        conv => whnf
        rw [n_mod (by omega) (by omega) (by omega), n_ne (by omega) (by decide)]
        refine ⟨fun w2 => ?_, fun w2 => ?_⟩
        · conv => whnf
          refine hKz _ _ _ _ ?_
          rw [nI_1']
          exact nx (fun z => w2 z.2)
        · have e1 : un n m = false := decide_eq_false (fun z => z.2.2 d hd hd2 ⟨Classical.not_not.mp w, Classical.not_not.mp w2⟩)
          rw [e1] at hZ
          conv => whnf
          exact ⟨Or.inl rfl, hZ⟩
  refine go_AL_isUnit (fun Kz hKz => ?_)
  conv => whnf
  refine hKz _ _ _ _ ?_
  exact lp 2 h2 (Nat.le_refl _) (fun e he h => absurd he (by omega))
theorem s_AL_areUnits {n u : Nat} (h2 : 2 ≤ n) (h6 : n ≤ 6) (hu : u < 2 ^ 32) (h1 : areU n u → Z (some (zi (nI 1))) M) (h0 : ¬ areU n u → Z (some (zi (nI 0))) M) : Ctr 0 G mi_AL_areUnits [zi (nI n), zi (nI u)] M Z := by
  have lp : ∀ a, a ≤ n → (∀ b, b < a → un n (dg u b) = true) → V 0 G mi_AL_areUnits Z 2 [(0, zi (nI n)), (1, zi (nI u)), (2, zi (nI a))] [] M := by
    refine up_to ?_ ?_
    · intro q
      refine z_run (cuts := cu_AL_areUnits) ok_AL_areUnits (fun Kz hKz => ?_)
      conv => whnf
      rw [nI_leI (by omega) (by omega)]
      refine ⟨fun _ => ?_, fun q => absurd (Nat.le_refl _) q⟩
      conv => whnf
      refine s_CO_isCode hu h6 h6 (fun w => ?_) (fun w => ?_)
      · conv => whnf
        exact ⟨Or.inr rfl, h1 ⟨w.1, q⟩⟩
      · conv => whnf
        exact ⟨Or.inl rfl, h0 (fun z => w ⟨z.1, fun i hi => (un_iff.mp (z.2 i hi)).2.1⟩)⟩
    · intro a ha ih q
      refine z_run (cuts := cu_AL_areUnits) ok_AL_areUnits (fun Kz hKz => ?_)
      conv => whnf
      rw [nI_leI (by omega) (by omega)]
      refine ⟨fun q => absurd q (by omega), fun _ => ?_⟩
      conv => whnf
      refine s_CO_digit hu (by omega) ?_
      conv => whnf
      refine s_AL_isUnit h2 h6 (dg_lt u a) ?_
      cases hb : un n (u / 8 ^ a % 8) with
      | true =>
        conv => whnf
        first | refine ⟨fun _ => ?_, fun q => absurd (by decide) q⟩ | refine ⟨fun q => absurd q (by decide), fun _ => ?_⟩
        conv => whnf
        refine hKz _ _ _ _ ?_
        rw [nI_1']
        refine ih (fun b hb2 => ?_)
        rcases Nat.lt_succ_iff_lt_or_eq.mp hb2 with hb2 | rfl
        · exact q b hb2
        · exact hb
      | false =>
        conv => whnf
        first | refine ⟨fun _ => ?_, fun q => absurd (by decide) q⟩ | refine ⟨fun q => absurd q (by decide), fun _ => ?_⟩
        conv => whnf
        exact ⟨Or.inl rfl, h0 (fun z => by have := (z.2 a ha).symm.trans hb; cases this)⟩
  refine go_AL_areUnits (fun Kz hKz => ?_)
  conv => whnf
  refine hKz _ _ _ _ ?_
  exact lp 0 (Nat.zero_le _) (fun b hb => absurd hb (Nat.not_lt_zero _))
theorem s_AL_rest {n m : Nat} (h2 : 2 ≤ n) (h6 : n ≤ 6) (hm : m < 2 ^ 31) (hZ : Z (some (zi (nI (m % n)))) M) : Ctr 0 G mi_AL_rest [zi (nI m), zi (nI n)] M Z := by
  refine go_AL_rest (fun Kz hKz => ?_)
  conv => whnf
  rw [nI_leI (by omega) (by omega)]
  refine ⟨fun q => absurd q (by omega), fun _ => ?_⟩
  conv => whnf
  refine ⟨fun w => absurd ((nI_eq (by omega) (by decide)).mp w) (by omega), ?_⟩
  conv => whnf
  rw [n_mod (by omega) (by omega) (by omega)]
  exact hZ
theorem s_AL_isBrace {n u : Nat} (h2 : 2 ≤ n) (h6 : n ≤ 6) (hu : u < 2 ^ 32) (h1 : bra n u → Z (some (zi (nI 1))) M) (h0 : ¬ bra n u → Z (some (zi (nI 0))) M) : Ctr 0 G mi_AL_isBrace [zi (nI n), zi (nI u)] M Z := by
  have hml : ∀ a b, dg u a * b ≤ 8 * b := fun a b => Nat.mul_le_mul_right _ (Nat.le_of_lt (dg_lt u a))
  refine go_AL_isBrace (fun Kz hKz => ?_)
  conv => whnf
  refine hKz _ _ _ _ ?_
  refine rloop (n := n) (m := n) (O := fun x => (∀ a b, a < n → b < n → a < x → dg u ((a + dg u a * b) % n) = dg u a * dg u b % n) → V 0 G mi_AL_isBrace Z 2 [(0, zi (nI n)), (1, zi (nI u)), (2, zi (nI x))] [] M) (I := fun x y => (∀ a b, a < n → b < n → (a < x ∨ (a = x ∧ b < y)) → dg u ((a + dg u a * b) % n) = dg u a * dg u b % n) → V 0 G mi_AL_isBrace Z 9 [(0, zi (nI n)), (1, zi (nI u)), (2, zi (nI x)), (3, zi (nI y))] [] M) (fun q => ?_) (fun x hx h q => ?_) (fun x hx h q => ?_) (fun x y hx hy h q => ?_) (fun a b _ _ q => absurd q (Nat.not_lt_zero _))
  · refine z_run (cuts := cu_AL_isBrace) ok_AL_isBrace (fun Kz hKz => ?_)
    conv => whnf
    rw [nI_leI (by omega) (by omega)]
    refine ⟨fun _ => ?_, fun q => absurd (Nat.le_refl _) q⟩
    conv => whnf
    exact ⟨Or.inr rfl, h1 (fun a b ha hb => q a b ha hb ha)⟩
  · refine z_run (cuts := cu_AL_isBrace) ok_AL_isBrace (fun Kz hKz => ?_)
    conv => whnf
    rw [nI_leI (by omega) (by omega)]
    refine ⟨fun q => absurd q (by omega), fun _ => ?_⟩
    conv => whnf
    refine hKz _ _ _ _ ?_
    exact h (fun a b ha hb q2 => q a b ha hb (by omega))
  · refine z_run (cuts := cu_AL_isBrace) ok_AL_isBrace (fun Kz hKz => ?_)
    conv => whnf
    rw [nI_leI (by omega) (by omega)]
    refine ⟨fun _ => ?_, fun q => absurd (Nat.le_refl _) q⟩
    conv => whnf
    refine hKz _ _ _ _ ?_
    rw [nI_1']
    exact h (fun a b ha hb q2 => q a b ha hb (by omega))
  · have m1 := hml x y
    have d1 := dg_lt u y
    have m2 := hml x (dg u y)
    have r1 : (x + dg u x * y) % n < n := Nat.mod_lt _ (by omega)
    have r2 : dg u x * dg u y % n < n := Nat.mod_lt _ (by omega)
    have d2 := dg_lt u ((x + dg u x * y) % n)
    refine z_run (cuts := cu_AL_isBrace) ok_AL_isBrace (fun Kz hKz => ?_)
    conv => whnf
    rw [nI_leI (by omega) (by omega)]
    refine ⟨fun q => absurd q (by omega), fun _ => ?_⟩
    conv => whnf
    refine s_CO_digit hu (by omega) ?_
    conv => whnf
    rw [pk_mul, nI_add]
    refine s_AL_rest h2 h6 (show x + dg u x * y < 2 ^ 31 by omega) ?_
    conv => whnf
    refine s_CO_digit hu (show (x + dg u x * y) % n ≤ 9 by omega) ?_
    conv => whnf
    refine s_CO_digit hu (by omega) ?_
    conv => whnf
    refine s_CO_digit hu (by omega) ?_
    conv => whnf
    rw [pk_mul]
    refine s_AL_rest h2 h6 (show dg u x * dg u y < 2 ^ 31 by omega) ?_
    conv => whnf
    show (nI (dg u ((x + dg u x * y) % n)) = nI (dg u x * dg u y % n) → _) ∧ _
    rw [nI_eq (by omega) (by omega)]
    refine ⟨fun z => ?_, fun z => ?_⟩
    · conv => whnf
      refine hKz _ _ _ _ ?_
      rw [nI_1']
      refine h (fun a b ha hb q2 => ?_)
      by_cases hab : a = x ∧ b = y
      · rw [hab.1, hab.2]; exact z
      · exact q a b ha hb (by omega)
    · conv => whnf
      exact ⟨Or.inl rfl, h0 (fun w => z (congrArg nI (w x y hx hy)))⟩
theorem s_AL_quotient {n a m : Nat} (h2 : 2 ≤ n) (h6 : n ≤ 6) (hm : m < 8) (ha : a < n) (hu : un n m = true) (hZ : Z (some (zi (nI (qt n a m)))) M) : Ctr 0 G mi_AL_quotient [zi (nI n), zi (nI a), zi (nI m)] M Z := by
  have hq := qt_is n (by omega) h2 m (un_iff.mp hu).2.1 hu a ha
  have lp : ∀ c, c ≤ n → (∀ w, w < c → ¬ m * w % n = a) → V 0 G mi_AL_quotient Z 2 [(0, zi (nI n)), (1, zi (nI a)), (2, zi (nI m)), (3, zi (nI c))] [] M := by
    refine up_to (fun q => absurd hq.2.1 (q _ hq.1)) ?_
    intro c hc ih q
    have hml : m * c ≤ 8 * c := Nat.mul_le_mul_right _ (Nat.le_of_lt hm)
    have hr : m * c % n < n := Nat.mod_lt _ (by omega)
    refine z_run (cuts := cu_AL_quotient) ok_AL_quotient (fun Kz hKz => ?_)
    conv => whnf
    rw [nI_leI (by omega) (by omega)]
    refine ⟨fun q => absurd q (by omega), fun _ => ?_⟩
    conv => whnf
    rw [pk_mul]
    refine s_AL_rest h2 h6 (by omega) ?_
    conv => whnf
    rw [n_ne (by omega) (by omega)]
    refine ⟨fun q2 => ?_, fun q2 => ?_⟩
    · conv => whnf
      refine hKz _ _ _ _ ?_
      rw [nI_1']
      refine ih (fun w hw => ?_)
      rcases Nat.lt_succ_iff_lt_or_eq.mp hw with hw | rfl
      · exact q w hw
      · exact q2
    · conv => whnf
      rw [hq.2.2 c hc (Classical.not_not.mp q2)]
      exact hZ
  refine go_AL_quotient (fun Kz hKz => ?_)
  conv => whnf
  refine hKz _ _ _ _ ?_
  exact lp 0 (Nat.zero_le _) (fun w hw => absurd hw (Nat.not_lt_zero _))
theorem s_AL_makeBraceMap {k n u : Nat} (hk : k < 10) (h2 : 2 ≤ n) (h6 : n ≤ 6) (hu : u < 2 ^ 32) (h : areU n u) (hZ : ∀ M', zsm (pmS k) M M' → isPM M' k (pbra n u) → Z none M') : Ctr 0 G mi_AL_makeBraceMap [zr 0 k, zi (nI n), zi (nI u)] M Z := by
  have hml : ∀ a b, dg u a * b ≤ 8 * b := fun a b => Nat.mul_le_mul_right _ (Nat.le_of_lt (dg_lt u a))
  refine go_AL_makeBraceMap (fun Kz hKz => ?_)
  conv => whnf
  refine ⟨by first | assumption | decide, ?_⟩
  conv => whnf
  refine s_PM_resize hk ?_
  conv => whnf
  refine hKz _ _ _ _ ?_
  refine wloop (k := k) (pos := fun a b => 8 * a + b) (val := fun a b => 8 * (pbra n u).2.1 a b + (pbra n u).2.2 a b) (n := n) (O := fun x M' => V 0 G mi_AL_makeBraceMap Z 7 [(0, zr 0 k), (1, zi (nI n)), (2, zi (nI u)), (3, zi (nI x))] [] M') (I := fun x y M' => V 0 G mi_AL_makeBraceMap Z 15 [(0, zr 0 k), (1, zi (nI n)), (2, zi (nI u)), (3, zi (nI x)), (4, zi (nI y))] [] M') (fun x y hx hy => pos8_inj (by omega) hx hy) (fun M' h9 => ?_) (fun x hx M' h9 => ?_) (fun x hx M' h9 => ?_) (fun x y hx hy M' h8 h9 => ?_)
  · refine z_run (cuts := cu_AL_makeBraceMap) ok_AL_makeBraceMap (fun Kz hKz => ?_)
    conv => whnf
    rw [nI_leI (by omega) (by omega)]
    refine ⟨fun _ => ?_, fun q => absurd (Nat.le_refl _) q⟩
    conv => whnf
    have he := winv_end h9
    exact hZ M' he.1 ⟨pbra_wf h2 h6 h, he.2.1, he.2.2⟩
  · refine z_run (cuts := cu_AL_makeBraceMap) ok_AL_makeBraceMap (fun Kz hKz => ?_)
    conv => whnf
    rw [nI_leI (by omega) (by omega)]
    refine ⟨fun q => absurd q (by omega), fun _ => ?_⟩
    conv => whnf
    refine hKz _ _ _ _ ?_
    exact h9
  · refine z_run (cuts := cu_AL_makeBraceMap) ok_AL_makeBraceMap (fun Kz hKz => ?_)
    conv => whnf
    rw [nI_leI (by omega) (by omega)]
    refine ⟨fun _ => ?_, fun q => absurd (Nat.le_refl _) q⟩
    conv => whnf
    refine hKz _ _ _ _ ?_
    rw [nI_1']
    exact h9
  · have m1 := hml x y
    have hl : dg u x * y % n < n := Nat.mod_lt _ (by omega)
    have hul := h.2 _ hl
    have hq := qt_is n (by omega) h2 _ (un_iff.mp hul).2.1 hul x hx
    refine z_run (cuts := cu_AL_makeBraceMap) ok_AL_makeBraceMap (fun Kz hKz => ?_)
    conv => whnf
    rw [nI_leI (by omega) (by omega)]
    refine ⟨fun q => absurd q (by omega), fun _ => ?_⟩
    conv => whnf
    refine s_CO_digit hu (by omega) ?_
    conv => whnf
    rw [pk_mul]
    refine s_AL_rest h2 h6 (show dg u x * y < 2 ^ 31 by omega) ?_
    conv => whnf
    refine s_CO_digit hu (show dg u x * y % n ≤ 9 by omega) ?_
    conv => whnf
    refine s_AL_quotient h2 h6 (dg_lt u (dg u x * y % n)) hx hul ?_
    conv => whnf
    refine ⟨by first | assumption | decide, ?_⟩
    conv => whnf
    refine s_PM_setImage (l := dg u x * y % n) (r := qt n x (dg u (dg u x * y % n))) hk (by omega) (by omega) (by omega) (by omega) ?_
    conv => whnf
    refine hKz _ _ _ _ ?_
    rw [nI_1']
    exact h9
theorem c_brace {to n u : Nat} {S : ZS} (hto : to < 2 ^ 32) (hn : n < 2 ^ 32) (hu : u < 2 ^ 32) (hC : CS M S) (h1 : ¬ to < 4 → Z (some (zi (-1000001))) M) (h2 : to < 4 → ¬ (2 ≤ n ∧ n ≤ 6 ∧ areU n u) → Z (some (zi (-1000002))) M) (h3 : to < 4 → 2 ≤ n → n ≤ 6 → areU n u → ¬ bra n u → Z (some (zi (-1000003))) M) (h4 : to < 4 → 2 ≤ n → n ≤ 6 → areU n u → bra n u → ∀ M', CS M' (upS S to (pbra n u)) → csm M M' → Z (some (zi (nI n))) M') : Ctr 0 G mi_T_brace [zr 5 0, zi (nI to), zi (nI n), zi (nI u)] M Z := by
  refine go_T_brace (fun Kz hKz => ?_)
  conv => whnf
  refine s_T_isPlace hto (fun h => ?_) (fun h => ?_)
  · conv => whnf
    first | refine ⟨fun _ => ?_, fun q => absurd (by decide) q⟩ | refine ⟨fun q => absurd q (by decide), fun _ => ?_⟩
    conv => whnf
    refine s_T_isWithin hn (by decide) (by decide) (fun w w2 => ?_) (fun w => ?_)
    · conv => whnf
      first | refine ⟨fun _ => ?_, fun q => absurd (by decide) q⟩ | refine ⟨fun q => absurd q (by decide), fun _ => ?_⟩
      conv => whnf
      refine s_AL_areUnits w w2 hu (fun g => ?_) (fun g => ?_)
      · conv => whnf
        first | refine ⟨fun _ => ?_, fun q => absurd (by decide) q⟩ | refine ⟨fun q => absurd q (by decide), fun _ => ?_⟩
        conv => whnf
        refine s_AL_isBrace w w2 hu (fun g2 => ?_) (fun g2 => ?_)
        · conv => whnf
          first | refine ⟨fun _ => ?_, fun q => absurd (by decide) q⟩ | refine ⟨fun q => absurd q (by decide), fun _ => ?_⟩
          conv => whnf
          refine s_AL_makeBraceMap (by decide) w w2 hu g (fun M1 g3 g4 => ?_)
          conv => whnf
          refine s_T_keepMade h (CS_cst hC (cst_pm (by decide) g3)) g4 (fun M' h6 h7 => ?_)
          conv => whnf
          exact h4 h w w2 g g2 M' h6 (csm_trans (csm_pm g3) h7)
        · conv => whnf
          first | refine ⟨fun _ => ?_, fun q => absurd (by decide) q⟩ | refine ⟨fun q => absurd q (by decide), fun _ => ?_⟩
          conv => whnf
          exact h3 h w w2 g g2
      · conv => whnf
        first | refine ⟨fun _ => ?_, fun q => absurd (by decide) q⟩ | refine ⟨fun q => absurd q (by decide), fun _ => ?_⟩
        conv => whnf
        exact h2 h (fun q => g q.2.2)
    · conv => whnf
      first | refine ⟨fun _ => ?_, fun q => absurd (by decide) q⟩ | refine ⟨fun q => absurd q (by decide), fun _ => ?_⟩
      conv => whnf
      exact h2 h (fun q => w ⟨q.1, q.2.1⟩)
  · conv => whnf
    first | refine ⟨fun _ => ?_, fun q => absurd (by decide) q⟩ | refine ⟨fun q => absurd q (by decide), fun _ => ?_⟩
    conv => whnf
    exact h1 h
end
