/-! the law: laying a map's cells; units, braces, products -/
def hstp (M M' : ZM) : Prop := hfr M M' ∧ hok M' ∧ (∀ k, k < 5 → M'.2 20 0 (8 * k) = M.2 20 0 (8 * k)) ∧ ∀ k x y, k < 4 → x < 6 → y < 6 → hcl M' k x y = hcl M k x y ∧ hcr M' k x y = hcr M k x y
theorem hstp_refl {M : ZM} (h : hok M) : hstp M M := ⟨hfr_refl M, h, fun _ _ => rfl, fun _ _ _ _ _ _ => ⟨rfl, rfl⟩⟩
theorem hstp_trans {M M' M'' : ZM} (h : hstp M M') (h' : hstp M' M'') : hstp M M'' := ⟨hfr_trans h.1 h'.1, h'.2.1, fun k hk => (h'.2.2.1 k hk).trans (h.2.2.1 k hk), fun k x y hk hx hy => ⟨(h'.2.2.2 k x y hk hx hy).1.trans (h.2.2.2 k x y hk hx hy).1, (h'.2.2.2 k x y hk hx hy).2.trans (h.2.2.2 k x y hk hx hy).2⟩⟩
theorem hstp_ly {M M' : ZM} {x y u v : Nat} (h : hly 4 x y u v M M') : hstp M M' := ⟨h.1, h.2.1, h.2.2.1, fun k a b hk ha hb => by
  have := h.2.2.2 k a b (by omega) ha hb
  rw [if_neg (by omega), if_neg (by omega)] at this
  exact this⟩
theorem isH_stp {M M' : ZM} {m : Nat} {A : ZP} (h : isH M m A) (hm : m < 4) (q : hstp M M') : isH M' m A := by
  have hn := h.1.1
  refine ⟨h.1, (q.2.2.1 m (by omega)).trans h.2.1, fun x y hx hy => ?_⟩
  have e := q.2.2.2 m x y hm (by omega) (by omega)
  rw [e.1, e.2]
  exact h.2.2 x y hx hy
theorem LH_stp {M M' : ZM} {S : ZS} (h : LH M S) (q : hstp M M') : LH M' S := ⟨q.2.1, fun m hm => isH_stp (h.2 m hm) hm q⟩
/-- the first k cells of the map that is made are laid -/
def laid (M0 : ZM) (pos vl vr : Nat → Nat) (k : Nat) (M' : ZM) : Prop := hstp M0 M' ∧ ∀ j, j < k → hcl M' 4 (pos j / 6) (pos j % 6) = vl j ∧ hcr M' 4 (pos j / 6) (pos j % 6) = vr j
theorem h_build {M0 : ZM} {N : Nat} {pos vl vr : Nat → Nat} {P : Nat → ZM → Prop} (hM : hok M0) (hpos : ∀ k, k < N → pos k < 36) (hinj : ∀ i j, i < N → j < N → pos i = pos j → i = j) (h1 : ∀ M', laid M0 pos vl vr N M' → P N M') (h2 : ∀ k, k < N → ∀ M', laid M0 pos vl vr k M' → (∀ x y, pos k = 6 * x + y → y < 6 → ∀ M2, hly 4 x y (vl k) (vr k) M' M2 → P (k + 1) M2) → P k M') : P 0 M0 := by
  have lp : ∀ k, k ≤ N → ∀ M', laid M0 pos vl vr k M' → P k M' := by
    refine up_to h1 ?_
    intro k hk ih M' h
    have hp := hpos k hk
    refine h2 k hk M' h (fun x y e hy M2 q => ih M2 ⟨hstp_trans h.1 (hstp_ly q), fun j hj => ?_⟩)
    have hp2 := hpos j (by omega)
    have e2 := q.2.2.2 4 (pos j / 6) (pos j % 6) (by decide) (by omega) (by omega)
    rcases Nat.lt_succ_iff_lt_or_eq.mp hj with hj | rfl
    · have hne : pos j ≠ pos k := fun e => by have := hinj j k (by omega) hk e; omega
      rw [e2.1, e2.2, if_neg (by omega), if_neg (by omega)]
      exact h.2 j hj
    · rw [e2.1, e2.2, if_pos (by omega), if_pos (by omega)]
      exact ⟨rfl, rfl⟩
  exact lp 0 (Nat.zero_le _) M0 ⟨hstp_refl hM, fun j hj => absurd hj (Nat.not_lt_zero _)⟩
theorem laid_isH {M0 M' : ZM} {N : Nat} {pos vl vr : Nat → Nat} {A : ZP} (h : laid M0 pos vl vr N M') (hA : pwf A) (h0 : M0.2 20 0 32 = lN A.1) (hc : ∀ x y, x < A.1 → y < A.1 → ∃ k, k < N ∧ pos k = 6 * x + y ∧ vl k = A.2.1 x y ∧ vr k = A.2.2 x y) : isH M' 4 A := by
  have hn := hA.1
  refine ⟨hA, (h.1.2.2.1 4 (by decide)).trans h0, fun x y hx hy => ?_⟩
  obtain ⟨k, h1, h2, h3, h4⟩ := hc x y hx hy
  have := h.2 k h1
  rw [h2, h3, h4, show (6 * x + y) / 6 = x by omega, show (6 * x + y) % 6 = y by omega] at this
  exact this
/-- the usual order of the cells -/
def sp (n k : Nat) : Nat := 6 * (k / n) + k % n
theorem sp_lt {n k : Nat} (hn : n ≤ 6) (h : k < n * n) : sp n k < 36 := by
  have := dvlt h
  unfold sp
  omega
theorem sp_inj {n : Nat} (hn : n ≤ 6) : ∀ i j, i < n * n → j < n * n → sp n i = sp n j → i = j := by
  intro i j hi hj h
  have h1 := dvlt hi
  have h2 := dvlt hj
  have e1 := Nat.div_add_mod i n
  have e2 := Nat.div_add_mod j n
  unfold sp at h
  have a1 : i / n = j / n := by omega
  have a2 : i % n = j % n := by omega
  rw [← e1, ← e2, a1, a2]
theorem sp_isH {M0 M' : ZM} {vl vr : Nat → Nat} {A : ZP} (h : laid M0 (sp A.1) vl vr (A.1 * A.1) M') (hA : pwf A) (h0 : M0.2 20 0 32 = lN A.1) (hl : ∀ k, k < A.1 * A.1 → vl k = A.2.1 (k / A.1) (k % A.1) ∧ vr k = A.2.2 (k / A.1) (k % A.1)) : isH M' 4 A := by
  refine laid_isH h hA h0 (fun x y hx hy => ⟨A.1 * x + y, prlt hx hy, ?_, ?_, ?_⟩)
  · unfold sp; rw [(dvm hy).1, (dvm hy).2]
  · rw [(hl _ (prlt hx hy)).1, (dvm hy).1, (dvm hy).2]
  · rw [(hl _ (prlt hx hy)).2, (dvm hy).1, (dvm hy).2]
/-- the points of the map that is made are set -/
def hz4 (n : Nat) (M : ZM) : ZM := zsetL 20 0 32 (lN n) M
theorem hz4_hw {M : ZM} {n m x : Nat} (hx : x < 6) (hm : m < 5) : hw (hz4 n M) m x = hw M m x := by
  unfold hw hz4
  rw [zsetL_ne (by omega)]
theorem hz4_hok {M : ZM} {n : Nat} (h : hok M) : hok (hz4 n M) := fun m hm x hx => by rw [hz4_hw hx hm]; exact h m hm x hx
theorem hz4_fr (M : ZM) (n : Nat) : hfr M (hz4 n M) := ⟨rfl, fun a b q => zsetL_off q⟩
theorem hz4_isH {M : ZM} {n m : Nat} {A : ZP} (h : isH M m A) (hm : m < 4) : isH (hz4 n M) m A := by
  have hn := h.1.1
  refine ⟨h.1, ?_, fun x y hx hy => ?_⟩
  · unfold hz4
    rw [zsetL_ne (by omega)]
    exact h.2.1
  · unfold hcl hcr
    rw [hz4_hw (by omega) (by omega)]
    exact h.2.2 x y hx hy
theorem hz4_LS {M : ZM} {n : Nat} {S : ZS} (h : LH M S) : LH (hz4 n M) S := ⟨hz4_hok h.1, fun m hm => hz4_isH (h.2 m hm) hm⟩
theorem hz4_at (M : ZM) (n : Nat) : (hz4 n M).2 20 0 32 = lN n := zsetL_eq
/-- the last one of which it holds -/
def lastc (p : Nat → Bool) (d : Nat) : Nat → Nat
  | 0 => d
  | k + 1 => if p k then k else lastc p d k
theorem lastc_is {p : Nat → Bool} {d n v : Nat} (hv : v < n) (h : ∀ c, c < n → (p c = true ↔ c = v)) : lastc p d n = v := by
  have : ∀ k, k ≤ n → v < k → lastc p d k = v := by
    intro k
    induction k with
    | zero => intro _ q; omega
    | succ k ih =>
      intro hk hv2
      rw [lastc]
      by_cases q : p k = true
      · rw [if_pos q]; exact (h k (by omega)).mp q
      · rw [if_neg q]
        have : k ≠ v := fun e => q ((h k (by omega)).mpr e)
        exact ih (by omega) (by omega)
  exact this n (Nat.le_refl _) hv
theorem lastc_lt {p : Nat → Bool} {d n : Nat} (hd : d < n) : ∀ k, k ≤ n → lastc p d k < n := by
  intro k
  induction k with
  | zero => intro _; exact hd
  | succ k ih =>
    intro hk
    rw [lastc]
    split
    · omega
    · exact ih (by omega)
def alb (p : Nat → Bool) : Nat → Bool
  | 0 => true
  | k + 1 => alb p k && p k
theorem alb_iff (p : Nat → Bool) : ∀ k, alb p k = true ↔ ∀ i, i < k → p i = true := by
  intro k
  induction k with
  | zero => exact ⟨fun _ i hi => absurd hi (Nat.not_lt_zero _), fun _ => rfl⟩
  | succ k ih =>
    rw [alb, Bool.and_eq_true, ih]
    constructor
    · rintro ⟨h1, h2⟩ i hi
      rcases Nat.lt_succ_iff_lt_or_eq.mp hi with hi | rfl
      · exact h1 i hi
      · exact h2
    · intro h
      exact ⟨fun i hi => h i (by omega), h k (by omega)⟩
def avl (x y : Nat) : Nat := if y / 3 = 0 then (if x / 3 = 0 then x + y + 3 else x % 3 + 3 - y % 3) else if x / 3 = 0 then x + y % 3 + 3 else x % 3 + 3 - y % 3
theorem avl_gp : ∀ x, x < 6 → ∀ y, y < 6 → avl x y % 3 + (if x / 3 = y / 3 then 0 else 3) = gp 2 6 x y ∧ avl x y < 16 := by decide
def brP (n u j : Nat) : Bool := decide (dg u ((j / n + dg u (j / n) * (j % n)) % n) = dg u (j / n) * dg u (j % n) % n)
theorem brP_iff {n u : Nat} : alb (brP n u) (n * n) = true ↔ bra n u := by
  rw [alb_iff]
  constructor
  · intro h a b ha hb
    have := of_decide_eq_true (h (n * a + b) (prlt ha hb))
    rw [(dvm hb).1, (dvm hb).2] at this
    exact this
  · intro h j hj
    have hd := dvlt hj
    exact decide_eq_true (h _ _ hd.1 hd.2)
section
variable {G : ZG} {M : ZM} {Z : Option ZV → ZM → Prop} {S : ZS}
theorem h_units {n : Nat} {v : Int32} (h1 : 1 ≤ n) (h6 : n ≤ 6) (hZ : ∀ u, u < 8 ^ n → (2 ≤ n → areU n u) → Z (some (zi (nI u))) M) : Ctr 0 G mi_LW_units [zi (nI n), zi v] M Z := by
  have lp : ∀ i, i ≤ n → ∀ u, u ∈ unL n i → V 0 G mi_LW_units Z 4 [(0, zi (nI n)), (1, zi v), (2, zi (nI u)), (3, zi (nI i))] [] M := by
    refine up_to ?_ ?_
    · intro u hu
      refine z_run (cuts := cu_LW_units) ok_LW_units (fun Kz hKz => ?_)
      conv => whnf
      rw [nI_leI (by omega) (by omega)]
      refine ⟨fun _ => ?_, fun q => absurd (by omega) q⟩
      conv => whnf
      exact hZ u (unL_lt h6 hu) (fun h2 => unL_areU h2 h6 hu)
    · intro i hi ih u hu
      have fin : ∀ w, w ∈ wls n → V 0 G mi_LW_units Z 89 [(0, zi (nI n)), (1, zi v), (2, zi (nI u)), (3, zi (nI i)), (5, zi (nI w))] [] M := by
        intro w hw
        have h := ih (u ||| w * 2 ^ (3 * i)) (List.mem_flatMap.mpr ⟨u, hu, List.mem_map.mpr ⟨w, hw, rfl⟩⟩)
        refine z_run (cuts := cu_LW_units) ok_LW_units (fun Kz hKz => ?_)
        conv => whnf
        refine hKz _ _ _ _ ?_
        rw [pk_mul, n_shl _ _ (by omega), n_or, nI_1']
        exact h
      have w1 : (1 : Nat) ∈ wls n := by unfold wls; split <;> exact List.mem_cons_self
      have wn : n - 1 ∈ wls n := by
        unfold wls
        split
        · rename_i q; rw [q]; decide
        · exact List.mem_cons_of_mem _ List.mem_cons_self
      have mid : ∀ w, w ∈ wls n → V 0 G mi_LW_units Z 51 [(0, zi (nI n)), (1, zi v), (2, zi (nI u)), (3, zi (nI i)), (4, zi (nI w))] [] M := by
        intro w hw
        refine z_run (cuts := [(89, [0, 1, 2, 3, 5])]) ok_LW_units (fun Kz hKz => ?_)
        conv => whnf
        refine ⟨fun q => ?_, fun q => ?_⟩
        · conv => whnf
          refine ⟨fun q => ?_, fun q => ?_⟩
          · conv => whnf
            refine hKz _ _ _ _ ?_
            exact fin _ hw
          · conv => whnf
            refine ⟨(by decide), ?_⟩
            conv => whnf
            refine ⟨fun q => ?_, fun q => ?_⟩
            · conv => whnf
              refine hKz _ _ _ _ ?_
              exact fin _ w1
            · conv => whnf
              rw [pk_sub h1]
              refine hKz _ _ _ _ ?_
              exact fin _ wn
        · conv => whnf
          refine hKz _ _ _ _ ?_
          exact fin _ w1
      refine z_run (cuts := [(51, [0, 1, 2, 3, 4])]) ok_LW_units (fun Kz hKz => ?_)
      conv => whnf
      rw [nI_leI (by omega) (by omega)]
      refine ⟨fun q => absurd q (by omega), fun _ => ?_⟩
      conv => whnf
      rw [n_ne (by omega) (by decide)]
      refine ⟨fun q => ?_, fun q => ?_⟩
      · conv => whnf
        refine ⟨fun q => ?_, fun q => ?_⟩
        · conv => whnf
          rw [pk_sub h1]
          refine hKz _ _ _ _ ?_
          exact mid _ wn
        · conv => whnf
          refine hKz _ _ _ _ ?_
          exact mid _ w1
      · have q : n = 5 := Classical.not_not.mp q
        conv => whnf
        refine h_low (by decide) (by decide) (fun r hr => ?_)
        conv => whnf
        refine hKz _ _ _ _ ?_
        rw [nI_add]
        refine mid _ ?_
        unfold wls
        rw [if_pos q]
        revert hr
        revert r
        decide
  refine go_LW_units (fun Kz hKz => ?_)
  conv => whnf
  refine hKz _ _ _ _ ?_
  exact lp 0 (Nat.zero_le _) 0 (List.mem_singleton.mpr rfl)
theorem h_isBrace {n u : Nat} (h2 : 2 ≤ n) (h6 : n ≤ 6) (hU : areU n u) (h1 : bra n u → Z (some (zi (nI 1))) M) (h0 : ¬ bra n u → Z (some (zi (nI 0))) M) : Ctr 0 G mi_LW_isBrace [zi (nI u), zi (nI n)] M Z := by
  have hz := n_nz (b := n) (by omega) (by omega)
  have hdn : ∀ a, a < n → dg u a < n := fun a ha => (un_iff.mp (hU.2 a ha)).2.1
  have h8 := p8_le h6
  have hu : u < 2 ^ 32 := by have := hU.1; omega
  have hnn : n * n ≤ 6 * 6 := Nat.mul_le_mul h6 h6
  have lp : ∀ k, k ≤ n * n → V 0 G mi_LW_isBrace Z 4 [(0, zi (nI u)), (1, zi (nI n)), (2, zi (b2i (alb (brP n u) k))), (3, zi (nI k))] [] M := by
    refine up_to ?_ ?_
    · refine z_run (cuts := cu_LW_isBrace) ok_LW_isBrace (fun Kz hKz => ?_)
      conv => whnf
      rw [pk_mul, nI_leI (by omega) (by omega)]
      refine ⟨fun _ => ?_, fun q => absurd (by omega) q⟩
      conv => whnf
      cases hb : alb (brP n u) (n * n) with
      | true => exact ⟨Or.inr rfl, h1 (brP_iff.mp hb)⟩
      | false => exact ⟨Or.inl rfl, h0 (fun q => by rw [brP_iff.mpr q] at hb; cases hb)⟩
    · intro k hk ih
      have hd := dvlt hk
      obtain ⟨ed, em⟩ := n_dm (k := k) (n := n) (by omega) (by omega) (by omega)
      have d1 := hdn _ hd.1
      have d2 := hdn _ hd.2
      have m1 : dg u (k / n) * (k % n) ≤ 6 * 6 := Nat.mul_le_mul (by omega) (by omega)
      have m2 : dg u (k / n) * dg u (k % n) ≤ 6 * 6 := Nat.mul_le_mul (by omega) (by omega)
      have hr : (k / n + dg u (k / n) * (k % n)) % n < n := Nat.mod_lt _ (by omega)
      have hr2 : dg u (k / n) * dg u (k % n) % n < n := Nat.mod_lt _ (by omega)
      have hd8 := dg_lt u ((k / n + dg u (k / n) * (k % n)) % n)
      rw [alb] at ih
      refine z_run (cuts := cu_LW_isBrace) ok_LW_isBrace (fun Kz hKz => ?_)
      conv => whnf
      rw [pk_mul, nI_leI (by omega) (by omega)]
      refine ⟨fun q => absurd q (by omega), fun _ => ?_⟩
      conv => whnf
      refine ⟨hz, ?_⟩
      conv => whnf
      rw [ed]
      refine ⟨hz, ?_⟩
      conv => whnf
      rw [em]
      cases hb : alb (brP n u) k with
      | false =>
        rw [hb, Bool.false_and] at ih
        first | refine ⟨fun _ => ?_, fun q => absurd (by decide) q⟩ | refine ⟨fun q => absurd q (by decide), fun _ => ?_⟩
        conv => whnf
        refine hKz _ _ _ _ ?_
        rw [nI_1']
        exact ih
      | true =>
        rw [hb, Bool.true_and] at ih
        first | refine ⟨fun _ => ?_, fun q => absurd (by decide) q⟩ | refine ⟨fun q => absurd q (by decide), fun _ => ?_⟩
        conv => whnf
        refine h_digit hu (by omega) ?_
        conv => whnf
        rw [pk_mul, nI_add]
        refine ⟨hz, ?_⟩
        conv => whnf
        rw [n_mod (by omega) (by omega) (by omega)]
        refine h_digit hu (by omega) ?_
        conv => whnf
        refine h_digit hu (by omega) ?_
        conv => whnf
        refine h_digit hu (by omega) ?_
        conv => whnf
        rw [pk_mul]
        refine ⟨hz, ?_⟩
        conv => whnf
        rw [n_mod (by omega) (by omega) (by omega), n_ne (by omega) (by omega)]
        refine ⟨fun q => ?_, fun q => ?_⟩
        · have e : brP n u k = false := decide_eq_false q
          rw [e] at ih
          conv => whnf
          refine hKz _ _ _ _ ?_
          rw [nI_1']
          exact ih
        · have e : brP n u k = true := decide_eq_true (Classical.not_not.mp q)
          rw [e] at ih
          conv => whnf
          refine hKz _ _ _ _ ?_
          rw [nI_1']
          exact ih
  refine go_LW_isBrace (fun Kz hKz => ?_)
  conv => whnf
  refine hKz _ _ _ _ ?_
  exact lp 0 (Nat.zero_le _)
theorem h_times {kind n x y : Nat} (hG : isG kind n) (hx : x < n) (hy : y < n) (hZ : Z (some (zi (nI (gp kind n x y)))) M) : Ctr 0 G mi_LW_times [zi (nI kind), zi (nI n), zi (nI x), zi (nI y)] M Z := by
  have hn := isG_le hG
  have hk : kind < 3 := by rcases hG with h | h | h <;> omega
  have h3 : ¬ nI 3 = nI 0 := by decide
  obtain ⟨dx, mx⟩ := n_dm (k := x) (n := 3) (by omega) (by decide) (by decide)
  obtain ⟨dy, my⟩ := n_dm (k := y) (n := 3) (by omega) (by decide) (by decide)
  have tail : ∀ a, a + nI 3 = nI (avl x y) → V 0 G mi_LW_times Z 41 [(0, zi (nI kind)), (1, zi (nI n)), (2, zi (nI x)), (3, zi (nI y)), (4, zi a)] [] M := by
    intro a ha
    refine z_run (cuts := cu_LW_times) ok_LW_times (fun Kz hKz => ?_)
    conv => whnf
    rw [n_ne (by omega) (by decide)]
    refine ⟨fun q => ?_, fun q => ?_⟩
    · conv => whnf
      rw [n_ne (by omega) (by decide)]
      refine ⟨fun q1 => ?_, fun q1 => ?_⟩
      · have hG2 : kind = 2 ∧ n = 6 := by rcases hG with h | h | h <;> omega
        obtain ⟨g1, g2⟩ := avl_gp x (by omega) y (by omega)
        rw [hG2.1, hG2.2, ← g1] at hZ
        conv => whnf
        rw [ha]
        refine ⟨h3, ?_⟩
        conv => whnf
        rw [n_mod (by omega) (by decide) (by decide)]
        refine ⟨h3, ?_⟩
        conv => whnf
        refine ⟨h3, ?_⟩
        conv => whnf
        rw [dx, dy, n_ne (by omega) (by omega)]
        refine ⟨fun g => ?_, fun g => ?_⟩
        · rw [if_neg g] at hZ
          conv => whnf
          rw [nI_add]
          exact hZ
        · rw [if_pos (Classical.not_not.mp g)] at hZ
          conv => whnf
          rw [nI_add]
          exact hZ
      · have q1 : kind = 1 := Classical.not_not.mp q1
        rw [gp, if_neg (by omega), if_pos q1] at hZ
        conv => whnf
        rw [n_xor]
        exact hZ
    · have q : kind = 0 := Classical.not_not.mp q
      rw [gp, if_pos q] at hZ
      conv => whnf
      rw [nI_add]
      refine ⟨n_nz (by omega) (by omega), ?_⟩
      conv => whnf
      rw [n_mod (by omega) (by omega) (by omega)]
      exact hZ
  have fin : ∀ a, a + nI 3 = nI (avl x y) → V 0 G mi_LW_times Z 39 [(0, zi (nI kind)), (1, zi (nI n)), (2, zi (nI x)), (3, zi (nI y))] [zi a] M := by
    intro a ha
    refine z_run (cuts := [(41, [0, 1, 2, 3, 4])]) ok_LW_times (fun Kz hKz => ?_)
    conv => whnf
    refine hKz _ _ _ _ ?_
    exact tail a ha
  have lat : ¬ (y / 3 = 0 ∧ x / 3 = 0) → V 0 G mi_LW_times Z 18 [(0, zi (nI kind)), (1, zi (nI n)), (2, zi (nI x)), (3, zi (nI y))] [] M := by
    intro hne
    refine z_run (cuts := [(39, [0, 1, 2, 3])]) ok_LW_times (fun Kz hKz => ?_)
    conv => whnf
    refine ⟨h3, ?_⟩
    conv => whnf
    rw [dx, n_ne (by omega) (by decide)]
    refine ⟨fun q => ?_, fun q => ?_⟩
    · conv => whnf
      refine ⟨h3, ?_⟩
      conv => whnf
      refine ⟨h3, ?_⟩
      conv => whnf
      rw [mx, my]
      refine hKz _ _ _ _ ?_
      refine fin _ ?_
      rw [turn_sub _ (Nat.mod_lt _ (by decide)) _ (Nat.mod_lt _ (by decide))]
      simp only [avl, if_neg q, ite_self]
    · have q : x / 3 = 0 := Classical.not_not.mp q
      conv => whnf
      refine ⟨h3, ?_⟩
      conv => whnf
      rw [my, nI_add]
      refine hKz _ _ _ _ ?_
      refine fin _ ?_
      rw [nI_add]
      unfold avl
      rw [if_neg (fun z => hne ⟨z, q⟩), if_pos q]
  refine z_start (cuts := [(18, [0, 1, 2, 3]), (39, [0, 1, 2, 3])]) ok_LW_times rfl rfl (fun Kz hKz => ?_)
  conv => whnf
  refine ⟨h3, ?_⟩
  conv => whnf
  rw [dy, n_ne (by omega) (by decide)]
  refine ⟨fun q => ?_, fun q => ?_⟩
  · conv => whnf
    refine hKz _ _ _ _ ?_
    exact lat (fun z => q z.1)
  · have q : y / 3 = 0 := Classical.not_not.mp q
    conv => whnf
    refine ⟨h3, ?_⟩
    conv => whnf
    rw [dx, n_ne (by omega) (by decide)]
    refine ⟨fun q2 => ?_, fun q2 => ?_⟩
    · conv => whnf
      refine hKz _ _ _ _ ?_
      exact lat (fun z => q2 z.2)
    · have q2 : x / 3 = 0 := Classical.not_not.mp q2
      conv => whnf
      rw [nI_add]
      refine hKz _ _ _ _ ?_
      refine fin _ ?_
      rw [nI_add]
      unfold avl
      rw [if_pos q, if_pos q2]
end
