/-! the reference's state; laying a map -/
def letC (q : Nat × Bool) : Nat := if q.2 = true then 65 + q.1 else 97 + q.1
def isRB (M : ZM) (b : Nat) (w : List (Nat × Bool)) : Prop := w.length ≤ 24 ∧ M.1 37 0 b = nI w.length ∧ ∀ i q, w[i]? = some q → q.1 < 3 ∧ M.1 36 0 (24 * b + i) = nI (letC q)
def isRL (M : ZM) (n : Nat) : Prop := M.1 31 0 n = -1 ∨ (M.1 31 0 n = nI (sz n) ∧ ∀ i, i < sz n → ∀ k, k < n * n → M.1 30 0 (640 * (n - 1) + 16 * i + k) = nI (pt (rwn n i) n (k / n) (k % n)))
def RS (M : ZM) (S : ZS) : Prop := (∀ m, m < 4 → isRM M m (S.1 m)) ∧ (∀ b, b < 2 → isRB M b (S.2 b)) ∧ ∀ n, 1 ≤ n → n ≤ 4 → isRL M n
def rst (a c : Nat) : Prop := (a = 21 ∧ c < 4) ∨ ((a = 22 ∨ a = 23) ∧ c < 144) ∨ a = 30 ∨ a = 31 ∨ a = 36 ∨ a = 37
theorem isRB_rf {F : Nat → Nat → Prop} {M M' : ZM} {b : Nat} {w : List (Nat × Bool)} (h : isRB M b w) (hf : rf F M M') (h36 : ∀ c, ¬ F 36 c) (h37 : ¬ F 37 b) : isRB M' b w := by
  refine ⟨h.1, by rw [hf.2 37 0 b (fun q => h37 q.2)]; exact h.2.1, fun i q hi => ?_⟩
  rw [hf.2 36 0 _ (fun z => h36 _ z.2)]
  exact h.2.2 i q hi
theorem isRL_rf {F : Nat → Nat → Prop} {M M' : ZM} {n : Nat} (h : isRL M n) (hf : rf F M M') (h30 : ∀ c, ¬ F 30 c) (h31 : ∀ c, ¬ F 31 c) : isRL M' n := by
  unfold isRL
  rw [hf.2 31 0 n (fun q => h31 _ q.2)]
  rcases h with h | h
  · exact Or.inl h
  · refine Or.inr ⟨h.1, fun i hi k hk => ?_⟩
    rw [hf.2 30 0 _ (fun z => h30 _ z.2)]
    exact h.2 i hi k hk
theorem RS_rf {F : Nat → Nat → Prop} {M M' : ZM} {S : ZS} (h : RS M S) (hf : rf F M M') (hF : ∀ a c, F a c → ¬ rst a c) : RS M' S :=
  ⟨fun m hm => isRM_rf (h.1 m hm) hf (fun a c q z => hF a c q (by
    unfold rst
    rcases z with z | z
    · exact Or.inl ⟨z.1, by omega⟩
    · exact Or.inr (Or.inl ⟨z.1, by omega⟩))), fun b hb => isRB_rf (h.2.1 b hb) hf (fun c q => hF 36 c q (by unfold rst; omega)) (fun q => hF 37 b q (by unfold rst; omega)), fun n h1 h4 => isRL_rf (h.2.2 n h1 h4) hf (fun c q => hF 30 c q (by unfold rst; omega)) (fun c q => hF 31 c q (by unfold rst; omega))⟩
theorem rgm_no {k : Nat} (hk : 4 ≤ k) : ∀ a c, rgm k a c → ¬ rst a c := fun a c h => by
  unfold rgm at h
  unfold rst
  omega
theorem RS_put {M M' : ZM} {S : ZS} {to : Nat} {A : ZP} (h : RS M S) (ht : to < 4) (hf : rf (rgm to) M M') (hA : isRM M' to A) : RS M' (upS S to A) := by
  refine ⟨fun m hm => ?_, fun b hb => isRB_rf (h.2.1 b hb) hf (fun c q => by unfold rgm at q; omega) (fun q => by unfold rgm at q; omega), fun n h1 h4 => isRL_rf (h.2.2 n h1 h4) hf (fun c q => by unfold rgm at q; omega) (fun c q => by unfold rgm at q; omega)⟩
  simp only [upS]
  by_cases e : m = to
  · rw [if_pos e, e]; exact hA
  · rw [if_neg e]
    exact isRM_rf (h.1 m hm) hf (fun a c q z => by unfold rgm at q z; omega)
def rsm (M M' : ZM) : Prop := ∀ a b, a < 20 → M'.1 a b = M.1 a b
theorem rsm_refl (M : ZM) : rsm M M := fun _ _ _ => rfl
theorem rsm_trans {M M' M'' : ZM} (h : rsm M M') (h' : rsm M' M'') : rsm M M'' := fun a b q => (h' a b q).trans (h a b q)
theorem rsm_rf {F : Nat → Nat → Prop} {M M' : ZM} (hf : rf F M M') (hF : ∀ a c, F a c → 20 ≤ a) : rsm M M' := fun a b q => funext fun c => hf.2 a b c (fun z => by have := hF a c z.2; omega)
theorem rsm_gm {k : Nat} {M M' : ZM} (hf : rf (rgm k) M M') : rsm M M' := rsm_rf hf (fun a c q => by unfold rgm at q; omega)
theorem RS_pl {M : ZM} {S : ZS} (h : RS M S) {m : Nat} (h0 : ¬ (plA S m).1 = 0) : isRM M m (plA S m) := by
  have := plA_lt h0
  rw [plA_eq this]
  exact h.1 m this
/-- the first k cells of a map are laid -/
def laid (M0 : ZM) (m : Nat) (pos vl vr : Nat → Nat) (k : Nat) (M' : ZM) : Prop := rf (fun a c => (a = 22 ∨ a = 23) ∧ 36 * m ≤ c ∧ c < 36 * m + 36) M0 M' ∧ ∀ j, j < k → M'.1 22 0 (36 * m + pos j) = nI (vl j) ∧ M'.1 23 0 (36 * m + pos j) = nI (vr j)
theorem laid_gm {M0 M' : ZM} {m k : Nat} {pos vl vr : Nat → Nat} (h : laid M0 m pos vl vr k M') : rf (rgm m) M0 M' := rf_mono h.1 (fun a c q => Or.inr q)
theorem r_build {M0 : ZM} {m N : Nat} {pos vl vr : Nat → Nat} {P : Nat → ZM → Prop} (hpos : ∀ k, k < N → pos k < 36) (hinj : ∀ i j, i < N → j < N → pos i = pos j → i = j) (h1 : ∀ M', laid M0 m pos vl vr N M' → P N M') (h2 : ∀ k, k < N → ∀ M', laid M0 m pos vl vr k M' → P (k + 1) (zset 23 0 (36 * m + pos k) (nI (vr k)) (zset 22 0 (36 * m + pos k) (nI (vl k)) M')) → P k M') : P 0 M0 := by
  have lp : ∀ k, k ≤ N → ∀ M', laid M0 m pos vl vr k M' → P k M' := by
    refine up_to h1 ?_
    intro k hk ih M' h
    have hp := hpos k hk
    refine h2 k hk M' h (ih _ ⟨rf_trans (rf_trans h.1 (rf_set ⟨Or.inl rfl, by omega, by omega⟩)) (rf_set ⟨Or.inr rfl, by omega, by omega⟩), fun j hj => ?_⟩)
    rcases Nat.lt_succ_iff_lt_or_eq.mp hj with hj | rfl
    · have hne : pos j ≠ pos k := fun e => by have := hinj j k (by omega) hk e; omega
      rw [zset_ne (by omega), zset_ne (by omega), zset_ne (by omega), zset_ne (by omega)]
      exact h.2 j hj
    · rw [zset_ne (by omega), zset_eq, zset_eq]
      exact ⟨rfl, rfl⟩
  exact lp 0 (Nat.zero_le _) M0 ⟨rf_refl _ _, fun j hj => absurd hj (Nat.not_lt_zero _)⟩
theorem laid_isRM {M0 M' : ZM} {m N : Nat} {pos vl vr : Nat → Nat} {A : ZP} (h : laid M0 m pos vl vr N M') (hA : pwf A) (h0 : M0.1 21 0 m = nI A.1) (hc : ∀ x y, x < A.1 → y < A.1 → ∃ k, k < N ∧ pos k = 6 * x + y ∧ vl k = A.2.1 x y ∧ vr k = A.2.2 x y) : isRM M' m A := by
  refine ⟨hA, ?_, fun x y hx hy => ?_⟩
  · rw [h.1.2 21 0 m (fun q => by omega)]; exact h0
  · obtain ⟨k, h1, h2, h3, h4⟩ := hc x y hx hy
    have := h.2 k h1
    rw [h2, h3, h4] at this
    exact this
/-- the usual order of the cells -/
def sp (n k : Nat) : Nat := 6 * (k / n) + k % n
theorem sp_lt {n k : Nat} (hn : n ≤ 6) (h : k < n * n) : sp n k < 36 := by
  have := dvlt h
  unfold sp
  omega
theorem sp_inj {n : Nat} (hn : n ≤ 6) : ∀ i j, i < n * n → j < n * n → sp n i = sp n j → i = j := by
  intro i j hi hj h
  have h1 := dvlt hi
  have h2 := dvlt hj
  have e1 := Nat.div_add_mod i n
  have e2 := Nat.div_add_mod j n
  unfold sp at h
  have a1 : i / n = j / n := by omega
  have a2 : i % n = j % n := by omega
  rw [← e1, ← e2, a1, a2]
theorem sp_isRM {M0 M' : ZM} {m : Nat} {vl vr : Nat → Nat} {A : ZP} (h : laid M0 m (sp A.1) vl vr (A.1 * A.1) M') (hA : pwf A) (h0 : M0.1 21 0 m = nI A.1) (hl : ∀ k, k < A.1 * A.1 → vl k = A.2.1 (k / A.1) (k % A.1) ∧ vr k = A.2.2 (k / A.1) (k % A.1)) : isRM M' m A := by
  refine laid_isRM h hA h0 (fun x y hx hy => ⟨A.1 * x + y, prlt hx hy, ?_, ?_, ?_⟩)
  · unfold sp; rw [(dvm hy).1, (dvm hy).2]
  · rw [(hl _ (prlt hx hy)).1, (dvm hy).1, (dvm hy).2]
  · rw [(hl _ (prlt hx hy)).2, (dvm hy).1, (dvm hy).2]
theorem n_dm {k n : Nat} (hk : k < 2 ^ 31) (h0 : 0 < n) (hn : n < 2 ^ 31) : nI k / nI n = nI (k / n) ∧ nI k % nI n = nI (k % n) := ⟨pk_div hk h0 hn, n_mod hk h0 hn⟩
section
variable {G : ZG} {M : ZM} {Z : Option ZV → ZM → Prop} {S : ZS}
theorem s_R_isMap {m : Nat} (hm : m < 2 ^ 32) (hR : RS M S) (h1 : ¬ (plA S m).1 = 0 → Z (some (zi (nI 1))) M) (h2 : (plA S m).1 = 0 → Z (some (zi (nI 0))) M) : Ctr 0 G mi_R_isMap [zr 20 0, zi (nI m)] M Z := by
  refine go_R_isMap (fun Kz hKz => ?_)
  conv => whnf
  refine s_R_isPlace hm (fun e => ?_) (fun e => ?_)
  · have hA := hR.1 m e
    have hn := hA.1.1
    rw [plA_eq e] at h1 h2
    conv => whnf
    first | refine ⟨fun _ => ?_, fun q => absurd (by decide) q⟩ | refine ⟨fun q => absurd q (by decide), fun _ => ?_⟩
    conv => whnf
    refine ⟨vp_in_nI (by omega) (by decide), ?_⟩
    conv => whnf
    rw [nI_clamp (by omega), hA.2.1, nI_leI (by omega) (by omega)]
    refine ⟨fun q => ?_, fun q => ?_⟩
    · conv => whnf
      exact ⟨Or.inl rfl, h2 (by omega)⟩
    · conv => whnf
      exact ⟨Or.inr rfl, h1 (by omega)⟩
  · have : plA S m = p0 := if_neg e
    rw [this] at h2
    conv => whnf
    first | refine ⟨fun _ => ?_, fun q => absurd (by decide) q⟩ | refine ⟨fun q => absurd q (by decide), fun _ => ?_⟩
    conv => whnf
    exact ⟨Or.inl rfl, h2 rfl⟩
theorem r_flip {to n : Nat} (hto : to < 2 ^ 32) (hn : n < 2 ^ 32) (hR : RS M S) (h1 : ¬ to < 4 → Z (some (zi (-1000001))) M) (h2 : to < 4 → ¬ (1 ≤ n ∧ n ≤ 6) → Z (some (zi (-1000002))) M) (h3 : to < 4 → 1 ≤ n → n ≤ 6 → ∀ M', RS M' (upS S to (pflip n)) → rsm M M' → Z (some (zi (nI n))) M') : Ctr 0 G mi_R_flip [zr 20 0, zi (nI to), zi (nI n)] M Z := by
  refine go_R_flip (fun Kz hKz => ?_)
  conv => whnf
  refine s_R_isPlace hto (fun e1 => ?_) (fun e1 => ?_)
  · conv => whnf
    first | refine ⟨fun _ => ?_, fun q => absurd (by decide) q⟩ | refine ⟨fun q => absurd q (by decide), fun _ => ?_⟩
    conv => whnf
    refine s_R_in hn (by decide) (by decide) (fun e2 e3 _ => ?_) (fun e2 => ?_)
    · have hwf : pwf (pflip n) := ⟨e3, fun x y hx hy => ⟨hy, hx⟩⟩
      have hnn : n * n ≤ 6 * 6 := Nat.mul_le_mul e3 e3
      have hz := n_nz (b := n) (by omega) (by omega)
      conv => whnf
      first | refine ⟨fun _ => ?_, fun q => absurd (by decide) q⟩ | refine ⟨fun q => absurd q (by decide), fun _ => ?_⟩
      conv => whnf
      refine ⟨vp_in_nI (by decide) (by decide), ?_⟩
      conv => whnf
      refine hKz _ _ _ _ ?_
      rw [nI_clamp (by decide)]
      refine r_build (m := 4) (N := n * n) (pos := sp n) (vl := fun k => k % n) (vr := fun k => k / n) (P := fun k M' => V 0 G mi_R_flip Z 34 [(0, zr 20 0), (1, zi (nI to)), (2, zi (nI n)), (3, zi (nI k))] [] M') (fun k hk => sp_lt e3 hk) (sp_inj e3) (fun M' hl => ?_) (fun k hk M' hl h => ?_)
      · have hB : isRM M' 4 (pflip n) := sp_isRM (A := pflip n) hl hwf zset_eq (fun k hk => ⟨rfl, rfl⟩)
        have g0 : rf (rgm 4) M M' := rf_trans (rf_set (Or.inl ⟨rfl, rfl⟩)) (laid_gm hl)
        refine z_run (cuts := cu_R_flip) ok_R_flip (fun Kz hKz => ?_)
        conv => whnf
        rw [pk_mul, nI_leI (by omega) (by omega)]
        refine ⟨fun _ => ?_, fun q => absurd (by omega) q⟩
        conv => whnf
        refine s_R_comes e1 hB (fun M2 g1 g2 => ?_)
        conv => whnf
        exact h3 e1 e2 e3 M2 (RS_put (RS_rf hR g0 (rgm_no (by decide))) e1 g1 g2) (rsm_trans (rsm_gm g0) (rsm_gm g1))
      · have hd := dvlt hk
        obtain ⟨ed, em⟩ := n_dm (k := k) (n := n) (by omega) (by omega) (by omega)
        refine z_run (cuts := cu_R_flip) ok_R_flip (fun Kz hKz => ?_)
        conv => whnf
        rw [pk_mul, nI_leI (by omega) (by omega)]
        refine ⟨fun q => absurd q (by omega), fun _ => ?_⟩
        conv => whnf
        refine ⟨hz, ?_⟩
        conv => whnf
        refine ⟨hz, ?_⟩
        conv => whnf
        refine ⟨hz, ?_⟩
        conv => whnf
        refine ⟨hz, ?_⟩
        conv => whnf
        rw [ed, em]
        refine s_R_lay (by decide) (by omega) (by omega) ?_
        conv => whnf
        refine hKz _ _ _ _ ?_
        rw [nI_1']
        exact h
    · conv => whnf
      first | refine ⟨fun _ => ?_, fun q => absurd (by decide) q⟩ | refine ⟨fun q => absurd q (by decide), fun _ => ?_⟩
      conv => whnf
      exact h2 e1 (by omega)
  · conv => whnf
    first | refine ⟨fun _ => ?_, fun q => absurd (by decide) q⟩ | refine ⟨fun q => absurd q (by decide), fun _ => ?_⟩
    conv => whnf
    exact h1 e1
end
