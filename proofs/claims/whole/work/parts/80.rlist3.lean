/-! the reference: the list -/
def LE (M : ZM) (n t : Nat) : Prop := ∀ i, i < t → ∀ k, k < n * n → M.1 30 0 (640 * (n - 1) + 16 * i + k) = nI (pt (rwn n i) n (k / n) (k % n))
theorem LE_rf {F : Nat → Nat → Prop} {M M' : ZM} {n t : Nat} (h : LE M n t) (hf : rf F M M') (hF : ∀ c, ¬ F 30 c) : LE M' n t := fun i hi k hk => by
  rw [hf.2 30 0 _ (fun q => hF _ q.2)]
  exact h i hi k hk
theorem sz_le : ∀ n, n ≤ 4 → 1 ≤ n → sz n ≤ 23 := by decide
theorem fnd_hinv {n : Nat} {L : Nat → Nat → Nat} (hinj : ∀ x, x < n → ∀ i j, i < n → j < n → L x i = L x j → i = j) {x y c : Nat} (hL : L x y < n) (hR : fnd (fun c => decide (L (L x y) c = x)) n < n) (hc : c < n) : L (L x y) c = x ↔ c = fnd (fun c => decide (L (L x y) c = x)) n := by
  have his := of_decide_eq_true (fnd_is (fun c => decide (L (L x y) c = x)) n hR)
  constructor
  · intro q
    exact hinj _ hL _ _ hc hR (q.trans his.symm)
  · intro q
    rw [q]
    exact his
theorem plist_hinv {n i : Nat} (h1 : 1 ≤ n) (h4 : n ≤ 4) (hi : i < sz n) : ∀ x y c, x < (plist n i).1 → y < (plist n i).1 → c < (plist n i).1 → ((plist n i).2.1 ((plist n i).2.1 x y) c = x ↔ c = (plist n i).2.2 x y) := by
  intro x y c hx hy hc
  have hwf := plist_wf h1 h4 hi
  have hl := (plnd_inj hwf).mp (ck_of h1 h4 hi).2.1
  have hLR := hwf.2 x y hx hy
  exact fnd_hinv (n := n) (L := (plist n i).2.1) hl hLR.1 hLR.2 hc
theorem Ap_hinv {n p : Nat} (h1 : 1 ≤ n) (h4 : n ≤ 4) : ∀ x y c, x < (Ap n p).1 → y < (Ap n p).1 → c < (Ap n p).1 → ((Ap n p).2.1 ((Ap n p).2.1 x y) c = x ↔ c = (Ap n p).2.2 x y) := by
  intro x y c hx hy hc
  have hLR := (Ap_wf h1 h4 p).2 x y hx hy
  exact fnd_hinv (n := n) (L := Lp n p) (fun x _ => Lp_inj h1 h4 p x) hLR.1 hLR.2 hc
/-- the first d + 1 rows decide -/
theorem dgt_same {n p q d x : Nat} (hd : d < n) (hx : x ≤ d) (h : q / fac n ^ (n - 1 - d) = p / fac n ^ (n - 1 - d)) : dgt n q x = dgt n p x := by
  rw [← rw0_eq (p := q) hd hx, ← rw0_eq (p := p) hd hx, h]
theorem fw_same {n p q d x y : Nat} (hd : d < n) (hx : x ≤ d) (hy : y ≤ d) (h : q / fac n ^ (n - 1 - d) = p / fac n ^ (n - 1 - d)) (hf : fwA (Ap n p) d x y) : fwA (Ap n q) d x y := by
  have hr : ∀ a b, a ≤ d → Lp n q a b = Lp n p a b := fun a b ha => by unfold Lp; rw [dgt_same hd ha h]
  obtain ⟨f1, f2, z, f3, f4⟩ := hf
  have f1' : Lp n p x y ≤ d := f1
  have eu : (Ap n q).2.1 x y = (Ap n p).2.1 x y := hr x y hx
  have ev : (Ap n q).2.2 x y = (Ap n p).2.2 x y := by
    show fnd (fun c => decide (Lp n q (Lp n q x y) c = x)) n = fnd (fun c => decide (Lp n p (Lp n p x y) c = x)) n
    rw [hr x y hx]
    have : (fun c => decide (Lp n q (Lp n p x y) c = x)) = fun c => decide (Lp n p (Lp n p x y) c = x) := funext fun c => by rw [hr _ c f1']
    rw [this]
  refine ⟨by rw [eu]; exact f1, by rw [ev]; exact f2, z, f3, ?_⟩
  rw [eu, ev]
  show Lp n q x (Lp n q y z) ≠ Lp n q (Lp n p x y) (Lp n q ((Ap n p).2.2 x y) z)
  rw [hr y z hy, hr x _ hx, hr _ z f2, hr _ _ f1']
  exact f4
def llF (n a c : Nat) : Prop := a = 24 ∨ a = 27 ∨ a = 32 ∨ rgm 5 a c ∨ (a = 31 ∧ c = n) ∨ (a = 30 ∧ 640 * (n - 1) ≤ c ∧ c < 640 * (n - 1) + 640)
theorem rsm_ll {n : Nat} {M M' : ZM} (h : rf (llF n) M M') : rsm M M' := rsm_rf h (fun a c q => by unfold llF rgm at q; omega)
theorem RS_ll {n : Nat} {M M' : ZM} {S : ZS} (h1 : 1 ≤ n) (h4 : n ≤ 4) (h : RS M S) (hf : rf (llF n) M M') (hm : M'.1 31 0 n = nI (sz n)) (hl : LE M' n (sz n)) : RS M' S := by
  refine ⟨fun m hm => isRM_rf (h.1 m hm) hf (fun a c q z => by unfold llF rgm at q; unfold rgm at z; omega), fun b hb => isRB_rf (h.2.1 b hb) hf (fun c q => by unfold llF rgm at q; omega) (fun q => by unfold llF rgm at q; omega), fun n' g1 g4 => ?_⟩
  by_cases e : n' = n
  · rw [e]
    exact Or.inr ⟨hm, hl⟩
  · have hs := sz_le n' g4 g1
    have ho := h.2.2 n' g1 g4
    unfold isRL
    rw [hf.2 31 0 n' (fun q => by have := q.2; unfold llF rgm at this; omega)]
    rcases ho with ho | ho
    · exact Or.inl ho
    · refine Or.inr ⟨ho.1, fun i hi k hk => ?_⟩
      have hnn : n' * n' ≤ 4 * 4 := Nat.mul_le_mul g4 g4
      rw [hf.2 30 0 _ (fun q => by have := q.2; unfold llF rgm at this; omega)]
      exact ho.2 i hi k hk
section
variable {G : ZG} {M : ZM} {Z : Option ZV → ZM → Prop} {S : ZS}
theorem s_R_layListed {n i : Nat} (h1 : 1 ≤ n) (h4 : n ≤ 4) (hi : i < sz n) (hl : LE M n (sz n)) (hZ : ∀ M', rf (rgm 5) M M' → isRM M' 5 (plist n i) → Z none M') : Ctr 0 G mi_R_layListed [zr 20 0, zi (nI n), zi (nI i)] M Z := by
  have hs := sz_le n h4 h1
  have hwf := plist_wf h1 h4 hi
  have hnn : n * n ≤ 4 * 4 := Nat.mul_le_mul h4 h4
  have hz := n_nz (b := n) (by omega) (by omega)
  refine go_R_layListed (fun Kz hKz => ?_)
  conv => whnf
  refine ⟨vp_in_nI (by decide) (by decide), ?_⟩
  conv => whnf
  refine hKz _ _ _ _ ?_
  rw [nI_clamp (by omega)]
  refine r_build (m := 5) (N := n * n) (pos := sp n) (vl := fun k => pt (rwn n i) n (k / n) (k % n)) (vr := fun _ => 0) (P := fun k M' => V 0 G mi_R_layListed Z 9 [(0, zr 20 0), (1, zi (nI n)), (2, zi (nI i)), (3, zi (nI k))] [] M') (fun k hk => sp_lt (by omega) hk) (sp_inj (by omega)) (fun M' hla => ?_) (fun k hk M' hla h => ?_)
  · have g0 : rf (rgm 5) M M' := rf_trans (rf_set (Or.inl ⟨rfl, rfl⟩)) (laid_gm hla)
    have hc : cl5 M' (plist n i).1 (plist n i).2.1 := by
      refine ⟨?_, fun x y hx hy => ?_⟩
      · rw [hla.1.2 21 0 5 (fun q => by omega)]; exact zset_eq
      · have hx : x < n := hx
        have hy : y < n := hy
        have h9 : M'.1 22 0 (36 * 5 + sp n (n * x + y)) = nI (pt (rwn n i) n ((n * x + y) / n) ((n * x + y) % n)) := (hla.2 (n * x + y) (prlt hx hy)).1
        unfold sp at h9
        rw [(dvm hy).1, (dvm hy).2] at h9
        exact h9
    refine z_run (cuts := cu_R_layListed) ok_R_layListed (fun Kz hKz => ?_)
    conv => whnf
    rw [pk_mul, nI_leI (by omega) (by omega)]
    refine ⟨fun _ => ?_, fun q => absurd (by omega) q⟩
    conv => whnf
    refine s_R_layRight (A := plist n i) (show 0 < n by omega) (show n ≤ 6 by omega) hwf hc (plist_hinv h1 h4 hi) (fun M2 r1 r2 => ?_)
    conv => whnf
    exact hZ M2 (rf_trans g0 (rtF_gm r1)) r2
  · have hd := dvlt hk
    have g0 : rf (rgm 5) M M' := rf_trans (rf_set (Or.inl ⟨rfl, rfl⟩)) (laid_gm hla)
    have hl' := LE_rf hl g0 (fun c q => by unfold rgm at q; omega)
    obtain ⟨ed, em⟩ := n_dm (k := k) (n := n) (by omega) (by omega) (by omega)
    refine z_run (cuts := cu_R_layListed) ok_R_layListed (fun Kz hKz => ?_)
    conv => whnf
    rw [pk_mul, nI_leI (by omega) (by omega)]
    refine ⟨fun q => absurd q (by omega), fun _ => ?_⟩
    conv => whnf
    refine ⟨hz, ?_⟩
    conv => whnf
    refine ⟨hz, ?_⟩
    conv => whnf
    rw [ed, em, pk_sub h1, pk_mul, pk_mul, nI_add, nI_add]
    refine ⟨vp_in_nI (by omega) (by decide), ?_⟩
    conv => whnf
    rw [nI_clamp (by omega), hl' i hi k hk]
    refine s_R_lay (by decide) (by omega) (by omega) ?_
    conv => whnf
    refine hKz _ _ _ _ ?_
    rw [nI_1']
    exact h
theorem s_R_layList {n : Nat} (h1 : 1 ≤ n) (h4 : n ≤ 4) (hR : RS M S) (hZ : ∀ M', RS M' S → rsm M M' → LE M' n (sz n) → Z (some (zi (nI (sz n)))) M') : Ctr 0 G mi_R_layList [zr 20 0, zi (nI n)] M Z := by
  have hsz := sz_le n h4 h1
  have hnn : n * n ≤ 4 * 4 := Nat.mul_le_mul h4 h4
  have hF := fac_le4 n h4
  have hF0 := fac_pos n (by omega)
  have hzn := n_nz (b := n) (by omega) (by omega)
  have hT : fac n ^ n ≤ 331776 := by
    have : ∀ n, n ≤ 4 → fac n ^ n ≤ 331776 := by decide
    exact this n h4
  have hpow : ∀ d, d < n → 0 < fac n ^ (n - 1 - d) ∧ fac n ^ (n - 1 - d) ≤ 331776 ∧ fac n ^ (d + 1) * fac n ^ (n - 1 - d) = fac n ^ n := fun d hd => by
    have hm : fac n ^ (d + 1) * fac n ^ (n - 1 - d) = fac n ^ n := by
      rw [← Nat.pow_add, show d + 1 + (n - 1 - d) = n by omega]
    have h0 : 0 < fac n ^ (n - 1 - d) := Nat.pow_pos hF0
    have h0' : 0 < fac n ^ (d + 1) := Nat.pow_pos hF0
    refine ⟨h0, ?_, hm⟩
    have : 1 * fac n ^ (n - 1 - d) ≤ fac n ^ (d + 1) * fac n ^ (n - 1 - d) := Nat.mul_le_mul_right _ h0'
    omega
  have main : ∀ m p, fac n ^ n - p ≤ m → p ≤ fac n ^ n → ∀ t M', rf (llF n) M M' → rowOK M' n → LE M' n t → t ≤ sz n → (∀ i, i < sz n → (nm n i < p ↔ i < t)) → V 0 G mi_R_layList Z 34 [(0, zr 20 0), (1, zi (nI n)), (2, zi (nI (fac n))), (3, zi (nI (fac n ^ n))), (4, zi (nI t)), (5, zi (nI p))] [] M' := by
    intro m
    induction m with
    | zero =>
      intro p hm hp t M' y1 y2 y3 y4 y5
      have ht : t = sz n := by
        refine Nat.le_antisymm y4 (Classical.byContradiction fun q => ?_)
        have h2 := nm_is h1 h4 (show t < sz n by omega)
        have := (y5 t (by omega)).mp (by omega)
        omega
      refine z_run (cuts := cu_R_layList) ok_R_layList (fun Kz hKz => ?_)
      conv => whnf
      rw [nI_leI (by omega) (by omega)]
      refine ⟨fun _ => ?_, fun q => absurd (by omega) q⟩
      conv => whnf
      refine ⟨vp_in_nI (by omega) (by decide), ?_⟩
      conv => whnf
      rw [nI_clamp (by omega), ht]
      rw [ht] at y3
      have f2 : rf (llF n) M (zset 31 0 n (nI (sz n)) M') := rf_trans y1 (rf_set (Or.inr (Or.inr (Or.inr (Or.inr (Or.inl ⟨rfl, rfl⟩))))))
      have l2 : LE (zset 31 0 n (nI (sz n)) M') n (sz n) := fun i hi k hk => by rw [zset_ne (by omega)]; exact y3 i hi k hk
      exact hZ _ (RS_ll h1 h4 hR f2 zset_eq l2) (rsm_ll f2) l2
    | succ m ih =>
      intro p hm hp t M' y1 y2 y3 y4 y5
      by_cases hpe : fac n ^ n ≤ p
      · have ht : t = sz n := by
          refine Nat.le_antisymm y4 (Classical.byContradiction fun q => ?_)
          have h2 := nm_is h1 h4 (show t < sz n by omega)
          have := (y5 t (by omega)).mp (by omega)
          omega
        refine z_run (cuts := cu_R_layList) ok_R_layList (fun Kz hKz => ?_)
        conv => whnf
        rw [nI_leI (by omega) (by omega)]
        refine ⟨fun _ => ?_, fun q => absurd (by omega) q⟩
        conv => whnf
        refine ⟨vp_in_nI (by omega) (by decide), ?_⟩
        conv => whnf
        rw [nI_clamp (by omega), ht]
        rw [ht] at y3
        have f2 : rf (llF n) M (zset 31 0 n (nI (sz n)) M') := rf_trans y1 (rf_set (Or.inr (Or.inr (Or.inr (Or.inr (Or.inl ⟨rfl, rfl⟩))))))
        have l2 : LE (zset 31 0 n (nI (sz n)) M') n (sz n) := fun i hi k hk => by rw [zset_ne (by omega)]; exact y3 i hi k hk
        exact hZ _ (RS_ll h1 h4 hR f2 zset_eq l2) (rsm_ll f2) l2
      · have hwf := Ap_wf h1 h4 p
        have hiv := Ap_hinv (p := p) h1 h4
        have n0 : 0 < (Ap n p).1 := show 0 < n by omega
        have n4 : (Ap n p).1 ≤ 4 := h4
        -- on from here without a new map
        have skip : ¬ okA (Ap n p) → ∀ B, 0 < B → B ≤ 331776 → (∃ c, c * B = fac n ^ n) → (∀ q, q / B = p / B → ¬ okA (Ap n q)) → ∀ M2, rf (llF n) M M2 → rowOK M2 n → LE M2 n t → V 0 G mi_R_layList Z 34 [(0, zr 20 0), (1, zi (nI n)), (2, zi (nI (fac n))), (3, zi (nI (fac n ^ n))), (4, zi (nI t)), (5, zi (nI ((p / B + 1) * B)))] [] M2 := by
          intro _ B hB0 hB hdv hno M2 r1 r2 r3
          obtain ⟨c, hc⟩ := hdv
          have hlt : p < (p / B + 1) * B := by
            have := Nat.lt_div_mul_add hB0 (a := p)
            rw [Nat.add_mul, Nat.one_mul]
            exact this
          have hle : (p / B + 1) * B ≤ fac n ^ n := by
            rw [← hc]
            refine Nat.mul_le_mul_right _ ?_
            exact Nat.div_lt_of_lt_mul (by rw [Nat.mul_comm, hc]; omega)
          refine ih _ (by omega) hle t M2 r1 r2 r3 y4 (fun i hi => ?_)
          rw [← y5 i hi]
          constructor
          · intro q
            refine Classical.byContradiction fun w => ?_
            have hq : nm n i / B = p / B := by
              refine Nat.div_eq_of_lt_le ?_ q
              exact Nat.le_trans (Nat.div_mul_le_self p B) (by omega)
            exact hno _ hq (nm_is h1 h4 hi).2.2.2
          · intro q
            omega
        have skip1 : ¬ okA (Ap n p) → ∀ M2, rf (llF n) M M2 → rowOK M2 n → LE M2 n t → V 0 G mi_R_layList Z 34 [(0, zr 20 0), (1, zi (nI n)), (2, zi (nI (fac n))), (3, zi (nI (fac n ^ n))), (4, zi (nI t)), (5, zi (nI ((p / 1 + 1) * 1)))] [] M2 := fun hno => skip hno 1 (by decide) (by decide) ⟨fac n ^ n, Nat.mul_one _⟩ (fun q hq => by
          rw [Nat.div_one, Nat.div_one] at hq
          rw [hq]
          exact hno)
        have hz1 := n_nz (b := 1) (by decide) (by decide)
        have pd1 : nI p / nI 1 = nI (p / 1) := pk_div (by omega) (by decide) (by decide)
        refine z_run (cuts := cu_R_layList) ok_R_layList (fun Kz hKz => ?_)
        conv => whnf
        rw [nI_leI (by omega) (by omega)]
        refine ⟨fun q => absurd q (by omega), fun _ => ?_⟩
        conv => whnf
        refine s_R_layNumber h1 h4 (by omega) y2 (fun M1 g1 g2 => ?_)
        have f1 : rf (llF n) M M1 := rf_trans y1 (rf_mono g1 fun a c q => Or.inr (Or.inr (Or.inr (Or.inl q))))
        have ro1 : rowOK M1 n := fun j hj k hk => by
          rw [g1.2 32 0 _ (fun q => by have := q.2; unfold rgm at this; omega)]
          exact y2 j hj k hk
        have le1 : LE M1 n t := LE_rf y3 g1 (fun c q => by unfold rgm at q; omega)
        have kp : ∀ {M2 : ZM} {F : Nat → Nat → Prop}, rf F M1 M2 → (∀ a c, F a c → a = 23 ∨ a = 24 ∨ a = 27) → (∀ a c, F a c → llF n a c) → rf (llF n) M M2 ∧ rowOK M2 n ∧ LE M2 n t := fun h hF hF2 => ⟨rf_trans f1 (rf_mono h hF2), fun j hj k hk => by
          rw [h.2 32 0 _ (fun q => by have := hF _ _ q.2; omega)]
          exact ro1 j hj k hk, LE_rf le1 h (fun c q => by have := hF _ _ q; omega)⟩
        have rt2 : ∀ a c, rtF a c → llF n a c := fun a c q => by unfold rtF at q; unfold llF rgm; omega
        have rt1 : ∀ a c, rtF a c → a = 23 ∨ a = 24 ∨ a = 27 := fun a c q => Or.inl q.1
        conv => whnf
        refine s_R_firstBad n0 n4 hwf g2 hiv (fun hno => ?_) (fun d hd hex hmin => ?_)
        · conv => whnf
          refine ⟨fun _ => ?_, fun z => absurd ((nI_leI (a := n) (b := n) (by omega) (by omega)).mpr (Nat.le_refl n)) z⟩
          conv => whnf
          refine s_R_layRight n0 (show n ≤ 6 by omega) hwf g2 hiv (fun M2 r1 r2 => ?_)
          obtain ⟨k1, k2, k3⟩ := kp r1 rt1 rt2
          conv => whnf
          refine ⟨fun z => absurd rfl z, fun _ => ?_⟩
          conv => whnf
          refine s_R_comesBackHere n0 r2 (fun hv => ?_) (fun hv => ?_)
          · conv => whnf
            first | refine ⟨fun _ => ?_, fun q => absurd (by decide) q⟩ | refine ⟨fun q => absurd q (by decide), fun _ => ?_⟩
            conv => whnf
            refine s_R_manyFail (by decide) r2 n0 (fun M3 r3 => ?_)
            have e3 : rf (fun a c => rtF a c ∨ tF a c) M1 M3 := rf_trans (rf_mono r1 fun a c q => Or.inl q) (rf_mono r3 fun a c q => Or.inr q)
            obtain ⟨k4, k5, k6⟩ := kp e3 (fun a c q => q.elim (rt1 a c) (fun z => Or.inr (Or.inr z))) (fun a c q => q.elim (rt2 a c) (fun z => Or.inr (Or.inl z)))
            have r2' := isRM_t r2 r3
            have hle := cnt_le (fun j => brk (Ap n p) (dgl (Ap n p).1 3 j)) ((Ap n p).1 ^ 3)
            have h43 : (Ap n p).1 ^ 3 ≤ 4 ^ 3 := Nat.pow_le_pow_left n4 3
            have h64 : (4 : Nat) ^ 3 = 64 := by decide
            have hbl : nBrk (Ap n p) ≤ 64 := by unfold nBrk; omega
            conv => whnf
            rw [nI_eq (show nBrk (Ap n p) < 2 ^ 31 by omega) (by decide)]
            refine ⟨fun hb => ?_, fun hb => ?_⟩
            · conv => whnf
              refine ⟨hz1, ?_⟩
              conv => whnf
              refine hKz _ _ _ _ ?_
              rw [pd1, nI_1', pk_mul]
              exact skip1 (fun q => hb q.2.2.1) M3 k4 k5 k6
            · have hb := Classical.not_not.mp hb
              conv => whnf
              refine s_R_isFirst n0 n4 r2' (fun hfr M4 r4 => ?_) (fun hfr M4 r4 => ?_)
              · have hok : okA (Ap n p) := ⟨hno, hv, hb, hfr⟩
                obtain ⟨i, i1, i2⟩ := ok_nm h1 h4 (by omega) hok
                have hit : i = t := by
                  have a1 : ¬ i < t := fun q => by have := (y5 i i1).mpr q; omega
                  rcases Nat.lt_or_ge t i with q | q
                  · have a2 := (nm_is h1 h4 i1).2.2.1 t q
                    have := (y5 t (by omega)).mp (by omega)
                    omega
                  · omega
                subst hit
                have hnm := nm_is h1 h4 i1
                have e4 : rf (fun a c => (rtF a c ∨ tF a c) ∨ nF a c) M1 M4 := rf_trans (rf_mono e3 fun a c q => Or.inl q) (rf_mono r4 fun a c q => Or.inr q)
                obtain ⟨k7, k8, k9⟩ := kp e4 (fun a c q => q.elim (fun q => q.elim (rt1 a c) (fun z => Or.inr (Or.inr z))) (fun z => Or.inr (Or.inl z))) (fun a c q => q.elim (fun q => q.elim (rt2 a c) (fun z => Or.inr (Or.inl z))) (fun z => Or.inl z))
                have r2'' := isRM_n r2' r4
                have recd : ∀ k, k ≤ n * n → ∀ M5, rf (fun a c => a = 30 ∧ 640 * (n - 1) + 16 * i ≤ c ∧ c < 640 * (n - 1) + 16 * i + 16) M4 M5 → (∀ j, j < k → M5.1 30 0 (640 * (n - 1) + 16 * i + j) = nI (pt (rwn n i) n (j / n) (j % n))) → V 0 G mi_R_layList Z 118 [(0, zr 20 0), (1, zi (nI n)), (2, zi (nI (fac n))), (3, zi (nI (fac n ^ n))), (4, zi (nI i)), (5, zi (nI p)), (7, zi (nI 1)), (8, zi (nI k))] [] M5 := by
                  refine up_to ?_ ?_
                  · intro M5 x1 x2
                    refine z_run (cuts := cu_R_layList) ok_R_layList (fun Kz hKz => ?_)
                    conv => whnf
                    rw [pk_mul, nI_leI (by omega) (by omega)]
                    refine ⟨fun _ => ?_, fun q => absurd (by omega) q⟩
                    conv => whnf
                    refine ⟨hz1, ?_⟩
                    conv => whnf
                    refine hKz _ _ _ _ ?_
                    rw [pd1, nI_1', nI_1', pk_mul, Nat.div_one, Nat.mul_one]
                    refine ih _ (by omega) (by omega) (i + 1) M5 (rf_trans k7 (rf_mono x1 fun a c q => Or.inr (Or.inr (Or.inr (Or.inr (Or.inr ⟨q.1, by omega, by omega⟩)))))) (fun j hj k hk => ?_) (fun j hj k hk => ?_) (by omega) (fun j hj => ?_)
                    · rw [x1.2 32 0 _ (fun q => absurd q.2.1 (by decide))]
                      exact k8 j hj k hk
                    · rcases fin_cases_eq hj with w | w
                      · rw [x1.2 30 0 _ (fun q => by omega)]
                        exact k9 j w k hk
                      · rw [w]; exact x2 k hk
                    · rw [i2]
                      constructor
                      · intro q
                        refine Classical.byContradiction fun w => ?_
                        have := (nm_is h1 h4 hj).2.2.1 i (by omega)
                        omega
                      · intro q
                        rcases fin_cases_eq q with w | w
                        · have := hnm.2.2.1 j w
                          omega
                        · rw [w]; omega
                  · intro k hk ih2 M5 x1 x2
                    have hd := dvlt hk
                    obtain ⟨ed, em⟩ := n_dm (k := k) (n := n) (by omega) (by omega) (by omega)
                    have r5 : isRM M5 5 (Ap n p) := isRM_rf r2'' x1 (fun a c q z => by unfold rgm at z; omega)
                    have eL : (Ap n p).2.1 (k / n) (k % n) = pt (rwn n i) n (k / n) (k % n) := by
                      have := hnm.2.1 _ _ hd.1 hd.2
                      rw [← i2] at this
                      exact this
                    refine z_run (cuts := cu_R_layList) ok_R_layList (fun Kz hKz => ?_)
                    conv => whnf
                    rw [pk_mul, nI_leI (by omega) (by omega)]
                    refine ⟨fun q => absurd q (by omega), fun _ => ?_⟩
                    conv => whnf
                    rw [pk_sub h1, pk_mul, pk_mul, nI_add, nI_add]
                    refine ⟨hzn, ?_⟩
                    conv => whnf
                    refine ⟨hzn, ?_⟩
                    conv => whnf
                    rw [ed, em]
                    refine s_R_l (by decide) r5 hd.1 hd.2 ?_
                    rw [eL]
                    conv => whnf
                    refine ⟨vp_in_nI (by omega) (by decide), ?_⟩
                    conv => whnf
                    refine hKz _ _ _ _ ?_
                    rw [nI_clamp (by omega), nI_1']
                    refine ih2 _ (rf_trans x1 (rf_set ⟨rfl, by omega, by omega⟩)) (fun j hj => ?_)
                    rcases fin_cases_eq hj with w | w
                    · rw [zset_ne (by omega)]; exact x2 j w
                    · rw [w]; exact zset_eq
                conv => whnf
                first | refine ⟨fun _ => ?_, fun q => absurd (by decide) q⟩ | refine ⟨fun q => absurd q (by decide), fun _ => ?_⟩
                conv => whnf
                rw [nI_leI (by omega) (by omega)]
                refine ⟨fun q => absurd q (by omega), fun _ => ?_⟩
                conv => whnf
                refine hKz _ _ _ _ ?_
                exact recd 0 (Nat.zero_le _) M4 (rf_refl _ _) (fun j hj => absurd hj (Nat.not_lt_zero _))
              · have e4 : rf (fun a c => (rtF a c ∨ tF a c) ∨ nF a c) M1 M4 := rf_trans (rf_mono e3 fun a c q => Or.inl q) (rf_mono r4 fun a c q => Or.inr q)
                obtain ⟨k7, k8, k9⟩ := kp e4 (fun a c q => q.elim (fun q => q.elim (rt1 a c) (fun z => Or.inr (Or.inr z))) (fun z => Or.inr (Or.inl z))) (fun a c q => q.elim (fun q => q.elim (rt2 a c) (fun z => Or.inr (Or.inl z))) (fun z => Or.inl z))
                conv => whnf
                first | refine ⟨fun _ => ?_, fun q => absurd (by decide) q⟩ | refine ⟨fun q => absurd q (by decide), fun _ => ?_⟩
                conv => whnf
                refine ⟨hz1, ?_⟩
                conv => whnf
                refine hKz _ _ _ _ ?_
                rw [pd1, nI_1', pk_mul]
                exact skip1 (fun q => hfr q.2.2.2) M4 k7 k8 k9
          · conv => whnf
            first | refine ⟨fun _ => ?_, fun q => absurd (by decide) q⟩ | refine ⟨fun q => absurd q (by decide), fun _ => ?_⟩
            conv => whnf
            refine ⟨hz1, ?_⟩
            conv => whnf
            refine hKz _ _ _ _ ?_
            rw [pd1, nI_1', pk_mul]
            exact skip1 (fun q => hv q.2.1) M2 k1 k2 k3
        · have hd : d < n := hd
          obtain ⟨b1, b2, b3⟩ := hpow d hd
          have hzB := n_nz b1 (by omega)
          conv => whnf
          rw [nI_leI (by omega) (by omega)]
          refine ⟨fun q => absurd q (by omega), fun _ => ?_⟩
          conv => whnf
          rw [pk_sub h1, pk_sub (by omega)]
          refine s_R_rowsTo (by omega) ?_
          conv => whnf
          refine s_R_layRight n0 (show n ≤ 6 by omega) hwf g2 hiv (fun M2 r1 r2 => ?_)
          obtain ⟨k1, k2, k3⟩ := kp r1 rt1 rt2
          conv => whnf
          rw [n_ne (by omega) (by omega)]
          refine ⟨fun _ => ?_, fun z => absurd (by omega) z⟩
          conv => whnf
          refine ⟨hzB, ?_⟩
          conv => whnf
          refine hKz _ _ _ _ ?_
          rw [pk_div (by omega) b1 (by omega), nI_1', pk_mul]
          obtain ⟨x, y, hx, hy, hfw⟩ := hex
          exact skip (fun q => q.1 d hd x y hx hy hfw) _ b1 b2 ⟨_, b3⟩ (fun q hq hok => hok.1 d hd x y hx hy (fw_same hd hx hy hq hfw)) M2 k1 k2 k3
  have hrl := hR.2.2 n h1 h4
  refine go_R_layList (fun Kz hKz => ?_)
  conv => whnf
  refine ⟨vp_in_nI (by omega) (by decide), ?_⟩
  conv => whnf
  rw [nI_clamp (by omega)]
  rcases hrl with hrl | hrl
  · rw [hrl]
    first | refine ⟨fun _ => ?_, fun q => absurd (by decide) q⟩ | refine ⟨fun q => absurd q (by decide), fun _ => ?_⟩
    conv => whnf
    refine s_R_layRows h1 h4 (fun M1 g1 g2 => ?_)
    conv => whnf
    refine s_R_rowsTo (by omega) ?_
    conv => whnf
    refine hKz _ _ _ _ ?_
    exact main _ 0 (Nat.le_refl _) (Nat.zero_le _) 0 M1 (rf_mono g1 fun a c q => by unfold rwF at q; unfold llF; omega) g2 (fun i hi => absurd hi (Nat.not_lt_zero _)) (Nat.zero_le _) (fun i hi => ⟨fun q => absurd q (Nat.not_lt_zero _), fun q => absurd q (Nat.not_lt_zero _)⟩)
  · rw [hrl.1, nI_ltI (by omega) (by omega)]
    refine ⟨fun q => absurd q (by omega), fun _ => ?_⟩
    conv => whnf
    refine ⟨vp_in_nI (by omega) (by decide), ?_⟩
    conv => whnf
    rw [nI_clamp (by omega), hrl.1]
    exact hZ M hR (rsm_refl M) hrl.2
end
