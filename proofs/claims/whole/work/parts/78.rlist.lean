/-! the reference: its search for the list, method by method -/
def cl5 (M : ZM) (n : Nat) (L : Nat → Nat → Nat) : Prop := M.1 21 0 5 = nI n ∧ ∀ x y, x < n → y < n → M.1 22 0 (36 * 5 + (6 * x + y)) = nI (L x y)
theorem cl5_rm {M : ZM} {A : ZP} (h : isRM M 5 A) : cl5 M A.1 A.2.1 := ⟨h.2.1, fun x y hx hy => (h.2.2 x y hx hy).1⟩
theorem cl5_rf {F : Nat → Nat → Prop} {M M' : ZM} {n : Nat} {L : Nat → Nat → Nat} (h : cl5 M n L) (hf : rf F M M') (hF : ∀ c, ¬ F 21 c ∧ ¬ F 22 c) : cl5 M' n L := ⟨by rw [hf.2 21 0 5 (fun q => (hF 5).1 q.2)]; exact h.1, fun x y hx hy => by rw [hf.2 22 0 _ (fun q => (hF _).2 q.2)]; exact h.2 x y hx hy⟩
def rwF (a _c : Nat) : Prop := a = 24 ∨ a = 32
def rowOK (M : ZM) (n : Nat) : Prop := ∀ j, j < fac n → ∀ k, k < n → M.1 32 0 (4 * j + k) = nI (gw (pw n j) k)
theorem fac_le4 : ∀ n, n ≤ 4 → fac n ≤ 24 := by decide
theorem lo_fw {v0 : ZV} {a1 a2 a3 a4 a5 a6 a7 a8 a9 b10 : Int32} : lput 10 (zi b10) (lput 9 (zi a9) [(0, v0), (1, zi a1), (2, zi a2), (3, zi a3), (4, zi a4), (5, zi a5), (6, zi a6), (7, zi a7), (8, zi a8)]) = [(0, v0), (1, zi a1), (2, zi a2), (3, zi a3), (4, zi a4), (5, zi a5), (6, zi a6), (7, zi a7), (8, zi a8), (9, zi a9), (10, zi b10)] := rfl
def sgn (c : Nat) (x : Int32) : Prop := (c = 0 ∧ x = nI 0) ∨ (c = 1 ∧ ∃ a b, a < b ∧ b < 8 ∧ x = nI a - nI b) ∨ (c = 2 ∧ ∃ a, 0 < a ∧ a < 8 ∧ x = nI a)
theorem sub_ng : ∀ b, b < 8 → ∀ a, a < b → (nI a - nI b < nI 0) := by decide +kernel
theorem sub_ne : ∀ b, b < 8 → ∀ a, a < b → ¬ (nI a - nI b = nI 0) := by decide +kernel
section
variable {G : ZG} {M : ZM} {Z : Option ZV → ZM → Prop} {S : ZS}
theorem s_R_lc {n x y : Nat} {L : Nat → Nat → Nat} (h6 : n ≤ 6) (hc : cl5 M n L) (hx : x < n) (hy : y < n) (hZ : Z (some (zi (nI (L x y)))) M) : Ctr 0 G mi_R_l [zr 20 0, zi (nI 5), zi (nI x), zi (nI y)] M Z := by
  refine go_R_l (fun Kz hKz => ?_)
  conv => whnf
  rw [pk_mul, pk_mul, nI_add, nI_add, Nat.add_assoc]
  refine ⟨vp_in_nI (by omega) (by decide), ?_⟩
  conv => whnf
  rw [nI_clamp (by omega), hc.2 x y hx hy]
  exact hZ
theorem s_R_namedAs {w : List Nat} {n v : Nat} (h6 : n ≤ 6) (hw : isN M w) (hp : wp w n) (hv : v < n) (hZ : iv w n v < n → gw w (iv w n v) = v → Z (some (zi (nI (iv w n v)))) M) : Ctr 0 G mi_R_namedAs [zr 20 0, zi (nI n), zi (nI v)] M Z := by
  obtain ⟨c, hc, hcv⟩ := inj_surj hp.1.2 hp.2 v hv
  have e : iv w n v = c := fnd_inv hp hc hcv
  rw [e] at hZ
  have hZ := hZ hc hcv
  have lp : ∀ k, k ≤ n → ∀ x, x = (if c < k then c else 0) → V 0 G mi_R_namedAs Z 5 [(0, zr 20 0), (1, zi (nI n)), (2, zi (nI v)), (3, zi (nI x)), (4, zi (nI k))] [] M := by
    refine up_to ?_ ?_
    · intro x hx
      rw [if_pos hc] at hx
      refine z_run (cuts := cu_R_namedAs) ok_R_namedAs (fun Kz hKz => ?_)
      conv => whnf
      rw [nI_leI (by omega) (by omega)]
      refine ⟨fun _ => ?_, fun q => absurd (by omega) q⟩
      conv => whnf
      rw [hx]
      exact hZ
    · intro k hk ih x hx
      have hgk := hp.1.2 k hk
      refine z_run (cuts := cu_R_namedAs) ok_R_namedAs (fun Kz hKz => ?_)
      conv => whnf
      rw [nI_leI (by omega) (by omega)]
      refine ⟨fun q => absurd q (by omega), fun _ => ?_⟩
      conv => whnf
      refine ⟨vp_in_nI (by omega) (by decide), ?_⟩
      conv => whnf
      rw [nI_clamp (by omega), hw k (by rw [hp.1.1]; exact hk), n_ne (by omega) (by omega)]
      refine ⟨fun q => ?_, fun q => ?_⟩
      · conv => whnf
        refine hKz _ _ _ _ ?_
        rw [nI_1']
        refine ih x ?_
        have hne : c ≠ k := fun z => q (by rw [← z]; exact hcv)
        by_cases z : c < k
        · rw [hx, if_pos z, if_pos (by omega)]
        · rw [hx, if_neg z, if_neg (by omega)]
      · conv => whnf
        refine hKz _ _ _ _ ?_
        rw [nI_1']
        refine ih k ?_
        have := hp.2 k c hk hc ((Classical.not_not.mp q).trans hcv.symm)
        rw [if_pos (by omega), this]
  refine go_R_namedAs (fun Kz hKz => ?_)
  conv => whnf
  refine hKz _ _ _ _ ?_
  exact lp 0 (Nat.zero_le _) 0 (by rw [if_neg (Nat.not_lt_zero _)])
theorem s_R_layRows {n : Nat} (h1 : 1 ≤ n) (h4 : n ≤ 4) (hZ : ∀ M', rf rwF M M' → rowOK M' n → Z (some (zi (nI (fac n)))) M') : Ctr 0 G mi_R_layRows [zr 20 0, zi (nI n)] M Z := by
  have hf := fac_le4 n h4
  have hf0 := fac_pos n (by omega)
  have done : ∀ M', rf rwF M M' → rowOK M' n → V 0 G mi_R_layRows Z 9 [(0, zr 20 0), (1, zi (nI n)), (2, zi (nI (fac n))), (3, zi (nI 0))] [] M' := by
    intro M' y1 y2
    refine z_run (cuts := cu_R_layRows) ok_R_layRows (fun Kz hKz => ?_)
    conv => whnf
    first | refine ⟨fun _ => ?_, fun q => absurd (by decide) q⟩ | refine ⟨fun q => absurd q (by decide), fun _ => ?_⟩
    conv => whnf
    exact hZ M' y1 y2
  have step : ∀ j, j < fac n → (∀ M', rf rwF M M' → isN M' (pw n (j + 1)) → (∀ i, i < j + 1 → ∀ k, k < n → M'.1 32 0 (4 * i + k) = nI (gw (pw n i) k)) → ¬ j + 1 = fac n → V 0 G mi_R_layRows Z 9 [(0, zr 20 0), (1, zi (nI n)), (2, zi (nI (j + 1))), (3, zi (nI 1))] [] M') → ∀ M', rf rwF M M' → isN M' (pw n j) → (∀ i, i < j → ∀ k, k < n → M'.1 32 0 (4 * i + k) = nI (gw (pw n i) k)) → V 0 G mi_R_layRows Z 9 [(0, zr 20 0), (1, zi (nI n)), (2, zi (nI j)), (3, zi (nI 1))] [] M' := by
    intro j hj ih M' y1 y2 y3
    have hv := wv_pw (n := n) h1 j
    have hlast := pw_last h1 (by omega) hj
    have inner : ∀ k, k ≤ n → ∀ M', rf rwF M M' → isN M' (pw n j) → (∀ i, i < j → ∀ k, k < n → M'.1 32 0 (4 * i + k) = nI (gw (pw n i) k)) → (∀ c, c < k → M'.1 32 0 (4 * j + c) = nI (gw (pw n j) c)) → V 0 G mi_R_layRows Z 16 [(0, zr 20 0), (1, zi (nI n)), (2, zi (nI j)), (4, zi (nI k))] [] M' := by
      refine up_to ?_ ?_
      · intro M' y1 y2 y3 y4
        have hall : ∀ i, i < j + 1 → ∀ k, k < n → M'.1 32 0 (4 * i + k) = nI (gw (pw n i) k) := fun i hi k hk => by
          rcases fin_cases_eq hi with z | z
          · exact y3 i z k hk
          · rw [z]; exact y4 k hk
        refine z_run (cuts := cu_R_layRows) ok_R_layRows (fun Kz hKz => ?_)
        conv => whnf
        rw [nI_leI (by omega) (by omega)]
        refine ⟨fun _ => ?_, fun q => absurd (by omega) q⟩
        conv => whnf
        refine s_R_nextName hv.1 h1 (by omega) (wv_lt hv (by omega)) y2 (fun y => ?_) (fun y M3 k1 k2 => ?_)
        · have he := hlast.mp y
          conv => whnf
          refine hKz _ _ _ _ ?_
          rw [nI_1', he]
          exact done M' y1 (by intro i hi k hk; exact hall i (by omega) k hk)
        · conv => whnf
          refine hKz _ _ _ _ ?_
          rw [nI_1']
          refine ih M3 (rf_trans y1 (rf_mono k1 fun a c q => Or.inl q)) k2 (fun i hi k hk => ?_) (fun x => y (hlast.mpr x))
          rw [k1.2 32 0 _ (fun q => absurd (show (32 : Nat) = 24 from q.2) (by decide))]
          exact hall i hi k hk
      · intro k hk ih2 M' y1 y2 y3 y4
        refine z_run (cuts := cu_R_layRows) ok_R_layRows (fun Kz hKz => ?_)
        conv => whnf
        rw [nI_leI (by omega) (by omega)]
        refine ⟨fun q => absurd q (by omega), fun _ => ?_⟩
        conv => whnf
        rw [pk_mul, nI_add]
        refine ⟨vp_in_nI (by omega) (by decide), ?_⟩
        conv => whnf
        rw [nI_clamp (by omega), nI_clamp (by omega), y2 k (by rw [hv.1]; exact hk)]
        refine ⟨vp_in_nI (by omega) (by decide), ?_⟩
        conv => whnf
        refine hKz _ _ _ _ ?_
        rw [nI_1']
        refine ih2 _ (rf_trans y1 (rf_set (Or.inr rfl))) (fun x hx => by rw [zset_ne (by omega)]; exact y2 x hx) (fun i hi c hc => by rw [zset_ne (by omega)]; exact y3 i hi c hc) (fun c hc => ?_)
        rcases fin_cases_eq hc with z | z
        · rw [zset_ne (by omega)]; exact y4 c z
        · rw [z]; exact zset_eq
    refine z_run (cuts := cu_R_layRows) ok_R_layRows (fun Kz hKz => ?_)
    conv => whnf
    first | refine ⟨fun _ => ?_, fun q => absurd (by decide) q⟩ | refine ⟨fun q => absurd q (by decide), fun _ => ?_⟩
    conv => whnf
    refine hKz _ _ _ _ ?_
    exact inner 0 (Nat.zero_le _) M' y1 y2 y3 (fun c hc => absurd hc (Nat.not_lt_zero _))
  have lp : ∀ j, j ≤ fac n - 1 → ∀ M', rf rwF M M' → isN M' (pw n j) → (∀ i, i < j → ∀ k, k < n → M'.1 32 0 (4 * i + k) = nI (gw (pw n i) k)) → V 0 G mi_R_layRows Z 9 [(0, zr 20 0), (1, zi (nI n)), (2, zi (nI j)), (3, zi (nI 1))] [] M' := by
    refine up_to ?_ ?_
    · exact step (fac n - 1) (by omega) (fun M' _ _ _ y => absurd (by omega) y)
    · intro j hj ih
      exact step j (by omega) (fun M' k1 k2 k3 _ => ih M' k1 k2 k3)
  refine go_R_layRows (fun Kz hKz => ?_)
  conv => whnf
  refine s_R_firstName (by omega) (fun M1 g1 g2 => ?_)
  conv => whnf
  refine hKz _ _ _ _ ?_
  exact lp 0 (Nat.zero_le _) M1 (rf_mono g1 fun a c q => Or.inl q) g2 (fun i hi => absurd hi (Nat.not_lt_zero _))
theorem s_R_layNumber {n p : Nat} (h1 : 1 ≤ n) (h4 : n ≤ 4) (hp : p < 2 ^ 31) (hr : rowOK M n) (hZ : ∀ M', rf (rgm 5) M M' → cl5 M' n (Lp n p) → Z none M') : Ctr 0 G mi_R_layNumber [zr 20 0, zi (nI n), zi (nI p), zi (nI (fac n))] M Z := by
  have hf := fac_le4 n h4
  have hf0 := fac_pos n (by omega)
  have hz := n_nz (b := fac n) hf0 (by omega)
  have keep : ∀ {M'}, rf (rgm 5) M M' → rowOK M' n := fun h j hj k hk => by
    rw [h.2 32 0 _ (fun q => by have := q.2; unfold rgm at this; omega)]
    exact hr j hj k hk
  have outer : ∀ c, c ≤ n → ∀ M', rf (rgm 5) M M' → M'.1 21 0 5 = nI n → (∀ x y, c ≤ x → x < n → y < n → M'.1 22 0 (36 * 5 + (6 * x + y)) = nI (Lp n p x y)) → V 0 G mi_R_layNumber Z 15 [(0, zr 20 0), (1, zi (nI n)), (3, zi (nI (fac n))), (4, zi (nI (p / fac n ^ (n - c)))), (5, zi (nI (c + 4294967295)))] [] M' := by
    intro c
    induction c with
    | zero =>
      intro _ M' g1 g2 g3
      refine z_run (cuts := cu_R_layNumber) ok_R_layNumber (fun Kz hKz => ?_)
      conv => whnf
      first | refine ⟨fun _ => ?_, fun q => absurd (by decide) q⟩ | refine ⟨fun q => absurd q (by decide), fun _ => ?_⟩
      conv => whnf
      exact hZ M' g1 ⟨g2, fun x y hx hy => g3 x y (Nat.zero_le _) hx hy⟩
    | succ c ih =>
      intro hc M' g1 g2 g3
      have e : nI (c + 1 + 4294967295) = nI c := by rw [show c + 1 + 4294967295 = c + 2 ^ 32 * 1 by omega]; exact nI_wrap c 1
      have hd : p / fac n ^ (n - (c + 1)) ≤ p := Nat.div_le_self _ _
      obtain ⟨ed, em⟩ := n_dm (k := p / fac n ^ (n - (c + 1))) (n := fac n) (by omega) hf0 (by omega)
      have e2 : p / fac n ^ (n - (c + 1)) / fac n = p / fac n ^ (n - c) := by
        rw [Nat.div_div_eq_div_mul, ← Nat.pow_succ, show (n - (c + 1)).succ = n - c by omega]
      have edg : p / fac n ^ (n - (c + 1)) % fac n = dgt n p c := by
        unfold dgt
        rw [show n - 1 - c = n - (c + 1) by omega]
      have hdl := dgt_lt h4 p c
      have inner : ∀ y, y ≤ n → ∀ M', rf (rgm 5) M M' → M'.1 21 0 5 = nI n → (∀ x y, c + 1 ≤ x → x < n → y < n → M'.1 22 0 (36 * 5 + (6 * x + y)) = nI (Lp n p x y)) → (∀ z, z < y → M'.1 22 0 (36 * 5 + (6 * c + z)) = nI (Lp n p c z)) → V 0 G mi_R_layNumber Z 23 [(0, zr 20 0), (1, zi (nI n)), (3, zi (nI (fac n))), (4, zi (nI (p / fac n ^ (n - (c + 1))))), (5, zi (nI c)), (6, zi (nI y))] [] M' := by
        refine up_to ?_ ?_
        · intro M' g1 g2 g3 g4
          refine z_run (cuts := cu_R_layNumber) ok_R_layNumber (fun Kz hKz => ?_)
          conv => whnf
          rw [nI_leI (by omega) (by omega)]
          refine ⟨fun _ => ?_, fun q => absurd (by omega) q⟩
          conv => whnf
          refine ⟨hz, ?_⟩
          conv => whnf
          refine hKz _ _ _ _ ?_
          rw [ed, e2, n_m1, nI_add]
          refine ih (by omega) M' g1 g2 (fun x y hx hxn hy => ?_)
          by_cases z : x = c
          · rw [z]; exact g4 y hy
          · exact g3 x y (by omega) hxn hy
        · intro y hy ih2 M' g1 g2 g3 g4
          refine z_run (cuts := cu_R_layNumber) ok_R_layNumber (fun Kz hKz => ?_)
          conv => whnf
          rw [nI_leI (by omega) (by omega)]
          refine ⟨fun q => absurd q (by omega), fun _ => ?_⟩
          conv => whnf
          refine ⟨hz, ?_⟩
          conv => whnf
          rw [em, edg, pk_mul, nI_add]
          refine ⟨vp_in_nI (by omega) (by decide), ?_⟩
          conv => whnf
          rw [nI_clamp (by omega), keep g1 _ hdl y hy]
          refine s_R_lay (by decide) (by omega) (by omega) ?_
          conv => whnf
          refine hKz _ _ _ _ ?_
          rw [nI_1']
          refine ih2 _ (rf_trans (rf_trans g1 (rf_set (Or.inr ⟨Or.inl rfl, by omega, by omega⟩))) (rf_set (Or.inr ⟨Or.inr rfl, by omega, by omega⟩))) (by rw [zset_ne (by omega), zset_ne (by omega)]; exact g2) (fun x z hx hxn hz => by rw [zset_ne (by omega), zset_ne (by omega)]; exact g3 x z hx hxn hz) (fun z hz => ?_)
          rcases fin_cases_eq hz with w | w
          · rw [zset_ne (by omega), zset_ne (by omega)]; exact g4 z w
          · rw [w, zset_ne (by omega), zset_eq]
            rfl
      rw [e]
      refine z_run (cuts := cu_R_layNumber) ok_R_layNumber (fun Kz hKz => ?_)
      conv => whnf
      rw [nI_ltI (by omega) (by omega)]
      refine ⟨fun q => absurd q (by omega), fun _ => ?_⟩
      conv => whnf
      refine hKz _ _ _ _ ?_
      exact inner 0 (Nat.zero_le _) M' g1 g2 g3 (fun z hz => absurd hz (Nat.not_lt_zero _))
  have es : nI n - nI 1 = nI (n + 4294967295) := by
    have : ∀ k, k < 5 → nI k - nI 1 = nI (k + 4294967295) := by decide +kernel
    exact this n (by omega)
  refine go_R_layNumber (fun Kz hKz => ?_)
  conv => whnf
  refine ⟨vp_in_nI (by decide) (by decide), ?_⟩
  conv => whnf
  refine hKz _ _ _ _ ?_
  rw [nI_clamp (by omega), es]
  have := outer n (Nat.le_refl _) (zset 21 0 5 (nI n) M) (rf_set (Or.inl ⟨rfl, rfl⟩)) zset_eq (fun x y h1 h2 => absurd h2 (by omega))
  rw [Nat.sub_self, Nat.pow_zero, Nat.div_one] at this
  exact this
theorem s_R_failsWithin {n d x y : Nat} {A : ZP} (hn : A.1 = n) (h4 : n ≤ 4) (hA : pwf A) (hc : cl5 M n A.2.1) (hinv : ∀ x y c, x < n → y < n → c < n → (A.2.1 (A.2.1 x y) c = x ↔ c = A.2.2 x y)) (hd : d < n) (hx : x ≤ d) (hy : y ≤ d) (h1 : fwA A d x y → Z (some (zi (nI 1))) M) (h2 : ¬ fwA A d x y → Z (some (zi (nI 0))) M) : Ctr 0 G mi_R_failsWithin [zr 20 0, zi (nI x), zi (nI y), zi (nI d)] M Z := by
  subst hn
  have hLR := hA.2 x y (by omega) (by omega)
  have second : ∀ v, v ≤ A.1 → (v ≤ d → v = A.2.2 x y) → (A.2.1 x y ≤ d → A.2.2 x y ≤ d → v = A.2.2 x y) → (¬ A.2.1 x y ≤ d → ¬ v ≤ d) → V 0 G mi_R_failsWithin Z 71 [(0, zr 20 0), (1, zi (nI x)), (2, zi (nI y)), (3, zi (nI d)), (4, zi (nI A.1)), (5, zi (nI (A.2.1 x y))), (6, zi (nI v)), (7, zi (nI 0)), (8, zi (nI 0))] [] M := by
    intro v hv hv2 hv3 hv4
    have lp : ∀ z, z ≤ A.1 → ∀ b : Bool, (b = true ↔ ∃ c, c < z ∧ A.2.1 x (A.2.1 y c) ≠ A.2.1 (A.2.1 x y) (A.2.1 v c)) → (b = true → v ≤ d) → V 0 G mi_R_failsWithin Z 71 [(0, zr 20 0), (1, zi (nI x)), (2, zi (nI y)), (3, zi (nI d)), (4, zi (nI A.1)), (5, zi (nI (A.2.1 x y))), (6, zi (nI v)), (7, zi (b2i b)), (8, zi (nI z))] [] M := by
      have out : ∀ z, z ≤ A.1 → ∀ b : Bool, (b = true ↔ ∃ c, c < z ∧ A.2.1 x (A.2.1 y c) ≠ A.2.1 (A.2.1 x y) (A.2.1 v c)) → (b = true → v ≤ d) → (z = A.1 ∨ ¬ v ≤ d) → (b = true ↔ fwA A d x y) := by
        intro z hz b hb hb2 hor
        constructor
        · intro q
          obtain ⟨c, c1, c2⟩ := hb.mp q
          have hvd := hb2 q
          have e := hv2 hvd
          rw [e] at c2 hvd
          refine ⟨Classical.byContradiction fun w => hv4 w (hb2 q), hvd, c, by omega, c2⟩
        · rintro ⟨f1, f2, c, f3, f4⟩
          have e := hv3 f1 f2
          rw [← e] at f2 f4
          rcases hor with w | w
          · exact hb.mpr ⟨c, by omega, f4⟩
          · exact absurd f2 w
      refine up_to ?_ ?_
      · intro b hb hb2
        have ho := out A.1 (Nat.le_refl _) b hb hb2 (Or.inl rfl)
        refine z_run (cuts := cu_R_failsWithin) ok_R_failsWithin (fun Kz hKz => ?_)
        conv => whnf
        rw [nI_leI (by omega) (by omega)]
        refine ⟨fun _ => ?_, fun q => absurd (by omega) q⟩
        conv => whnf
        cases hbb : b with
        | true => exact ⟨Or.inr rfl, h1 (ho.mp hbb)⟩
        | false => exact ⟨Or.inl rfl, h2 (fun q => by rw [ho.mpr q] at hbb; cases hbb)⟩
      · intro z hz ih b hb hb2
        refine z_run (cuts := cu_R_failsWithin) ok_R_failsWithin (fun Kz hKz => ?_)
        conv => whnf
        rw [nI_leI (by omega) (by omega)]
        refine ⟨fun q => absurd q (by omega), fun _ => ?_⟩
        conv => whnf
        rw [nI_ltI (by omega) (by omega)]
        refine ⟨fun q => ?_, fun q => ?_⟩
        · have ho := out z (by omega) b hb hb2 (Or.inr (by omega))
          conv => whnf
          cases hbb : b with
          | true => exact ⟨Or.inr rfl, h1 (ho.mp hbb)⟩
          | false => exact ⟨Or.inl rfl, h2 (fun q => by rw [ho.mpr q] at hbb; cases hbb)⟩
        · have hvn : v < A.1 := by omega
          have b1 := (hA.2 y z (by omega) hz).1
          have b2 := (hA.2 v z hvn hz).1
          have b3 := (hA.2 x _ (by omega) b1).1
          have b4 := (hA.2 _ _ hLR.1 b2).1
          have nxt : ∀ d' : Bool, (d' = true ↔ (b = true ∨ A.2.1 x (A.2.1 y z) ≠ A.2.1 (A.2.1 x y) (A.2.1 v z))) → (d' = true ↔ ∃ c, c < z + 1 ∧ A.2.1 x (A.2.1 y c) ≠ A.2.1 (A.2.1 x y) (A.2.1 v c)) := by
            intro d' hd'
            rw [hd', hb]
            constructor
            · rintro (⟨c, c1, c2⟩ | w)
              · exact ⟨c, by omega, c2⟩
              · exact ⟨z, by omega, w⟩
            · rintro ⟨c, c1, c2⟩
              rcases fin_cases_eq c1 with w | w
              · exact Or.inl ⟨c, w, c2⟩
              · rw [w] at c2; exact Or.inr c2
          conv => whnf
          refine s_R_lc (by omega) hc (by omega) hz ?_
          conv => whnf
          refine s_R_lc (by omega) hc hvn hz ?_
          conv => whnf
          cases hbb : b with
          | true =>
            first | refine ⟨fun _ => ?_, fun q => absurd (by decide) q⟩ | refine ⟨fun q => absurd q (by decide), fun _ => ?_⟩
            conv => whnf
            refine hKz _ _ _ _ ?_
            rw [nI_1']
            exact ih true (nxt true (by rw [hbb]; simp)) (fun _ => by omega)
          | false =>
            first | refine ⟨fun _ => ?_, fun q => absurd (by decide) q⟩ | refine ⟨fun q => absurd q (by decide), fun _ => ?_⟩
            conv => whnf
            refine s_R_lc (by omega) hc (by omega) b1 ?_
            conv => whnf
            refine s_R_lc (by omega) hc hLR.1 b2 ?_
            conv => whnf
            rw [nI_eq (by omega) (by omega)]
            refine ⟨fun q2 => ?_, fun q2 => ?_⟩
            · conv => whnf
              refine hKz _ _ _ _ ?_
              rw [nI_1']
              exact ih false (nxt false (by rw [hbb]; simp; exact q2)) (fun y => by cases y)
            · conv => whnf
              refine hKz _ _ _ _ ?_
              rw [nI_1']
              exact ih true (nxt true ⟨fun _ => Or.inr q2, fun _ => rfl⟩) (fun _ => by omega)
    exact lp 0 (Nat.zero_le _) false ⟨fun q => (by cases q), fun ⟨c, c1, _⟩ => absurd c1 (Nat.not_lt_zero _)⟩ (fun q => by cases q)
  have first : A.2.1 x y ≤ d → ∀ k, k ≤ A.1 → ∀ v, v = (if A.2.2 x y < k then A.2.2 x y else A.1) → V 0 G mi_R_failsWithin Z 24 [(0, zr 20 0), (1, zi (nI x)), (2, zi (nI y)), (3, zi (nI d)), (4, zi (nI A.1)), (5, zi (nI (A.2.1 x y))), (6, zi (nI v)), (7, zi (nI k))] [] M := by
    intro hu
    refine up_to ?_ ?_
    · intro v hv
      rw [if_pos hLR.2] at hv
      refine z_run (cuts := cu_R_failsWithin) ok_R_failsWithin (fun Kz hKz => ?_)
      conv => whnf
      rw [nI_leI (by omega) (by omega)]
      refine ⟨fun _ => ?_, fun q => absurd (by omega) q⟩
      conv => whnf
      refine hKz _ _ _ _ ?_
      exact second v (by omega) (fun _ => hv) (fun _ _ => hv) (fun q => absurd hu q)
    · intro k hk ih v hv
      have b1 := (hA.2 _ k hLR.1 hk).1
      have hi := hinv x y k (by omega) (by omega) hk
      refine z_run (cuts := cu_R_failsWithin) ok_R_failsWithin (fun Kz hKz => ?_)
      conv => whnf
      rw [nI_leI (by omega) (by omega)]
      refine ⟨fun q => absurd q (by omega), fun _ => ?_⟩
      conv => whnf
      rw [nI_ltI (by omega) (by omega)]
      refine ⟨fun q => absurd q (by omega), fun _ => ?_⟩
      conv => whnf
      refine s_R_lc (by omega) hc hLR.1 hk ?_
      conv => whnf
      rw [n_ne (by omega) (by omega)]
      refine ⟨fun q => ?_, fun q => ?_⟩
      · conv => whnf
        refine hKz _ _ _ _ ?_
        rw [nI_1']
        refine ih v ?_
        have hne : A.2.2 x y ≠ k := fun e => q (hi.mpr e.symm)
        by_cases w : A.2.2 x y < k
        · rw [hv, if_pos w, if_pos (by omega)]
        · rw [hv, if_neg w, if_neg (by omega)]
      · conv => whnf
        refine hKz _ _ _ _ ?_
        rw [nI_1']
        refine ih k ?_
        have := hi.mp (Classical.not_not.mp q)
        rw [if_pos (by omega)]
        exact this
  refine go_R_failsWithin (fun Kz hKz => ?_)
  conv => whnf
  refine ⟨vp_in_nI (by decide) (by decide), ?_⟩
  conv => whnf
  rw [nI_clamp (by omega), hc.1]
  refine s_R_lc (by omega) hc (by omega) (by omega) ?_
  conv => whnf
  refine hKz _ _ _ _ ?_
  by_cases hu : A.2.1 x y ≤ d
  · exact first hu 0 (Nat.zero_le _) A.1 (by rw [if_neg (Nat.not_lt_zero _)])
  · refine z_run (cuts := cu_R_failsWithin) ok_R_failsWithin (fun Kz hKz => ?_)
    conv => whnf
    rw [nI_leI (by omega) (by omega)]
    refine ⟨fun q => absurd q (by omega), fun _ => ?_⟩
    conv => whnf
    rw [nI_ltI (by omega) (by omega)]
    refine ⟨fun _ => ?_, fun q => absurd (by omega) q⟩
    conv => whnf
    refine hKz _ _ _ _ ?_
    exact second A.1 (Nat.le_refl _) (fun q => absurd q (by omega)) (fun q => absurd q hu) (fun _ => by omega)
end
