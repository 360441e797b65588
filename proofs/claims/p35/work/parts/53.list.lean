/-! SolutionList: the rows, the maps that they tell -/
def rowNL : List Nat := [0x0, 0x0101, 0x1010, 0x012012012, 0x012012102, 0x012021021, 0x021021021, 0x120120120, 0x0123012301230123, 0x0123012301230213, 0x0123012301231203, 0x0123012301320132, 0x0123012301321032, 0x0123012310231023, 0x0123012310321032, 0x0123013201320132, 0x0123023102310231, 0x0132013201320132, 0x0132013210231023, 0x0132013210321032, 0x0132231032011023, 0x0231023102310231, 0x0231031203120312, 0x1023102301320132, 0x1023102301321032, 0x1023102310321032, 0x1023231001323201, 0x1032103210321032, 0x1032230123011032, 0x1230123012301230, 0x1230301212303012]
def rowN (k : Nat) : Nat := rowNL.getD k 0
theorem zrows_eq : ∀ k, k < 31 → zrows k = lN (rowN k) := by decide +kernel
theorem rowN_lt : ∀ k, k < 31 → rowN k < 2 ^ 61 := by decide +kernel
def st0 (n : Nat) : Nat := match n with
  | 1 => 0
  | 2 => 1
  | 3 => 3
  | 4 => 8
  | _ => 31
def sz (n : Nat) : Nat := st0 (n + 1) - st0 n
def rwn (n i : Nat) : Nat := rowN (st0 n + i)
def pt (R n x y : Nat) : Nat := R / 16 ^ (n * n - 1 - (n * x + y)) % 8
def clm (R n p v : Nat) : Nat := fnd (fun c => decide (pt R n p c = v)) n
def plist (n i : Nat) : ZP := (n, fun x y => pt (rwn n i) n x y, fun x y => clm (rwn n i) n (pt (rwn n i) n x y) x)
theorem st0_sz : ∀ n, n ≤ 4 → 1 ≤ n → st0 n + sz n ≤ 31 := by decide
def lsB (n i : Nat) : Bool := decide (∀ x, x < n → ∀ y, y < n → pt (rwn n i) n x y < n ∧ clm (rwn n i) n (pt (rwn n i) n x y) x < n)
theorem lsB_all : ∀ n, n ≤ 4 → 1 ≤ n → ∀ i, i < sz n → lsB n i = true := by decide +kernel
theorem plist_wf {n i : Nat} (h1 : 1 ≤ n) (h4 : n ≤ 4) (hi : i < sz n) : pwf (plist n i) := ⟨by show n ≤ 6; omega, fun x y hx hy => of_decide_eq_true (lsB_all n h4 h1 i hi) x hx y hy⟩
theorem l_shr {a : Nat} (k : Nat) (hk : k < 64) (ha : a < 2 ^ 63) : lN a >>> ((nI k).toInt64 &&& 63) = lN (a / 2 ^ k) := l_ext (by
  rw [Int64.toBitVec_shiftRight, l_bv, l_bv]
  have h := l_sm k hk
  show (BitVec.ofNat 64 a).sshiftRight (((nI k).toInt64 &&& 63).toBitVec.smod 64).toNat = _
  have h2 : (BitVec.ofNat 64 a).toNat = a := by rw [BitVec.toNat_ofNat, Nat.mod_eq_of_lt (by omega)]
  rw [h, BitVec.sshiftRight_eq_of_msb_false (by rw [BitVec.msb_eq_false_iff_two_mul_lt, h2]; omega)]
  apply BitVec.eq_of_toNat_eq
  have h3 : a / 2 ^ k ≤ a := Nat.div_le_self _ _
  rw [BitVec.toNat_ushiftRight, h2, BitVec.toNat_ofNat, Nat.shiftRight_eq_div_pow, Nat.mod_eq_of_lt (by omega)])
section
variable {G : ZG} {M : ZM} {Z : Option ZV → ZM → Prop} {S : ZS}
theorem s_SL_hasPoints {m : Nat} (hm : m < 2 ^ 32) (h1 : 1 ≤ m → m ≤ 4 → Z (some (zi (nI 1))) M) (h2 : ¬ (1 ≤ m ∧ m ≤ 4) → Z (some (zi (nI 0))) M) : Ctr 0 G mi_SL_hasPoints [zi (nI m)] M Z := by
  refine go_SL_hasPoints (fun Kz hKz => ?_)
  conv => whnf
  rw [n_ltb hm (by decide)]
  refine ⟨fun q => ?_, fun q => ?_⟩
  · conv => whnf
    exact ⟨Or.inl rfl, h2 (by omega)⟩
  · conv => whnf
    rw [n_blt hm (by decide)]
    refine ⟨fun q2 => ?_, fun q2 => ?_⟩
    · conv => whnf
      exact ⟨Or.inl rfl, h2 (by omega)⟩
    · conv => whnf
      exact ⟨Or.inr rfl, h1 (by omega) (by omega)⟩
theorem s_SL_start {n : Nat} (h1 : 1 ≤ n) (h5 : n ≤ 5) (hZ : Z (some (zi (nI (st0 n)))) M) : Ctr 0 G mi_SL_start [zi (nI n)] M Z := by
  have hn : n = 1 ∨ n = 2 ∨ n = 3 ∨ n = 4 ∨ n = 5 := by omega
  rcases hn with rfl | rfl | rfl | rfl | rfl
  · refine go_SL_start (fun Kz hKz => ?_)
    conv => whnf
    first | refine ⟨fun _ => ?_, fun q => absurd (by decide) q⟩ | refine ⟨fun q => absurd q (by decide), fun _ => ?_⟩
    conv => whnf
    exact hZ
  · refine go_SL_start (fun Kz hKz => ?_)
    conv => whnf
    first | refine ⟨fun _ => ?_, fun q => absurd (by decide) q⟩ | refine ⟨fun q => absurd q (by decide), fun _ => ?_⟩
    conv => whnf
    first | refine ⟨fun _ => ?_, fun q => absurd (by decide) q⟩ | refine ⟨fun q => absurd q (by decide), fun _ => ?_⟩
    conv => whnf
    exact hZ
  · refine go_SL_start (fun Kz hKz => ?_)
    conv => whnf
    first | refine ⟨fun _ => ?_, fun q => absurd (by decide) q⟩ | refine ⟨fun q => absurd q (by decide), fun _ => ?_⟩
    conv => whnf
    first | refine ⟨fun _ => ?_, fun q => absurd (by decide) q⟩ | refine ⟨fun q => absurd q (by decide), fun _ => ?_⟩
    conv => whnf
    first | refine ⟨fun _ => ?_, fun q => absurd (by decide) q⟩ | refine ⟨fun q => absurd q (by decide), fun _ => ?_⟩
    conv => whnf
    exact hZ
  · refine go_SL_start (fun Kz hKz => ?_)
    conv => whnf
    first | refine ⟨fun _ => ?_, fun q => absurd (by decide) q⟩ | refine ⟨fun q => absurd q (by decide), fun _ => ?_⟩
    conv => whnf
    first | refine ⟨fun _ => ?_, fun q => absurd (by decide) q⟩ | refine ⟨fun q => absurd q (by decide), fun _ => ?_⟩
    conv => whnf
    first | refine ⟨fun _ => ?_, fun q => absurd (by decide) q⟩ | refine ⟨fun q => absurd q (by decide), fun _ => ?_⟩
    conv => whnf
    first | refine ⟨fun _ => ?_, fun q => absurd (by decide) q⟩ | refine ⟨fun q => absurd q (by decide), fun _ => ?_⟩
    conv => whnf
    exact hZ
  · refine go_SL_start (fun Kz hKz => ?_)
    conv => whnf
    first | refine ⟨fun _ => ?_, fun q => absurd (by decide) q⟩ | refine ⟨fun q => absurd q (by decide), fun _ => ?_⟩
    conv => whnf
    first | refine ⟨fun _ => ?_, fun q => absurd (by decide) q⟩ | refine ⟨fun q => absurd q (by decide), fun _ => ?_⟩
    conv => whnf
    first | refine ⟨fun _ => ?_, fun q => absurd (by decide) q⟩ | refine ⟨fun q => absurd q (by decide), fun _ => ?_⟩
    conv => whnf
    first | refine ⟨fun _ => ?_, fun q => absurd (by decide) q⟩ | refine ⟨fun q => absurd q (by decide), fun _ => ?_⟩
    conv => whnf
    exact hZ
theorem s_SL_size {n : Nat} (h1 : 1 ≤ n) (h4 : n ≤ 4) (hZ : Z (some (zi (nI (sz n)))) M) : Ctr 0 G mi_SL_size [zi (nI n)] M Z := by
  have hle : st0 n ≤ st0 (n + 1) := by
    have : ∀ n, n ≤ 4 → 1 ≤ n → st0 n ≤ st0 (n + 1) := by decide
    exact this n h4 h1
  refine go_SL_size (fun Kz hKz => ?_)
  conv => whnf
  rw [nI_1']
  refine s_SL_start (by omega) (by omega) ?_
  conv => whnf
  refine s_SL_start h1 (by omega) ?_
  conv => whnf
  rw [pk_sub hle]
  exact hZ
theorem s_SL_rowsAt {n i : Nat} (h1 : 1 ≤ n) (h4 : n ≤ 4) (hi : i < sz n) (hZ : Z (some (zl (lN (rwn n i)))) M) : Ctr 0 G mi_SL_rowsAt [zi (nI n), zi (nI i)] M Z := by
  have hs := st0_sz n h4 h1
  refine go_SL_rowsAt (fun Kz hKz => ?_)
  conv => whnf
  refine s_SL_start h1 (by omega) ?_
  conv => whnf
  rw [nI_add, nI_ltI (by omega) (by omega)]
  refine ⟨fun q => absurd q (by omega), fun _ => ?_⟩
  conv => whnf
  rw [nI_leI (by omega) (by omega)]
  refine ⟨fun q => absurd q (by omega), fun _ => ?_⟩
  conv => whnf
  refine ⟨vp_in_nI (by omega) (by decide), ?_⟩
  conv => whnf
  rw [nI_clamp (by omega), zrows_eq _ (by omega)]
  exact hZ
theorem s_SL_shiftOf {n p : Nat} (h1 : 1 ≤ n) (hp : p < n * n) (hZ : Z (some (zi (nI (4 * (n * n - 1 - p))))) M) : Ctr 0 G mi_SL_shiftOf [zi (nI p), zi (nI n)] M Z := by
  refine go_SL_shiftOf (fun Kz hKz => ?_)
  conv => whnf
  rw [pk_mul, pk_sub (by omega), pk_sub (by omega), pk_mul]
  exact hZ
end
