/-! the walk as a function: what is owed at each instruction -/
abbrev ZX : Type := List Nat × (Int32 × (Int64 × List (Int32 × Nat)))
/-- a row of a method's table: where, what, what its pool's entry says, the method that it calls -/
abbrev ZE : Type := Nat × (Instr × (ZX × ZI))
def zq (x : ZX) (i : Nat) : Nat := x.1.getD i 0
def zpI (st : List ZV) (k : Int32 → List ZV → Prop) : Prop := match st with
  | .inl x :: r => k x r
  | _ => False
def zpL (st : List ZV) (k : Int64 → List ZV → Prop) : Prop := match st with
  | .inr (.inl x) :: r => k x r
  | _ => False
def zpR (st : List ZV) (k : Nat → Nat → List ZV → Prop) : Prop := match st with
  | .inr (.inr (a, b)) :: r => k a b r
  | _ => False
def zgI (l : ZL) (n : Nat) (k : Int32 → Prop) : Prop := match lget l n with
  | some (.inl x) => k x
  | _ => False
def zgL (l : ZL) (n : Nat) (k : Int64 → Prop) : Prop := match lget l n with
  | some (.inr (.inl x)) => k x
  | _ => False
def zgR (l : ZL) (n : Nat) (k : Nat → Nat → Prop) : Prop := match lget l n with
  | some (.inr (.inr (a, b))) => k a b
  | _ => False
theorem zpI_ex {st : List ZV} {k : Int32 → List ZV → Prop} (h : zpI st k) : ∃ x r, st = zi x :: r ∧ k x r := by
  unfold zpI at h
  split at h
  · exact ⟨_, _, rfl, h⟩
  · exact h.elim
theorem zpL_ex {st : List ZV} {k : Int64 → List ZV → Prop} (h : zpL st k) : ∃ x r, st = zl x :: r ∧ k x r := by
  unfold zpL at h
  split at h
  · exact ⟨_, _, rfl, h⟩
  · exact h.elim
theorem zpR_ex {st : List ZV} {k : Nat → Nat → List ZV → Prop} (h : zpR st k) : ∃ a b r, st = zr a b :: r ∧ k a b r := by
  unfold zpR at h
  split at h
  · exact ⟨_, _, _, rfl, h⟩
  · exact h.elim
theorem zgI_ex {l : ZL} {n : Nat} {k : Int32 → Prop} (h : zgI l n k) : ∃ x, lget l n = some (zi x) ∧ k x := by
  unfold zgI at h
  split at h
  · exact ⟨_, by assumption, h⟩
  · exact h.elim
theorem zgL_ex {l : ZL} {n : Nat} {k : Int64 → Prop} (h : zgL l n k) : ∃ x, lget l n = some (zl x) ∧ k x := by
  unfold zgL at h
  split at h
  · exact ⟨_, by assumption, h⟩
  · exact h.elim
theorem zgR_ex {l : ZL} {n : Nat} {k : Nat → Nat → Prop} (h : zgR l n k) : ∃ a b, lget l n = some (zr a b) ∧ k a b := by
  unfold zgR at h
  split at h
  · exact ⟨_, _, by assumption, h⟩
  · exact h.elim
theorem zany_ex {st : List ZV} {k : ZV → List ZV → Prop} (h : match st with | v :: st => k v st | _ => False) : ∃ v r, st = v :: r ∧ k v r := by
  split at h
  · exact ⟨_, _, rfl, h⟩
  · exact h.elim
theorem zany2_ex {st : List ZV} {k : ZV → ZV → List ZV → Prop} (h : match st with | v :: w :: st => k v w st | _ => False) : ∃ v w r, st = v :: w :: r ∧ k v w r := by
  split at h
  · exact ⟨_, _, _, rfl, h⟩
  · exact h.elim
theorem znil_ex {st : List ZV} {P : Prop} (h : match st with | [] => P | _ => False) : st = [] ∧ P := by
  split at h
  · exact ⟨rfl, h⟩
  · exact h.elim
theorem zzero_ex {n : Nat} {P : Prop} (h : match n with | 0 => P | _ => False) : n = 0 ∧ P := by
  split at h
  · exact ⟨rfl, h⟩
  · exact h.elim
theorem zbif_ex {b : Bool} {P : Prop} (h : bif b then P else False) : b = true ∧ P := by
  cases b with
  | true => exact ⟨rfl, h⟩
  | false => exact h.elim
theorem zbif_or {b : Bool} {P Q : Prop} (h : bif b then P else Q) : (b = true ∧ P) ∨ (b = false ∧ Q) := by
  cases b with
  | true => exact Or.inl ⟨rfl, h⟩
  | false => exact Or.inr ⟨rfl, h⟩
theorem zobj_ex {kd : Nat} {k : Nat → List ZF → Prop} (h : match zK kd with | .inl (ci, fs) => k ci fs | _ => False) : ∃ ci fs, zK kd = .inl (ci, fs) ∧ k ci fs := by
  split at h
  · exact ⟨_, _, by assumption, h⟩
  · exact h.elim
theorem zopt_ex {o : Option ZF} {k : ZF → Prop} (h : match o with | some fd => k fd | none => False) : ∃ fd, o = some fd ∧ k fd := by
  split at h
  · exact ⟨_, rfl, h⟩
  · exact h.elim
theorem zopt2_ex {o : Option ZF} {P : Prop} (h : match o with | some none => P | _ => False) : o = some none ∧ P := by
  split at h
  · exact ⟨rfl, h⟩
  · exact h.elim
theorem zarr0_ex {kd : Nat} {k : Nat → Prop} (h : match zK kd with | .inr (0, n) => k n | _ => False) : ∃ n, zK kd = .inr (0, n) ∧ k n := by
  split at h
  · exact ⟨_, by assumption, h⟩
  · exact h.elim
theorem zarr1_ex {kd : Nat} {k : Nat → Prop} (h : match zK kd with | .inr (1, n) => k n | _ => False) : ∃ n, zK kd = .inr (1, n) ∧ k n := by
  split at h
  · exact ⟨_, by assumption, h⟩
  · exact h.elim
theorem zarr2_ex {kd : Nat} {k : Nat → Prop} (h : match zK kd with | .inr (2, n) => k n | _ => False) : ∃ n, zK kd = .inr (2, n) ∧ k n := by
  split at h
  · exact ⟨_, by assumption, h⟩
  · exact h.elim
theorem zarr34_ex {kd : Nat} {k k' : Nat → Prop} (h : match zK kd with | .inr (3, n) => k n | .inr (4, n) => k' n | _ => False) : (∃ n, zK kd = .inr (3, n) ∧ k n) ∨ ∃ n, zK kd = .inr (4, n) ∧ k' n := by
  split at h
  · exact Or.inl ⟨_, by assumption, h⟩
  · exact Or.inr ⟨_, by assumption, h⟩
  · exact h.elim
theorem zarrT_ex {kd : Nat} {k : Nat → Nat → Prop} (h : match zK kd with | .inr (t, n) => k t n | _ => False) : ∃ t n, zK kd = .inr (t, n) ∧ k t n := by
  split at h
  · exact ⟨_, _, by assumption, h⟩
  · exact h.elim
theorem zret_ex {o : Option FieldType} {P Q : Prop} (h : match o with | some .int => P | some .boolean => Q | _ => False) : (o = some .int ∧ P) ∨ (o = some .boolean ∧ Q) := by
  split at h
  · exact Or.inl ⟨rfl, h⟩
  · exact Or.inr ⟨rfl, h⟩
  · exact h.elim
/-- a cell that is there: of a kind with one cell it's seen, of others it's owed -/
def zvd (kd ix : Nat) (P : Prop) : Prop := bif zN kd == 1 then (match ix with | 0 => P | _ => False) else (ix < zN kd ∧ P)
theorem zN_lt {kd : Nat} (h : zN kd ≠ 0) : kd < 38 := by
  rcases Nat.lt_or_ge kd 38 with q | q
  · exact q
  · exfalso
    apply h
    have hl : zKL.length = 21 := by decide +kernel
    unfold zN
    rw [List.getD_eq_getElem?_getD, List.getElem?_eq_none_iff.mpr (by rw [hl]; omega)]
    rfl
theorem zvd_ex {kd ix : Nat} {P : Prop} (h : zvd kd ix P) : zval kd ix ∧ P := by
  unfold zvd at h
  rcases zbif_or h with ⟨h1, h⟩ | ⟨h1, h⟩
  · have h2 := beq_iff_eq.mp h1
    obtain ⟨rfl, h⟩ := zzero_ex h
    exact ⟨⟨zN_lt (by rw [h2]; decide), by rw [h2]; decide⟩, h⟩
  · exact ⟨⟨zN_lt (by intro q; rw [q] at h; exact absurd h.1 (Nat.not_lt_zero _)), h.1⟩, h.2⟩
abbrev zbr (c A B : Prop) : Prop := (c → A) ∧ (¬ c → B)
def zb0 (c : ClassFile.Cond) (x : Int32) (A B : Prop) : Prop := match c with
  | .eq => zbr (x = nI 0) A B
  | .ne => zbr (¬ x = nI 0) A B
  | .lt => zbr (x < nI 0) A B
  | .ge => zbr (nI 0 ≤ x) A B
  | .gt => zbr (nI 0 < x) A B
  | .le => zbr (x ≤ nI 0) A B
def zb2 (c : ClassFile.Cond) (x y : Int32) (A B : Prop) : Prop := match c with
  | .eq => zbr (x = y) A B
  | .ne => zbr (¬ x = y) A B
  | .lt => zbr (x < y) A B
  | .ge => zbr (y ≤ x) A B
  | .gt => zbr (y < x) A B
  | .le => zbr (x ≤ y) A B
def zqn : List Nat → Nat → (Nat → Prop) → Prop
  | [], _, _ => False
  | a :: r, n, k => match n with
    | 0 => k a
    | n + 1 => zqn r n k
theorem zqn_ex {k : Nat → Prop} : ∀ (qs : List Nat) (n : Nat), zqn qs n k → k (qs.getD n 0) := by
  intro qs
  induction qs with
  | nil => intro n h; exact h.elim
  | cons a r ih =>
    intro n h
    cases n with
    | zero => exact h
    | succ n => exact ih n h
def zfvk (k i j : Nat) (M : ZM) (f : ZF) (K : ZV → Prop) : Prop := match f with
  | none => K (zi (M.1 k i j))
  | some (k', c, b) => match b with
    | true => K (zr k' i)
    | false => K (zr k' c)
theorem zfvk_ex {k i j : Nat} {M : ZM} {f : ZF} {K : ZV → Prop} (h : zfvk k i j M f K) : K (zfv k i j M f) := by
  cases f with
  | none => exact h
  | some f => rcases f with ⟨a, b, c⟩; cases c <;> exact h
def zforce : ZL → (ZL → Prop) → Prop
  | [], k => k []
  | (a, b) :: r, k => zforce r fun r => k ((a, b) :: r)
theorem zforce_ex : ∀ (l : ZL) (k : ZL → Prop), zforce l k → k l := by
  intro l
  induction l with
  | nil => intro k h; exact h
  | cons q r ih => intro k h; exact ih _ h
def zsw (sw : List (Int32 × Nat)) (v : Int32) (k : Nat → Prop) (d : Prop) : Prop := match sw with
  | [] => d
  | q :: r => zbr (v = q.1) (k q.2) (zsw r v k d)
def zpn : Nat → List ZV → List ZV → (List ZV → List ZV → Prop) → Prop
  | 0, acc, st, k => k acc st
  | n + 1, acc, st, k => match st with
    | v :: st => zpn n (v :: acc) st k
    | [] => False
theorem zpn_ex1 {k : List ZV → List ZV → Prop} : ∀ (n : Nat) (acc st : List ZV), zpn n acc st k → ∃ as r, as.length = n + acc.length ∧ acc.reverse ++ st = as.reverse ++ r ∧ k as r := by
  intro n
  induction n with
  | zero => intro acc st h; exact ⟨acc, st, by simp, rfl, h⟩
  | succ n ih =>
    intro acc st h
    unfold zpn at h
    split at h
    · rename_i v st
      obtain ⟨as, r, h1, h2, h3⟩ := ih (v :: acc) st h
      refine ⟨as, r, by rw [h1]; simp; omega, ?_, h3⟩
      rw [← h2]
      simp
    · exact h.elim
theorem zpn_ex {n : Nat} {st : List ZV} {k : List ZV → List ZV → Prop} (h : zpn n [] st k) : ∃ as r, as.length = n ∧ st = as.reverse ++ r ∧ k as r := by
  obtain ⟨as, r, h1, h2, h3⟩ := zpn_ex1 n [] st h
  exact ⟨as, r, by simpa using h1, by simpa using h2, h3⟩
set_option maxRecDepth 10000 in
def zex1 (G : ZG) (mi : ZI) (Z : Option ZV → ZM → Prop) (i : Instr) (qs : List Nat) (cv : Int32) (cw : Int64) (sw : List (Int32 × Nat)) (cm : ZI) (pc : Nat) (l : ZL) (st : List ZV) (M : ZM) (k : Nat → ZL → List ZV → ZM → Prop) : Prop := match i with
  | .iconst _ => k (pc + 1) l (zi cv :: st) M
  | .bipush _ => k (pc + 2) l (zi cv :: st) M
  | .sipush _ => k (pc + 3) l (zi cv :: st) M
  | .lconst _ => k (pc + 1) l (zl cw :: st) M
  | .ldc _ => k (pc + 2) l (zi cv :: st) M
  | .ldc2_w _ => k (pc + 3) l (zl cw :: st) M
  | .iload n => zgI l n fun v => k (pc + 2) l (zi v :: st) M
  | .iload_n _ => zqn qs 0 fun n => zgI l n fun v => k (pc + 1) l (zi v :: st) M
  | .lload n => zgL l n fun v => k (pc + 2) l (zl v :: st) M
  | .lload_n _ => zqn qs 0 fun n => zgL l n fun v => k (pc + 1) l (zl v :: st) M
  | .aload n => zgR l n fun a b => k (pc + 2) l (zr a b :: st) M
  | .aload_n _ => zqn qs 0 fun n => zgR l n fun a b => k (pc + 1) l (zr a b :: st) M
  | .istore n => zpI st fun v st => k (pc + 2) (lput n (zi v) l) st M
  | .istore_n _ => zqn qs 0 fun n => zpI st fun v st => k (pc + 1) (lput n (zi v) l) st M
  | .lstore n => zpL st fun v st => k (pc + 2) (lput n (zl v) l) st M
  | .lstore_n _ => zqn qs 0 fun n => zpL st fun v st => k (pc + 1) (lput n (zl v) l) st M
  | .astore n => zpR st fun a b st => k (pc + 2) (lput n (zr a b) l) st M
  | .astore_n _ => zqn qs 0 fun n => zpR st fun a b st => k (pc + 1) (lput n (zr a b) l) st M
  | .iinc n _ => zgI l n fun v => k (pc + 3) (lput n (zi (v + cv)) l) st M
  | .iadd => zpI st fun y st => zpI st fun x st => k (pc + 1) l (zi (x + y) :: st) M
  | .isub => zpI st fun y st => zpI st fun x st => k (pc + 1) l (zi (x - y) :: st) M
  | .imul => zpI st fun y st => zpI st fun x st => k (pc + 1) l (zi (x * y) :: st) M
  | .iand => zpI st fun y st => zpI st fun x st => k (pc + 1) l (zi (x &&& y) :: st) M
  | .ior => zpI st fun y st => zpI st fun x st => k (pc + 1) l (zi (x ||| y) :: st) M
  | .ixor => zpI st fun y st => zpI st fun x st => k (pc + 1) l (zi (x ^^^ y) :: st) M
  | .ishl => zpI st fun y st => zpI st fun x st => k (pc + 1) l (zi (x <<< (y &&& 31)) :: st) M
  | .ishr => zpI st fun y st => zpI st fun x st => k (pc + 1) l (zi (x >>> (y &&& 31)) :: st) M
  | .iushr => zpI st fun y st => zpI st fun x st => k (pc + 1) l (zi ((x.toUInt32 >>> (y.toUInt32 &&& Int32.toUInt32 31)).toInt32) :: st) M
  | .ladd => zpL st fun y st => zpL st fun x st => k (pc + 1) l (zl (x + y) :: st) M
  | .lsub => zpL st fun y st => zpL st fun x st => k (pc + 1) l (zl (x - y) :: st) M
  | .land => zpL st fun y st => zpL st fun x st => k (pc + 1) l (zl (x &&& y) :: st) M
  | .lor => zpL st fun y st => zpL st fun x st => k (pc + 1) l (zl (x ||| y) :: st) M
  | .lxor => zpL st fun y st => zpL st fun x st => k (pc + 1) l (zl (x ^^^ y) :: st) M
  | .lshl => zpI st fun y st => zpL st fun x st => k (pc + 1) l (zl (x <<< (y.toInt64 &&& 63)) :: st) M
  | .lshr => zpI st fun y st => zpL st fun x st => k (pc + 1) l (zl (x >>> (y.toInt64 &&& 63)) :: st) M
  | .lushr => zpI st fun y st => zpL st fun x st => k (pc + 1) l (zl ((x.toUInt64 >>> (y.toInt64.toUInt64 &&& Int64.toUInt64 63)).toInt64) :: st) M
  | .lcmp => zpL st fun y st => zpL st fun x st => k (pc + 1) l (zi (lg_cmp x y) :: st) M
  | .idiv => zpI st fun y st => zpI st fun x st => (¬ y = nI 0) ∧ k (pc + 1) l (zi (x / y) :: st) M
  | .irem => zpI st fun y st => zpI st fun x st => (¬ y = nI 0) ∧ k (pc + 1) l (zi (x % y) :: st) M
  | .i2l => zpI st fun x st => k (pc + 1) l (zl x.toInt64 :: st) M
  | .l2i => zpL st fun x st => k (pc + 1) l (zi x.toInt32 :: st) M
  | .goto _ => zqn qs 0 fun t => k t l st M
  | .ifCond c _ => zpI st fun v st => zqn qs 0 fun t => zb0 c v (k t l st M) (k (pc + 3) l st M)
  | .if_icmp c _ => zpI st fun w st => zpI st fun v st => zqn qs 0 fun t => zb2 c v w (k t l st M) (k (pc + 3) l st M)
  | .tableswitch _ _ _ _ => zpI st fun v st => zqn qs 0 fun d => zsw sw v (fun t => k t l st M) (k d l st M)
  | .getfield _ => zpR st fun kd ix st => zqn qs 0 fun q => zqn qs 1 fun f => match zK kd with
    | .inl (ci, fs) => bif ci == q then (match fs[f]? with
      | some fd => zvd kd ix (zfvk kd ix f M fd fun v => k (pc + 3) l (v :: st) M)
      | none => False) else False
    | _ => False
  | .putfield _ => zpI st fun v st => zpR st fun kd ix st => zqn qs 0 fun q => zqn qs 1 fun f => match zK kd with
    | .inl (ci, fs) => bif ci == q then (match fs[f]? with
      | some none => zvd kd ix (k (pc + 3) l st (zset kd ix f v M))
      | _ => False) else False
    | _ => False
  | .iaload => zpI st fun i st => zpR st fun kd ix st => bif kd == 39 then (match ix with
    | 0 => vp_in i (gN G) ∧ k (pc + 1) l (zi (gX G i.toNatClampNeg) :: st) M
    | _ => False) else (match zK kd with
    | .inr (0, n) => zvd kd ix (vp_in i n ∧ k (pc + 1) l (zi (M.1 kd ix i.toNatClampNeg) :: st) M)
    | _ => False)
  | .baload => zpI st fun i st => zpR st fun kd ix st => match zK kd with
    | .inr (2, n) => zvd kd ix (vp_in i n ∧ k (pc + 1) l (zi (M.1 kd ix i.toNatClampNeg) :: st) M)
    | _ => False
  | .laload => zpI st fun i st => zpR st fun kd ix st => bif kd == 38 then (match ix with
    | 0 => vp_in i 31 ∧ k (pc + 1) l (zl (zrows i.toNatClampNeg) :: st) M
    | _ => False) else (match zK kd with
    | .inr (1, n) => zvd kd ix (vp_in i n ∧ k (pc + 1) l (zl (M.2 kd ix i.toNatClampNeg) :: st) M)
    | _ => False)
  | .aaload => zpI st fun i st => zpR st fun kd ix st => match zK kd with
    | .inr (3, n) => zvd kd ix (vp_in i n ∧ k (pc + 1) l (zr 0 i.toNatClampNeg :: st) M)
    | .inr (4, n) => zvd kd ix (vp_in i n ∧ k (pc + 1) l (zr 2 i.toNatClampNeg :: st) M)
    | _ => False
  | .iastore => zpI st fun v st => zpI st fun i st => zpR st fun kd ix st => match zK kd with
    | .inr (0, n) => zvd kd ix (vp_in i n ∧ k (pc + 1) l st (zset kd ix i.toNatClampNeg v M))
    | _ => False
  | .bastore => zpI st fun v st => zpI st fun i st => zpR st fun kd ix st => match zK kd with
    | .inr (2, n) => zvd kd ix ((v = nI 0 ∨ v = nI 1) ∧ vp_in i n ∧ k (pc + 1) l st (zset kd ix i.toNatClampNeg v M))
    | _ => False
  | .lastore => zpL st fun v st => zpI st fun i st => zpR st fun kd ix st => match zK kd with
    | .inr (1, n) => zvd kd ix (vp_in i n ∧ k (pc + 1) l st (zsetL kd ix i.toNatClampNeg v M))
    | _ => False
  | .arraylength => zpR st fun kd ix st => bif kd == 39 then (match ix with
    | 0 => k (pc + 1) l (zi (nI (gN G)) :: st) M
    | _ => False) else (match zK kd with
    | .inr (t, n) => bif Nat.ble t 2 then zvd kd ix (k (pc + 1) l (zi (nI n) :: st) M) else False
    | _ => False)
  | .getstatic _ => k (pc + 3) l (zr 38 0 :: st) M
  | .dup => match st with
    | v :: st => bif zcat v == 1 then k (pc + 1) l (v :: v :: st) M else False
    | _ => False
  | .dup2 => match st with
    | v :: w :: st => bif zcat v == 1 && zcat w == 1 then k (pc + 1) l (v :: w :: v :: w :: st) M else False
    | _ => False
  | .ireturn => zpI st fun v st => match st with
    | [] => bif iD mi == 11 then v = nI 1 else (match iR mi with
      | some .int => Z (some (zi v)) M
      | some .boolean => (v = nI 0 ∨ v = nI 1) ∧ Z (some (zi v)) M
      | _ => False)
    | _ => False
  | .lreturn => zpL st fun v st => match st with
    | [] => Z (some (zl v)) M
    | _ => False
  | .areturn => zpR st fun a b st => match st with
    | [] => Z (some (zr a b)) M
    | _ => False
  | .return_ => match st with
    | [] => Z none M
    | _ => False
  | .invokevirtual _ => zpn (iA cm) [] st fun as st => zpR st fun kd ix st => zqn qs 0 fun q => match zK kd with
    | .inl (ci, _) => bif ci == q then (bif Nat.ble (zct st) 8 then zvd kd ix (Ctr 0 G cm (zr kd ix :: as) M fun r M => k (pc + 3) l (r.toList ++ st) M) else False) else False
    | _ => False
  | .invokestatic _ => bif iD cm == 100 then (False) else bif iD cm == 101 then (False) else bif iD cm == 102 then (zpL st fun y st => zpL st fun x st => bif Nat.ble (zct st) 8 then k (pc + 3) l (zl (if y < x then y else x) :: st) M else False) else zpn (iA cm) [] st fun as st => bif Nat.ble (zct st) 8 then (Ctr 0 G cm as M fun r M => k (pc + 3) l (r.toList ++ st) M) else False
  | _ => False
/-! the tables' rows, checked by counting (numbers) and by rfl (words) -/
def znth : List Jvm.Cond → Nat → Option Jvm.Cond
  | [], _ => none
  | a :: r, n => match n with
    | 0 => some a
    | n + 1 => znth r n
theorem znth_mem {w : Jvm.Cond} : ∀ (l : List Jvm.Cond) (n : Nat), znth l n = some w → w ∈ l := by
  intro l
  induction l with
  | nil => intro n h; cases h
  | cons a r ih =>
    intro n h
    cases n with
    | zero => cases h; exact List.mem_cons_self
    | succ n => exact List.mem_cons_of_mem _ (ih n h)
def zTabs : List (List Jvm.Cond) := [tables_1_1, tables_1_2, tables_1_3, k2_sels lw_privs]
theorem zTabs_mem : ∀ t ∈ zTabs, ∀ w ∈ t, w ∈ lw_tbl := by
  intro t ht w hw
  simp only [zTabs, List.mem_cons, List.not_mem_nil, or_false] at ht
  simp only [lw_tbl, tables_1, List.mem_append]
  rcases ht with rfl | rfl | rfl | rfl <;> simp only [hw, true_or, or_true]
def zlook (t n : Nat) : Option Jvm.Cond := match zTabs[t]? with
  | some l => znth l n
  | none => none
theorem zw_of {w : Jvm.Cond} (t n : Nat) (h : zlook t n = some w) (hg : goodWord w = true) : w ∈ zTw := by
  unfold zlook at h
  split at h
  · rename_i l hl
    exact List.mem_filter.mpr ⟨zTabs_mem _ (List.mem_of_getElem? hl) _ (znth_mem _ _ h), hg⟩
  · cases h
theorem zn_of {a : String} {i : Nat} {y : MethodName} {hs : String} (t n : Nat) (h : zlook t n = some (.methodLinkNest a i y hs)) : Jvm.Cond.methodLinkNest a i y hs ∈ znest := by
  unfold zlook at h
  split at h
  · rename_i l hl
    exact List.mem_filter.mpr ⟨zTabs_mem _ (List.mem_of_getElem? hl) _ (znth_mem _ _ h), rfl⟩
  · cases h
def zlen (i : Instr) (x : ZX) : Nat := match i with
  | .iload _ | .lload _ | .aload _ | .istore _ | .lstore _ | .astore _ | .bipush _ | .ldc _ => 2
  | .sipush _ | .ldc2_w _ | .goto _ | .ifCond _ _ | .if_icmp _ _ | .iinc _ _ | .getfield _ | .putfield _ | .getstatic _ | .invokevirtual _ | .invokestatic _ => 3
  | .tableswitch _ _ _ _ => zq x 1
  | _ => 1
/-- the class of a number: name, fields, how many -/
def zcl (ci : Nat) : vw_C := zcls.getD ci ("", zT0, 0)
theorem zcl_ex {ci : Nat} (h : ci < 8) : zcls[ci]? = some ((zcl ci).1, (zcl ci).2.1, (zcl ci).2.2) := by
  have hl : zcls.length = 8 := rfl
  unfold zcl
  rw [List.getD_eq_getElem?_getD, List.getElem?_eq_getElem (by rw [hl]; exact h)]
  rfl
/-- a method's words, for those that call it: virtual; static -/
def zmV (cm : ZI) : Prop := zmOk cm ∧ Jvm.Cond.instanceMethod (iN cm) ∈ zTw ∧ Jvm.Cond.selects (iN cm).cls (iN cm) (iN cm) ∈ zTw
def zmS (cm : ZI) : Prop := zmOk cm ∧ Jvm.Cond.static (iN cm) ∈ zTw
def zlk (x : ZX) (i : Nat) : Option Jvm.Cond := zlook (zq x i) (zq x (i + 1))
def zW (mi : ZI) (i : Instr) (x : ZX) (cm : ZI) : Prop := match i with
  | .ldc n => zlk x 0 = some (.constant (iN mi).cls n x.2.1)
  | .ldc2_w n => zlk x 0 = some (.constantLong (iN mi).cls n x.2.2.1)
  | .getfield n => zlk x 2 = some (.fieldLink (iN mi).cls n ((zcl (zq x 0)).2.1 (zq x 1)).1 ((zcl (zq x 0)).2.1 (zq x 1)).2.1 ((zcl (zq x 0)).2.1 (zq x 1)).2.2.1)
  | .putfield n => zlk x 2 = some (.fieldLink (iN mi).cls n ((zcl (zq x 0)).2.1 (zq x 1)).1 ((zcl (zq x 0)).2.1 (zq x 1)).2.1 ((zcl (zq x 0)).2.1 (zq x 1)).2.2.1) ∧ ((zcl (zq x 0)).2.1 (zq x 1)).2.2.1 = "I"
  | .getstatic n => zlk x 0 = some (.fieldLink (iN mi).cls n "ThreeStrandMaps$SolutionList" "ROWS" "[J")
  | .invokevirtual n => zlk x 1 = some (.methodLink (iN mi).cls n (iN cm)) ∧ ((zcl (zq x 0)).1 = (iN cm).cls ∧ zmV cm)
  | .invokestatic n => bif iD cm == 100 then zlk x 1 = some (.methodLink (iN mi).cls n Lib.Math.max.name) else bif iD cm == 101 then zlk x 1 = some (.methodLink (iN mi).cls n Lib.Math.min.name) else bif iD cm == 102 then zlk x 1 = some (.methodLink (iN mi).cls n Lib.MathLoose.min_long.x) else (bif zq x 0 == 0 then zlk x 1 = some (.methodLink (iN mi).cls n (iN cm)) else zlk x 1 = some (.methodLinkNest (iN mi).cls n (iN cm) "ThreeStrandMaps")) ∧ zmS cm
  | _ => True
def zWs (mi : ZI) : List ZE → Prop
  | [] => True
  | e :: r => zW mi e.2.1 e.2.2.1 e.2.2.2 ∧ zWs mi r
theorem zWs_mem {mi : ZI} {cd : List ZE} (h : zWs mi cd) : ∀ e ∈ cd, zW mi e.2.1 e.2.2.1 e.2.2.2 := by
  induction cd with
  | nil => intro e he; cases he
  | cons a r ih =>
    intro e he
    rcases List.mem_cons.mp he with h1 | h1
    · rw [h1]; exact h.1
    · exact ih h.2 e h1
def zchkR (mi cm : ZI) : Bool := decide (iD cm + 1 ≤ (zR mi).frames) && decide (8 + (iL cm + 11) + 39 * iD cm ≤ (zR mi).locals)
theorem zchkR_ex {mi cm : ZI} (h : zchkR mi cm = true) : zfit mi cm := by
  unfold zchkR at h
  simp only [Bool.and_eq_true, decide_eq_true_eq] at h
  exact h
def zchkT (pc : Nat) (d lo hi : Int) (offs : Array Int) (x : ZX) : Bool := decide ((pc : Int) + d = (zq x 0 : Int)) && (decide (hi + 1 = lo + offs.size) && (List.range offs.size).all fun j => decide ((x.2.2.2[j]?).map (fun q => q.1.toInt) = some (lo + j)) && decide ((x.2.2.2[j]?).map (fun q => (q.2 : Int)) = (offs[j]?).map (fun o => (pc : Int) + o))) && decide (x.2.2.2.length = offs.size)
def zobjT (o : Option FieldType) : Bool := match o with
  | some (.object _) => true
  | _ => false
theorem zobjT_ex {o : Option FieldType} (h : zobjT o = true) : ∃ n, o = some (.object n) := by
  unfold zobjT at h
  split at h
  · exact ⟨_, rfl⟩
  · cases h
def zchk1 (mi : ZI) (pc : Nat) (i : Instr) (x : ZX) (cm : ZI) : Bool := match i with
  | .iconst n => decide (Int32.ofInt n = x.2.1)
  | .bipush n => decide ((Int8.ofInt n).toInt32 = x.2.1)
  | .sipush n => decide ((Int16.ofInt n).toInt32 = x.2.1)
  | .lconst n => decide (Int64.ofNat (n : Nat) = x.2.2.1)
  | .istore n => decide (n < iL mi)
  | .astore n => decide (n < iL mi)
  | .lstore n => decide (n + 1 < iL mi)
  | .istore_n n => decide (n.val < iL mi) && decide (n.val = zq x 0)
  | .astore_n n => decide (n.val < iL mi) && decide (n.val = zq x 0)
  | .lstore_n n => decide (n.val + 1 < iL mi) && decide (n.val = zq x 0)
  | .iload_n n => decide (n.val = zq x 0)
  | .aload_n n => decide (n.val = zq x 0)
  | .lload_n n => decide (n.val = zq x 0)
  | .iinc n a => decide (Int32.ofInt a = x.2.1) && decide (n < iL mi)
  | .goto off => decide ((pc : Int) + off = (zq x 0 : Int))
  | .ifCond _ off => decide ((pc : Int) + off = (zq x 0 : Int))
  | .if_icmp _ off => decide ((pc : Int) + off = (zq x 0 : Int))
  | .tableswitch d lo hi offs => zchkT pc d lo hi offs x
  | .getfield _ => Nat.blt (zq x 0) 8 && Nat.blt (zq x 1) (zcl (zq x 0)).2.2
  | .putfield _ => Nat.blt (zq x 0) 8 && (Nat.blt (zq x 1) (zcl (zq x 0)).2.2 && !((zcl (zq x 0)).2.1 (zq x 1)).2.2.2)
  | .invokevirtual _ => Nat.blt (zq x 0) 8 && zchkR mi cm
  | .invokestatic _ => bif (iD cm == 100 || (iD cm == 101 || iD cm == 102)) then decide (0 < (zR mi).frames) && decide (23 ≤ (zR mi).locals) else zchkR mi cm
  | .ireturn => !(iD mi == 11) || decide (iR mi = some .boolean)
  | .lreturn => decide (iD mi ≠ 11) && decide (iR mi = some .long)
  | .areturn => decide (iD mi ≠ 11) && zobjT (iR mi)
  | .return_ => decide (iD mi ≠ 11) && decide (iR mi = none)
  | _ => true
def zchk (mi : ZI) (e : ZE) : Bool := decide (decode (iB mi) e.1 = .ok (e.2.1, zlen e.2.1 e.2.2.1)) && zchk1 mi e.1 e.2.1 e.2.2.1 e.2.2.2
/-- a method's table is right -/
def zgood2 (mi : ZI) (cd : List ZE) : Prop := cd.all (zchk mi) = true ∧ zWs mi cd
theorem zsw_no {v : Int32} {k : Nat → Prop} {d : Prop} (sw : List (Int32 × Nat)) (h1 : ∀ q ∈ sw, ¬ v = q.1) (h : zsw sw v k d) : d := by
  induction sw with
  | nil => exact h
  | cons a r ih => exact ih (fun q hq => h1 q (List.mem_cons_of_mem _ hq)) (h.2 (h1 a List.mem_cons_self))
theorem zsw_in {v : Int32} {k : Nat → Prop} {d : Prop} {q0 : Int32 × Nat} (hv : v = q0.1) (sw : List (Int32 × Nat)) (h1 : q0 ∈ sw) (h : zsw sw v k d) : ∃ q ∈ sw, v = q.1 ∧ k q.2 := by
  induction sw with
  | nil => cases h1
  | cons a r ih =>
    by_cases ha : v = a.1
    · exact ⟨a, List.mem_cons_self, ha, h.1 ha⟩
    · rcases List.mem_cons.mp h1 with h2 | h2
      · exact absurd (by rw [← h2]; exact hv) ha
      · obtain ⟨q, hq, hq2⟩ := ih h2 (h.2 ha)
        exact ⟨q, List.mem_cons_of_mem _ hq, hq2⟩
theorem zw_z_mminL : Jvm.Cond.static Lib.MathLoose.min_long.x ∈ zTw ∧ Jvm.Cond.initialized "java/lang/Math" ∈ zTw ∧ Jvm.Cond.code Lib.MathLoose.min_long.x Lib.MathLoose.min_long.code 4 (some .long) ∈ zTw := ⟨zw_of 2 18 rfl rfl, zw_of 0 14 rfl rfl, zw_of 2 19 rfl rfl⟩
section
variable {G : ZG} {mi : ZI} {Z : Option ZV → ZM → Prop} {pc : Nat} {l : ZL} {st : List ZV} {M : ZM}
set_option maxHeartbeats 1000000 in
theorem z_mminL {n : Nat} {x y : Int64} (hd : decode (iB mi) pc = .ok (.invokestatic n, 3)) (h1 : 0 < (zR mi).frames) (h2 : 23 ≤ (zR mi).locals) (hst : zct st ≤ 8) (hw : Jvm.Cond.methodLink (iN mi).cls n Lib.MathLoose.min_long.x ∈ zTw) (hk : V 0 G mi Z (pc + 3) l (zl (if y < x then y else x) :: st) M) : V 0 G mi Z pc l (zl y :: zl x :: st) M := by
  rw [V_eq] at hk ⊢
  intro hok p e s m args below meth c H locs ls hf hr hlk hfr hE hP hS hl
  exact va_mmin_long hf.1 hf.2.1 (by rw [hf.2.2.1]; exact hl.1.symm) hf.2.2.2.1 (hf.2.2.2.2 _ hw) (hf.2.2.2.2 _ zw_z_mminL.1) (hf.2.2.2.2 _ zw_z_mminL.2.1) (hf.2.2.2.2 _ zw_z_mminL.2.2) h1 (by rw [zct_eq]; omega) (zcs_le mi).1 (zcs_le mi).2 hd (hk hok p e s m args below meth c H locs ls hf hr hlk hfr hE hP hS hl)
set_option maxHeartbeats 1000000 in
theorem z_tabIn {d lo hi : Int} {offs : Array Int} {len : Nat} {v : Int32} {off : Int} {tgt : Nat} (hd : decode (iB mi) pc = .ok (.tableswitch d lo hi offs, len)) (h1 : ¬ v.toInt < lo) (h2 : ¬ hi < v.toInt) (ho : offs[(v.toInt - lo).toNat]? = some off) (ht : (pc : Int) + off = (tgt : Int)) (hk : V 0 G mi Z tgt l st M) : V 0 G mi Z pc l (zi v :: st) M := by
  rw [V_eq] at hk ⊢
  intro hok p e s m args below meth c H locs ls hf hr hlk hfr hE hP hS hl
  exact lv_tableIn hf.1 hf.2.1 hd h1 h2 ho ht (hk hok p e s m args below meth c H locs ls hf hr hlk hfr hE hP hS hl)
set_option maxHeartbeats 1000000 in
theorem z_tabOut {d lo hi : Int} {offs : Array Int} {len : Nat} {v : Int32} {tgt : Nat} (hd : decode (iB mi) pc = .ok (.tableswitch d lo hi offs, len)) (h1 : v.toInt < lo ∨ hi < v.toInt) (ht : (pc : Int) + d = (tgt : Int)) (hk : V 0 G mi Z tgt l st M) : V 0 G mi Z pc l (zi v :: st) M := by
  rw [V_eq] at hk ⊢
  intro hok p e s m args below meth c H locs ls hf hr hlk hfr hE hP hS hl
  exact lv_tableOut hf.1 hf.2.1 hd h1 ht (hk hok p e s m args below meth c H locs ls hf hr hlk hfr hE hP hS hl)
set_option maxHeartbeats 1000000 in
theorem z_switch {d lo hi : Int} {offs : Array Int} {len : Nat} {v : Int32} {x : ZX} {k : Nat → Prop} (hd : decode (iB mi) pc = .ok (.tableswitch d lo hi offs, len)) (hc : zchkT pc d lo hi offs x = true) (hk : ∀ t, k t → V 0 G mi Z t l st M) (h : zsw x.2.2.2 v k (k (zq x 0))) : V 0 G mi Z pc l (zi v :: st) M := by
  unfold zchkT at hc
  simp only [Bool.and_eq_true, decide_eq_true_eq, List.all_eq_true, List.mem_range] at hc
  obtain ⟨⟨hc1, hc2, hc3⟩, hc4⟩ := hc
  by_cases hin : v.toInt < lo ∨ hi < v.toInt
  · have hno : ∀ q ∈ x.2.2.2, ¬ v = q.1 := by
      intro q hq hv
      obtain ⟨j, hj⟩ := List.getElem?_of_mem hq
      have hlt := (List.getElem?_eq_some_iff.mp hj).1
      have h1 := (hc3 j (by omega)).1
      rw [hj] at h1
      simp only [Option.map_some, Option.some.injEq] at h1
      rw [hv] at hin
      omega
    exact z_tabOut hd hin hc1 (hk _ (zsw_no _ hno h))
  · have hj1 : (v.toInt - lo).toNat < offs.size := by omega
    have hj2 := hc3 _ hj1
    obtain ⟨q0, hq0⟩ : ∃ q0, x.2.2.2[(v.toInt - lo).toNat]? = some q0 := ⟨_, List.getElem?_eq_getElem (by omega)⟩
    rw [hq0] at hj2
    simp only [Option.map_some, Option.some.injEq] at hj2
    have hv0 : v = q0.1 := Int32.toInt_inj.mp (by rw [hj2.1]; omega)
    obtain ⟨q, hq, hv, hkq⟩ := zsw_in hv0 _ (List.mem_of_getElem? hq0) h
    obtain ⟨j, hj⟩ := List.getElem?_of_mem hq
    have hlt := (List.getElem?_eq_some_iff.mp hj).1
    have h1 := hc3 j (by omega)
    rw [hj] at h1
    simp only [Option.map_some, Option.some.injEq] at h1
    have hjv : j = (v.toInt - lo).toNat := by rw [hv, h1.1]; omega
    obtain ⟨off, ho⟩ : ∃ off, offs[j]? = some off := ⟨_, Array.getElem?_eq_getElem (by omega)⟩
    rw [ho] at h1
    simp only [Option.map_some, Option.some.injEq] at h1
    exact z_tabIn hd (fun q => hin (Or.inl q)) (fun q => hin (Or.inr q)) (by rw [← hjv]; exact ho) h1.2.symm (hk _ hkq)
set_option maxHeartbeats 4000000 in
theorem z_ex1 {i : Instr} {qs : List Nat} {cv : Int32} {cw : Int64} {sw : List (Int32 × Nat)} {cm : ZI} {k : Nat → ZL → List ZV → ZM → Prop} (hd : decode (iB mi) pc = .ok (i, zlen i (qs, cv, cw, sw))) (hc : zchk1 mi pc i (qs, cv, cw, sw) cm = true) (hw : zW mi i (qs, cv, cw, sw) cm) (hk : ∀ pc l st M, k pc l st M → V 0 G mi Z pc l st M) (h : zex1 G mi Z i qs cv cw sw cm pc l st M k) : V 0 G mi Z pc l st M := by
  cases i
  case iconst n =>
    exact z_iconst hd (of_decide_eq_true hc) (hk _ _ _ _ h)
  case bipush n =>
    exact z_bipush hd (of_decide_eq_true hc) (hk _ _ _ _ h)
  case sipush n =>
    exact z_sipush hd (of_decide_eq_true hc) (hk _ _ _ _ h)
  case lconst n =>
    exact z_lconst hd (of_decide_eq_true hc) (hk _ _ _ _ h)
  case ldc n =>
    exact z_ldc hd (zw_of _ _ hw rfl) (hk _ _ _ _ h)
  case ldc2_w n =>
    exact z_ldc2_w hd (zw_of _ _ hw rfl) (hk _ _ _ _ h)
  case iload n =>
    obtain ⟨v, hg, h⟩ := zgI_ex h
    exact z_iload hd hg (hk _ _ _ _ h)
  case iload_n n =>
    obtain ⟨v, hg, h⟩ := zgI_ex (zqn_ex _ _ h)
    exact z_iload_n hd (by rw [show n.val = qs.getD 0 0 from of_decide_eq_true hc]; exact hg) (hk _ _ _ _ h)
  case lload n =>
    obtain ⟨v, hg, h⟩ := zgL_ex h
    exact z_lload hd hg (hk _ _ _ _ h)
  case lload_n n =>
    obtain ⟨v, hg, h⟩ := zgL_ex (zqn_ex _ _ h)
    exact z_lload_n hd (by rw [show n.val = qs.getD 0 0 from of_decide_eq_true hc]; exact hg) (hk _ _ _ _ h)
  case aload n =>
    obtain ⟨a, b, hg, h⟩ := zgR_ex h
    exact z_aload hd hg (hk _ _ _ _ h)
  case aload_n n =>
    obtain ⟨a, b, hg, h⟩ := zgR_ex (zqn_ex _ _ h)
    exact z_aload_n hd (by rw [show n.val = qs.getD 0 0 from of_decide_eq_true hc]; exact hg) (hk _ _ _ _ h)
  case istore n =>
    obtain ⟨v, r, rfl, h⟩ := zpI_ex h
    exact z_istore hd (of_decide_eq_true hc) (hk _ _ _ _ h)
  case istore_n n =>
    obtain ⟨v, r, hst, h9⟩ := zpI_ex (zqn_ex _ _ h)
    subst hst
    simp only [zchk1, Bool.and_eq_true, decide_eq_true_eq] at hc
    exact z_istore_n hd hc.1 (hk _ _ _ _ (by rw [show n.val = qs.getD 0 0 from hc.2]; exact h9))
  case lstore n =>
    obtain ⟨v, r, rfl, h⟩ := zpL_ex h
    exact z_lstore hd (of_decide_eq_true hc) (hk _ _ _ _ h)
  case lstore_n n =>
    obtain ⟨v, r, hst, h9⟩ := zpL_ex (zqn_ex _ _ h)
    subst hst
    simp only [zchk1, Bool.and_eq_true, decide_eq_true_eq] at hc
    exact z_lstore_n hd hc.1 (hk _ _ _ _ (by rw [show n.val = qs.getD 0 0 from hc.2]; exact h9))
  case astore n =>
    obtain ⟨a, b, r, rfl, h⟩ := zpR_ex h
    exact z_astore hd (of_decide_eq_true hc) (hk _ _ _ _ h)
  case astore_n n =>
    obtain ⟨a, b, r, hst, h9⟩ := zpR_ex (zqn_ex _ _ h)
    subst hst
    simp only [zchk1, Bool.and_eq_true, decide_eq_true_eq] at hc
    exact z_astore_n hd hc.1 (hk _ _ _ _ (by rw [show n.val = qs.getD 0 0 from hc.2]; exact h9))
  case iinc n a =>
    obtain ⟨v, hg, h⟩ := zgI_ex h
    simp only [zchk1, Bool.and_eq_true, decide_eq_true_eq] at hc
    exact z_iinc hd hg hc.1 hc.2 (hk _ _ _ _ h)
  case iadd =>
    obtain ⟨y, r, rfl, h⟩ := zpI_ex h
    obtain ⟨x, r, rfl, h⟩ := zpI_ex h
    exact z_iadd hd (hk _ _ _ _ h)
  case isub =>
    obtain ⟨y, r, rfl, h⟩ := zpI_ex h
    obtain ⟨x, r, rfl, h⟩ := zpI_ex h
    exact z_isub hd (hk _ _ _ _ h)
  case imul =>
    obtain ⟨y, r, rfl, h⟩ := zpI_ex h
    obtain ⟨x, r, rfl, h⟩ := zpI_ex h
    exact z_imul hd (hk _ _ _ _ h)
  case iand =>
    obtain ⟨y, r, rfl, h⟩ := zpI_ex h
    obtain ⟨x, r, rfl, h⟩ := zpI_ex h
    exact z_iand hd (hk _ _ _ _ h)
  case ior =>
    obtain ⟨y, r, rfl, h⟩ := zpI_ex h
    obtain ⟨x, r, rfl, h⟩ := zpI_ex h
    exact z_ior hd (hk _ _ _ _ h)
  case ixor =>
    obtain ⟨y, r, rfl, h⟩ := zpI_ex h
    obtain ⟨x, r, rfl, h⟩ := zpI_ex h
    exact z_ixor hd (hk _ _ _ _ h)
  case ishl =>
    obtain ⟨y, r, rfl, h⟩ := zpI_ex h
    obtain ⟨x, r, rfl, h⟩ := zpI_ex h
    exact z_ishl hd (hk _ _ _ _ h)
  case ishr =>
    obtain ⟨y, r, rfl, h⟩ := zpI_ex h
    obtain ⟨x, r, rfl, h⟩ := zpI_ex h
    exact z_ishr hd (hk _ _ _ _ h)
  case iushr =>
    obtain ⟨y, r, rfl, h⟩ := zpI_ex h
    obtain ⟨x, r, rfl, h⟩ := zpI_ex h
    exact z_iushr hd (hk _ _ _ _ h)
  case ladd =>
    obtain ⟨y, r, rfl, h⟩ := zpL_ex h
    obtain ⟨x, r, rfl, h⟩ := zpL_ex h
    exact z_ladd hd (hk _ _ _ _ h)
  case lsub =>
    obtain ⟨y, r, rfl, h⟩ := zpL_ex h
    obtain ⟨x, r, rfl, h⟩ := zpL_ex h
    exact z_lsub hd (hk _ _ _ _ h)
  case land =>
    obtain ⟨y, r, rfl, h⟩ := zpL_ex h
    obtain ⟨x, r, rfl, h⟩ := zpL_ex h
    exact z_land hd (hk _ _ _ _ h)
  case lor =>
    obtain ⟨y, r, rfl, h⟩ := zpL_ex h
    obtain ⟨x, r, rfl, h⟩ := zpL_ex h
    exact z_lor hd (hk _ _ _ _ h)
  case lxor =>
    obtain ⟨y, r, rfl, h⟩ := zpL_ex h
    obtain ⟨x, r, rfl, h⟩ := zpL_ex h
    exact z_lxor hd (hk _ _ _ _ h)
  case lshl =>
    obtain ⟨y, r, rfl, h⟩ := zpI_ex h
    obtain ⟨x, r, rfl, h⟩ := zpL_ex h
    exact z_lshl hd (hk _ _ _ _ h)
  case lshr =>
    obtain ⟨y, r, rfl, h⟩ := zpI_ex h
    obtain ⟨x, r, rfl, h⟩ := zpL_ex h
    exact z_lshr hd (hk _ _ _ _ h)
  case lushr =>
    obtain ⟨y, r, rfl, h⟩ := zpI_ex h
    obtain ⟨x, r, rfl, h⟩ := zpL_ex h
    exact z_lushr hd (hk _ _ _ _ h)
  case lcmp =>
    obtain ⟨y, r, rfl, h⟩ := zpL_ex h
    obtain ⟨x, r, rfl, h⟩ := zpL_ex h
    exact z_lcmp hd (hk _ _ _ _ h)
  case idiv =>
    obtain ⟨y, r, rfl, h⟩ := zpI_ex h
    obtain ⟨x, r, rfl, h⟩ := zpI_ex h
    exact z_idiv hd h.1 (hk _ _ _ _ h.2)
  case irem =>
    obtain ⟨y, r, rfl, h⟩ := zpI_ex h
    obtain ⟨x, r, rfl, h⟩ := zpI_ex h
    exact z_irem hd h.1 (hk _ _ _ _ h.2)
  case i2l =>
    obtain ⟨x, r, rfl, h⟩ := zpI_ex h
    exact z_i2l hd (hk _ _ _ _ h)
  case l2i =>
    obtain ⟨x, r, rfl, h⟩ := zpL_ex h
    exact z_l2i hd (hk _ _ _ _ h)
  case goto off =>
    exact z_goto hd (of_decide_eq_true hc) (hk _ _ _ _ (zqn_ex _ _ h))
  case ifCond c off =>
    obtain ⟨x, r, rfl, h⟩ := zpI_ex h
    have h := zqn_ex _ _ h
    cases c
    case eq => exact z_if_eq hd (of_decide_eq_true hc) (fun q => hk _ _ _ _ (h.1 q)) (fun q => hk _ _ _ _ (h.2 q))
    case ne => exact z_if_ne hd (of_decide_eq_true hc) (fun q => hk _ _ _ _ (h.1 q)) (fun q => hk _ _ _ _ (h.2 q))
    case lt => exact z_if_lt hd (of_decide_eq_true hc) (fun q => hk _ _ _ _ (h.1 q)) (fun q => hk _ _ _ _ (h.2 q))
    case ge => exact z_if_ge hd (of_decide_eq_true hc) (fun q => hk _ _ _ _ (h.1 q)) (fun q => hk _ _ _ _ (h.2 q))
    case gt => exact z_if_gt hd (of_decide_eq_true hc) (fun q => hk _ _ _ _ (h.1 q)) (fun q => hk _ _ _ _ (h.2 q))
    case le => exact z_if_le hd (of_decide_eq_true hc) (fun q => hk _ _ _ _ (h.1 q)) (fun q => hk _ _ _ _ (h.2 q))
  case if_icmp c off =>
    obtain ⟨y, r, rfl, h⟩ := zpI_ex h
    obtain ⟨x, r, rfl, h⟩ := zpI_ex h
    have h := zqn_ex _ _ h
    cases c
    case eq => exact z_icmp_eq hd (of_decide_eq_true hc) (fun q => hk _ _ _ _ (h.1 q)) (fun q => hk _ _ _ _ (h.2 q))
    case ne => exact z_icmp_ne hd (of_decide_eq_true hc) (fun q => hk _ _ _ _ (h.1 q)) (fun q => hk _ _ _ _ (h.2 q))
    case lt => exact z_icmp_lt hd (of_decide_eq_true hc) (fun q => hk _ _ _ _ (h.1 q)) (fun q => hk _ _ _ _ (h.2 q))
    case ge => exact z_icmp_ge hd (of_decide_eq_true hc) (fun q => hk _ _ _ _ (h.1 q)) (fun q => hk _ _ _ _ (h.2 q))
    case gt => exact z_icmp_gt hd (of_decide_eq_true hc) (fun q => hk _ _ _ _ (h.1 q)) (fun q => hk _ _ _ _ (h.2 q))
    case le => exact z_icmp_le hd (of_decide_eq_true hc) (fun q => hk _ _ _ _ (h.1 q)) (fun q => hk _ _ _ _ (h.2 q))
  case tableswitch d lo hi offs =>
    obtain ⟨v, r, rfl, h⟩ := zpI_ex h
    exact z_switch hd hc (fun t q => hk _ _ _ _ q) (zqn_ex _ _ h)
  case getfield n =>
    obtain ⟨kd, ix, r, rfl, h⟩ := zpR_ex h
    obtain ⟨ci, fs, hk0, h⟩ := zobj_ex (zqn_ex _ _ (zqn_ex _ _ h))
    obtain ⟨hci, h⟩ := zbif_ex h
    obtain ⟨fd, hfd, h⟩ := zopt_ex h
    obtain ⟨hv, h⟩ := zvd_ex h
    simp only [zchk1, Bool.and_eq_true, Nat.blt_eq] at hc
    have hcl := zcl_ex hc.1
    have he := beq_iff_eq.mp hci
    rw [he] at hk0
    exact z_getfield hd hk0 hv hfd hcl hc.2 (zw_of _ _ hw rfl) (hk _ _ _ _ (zfvk_ex h))
  case putfield n =>
    obtain ⟨v, r, rfl, h⟩ := zpI_ex h
    obtain ⟨kd, ix, r, rfl, h⟩ := zpR_ex h
    obtain ⟨ci, fs, hk0, h⟩ := zobj_ex (zqn_ex _ _ (zqn_ex _ _ h))
    obtain ⟨hci, h⟩ := zbif_ex h
    obtain ⟨hfd, h⟩ := zopt2_ex h
    obtain ⟨hv, h⟩ := zvd_ex h
    simp only [zchk1, Bool.and_eq_true, Nat.blt_eq, Bool.not_eq_true'] at hc
    have hcl := zcl_ex hc.1
    have he := beq_iff_eq.mp hci
    rw [he] at hk0
    obtain ⟨hw1, hw2⟩ : _ ∧ _ := hw
    exact z_putfield hd hk0 hv hfd hcl hc.2.1 (zw_of _ _ hw1 rfl) hc.2.2 ((congrArg parseFieldDescriptor hw2).trans (by decide +kernel)) (hk _ _ _ _ h)
  case iaload =>
    obtain ⟨i, r, rfl, h⟩ := zpI_ex h
    obtain ⟨kd, ix, r, rfl, h⟩ := zpR_ex h
    rcases zbif_or h with ⟨h39, h⟩ | ⟨h39, h⟩
    · obtain rfl := beq_iff_eq.mp h39
      obtain ⟨rfl, h⟩ := zzero_ex h
      exact z_script hd h.1 (hk _ _ _ _ h.2)
    · obtain ⟨n, hk0, h⟩ := zarr0_ex h
      obtain ⟨hv, h⟩ := zvd_ex h
      exact z_iaload hd hk0 hv h.1 (hk _ _ _ _ h.2)
  case baload =>
    obtain ⟨i, r, rfl, h⟩ := zpI_ex h
    obtain ⟨kd, ix, r, rfl, h⟩ := zpR_ex h
    obtain ⟨n, hk0, h⟩ := zarr2_ex h
    obtain ⟨hv, h⟩ := zvd_ex h
    exact z_baload hd hk0 hv h.1 (hk _ _ _ _ h.2)
  case laload =>
    obtain ⟨i, r, rfl, h⟩ := zpI_ex h
    obtain ⟨kd, ix, r, rfl, h⟩ := zpR_ex h
    rcases zbif_or h with ⟨h39, h⟩ | ⟨h39, h⟩
    · obtain rfl := beq_iff_eq.mp h39
      obtain ⟨rfl, h⟩ := zzero_ex h
      exact z_rows hd h.1 (hk _ _ _ _ h.2)
    · obtain ⟨n, hk0, h⟩ := zarr1_ex h
      obtain ⟨hv, h⟩ := zvd_ex h
      exact z_laload hd hk0 hv h.1 (hk _ _ _ _ h.2)
  case aaload =>
    obtain ⟨i, r, rfl, h⟩ := zpI_ex h
    obtain ⟨kd, ix, r, rfl, h⟩ := zpR_ex h
    rcases zarr34_ex h with ⟨n, hk0, h⟩ | ⟨n, hk0, h⟩
    · obtain ⟨hv, h⟩ := zvd_ex h
      exact z_aaload3 hd hk0 hv h.1 (hk _ _ _ _ h.2)
    · obtain ⟨hv, h⟩ := zvd_ex h
      exact z_aaload4 hd hk0 hv h.1 (hk _ _ _ _ h.2)
  case iastore =>
    obtain ⟨v, r, rfl, h⟩ := zpI_ex h
    obtain ⟨i, r, rfl, h⟩ := zpI_ex h
    obtain ⟨kd, ix, r, rfl, h⟩ := zpR_ex h
    obtain ⟨n, hk0, h⟩ := zarr0_ex h
    obtain ⟨hv, h⟩ := zvd_ex h
    exact z_iastore hd hk0 hv h.1 (hk _ _ _ _ h.2)
  case bastore =>
    obtain ⟨v, r, rfl, h⟩ := zpI_ex h
    obtain ⟨i, r, rfl, h⟩ := zpI_ex h
    obtain ⟨kd, ix, r, rfl, h⟩ := zpR_ex h
    obtain ⟨n, hk0, h⟩ := zarr2_ex h
    obtain ⟨hv, h⟩ := zvd_ex h
    exact z_bastore hd hk0 hv h.2.1 h.1 (hk _ _ _ _ h.2.2)
  case lastore =>
    obtain ⟨v, r, rfl, h⟩ := zpL_ex h
    obtain ⟨i, r, rfl, h⟩ := zpI_ex h
    obtain ⟨kd, ix, r, rfl, h⟩ := zpR_ex h
    obtain ⟨n, hk0, h⟩ := zarr1_ex h
    obtain ⟨hv, h⟩ := zvd_ex h
    exact z_lastore hd hk0 hv h.1 (hk _ _ _ _ h.2)
  case arraylength =>
    obtain ⟨kd, ix, r, rfl, h⟩ := zpR_ex h
    rcases zbif_or h with ⟨h39, h⟩ | ⟨h39, h⟩
    · obtain rfl := beq_iff_eq.mp h39
      obtain ⟨rfl, h⟩ := zzero_ex h
      exact z_scriptlen hd (hk _ _ _ _ h)
    · obtain ⟨t, n, hk0, h⟩ := zarrT_ex h
      obtain ⟨ht, h⟩ := zbif_ex h
      obtain ⟨hv, h⟩ := zvd_ex h
      exact z_alen hd hk0 (Nat.lt_succ_of_le (Nat.le_of_ble_eq_true ht)) hv (hk _ _ _ _ h)
  case getstatic n =>
    exact z_getrows hd (zw_of _ _ hw rfl) (hk _ _ _ _ h)
  case dup =>
    obtain ⟨v, r, rfl, h⟩ := zany_ex h
    obtain ⟨h1, h⟩ := zbif_ex h
    exact z_dup hd (beq_iff_eq.mp h1) (hk _ _ _ _ h)
  case dup2 =>
    obtain ⟨v, w, r, rfl, h⟩ := zany2_ex h
    obtain ⟨h1, h⟩ := zbif_ex h
    simp only [Bool.and_eq_true, beq_iff_eq] at h1
    exact z_dup2 hd h1.1 h1.2 (hk _ _ _ _ h)
  case ireturn =>
    obtain ⟨v, r, rfl, h⟩ := zpI_ex h
    obtain ⟨rfl, h⟩ := znil_ex h
    rcases zbif_or h with ⟨h11, h⟩ | ⟨h11, h⟩
    · simp only [zchk1, h11, Bool.not_true, Bool.false_or, decide_eq_true_eq] at hc
      have h2 : v = 1 := h
      rw [h2]
      exact z_lawret hd (beq_iff_eq.mp h11) hc
    · have hD : iD mi ≠ 11 := fun q => by rw [q] at h11; cases h11
      rcases zret_ex h with ⟨hR, h⟩ | ⟨hR, h⟩
      · exact z_ireturn hd hD hR h
      · exact z_zreturn hd hD hR h.1 h.2
  case lreturn =>
    obtain ⟨v, r, rfl, h⟩ := zpL_ex h
    obtain ⟨rfl, h⟩ := znil_ex h
    simp only [zchk1, Bool.and_eq_true, decide_eq_true_eq] at hc
    exact z_lreturn hd hc.1 hc.2 h
  case areturn =>
    obtain ⟨a, b, r, rfl, h⟩ := zpR_ex h
    obtain ⟨rfl, h⟩ := znil_ex h
    simp only [zchk1, Bool.and_eq_true, decide_eq_true_eq] at hc
    obtain ⟨n, hR⟩ := zobjT_ex hc.2
    exact z_areturn hd hc.1 hR h
  case return_ =>
    obtain ⟨rfl, h⟩ := znil_ex h
    simp only [zchk1, Bool.and_eq_true, decide_eq_true_eq] at hc
    exact z_return hd hc.1 hc.2 h
  case invokevirtual n =>
    obtain ⟨as, r0, has, hst, h2⟩ := zpn_ex h
    subst hst
    clear h
    obtain ⟨kd, ix, r, hr0, h⟩ := zpR_ex h2
    subst hr0
    clear h2
    obtain ⟨ci, fs, hk0, h⟩ := zobj_ex (zqn_ex _ _ h)
    obtain ⟨hci, h⟩ := zbif_ex h
    obtain ⟨hct, h⟩ := zbif_ex h
    obtain ⟨hv, h⟩ := zvd_ex h
    simp only [zchk1, Bool.and_eq_true, Nat.blt_eq] at hc
    have hcl := zcl_ex hc.1
    have he := beq_iff_eq.mp hci
    rw [he] at hk0
    obtain ⟨hw1, hw2, hm, hw3, hw4⟩ : _ ∧ (_ ∧ zmV cm) := hw
    exact z_virt hd hm (zchkR_ex hc.2) has (Nat.le_of_ble_eq_true hct) hk0 hv hcl hw2.symm (zw_of _ _ hw1 rfl) hw3 (by rw [hw2]; exact hw4) (Ctr_mono h fun r M' q => hk _ _ _ _ q)
  case invokestatic n =>
    rcases zbif_or h with ⟨hb, h⟩ | ⟨hb, h⟩
    · exact h.elim
    have hb1 := hb
    clear hb
    rcases zbif_or h with ⟨hb, h⟩ | ⟨hb, h⟩
    · exact h.elim
    have hb2 := hb
    clear hb
    rcases zbif_or h with ⟨hb, h⟩ | ⟨hb, h⟩
    · obtain ⟨y, r, hst, h9⟩ := zpL_ex h
      subst hst
      obtain ⟨x, r, hst, h8⟩ := zpL_ex h9
      subst hst
      clear h9
      obtain ⟨hct, h7⟩ := zbif_ex h8
      have hD : iD cm = 102 := beq_iff_eq.mp hb
      have hc2 : 0 < (zR mi).frames ∧ 23 ≤ (zR mi).locals := by simpa [zchk1, hD] using hc
      simp only [zW, hD] at hw
      exact z_mminL hd hc2.1 hc2.2 (Nat.le_of_ble_eq_true hct) (zw_of _ _ hw rfl) (hk _ _ _ _ h7)
    have hb3 := hb
    clear hb
    simp only [zW, hb1, hb2, hb3, cond_false] at hw
    simp only [zchk1, hb1, hb2, hb3, Bool.or_false, cond_false] at hc
    obtain ⟨as, r, has, hst, h2⟩ := zpn_ex h
    subst hst
    clear h
    obtain ⟨hct, h⟩ := zbif_ex h2
    obtain ⟨hw1, hm, hw2⟩ : _ ∧ zmS cm := hw
    rcases zbif_or hw1 with ⟨-, hw1⟩ | ⟨-, hw1⟩
    · exact z_stat hd hm (zchkR_ex hc) has (Nat.le_of_ble_eq_true hct) (zw_of _ _ hw1 rfl) hw2 (Ctr_mono h fun r M' q => hk _ _ _ _ q)
    · exact z_nest hd hm (zchkR_ex hc) has (Nat.le_of_ble_eq_true hct) (zn_of _ _ hw1) hw2 (Ctr_mono h fun r M' q => hk _ _ _ _ q)
  all_goals exact False.elim h
end
def zfind (pc : Nat) : List ZE → Option ZE
  | [] => none
  | e :: r => bif Nat.beq e.1 pc then some e else zfind pc r
theorem zfind_ex {pc : Nat} {cd : List ZE} {e : ZE} (h : zfind pc cd = some e) : e ∈ cd ∧ e.1 = pc := by
  induction cd with
  | nil => cases h
  | cons a r ih =>
    unfold zfind at h
    cases hb : Nat.beq a.1 pc with
    | true =>
      rw [hb] at h
      have h2 : a = e := Option.some.inj h
      rw [← h2]
      exact ⟨List.mem_cons_self, Nat.eq_of_beq_eq_true hb⟩
    | false =>
      rw [hb] at h
      exact ⟨List.mem_cons_of_mem _ (ih h).1, (ih h).2⟩
def zcut (pc : Nat) : List (Nat × List Nat) → Option (List Nat)
  | [] => none
  | q :: r => bif Nat.beq q.1 pc then some q.2 else zcut pc r
/-- the walk from pc on, to the next place of 'cuts' (there with the locals that live), a call, an end -/
def zex (G : ZG) (mi : ZI) (Z : Option ZV → ZM → Prop) (cuts : List (Nat × List Nat)) (cd : List ZE) : Nat → Nat → ZL → List ZV → ZM → (Nat → ZL → List ZV → ZM → Prop) → Prop
  | 0, _, _, _, _, _ => False
  | f + 1, pc, l, st, M, K => match zfind pc cd with
    | none => False
    | some (pc, i, (qs, cv, cw, sw), cm) => zex1 G mi Z i qs cv cw sw cm pc l st M fun pc l st M => match zcut pc cuts with
      | some ks => zforce (zkeep ks l) fun l => K pc l st M
      | none => zex G mi Z cuts cd f pc l st M K
theorem z_ex {G : ZG} {mi : ZI} {Z : Option ZV → ZM → Prop} {cuts : List (Nat × List Nat)} {cd : List ZE} {K : Nat → ZL → List ZV → ZM → Prop} (hcd : zgood2 mi cd) (hK : ∀ pc l st M, K pc l st M → V 0 G mi Z pc l st M) : ∀ (f pc : Nat) (l : ZL) (st : List ZV) (M : ZM), zex G mi Z cuts cd f pc l st M K → V 0 G mi Z pc l st M := by
  intro f
  induction f with
  | zero => intro pc l st M h; exact h.elim
  | succ f ih =>
    intro pc l st M h
    unfold zex at h
    split at h
    · exact h.elim
    · rename_i pc0 i qs cv cw sw cm he
      obtain ⟨h1, h2⟩ := zfind_ex he
      have h2 : pc0 = pc := h2
      subst h2
      have h3 := List.all_eq_true.mp hcd.1 _ h1
      unfold zchk at h3
      simp only [Bool.and_eq_true, decide_eq_true_eq] at h3
      refine z_ex1 h3.1 h3.2 (zWs_mem hcd.2 _ h1) (fun pc l st M q => ?_) h
      split at q
      · exact V_sub (fun q hq => zkeep_mem hq) (hK _ _ _ _ (zforce_ex _ _ q))
      · exact ih _ _ _ _ q
/-- the walk's goal, its end a name that nothing opens -/
theorem z_run {G : ZG} {mi : ZI} {Z : Option ZV → ZM → Prop} {cuts : List (Nat × List Nat)} {cd : List ZE} {pc : Nat} {l : ZL} {st : List ZV} {M : ZM} (hcd : zgood2 mi cd) (h : ∀ K : Nat → ZL → List ZV → ZM → Prop, (∀ pc l st M, V 0 G mi Z pc l st M → K pc l st M) → zex G mi Z cuts cd 300 pc l st M K) : V 0 G mi Z pc l st M :=
  z_ex hcd (fun _ _ _ _ q => q) 300 pc l st M (h _ (fun _ _ _ _ q => q))
theorem z_start {G : ZG} {mi : ZI} {Z : Option ZV → ZM → Prop} {cuts : List (Nat × List Nat)} {cd : List ZE} {av : List ZV} {M : ZM} (hcd : zgood2 mi cd) (hpl : (plainName (iN mi).cls && !(iD mi == 11)) = true) (hlen : Nat.ble (zct av) (iL mi) = true) (h : ∀ K : Nat → ZL → List ZV → ZM → Prop, (∀ pc l st M, V 0 G mi Z pc l st M → K pc l st M) → zex G mi Z cuts cd 300 0 (zargs 0 av) [] M K) : Ctr 0 G mi av M Z := by
  simp only [Bool.and_eq_true, Bool.not_eq_true', beq_eq_false_iff_ne] at hpl
  exact z_enter hpl.1 hpl.2 (Nat.le_of_ble_eq_true hlen) (z_run hcd h)
