theorem zTw_good : ∀ w ∈ zTw, (w.onTables && w.keeps) = true ∨ ∃ ty, w = .arrayClass ty := fun w h => good_of_word (List.mem_filter.mp h).2
theorem zuws0 : ∀ q ∈ zcls, ∀ w ∈ u_ws q.1 q.2.1 q.2.2, w ∈ lw_tbl := by decide +kernel
theorem zuws1 : ∀ q ∈ zcls, ∀ w ∈ u_ws q.1 q.2.1 q.2.2, goodWord w = true := by decide +kernel
theorem zuws {ci : Nat} {C : String} {T : u_T} {N : Nat} (h : zcls[ci]? = some (C, T, N)) : ∀ w ∈ u_ws C T N, w ∈ zTw := fun w hw =>
  List.mem_filter.mpr ⟨zuws0 _ (List.mem_of_getElem? h) w hw, zuws1 _ (List.mem_of_getElem? h) w hw⟩
theorem ztyp : ∀ q ∈ zcls, ∀ k, k < q.2.2 → (parseFieldDescriptor (q.2.1 k).2.2.1).isSome = true := by decide +kernel
theorem zname : ∀ q ∈ zcls, ∀ a, a < q.2.2 → ∀ b, b < q.2.2 → a ≠ b → (q.2.1 a).2.1 ≠ (q.2.1 b).2.1 := by decide +kernel
theorem zfs_get {G : ZG} {M : ZM} {k i f : Nat} {fs : List ZF} {fd : ZF} (h : fs[f]? = some fd) : (zfs G M k i fs)[f]? = some (zc G (zfv k i f M fd)) := by
  unfold zfs
  rw [List.getElem?_map, List.getElem?_zipIdx, h]
  simp
theorem zfs_len {G : ZG} {M : ZM} {k i : Nat} {fs : List ZF} : (zfs G M k i fs).length = fs.length := by
  unfold zfs
  simp
theorem zfs_set {G : ZG} {M : ZM} {k i f : Nat} {x : Int32} {fs : List ZF} (h : fs[f]? = some none) : zfs G (zset k i f x M) k i fs = (zfs G M k i fs).set f (.int x) := by
  apply List.ext_getElem?
  intro n
  rw [List.getElem?_set]
  by_cases hn : f = n
  · subst hn
    have hlt := (List.getElem?_eq_some_iff.mp h).1
    rw [if_pos rfl, if_pos (by rw [zfs_len]; exact hlt), zfs_get h]
    simp [zfv, zset, zc]
  · rw [if_neg hn]
    cases hc : fs[n]? with
    | none =>
      have h1 : fs.length ≤ n := List.getElem?_eq_none_iff.mp hc
      rw [List.getElem?_eq_none_iff.mpr (by rw [zfs_len]; exact h1), List.getElem?_eq_none_iff.mpr (by rw [zfs_len]; exact h1)]
    | some fd =>
      rw [zfs_get hc, zfs_get hc]
      cases fd with
      | none =>
        simp only [zfv, zset]
        rw [if_neg (fun q => hn q.2.2.symm)]
      | some fd => rcases fd with ⟨a, b, c⟩; cases c <;> rfl
theorem zent_obj {G : ZG} {M : ZM} {k i ci : Nat} {fs : List ZF} (h : zK k = .inl (ci, fs)) : zent G M k i = .inr (ci, zfs G M k i fs) := by
  unfold zent; rw [h]
theorem zent_arr {G : ZG} {M : ZM} {k i t n : Nat} (h : zK k = .inr (t, n)) : zent G M k i = .inl (zarr G M k i t n) := by
  unfold zent; rw [h]
theorem zset_heap {G : ZG} {M : ZM} {k i j q0 : Nat} {v : Int32} {e' : va_E} (hq : zcells[q0]? = some (k, i)) (he : zent G (zset k i j v M) k i = e') : (zws G M).set q0 (ga G k i, e') = zws G (zset k i j v M) :=
  zws_set hq (fun a b h => ⟨(zset_off h).symm, rfl⟩) he
theorem zsetL_heap {G : ZG} {M : ZM} {k i j q0 : Nat} {v : Int64} {e' : va_E} (hq : zcells[q0]? = some (k, i)) (he : zent G (zsetL k i j v M) k i = e') : (zws G M).set q0 (ga G k i, e') = zws G (zsetL k i j v M) :=
  zws_set hq (fun a b h => ⟨rfl, (zsetL_off h).symm⟩) he
section
variable {G : ZG} {mi : ZI} {Z : Option ZV → ZM → Prop} {pc : Nat} {l : ZL} {st : List ZV} {M : ZM}
set_option maxHeartbeats 1000000 in
theorem z_getfield {n kd ix ci f N : Nat} {fs : List ZF} {fd : ZF} {C : String} {T : u_T} (hd : decode (iB mi) pc = .ok (.getfield n, 3)) (hk0 : zK kd = .inl (ci, fs)) (hv : zval kd ix) (hfd : fs[f]? = some fd) (hc : zcls[ci]? = some (C, T, N)) (hN : f < N)
    (hw : Jvm.Cond.fieldLink (iN mi).cls n (T f).1 (T f).2.1 (T f).2.2.1 ∈ zTw) (hk : V 0 G mi Z (pc + 3) l (zfv kd ix f M fd :: st) M) : V 0 G mi Z pc l (zr kd ix :: st) M := by
  rw [V_eq] at hk ⊢; intro hok p e s m args below meth c H locs ls hf hr hlk hfr hE hP hS hl
  obtain ⟨q0, hq0, hq1⟩ := zws_at (G := G) hv
  have he := hq1 M
  rw [zent_obj hk0] at he
  exact va_get (D := gD G) (ci := ci) (C := C) (T := T) (N := N) hf.1 hf.2.1 hf.2.2.2.2 (zuws hc) hf.2.2.2.1 hE.1 hP q0 he hc f hN (hf.2.2.2.2 _ hw) (fun _ h => h) (zfs_get hfd) hd (hk hok p e s m args below meth c H locs ls hf hr hlk hfr hE hP hS hl)
set_option maxHeartbeats 1000000 in
theorem z_putfield {n kd ix ci f N : Nat} {fs : List ZF} {C : String} {T : u_T} {x : Int32} (hd : decode (iB mi) pc = .ok (.putfield n, 3)) (hk0 : zK kd = .inl (ci, fs)) (hv : zval kd ix) (hfd : fs[f]? = some none) (hc : zcls[ci]? = some (C, T, N)) (hN : f < N)
    (hw : Jvm.Cond.fieldLink (iN mi).cls n (T f).1 (T f).2.1 (T f).2.2.1 ∈ zTw) (hfin : (T f).2.2.2 = false) (hty : parseFieldDescriptor (T f).2.2.1 = some .int) (hk : V 0 G mi Z (pc + 3) l st (zset kd ix f x M)) : V 0 G mi Z pc l (zi x :: zr kd ix :: st) M := by
  rw [V_eq] at hk ⊢; intro hok p e s m args below meth c H locs ls hf hr hlk hfr hE hP hS hl
  obtain ⟨q0, hq0, hq1⟩ := zws_at (G := G) hv
  have he := hq1 M
  rw [zent_obj hk0] at he
  have hlt : f < (zfs G M kd ix fs).length := by rw [zfs_len]; exact (List.getElem?_eq_some_iff.mp hfd).1
  have hcm := List.mem_of_getElem? hc
  refine va_put (D := gD G) (ci := ci) (C := C) (T := T) (N := N) (ty := .int) (v := .int x) hf.1 hf.2.1 hf.2.2.2.2 (zuws hc) (fun k => (parseFieldDescriptor (T k).2.2.1).getD .int) (fun k hk => ?_) (zname _ hcm) hf.2.2.2.1 hE.1 hP (zws_D hok M) hS q0 he hc f hN (hf.2.2.2.2 _ hw) (fun _ h => h) hfin hty rfl rfl hlt hd (fun H1 locs1 hP1 hD1 hS1 => ?_)
  · have h := ztyp _ hcm k hk
    obtain ⟨t, ht⟩ := Option.isSome_iff_exists.mp h
    rw [ht]; rfl
  · rw [zset_heap hq0 (by rw [zent_obj hk0, zfs_set hfd])] at hP1
    exact hk hok p e s m args below meth c H1 locs1 ls hf hr hlk hfr hE hP1 hS1 hl
set_option maxHeartbeats 1000000 in
theorem z_iaload {kd ix n : Nat} {i : Int32} (hd : decode (iB mi) pc = .ok (.iaload, 1)) (hk0 : zK kd = .inr (0, n)) (hv : zval kd ix) (hin : vp_in i n) (hk : V 0 G mi Z (pc + 1) l (zi (M.1 kd ix i.toNatClampNeg) :: st) M) : V 0 G mi Z pc l (zi i :: zr kd ix :: st) M := by
  rw [V_eq] at hk ⊢; intro hok p e s m args below meth c H locs ls hf hr hlk hfr hE hP hS hl
  obtain ⟨q0, hq0, hq1⟩ := zws_at (G := G) hv
  have he := hq1 M
  rw [zent_arr hk0] at he
  exact va_iald (D := gD G) hf.1 hf.2.1 hE.1 hP q0 0 he rfl hin hd (hk hok p e s m args below meth c H locs ls hf hr hlk hfr hE hP hS hl)
set_option maxHeartbeats 1000000 in
theorem z_baload {kd ix n : Nat} {i : Int32} (hd : decode (iB mi) pc = .ok (.baload, 1)) (hk0 : zK kd = .inr (2, n)) (hv : zval kd ix) (hin : vp_in i n) (hk : V 0 G mi Z (pc + 1) l (zi (M.1 kd ix i.toNatClampNeg) :: st) M) : V 0 G mi Z pc l (zi i :: zr kd ix :: st) M := by
  rw [V_eq] at hk ⊢; intro hok p e s m args below meth c H locs ls hf hr hlk hfr hE hP hS hl
  obtain ⟨q0, hq0, hq1⟩ := zws_at (G := G) hv
  have he := hq1 M
  rw [zent_arr hk0] at he
  exact va_zald (D := gD G) hf.1 hf.2.1 hE.1 hP q0 2 he rfl hin hd (hk hok p e s m args below meth c H locs ls hf hr hlk hfr hE hP hS hl)
set_option maxHeartbeats 1000000 in
theorem z_laload {kd ix n : Nat} {i : Int32} (hd : decode (iB mi) pc = .ok (.laload, 1)) (hk0 : zK kd = .inr (1, n)) (hv : zval kd ix) (hin : vp_in i n) (hk : V 0 G mi Z (pc + 1) l (zl (M.2 kd ix i.toNatClampNeg) :: st) M) : V 0 G mi Z pc l (zi i :: zr kd ix :: st) M := by
  rw [V_eq] at hk ⊢; intro hok p e s m args below meth c H locs ls hf hr hlk hfr hE hP hS hl
  obtain ⟨q0, hq0, hq1⟩ := zws_at (G := G) hv
  have he := hq1 M
  rw [zent_arr hk0] at he
  exact va_lald (D := gD G) hf.1 hf.2.1 hE.1 hP q0 1 he rfl hin hd (hk hok p e s m args below meth c H locs ls hf hr hlk hfr hE hP hS hl)
set_option maxHeartbeats 1000000 in
theorem z_aaload3 {kd ix n : Nat} {i : Int32} (hd : decode (iB mi) pc = .ok (.aaload, 1)) (hk0 : zK kd = .inr (3, n)) (hv : zval kd ix) (hin : vp_in i n) (hk : V 0 G mi Z (pc + 1) l (zr 0 i.toNatClampNeg :: st) M) : V 0 G mi Z pc l (zi i :: zr kd ix :: st) M := by
  rw [V_eq] at hk ⊢; intro hok p e s m args below meth c H locs ls hf hr hlk hfr hE hP hS hl
  obtain ⟨q0, hq0, hq1⟩ := zws_at (G := G) hv
  have he := hq1 M
  rw [zent_arr hk0] at he
  exact va_aldq (D := gD G) hf.1 hf.2.1 hE.1 hP q0 3 he rfl hin hd (hk hok p e s m args below meth c H locs ls hf hr hlk hfr hE hP hS hl)
set_option maxHeartbeats 1000000 in
theorem z_aaload4 {kd ix n : Nat} {i : Int32} (hd : decode (iB mi) pc = .ok (.aaload, 1)) (hk0 : zK kd = .inr (4, n)) (hv : zval kd ix) (hin : vp_in i n) (hk : V 0 G mi Z (pc + 1) l (zr 2 i.toNatClampNeg :: st) M) : V 0 G mi Z pc l (zi i :: zr kd ix :: st) M := by
  rw [V_eq] at hk ⊢; intro hok p e s m args below meth c H locs ls hf hr hlk hfr hE hP hS hl
  obtain ⟨q0, hq0, hq1⟩ := zws_at (G := G) hv
  have he := hq1 M
  rw [zent_arr hk0] at he
  exact va_aldq (D := gD G) hf.1 hf.2.1 hE.1 hP q0 4 he rfl hin hd (hk hok p e s m args below meth c H locs ls hf hr hlk hfr hE hP hS hl)
set_option maxHeartbeats 1000000 in
theorem z_iastore {kd ix n : Nat} {i x : Int32} (hd : decode (iB mi) pc = .ok (.iastore, 1)) (hk0 : zK kd = .inr (0, n)) (hv : zval kd ix) (hin : vp_in i n) (hk : V 0 G mi Z (pc + 1) l st (zset kd ix i.toNatClampNeg x M)) : V 0 G mi Z pc l (zi x :: zi i :: zr kd ix :: st) M := by
  rw [V_eq] at hk ⊢; intro hok p e s m args below meth c H locs ls hf hr hlk hfr hE hP hS hl
  obtain ⟨q0, hq0, hq1⟩ := zws_at (G := G) hv
  have he := hq1 M
  rw [zent_arr hk0] at he
  refine va_iast (D := gD G) hf.1 hf.2.1 hE.1 hP (zws_D hok M) hS q0 0 he rfl hin hd (fun H1 locs1 hP1 hD1 hS1 => ?_)
  rw [zset_heap (j := i.toNatClampNeg) (v := x) hq0 (by rw [zent_arr hk0]; simp only [zarr, zset_row])] at hP1
  exact hk hok p e s m args below meth c H1 locs1 ls hf hr hlk hfr hE hP1 hS1 hl
set_option maxHeartbeats 1000000 in
theorem z_bastore {kd ix n : Nat} {i x : Int32} (hd : decode (iB mi) pc = .ok (.bastore, 1)) (hk0 : zK kd = .inr (2, n)) (hv : zval kd ix) (hin : vp_in i n) (hx : x = 0 ∨ x = 1) (hk : V 0 G mi Z (pc + 1) l st (zset kd ix i.toNatClampNeg x M)) : V 0 G mi Z pc l (zi x :: zi i :: zr kd ix :: st) M := by
  rw [V_eq] at hk ⊢; intro hok p e s m args below meth c H locs ls hf hr hlk hfr hE hP hS hl
  obtain ⟨q0, hq0, hq1⟩ := zws_at (G := G) hv
  have he := hq1 M
  rw [zent_arr hk0] at he
  have hx2 : vp_nar .boolean x = x := by rcases hx with rfl | rfl <;> rfl
  refine va_zast (D := gD G) hf.1 hf.2.1 hE.1 hP (zws_D hok M) hS q0 2 he rfl hin hd (fun H1 locs1 hP1 hD1 hS1 => ?_)
  rw [hx2, zset_heap (j := i.toNatClampNeg) (v := x) hq0 (by rw [zent_arr hk0]; simp only [zarr, zset_row])] at hP1
  exact hk hok p e s m args below meth c H1 locs1 ls hf hr hlk hfr hE hP1 hS1 hl
set_option maxHeartbeats 1000000 in
theorem z_lastore {kd ix n : Nat} {i : Int32} {x : Int64} (hd : decode (iB mi) pc = .ok (.lastore, 1)) (hk0 : zK kd = .inr (1, n)) (hv : zval kd ix) (hin : vp_in i n) (hk : V 0 G mi Z (pc + 1) l st (zsetL kd ix i.toNatClampNeg x M)) : V 0 G mi Z pc l (zl x :: zi i :: zr kd ix :: st) M := by
  rw [V_eq] at hk ⊢; intro hok p e s m args below meth c H locs ls hf hr hlk hfr hE hP hS hl
  obtain ⟨q0, hq0, hq1⟩ := zws_at (G := G) hv
  have he := hq1 M
  rw [zent_arr hk0] at he
  refine va_last (D := gD G) hf.1 hf.2.1 hE.1 hP (zws_D hok M) hS q0 1 he rfl hin hd (fun H1 locs1 hP1 hD1 hS1 => ?_)
  rw [zsetL_heap (j := i.toNatClampNeg) (v := x) hq0 (by rw [zent_arr hk0]; simp only [zarr, zsetL_row])] at hP1
  exact hk hok p e s m args below meth c H1 locs1 ls hf hr hlk hfr hE hP1 hS1 hl
set_option maxHeartbeats 1000000 in
theorem z_alen {kd ix t n : Nat} (hd : decode (iB mi) pc = .ok (.arraylength, 1)) (hk0 : zK kd = .inr (t, n)) (ht : t < 3) (hv : zval kd ix) (hk : V 0 G mi Z (pc + 1) l (zi (Int32.ofNat n) :: st) M) : V 0 G mi Z pc l (zr kd ix :: st) M := by
  rw [V_eq] at hk ⊢; intro hok p e s m args below meth c H locs ls hf hr hlk hfr hE hP hS hl
  obtain ⟨q0, hq0, hq1⟩ := zws_at (G := G) hv
  have he := hq1 M
  rw [zent_arr hk0] at he
  match t, ht with
  | 0, _ => exact va_alen (D := gD G) hf.1 hf.2.1 hE.1 hP q0 0 he rfl rfl hd (hk hok p e s m args below meth c H locs ls hf hr hlk hfr hE hP hS hl)
  | 1, _ => exact va_alen (D := gD G) hf.1 hf.2.1 hE.1 hP q0 1 he rfl rfl hd (hk hok p e s m args below meth c H locs ls hf hr hlk hfr hE hP hS hl)
  | 2, _ => exact va_alen (D := gD G) hf.1 hf.2.1 hE.1 hP q0 2 he rfl rfl hd (hk hok p e s m args below meth c H locs ls hf hr hlk hfr hE hP hS hl)
set_option maxHeartbeats 1000000 in
theorem z_rows {i : Int32} (hd : decode (iB mi) pc = .ok (.laload, 1)) (hin : vp_in i 31) (hk : V 0 G mi Z (pc + 1) l (zl (zrows i.toNatClampNeg) :: st) M) : V 0 G mi Z pc l (zi i :: zr 38 0 :: st) M := by
  rw [V_eq] at hk ⊢; intro hok p e s m args below meth c H locs ls hf hr hlk hfr hE hP hS hl
  exact va_tl hf.1 hf.2.1 hE.2.2.1 hS hin rfl hd (hk hok p e s m args below meth c H locs ls hf hr hlk hfr hE hP hS hl)
set_option maxHeartbeats 1000000 in
theorem z_script {i : Int32} (hd : decode (iB mi) pc = .ok (.iaload, 1)) (hin : vp_in i (gN G)) (hk : V 0 G mi Z (pc + 1) l (zi (gX G i.toNatClampNeg) :: st) M) : V 0 G mi Z pc l (zi i :: zr 39 0 :: st) M := by
  rw [V_eq] at hk ⊢; intro hok p e s m args below meth c H locs ls hf hr hlk hfr hE hP hS hl
  exact va_ti hf.1 hf.2.1 hE.2.2.2.1 hS hin rfl hd (hk hok p e s m args below meth c H locs ls hf hr hlk hfr hE hP hS hl)
set_option maxHeartbeats 1000000 in
theorem z_scriptlen (hd : decode (iB mi) pc = .ok (.arraylength, 1)) (hk : V 0 G mi Z (pc + 1) l (zi (Int32.ofNat (gN G)) :: st) M) : V 0 G mi Z pc l (zr 39 0 :: st) M := by
  rw [V_eq] at hk ⊢; intro hok p e s m args below meth c H locs ls hf hr hlk hfr hE hP hS hl
  exact va_tlen hf.1 hf.2.1 hE.2.2.2.1 hS rfl hd (hk hok p e s m args below meth c H locs ls hf hr hlk hfr hE hP hS hl)
set_option maxHeartbeats 1000000 in
theorem z_getrows {n : Nat} (hd : decode (iB mi) pc = .ok (.getstatic n, 3)) (hw : Jvm.Cond.fieldLink (iN mi).cls n "ThreeStrandMaps$SolutionList" "ROWS" "[J" ∈ zTw) (hk : V 0 G mi Z (pc + 3) l (zr 38 0 :: st) M) : V 0 G mi Z pc l st M := by
  rw [V_eq] at hk ⊢; intro hok p e s m args below meth c H locs ls hf hr hlk hfr hE hP hS hl
  exact va_gets hf.1 hf.2.1 hE.2.1 hS hf.2.2.2.1 (hf.2.2.2.2 _ hw) (fun _ h => h) hd (hk hok p e s m args below meth c H locs ls hf hr hlk hfr hE hP hS hl)
set_option maxHeartbeats 1000000 in
theorem z_dup {v : ZV} (hd : decode (iB mi) pc = .ok (.dup, 1)) (hv : zcat v = 1) (hk : V 0 G mi Z (pc + 1) l (v :: v :: st) M) : V 0 G mi Z pc l (v :: st) M := by
  rw [V_eq] at hk ⊢; intro hok p e s m args below meth c H locs ls hf hr hlk hfr hE hP hS hl
  exact lv_dup hf.1 hf.2.1 hd (by rw [zcat_eq]; exact hv) (hk hok p e s m args below meth c H locs ls hf hr hlk hfr hE hP hS hl)
set_option maxHeartbeats 1000000 in
theorem z_dup2 {v w : ZV} (hd : decode (iB mi) pc = .ok (.dup2, 1)) (hv : zcat v = 1) (hw : zcat w = 1) (hk : V 0 G mi Z (pc + 1) l (v :: w :: v :: w :: st) M) : V 0 G mi Z pc l (v :: w :: st) M := by
  rw [V_eq] at hk ⊢; intro hok p e s m args below meth c H locs ls hf hr hlk hfr hE hP hS hl
  exact lv_dup2_11 hf.1 hf.2.1 hd (by rw [zcat_eq]; exact hv) (by rw [zcat_eq]; exact hw) (hk hok p e s m args below meth c H locs ls hf hr hlk hfr hE hP hS hl)
set_option maxHeartbeats 1000000 in
theorem z_goto {off : Int} {tgt : Nat} (hd : decode (iB mi) pc = .ok (.goto off, 3)) (ht : (pc : Int) + off = (tgt : Int)) (hk : V 0 G mi Z tgt l st M) : V 0 G mi Z pc l st M := by
  rw [V_eq] at hk ⊢; intro hok p e s m args below meth c H locs ls hf hr hlk hfr hE hP hS hl
  exact lv_goto hf.1 hf.2.1 hd ht (hk hok p e s m args below meth c H locs ls hf hr hlk hfr hE hP hS hl)
set_option maxHeartbeats 1000000 in
theorem z_iinc {n : Nat} {a : Int} {x y : Int32} (hd : decode (iB mi) pc = .ok (.iinc n a, 3)) (hg : lget l n = some (zi x)) (hy : Int32.ofInt a = y) (hn : n < iL mi) (hk : V 0 G mi Z (pc + 3) (lput n (zi (x + y)) l) st M) : V 0 G mi Z pc l st M := by
  rw [V_eq] at hk ⊢
  intro hok p e s m args below meth c H locs ls0 hf hr hlk hfr hE hP hS hl
  obtain ⟨k, hk9⟩ := List.getElem?_of_mem (List.mem_map.mpr ⟨(n, zi x), lget_mem hg, rfl⟩ : (n, zc G (zi x)) ∈ zlm G l)
  exact lv_iinc hf.1 hf.2.1 hd hl (k := k) hk9 (by rw [hy]) hn rfl (fun ls hl2 => hk hok p e s m args below meth c H locs ls hf hr hlk hfr hE hP hS (lput_has1 hl2))
theorem V_sub {l' : ZL} (hs : ∀ q ∈ l', q ∈ l) (hk : V 0 G mi Z pc l' st M) : V 0 G mi Z pc l st M := by
  rw [V_eq] at hk ⊢; intro hok p e s m args below meth c H locs ls hf hr hlk hfr hE hP hS hl
  exact hk hok p e s m args below meth c H locs ls hf hr hlk hfr hE hP hS (zkeep_has hl hs)
end
