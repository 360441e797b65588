/-! rules for constructors: the world is a list of cells that grows -/
def itys (k : Nat → ClassId) : List (ClassId × FieldType) := [(k 0, .int), (k 1, .long), (k 2, .boolean), (k 3, .object "ThreeStrandMaps$PairMap"), (k 4, .object "ThreeStrandMaps$Braid")]
def iE (D : va_G) (k : Nat → ClassId) (U : State) : Prop := va_K D zcls (itys k) U ∧ va_AO "ThreeStrandMaps$PairMap" U ∧ va_AO "ThreeStrandMaps$Braid" U ∧ ∀ w ∈ znest, va_Nw w U
theorem iE_warm {D : va_G} {k : Nat → ClassId} {u U : State} (hW : u.WarmedH U.vm) (h : iE D k u) : iE D k U := ⟨va_K.moved hW.alike h.1, h.2.1.moved hW.alike, h.2.2.1.moved hW.alike, znest_warm hW h.2.2.2⟩
theorem iE_call {D : va_G} {k : Nat → ClassId} {u U : State} (hvm : u.vm = U.vm) (ha : u.vm.Alike U.vm) (h : iE D k u) : iE D k U := ⟨va_K.moved ha h.1, h.2.1.moved ha, h.2.2.1.moved ha, fun w hw => by
  have h2 := h.2.2.2 w hw
  obtain ⟨a, i, x, h9, rfl⟩ := znest_form w hw
  exact va_Nw.same rfl hvm h2⟩
theorem iE_int {D : va_G} {k : Nat → ClassId} {U : State} {cA : ClassId} (h : va_K D zcls (itys k) U) (h2 : va_K D zcls (itys k ++ [(cA, .int)]) U) : cA = k 0 :=
  Option.some.inj ((va_nm_int (h2.2 5 _ rfl).2).symm.trans (va_nm_int (h.2 0 _ rfl).2))
theorem iE_long {D : va_G} {k : Nat → ClassId} {U : State} {cA : ClassId} (h : va_K D zcls (itys k) U) (h2 : va_K D zcls (itys k ++ [(cA, .long)]) U) : cA = k 1 :=
  Option.some.inj ((va_nm_long (h2.2 5 _ rfl).2).symm.trans (va_nm_long (h.2 1 _ rfl).2))
theorem iE_bool {D : va_G} {k : Nat → ClassId} {U : State} {cA : ClassId} (h : va_K D zcls (itys k) U) (h2 : va_K D zcls (itys k ++ [(cA, .boolean)]) U) : cA = k 2 :=
  Option.some.inj ((va_nm_boolean (h2.2 5 _ rfl).2).symm.trans (va_nm_boolean (h.2 2 _ rfl).2))
theorem iE_pm {D : va_G} {k : Nat → ClassId} {U : State} {cA : ClassId} (h : va_K D zcls (itys k) U) (h2 : va_K D zcls (itys k ++ [(cA, .object "ThreeStrandMaps$PairMap")]) U) : cA = k 3 :=
  Option.some.inj ((va_nmO (h2.2 5 _ rfl).2 rfl).symm.trans (va_nmO (h.2 3 _ rfl).2 rfl))
theorem iE_br {D : va_G} {k : Nat → ClassId} {U : State} {cA : ClassId} (h : va_K D zcls (itys k) U) (h2 : va_K D zcls (itys k ++ [(cA, .object "ThreeStrandMaps$Braid")]) U) : cA = k 4 :=
  Option.some.inj ((va_nmO (h2.2 5 _ rfl).2 rfl).symm.trans (va_nmO (h.2 4 _ rfl).2 rfl))
def IS (p : Program) (m : MethodId) (c : Code) (cc : ByteArray) (nL : Nat) (s : State) (args : Array Value) (own : String) (D : va_G) (k : Nat → ClassId) (A : Nat → Prop) (H : Heap) (locs : List Loc) (ws : va_W) : Prop :=
  CallFix p m c cc nL s args zTw own ∧ iE D k s ∧ va_P D zcls ws H ∧ va_D A ws ∧ va_S A s.heap H locs ∧ ∀ q : Nat, s.heap.size ≤ q → A q
def CI (y : MethodName) (b : ByteArray) (ml fr mc ms lo ci : Nat) (fs0 : List Value) (sh : (Nat → ClassId) → Nat → (Nat → Nat) → va_W) : Prop :=
  ∀ (l : Launch) (D : va_G) (k : Nat → ClassId) (h0 sz : Nat), Met l y (Jvm.Cond.code y b ml none :: zTw) ({ frames := fr, cells := mc, slots := ms, locals := lo }) (va_Pc [.ref h0] (fun U => U.heap.size = sz ∧ va_P D zcls [(h0, .inr (ci, fs0))] U.heap ∧ iE D k U ∧ va_D (fun _ => True) [(h0, .inr (ci, fs0))])) (va_Qv (fun _ : Nat → Nat => True) (fun u t => va_P D zcls (sh k h0 u) t.heap ∧ va_D (va_A [(h0, .inr (ci, fs0))] sz) (sh k h0 u)) (va_A [(h0, .inr (ci, fs0))] sz)) mc ms (va_A [(h0, .inr (ci, fs0))] sz)
theorem i_join {D : va_G} {A0 : Nat → Prop} {H H1 : Heap} {wr w1 : va_W} {x : Nat × va_E} (hP : va_P D zcls (wr ++ [x]) H) (hD : va_D A0 (wr ++ [x])) (hk : ∀ q : Nat, q < H.size → ¬ va_A [x] H.size q → H1[q]? = H[q]?) (hF : ∀ q, va_A [x] H.size q → A0 q) (hP1 : va_P D zcls w1 H1) (hD1 : va_D (va_A [x] H.size) w1) : va_P D zcls (wr ++ w1) H1 ∧ va_D A0 (wr ++ w1) := by
  have hl : ∀ (j : Nat) (q : Nat × va_E), wr[j]? = some q → (wr ++ [x])[j]? = some q := fun j q hj => by
    rw [List.getElem?_append_left (List.getElem?_eq_some_iff.mp hj).1]; exact hj
  have hx : (wr ++ [x])[wr.length]? = some x := by
    rw [List.getElem?_append_right (Nat.le_refl _), Nat.sub_self]; rfl
  have hne : ∀ (j : Nat) (q : Nat × va_E), wr[j]? = some q → q.1 ≠ x.1 := fun j q hj he => by
    have h1 := hD.1 j wr.length q x (hl j q hj) hx he
    have h2 := (List.getElem?_eq_some_iff.mp hj).1
    omega
  have hlt : ∀ (j : Nat) (q : Nat × va_E), wr[j]? = some q → q.1 < H.size := fun j q hj => (hP j q (hl j q hj)).lt
  have hno : ∀ (j : Nat) (q : Nat × va_E), wr[j]? = some q → ¬ va_A [x] H.size q.1 := fun j q hj h => by
    rcases h with ⟨i, e, hi⟩ | h
    · have hi0 : i = 0 := by
        have := (List.getElem?_eq_some_iff.mp hi).1
        simp at this
        omega
      subst hi0
      have h2 : x = (q.1, e) := Option.some.inj hi
      exact hne j q hj (by rw [h2])
    · have := hlt j q hj; omega
  have hPr : va_P D zcls wr H := fun j q hj => hP j q (hl j q hj)
  have hDr : va_D A0 wr := ⟨fun i j p q hi hj he => hD.1 i j p q (hl i p hi) (hl j q hj) he, fun j q hj => hD.2 j q (hl j q hj)⟩
  refine ⟨(hPr.kept fun j q hj => hk q.1 (hlt j q hj) (hno j q hj)).app hP1, hDr.app (hD1.weaken fun _ _ _ h => hF _ h) fun i j p q hi hj he => hno i p hi ?_⟩
  rw [he]
  exact hD1.2 j q hj
section
variable {p : Program} {l : Launch} {e : Env} {R : Room} {s : State} {m : MethodId} {args : Array Value} {below : List Frame} {meth : Method} {c : Code} {H : Heap} {locs : List Loc} {cells slots : Nat} {Q : State → Prop}
variable {cc : ByteArray} {pc nL : Nat} {ls : Array Slot} {rest : List Value} {own : String} {D : va_G} {k : Nat → ClassId} {A : Nat → Prop} {ws : va_W}
theorem i_newI {n : Int32} {N : Nat} (h : IS p m c cc nL s args own D k A H locs ws) (hn : ¬ n < 0) (hN : n.toNatClampNeg = N) (hbytes : N * 4 ≤ 536870912) (hcells : cells + 1 ≤ R.cells) (hslots : slots + N ≤ R.slots) (hdg : decode cc pc = .ok (.newarray .int, 2))
    (kk : ∀ (q : Nat) (H1 : Heap), IS p m c cc nL s args own D k A H1 locs (ws ++ [(q, .inl (k 0, N, .inl fun _ => 0))]) → W p l e R s m args below meth c H1 locs (cells + 1) (slots + N) Q (F0 m (pc + 2) ls (.ref q :: rest))) : W p l e R s m args below meth c H locs cells slots Q (F0 m pc ls (.int n :: rest)) := by
  obtain ⟨hf, hE, hP, hD, hS, hA⟩ := h
  refine va_newa (atype := .int) (ty := .int) (a0 := (N, .inl fun _ => 0)) (D := D) (cl := zcls) hf.1 hf.2.1 (hf.2.2.2.2 _ (zw_of 0 40 rfl rfl)) rfl hE.1 hP hD hS hA (fun cA => rfl) hn hN hbytes hcells hslots hdg (fun q cA H1 hK hP1 hD1 hS1 => ?_)
  obtain rfl := iE_int hE.1 hK
  exact kk q H1 ⟨hf, hE, hP1, hD1, hS1, hA⟩
theorem i_newL {n : Int32} {N : Nat} (h : IS p m c cc nL s args own D k A H locs ws) (hn : ¬ n < 0) (hN : n.toNatClampNeg = N) (hbytes : N * 8 ≤ 536870912) (hcells : cells + 1 ≤ R.cells) (hslots : slots + N ≤ R.slots) (hdg : decode cc pc = .ok (.newarray .long, 2))
    (kk : ∀ (q : Nat) (H1 : Heap), IS p m c cc nL s args own D k A H1 locs (ws ++ [(q, .inl (k 1, N, .inr (.inl fun _ => 0)))]) → W p l e R s m args below meth c H1 locs (cells + 1) (slots + N) Q (F0 m (pc + 2) ls (.ref q :: rest))) : W p l e R s m args below meth c H locs cells slots Q (F0 m pc ls (.int n :: rest)) := by
  obtain ⟨hf, hE, hP, hD, hS, hA⟩ := h
  refine va_newa (atype := .long) (ty := .long) (a0 := (N, .inr (.inl fun _ => 0))) (D := D) (cl := zcls) hf.1 hf.2.1 (hf.2.2.2.2 _ (zw_of 0 107 rfl rfl)) rfl hE.1 hP hD hS hA (fun cA => rfl) hn hN hbytes hcells hslots hdg (fun q cA H1 hK hP1 hD1 hS1 => ?_)
  obtain rfl := iE_long hE.1 hK
  exact kk q H1 ⟨hf, hE, hP1, hD1, hS1, hA⟩
theorem i_newZ {n : Int32} {N : Nat} (h : IS p m c cc nL s args own D k A H locs ws) (hn : ¬ n < 0) (hN : n.toNatClampNeg = N) (hbytes : N * 1 ≤ 536870912) (hcells : cells + 1 ≤ R.cells) (hslots : slots + N ≤ R.slots) (hdg : decode cc pc = .ok (.newarray .boolean, 2))
    (kk : ∀ (q : Nat) (H1 : Heap), IS p m c cc nL s args own D k A H1 locs (ws ++ [(q, .inl (k 2, N, .inl fun _ => 0))]) → W p l e R s m args below meth c H1 locs (cells + 1) (slots + N) Q (F0 m (pc + 2) ls (.ref q :: rest))) : W p l e R s m args below meth c H locs cells slots Q (F0 m pc ls (.int n :: rest)) := by
  obtain ⟨hf, hE, hP, hD, hS, hA⟩ := h
  refine va_newa (atype := .boolean) (ty := .boolean) (a0 := (N, .inl fun _ => 0)) (D := D) (cl := zcls) hf.1 hf.2.1 (hf.2.2.2.2 _ (zw_of 0 56 rfl rfl)) rfl hE.1 hP hD hS hA (fun cA => rfl) hn hN hbytes hcells hslots hdg (fun q cA H1 hK hP1 hD1 hS1 => ?_)
  obtain rfl := iE_bool hE.1 hK
  exact kk q H1 ⟨hf, hE, hP1, hD1, hS1, hA⟩
theorem i_newP {n : Int32} {N index : Nat} (h : IS p m c cc nL s args own D k A H locs ws) (hcl : Jvm.Cond.classLink own index "ThreeStrandMaps$PairMap" ∈ zTw) (hn : ¬ n < 0) (hN : n.toNatClampNeg = N) (hbytes : N * 4 ≤ 536870912) (hcells : cells + 1 ≤ R.cells) (hslots : slots + N ≤ R.slots) (hdg : decode cc pc = .ok (.anewarray index, 3))
    (kk : ∀ (q : Nat) (H1 : Heap), IS p m c cc nL s args own D k A H1 locs (ws ++ [(q, .inl (k 3, N, .inr (.inr (.inr (.inr fun _ => none)))))]) → W p l e R s m args below meth c H1 locs (cells + 1) (slots + N) Q (F0 m (pc + 3) ls (.ref q :: rest))) : W p l e R s m args below meth c H locs cells slots Q (F0 m pc ls (.int n :: rest)) := by
  obtain ⟨hf, hE, hP, hD, hS, hA⟩ := h
  refine va_newq (C := "ThreeStrandMaps$PairMap") (D := D) (cl := zcls) hf.1 hf.2.1 hf.2.2.2.1 (hf.2.2.2.2 _ hcl) hE.2.1 hE.1 hP hD hS hA hn hN hbytes hcells hslots hdg (fun q cA H1 hK hP1 hD1 hS1 => ?_)
  obtain rfl := iE_pm hE.1 hK
  exact kk q H1 ⟨hf, hE, hP1, hD1, hS1, hA⟩
theorem i_newB {n : Int32} {N index : Nat} (h : IS p m c cc nL s args own D k A H locs ws) (hcl : Jvm.Cond.classLink own index "ThreeStrandMaps$Braid" ∈ zTw) (hn : ¬ n < 0) (hN : n.toNatClampNeg = N) (hbytes : N * 4 ≤ 536870912) (hcells : cells + 1 ≤ R.cells) (hslots : slots + N ≤ R.slots) (hdg : decode cc pc = .ok (.anewarray index, 3))
    (kk : ∀ (q : Nat) (H1 : Heap), IS p m c cc nL s args own D k A H1 locs (ws ++ [(q, .inl (k 4, N, .inr (.inr (.inr (.inr fun _ => none)))))]) → W p l e R s m args below meth c H1 locs (cells + 1) (slots + N) Q (F0 m (pc + 3) ls (.ref q :: rest))) : W p l e R s m args below meth c H locs cells slots Q (F0 m pc ls (.int n :: rest)) := by
  obtain ⟨hf, hE, hP, hD, hS, hA⟩ := h
  refine va_newq (C := "ThreeStrandMaps$Braid") (D := D) (cl := zcls) hf.1 hf.2.1 hf.2.2.2.1 (hf.2.2.2.2 _ hcl) hE.2.2.1 hE.1 hP hD hS hA hn hN hbytes hcells hslots hdg (fun q cA H1 hK hP1 hD1 hS1 => ?_)
  obtain rfl := iE_br hE.1 hK
  exact kk q H1 ⟨hf, hE, hP1, hD1, hS1, hA⟩
theorem i_new {C : String} {T : u_T} {N ci index : Nat} {fs : List Value} (h : IS p m c cc nL s args own D k A H locs ws) (hc : zcls[ci]? = some (C, T, N)) (hcl : Jvm.Cond.classLink own index C ∈ zTw) (hi : Jvm.Cond.instantiable C N ∈ zTw) (hini : Jvm.Cond.initialized C ∈ zTw) (hfs : ∀ j, j < N → defaultValue ((parseFieldDescriptor (T j).2.2.1).getD .int) = vp_V fs j) (hcells : cells + 1 ≤ R.cells) (hslots : slots + N ≤ R.slots) (hdg : decode cc pc = .ok (.new index, 3))
    (kk : ∀ (q : Nat) (H1 : Heap), IS p m c cc nL s args own D k A H1 locs (ws ++ [(q, .inr (ci, fs))]) → W p l e R s m args below meth c H1 locs (cells + 1) (slots + N) Q (F0 m (pc + 3) ls (.ref q :: rest))) : W p l e R s m args below meth c H locs cells slots Q (F0 m pc ls rest) := by
  obtain ⟨hf, hE, hP, hD, hS, hA⟩ := h
  refine va_new (D := D) (cl := zcls) (ci := ci) (C := C) (T := T) (N := N) (fs := fs) hf.1 hf.2.1 hf.2.2.2.2 (zuws hc) (fun j => (parseFieldDescriptor (T j).2.2.1).getD .int) (fun j hj => ?_) hf.2.2.2.1 (hf.2.2.2.2 _ hcl) (hf.2.2.2.2 _ hi) (hf.2.2.2.2 _ hini) hE.1 hP hD hS hA hc hfs hcells hslots hdg (fun q H1 hP1 hD1 hS1 => kk q H1 ⟨hf, hE, hP1, hD1, hS1, hA⟩)
  obtain ⟨t, ht⟩ := Option.isSome_iff_exists.mp (ztyp _ (List.mem_of_getElem? hc) j hj)
  have ht : parseFieldDescriptor (T j).2.2.1 = some t := ht
  rw [ht]; rfl
theorem i_put {C : String} {T : u_T} {N ci index a q0 f : Nat} {fs : List Value} {v : Value} {ty : FieldType} (h : IS p m c cc nL s args own D k A H locs ws) (hin : meth.name = "<init>") (he : ws[q0]? = some (a, .inr (ci, fs))) (hc : zcls[ci]? = some (C, T, N)) (hN : f < N) (hw : Jvm.Cond.fieldLink own index (T f).1 (T f).2.1 (T f).2.2.1 ∈ zTw) (hdecl : (T f).1 = own) (hty : parseFieldDescriptor (T f).2.2.1 = some ty) (hnr : narrow ty v = v) (hfit : fits ty v = true) (hl : f < fs.length) (hd : decode cc pc = .ok (.putfield index, 3))
    (kk : ∀ (H1 : Heap) (locs1 : List Loc), IS p m c cc nL s args own D k A H1 locs1 (ws.set q0 (a, .inr (ci, fs.set f v))) → W p l e R s m args below meth c H1 locs1 cells slots Q (F0 m (pc + 3) ls rest)) : W p l e R s m args below meth c H locs cells slots Q (F0 m pc ls (v :: .ref a :: rest)) := by
  obtain ⟨hf, hE, hP, hD, hS, hA⟩ := h
  have hcm := List.mem_of_getElem? hc
  have hty2 : ∀ j, j < N → parseFieldDescriptor (T j).2.2.1 = some ((parseFieldDescriptor (T j).2.2.1).getD .int) := fun j hj => by
    obtain ⟨t, ht⟩ := Option.isSome_iff_exists.mp (ztyp _ hcm j hj)
    have ht : parseFieldDescriptor (T j).2.2.1 = some t := ht
    rw [ht]; rfl
  cases hfin : (T f).2.2.2 with
  | true => exact va_putF (D := D) (ci := ci) (C := C) (T := T) (N := N) (ty := ty) (v := v) hf.1 hf.2.1 hf.2.2.2.2 (zuws hc) (fun j => (parseFieldDescriptor (T j).2.2.1).getD .int) hty2 (zname _ hcm) hf.2.2.2.1 hE.1 hP hD hS q0 he hc f hN (hf.2.2.2.2 _ hw) (fun _ h => h) hfin hin hdecl hty hnr hfit hl hd (fun H1 locs1 hP1 hD1 hS1 => kk H1 locs1 ⟨hf, hE, hP1, hD1, hS1, hA⟩)
  | false => exact va_put (D := D) (ci := ci) (C := C) (T := T) (N := N) (ty := ty) (v := v) hf.1 hf.2.1 hf.2.2.2.2 (zuws hc) (fun j => (parseFieldDescriptor (T j).2.2.1).getD .int) hty2 (zname _ hcm) hf.2.2.2.1 hE.1 hP hD hS q0 he hc f hN (hf.2.2.2.2 _ hw) (fun _ h => h) hfin hty hnr hfit hl hd (fun H1 locs1 hP1 hD1 hS1 => kk H1 locs1 ⟨hf, hE, hP1, hD1, hS1, hA⟩)
theorem i_iast {a q0 n : Nat} {f : Nat → Int32} {i x : Int32} (h : IS p m c cc nL s args own D k A H locs ws) (ha : ws[q0]? = some (a, .inl (k 0, n, .inl f))) (hin : vp_in i n) (hd : decode cc pc = .ok (.iastore, 1))
    (kk : ∀ (H1 : Heap) (locs1 : List Loc), IS p m c cc nL s args own D k A H1 locs1 (ws.set q0 (a, .inl (k 0, n, .inl (upd f i.toNatClampNeg x)))) → W p l e R s m args below meth c H1 locs1 cells slots Q (F0 m (pc + 1) ls rest)) : W p l e R s m args below meth c H locs cells slots Q (F0 m pc ls (.int x :: .int i :: .ref a :: rest)) := by
  obtain ⟨hf, hE, hP, hD, hS, hA⟩ := h
  exact va_iast hf.1 hf.2.1 hE.1 hP hD hS q0 0 ha rfl hin hd (fun H1 locs1 hP1 hD1 hS1 => kk H1 locs1 ⟨hf, hE, hP1, hD1, hS1, hA⟩)
theorem i_aastP {a q0 n qk v : Nat} {vs : List Value} {f : Nat → Option Nat} {i : Int32} (h : IS p m c cc nL s args own D k A H locs ws) (ha : ws[q0]? = some (a, .inl (k 3, n, .inr (.inr (.inr (.inr f)))))) (hv : ws[qk]? = some (v, .inr (0, vs))) (hin : vp_in i n) (hd : decode cc pc = .ok (.aastore, 1))
    (kk : ∀ (H1 : Heap) (locs1 : List Loc), IS p m c cc nL s args own D k A H1 locs1 (ws.set q0 (a, .inl (k 3, n, .inr (.inr (.inr (.inr (va_up f i.toNatClampNeg (some v)))))))) → W p l e R s m args below meth c H1 locs1 cells slots Q (F0 m (pc + 1) ls rest)) : W p l e R s m args below meth c H locs cells slots Q (F0 m pc ls (.ref v :: .int i :: .ref a :: rest)) := by
  obtain ⟨hf, hE, hP, hD, hS, hA⟩ := h
  exact va_astq hf.1 hf.2.1 hE.1 hP hD hS q0 3 qk 0 ha rfl hv rfl hin hd (fun H1 locs1 hP1 hD1 hS1 => kk H1 locs1 ⟨hf, hE, hP1, hD1, hS1, hA⟩)
theorem i_aastB {a q0 n qk v : Nat} {vs : List Value} {f : Nat → Option Nat} {i : Int32} (h : IS p m c cc nL s args own D k A H locs ws) (ha : ws[q0]? = some (a, .inl (k 4, n, .inr (.inr (.inr (.inr f)))))) (hv : ws[qk]? = some (v, .inr (1, vs))) (hin : vp_in i n) (hd : decode cc pc = .ok (.aastore, 1))
    (kk : ∀ (H1 : Heap) (locs1 : List Loc), IS p m c cc nL s args own D k A H1 locs1 (ws.set q0 (a, .inl (k 4, n, .inr (.inr (.inr (.inr (va_up f i.toNatClampNeg (some v)))))))) → W p l e R s m args below meth c H1 locs1 cells slots Q (F0 m (pc + 1) ls rest)) : W p l e R s m args below meth c H locs cells slots Q (F0 m pc ls (.ref v :: .int i :: .ref a :: rest)) := by
  obtain ⟨hf, hE, hP, hD, hS, hA⟩ := h
  exact va_astq hf.1 hf.2.1 hE.1 hP hD hS q0 4 qk 1 ha rfl hv rfl hin hd (fun H1 locs1 hP1 hD1 hS1 => kk H1 locs1 ⟨hf, hE, hP1, hD1, hS1, hA⟩)
theorem i_get {C : String} {T : u_T} {N ci index a q0 f : Nat} {fs : List Value} {v : Value} (h : IS p m c cc nL s args own D k A H locs ws) (he : ws[q0]? = some (a, .inr (ci, fs))) (hc : zcls[ci]? = some (C, T, N)) (hN : f < N) (hw : Jvm.Cond.fieldLink own index (T f).1 (T f).2.1 (T f).2.2.1 ∈ zTw) (hv : fs[f]? = some v) (hd : decode cc pc = .ok (.getfield index, 3))
    (kk : W p l e R s m args below meth c H locs cells slots Q (F0 m (pc + 3) ls (v :: rest))) : W p l e R s m args below meth c H locs cells slots Q (F0 m pc ls (.ref a :: rest)) := by
  obtain ⟨hf, hE, hP, hD, hS, hA⟩ := h
  exact va_get (D := D) (ci := ci) (C := C) (T := T) (N := N) hf.1 hf.2.1 hf.2.2.2.2 (zuws hc) hf.2.2.2.1 hE.1 hP q0 he hc f hN (hf.2.2.2.2 _ hw) (fun _ h => h) hv hd kk
theorem i_obj {idx a : Nat} (h : IS p m c cc nL s args own D k A H locs ws) (hls : ls.size = nL) (hw : Jvm.Cond.methodLink own idx Lib.objectInit ∈ zTw) (hd : decode cc pc = .ok (.invokespecial idx, 3)) (hfr : 1 ≤ R.frames) (hlo : 12 ≤ R.locals)
    (kk : W p l e R s m args below meth c H locs cells slots Q (F0 m (pc + 3) ls [])) : W p l e R s m args below meth c H locs cells slots Q (F0 m pc ls [.ref a]) := by
  obtain ⟨hf, hE, hP, hD, hS, hA⟩ := h
  refine W.objInit hf.1 hf.2.1 hf.2.2.2.1 (hf.2.2.2.2 _ hw) (hf.2.2.2.2 _ (zw_of 0 22 rfl rfl)) (hf.2.2.2.2 _ (zw_of 0 23 rfl rfl)) rfl (by rw [hf.2.2.1]; exact hls) rfl hd hfr hlo ?_
  exact W.eq (g2 := F0 m (pc + 3) ls []) rfl kk
theorem i_call {y : MethodName} {b : ByteArray} {ml fr mc ms lo ci idx q : Nat} {fs0 : List Value} {sh : (Nat → ClassId) → Nat → (Nat → Nat) → va_W} (hc : CI y b ml fr mc ms lo ci fs0 sh) (h : IS p m c cc nL s args own D k A H locs (ws ++ [(q, .inr (ci, fs0))])) (hls : ls.size = nL) (hw1 : Jvm.Cond.code y b ml none ∈ zTw) (hw2 : Jvm.Cond.initialized y.cls ∈ zTw) (hw3 : Jvm.Cond.methodLink own idx y ∈ zTw) (hw4 : Jvm.Cond.instanceMethod y ∈ zTw) (hn : y.name = "<init>") (hy : y.cls ≠ "java/lang/invoke/MethodHandle" ∧ y.cls ≠ "java/lang/invoke/VarHandle" ∧ (parseMethodDescriptor y.desc).map (fun d => d.parameters.length) = some 0) (hR : fr + 1 ≤ R.frames ∧ 8 + (ml + 11) + lo ≤ R.locals) (hrest : (rest.map fun v => v.category).sum ≤ 8) (hd : decode cc pc = .ok (.invokespecial idx, 3)) (hcs : cells + mc ≤ R.cells ∧ slots + ms ≤ R.slots)
    (kk : ∀ (u : Nat → Nat) (H1 : Heap) (locs1 : List Loc), IS p m c cc nL s args own D k A H1 locs1 (ws ++ sh k q u) → W p l e R s m args below meth c H1 locs1 (cells + mc) (slots + ms) Q (F0 m (pc + 3) ls rest)) : W p l e R s m args below meth c H locs cells slots Q (F0 m pc ls (.ref q :: rest)) := by
  obtain ⟨hf, hE, hP, hD, hS, hA⟩ := h
  have hx : (ws ++ [(q, (.inr (ci, fs0) : va_E))])[ws.length]? = some (q, .inr (ci, fs0)) := by
    rw [List.getElem?_append_right (Nat.le_refl _), Nat.sub_self]; rfl
  have hPx : va_P D zcls [(q, .inr (ci, fs0))] H := hP.sub [ws.length] (by simp)
  have hDx : va_D A [(q, .inr (ci, fs0))] := hD.sub [ws.length] (by rfl) (by simp)
  have hFx : ∀ z, va_A [(q, .inr (ci, fs0))] H.size z → A z := va_free hD hS hA [ws.length] (by simp)
  refine va_callv (va_runI (As := []) (rest := rest) hf (hc l D k q H.size) (cwI 0 hf.2.2.2.2 (zgood (fun w hw => by
    rcases List.mem_cons.mp hw with h1 | h1
    · rw [h1]; exact hw1
    · exact h1)) rfl rfl rfl (hf.2.2.2.2 _ hw2) (hf.2.2.2.2 _ hw3) (hf.2.2.2.2 _ hw4) hn hy hR) ⟨fun a U g mk z => by obtain ⟨z0, z1, zP, zE, zD⟩ := z; exact ⟨z0, z1, zP, iE_call (u := U) (U := U.calling g mk a) rfl (Vm.Alike.refl U.vm) zE, zD⟩, fun U hU hW => ⟨rfl, by rw [hU], by rw [hU]; exact hPx, iE_warm hW hE, hDx.weaken (fun _ _ _ _ => trivial)⟩⟩ rfl rfl hls rfl (lv_room hrest) hd hcs) hS (fun z _ h => hFx z h) hFx (fun u t H1 locs1 ht hvm hw hB hz1 hk1 hS1 => ?_)
  obtain ⟨hP1, hD1⟩ := hB
  rw [ht] at hP1
  obtain ⟨hP2, hD2⟩ := i_join hP hD hk1 hFx hP1 hD1
  exact kk u H1 locs1 ⟨hf, hE, hP2, hD2, hS1, hA⟩
theorem i_callN {y : MethodName} {host : String} {b : ByteArray} {ml fr mc ms lo ci idx q : Nat} {fs0 : List Value} {sh : (Nat → ClassId) → Nat → (Nat → Nat) → va_W} (hc : CI y b ml fr mc ms lo ci fs0 sh) (h : IS p m c cc nL s args own D k A H locs (ws ++ [(q, .inr (ci, fs0))])) (hls : ls.size = nL) (hw1 : Jvm.Cond.code y b ml none ∈ zTw) (hw2 : Jvm.Cond.initialized y.cls ∈ zTw) (hw3 : Jvm.Cond.methodLinkNest own idx y host ∈ znest) (hw4 : Jvm.Cond.instanceMethod y ∈ zTw) (hn : y.name = "<init>") (hy : y.cls ≠ "java/lang/invoke/MethodHandle" ∧ y.cls ≠ "java/lang/invoke/VarHandle" ∧ (parseMethodDescriptor y.desc).map (fun d => d.parameters.length) = some 0) (hR : fr + 1 ≤ R.frames ∧ 8 + (ml + 11) + lo ≤ R.locals) (hrest : (rest.map fun v => v.category).sum ≤ 8) (hd : decode cc pc = .ok (.invokespecial idx, 3)) (hcs : cells + mc ≤ R.cells ∧ slots + ms ≤ R.slots)
    (kk : ∀ (u : Nat → Nat) (H1 : Heap) (locs1 : List Loc), IS p m c cc nL s args own D k A H1 locs1 (ws ++ sh k q u) → W p l e R s m args below meth c H1 locs1 (cells + mc) (slots + ms) Q (F0 m (pc + 3) ls rest)) : W p l e R s m args below meth c H locs cells slots Q (F0 m pc ls (.ref q :: rest)) := by
  obtain ⟨hf, hE, hP, hD, hS, hA⟩ := h
  have hx : (ws ++ [(q, (.inr (ci, fs0) : va_E))])[ws.length]? = some (q, .inr (ci, fs0)) := by
    rw [List.getElem?_append_right (Nat.le_refl _), Nat.sub_self]; rfl
  have hPx : va_P D zcls [(q, .inr (ci, fs0))] H := hP.sub [ws.length] (by simp)
  have hDx : va_D A [(q, .inr (ci, fs0))] := hD.sub [ws.length] (by rfl) (by simp)
  have hFx : ∀ z, va_A [(q, .inr (ci, fs0))] H.size z → A z := va_free hD hS hA [ws.length] (by simp)
  refine va_callv (va_runIN (As := []) (rest := rest) hf (hc l D k q H.size) ⟨va_cnB 0 hf.2.2.2.2 (zgood (fun w hw => by
    rcases List.mem_cons.mp hw with h1 | h1
    · rw [h1]; exact hw1
    · exact h1)) rfl rfl rfl (hE.2.2.2 _ hw3) (hf.2.2.2.2 _ hw2) hy hR, hn, hf.2.2.2.2 _ hw4⟩ ⟨fun a U g mk z => by obtain ⟨z0, z1, zP, zE, zD⟩ := z; exact ⟨z0, z1, zP, iE_call (u := U) (U := U.calling g mk a) rfl (Vm.Alike.refl U.vm) zE, zD⟩, fun U hU hW => ⟨rfl, by rw [hU], by rw [hU]; exact hPx, iE_warm hW hE, hDx.weaken (fun _ _ _ _ => trivial)⟩⟩ rfl rfl hls rfl (lv_room hrest) hd hcs) hS (fun z _ h => hFx z h) hFx (fun u t H1 locs1 ht hvm hw hB hz1 hk1 hS1 => ?_)
  obtain ⟨hP1, hD1⟩ := hB
  rw [ht] at hP1
  obtain ⟨hP2, hD2⟩ := i_join hP hD hk1 hFx hP1 hD1
  exact kk u H1 locs1 ⟨hf, hE, hP2, hD2, hS1, hA⟩
end
def iQ (below : List Frame) (D : va_G) (k : Nat → ClassId) (A : Nat → Prop) (h0 : Nat) (sh : (Nat → ClassId) → Nat → (Nat → Nat) → va_W) (s : State) (mc ms : Nat) : State → Prop := MQ below (va_Qv (fun _ : Nat → Nat => True) (fun u t => va_P D zcls (sh k h0 u) t.heap ∧ va_D A (sh k h0 u)) A) [Value.ref h0].toArray s mc ms A
set_option maxHeartbeats 1000000 in
theorem i_enter {y : MethodName} {b : ByteArray} {ml fr mc ms lo ci : Nat} {fs0 : List Value} {sh : (Nat → ClassId) → Nat → (Nat → Nat) → va_W} (hy : plainName y.cls = true) (hn : y.name = "<init>") (hml : 1 ≤ ml)
    (body : ∀ (p : Program) (l : Launch) (e : Env) (s : State) (m : MethodId) (below : List Frame) (meth : Method) (c : Code) (D : va_G) (k : Nat → ClassId) (h0 : Nat) (ls : Array Slot) (A : Nat → Prop), meth.sig.returnType = none → meth.name = "<init>" → meth.locks = false → IS p m c b ml s [Value.ref h0].toArray y.cls D k A s.heap [] [(h0, .inr (ci, fs0))] → lv_has ls ml [(0, .ref h0)] →
      (∀ (u : Nat → Nat) (pc : Nat) (H : Heap) (locs : List Loc) (ls : Array Slot), IS p m c b ml s [Value.ref h0].toArray y.cls D k A H locs (sh k h0 u) → decode b pc = .ok (.return_, 1) → W p l e ({ frames := fr, cells := mc, slots := ms, locals := lo }) s m [Value.ref h0].toArray below meth c H locs mc ms (iQ below D k A h0 sh s mc ms) (F0 m pc ls [])) →
      W p l e ({ frames := fr, cells := mc, slots := ms, locals := lo }) s m [Value.ref h0].toArray below meth c s.heap [] 0 0 (iQ below D k A h0 sh s mc ms) (F0 m 0 ls [])) : CI y b ml fr mc ms lo ci fs0 sh := by
  intro l D k h0 sz
  refine Met.ofW (cc := b) (maxL := ml) (ret := none) hy rfl ?_
  intro p e s m args below meth c s₁ B hml2 hv
  obtain ⟨rfl, hsz, hP, hE, hD⟩ := hv
  subst hsz
  have hts := atoms_spec (ws := Jvm.Cond.code y b ml none :: zTw) B.pre
  have hown : s.vm.findClass y.cls = some m.cls := findClass_of_methodNamed B.named
  have hl := lv_entry ([.ref h0]) (n := ml) hml
  have hin : meth.name = "<init>" := ((name_of_methodNamed B.named B.method).1).trans hn
  rw [lg_entry_eq]
  have hD2 := hD.self (sz := s.heap.size)
  generalize hAe : va_A [(h0, (.inr (ci, fs0) : va_E))] s.heap.size = A at hD2 ⊢
  have hA : ∀ q : Nat, s.heap.size ≤ q → A q := fun q h => by rw [← hAe]; exact Or.inr h
  refine body p l e s m below meth c D k h0 _ A B.returns hin B.notSynchronized ⟨⟨B.exec, B.bytes, hml2, hown, fun w hw => hts w (List.mem_cons_of_mem _ hw)⟩, hE, hP, hD2, va_S.rf, hA⟩ hl (fun u pc H locs ls h hd => ?_)
  exact W.vret h.1.1 h.1.2.1 B.returns (fun t ht hW => ⟨⟨u, rfl, trivial, by rw [ht]; exact h.2.2.1, h.2.2.2.1⟩, h.2.2.2.2.1.F ht⟩) h.2.2.2.2.1.2.2 hd
