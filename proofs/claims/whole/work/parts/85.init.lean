/-! rules for constructors: the world is a list of cells that grows -/
def itys (k : Nat → ClassId) : List (ClassId × FieldType) := [(k 0, .int), (k 1, .long), (k 2, .boolean), (k 3, .object "ThreeStrandMaps$PairMap"), (k 4, .object "ThreeStrandMaps$Braid")]
def iE (D : va_G) (k : Nat → ClassId) (U : State) : Prop := va_K D zcls (itys k) U ∧ va_AO "ThreeStrandMaps$PairMap" U ∧ va_AO "ThreeStrandMaps$Braid" U
theorem iE_moved {D : va_G} {k : Nat → ClassId} {u U : State} (hvm : u.vm.Alike U.vm) (h : iE D k u) : iE D k U := ⟨va_K.moved hvm h.1, h.2.1.moved hvm, h.2.2.moved hvm⟩
theorem iE_int {D : va_G} {k : Nat → ClassId} {U : State} {cA : ClassId} (h : va_K D zcls (itys k) U) (h2 : va_K D zcls (itys k ++ [(cA, .int)]) U) : cA = k 0 :=
  Option.some.inj ((va_nm_int (h2.2 5 _ rfl).2).symm.trans (va_nm_int (h.2 0 _ rfl).2))
theorem iE_long {D : va_G} {k : Nat → ClassId} {U : State} {cA : ClassId} (h : va_K D zcls (itys k) U) (h2 : va_K D zcls (itys k ++ [(cA, .long)]) U) : cA = k 1 :=
  Option.some.inj ((va_nm_long (h2.2 5 _ rfl).2).symm.trans (va_nm_long (h.2 1 _ rfl).2))
theorem iE_bool {D : va_G} {k : Nat → ClassId} {U : State} {cA : ClassId} (h : va_K D zcls (itys k) U) (h2 : va_K D zcls (itys k ++ [(cA, .boolean)]) U) : cA = k 2 :=
  Option.some.inj ((va_nm_boolean (h2.2 5 _ rfl).2).symm.trans (va_nm_boolean (h.2 2 _ rfl).2))
theorem iE_pm {D : va_G} {k : Nat → ClassId} {U : State} {cA : ClassId} (h : va_K D zcls (itys k) U) (h2 : va_K D zcls (itys k ++ [(cA, .object "ThreeStrandMaps$PairMap")]) U) : cA = k 3 :=
  Option.some.inj ((va_nmO (h2.2 5 _ rfl).2 rfl).symm.trans (va_nmO (h.2 3 _ rfl).2 rfl))
theorem iE_br {D : va_G} {k : Nat → ClassId} {U : State} {cA : ClassId} (h : va_K D zcls (itys k) U) (h2 : va_K D zcls (itys k ++ [(cA, .object "ThreeStrandMaps$Braid")]) U) : cA = k 4 :=
  Option.some.inj ((va_nmO (h2.2 5 _ rfl).2 rfl).symm.trans (va_nmO (h.2 4 _ rfl).2 rfl))
def IS (p : Program) (m : MethodId) (c : Code) (cc : ByteArray) (nL : Nat) (s : State) (args : Array Value) (own : String) (D : va_G) (k : Nat → ClassId) (A : Nat → Prop) (H : Heap) (locs : List Loc) (ws : va_W) : Prop :=
  CallFix p m c cc nL s args zTw own ∧ iE D k s ∧ va_P D zcls ws H ∧ va_D A ws ∧ va_S A s.heap H locs ∧ ∀ q : Nat, s.heap.size ≤ q → A q
def CI (y : MethodName) (b : ByteArray) (ml fr mc ms lo ci : Nat) (fs0 : List Value) (sh : (Nat → ClassId) → Nat → (Nat → Nat) → va_W) : Prop :=
  ∀ (l : Launch) (D : va_G) (k : Nat → ClassId) (h0 sz : Nat), Met l y (Jvm.Cond.code y b ml none :: zTw) ({ frames := fr, cells := mc, slots := ms, locals := lo }) (va_Pc [.ref h0] (fun U => U.heap.size = sz ∧ va_P D zcls [(h0, .inr (ci, fs0))] U.heap ∧ iE D k U ∧ va_D (fun _ => True) [(h0, .inr (ci, fs0))])) (va_Qv (fun _ : Nat → Nat => True) (fun u t => va_P D zcls (sh k h0 u) t.heap ∧ va_D (va_A [(h0, .inr (ci, fs0))] sz) (sh k h0 u)) (va_A [(h0, .inr (ci, fs0))] sz)) mc ms (va_A [(h0, .inr (ci, fs0))] sz)
theorem i_join {D : va_G} {A0 : Nat → Prop} {H H1 : Heap} {wr w1 : va_W} {x : Nat × va_E} (hP : va_P D zcls (wr ++ [x]) H) (hD : va_D A0 (wr ++ [x])) (hk : ∀ q : Nat, q < H.size → ¬ va_A [x] H.size q → H1[q]? = H[q]?) (hF : ∀ q, va_A [x] H.size q → A0 q) (hP1 : va_P D zcls w1 H1) (hD1 : va_D (va_A [x] H.size) w1) : va_P D zcls (wr ++ w1) H1 ∧ va_D A0 (wr ++ w1) := by
  have hl : ∀ (j : Nat) (q : Nat × va_E), wr[j]? = some q → (wr ++ [x])[j]? = some q := fun j q hj => by
    rw [List.getElem?_append_left (List.getElem?_eq_some_iff.mp hj).1]; exact hj
  have hx : (wr ++ [x])[wr.length]? = some x := by
    rw [List.getElem?_append_right (Nat.le_refl _), Nat.sub_self]; rfl
  have hne : ∀ (j : Nat) (q : Nat × va_E), wr[j]? = some q → q.1 ≠ x.1 := fun j q hj he => by
    have h1 := hD.1 j wr.length q x (hl j q hj) hx he
    have h2 := (List.getElem?_eq_some_iff.mp hj).1
    omega
  have hlt : ∀ (j : Nat) (q : Nat × va_E), wr[j]? = some q → q.1 < H.size := fun j q hj => (hP j q (hl j q hj)).lt
  have hno : ∀ (j : Nat) (q : Nat × va_E), wr[j]? = some q → ¬ va_A [x] H.size q.1 := fun j q hj h => by
    rcases h with ⟨i, e, hi⟩ | h
    · have hi0 : i = 0 := by
        have := (List.getElem?_eq_some_iff.mp hi).1
        simp at this
        omega
      subst hi0
      have h2 : x = (q.1, e) := Option.some.inj hi
      exact hne j q hj (by rw [h2])
    · have := hlt j q hj; omega
  have hPr : va_P D zcls wr H := fun j q hj => hP j q (hl j q hj)
  have hDr : va_D A0 wr := ⟨fun i j p q hi hj he => hD.1 i j p q (hl i p hi) (hl j q hj) he, fun j q hj => hD.2 j q (hl j q hj)⟩
  refine ⟨(hPr.kept fun j q hj => hk q.1 (hlt j q hj) (hno j q hj)).app hP1, hDr.app (hD1.weaken fun _ _ _ h => hF _ h) fun i j p q hi hj he => hno i p hi ?_⟩
  rw [he]
  exact hD1.2 j q hj
section
variable {p : Program} {l : Launch} {e : Env} {R : Room} {s : State} {m : MethodId} {args : Array Value} {below : List Frame} {meth : Method} {c : Code} {H : Heap} {locs : List Loc} {cells slots : Nat} {Q : State → Prop}
variable {cc : ByteArray} {pc nL : Nat} {ls : Array Slot} {rest : List Value} {own : String} {D : va_G} {k : Nat → ClassId} {A : Nat → Prop} {ws : va_W}
theorem i_newI {n : Int32} {N : Nat} (h : IS p m c cc nL s args own D k A H locs ws) (hn : ¬ n < 0) (hN : n.toNatClampNeg = N) (hbytes : N * 4 ≤ 536870912) (hcells : cells + 1 ≤ R.cells) (hslots : slots + N ≤ R.slots) (hdg : decode cc pc = .ok (.newarray .int, 2))
    (kk : ∀ (q : Nat) (H1 : Heap), IS p m c cc nL s args own D k A H1 locs (ws ++ [(q, .inl (k 0, N, .inl fun _ => 0))]) → W p l e R s m args below meth c H1 locs (cells + 1) (slots + N) Q (F0 m (pc + 2) ls (.ref q :: rest))) : W p l e R s m args below meth c H locs cells slots Q (F0 m pc ls (.int n :: rest)) := by
  obtain ⟨hf, hE, hP, hD, hS, hA⟩ := h
  refine va_newa (atype := .int) (ty := .int) (a0 := (N, .inl fun _ => 0)) (D := D) (cl := zcls) hf.1 hf.2.1 (hf.2.2.2.2 _ (zTw_of 0 rfl rfl)) rfl hE.1 hP hD hS hA (fun cA => rfl) hn hN hbytes hcells hslots hdg (fun q cA H1 hK hP1 hD1 hS1 => ?_)
  obtain rfl := iE_int hE.1 hK
  exact kk q H1 ⟨hf, hE, hP1, hD1, hS1, hA⟩
end
