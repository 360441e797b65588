section
/-- a private method of a class that the tables say can be made, by its rows of tables_1 -/
def lw_okq (q : MethodName × Nat) : Prop := (q.1.cls ≠ "java/lang/invoke/MethodHandle" ∧ q.1.cls ≠ "java/lang/invoke/VarHandle") ∧ Cond.instantiable q.1.cls q.2 ∈ tables_1 ∧ Cond.privateMethod q.1 ∈ tables_1 ∧ Cond.instanceMethod q.1 ∈ tables_1
theorem lw_p0 : lw_okq (⟨"ThreeStrandMaps", "keepMade", "(I)I"⟩, 10) := ⟨⟨by decide +kernel, by decide +kernel⟩, List.mem_of_getElem? (i := 17) (by decide +kernel), List.mem_of_getElem? (i := 202) (by decide +kernel), List.mem_of_getElem? (i := 203) (by decide +kernel)⟩
theorem lw_p1 : lw_okq (⟨"ThreeStrandMaps", "mapAt", "(I)LThreeStrandMaps$PairMap;"⟩, 10) := ⟨⟨by decide +kernel, by decide +kernel⟩, List.mem_of_getElem? (i := 17) (by decide +kernel), List.mem_of_getElem? (i := 276) (by decide +kernel), List.mem_of_getElem? (i := 277) (by decide +kernel)⟩
theorem lw_p2 : lw_okq (⟨"ThreeStrandMaps$RowGroup", "add", "(I)V"⟩, 3) := ⟨⟨by decide +kernel, by decide +kernel⟩, List.mem_of_getElem? (i := 92) (by decide +kernel), List.mem_of_getElem? (i := 420) (by decide +kernel), List.mem_of_getElem? (i := 421) (by decide +kernel)⟩
theorem lw_p3 : lw_okq (⟨"ThreeStrandMaps$Renamings", "start", "()V"⟩, 1) := ⟨⟨by decide +kernel, by decide +kernel⟩, List.mem_of_getElem? (i := 82) (by decide +kernel), List.mem_of_getElem? (i := 435) (by decide +kernel), List.mem_of_getElem? (i := 436) (by decide +kernel)⟩
theorem lw_p4 : lw_okq (⟨"ThreeStrandMaps$Renamings", "isIsomorphism", "(LThreeStrandMaps$PairMap;LThreeStrandMaps$PairMap;)Z"⟩, 1) := ⟨⟨by decide +kernel, by decide +kernel⟩, List.mem_of_getElem? (i := 82) (by decide +kernel), List.mem_of_getElem? (i := 442) (by decide +kernel), List.mem_of_getElem? (i := 443) (by decide +kernel)⟩
theorem lw_p5 : lw_okq (⟨"ThreeStrandMaps$Renamings", "imageOf", "(I)I"⟩, 1) := ⟨⟨by decide +kernel, by decide +kernel⟩, List.mem_of_getElem? (i := 82) (by decide +kernel), List.mem_of_getElem? (i := 446) (by decide +kernel), List.mem_of_getElem? (i := 447) (by decide +kernel)⟩
theorem lw_p6 : lw_okq (⟨"ThreeStrandMaps$Renamings", "step", "(I)V"⟩, 1) := ⟨⟨by decide +kernel, by decide +kernel⟩, List.mem_of_getElem? (i := 82) (by decide +kernel), List.mem_of_getElem? (i := 453) (by decide +kernel), List.mem_of_getElem? (i := 454) (by decide +kernel)⟩
theorem lw_p7 : lw_okq (⟨"ThreeStrandMaps$Renamings", "swap", "(II)V"⟩, 1) := ⟨⟨by decide +kernel, by decide +kernel⟩, List.mem_of_getElem? (i := 82) (by decide +kernel), List.mem_of_getElem? (i := 457) (by decide +kernel), List.mem_of_getElem? (i := 458) (by decide +kernel)⟩
theorem lw_p8 : lw_okq (⟨"ThreeStrandMaps$Renamings", "renamedRows", "(LThreeStrandMaps$PairMap;)J"⟩, 1) := ⟨⟨by decide +kernel, by decide +kernel⟩, List.mem_of_getElem? (i := 82) (by decide +kernel), List.mem_of_getElem? (i := 490) (by decide +kernel), List.mem_of_getElem? (i := 491) (by decide +kernel)⟩
theorem lw_p9 : lw_okq (⟨"ThreeStrandMaps", "mapsHeld", "()I"⟩, 10) := ⟨⟨by decide +kernel, by decide +kernel⟩, List.mem_of_getElem? (i := 17) (by decide +kernel), List.mem_of_getElem? (i := 534) (by decide +kernel), List.mem_of_getElem? (i := 535) (by decide +kernel)⟩
theorem lw_p10 : lw_okq (⟨"ThreeStrandMaps", "pointsHeld", "()I"⟩, 10) := ⟨⟨by decide +kernel, by decide +kernel⟩, List.mem_of_getElem? (i := 17) (by decide +kernel), List.mem_of_getElem? (i := 538) (by decide +kernel), List.mem_of_getElem? (i := 539) (by decide +kernel)⟩
theorem lw_p11 : lw_okq (⟨"ThreeStrandMaps", "braidAt", "(I)LThreeStrandMaps$Braid;"⟩, 10) := ⟨⟨by decide +kernel, by decide +kernel⟩, List.mem_of_getElem? (i := 17) (by decide +kernel), List.mem_of_getElem? (i := 542) (by decide +kernel), List.mem_of_getElem? (i := 543) (by decide +kernel)⟩
theorem lw_p12 : lw_okq (⟨"ThreeStrandMaps$PairMap", "setShifted", "(LThreeStrandMaps$PairMap;I)V"⟩, 2) := ⟨⟨by decide +kernel, by decide +kernel⟩, List.mem_of_getElem? (i := 28) (by decide +kernel), List.mem_of_getElem? (i := 612) (by decide +kernel), List.mem_of_getElem? (i := 613) (by decide +kernel)⟩
theorem lw_p13 : lw_okq (⟨"ThreeStrandMaps$PairMap", "setBlock", "(LThreeStrandMaps$PairMap;LThreeStrandMaps$PairMap;II)V"⟩, 2) := ⟨⟨by decide +kernel, by decide +kernel⟩, List.mem_of_getElem? (i := 28) (by decide +kernel), List.mem_of_getElem? (i := 624) (by decide +kernel), List.mem_of_getElem? (i := 625) (by decide +kernel)⟩
def lw_privs_1 : List (MethodName × Nat) := [(⟨"ThreeStrandMaps", "keepMade", "(I)I"⟩, 10), (⟨"ThreeStrandMaps", "mapAt", "(I)LThreeStrandMaps$PairMap;"⟩, 10), (⟨"ThreeStrandMaps$RowGroup", "add", "(I)V"⟩, 3), (⟨"ThreeStrandMaps$Renamings", "start", "()V"⟩, 1), (⟨"ThreeStrandMaps$Renamings", "isIsomorphism", "(LThreeStrandMaps$PairMap;LThreeStrandMaps$PairMap;)Z"⟩, 1), (⟨"ThreeStrandMaps$Renamings", "imageOf", "(I)I"⟩, 1), (⟨"ThreeStrandMaps$Renamings", "step", "(I)V"⟩, 1), (⟨"ThreeStrandMaps$Renamings", "swap", "(II)V"⟩, 1), (⟨"ThreeStrandMaps$Renamings", "renamedRows", "(LThreeStrandMaps$PairMap;)J"⟩, 1), (⟨"ThreeStrandMaps", "mapsHeld", "()I"⟩, 10), (⟨"ThreeStrandMaps", "pointsHeld", "()I"⟩, 10), (⟨"ThreeStrandMaps", "braidAt", "(I)LThreeStrandMaps$Braid;"⟩, 10), (⟨"ThreeStrandMaps$PairMap", "setShifted", "(LThreeStrandMaps$PairMap;I)V"⟩, 2), (⟨"ThreeStrandMaps$PairMap", "setBlock", "(LThreeStrandMaps$PairMap;LThreeStrandMaps$PairMap;II)V"⟩, 2)]
theorem lw_r1 : ∀ q ∈ lw_privs_1, lw_okq q := List.forall_mem_cons.mpr ⟨lw_p0, List.forall_mem_cons.mpr ⟨lw_p1, List.forall_mem_cons.mpr ⟨lw_p2, List.forall_mem_cons.mpr ⟨lw_p3, List.forall_mem_cons.mpr ⟨lw_p4, List.forall_mem_cons.mpr ⟨lw_p5, List.forall_mem_cons.mpr ⟨lw_p6, List.forall_mem_cons.mpr ⟨lw_p7, List.forall_mem_cons.mpr ⟨lw_p8, List.forall_mem_cons.mpr ⟨lw_p9, List.forall_mem_cons.mpr ⟨lw_p10, List.forall_mem_cons.mpr ⟨lw_p11, List.forall_mem_cons.mpr ⟨lw_p12, List.forall_mem_cons.mpr ⟨lw_p13, fun _ h => absurd h List.not_mem_nil⟩⟩⟩⟩⟩⟩⟩⟩⟩⟩⟩⟩⟩⟩
def lw_privs : List (MethodName × Nat) := lw_privs_1
def lw_tbl : List Cond := k2_sels lw_privs ++ tables_1
theorem lw_privs_ok : ∀ q ∈ lw_privs, lw_okq q := lw_r1
/-! THE CLAIM OUT OF ONE WALK OF THE LAW'S BODY. Your part is whole_start (and what it stands on); all else here is the same for every law, but numbers. -/
def R_law : String := "ThreeStrandMapsLaw"
def lw_P (b : Addr) (xs : List Int32) (args : Array Value) (s : State) : Prop := args = #[.ref b] ∧ s.IntsAt b xs ∧ xs.length ≤ 260 ∧ (Jvm.Cond.and given_1 narrow_1).before args s = true
def lw_Q (_ : Array Value) (s : State) (o : Outcome) (t : State) : Prop := o = .returned (some (.int 1)) ∧ Framed s o t [] 600000 7302250
def lw_Z (below : List Frame) (a : Array Value) (s : State) : State → Prop := fun t => ∃ o, t.status = .running ∧ Ended t below o ∧ lw_Q a s o t
/-- the law's own end, with 1 on the stack, nothing written that was there before, its room as the claim has it -/
theorem lw_ret {p : Program} {l : Launch} {e : Env} {s : State} {m : MethodId} {below : List Frame} {meth : Method} {c : Code} {b : Nat} (hx : p.tables.exec = Jvm.exec) (hb : c.code = code) (hr : meth.sig.returnType = ret) (hlocks : meth.locks = false) {pc : Nat} {H : Heap} {ls : Array Slot} (hdg : decode code pc = .ok (.ireturn, 1)) : W p l e room_1 s m #[Value.ref b] below meth c H [] 600000 7302250 (lw_Z below #[Value.ref b] s) (F0 m pc ls [.int 1]) := by
  intro T hT X
  obtain ⟨fs, hret, hrun, hended, hW, hframe⟩ := X.leave (v := some (.int 1)) (hlocks := hlocks) (fun h => by rw [hr] at h; cases h)
  have hmeth' : T.vm.method? m = some meth := X.method'
  refine ⟨T.setFrames fs, ?_, .returned (some (.int 1)), hrun, hended, rfl, ⟨_, rfl⟩, hW, hframe⟩
  jvm_step X.here [X.here.top, hx, hb, hdg, hmeth', hr, ret, narrow_b1]
  (try refine ⟨rfl, ?_⟩); (try refine ⟨rfl, ?_⟩)
  first | (intro acts; rw [hret _ acts rfl rfl rfl]) | rw [hret _ _ rfl rfl rfl]
  exact Steps.refl _
/-- what holds at the law's entry: the machine, the code, the tables' words (any of lw_tbl by 'hts w (by decide +kernel)'), the script of L ints xs at the cell b, what the Statement gives of the start (any of its parts by flat_of_before) -/
def lw_At (p : Program) (s : State) (m : MethodId) (meth : Method) (c : Code) (b L : Nat) (xs : Nat → Int32) : Prop :=
  p.tables.exec = Jvm.exec ∧ c.code = code ∧ meth.sig.returnType = ret ∧ c.maxLocals = 10 ∧ s.vm.findClass R_law = some m.cls ∧ (∀ w ∈ lw_tbl, w.before #[Value.ref b] s = true) ∧ va_X b L xs s s.heap ∧ b < s.heap.size ∧ meth.locks = false ∧ (Jvm.Cond.and given_1 narrow_1).before #[Value.ref b] s = true
end
section
/-! values, memory, places: the cells of the whole world by kind and number -/
abbrev ZV : Type := Int32 ⊕ (Int64 ⊕ (Nat × Nat))
abbrev zi (x : Int32) : ZV := Sum.inl x
abbrev zl (x : Int64) : ZV := Sum.inr (Sum.inl x)
abbrev zr (k i : Nat) : ZV := Sum.inr (Sum.inr (k, i))
abbrev ZM : Type := (Nat → Nat → Nat → Int32) × (Nat → Nat → Nat → Int64)
abbrev ZL : Type := List (Nat × ZV)
abbrev ZG : Type := Launch × ((Nat → Nat → Nat) × (va_G × ((Nat → ClassId) × ((Nat → Prop) × (Nat × (Nat → Int32))))))
def gl (G : ZG) : Launch := G.1
def ga (G : ZG) : Nat → Nat → Nat := G.2.1
def gD (G : ZG) : va_G := G.2.2.1
def gc (G : ZG) : Nat → ClassId := G.2.2.2.1
def gA (G : ZG) : Nat → Prop := G.2.2.2.2.1
def gN (G : ZG) : Nat := G.2.2.2.2.2.1
def gX (G : ZG) : Nat → Int32 := G.2.2.2.2.2.2
def zc (G : ZG) (v : ZV) : Value := match v with
  | .inl x => .int x
  | .inr (.inl x) => .long x
  | .inr (.inr q) => .ref (ga G q.1 q.2)
def zcat (v : ZV) : Nat := match v with
  | .inl _ => 1
  | .inr (.inl _) => 2
  | .inr (.inr _) => 1
theorem zcat_eq (G : ZG) (v : ZV) : (zc G v).category = zcat v := by
  rcases v with x | x | x <;> rfl
def zct : List ZV → Nat
  | [] => 0
  | v :: r => zcat v + zct r
theorem zct_eq (G : ZG) (st : List ZV) : ((st.map (zc G)).map fun v => v.category).sum = zct st := by
  induction st with
  | nil => rfl
  | cons v r ih => simp only [List.map_cons, List.sum_cons, ih, zcat_eq, zct]
/-- a field: a number, or the cell that it holds for ever (its kind; its number; or the number of the object itself) -/
abbrev ZF : Type := Option (Nat × Nat × Bool)
/-- a kind: objects (class, fields) or arrays (0 int, 1 long, 2 boolean, 3 PairMap, 4 Braid; length) -/
abbrev ZK : Type := (Nat × List ZF) ⊕ (Nat × Nat)
def zKL : List (ZK × Nat) := [
  (.inl (0, [some (1, 0, true), none]), 10), (.inr (0, 64), 10),
  (.inl (1, [some (3, 0, true), some (4, 0, true), none]), 3), (.inr (0, 24), 3), (.inr (2, 24), 3),
  (.inl (2, [some (6, 0, false), some (7, 0, false), some (0, 4, false), some (2, 2, false), some (0, 5, false), some (8, 0, false), some (11, 0, false), some (13, 0, false), some (16, 0, false), some (18, 0, false)]), 1), (.inr (3, 4), 1), (.inr (4, 2), 1),
  (.inl (3, [some (9, 0, false), some (10, 0, false), none, some (0, 6, false), some (0, 7, false)]), 1), (.inr (0, 8), 1), (.inr (0, 8), 1),
  (.inl (4, [some (12, 0, false)]), 1), (.inr (0, 8), 1),
  (.inl (5, [some (14, 0, false), some (15, 0, false), none]), 1), (.inr (0, 720), 1), (.inr (1, 512), 1),
  (.inl (6, [some (17, 0, false), none]), 1), (.inr (0, 4096), 1),
  (.inl (7, [some (0, 8, false), some (0, 9, false), some (19, 0, false)]), 1), (.inr (1, 64), 1),
  (.inr (1, 48), 1)]
def zK (k : Nat) : ZK := (zKL.getD k (.inl (0, []), 0)).1
def zN (k : Nat) : Nat := (zKL.getD k (.inl (0, []), 0)).2
def zfv (k i j : Nat) (M : ZM) (f : ZF) : ZV := match f with
  | none => zi (M.1 k i j)
  | some (k', c, b) => match b with
    | true => zr k' i
    | false => zr k' c
def zfs (G : ZG) (M : ZM) (k i : Nat) (fs : List ZF) : List Value := fs.zipIdx.map (fun p => zc G (zfv k i p.2 M p.1))
def zarr (G : ZG) (M : ZM) (k i t n : Nat) : ClassId × vp_A := match t with
  | 0 => (gc G 0, n, .inl (M.1 k i))
  | 1 => (gc G 1, n, .inr (.inl (M.2 k i)))
  | 2 => (gc G 2, n, .inl (M.1 k i))
  | 3 => (gc G 3, n, .inr (.inr (.inr (.inr fun j => some (ga G 0 j)))))
  | _ => (gc G 4, n, .inr (.inr (.inr (.inr fun j => some (ga G 2 j)))))
def zent (G : ZG) (M : ZM) (k i : Nat) : va_E := match zK k with
  | .inl (ci, fs) => .inr (ci, zfs G M k i fs)
  | .inr (t, n) => .inl (zarr G M k i t n)
def zcells : List (Nat × Nat) := (List.range 38).flatMap fun k => (List.range (zN k)).map fun i => (k, i)
def zws (G : ZG) (M : ZM) : va_W := zcells.map fun c => (ga G c.1 c.2, zent G M c.1 c.2)
def ztys (G : ZG) : List (ClassId × FieldType) := [(gc G 0, .int), (gc G 1, .long), (gc G 2, .boolean), (gc G 3, .object "ThreeStrandMaps$PairMap"), (gc G 4, .object "ThreeStrandMaps$Braid")]
def zT0 : u_T := fun k => match k with
  | 0 => ("ThreeStrandMaps$PairMap", "images", "[I", true)
  | _ => ("ThreeStrandMaps$PairMap", "points", "I", false)
def zT1 : u_T := fun k => match k with
  | 0 => ("ThreeStrandMaps$Braid", "positions", "[I", true)
  | 1 => ("ThreeStrandMaps$Braid", "capitals", "[Z", true)
  | _ => ("ThreeStrandMaps$Braid", "length", "I", false)
def zT2 : u_T := fun k => match k with
  | 0 => ("ThreeStrandMaps", "places", "[LThreeStrandMaps$PairMap;", true)
  | 1 => ("ThreeStrandMaps", "braids", "[LThreeStrandMaps$Braid;", true)
  | 2 => ("ThreeStrandMaps", "noMap", "LThreeStrandMaps$PairMap;", true)
  | 3 => ("ThreeStrandMaps", "noBraid", "LThreeStrandMaps$Braid;", true)
  | 4 => ("ThreeStrandMaps", "made", "LThreeStrandMaps$PairMap;", true)
  | 5 => ("ThreeStrandMaps", "classes", "LThreeStrandMaps$AlikeClasses;", true)
  | 6 => ("ThreeStrandMaps", "renamings", "LThreeStrandMaps$Renamings;", true)
  | 7 => ("ThreeStrandMaps", "rowGroup", "LThreeStrandMaps$RowGroup;", true)
  | 8 => ("ThreeStrandMaps", "wordClasses", "LThreeStrandMaps$WordClasses;", true)
  | _ => ("ThreeStrandMaps", "action", "LThreeStrandMaps$BraidAction;", true)
def zT3 : u_T := fun k => match k with
  | 0 => ("ThreeStrandMaps$AlikeClasses", "classes", "[I", true)
  | 1 => ("ThreeStrandMaps$AlikeClasses", "smallest", "[I", true)
  | 2 => ("ThreeStrandMaps$AlikeClasses", "size", "I", false)
  | 3 => ("ThreeStrandMaps$AlikeClasses", "current", "LThreeStrandMaps$PairMap;", true)
  | _ => ("ThreeStrandMaps$AlikeClasses", "smaller", "LThreeStrandMaps$PairMap;", true)
def zT4 : u_T := fun k => match k with
  | _ => ("ThreeStrandMaps$Renamings", "images", "[I", true)
def zT5 : u_T := fun k => match k with
  | 0 => ("ThreeStrandMaps$RowGroup", "elements", "[I", true)
  | 1 => ("ThreeStrandMaps$RowGroup", "seen", "[J", true)
  | _ => ("ThreeStrandMaps$RowGroup", "size", "I", false)
def zT6 : u_T := fun k => match k with
  | 0 => ("ThreeStrandMaps$WordClasses", "smaller", "[I", true)
  | _ => ("ThreeStrandMaps$WordClasses", "size", "I", false)
def zT7 : u_T := fun k => match k with
  | 0 => ("ThreeStrandMaps$BraidAction", "map", "LThreeStrandMaps$PairMap;", true)
  | 1 => ("ThreeStrandMaps$BraidAction", "inverse", "LThreeStrandMaps$PairMap;", true)
  | _ => ("ThreeStrandMaps$BraidAction", "seen", "[J", true)
def zcls : List vw_C := [("ThreeStrandMaps$PairMap", zT0, 2), ("ThreeStrandMaps$Braid", zT1, 3), ("ThreeStrandMaps", zT2, 10), ("ThreeStrandMaps$AlikeClasses", zT3, 5), ("ThreeStrandMaps$Renamings", zT4, 1), ("ThreeStrandMaps$RowGroup", zT5, 3), ("ThreeStrandMaps$WordClasses", zT6, 2), ("ThreeStrandMaps$BraidAction", zT7, 3)]
def zrowL : List Int64 := [0x0, 0x0101, 0x1010, 0x012012012, 0x012012102, 0x012021021, 0x021021021, 0x120120120, 0x0123012301230123, 0x0123012301230213, 0x0123012301231203, 0x0123012301320132, 0x0123012301321032, 0x0123012310231023, 0x0123012310321032, 0x0123013201320132, 0x0123023102310231, 0x0132013201320132, 0x0132013210231023, 0x0132013210321032, 0x0132231032011023, 0x0231023102310231, 0x0231031203120312, 0x1023102301320132, 0x1023102301321032, 0x1023102310321032, 0x1023231001323201, 0x1032103210321032, 0x1032230123011032, 0x1230123012301230, 0x1230301212303012]
def zrows (j : Nat) : Int64 := zrowL.getD j 0
def zTw : List Jvm.Cond := lw_tbl.filter goodWord
def znest : List Jvm.Cond := lw_tbl.filter (fun w => match w with | .methodLinkNest _ _ _ _ => true | _ => false)
theorem zTw_of {w : Jvm.Cond} (q : Nat) (h : lw_tbl[q]? = some w) (hg : goodWord w = true) : w ∈ zTw := List.mem_filter.mpr ⟨List.mem_of_getElem? h, hg⟩
/-! cells -/
def zval (k i : Nat) : Prop := k < 38 ∧ i < zN k
theorem zcells_mem {k i : Nat} (h : zval k i) : (k, i) ∈ zcells := by
  unfold zcells
  rw [List.mem_flatMap]
  exact ⟨k, List.mem_range.mpr h.1, List.mem_map.mpr ⟨i, List.mem_range.mpr h.2, rfl⟩⟩
theorem zcells_len : zcells.length = 45 := by decide +kernel
theorem zcells_inj0 : ∀ i, i < 45 → ∀ j, j < 45 → zcells[i]? = zcells[j]? → i = j := by decide +kernel
theorem zcells_inj {i j : Nat} {c : Nat × Nat} (hi : zcells[i]? = some c) (hj : zcells[j]? = some c) : i = j := by
  have h1 := (List.getElem?_eq_some_iff.mp hi).1
  have h2 := (List.getElem?_eq_some_iff.mp hj).1
  rw [zcells_len] at h1 h2
  exact zcells_inj0 i h1 j h2 (hi.trans hj.symm)
def zok (G : ZG) : Prop := (∀ c ∈ zcells, ∀ c' ∈ zcells, ga G c.1 c.2 = ga G c'.1 c'.2 → c = c') ∧ ∀ c ∈ zcells, gA G (ga G c.1 c.2)
theorem zws_at {G : ZG} {k i : Nat} (h : zval k i) : ∃ q0 : Nat, zcells[q0]? = some (k, i) ∧ ∀ M, (zws G M)[q0]? = some (ga G k i, zent G M k i) := by
  obtain ⟨q0, hq⟩ := List.getElem?_of_mem (zcells_mem h)
  refine ⟨q0, hq, fun M => ?_⟩
  unfold zws
  rw [List.getElem?_map, hq]
  rfl
theorem zws_D {G : ZG} (h : zok G) (M : ZM) : va_D (gA G) (zws G M) := by
  refine ⟨fun i j p q hi hj he => ?_, fun k q hk => ?_⟩
  · unfold zws at hi hj
    rw [List.getElem?_map, Option.map_eq_some_iff] at hi hj
    obtain ⟨c, hc, rfl⟩ := hi
    obtain ⟨c', hc', rfl⟩ := hj
    have h1 := h.1 c (List.mem_of_getElem? hc) c' (List.mem_of_getElem? hc') he
    subst h1
    exact zcells_inj hc hc'
  · unfold zws at hk
    rw [List.getElem?_map, Option.map_eq_some_iff] at hk
    obtain ⟨c, hc, rfl⟩ := hk
    exact h.2 c (List.mem_of_getElem? hc)
def zset (k i j : Nat) (v : Int32) (M : ZM) : ZM := (fun a b c => if a = k ∧ b = i ∧ c = j then v else M.1 a b c, M.2)
def zsetL (k i j : Nat) (v : Int64) (M : ZM) : ZM := (M.1, fun a b c => if a = k ∧ b = i ∧ c = j then v else M.2 a b c)
theorem zfs_congr {G : ZG} {M M' : ZM} {k i : Nat} (h : M.1 k i = M'.1 k i) (fs : List ZF) : zfs G M k i fs = zfs G M' k i fs := by
  unfold zfs
  apply List.map_congr_left
  intro p _
  rcases p with ⟨f, j⟩
  cases f with
  | none => simp only [zfv, h]
  | some f => rcases f with ⟨a, b, c⟩; cases c <;> rfl
theorem zent_congr {G : ZG} {M M' : ZM} {k i : Nat} (h1 : M.1 k i = M'.1 k i) (h2 : M.2 k i = M'.2 k i) : zent G M k i = zent G M' k i := by
  unfold zent
  split
  · rw [zfs_congr h1]
  · unfold zarr
    split <;> simp only [h1, h2]
theorem zset_row {k i j : Nat} {v : Int32} {M : ZM} : (zset k i j v M).1 k i = upd (M.1 k i) j v := by
  funext c
  simp [zset, upd]
theorem zsetL_row {k i j : Nat} {v : Int64} {M : ZM} : (zsetL k i j v M).2 k i = vp_updL (M.2 k i) j v := by
  funext c
  simp [zsetL, vp_updL]
theorem zset_off {k i j a b : Nat} {v : Int32} {M : ZM} (h : ¬ (a = k ∧ b = i)) : (zset k i j v M).1 a b = M.1 a b := by
  funext c
  simp only [zset]
  rw [if_neg (fun q => h ⟨q.1, q.2.1⟩)]
theorem zsetL_off {k i j a b : Nat} {v : Int64} {M : ZM} (h : ¬ (a = k ∧ b = i)) : (zsetL k i j v M).2 a b = M.2 a b := by
  funext c
  simp only [zsetL]
  rw [if_neg (fun q => h ⟨q.1, q.2.1⟩)]
theorem zws_set {G : ZG} {M M' : ZM} {k i q0 : Nat} {e' : va_E} (hq : zcells[q0]? = some (k, i)) (h1 : ∀ a b, ¬ (a = k ∧ b = i) → M.1 a b = M'.1 a b ∧ M.2 a b = M'.2 a b) (he : zent G M' k i = e') : (zws G M).set q0 (ga G k i, e') = zws G M' := by
  apply List.ext_getElem?
  intro n
  rw [List.getElem?_set]
  split
  · rename_i hn
    subst hn
    obtain ⟨hlt, -⟩ := List.getElem?_eq_some_iff.mp hq
    unfold zws
    rw [if_pos (by simpa using hlt), List.getElem?_map, hq]
    simp only [Option.map_some, he]
  · rename_i hn
    unfold zws
    rw [List.getElem?_map, List.getElem?_map]
    cases hc : zcells[n]? with
    | none => rfl
    | some c =>
      simp only [Option.map_some]
      have hne : ¬ (c.1 = k ∧ c.2 = i) := by
        intro hck
        apply hn
        exact zcells_inj hq (by rw [hc]; exact congrArg some (Prod.ext hck.1 hck.2))
      rw [zent_congr (h1 c.1 c.2 hne).1 (h1 c.1 c.2 hne).2]
/-! locals, sorted by their places -/
def lget : ZL → Nat → Option ZV
  | [], _ => none
  | q :: r, n => bif q.1 == n then some q.2 else lget r n
theorem lget_mem {l : ZL} {n : Nat} {v : ZV} (h : lget l n = some v) : (n, v) ∈ l := by
  induction l with
  | nil => simp [lget] at h
  | cons q r ih =>
    obtain ⟨a, b⟩ := q
    unfold lget at h
    cases hq : a == n with
    | true =>
      simp only [hq, cond_true, Option.some.injEq] at h
      rw [← h, ← beq_iff_eq.mp hq]
      exact List.mem_cons_self
    | false =>
      simp only [hq, cond_false] at h
      exact List.mem_cons_of_mem _ (ih h)
def lkp (n c : Nat) (q : Nat × ZV) : Bool := !(q.1 == n) && (!(c == 2 && q.1 == n + 1) && !(q.1 + 1 == n && zcat q.2 == 2))
def lflt (n c : Nat) : ZL → ZL
  | [] => []
  | q :: r => bif lkp n c q then q :: lflt n c r else lflt n c r
def lins (n : Nat) (v : ZV) : ZL → ZL
  | [] => [(n, v)]
  | q :: r => bif Nat.ble n q.1 then (n, v) :: q :: r else q :: lins n v r
def lput (n : Nat) (v : ZV) (l : ZL) : ZL := lins n v (lflt n (zcat v) l)
def zkeep (ks : List Nat) : ZL → ZL
  | [] => []
  | q :: r => bif ks.elem q.1 then q :: zkeep ks r else zkeep ks r
theorem lflt_mem {n c : Nat} {l : ZL} {q : Nat × ZV} (h : q ∈ lflt n c l) : q ∈ l ∧ lkp n c q = true := by
  induction l with
  | nil => simp [lflt] at h
  | cons a r ih =>
    unfold lflt at h
    cases hc : lkp n c a with
    | true =>
      rw [hc] at h
      simp only [cond_true, List.mem_cons] at h
      rcases h with h | h
      · subst h; exact ⟨List.mem_cons_self, hc⟩
      · exact ⟨List.mem_cons_of_mem _ (ih h).1, (ih h).2⟩
    | false =>
      rw [hc] at h
      simp only [cond_false] at h
      exact ⟨List.mem_cons_of_mem _ (ih h).1, (ih h).2⟩
theorem lins_mem {n : Nat} {v : ZV} {l : ZL} {q : Nat × ZV} (h : q ∈ lins n v l) : q = (n, v) ∨ q ∈ l := by
  induction l with
  | nil => simp [lins] at h; exact Or.inl h
  | cons a r ih =>
    unfold lins at h
    cases hc : Nat.ble n a.1 with
    | true =>
      rw [hc] at h
      simp only [cond_true, List.mem_cons] at h
      rcases h with h | h | h
      · exact Or.inl h
      · exact Or.inr (by rw [h]; exact List.mem_cons_self)
      · exact Or.inr (List.mem_cons_of_mem _ h)
    | false =>
      rw [hc] at h
      simp only [cond_false, List.mem_cons] at h
      rcases h with h | h
      · exact Or.inr (by rw [h]; exact List.mem_cons_self)
      · rcases ih h with h | h
        · exact Or.inl h
        · exact Or.inr (List.mem_cons_of_mem _ h)
theorem zkeep_mem {ks : List Nat} {l : ZL} {q : Nat × ZV} (h : q ∈ zkeep ks l) : q ∈ l := by
  induction l with
  | nil => simp [zkeep] at h
  | cons a r ih =>
    unfold zkeep at h
    cases hc : ks.elem a.1 with
    | true =>
      rw [hc] at h
      simp only [cond_true, List.mem_cons] at h
      rcases h with h | h
      · rw [h]; exact List.mem_cons_self
      · exact List.mem_cons_of_mem _ (ih h)
    | false =>
      rw [hc] at h
      simp only [cond_false] at h
      exact List.mem_cons_of_mem _ (ih h)
abbrev zlm (G : ZG) (l : ZL) : List (Nat × Value) := l.map fun q => (q.1, zc G q.2)
theorem lget_has {G : ZG} {ls : Array Slot} {nL n : Nat} {l : ZL} {v : ZV} (h : lv_has ls nL (zlm G l)) (hg : lget l n = some v) : ls[n]? = some (.val (zc G v)) :=
  h.2.2 (n, zc G v) (List.mem_map.mpr ⟨(n, v), lget_mem hg, rfl⟩)
theorem zkeep_has {G : ZG} {ls : Array Slot} {nL : Nat} {l l' : ZL} (h : lv_has ls nL (zlm G l)) (hs : ∀ q ∈ l', q ∈ l) : lv_has ls nL (zlm G l') := by
  refine ⟨h.1, h.2.1, fun q hq => ?_⟩
  obtain ⟨q', hq', rfl⟩ := List.mem_map.mp hq
  exact h.2.2 _ (List.mem_map.mpr ⟨q', hs q' hq', rfl⟩)
theorem lput_has1 {G : ZG} {ls : Array Slot} {nL n : Nat} {l : ZL} {v : ZV} (h : lv_has ls nL ((n, zc G v) :: (zlm G l).filter (fun q => !(q.1 == n) && !(q.1 + 1 == n && q.2.category == 2)))) : lv_has ls nL (zlm G (lput n v l)) := by
  refine ⟨h.1, h.2.1, fun q hq => h.2.2 q ?_⟩
  obtain ⟨q', hq', rfl⟩ := List.mem_map.mp hq
  rcases lins_mem hq' with h1 | h1
  · rw [h1]; exact List.mem_cons_self
  · obtain ⟨h2, h3⟩ := lflt_mem h1
    refine List.mem_cons_of_mem _ (List.mem_filter.mpr ⟨List.mem_map.mpr ⟨q', h2, rfl⟩, ?_⟩)
    simp only [lkp, Bool.and_eq_true] at h3
    simp only [Bool.and_eq_true, zcat_eq]
    exact ⟨h3.1, h3.2.2⟩
theorem lput_has2 {G : ZG} {ls : Array Slot} {nL n : Nat} {l : ZL} {x : Int64} (h : lv_has ls nL ((n, zc G (zl x)) :: (zlm G l).filter (fun q => !(q.1 == n) && (!(q.1 == n + 1) && !(q.1 + 1 == n && q.2.category == 2))))) : lv_has ls nL (zlm G (lput n (zl x) l)) := by
  refine ⟨h.1, h.2.1, fun q hq => h.2.2 q ?_⟩
  obtain ⟨q', hq', rfl⟩ := List.mem_map.mp hq
  rcases lins_mem hq' with h1 | h1
  · rw [h1]; exact List.mem_cons_self
  · obtain ⟨h2, h3⟩ := lflt_mem h1
    refine List.mem_cons_of_mem _ (List.mem_filter.mpr ⟨List.mem_map.mpr ⟨q', h2, rfl⟩, ?_⟩)
    simp only [lkp, zcat, Bool.and_eq_true, beq_self_eq_true, Bool.true_and] at h3
    simp only [Bool.and_eq_true, zcat_eq]
    exact ⟨h3.1, h3.2.1, h3.2.2⟩
/-! methods, their contracts, the walk's judgement -/
/-- name, code, locals, answer's type, arguments (the receiver apart), depth of its calls (11: the law) -/
abbrev ZI : Type := MethodName × (ByteArray × (Nat × (Option FieldType × (Nat × Nat))))
def iN (m : ZI) : MethodName := m.1
def iB (m : ZI) : ByteArray := m.2.1
def iL (m : ZI) : Nat := m.2.2.1
def iR (m : ZI) : Option FieldType := m.2.2.2.1
def iA (m : ZI) : Nat := m.2.2.2.2.1
def iD (m : ZI) : Nat := m.2.2.2.2.2
def zrm (m : ZI) : Room := { frames := iD m, cells := 0, slots := 0, locals := 39 * iD m }
def zR (m : ZI) : Room := bif iD m == 11 then room_1 else zrm m
def zC (m : ZI) : Nat := bif iD m == 11 then 600000 else 0
def zS (m : ZI) : Nat := bif iD m == 11 then 7302250 else 0
def zwm (m : ZI) : List Jvm.Cond := Jvm.Cond.code (iN m) (iB m) (iL m) (iR m) :: zTw
def zEnv (G : ZG) (U : State) (H : Heap) : Prop := va_K (gD G) zcls (ztys G) U ∧ va_Z "ThreeStrandMaps$SolutionList" "ROWS" "[J" (.ref (ga G 38 0)) (gA G) U H ∧ va_T .long (ga G 38 0) 31 (fun j => .long (zrows j)) (gA G) U H ∧ va_T .int (ga G 39 0) (gN G) (fun j => .int (gX G j)) (gA G) U H ∧ ∀ w ∈ znest, va_Nw w U
def zPc (G : ZG) (M : ZM) (av : List ZV) : Array Value → State → Prop := va_Pc (av.map (zc G)) (fun U => va_P (gD G) zcls (zws G M) U.heap ∧ zEnv G U U.heap)
def zQc (G : ZG) (Z : Option ZV → ZM → Prop) : Array Value → State → Outcome → State → Prop := fun _ st oc t => (∃ (r : Option ZV) (M' : ZM), oc = .returned (r.map (zc G)) ∧ Z r M' ∧ va_P (gD G) zcls (zws G M') t.heap) ∧ va_F (gA G) st t
def zZ (below : List Frame) (a : Array Value) (s : State) : State → Prop := fun t => ∃ o, t.status = .running ∧ Ended t below o ∧ lw_Q a s o t
def zQ (G : ZG) (m : ZI) (Z : Option ZV → ZM → Prop) (below : List Frame) (a : Array Value) (s : State) : State → Prop := bif iD m == 11 then zZ below a s else MQ below (zQc G Z) a s 0 0 (gA G)
/-- the contract of a method, from a memory M, with arguments av: it ends with an answer and a memory of which Z holds -/
def Ctr (n : Nat) (G : ZG) (mi : ZI) (av : List ZV) (M : ZM) (Z : Option ZV → ZM → Prop) : Prop :=
  if n = 0 then (zok G → Met (gl G) (iN mi) (zwm mi) (zrm mi) (zPc G M av) (zQc G Z) 0 0 (gA G)) else Ctr (n - 1) G mi av M Z
termination_by n
/-- from here in the method's body: it comes to an end of which Z holds -/
def V (n : Nat) (G : ZG) (mi : ZI) (Z : Option ZV → ZM → Prop) (pc : Nat) (l : ZL) (st : List ZV) (M : ZM) : Prop :=
  if n = 0 then (zok G → ∀ (p : Program) (e : Env) (s : State) (m : MethodId) (args : Array Value) (below : List Frame) (meth : Method) (c : Code) (H : Heap) (locs : List Loc) (ls : Array Slot),
    CallFix p m c (iB mi) (iL mi) s args zTw (iN mi).cls → meth.sig.returnType = iR mi → meth.locks = false → (iD mi = 11 → ∀ q, gA G q → s.heap.size ≤ q) → zEnv G s s.heap → va_P (gD G) zcls (zws G M) H → va_S (gA G) s.heap H locs → lv_has ls (iL mi) (zlm G l) →
    W p (gl G) e (zR mi) s m args below meth c H locs (zC mi) (zS mi) (zQ G mi Z below args s) (F0 m pc ls (st.map (zc G)))) else V (n - 1) G mi Z pc l st M
termination_by n
theorem Ctr_eq (G : ZG) (mi : ZI) (av : List ZV) (M : ZM) (Z : Option ZV → ZM → Prop) : Ctr 0 G mi av M Z = (zok G → Met (gl G) (iN mi) (zwm mi) (zrm mi) (zPc G M av) (zQc G Z) 0 0 (gA G)) := by
  rw [Ctr]; rfl
theorem V_eq (G : ZG) (mi : ZI) (Z : Option ZV → ZM → Prop) (pc : Nat) (l : ZL) (st : List ZV) (M : ZM) : V 0 G mi Z pc l st M = (zok G → ∀ (p : Program) (e : Env) (s : State) (m : MethodId) (args : Array Value) (below : List Frame) (meth : Method) (c : Code) (H : Heap) (locs : List Loc) (ls : Array Slot),
    CallFix p m c (iB mi) (iL mi) s args zTw (iN mi).cls → meth.sig.returnType = iR mi → meth.locks = false → (iD mi = 11 → ∀ q, gA G q → s.heap.size ≤ q) → zEnv G s s.heap → va_P (gD G) zcls (zws G M) H → va_S (gA G) s.heap H locs → lv_has ls (iL mi) (zlm G l) →
    W p (gl G) e (zR mi) s m args below meth c H locs (zC mi) (zS mi) (zQ G mi Z below args s) (F0 m pc ls (st.map (zc G)))) := by
  rw [V]; rfl
section
variable {G : ZG} {mi : ZI} {Z : Option ZV → ZM → Prop} {pc : Nat} {l : ZL} {st : List ZV} {M : ZM}
set_option maxHeartbeats 1000000 in
theorem z_iconst {n : Int} {v : Int32} (hd : decode (iB mi) pc = .ok (.iconst n, 1)) (hv : Int32.ofInt n = v) (hk : V 0 G mi Z (pc + 1) l (zi v :: st) M) : V 0 G mi Z pc l st M := by
  rw [V_eq] at hk ⊢; intro hok p e s m args below meth c H locs ls hf hr hlk hfr hE hP hS hl
  exact lv_iconst hf.1 hf.2.1 hd hv (hk hok p e s m args below meth c H locs ls hf hr hlk hfr hE hP hS hl)
set_option maxHeartbeats 1000000 in
theorem z_bipush {n : Int} {v : Int32} (hd : decode (iB mi) pc = .ok (.bipush n, 2)) (hv : (Int8.ofInt n).toInt32 = v) (hk : V 0 G mi Z (pc + 2) l (zi v :: st) M) : V 0 G mi Z pc l st M := by
  rw [V_eq] at hk ⊢; intro hok p e s m args below meth c H locs ls hf hr hlk hfr hE hP hS hl
  exact lv_bipush hf.1 hf.2.1 hd hv (hk hok p e s m args below meth c H locs ls hf hr hlk hfr hE hP hS hl)
set_option maxHeartbeats 1000000 in
theorem z_sipush {n : Int} {v : Int32} (hd : decode (iB mi) pc = .ok (.sipush n, 3)) (hv : (Int16.ofInt n).toInt32 = v) (hk : V 0 G mi Z (pc + 3) l (zi v :: st) M) : V 0 G mi Z pc l st M := by
  rw [V_eq] at hk ⊢; intro hok p e s m args below meth c H locs ls hf hr hlk hfr hE hP hS hl
  exact lv_sipush hf.1 hf.2.1 hd hv (hk hok p e s m args below meth c H locs ls hf hr hlk hfr hE hP hS hl)
set_option maxHeartbeats 1000000 in
theorem z_lconst {n : Fin 2} {v : Int64} (hd : decode (iB mi) pc = .ok (.lconst n, 1)) (hv : Int64.ofNat (n : Nat) = v) (hk : V 0 G mi Z (pc + 1) l (zl v :: st) M) : V 0 G mi Z pc l st M := by
  rw [V_eq] at hk ⊢; intro hok p e s m args below meth c H locs ls hf hr hlk hfr hE hP hS hl
  exact lv_lconst hf.1 hf.2.1 hd hv (hk hok p e s m args below meth c H locs ls hf hr hlk hfr hE hP hS hl)
set_option maxHeartbeats 1000000 in
theorem z_ldc {n : Nat} {v : Int32} (hd : decode (iB mi) pc = .ok (.ldc n, 2)) (hw : Jvm.Cond.constant (iN mi).cls n v ∈ zTw) (hk : V 0 G mi Z (pc + 2) l (zi v :: st) M) : V 0 G mi Z pc l st M := by
  rw [V_eq] at hk ⊢; intro hok p e s m args below meth c H locs ls hf hr hlk hfr hE hP hS hl
  exact lv_ldc hf.1 hf.2.1 hf.2.2.2.1 (hf.2.2.2.2 _ hw) hd (hk hok p e s m args below meth c H locs ls hf hr hlk hfr hE hP hS hl)
set_option maxHeartbeats 1000000 in
theorem z_ldc2_w {n : Nat} {v : Int64} (hd : decode (iB mi) pc = .ok (.ldc2_w n, 3)) (hw : Jvm.Cond.constantLong (iN mi).cls n v ∈ zTw) (hk : V 0 G mi Z (pc + 3) l (zl v :: st) M) : V 0 G mi Z pc l st M := by
  rw [V_eq] at hk ⊢; intro hok p e s m args below meth c H locs ls hf hr hlk hfr hE hP hS hl
  exact lv_ldc2 hf.1 hf.2.1 hf.2.2.2.1 (hf.2.2.2.2 _ hw) hd (hk hok p e s m args below meth c H locs ls hf hr hlk hfr hE hP hS hl)
set_option maxHeartbeats 1000000 in
theorem z_iload {n : Nat} {x : Int32} (hd : decode (iB mi) pc = .ok (.iload n, 2)) (hg : lget l n = some (zi x)) (hk : V 0 G mi Z (pc + 2) l (zi x :: st) M) : V 0 G mi Z pc l st M := by
  rw [V_eq] at hk ⊢; intro hok p e s m args below meth c H locs ls hf hr hlk hfr hE hP hS hl
  exact lv_iload hf.1 hf.2.1 hd (lget_has hl hg) (hk hok p e s m args below meth c H locs ls hf hr hlk hfr hE hP hS hl)
set_option maxHeartbeats 1000000 in
theorem z_iload_n {n : Fin 4} {x : Int32} (hd : decode (iB mi) pc = .ok (.iload_n n, 1)) (hg : lget l n.val = some (zi x)) (hk : V 0 G mi Z (pc + 1) l (zi x :: st) M) : V 0 G mi Z pc l st M := by
  rw [V_eq] at hk ⊢; intro hok p e s m args below meth c H locs ls hf hr hlk hfr hE hP hS hl
  exact lv_iload_n hf.1 hf.2.1 hd rfl (lget_has hl hg) (hk hok p e s m args below meth c H locs ls hf hr hlk hfr hE hP hS hl)
set_option maxHeartbeats 1000000 in
theorem z_lload {n : Nat} {x : Int64} (hd : decode (iB mi) pc = .ok (.lload n, 2)) (hg : lget l n = some (zl x)) (hk : V 0 G mi Z (pc + 2) l (zl x :: st) M) : V 0 G mi Z pc l st M := by
  rw [V_eq] at hk ⊢; intro hok p e s m args below meth c H locs ls hf hr hlk hfr hE hP hS hl
  exact lv_lload hf.1 hf.2.1 hd (lget_has hl hg) (hk hok p e s m args below meth c H locs ls hf hr hlk hfr hE hP hS hl)
set_option maxHeartbeats 1000000 in
theorem z_lload_n {n : Fin 4} {x : Int64} (hd : decode (iB mi) pc = .ok (.lload_n n, 1)) (hg : lget l n.val = some (zl x)) (hk : V 0 G mi Z (pc + 1) l (zl x :: st) M) : V 0 G mi Z pc l st M := by
  rw [V_eq] at hk ⊢; intro hok p e s m args below meth c H locs ls hf hr hlk hfr hE hP hS hl
  exact lv_lload_n hf.1 hf.2.1 hd rfl (lget_has hl hg) (hk hok p e s m args below meth c H locs ls hf hr hlk hfr hE hP hS hl)
set_option maxHeartbeats 1000000 in
theorem z_aload {n a b : Nat} (hd : decode (iB mi) pc = .ok (.aload n, 2)) (hg : lget l n = some (zr a b)) (hk : V 0 G mi Z (pc + 2) l (zr a b :: st) M) : V 0 G mi Z pc l st M := by
  rw [V_eq] at hk ⊢; intro hok p e s m args below meth c H locs ls hf hr hlk hfr hE hP hS hl
  exact lv_aload hf.1 hf.2.1 hd (lget_has hl hg) (hk hok p e s m args below meth c H locs ls hf hr hlk hfr hE hP hS hl)
set_option maxHeartbeats 1000000 in
theorem z_aload_n {n : Fin 4} {a b : Nat} (hd : decode (iB mi) pc = .ok (.aload_n n, 1)) (hg : lget l n.val = some (zr a b)) (hk : V 0 G mi Z (pc + 1) l (zr a b :: st) M) : V 0 G mi Z pc l st M := by
  rw [V_eq] at hk ⊢; intro hok p e s m args below meth c H locs ls hf hr hlk hfr hE hP hS hl
  exact lv_aload_n hf.1 hf.2.1 hd rfl (lget_has hl hg) (hk hok p e s m args below meth c H locs ls hf hr hlk hfr hE hP hS hl)
set_option maxHeartbeats 1000000 in
theorem z_istore {n : Nat} {x : Int32} (hd : decode (iB mi) pc = .ok (.istore n, 2)) (hn : n < iL mi) (hk : V 0 G mi Z (pc + 2) (lput n (zi x) l) st M) : V 0 G mi Z pc l (zi x :: st) M := by
  rw [V_eq] at hk ⊢; intro hok p e s m args below meth c H locs ls0 hf hr hlk hfr hE hP hS hl
  exact lv_istore hf.1 hf.2.1 hd hl hn rfl (fun ls hl2 => hk hok p e s m args below meth c H locs ls hf hr hlk hfr hE hP hS (lput_has1 hl2))
set_option maxHeartbeats 1000000 in
theorem z_istore_n {n : Fin 4} {x : Int32} (hd : decode (iB mi) pc = .ok (.istore_n n, 1)) (hn : n.val < iL mi) (hk : V 0 G mi Z (pc + 1) (lput n.val (zi x) l) st M) : V 0 G mi Z pc l (zi x :: st) M := by
  rw [V_eq] at hk ⊢; intro hok p e s m args below meth c H locs ls0 hf hr hlk hfr hE hP hS hl
  exact lv_istore_n hf.1 hf.2.1 hd rfl hl hn rfl (fun ls hl2 => hk hok p e s m args below meth c H locs ls hf hr hlk hfr hE hP hS (lput_has1 hl2))
set_option maxHeartbeats 1000000 in
theorem z_lstore {n : Nat} {x : Int64} (hd : decode (iB mi) pc = .ok (.lstore n, 2)) (hn : n + 1 < iL mi) (hk : V 0 G mi Z (pc + 2) (lput n (zl x) l) st M) : V 0 G mi Z pc l (zl x :: st) M := by
  rw [V_eq] at hk ⊢; intro hok p e s m args below meth c H locs ls0 hf hr hlk hfr hE hP hS hl
  exact lv_lstore hf.1 hf.2.1 hd hl hn rfl (fun ls hl2 => hk hok p e s m args below meth c H locs ls hf hr hlk hfr hE hP hS (lput_has2 hl2))
set_option maxHeartbeats 1000000 in
theorem z_lstore_n {n : Fin 4} {x : Int64} (hd : decode (iB mi) pc = .ok (.lstore_n n, 1)) (hn : n.val + 1 < iL mi) (hk : V 0 G mi Z (pc + 1) (lput n.val (zl x) l) st M) : V 0 G mi Z pc l (zl x :: st) M := by
  rw [V_eq] at hk ⊢; intro hok p e s m args below meth c H locs ls0 hf hr hlk hfr hE hP hS hl
  exact lv_lstore_n hf.1 hf.2.1 hd rfl hl hn rfl (fun ls hl2 => hk hok p e s m args below meth c H locs ls hf hr hlk hfr hE hP hS (lput_has2 hl2))
set_option maxHeartbeats 1000000 in
theorem z_astore {n : Nat} {x y : Nat} (hd : decode (iB mi) pc = .ok (.astore n, 2)) (hn : n < iL mi) (hk : V 0 G mi Z (pc + 2) (lput n (zr x y) l) st M) : V 0 G mi Z pc l (zr x y :: st) M := by
  rw [V_eq] at hk ⊢; intro hok p e s m args below meth c H locs ls0 hf hr hlk hfr hE hP hS hl
  exact lv_astore hf.1 hf.2.1 hd hl hn rfl (fun ls hl2 => hk hok p e s m args below meth c H locs ls hf hr hlk hfr hE hP hS (lput_has1 hl2))
set_option maxHeartbeats 1000000 in
theorem z_astore_n {n : Fin 4} {x y : Nat} (hd : decode (iB mi) pc = .ok (.astore_n n, 1)) (hn : n.val < iL mi) (hk : V 0 G mi Z (pc + 1) (lput n.val (zr x y) l) st M) : V 0 G mi Z pc l (zr x y :: st) M := by
  rw [V_eq] at hk ⊢; intro hok p e s m args below meth c H locs ls0 hf hr hlk hfr hE hP hS hl
  exact lv_astore_n hf.1 hf.2.1 hd rfl hl hn rfl (fun ls hl2 => hk hok p e s m args below meth c H locs ls hf hr hlk hfr hE hP hS (lput_has1 hl2))
set_option maxHeartbeats 1000000 in
theorem z_iadd {x : Int32} {y : Int32} (hd : decode (iB mi) pc = .ok (.iadd, 1)) (hk : V 0 G mi Z (pc + 1) l (zi (x + y) :: st) M) : V 0 G mi Z pc l (zi y :: zi x :: st) M := by
  rw [V_eq] at hk ⊢; intro hok p e s m args below meth c H locs ls hf hr hlk hfr hE hP hS hl
  exact lv_iadd hf.1 hf.2.1 hd  (hk hok p e s m args below meth c H locs ls hf hr hlk hfr hE hP hS hl)
set_option maxHeartbeats 1000000 in
theorem z_isub {x : Int32} {y : Int32} (hd : decode (iB mi) pc = .ok (.isub, 1)) (hk : V 0 G mi Z (pc + 1) l (zi (x - y) :: st) M) : V 0 G mi Z pc l (zi y :: zi x :: st) M := by
  rw [V_eq] at hk ⊢; intro hok p e s m args below meth c H locs ls hf hr hlk hfr hE hP hS hl
  exact lv_isub hf.1 hf.2.1 hd  (hk hok p e s m args below meth c H locs ls hf hr hlk hfr hE hP hS hl)
set_option maxHeartbeats 1000000 in
theorem z_imul {x : Int32} {y : Int32} (hd : decode (iB mi) pc = .ok (.imul, 1)) (hk : V 0 G mi Z (pc + 1) l (zi (x * y) :: st) M) : V 0 G mi Z pc l (zi y :: zi x :: st) M := by
  rw [V_eq] at hk ⊢; intro hok p e s m args below meth c H locs ls hf hr hlk hfr hE hP hS hl
  exact lv_imul hf.1 hf.2.1 hd  (hk hok p e s m args below meth c H locs ls hf hr hlk hfr hE hP hS hl)
set_option maxHeartbeats 1000000 in
theorem z_iand {x : Int32} {y : Int32} (hd : decode (iB mi) pc = .ok (.iand, 1)) (hk : V 0 G mi Z (pc + 1) l (zi (x &&& y) :: st) M) : V 0 G mi Z pc l (zi y :: zi x :: st) M := by
  rw [V_eq] at hk ⊢; intro hok p e s m args below meth c H locs ls hf hr hlk hfr hE hP hS hl
  exact lv_iand hf.1 hf.2.1 hd  (hk hok p e s m args below meth c H locs ls hf hr hlk hfr hE hP hS hl)
set_option maxHeartbeats 1000000 in
theorem z_ior {x : Int32} {y : Int32} (hd : decode (iB mi) pc = .ok (.ior, 1)) (hk : V 0 G mi Z (pc + 1) l (zi (x ||| y) :: st) M) : V 0 G mi Z pc l (zi y :: zi x :: st) M := by
  rw [V_eq] at hk ⊢; intro hok p e s m args below meth c H locs ls hf hr hlk hfr hE hP hS hl
  exact lv_ior hf.1 hf.2.1 hd  (hk hok p e s m args below meth c H locs ls hf hr hlk hfr hE hP hS hl)
set_option maxHeartbeats 1000000 in
theorem z_ixor {x : Int32} {y : Int32} (hd : decode (iB mi) pc = .ok (.ixor, 1)) (hk : V 0 G mi Z (pc + 1) l (zi (x ^^^ y) :: st) M) : V 0 G mi Z pc l (zi y :: zi x :: st) M := by
  rw [V_eq] at hk ⊢; intro hok p e s m args below meth c H locs ls hf hr hlk hfr hE hP hS hl
  exact lv_ixor hf.1 hf.2.1 hd  (hk hok p e s m args below meth c H locs ls hf hr hlk hfr hE hP hS hl)
set_option maxHeartbeats 1000000 in
theorem z_ishl {x : Int32} {y : Int32} (hd : decode (iB mi) pc = .ok (.ishl, 1)) (hk : V 0 G mi Z (pc + 1) l (zi (x <<< (y &&& 31)) :: st) M) : V 0 G mi Z pc l (zi y :: zi x :: st) M := by
  rw [V_eq] at hk ⊢; intro hok p e s m args below meth c H locs ls hf hr hlk hfr hE hP hS hl
  exact lv_ishl hf.1 hf.2.1 hd  (hk hok p e s m args below meth c H locs ls hf hr hlk hfr hE hP hS hl)
set_option maxHeartbeats 1000000 in
theorem z_ishr {x : Int32} {y : Int32} (hd : decode (iB mi) pc = .ok (.ishr, 1)) (hk : V 0 G mi Z (pc + 1) l (zi (x >>> (y &&& 31)) :: st) M) : V 0 G mi Z pc l (zi y :: zi x :: st) M := by
  rw [V_eq] at hk ⊢; intro hok p e s m args below meth c H locs ls hf hr hlk hfr hE hP hS hl
  exact lv_ishr hf.1 hf.2.1 hd  (hk hok p e s m args below meth c H locs ls hf hr hlk hfr hE hP hS hl)
set_option maxHeartbeats 1000000 in
theorem z_ladd {x : Int64} {y : Int64} (hd : decode (iB mi) pc = .ok (.ladd, 1)) (hk : V 0 G mi Z (pc + 1) l (zl (x + y) :: st) M) : V 0 G mi Z pc l (zl y :: zl x :: st) M := by
  rw [V_eq] at hk ⊢; intro hok p e s m args below meth c H locs ls hf hr hlk hfr hE hP hS hl
  exact lv_ladd hf.1 hf.2.1 hd  (hk hok p e s m args below meth c H locs ls hf hr hlk hfr hE hP hS hl)
set_option maxHeartbeats 1000000 in
theorem z_lsub {x : Int64} {y : Int64} (hd : decode (iB mi) pc = .ok (.lsub, 1)) (hk : V 0 G mi Z (pc + 1) l (zl (x - y) :: st) M) : V 0 G mi Z pc l (zl y :: zl x :: st) M := by
  rw [V_eq] at hk ⊢; intro hok p e s m args below meth c H locs ls hf hr hlk hfr hE hP hS hl
  exact lv_lsub hf.1 hf.2.1 hd  (hk hok p e s m args below meth c H locs ls hf hr hlk hfr hE hP hS hl)
set_option maxHeartbeats 1000000 in
theorem z_land {x : Int64} {y : Int64} (hd : decode (iB mi) pc = .ok (.land, 1)) (hk : V 0 G mi Z (pc + 1) l (zl (x &&& y) :: st) M) : V 0 G mi Z pc l (zl y :: zl x :: st) M := by
  rw [V_eq] at hk ⊢; intro hok p e s m args below meth c H locs ls hf hr hlk hfr hE hP hS hl
  exact lv_land hf.1 hf.2.1 hd  (hk hok p e s m args below meth c H locs ls hf hr hlk hfr hE hP hS hl)
set_option maxHeartbeats 1000000 in
theorem z_lor {x : Int64} {y : Int64} (hd : decode (iB mi) pc = .ok (.lor, 1)) (hk : V 0 G mi Z (pc + 1) l (zl (x ||| y) :: st) M) : V 0 G mi Z pc l (zl y :: zl x :: st) M := by
  rw [V_eq] at hk ⊢; intro hok p e s m args below meth c H locs ls hf hr hlk hfr hE hP hS hl
  exact lv_lor hf.1 hf.2.1 hd  (hk hok p e s m args below meth c H locs ls hf hr hlk hfr hE hP hS hl)
set_option maxHeartbeats 1000000 in
theorem z_lxor {x : Int64} {y : Int64} (hd : decode (iB mi) pc = .ok (.lxor, 1)) (hk : V 0 G mi Z (pc + 1) l (zl (x ^^^ y) :: st) M) : V 0 G mi Z pc l (zl y :: zl x :: st) M := by
  rw [V_eq] at hk ⊢; intro hok p e s m args below meth c H locs ls hf hr hlk hfr hE hP hS hl
  exact lv_lxor hf.1 hf.2.1 hd  (hk hok p e s m args below meth c H locs ls hf hr hlk hfr hE hP hS hl)
set_option maxHeartbeats 1000000 in
theorem z_iushr {x : Int32} {y : Int32} (hd : decode (iB mi) pc = .ok (.iushr, 1)) (hk : V 0 G mi Z (pc + 1) l (zi ((x.toUInt32 >>> (y.toUInt32 &&& Int32.toUInt32 31)).toInt32) :: st) M) : V 0 G mi Z pc l (zi y :: zi x :: st) M := by
  rw [V_eq] at hk ⊢; intro hok p e s m args below meth c H locs ls hf hr hlk hfr hE hP hS hl
  exact lv_iushr hf.1 hf.2.1 hd rfl (hk hok p e s m args below meth c H locs ls hf hr hlk hfr hE hP hS hl)
set_option maxHeartbeats 1000000 in
theorem z_lshl {x : Int64} {y : Int32} (hd : decode (iB mi) pc = .ok (.lshl, 1)) (hk : V 0 G mi Z (pc + 1) l (zl (x <<< (y.toInt64 &&& 63)) :: st) M) : V 0 G mi Z pc l (zi y :: zl x :: st) M := by
  rw [V_eq] at hk ⊢; intro hok p e s m args below meth c H locs ls hf hr hlk hfr hE hP hS hl
  exact lv_lshl hf.1 hf.2.1 hd rfl (hk hok p e s m args below meth c H locs ls hf hr hlk hfr hE hP hS hl)
set_option maxHeartbeats 1000000 in
theorem z_lshr {x : Int64} {y : Int32} (hd : decode (iB mi) pc = .ok (.lshr, 1)) (hk : V 0 G mi Z (pc + 1) l (zl (x >>> (y.toInt64 &&& 63)) :: st) M) : V 0 G mi Z pc l (zi y :: zl x :: st) M := by
  rw [V_eq] at hk ⊢; intro hok p e s m args below meth c H locs ls hf hr hlk hfr hE hP hS hl
  exact lv_lshr hf.1 hf.2.1 hd rfl (hk hok p e s m args below meth c H locs ls hf hr hlk hfr hE hP hS hl)
set_option maxHeartbeats 1000000 in
theorem z_lushr {x : Int64} {y : Int32} (hd : decode (iB mi) pc = .ok (.lushr, 1)) (hk : V 0 G mi Z (pc + 1) l (zl ((x.toUInt64 >>> (y.toInt64.toUInt64 &&& Int64.toUInt64 63)).toInt64) :: st) M) : V 0 G mi Z pc l (zi y :: zl x :: st) M := by
  rw [V_eq] at hk ⊢; intro hok p e s m args below meth c H locs ls hf hr hlk hfr hE hP hS hl
  exact lv_lushr hf.1 hf.2.1 hd rfl (hk hok p e s m args below meth c H locs ls hf hr hlk hfr hE hP hS hl)
set_option maxHeartbeats 1000000 in
theorem z_idiv {x : Int32} {y : Int32} (hd : decode (iB mi) pc = .ok (.idiv, 1)) (hne : ¬ y = 0) (hk : V 0 G mi Z (pc + 1) l (zi (x / y) :: st) M) : V 0 G mi Z pc l (zi y :: zi x :: st) M := by
  rw [V_eq] at hk ⊢; intro hok p e s m args below meth c H locs ls hf hr hlk hfr hE hP hS hl
  exact lv_idiv hf.1 hf.2.1 hd hne (hk hok p e s m args below meth c H locs ls hf hr hlk hfr hE hP hS hl)
set_option maxHeartbeats 1000000 in
theorem z_lcmp {x : Int64} {y : Int64} (hd : decode (iB mi) pc = .ok (.lcmp, 1)) (hk : V 0 G mi Z (pc + 1) l (zi (lg_cmp x y) :: st) M) : V 0 G mi Z pc l (zl y :: zl x :: st) M := by
  rw [V_eq] at hk ⊢; intro hok p e s m args below meth c H locs ls hf hr hlk hfr hE hP hS hl
  exact W.lcmp hf.1 hf.2.1 hd  (hk hok p e s m args below meth c H locs ls hf hr hlk hfr hE hP hS hl)
set_option maxHeartbeats 1000000 in
theorem z_irem {x y : Int32} (hd : decode (iB mi) pc = .ok (.irem, 1)) (hne : ¬ y = 0) (hk : V 0 G mi Z (pc + 1) l (zi (x % y) :: st) M) : V 0 G mi Z pc l (zi y :: zi x :: st) M := by
  rw [← irem_eq_mod x y] at hk
  rw [V_eq] at hk ⊢; intro hok p e s m args below meth c H locs ls hf hr hlk hfr hE hP hS hl
  exact lv_irem hf.1 hf.2.1 hd hne (hk hok p e s m args below meth c H locs ls hf hr hlk hfr hE hP hS hl)
set_option maxHeartbeats 1000000 in
theorem z_i2l {x : Int32} (hd : decode (iB mi) pc = .ok (.i2l, 1)) (hk : V 0 G mi Z (pc + 1) l (zl x.toInt64 :: st) M) : V 0 G mi Z pc l (zi x :: st) M := by
  rw [V_eq] at hk ⊢; intro hok p e s m args below meth c H locs ls hf hr hlk hfr hE hP hS hl
  exact lv_i2l hf.1 hf.2.1 hd rfl (hk hok p e s m args below meth c H locs ls hf hr hlk hfr hE hP hS hl)
set_option maxHeartbeats 1000000 in
theorem z_l2i {x : Int64} (hd : decode (iB mi) pc = .ok (.l2i, 1)) (hk : V 0 G mi Z (pc + 1) l (zi x.toInt32 :: st) M) : V 0 G mi Z pc l (zl x :: st) M := by
  rw [V_eq] at hk ⊢; intro hok p e s m args below meth c H locs ls hf hr hlk hfr hE hP hS hl
  exact lv_l2i hf.1 hf.2.1 hd rfl (hk hok p e s m args below meth c H locs ls hf hr hlk hfr hE hP hS hl)
set_option maxHeartbeats 1000000 in
theorem z_if_eq {x : Int32} {off : Int} {tgt : Nat} (hd : decode (iB mi) pc = .ok (.ifCond .eq off, 3)) (ht : (pc : Int) + off = (tgt : Int)) (h1 : x = 0 → V 0 G mi Z tgt l st M) (h2 : ¬ (x = 0) → V 0 G mi Z (pc + 3) l st M) : V 0 G mi Z pc l (zi x :: st) M := by
  rw [V_eq]; intro hok p e s m args below meth c H locs ls hf hr hlk hfr hE hP hS hl
  refine lv_if_eq hf.1 hf.2.1 hd ht (fun h => ?_) (fun h => ?_)
  · have hk := h1 h
    rw [V_eq] at hk
    exact hk hok p e s m args below meth c H locs ls hf hr hlk hfr hE hP hS hl
  · have hk := h2 h
    rw [V_eq] at hk
    exact hk hok p e s m args below meth c H locs ls hf hr hlk hfr hE hP hS hl
set_option maxHeartbeats 1000000 in
theorem z_icmp_eq {x y : Int32} {off : Int} {tgt : Nat} (hd : decode (iB mi) pc = .ok (.if_icmp .eq off, 3)) (ht : (pc : Int) + off = (tgt : Int)) (h1 : x = y → V 0 G mi Z tgt l st M) (h2 : ¬ (x = y) → V 0 G mi Z (pc + 3) l st M) : V 0 G mi Z pc l (zi y :: zi x :: st) M := by
  rw [V_eq]; intro hok p e s m args below meth c H locs ls hf hr hlk hfr hE hP hS hl
  refine lv_icmp_eq hf.1 hf.2.1 hd ht (fun h => ?_) (fun h => ?_)
  · have hk := h1 h
    rw [V_eq] at hk
    exact hk hok p e s m args below meth c H locs ls hf hr hlk hfr hE hP hS hl
  · have hk := h2 h
    rw [V_eq] at hk
    exact hk hok p e s m args below meth c H locs ls hf hr hlk hfr hE hP hS hl
set_option maxHeartbeats 1000000 in
theorem z_if_ne {x : Int32} {off : Int} {tgt : Nat} (hd : decode (iB mi) pc = .ok (.ifCond .ne off, 3)) (ht : (pc : Int) + off = (tgt : Int)) (h1 : ¬ x = 0 → V 0 G mi Z tgt l st M) (h2 : ¬ (¬ x = 0) → V 0 G mi Z (pc + 3) l st M) : V 0 G mi Z pc l (zi x :: st) M := by
  rw [V_eq]; intro hok p e s m args below meth c H locs ls hf hr hlk hfr hE hP hS hl
  refine lv_if_ne hf.1 hf.2.1 hd ht (fun h => ?_) (fun h => ?_)
  · have hk := h1 h
    rw [V_eq] at hk
    exact hk hok p e s m args below meth c H locs ls hf hr hlk hfr hE hP hS hl
  · have hk := h2 (fun q => q h)
    rw [V_eq] at hk
    exact hk hok p e s m args below meth c H locs ls hf hr hlk hfr hE hP hS hl
set_option maxHeartbeats 1000000 in
theorem z_icmp_ne {x y : Int32} {off : Int} {tgt : Nat} (hd : decode (iB mi) pc = .ok (.if_icmp .ne off, 3)) (ht : (pc : Int) + off = (tgt : Int)) (h1 : ¬ x = y → V 0 G mi Z tgt l st M) (h2 : ¬ (¬ x = y) → V 0 G mi Z (pc + 3) l st M) : V 0 G mi Z pc l (zi y :: zi x :: st) M := by
  rw [V_eq]; intro hok p e s m args below meth c H locs ls hf hr hlk hfr hE hP hS hl
  refine lv_icmp_ne hf.1 hf.2.1 hd ht (fun h => ?_) (fun h => ?_)
  · have hk := h1 h
    rw [V_eq] at hk
    exact hk hok p e s m args below meth c H locs ls hf hr hlk hfr hE hP hS hl
  · have hk := h2 (fun q => q h)
    rw [V_eq] at hk
    exact hk hok p e s m args below meth c H locs ls hf hr hlk hfr hE hP hS hl
set_option maxHeartbeats 1000000 in
theorem z_if_lt {x : Int32} {off : Int} {tgt : Nat} (hd : decode (iB mi) pc = .ok (.ifCond .lt off, 3)) (ht : (pc : Int) + off = (tgt : Int)) (h1 : x < 0 → V 0 G mi Z tgt l st M) (h2 : ¬ (x < 0) → V 0 G mi Z (pc + 3) l st M) : V 0 G mi Z pc l (zi x :: st) M := by
  rw [V_eq]; intro hok p e s m args below meth c H locs ls hf hr hlk hfr hE hP hS hl
  refine lv_if_lt hf.1 hf.2.1 hd ht (fun h => ?_) (fun h => ?_)
  · have hk := h1 h
    rw [V_eq] at hk
    exact hk hok p e s m args below meth c H locs ls hf hr hlk hfr hE hP hS hl
  · have hk := h2 h
    rw [V_eq] at hk
    exact hk hok p e s m args below meth c H locs ls hf hr hlk hfr hE hP hS hl
set_option maxHeartbeats 1000000 in
theorem z_icmp_lt {x y : Int32} {off : Int} {tgt : Nat} (hd : decode (iB mi) pc = .ok (.if_icmp .lt off, 3)) (ht : (pc : Int) + off = (tgt : Int)) (h1 : x < y → V 0 G mi Z tgt l st M) (h2 : ¬ (x < y) → V 0 G mi Z (pc + 3) l st M) : V 0 G mi Z pc l (zi y :: zi x :: st) M := by
  rw [V_eq]; intro hok p e s m args below meth c H locs ls hf hr hlk hfr hE hP hS hl
  refine lv_icmp_lt hf.1 hf.2.1 hd ht (fun h => ?_) (fun h => ?_)
  · have hk := h1 h
    rw [V_eq] at hk
    exact hk hok p e s m args below meth c H locs ls hf hr hlk hfr hE hP hS hl
  · have hk := h2 h
    rw [V_eq] at hk
    exact hk hok p e s m args below meth c H locs ls hf hr hlk hfr hE hP hS hl
set_option maxHeartbeats 1000000 in
theorem z_if_ge {x : Int32} {off : Int} {tgt : Nat} (hd : decode (iB mi) pc = .ok (.ifCond .ge off, 3)) (ht : (pc : Int) + off = (tgt : Int)) (h1 : 0 ≤ x → V 0 G mi Z tgt l st M) (h2 : ¬ (0 ≤ x) → V 0 G mi Z (pc + 3) l st M) : V 0 G mi Z pc l (zi x :: st) M := by
  rw [V_eq]; intro hok p e s m args below meth c H locs ls hf hr hlk hfr hE hP hS hl
  refine lv_if_ge hf.1 hf.2.1 hd ht (fun h => ?_) (fun h => ?_)
  · have hk := h1 h
    rw [V_eq] at hk
    exact hk hok p e s m args below meth c H locs ls hf hr hlk hfr hE hP hS hl
  · have hk := h2 h
    rw [V_eq] at hk
    exact hk hok p e s m args below meth c H locs ls hf hr hlk hfr hE hP hS hl
set_option maxHeartbeats 1000000 in
theorem z_icmp_ge {x y : Int32} {off : Int} {tgt : Nat} (hd : decode (iB mi) pc = .ok (.if_icmp .ge off, 3)) (ht : (pc : Int) + off = (tgt : Int)) (h1 : y ≤ x → V 0 G mi Z tgt l st M) (h2 : ¬ (y ≤ x) → V 0 G mi Z (pc + 3) l st M) : V 0 G mi Z pc l (zi y :: zi x :: st) M := by
  rw [V_eq]; intro hok p e s m args below meth c H locs ls hf hr hlk hfr hE hP hS hl
  refine lv_icmp_ge hf.1 hf.2.1 hd ht (fun h => ?_) (fun h => ?_)
  · have hk := h1 h
    rw [V_eq] at hk
    exact hk hok p e s m args below meth c H locs ls hf hr hlk hfr hE hP hS hl
  · have hk := h2 h
    rw [V_eq] at hk
    exact hk hok p e s m args below meth c H locs ls hf hr hlk hfr hE hP hS hl
set_option maxHeartbeats 1000000 in
theorem z_if_gt {x : Int32} {off : Int} {tgt : Nat} (hd : decode (iB mi) pc = .ok (.ifCond .gt off, 3)) (ht : (pc : Int) + off = (tgt : Int)) (h1 : 0 < x → V 0 G mi Z tgt l st M) (h2 : ¬ (0 < x) → V 0 G mi Z (pc + 3) l st M) : V 0 G mi Z pc l (zi x :: st) M := by
  rw [V_eq]; intro hok p e s m args below meth c H locs ls hf hr hlk hfr hE hP hS hl
  refine lv_if_gt hf.1 hf.2.1 hd ht (fun h => ?_) (fun h => ?_)
  · have hk := h1 h
    rw [V_eq] at hk
    exact hk hok p e s m args below meth c H locs ls hf hr hlk hfr hE hP hS hl
  · have hk := h2 h
    rw [V_eq] at hk
    exact hk hok p e s m args below meth c H locs ls hf hr hlk hfr hE hP hS hl
set_option maxHeartbeats 1000000 in
theorem z_icmp_gt {x y : Int32} {off : Int} {tgt : Nat} (hd : decode (iB mi) pc = .ok (.if_icmp .gt off, 3)) (ht : (pc : Int) + off = (tgt : Int)) (h1 : y < x → V 0 G mi Z tgt l st M) (h2 : ¬ (y < x) → V 0 G mi Z (pc + 3) l st M) : V 0 G mi Z pc l (zi y :: zi x :: st) M := by
  rw [V_eq]; intro hok p e s m args below meth c H locs ls hf hr hlk hfr hE hP hS hl
  refine lv_icmp_gt hf.1 hf.2.1 hd ht (fun h => ?_) (fun h => ?_)
  · have hk := h1 h
    rw [V_eq] at hk
    exact hk hok p e s m args below meth c H locs ls hf hr hlk hfr hE hP hS hl
  · have hk := h2 h
    rw [V_eq] at hk
    exact hk hok p e s m args below meth c H locs ls hf hr hlk hfr hE hP hS hl
set_option maxHeartbeats 1000000 in
theorem z_if_le {x : Int32} {off : Int} {tgt : Nat} (hd : decode (iB mi) pc = .ok (.ifCond .le off, 3)) (ht : (pc : Int) + off = (tgt : Int)) (h1 : x ≤ 0 → V 0 G mi Z tgt l st M) (h2 : ¬ (x ≤ 0) → V 0 G mi Z (pc + 3) l st M) : V 0 G mi Z pc l (zi x :: st) M := by
  rw [V_eq]; intro hok p e s m args below meth c H locs ls hf hr hlk hfr hE hP hS hl
  refine lv_if_le hf.1 hf.2.1 hd ht (fun h => ?_) (fun h => ?_)
  · have hk := h1 h
    rw [V_eq] at hk
    exact hk hok p e s m args below meth c H locs ls hf hr hlk hfr hE hP hS hl
  · have hk := h2 h
    rw [V_eq] at hk
    exact hk hok p e s m args below meth c H locs ls hf hr hlk hfr hE hP hS hl
set_option maxHeartbeats 1000000 in
theorem z_icmp_le {x y : Int32} {off : Int} {tgt : Nat} (hd : decode (iB mi) pc = .ok (.if_icmp .le off, 3)) (ht : (pc : Int) + off = (tgt : Int)) (h1 : x ≤ y → V 0 G mi Z tgt l st M) (h2 : ¬ (x ≤ y) → V 0 G mi Z (pc + 3) l st M) : V 0 G mi Z pc l (zi y :: zi x :: st) M := by
  rw [V_eq]; intro hok p e s m args below meth c H locs ls hf hr hlk hfr hE hP hS hl
  refine lv_icmp_le hf.1 hf.2.1 hd ht (fun h => ?_) (fun h => ?_)
  · have hk := h1 h
    rw [V_eq] at hk
    exact hk hok p e s m args below meth c H locs ls hf hr hlk hfr hE hP hS hl
  · have hk := h2 h
    rw [V_eq] at hk
    exact hk hok p e s m args below meth c H locs ls hf hr hlk hfr hE hP hS hl
end
end
section
theorem zTw_good : ∀ w ∈ zTw, (w.onTables && w.keeps) = true ∨ ∃ ty, w = .arrayClass ty := fun w h => good_of_word (List.mem_filter.mp h).2
theorem zuws0 : ∀ q ∈ zcls, ∀ w ∈ u_ws q.1 q.2.1 q.2.2, w ∈ lw_tbl := by decide +kernel
theorem zuws1 : ∀ q ∈ zcls, ∀ w ∈ u_ws q.1 q.2.1 q.2.2, goodWord w = true := by decide +kernel
theorem zuws {ci : Nat} {C : String} {T : u_T} {N : Nat} (h : zcls[ci]? = some (C, T, N)) : ∀ w ∈ u_ws C T N, w ∈ zTw := fun w hw =>
  List.mem_filter.mpr ⟨zuws0 _ (List.mem_of_getElem? h) w hw, zuws1 _ (List.mem_of_getElem? h) w hw⟩
theorem ztyp : ∀ q ∈ zcls, ∀ k, k < q.2.2 → (parseFieldDescriptor (q.2.1 k).2.2.1).isSome = true := by decide +kernel
theorem zname : ∀ q ∈ zcls, ∀ a, a < q.2.2 → ∀ b, b < q.2.2 → a ≠ b → (q.2.1 a).2.1 ≠ (q.2.1 b).2.1 := by decide +kernel
theorem zfs_get {G : ZG} {M : ZM} {k i f : Nat} {fs : List ZF} {fd : ZF} (h : fs[f]? = some fd) : (zfs G M k i fs)[f]? = some (zc G (zfv k i f M fd)) := by
  unfold zfs
  rw [List.getElem?_map, List.getElem?_zipIdx, h]
  simp
theorem zfs_len {G : ZG} {M : ZM} {k i : Nat} {fs : List ZF} : (zfs G M k i fs).length = fs.length := by
  unfold zfs
  simp
theorem zfs_set {G : ZG} {M : ZM} {k i f : Nat} {x : Int32} {fs : List ZF} (h : fs[f]? = some none) : zfs G (zset k i f x M) k i fs = (zfs G M k i fs).set f (.int x) := by
  apply List.ext_getElem?
  intro n
  rw [List.getElem?_set]
  by_cases hn : f = n
  · subst hn
    have hlt := (List.getElem?_eq_some_iff.mp h).1
    rw [if_pos rfl, if_pos (by rw [zfs_len]; exact hlt), zfs_get h]
    simp [zfv, zset, zc]
  · rw [if_neg hn]
    cases hc : fs[n]? with
    | none =>
      have h1 : fs.length ≤ n := List.getElem?_eq_none_iff.mp hc
      rw [List.getElem?_eq_none_iff.mpr (by rw [zfs_len]; exact h1), List.getElem?_eq_none_iff.mpr (by rw [zfs_len]; exact h1)]
    | some fd =>
      rw [zfs_get hc, zfs_get hc]
      cases fd with
      | none =>
        simp only [zfv, zset]
        rw [if_neg (fun q => hn q.2.2.symm)]
      | some fd => rcases fd with ⟨a, b, c⟩; cases c <;> rfl
theorem zent_obj {G : ZG} {M : ZM} {k i ci : Nat} {fs : List ZF} (h : zK k = .inl (ci, fs)) : zent G M k i = .inr (ci, zfs G M k i fs) := by
  unfold zent; rw [h]
theorem zent_arr {G : ZG} {M : ZM} {k i t n : Nat} (h : zK k = .inr (t, n)) : zent G M k i = .inl (zarr G M k i t n) := by
  unfold zent; rw [h]
theorem zset_heap {G : ZG} {M : ZM} {k i j q0 : Nat} {v : Int32} {e' : va_E} (hq : zcells[q0]? = some (k, i)) (he : zent G (zset k i j v M) k i = e') : (zws G M).set q0 (ga G k i, e') = zws G (zset k i j v M) :=
  zws_set hq (fun a b h => ⟨(zset_off h).symm, rfl⟩) he
theorem zsetL_heap {G : ZG} {M : ZM} {k i j q0 : Nat} {v : Int64} {e' : va_E} (hq : zcells[q0]? = some (k, i)) (he : zent G (zsetL k i j v M) k i = e') : (zws G M).set q0 (ga G k i, e') = zws G (zsetL k i j v M) :=
  zws_set hq (fun a b h => ⟨rfl, (zsetL_off h).symm⟩) he
section
variable {G : ZG} {mi : ZI} {Z : Option ZV → ZM → Prop} {pc : Nat} {l : ZL} {st : List ZV} {M : ZM}
set_option maxHeartbeats 1000000 in
theorem z_getfield {n kd ix ci f N : Nat} {fs : List ZF} {fd : ZF} {C : String} {T : u_T} (hd : decode (iB mi) pc = .ok (.getfield n, 3)) (hk0 : zK kd = .inl (ci, fs)) (hv : zval kd ix) (hfd : fs[f]? = some fd) (hc : zcls[ci]? = some (C, T, N)) (hN : f < N)
    (hw : Jvm.Cond.fieldLink (iN mi).cls n (T f).1 (T f).2.1 (T f).2.2.1 ∈ zTw) (hk : V 0 G mi Z (pc + 3) l (zfv kd ix f M fd :: st) M) : V 0 G mi Z pc l (zr kd ix :: st) M := by
  rw [V_eq] at hk ⊢; intro hok p e s m args below meth c H locs ls hf hr hlk hfr hE hP hS hl
  obtain ⟨q0, hq0, hq1⟩ := zws_at (G := G) hv
  have he := hq1 M
  rw [zent_obj hk0] at he
  exact va_get (D := gD G) (ci := ci) (C := C) (T := T) (N := N) hf.1 hf.2.1 hf.2.2.2.2 (zuws hc) hf.2.2.2.1 hE.1 hP q0 he hc f hN (hf.2.2.2.2 _ hw) (fun _ h => h) (zfs_get hfd) hd (hk hok p e s m args below meth c H locs ls hf hr hlk hfr hE hP hS hl)
set_option maxHeartbeats 1000000 in
theorem z_putfield {n kd ix ci f N : Nat} {fs : List ZF} {C : String} {T : u_T} {x : Int32} (hd : decode (iB mi) pc = .ok (.putfield n, 3)) (hk0 : zK kd = .inl (ci, fs)) (hv : zval kd ix) (hfd : fs[f]? = some none) (hc : zcls[ci]? = some (C, T, N)) (hN : f < N)
    (hw : Jvm.Cond.fieldLink (iN mi).cls n (T f).1 (T f).2.1 (T f).2.2.1 ∈ zTw) (hfin : (T f).2.2.2 = false) (hty : parseFieldDescriptor (T f).2.2.1 = some .int) (hk : V 0 G mi Z (pc + 3) l st (zset kd ix f x M)) : V 0 G mi Z pc l (zi x :: zr kd ix :: st) M := by
  rw [V_eq] at hk ⊢; intro hok p e s m args below meth c H locs ls hf hr hlk hfr hE hP hS hl
  obtain ⟨q0, hq0, hq1⟩ := zws_at (G := G) hv
  have he := hq1 M
  rw [zent_obj hk0] at he
  have hlt : f < (zfs G M kd ix fs).length := by rw [zfs_len]; exact (List.getElem?_eq_some_iff.mp hfd).1
  have hcm := List.mem_of_getElem? hc
  refine va_put (D := gD G) (ci := ci) (C := C) (T := T) (N := N) (ty := .int) (v := .int x) hf.1 hf.2.1 hf.2.2.2.2 (zuws hc) (fun k => (parseFieldDescriptor (T k).2.2.1).getD .int) (fun k hk => ?_) (zname _ hcm) hf.2.2.2.1 hE.1 hP (zws_D hok M) hS q0 he hc f hN (hf.2.2.2.2 _ hw) (fun _ h => h) hfin hty rfl rfl hlt hd (fun H1 locs1 hP1 hD1 hS1 => ?_)
  · have h := ztyp _ hcm k hk
    obtain ⟨t, ht⟩ := Option.isSome_iff_exists.mp h
    rw [ht]; rfl
  · rw [zset_heap hq0 (by rw [zent_obj hk0, zfs_set hfd])] at hP1
    exact hk hok p e s m args below meth c H1 locs1 ls hf hr hlk hfr hE hP1 hS1 hl
set_option maxHeartbeats 1000000 in
theorem z_iaload {kd ix n : Nat} {i : Int32} (hd : decode (iB mi) pc = .ok (.iaload, 1)) (hk0 : zK kd = .inr (0, n)) (hv : zval kd ix) (hin : vp_in i n) (hk : V 0 G mi Z (pc + 1) l (zi (M.1 kd ix i.toNatClampNeg) :: st) M) : V 0 G mi Z pc l (zi i :: zr kd ix :: st) M := by
  rw [V_eq] at hk ⊢; intro hok p e s m args below meth c H locs ls hf hr hlk hfr hE hP hS hl
  obtain ⟨q0, hq0, hq1⟩ := zws_at (G := G) hv
  have he := hq1 M
  rw [zent_arr hk0] at he
  exact va_iald (D := gD G) hf.1 hf.2.1 hE.1 hP q0 0 he rfl hin hd (hk hok p e s m args below meth c H locs ls hf hr hlk hfr hE hP hS hl)
set_option maxHeartbeats 1000000 in
theorem z_baload {kd ix n : Nat} {i : Int32} (hd : decode (iB mi) pc = .ok (.baload, 1)) (hk0 : zK kd = .inr (2, n)) (hv : zval kd ix) (hin : vp_in i n) (hk : V 0 G mi Z (pc + 1) l (zi (M.1 kd ix i.toNatClampNeg) :: st) M) : V 0 G mi Z pc l (zi i :: zr kd ix :: st) M := by
  rw [V_eq] at hk ⊢; intro hok p e s m args below meth c H locs ls hf hr hlk hfr hE hP hS hl
  obtain ⟨q0, hq0, hq1⟩ := zws_at (G := G) hv
  have he := hq1 M
  rw [zent_arr hk0] at he
  exact va_zald (D := gD G) hf.1 hf.2.1 hE.1 hP q0 2 he rfl hin hd (hk hok p e s m args below meth c H locs ls hf hr hlk hfr hE hP hS hl)
set_option maxHeartbeats 1000000 in
theorem z_laload {kd ix n : Nat} {i : Int32} (hd : decode (iB mi) pc = .ok (.laload, 1)) (hk0 : zK kd = .inr (1, n)) (hv : zval kd ix) (hin : vp_in i n) (hk : V 0 G mi Z (pc + 1) l (zl (M.2 kd ix i.toNatClampNeg) :: st) M) : V 0 G mi Z pc l (zi i :: zr kd ix :: st) M := by
  rw [V_eq] at hk ⊢; intro hok p e s m args below meth c H locs ls hf hr hlk hfr hE hP hS hl
  obtain ⟨q0, hq0, hq1⟩ := zws_at (G := G) hv
  have he := hq1 M
  rw [zent_arr hk0] at he
  exact va_lald (D := gD G) hf.1 hf.2.1 hE.1 hP q0 1 he rfl hin hd (hk hok p e s m args below meth c H locs ls hf hr hlk hfr hE hP hS hl)
set_option maxHeartbeats 1000000 in
theorem z_aaload3 {kd ix n : Nat} {i : Int32} (hd : decode (iB mi) pc = .ok (.aaload, 1)) (hk0 : zK kd = .inr (3, n)) (hv : zval kd ix) (hin : vp_in i n) (hk : V 0 G mi Z (pc + 1) l (zr 0 i.toNatClampNeg :: st) M) : V 0 G mi Z pc l (zi i :: zr kd ix :: st) M := by
  rw [V_eq] at hk ⊢; intro hok p e s m args below meth c H locs ls hf hr hlk hfr hE hP hS hl
  obtain ⟨q0, hq0, hq1⟩ := zws_at (G := G) hv
  have he := hq1 M
  rw [zent_arr hk0] at he
  exact va_aldq (D := gD G) hf.1 hf.2.1 hE.1 hP q0 3 he rfl hin hd (hk hok p e s m args below meth c H locs ls hf hr hlk hfr hE hP hS hl)
set_option maxHeartbeats 1000000 in
theorem z_aaload4 {kd ix n : Nat} {i : Int32} (hd : decode (iB mi) pc = .ok (.aaload, 1)) (hk0 : zK kd = .inr (4, n)) (hv : zval kd ix) (hin : vp_in i n) (hk : V 0 G mi Z (pc + 1) l (zr 2 i.toNatClampNeg :: st) M) : V 0 G mi Z pc l (zi i :: zr kd ix :: st) M := by
  rw [V_eq] at hk ⊢; intro hok p e s m args below meth c H locs ls hf hr hlk hfr hE hP hS hl
  obtain ⟨q0, hq0, hq1⟩ := zws_at (G := G) hv
  have he := hq1 M
  rw [zent_arr hk0] at he
  exact va_aldq (D := gD G) hf.1 hf.2.1 hE.1 hP q0 4 he rfl hin hd (hk hok p e s m args below meth c H locs ls hf hr hlk hfr hE hP hS hl)
set_option maxHeartbeats 1000000 in
theorem z_iastore {kd ix n : Nat} {i x : Int32} (hd : decode (iB mi) pc = .ok (.iastore, 1)) (hk0 : zK kd = .inr (0, n)) (hv : zval kd ix) (hin : vp_in i n) (hk : V 0 G mi Z (pc + 1) l st (zset kd ix i.toNatClampNeg x M)) : V 0 G mi Z pc l (zi x :: zi i :: zr kd ix :: st) M := by
  rw [V_eq] at hk ⊢; intro hok p e s m args below meth c H locs ls hf hr hlk hfr hE hP hS hl
  obtain ⟨q0, hq0, hq1⟩ := zws_at (G := G) hv
  have he := hq1 M
  rw [zent_arr hk0] at he
  refine va_iast (D := gD G) hf.1 hf.2.1 hE.1 hP (zws_D hok M) hS q0 0 he rfl hin hd (fun H1 locs1 hP1 hD1 hS1 => ?_)
  rw [zset_heap (j := i.toNatClampNeg) (v := x) hq0 (by rw [zent_arr hk0]; simp only [zarr, zset_row])] at hP1
  exact hk hok p e s m args below meth c H1 locs1 ls hf hr hlk hfr hE hP1 hS1 hl
set_option maxHeartbeats 1000000 in
theorem z_bastore {kd ix n : Nat} {i x : Int32} (hd : decode (iB mi) pc = .ok (.bastore, 1)) (hk0 : zK kd = .inr (2, n)) (hv : zval kd ix) (hin : vp_in i n) (hx : x = 0 ∨ x = 1) (hk : V 0 G mi Z (pc + 1) l st (zset kd ix i.toNatClampNeg x M)) : V 0 G mi Z pc l (zi x :: zi i :: zr kd ix :: st) M := by
  rw [V_eq] at hk ⊢; intro hok p e s m args below meth c H locs ls hf hr hlk hfr hE hP hS hl
  obtain ⟨q0, hq0, hq1⟩ := zws_at (G := G) hv
  have he := hq1 M
  rw [zent_arr hk0] at he
  have hx2 : vp_nar .boolean x = x := by rcases hx with rfl | rfl <;> rfl
  refine va_zast (D := gD G) hf.1 hf.2.1 hE.1 hP (zws_D hok M) hS q0 2 he rfl hin hd (fun H1 locs1 hP1 hD1 hS1 => ?_)
  rw [hx2, zset_heap (j := i.toNatClampNeg) (v := x) hq0 (by rw [zent_arr hk0]; simp only [zarr, zset_row])] at hP1
  exact hk hok p e s m args below meth c H1 locs1 ls hf hr hlk hfr hE hP1 hS1 hl
set_option maxHeartbeats 1000000 in
theorem z_lastore {kd ix n : Nat} {i : Int32} {x : Int64} (hd : decode (iB mi) pc = .ok (.lastore, 1)) (hk0 : zK kd = .inr (1, n)) (hv : zval kd ix) (hin : vp_in i n) (hk : V 0 G mi Z (pc + 1) l st (zsetL kd ix i.toNatClampNeg x M)) : V 0 G mi Z pc l (zl x :: zi i :: zr kd ix :: st) M := by
  rw [V_eq] at hk ⊢; intro hok p e s m args below meth c H locs ls hf hr hlk hfr hE hP hS hl
  obtain ⟨q0, hq0, hq1⟩ := zws_at (G := G) hv
  have he := hq1 M
  rw [zent_arr hk0] at he
  refine va_last (D := gD G) hf.1 hf.2.1 hE.1 hP (zws_D hok M) hS q0 1 he rfl hin hd (fun H1 locs1 hP1 hD1 hS1 => ?_)
  rw [zsetL_heap (j := i.toNatClampNeg) (v := x) hq0 (by rw [zent_arr hk0]; simp only [zarr, zsetL_row])] at hP1
  exact hk hok p e s m args below meth c H1 locs1 ls hf hr hlk hfr hE hP1 hS1 hl
set_option maxHeartbeats 1000000 in
theorem z_alen {kd ix t n : Nat} (hd : decode (iB mi) pc = .ok (.arraylength, 1)) (hk0 : zK kd = .inr (t, n)) (ht : t < 3) (hv : zval kd ix) (hk : V 0 G mi Z (pc + 1) l (zi (Int32.ofNat n) :: st) M) : V 0 G mi Z pc l (zr kd ix :: st) M := by
  rw [V_eq] at hk ⊢; intro hok p e s m args below meth c H locs ls hf hr hlk hfr hE hP hS hl
  obtain ⟨q0, hq0, hq1⟩ := zws_at (G := G) hv
  have he := hq1 M
  rw [zent_arr hk0] at he
  match t, ht with
  | 0, _ => exact va_alen (D := gD G) hf.1 hf.2.1 hE.1 hP q0 0 he rfl rfl hd (hk hok p e s m args below meth c H locs ls hf hr hlk hfr hE hP hS hl)
  | 1, _ => exact va_alen (D := gD G) hf.1 hf.2.1 hE.1 hP q0 1 he rfl rfl hd (hk hok p e s m args below meth c H locs ls hf hr hlk hfr hE hP hS hl)
  | 2, _ => exact va_alen (D := gD G) hf.1 hf.2.1 hE.1 hP q0 2 he rfl rfl hd (hk hok p e s m args below meth c H locs ls hf hr hlk hfr hE hP hS hl)
set_option maxHeartbeats 1000000 in
theorem z_rows {i : Int32} (hd : decode (iB mi) pc = .ok (.laload, 1)) (hin : vp_in i 31) (hk : V 0 G mi Z (pc + 1) l (zl (zrows i.toNatClampNeg) :: st) M) : V 0 G mi Z pc l (zi i :: zr 38 0 :: st) M := by
  rw [V_eq] at hk ⊢; intro hok p e s m args below meth c H locs ls hf hr hlk hfr hE hP hS hl
  exact va_tl hf.1 hf.2.1 hE.2.2.1 hS hin rfl hd (hk hok p e s m args below meth c H locs ls hf hr hlk hfr hE hP hS hl)
set_option maxHeartbeats 1000000 in
theorem z_script {i : Int32} (hd : decode (iB mi) pc = .ok (.iaload, 1)) (hin : vp_in i (gN G)) (hk : V 0 G mi Z (pc + 1) l (zi (gX G i.toNatClampNeg) :: st) M) : V 0 G mi Z pc l (zi i :: zr 39 0 :: st) M := by
  rw [V_eq] at hk ⊢; intro hok p e s m args below meth c H locs ls hf hr hlk hfr hE hP hS hl
  exact va_ti hf.1 hf.2.1 hE.2.2.2.1 hS hin rfl hd (hk hok p e s m args below meth c H locs ls hf hr hlk hfr hE hP hS hl)
set_option maxHeartbeats 1000000 in
theorem z_scriptlen (hd : decode (iB mi) pc = .ok (.arraylength, 1)) (hk : V 0 G mi Z (pc + 1) l (zi (Int32.ofNat (gN G)) :: st) M) : V 0 G mi Z pc l (zr 39 0 :: st) M := by
  rw [V_eq] at hk ⊢; intro hok p e s m args below meth c H locs ls hf hr hlk hfr hE hP hS hl
  exact va_tlen hf.1 hf.2.1 hE.2.2.2.1 hS rfl hd (hk hok p e s m args below meth c H locs ls hf hr hlk hfr hE hP hS hl)
set_option maxHeartbeats 1000000 in
theorem z_getrows {n : Nat} (hd : decode (iB mi) pc = .ok (.getstatic n, 3)) (hw : Jvm.Cond.fieldLink (iN mi).cls n "ThreeStrandMaps$SolutionList" "ROWS" "[J" ∈ zTw) (hk : V 0 G mi Z (pc + 3) l (zr 38 0 :: st) M) : V 0 G mi Z pc l st M := by
  rw [V_eq] at hk ⊢; intro hok p e s m args below meth c H locs ls hf hr hlk hfr hE hP hS hl
  exact va_gets hf.1 hf.2.1 hE.2.1 hS hf.2.2.2.1 (hf.2.2.2.2 _ hw) (fun _ h => h) hd (hk hok p e s m args below meth c H locs ls hf hr hlk hfr hE hP hS hl)
set_option maxHeartbeats 1000000 in
theorem z_dup {v : ZV} (hd : decode (iB mi) pc = .ok (.dup, 1)) (hv : zcat v = 1) (hk : V 0 G mi Z (pc + 1) l (v :: v :: st) M) : V 0 G mi Z pc l (v :: st) M := by
  rw [V_eq] at hk ⊢; intro hok p e s m args below meth c H locs ls hf hr hlk hfr hE hP hS hl
  exact lv_dup hf.1 hf.2.1 hd (by rw [zcat_eq]; exact hv) (hk hok p e s m args below meth c H locs ls hf hr hlk hfr hE hP hS hl)
set_option maxHeartbeats 1000000 in
theorem z_dup2 {v w : ZV} (hd : decode (iB mi) pc = .ok (.dup2, 1)) (hv : zcat v = 1) (hw : zcat w = 1) (hk : V 0 G mi Z (pc + 1) l (v :: w :: v :: w :: st) M) : V 0 G mi Z pc l (v :: w :: st) M := by
  rw [V_eq] at hk ⊢; intro hok p e s m args below meth c H locs ls hf hr hlk hfr hE hP hS hl
  exact lv_dup2_11 hf.1 hf.2.1 hd (by rw [zcat_eq]; exact hv) (by rw [zcat_eq]; exact hw) (hk hok p e s m args below meth c H locs ls hf hr hlk hfr hE hP hS hl)
set_option maxHeartbeats 1000000 in
theorem z_goto {off : Int} {tgt : Nat} (hd : decode (iB mi) pc = .ok (.goto off, 3)) (ht : (pc : Int) + off = (tgt : Int)) (hk : V 0 G mi Z tgt l st M) : V 0 G mi Z pc l st M := by
  rw [V_eq] at hk ⊢; intro hok p e s m args below meth c H locs ls hf hr hlk hfr hE hP hS hl
  exact lv_goto hf.1 hf.2.1 hd ht (hk hok p e s m args below meth c H locs ls hf hr hlk hfr hE hP hS hl)
set_option maxHeartbeats 1000000 in
theorem z_iinc {n : Nat} {a : Int} {x y : Int32} (hd : decode (iB mi) pc = .ok (.iinc n a, 3)) (hg : lget l n = some (zi x)) (hy : Int32.ofInt a = y) (hn : n < iL mi) (hk : V 0 G mi Z (pc + 3) (lput n (zi (x + y)) l) st M) : V 0 G mi Z pc l st M := by
  rw [V_eq] at hk ⊢
  intro hok p e s m args below meth c H locs ls0 hf hr hlk hfr hE hP hS hl
  obtain ⟨k, hk9⟩ := List.getElem?_of_mem (List.mem_map.mpr ⟨(n, zi x), lget_mem hg, rfl⟩ : (n, zc G (zi x)) ∈ zlm G l)
  exact lv_iinc hf.1 hf.2.1 hd hl (k := k) hk9 (by rw [hy]) hn rfl (fun ls hl2 => hk hok p e s m args below meth c H locs ls hf hr hlk hfr hE hP hS (lput_has1 hl2))
theorem V_sub {l' : ZL} (hs : ∀ q ∈ l', q ∈ l) (hk : V 0 G mi Z pc l' st M) : V 0 G mi Z pc l st M := by
  rw [V_eq] at hk ⊢; intro hok p e s m args below meth c H locs ls hf hr hlk hfr hE hP hS hl
  exact hk hok p e s m args below meth c H locs ls hf hr hlk hfr hE hP hS (zkeep_has hl hs)
end
end
section
theorem zEnv_keep {G : ZG} {s U : State} {H H' : Heap} (hE : zEnv G s H) (hq : ∀ a : Nat, a < H.size → ¬ gA G a → H'[a]? = H[a]?) (hvm : s.vm.Alike U.vm) (hn : ∀ w ∈ znest, va_Nw w U) : zEnv G U H' :=
  ⟨va_K.moved hvm hE.1, (hE.2.1.moved hvm).kept hq, (hE.2.2.1.moved hvm).kept hq, (hE.2.2.2.1.moved hvm).kept hq, hn⟩
theorem znest_form : ∀ w ∈ znest, ∃ a i x h, w = .methodLinkNest a i x h := by
  intro w hw
  have h := (List.mem_filter.mp hw).2
  cases w <;> first | exact ⟨_, _, _, _, rfl⟩ | cases h
theorem znest_warm {s U : State} (hW : s.WarmedH U.vm) (h : ∀ w ∈ znest, va_Nw w s) : ∀ w ∈ znest, va_Nw w U := by
  intro w hw
  have h2 := h w hw
  obtain ⟨a, i, x, h9, rfl⟩ := znest_form w hw
  exact va_Nw.warmM hW h2
theorem zEnv_call {G : ZG} {s U : State} {H : Heap} {locs : List Loc} (hE : zEnv G s s.heap) (hS : va_S (gA G) s.heap H locs) (hU : U.heap = H) (hW : s.WarmedH U.vm) : zEnv G U U.heap := by
  rw [hU]
  exact zEnv_keep hE (fun a h1 h2 => hS.2.1 a h1 h2) hW.alike (znest_warm hW hE.2.2.2.2)
theorem zPc_blind (G : ZG) (M : ZM) (av : List ZV) : FrameBlind (zPc G M av) := fun a U g mk q => ⟨q.1, q.2.1, zEnv_keep (s := U) (U := U.calling g mk a) q.2.2 (fun _ _ _ => rfl) (Vm.Alike.refl U.vm) (fun w hw => by
  have h2 := q.2.2.2.2.2.2 w hw
  obtain ⟨a, i, x, h9, rfl⟩ := znest_form w hw
  exact va_Nw.same rfl (U := U.calling g mk _) rfl h2)⟩
section
variable {p : Program} {l : Launch} {e : Env} {R : Room} {s : State} {m : MethodId} {args : Array Value} {below : List Frame} {meth : Method} {c : Code} {H : Heap} {locs : List Loc} {cells slots : Nat} {Q : State → Prop}
theorem zcall {G : ZG} {Z : Option ZV → ZM → Prop} {pc : Nat} {ls : Array Slot} {st0 rest : List Value} {av : Array Value} {H0 : Heap} (hr : va_Run p l e R s m args below meth c H locs cells slots 0 0 (F0 m pc ls st0) rest (zQc G Z av) (gA G)) (hS : va_S (gA G) H0 H locs)
    (kk : ∀ (r : Option ZV) (M' : ZM) (H1 : Heap) (locs1 : List Loc), Z r M' → va_P (gD G) zcls (zws G M') H1 → va_S (gA G) H0 H1 locs1 → W p l e R s m args below meth c H1 locs1 cells slots Q (F0 m (pc + 3) ls ((r.map (zc G)).toList ++ rest))) : W p l e R s m args below meth c H locs cells slots Q (F0 m pc ls st0) := by
  intro T hT X
  obtain ⟨v, st₀, t, T', L, h0, X', hL, hT', hvm, hQ, hg⟩ := hr T hT X
  obtain ⟨⟨r, M', hv, hZ, hP⟩, hF1, hF2⟩ := hQ
  have hv2 : v = r.map (zc G) := Outcome.returned.inj hv
  subst hv2
  have hS1 : va_S (gA G) H0 t.heap (locs ++ L) := by
    refine ⟨Nat.le_trans hS.1 (by rw [← h0]; exact hF1), fun q h1 h2 => ?_, fun q hq => ?_⟩
    · rw [hF2 q (by rw [h0]; exact Nat.lt_of_lt_of_le h1 hS.1) h2, h0]
      exact hS.2.1 q h1 h2
    · rcases List.mem_append.mp hq with h | h
      · exact hS.2.2 q h
      · exact hL q h
  obtain ⟨t2, a1, b1⟩ := kk r M' t.heap (locs ++ L) hZ hP hS1 T' hT' X'
  exact ⟨t2, hg t2 a1, b1⟩
end
/-- a method's row of the tables: its code's word, its class initialised, how many arguments -/
def zmOk (cm : ZI) : Prop := Jvm.Cond.code (iN cm) (iB cm) (iL cm) (iR cm) ∈ zTw ∧ Jvm.Cond.initialized (iN cm).cls ∈ zTw ∧ ((iN cm).cls ≠ "java/lang/invoke/MethodHandle" ∧ (iN cm).cls ≠ "java/lang/invoke/VarHandle" ∧ (parseMethodDescriptor (iN cm).desc).map (fun d => d.parameters.length) = some (iA cm))
def zfit (mi cm : ZI) : Prop := iD cm + 1 ≤ (zR mi).frames ∧ 8 + (iL cm + 11) + 39 * iD cm ≤ (zR mi).locals
theorem zwm_good {cm : ZI} (h : zmOk cm) {w : Jvm.Cond} (hw : w ∈ zwm cm) : w ∈ zTw := by
  rcases List.mem_cons.mp hw with h1 | h1
  · rw [h1]; exact h.1
  · exact h1
theorem zgood {ws : List Jvm.Cond} (h : ∀ w ∈ ws, w ∈ zTw) : GoodIn zTw ws := fun w hw => ⟨h w hw, zTw_good w (h w hw)⟩
theorem zcs_le (mi : ZI) : zC mi + 0 ≤ (zR mi).cells ∧ zS mi + 0 ≤ (zR mi).slots := by
  unfold zC zS zR
  cases (iD mi == 11) <;> exact ⟨Nat.le_refl _, Nat.le_refl _⟩
section
variable {G : ZG} {mi : ZI} {Z : Option ZV → ZM → Prop} {pc : Nat} {l : ZL} {st : List ZV} {M : ZM}
set_option maxHeartbeats 1000000 in
theorem z_virt {n kd ix ci N : Nat} {fs : List ZF} {C : String} {T : u_T} {cm : ZI} {as : List ZV} (hd : decode (iB mi) pc = .ok (.invokevirtual n, 3)) (hm : zmOk cm) (hfit : zfit mi cm) (has : as.length = iA cm) (hst : zct st ≤ 8) (hk0 : zK kd = .inl (ci, fs)) (hv : zval kd ix) (hc : zcls[ci]? = some (C, T, N)) (hC : (iN cm).cls = C)
    (hw1 : Jvm.Cond.methodLink (iN mi).cls n (iN cm) ∈ zTw) (hw2 : Jvm.Cond.instanceMethod (iN cm) ∈ zTw) (hw3 : Jvm.Cond.selects C (iN cm) (iN cm) ∈ zTw)
    (hk : Ctr 0 G cm (zr kd ix :: as) M (fun r M' => V 0 G mi Z (pc + 3) l (r.toList ++ st) M')) : V 0 G mi Z pc l (as.reverse ++ zr kd ix :: st) M := by
  rw [V_eq]
  rw [Ctr_eq] at hk
  intro hok p e s m args below meth c H locs ls hf hr hlk hfr hE hP hS hl
  obtain ⟨q0, hq0, hq1⟩ := zws_at (G := G) hv
  have he := hq1 M
  rw [zent_obj hk0] at he
  have hT : GoodIn zTw (wsV (iN mi).cls n C (iN cm) (zwm cm)) := zgood (fun w hw => by
    unfold wsV at hw
    simp only [List.cons_append, List.nil_append, List.mem_cons] at hw
    rcases hw with rfl | rfl | rfl | rfl | hw
    · exact hw1
    · exact hw2
    · exact hw3
    · rw [← hC]; exact hm.2.1
    · exact zwm_good hm hw)
  refine zcall (Z := fun r M' => V 0 G mi Z (pc + 3) l (r.toList ++ st) M') (rest := st.map (zc G)) (va_runV (As := as.map (zc G)) (rest := st.map (zc G)) hf (hk hok) (cwV (iA cm) hf.2.2.2.2 hT rfl rfl rfl ⟨hC, hm.2.2.1, hm.2.2.2.1, hm.2.2.2.2⟩ hfit) ⟨zPc_blind G M _, va_recv hE.1 hP hc he, fun U hU hW => ⟨rfl, by rw [hU]; exact hP, zEnv_call hE hS hU hW⟩⟩ rfl (by rw [List.length_map]; exact has) hl.1 (by simp [List.map_append, List.map_reverse, zc]) (lv_room (by rw [zct_eq]; exact hst)) hd (zcs_le mi)) hS (fun r M' H1 locs1 hZ hP1 hS1 => ?_)
  rw [V_eq] at hZ
  have h := hZ hok p e s m args below meth c H1 locs1 ls hf hr hlk hfr hE hP1 hS1 hl
  cases r with
  | none => exact h
  | some r => exact h
set_option maxHeartbeats 1000000 in
theorem z_stat {n : Nat} {cm : ZI} {as : List ZV} (hd : decode (iB mi) pc = .ok (.invokestatic n, 3)) (hm : zmOk cm) (hfit : zfit mi cm) (has : as.length = iA cm) (hst : zct st ≤ 8)
    (hw1 : Jvm.Cond.methodLink (iN mi).cls n (iN cm) ∈ zTw) (hw2 : Jvm.Cond.static (iN cm) ∈ zTw)
    (hk : Ctr 0 G cm as M (fun r M' => V 0 G mi Z (pc + 3) l (r.toList ++ st) M')) : V 0 G mi Z pc l (as.reverse ++ st) M := by
  rw [V_eq]
  rw [Ctr_eq] at hk
  intro hok p e s m args below meth c H locs ls hf hr hlk hfr hE hP hS hl
  have hT : GoodIn zTw (va_wsS (iN mi).cls n (iN cm) (zwm cm)) := zgood (fun w hw => by
    unfold va_wsS at hw
    simp only [List.cons_append, List.nil_append, List.mem_cons] at hw
    rcases hw with rfl | rfl | rfl | hw
    · exact hw1
    · exact hw2
    · exact hm.2.1
    · exact zwm_good hm hw)
  refine zcall (Z := fun r M' => V 0 G mi Z (pc + 3) l (r.toList ++ st) M') (rest := st.map (zc G)) (va_runS (As := as.map (zc G)) (rest := st.map (zc G)) hf (hk hok) (va_cwS (iA cm) hf.2.2.2.2 hT rfl rfl rfl hm.2.2 hfit) ⟨zPc_blind G M _, fun U hU hW => ⟨rfl, by rw [hU]; exact hP, zEnv_call hE hS hU hW⟩⟩ rfl (by rw [List.length_map]; exact has) hl.1 (by simp [List.map_append, List.map_reverse]) (lv_room (by rw [zct_eq]; exact hst)) hd (zcs_le mi)) hS (fun r M' H1 locs1 hZ hP1 hS1 => ?_)
  rw [V_eq] at hZ
  have h := hZ hok p e s m args below meth c H1 locs1 ls hf hr hlk hfr hE hP1 hS1 hl
  cases r with
  | none => exact h
  | some r => exact h
set_option maxHeartbeats 1000000 in
theorem z_nest {n : Nat} {cm : ZI} {host : String} {as : List ZV} (hd : decode (iB mi) pc = .ok (.invokestatic n, 3)) (hm : zmOk cm) (hfit : zfit mi cm) (has : as.length = iA cm) (hst : zct st ≤ 8)
    (hw1 : Jvm.Cond.methodLinkNest (iN mi).cls n (iN cm) host ∈ znest) (hw2 : Jvm.Cond.static (iN cm) ∈ zTw)
    (hk : Ctr 0 G cm as M (fun r M' => V 0 G mi Z (pc + 3) l (r.toList ++ st) M')) : V 0 G mi Z pc l (as.reverse ++ st) M := by
  rw [V_eq]
  rw [Ctr_eq] at hk
  intro hok p e s m args below meth c H locs ls hf hr hlk hfr hE hP hS hl
  have hT : GoodIn zTw (zwm cm) := zgood (fun w hw => zwm_good hm hw)
  refine zcall (Z := fun r M' => V 0 G mi Z (pc + 3) l (r.toList ++ st) M') (rest := st.map (zc G)) (va_runSN (As := as.map (zc G)) (rest := st.map (zc G)) hf (hk hok) ⟨va_cnB (iA cm) hf.2.2.2.2 hT rfl rfl rfl (hE.2.2.2.2 _ hw1) (hf.2.2.2.2 _ hm.2.1) hm.2.2 hfit, hf.2.2.2.2 _ hw2, trivial⟩ ⟨zPc_blind G M _, fun U hU hW => ⟨rfl, by rw [hU]; exact hP, zEnv_call hE hS hU hW⟩⟩ rfl (by rw [List.length_map]; exact has) hl.1 (by simp [List.map_append, List.map_reverse]) (lv_room (by rw [zct_eq]; exact hst)) hd (zcs_le mi)) hS (fun r M' H1 locs1 hZ hP1 hS1 => ?_)
  rw [V_eq] at hZ
  have h := hZ hok p e s m args below meth c H1 locs1 ls hf hr hlk hfr hE hP1 hS1 hl
  cases r with
  | none => exact h
  | some r => exact h
theorem zlaw_no (h : iD mi ≠ 11) : (iD mi == 11) = false := by simpa using h
set_option maxHeartbeats 1000000 in
theorem z_ireturn {x : Int32} (hd : decode (iB mi) pc = .ok (.ireturn, 1)) (hD : iD mi ≠ 11) (hR : iR mi = some .int) (hk : Z (some (zi x)) M) : V 0 G mi Z pc l [zi x] M := by
  rw [V_eq]
  intro hok p e s m args below meth c H locs ls hf hr hlk hfr hE hP hS hl
  simp only [zQ, zC, zS, zR, zlaw_no hD, cond_false]
  exact W.iret (v := x) hf.1 hf.2.1 (hr.trans hR) (fun t ht hW => ⟨⟨some (zi x), M, rfl, hk, by rw [ht]; exact hP⟩, hS.F ht⟩) hS.2.2 hd hlk
set_option maxHeartbeats 1000000 in
theorem z_zreturn {x : Int32} (hd : decode (iB mi) pc = .ok (.ireturn, 1)) (hD : iD mi ≠ 11) (hR : iR mi = some .boolean) (hx : x = 0 ∨ x = 1) (hk : Z (some (zi x)) M) : V 0 G mi Z pc l [zi x] M := by
  rw [V_eq]
  intro hok p e s m args below meth c H locs ls hf hr hlk hfr hE hP hS hl
  simp only [zQ, zC, zS, zR, zlaw_no hD, cond_false]
  exact W.zret (v := x) (ty := .boolean) hf.1 hf.2.1 (hr.trans hR) (by rcases hx with rfl | rfl <;> rfl) (fun t ht hW => ⟨⟨some (zi x), M, rfl, hk, by rw [ht]; exact hP⟩, hS.F ht⟩) hS.2.2 hd hlk
set_option maxHeartbeats 1000000 in
theorem z_lreturn {x : Int64} (hd : decode (iB mi) pc = .ok (.lreturn, 1)) (hD : iD mi ≠ 11) (hR : iR mi = some .long) (hk : Z (some (zl x)) M) : V 0 G mi Z pc l [zl x] M := by
  rw [V_eq]
  intro hok p e s m args below meth c H locs ls hf hr hlk hfr hE hP hS hl
  simp only [zQ, zC, zS, zR, zlaw_no hD, cond_false]
  exact W.lret (v := x) hf.1 hf.2.1 (hr.trans hR) (fun t ht hW => ⟨⟨some (zl x), M, rfl, hk, by rw [ht]; exact hP⟩, hS.F ht⟩) hS.2.2 hd hlk
set_option maxHeartbeats 1000000 in
theorem z_areturn {a b : Nat} {n : String} (hd : decode (iB mi) pc = .ok (.areturn, 1)) (hD : iD mi ≠ 11) (hR : iR mi = some (.object n)) (hk : Z (some (zr a b)) M) : V 0 G mi Z pc l [zr a b] M := by
  rw [V_eq]
  intro hok p e s m args below meth c H locs ls hf hr hlk hfr hE hP hS hl
  simp only [zQ, zC, zS, zR, zlaw_no hD, cond_false]
  exact W.aret (v := .ref (ga G a b)) hf.1 hf.2.1 (hr.trans hR) (Or.inl ⟨n, rfl⟩) (Or.inr ⟨_, rfl⟩) (fun t ht hW => ⟨⟨some (zr a b), M, rfl, hk, by rw [ht]; exact hP⟩, hS.F ht⟩) hS.2.2 hd hlk
set_option maxHeartbeats 1000000 in
theorem z_return (hd : decode (iB mi) pc = .ok (.return_, 1)) (hD : iD mi ≠ 11) (hR : iR mi = none) (hk : Z none M) : V 0 G mi Z pc l [] M := by
  rw [V_eq]
  intro hok p e s m args below meth c H locs ls hf hr hlk hfr hE hP hS hl
  simp only [zQ, zC, zS, zR, zlaw_no hD, cond_false]
  exact W.vret hf.1 hf.2.1 (hr.trans hR) (fun t ht hW => ⟨⟨none, M, rfl, hk, by rw [ht]; exact hP⟩, hS.F ht⟩) hS.2.2 hd hlk
end
theorem zlaw_end {p : Program} {l : Launch} {e : Env} {R : Room} {s : State} {m : MethodId} {args : Array Value} {below : List Frame} {meth : Method} {c : Code} {H : Heap} {cc : ByteArray} {ls : Array Slot} {pc : Nat} (hx : p.tables.exec = Jvm.exec) (hb : c.code = cc) (hr : meth.sig.returnType = some .boolean) (hlocks : meth.locks = false) (hdg : decode cc pc = .ok (.ireturn, 1)) : W p l e R s m args below meth c H [] 600000 7302250 (zZ below args s) (F0 m pc ls [.int 1]) := by
  intro T hT X
  obtain ⟨fs, hret, hrun, hended, hW, hframe⟩ := X.leave (v := some (.int 1)) (hlocks := hlocks) (fun h => by rw [hr] at h; cases h)
  have hmeth' : T.vm.method? m = some meth := X.method'
  refine ⟨T.setFrames fs, ?_, .returned (some (.int 1)), hrun, hended, rfl, ⟨_, rfl⟩, hW, hframe⟩
  jvm_step X.here [X.here.top, hx, hb, hdg, hmeth', hr, narrow_b1]
  (try refine ⟨rfl, ?_⟩); (try refine ⟨rfl, ?_⟩)
  first | (intro acts; rw [hret _ acts rfl rfl rfl]) | rw [hret _ _ rfl rfl rfl]
  exact Steps.refl _
set_option maxHeartbeats 1000000 in
theorem z_lawret {G : ZG} {mi : ZI} {Z : Option ZV → ZM → Prop} {pc : Nat} {l : ZL} {M : ZM} (hd : decode (iB mi) pc = .ok (.ireturn, 1)) (hD : iD mi = 11) (hR : iR mi = some .boolean) : V 0 G mi Z pc l [zi 1] M := by
  rw [V_eq]
  intro hok p e s m args below meth c H locs ls hf hr hlk hfr hE hP hS hl
  have h11 : (iD mi == 11) = true := by simpa using hD
  simp only [zQ, zC, zS, zR, h11, cond_true]
  exact va_forget (fun q hq => hfr hD _ (hS.2.2 q hq)) (zlaw_end hf.1 hf.2.1 (hr.trans hR) hlk hd)
theorem Ctr_mono {G : ZG} {cm : ZI} {av : List ZV} {M : ZM} {Z Z' : Option ZV → ZM → Prop} (h : Ctr 0 G cm av M Z) (hz : ∀ r M', Z r M' → Z' r M') : Ctr 0 G cm av M Z' := by
  rw [Ctr_eq] at *
  intro hok p e ha hc hk s m args below hf hap hpre hK
  obtain ⟨t, o, h1, h2, h3, ⟨⟨r, M', e1, e2, e3⟩, hF⟩, hL⟩ := h hok p e ha hc hk s m args below hf hap hpre hK
  exact ⟨t, o, h1, h2, h3, ⟨⟨r, M', e1, hz r M' e2, e3⟩, hF⟩, hL⟩
def zargs : Nat → List ZV → ZL
  | _, [] => []
  | n, v :: r => (n, v) :: zargs (match v with | .inr (.inl _) => n + 2 | _ => n + 1) r
theorem zargs_eq (G : ZG) (av : List ZV) : ∀ n, lv_args n (av.map (zc G)) = zlm G (zargs n av) := by
  induction av with
  | nil => intro n; rfl
  | cons v r ih =>
    intro n
    rcases v with x | x | x <;> exact congrArg _ (ih _)
theorem zlen_eq (G : ZG) (av : List ZV) : (lg_sl (av.map (zc G))).length = zct av := by
  induction av with
  | nil => rfl
  | cons v r ih =>
    have h : lg_sl ((v :: r).map (zc G)) = (if (zc G v).category = 2 then [.val (zc G v), .second] else [.val (zc G v)]) ++ lg_sl (r.map (zc G)) := rfl
    rw [h, List.length_append, ih]
    rcases v with x | x | x <;> rfl
set_option maxHeartbeats 1000000 in
theorem z_enter {G : ZG} {mi : ZI} {av : List ZV} {M : ZM} {Z : Option ZV → ZM → Prop} (hpl : plainName (iN mi).cls = true) (hD : iD mi ≠ 11) (hlen : zct av ≤ iL mi) (hk : V 0 G mi Z 0 (zargs 0 av) [] M) : Ctr 0 G mi av M Z := by
  rw [Ctr_eq]
  rw [V_eq] at hk
  intro hok
  refine Met.ofW (cc := iB mi) (maxL := iL mi) (ret := iR mi) hpl rfl ?_
  intro p e s m args below meth c s₁ B hml hv
  obtain ⟨rfl, hP, hE⟩ := hv
  have hts := atoms_spec (ws := zwm mi) B.pre
  have hown : s.vm.findClass (iN mi).cls = some m.cls := findClass_of_methodNamed B.named
  have hl := lv_entry (av.map (zc G)) (n := iL mi) (by rw [zlen_eq]; exact hlen)
  rw [zargs_eq] at hl
  have h := hk hok p e s m (av.map (zc G)).toArray below meth c s.heap [] _ ⟨B.exec, B.bytes, hml, hown, fun w hw => hts w (List.mem_cons_of_mem _ hw)⟩ B.returns B.notSynchronized (fun h => absurd h hD) hE hP va_S.rf hl
  simp only [zQ, zC, zS, zR, zlaw_no hD, cond_false] at h
  rw [lg_entry_eq]
  exact h
end
section
/-! the walk as a function: what is owed at each instruction -/
abbrev ZX : Type := List Nat × (Int32 × (Int64 × List (Int32 × Nat)))
/-- a row of a method's table: where, what, what its pool's entry says, the method that it calls -/
abbrev ZE : Type := Nat × (Instr × (ZX × ZI))
def zq (x : ZX) (i : Nat) : Nat := x.1.getD i 0
def zpI (st : List ZV) (k : Int32 → List ZV → Prop) : Prop := match st with
  | .inl x :: r => k x r
  | _ => False
def zpL (st : List ZV) (k : Int64 → List ZV → Prop) : Prop := match st with
  | .inr (.inl x) :: r => k x r
  | _ => False
def zpR (st : List ZV) (k : Nat → Nat → List ZV → Prop) : Prop := match st with
  | .inr (.inr (a, b)) :: r => k a b r
  | _ => False
def zgI (l : ZL) (n : Nat) (k : Int32 → Prop) : Prop := match lget l n with
  | some (.inl x) => k x
  | _ => False
def zgL (l : ZL) (n : Nat) (k : Int64 → Prop) : Prop := match lget l n with
  | some (.inr (.inl x)) => k x
  | _ => False
def zgR (l : ZL) (n : Nat) (k : Nat → Nat → Prop) : Prop := match lget l n with
  | some (.inr (.inr (a, b))) => k a b
  | _ => False
theorem zpI_ex {st : List ZV} {k : Int32 → List ZV → Prop} (h : zpI st k) : ∃ x r, st = zi x :: r ∧ k x r := by
  unfold zpI at h
  split at h
  · exact ⟨_, _, rfl, h⟩
  · exact h.elim
theorem zpL_ex {st : List ZV} {k : Int64 → List ZV → Prop} (h : zpL st k) : ∃ x r, st = zl x :: r ∧ k x r := by
  unfold zpL at h
  split at h
  · exact ⟨_, _, rfl, h⟩
  · exact h.elim
theorem zpR_ex {st : List ZV} {k : Nat → Nat → List ZV → Prop} (h : zpR st k) : ∃ a b r, st = zr a b :: r ∧ k a b r := by
  unfold zpR at h
  split at h
  · exact ⟨_, _, _, rfl, h⟩
  · exact h.elim
theorem zgI_ex {l : ZL} {n : Nat} {k : Int32 → Prop} (h : zgI l n k) : ∃ x, lget l n = some (zi x) ∧ k x := by
  unfold zgI at h
  split at h
  · exact ⟨_, by assumption, h⟩
  · exact h.elim
theorem zgL_ex {l : ZL} {n : Nat} {k : Int64 → Prop} (h : zgL l n k) : ∃ x, lget l n = some (zl x) ∧ k x := by
  unfold zgL at h
  split at h
  · exact ⟨_, by assumption, h⟩
  · exact h.elim
theorem zgR_ex {l : ZL} {n : Nat} {k : Nat → Nat → Prop} (h : zgR l n k) : ∃ a b, lget l n = some (zr a b) ∧ k a b := by
  unfold zgR at h
  split at h
  · exact ⟨_, _, by assumption, h⟩
  · exact h.elim
theorem zany_ex {st : List ZV} {k : ZV → List ZV → Prop} (h : match st with | v :: st => k v st | _ => False) : ∃ v r, st = v :: r ∧ k v r := by
  split at h
  · exact ⟨_, _, rfl, h⟩
  · exact h.elim
theorem zany2_ex {st : List ZV} {k : ZV → ZV → List ZV → Prop} (h : match st with | v :: w :: st => k v w st | _ => False) : ∃ v w r, st = v :: w :: r ∧ k v w r := by
  split at h
  · exact ⟨_, _, _, rfl, h⟩
  · exact h.elim
theorem znil_ex {st : List ZV} {P : Prop} (h : match st with | [] => P | _ => False) : st = [] ∧ P := by
  split at h
  · exact ⟨rfl, h⟩
  · exact h.elim
theorem zzero_ex {n : Nat} {P : Prop} (h : match n with | 0 => P | _ => False) : n = 0 ∧ P := by
  split at h
  · exact ⟨rfl, h⟩
  · exact h.elim
theorem zbif_ex {b : Bool} {P : Prop} (h : bif b then P else False) : b = true ∧ P := by
  cases b with
  | true => exact ⟨rfl, h⟩
  | false => exact h.elim
theorem zbif_or {b : Bool} {P Q : Prop} (h : bif b then P else Q) : (b = true ∧ P) ∨ (b = false ∧ Q) := by
  cases b with
  | true => exact Or.inl ⟨rfl, h⟩
  | false => exact Or.inr ⟨rfl, h⟩
theorem zobj_ex {kd : Nat} {k : Nat → List ZF → Prop} (h : match zK kd with | .inl (ci, fs) => k ci fs | _ => False) : ∃ ci fs, zK kd = .inl (ci, fs) ∧ k ci fs := by
  split at h
  · exact ⟨_, _, by assumption, h⟩
  · exact h.elim
theorem zopt_ex {o : Option ZF} {k : ZF → Prop} (h : match o with | some fd => k fd | none => False) : ∃ fd, o = some fd ∧ k fd := by
  split at h
  · exact ⟨_, rfl, h⟩
  · exact h.elim
theorem zopt2_ex {o : Option ZF} {P : Prop} (h : match o with | some none => P | _ => False) : o = some none ∧ P := by
  split at h
  · exact ⟨rfl, h⟩
  · exact h.elim
theorem zarr0_ex {kd : Nat} {k : Nat → Prop} (h : match zK kd with | .inr (0, n) => k n | _ => False) : ∃ n, zK kd = .inr (0, n) ∧ k n := by
  split at h
  · exact ⟨_, by assumption, h⟩
  · exact h.elim
theorem zarr1_ex {kd : Nat} {k : Nat → Prop} (h : match zK kd with | .inr (1, n) => k n | _ => False) : ∃ n, zK kd = .inr (1, n) ∧ k n := by
  split at h
  · exact ⟨_, by assumption, h⟩
  · exact h.elim
theorem zarr2_ex {kd : Nat} {k : Nat → Prop} (h : match zK kd with | .inr (2, n) => k n | _ => False) : ∃ n, zK kd = .inr (2, n) ∧ k n := by
  split at h
  · exact ⟨_, by assumption, h⟩
  · exact h.elim
theorem zarr34_ex {kd : Nat} {k k' : Nat → Prop} (h : match zK kd with | .inr (3, n) => k n | .inr (4, n) => k' n | _ => False) : (∃ n, zK kd = .inr (3, n) ∧ k n) ∨ ∃ n, zK kd = .inr (4, n) ∧ k' n := by
  split at h
  · exact Or.inl ⟨_, by assumption, h⟩
  · exact Or.inr ⟨_, by assumption, h⟩
  · exact h.elim
theorem zarrT_ex {kd : Nat} {k : Nat → Nat → Prop} (h : match zK kd with | .inr (t, n) => k t n | _ => False) : ∃ t n, zK kd = .inr (t, n) ∧ k t n := by
  split at h
  · exact ⟨_, _, by assumption, h⟩
  · exact h.elim
theorem zret_ex {o : Option FieldType} {P Q : Prop} (h : match o with | some .int => P | some .boolean => Q | _ => False) : (o = some .int ∧ P) ∨ (o = some .boolean ∧ Q) := by
  split at h
  · exact Or.inl ⟨rfl, h⟩
  · exact Or.inr ⟨rfl, h⟩
  · exact h.elim
/-- a cell that is there: of a kind with one cell it's seen, of others it's owed -/
def zvd (kd ix : Nat) (P : Prop) : Prop := bif zN kd == 1 then (match ix with | 0 => P | _ => False) else (ix < zN kd ∧ P)
theorem zN_lt {kd : Nat} (h : zN kd ≠ 0) : kd < 38 := by
  rcases Nat.lt_or_ge kd 38 with q | q
  · exact q
  · exfalso
    apply h
    have hl : zKL.length = 21 := by decide +kernel
    unfold zN
    rw [List.getD_eq_getElem?_getD, List.getElem?_eq_none_iff.mpr (by rw [hl]; omega)]
    rfl
theorem zvd_ex {kd ix : Nat} {P : Prop} (h : zvd kd ix P) : zval kd ix ∧ P := by
  unfold zvd at h
  rcases zbif_or h with ⟨h1, h⟩ | ⟨h1, h⟩
  · have h2 := beq_iff_eq.mp h1
    obtain ⟨rfl, h⟩ := zzero_ex h
    exact ⟨⟨zN_lt (by rw [h2]; decide), by rw [h2]; decide⟩, h⟩
  · exact ⟨⟨zN_lt (by intro q; rw [q] at h; exact absurd h.1 (Nat.not_lt_zero _)), h.1⟩, h.2⟩
abbrev zbr (c A B : Prop) : Prop := (c → A) ∧ (¬ c → B)
def zb0 (c : ClassFile.Cond) (x : Int32) (A B : Prop) : Prop := match c with
  | .eq => zbr (x = nI 0) A B
  | .ne => zbr (¬ x = nI 0) A B
  | .lt => zbr (x < nI 0) A B
  | .ge => zbr (nI 0 ≤ x) A B
  | .gt => zbr (nI 0 < x) A B
  | .le => zbr (x ≤ nI 0) A B
def zb2 (c : ClassFile.Cond) (x y : Int32) (A B : Prop) : Prop := match c with
  | .eq => zbr (x = y) A B
  | .ne => zbr (¬ x = y) A B
  | .lt => zbr (x < y) A B
  | .ge => zbr (y ≤ x) A B
  | .gt => zbr (y < x) A B
  | .le => zbr (x ≤ y) A B
def zqn : List Nat → Nat → (Nat → Prop) → Prop
  | [], _, _ => False
  | a :: r, n, k => match n with
    | 0 => k a
    | n + 1 => zqn r n k
theorem zqn_ex {k : Nat → Prop} : ∀ (qs : List Nat) (n : Nat), zqn qs n k → k (qs.getD n 0) := by
  intro qs
  induction qs with
  | nil => intro n h; exact h.elim
  | cons a r ih =>
    intro n h
    cases n with
    | zero => exact h
    | succ n => exact ih n h
def zfvk (k i j : Nat) (M : ZM) (f : ZF) (K : ZV → Prop) : Prop := match f with
  | none => K (zi (M.1 k i j))
  | some (k', c, b) => match b with
    | true => K (zr k' i)
    | false => K (zr k' c)
theorem zfvk_ex {k i j : Nat} {M : ZM} {f : ZF} {K : ZV → Prop} (h : zfvk k i j M f K) : K (zfv k i j M f) := by
  cases f with
  | none => exact h
  | some f => rcases f with ⟨a, b, c⟩; cases c <;> exact h
def zforce : ZL → (ZL → Prop) → Prop
  | [], k => k []
  | (a, b) :: r, k => zforce r fun r => k ((a, b) :: r)
theorem zforce_ex : ∀ (l : ZL) (k : ZL → Prop), zforce l k → k l := by
  intro l
  induction l with
  | nil => intro k h; exact h
  | cons q r ih => intro k h; exact ih _ h
def zsw (sw : List (Int32 × Nat)) (v : Int32) (k : Nat → Prop) (d : Prop) : Prop := match sw with
  | [] => d
  | q :: r => zbr (v = q.1) (k q.2) (zsw r v k d)
def zpn : Nat → List ZV → List ZV → (List ZV → List ZV → Prop) → Prop
  | 0, acc, st, k => k acc st
  | n + 1, acc, st, k => match st with
    | v :: st => zpn n (v :: acc) st k
    | [] => False
theorem zpn_ex1 {k : List ZV → List ZV → Prop} : ∀ (n : Nat) (acc st : List ZV), zpn n acc st k → ∃ as r, as.length = n + acc.length ∧ acc.reverse ++ st = as.reverse ++ r ∧ k as r := by
  intro n
  induction n with
  | zero => intro acc st h; exact ⟨acc, st, by simp, rfl, h⟩
  | succ n ih =>
    intro acc st h
    unfold zpn at h
    split at h
    · rename_i v st
      obtain ⟨as, r, h1, h2, h3⟩ := ih (v :: acc) st h
      refine ⟨as, r, by rw [h1]; simp; omega, ?_, h3⟩
      rw [← h2]
      simp
    · exact h.elim
theorem zpn_ex {n : Nat} {st : List ZV} {k : List ZV → List ZV → Prop} (h : zpn n [] st k) : ∃ as r, as.length = n ∧ st = as.reverse ++ r ∧ k as r := by
  obtain ⟨as, r, h1, h2, h3⟩ := zpn_ex1 n [] st h
  exact ⟨as, r, by simpa using h1, by simpa using h2, h3⟩
set_option maxRecDepth 10000 in
def zex1 (G : ZG) (mi : ZI) (Z : Option ZV → ZM → Prop) (i : Instr) (qs : List Nat) (cv : Int32) (cw : Int64) (sw : List (Int32 × Nat)) (cm : ZI) (pc : Nat) (l : ZL) (st : List ZV) (M : ZM) (k : Nat → ZL → List ZV → ZM → Prop) : Prop := match i with
  | .iconst _ => k (pc + 1) l (zi cv :: st) M
  | .bipush _ => k (pc + 2) l (zi cv :: st) M
  | .sipush _ => k (pc + 3) l (zi cv :: st) M
  | .lconst _ => k (pc + 1) l (zl cw :: st) M
  | .ldc _ => k (pc + 2) l (zi cv :: st) M
  | .ldc2_w _ => k (pc + 3) l (zl cw :: st) M
  | .iload n => zgI l n fun v => k (pc + 2) l (zi v :: st) M
  | .iload_n _ => zqn qs 0 fun n => zgI l n fun v => k (pc + 1) l (zi v :: st) M
  | .lload n => zgL l n fun v => k (pc + 2) l (zl v :: st) M
  | .lload_n _ => zqn qs 0 fun n => zgL l n fun v => k (pc + 1) l (zl v :: st) M
  | .aload n => zgR l n fun a b => k (pc + 2) l (zr a b :: st) M
  | .aload_n _ => zqn qs 0 fun n => zgR l n fun a b => k (pc + 1) l (zr a b :: st) M
  | .istore n => zpI st fun v st => k (pc + 2) (lput n (zi v) l) st M
  | .istore_n _ => zqn qs 0 fun n => zpI st fun v st => k (pc + 1) (lput n (zi v) l) st M
  | .lstore n => zpL st fun v st => k (pc + 2) (lput n (zl v) l) st M
  | .lstore_n _ => zqn qs 0 fun n => zpL st fun v st => k (pc + 1) (lput n (zl v) l) st M
  | .astore n => zpR st fun a b st => k (pc + 2) (lput n (zr a b) l) st M
  | .astore_n _ => zqn qs 0 fun n => zpR st fun a b st => k (pc + 1) (lput n (zr a b) l) st M
  | .iinc n _ => zgI l n fun v => k (pc + 3) (lput n (zi (v + cv)) l) st M
  | .iadd => zpI st fun y st => zpI st fun x st => k (pc + 1) l (zi (x + y) :: st) M
  | .isub => zpI st fun y st => zpI st fun x st => k (pc + 1) l (zi (x - y) :: st) M
  | .imul => zpI st fun y st => zpI st fun x st => k (pc + 1) l (zi (x * y) :: st) M
  | .iand => zpI st fun y st => zpI st fun x st => k (pc + 1) l (zi (x &&& y) :: st) M
  | .ior => zpI st fun y st => zpI st fun x st => k (pc + 1) l (zi (x ||| y) :: st) M
  | .ixor => zpI st fun y st => zpI st fun x st => k (pc + 1) l (zi (x ^^^ y) :: st) M
  | .ishl => zpI st fun y st => zpI st fun x st => k (pc + 1) l (zi (x <<< (y &&& 31)) :: st) M
  | .ishr => zpI st fun y st => zpI st fun x st => k (pc + 1) l (zi (x >>> (y &&& 31)) :: st) M
  | .iushr => zpI st fun y st => zpI st fun x st => k (pc + 1) l (zi ((x.toUInt32 >>> (y.toUInt32 &&& Int32.toUInt32 31)).toInt32) :: st) M
  | .ladd => zpL st fun y st => zpL st fun x st => k (pc + 1) l (zl (x + y) :: st) M
  | .lsub => zpL st fun y st => zpL st fun x st => k (pc + 1) l (zl (x - y) :: st) M
  | .land => zpL st fun y st => zpL st fun x st => k (pc + 1) l (zl (x &&& y) :: st) M
  | .lor => zpL st fun y st => zpL st fun x st => k (pc + 1) l (zl (x ||| y) :: st) M
  | .lxor => zpL st fun y st => zpL st fun x st => k (pc + 1) l (zl (x ^^^ y) :: st) M
  | .lshl => zpI st fun y st => zpL st fun x st => k (pc + 1) l (zl (x <<< (y.toInt64 &&& 63)) :: st) M
  | .lshr => zpI st fun y st => zpL st fun x st => k (pc + 1) l (zl (x >>> (y.toInt64 &&& 63)) :: st) M
  | .lushr => zpI st fun y st => zpL st fun x st => k (pc + 1) l (zl ((x.toUInt64 >>> (y.toInt64.toUInt64 &&& Int64.toUInt64 63)).toInt64) :: st) M
  | .lcmp => zpL st fun y st => zpL st fun x st => k (pc + 1) l (zi (lg_cmp x y) :: st) M
  | .idiv => zpI st fun y st => zpI st fun x st => (¬ y = nI 0) ∧ k (pc + 1) l (zi (x / y) :: st) M
  | .irem => zpI st fun y st => zpI st fun x st => (¬ y = nI 0) ∧ k (pc + 1) l (zi (x % y) :: st) M
  | .i2l => zpI st fun x st => k (pc + 1) l (zl x.toInt64 :: st) M
  | .l2i => zpL st fun x st => k (pc + 1) l (zi x.toInt32 :: st) M
  | .goto _ => zqn qs 0 fun t => k t l st M
  | .ifCond c _ => zpI st fun v st => zqn qs 0 fun t => zb0 c v (k t l st M) (k (pc + 3) l st M)
  | .if_icmp c _ => zpI st fun w st => zpI st fun v st => zqn qs 0 fun t => zb2 c v w (k t l st M) (k (pc + 3) l st M)
  | .tableswitch _ _ _ _ => zpI st fun v st => zqn qs 0 fun d => zsw sw v (fun t => k t l st M) (k d l st M)
  | .getfield _ => zpR st fun kd ix st => zqn qs 0 fun q => zqn qs 1 fun f => match zK kd with
    | .inl (ci, fs) => bif ci == q then (match fs[f]? with
      | some fd => zvd kd ix (zfvk kd ix f M fd fun v => k (pc + 3) l (v :: st) M)
      | none => False) else False
    | _ => False
  | .putfield _ => zpI st fun v st => zpR st fun kd ix st => zqn qs 0 fun q => zqn qs 1 fun f => match zK kd with
    | .inl (ci, fs) => bif ci == q then (match fs[f]? with
      | some none => zvd kd ix (k (pc + 3) l st (zset kd ix f v M))
      | _ => False) else False
    | _ => False
  | .iaload => zpI st fun i st => zpR st fun kd ix st => bif kd == 39 then (match ix with
    | 0 => vp_in i (gN G) ∧ k (pc + 1) l (zi (gX G i.toNatClampNeg) :: st) M
    | _ => False) else (match zK kd with
    | .inr (0, n) => zvd kd ix (vp_in i n ∧ k (pc + 1) l (zi (M.1 kd ix i.toNatClampNeg) :: st) M)
    | _ => False)
  | .baload => zpI st fun i st => zpR st fun kd ix st => match zK kd with
    | .inr (2, n) => zvd kd ix (vp_in i n ∧ k (pc + 1) l (zi (M.1 kd ix i.toNatClampNeg) :: st) M)
    | _ => False
  | .laload => zpI st fun i st => zpR st fun kd ix st => bif kd == 38 then (match ix with
    | 0 => vp_in i 31 ∧ k (pc + 1) l (zl (zrows i.toNatClampNeg) :: st) M
    | _ => False) else (match zK kd with
    | .inr (1, n) => zvd kd ix (vp_in i n ∧ k (pc + 1) l (zl (M.2 kd ix i.toNatClampNeg) :: st) M)
    | _ => False)
  | .aaload => zpI st fun i st => zpR st fun kd ix st => match zK kd with
    | .inr (3, n) => zvd kd ix (vp_in i n ∧ k (pc + 1) l (zr 0 i.toNatClampNeg :: st) M)
    | .inr (4, n) => zvd kd ix (vp_in i n ∧ k (pc + 1) l (zr 2 i.toNatClampNeg :: st) M)
    | _ => False
  | .iastore => zpI st fun v st => zpI st fun i st => zpR st fun kd ix st => match zK kd with
    | .inr (0, n) => zvd kd ix (vp_in i n ∧ k (pc + 1) l st (zset kd ix i.toNatClampNeg v M))
    | _ => False
  | .bastore => zpI st fun v st => zpI st fun i st => zpR st fun kd ix st => match zK kd with
    | .inr (2, n) => zvd kd ix ((v = nI 0 ∨ v = nI 1) ∧ vp_in i n ∧ k (pc + 1) l st (zset kd ix i.toNatClampNeg v M))
    | _ => False
  | .lastore => zpL st fun v st => zpI st fun i st => zpR st fun kd ix st => match zK kd with
    | .inr (1, n) => zvd kd ix (vp_in i n ∧ k (pc + 1) l st (zsetL kd ix i.toNatClampNeg v M))
    | _ => False
  | .arraylength => zpR st fun kd ix st => bif kd == 39 then (match ix with
    | 0 => k (pc + 1) l (zi (nI (gN G)) :: st) M
    | _ => False) else (match zK kd with
    | .inr (t, n) => bif Nat.ble t 2 then zvd kd ix (k (pc + 1) l (zi (nI n) :: st) M) else False
    | _ => False)
  | .getstatic _ => k (pc + 3) l (zr 38 0 :: st) M
  | .dup => match st with
    | v :: st => bif zcat v == 1 then k (pc + 1) l (v :: v :: st) M else False
    | _ => False
  | .dup2 => match st with
    | v :: w :: st => bif zcat v == 1 && zcat w == 1 then k (pc + 1) l (v :: w :: v :: w :: st) M else False
    | _ => False
  | .ireturn => zpI st fun v st => match st with
    | [] => bif iD mi == 11 then v = nI 1 else (match iR mi with
      | some .int => Z (some (zi v)) M
      | some .boolean => (v = nI 0 ∨ v = nI 1) ∧ Z (some (zi v)) M
      | _ => False)
    | _ => False
  | .lreturn => zpL st fun v st => match st with
    | [] => Z (some (zl v)) M
    | _ => False
  | .areturn => zpR st fun a b st => match st with
    | [] => Z (some (zr a b)) M
    | _ => False
  | .return_ => match st with
    | [] => Z none M
    | _ => False
  | .invokevirtual _ => zpn (iA cm) [] st fun as st => zpR st fun kd ix st => zqn qs 0 fun q => match zK kd with
    | .inl (ci, _) => bif ci == q then (bif Nat.ble (zct st) 8 then zvd kd ix (Ctr 0 G cm (zr kd ix :: as) M fun r M => k (pc + 3) l (r.toList ++ st) M) else False) else False
    | _ => False
  | .invokestatic _ => bif iD cm == 100 then (False) else bif iD cm == 101 then (False) else bif iD cm == 102 then (zpL st fun y st => zpL st fun x st => bif Nat.ble (zct st) 8 then k (pc + 3) l (zl (if y < x then y else x) :: st) M else False) else zpn (iA cm) [] st fun as st => bif Nat.ble (zct st) 8 then (Ctr 0 G cm as M fun r M => k (pc + 3) l (r.toList ++ st) M) else False
  | _ => False
/-! the tables' rows, checked by counting (numbers) and by rfl (words) -/
def znth : List Jvm.Cond → Nat → Option Jvm.Cond
  | [], _ => none
  | a :: r, n => match n with
    | 0 => some a
    | n + 1 => znth r n
theorem znth_mem {w : Jvm.Cond} : ∀ (l : List Jvm.Cond) (n : Nat), znth l n = some w → w ∈ l := by
  intro l
  induction l with
  | nil => intro n h; cases h
  | cons a r ih =>
    intro n h
    cases n with
    | zero => cases h; exact List.mem_cons_self
    | succ n => exact List.mem_cons_of_mem _ (ih n h)
def zTabs : List (List Jvm.Cond) := [tables_1_1, tables_1_2, tables_1_3, k2_sels lw_privs]
theorem zTabs_mem : ∀ t ∈ zTabs, ∀ w ∈ t, w ∈ lw_tbl := by
  intro t ht w hw
  simp only [zTabs, List.mem_cons, List.not_mem_nil, or_false] at ht
  simp only [lw_tbl, tables_1, List.mem_append]
  rcases ht with rfl | rfl | rfl | rfl <;> simp only [hw, true_or, or_true]
def zlook (t n : Nat) : Option Jvm.Cond := match zTabs[t]? with
  | some l => znth l n
  | none => none
theorem zw_of {w : Jvm.Cond} (t n : Nat) (h : zlook t n = some w) (hg : goodWord w = true) : w ∈ zTw := by
  unfold zlook at h
  split at h
  · rename_i l hl
    exact List.mem_filter.mpr ⟨zTabs_mem _ (List.mem_of_getElem? hl) _ (znth_mem _ _ h), hg⟩
  · cases h
theorem zn_of {a : String} {i : Nat} {y : MethodName} {hs : String} (t n : Nat) (h : zlook t n = some (.methodLinkNest a i y hs)) : Jvm.Cond.methodLinkNest a i y hs ∈ znest := by
  unfold zlook at h
  split at h
  · rename_i l hl
    exact List.mem_filter.mpr ⟨zTabs_mem _ (List.mem_of_getElem? hl) _ (znth_mem _ _ h), rfl⟩
  · cases h
def zlen (i : Instr) (x : ZX) : Nat := match i with
  | .iload _ | .lload _ | .aload _ | .istore _ | .lstore _ | .astore _ | .bipush _ | .ldc _ => 2
  | .sipush _ | .ldc2_w _ | .goto _ | .ifCond _ _ | .if_icmp _ _ | .iinc _ _ | .getfield _ | .putfield _ | .getstatic _ | .invokevirtual _ | .invokestatic _ => 3
  | .tableswitch _ _ _ _ => zq x 1
  | _ => 1
/-- the class of a number: name, fields, how many -/
def zcl (ci : Nat) : vw_C := zcls.getD ci ("", zT0, 0)
theorem zcl_ex {ci : Nat} (h : ci < 8) : zcls[ci]? = some ((zcl ci).1, (zcl ci).2.1, (zcl ci).2.2) := by
  have hl : zcls.length = 8 := rfl
  unfold zcl
  rw [List.getD_eq_getElem?_getD, List.getElem?_eq_getElem (by rw [hl]; exact h)]
  rfl
/-- a method's words, for those that call it: virtual; static -/
def zmV (cm : ZI) : Prop := zmOk cm ∧ Jvm.Cond.instanceMethod (iN cm) ∈ zTw ∧ Jvm.Cond.selects (iN cm).cls (iN cm) (iN cm) ∈ zTw
def zmS (cm : ZI) : Prop := zmOk cm ∧ Jvm.Cond.static (iN cm) ∈ zTw
def zlk (x : ZX) (i : Nat) : Option Jvm.Cond := zlook (zq x i) (zq x (i + 1))
def zW (mi : ZI) (i : Instr) (x : ZX) (cm : ZI) : Prop := match i with
  | .ldc n => zlk x 0 = some (.constant (iN mi).cls n x.2.1)
  | .ldc2_w n => zlk x 0 = some (.constantLong (iN mi).cls n x.2.2.1)
  | .getfield n => zlk x 2 = some (.fieldLink (iN mi).cls n ((zcl (zq x 0)).2.1 (zq x 1)).1 ((zcl (zq x 0)).2.1 (zq x 1)).2.1 ((zcl (zq x 0)).2.1 (zq x 1)).2.2.1)
  | .putfield n => zlk x 2 = some (.fieldLink (iN mi).cls n ((zcl (zq x 0)).2.1 (zq x 1)).1 ((zcl (zq x 0)).2.1 (zq x 1)).2.1 ((zcl (zq x 0)).2.1 (zq x 1)).2.2.1) ∧ ((zcl (zq x 0)).2.1 (zq x 1)).2.2.1 = "I"
  | .getstatic n => zlk x 0 = some (.fieldLink (iN mi).cls n "ThreeStrandMaps$SolutionList" "ROWS" "[J")
  | .invokevirtual n => zlk x 1 = some (.methodLink (iN mi).cls n (iN cm)) ∧ ((zcl (zq x 0)).1 = (iN cm).cls ∧ zmV cm)
  | .invokestatic n => bif iD cm == 100 then zlk x 1 = some (.methodLink (iN mi).cls n Lib.Math.max.name) else bif iD cm == 101 then zlk x 1 = some (.methodLink (iN mi).cls n Lib.Math.min.name) else bif iD cm == 102 then zlk x 1 = some (.methodLink (iN mi).cls n Lib.MathLoose.min_long.x) else (bif zq x 0 == 0 then zlk x 1 = some (.methodLink (iN mi).cls n (iN cm)) else zlk x 1 = some (.methodLinkNest (iN mi).cls n (iN cm) "ThreeStrandMaps")) ∧ zmS cm
  | _ => True
def zWs (mi : ZI) : List ZE → Prop
  | [] => True
  | e :: r => zW mi e.2.1 e.2.2.1 e.2.2.2 ∧ zWs mi r
theorem zWs_mem {mi : ZI} {cd : List ZE} (h : zWs mi cd) : ∀ e ∈ cd, zW mi e.2.1 e.2.2.1 e.2.2.2 := by
  induction cd with
  | nil => intro e he; cases he
  | cons a r ih =>
    intro e he
    rcases List.mem_cons.mp he with h1 | h1
    · rw [h1]; exact h.1
    · exact ih h.2 e h1
def zchkR (mi cm : ZI) : Bool := decide (iD cm + 1 ≤ (zR mi).frames) && decide (8 + (iL cm + 11) + 39 * iD cm ≤ (zR mi).locals)
theorem zchkR_ex {mi cm : ZI} (h : zchkR mi cm = true) : zfit mi cm := by
  unfold zchkR at h
  simp only [Bool.and_eq_true, decide_eq_true_eq] at h
  exact h
def zchkT (pc : Nat) (d lo hi : Int) (offs : Array Int) (x : ZX) : Bool := decide ((pc : Int) + d = (zq x 0 : Int)) && (decide (hi + 1 = lo + offs.size) && (List.range offs.size).all fun j => decide ((x.2.2.2[j]?).map (fun q => q.1.toInt) = some (lo + j)) && decide ((x.2.2.2[j]?).map (fun q => (q.2 : Int)) = (offs[j]?).map (fun o => (pc : Int) + o))) && decide (x.2.2.2.length = offs.size)
def zobjT (o : Option FieldType) : Bool := match o with
  | some (.object _) => true
  | _ => false
theorem zobjT_ex {o : Option FieldType} (h : zobjT o = true) : ∃ n, o = some (.object n) := by
  unfold zobjT at h
  split at h
  · exact ⟨_, rfl⟩
  · cases h
def zchk1 (mi : ZI) (pc : Nat) (i : Instr) (x : ZX) (cm : ZI) : Bool := match i with
  | .iconst n => decide (Int32.ofInt n = x.2.1)
  | .bipush n => decide ((Int8.ofInt n).toInt32 = x.2.1)
  | .sipush n => decide ((Int16.ofInt n).toInt32 = x.2.1)
  | .lconst n => decide (Int64.ofNat (n : Nat) = x.2.2.1)
  | .istore n => decide (n < iL mi)
  | .astore n => decide (n < iL mi)
  | .lstore n => decide (n + 1 < iL mi)
  | .istore_n n => decide (n.val < iL mi) && decide (n.val = zq x 0)
  | .astore_n n => decide (n.val < iL mi) && decide (n.val = zq x 0)
  | .lstore_n n => decide (n.val + 1 < iL mi) && decide (n.val = zq x 0)
  | .iload_n n => decide (n.val = zq x 0)
  | .aload_n n => decide (n.val = zq x 0)
  | .lload_n n => decide (n.val = zq x 0)
  | .iinc n a => decide (Int32.ofInt a = x.2.1) && decide (n < iL mi)
  | .goto off => decide ((pc : Int) + off = (zq x 0 : Int))
  | .ifCond _ off => decide ((pc : Int) + off = (zq x 0 : Int))
  | .if_icmp _ off => decide ((pc : Int) + off = (zq x 0 : Int))
  | .tableswitch d lo hi offs => zchkT pc d lo hi offs x
  | .getfield _ => Nat.blt (zq x 0) 8 && Nat.blt (zq x 1) (zcl (zq x 0)).2.2
  | .putfield _ => Nat.blt (zq x 0) 8 && (Nat.blt (zq x 1) (zcl (zq x 0)).2.2 && !((zcl (zq x 0)).2.1 (zq x 1)).2.2.2)
  | .invokevirtual _ => Nat.blt (zq x 0) 8 && zchkR mi cm
  | .invokestatic _ => bif (iD cm == 100 || (iD cm == 101 || iD cm == 102)) then decide (0 < (zR mi).frames) && decide (23 ≤ (zR mi).locals) else zchkR mi cm
  | .ireturn => !(iD mi == 11) || decide (iR mi = some .boolean)
  | .lreturn => decide (iD mi ≠ 11) && decide (iR mi = some .long)
  | .areturn => decide (iD mi ≠ 11) && zobjT (iR mi)
  | .return_ => decide (iD mi ≠ 11) && decide (iR mi = none)
  | _ => true
def zchk (mi : ZI) (e : ZE) : Bool := decide (decode (iB mi) e.1 = .ok (e.2.1, zlen e.2.1 e.2.2.1)) && zchk1 mi e.1 e.2.1 e.2.2.1 e.2.2.2
/-- a method's table is right -/
def zgood2 (mi : ZI) (cd : List ZE) : Prop := cd.all (zchk mi) = true ∧ zWs mi cd
theorem zsw_no {v : Int32} {k : Nat → Prop} {d : Prop} (sw : List (Int32 × Nat)) (h1 : ∀ q ∈ sw, ¬ v = q.1) (h : zsw sw v k d) : d := by
  induction sw with
  | nil => exact h
  | cons a r ih => exact ih (fun q hq => h1 q (List.mem_cons_of_mem _ hq)) (h.2 (h1 a List.mem_cons_self))
theorem zsw_in {v : Int32} {k : Nat → Prop} {d : Prop} {q0 : Int32 × Nat} (hv : v = q0.1) (sw : List (Int32 × Nat)) (h1 : q0 ∈ sw) (h : zsw sw v k d) : ∃ q ∈ sw, v = q.1 ∧ k q.2 := by
  induction sw with
  | nil => cases h1
  | cons a r ih =>
    by_cases ha : v = a.1
    · exact ⟨a, List.mem_cons_self, ha, h.1 ha⟩
    · rcases List.mem_cons.mp h1 with h2 | h2
      · exact absurd (by rw [← h2]; exact hv) ha
      · obtain ⟨q, hq, hq2⟩ := ih h2 (h.2 ha)
        exact ⟨q, List.mem_cons_of_mem _ hq, hq2⟩
theorem zw_z_mminL : Jvm.Cond.static Lib.MathLoose.min_long.x ∈ zTw ∧ Jvm.Cond.initialized "java/lang/Math" ∈ zTw ∧ Jvm.Cond.code Lib.MathLoose.min_long.x Lib.MathLoose.min_long.code 4 (some .long) ∈ zTw := ⟨zw_of 2 18 rfl rfl, zw_of 0 14 rfl rfl, zw_of 2 19 rfl rfl⟩
section
variable {G : ZG} {mi : ZI} {Z : Option ZV → ZM → Prop} {pc : Nat} {l : ZL} {st : List ZV} {M : ZM}
set_option maxHeartbeats 1000000 in
theorem z_mminL {n : Nat} {x y : Int64} (hd : decode (iB mi) pc = .ok (.invokestatic n, 3)) (h1 : 0 < (zR mi).frames) (h2 : 23 ≤ (zR mi).locals) (hst : zct st ≤ 8) (hw : Jvm.Cond.methodLink (iN mi).cls n Lib.MathLoose.min_long.x ∈ zTw) (hk : V 0 G mi Z (pc + 3) l (zl (if y < x then y else x) :: st) M) : V 0 G mi Z pc l (zl y :: zl x :: st) M := by
  rw [V_eq] at hk ⊢
  intro hok p e s m args below meth c H locs ls hf hr hlk hfr hE hP hS hl
  exact va_mmin_long hf.1 hf.2.1 (by rw [hf.2.2.1]; exact hl.1.symm) hf.2.2.2.1 (hf.2.2.2.2 _ hw) (hf.2.2.2.2 _ zw_z_mminL.1) (hf.2.2.2.2 _ zw_z_mminL.2.1) (hf.2.2.2.2 _ zw_z_mminL.2.2) h1 (by rw [zct_eq]; omega) (zcs_le mi).1 (zcs_le mi).2 hd (hk hok p e s m args below meth c H locs ls hf hr hlk hfr hE hP hS hl)
set_option maxHeartbeats 1000000 in
theorem z_tabIn {d lo hi : Int} {offs : Array Int} {len : Nat} {v : Int32} {off : Int} {tgt : Nat} (hd : decode (iB mi) pc = .ok (.tableswitch d lo hi offs, len)) (h1 : ¬ v.toInt < lo) (h2 : ¬ hi < v.toInt) (ho : offs[(v.toInt - lo).toNat]? = some off) (ht : (pc : Int) + off = (tgt : Int)) (hk : V 0 G mi Z tgt l st M) : V 0 G mi Z pc l (zi v :: st) M := by
  rw [V_eq] at hk ⊢
  intro hok p e s m args below meth c H locs ls hf hr hlk hfr hE hP hS hl
  exact lv_tableIn hf.1 hf.2.1 hd h1 h2 ho ht (hk hok p e s m args below meth c H locs ls hf hr hlk hfr hE hP hS hl)
set_option maxHeartbeats 1000000 in
theorem z_tabOut {d lo hi : Int} {offs : Array Int} {len : Nat} {v : Int32} {tgt : Nat} (hd : decode (iB mi) pc = .ok (.tableswitch d lo hi offs, len)) (h1 : v.toInt < lo ∨ hi < v.toInt) (ht : (pc : Int) + d = (tgt : Int)) (hk : V 0 G mi Z tgt l st M) : V 0 G mi Z pc l (zi v :: st) M := by
  rw [V_eq] at hk ⊢
  intro hok p e s m args below meth c H locs ls hf hr hlk hfr hE hP hS hl
  exact lv_tableOut hf.1 hf.2.1 hd h1 ht (hk hok p e s m args below meth c H locs ls hf hr hlk hfr hE hP hS hl)
set_option maxHeartbeats 1000000 in
theorem z_switch {d lo hi : Int} {offs : Array Int} {len : Nat} {v : Int32} {x : ZX} {k : Nat → Prop} (hd : decode (iB mi) pc = .ok (.tableswitch d lo hi offs, len)) (hc : zchkT pc d lo hi offs x = true) (hk : ∀ t, k t → V 0 G mi Z t l st M) (h : zsw x.2.2.2 v k (k (zq x 0))) : V 0 G mi Z pc l (zi v :: st) M := by
  unfold zchkT at hc
  simp only [Bool.and_eq_true, decide_eq_true_eq, List.all_eq_true, List.mem_range] at hc
  obtain ⟨⟨hc1, hc2, hc3⟩, hc4⟩ := hc
  by_cases hin : v.toInt < lo ∨ hi < v.toInt
  · have hno : ∀ q ∈ x.2.2.2, ¬ v = q.1 := by
      intro q hq hv
      obtain ⟨j, hj⟩ := List.getElem?_of_mem hq
      have hlt := (List.getElem?_eq_some_iff.mp hj).1
      have h1 := (hc3 j (by omega)).1
      rw [hj] at h1
      simp only [Option.map_some, Option.some.injEq] at h1
      rw [hv] at hin
      omega
    exact z_tabOut hd hin hc1 (hk _ (zsw_no _ hno h))
  · have hj1 : (v.toInt - lo).toNat < offs.size := by omega
    have hj2 := hc3 _ hj1
    obtain ⟨q0, hq0⟩ : ∃ q0, x.2.2.2[(v.toInt - lo).toNat]? = some q0 := ⟨_, List.getElem?_eq_getElem (by omega)⟩
    rw [hq0] at hj2
    simp only [Option.map_some, Option.some.injEq] at hj2
    have hv0 : v = q0.1 := Int32.toInt_inj.mp (by rw [hj2.1]; omega)
    obtain ⟨q, hq, hv, hkq⟩ := zsw_in hv0 _ (List.mem_of_getElem? hq0) h
    obtain ⟨j, hj⟩ := List.getElem?_of_mem hq
    have hlt := (List.getElem?_eq_some_iff.mp hj).1
    have h1 := hc3 j (by omega)
    rw [hj] at h1
    simp only [Option.map_some, Option.some.injEq] at h1
    have hjv : j = (v.toInt - lo).toNat := by rw [hv, h1.1]; omega
    obtain ⟨off, ho⟩ : ∃ off, offs[j]? = some off := ⟨_, Array.getElem?_eq_getElem (by omega)⟩
    rw [ho] at h1
    simp only [Option.map_some, Option.some.injEq] at h1
    exact z_tabIn hd (fun q => hin (Or.inl q)) (fun q => hin (Or.inr q)) (by rw [← hjv]; exact ho) h1.2.symm (hk _ hkq)
set_option maxHeartbeats 4000000 in
theorem z_ex1 {i : Instr} {qs : List Nat} {cv : Int32} {cw : Int64} {sw : List (Int32 × Nat)} {cm : ZI} {k : Nat → ZL → List ZV → ZM → Prop} (hd : decode (iB mi) pc = .ok (i, zlen i (qs, cv, cw, sw))) (hc : zchk1 mi pc i (qs, cv, cw, sw) cm = true) (hw : zW mi i (qs, cv, cw, sw) cm) (hk : ∀ pc l st M, k pc l st M → V 0 G mi Z pc l st M) (h : zex1 G mi Z i qs cv cw sw cm pc l st M k) : V 0 G mi Z pc l st M := by
  cases i
  case iconst n =>
    exact z_iconst hd (of_decide_eq_true hc) (hk _ _ _ _ h)
  case bipush n =>
    exact z_bipush hd (of_decide_eq_true hc) (hk _ _ _ _ h)
  case sipush n =>
    exact z_sipush hd (of_decide_eq_true hc) (hk _ _ _ _ h)
  case lconst n =>
    exact z_lconst hd (of_decide_eq_true hc) (hk _ _ _ _ h)
  case ldc n =>
    exact z_ldc hd (zw_of _ _ hw rfl) (hk _ _ _ _ h)
  case ldc2_w n =>
    exact z_ldc2_w hd (zw_of _ _ hw rfl) (hk _ _ _ _ h)
  case iload n =>
    obtain ⟨v, hg, h⟩ := zgI_ex h
    exact z_iload hd hg (hk _ _ _ _ h)
  case iload_n n =>
    obtain ⟨v, hg, h⟩ := zgI_ex (zqn_ex _ _ h)
    exact z_iload_n hd (by rw [show n.val = qs.getD 0 0 from of_decide_eq_true hc]; exact hg) (hk _ _ _ _ h)
  case lload n =>
    obtain ⟨v, hg, h⟩ := zgL_ex h
    exact z_lload hd hg (hk _ _ _ _ h)
  case lload_n n =>
    obtain ⟨v, hg, h⟩ := zgL_ex (zqn_ex _ _ h)
    exact z_lload_n hd (by rw [show n.val = qs.getD 0 0 from of_decide_eq_true hc]; exact hg) (hk _ _ _ _ h)
  case aload n =>
    obtain ⟨a, b, hg, h⟩ := zgR_ex h
    exact z_aload hd hg (hk _ _ _ _ h)
  case aload_n n =>
    obtain ⟨a, b, hg, h⟩ := zgR_ex (zqn_ex _ _ h)
    exact z_aload_n hd (by rw [show n.val = qs.getD 0 0 from of_decide_eq_true hc]; exact hg) (hk _ _ _ _ h)
  case istore n =>
    obtain ⟨v, r, rfl, h⟩ := zpI_ex h
    exact z_istore hd (of_decide_eq_true hc) (hk _ _ _ _ h)
  case istore_n n =>
    obtain ⟨v, r, hst, h9⟩ := zpI_ex (zqn_ex _ _ h)
    subst hst
    simp only [zchk1, Bool.and_eq_true, decide_eq_true_eq] at hc
    exact z_istore_n hd hc.1 (hk _ _ _ _ (by rw [show n.val = qs.getD 0 0 from hc.2]; exact h9))
  case lstore n =>
    obtain ⟨v, r, rfl, h⟩ := zpL_ex h
    exact z_lstore hd (of_decide_eq_true hc) (hk _ _ _ _ h)
  case lstore_n n =>
    obtain ⟨v, r, hst, h9⟩ := zpL_ex (zqn_ex _ _ h)
    subst hst
    simp only [zchk1, Bool.and_eq_true, decide_eq_true_eq] at hc
    exact z_lstore_n hd hc.1 (hk _ _ _ _ (by rw [show n.val = qs.getD 0 0 from hc.2]; exact h9))
  case astore n =>
    obtain ⟨a, b, r, rfl, h⟩ := zpR_ex h
    exact z_astore hd (of_decide_eq_true hc) (hk _ _ _ _ h)
  case astore_n n =>
    obtain ⟨a, b, r, hst, h9⟩ := zpR_ex (zqn_ex _ _ h)
    subst hst
    simp only [zchk1, Bool.and_eq_true, decide_eq_true_eq] at hc
    exact z_astore_n hd hc.1 (hk _ _ _ _ (by rw [show n.val = qs.getD 0 0 from hc.2]; exact h9))
  case iinc n a =>
    obtain ⟨v, hg, h⟩ := zgI_ex h
    simp only [zchk1, Bool.and_eq_true, decide_eq_true_eq] at hc
    exact z_iinc hd hg hc.1 hc.2 (hk _ _ _ _ h)
  case iadd =>
    obtain ⟨y, r, rfl, h⟩ := zpI_ex h
    obtain ⟨x, r, rfl, h⟩ := zpI_ex h
    exact z_iadd hd (hk _ _ _ _ h)
  case isub =>
    obtain ⟨y, r, rfl, h⟩ := zpI_ex h
    obtain ⟨x, r, rfl, h⟩ := zpI_ex h
    exact z_isub hd (hk _ _ _ _ h)
  case imul =>
    obtain ⟨y, r, rfl, h⟩ := zpI_ex h
    obtain ⟨x, r, rfl, h⟩ := zpI_ex h
    exact z_imul hd (hk _ _ _ _ h)
  case iand =>
    obtain ⟨y, r, rfl, h⟩ := zpI_ex h
    obtain ⟨x, r, rfl, h⟩ := zpI_ex h
    exact z_iand hd (hk _ _ _ _ h)
  case ior =>
    obtain ⟨y, r, rfl, h⟩ := zpI_ex h
    obtain ⟨x, r, rfl, h⟩ := zpI_ex h
    exact z_ior hd (hk _ _ _ _ h)
  case ixor =>
    obtain ⟨y, r, rfl, h⟩ := zpI_ex h
    obtain ⟨x, r, rfl, h⟩ := zpI_ex h
    exact z_ixor hd (hk _ _ _ _ h)
  case ishl =>
    obtain ⟨y, r, rfl, h⟩ := zpI_ex h
    obtain ⟨x, r, rfl, h⟩ := zpI_ex h
    exact z_ishl hd (hk _ _ _ _ h)
  case ishr =>
    obtain ⟨y, r, rfl, h⟩ := zpI_ex h
    obtain ⟨x, r, rfl, h⟩ := zpI_ex h
    exact z_ishr hd (hk _ _ _ _ h)
  case iushr =>
    obtain ⟨y, r, rfl, h⟩ := zpI_ex h
    obtain ⟨x, r, rfl, h⟩ := zpI_ex h
    exact z_iushr hd (hk _ _ _ _ h)
  case ladd =>
    obtain ⟨y, r, rfl, h⟩ := zpL_ex h
    obtain ⟨x, r, rfl, h⟩ := zpL_ex h
    exact z_ladd hd (hk _ _ _ _ h)
  case lsub =>
    obtain ⟨y, r, rfl, h⟩ := zpL_ex h
    obtain ⟨x, r, rfl, h⟩ := zpL_ex h
    exact z_lsub hd (hk _ _ _ _ h)
  case land =>
    obtain ⟨y, r, rfl, h⟩ := zpL_ex h
    obtain ⟨x, r, rfl, h⟩ := zpL_ex h
    exact z_land hd (hk _ _ _ _ h)
  case lor =>
    obtain ⟨y, r, rfl, h⟩ := zpL_ex h
    obtain ⟨x, r, rfl, h⟩ := zpL_ex h
    exact z_lor hd (hk _ _ _ _ h)
  case lxor =>
    obtain ⟨y, r, rfl, h⟩ := zpL_ex h
    obtain ⟨x, r, rfl, h⟩ := zpL_ex h
    exact z_lxor hd (hk _ _ _ _ h)
  case lshl =>
    obtain ⟨y, r, rfl, h⟩ := zpI_ex h
    obtain ⟨x, r, rfl, h⟩ := zpL_ex h
    exact z_lshl hd (hk _ _ _ _ h)
  case lshr =>
    obtain ⟨y, r, rfl, h⟩ := zpI_ex h
    obtain ⟨x, r, rfl, h⟩ := zpL_ex h
    exact z_lshr hd (hk _ _ _ _ h)
  case lushr =>
    obtain ⟨y, r, rfl, h⟩ := zpI_ex h
    obtain ⟨x, r, rfl, h⟩ := zpL_ex h
    exact z_lushr hd (hk _ _ _ _ h)
  case lcmp =>
    obtain ⟨y, r, rfl, h⟩ := zpL_ex h
    obtain ⟨x, r, rfl, h⟩ := zpL_ex h
    exact z_lcmp hd (hk _ _ _ _ h)
  case idiv =>
    obtain ⟨y, r, rfl, h⟩ := zpI_ex h
    obtain ⟨x, r, rfl, h⟩ := zpI_ex h
    exact z_idiv hd h.1 (hk _ _ _ _ h.2)
  case irem =>
    obtain ⟨y, r, rfl, h⟩ := zpI_ex h
    obtain ⟨x, r, rfl, h⟩ := zpI_ex h
    exact z_irem hd h.1 (hk _ _ _ _ h.2)
  case i2l =>
    obtain ⟨x, r, rfl, h⟩ := zpI_ex h
    exact z_i2l hd (hk _ _ _ _ h)
  case l2i =>
    obtain ⟨x, r, rfl, h⟩ := zpL_ex h
    exact z_l2i hd (hk _ _ _ _ h)
  case goto off =>
    exact z_goto hd (of_decide_eq_true hc) (hk _ _ _ _ (zqn_ex _ _ h))
  case ifCond c off =>
    obtain ⟨x, r, rfl, h⟩ := zpI_ex h
    have h := zqn_ex _ _ h
    cases c
    case eq => exact z_if_eq hd (of_decide_eq_true hc) (fun q => hk _ _ _ _ (h.1 q)) (fun q => hk _ _ _ _ (h.2 q))
    case ne => exact z_if_ne hd (of_decide_eq_true hc) (fun q => hk _ _ _ _ (h.1 q)) (fun q => hk _ _ _ _ (h.2 q))
    case lt => exact z_if_lt hd (of_decide_eq_true hc) (fun q => hk _ _ _ _ (h.1 q)) (fun q => hk _ _ _ _ (h.2 q))
    case ge => exact z_if_ge hd (of_decide_eq_true hc) (fun q => hk _ _ _ _ (h.1 q)) (fun q => hk _ _ _ _ (h.2 q))
    case gt => exact z_if_gt hd (of_decide_eq_true hc) (fun q => hk _ _ _ _ (h.1 q)) (fun q => hk _ _ _ _ (h.2 q))
    case le => exact z_if_le hd (of_decide_eq_true hc) (fun q => hk _ _ _ _ (h.1 q)) (fun q => hk _ _ _ _ (h.2 q))
  case if_icmp c off =>
    obtain ⟨y, r, rfl, h⟩ := zpI_ex h
    obtain ⟨x, r, rfl, h⟩ := zpI_ex h
    have h := zqn_ex _ _ h
    cases c
    case eq => exact z_icmp_eq hd (of_decide_eq_true hc) (fun q => hk _ _ _ _ (h.1 q)) (fun q => hk _ _ _ _ (h.2 q))
    case ne => exact z_icmp_ne hd (of_decide_eq_true hc) (fun q => hk _ _ _ _ (h.1 q)) (fun q => hk _ _ _ _ (h.2 q))
    case lt => exact z_icmp_lt hd (of_decide_eq_true hc) (fun q => hk _ _ _ _ (h.1 q)) (fun q => hk _ _ _ _ (h.2 q))
    case ge => exact z_icmp_ge hd (of_decide_eq_true hc) (fun q => hk _ _ _ _ (h.1 q)) (fun q => hk _ _ _ _ (h.2 q))
    case gt => exact z_icmp_gt hd (of_decide_eq_true hc) (fun q => hk _ _ _ _ (h.1 q)) (fun q => hk _ _ _ _ (h.2 q))
    case le => exact z_icmp_le hd (of_decide_eq_true hc) (fun q => hk _ _ _ _ (h.1 q)) (fun q => hk _ _ _ _ (h.2 q))
  case tableswitch d lo hi offs =>
    obtain ⟨v, r, rfl, h⟩ := zpI_ex h
    exact z_switch hd hc (fun t q => hk _ _ _ _ q) (zqn_ex _ _ h)
  case getfield n =>
    obtain ⟨kd, ix, r, rfl, h⟩ := zpR_ex h
    obtain ⟨ci, fs, hk0, h⟩ := zobj_ex (zqn_ex _ _ (zqn_ex _ _ h))
    obtain ⟨hci, h⟩ := zbif_ex h
    obtain ⟨fd, hfd, h⟩ := zopt_ex h
    obtain ⟨hv, h⟩ := zvd_ex h
    simp only [zchk1, Bool.and_eq_true, Nat.blt_eq] at hc
    have hcl := zcl_ex hc.1
    have he := beq_iff_eq.mp hci
    rw [he] at hk0
    exact z_getfield hd hk0 hv hfd hcl hc.2 (zw_of _ _ hw rfl) (hk _ _ _ _ (zfvk_ex h))
  case putfield n =>
    obtain ⟨v, r, rfl, h⟩ := zpI_ex h
    obtain ⟨kd, ix, r, rfl, h⟩ := zpR_ex h
    obtain ⟨ci, fs, hk0, h⟩ := zobj_ex (zqn_ex _ _ (zqn_ex _ _ h))
    obtain ⟨hci, h⟩ := zbif_ex h
    obtain ⟨hfd, h⟩ := zopt2_ex h
    obtain ⟨hv, h⟩ := zvd_ex h
    simp only [zchk1, Bool.and_eq_true, Nat.blt_eq, Bool.not_eq_true'] at hc
    have hcl := zcl_ex hc.1
    have he := beq_iff_eq.mp hci
    rw [he] at hk0
    obtain ⟨hw1, hw2⟩ : _ ∧ _ := hw
    exact z_putfield hd hk0 hv hfd hcl hc.2.1 (zw_of _ _ hw1 rfl) hc.2.2 ((congrArg parseFieldDescriptor hw2).trans (by decide +kernel)) (hk _ _ _ _ h)
  case iaload =>
    obtain ⟨i, r, rfl, h⟩ := zpI_ex h
    obtain ⟨kd, ix, r, rfl, h⟩ := zpR_ex h
    rcases zbif_or h with ⟨h39, h⟩ | ⟨h39, h⟩
    · obtain rfl := beq_iff_eq.mp h39
      obtain ⟨rfl, h⟩ := zzero_ex h
      exact z_script hd h.1 (hk _ _ _ _ h.2)
    · obtain ⟨n, hk0, h⟩ := zarr0_ex h
      obtain ⟨hv, h⟩ := zvd_ex h
      exact z_iaload hd hk0 hv h.1 (hk _ _ _ _ h.2)
  case baload =>
    obtain ⟨i, r, rfl, h⟩ := zpI_ex h
    obtain ⟨kd, ix, r, rfl, h⟩ := zpR_ex h
    obtain ⟨n, hk0, h⟩ := zarr2_ex h
    obtain ⟨hv, h⟩ := zvd_ex h
    exact z_baload hd hk0 hv h.1 (hk _ _ _ _ h.2)
  case laload =>
    obtain ⟨i, r, rfl, h⟩ := zpI_ex h
    obtain ⟨kd, ix, r, rfl, h⟩ := zpR_ex h
    rcases zbif_or h with ⟨h39, h⟩ | ⟨h39, h⟩
    · obtain rfl := beq_iff_eq.mp h39
      obtain ⟨rfl, h⟩ := zzero_ex h
      exact z_rows hd h.1 (hk _ _ _ _ h.2)
    · obtain ⟨n, hk0, h⟩ := zarr1_ex h
      obtain ⟨hv, h⟩ := zvd_ex h
      exact z_laload hd hk0 hv h.1 (hk _ _ _ _ h.2)
  case aaload =>
    obtain ⟨i, r, rfl, h⟩ := zpI_ex h
    obtain ⟨kd, ix, r, rfl, h⟩ := zpR_ex h
    rcases zarr34_ex h with ⟨n, hk0, h⟩ | ⟨n, hk0, h⟩
    · obtain ⟨hv, h⟩ := zvd_ex h
      exact z_aaload3 hd hk0 hv h.1 (hk _ _ _ _ h.2)
    · obtain ⟨hv, h⟩ := zvd_ex h
      exact z_aaload4 hd hk0 hv h.1 (hk _ _ _ _ h.2)
  case iastore =>
    obtain ⟨v, r, rfl, h⟩ := zpI_ex h
    obtain ⟨i, r, rfl, h⟩ := zpI_ex h
    obtain ⟨kd, ix, r, rfl, h⟩ := zpR_ex h
    obtain ⟨n, hk0, h⟩ := zarr0_ex h
    obtain ⟨hv, h⟩ := zvd_ex h
    exact z_iastore hd hk0 hv h.1 (hk _ _ _ _ h.2)
  case bastore =>
    obtain ⟨v, r, rfl, h⟩ := zpI_ex h
    obtain ⟨i, r, rfl, h⟩ := zpI_ex h
    obtain ⟨kd, ix, r, rfl, h⟩ := zpR_ex h
    obtain ⟨n, hk0, h⟩ := zarr2_ex h
    obtain ⟨hv, h⟩ := zvd_ex h
    exact z_bastore hd hk0 hv h.2.1 h.1 (hk _ _ _ _ h.2.2)
  case lastore =>
    obtain ⟨v, r, rfl, h⟩ := zpL_ex h
    obtain ⟨i, r, rfl, h⟩ := zpI_ex h
    obtain ⟨kd, ix, r, rfl, h⟩ := zpR_ex h
    obtain ⟨n, hk0, h⟩ := zarr1_ex h
    obtain ⟨hv, h⟩ := zvd_ex h
    exact z_lastore hd hk0 hv h.1 (hk _ _ _ _ h.2)
  case arraylength =>
    obtain ⟨kd, ix, r, rfl, h⟩ := zpR_ex h
    rcases zbif_or h with ⟨h39, h⟩ | ⟨h39, h⟩
    · obtain rfl := beq_iff_eq.mp h39
      obtain ⟨rfl, h⟩ := zzero_ex h
      exact z_scriptlen hd (hk _ _ _ _ h)
    · obtain ⟨t, n, hk0, h⟩ := zarrT_ex h
      obtain ⟨ht, h⟩ := zbif_ex h
      obtain ⟨hv, h⟩ := zvd_ex h
      exact z_alen hd hk0 (Nat.lt_succ_of_le (Nat.le_of_ble_eq_true ht)) hv (hk _ _ _ _ h)
  case getstatic n =>
    exact z_getrows hd (zw_of _ _ hw rfl) (hk _ _ _ _ h)
  case dup =>
    obtain ⟨v, r, rfl, h⟩ := zany_ex h
    obtain ⟨h1, h⟩ := zbif_ex h
    exact z_dup hd (beq_iff_eq.mp h1) (hk _ _ _ _ h)
  case dup2 =>
    obtain ⟨v, w, r, rfl, h⟩ := zany2_ex h
    obtain ⟨h1, h⟩ := zbif_ex h
    simp only [Bool.and_eq_true, beq_iff_eq] at h1
    exact z_dup2 hd h1.1 h1.2 (hk _ _ _ _ h)
  case ireturn =>
    obtain ⟨v, r, rfl, h⟩ := zpI_ex h
    obtain ⟨rfl, h⟩ := znil_ex h
    rcases zbif_or h with ⟨h11, h⟩ | ⟨h11, h⟩
    · simp only [zchk1, h11, Bool.not_true, Bool.false_or, decide_eq_true_eq] at hc
      have h2 : v = 1 := h
      rw [h2]
      exact z_lawret hd (beq_iff_eq.mp h11) hc
    · have hD : iD mi ≠ 11 := fun q => by rw [q] at h11; cases h11
      rcases zret_ex h with ⟨hR, h⟩ | ⟨hR, h⟩
      · exact z_ireturn hd hD hR h
      · exact z_zreturn hd hD hR h.1 h.2
  case lreturn =>
    obtain ⟨v, r, rfl, h⟩ := zpL_ex h
    obtain ⟨rfl, h⟩ := znil_ex h
    simp only [zchk1, Bool.and_eq_true, decide_eq_true_eq] at hc
    exact z_lreturn hd hc.1 hc.2 h
  case areturn =>
    obtain ⟨a, b, r, rfl, h⟩ := zpR_ex h
    obtain ⟨rfl, h⟩ := znil_ex h
    simp only [zchk1, Bool.and_eq_true, decide_eq_true_eq] at hc
    obtain ⟨n, hR⟩ := zobjT_ex hc.2
    exact z_areturn hd hc.1 hR h
  case return_ =>
    obtain ⟨rfl, h⟩ := znil_ex h
    simp only [zchk1, Bool.and_eq_true, decide_eq_true_eq] at hc
    exact z_return hd hc.1 hc.2 h
  case invokevirtual n =>
    obtain ⟨as, r0, has, hst, h2⟩ := zpn_ex h
    subst hst
    clear h
    obtain ⟨kd, ix, r, hr0, h⟩ := zpR_ex h2
    subst hr0
    clear h2
    obtain ⟨ci, fs, hk0, h⟩ := zobj_ex (zqn_ex _ _ h)
    obtain ⟨hci, h⟩ := zbif_ex h
    obtain ⟨hct, h⟩ := zbif_ex h
    obtain ⟨hv, h⟩ := zvd_ex h
    simp only [zchk1, Bool.and_eq_true, Nat.blt_eq] at hc
    have hcl := zcl_ex hc.1
    have he := beq_iff_eq.mp hci
    rw [he] at hk0
    obtain ⟨hw1, hw2, hm, hw3, hw4⟩ : _ ∧ (_ ∧ zmV cm) := hw
    exact z_virt hd hm (zchkR_ex hc.2) has (Nat.le_of_ble_eq_true hct) hk0 hv hcl hw2.symm (zw_of _ _ hw1 rfl) hw3 (by rw [hw2]; exact hw4) (Ctr_mono h fun r M' q => hk _ _ _ _ q)
  case invokestatic n =>
    rcases zbif_or h with ⟨hb, h⟩ | ⟨hb, h⟩
    · exact h.elim
    have hb1 := hb
    clear hb
    rcases zbif_or h with ⟨hb, h⟩ | ⟨hb, h⟩
    · exact h.elim
    have hb2 := hb
    clear hb
    rcases zbif_or h with ⟨hb, h⟩ | ⟨hb, h⟩
    · obtain ⟨y, r, hst, h9⟩ := zpL_ex h
      subst hst
      obtain ⟨x, r, hst, h8⟩ := zpL_ex h9
      subst hst
      clear h9
      obtain ⟨hct, h7⟩ := zbif_ex h8
      have hD : iD cm = 102 := beq_iff_eq.mp hb
      have hc2 : 0 < (zR mi).frames ∧ 23 ≤ (zR mi).locals := by simpa [zchk1, hD] using hc
      simp only [zW, hD] at hw
      exact z_mminL hd hc2.1 hc2.2 (Nat.le_of_ble_eq_true hct) (zw_of _ _ hw rfl) (hk _ _ _ _ h7)
    have hb3 := hb
    clear hb
    simp only [zW, hb1, hb2, hb3, cond_false] at hw
    simp only [zchk1, hb1, hb2, hb3, Bool.or_false, cond_false] at hc
    obtain ⟨as, r, has, hst, h2⟩ := zpn_ex h
    subst hst
    clear h
    obtain ⟨hct, h⟩ := zbif_ex h2
    obtain ⟨hw1, hm, hw2⟩ : _ ∧ zmS cm := hw
    rcases zbif_or hw1 with ⟨-, hw1⟩ | ⟨-, hw1⟩
    · exact z_stat hd hm (zchkR_ex hc) has (Nat.le_of_ble_eq_true hct) (zw_of _ _ hw1 rfl) hw2 (Ctr_mono h fun r M' q => hk _ _ _ _ q)
    · exact z_nest hd hm (zchkR_ex hc) has (Nat.le_of_ble_eq_true hct) (zn_of _ _ hw1) hw2 (Ctr_mono h fun r M' q => hk _ _ _ _ q)
  all_goals exact False.elim h
end
def zfind (pc : Nat) : List ZE → Option ZE
  | [] => none
  | e :: r => bif Nat.beq e.1 pc then some e else zfind pc r
theorem zfind_ex {pc : Nat} {cd : List ZE} {e : ZE} (h : zfind pc cd = some e) : e ∈ cd ∧ e.1 = pc := by
  induction cd with
  | nil => cases h
  | cons a r ih =>
    unfold zfind at h
    cases hb : Nat.beq a.1 pc with
    | true =>
      rw [hb] at h
      have h2 : a = e := Option.some.inj h
      rw [← h2]
      exact ⟨List.mem_cons_self, Nat.eq_of_beq_eq_true hb⟩
    | false =>
      rw [hb] at h
      exact ⟨List.mem_cons_of_mem _ (ih h).1, (ih h).2⟩
def zcut (pc : Nat) : List (Nat × List Nat) → Option (List Nat)
  | [] => none
  | q :: r => bif Nat.beq q.1 pc then some q.2 else zcut pc r
/-- the walk from pc on, to the next place of 'cuts' (there with the locals that live), a call, an end -/
def zex (G : ZG) (mi : ZI) (Z : Option ZV → ZM → Prop) (cuts : List (Nat × List Nat)) (cd : List ZE) : Nat → Nat → ZL → List ZV → ZM → (Nat → ZL → List ZV → ZM → Prop) → Prop
  | 0, _, _, _, _, _ => False
  | f + 1, pc, l, st, M, K => match zfind pc cd with
    | none => False
    | some (pc, i, (qs, cv, cw, sw), cm) => zex1 G mi Z i qs cv cw sw cm pc l st M fun pc l st M => match zcut pc cuts with
      | some ks => zforce (zkeep ks l) fun l => K pc l st M
      | none => zex G mi Z cuts cd f pc l st M K
theorem z_ex {G : ZG} {mi : ZI} {Z : Option ZV → ZM → Prop} {cuts : List (Nat × List Nat)} {cd : List ZE} {K : Nat → ZL → List ZV → ZM → Prop} (hcd : zgood2 mi cd) (hK : ∀ pc l st M, K pc l st M → V 0 G mi Z pc l st M) : ∀ (f pc : Nat) (l : ZL) (st : List ZV) (M : ZM), zex G mi Z cuts cd f pc l st M K → V 0 G mi Z pc l st M := by
  intro f
  induction f with
  | zero => intro pc l st M h; exact h.elim
  | succ f ih =>
    intro pc l st M h
    unfold zex at h
    split at h
    · exact h.elim
    · rename_i pc0 i qs cv cw sw cm he
      obtain ⟨h1, h2⟩ := zfind_ex he
      have h2 : pc0 = pc := h2
      subst h2
      have h3 := List.all_eq_true.mp hcd.1 _ h1
      unfold zchk at h3
      simp only [Bool.and_eq_true, decide_eq_true_eq] at h3
      refine z_ex1 h3.1 h3.2 (zWs_mem hcd.2 _ h1) (fun pc l st M q => ?_) h
      split at q
      · exact V_sub (fun q hq => zkeep_mem hq) (hK _ _ _ _ (zforce_ex _ _ q))
      · exact ih _ _ _ _ q
/-- the walk's goal, its end a name that nothing opens -/
theorem z_run {G : ZG} {mi : ZI} {Z : Option ZV → ZM → Prop} {cuts : List (Nat × List Nat)} {cd : List ZE} {pc : Nat} {l : ZL} {st : List ZV} {M : ZM} (hcd : zgood2 mi cd) (h : ∀ K : Nat → ZL → List ZV → ZM → Prop, (∀ pc l st M, V 0 G mi Z pc l st M → K pc l st M) → zex G mi Z cuts cd 300 pc l st M K) : V 0 G mi Z pc l st M :=
  z_ex hcd (fun _ _ _ _ q => q) 300 pc l st M (h _ (fun _ _ _ _ q => q))
theorem z_start {G : ZG} {mi : ZI} {Z : Option ZV → ZM → Prop} {cuts : List (Nat × List Nat)} {cd : List ZE} {av : List ZV} {M : ZM} (hcd : zgood2 mi cd) (hpl : (plainName (iN mi).cls && !(iD mi == 11)) = true) (hlen : Nat.ble (zct av) (iL mi) = true) (h : ∀ K : Nat → ZL → List ZV → ZM → Prop, (∀ pc l st M, V 0 G mi Z pc l st M → K pc l st M) → zex G mi Z cuts cd 300 0 (zargs 0 av) [] M K) : Ctr 0 G mi av M Z := by
  simp only [Bool.and_eq_true, Bool.not_eq_true', beq_eq_false_iff_ne] at hpl
  exact z_enter hpl.1 hpl.2 (Nat.le_of_ble_eq_true hlen) (z_run hcd h)
end
section
def zi0 : ZI := (⟨"", "", ""⟩, .empty, 0, none, 0, 0)
def mi_T_flip : ZI := (⟨"ThreeStrandMaps", "flip", "(II)I"⟩, prog_1_method_2_code, 3, some .int, 2, 4)
def mi_T_isPlace : ZI := (⟨"ThreeStrandMaps", "isPlace", "(I)Z"⟩, prog_1_method_34_code, 1, some .boolean, 1, 1)
def mi_T_isWithin : ZI := (⟨"ThreeStrandMaps", "isWithin", "(III)Z"⟩, prog_1_method_37_code, 3, some .boolean, 3, 0)
def mi_PM_becomeFlip : ZI := (⟨"ThreeStrandMaps$PairMap", "becomeFlip", "(I)V"⟩, prog_8_method_13_code, 2, none, 1, 3)
def mi_PM_becomeTwist : ZI := (⟨"ThreeStrandMaps$PairMap", "becomeTwist", "(III)V"⟩, prog_8_method_12_code, 6, none, 3, 2)
def mi_CO_digit : ZI := (⟨"ThreeStrandMaps$Codes", "digit", "(II)I"⟩, prog_7_method_2_code, 2, some .int, 2, 0)
def mi_PM_setImage : ZI := (⟨"ThreeStrandMaps$PairMap", "setImage", "(IIII)V"⟩, prog_8_method_9_code, 5, none, 4, 1)
def mi_CO_pairOf : ZI := (⟨"ThreeStrandMaps$Codes", "pairOf", "(II)I"⟩, prog_7_method_4_code, 2, some .int, 2, 0)
def mi_T_keepMade : ZI := (⟨"ThreeStrandMaps", "keepMade", "(I)I"⟩, prog_1_method_41_code, 2, some .int, 1, 2)
def mi_PM_copy : ZI := (⟨"ThreeStrandMaps$PairMap", "copy", "(LThreeStrandMaps$PairMap;)V"⟩, prog_8_method_10_code, 3, none, 1, 0)
def mi_PM_points : ZI := (⟨"ThreeStrandMaps$PairMap", "points", "()I"⟩, prog_8_method_2_code, 1, some .int, 0, 0)
def mi_T_twist : ZI := (⟨"ThreeStrandMaps", "twist", "(IIII)I"⟩, prog_1_method_3_code, 5, some .int, 4, 3)
def mi_CO_isPermutation : ZI := (⟨"ThreeStrandMaps$Codes", "isPermutation", "(II)Z"⟩, prog_7_method_6_code, 4, some .boolean, 2, 2)
def mi_CO_isCode : ZI := (⟨"ThreeStrandMaps$Codes", "isCode", "(III)Z"⟩, prog_7_method_5_code, 4, some .boolean, 3, 1)
def mi_T_group : ZI := (⟨"ThreeStrandMaps", "group", "(III)I"⟩, prog_1_method_4_code, 4, some .int, 3, 3)
def mi_AL_isGroup : ZI := (⟨"ThreeStrandMaps$Algebras", "isGroup", "(II)Z"⟩, prog_2_method_2_code, 2, some .boolean, 2, 0)
def mi_AL_makeGroupMap : ZI := (⟨"ThreeStrandMaps$Algebras", "makeGroupMap", "(LThreeStrandMaps$PairMap;II)V"⟩, prog_2_method_3_code, 6, none, 3, 2)
def mi_PM_resize : ZI := (⟨"ThreeStrandMaps$PairMap", "resize", "(I)V"⟩, prog_8_method_5_code, 2, none, 1, 0)
def mi_AL_inverse : ZI := (⟨"ThreeStrandMaps$Algebras", "inverse", "(III)I"⟩, prog_2_method_5_code, 4, some .int, 3, 1)
def mi_AL_product : ZI := (⟨"ThreeStrandMaps$Algebras", "product", "(IIII)I"⟩, prog_2_method_4_code, 6, some .int, 4, 0)
def mi_T_brace : ZI := (⟨"ThreeStrandMaps", "brace", "(III)I"⟩, prog_1_method_5_code, 4, some .int, 3, 3)
def mi_AL_areUnits : ZI := (⟨"ThreeStrandMaps$Algebras", "areUnits", "(II)Z"⟩, prog_2_method_6_code, 3, some .boolean, 2, 2)
def mi_AL_isUnit : ZI := (⟨"ThreeStrandMaps$Algebras", "isUnit", "(II)Z"⟩, prog_2_method_7_code, 3, some .boolean, 2, 0)
def mi_AL_isBrace : ZI := (⟨"ThreeStrandMaps$Algebras", "isBrace", "(II)Z"⟩, prog_2_method_8_code, 5, some .boolean, 2, 1)
def mi_AL_rest : ZI := (⟨"ThreeStrandMaps$Algebras", "rest", "(II)I"⟩, prog_2_method_17_code, 2, some .int, 2, 0)
def mi_AL_makeBraceMap : ZI := (⟨"ThreeStrandMaps$Algebras", "makeBraceMap", "(LThreeStrandMaps$PairMap;II)V"⟩, prog_2_method_9_code, 6, none, 3, 2)
def mi_AL_quotient : ZI := (⟨"ThreeStrandMaps$Algebras", "quotient", "(III)I"⟩, prog_2_method_10_code, 4, some .int, 3, 1)
def mi_T_put : ZI := (⟨"ThreeStrandMaps", "put", "(IIIII)I"⟩, prog_1_method_7_code, 8, some .int, 5, 3)
def mi_T_mapAt : ZI := (⟨"ThreeStrandMaps", "mapAt", "(I)LThreeStrandMaps$PairMap;"⟩, prog_1_method_39_code, 2, some (.object "ThreeStrandMaps$PairMap"), 1, 2)
def mi_PM_hasPoint : ZI := (⟨"ThreeStrandMaps$PairMap", "hasPoint", "(I)Z"⟩, prog_8_method_4_code, 2, some .boolean, 1, 0)
def mi_PM_imageOf : ZI := (⟨"ThreeStrandMaps$PairMap", "imageOf", "(I)I"⟩, prog_8_method_6_code, 2, some .int, 1, 0)
def mi_CO_turned : ZI := (⟨"ThreeStrandMaps$Codes", "turned", "(II)I"⟩, prog_7_method_3_code, 4, some .int, 2, 1)
def mi_T_rename : ZI := (⟨"ThreeStrandMaps", "rename", "(III)I"⟩, prog_1_method_13_code, 5, some .int, 3, 3)
def mi_PM_isEmpty : ZI := (⟨"ThreeStrandMaps$PairMap", "isEmpty", "()Z"⟩, prog_8_method_3_code, 1, some .boolean, 0, 0)
def mi_PM_becomeRenamed : ZI := (⟨"ThreeStrandMaps$PairMap", "becomeRenamed", "(LThreeStrandMaps$PairMap;I)V"⟩, prog_8_method_20_code, 7, none, 2, 2)
def mi_PM_left : ZI := (⟨"ThreeStrandMaps$PairMap", "left", "(II)I"⟩, prog_8_method_7_code, 3, some .int, 2, 1)
def mi_PM_right : ZI := (⟨"ThreeStrandMaps$PairMap", "right", "(II)I"⟩, prog_8_method_8_code, 3, some .int, 2, 1)
def mi_T_cell : ZI := (⟨"ThreeStrandMaps", "cell", "(IIII)I"⟩, prog_1_method_15_code, 6, some .int, 4, 3)
def mi_T_whole : ZI := (⟨"ThreeStrandMaps", "whole", "(II)I"⟩, prog_1_method_16_code, 4, some .int, 2, 6)
def mi_CH_brokenTriples : ZI := (⟨"ThreeStrandMaps$Checks", "brokenTriples", "(LThreeStrandMaps$PairMap;)I"⟩, prog_6_method_8_code, 5, some .int, 1, 3)
def mi_CH_isBroken : ZI := (⟨"ThreeStrandMaps$Checks", "isBroken", "(LThreeStrandMaps$PairMap;I)Z"⟩, prog_6_method_7_code, 4, some .boolean, 2, 2)
def mi_PM_appliedAt : ZI := (⟨"ThreeStrandMaps$PairMap", "appliedAt", "(II)I"⟩, prog_8_method_11_code, 4, some .int, 2, 1)
def mi_T_oneIf : ZI := (⟨"ThreeStrandMaps", "oneIf", "(Z)I"⟩, prog_1_method_38_code, 1, some .int, 1, 0)
def mi_CO_next : ZI := (⟨"ThreeStrandMaps$Codes", "next", "(III)I"⟩, prog_7_method_8_code, 5, some .int, 3, 1)
def mi_CH_isBijective : ZI := (⟨"ThreeStrandMaps$Checks", "isBijective", "(LThreeStrandMaps$PairMap;)Z"⟩, prog_6_method_2_code, 6, some .boolean, 1, 1)
def mi_JL_bitCount : ZI := (⟨"java/lang/Long", "bitCount", "(J)I"⟩, prog_15_method_50_code, 2, some .int, 1, 0)
def mi_CH_isInvolutive : ZI := (⟨"ThreeStrandMaps$Checks", "isInvolutive", "(LThreeStrandMaps$PairMap;)Z"⟩, prog_6_method_3_code, 5, some .boolean, 1, 1)
def mi_CH_isLeftNondegenerate : ZI := (⟨"ThreeStrandMaps$Checks", "isLeftNondegenerate", "(LThreeStrandMaps$PairMap;)Z"⟩, prog_6_method_4_code, 5, some .boolean, 1, 2)
def mi_CH_isRightNondegenerate : ZI := (⟨"ThreeStrandMaps$Checks", "isRightNondegenerate", "(LThreeStrandMaps$PairMap;)Z"⟩, prog_6_method_5_code, 5, some .boolean, 1, 2)
def mi_CH_isSquareFree : ZI := (⟨"ThreeStrandMaps$Checks", "isSquareFree", "(LThreeStrandMaps$PairMap;)Z"⟩, prog_6_method_6_code, 3, some .boolean, 1, 1)
def mi_CH_orbits : ZI := (⟨"ThreeStrandMaps$Checks", "orbits", "(LThreeStrandMaps$PairMap;)I"⟩, prog_6_method_15_code, 4, some .int, 1, 4)
def mi_CH_orbitOf : ZI := (⟨"ThreeStrandMaps$Checks", "orbitOf", "(LThreeStrandMaps$PairMap;I)I"⟩, prog_6_method_12_code, 4, some .int, 2, 3)
def mi_CH_withLinked : ZI := (⟨"ThreeStrandMaps$Checks", "withLinked", "(LThreeStrandMaps$PairMap;I)I"⟩, prog_6_method_13_code, 6, some .int, 2, 2)
def mi_CH_joined : ZI := (⟨"ThreeStrandMaps$Checks", "joined", "(III)I"⟩, prog_6_method_14_code, 4, some .int, 3, 0)
def mi_AC_levelOf : ZI := (⟨"ThreeStrandMaps$AlikeClasses", "levelOf", "(LThreeStrandMaps$PairMap;)I"⟩, prog_3_method_8_code, 3, some .int, 1, 5)
def mi_AC_find : ZI := (⟨"ThreeStrandMaps$AlikeClasses", "find", "(LThreeStrandMaps$PairMap;)V"⟩, prog_3_method_4_code, 4, none, 1, 4)
def mi_AC_smallestTwin : ZI := (⟨"ThreeStrandMaps$AlikeClasses", "smallestTwin", "(LThreeStrandMaps$PairMap;I)I"⟩, prog_3_method_5_code, 3, some .int, 2, 3)
def mi_AC_areTwins : ZI := (⟨"ThreeStrandMaps$AlikeClasses", "areTwins", "(LThreeStrandMaps$PairMap;II)Z"⟩, prog_3_method_6_code, 4, some .boolean, 3, 2)
def mi_AC_classOf : ZI := (⟨"ThreeStrandMaps$AlikeClasses", "classOf", "(I)I"⟩, prog_3_method_2_code, 2, some .int, 1, 0)
def mi_AC_makeRetraction : ZI := (⟨"ThreeStrandMaps$AlikeClasses", "makeRetraction", "(LThreeStrandMaps$PairMap;LThreeStrandMaps$PairMap;)V"⟩, prog_3_method_7_code, 7, none, 2, 2)
def mi_AC_smallestOf : ZI := (⟨"ThreeStrandMaps$AlikeClasses", "smallestOf", "(I)I"⟩, prog_3_method_3_code, 2, some .int, 1, 0)
def mi_RG_orderFor : ZI := (⟨"ThreeStrandMaps$RowGroup", "orderFor", "(LThreeStrandMaps$PairMap;)I"⟩, prog_10_method_2_code, 4, some .int, 1, 3)
def mi_JA_fill : ZI := (⟨"java/util/Arrays", "fill", "([JJ)V"⟩, prog_17_method_101_code, 5, none, 2, 0)
def mi_RG_add : ZI := (⟨"ThreeStrandMaps$RowGroup", "add", "(I)V"⟩, prog_10_method_4_code, 6, none, 1, 0)
def mi_RG_followedBy : ZI := (⟨"ThreeStrandMaps$RowGroup", "followedBy", "(ILThreeStrandMaps$PairMap;I)I"⟩, prog_10_method_3_code, 7, some .int, 3, 2)
def mi_RN_isomorphisms : ZI := (⟨"ThreeStrandMaps$Renamings", "isomorphisms", "(LThreeStrandMaps$PairMap;LThreeStrandMaps$PairMap;)I"⟩, prog_9_method_2_code, 6, some .int, 2, 3)
def mi_RN_start : ZI := (⟨"ThreeStrandMaps$Renamings", "start", "()V"⟩, prog_9_method_10_code, 2, none, 0, 0)
def mi_RN_permutations : ZI := (⟨"ThreeStrandMaps$Renamings", "permutations", "(I)I"⟩, prog_9_method_9_code, 3, some .int, 1, 0)
def mi_RN_isIsomorphism : ZI := (⟨"ThreeStrandMaps$Renamings", "isIsomorphism", "(LThreeStrandMaps$PairMap;LThreeStrandMaps$PairMap;)Z"⟩, prog_9_method_6_code, 9, some .boolean, 2, 1)
def mi_RN_imageOf : ZI := (⟨"ThreeStrandMaps$Renamings", "imageOf", "(I)I"⟩, prog_9_method_7_code, 2, some .int, 1, 0)
def mi_RN_step : ZI := (⟨"ThreeStrandMaps$Renamings", "step", "(I)V"⟩, prog_9_method_11_code, 6, none, 1, 2)
def mi_RN_swap : ZI := (⟨"ThreeStrandMaps$Renamings", "swap", "(II)V"⟩, prog_9_method_12_code, 4, none, 2, 1)
def mi_CH_periodOf : ZI := (⟨"ThreeStrandMaps$Checks", "periodOf", "(LThreeStrandMaps$PairMap;)I"⟩, prog_6_method_10_code, 5, some .int, 1, 2)
def mi_CH_cycleLength : ZI := (⟨"ThreeStrandMaps$Checks", "cycleLength", "(LThreeStrandMaps$PairMap;I)I"⟩, prog_6_method_11_code, 5, some .int, 2, 1)
def mi_CO_commonMultiple : ZI := (⟨"ThreeStrandMaps$Codes", "commonMultiple", "(II)I"⟩, prog_7_method_9_code, 3, some .int, 2, 0)
def mi_CH_closedSets : ZI := (⟨"ThreeStrandMaps$Checks", "closedSets", "(LThreeStrandMaps$PairMap;)I"⟩, prog_6_method_18_code, 3, some .int, 1, 3)
def mi_CH_withImages : ZI := (⟨"ThreeStrandMaps$Checks", "withImages", "(LThreeStrandMaps$PairMap;I)I"⟩, prog_6_method_17_code, 6, some .int, 2, 2)
def mi_SL_indexOf : ZI := (⟨"ThreeStrandMaps$SolutionList", "indexOf", "(LThreeStrandMaps$PairMap;LThreeStrandMaps$Renamings;)I"⟩, prog_11_method_10_code, 6, some .int, 2, 4)
def mi_SL_hasPoints : ZI := (⟨"ThreeStrandMaps$SolutionList", "hasPoints", "(I)Z"⟩, prog_11_method_2_code, 1, some .boolean, 1, 0)
def mi_RN_smallestRows : ZI := (⟨"ThreeStrandMaps$Renamings", "smallestRows", "(LThreeStrandMaps$PairMap;)J"⟩, prog_9_method_4_code, 6, some .long, 1, 3)
def mi_RN_renamedRows : ZI := (⟨"ThreeStrandMaps$Renamings", "renamedRows", "(LThreeStrandMaps$PairMap;)J"⟩, prog_9_method_5_code, 8, some .long, 1, 2)
def mi_SL_shiftOf : ZI := (⟨"ThreeStrandMaps$SolutionList", "shiftOf", "(II)I"⟩, prog_11_method_6_code, 2, some .int, 2, 0)
def mi_JM_minL : ZI := (Lib.MathLoose.min_long.x, Lib.MathLoose.min_long.code, 4, some .long, 2, 102)
def mi_SL_size : ZI := (⟨"ThreeStrandMaps$SolutionList", "size", "(I)I"⟩, prog_11_method_4_code, 1, some .int, 1, 1)
def mi_SL_start : ZI := (⟨"ThreeStrandMaps$SolutionList", "start", "(I)I"⟩, prog_11_method_3_code, 1, some .int, 1, 0)
def mi_SL_rowsAt : ZI := (⟨"ThreeStrandMaps$SolutionList", "rowsAt", "(II)J"⟩, prog_11_method_5_code, 3, some .long, 2, 1)
def mi_T_orbit : ZI := (⟨"ThreeStrandMaps", "orbit", "(II)I"⟩, prog_1_method_18_code, 4, some .int, 2, 4)
def mi_T_shut : ZI := (⟨"ThreeStrandMaps", "shut", "(II)I"⟩, prog_1_method_19_code, 4, some .int, 2, 4)
def mi_CH_closureOf : ZI := (⟨"ThreeStrandMaps$Checks", "closureOf", "(LThreeStrandMaps$PairMap;I)I"⟩, prog_6_method_16_code, 4, some .int, 2, 3)
def mi_T_alike : ZI := (⟨"ThreeStrandMaps", "alike", "(II)I"⟩, prog_1_method_20_code, 4, some .int, 2, 5)
def mi_T_count : ZI := (⟨"ThreeStrandMaps", "count", "(I)I"⟩, prog_1_method_33_code, 2, some .int, 1, 4)
def mi_T_mapsHeld : ZI := (⟨"ThreeStrandMaps", "mapsHeld", "()I"⟩, prog_1_method_43_code, 3, some .int, 0, 3)
def mi_T_pointsHeld : ZI := (⟨"ThreeStrandMaps", "pointsHeld", "()I"⟩, prog_1_method_44_code, 3, some .int, 0, 3)
def mi_T_braidAt : ZI := (⟨"ThreeStrandMaps", "braidAt", "(I)LThreeStrandMaps$Braid;"⟩, prog_1_method_40_code, 2, some (.object "ThreeStrandMaps$Braid"), 1, 2)
def mi_T_isBraid : ZI := (⟨"ThreeStrandMaps", "isBraid", "(I)Z"⟩, prog_1_method_35_code, 1, some .boolean, 1, 1)
def mi_BR_length : ZI := (⟨"ThreeStrandMaps$Braid", "length", "()I"⟩, prog_4_method_4_code, 1, some .int, 0, 0)
def mi_LW_cell : ZI := (⟨"ThreeStrandMapsLaw", "cell", "([II)I"⟩, method_2_code, 2, some .int, 2, 0)
def mi_LW_points : ZI := (⟨"ThreeStrandMapsLaw", "points", "([JI)I"⟩, method_4_code, 2, some .int, 2, 0)
def mi_LW_one : ZI := (⟨"ThreeStrandMapsLaw", "one", "(LThreeStrandMaps;[JIII)Z"⟩, method_20_code, 18, some .boolean, 5, 6)
def mi_LW_low : ZI := (⟨"ThreeStrandMapsLaw", "low", "(II)I"⟩, method_3_code, 2, some .int, 2, 0)
def mi_LW_units : ZI := (⟨"ThreeStrandMapsLaw", "units", "(II)I"⟩, method_12_code, 6, some .int, 2, 1)
def mi_LW_isBrace : ZI := (⟨"ThreeStrandMapsLaw", "isBrace", "(II)Z"⟩, method_13_code, 6, some .boolean, 2, 1)
def mi_LW_digit : ZI := (⟨"ThreeStrandMapsLaw", "digit", "(II)I"⟩, method_9_code, 2, some .int, 2, 0)
def mi_LW_makes : ZI := (⟨"ThreeStrandMapsLaw", "makes", "([JIII)V"⟩, method_15_code, 10, none, 4, 1)
def mi_LW_times : ZI := (⟨"ThreeStrandMapsLaw", "times", "(IIII)I"⟩, method_11_code, 5, some .int, 4, 0)
def mi_LW_lays : ZI := (⟨"ThreeStrandMapsLaw", "lays", "([JIIIII)V"⟩, method_7_code, 8, none, 6, 0)
def mi_LW_names : ZI := (⟨"ThreeStrandMapsLaw", "names", "(II)I"⟩, method_10_code, 8, some .int, 2, 1)
def mi_LW_joins : ZI := (⟨"ThreeStrandMapsLaw", "joins", "([JIIZ)V"⟩, method_16_code, 10, none, 4, 1)
def mi_LW_l : ZI := (⟨"ThreeStrandMapsLaw", "l", "([JIII)I"⟩, method_5_code, 4, some .int, 4, 0)
def mi_LW_r : ZI := (⟨"ThreeStrandMapsLaw", "r", "([JIII)I"⟩, method_6_code, 4, some .int, 4, 0)
def mi_T_unite : ZI := (⟨"ThreeStrandMaps", "unite", "(III)I"⟩, prog_1_method_9_code, 6, some .int, 3, 5)
def mi_PM_becomeUnion : ZI := (⟨"ThreeStrandMaps$PairMap", "becomeUnion", "(LThreeStrandMaps$PairMap;LThreeStrandMaps$PairMap;)V"⟩, prog_8_method_14_code, 3, none, 2, 4)
def mi_PM_setShifted : ZI := (⟨"ThreeStrandMaps$PairMap", "setShifted", "(LThreeStrandMaps$PairMap;I)V"⟩, prog_8_method_15_code, 5, none, 2, 2)
def mi_T_pair : ZI := (⟨"ThreeStrandMaps", "pair", "(III)I"⟩, prog_1_method_10_code, 6, some .int, 3, 4)
def mi_PM_becomeProduct : ZI := (⟨"ThreeStrandMaps$PairMap", "becomeProduct", "(LThreeStrandMaps$PairMap;LThreeStrandMaps$PairMap;)V"⟩, prog_8_method_16_code, 5, none, 2, 3)
def mi_PM_setBlock : ZI := (⟨"ThreeStrandMaps$PairMap", "setBlock", "(LThreeStrandMaps$PairMap;LThreeStrandMaps$PairMap;II)V"⟩, prog_8_method_17_code, 10, none, 4, 2)
def mi_LW_bijective : ZI := (⟨"ThreeStrandMapsLaw", "bijective", "([JI)Z"⟩, method_14_code, 9, some .boolean, 2, 1)
def mi_LW_turns : ZI := (⟨"ThreeStrandMapsLaw", "turns", "([JIII)V"⟩, method_17_code, 10, none, 4, 1)
def mi_T_invert : ZI := (⟨"ThreeStrandMaps", "invert", "(II)I"⟩, prog_1_method_11_code, 4, some .int, 2, 3)
def mi_PM_becomeInverse : ZI := (⟨"ThreeStrandMaps$PairMap", "becomeInverse", "(LThreeStrandMaps$PairMap;)V"⟩, prog_8_method_18_code, 4, none, 1, 2)
def mi_T_mirror : ZI := (⟨"ThreeStrandMaps", "mirror", "(II)I"⟩, prog_1_method_12_code, 4, some .int, 2, 3)
def mi_PM_becomeMirror : ZI := (⟨"ThreeStrandMaps$PairMap", "becomeMirror", "(LThreeStrandMaps$PairMap;)V"⟩, prog_8_method_19_code, 4, none, 1, 2)
def mi_LW_retracts : ZI := (⟨"ThreeStrandMapsLaw", "retracts", "([JI)V"⟩, method_19_code, 6, none, 2, 2)
def mi_LW_clazz : ZI := (⟨"ThreeStrandMapsLaw", "clazz", "([JII)I"⟩, method_18_code, 11, some .int, 3, 1)
def mi_T_retract : ZI := (⟨"ThreeStrandMaps", "retract", "(II)I"⟩, prog_1_method_8_code, 4, some .int, 2, 5)
def mi_T_drop : ZI := (⟨"ThreeStrandMaps", "drop", "(I)I"⟩, prog_1_method_14_code, 4, some .int, 1, 3)
def mi_LW_copies : ZI := (⟨"ThreeStrandMapsLaw", "copies", "([JII)V"⟩, method_8_code, 4, none, 3, 0)
def mi_LW_same : ZI := (⟨"ThreeStrandMapsLaw", "same", "(LThreeStrandMaps;[JI)Z"⟩, method_21_code, 6, some .boolean, 3, 7)
def mi_LW_known : ZI := (⟨"ThreeStrandMapsLaw", "known", "(LThreeStrandMaps;[JII)Z"⟩, method_26_code, 9, some .boolean, 4, 7)
def mi_LW_orbit : ZI := (⟨"ThreeStrandMapsLaw", "orbit", "([JII)I"⟩, method_22_code, 10, some .int, 3, 1)
def mi_LW_shut : ZI := (⟨"ThreeStrandMapsLaw", "shut", "([JII)I"⟩, method_23_code, 8, some .int, 3, 1)
def mi_LW_as : ZI := (⟨"ThreeStrandMapsLaw", "as", "(Z)I"⟩, method_25_code, 1, some .int, 1, 0)
def mi_LW_is : ZI := (⟨"ThreeStrandMapsLaw", "is", "([JII)Z"⟩, method_24_code, 10, some .boolean, 3, 1)
theorem mv_T_flip : zmV mi_T_flip := ⟨⟨zw_of 0 173 rfl rfl, zw_of 0 1 rfl rfl, by decide +kernel⟩, zw_of 0 171 rfl rfl, zw_of 0 172 rfl rfl⟩
theorem ms_T_isPlace : zmS mi_T_isPlace := ⟨⟨zw_of 0 176 rfl rfl, zw_of 0 1 rfl rfl, by decide +kernel⟩, zw_of 0 175 rfl rfl⟩
theorem ms_T_isWithin : zmS mi_T_isWithin := ⟨⟨zw_of 0 179 rfl rfl, zw_of 0 1 rfl rfl, by decide +kernel⟩, zw_of 0 178 rfl rfl⟩
theorem mv_PM_becomeFlip : zmV mi_PM_becomeFlip := ⟨⟨zw_of 0 185 rfl rfl, zw_of 0 2 rfl rfl, by decide +kernel⟩, zw_of 0 183 rfl rfl, zw_of 0 184 rfl rfl⟩
theorem mv_PM_becomeTwist : zmV mi_PM_becomeTwist := ⟨⟨zw_of 0 190 rfl rfl, zw_of 0 2 rfl rfl, by decide +kernel⟩, zw_of 0 188 rfl rfl, zw_of 0 189 rfl rfl⟩
theorem ms_CO_digit : zmS mi_CO_digit := ⟨⟨zw_of 0 193 rfl rfl, zw_of 0 10 rfl rfl, by decide +kernel⟩, zw_of 0 192 rfl rfl⟩
theorem mv_PM_setImage : zmV mi_PM_setImage := ⟨⟨zw_of 0 197 rfl rfl, zw_of 0 2 rfl rfl, by decide +kernel⟩, zw_of 0 195 rfl rfl, zw_of 0 196 rfl rfl⟩
theorem ms_CO_pairOf : zmS mi_CO_pairOf := ⟨⟨zw_of 0 200 rfl rfl, zw_of 0 10 rfl rfl, by decide +kernel⟩, zw_of 0 199 rfl rfl⟩
theorem mv_T_keepMade : zmV mi_T_keepMade := ⟨⟨zw_of 0 204 rfl rfl, zw_of 0 1 rfl rfl, by decide +kernel⟩, zw_of 0 203 rfl rfl, zw_of 3 0 rfl rfl⟩
theorem mv_PM_copy : zmV mi_PM_copy := ⟨⟨zw_of 0 208 rfl rfl, zw_of 0 2 rfl rfl, by decide +kernel⟩, zw_of 0 206 rfl rfl, zw_of 0 207 rfl rfl⟩
theorem mv_PM_points : zmV mi_PM_points := ⟨⟨zw_of 0 212 rfl rfl, zw_of 0 2 rfl rfl, by decide +kernel⟩, zw_of 0 210 rfl rfl, zw_of 0 211 rfl rfl⟩
theorem mv_T_twist : zmV mi_T_twist := ⟨⟨zw_of 0 216 rfl rfl, zw_of 0 1 rfl rfl, by decide +kernel⟩, zw_of 0 214 rfl rfl, zw_of 0 215 rfl rfl⟩
theorem ms_CO_isPermutation : zmS mi_CO_isPermutation := ⟨⟨zw_of 0 219 rfl rfl, zw_of 0 10 rfl rfl, by decide +kernel⟩, zw_of 0 218 rfl rfl⟩
theorem ms_CO_isCode : zmS mi_CO_isCode := ⟨⟨zw_of 0 223 rfl rfl, zw_of 0 10 rfl rfl, by decide +kernel⟩, zw_of 0 222 rfl rfl⟩
theorem mv_T_group : zmV mi_T_group := ⟨⟨zw_of 0 228 rfl rfl, zw_of 0 1 rfl rfl, by decide +kernel⟩, zw_of 0 226 rfl rfl, zw_of 0 227 rfl rfl⟩
theorem ms_AL_isGroup : zmS mi_AL_isGroup := ⟨⟨zw_of 0 231 rfl rfl, zw_of 0 15 rfl rfl, by decide +kernel⟩, zw_of 0 230 rfl rfl⟩
theorem ms_AL_makeGroupMap : zmS mi_AL_makeGroupMap := ⟨⟨zw_of 0 234 rfl rfl, zw_of 0 15 rfl rfl, by decide +kernel⟩, zw_of 0 233 rfl rfl⟩
theorem mv_PM_resize : zmV mi_PM_resize := ⟨⟨zw_of 0 238 rfl rfl, zw_of 0 2 rfl rfl, by decide +kernel⟩, zw_of 0 236 rfl rfl, zw_of 0 237 rfl rfl⟩
theorem ms_AL_inverse : zmS mi_AL_inverse := ⟨⟨zw_of 1 1 rfl rfl, zw_of 0 15 rfl rfl, by decide +kernel⟩, zw_of 1 0 rfl rfl⟩
theorem ms_AL_product : zmS mi_AL_product := ⟨⟨zw_of 1 4 rfl rfl, zw_of 0 15 rfl rfl, by decide +kernel⟩, zw_of 1 3 rfl rfl⟩
theorem mv_T_brace : zmV mi_T_brace := ⟨⟨zw_of 1 9 rfl rfl, zw_of 0 1 rfl rfl, by decide +kernel⟩, zw_of 1 7 rfl rfl, zw_of 1 8 rfl rfl⟩
theorem ms_AL_areUnits : zmS mi_AL_areUnits := ⟨⟨zw_of 1 12 rfl rfl, zw_of 0 15 rfl rfl, by decide +kernel⟩, zw_of 1 11 rfl rfl⟩
theorem ms_AL_isUnit : zmS mi_AL_isUnit := ⟨⟨zw_of 1 16 rfl rfl, zw_of 0 15 rfl rfl, by decide +kernel⟩, zw_of 1 15 rfl rfl⟩
theorem ms_AL_isBrace : zmS mi_AL_isBrace := ⟨⟨zw_of 1 20 rfl rfl, zw_of 0 15 rfl rfl, by decide +kernel⟩, zw_of 1 19 rfl rfl⟩
theorem ms_AL_rest : zmS mi_AL_rest := ⟨⟨zw_of 1 23 rfl rfl, zw_of 0 15 rfl rfl, by decide +kernel⟩, zw_of 1 22 rfl rfl⟩
theorem ms_AL_makeBraceMap : zmS mi_AL_makeBraceMap := ⟨⟨zw_of 1 27 rfl rfl, zw_of 0 15 rfl rfl, by decide +kernel⟩, zw_of 1 26 rfl rfl⟩
theorem ms_AL_quotient : zmS mi_AL_quotient := ⟨⟨zw_of 1 30 rfl rfl, zw_of 0 15 rfl rfl, by decide +kernel⟩, zw_of 1 29 rfl rfl⟩
theorem mv_T_put : zmV mi_T_put := ⟨⟨zw_of 1 34 rfl rfl, zw_of 0 1 rfl rfl, by decide +kernel⟩, zw_of 1 32 rfl rfl, zw_of 1 33 rfl rfl⟩
theorem mv_T_mapAt : zmV mi_T_mapAt := ⟨⟨zw_of 1 38 rfl rfl, zw_of 0 1 rfl rfl, by decide +kernel⟩, zw_of 1 37 rfl rfl, zw_of 3 1 rfl rfl⟩
theorem mv_PM_hasPoint : zmV mi_PM_hasPoint := ⟨⟨zw_of 1 42 rfl rfl, zw_of 0 2 rfl rfl, by decide +kernel⟩, zw_of 1 40 rfl rfl, zw_of 1 41 rfl rfl⟩
theorem mv_PM_imageOf : zmV mi_PM_imageOf := ⟨⟨zw_of 1 47 rfl rfl, zw_of 0 2 rfl rfl, by decide +kernel⟩, zw_of 1 45 rfl rfl, zw_of 1 46 rfl rfl⟩
theorem ms_CO_turned : zmS mi_CO_turned := ⟨⟨zw_of 1 50 rfl rfl, zw_of 0 10 rfl rfl, by decide +kernel⟩, zw_of 1 49 rfl rfl⟩
theorem mv_T_rename : zmV mi_T_rename := ⟨⟨zw_of 1 55 rfl rfl, zw_of 0 1 rfl rfl, by decide +kernel⟩, zw_of 1 53 rfl rfl, zw_of 1 54 rfl rfl⟩
theorem mv_PM_isEmpty : zmV mi_PM_isEmpty := ⟨⟨zw_of 1 59 rfl rfl, zw_of 0 2 rfl rfl, by decide +kernel⟩, zw_of 1 57 rfl rfl, zw_of 1 58 rfl rfl⟩
theorem mv_PM_becomeRenamed : zmV mi_PM_becomeRenamed := ⟨⟨zw_of 1 63 rfl rfl, zw_of 0 2 rfl rfl, by decide +kernel⟩, zw_of 1 61 rfl rfl, zw_of 1 62 rfl rfl⟩
theorem mv_PM_left : zmV mi_PM_left := ⟨⟨zw_of 1 67 rfl rfl, zw_of 0 2 rfl rfl, by decide +kernel⟩, zw_of 1 65 rfl rfl, zw_of 1 66 rfl rfl⟩
theorem mv_PM_right : zmV mi_PM_right := ⟨⟨zw_of 1 72 rfl rfl, zw_of 0 2 rfl rfl, by decide +kernel⟩, zw_of 1 70 rfl rfl, zw_of 1 71 rfl rfl⟩
theorem mv_T_cell : zmV mi_T_cell := ⟨⟨zw_of 1 76 rfl rfl, zw_of 0 1 rfl rfl, by decide +kernel⟩, zw_of 1 74 rfl rfl, zw_of 1 75 rfl rfl⟩
theorem mv_T_whole : zmV mi_T_whole := ⟨⟨zw_of 1 82 rfl rfl, zw_of 0 1 rfl rfl, by decide +kernel⟩, zw_of 1 80 rfl rfl, zw_of 1 81 rfl rfl⟩
theorem ms_CH_brokenTriples : zmS mi_CH_brokenTriples := ⟨⟨zw_of 1 85 rfl rfl, zw_of 0 9 rfl rfl, by decide +kernel⟩, zw_of 1 84 rfl rfl⟩
theorem ms_CH_isBroken : zmS mi_CH_isBroken := ⟨⟨zw_of 1 89 rfl rfl, zw_of 0 9 rfl rfl, by decide +kernel⟩, zw_of 1 88 rfl rfl⟩
theorem mv_PM_appliedAt : zmV mi_PM_appliedAt := ⟨⟨zw_of 1 93 rfl rfl, zw_of 0 2 rfl rfl, by decide +kernel⟩, zw_of 1 91 rfl rfl, zw_of 1 92 rfl rfl⟩
theorem ms_T_oneIf : zmS mi_T_oneIf := ⟨⟨zw_of 1 96 rfl rfl, zw_of 0 1 rfl rfl, by decide +kernel⟩, zw_of 1 95 rfl rfl⟩
theorem ms_CO_next : zmS mi_CO_next := ⟨⟨zw_of 1 99 rfl rfl, zw_of 0 10 rfl rfl, by decide +kernel⟩, zw_of 1 98 rfl rfl⟩
theorem ms_CH_isBijective : zmS mi_CH_isBijective := ⟨⟨zw_of 1 103 rfl rfl, zw_of 0 9 rfl rfl, by decide +kernel⟩, zw_of 1 102 rfl rfl⟩
theorem ms_JL_bitCount : zmS mi_JL_bitCount := ⟨⟨zw_of 1 108 rfl rfl, zw_of 0 11 rfl rfl, by decide +kernel⟩, zw_of 1 107 rfl rfl⟩
theorem ms_CH_isInvolutive : zmS mi_CH_isInvolutive := ⟨⟨zw_of 1 114 rfl rfl, zw_of 0 9 rfl rfl, by decide +kernel⟩, zw_of 1 113 rfl rfl⟩
theorem ms_CH_isLeftNondegenerate : zmS mi_CH_isLeftNondegenerate := ⟨⟨zw_of 1 117 rfl rfl, zw_of 0 9 rfl rfl, by decide +kernel⟩, zw_of 1 116 rfl rfl⟩
theorem ms_CH_isRightNondegenerate : zmS mi_CH_isRightNondegenerate := ⟨⟨zw_of 1 121 rfl rfl, zw_of 0 9 rfl rfl, by decide +kernel⟩, zw_of 1 120 rfl rfl⟩
theorem ms_CH_isSquareFree : zmS mi_CH_isSquareFree := ⟨⟨zw_of 1 125 rfl rfl, zw_of 0 9 rfl rfl, by decide +kernel⟩, zw_of 1 124 rfl rfl⟩
theorem ms_CH_orbits : zmS mi_CH_orbits := ⟨⟨zw_of 1 128 rfl rfl, zw_of 0 9 rfl rfl, by decide +kernel⟩, zw_of 1 127 rfl rfl⟩
theorem ms_CH_orbitOf : zmS mi_CH_orbitOf := ⟨⟨zw_of 1 131 rfl rfl, zw_of 0 9 rfl rfl, by decide +kernel⟩, zw_of 1 130 rfl rfl⟩
theorem ms_CH_withLinked : zmS mi_CH_withLinked := ⟨⟨zw_of 1 134 rfl rfl, zw_of 0 9 rfl rfl, by decide +kernel⟩, zw_of 1 133 rfl rfl⟩
theorem ms_CH_joined : zmS mi_CH_joined := ⟨⟨zw_of 1 137 rfl rfl, zw_of 0 9 rfl rfl, by decide +kernel⟩, zw_of 1 136 rfl rfl⟩
theorem mv_AC_levelOf : zmV mi_AC_levelOf := ⟨⟨zw_of 1 141 rfl rfl, zw_of 0 4 rfl rfl, by decide +kernel⟩, zw_of 1 139 rfl rfl, zw_of 1 140 rfl rfl⟩
theorem mv_AC_find : zmV mi_AC_find := ⟨⟨zw_of 1 147 rfl rfl, zw_of 0 4 rfl rfl, by decide +kernel⟩, zw_of 1 145 rfl rfl, zw_of 1 146 rfl rfl⟩
theorem ms_AC_smallestTwin : zmS mi_AC_smallestTwin := ⟨⟨zw_of 1 150 rfl rfl, zw_of 0 4 rfl rfl, by decide +kernel⟩, zw_of 1 149 rfl rfl⟩
theorem ms_AC_areTwins : zmS mi_AC_areTwins := ⟨⟨zw_of 1 153 rfl rfl, zw_of 0 4 rfl rfl, by decide +kernel⟩, zw_of 1 152 rfl rfl⟩
theorem mv_AC_classOf : zmV mi_AC_classOf := ⟨⟨zw_of 1 159 rfl rfl, zw_of 0 4 rfl rfl, by decide +kernel⟩, zw_of 1 157 rfl rfl, zw_of 1 158 rfl rfl⟩
theorem mv_AC_makeRetraction : zmV mi_AC_makeRetraction := ⟨⟨zw_of 1 163 rfl rfl, zw_of 0 4 rfl rfl, by decide +kernel⟩, zw_of 1 161 rfl rfl, zw_of 1 162 rfl rfl⟩
theorem mv_AC_smallestOf : zmV mi_AC_smallestOf := ⟨⟨zw_of 1 168 rfl rfl, zw_of 0 4 rfl rfl, by decide +kernel⟩, zw_of 1 166 rfl rfl, zw_of 1 167 rfl rfl⟩
theorem mv_RG_orderFor : zmV mi_RG_orderFor := ⟨⟨zw_of 1 173 rfl rfl, zw_of 0 6 rfl rfl, by decide +kernel⟩, zw_of 1 171 rfl rfl, zw_of 1 172 rfl rfl⟩
theorem ms_JA_fill : zmS mi_JA_fill := ⟨⟨zw_of 1 177 rfl rfl, zw_of 0 12 rfl rfl, by decide +kernel⟩, zw_of 1 176 rfl rfl⟩
theorem mv_RG_add : zmV mi_RG_add := ⟨⟨zw_of 1 182 rfl rfl, zw_of 0 6 rfl rfl, by decide +kernel⟩, zw_of 1 181 rfl rfl, zw_of 3 2 rfl rfl⟩
theorem ms_RG_followedBy : zmS mi_RG_followedBy := ⟨⟨zw_of 1 186 rfl rfl, zw_of 0 6 rfl rfl, by decide +kernel⟩, zw_of 1 185 rfl rfl⟩
theorem mv_RN_isomorphisms : zmV mi_RN_isomorphisms := ⟨⟨zw_of 1 192 rfl rfl, zw_of 0 5 rfl rfl, by decide +kernel⟩, zw_of 1 190 rfl rfl, zw_of 1 191 rfl rfl⟩
theorem mv_RN_start : zmV mi_RN_start := ⟨⟨zw_of 1 197 rfl rfl, zw_of 0 5 rfl rfl, by decide +kernel⟩, zw_of 1 196 rfl rfl, zw_of 3 3 rfl rfl⟩
theorem ms_RN_permutations : zmS mi_RN_permutations := ⟨⟨zw_of 1 200 rfl rfl, zw_of 0 5 rfl rfl, by decide +kernel⟩, zw_of 1 199 rfl rfl⟩
theorem mv_RN_isIsomorphism : zmV mi_RN_isIsomorphism := ⟨⟨zw_of 1 204 rfl rfl, zw_of 0 5 rfl rfl, by decide +kernel⟩, zw_of 1 203 rfl rfl, zw_of 3 4 rfl rfl⟩
theorem mv_RN_imageOf : zmV mi_RN_imageOf := ⟨⟨zw_of 1 208 rfl rfl, zw_of 0 5 rfl rfl, by decide +kernel⟩, zw_of 1 207 rfl rfl, zw_of 3 5 rfl rfl⟩
theorem mv_RN_step : zmV mi_RN_step := ⟨⟨zw_of 1 215 rfl rfl, zw_of 0 5 rfl rfl, by decide +kernel⟩, zw_of 1 214 rfl rfl, zw_of 3 6 rfl rfl⟩
theorem mv_RN_swap : zmV mi_RN_swap := ⟨⟨zw_of 1 219 rfl rfl, zw_of 0 5 rfl rfl, by decide +kernel⟩, zw_of 1 218 rfl rfl, zw_of 3 7 rfl rfl⟩
theorem ms_CH_periodOf : zmS mi_CH_periodOf := ⟨⟨zw_of 1 222 rfl rfl, zw_of 0 9 rfl rfl, by decide +kernel⟩, zw_of 1 221 rfl rfl⟩
theorem ms_CH_cycleLength : zmS mi_CH_cycleLength := ⟨⟨zw_of 1 226 rfl rfl, zw_of 0 9 rfl rfl, by decide +kernel⟩, zw_of 1 225 rfl rfl⟩
theorem ms_CO_commonMultiple : zmS mi_CO_commonMultiple := ⟨⟨zw_of 1 229 rfl rfl, zw_of 0 10 rfl rfl, by decide +kernel⟩, zw_of 1 228 rfl rfl⟩
theorem ms_CH_closedSets : zmS mi_CH_closedSets := ⟨⟨zw_of 1 232 rfl rfl, zw_of 0 9 rfl rfl, by decide +kernel⟩, zw_of 1 231 rfl rfl⟩
theorem ms_CH_withImages : zmS mi_CH_withImages := ⟨⟨zw_of 1 235 rfl rfl, zw_of 0 9 rfl rfl, by decide +kernel⟩, zw_of 1 234 rfl rfl⟩
theorem ms_SL_indexOf : zmS mi_SL_indexOf := ⟨⟨zw_of 1 238 rfl rfl, zw_of 0 13 rfl rfl, by decide +kernel⟩, zw_of 1 237 rfl rfl⟩
theorem ms_SL_hasPoints : zmS mi_SL_hasPoints := ⟨⟨zw_of 2 2 rfl rfl, zw_of 0 13 rfl rfl, by decide +kernel⟩, zw_of 2 1 rfl rfl⟩
theorem mv_RN_smallestRows : zmV mi_RN_smallestRows := ⟨⟨zw_of 2 8 rfl rfl, zw_of 0 5 rfl rfl, by decide +kernel⟩, zw_of 2 6 rfl rfl, zw_of 2 7 rfl rfl⟩
theorem mv_RN_renamedRows : zmV mi_RN_renamedRows := ⟨⟨zw_of 2 12 rfl rfl, zw_of 0 5 rfl rfl, by decide +kernel⟩, zw_of 2 11 rfl rfl, zw_of 3 8 rfl rfl⟩
theorem ms_SL_shiftOf : zmS mi_SL_shiftOf := ⟨⟨zw_of 2 16 rfl rfl, zw_of 0 13 rfl rfl, by decide +kernel⟩, zw_of 2 15 rfl rfl⟩
theorem ms_SL_size : zmS mi_SL_size := ⟨⟨zw_of 2 22 rfl rfl, zw_of 0 13 rfl rfl, by decide +kernel⟩, zw_of 2 21 rfl rfl⟩
theorem ms_SL_start : zmS mi_SL_start := ⟨⟨zw_of 2 25 rfl rfl, zw_of 0 13 rfl rfl, by decide +kernel⟩, zw_of 2 24 rfl rfl⟩
theorem ms_SL_rowsAt : zmS mi_SL_rowsAt := ⟨⟨zw_of 2 28 rfl rfl, zw_of 0 13 rfl rfl, by decide +kernel⟩, zw_of 2 27 rfl rfl⟩
theorem mv_T_orbit : zmV mi_T_orbit := ⟨⟨zw_of 2 34 rfl rfl, zw_of 0 1 rfl rfl, by decide +kernel⟩, zw_of 2 32 rfl rfl, zw_of 2 33 rfl rfl⟩
theorem mv_T_shut : zmV mi_T_shut := ⟨⟨zw_of 2 39 rfl rfl, zw_of 0 1 rfl rfl, by decide +kernel⟩, zw_of 2 37 rfl rfl, zw_of 2 38 rfl rfl⟩
theorem ms_CH_closureOf : zmS mi_CH_closureOf := ⟨⟨zw_of 2 42 rfl rfl, zw_of 0 9 rfl rfl, by decide +kernel⟩, zw_of 2 41 rfl rfl⟩
theorem mv_T_alike : zmV mi_T_alike := ⟨⟨zw_of 2 46 rfl rfl, zw_of 0 1 rfl rfl, by decide +kernel⟩, zw_of 2 44 rfl rfl, zw_of 2 45 rfl rfl⟩
theorem mv_T_mapsHeld : zmV mi_T_mapsHeld := ⟨⟨zw_of 2 56 rfl rfl, zw_of 0 1 rfl rfl, by decide +kernel⟩, zw_of 2 55 rfl rfl, zw_of 3 9 rfl rfl⟩
theorem mv_T_pointsHeld : zmV mi_T_pointsHeld := ⟨⟨zw_of 2 60 rfl rfl, zw_of 0 1 rfl rfl, by decide +kernel⟩, zw_of 2 59 rfl rfl, zw_of 3 10 rfl rfl⟩
theorem mv_T_braidAt : zmV mi_T_braidAt := ⟨⟨zw_of 2 64 rfl rfl, zw_of 0 1 rfl rfl, by decide +kernel⟩, zw_of 2 63 rfl rfl, zw_of 3 11 rfl rfl⟩
theorem ms_T_isBraid : zmS mi_T_isBraid := ⟨⟨zw_of 2 67 rfl rfl, zw_of 0 1 rfl rfl, by decide +kernel⟩, zw_of 2 66 rfl rfl⟩
theorem mv_BR_length : zmV mi_BR_length := ⟨⟨zw_of 2 71 rfl rfl, zw_of 0 3 rfl rfl, by decide +kernel⟩, zw_of 2 69 rfl rfl, zw_of 2 70 rfl rfl⟩
theorem ms_LW_points : zmS mi_LW_points := ⟨⟨zw_of 2 78 rfl rfl, zw_of 0 0 rfl rfl, by decide +kernel⟩, zw_of 2 77 rfl rfl⟩
theorem ms_LW_low : zmS mi_LW_low := ⟨⟨zw_of 2 84 rfl rfl, zw_of 0 0 rfl rfl, by decide +kernel⟩, zw_of 2 83 rfl rfl⟩
theorem ms_LW_units : zmS mi_LW_units := ⟨⟨zw_of 2 89 rfl rfl, zw_of 0 0 rfl rfl, by decide +kernel⟩, zw_of 2 88 rfl rfl⟩
theorem ms_LW_isBrace : zmS mi_LW_isBrace := ⟨⟨zw_of 2 92 rfl rfl, zw_of 0 0 rfl rfl, by decide +kernel⟩, zw_of 2 91 rfl rfl⟩
theorem ms_LW_digit : zmS mi_LW_digit := ⟨⟨zw_of 2 95 rfl rfl, zw_of 0 0 rfl rfl, by decide +kernel⟩, zw_of 2 94 rfl rfl⟩
theorem ms_LW_makes : zmS mi_LW_makes := ⟨⟨zw_of 2 98 rfl rfl, zw_of 0 0 rfl rfl, by decide +kernel⟩, zw_of 2 97 rfl rfl⟩
theorem ms_LW_times : zmS mi_LW_times := ⟨⟨zw_of 2 101 rfl rfl, zw_of 0 0 rfl rfl, by decide +kernel⟩, zw_of 2 100 rfl rfl⟩
theorem ms_LW_lays : zmS mi_LW_lays := ⟨⟨zw_of 2 104 rfl rfl, zw_of 0 0 rfl rfl, by decide +kernel⟩, zw_of 2 103 rfl rfl⟩
theorem ms_LW_names : zmS mi_LW_names := ⟨⟨zw_of 2 110 rfl rfl, zw_of 0 0 rfl rfl, by decide +kernel⟩, zw_of 2 109 rfl rfl⟩
theorem ms_LW_joins : zmS mi_LW_joins := ⟨⟨zw_of 2 113 rfl rfl, zw_of 0 0 rfl rfl, by decide +kernel⟩, zw_of 2 112 rfl rfl⟩
theorem ms_LW_l : zmS mi_LW_l := ⟨⟨zw_of 2 116 rfl rfl, zw_of 0 0 rfl rfl, by decide +kernel⟩, zw_of 2 115 rfl rfl⟩
theorem ms_LW_r : zmS mi_LW_r := ⟨⟨zw_of 2 119 rfl rfl, zw_of 0 0 rfl rfl, by decide +kernel⟩, zw_of 2 118 rfl rfl⟩
theorem mv_T_unite : zmV mi_T_unite := ⟨⟨zw_of 2 124 rfl rfl, zw_of 0 1 rfl rfl, by decide +kernel⟩, zw_of 2 122 rfl rfl, zw_of 2 123 rfl rfl⟩
theorem mv_PM_becomeUnion : zmV mi_PM_becomeUnion := ⟨⟨zw_of 2 129 rfl rfl, zw_of 0 2 rfl rfl, by decide +kernel⟩, zw_of 2 127 rfl rfl, zw_of 2 128 rfl rfl⟩
theorem mv_PM_setShifted : zmV mi_PM_setShifted := ⟨⟨zw_of 2 134 rfl rfl, zw_of 0 2 rfl rfl, by decide +kernel⟩, zw_of 2 133 rfl rfl, zw_of 3 12 rfl rfl⟩
theorem mv_T_pair : zmV mi_T_pair := ⟨⟨zw_of 2 138 rfl rfl, zw_of 0 1 rfl rfl, by decide +kernel⟩, zw_of 2 136 rfl rfl, zw_of 2 137 rfl rfl⟩
theorem mv_PM_becomeProduct : zmV mi_PM_becomeProduct := ⟨⟨zw_of 2 142 rfl rfl, zw_of 0 2 rfl rfl, by decide +kernel⟩, zw_of 2 140 rfl rfl, zw_of 2 141 rfl rfl⟩
theorem mv_PM_setBlock : zmV mi_PM_setBlock := ⟨⟨zw_of 2 146 rfl rfl, zw_of 0 2 rfl rfl, by decide +kernel⟩, zw_of 2 145 rfl rfl, zw_of 3 13 rfl rfl⟩
theorem ms_LW_bijective : zmS mi_LW_bijective := ⟨⟨zw_of 2 149 rfl rfl, zw_of 0 0 rfl rfl, by decide +kernel⟩, zw_of 2 148 rfl rfl⟩
theorem ms_LW_turns : zmS mi_LW_turns := ⟨⟨zw_of 2 152 rfl rfl, zw_of 0 0 rfl rfl, by decide +kernel⟩, zw_of 2 151 rfl rfl⟩
theorem mv_T_invert : zmV mi_T_invert := ⟨⟨zw_of 2 156 rfl rfl, zw_of 0 1 rfl rfl, by decide +kernel⟩, zw_of 2 154 rfl rfl, zw_of 2 155 rfl rfl⟩
theorem mv_PM_becomeInverse : zmV mi_PM_becomeInverse := ⟨⟨zw_of 2 160 rfl rfl, zw_of 0 2 rfl rfl, by decide +kernel⟩, zw_of 2 158 rfl rfl, zw_of 2 159 rfl rfl⟩
theorem mv_T_mirror : zmV mi_T_mirror := ⟨⟨zw_of 2 164 rfl rfl, zw_of 0 1 rfl rfl, by decide +kernel⟩, zw_of 2 162 rfl rfl, zw_of 2 163 rfl rfl⟩
theorem mv_PM_becomeMirror : zmV mi_PM_becomeMirror := ⟨⟨zw_of 2 168 rfl rfl, zw_of 0 2 rfl rfl, by decide +kernel⟩, zw_of 2 166 rfl rfl, zw_of 2 167 rfl rfl⟩
theorem ms_LW_retracts : zmS mi_LW_retracts := ⟨⟨zw_of 2 171 rfl rfl, zw_of 0 0 rfl rfl, by decide +kernel⟩, zw_of 2 170 rfl rfl⟩
theorem ms_LW_clazz : zmS mi_LW_clazz := ⟨⟨zw_of 2 174 rfl rfl, zw_of 0 0 rfl rfl, by decide +kernel⟩, zw_of 2 173 rfl rfl⟩
theorem mv_T_retract : zmV mi_T_retract := ⟨⟨zw_of 2 178 rfl rfl, zw_of 0 1 rfl rfl, by decide +kernel⟩, zw_of 2 176 rfl rfl, zw_of 2 177 rfl rfl⟩
theorem mv_T_drop : zmV mi_T_drop := ⟨⟨zw_of 2 183 rfl rfl, zw_of 0 1 rfl rfl, by decide +kernel⟩, zw_of 2 181 rfl rfl, zw_of 2 182 rfl rfl⟩
theorem ms_LW_copies : zmS mi_LW_copies := ⟨⟨zw_of 2 187 rfl rfl, zw_of 0 0 rfl rfl, by decide +kernel⟩, zw_of 2 186 rfl rfl⟩
theorem ms_LW_orbit : zmS mi_LW_orbit := ⟨⟨zw_of 2 196 rfl rfl, zw_of 0 0 rfl rfl, by decide +kernel⟩, zw_of 2 195 rfl rfl⟩
theorem ms_LW_shut : zmS mi_LW_shut := ⟨⟨zw_of 2 199 rfl rfl, zw_of 0 0 rfl rfl, by decide +kernel⟩, zw_of 2 198 rfl rfl⟩
theorem ms_LW_as : zmS mi_LW_as := ⟨⟨zw_of 2 202 rfl rfl, zw_of 0 0 rfl rfl, by decide +kernel⟩, zw_of 2 201 rfl rfl⟩
theorem ms_LW_is : zmS mi_LW_is := ⟨⟨zw_of 2 205 rfl rfl, zw_of 0 0 rfl rfl, by decide +kernel⟩, zw_of 2 204 rfl rfl⟩
def cu_AC_classOf : List (Nat × List Nat) := []
def cd_AC_classOf : List ZE := [(0, .aload_n 0, ([0], 0, 0, []), zi0), (1, .getfield 11, ([3, 0, 0, 65], 0, 0, []), zi0), (4, .iload_n 1, ([1], 0, 0, []), zi0), (5, .bipush 7, ([], nI 7, 0, []), zi0), (7, .iand, ([], 0, 0, []), zi0), (8, .iaload, ([], 0, 0, []), zi0), (9, .ireturn, ([], 0, 0, []), zi0)]
set_option maxRecDepth 100000 in
theorem oc_AC_classOf : cd_AC_classOf.all (zchk mi_AC_classOf) = true := by decide +kernel
set_option maxRecDepth 100000 in
theorem ow_AC_classOf : zWs mi_AC_classOf cd_AC_classOf := ⟨trivial, rfl, trivial, trivial, trivial, trivial, trivial, trivial⟩
theorem ok_AC_classOf : zgood2 mi_AC_classOf cd_AC_classOf := ⟨oc_AC_classOf, ow_AC_classOf⟩
def cu_AC_smallestOf : List (Nat × List Nat) := []
def cd_AC_smallestOf : List ZE := [(0, .aload_n 0, ([0], 0, 0, []), zi0), (1, .getfield 15, ([3, 1, 0, 66], 0, 0, []), zi0), (4, .iload_n 1, ([1], 0, 0, []), zi0), (5, .bipush 7, ([], nI 7, 0, []), zi0), (7, .iand, ([], 0, 0, []), zi0), (8, .iaload, ([], 0, 0, []), zi0), (9, .ireturn, ([], 0, 0, []), zi0)]
set_option maxRecDepth 100000 in
theorem oc_AC_smallestOf : cd_AC_smallestOf.all (zchk mi_AC_smallestOf) = true := by decide +kernel
set_option maxRecDepth 100000 in
theorem ow_AC_smallestOf : zWs mi_AC_smallestOf cd_AC_smallestOf := ⟨trivial, rfl, trivial, trivial, trivial, trivial, trivial, trivial⟩
theorem ok_AC_smallestOf : zgood2 mi_AC_smallestOf cd_AC_smallestOf := ⟨oc_AC_smallestOf, ow_AC_smallestOf⟩
def cu_AL_isGroup : List (Nat × List Nat) := []
def cd_AL_isGroup : List ZE := [(0, .iload_n 0, ([0], 0, 0, []), zi0), (1, .tableswitch 67 0 2 #[27, 44, 55], ([68, 27], 0, 0, [(nI 0, 28), (nI 1, 45), (nI 2, 56)]), zi0), (28, .iload_n 1, ([1], 0, 0, []), zi0), (29, .iconst 1, ([], nI 1, 0, []), zi0), (30, .if_icmp .lt 13, ([43], 0, 0, []), zi0), (33, .iload_n 1, ([1], 0, 0, []), zi0), (34, .bipush 6, ([], nI 6, 0, []), zi0), (36, .if_icmp .gt 7, ([43], 0, 0, []), zi0), (39, .iconst 1, ([], nI 1, 0, []), zi0), (40, .goto 4, ([44], 0, 0, []), zi0), (43, .iconst 0, ([], nI 0, 0, []), zi0), (44, .ireturn, ([], 0, 0, []), zi0), (45, .iload_n 1, ([1], 0, 0, []), zi0), (46, .iconst 4, ([], nI 4, 0, []), zi0), (47, .if_icmp .ne 7, ([54], 0, 0, []), zi0), (50, .iconst 1, ([], nI 1, 0, []), zi0), (51, .goto 4, ([55], 0, 0, []), zi0), (54, .iconst 0, ([], nI 0, 0, []), zi0), (55, .ireturn, ([], 0, 0, []), zi0), (56, .iload_n 1, ([1], 0, 0, []), zi0), (57, .bipush 6, ([], nI 6, 0, []), zi0), (59, .if_icmp .ne 7, ([66], 0, 0, []), zi0), (62, .iconst 1, ([], nI 1, 0, []), zi0), (63, .goto 4, ([67], 0, 0, []), zi0), (66, .iconst 0, ([], nI 0, 0, []), zi0), (67, .ireturn, ([], 0, 0, []), zi0), (68, .iconst 0, ([], nI 0, 0, []), zi0), (69, .ireturn, ([], 0, 0, []), zi0)]
set_option maxRecDepth 100000 in
theorem oc_AL_isGroup : cd_AL_isGroup.all (zchk mi_AL_isGroup) = true := by decide +kernel
set_option maxRecDepth 100000 in
theorem ow_AL_isGroup : zWs mi_AL_isGroup cd_AL_isGroup := ⟨trivial, trivial, trivial, trivial, trivial, trivial, trivial, trivial, trivial, trivial, trivial, trivial, trivial, trivial, trivial, trivial, trivial, trivial, trivial, trivial, trivial, trivial, trivial, trivial, trivial, trivial, trivial, trivial, trivial⟩
theorem ok_AL_isGroup : zgood2 mi_AL_isGroup cd_AL_isGroup := ⟨oc_AL_isGroup, ow_AL_isGroup⟩
def cu_AL_isUnit : List (Nat × List Nat) := [(2, [0, 1, 2])]
def cd_AL_isUnit : List ZE := [(0, .iconst 2, ([], nI 2, 0, []), zi0), (1, .istore_n 2, ([2], 0, 0, []), zi0), (2, .iload_n 2, ([2], 0, 0, []), zi0), (3, .iload_n 0, ([0], 0, 0, []), zi0), (4, .if_icmp .ge 23, ([27], 0, 0, []), zi0), (7, .iload_n 0, ([0], 0, 0, []), zi0), (8, .iload_n 2, ([2], 0, 0, []), zi0), (9, .irem, ([], 0, 0, []), zi0), (10, .ifCond .ne 11, ([21], 0, 0, []), zi0), (13, .iload_n 1, ([1], 0, 0, []), zi0), (14, .iload_n 2, ([2], 0, 0, []), zi0), (15, .irem, ([], 0, 0, []), zi0), (16, .ifCond .ne 5, ([21], 0, 0, []), zi0), (19, .iconst 0, ([], nI 0, 0, []), zi0), (20, .ireturn, ([], 0, 0, []), zi0), (21, .iinc 2 1, ([], nI 1, 0, []), zi0), (24, .goto (-22), ([2], 0, 0, []), zi0), (27, .iload_n 1, ([1], 0, 0, []), zi0), (28, .ifCond .le 12, ([40], 0, 0, []), zi0), (31, .iload_n 1, ([1], 0, 0, []), zi0), (32, .iload_n 0, ([0], 0, 0, []), zi0), (33, .if_icmp .ge 7, ([40], 0, 0, []), zi0), (36, .iconst 1, ([], nI 1, 0, []), zi0), (37, .goto 4, ([41], 0, 0, []), zi0), (40, .iconst 0, ([], nI 0, 0, []), zi0), (41, .ireturn, ([], 0, 0, []), zi0)]
set_option maxRecDepth 100000 in
theorem oc_AL_isUnit : cd_AL_isUnit.all (zchk mi_AL_isUnit) = true := by decide +kernel
set_option maxRecDepth 100000 in
theorem ow_AL_isUnit : zWs mi_AL_isUnit cd_AL_isUnit := ⟨trivial, trivial, trivial, trivial, trivial, trivial, trivial, trivial, trivial, trivial, trivial, trivial, trivial, trivial, trivial, trivial, trivial, trivial, trivial, trivial, trivial, trivial, trivial, trivial, trivial, trivial, trivial⟩
theorem ok_AL_isUnit : zgood2 mi_AL_isUnit cd_AL_isUnit := ⟨oc_AL_isUnit, ow_AL_isUnit⟩
def cu_AL_product : List (Nat × List Nat) := []
def cd_AL_product : List ZE := [(0, .iload_n 0, ([0], 0, 0, []), zi0), (1, .ifCond .ne 22, ([23], 0, 0, []), zi0), (4, .iload_n 2, ([2], 0, 0, []), zi0), (5, .iload_n 3, ([3], 0, 0, []), zi0), (6, .iadd, ([], 0, 0, []), zi0), (7, .iload_n 1, ([1], 0, 0, []), zi0), (8, .if_icmp .ge 9, ([17], 0, 0, []), zi0), (11, .iload_n 2, ([2], 0, 0, []), zi0), (12, .iload_n 3, ([3], 0, 0, []), zi0), (13, .iadd, ([], 0, 0, []), zi0), (14, .goto 8, ([22], 0, 0, []), zi0), (17, .iload_n 2, ([2], 0, 0, []), zi0), (18, .iload_n 3, ([3], 0, 0, []), zi0), (19, .iadd, ([], 0, 0, []), zi0), (20, .iload_n 1, ([1], 0, 0, []), zi0), (21, .isub, ([], 0, 0, []), zi0), (22, .ireturn, ([], 0, 0, []), zi0), (23, .iload_n 0, ([0], 0, 0, []), zi0), (24, .iconst 1, ([], nI 1, 0, []), zi0), (25, .if_icmp .ne 7, ([32], 0, 0, []), zi0), (28, .iload_n 2, ([2], 0, 0, []), zi0), (29, .iload_n 3, ([3], 0, 0, []), zi0), (30, .ixor, ([], 0, 0, []), zi0), (31, .ireturn, ([], 0, 0, []), zi0), (32, .iload_n 2, ([2], 0, 0, []), zi0), (33, .iconst 3, ([], nI 3, 0, []), zi0), (34, .if_icmp .ge 13, ([47], 0, 0, []), zi0), (37, .iload_n 2, ([2], 0, 0, []), zi0), (38, .iconst 3, ([], nI 3, 0, []), zi0), (39, .irem, ([], 0, 0, []), zi0), (40, .iload_n 3, ([3], 0, 0, []), zi0), (41, .iconst 3, ([], nI 3, 0, []), zi0), (42, .irem, ([], 0, 0, []), zi0), (43, .iadd, ([], 0, 0, []), zi0), (44, .goto 12, ([56], 0, 0, []), zi0), (47, .iload_n 2, ([2], 0, 0, []), zi0), (48, .iconst 3, ([], nI 3, 0, []), zi0), (49, .irem, ([], 0, 0, []), zi0), (50, .iload_n 3, ([3], 0, 0, []), zi0), (51, .iconst 3, ([], nI 3, 0, []), zi0), (52, .irem, ([], 0, 0, []), zi0), (53, .isub, ([], 0, 0, []), zi0), (54, .iconst 3, ([], nI 3, 0, []), zi0), (55, .iadd, ([], 0, 0, []), zi0), (56, .istore 4, ([], 0, 0, []), zi0), (58, .iload_n 2, ([2], 0, 0, []), zi0), (59, .iconst 3, ([], nI 3, 0, []), zi0), (60, .idiv, ([], 0, 0, []), zi0), (61, .iload_n 3, ([3], 0, 0, []), zi0), (62, .iconst 3, ([], nI 3, 0, []), zi0), (63, .idiv, ([], 0, 0, []), zi0), (64, .iadd, ([], 0, 0, []), zi0), (65, .istore 5, ([], 0, 0, []), zi0), (67, .iload 4, ([], 0, 0, []), zi0), (69, .iconst 3, ([], nI 3, 0, []), zi0), (70, .irem, ([], 0, 0, []), zi0), (71, .iconst 3, ([], nI 3, 0, []), zi0), (72, .iload 5, ([], 0, 0, []), zi0), (74, .iconst 2, ([], nI 2, 0, []), zi0), (75, .irem, ([], 0, 0, []), zi0), (76, .imul, ([], 0, 0, []), zi0), (77, .iadd, ([], 0, 0, []), zi0), (78, .ireturn, ([], 0, 0, []), zi0)]
set_option maxRecDepth 100000 in
theorem oc_AL_product : cd_AL_product.all (zchk mi_AL_product) = true := by decide +kernel
set_option maxRecDepth 100000 in
theorem ow_AL_product : zWs mi_AL_product cd_AL_product := ⟨trivial, trivial, trivial, trivial, trivial, trivial, trivial, trivial, trivial, trivial, trivial, trivial, trivial, trivial, trivial, trivial, trivial, trivial, trivial, trivial, trivial, trivial, trivial, trivial, trivial, trivial, trivial, trivial, trivial, trivial, trivial, trivial, trivial, trivial, trivial, trivial, trivial, trivial, trivial, trivial, trivial, trivial, trivial, trivial, trivial, trivial, trivial, trivial, trivial, trivial, trivial, trivial, trivial, trivial, trivial, trivial, trivial, trivial, trivial, trivial, trivial, trivial, trivial, trivial⟩
theorem ok_AL_product : zgood2 mi_AL_product cd_AL_product := ⟨oc_AL_product, ow_AL_product⟩
def cu_AL_rest : List (Nat × List Nat) := []
def cd_AL_rest : List ZE := [(0, .iload_n 1, ([1], 0, 0, []), zi0), (1, .ifCond .le 9, ([10], 0, 0, []), zi0), (4, .iload_n 0, ([0], 0, 0, []), zi0), (5, .iload_n 1, ([1], 0, 0, []), zi0), (6, .irem, ([], 0, 0, []), zi0), (7, .goto 4, ([11], 0, 0, []), zi0), (10, .iconst 0, ([], nI 0, 0, []), zi0), (11, .ireturn, ([], 0, 0, []), zi0)]
set_option maxRecDepth 100000 in
theorem oc_AL_rest : cd_AL_rest.all (zchk mi_AL_rest) = true := by decide +kernel
set_option maxRecDepth 100000 in
theorem ow_AL_rest : zWs mi_AL_rest cd_AL_rest := ⟨trivial, trivial, trivial, trivial, trivial, trivial, trivial, trivial, trivial⟩
theorem ok_AL_rest : zgood2 mi_AL_rest cd_AL_rest := ⟨oc_AL_rest, ow_AL_rest⟩
def cu_BR_length : List (Nat × List Nat) := []
def cd_BR_length : List ZE := [(0, .aload_n 0, ([0], 0, 0, []), zi0), (1, .getfield 17, ([1, 2, 0, 48], 0, 0, []), zi0), (4, .ireturn, ([], 0, 0, []), zi0)]
set_option maxRecDepth 100000 in
theorem oc_BR_length : cd_BR_length.all (zchk mi_BR_length) = true := by decide +kernel
set_option maxRecDepth 100000 in
theorem ow_BR_length : zWs mi_BR_length cd_BR_length := ⟨trivial, rfl, trivial, trivial⟩
theorem ok_BR_length : zgood2 mi_BR_length cd_BR_length := ⟨oc_BR_length, ow_BR_length⟩
def cu_CH_joined : List (Nat × List Nat) := []
def cd_CH_joined : List ZE := [(0, .iconst 1, ([], nI 1, 0, []), zi0), (1, .iload_n 1, ([1], 0, 0, []), zi0), (2, .ishl, ([], 0, 0, []), zi0), (3, .iconst 1, ([], nI 1, 0, []), zi0), (4, .iload_n 2, ([2], 0, 0, []), zi0), (5, .ishl, ([], 0, 0, []), zi0), (6, .ior, ([], 0, 0, []), zi0), (7, .istore_n 3, ([3], 0, 0, []), zi0), (8, .iload_n 0, ([0], 0, 0, []), zi0), (9, .iload_n 3, ([3], 0, 0, []), zi0), (10, .iand, ([], 0, 0, []), zi0), (11, .ifCond .ne 7, ([18], 0, 0, []), zi0), (14, .iload_n 0, ([0], 0, 0, []), zi0), (15, .goto 6, ([21], 0, 0, []), zi0), (18, .iload_n 0, ([0], 0, 0, []), zi0), (19, .iload_n 3, ([3], 0, 0, []), zi0), (20, .ior, ([], 0, 0, []), zi0), (21, .ireturn, ([], 0, 0, []), zi0)]
set_option maxRecDepth 100000 in
theorem oc_CH_joined : cd_CH_joined.all (zchk mi_CH_joined) = true := by decide +kernel
set_option maxRecDepth 100000 in
theorem ow_CH_joined : zWs mi_CH_joined cd_CH_joined := ⟨trivial, trivial, trivial, trivial, trivial, trivial, trivial, trivial, trivial, trivial, trivial, trivial, trivial, trivial, trivial, trivial, trivial, trivial, trivial⟩
theorem ok_CH_joined : zgood2 mi_CH_joined cd_CH_joined := ⟨oc_CH_joined, ow_CH_joined⟩
def cu_CO_commonMultiple : List (Nat × List Nat) := [(2, [0, 1, 2])]
def cd_CO_commonMultiple : List ZE := [(0, .iconst 1, ([], nI 1, 0, []), zi0), (1, .istore_n 2, ([2], 0, 0, []), zi0), (2, .iload_n 2, ([2], 0, 0, []), zi0), (3, .iload_n 1, ([1], 0, 0, []), zi0), (4, .if_icmp .ge 21, ([25], 0, 0, []), zi0), (7, .iload_n 0, ([0], 0, 0, []), zi0), (8, .iload_n 2, ([2], 0, 0, []), zi0), (9, .imul, ([], 0, 0, []), zi0), (10, .iload_n 1, ([1], 0, 0, []), zi0), (11, .irem, ([], 0, 0, []), zi0), (12, .ifCond .ne 7, ([19], 0, 0, []), zi0), (15, .iload_n 0, ([0], 0, 0, []), zi0), (16, .iload_n 2, ([2], 0, 0, []), zi0), (17, .imul, ([], 0, 0, []), zi0), (18, .ireturn, ([], 0, 0, []), zi0), (19, .iinc 2 1, ([], nI 1, 0, []), zi0), (22, .goto (-20), ([2], 0, 0, []), zi0), (25, .iload_n 0, ([0], 0, 0, []), zi0), (26, .iload_n 1, ([1], 0, 0, []), zi0), (27, .imul, ([], 0, 0, []), zi0), (28, .ireturn, ([], 0, 0, []), zi0)]
set_option maxRecDepth 100000 in
theorem oc_CO_commonMultiple : cd_CO_commonMultiple.all (zchk mi_CO_commonMultiple) = true := by decide +kernel
set_option maxRecDepth 100000 in
theorem ow_CO_commonMultiple : zWs mi_CO_commonMultiple cd_CO_commonMultiple := ⟨trivial, trivial, trivial, trivial, trivial, trivial, trivial, trivial, trivial, trivial, trivial, trivial, trivial, trivial, trivial, trivial, trivial, trivial, trivial, trivial, trivial, trivial⟩
theorem ok_CO_commonMultiple : zgood2 mi_CO_commonMultiple cd_CO_commonMultiple := ⟨oc_CO_commonMultiple, ow_CO_commonMultiple⟩
def cu_CO_digit : List (Nat × List Nat) := []
def cd_CO_digit : List ZE := [(0, .iload_n 0, ([0], 0, 0, []), zi0), (1, .iconst 3, ([], nI 3, 0, []), zi0), (2, .iload_n 1, ([1], 0, 0, []), zi0), (3, .imul, ([], 0, 0, []), zi0), (4, .ishr, ([], 0, 0, []), zi0), (5, .bipush 7, ([], nI 7, 0, []), zi0), (7, .iand, ([], 0, 0, []), zi0), (8, .ireturn, ([], 0, 0, []), zi0)]
set_option maxRecDepth 100000 in
theorem oc_CO_digit : cd_CO_digit.all (zchk mi_CO_digit) = true := by decide +kernel
set_option maxRecDepth 100000 in
theorem ow_CO_digit : zWs mi_CO_digit cd_CO_digit := ⟨trivial, trivial, trivial, trivial, trivial, trivial, trivial, trivial, trivial⟩
theorem ok_CO_digit : zgood2 mi_CO_digit cd_CO_digit := ⟨oc_CO_digit, ow_CO_digit⟩
def cu_CO_pairOf : List (Nat × List Nat) := []
def cd_CO_pairOf : List ZE := [(0, .iload_n 0, ([0], 0, 0, []), zi0), (1, .iconst 3, ([], nI 3, 0, []), zi0), (2, .ishl, ([], 0, 0, []), zi0), (3, .iload_n 1, ([1], 0, 0, []), zi0), (4, .ior, ([], 0, 0, []), zi0), (5, .ireturn, ([], 0, 0, []), zi0)]
set_option maxRecDepth 100000 in
theorem oc_CO_pairOf : cd_CO_pairOf.all (zchk mi_CO_pairOf) = true := by decide +kernel
set_option maxRecDepth 100000 in
theorem ow_CO_pairOf : zWs mi_CO_pairOf cd_CO_pairOf := ⟨trivial, trivial, trivial, trivial, trivial, trivial, trivial⟩
theorem ok_CO_pairOf : zgood2 mi_CO_pairOf cd_CO_pairOf := ⟨oc_CO_pairOf, ow_CO_pairOf⟩
def cu_JA_fill : List (Nat × List Nat) := [(6, [0, 1, 3, 4])]
def cd_JA_fill : List ZE := [(0, .iconst 0, ([], nI 0, 0, []), zi0), (1, .istore_n 3, ([3], 0, 0, []), zi0), (2, .aload_n 0, ([0], 0, 0, []), zi0), (3, .arraylength, ([], 0, 0, []), zi0), (4, .istore 4, ([], 0, 0, []), zi0), (6, .iload_n 3, ([3], 0, 0, []), zi0), (7, .iload 4, ([], 0, 0, []), zi0), (9, .if_icmp .ge 13, ([22], 0, 0, []), zi0), (12, .aload_n 0, ([0], 0, 0, []), zi0), (13, .iload_n 3, ([3], 0, 0, []), zi0), (14, .lload_n 1, ([1], 0, 0, []), zi0), (15, .lastore, ([], 0, 0, []), zi0), (16, .iinc 3 1, ([], nI 1, 0, []), zi0), (19, .goto (-13), ([6], 0, 0, []), zi0), (22, .return_, ([], 0, 0, []), zi0)]
set_option maxRecDepth 100000 in
theorem oc_JA_fill : cd_JA_fill.all (zchk mi_JA_fill) = true := by decide +kernel
set_option maxRecDepth 100000 in
theorem ow_JA_fill : zWs mi_JA_fill cd_JA_fill := ⟨trivial, trivial, trivial, trivial, trivial, trivial, trivial, trivial, trivial, trivial, trivial, trivial, trivial, trivial, trivial, trivial⟩
theorem ok_JA_fill : zgood2 mi_JA_fill cd_JA_fill := ⟨oc_JA_fill, ow_JA_fill⟩
def cu_JL_bitCount : List (Nat × List Nat) := []
def cd_JL_bitCount : List ZE := [(0, .lload_n 0, ([0], 0, 0, []), zi0), (1, .lload_n 0, ([0], 0, 0, []), zi0), (2, .iconst 1, ([], nI 1, 0, []), zi0), (3, .lushr, ([], 0, 0, []), zi0), (4, .ldc2_w 314, ([1, 109], 0, lN 6148914691236517205, []), zi0), (7, .land, ([], 0, 0, []), zi0), (8, .lsub, ([], 0, 0, []), zi0), (9, .lstore_n 0, ([0], 0, 0, []), zi0), (10, .lload_n 0, ([0], 0, 0, []), zi0), (11, .ldc2_w 316, ([1, 110], 0, lN 3689348814741910323, []), zi0), (14, .land, ([], 0, 0, []), zi0), (15, .lload_n 0, ([0], 0, 0, []), zi0), (16, .iconst 2, ([], nI 2, 0, []), zi0), (17, .lushr, ([], 0, 0, []), zi0), (18, .ldc2_w 316, ([1, 110], 0, lN 3689348814741910323, []), zi0), (21, .land, ([], 0, 0, []), zi0), (22, .ladd, ([], 0, 0, []), zi0), (23, .lstore_n 0, ([0], 0, 0, []), zi0), (24, .lload_n 0, ([0], 0, 0, []), zi0), (25, .lload_n 0, ([0], 0, 0, []), zi0), (26, .iconst 4, ([], nI 4, 0, []), zi0), (27, .lushr, ([], 0, 0, []), zi0), (28, .ladd, ([], 0, 0, []), zi0), (29, .ldc2_w 318, ([1, 111], 0, lN 1085102592571150095, []), zi0), (32, .land, ([], 0, 0, []), zi0), (33, .lstore_n 0, ([0], 0, 0, []), zi0), (34, .lload_n 0, ([0], 0, 0, []), zi0), (35, .lload_n 0, ([0], 0, 0, []), zi0), (36, .bipush 8, ([], nI 8, 0, []), zi0), (38, .lushr, ([], 0, 0, []), zi0), (39, .ladd, ([], 0, 0, []), zi0), (40, .lstore_n 0, ([0], 0, 0, []), zi0), (41, .lload_n 0, ([0], 0, 0, []), zi0), (42, .lload_n 0, ([0], 0, 0, []), zi0), (43, .bipush 16, ([], nI 16, 0, []), zi0), (45, .lushr, ([], 0, 0, []), zi0), (46, .ladd, ([], 0, 0, []), zi0), (47, .lstore_n 0, ([0], 0, 0, []), zi0), (48, .lload_n 0, ([0], 0, 0, []), zi0), (49, .lload_n 0, ([0], 0, 0, []), zi0), (50, .bipush 32, ([], nI 32, 0, []), zi0), (52, .lushr, ([], 0, 0, []), zi0), (53, .ladd, ([], 0, 0, []), zi0), (54, .lstore_n 0, ([0], 0, 0, []), zi0), (55, .lload_n 0, ([0], 0, 0, []), zi0), (56, .l2i, ([], 0, 0, []), zi0), (57, .bipush 127, ([], nI 127, 0, []), zi0), (59, .iand, ([], 0, 0, []), zi0), (60, .ireturn, ([], 0, 0, []), zi0)]
set_option maxRecDepth 100000 in
theorem oc_JL_bitCount : cd_JL_bitCount.all (zchk mi_JL_bitCount) = true := by decide +kernel
set_option maxRecDepth 100000 in
theorem ow_JL_bitCount : zWs mi_JL_bitCount cd_JL_bitCount := ⟨trivial, trivial, trivial, trivial, rfl, trivial, trivial, trivial, trivial, rfl, trivial, trivial, trivial, trivial, rfl, trivial, trivial, trivial, trivial, trivial, trivial, trivial, trivial, rfl, trivial, trivial, trivial, trivial, trivial, trivial, trivial, trivial, trivial, trivial, trivial, trivial, trivial, trivial, trivial, trivial, trivial, trivial, trivial, trivial, trivial, trivial, trivial, trivial, trivial, trivial⟩
theorem ok_JL_bitCount : zgood2 mi_JL_bitCount cd_JL_bitCount := ⟨oc_JL_bitCount, ow_JL_bitCount⟩
def cu_PM_copy : List (Nat × List Nat) := [(10, [0, 1, 2])]
def cd_PM_copy : List ZE := [(0, .aload_n 0, ([0], 0, 0, []), zi0), (1, .aload_n 1, ([1], 0, 0, []), zi0), (2, .getfield 13, ([0, 1, 0, 34], 0, 0, []), zi0), (5, .putfield 13, ([0, 1, 0, 34], 0, 0, []), zi0), (8, .iconst 0, ([], nI 0, 0, []), zi0), (9, .istore_n 2, ([2], 0, 0, []), zi0), (10, .iload_n 2, ([2], 0, 0, []), zi0), (11, .bipush 63, ([], nI 63, 0, []), zi0), (13, .if_icmp .gt 21, ([34], 0, 0, []), zi0), (16, .aload_n 0, ([0], 0, 0, []), zi0), (17, .getfield 9, ([0, 0, 0, 33], 0, 0, []), zi0), (20, .iload_n 2, ([2], 0, 0, []), zi0), (21, .aload_n 1, ([1], 0, 0, []), zi0), (22, .getfield 9, ([0, 0, 0, 33], 0, 0, []), zi0), (25, .iload_n 2, ([2], 0, 0, []), zi0), (26, .iaload, ([], 0, 0, []), zi0), (27, .iastore, ([], 0, 0, []), zi0), (28, .iinc 2 1, ([], nI 1, 0, []), zi0), (31, .goto (-21), ([10], 0, 0, []), zi0), (34, .return_, ([], 0, 0, []), zi0)]
set_option maxRecDepth 100000 in
theorem oc_PM_copy : cd_PM_copy.all (zchk mi_PM_copy) = true := by decide +kernel
set_option maxRecDepth 100000 in
theorem ow_PM_copy : zWs mi_PM_copy cd_PM_copy := ⟨trivial, trivial, rfl, ⟨rfl, rfl⟩, trivial, trivial, trivial, trivial, trivial, trivial, rfl, trivial, trivial, rfl, trivial, trivial, trivial, trivial, trivial, trivial, trivial⟩
theorem ok_PM_copy : zgood2 mi_PM_copy cd_PM_copy := ⟨oc_PM_copy, ow_PM_copy⟩
def cu_PM_hasPoint : List (Nat × List Nat) := []
def cd_PM_hasPoint : List ZE := [(0, .iload_n 1, ([1], 0, 0, []), zi0), (1, .ifCond .lt 15, ([16], 0, 0, []), zi0), (4, .iload_n 1, ([1], 0, 0, []), zi0), (5, .aload_n 0, ([0], 0, 0, []), zi0), (6, .getfield 13, ([0, 1, 0, 34], 0, 0, []), zi0), (9, .if_icmp .ge 7, ([16], 0, 0, []), zi0), (12, .iconst 1, ([], nI 1, 0, []), zi0), (13, .goto 4, ([17], 0, 0, []), zi0), (16, .iconst 0, ([], nI 0, 0, []), zi0), (17, .ireturn, ([], 0, 0, []), zi0)]
set_option maxRecDepth 100000 in
theorem oc_PM_hasPoint : cd_PM_hasPoint.all (zchk mi_PM_hasPoint) = true := by decide +kernel
set_option maxRecDepth 100000 in
theorem ow_PM_hasPoint : zWs mi_PM_hasPoint cd_PM_hasPoint := ⟨trivial, trivial, trivial, trivial, rfl, trivial, trivial, trivial, trivial, trivial, trivial⟩
theorem ok_PM_hasPoint : zgood2 mi_PM_hasPoint cd_PM_hasPoint := ⟨oc_PM_hasPoint, ow_PM_hasPoint⟩
def cu_PM_imageOf : List (Nat × List Nat) := []
def cd_PM_imageOf : List ZE := [(0, .aload_n 0, ([0], 0, 0, []), zi0), (1, .getfield 9, ([0, 0, 0, 33], 0, 0, []), zi0), (4, .iload_n 1, ([1], 0, 0, []), zi0), (5, .bipush 63, ([], nI 63, 0, []), zi0), (7, .iand, ([], 0, 0, []), zi0), (8, .iaload, ([], 0, 0, []), zi0), (9, .ireturn, ([], 0, 0, []), zi0)]
set_option maxRecDepth 100000 in
theorem oc_PM_imageOf : cd_PM_imageOf.all (zchk mi_PM_imageOf) = true := by decide +kernel
set_option maxRecDepth 100000 in
theorem ow_PM_imageOf : zWs mi_PM_imageOf cd_PM_imageOf := ⟨trivial, rfl, trivial, trivial, trivial, trivial, trivial, trivial⟩
theorem ok_PM_imageOf : zgood2 mi_PM_imageOf cd_PM_imageOf := ⟨oc_PM_imageOf, ow_PM_imageOf⟩
def cu_PM_isEmpty : List (Nat × List Nat) := []
def cd_PM_isEmpty : List ZE := [(0, .aload_n 0, ([0], 0, 0, []), zi0), (1, .getfield 13, ([0, 1, 0, 34], 0, 0, []), zi0), (4, .ifCond .ne 7, ([11], 0, 0, []), zi0), (7, .iconst 1, ([], nI 1, 0, []), zi0), (8, .goto 4, ([12], 0, 0, []), zi0), (11, .iconst 0, ([], nI 0, 0, []), zi0), (12, .ireturn, ([], 0, 0, []), zi0)]
set_option maxRecDepth 100000 in
theorem oc_PM_isEmpty : cd_PM_isEmpty.all (zchk mi_PM_isEmpty) = true := by decide +kernel
set_option maxRecDepth 100000 in
theorem ow_PM_isEmpty : zWs mi_PM_isEmpty cd_PM_isEmpty := ⟨trivial, rfl, trivial, trivial, trivial, trivial, trivial, trivial⟩
theorem ok_PM_isEmpty : zgood2 mi_PM_isEmpty cd_PM_isEmpty := ⟨oc_PM_isEmpty, ow_PM_isEmpty⟩
def cu_PM_points : List (Nat × List Nat) := []
def cd_PM_points : List ZE := [(0, .aload_n 0, ([0], 0, 0, []), zi0), (1, .getfield 13, ([0, 1, 0, 34], 0, 0, []), zi0), (4, .ireturn, ([], 0, 0, []), zi0)]
set_option maxRecDepth 100000 in
theorem oc_PM_points : cd_PM_points.all (zchk mi_PM_points) = true := by decide +kernel
set_option maxRecDepth 100000 in
theorem ow_PM_points : zWs mi_PM_points cd_PM_points := ⟨trivial, rfl, trivial, trivial⟩
theorem ok_PM_points : zgood2 mi_PM_points cd_PM_points := ⟨oc_PM_points, ow_PM_points⟩
def cu_PM_resize : List (Nat × List Nat) := []
def cd_PM_resize : List ZE := [(0, .aload_n 0, ([0], 0, 0, []), zi0), (1, .iload_n 1, ([1], 0, 0, []), zi0), (2, .putfield 13, ([0, 1, 0, 34], 0, 0, []), zi0), (5, .return_, ([], 0, 0, []), zi0)]
set_option maxRecDepth 100000 in
theorem oc_PM_resize : cd_PM_resize.all (zchk mi_PM_resize) = true := by decide +kernel
set_option maxRecDepth 100000 in
theorem ow_PM_resize : zWs mi_PM_resize cd_PM_resize := ⟨trivial, trivial, ⟨rfl, rfl⟩, trivial, trivial⟩
theorem ok_PM_resize : zgood2 mi_PM_resize cd_PM_resize := ⟨oc_PM_resize, ow_PM_resize⟩
def cu_RG_add : List (Nat × List Nat) := []
def cd_RG_add : List ZE := [(0, .iload_n 1, ([1], 0, 0, []), zi0), (1, .sipush 32767, ([], nI 32767, 0, []), zi0), (4, .iand, ([], 0, 0, []), zi0), (5, .istore_n 2, ([2], 0, 0, []), zi0), (6, .iload_n 2, ([2], 0, 0, []), zi0), (7, .bipush 6, ([], nI 6, 0, []), zi0), (9, .ishr, ([], 0, 0, []), zi0), (10, .sipush 511, ([], nI 511, 0, []), zi0), (13, .iand, ([], 0, 0, []), zi0), (14, .istore_n 3, ([3], 0, 0, []), zi0), (15, .lconst 1, ([], 0, lN 1, []), zi0), (16, .iload_n 2, ([2], 0, 0, []), zi0), (17, .lshl, ([], 0, 0, []), zi0), (18, .lstore 4, ([], 0, 0, []), zi0), (20, .aload_n 0, ([0], 0, 0, []), zi0), (21, .getfield 15, ([5, 1, 0, 98], 0, 0, []), zi0), (24, .iload_n 3, ([3], 0, 0, []), zi0), (25, .laload, ([], 0, 0, []), zi0), (26, .lload 4, ([], 0, 0, []), zi0), (28, .land, ([], 0, 0, []), zi0), (29, .lconst 0, ([], 0, lN 0, []), zi0), (30, .lcmp, ([], 0, 0, []), zi0), (31, .ifCond .ne 51, ([82], 0, 0, []), zi0), (34, .aload_n 0, ([0], 0, 0, []), zi0), (35, .getfield 19, ([5, 2, 0, 99], 0, 0, []), zi0), (38, .ifCond .lt 44, ([82], 0, 0, []), zi0), (41, .aload_n 0, ([0], 0, 0, []), zi0), (42, .getfield 19, ([5, 2, 0, 99], 0, 0, []), zi0), (45, .sipush 720, ([], nI 720, 0, []), zi0), (48, .if_icmp .ge 34, ([82], 0, 0, []), zi0), (51, .aload_n 0, ([0], 0, 0, []), zi0), (52, .getfield 15, ([5, 1, 0, 98], 0, 0, []), zi0), (55, .iload_n 3, ([3], 0, 0, []), zi0), (56, .dup2, ([], 0, 0, []), zi0), (57, .laload, ([], 0, 0, []), zi0), (58, .lload 4, ([], 0, 0, []), zi0), (60, .lor, ([], 0, 0, []), zi0), (61, .lastore, ([], 0, 0, []), zi0), (62, .aload_n 0, ([0], 0, 0, []), zi0), (63, .getfield 11, ([5, 0, 0, 97], 0, 0, []), zi0), (66, .aload_n 0, ([0], 0, 0, []), zi0), (67, .getfield 19, ([5, 2, 0, 99], 0, 0, []), zi0), (70, .iload_n 1, ([1], 0, 0, []), zi0), (71, .iastore, ([], 0, 0, []), zi0), (72, .aload_n 0, ([0], 0, 0, []), zi0), (73, .dup, ([], 0, 0, []), zi0), (74, .getfield 19, ([5, 2, 0, 99], 0, 0, []), zi0), (77, .iconst 1, ([], nI 1, 0, []), zi0), (78, .iadd, ([], 0, 0, []), zi0), (79, .putfield 19, ([5, 2, 0, 99], 0, 0, []), zi0), (82, .return_, ([], 0, 0, []), zi0)]
set_option maxRecDepth 100000 in
theorem oc_RG_add : cd_RG_add.all (zchk mi_RG_add) = true := by decide +kernel
set_option maxRecDepth 100000 in
theorem ow_RG_add : zWs mi_RG_add cd_RG_add := ⟨trivial, trivial, trivial, trivial, trivial, trivial, trivial, trivial, trivial, trivial, trivial, trivial, trivial, trivial, trivial, rfl, trivial, trivial, trivial, trivial, trivial, trivial, trivial, trivial, rfl, trivial, trivial, rfl, trivial, trivial, trivial, rfl, trivial, trivial, trivial, trivial, trivial, trivial, trivial, rfl, trivial, rfl, trivial, trivial, trivial, trivial, rfl, trivial, trivial, ⟨rfl, rfl⟩, trivial, trivial⟩
theorem ok_RG_add : zgood2 mi_RG_add cd_RG_add := ⟨oc_RG_add, ow_RG_add⟩
def cu_RN_imageOf : List (Nat × List Nat) := []
def cd_RN_imageOf : List ZE := [(0, .aload_n 0, ([0], 0, 0, []), zi0), (1, .getfield 11, ([4, 0, 0, 87], 0, 0, []), zi0), (4, .iload_n 1, ([1], 0, 0, []), zi0), (5, .bipush 7, ([], nI 7, 0, []), zi0), (7, .iand, ([], 0, 0, []), zi0), (8, .iaload, ([], 0, 0, []), zi0), (9, .ireturn, ([], 0, 0, []), zi0)]
set_option maxRecDepth 100000 in
theorem oc_RN_imageOf : cd_RN_imageOf.all (zchk mi_RN_imageOf) = true := by decide +kernel
set_option maxRecDepth 100000 in
theorem ow_RN_imageOf : zWs mi_RN_imageOf cd_RN_imageOf := ⟨trivial, rfl, trivial, trivial, trivial, trivial, trivial, trivial⟩
theorem ok_RN_imageOf : zgood2 mi_RN_imageOf cd_RN_imageOf := ⟨oc_RN_imageOf, ow_RN_imageOf⟩
def cu_RN_permutations : List (Nat × List Nat) := [(4, [0, 1, 2])]
def cd_RN_permutations : List ZE := [(0, .iconst 1, ([], nI 1, 0, []), zi0), (1, .istore_n 1, ([1], 0, 0, []), zi0), (2, .iconst 2, ([], nI 2, 0, []), zi0), (3, .istore_n 2, ([2], 0, 0, []), zi0), (4, .iload_n 2, ([2], 0, 0, []), zi0), (5, .iload_n 0, ([0], 0, 0, []), zi0), (6, .if_icmp .gt 13, ([19], 0, 0, []), zi0), (9, .iload_n 1, ([1], 0, 0, []), zi0), (10, .iload_n 2, ([2], 0, 0, []), zi0), (11, .imul, ([], 0, 0, []), zi0), (12, .istore_n 1, ([1], 0, 0, []), zi0), (13, .iinc 2 1, ([], nI 1, 0, []), zi0), (16, .goto (-12), ([4], 0, 0, []), zi0), (19, .iload_n 1, ([1], 0, 0, []), zi0), (20, .ireturn, ([], 0, 0, []), zi0)]
set_option maxRecDepth 100000 in
theorem oc_RN_permutations : cd_RN_permutations.all (zchk mi_RN_permutations) = true := by decide +kernel
set_option maxRecDepth 100000 in
theorem ow_RN_permutations : zWs mi_RN_permutations cd_RN_permutations := ⟨trivial, trivial, trivial, trivial, trivial, trivial, trivial, trivial, trivial, trivial, trivial, trivial, trivial, trivial, trivial, trivial⟩
theorem ok_RN_permutations : zgood2 mi_RN_permutations cd_RN_permutations := ⟨oc_RN_permutations, ow_RN_permutations⟩
def cu_RN_start : List (Nat × List Nat) := [(2, [0, 1])]
def cd_RN_start : List ZE := [(0, .iconst 0, ([], nI 0, 0, []), zi0), (1, .istore_n 1, ([1], 0, 0, []), zi0), (2, .iload_n 1, ([1], 0, 0, []), zi0), (3, .bipush 7, ([], nI 7, 0, []), zi0), (5, .if_icmp .gt 16, ([21], 0, 0, []), zi0), (8, .aload_n 0, ([0], 0, 0, []), zi0), (9, .getfield 11, ([4, 0, 0, 87], 0, 0, []), zi0), (12, .iload_n 1, ([1], 0, 0, []), zi0), (13, .iload_n 1, ([1], 0, 0, []), zi0), (14, .iastore, ([], 0, 0, []), zi0), (15, .iinc 1 1, ([], nI 1, 0, []), zi0), (18, .goto (-16), ([2], 0, 0, []), zi0), (21, .return_, ([], 0, 0, []), zi0)]
set_option maxRecDepth 100000 in
theorem oc_RN_start : cd_RN_start.all (zchk mi_RN_start) = true := by decide +kernel
set_option maxRecDepth 100000 in
theorem ow_RN_start : zWs mi_RN_start cd_RN_start := ⟨trivial, trivial, trivial, trivial, trivial, trivial, rfl, trivial, trivial, trivial, trivial, trivial, trivial, trivial⟩
theorem ok_RN_start : zgood2 mi_RN_start cd_RN_start := ⟨oc_RN_start, ow_RN_start⟩
def cu_SL_hasPoints : List (Nat × List Nat) := []
def cd_SL_hasPoints : List ZE := [(0, .iload_n 0, ([0], 0, 0, []), zi0), (1, .iconst 1, ([], nI 1, 0, []), zi0), (2, .if_icmp .lt 12, ([14], 0, 0, []), zi0), (5, .iload_n 0, ([0], 0, 0, []), zi0), (6, .iconst 4, ([], nI 4, 0, []), zi0), (7, .if_icmp .gt 7, ([14], 0, 0, []), zi0), (10, .iconst 1, ([], nI 1, 0, []), zi0), (11, .goto 4, ([15], 0, 0, []), zi0), (14, .iconst 0, ([], nI 0, 0, []), zi0), (15, .ireturn, ([], 0, 0, []), zi0)]
set_option maxRecDepth 100000 in
theorem oc_SL_hasPoints : cd_SL_hasPoints.all (zchk mi_SL_hasPoints) = true := by decide +kernel
set_option maxRecDepth 100000 in
theorem ow_SL_hasPoints : zWs mi_SL_hasPoints cd_SL_hasPoints := ⟨trivial, trivial, trivial, trivial, trivial, trivial, trivial, trivial, trivial, trivial, trivial⟩
theorem ok_SL_hasPoints : zgood2 mi_SL_hasPoints cd_SL_hasPoints := ⟨oc_SL_hasPoints, ow_SL_hasPoints⟩
def cu_SL_shiftOf : List (Nat × List Nat) := []
def cd_SL_shiftOf : List ZE := [(0, .iconst 4, ([], nI 4, 0, []), zi0), (1, .iload_n 1, ([1], 0, 0, []), zi0), (2, .iload_n 1, ([1], 0, 0, []), zi0), (3, .imul, ([], 0, 0, []), zi0), (4, .iconst 1, ([], nI 1, 0, []), zi0), (5, .isub, ([], 0, 0, []), zi0), (6, .iload_n 0, ([0], 0, 0, []), zi0), (7, .isub, ([], 0, 0, []), zi0), (8, .imul, ([], 0, 0, []), zi0), (9, .ireturn, ([], 0, 0, []), zi0)]
set_option maxRecDepth 100000 in
theorem oc_SL_shiftOf : cd_SL_shiftOf.all (zchk mi_SL_shiftOf) = true := by decide +kernel
set_option maxRecDepth 100000 in
theorem ow_SL_shiftOf : zWs mi_SL_shiftOf cd_SL_shiftOf := ⟨trivial, trivial, trivial, trivial, trivial, trivial, trivial, trivial, trivial, trivial, trivial⟩
theorem ok_SL_shiftOf : zgood2 mi_SL_shiftOf cd_SL_shiftOf := ⟨oc_SL_shiftOf, ow_SL_shiftOf⟩
def cu_SL_start : List (Nat × List Nat) := []
def cd_SL_start : List ZE := [(0, .iload_n 0, ([0], 0, 0, []), zi0), (1, .tableswitch 40 1 4 #[31, 33, 35, 37], ([41, 31], 0, 0, [(nI 1, 32), (nI 2, 34), (nI 3, 36), (nI 4, 38)]), zi0), (32, .iconst 0, ([], nI 0, 0, []), zi0), (33, .ireturn, ([], 0, 0, []), zi0), (34, .iconst 1, ([], nI 1, 0, []), zi0), (35, .ireturn, ([], 0, 0, []), zi0), (36, .iconst 3, ([], nI 3, 0, []), zi0), (37, .ireturn, ([], 0, 0, []), zi0), (38, .bipush 8, ([], nI 8, 0, []), zi0), (40, .ireturn, ([], 0, 0, []), zi0), (41, .bipush 31, ([], nI 31, 0, []), zi0), (43, .ireturn, ([], 0, 0, []), zi0)]
set_option maxRecDepth 100000 in
theorem oc_SL_start : cd_SL_start.all (zchk mi_SL_start) = true := by decide +kernel
set_option maxRecDepth 100000 in
theorem ow_SL_start : zWs mi_SL_start cd_SL_start := ⟨trivial, trivial, trivial, trivial, trivial, trivial, trivial, trivial, trivial, trivial, trivial, trivial, trivial⟩
theorem ok_SL_start : zgood2 mi_SL_start cd_SL_start := ⟨oc_SL_start, ow_SL_start⟩
def cu_T_isWithin : List (Nat × List Nat) := []
def cd_T_isWithin : List ZE := [(0, .iload_n 0, ([0], 0, 0, []), zi0), (1, .iload_n 1, ([1], 0, 0, []), zi0), (2, .if_icmp .lt 12, ([14], 0, 0, []), zi0), (5, .iload_n 0, ([0], 0, 0, []), zi0), (6, .iload_n 2, ([2], 0, 0, []), zi0), (7, .if_icmp .gt 7, ([14], 0, 0, []), zi0), (10, .iconst 1, ([], nI 1, 0, []), zi0), (11, .goto 4, ([15], 0, 0, []), zi0), (14, .iconst 0, ([], nI 0, 0, []), zi0), (15, .ireturn, ([], 0, 0, []), zi0)]
set_option maxRecDepth 100000 in
theorem oc_T_isWithin : cd_T_isWithin.all (zchk mi_T_isWithin) = true := by decide +kernel
set_option maxRecDepth 100000 in
theorem ow_T_isWithin : zWs mi_T_isWithin cd_T_isWithin := ⟨trivial, trivial, trivial, trivial, trivial, trivial, trivial, trivial, trivial, trivial, trivial⟩
theorem ok_T_isWithin : zgood2 mi_T_isWithin cd_T_isWithin := ⟨oc_T_isWithin, ow_T_isWithin⟩
def cu_T_oneIf : List (Nat × List Nat) := []
def cd_T_oneIf : List ZE := [(0, .iload_n 0, ([0], 0, 0, []), zi0), (1, .ifCond .eq 7, ([8], 0, 0, []), zi0), (4, .iconst 1, ([], nI 1, 0, []), zi0), (5, .goto 4, ([9], 0, 0, []), zi0), (8, .iconst 0, ([], nI 0, 0, []), zi0), (9, .ireturn, ([], 0, 0, []), zi0)]
set_option maxRecDepth 100000 in
theorem oc_T_oneIf : cd_T_oneIf.all (zchk mi_T_oneIf) = true := by decide +kernel
set_option maxRecDepth 100000 in
theorem ow_T_oneIf : zWs mi_T_oneIf cd_T_oneIf := ⟨trivial, trivial, trivial, trivial, trivial, trivial, trivial⟩
theorem ok_T_oneIf : zgood2 mi_T_oneIf cd_T_oneIf := ⟨oc_T_oneIf, ow_T_oneIf⟩
def cu_AL_inverse : List (Nat × List Nat) := [(2, [0, 1, 2, 3])]
def cd_AL_inverse : List ZE := [(0, .iconst 0, ([], nI 0, 0, []), zi0), (1, .istore_n 3, ([3], 0, 0, []), zi0), (2, .iload_n 3, ([3], 0, 0, []), zi0), (3, .iload_n 1, ([1], 0, 0, []), zi0), (4, .if_icmp .ge 21, ([25], 0, 0, []), zi0), (7, .iload_n 0, ([0], 0, 0, []), zi0), (8, .iload_n 1, ([1], 0, 0, []), zi0), (9, .iload_n 2, ([2], 0, 0, []), zi0), (10, .iload_n 3, ([3], 0, 0, []), zi0), (11, .invokestatic 21, ([0, 1, 2], 0, 0, []), mi_AL_product), (14, .ifCond .ne 5, ([19], 0, 0, []), zi0), (17, .iload_n 3, ([3], 0, 0, []), zi0), (18, .ireturn, ([], 0, 0, []), zi0), (19, .iinc 3 1, ([], nI 1, 0, []), zi0), (22, .goto (-20), ([2], 0, 0, []), zi0), (25, .iconst 0, ([], nI 0, 0, []), zi0), (26, .ireturn, ([], 0, 0, []), zi0)]
set_option maxRecDepth 100000 in
theorem oc_AL_inverse : cd_AL_inverse.all (zchk mi_AL_inverse) = true := by decide +kernel
set_option maxRecDepth 100000 in
theorem ow_AL_inverse : zWs mi_AL_inverse cd_AL_inverse := ⟨trivial, trivial, trivial, trivial, trivial, trivial, trivial, trivial, trivial, ⟨rfl, ms_AL_product⟩, trivial, trivial, trivial, trivial, trivial, trivial, trivial, trivial⟩
theorem ok_AL_inverse : zgood2 mi_AL_inverse cd_AL_inverse := ⟨oc_AL_inverse, ow_AL_inverse⟩
def cu_AL_isBrace : List (Nat × List Nat) := [(2, [0, 1, 2]), (9, [0, 1, 2, 3])]
def cd_AL_isBrace : List ZE := [(0, .iconst 0, ([], nI 0, 0, []), zi0), (1, .istore_n 2, ([2], 0, 0, []), zi0), (2, .iload_n 2, ([2], 0, 0, []), zi0), (3, .iload_n 0, ([0], 0, 0, []), zi0), (4, .if_icmp .ge 63, ([67], 0, 0, []), zi0), (7, .iconst 0, ([], nI 0, 0, []), zi0), (8, .istore_n 3, ([3], 0, 0, []), zi0), (9, .iload_n 3, ([3], 0, 0, []), zi0), (10, .iload_n 0, ([0], 0, 0, []), zi0), (11, .if_icmp .ge 50, ([61], 0, 0, []), zi0), (14, .iload_n 1, ([1], 0, 0, []), zi0), (15, .iload_n 2, ([2], 0, 0, []), zi0), (16, .iload_n 1, ([1], 0, 0, []), zi0), (17, .iload_n 2, ([2], 0, 0, []), zi0), (18, .invokestatic 29, ([0, 1, 13], 0, 0, []), mi_CO_digit), (21, .iload_n 3, ([3], 0, 0, []), zi0), (22, .imul, ([], 0, 0, []), zi0), (23, .iadd, ([], 0, 0, []), zi0), (24, .iload_n 0, ([0], 0, 0, []), zi0), (25, .invokestatic 43, ([0, 1, 21], 0, 0, []), mi_AL_rest), (28, .invokestatic 29, ([0, 1, 13], 0, 0, []), mi_CO_digit), (31, .istore 4, ([], 0, 0, []), zi0), (33, .iload 4, ([], 0, 0, []), zi0), (35, .iload_n 1, ([1], 0, 0, []), zi0), (36, .iload_n 2, ([2], 0, 0, []), zi0), (37, .invokestatic 29, ([0, 1, 13], 0, 0, []), mi_CO_digit), (40, .iload_n 1, ([1], 0, 0, []), zi0), (41, .iload_n 3, ([3], 0, 0, []), zi0), (42, .invokestatic 29, ([0, 1, 13], 0, 0, []), mi_CO_digit), (45, .imul, ([], 0, 0, []), zi0), (46, .iload_n 0, ([0], 0, 0, []), zi0), (47, .invokestatic 43, ([0, 1, 21], 0, 0, []), mi_AL_rest), (50, .if_icmp .eq 5, ([55], 0, 0, []), zi0), (53, .iconst 0, ([], nI 0, 0, []), zi0), (54, .ireturn, ([], 0, 0, []), zi0), (55, .iinc 3 1, ([], nI 1, 0, []), zi0), (58, .goto (-49), ([9], 0, 0, []), zi0), (61, .iinc 2 1, ([], nI 1, 0, []), zi0), (64, .goto (-62), ([2], 0, 0, []), zi0), (67, .iconst 1, ([], nI 1, 0, []), zi0), (68, .ireturn, ([], 0, 0, []), zi0)]
set_option maxRecDepth 100000 in
theorem oc_AL_isBrace : cd_AL_isBrace.all (zchk mi_AL_isBrace) = true := by decide +kernel
set_option maxRecDepth 100000 in
theorem ow_AL_isBrace : zWs mi_AL_isBrace cd_AL_isBrace := ⟨trivial, trivial, trivial, trivial, trivial, trivial, trivial, trivial, trivial, trivial, trivial, trivial, trivial, trivial, ⟨rfl, ms_CO_digit⟩, trivial, trivial, trivial, trivial, ⟨rfl, ms_AL_rest⟩, ⟨rfl, ms_CO_digit⟩, trivial, trivial, trivial, trivial, ⟨rfl, ms_CO_digit⟩, trivial, trivial, ⟨rfl, ms_CO_digit⟩, trivial, trivial, ⟨rfl, ms_AL_rest⟩, trivial, trivial, trivial, trivial, trivial, trivial, trivial, trivial, trivial, trivial⟩
theorem ok_AL_isBrace : zgood2 mi_AL_isBrace cd_AL_isBrace := ⟨oc_AL_isBrace, ow_AL_isBrace⟩
def cu_AL_quotient : List (Nat × List Nat) := [(2, [0, 1, 2, 3])]
def cd_AL_quotient : List ZE := [(0, .iconst 0, ([], nI 0, 0, []), zi0), (1, .istore_n 3, ([3], 0, 0, []), zi0), (2, .iload_n 3, ([3], 0, 0, []), zi0), (3, .iload_n 0, ([0], 0, 0, []), zi0), (4, .if_icmp .ge 22, ([26], 0, 0, []), zi0), (7, .iload_n 2, ([2], 0, 0, []), zi0), (8, .iload_n 3, ([3], 0, 0, []), zi0), (9, .imul, ([], 0, 0, []), zi0), (10, .iload_n 0, ([0], 0, 0, []), zi0), (11, .invokestatic 43, ([0, 1, 21], 0, 0, []), mi_AL_rest), (14, .iload_n 1, ([1], 0, 0, []), zi0), (15, .if_icmp .ne 5, ([20], 0, 0, []), zi0), (18, .iload_n 3, ([3], 0, 0, []), zi0), (19, .ireturn, ([], 0, 0, []), zi0), (20, .iinc 3 1, ([], nI 1, 0, []), zi0), (23, .goto (-21), ([2], 0, 0, []), zi0), (26, .iconst 0, ([], nI 0, 0, []), zi0), (27, .ireturn, ([], 0, 0, []), zi0)]
set_option maxRecDepth 100000 in
theorem oc_AL_quotient : cd_AL_quotient.all (zchk mi_AL_quotient) = true := by decide +kernel
set_option maxRecDepth 100000 in
theorem ow_AL_quotient : zWs mi_AL_quotient cd_AL_quotient := ⟨trivial, trivial, trivial, trivial, trivial, trivial, trivial, trivial, trivial, ⟨rfl, ms_AL_rest⟩, trivial, trivial, trivial, trivial, trivial, trivial, trivial, trivial, trivial⟩
theorem ok_AL_quotient : zgood2 mi_AL_quotient cd_AL_quotient := ⟨oc_AL_quotient, ow_AL_quotient⟩
def cu_CH_cycleLength : List (Nat × List Nat) := [(19, [0, 1, 2, 3, 4])]
def cd_CH_cycleLength : List ZE := [(0, .aload_n 0, ([0], 0, 0, []), zi0), (1, .invokevirtual 9, ([0, 1, 86], 0, 0, []), mi_PM_points), (4, .aload_n 0, ([0], 0, 0, []), zi0), (5, .invokevirtual 9, ([0, 1, 86], 0, 0, []), mi_PM_points), (8, .imul, ([], 0, 0, []), zi0), (9, .istore_n 2, ([2], 0, 0, []), zi0), (10, .aload_n 0, ([0], 0, 0, []), zi0), (11, .iload_n 1, ([1], 0, 0, []), zi0), (12, .invokevirtual 21, ([0, 1, 105], 0, 0, []), mi_PM_imageOf), (15, .istore_n 3, ([3], 0, 0, []), zi0), (16, .iconst 1, ([], nI 1, 0, []), zi0), (17, .istore 4, ([], 0, 0, []), zi0), (19, .iload 4, ([], 0, 0, []), zi0), (21, .iload_n 2, ([2], 0, 0, []), zi0), (22, .if_icmp .ge 20, ([42], 0, 0, []), zi0), (25, .iload_n 3, ([3], 0, 0, []), zi0), (26, .iload_n 1, ([1], 0, 0, []), zi0), (27, .if_icmp .eq 15, ([42], 0, 0, []), zi0), (30, .aload_n 0, ([0], 0, 0, []), zi0), (31, .iload_n 3, ([3], 0, 0, []), zi0), (32, .invokevirtual 21, ([0, 1, 105], 0, 0, []), mi_PM_imageOf), (35, .istore_n 3, ([3], 0, 0, []), zi0), (36, .iinc 4 1, ([], nI 1, 0, []), zi0), (39, .goto (-20), ([19], 0, 0, []), zi0), (42, .iload 4, ([], 0, 0, []), zi0), (44, .ireturn, ([], 0, 0, []), zi0)]
set_option maxRecDepth 100000 in
theorem oc_CH_cycleLength : cd_CH_cycleLength.all (zchk mi_CH_cycleLength) = true := by decide +kernel
set_option maxRecDepth 100000 in
theorem ow_CH_cycleLength : zWs mi_CH_cycleLength cd_CH_cycleLength := ⟨trivial, ⟨rfl, rfl, mv_PM_points⟩, trivial, ⟨rfl, rfl, mv_PM_points⟩, trivial, trivial, trivial, trivial, ⟨rfl, rfl, mv_PM_imageOf⟩, trivial, trivial, trivial, trivial, trivial, trivial, trivial, trivial, trivial, trivial, trivial, ⟨rfl, rfl, mv_PM_imageOf⟩, trivial, trivial, trivial, trivial, trivial, trivial⟩
theorem ok_CH_cycleLength : zgood2 mi_CH_cycleLength cd_CH_cycleLength := ⟨oc_CH_cycleLength, ow_CH_cycleLength⟩
def cu_CH_isBijective : List (Nat × List Nat) := [(10, [0, 1, 2, 4]), (19, [0, 1, 2, 4, 5])]
def cd_CH_isBijective : List ZE := [(0, .aload_n 0, ([0], 0, 0, []), zi0), (1, .invokevirtual 9, ([0, 1, 86], 0, 0, []), mi_PM_points), (4, .istore_n 1, ([1], 0, 0, []), zi0), (5, .lconst 0, ([], 0, lN 0, []), zi0), (6, .lstore_n 2, ([2], 0, 0, []), zi0), (7, .iconst 0, ([], nI 0, 0, []), zi0), (8, .istore 4, ([], 0, 0, []), zi0), (10, .iload 4, ([], 0, 0, []), zi0), (12, .iload_n 1, ([1], 0, 0, []), zi0), (13, .if_icmp .ge 40, ([53], 0, 0, []), zi0), (16, .iconst 0, ([], nI 0, 0, []), zi0), (17, .istore 5, ([], 0, 0, []), zi0), (19, .iload 5, ([], 0, 0, []), zi0), (21, .iload_n 1, ([1], 0, 0, []), zi0), (22, .if_icmp .ge 25, ([47], 0, 0, []), zi0), (25, .lload_n 2, ([2], 0, 0, []), zi0), (26, .lconst 1, ([], 0, lN 1, []), zi0), (27, .aload_n 0, ([0], 0, 0, []), zi0), (28, .iload 4, ([], 0, 0, []), zi0), (30, .iload 5, ([], 0, 0, []), zi0), (32, .invokestatic 15, ([0, 1, 104], 0, 0, []), mi_CO_pairOf), (35, .invokevirtual 21, ([0, 1, 105], 0, 0, []), mi_PM_imageOf), (38, .lshl, ([], 0, 0, []), zi0), (39, .lor, ([], 0, 0, []), zi0), (40, .lstore_n 2, ([2], 0, 0, []), zi0), (41, .iinc 5 1, ([], nI 1, 0, []), zi0), (44, .goto (-25), ([19], 0, 0, []), zi0), (47, .iinc 4 1, ([], nI 1, 0, []), zi0), (50, .goto (-40), ([10], 0, 0, []), zi0), (53, .lload_n 2, ([2], 0, 0, []), zi0), (54, .invokestatic 25, ([0, 1, 106], 0, 0, []), mi_JL_bitCount), (57, .iload_n 1, ([1], 0, 0, []), zi0), (58, .iload_n 1, ([1], 0, 0, []), zi0), (59, .imul, ([], 0, 0, []), zi0), (60, .if_icmp .ne 7, ([67], 0, 0, []), zi0), (63, .iconst 1, ([], nI 1, 0, []), zi0), (64, .goto 4, ([68], 0, 0, []), zi0), (67, .iconst 0, ([], nI 0, 0, []), zi0), (68, .ireturn, ([], 0, 0, []), zi0)]
set_option maxRecDepth 100000 in
theorem oc_CH_isBijective : cd_CH_isBijective.all (zchk mi_CH_isBijective) = true := by decide +kernel
set_option maxRecDepth 100000 in
theorem ow_CH_isBijective : zWs mi_CH_isBijective cd_CH_isBijective := ⟨trivial, ⟨rfl, rfl, mv_PM_points⟩, trivial, trivial, trivial, trivial, trivial, trivial, trivial, trivial, trivial, trivial, trivial, trivial, trivial, trivial, trivial, trivial, trivial, trivial, ⟨rfl, ms_CO_pairOf⟩, ⟨rfl, rfl, mv_PM_imageOf⟩, trivial, trivial, trivial, trivial, trivial, trivial, trivial, trivial, ⟨rfl, ms_JL_bitCount⟩, trivial, trivial, trivial, trivial, trivial, trivial, trivial, trivial, trivial⟩
theorem ok_CH_isBijective : zgood2 mi_CH_isBijective cd_CH_isBijective := ⟨oc_CH_isBijective, ow_CH_isBijective⟩
def cu_CH_isInvolutive : List (Nat × List Nat) := [(7, [0, 1, 2]), (14, [0, 1, 2, 3])]
def cd_CH_isInvolutive : List ZE := [(0, .aload_n 0, ([0], 0, 0, []), zi0), (1, .invokevirtual 9, ([0, 1, 86], 0, 0, []), mi_PM_points), (4, .istore_n 1, ([1], 0, 0, []), zi0), (5, .iconst 0, ([], nI 0, 0, []), zi0), (6, .istore_n 2, ([2], 0, 0, []), zi0), (7, .iload_n 2, ([2], 0, 0, []), zi0), (8, .iload_n 1, ([1], 0, 0, []), zi0), (9, .if_icmp .ge 46, ([55], 0, 0, []), zi0), (12, .iconst 0, ([], nI 0, 0, []), zi0), (13, .istore_n 3, ([3], 0, 0, []), zi0), (14, .iload_n 3, ([3], 0, 0, []), zi0), (15, .iload_n 1, ([1], 0, 0, []), zi0), (16, .if_icmp .ge 33, ([49], 0, 0, []), zi0), (19, .iload_n 2, ([2], 0, 0, []), zi0), (20, .iload_n 3, ([3], 0, 0, []), zi0), (21, .invokestatic 15, ([0, 1, 104], 0, 0, []), mi_CO_pairOf), (24, .istore 4, ([], 0, 0, []), zi0), (26, .aload_n 0, ([0], 0, 0, []), zi0), (27, .aload_n 0, ([0], 0, 0, []), zi0), (28, .iload 4, ([], 0, 0, []), zi0), (30, .invokevirtual 21, ([0, 1, 105], 0, 0, []), mi_PM_imageOf), (33, .invokevirtual 21, ([0, 1, 105], 0, 0, []), mi_PM_imageOf), (36, .iload 4, ([], 0, 0, []), zi0), (38, .if_icmp .eq 5, ([43], 0, 0, []), zi0), (41, .iconst 0, ([], nI 0, 0, []), zi0), (42, .ireturn, ([], 0, 0, []), zi0), (43, .iinc 3 1, ([], nI 1, 0, []), zi0), (46, .goto (-32), ([14], 0, 0, []), zi0), (49, .iinc 2 1, ([], nI 1, 0, []), zi0), (52, .goto (-45), ([7], 0, 0, []), zi0), (55, .iconst 1, ([], nI 1, 0, []), zi0), (56, .ireturn, ([], 0, 0, []), zi0)]
set_option maxRecDepth 100000 in
theorem oc_CH_isInvolutive : cd_CH_isInvolutive.all (zchk mi_CH_isInvolutive) = true := by decide +kernel
set_option maxRecDepth 100000 in
theorem ow_CH_isInvolutive : zWs mi_CH_isInvolutive cd_CH_isInvolutive := ⟨trivial, ⟨rfl, rfl, mv_PM_points⟩, trivial, trivial, trivial, trivial, trivial, trivial, trivial, trivial, trivial, trivial, trivial, trivial, trivial, ⟨rfl, ms_CO_pairOf⟩, trivial, trivial, trivial, trivial, ⟨rfl, rfl, mv_PM_imageOf⟩, ⟨rfl, rfl, mv_PM_imageOf⟩, trivial, trivial, trivial, trivial, trivial, trivial, trivial, trivial, trivial, trivial, trivial⟩
theorem ok_CH_isInvolutive : zgood2 mi_CH_isInvolutive cd_CH_isInvolutive := ⟨oc_CH_isInvolutive, ow_CH_isInvolutive⟩
def cu_CH_isSquareFree : List (Nat × List Nat) := [(2, [0, 1])]
def cd_CH_isSquareFree : List ZE := [(0, .iconst 0, ([], nI 0, 0, []), zi0), (1, .istore_n 1, ([1], 0, 0, []), zi0), (2, .iload_n 1, ([1], 0, 0, []), zi0), (3, .aload_n 0, ([0], 0, 0, []), zi0), (4, .invokevirtual 9, ([0, 1, 86], 0, 0, []), mi_PM_points), (7, .if_icmp .ge 26, ([33], 0, 0, []), zi0), (10, .iload_n 1, ([1], 0, 0, []), zi0), (11, .iload_n 1, ([1], 0, 0, []), zi0), (12, .invokestatic 15, ([0, 1, 104], 0, 0, []), mi_CO_pairOf), (15, .istore_n 2, ([2], 0, 0, []), zi0), (16, .aload_n 0, ([0], 0, 0, []), zi0), (17, .iload_n 2, ([2], 0, 0, []), zi0), (18, .invokevirtual 21, ([0, 1, 105], 0, 0, []), mi_PM_imageOf), (21, .iload_n 2, ([2], 0, 0, []), zi0), (22, .if_icmp .eq 5, ([27], 0, 0, []), zi0), (25, .iconst 0, ([], nI 0, 0, []), zi0), (26, .ireturn, ([], 0, 0, []), zi0), (27, .iinc 1 1, ([], nI 1, 0, []), zi0), (30, .goto (-28), ([2], 0, 0, []), zi0), (33, .iconst 1, ([], nI 1, 0, []), zi0), (34, .ireturn, ([], 0, 0, []), zi0)]
set_option maxRecDepth 100000 in
theorem oc_CH_isSquareFree : cd_CH_isSquareFree.all (zchk mi_CH_isSquareFree) = true := by decide +kernel
set_option maxRecDepth 100000 in
theorem ow_CH_isSquareFree : zWs mi_CH_isSquareFree cd_CH_isSquareFree := ⟨trivial, trivial, trivial, trivial, ⟨rfl, rfl, mv_PM_points⟩, trivial, trivial, trivial, ⟨rfl, ms_CO_pairOf⟩, trivial, trivial, trivial, ⟨rfl, rfl, mv_PM_imageOf⟩, trivial, trivial, trivial, trivial, trivial, trivial, trivial, trivial, trivial⟩
theorem ok_CH_isSquareFree : zgood2 mi_CH_isSquareFree cd_CH_isSquareFree := ⟨oc_CH_isSquareFree, ow_CH_isSquareFree⟩
def cu_CO_isCode : List (Nat × List Nat) := [(2, [0, 1, 2, 3])]
def cd_CO_isCode : List ZE := [(0, .iconst 0, ([], nI 0, 0, []), zi0), (1, .istore_n 3, ([3], 0, 0, []), zi0), (2, .iload_n 3, ([3], 0, 0, []), zi0), (3, .iload_n 1, ([1], 0, 0, []), zi0), (4, .if_icmp .ge 20, ([24], 0, 0, []), zi0), (7, .iload_n 0, ([0], 0, 0, []), zi0), (8, .iload_n 3, ([3], 0, 0, []), zi0), (9, .invokestatic 7, ([0, 0, 220], 0, 0, []), mi_CO_digit), (12, .iload_n 2, ([2], 0, 0, []), zi0), (13, .if_icmp .lt 5, ([18], 0, 0, []), zi0), (16, .iconst 0, ([], nI 0, 0, []), zi0), (17, .ireturn, ([], 0, 0, []), zi0), (18, .iinc 3 1, ([], nI 1, 0, []), zi0), (21, .goto (-19), ([2], 0, 0, []), zi0), (24, .iload_n 0, ([0], 0, 0, []), zi0), (25, .iconst 3, ([], nI 3, 0, []), zi0), (26, .iload_n 1, ([1], 0, 0, []), zi0), (27, .imul, ([], 0, 0, []), zi0), (28, .iushr, ([], 0, 0, []), zi0), (29, .ifCond .ne 7, ([36], 0, 0, []), zi0), (32, .iconst 1, ([], nI 1, 0, []), zi0), (33, .goto 4, ([37], 0, 0, []), zi0), (36, .iconst 0, ([], nI 0, 0, []), zi0), (37, .ireturn, ([], 0, 0, []), zi0)]
set_option maxRecDepth 100000 in
theorem oc_CO_isCode : cd_CO_isCode.all (zchk mi_CO_isCode) = true := by decide +kernel
set_option maxRecDepth 100000 in
theorem ow_CO_isCode : zWs mi_CO_isCode cd_CO_isCode := ⟨trivial, trivial, trivial, trivial, trivial, trivial, trivial, ⟨rfl, ms_CO_digit⟩, trivial, trivial, trivial, trivial, trivial, trivial, trivial, trivial, trivial, trivial, trivial, trivial, trivial, trivial, trivial, trivial, trivial⟩
theorem ok_CO_isCode : zgood2 mi_CO_isCode cd_CO_isCode := ⟨oc_CO_isCode, ow_CO_isCode⟩
def cu_CO_next : List (Nat × List Nat) := [(5, [1, 2, 3, 4])]
def cd_CO_next : List ZE := [(0, .iload_n 0, ([0], 0, 0, []), zi0), (1, .istore_n 3, ([3], 0, 0, []), zi0), (2, .iconst 0, ([], nI 0, 0, []), zi0), (3, .istore 4, ([], 0, 0, []), zi0), (5, .iload 4, ([], 0, 0, []), zi0), (7, .iload_n 1, ([1], 0, 0, []), zi0), (8, .if_icmp .ge 42, ([50], 0, 0, []), zi0), (11, .iload_n 3, ([3], 0, 0, []), zi0), (12, .iload 4, ([], 0, 0, []), zi0), (14, .invokestatic 7, ([0, 0, 220], 0, 0, []), mi_CO_digit), (17, .iconst 1, ([], nI 1, 0, []), zi0), (18, .iadd, ([], 0, 0, []), zi0), (19, .iload_n 2, ([2], 0, 0, []), zi0), (20, .if_icmp .ge 12, ([32], 0, 0, []), zi0), (23, .iload_n 3, ([3], 0, 0, []), zi0), (24, .iconst 1, ([], nI 1, 0, []), zi0), (25, .iconst 3, ([], nI 3, 0, []), zi0), (26, .iload 4, ([], 0, 0, []), zi0), (28, .imul, ([], 0, 0, []), zi0), (29, .ishl, ([], 0, 0, []), zi0), (30, .iadd, ([], 0, 0, []), zi0), (31, .ireturn, ([], 0, 0, []), zi0), (32, .iload_n 3, ([3], 0, 0, []), zi0), (33, .bipush 7, ([], nI 7, 0, []), zi0), (35, .iconst 3, ([], nI 3, 0, []), zi0), (36, .iload 4, ([], 0, 0, []), zi0), (38, .imul, ([], 0, 0, []), zi0), (39, .ishl, ([], 0, 0, []), zi0), (40, .iconst (-1), ([], (-1), 0, []), zi0), (41, .ixor, ([], 0, 0, []), zi0), (42, .iand, ([], 0, 0, []), zi0), (43, .istore_n 3, ([3], 0, 0, []), zi0), (44, .iinc 4 1, ([], nI 1, 0, []), zi0), (47, .goto (-42), ([5], 0, 0, []), zi0), (50, .iload_n 3, ([3], 0, 0, []), zi0), (51, .ireturn, ([], 0, 0, []), zi0)]
set_option maxRecDepth 100000 in
theorem oc_CO_next : cd_CO_next.all (zchk mi_CO_next) = true := by decide +kernel
set_option maxRecDepth 100000 in
theorem ow_CO_next : zWs mi_CO_next cd_CO_next := ⟨trivial, trivial, trivial, trivial, trivial, trivial, trivial, trivial, trivial, ⟨rfl, ms_CO_digit⟩, trivial, trivial, trivial, trivial, trivial, trivial, trivial, trivial, trivial, trivial, trivial, trivial, trivial, trivial, trivial, trivial, trivial, trivial, trivial, trivial, trivial, trivial, trivial, trivial, trivial, trivial, trivial⟩
theorem ok_CO_next : zgood2 mi_CO_next cd_CO_next := ⟨oc_CO_next, ow_CO_next⟩
def cu_CO_turned : List (Nat × List Nat) := [(4, [0, 1, 2, 3])]
def cd_CO_turned : List ZE := [(0, .iconst 0, ([], nI 0, 0, []), zi0), (1, .istore_n 2, ([2], 0, 0, []), zi0), (2, .iconst 0, ([], nI 0, 0, []), zi0), (3, .istore_n 3, ([3], 0, 0, []), zi0), (4, .iload_n 3, ([3], 0, 0, []), zi0), (5, .iload_n 1, ([1], 0, 0, []), zi0), (6, .if_icmp .ge 19, ([25], 0, 0, []), zi0), (9, .iload_n 2, ([2], 0, 0, []), zi0), (10, .iconst 3, ([], nI 3, 0, []), zi0), (11, .ishl, ([], 0, 0, []), zi0), (12, .iload_n 0, ([0], 0, 0, []), zi0), (13, .iload_n 3, ([3], 0, 0, []), zi0), (14, .invokestatic 7, ([0, 0, 220], 0, 0, []), mi_CO_digit), (17, .ior, ([], 0, 0, []), zi0), (18, .istore_n 2, ([2], 0, 0, []), zi0), (19, .iinc 3 1, ([], nI 1, 0, []), zi0), (22, .goto (-18), ([4], 0, 0, []), zi0), (25, .iload_n 2, ([2], 0, 0, []), zi0), (26, .ireturn, ([], 0, 0, []), zi0)]
set_option maxRecDepth 100000 in
theorem oc_CO_turned : cd_CO_turned.all (zchk mi_CO_turned) = true := by decide +kernel
set_option maxRecDepth 100000 in
theorem ow_CO_turned : zWs mi_CO_turned cd_CO_turned := ⟨trivial, trivial, trivial, trivial, trivial, trivial, trivial, trivial, trivial, trivial, trivial, trivial, ⟨rfl, ms_CO_digit⟩, trivial, trivial, trivial, trivial, trivial, trivial, trivial⟩
theorem ok_CO_turned : zgood2 mi_CO_turned cd_CO_turned := ⟨oc_CO_turned, ow_CO_turned⟩
def cu_PM_appliedAt : List (Nat × List Nat) := []
def cd_PM_appliedAt : List ZE := [(0, .iload_n 1, ([1], 0, 0, []), zi0), (1, .iload_n 2, ([2], 0, 0, []), zi0), (2, .ishr, ([], 0, 0, []), zi0), (3, .bipush 63, ([], nI 63, 0, []), zi0), (5, .iand, ([], 0, 0, []), zi0), (6, .istore_n 3, ([3], 0, 0, []), zi0), (7, .iload_n 1, ([1], 0, 0, []), zi0), (8, .iload_n 3, ([3], 0, 0, []), zi0), (9, .aload_n 0, ([0], 0, 0, []), zi0), (10, .iload_n 3, ([3], 0, 0, []), zi0), (11, .invokevirtual 23, ([0, 1, 68], 0, 0, []), mi_PM_imageOf), (14, .ixor, ([], 0, 0, []), zi0), (15, .iload_n 2, ([2], 0, 0, []), zi0), (16, .ishl, ([], 0, 0, []), zi0), (17, .ixor, ([], 0, 0, []), zi0), (18, .ireturn, ([], 0, 0, []), zi0)]
set_option maxRecDepth 100000 in
theorem oc_PM_appliedAt : cd_PM_appliedAt.all (zchk mi_PM_appliedAt) = true := by decide +kernel
set_option maxRecDepth 100000 in
theorem ow_PM_appliedAt : zWs mi_PM_appliedAt cd_PM_appliedAt := ⟨trivial, trivial, trivial, trivial, trivial, trivial, trivial, trivial, trivial, trivial, ⟨rfl, rfl, mv_PM_imageOf⟩, trivial, trivial, trivial, trivial, trivial, trivial⟩
theorem ok_PM_appliedAt : zgood2 mi_PM_appliedAt cd_PM_appliedAt := ⟨oc_PM_appliedAt, ow_PM_appliedAt⟩
def cu_PM_left : List (Nat × List Nat) := []
def cd_PM_left : List ZE := [(0, .aload_n 0, ([0], 0, 0, []), zi0), (1, .iload_n 1, ([1], 0, 0, []), zi0), (2, .iload_n 2, ([2], 0, 0, []), zi0), (3, .invokestatic 17, ([0, 0, 198], 0, 0, []), mi_CO_pairOf), (6, .invokevirtual 23, ([0, 1, 68], 0, 0, []), mi_PM_imageOf), (9, .iconst 3, ([], nI 3, 0, []), zi0), (10, .ishr, ([], 0, 0, []), zi0), (11, .ireturn, ([], 0, 0, []), zi0)]
set_option maxRecDepth 100000 in
theorem oc_PM_left : cd_PM_left.all (zchk mi_PM_left) = true := by decide +kernel
set_option maxRecDepth 100000 in
theorem ow_PM_left : zWs mi_PM_left cd_PM_left := ⟨trivial, trivial, trivial, ⟨rfl, ms_CO_pairOf⟩, ⟨rfl, rfl, mv_PM_imageOf⟩, trivial, trivial, trivial, trivial⟩
theorem ok_PM_left : zgood2 mi_PM_left cd_PM_left := ⟨oc_PM_left, ow_PM_left⟩
def cu_PM_right : List (Nat × List Nat) := []
def cd_PM_right : List ZE := [(0, .aload_n 0, ([0], 0, 0, []), zi0), (1, .iload_n 1, ([1], 0, 0, []), zi0), (2, .iload_n 2, ([2], 0, 0, []), zi0), (3, .invokestatic 17, ([0, 0, 198], 0, 0, []), mi_CO_pairOf), (6, .invokevirtual 23, ([0, 1, 68], 0, 0, []), mi_PM_imageOf), (9, .bipush 7, ([], nI 7, 0, []), zi0), (11, .iand, ([], 0, 0, []), zi0), (12, .ireturn, ([], 0, 0, []), zi0)]
set_option maxRecDepth 100000 in
theorem oc_PM_right : cd_PM_right.all (zchk mi_PM_right) = true := by decide +kernel
set_option maxRecDepth 100000 in
theorem ow_PM_right : zWs mi_PM_right cd_PM_right := ⟨trivial, trivial, trivial, ⟨rfl, ms_CO_pairOf⟩, ⟨rfl, rfl, mv_PM_imageOf⟩, trivial, trivial, trivial, trivial⟩
theorem ok_PM_right : zgood2 mi_PM_right cd_PM_right := ⟨oc_PM_right, ow_PM_right⟩
def cu_PM_setImage : List (Nat × List Nat) := []
def cd_PM_setImage : List ZE := [(0, .aload_n 0, ([0], 0, 0, []), zi0), (1, .getfield 9, ([0, 0, 0, 33], 0, 0, []), zi0), (4, .iload_n 1, ([1], 0, 0, []), zi0), (5, .iload_n 2, ([2], 0, 0, []), zi0), (6, .invokestatic 17, ([0, 0, 198], 0, 0, []), mi_CO_pairOf), (9, .bipush 63, ([], nI 63, 0, []), zi0), (11, .iand, ([], 0, 0, []), zi0), (12, .iload_n 3, ([3], 0, 0, []), zi0), (13, .iload 4, ([], 0, 0, []), zi0), (15, .invokestatic 17, ([0, 0, 198], 0, 0, []), mi_CO_pairOf), (18, .iastore, ([], 0, 0, []), zi0), (19, .return_, ([], 0, 0, []), zi0)]
set_option maxRecDepth 100000 in
theorem oc_PM_setImage : cd_PM_setImage.all (zchk mi_PM_setImage) = true := by decide +kernel
set_option maxRecDepth 100000 in
theorem ow_PM_setImage : zWs mi_PM_setImage cd_PM_setImage := ⟨trivial, rfl, trivial, trivial, ⟨rfl, ms_CO_pairOf⟩, trivial, trivial, trivial, trivial, ⟨rfl, ms_CO_pairOf⟩, trivial, trivial, trivial⟩
theorem ok_PM_setImage : zgood2 mi_PM_setImage cd_PM_setImage := ⟨oc_PM_setImage, ow_PM_setImage⟩
def cu_RN_isIsomorphism : List (Nat × List Nat) := [(8, [0, 1, 2, 3, 4]), (25, [0, 1, 2, 3, 4, 5, 6])]
def cd_RN_isIsomorphism : List ZE := [(0, .aload_n 1, ([1], 0, 0, []), zi0), (1, .invokevirtual 15, ([0, 1, 193], 0, 0, []), mi_PM_points), (4, .istore_n 3, ([3], 0, 0, []), zi0), (5, .iconst 0, ([], nI 0, 0, []), zi0), (6, .istore 4, ([], 0, 0, []), zi0), (8, .iload 4, ([], 0, 0, []), zi0), (10, .iload_n 3, ([3], 0, 0, []), zi0), (11, .if_icmp .ge 86, ([97], 0, 0, []), zi0), (14, .aload_n 0, ([0], 0, 0, []), zi0), (15, .iload 4, ([], 0, 0, []), zi0), (17, .invokevirtual 53, ([4, 1, 205], 0, 0, []), mi_RN_imageOf), (20, .istore 5, ([], 0, 0, []), zi0), (22, .iconst 0, ([], nI 0, 0, []), zi0), (23, .istore 6, ([], 0, 0, []), zi0), (25, .iload 6, ([], 0, 0, []), zi0), (27, .iload_n 3, ([3], 0, 0, []), zi0), (28, .if_icmp .ge 63, ([91], 0, 0, []), zi0), (31, .aload_n 1, ([1], 0, 0, []), zi0), (32, .iload 4, ([], 0, 0, []), zi0), (34, .iload 6, ([], 0, 0, []), zi0), (36, .invokestatic 65, ([0, 1, 209], 0, 0, []), mi_CO_pairOf), (39, .invokevirtual 70, ([0, 1, 210], 0, 0, []), mi_PM_imageOf), (42, .istore 7, ([], 0, 0, []), zi0), (44, .aload_n 0, ([0], 0, 0, []), zi0), (45, .iload 7, ([], 0, 0, []), zi0), (47, .iconst 3, ([], nI 3, 0, []), zi0), (48, .ishr, ([], 0, 0, []), zi0), (49, .invokevirtual 53, ([4, 1, 205], 0, 0, []), mi_RN_imageOf), (52, .aload_n 0, ([0], 0, 0, []), zi0), (53, .iload 7, ([], 0, 0, []), zi0), (55, .invokevirtual 53, ([4, 1, 205], 0, 0, []), mi_RN_imageOf), (58, .invokestatic 65, ([0, 1, 209], 0, 0, []), mi_CO_pairOf), (61, .istore 8, ([], 0, 0, []), zi0), (63, .aload_n 2, ([2], 0, 0, []), zi0), (64, .iload 5, ([], 0, 0, []), zi0), (66, .aload_n 0, ([0], 0, 0, []), zi0), (67, .iload 6, ([], 0, 0, []), zi0), (69, .invokevirtual 53, ([4, 1, 205], 0, 0, []), mi_RN_imageOf), (72, .invokestatic 65, ([0, 1, 209], 0, 0, []), mi_CO_pairOf), (75, .invokevirtual 70, ([0, 1, 210], 0, 0, []), mi_PM_imageOf), (78, .iload 8, ([], 0, 0, []), zi0), (80, .if_icmp .eq 5, ([85], 0, 0, []), zi0), (83, .iconst 0, ([], nI 0, 0, []), zi0), (84, .ireturn, ([], 0, 0, []), zi0), (85, .iinc 6 1, ([], nI 1, 0, []), zi0), (88, .goto (-63), ([25], 0, 0, []), zi0), (91, .iinc 4 1, ([], nI 1, 0, []), zi0), (94, .goto (-86), ([8], 0, 0, []), zi0), (97, .iconst 1, ([], nI 1, 0, []), zi0), (98, .ireturn, ([], 0, 0, []), zi0)]
set_option maxRecDepth 100000 in
theorem oc_RN_isIsomorphism : cd_RN_isIsomorphism.all (zchk mi_RN_isIsomorphism) = true := by decide +kernel
set_option maxRecDepth 100000 in
theorem ow_RN_isIsomorphism : zWs mi_RN_isIsomorphism cd_RN_isIsomorphism := ⟨trivial, ⟨rfl, rfl, mv_PM_points⟩, trivial, trivial, trivial, trivial, trivial, trivial, trivial, trivial, ⟨rfl, rfl, mv_RN_imageOf⟩, trivial, trivial, trivial, trivial, trivial, trivial, trivial, trivial, trivial, ⟨rfl, ms_CO_pairOf⟩, ⟨rfl, rfl, mv_PM_imageOf⟩, trivial, trivial, trivial, trivial, trivial, ⟨rfl, rfl, mv_RN_imageOf⟩, trivial, trivial, ⟨rfl, rfl, mv_RN_imageOf⟩, ⟨rfl, ms_CO_pairOf⟩, trivial, trivial, trivial, trivial, trivial, ⟨rfl, rfl, mv_RN_imageOf⟩, ⟨rfl, ms_CO_pairOf⟩, ⟨rfl, rfl, mv_PM_imageOf⟩, trivial, trivial, trivial, trivial, trivial, trivial, trivial, trivial, trivial, trivial, trivial⟩
theorem ok_RN_isIsomorphism : zgood2 mi_RN_isIsomorphism cd_RN_isIsomorphism := ⟨oc_RN_isIsomorphism, ow_RN_isIsomorphism⟩
def cu_RN_swap : List (Nat × List Nat) := []
def cd_RN_swap : List ZE := [(0, .aload_n 0, ([0], 0, 0, []), zi0), (1, .iload_n 1, ([1], 0, 0, []), zi0), (2, .invokevirtual 53, ([4, 1, 205], 0, 0, []), mi_RN_imageOf), (5, .istore_n 3, ([3], 0, 0, []), zi0), (6, .aload_n 0, ([0], 0, 0, []), zi0), (7, .getfield 11, ([4, 0, 0, 87], 0, 0, []), zi0), (10, .iload_n 1, ([1], 0, 0, []), zi0), (11, .bipush 7, ([], nI 7, 0, []), zi0), (13, .iand, ([], 0, 0, []), zi0), (14, .aload_n 0, ([0], 0, 0, []), zi0), (15, .iload_n 2, ([2], 0, 0, []), zi0), (16, .invokevirtual 53, ([4, 1, 205], 0, 0, []), mi_RN_imageOf), (19, .iastore, ([], 0, 0, []), zi0), (20, .aload_n 0, ([0], 0, 0, []), zi0), (21, .getfield 11, ([4, 0, 0, 87], 0, 0, []), zi0), (24, .iload_n 2, ([2], 0, 0, []), zi0), (25, .bipush 7, ([], nI 7, 0, []), zi0), (27, .iand, ([], 0, 0, []), zi0), (28, .iload_n 3, ([3], 0, 0, []), zi0), (29, .iastore, ([], 0, 0, []), zi0), (30, .return_, ([], 0, 0, []), zi0)]
set_option maxRecDepth 100000 in
theorem oc_RN_swap : cd_RN_swap.all (zchk mi_RN_swap) = true := by decide +kernel
set_option maxRecDepth 100000 in
theorem ow_RN_swap : zWs mi_RN_swap cd_RN_swap := ⟨trivial, trivial, ⟨rfl, rfl, mv_RN_imageOf⟩, trivial, trivial, rfl, trivial, trivial, trivial, trivial, trivial, ⟨rfl, rfl, mv_RN_imageOf⟩, trivial, trivial, rfl, trivial, trivial, trivial, trivial, trivial, trivial, trivial⟩
theorem ok_RN_swap : zgood2 mi_RN_swap cd_RN_swap := ⟨oc_RN_swap, ow_RN_swap⟩
def cu_SL_rowsAt : List (Nat × List Nat) := []
def cd_SL_rowsAt : List ZE := [(0, .iload_n 0, ([0], 0, 0, []), zi0), (1, .invokestatic 11, ([0, 2, 23], 0, 0, []), mi_SL_start), (4, .iload_n 1, ([1], 0, 0, []), zi0), (5, .iadd, ([], 0, 0, []), zi0), (6, .istore_n 2, ([2], 0, 0, []), zi0), (7, .iload_n 2, ([2], 0, 0, []), zi0), (8, .ifCond .lt 17, ([25], 0, 0, []), zi0), (11, .iload_n 2, ([2], 0, 0, []), zi0), (12, .bipush 31, ([], nI 31, 0, []), zi0), (14, .if_icmp .ge 11, ([25], 0, 0, []), zi0), (17, .getstatic 15, ([2, 29], 0, 0, []), zi0), (20, .iload_n 2, ([2], 0, 0, []), zi0), (21, .laload, ([], 0, 0, []), zi0), (22, .goto 4, ([26], 0, 0, []), zi0), (25, .lconst 0, ([], 0, lN 0, []), zi0), (26, .lreturn, ([], 0, 0, []), zi0)]
set_option maxRecDepth 100000 in
theorem oc_SL_rowsAt : cd_SL_rowsAt.all (zchk mi_SL_rowsAt) = true := by decide +kernel
set_option maxRecDepth 100000 in
theorem ow_SL_rowsAt : zWs mi_SL_rowsAt cd_SL_rowsAt := ⟨trivial, ⟨rfl, ms_SL_start⟩, trivial, trivial, trivial, trivial, trivial, trivial, trivial, trivial, rfl, trivial, trivial, trivial, trivial, trivial, trivial⟩
theorem ok_SL_rowsAt : zgood2 mi_SL_rowsAt cd_SL_rowsAt := ⟨oc_SL_rowsAt, ow_SL_rowsAt⟩
def cu_SL_size : List (Nat × List Nat) := []
def cd_SL_size : List ZE := [(0, .iload_n 0, ([0], 0, 0, []), zi0), (1, .iconst 1, ([], nI 1, 0, []), zi0), (2, .iadd, ([], 0, 0, []), zi0), (3, .invokestatic 11, ([0, 2, 23], 0, 0, []), mi_SL_start), (6, .iload_n 0, ([0], 0, 0, []), zi0), (7, .invokestatic 11, ([0, 2, 23], 0, 0, []), mi_SL_start), (10, .isub, ([], 0, 0, []), zi0), (11, .ireturn, ([], 0, 0, []), zi0)]
set_option maxRecDepth 100000 in
theorem oc_SL_size : cd_SL_size.all (zchk mi_SL_size) = true := by decide +kernel
set_option maxRecDepth 100000 in
theorem ow_SL_size : zWs mi_SL_size cd_SL_size := ⟨trivial, trivial, trivial, ⟨rfl, ms_SL_start⟩, trivial, ⟨rfl, ms_SL_start⟩, trivial, trivial, trivial⟩
theorem ok_SL_size : zgood2 mi_SL_size cd_SL_size := ⟨oc_SL_size, ow_SL_size⟩
def cu_T_isBraid : List (Nat × List Nat) := []
def cd_T_isBraid : List ZE := [(0, .iload_n 0, ([0], 0, 0, []), zi0), (1, .iconst 0, ([], nI 0, 0, []), zi0), (2, .iconst 1, ([], nI 1, 0, []), zi0), (3, .invokestatic 74, ([0, 0, 177], 0, 0, []), mi_T_isWithin), (6, .ireturn, ([], 0, 0, []), zi0)]
set_option maxRecDepth 100000 in
theorem oc_T_isBraid : cd_T_isBraid.all (zchk mi_T_isBraid) = true := by decide +kernel
set_option maxRecDepth 100000 in
theorem ow_T_isBraid : zWs mi_T_isBraid cd_T_isBraid := ⟨trivial, trivial, trivial, ⟨rfl, ms_T_isWithin⟩, trivial, trivial⟩
theorem ok_T_isBraid : zgood2 mi_T_isBraid cd_T_isBraid := ⟨oc_T_isBraid, ow_T_isBraid⟩
def cu_T_isPlace : List (Nat × List Nat) := []
def cd_T_isPlace : List ZE := [(0, .iload_n 0, ([0], 0, 0, []), zi0), (1, .iconst 0, ([], nI 0, 0, []), zi0), (2, .iconst 3, ([], nI 3, 0, []), zi0), (3, .invokestatic 74, ([0, 0, 177], 0, 0, []), mi_T_isWithin), (6, .ireturn, ([], 0, 0, []), zi0)]
set_option maxRecDepth 100000 in
theorem oc_T_isPlace : cd_T_isPlace.all (zchk mi_T_isPlace) = true := by decide +kernel
set_option maxRecDepth 100000 in
theorem ow_T_isPlace : zWs mi_T_isPlace cd_T_isPlace := ⟨trivial, trivial, trivial, ⟨rfl, ms_T_isWithin⟩, trivial, trivial⟩
theorem ok_T_isPlace : zgood2 mi_T_isPlace cd_T_isPlace := ⟨oc_T_isPlace, ow_T_isPlace⟩
def cu_AC_areTwins : List (Nat × List Nat) := [(2, [0, 1, 2, 3])]
def cd_AC_areTwins : List ZE := [(0, .iconst 0, ([], nI 0, 0, []), zi0), (1, .istore_n 3, ([3], 0, 0, []), zi0), (2, .iload_n 3, ([3], 0, 0, []), zi0), (3, .aload_n 0, ([0], 0, 0, []), zi0), (4, .invokevirtual 32, ([0, 1, 143], 0, 0, []), mi_PM_points), (7, .if_icmp .ge 41, ([48], 0, 0, []), zi0), (10, .aload_n 0, ([0], 0, 0, []), zi0), (11, .iload_n 1, ([1], 0, 0, []), zi0), (12, .iload_n 3, ([3], 0, 0, []), zi0), (13, .invokevirtual 48, ([0, 1, 154], 0, 0, []), mi_PM_left), (16, .aload_n 0, ([0], 0, 0, []), zi0), (17, .iload_n 2, ([2], 0, 0, []), zi0), (18, .iload_n 3, ([3], 0, 0, []), zi0), (19, .invokevirtual 48, ([0, 1, 154], 0, 0, []), mi_PM_left), (22, .if_icmp .ne 18, ([40], 0, 0, []), zi0), (25, .aload_n 0, ([0], 0, 0, []), zi0), (26, .iload_n 3, ([3], 0, 0, []), zi0), (27, .iload_n 1, ([1], 0, 0, []), zi0), (28, .invokevirtual 52, ([0, 1, 155], 0, 0, []), mi_PM_right), (31, .aload_n 0, ([0], 0, 0, []), zi0), (32, .iload_n 3, ([3], 0, 0, []), zi0), (33, .iload_n 2, ([2], 0, 0, []), zi0), (34, .invokevirtual 52, ([0, 1, 155], 0, 0, []), mi_PM_right), (37, .if_icmp .eq 5, ([42], 0, 0, []), zi0), (40, .iconst 0, ([], nI 0, 0, []), zi0), (41, .ireturn, ([], 0, 0, []), zi0), (42, .iinc 3 1, ([], nI 1, 0, []), zi0), (45, .goto (-43), ([2], 0, 0, []), zi0), (48, .iconst 1, ([], nI 1, 0, []), zi0), (49, .ireturn, ([], 0, 0, []), zi0)]
set_option maxRecDepth 100000 in
theorem oc_AC_areTwins : cd_AC_areTwins.all (zchk mi_AC_areTwins) = true := by decide +kernel
set_option maxRecDepth 100000 in
theorem ow_AC_areTwins : zWs mi_AC_areTwins cd_AC_areTwins := ⟨trivial, trivial, trivial, trivial, ⟨rfl, rfl, mv_PM_points⟩, trivial, trivial, trivial, trivial, ⟨rfl, rfl, mv_PM_left⟩, trivial, trivial, trivial, ⟨rfl, rfl, mv_PM_left⟩, trivial, trivial, trivial, trivial, ⟨rfl, rfl, mv_PM_right⟩, trivial, trivial, trivial, ⟨rfl, rfl, mv_PM_right⟩, trivial, trivial, trivial, trivial, trivial, trivial, trivial, trivial⟩
theorem ok_AC_areTwins : zgood2 mi_AC_areTwins cd_AC_areTwins := ⟨oc_AC_areTwins, ow_AC_areTwins⟩
def cu_AC_makeRetraction : List (Nat × List Nat) := [(10, [0, 1, 2, 3]), (21, [0, 1, 2, 3, 4])]
def cd_AC_makeRetraction : List ZE := [(0, .aload_n 1, ([1], 0, 0, []), zi0), (1, .aload_n 0, ([0], 0, 0, []), zi0), (2, .getfield 18, ([3, 2, 0, 67], 0, 0, []), zi0), (5, .invokevirtual 55, ([0, 1, 164], 0, 0, []), mi_PM_resize), (8, .iconst 0, ([], nI 0, 0, []), zi0), (9, .istore_n 3, ([3], 0, 0, []), zi0), (10, .iload_n 3, ([3], 0, 0, []), zi0), (11, .aload_n 0, ([0], 0, 0, []), zi0), (12, .getfield 18, ([3, 2, 0, 67], 0, 0, []), zi0), (15, .if_icmp .ge 73, ([88], 0, 0, []), zi0), (18, .iconst 0, ([], nI 0, 0, []), zi0), (19, .istore 4, ([], 0, 0, []), zi0), (21, .iload 4, ([], 0, 0, []), zi0), (23, .aload_n 0, ([0], 0, 0, []), zi0), (24, .getfield 18, ([3, 2, 0, 67], 0, 0, []), zi0), (27, .if_icmp .ge 55, ([82], 0, 0, []), zi0), (30, .aload_n 0, ([0], 0, 0, []), zi0), (31, .iload_n 3, ([3], 0, 0, []), zi0), (32, .invokevirtual 59, ([3, 1, 165], 0, 0, []), mi_AC_smallestOf), (35, .istore 5, ([], 0, 0, []), zi0), (37, .aload_n 0, ([0], 0, 0, []), zi0), (38, .iload 4, ([], 0, 0, []), zi0), (40, .invokevirtual 59, ([3, 1, 165], 0, 0, []), mi_AC_smallestOf), (43, .istore 6, ([], 0, 0, []), zi0), (45, .aload_n 1, ([1], 0, 0, []), zi0), (46, .iload_n 3, ([3], 0, 0, []), zi0), (47, .iload 4, ([], 0, 0, []), zi0), (49, .aload_n 0, ([0], 0, 0, []), zi0), (50, .aload_n 2, ([2], 0, 0, []), zi0), (51, .iload 5, ([], 0, 0, []), zi0), (53, .iload 6, ([], 0, 0, []), zi0), (55, .invokevirtual 48, ([0, 1, 154], 0, 0, []), mi_PM_left), (58, .invokevirtual 40, ([3, 1, 156], 0, 0, []), mi_AC_classOf), (61, .aload_n 0, ([0], 0, 0, []), zi0), (62, .aload_n 2, ([2], 0, 0, []), zi0), (63, .iload 5, ([], 0, 0, []), zi0), (65, .iload 6, ([], 0, 0, []), zi0), (67, .invokevirtual 52, ([0, 1, 155], 0, 0, []), mi_PM_right), (70, .invokevirtual 40, ([3, 1, 156], 0, 0, []), mi_AC_classOf), (73, .invokevirtual 62, ([0, 1, 169], 0, 0, []), mi_PM_setImage), (76, .iinc 4 1, ([], nI 1, 0, []), zi0), (79, .goto (-58), ([21], 0, 0, []), zi0), (82, .iinc 3 1, ([], nI 1, 0, []), zi0), (85, .goto (-75), ([10], 0, 0, []), zi0), (88, .return_, ([], 0, 0, []), zi0)]
set_option maxRecDepth 100000 in
theorem oc_AC_makeRetraction : cd_AC_makeRetraction.all (zchk mi_AC_makeRetraction) = true := by decide +kernel
set_option maxRecDepth 100000 in
theorem ow_AC_makeRetraction : zWs mi_AC_makeRetraction cd_AC_makeRetraction := ⟨trivial, trivial, rfl, ⟨rfl, rfl, mv_PM_resize⟩, trivial, trivial, trivial, trivial, rfl, trivial, trivial, trivial, trivial, trivial, rfl, trivial, trivial, trivial, ⟨rfl, rfl, mv_AC_smallestOf⟩, trivial, trivial, trivial, ⟨rfl, rfl, mv_AC_smallestOf⟩, trivial, trivial, trivial, trivial, trivial, trivial, trivial, trivial, ⟨rfl, rfl, mv_PM_left⟩, ⟨rfl, rfl, mv_AC_classOf⟩, trivial, trivial, trivial, trivial, ⟨rfl, rfl, mv_PM_right⟩, ⟨rfl, rfl, mv_AC_classOf⟩, ⟨rfl, rfl, mv_PM_setImage⟩, trivial, trivial, trivial, trivial, trivial, trivial⟩
theorem ok_AC_makeRetraction : zgood2 mi_AC_makeRetraction cd_AC_makeRetraction := ⟨oc_AC_makeRetraction, ow_AC_makeRetraction⟩
def cu_AL_areUnits : List (Nat × List Nat) := [(2, [0, 1, 2])]
def cd_AL_areUnits : List ZE := [(0, .iconst 0, ([], nI 0, 0, []), zi0), (1, .istore_n 2, ([2], 0, 0, []), zi0), (2, .iload_n 2, ([2], 0, 0, []), zi0), (3, .iload_n 0, ([0], 0, 0, []), zi0), (4, .if_icmp .ge 23, ([27], 0, 0, []), zi0), (7, .iload_n 0, ([0], 0, 0, []), zi0), (8, .iload_n 1, ([1], 0, 0, []), zi0), (9, .iload_n 2, ([2], 0, 0, []), zi0), (10, .invokestatic 29, ([0, 1, 13], 0, 0, []), mi_CO_digit), (13, .invokestatic 35, ([0, 1, 14], 0, 0, []), mi_AL_isUnit), (16, .ifCond .ne 5, ([21], 0, 0, []), zi0), (19, .iconst 0, ([], nI 0, 0, []), zi0), (20, .ireturn, ([], 0, 0, []), zi0), (21, .iinc 2 1, ([], nI 1, 0, []), zi0), (24, .goto (-22), ([2], 0, 0, []), zi0), (27, .iload_n 1, ([1], 0, 0, []), zi0), (28, .iload_n 0, ([0], 0, 0, []), zi0), (29, .iload_n 0, ([0], 0, 0, []), zi0), (30, .invokestatic 39, ([0, 1, 17], 0, 0, []), mi_CO_isCode), (33, .ireturn, ([], 0, 0, []), zi0)]
set_option maxRecDepth 100000 in
theorem oc_AL_areUnits : cd_AL_areUnits.all (zchk mi_AL_areUnits) = true := by decide +kernel
set_option maxRecDepth 100000 in
theorem ow_AL_areUnits : zWs mi_AL_areUnits cd_AL_areUnits := ⟨trivial, trivial, trivial, trivial, trivial, trivial, trivial, trivial, ⟨rfl, ms_CO_digit⟩, ⟨rfl, ms_AL_isUnit⟩, trivial, trivial, trivial, trivial, trivial, trivial, trivial, trivial, ⟨rfl, ms_CO_isCode⟩, trivial, trivial⟩
theorem ok_AL_areUnits : zgood2 mi_AL_areUnits cd_AL_areUnits := ⟨oc_AL_areUnits, ow_AL_areUnits⟩
def cu_AL_makeBraceMap : List (Nat × List Nat) := [(7, [0, 1, 2, 3]), (15, [0, 1, 2, 3, 4])]
def cd_AL_makeBraceMap : List ZE := [(0, .aload_n 0, ([0], 0, 0, []), zi0), (1, .iload_n 1, ([1], 0, 0, []), zi0), (2, .invokevirtual 9, ([0, 0, 235], 0, 0, []), mi_PM_resize), (5, .iconst 0, ([], nI 0, 0, []), zi0), (6, .istore_n 3, ([3], 0, 0, []), zi0), (7, .iload_n 3, ([3], 0, 0, []), zi0), (8, .iload_n 1, ([1], 0, 0, []), zi0), (9, .if_icmp .ge 58, ([67], 0, 0, []), zi0), (12, .iconst 0, ([], nI 0, 0, []), zi0), (13, .istore 4, ([], 0, 0, []), zi0), (15, .iload 4, ([], 0, 0, []), zi0), (17, .iload_n 1, ([1], 0, 0, []), zi0), (18, .if_icmp .ge 43, ([61], 0, 0, []), zi0), (21, .iload_n 2, ([2], 0, 0, []), zi0), (22, .iload_n 3, ([3], 0, 0, []), zi0), (23, .invokestatic 29, ([0, 1, 13], 0, 0, []), mi_CO_digit), (26, .iload 4, ([], 0, 0, []), zi0), (28, .imul, ([], 0, 0, []), zi0), (29, .iload_n 1, ([1], 0, 0, []), zi0), (30, .invokestatic 43, ([0, 1, 21], 0, 0, []), mi_AL_rest), (33, .istore 5, ([], 0, 0, []), zi0), (35, .aload_n 0, ([0], 0, 0, []), zi0), (36, .iload_n 3, ([3], 0, 0, []), zi0), (37, .iload 4, ([], 0, 0, []), zi0), (39, .iload 5, ([], 0, 0, []), zi0), (41, .iload_n 1, ([1], 0, 0, []), zi0), (42, .iload_n 3, ([3], 0, 0, []), zi0), (43, .iload_n 2, ([2], 0, 0, []), zi0), (44, .iload 5, ([], 0, 0, []), zi0), (46, .invokestatic 29, ([0, 1, 13], 0, 0, []), mi_CO_digit), (49, .invokestatic 46, ([0, 1, 28], 0, 0, []), mi_AL_quotient), (52, .invokevirtual 25, ([0, 1, 5], 0, 0, []), mi_PM_setImage), (55, .iinc 4 1, ([], nI 1, 0, []), zi0), (58, .goto (-43), ([15], 0, 0, []), zi0), (61, .iinc 3 1, ([], nI 1, 0, []), zi0), (64, .goto (-57), ([7], 0, 0, []), zi0), (67, .return_, ([], 0, 0, []), zi0)]
set_option maxRecDepth 100000 in
theorem oc_AL_makeBraceMap : cd_AL_makeBraceMap.all (zchk mi_AL_makeBraceMap) = true := by decide +kernel
set_option maxRecDepth 100000 in
theorem ow_AL_makeBraceMap : zWs mi_AL_makeBraceMap cd_AL_makeBraceMap := ⟨trivial, trivial, ⟨rfl, rfl, mv_PM_resize⟩, trivial, trivial, trivial, trivial, trivial, trivial, trivial, trivial, trivial, trivial, trivial, trivial, ⟨rfl, ms_CO_digit⟩, trivial, trivial, trivial, ⟨rfl, ms_AL_rest⟩, trivial, trivial, trivial, trivial, trivial, trivial, trivial, trivial, trivial, ⟨rfl, ms_CO_digit⟩, ⟨rfl, ms_AL_quotient⟩, ⟨rfl, rfl, mv_PM_setImage⟩, trivial, trivial, trivial, trivial, trivial, trivial⟩
theorem ok_AL_makeBraceMap : zgood2 mi_AL_makeBraceMap cd_AL_makeBraceMap := ⟨oc_AL_makeBraceMap, ow_AL_makeBraceMap⟩
def cu_AL_makeGroupMap : List (Nat × List Nat) := [(7, [0, 1, 2, 3]), (23, [0, 1, 2, 3, 4, 5])]
def cd_AL_makeGroupMap : List ZE := [(0, .aload_n 0, ([0], 0, 0, []), zi0), (1, .iload_n 2, ([2], 0, 0, []), zi0), (2, .invokevirtual 9, ([0, 0, 235], 0, 0, []), mi_PM_resize), (5, .iconst 0, ([], nI 0, 0, []), zi0), (6, .istore_n 3, ([3], 0, 0, []), zi0), (7, .iload_n 3, ([3], 0, 0, []), zi0), (8, .iload_n 2, ([2], 0, 0, []), zi0), (9, .if_icmp .ge 55, ([64], 0, 0, []), zi0), (12, .iload_n 1, ([1], 0, 0, []), zi0), (13, .iload_n 2, ([2], 0, 0, []), zi0), (14, .iload_n 3, ([3], 0, 0, []), zi0), (15, .invokestatic 15, ([0, 0, 239], 0, 0, []), mi_AL_inverse), (18, .istore 4, ([], 0, 0, []), zi0), (20, .iconst 0, ([], nI 0, 0, []), zi0), (21, .istore 5, ([], 0, 0, []), zi0), (23, .iload 5, ([], 0, 0, []), zi0), (25, .iload_n 2, ([2], 0, 0, []), zi0), (26, .if_icmp .ge 32, ([58], 0, 0, []), zi0), (29, .aload_n 0, ([0], 0, 0, []), zi0), (30, .iload_n 3, ([3], 0, 0, []), zi0), (31, .iload 5, ([], 0, 0, []), zi0), (33, .iload_n 1, ([1], 0, 0, []), zi0), (34, .iload_n 2, ([2], 0, 0, []), zi0), (35, .iload_n 1, ([1], 0, 0, []), zi0), (36, .iload_n 2, ([2], 0, 0, []), zi0), (37, .iload_n 3, ([3], 0, 0, []), zi0), (38, .iload 5, ([], 0, 0, []), zi0), (40, .invokestatic 21, ([0, 1, 2], 0, 0, []), mi_AL_product), (43, .iload 4, ([], 0, 0, []), zi0), (45, .invokestatic 21, ([0, 1, 2], 0, 0, []), mi_AL_product), (48, .iload_n 3, ([3], 0, 0, []), zi0), (49, .invokevirtual 25, ([0, 1, 5], 0, 0, []), mi_PM_setImage), (52, .iinc 5 1, ([], nI 1, 0, []), zi0), (55, .goto (-32), ([23], 0, 0, []), zi0), (58, .iinc 3 1, ([], nI 1, 0, []), zi0), (61, .goto (-54), ([7], 0, 0, []), zi0), (64, .return_, ([], 0, 0, []), zi0)]
set_option maxRecDepth 100000 in
theorem oc_AL_makeGroupMap : cd_AL_makeGroupMap.all (zchk mi_AL_makeGroupMap) = true := by decide +kernel
set_option maxRecDepth 100000 in
theorem ow_AL_makeGroupMap : zWs mi_AL_makeGroupMap cd_AL_makeGroupMap := ⟨trivial, trivial, ⟨rfl, rfl, mv_PM_resize⟩, trivial, trivial, trivial, trivial, trivial, trivial, trivial, trivial, ⟨rfl, ms_AL_inverse⟩, trivial, trivial, trivial, trivial, trivial, trivial, trivial, trivial, trivial, trivial, trivial, trivial, trivial, trivial, trivial, ⟨rfl, ms_AL_product⟩, trivial, ⟨rfl, ms_AL_product⟩, trivial, ⟨rfl, rfl, mv_PM_setImage⟩, trivial, trivial, trivial, trivial, trivial, trivial⟩
theorem ok_AL_makeGroupMap : zgood2 mi_AL_makeGroupMap cd_AL_makeGroupMap := ⟨oc_AL_makeGroupMap, ow_AL_makeGroupMap⟩
def cu_CH_isBroken : List (Nat × List Nat) := []
def cd_CH_isBroken : List ZE := [(0, .aload_n 0, ([0], 0, 0, []), zi0), (1, .aload_n 0, ([0], 0, 0, []), zi0), (2, .aload_n 0, ([0], 0, 0, []), zi0), (3, .iload_n 1, ([1], 0, 0, []), zi0), (4, .iconst 3, ([], nI 3, 0, []), zi0), (5, .invokevirtual 37, ([0, 1, 90], 0, 0, []), mi_PM_appliedAt), (8, .iconst 0, ([], nI 0, 0, []), zi0), (9, .invokevirtual 37, ([0, 1, 90], 0, 0, []), mi_PM_appliedAt), (12, .iconst 3, ([], nI 3, 0, []), zi0), (13, .invokevirtual 37, ([0, 1, 90], 0, 0, []), mi_PM_appliedAt), (16, .istore_n 2, ([2], 0, 0, []), zi0), (17, .aload_n 0, ([0], 0, 0, []), zi0), (18, .aload_n 0, ([0], 0, 0, []), zi0), (19, .aload_n 0, ([0], 0, 0, []), zi0), (20, .iload_n 1, ([1], 0, 0, []), zi0), (21, .iconst 0, ([], nI 0, 0, []), zi0), (22, .invokevirtual 37, ([0, 1, 90], 0, 0, []), mi_PM_appliedAt), (25, .iconst 3, ([], nI 3, 0, []), zi0), (26, .invokevirtual 37, ([0, 1, 90], 0, 0, []), mi_PM_appliedAt), (29, .iconst 0, ([], nI 0, 0, []), zi0), (30, .invokevirtual 37, ([0, 1, 90], 0, 0, []), mi_PM_appliedAt), (33, .istore_n 3, ([3], 0, 0, []), zi0), (34, .iload_n 2, ([2], 0, 0, []), zi0), (35, .iload_n 3, ([3], 0, 0, []), zi0), (36, .if_icmp .eq 7, ([43], 0, 0, []), zi0), (39, .iconst 1, ([], nI 1, 0, []), zi0), (40, .goto 4, ([44], 0, 0, []), zi0), (43, .iconst 0, ([], nI 0, 0, []), zi0), (44, .ireturn, ([], 0, 0, []), zi0)]
set_option maxRecDepth 100000 in
theorem oc_CH_isBroken : cd_CH_isBroken.all (zchk mi_CH_isBroken) = true := by decide +kernel
set_option maxRecDepth 100000 in
theorem ow_CH_isBroken : zWs mi_CH_isBroken cd_CH_isBroken := ⟨trivial, trivial, trivial, trivial, trivial, ⟨rfl, rfl, mv_PM_appliedAt⟩, trivial, ⟨rfl, rfl, mv_PM_appliedAt⟩, trivial, ⟨rfl, rfl, mv_PM_appliedAt⟩, trivial, trivial, trivial, trivial, trivial, trivial, ⟨rfl, rfl, mv_PM_appliedAt⟩, trivial, ⟨rfl, rfl, mv_PM_appliedAt⟩, trivial, ⟨rfl, rfl, mv_PM_appliedAt⟩, trivial, trivial, trivial, trivial, trivial, trivial, trivial, trivial, trivial⟩
theorem ok_CH_isBroken : zgood2 mi_CH_isBroken cd_CH_isBroken := ⟨oc_CH_isBroken, ow_CH_isBroken⟩
def cu_CH_isLeftNondegenerate : List (Nat × List Nat) := [(7, [0, 1, 2]), (17, [0, 1, 2, 3, 4])]
def cd_CH_isLeftNondegenerate : List ZE := [(0, .aload_n 0, ([0], 0, 0, []), zi0), (1, .invokevirtual 9, ([0, 1, 86], 0, 0, []), mi_PM_points), (4, .istore_n 1, ([1], 0, 0, []), zi0), (5, .iconst 0, ([], nI 0, 0, []), zi0), (6, .istore_n 2, ([2], 0, 0, []), zi0), (7, .iload_n 2, ([2], 0, 0, []), zi0), (8, .iload_n 1, ([1], 0, 0, []), zi0), (9, .if_icmp .ge 49, ([58], 0, 0, []), zi0), (12, .iconst 0, ([], nI 0, 0, []), zi0), (13, .istore_n 3, ([3], 0, 0, []), zi0), (14, .iconst 0, ([], nI 0, 0, []), zi0), (15, .istore 4, ([], 0, 0, []), zi0), (17, .iload 4, ([], 0, 0, []), zi0), (19, .iload_n 1, ([1], 0, 0, []), zi0), (20, .if_icmp .ge 21, ([41], 0, 0, []), zi0), (23, .iload_n 3, ([3], 0, 0, []), zi0), (24, .iconst 1, ([], nI 1, 0, []), zi0), (25, .aload_n 0, ([0], 0, 0, []), zi0), (26, .iload_n 2, ([2], 0, 0, []), zi0), (27, .iload 4, ([], 0, 0, []), zi0), (29, .invokevirtual 31, ([0, 1, 118], 0, 0, []), mi_PM_left), (32, .ishl, ([], 0, 0, []), zi0), (33, .ior, ([], 0, 0, []), zi0), (34, .istore_n 3, ([3], 0, 0, []), zi0), (35, .iinc 4 1, ([], nI 1, 0, []), zi0), (38, .goto (-21), ([17], 0, 0, []), zi0), (41, .iload_n 3, ([3], 0, 0, []), zi0), (42, .iconst 1, ([], nI 1, 0, []), zi0), (43, .iload_n 1, ([1], 0, 0, []), zi0), (44, .ishl, ([], 0, 0, []), zi0), (45, .iconst 1, ([], nI 1, 0, []), zi0), (46, .isub, ([], 0, 0, []), zi0), (47, .if_icmp .eq 5, ([52], 0, 0, []), zi0), (50, .iconst 0, ([], nI 0, 0, []), zi0), (51, .ireturn, ([], 0, 0, []), zi0), (52, .iinc 2 1, ([], nI 1, 0, []), zi0), (55, .goto (-48), ([7], 0, 0, []), zi0), (58, .iconst 1, ([], nI 1, 0, []), zi0), (59, .ireturn, ([], 0, 0, []), zi0)]
set_option maxRecDepth 100000 in
theorem oc_CH_isLeftNondegenerate : cd_CH_isLeftNondegenerate.all (zchk mi_CH_isLeftNondegenerate) = true := by decide +kernel
set_option maxRecDepth 100000 in
theorem ow_CH_isLeftNondegenerate : zWs mi_CH_isLeftNondegenerate cd_CH_isLeftNondegenerate := ⟨trivial, ⟨rfl, rfl, mv_PM_points⟩, trivial, trivial, trivial, trivial, trivial, trivial, trivial, trivial, trivial, trivial, trivial, trivial, trivial, trivial, trivial, trivial, trivial, trivial, ⟨rfl, rfl, mv_PM_left⟩, trivial, trivial, trivial, trivial, trivial, trivial, trivial, trivial, trivial, trivial, trivial, trivial, trivial, trivial, trivial, trivial, trivial, trivial, trivial⟩
theorem ok_CH_isLeftNondegenerate : zgood2 mi_CH_isLeftNondegenerate cd_CH_isLeftNondegenerate := ⟨oc_CH_isLeftNondegenerate, ow_CH_isLeftNondegenerate⟩
def cu_CH_isRightNondegenerate : List (Nat × List Nat) := [(7, [0, 1, 2]), (17, [0, 1, 2, 3, 4])]
def cd_CH_isRightNondegenerate : List ZE := [(0, .aload_n 0, ([0], 0, 0, []), zi0), (1, .invokevirtual 9, ([0, 1, 86], 0, 0, []), mi_PM_points), (4, .istore_n 1, ([1], 0, 0, []), zi0), (5, .iconst 0, ([], nI 0, 0, []), zi0), (6, .istore_n 2, ([2], 0, 0, []), zi0), (7, .iload_n 2, ([2], 0, 0, []), zi0), (8, .iload_n 1, ([1], 0, 0, []), zi0), (9, .if_icmp .ge 49, ([58], 0, 0, []), zi0), (12, .iconst 0, ([], nI 0, 0, []), zi0), (13, .istore_n 3, ([3], 0, 0, []), zi0), (14, .iconst 0, ([], nI 0, 0, []), zi0), (15, .istore 4, ([], 0, 0, []), zi0), (17, .iload 4, ([], 0, 0, []), zi0), (19, .iload_n 1, ([1], 0, 0, []), zi0), (20, .if_icmp .ge 21, ([41], 0, 0, []), zi0), (23, .iload_n 3, ([3], 0, 0, []), zi0), (24, .iconst 1, ([], nI 1, 0, []), zi0), (25, .aload_n 0, ([0], 0, 0, []), zi0), (26, .iload 4, ([], 0, 0, []), zi0), (28, .iload_n 2, ([2], 0, 0, []), zi0), (29, .invokevirtual 34, ([0, 1, 122], 0, 0, []), mi_PM_right), (32, .ishl, ([], 0, 0, []), zi0), (33, .ior, ([], 0, 0, []), zi0), (34, .istore_n 3, ([3], 0, 0, []), zi0), (35, .iinc 4 1, ([], nI 1, 0, []), zi0), (38, .goto (-21), ([17], 0, 0, []), zi0), (41, .iload_n 3, ([3], 0, 0, []), zi0), (42, .iconst 1, ([], nI 1, 0, []), zi0), (43, .iload_n 1, ([1], 0, 0, []), zi0), (44, .ishl, ([], 0, 0, []), zi0), (45, .iconst 1, ([], nI 1, 0, []), zi0), (46, .isub, ([], 0, 0, []), zi0), (47, .if_icmp .eq 5, ([52], 0, 0, []), zi0), (50, .iconst 0, ([], nI 0, 0, []), zi0), (51, .ireturn, ([], 0, 0, []), zi0), (52, .iinc 2 1, ([], nI 1, 0, []), zi0), (55, .goto (-48), ([7], 0, 0, []), zi0), (58, .iconst 1, ([], nI 1, 0, []), zi0), (59, .ireturn, ([], 0, 0, []), zi0)]
set_option maxRecDepth 100000 in
theorem oc_CH_isRightNondegenerate : cd_CH_isRightNondegenerate.all (zchk mi_CH_isRightNondegenerate) = true := by decide +kernel
set_option maxRecDepth 100000 in
theorem ow_CH_isRightNondegenerate : zWs mi_CH_isRightNondegenerate cd_CH_isRightNondegenerate := ⟨trivial, ⟨rfl, rfl, mv_PM_points⟩, trivial, trivial, trivial, trivial, trivial, trivial, trivial, trivial, trivial, trivial, trivial, trivial, trivial, trivial, trivial, trivial, trivial, trivial, ⟨rfl, rfl, mv_PM_right⟩, trivial, trivial, trivial, trivial, trivial, trivial, trivial, trivial, trivial, trivial, trivial, trivial, trivial, trivial, trivial, trivial, trivial, trivial, trivial⟩
theorem ok_CH_isRightNondegenerate : zgood2 mi_CH_isRightNondegenerate cd_CH_isRightNondegenerate := ⟨oc_CH_isRightNondegenerate, ow_CH_isRightNondegenerate⟩
def cu_CH_periodOf : List (Nat × List Nat) := [(18, [0, 1, 2, 3]), (26, [0, 1, 2, 3, 4])]
def cd_CH_periodOf : List ZE := [(0, .aload_n 0, ([0], 0, 0, []), zi0), (1, .invokestatic 54, ([0, 1, 223], 0, 0, []), mi_CH_isBijective), (4, .ifCond .ne 5, ([9], 0, 0, []), zi0), (7, .iconst (-1), ([], (-1), 0, []), zi0), (8, .ireturn, ([], 0, 0, []), zi0), (9, .aload_n 0, ([0], 0, 0, []), zi0), (10, .invokevirtual 9, ([0, 1, 86], 0, 0, []), mi_PM_points), (13, .istore_n 1, ([1], 0, 0, []), zi0), (14, .iconst 1, ([], nI 1, 0, []), zi0), (15, .istore_n 2, ([2], 0, 0, []), zi0), (16, .iconst 0, ([], nI 0, 0, []), zi0), (17, .istore_n 3, ([3], 0, 0, []), zi0), (18, .iload_n 3, ([3], 0, 0, []), zi0), (19, .iload_n 1, ([1], 0, 0, []), zi0), (20, .if_icmp .ge 39, ([59], 0, 0, []), zi0), (23, .iconst 0, ([], nI 0, 0, []), zi0), (24, .istore 4, ([], 0, 0, []), zi0), (26, .iload 4, ([], 0, 0, []), zi0), (28, .iload_n 1, ([1], 0, 0, []), zi0), (29, .if_icmp .ge 24, ([53], 0, 0, []), zi0), (32, .iload_n 2, ([2], 0, 0, []), zi0), (33, .aload_n 0, ([0], 0, 0, []), zi0), (34, .iload_n 3, ([3], 0, 0, []), zi0), (35, .iload 4, ([], 0, 0, []), zi0), (37, .invokestatic 15, ([0, 1, 104], 0, 0, []), mi_CO_pairOf), (40, .invokestatic 58, ([0, 1, 224], 0, 0, []), mi_CH_cycleLength), (43, .invokestatic 62, ([0, 1, 227], 0, 0, []), mi_CO_commonMultiple), (46, .istore_n 2, ([2], 0, 0, []), zi0), (47, .iinc 4 1, ([], nI 1, 0, []), zi0), (50, .goto (-24), ([26], 0, 0, []), zi0), (53, .iinc 3 1, ([], nI 1, 0, []), zi0), (56, .goto (-38), ([18], 0, 0, []), zi0), (59, .iload_n 2, ([2], 0, 0, []), zi0), (60, .ireturn, ([], 0, 0, []), zi0)]
set_option maxRecDepth 100000 in
theorem oc_CH_periodOf : cd_CH_periodOf.all (zchk mi_CH_periodOf) = true := by decide +kernel
set_option maxRecDepth 100000 in
theorem ow_CH_periodOf : zWs mi_CH_periodOf cd_CH_periodOf := ⟨trivial, ⟨rfl, ms_CH_isBijective⟩, trivial, trivial, trivial, trivial, ⟨rfl, rfl, mv_PM_points⟩, trivial, trivial, trivial, trivial, trivial, trivial, trivial, trivial, trivial, trivial, trivial, trivial, trivial, trivial, trivial, trivial, trivial, ⟨rfl, ms_CO_pairOf⟩, ⟨rfl, ms_CH_cycleLength⟩, ⟨rfl, ms_CO_commonMultiple⟩, trivial, trivial, trivial, trivial, trivial, trivial, trivial, trivial⟩
theorem ok_CH_periodOf : zgood2 mi_CH_periodOf cd_CH_periodOf := ⟨oc_CH_periodOf, ow_CH_periodOf⟩
def cu_CH_withImages : List (Nat × List Nat) := [(10, [0, 1, 2, 3, 4]), (19, [0, 1, 2, 3, 4, 5])]
def cd_CH_withImages : List ZE := [(0, .aload_n 0, ([0], 0, 0, []), zi0), (1, .invokevirtual 9, ([0, 1, 86], 0, 0, []), mi_PM_points), (4, .istore_n 2, ([2], 0, 0, []), zi0), (5, .iload_n 1, ([1], 0, 0, []), zi0), (6, .istore_n 3, ([3], 0, 0, []), zi0), (7, .iconst 0, ([], nI 0, 0, []), zi0), (8, .istore 4, ([], 0, 0, []), zi0), (10, .iload 4, ([], 0, 0, []), zi0), (12, .iload_n 2, ([2], 0, 0, []), zi0), (13, .if_icmp .ge 62, ([75], 0, 0, []), zi0), (16, .iconst 0, ([], nI 0, 0, []), zi0), (17, .istore 5, ([], 0, 0, []), zi0), (19, .iload 5, ([], 0, 0, []), zi0), (21, .iload_n 2, ([2], 0, 0, []), zi0), (22, .if_icmp .ge 47, ([69], 0, 0, []), zi0), (25, .iload_n 1, ([1], 0, 0, []), zi0), (26, .iload 4, ([], 0, 0, []), zi0), (28, .ishr, ([], 0, 0, []), zi0), (29, .iload_n 1, ([1], 0, 0, []), zi0), (30, .iload 5, ([], 0, 0, []), zi0), (32, .ishr, ([], 0, 0, []), zi0), (33, .iand, ([], 0, 0, []), zi0), (34, .iconst 1, ([], nI 1, 0, []), zi0), (35, .iand, ([], 0, 0, []), zi0), (36, .ifCond .eq 27, ([63], 0, 0, []), zi0), (39, .iload_n 3, ([3], 0, 0, []), zi0), (40, .iconst 1, ([], nI 1, 0, []), zi0), (41, .aload_n 0, ([0], 0, 0, []), zi0), (42, .iload 4, ([], 0, 0, []), zi0), (44, .iload 5, ([], 0, 0, []), zi0), (46, .invokevirtual 31, ([0, 1, 118], 0, 0, []), mi_PM_left), (49, .ishl, ([], 0, 0, []), zi0), (50, .iconst 1, ([], nI 1, 0, []), zi0), (51, .aload_n 0, ([0], 0, 0, []), zi0), (52, .iload 4, ([], 0, 0, []), zi0), (54, .iload 5, ([], 0, 0, []), zi0), (56, .invokevirtual 34, ([0, 1, 122], 0, 0, []), mi_PM_right), (59, .ishl, ([], 0, 0, []), zi0), (60, .ior, ([], 0, 0, []), zi0), (61, .ior, ([], 0, 0, []), zi0), (62, .istore_n 3, ([3], 0, 0, []), zi0), (63, .iinc 5 1, ([], nI 1, 0, []), zi0), (66, .goto (-47), ([19], 0, 0, []), zi0), (69, .iinc 4 1, ([], nI 1, 0, []), zi0), (72, .goto (-62), ([10], 0, 0, []), zi0), (75, .iload_n 3, ([3], 0, 0, []), zi0), (76, .ireturn, ([], 0, 0, []), zi0)]
set_option maxRecDepth 100000 in
theorem oc_CH_withImages : cd_CH_withImages.all (zchk mi_CH_withImages) = true := by decide +kernel
set_option maxRecDepth 100000 in
theorem ow_CH_withImages : zWs mi_CH_withImages cd_CH_withImages := ⟨trivial, ⟨rfl, rfl, mv_PM_points⟩, trivial, trivial, trivial, trivial, trivial, trivial, trivial, trivial, trivial, trivial, trivial, trivial, trivial, trivial, trivial, trivial, trivial, trivial, trivial, trivial, trivial, trivial, trivial, trivial, trivial, trivial, trivial, trivial, ⟨rfl, rfl, mv_PM_left⟩, trivial, trivial, trivial, trivial, trivial, ⟨rfl, rfl, mv_PM_right⟩, trivial, trivial, trivial, trivial, trivial, trivial, trivial, trivial, trivial, trivial, trivial⟩
theorem ok_CH_withImages : zgood2 mi_CH_withImages cd_CH_withImages := ⟨oc_CH_withImages, ow_CH_withImages⟩
def cu_CH_withLinked : List (Nat × List Nat) := [(10, [0, 2, 3, 4]), (19, [0, 2, 3, 4, 5])]
def cd_CH_withLinked : List ZE := [(0, .aload_n 0, ([0], 0, 0, []), zi0), (1, .invokevirtual 9, ([0, 1, 86], 0, 0, []), mi_PM_points), (4, .istore_n 2, ([2], 0, 0, []), zi0), (5, .iload_n 1, ([1], 0, 0, []), zi0), (6, .istore_n 3, ([3], 0, 0, []), zi0), (7, .iconst 0, ([], nI 0, 0, []), zi0), (8, .istore 4, ([], 0, 0, []), zi0), (10, .iload 4, ([], 0, 0, []), zi0), (12, .iload_n 2, ([2], 0, 0, []), zi0), (13, .if_icmp .ge 54, ([67], 0, 0, []), zi0), (16, .iconst 0, ([], nI 0, 0, []), zi0), (17, .istore 5, ([], 0, 0, []), zi0), (19, .iload 5, ([], 0, 0, []), zi0), (21, .iload_n 2, ([2], 0, 0, []), zi0), (22, .if_icmp .ge 39, ([61], 0, 0, []), zi0), (25, .iload_n 3, ([3], 0, 0, []), zi0), (26, .iload 5, ([], 0, 0, []), zi0), (28, .aload_n 0, ([0], 0, 0, []), zi0), (29, .iload 4, ([], 0, 0, []), zi0), (31, .iload 5, ([], 0, 0, []), zi0), (33, .invokevirtual 31, ([0, 1, 118], 0, 0, []), mi_PM_left), (36, .invokestatic 68, ([0, 1, 135], 0, 0, []), mi_CH_joined), (39, .istore_n 3, ([3], 0, 0, []), zi0), (40, .iload_n 3, ([3], 0, 0, []), zi0), (41, .iload 4, ([], 0, 0, []), zi0), (43, .aload_n 0, ([0], 0, 0, []), zi0), (44, .iload 4, ([], 0, 0, []), zi0), (46, .iload 5, ([], 0, 0, []), zi0), (48, .invokevirtual 34, ([0, 1, 122], 0, 0, []), mi_PM_right), (51, .invokestatic 68, ([0, 1, 135], 0, 0, []), mi_CH_joined), (54, .istore_n 3, ([3], 0, 0, []), zi0), (55, .iinc 5 1, ([], nI 1, 0, []), zi0), (58, .goto (-39), ([19], 0, 0, []), zi0), (61, .iinc 4 1, ([], nI 1, 0, []), zi0), (64, .goto (-54), ([10], 0, 0, []), zi0), (67, .iload_n 3, ([3], 0, 0, []), zi0), (68, .ireturn, ([], 0, 0, []), zi0)]
set_option maxRecDepth 100000 in
theorem oc_CH_withLinked : cd_CH_withLinked.all (zchk mi_CH_withLinked) = true := by decide +kernel
set_option maxRecDepth 100000 in
theorem ow_CH_withLinked : zWs mi_CH_withLinked cd_CH_withLinked := ⟨trivial, ⟨rfl, rfl, mv_PM_points⟩, trivial, trivial, trivial, trivial, trivial, trivial, trivial, trivial, trivial, trivial, trivial, trivial, trivial, trivial, trivial, trivial, trivial, trivial, ⟨rfl, rfl, mv_PM_left⟩, ⟨rfl, ms_CH_joined⟩, trivial, trivial, trivial, trivial, trivial, trivial, ⟨rfl, rfl, mv_PM_right⟩, ⟨rfl, ms_CH_joined⟩, trivial, trivial, trivial, trivial, trivial, trivial, trivial, trivial⟩
theorem ok_CH_withLinked : zgood2 mi_CH_withLinked cd_CH_withLinked := ⟨oc_CH_withLinked, ow_CH_withLinked⟩
def cu_CO_isPermutation : List (Nat × List Nat) := [(4, [0, 1, 2, 3])]
def cd_CO_isPermutation : List ZE := [(0, .iconst 0, ([], nI 0, 0, []), zi0), (1, .istore_n 2, ([2], 0, 0, []), zi0), (2, .iconst 0, ([], nI 0, 0, []), zi0), (3, .istore_n 3, ([3], 0, 0, []), zi0), (4, .iload_n 3, ([3], 0, 0, []), zi0), (5, .iload_n 1, ([1], 0, 0, []), zi0), (6, .if_icmp .ge 19, ([25], 0, 0, []), zi0), (9, .iload_n 2, ([2], 0, 0, []), zi0), (10, .iconst 1, ([], nI 1, 0, []), zi0), (11, .iload_n 0, ([0], 0, 0, []), zi0), (12, .iload_n 3, ([3], 0, 0, []), zi0), (13, .invokestatic 7, ([0, 0, 220], 0, 0, []), mi_CO_digit), (16, .ishl, ([], 0, 0, []), zi0), (17, .ior, ([], 0, 0, []), zi0), (18, .istore_n 2, ([2], 0, 0, []), zi0), (19, .iinc 3 1, ([], nI 1, 0, []), zi0), (22, .goto (-18), ([4], 0, 0, []), zi0), (25, .iload_n 0, ([0], 0, 0, []), zi0), (26, .iload_n 1, ([1], 0, 0, []), zi0), (27, .iload_n 1, ([1], 0, 0, []), zi0), (28, .invokestatic 13, ([0, 0, 221], 0, 0, []), mi_CO_isCode), (31, .ifCond .eq 16, ([47], 0, 0, []), zi0), (34, .iload_n 2, ([2], 0, 0, []), zi0), (35, .iconst 1, ([], nI 1, 0, []), zi0), (36, .iload_n 1, ([1], 0, 0, []), zi0), (37, .ishl, ([], 0, 0, []), zi0), (38, .iconst 1, ([], nI 1, 0, []), zi0), (39, .isub, ([], 0, 0, []), zi0), (40, .if_icmp .ne 7, ([47], 0, 0, []), zi0), (43, .iconst 1, ([], nI 1, 0, []), zi0), (44, .goto 4, ([48], 0, 0, []), zi0), (47, .iconst 0, ([], nI 0, 0, []), zi0), (48, .ireturn, ([], 0, 0, []), zi0)]
set_option maxRecDepth 100000 in
theorem oc_CO_isPermutation : cd_CO_isPermutation.all (zchk mi_CO_isPermutation) = true := by decide +kernel
set_option maxRecDepth 100000 in
theorem ow_CO_isPermutation : zWs mi_CO_isPermutation cd_CO_isPermutation := ⟨trivial, trivial, trivial, trivial, trivial, trivial, trivial, trivial, trivial, trivial, trivial, ⟨rfl, ms_CO_digit⟩, trivial, trivial, trivial, trivial, trivial, trivial, trivial, trivial, ⟨rfl, ms_CO_isCode⟩, trivial, trivial, trivial, trivial, trivial, trivial, trivial, trivial, trivial, trivial, trivial, trivial, trivial⟩
theorem ok_CO_isPermutation : zgood2 mi_CO_isPermutation cd_CO_isPermutation := ⟨oc_CO_isPermutation, ow_CO_isPermutation⟩
def cu_PM_becomeInverse : List (Nat × List Nat) := [(10, [0, 1, 2]), (20, [0, 1, 2, 3])]
def cd_PM_becomeInverse : List ZE := [(0, .aload_n 0, ([0], 0, 0, []), zi0), (1, .aload_n 1, ([1], 0, 0, []), zi0), (2, .getfield 13, ([0, 1, 0, 34], 0, 0, []), zi0), (5, .putfield 13, ([0, 1, 0, 34], 0, 0, []), zi0), (8, .iconst 0, ([], nI 0, 0, []), zi0), (9, .istore_n 2, ([2], 0, 0, []), zi0), (10, .iload_n 2, ([2], 0, 0, []), zi0), (11, .aload_n 0, ([0], 0, 0, []), zi0), (12, .getfield 13, ([0, 1, 0, 34], 0, 0, []), zi0), (15, .if_icmp .ge 43, ([58], 0, 0, []), zi0), (18, .iconst 0, ([], nI 0, 0, []), zi0), (19, .istore_n 3, ([3], 0, 0, []), zi0), (20, .iload_n 3, ([3], 0, 0, []), zi0), (21, .aload_n 0, ([0], 0, 0, []), zi0), (22, .getfield 13, ([0, 1, 0, 34], 0, 0, []), zi0), (25, .if_icmp .ge 27, ([52], 0, 0, []), zi0), (28, .aload_n 0, ([0], 0, 0, []), zi0), (29, .aload_n 1, ([1], 0, 0, []), zi0), (30, .iload_n 2, ([2], 0, 0, []), zi0), (31, .iload_n 3, ([3], 0, 0, []), zi0), (32, .invokevirtual 47, ([0, 1, 64], 0, 0, []), mi_PM_left), (35, .aload_n 1, ([1], 0, 0, []), zi0), (36, .iload_n 2, ([2], 0, 0, []), zi0), (37, .iload_n 3, ([3], 0, 0, []), zi0), (38, .invokevirtual 50, ([0, 1, 69], 0, 0, []), mi_PM_right), (41, .iload_n 2, ([2], 0, 0, []), zi0), (42, .iload_n 3, ([3], 0, 0, []), zi0), (43, .invokevirtual 30, ([0, 0, 194], 0, 0, []), mi_PM_setImage), (46, .iinc 3 1, ([], nI 1, 0, []), zi0), (49, .goto (-29), ([20], 0, 0, []), zi0), (52, .iinc 2 1, ([], nI 1, 0, []), zi0), (55, .goto (-45), ([10], 0, 0, []), zi0), (58, .return_, ([], 0, 0, []), zi0)]
set_option maxRecDepth 100000 in
theorem oc_PM_becomeInverse : cd_PM_becomeInverse.all (zchk mi_PM_becomeInverse) = true := by decide +kernel
set_option maxRecDepth 100000 in
theorem ow_PM_becomeInverse : zWs mi_PM_becomeInverse cd_PM_becomeInverse := ⟨trivial, trivial, rfl, ⟨rfl, rfl⟩, trivial, trivial, trivial, trivial, rfl, trivial, trivial, trivial, trivial, trivial, rfl, trivial, trivial, trivial, trivial, trivial, ⟨rfl, rfl, mv_PM_left⟩, trivial, trivial, trivial, ⟨rfl, rfl, mv_PM_right⟩, trivial, trivial, ⟨rfl, rfl, mv_PM_setImage⟩, trivial, trivial, trivial, trivial, trivial, trivial⟩
theorem ok_PM_becomeInverse : zgood2 mi_PM_becomeInverse cd_PM_becomeInverse := ⟨oc_PM_becomeInverse, ow_PM_becomeInverse⟩
def cu_PM_becomeMirror : List (Nat × List Nat) := [(10, [0, 1, 2]), (20, [0, 1, 2, 3])]
def cd_PM_becomeMirror : List ZE := [(0, .aload_n 0, ([0], 0, 0, []), zi0), (1, .aload_n 1, ([1], 0, 0, []), zi0), (2, .getfield 13, ([0, 1, 0, 34], 0, 0, []), zi0), (5, .putfield 13, ([0, 1, 0, 34], 0, 0, []), zi0), (8, .iconst 0, ([], nI 0, 0, []), zi0), (9, .istore_n 2, ([2], 0, 0, []), zi0), (10, .iload_n 2, ([2], 0, 0, []), zi0), (11, .aload_n 0, ([0], 0, 0, []), zi0), (12, .getfield 13, ([0, 1, 0, 34], 0, 0, []), zi0), (15, .if_icmp .ge 43, ([58], 0, 0, []), zi0), (18, .iconst 0, ([], nI 0, 0, []), zi0), (19, .istore_n 3, ([3], 0, 0, []), zi0), (20, .iload_n 3, ([3], 0, 0, []), zi0), (21, .aload_n 0, ([0], 0, 0, []), zi0), (22, .getfield 13, ([0, 1, 0, 34], 0, 0, []), zi0), (25, .if_icmp .ge 27, ([52], 0, 0, []), zi0), (28, .aload_n 0, ([0], 0, 0, []), zi0), (29, .iload_n 2, ([2], 0, 0, []), zi0), (30, .iload_n 3, ([3], 0, 0, []), zi0), (31, .aload_n 1, ([1], 0, 0, []), zi0), (32, .iload_n 3, ([3], 0, 0, []), zi0), (33, .iload_n 2, ([2], 0, 0, []), zi0), (34, .invokevirtual 50, ([0, 1, 69], 0, 0, []), mi_PM_right), (37, .aload_n 1, ([1], 0, 0, []), zi0), (38, .iload_n 3, ([3], 0, 0, []), zi0), (39, .iload_n 2, ([2], 0, 0, []), zi0), (40, .invokevirtual 47, ([0, 1, 64], 0, 0, []), mi_PM_left), (43, .invokevirtual 30, ([0, 0, 194], 0, 0, []), mi_PM_setImage), (46, .iinc 3 1, ([], nI 1, 0, []), zi0), (49, .goto (-29), ([20], 0, 0, []), zi0), (52, .iinc 2 1, ([], nI 1, 0, []), zi0), (55, .goto (-45), ([10], 0, 0, []), zi0), (58, .return_, ([], 0, 0, []), zi0)]
set_option maxRecDepth 100000 in
theorem oc_PM_becomeMirror : cd_PM_becomeMirror.all (zchk mi_PM_becomeMirror) = true := by decide +kernel
set_option maxRecDepth 100000 in
theorem ow_PM_becomeMirror : zWs mi_PM_becomeMirror cd_PM_becomeMirror := ⟨trivial, trivial, rfl, ⟨rfl, rfl⟩, trivial, trivial, trivial, trivial, rfl, trivial, trivial, trivial, trivial, trivial, rfl, trivial, trivial, trivial, trivial, trivial, trivial, trivial, ⟨rfl, rfl, mv_PM_right⟩, trivial, trivial, trivial, ⟨rfl, rfl, mv_PM_left⟩, ⟨rfl, rfl, mv_PM_setImage⟩, trivial, trivial, trivial, trivial, trivial, trivial⟩
theorem ok_PM_becomeMirror : zgood2 mi_PM_becomeMirror cd_PM_becomeMirror := ⟨oc_PM_becomeMirror, ow_PM_becomeMirror⟩
def cu_PM_becomeRenamed : List (Nat × List Nat) := [(10, [0, 1, 2, 3]), (21, [0, 1, 2, 3, 4])]
def cd_PM_becomeRenamed : List ZE := [(0, .aload_n 0, ([0], 0, 0, []), zi0), (1, .aload_n 1, ([1], 0, 0, []), zi0), (2, .getfield 13, ([0, 1, 0, 34], 0, 0, []), zi0), (5, .putfield 13, ([0, 1, 0, 34], 0, 0, []), zi0), (8, .iconst 0, ([], nI 0, 0, []), zi0), (9, .istore_n 3, ([3], 0, 0, []), zi0), (10, .iload_n 3, ([3], 0, 0, []), zi0), (11, .aload_n 0, ([0], 0, 0, []), zi0), (12, .getfield 13, ([0, 1, 0, 34], 0, 0, []), zi0), (15, .if_icmp .ge 72, ([87], 0, 0, []), zi0), (18, .iconst 0, ([], nI 0, 0, []), zi0), (19, .istore 4, ([], 0, 0, []), zi0), (21, .iload 4, ([], 0, 0, []), zi0), (23, .aload_n 0, ([0], 0, 0, []), zi0), (24, .getfield 13, ([0, 1, 0, 34], 0, 0, []), zi0), (27, .if_icmp .ge 54, ([81], 0, 0, []), zi0), (30, .iload_n 2, ([2], 0, 0, []), zi0), (31, .aload_n 1, ([1], 0, 0, []), zi0), (32, .iload_n 3, ([3], 0, 0, []), zi0), (33, .iload 4, ([], 0, 0, []), zi0), (35, .invokevirtual 47, ([0, 1, 64], 0, 0, []), mi_PM_left), (38, .invokestatic 27, ([0, 0, 191], 0, 0, []), mi_CO_digit), (41, .istore 5, ([], 0, 0, []), zi0), (43, .iload_n 2, ([2], 0, 0, []), zi0), (44, .aload_n 1, ([1], 0, 0, []), zi0), (45, .iload_n 3, ([3], 0, 0, []), zi0), (46, .iload 4, ([], 0, 0, []), zi0), (48, .invokevirtual 50, ([0, 1, 69], 0, 0, []), mi_PM_right), (51, .invokestatic 27, ([0, 0, 191], 0, 0, []), mi_CO_digit), (54, .istore 6, ([], 0, 0, []), zi0), (56, .aload_n 0, ([0], 0, 0, []), zi0), (57, .iload_n 2, ([2], 0, 0, []), zi0), (58, .iload_n 3, ([3], 0, 0, []), zi0), (59, .invokestatic 27, ([0, 0, 191], 0, 0, []), mi_CO_digit), (62, .iload_n 2, ([2], 0, 0, []), zi0), (63, .iload 4, ([], 0, 0, []), zi0), (65, .invokestatic 27, ([0, 0, 191], 0, 0, []), mi_CO_digit), (68, .iload 5, ([], 0, 0, []), zi0), (70, .iload 6, ([], 0, 0, []), zi0), (72, .invokevirtual 30, ([0, 0, 194], 0, 0, []), mi_PM_setImage), (75, .iinc 4 1, ([], nI 1, 0, []), zi0), (78, .goto (-57), ([21], 0, 0, []), zi0), (81, .iinc 3 1, ([], nI 1, 0, []), zi0), (84, .goto (-74), ([10], 0, 0, []), zi0), (87, .return_, ([], 0, 0, []), zi0)]
set_option maxRecDepth 100000 in
theorem oc_PM_becomeRenamed : cd_PM_becomeRenamed.all (zchk mi_PM_becomeRenamed) = true := by decide +kernel
set_option maxRecDepth 100000 in
theorem ow_PM_becomeRenamed : zWs mi_PM_becomeRenamed cd_PM_becomeRenamed := ⟨trivial, trivial, rfl, ⟨rfl, rfl⟩, trivial, trivial, trivial, trivial, rfl, trivial, trivial, trivial, trivial, trivial, rfl, trivial, trivial, trivial, trivial, trivial, ⟨rfl, rfl, mv_PM_left⟩, ⟨rfl, ms_CO_digit⟩, trivial, trivial, trivial, trivial, trivial, ⟨rfl, rfl, mv_PM_right⟩, ⟨rfl, ms_CO_digit⟩, trivial, trivial, trivial, trivial, ⟨rfl, ms_CO_digit⟩, trivial, trivial, ⟨rfl, ms_CO_digit⟩, trivial, trivial, ⟨rfl, rfl, mv_PM_setImage⟩, trivial, trivial, trivial, trivial, trivial, trivial⟩
theorem ok_PM_becomeRenamed : zgood2 mi_PM_becomeRenamed cd_PM_becomeRenamed := ⟨oc_PM_becomeRenamed, ow_PM_becomeRenamed⟩
def cu_PM_becomeTwist : List (Nat × List Nat) := [(8, [0, 1, 2, 3, 4]), (17, [0, 1, 2, 3, 4, 5])]
def cd_PM_becomeTwist : List ZE := [(0, .aload_n 0, ([0], 0, 0, []), zi0), (1, .iload_n 1, ([1], 0, 0, []), zi0), (2, .putfield 13, ([0, 1, 0, 34], 0, 0, []), zi0), (5, .iconst 0, ([], nI 0, 0, []), zi0), (6, .istore 4, ([], 0, 0, []), zi0), (8, .iload 4, ([], 0, 0, []), zi0), (10, .iload_n 1, ([1], 0, 0, []), zi0), (11, .if_icmp .ge 44, ([55], 0, 0, []), zi0), (14, .iconst 0, ([], nI 0, 0, []), zi0), (15, .istore 5, ([], 0, 0, []), zi0), (17, .iload 5, ([], 0, 0, []), zi0), (19, .iload_n 1, ([1], 0, 0, []), zi0), (20, .if_icmp .ge 29, ([49], 0, 0, []), zi0), (23, .aload_n 0, ([0], 0, 0, []), zi0), (24, .iload 4, ([], 0, 0, []), zi0), (26, .iload 5, ([], 0, 0, []), zi0), (28, .iload_n 2, ([2], 0, 0, []), zi0), (29, .iload 5, ([], 0, 0, []), zi0), (31, .invokestatic 27, ([0, 0, 191], 0, 0, []), mi_CO_digit), (34, .iload_n 3, ([3], 0, 0, []), zi0), (35, .iload 4, ([], 0, 0, []), zi0), (37, .invokestatic 27, ([0, 0, 191], 0, 0, []), mi_CO_digit), (40, .invokevirtual 30, ([0, 0, 194], 0, 0, []), mi_PM_setImage), (43, .iinc 5 1, ([], nI 1, 0, []), zi0), (46, .goto (-29), ([17], 0, 0, []), zi0), (49, .iinc 4 1, ([], nI 1, 0, []), zi0), (52, .goto (-44), ([8], 0, 0, []), zi0), (55, .return_, ([], 0, 0, []), zi0)]
set_option maxRecDepth 100000 in
theorem oc_PM_becomeTwist : cd_PM_becomeTwist.all (zchk mi_PM_becomeTwist) = true := by decide +kernel
set_option maxRecDepth 100000 in
theorem ow_PM_becomeTwist : zWs mi_PM_becomeTwist cd_PM_becomeTwist := ⟨trivial, trivial, ⟨rfl, rfl⟩, trivial, trivial, trivial, trivial, trivial, trivial, trivial, trivial, trivial, trivial, trivial, trivial, trivial, trivial, trivial, ⟨rfl, ms_CO_digit⟩, trivial, trivial, ⟨rfl, ms_CO_digit⟩, ⟨rfl, rfl, mv_PM_setImage⟩, trivial, trivial, trivial, trivial, trivial, trivial⟩
theorem ok_PM_becomeTwist : zgood2 mi_PM_becomeTwist cd_PM_becomeTwist := ⟨oc_PM_becomeTwist, ow_PM_becomeTwist⟩
def cu_PM_setBlock : List (Nat × List Nat) := [(33, [0, 2, 3, 4, 5, 6, 7, 8]), (43, [0, 2, 3, 4, 5, 6, 7, 8, 9])]
def cd_PM_setBlock : List ZE := [(0, .aload_n 2, ([2], 0, 0, []), zi0), (1, .getfield 13, ([0, 1, 0, 34], 0, 0, []), zi0), (4, .istore 5, ([], 0, 0, []), zi0), (6, .aload_n 1, ([1], 0, 0, []), zi0), (7, .iload_n 3, ([3], 0, 0, []), zi0), (8, .iload 4, ([], 0, 0, []), zi0), (10, .invokevirtual 47, ([0, 1, 64], 0, 0, []), mi_PM_left), (13, .iload 5, ([], 0, 0, []), zi0), (15, .imul, ([], 0, 0, []), zi0), (16, .istore 6, ([], 0, 0, []), zi0), (18, .aload_n 1, ([1], 0, 0, []), zi0), (19, .iload_n 3, ([3], 0, 0, []), zi0), (20, .iload 4, ([], 0, 0, []), zi0), (22, .invokevirtual 50, ([0, 1, 69], 0, 0, []), mi_PM_right), (25, .iload 5, ([], 0, 0, []), zi0), (27, .imul, ([], 0, 0, []), zi0), (28, .istore 7, ([], 0, 0, []), zi0), (30, .iconst 0, ([], nI 0, 0, []), zi0), (31, .istore 8, ([], 0, 0, []), zi0), (33, .iload 8, ([], 0, 0, []), zi0), (35, .iload 5, ([], 0, 0, []), zi0), (37, .if_icmp .ge 66, ([103], 0, 0, []), zi0), (40, .iconst 0, ([], nI 0, 0, []), zi0), (41, .istore 9, ([], 0, 0, []), zi0), (43, .iload 9, ([], 0, 0, []), zi0), (45, .iload 5, ([], 0, 0, []), zi0), (47, .if_icmp .ge 50, ([97], 0, 0, []), zi0), (50, .aload_n 0, ([0], 0, 0, []), zi0), (51, .iload_n 3, ([3], 0, 0, []), zi0), (52, .iload 5, ([], 0, 0, []), zi0), (54, .imul, ([], 0, 0, []), zi0), (55, .iload 8, ([], 0, 0, []), zi0), (57, .iadd, ([], 0, 0, []), zi0), (58, .iload 4, ([], 0, 0, []), zi0), (60, .iload 5, ([], 0, 0, []), zi0), (62, .imul, ([], 0, 0, []), zi0), (63, .iload 9, ([], 0, 0, []), zi0), (65, .iadd, ([], 0, 0, []), zi0), (66, .iload 6, ([], 0, 0, []), zi0), (68, .aload_n 2, ([2], 0, 0, []), zi0), (69, .iload 8, ([], 0, 0, []), zi0), (71, .iload 9, ([], 0, 0, []), zi0), (73, .invokevirtual 47, ([0, 1, 64], 0, 0, []), mi_PM_left), (76, .iadd, ([], 0, 0, []), zi0), (77, .iload 7, ([], 0, 0, []), zi0), (79, .aload_n 2, ([2], 0, 0, []), zi0), (80, .iload 8, ([], 0, 0, []), zi0), (82, .iload 9, ([], 0, 0, []), zi0), (84, .invokevirtual 50, ([0, 1, 69], 0, 0, []), mi_PM_right), (87, .iadd, ([], 0, 0, []), zi0), (88, .invokevirtual 30, ([0, 0, 194], 0, 0, []), mi_PM_setImage), (91, .iinc 9 1, ([], nI 1, 0, []), zi0), (94, .goto (-51), ([43], 0, 0, []), zi0), (97, .iinc 8 1, ([], nI 1, 0, []), zi0), (100, .goto (-67), ([33], 0, 0, []), zi0), (103, .return_, ([], 0, 0, []), zi0)]
set_option maxRecDepth 100000 in
theorem oc_PM_setBlock : cd_PM_setBlock.all (zchk mi_PM_setBlock) = true := by decide +kernel
set_option maxRecDepth 100000 in
theorem ow_PM_setBlock : zWs mi_PM_setBlock cd_PM_setBlock := ⟨trivial, rfl, trivial, trivial, trivial, trivial, ⟨rfl, rfl, mv_PM_left⟩, trivial, trivial, trivial, trivial, trivial, trivial, ⟨rfl, rfl, mv_PM_right⟩, trivial, trivial, trivial, trivial, trivial, trivial, trivial, trivial, trivial, trivial, trivial, trivial, trivial, trivial, trivial, trivial, trivial, trivial, trivial, trivial, trivial, trivial, trivial, trivial, trivial, trivial, trivial, trivial, ⟨rfl, rfl, mv_PM_left⟩, trivial, trivial, trivial, trivial, trivial, ⟨rfl, rfl, mv_PM_right⟩, trivial, ⟨rfl, rfl, mv_PM_setImage⟩, trivial, trivial, trivial, trivial, trivial, trivial⟩
theorem ok_PM_setBlock : zgood2 mi_PM_setBlock cd_PM_setBlock := ⟨oc_PM_setBlock, ow_PM_setBlock⟩
def cu_PM_setShifted : List (Nat × List Nat) := [(2, [0, 1, 2, 3]), (13, [0, 1, 2, 3, 4])]
def cd_PM_setShifted : List ZE := [(0, .iconst 0, ([], nI 0, 0, []), zi0), (1, .istore_n 3, ([3], 0, 0, []), zi0), (2, .iload_n 3, ([3], 0, 0, []), zi0), (3, .aload_n 1, ([1], 0, 0, []), zi0), (4, .getfield 13, ([0, 1, 0, 34], 0, 0, []), zi0), (7, .if_icmp .ge 56, ([63], 0, 0, []), zi0), (10, .iconst 0, ([], nI 0, 0, []), zi0), (11, .istore 4, ([], 0, 0, []), zi0), (13, .iload 4, ([], 0, 0, []), zi0), (15, .aload_n 1, ([1], 0, 0, []), zi0), (16, .getfield 13, ([0, 1, 0, 34], 0, 0, []), zi0), (19, .if_icmp .ge 38, ([57], 0, 0, []), zi0), (22, .aload_n 0, ([0], 0, 0, []), zi0), (23, .iload_n 2, ([2], 0, 0, []), zi0), (24, .iload_n 3, ([3], 0, 0, []), zi0), (25, .iadd, ([], 0, 0, []), zi0), (26, .iload_n 2, ([2], 0, 0, []), zi0), (27, .iload 4, ([], 0, 0, []), zi0), (29, .iadd, ([], 0, 0, []), zi0), (30, .iload_n 2, ([2], 0, 0, []), zi0), (31, .aload_n 1, ([1], 0, 0, []), zi0), (32, .iload_n 3, ([3], 0, 0, []), zi0), (33, .iload 4, ([], 0, 0, []), zi0), (35, .invokevirtual 47, ([0, 1, 64], 0, 0, []), mi_PM_left), (38, .iadd, ([], 0, 0, []), zi0), (39, .iload_n 2, ([2], 0, 0, []), zi0), (40, .aload_n 1, ([1], 0, 0, []), zi0), (41, .iload_n 3, ([3], 0, 0, []), zi0), (42, .iload 4, ([], 0, 0, []), zi0), (44, .invokevirtual 50, ([0, 1, 69], 0, 0, []), mi_PM_right), (47, .iadd, ([], 0, 0, []), zi0), (48, .invokevirtual 30, ([0, 0, 194], 0, 0, []), mi_PM_setImage), (51, .iinc 4 1, ([], nI 1, 0, []), zi0), (54, .goto (-41), ([13], 0, 0, []), zi0), (57, .iinc 3 1, ([], nI 1, 0, []), zi0), (60, .goto (-58), ([2], 0, 0, []), zi0), (63, .return_, ([], 0, 0, []), zi0)]
set_option maxRecDepth 100000 in
theorem oc_PM_setShifted : cd_PM_setShifted.all (zchk mi_PM_setShifted) = true := by decide +kernel
set_option maxRecDepth 100000 in
theorem ow_PM_setShifted : zWs mi_PM_setShifted cd_PM_setShifted := ⟨trivial, trivial, trivial, trivial, rfl, trivial, trivial, trivial, trivial, trivial, rfl, trivial, trivial, trivial, trivial, trivial, trivial, trivial, trivial, trivial, trivial, trivial, trivial, ⟨rfl, rfl, mv_PM_left⟩, trivial, trivial, trivial, trivial, trivial, ⟨rfl, rfl, mv_PM_right⟩, trivial, ⟨rfl, rfl, mv_PM_setImage⟩, trivial, trivial, trivial, trivial, trivial, trivial⟩
theorem ok_PM_setShifted : zgood2 mi_PM_setShifted cd_PM_setShifted := ⟨oc_PM_setShifted, ow_PM_setShifted⟩
def cu_RG_followedBy : List (Nat × List Nat) := [(11, [0, 1, 2, 3, 4, 5])]
def cd_RG_followedBy : List ZE := [(0, .aload_n 1, ([1], 0, 0, []), zi0), (1, .invokevirtual 42, ([0, 1, 183], 0, 0, []), mi_PM_points), (4, .istore_n 3, ([3], 0, 0, []), zi0), (5, .iconst 0, ([], nI 0, 0, []), zi0), (6, .istore 4, ([], 0, 0, []), zi0), (8, .iconst 0, ([], nI 0, 0, []), zi0), (9, .istore 5, ([], 0, 0, []), zi0), (11, .iload 5, ([], 0, 0, []), zi0), (13, .bipush 6, ([], nI 6, 0, []), zi0), (15, .if_icmp .ge 45, ([60], 0, 0, []), zi0), (18, .iload_n 0, ([0], 0, 0, []), zi0), (19, .iload 5, ([], 0, 0, []), zi0), (21, .invokestatic 52, ([0, 1, 187], 0, 0, []), mi_CO_digit), (24, .istore 6, ([], 0, 0, []), zi0), (26, .iload 4, ([], 0, 0, []), zi0), (28, .iload 6, ([], 0, 0, []), zi0), (30, .iload_n 3, ([3], 0, 0, []), zi0), (31, .if_icmp .ge 13, ([44], 0, 0, []), zi0), (34, .aload_n 1, ([1], 0, 0, []), zi0), (35, .iload_n 2, ([2], 0, 0, []), zi0), (36, .iload 6, ([], 0, 0, []), zi0), (38, .invokevirtual 56, ([0, 1, 188], 0, 0, []), mi_PM_left), (41, .goto 5, ([46], 0, 0, []), zi0), (44, .iload 6, ([], 0, 0, []), zi0), (46, .iconst 3, ([], nI 3, 0, []), zi0), (47, .iload 5, ([], 0, 0, []), zi0), (49, .imul, ([], 0, 0, []), zi0), (50, .ishl, ([], 0, 0, []), zi0), (51, .ior, ([], 0, 0, []), zi0), (52, .istore 4, ([], 0, 0, []), zi0), (54, .iinc 5 1, ([], nI 1, 0, []), zi0), (57, .goto (-46), ([11], 0, 0, []), zi0), (60, .iload 4, ([], 0, 0, []), zi0), (62, .ireturn, ([], 0, 0, []), zi0)]
set_option maxRecDepth 100000 in
theorem oc_RG_followedBy : cd_RG_followedBy.all (zchk mi_RG_followedBy) = true := by decide +kernel
set_option maxRecDepth 100000 in
theorem ow_RG_followedBy : zWs mi_RG_followedBy cd_RG_followedBy := ⟨trivial, ⟨rfl, rfl, mv_PM_points⟩, trivial, trivial, trivial, trivial, trivial, trivial, trivial, trivial, trivial, trivial, ⟨rfl, ms_CO_digit⟩, trivial, trivial, trivial, trivial, trivial, trivial, trivial, trivial, ⟨rfl, rfl, mv_PM_left⟩, trivial, trivial, trivial, trivial, trivial, trivial, trivial, trivial, trivial, trivial, trivial, trivial, trivial⟩
theorem ok_RG_followedBy : zgood2 mi_RG_followedBy cd_RG_followedBy := ⟨oc_RG_followedBy, ow_RG_followedBy⟩
def cu_RN_renamedRows : List (Nat × List Nat) := [(10, [0, 1, 2, 3, 5]), (19, [0, 1, 2, 3, 5, 6])]
def cd_RN_renamedRows : List ZE := [(0, .aload_n 1, ([1], 0, 0, []), zi0), (1, .invokevirtual 15, ([0, 1, 193], 0, 0, []), mi_PM_points), (4, .istore_n 2, ([2], 0, 0, []), zi0), (5, .lconst 0, ([], 0, lN 0, []), zi0), (6, .lstore_n 3, ([3], 0, 0, []), zi0), (7, .iconst 0, ([], nI 0, 0, []), zi0), (8, .istore 5, ([], 0, 0, []), zi0), (10, .iload 5, ([], 0, 0, []), zi0), (12, .iload_n 2, ([2], 0, 0, []), zi0), (13, .if_icmp .ge 64, ([77], 0, 0, []), zi0), (16, .iconst 0, ([], nI 0, 0, []), zi0), (17, .istore 6, ([], 0, 0, []), zi0), (19, .iload 6, ([], 0, 0, []), zi0), (21, .iload_n 2, ([2], 0, 0, []), zi0), (22, .if_icmp .ge 49, ([71], 0, 0, []), zi0), (25, .aload_n 0, ([0], 0, 0, []), zi0), (26, .iload 5, ([], 0, 0, []), zi0), (28, .invokevirtual 53, ([4, 1, 205], 0, 0, []), mi_RN_imageOf), (31, .iload_n 2, ([2], 0, 0, []), zi0), (32, .imul, ([], 0, 0, []), zi0), (33, .aload_n 0, ([0], 0, 0, []), zi0), (34, .iload 6, ([], 0, 0, []), zi0), (36, .invokevirtual 53, ([4, 1, 205], 0, 0, []), mi_RN_imageOf), (39, .iadd, ([], 0, 0, []), zi0), (40, .istore 7, ([], 0, 0, []), zi0), (42, .lload_n 3, ([3], 0, 0, []), zi0), (43, .aload_n 0, ([0], 0, 0, []), zi0), (44, .aload_n 1, ([1], 0, 0, []), zi0), (45, .iload 5, ([], 0, 0, []), zi0), (47, .iload 6, ([], 0, 0, []), zi0), (49, .invokevirtual 56, ([0, 2, 13], 0, 0, []), mi_PM_left), (52, .invokevirtual 53, ([4, 1, 205], 0, 0, []), mi_RN_imageOf), (55, .i2l, ([], 0, 0, []), zi0), (56, .iload 7, ([], 0, 0, []), zi0), (58, .iload_n 2, ([2], 0, 0, []), zi0), (59, .invokestatic 60, ([0, 2, 14], 0, 0, []), mi_SL_shiftOf), (62, .lshl, ([], 0, 0, []), zi0), (63, .lor, ([], 0, 0, []), zi0), (64, .lstore_n 3, ([3], 0, 0, []), zi0), (65, .iinc 6 1, ([], nI 1, 0, []), zi0), (68, .goto (-49), ([19], 0, 0, []), zi0), (71, .iinc 5 1, ([], nI 1, 0, []), zi0), (74, .goto (-64), ([10], 0, 0, []), zi0), (77, .lload_n 3, ([3], 0, 0, []), zi0), (78, .lreturn, ([], 0, 0, []), zi0)]
set_option maxRecDepth 100000 in
theorem oc_RN_renamedRows : cd_RN_renamedRows.all (zchk mi_RN_renamedRows) = true := by decide +kernel
set_option maxRecDepth 100000 in
theorem ow_RN_renamedRows : zWs mi_RN_renamedRows cd_RN_renamedRows := ⟨trivial, ⟨rfl, rfl, mv_PM_points⟩, trivial, trivial, trivial, trivial, trivial, trivial, trivial, trivial, trivial, trivial, trivial, trivial, trivial, trivial, trivial, ⟨rfl, rfl, mv_RN_imageOf⟩, trivial, trivial, trivial, trivial, ⟨rfl, rfl, mv_RN_imageOf⟩, trivial, trivial, trivial, trivial, trivial, trivial, trivial, ⟨rfl, rfl, mv_PM_left⟩, ⟨rfl, rfl, mv_RN_imageOf⟩, trivial, trivial, trivial, ⟨rfl, ms_SL_shiftOf⟩, trivial, trivial, trivial, trivial, trivial, trivial, trivial, trivial, trivial, trivial⟩
theorem ok_RN_renamedRows : zgood2 mi_RN_renamedRows cd_RN_renamedRows := ⟨oc_RN_renamedRows, ow_RN_renamedRows⟩
def cu_RN_step : List (Nat × List Nat) := [(4, [0, 1, 2]), (38, [0, 1, 2, 3]), (78, [0, 4, 5])]
def cd_RN_step : List ZE := [(0, .iload_n 1, ([1], 0, 0, []), zi0), (1, .iconst 2, ([], nI 2, 0, []), zi0), (2, .isub, ([], 0, 0, []), zi0), (3, .istore_n 2, ([2], 0, 0, []), zi0), (4, .iload_n 2, ([2], 0, 0, []), zi0), (5, .ifCond .lt 24, ([29], 0, 0, []), zi0), (8, .aload_n 0, ([0], 0, 0, []), zi0), (9, .iload_n 2, ([2], 0, 0, []), zi0), (10, .invokevirtual 53, ([4, 1, 205], 0, 0, []), mi_RN_imageOf), (13, .aload_n 0, ([0], 0, 0, []), zi0), (14, .iload_n 2, ([2], 0, 0, []), zi0), (15, .iconst 1, ([], nI 1, 0, []), zi0), (16, .iadd, ([], 0, 0, []), zi0), (17, .invokevirtual 53, ([4, 1, 205], 0, 0, []), mi_RN_imageOf), (20, .if_icmp .le 9, ([29], 0, 0, []), zi0), (23, .iinc 2 (-1), ([], (-1), 0, []), zi0), (26, .goto (-22), ([4], 0, 0, []), zi0), (29, .iload_n 2, ([2], 0, 0, []), zi0), (30, .ifCond .ge 4, ([34], 0, 0, []), zi0), (33, .return_, ([], 0, 0, []), zi0), (34, .iload_n 1, ([1], 0, 0, []), zi0), (35, .iconst 1, ([], nI 1, 0, []), zi0), (36, .isub, ([], 0, 0, []), zi0), (37, .istore_n 3, ([3], 0, 0, []), zi0), (38, .iload_n 3, ([3], 0, 0, []), zi0), (39, .iload_n 2, ([2], 0, 0, []), zi0), (40, .if_icmp .le 22, ([62], 0, 0, []), zi0), (43, .aload_n 0, ([0], 0, 0, []), zi0), (44, .iload_n 3, ([3], 0, 0, []), zi0), (45, .invokevirtual 53, ([4, 1, 205], 0, 0, []), mi_RN_imageOf), (48, .aload_n 0, ([0], 0, 0, []), zi0), (49, .iload_n 2, ([2], 0, 0, []), zi0), (50, .invokevirtual 53, ([4, 1, 205], 0, 0, []), mi_RN_imageOf), (53, .if_icmp .ge 9, ([62], 0, 0, []), zi0), (56, .iinc 3 (-1), ([], (-1), 0, []), zi0), (59, .goto (-21), ([38], 0, 0, []), zi0), (62, .aload_n 0, ([0], 0, 0, []), zi0), (63, .iload_n 2, ([2], 0, 0, []), zi0), (64, .iload_n 3, ([3], 0, 0, []), zi0), (65, .invokevirtual 71, ([4, 1, 216], 0, 0, []), mi_RN_swap), (68, .iload_n 1, ([1], 0, 0, []), zi0), (69, .iconst 1, ([], nI 1, 0, []), zi0), (70, .isub, ([], 0, 0, []), zi0), (71, .istore 4, ([], 0, 0, []), zi0), (73, .iload_n 2, ([2], 0, 0, []), zi0), (74, .iconst 1, ([], nI 1, 0, []), zi0), (75, .iadd, ([], 0, 0, []), zi0), (76, .istore 5, ([], 0, 0, []), zi0), (78, .iload 5, ([], 0, 0, []), zi0), (80, .iload 4, ([], 0, 0, []), zi0), (82, .if_icmp .ge 20, ([102], 0, 0, []), zi0), (85, .aload_n 0, ([0], 0, 0, []), zi0), (86, .iload 5, ([], 0, 0, []), zi0), (88, .iload 4, ([], 0, 0, []), zi0), (90, .invokevirtual 71, ([4, 1, 216], 0, 0, []), mi_RN_swap), (93, .iinc 4 (-1), ([], (-1), 0, []), zi0), (96, .iinc 5 1, ([], nI 1, 0, []), zi0), (99, .goto (-21), ([78], 0, 0, []), zi0), (102, .return_, ([], 0, 0, []), zi0)]
set_option maxRecDepth 100000 in
theorem oc_RN_step : cd_RN_step.all (zchk mi_RN_step) = true := by decide +kernel
set_option maxRecDepth 100000 in
theorem ow_RN_step : zWs mi_RN_step cd_RN_step := ⟨trivial, trivial, trivial, trivial, trivial, trivial, trivial, trivial, ⟨rfl, rfl, mv_RN_imageOf⟩, trivial, trivial, trivial, trivial, ⟨rfl, rfl, mv_RN_imageOf⟩, trivial, trivial, trivial, trivial, trivial, trivial, trivial, trivial, trivial, trivial, trivial, trivial, trivial, trivial, trivial, ⟨rfl, rfl, mv_RN_imageOf⟩, trivial, trivial, ⟨rfl, rfl, mv_RN_imageOf⟩, trivial, trivial, trivial, trivial, trivial, trivial, ⟨rfl, rfl, mv_RN_swap⟩, trivial, trivial, trivial, trivial, trivial, trivial, trivial, trivial, trivial, trivial, trivial, trivial, trivial, trivial, ⟨rfl, rfl, mv_RN_swap⟩, trivial, trivial, trivial, trivial, trivial⟩
theorem ok_RN_step : zgood2 mi_RN_step cd_RN_step := ⟨oc_RN_step, ow_RN_step⟩
def cu_T_braidAt : List (Nat × List Nat) := []
def cd_T_braidAt : List ZE := [(0, .iload_n 1, ([1], 0, 0, []), zi0), (1, .invokestatic 264, ([0, 2, 65], 0, 0, []), mi_T_isBraid), (4, .ifCond .eq 12, ([16], 0, 0, []), zi0), (7, .aload_n 0, ([0], 0, 0, []), zi0), (8, .getfield 17, ([2, 1, 0, 140], 0, 0, []), zi0), (11, .iload_n 1, ([1], 0, 0, []), zi0), (12, .aaload, ([], 0, 0, []), zi0), (13, .goto 7, ([20], 0, 0, []), zi0), (16, .aload_n 0, ([0], 0, 0, []), zi0), (17, .getfield 27, ([2, 3, 0, 142], 0, 0, []), zi0), (20, .areturn, ([], 0, 0, []), zi0)]
set_option maxRecDepth 100000 in
theorem oc_T_braidAt : cd_T_braidAt.all (zchk mi_T_braidAt) = true := by decide +kernel
set_option maxRecDepth 100000 in
theorem ow_T_braidAt : zWs mi_T_braidAt cd_T_braidAt := ⟨trivial, ⟨rfl, ms_T_isBraid⟩, trivial, trivial, rfl, trivial, trivial, trivial, trivial, rfl, trivial, trivial⟩
theorem ok_T_braidAt : zgood2 mi_T_braidAt cd_T_braidAt := ⟨oc_T_braidAt, ow_T_braidAt⟩
def cu_T_keepMade : List (Nat × List Nat) := []
def cd_T_keepMade : List ZE := [(0, .iload_n 1, ([1], 0, 0, []), zi0), (1, .invokestatic 69, ([0, 0, 174], 0, 0, []), mi_T_isPlace), (4, .ifCond .ne 6, ([10], 0, 0, []), zi0), (7, .ldc 73, ([0, 180], (-1000001), 0, []), zi0), (9, .ireturn, ([], 0, 0, []), zi0), (10, .aload_n 0, ([0], 0, 0, []), zi0), (11, .getfield 11, ([2, 0, 0, 139], 0, 0, []), zi0), (14, .iload_n 1, ([1], 0, 0, []), zi0), (15, .aaload, ([], 0, 0, []), zi0), (16, .aload_n 0, ([0], 0, 0, []), zi0), (17, .getfield 31, ([2, 4, 0, 143], 0, 0, []), zi0), (20, .invokevirtual 329, ([0, 0, 205], 0, 0, []), mi_PM_copy), (23, .aload_n 0, ([0], 0, 0, []), zi0), (24, .getfield 31, ([2, 4, 0, 143], 0, 0, []), zi0), (27, .invokevirtual 155, ([0, 0, 209], 0, 0, []), mi_PM_points), (30, .ireturn, ([], 0, 0, []), zi0)]
set_option maxRecDepth 100000 in
theorem oc_T_keepMade : cd_T_keepMade.all (zchk mi_T_keepMade) = true := by decide +kernel
set_option maxRecDepth 100000 in
theorem ow_T_keepMade : zWs mi_T_keepMade cd_T_keepMade := ⟨trivial, ⟨rfl, ms_T_isPlace⟩, trivial, rfl, trivial, trivial, rfl, trivial, trivial, trivial, rfl, ⟨rfl, rfl, mv_PM_copy⟩, trivial, rfl, ⟨rfl, rfl, mv_PM_points⟩, trivial, trivial⟩
theorem ok_T_keepMade : zgood2 mi_T_keepMade cd_T_keepMade := ⟨oc_T_keepMade, ow_T_keepMade⟩
def cu_T_mapAt : List (Nat × List Nat) := []
def cd_T_mapAt : List ZE := [(0, .iload_n 1, ([1], 0, 0, []), zi0), (1, .invokestatic 69, ([0, 0, 174], 0, 0, []), mi_T_isPlace), (4, .ifCond .eq 12, ([16], 0, 0, []), zi0), (7, .aload_n 0, ([0], 0, 0, []), zi0), (8, .getfield 11, ([2, 0, 0, 139], 0, 0, []), zi0), (11, .iload_n 1, ([1], 0, 0, []), zi0), (12, .aaload, ([], 0, 0, []), zi0), (13, .goto 7, ([20], 0, 0, []), zi0), (16, .aload_n 0, ([0], 0, 0, []), zi0), (17, .getfield 22, ([2, 2, 0, 141], 0, 0, []), zi0), (20, .areturn, ([], 0, 0, []), zi0)]
set_option maxRecDepth 100000 in
theorem oc_T_mapAt : cd_T_mapAt.all (zchk mi_T_mapAt) = true := by decide +kernel
set_option maxRecDepth 100000 in
theorem ow_T_mapAt : zWs mi_T_mapAt cd_T_mapAt := ⟨trivial, ⟨rfl, ms_T_isPlace⟩, trivial, trivial, rfl, trivial, trivial, trivial, trivial, rfl, trivial, trivial⟩
theorem ok_T_mapAt : zgood2 mi_T_mapAt cd_T_mapAt := ⟨oc_T_mapAt, ow_T_mapAt⟩
def cu_AC_smallestTwin : List (Nat × List Nat) := [(2, [0, 1, 2])]
def cd_AC_smallestTwin : List ZE := [(0, .iconst 0, ([], nI 0, 0, []), zi0), (1, .istore_n 2, ([2], 0, 0, []), zi0), (2, .iload_n 2, ([2], 0, 0, []), zi0), (3, .iload_n 1, ([1], 0, 0, []), zi0), (4, .if_icmp .ge 20, ([24], 0, 0, []), zi0), (7, .aload_n 0, ([0], 0, 0, []), zi0), (8, .iload_n 1, ([1], 0, 0, []), zi0), (9, .iload_n 2, ([2], 0, 0, []), zi0), (10, .invokestatic 44, ([0, 1, 151], 0, 0, []), mi_AC_areTwins), (13, .ifCond .eq 5, ([18], 0, 0, []), zi0), (16, .iload_n 2, ([2], 0, 0, []), zi0), (17, .ireturn, ([], 0, 0, []), zi0), (18, .iinc 2 1, ([], nI 1, 0, []), zi0), (21, .goto (-19), ([2], 0, 0, []), zi0), (24, .iload_n 1, ([1], 0, 0, []), zi0), (25, .ireturn, ([], 0, 0, []), zi0)]
set_option maxRecDepth 100000 in
theorem oc_AC_smallestTwin : cd_AC_smallestTwin.all (zchk mi_AC_smallestTwin) = true := by decide +kernel
set_option maxRecDepth 100000 in
theorem ow_AC_smallestTwin : zWs mi_AC_smallestTwin cd_AC_smallestTwin := ⟨trivial, trivial, trivial, trivial, trivial, trivial, trivial, trivial, ⟨rfl, ms_AC_areTwins⟩, trivial, trivial, trivial, trivial, trivial, trivial, trivial, trivial⟩
theorem ok_AC_smallestTwin : zgood2 mi_AC_smallestTwin cd_AC_smallestTwin := ⟨oc_AC_smallestTwin, ow_AC_smallestTwin⟩
def cu_CH_brokenTriples : List (Nat × List Nat) := [(12, [0, 1, 2, 3, 4])]
def cd_CH_brokenTriples : List ZE := [(0, .aload_n 0, ([0], 0, 0, []), zi0), (1, .invokevirtual 9, ([0, 1, 86], 0, 0, []), mi_PM_points), (4, .istore_n 1, ([1], 0, 0, []), zi0), (5, .iconst 0, ([], nI 0, 0, []), zi0), (6, .istore_n 2, ([2], 0, 0, []), zi0), (7, .iconst 0, ([], nI 0, 0, []), zi0), (8, .istore_n 3, ([3], 0, 0, []), zi0), (9, .iconst 0, ([], nI 0, 0, []), zi0), (10, .istore 4, ([], 0, 0, []), zi0), (12, .iload 4, ([], 0, 0, []), zi0), (14, .iload_n 1, ([1], 0, 0, []), zi0), (15, .iload_n 1, ([1], 0, 0, []), zi0), (16, .imul, ([], 0, 0, []), zi0), (17, .iload_n 1, ([1], 0, 0, []), zi0), (18, .imul, ([], 0, 0, []), zi0), (19, .if_icmp .ge 27, ([46], 0, 0, []), zi0), (22, .iload_n 2, ([2], 0, 0, []), zi0), (23, .aload_n 0, ([0], 0, 0, []), zi0), (24, .iload_n 3, ([3], 0, 0, []), zi0), (25, .invokestatic 40, ([0, 1, 87], 0, 0, []), mi_CH_isBroken), (28, .invokestatic 46, ([1, 1, 94], 0, 0, []), mi_T_oneIf), (31, .iadd, ([], 0, 0, []), zi0), (32, .istore_n 2, ([2], 0, 0, []), zi0), (33, .iload_n 3, ([3], 0, 0, []), zi0), (34, .iconst 3, ([], nI 3, 0, []), zi0), (35, .iload_n 1, ([1], 0, 0, []), zi0), (36, .invokestatic 50, ([0, 1, 97], 0, 0, []), mi_CO_next), (39, .istore_n 3, ([3], 0, 0, []), zi0), (40, .iinc 4 1, ([], nI 1, 0, []), zi0), (43, .goto (-31), ([12], 0, 0, []), zi0), (46, .iload_n 2, ([2], 0, 0, []), zi0), (47, .ireturn, ([], 0, 0, []), zi0)]
set_option maxRecDepth 100000 in
theorem oc_CH_brokenTriples : cd_CH_brokenTriples.all (zchk mi_CH_brokenTriples) = true := by decide +kernel
set_option maxRecDepth 100000 in
theorem ow_CH_brokenTriples : zWs mi_CH_brokenTriples cd_CH_brokenTriples := ⟨trivial, ⟨rfl, rfl, mv_PM_points⟩, trivial, trivial, trivial, trivial, trivial, trivial, trivial, trivial, trivial, trivial, trivial, trivial, trivial, trivial, trivial, trivial, trivial, ⟨rfl, ms_CH_isBroken⟩, ⟨rfl, ms_T_oneIf⟩, trivial, trivial, trivial, trivial, trivial, ⟨rfl, ms_CO_next⟩, trivial, trivial, trivial, trivial, trivial, trivial⟩
theorem ok_CH_brokenTriples : zgood2 mi_CH_brokenTriples cd_CH_brokenTriples := ⟨oc_CH_brokenTriples, ow_CH_brokenTriples⟩
def cu_CH_closedSets : List (Nat × List Nat) := [(4, [0, 1, 2])]
def cd_CH_closedSets : List ZE := [(0, .iconst 0, ([], nI 0, 0, []), zi0), (1, .istore_n 1, ([1], 0, 0, []), zi0), (2, .iconst 0, ([], nI 0, 0, []), zi0), (3, .istore_n 2, ([2], 0, 0, []), zi0), (4, .iload_n 2, ([2], 0, 0, []), zi0), (5, .iconst 1, ([], nI 1, 0, []), zi0), (6, .aload_n 0, ([0], 0, 0, []), zi0), (7, .invokevirtual 9, ([0, 1, 86], 0, 0, []), mi_PM_points), (10, .ishl, ([], 0, 0, []), zi0), (11, .if_icmp .ge 29, ([40], 0, 0, []), zi0), (14, .iload_n 1, ([1], 0, 0, []), zi0), (15, .aload_n 0, ([0], 0, 0, []), zi0), (16, .iload_n 2, ([2], 0, 0, []), zi0), (17, .invokestatic 74, ([0, 1, 233], 0, 0, []), mi_CH_withImages), (20, .iload_n 2, ([2], 0, 0, []), zi0), (21, .if_icmp .ne 7, ([28], 0, 0, []), zi0), (24, .iconst 1, ([], nI 1, 0, []), zi0), (25, .goto 4, ([29], 0, 0, []), zi0), (28, .iconst 0, ([], nI 0, 0, []), zi0), (29, .invokestatic 46, ([1, 1, 94], 0, 0, []), mi_T_oneIf), (32, .iadd, ([], 0, 0, []), zi0), (33, .istore_n 1, ([1], 0, 0, []), zi0), (34, .iinc 2 1, ([], nI 1, 0, []), zi0), (37, .goto (-33), ([4], 0, 0, []), zi0), (40, .iload_n 1, ([1], 0, 0, []), zi0), (41, .ireturn, ([], 0, 0, []), zi0)]
set_option maxRecDepth 100000 in
theorem oc_CH_closedSets : cd_CH_closedSets.all (zchk mi_CH_closedSets) = true := by decide +kernel
set_option maxRecDepth 100000 in
theorem ow_CH_closedSets : zWs mi_CH_closedSets cd_CH_closedSets := ⟨trivial, trivial, trivial, trivial, trivial, trivial, trivial, ⟨rfl, rfl, mv_PM_points⟩, trivial, trivial, trivial, trivial, trivial, ⟨rfl, ms_CH_withImages⟩, trivial, trivial, trivial, trivial, trivial, ⟨rfl, ms_T_oneIf⟩, trivial, trivial, trivial, trivial, trivial, trivial, trivial⟩
theorem ok_CH_closedSets : zgood2 mi_CH_closedSets cd_CH_closedSets := ⟨oc_CH_closedSets, ow_CH_closedSets⟩
def cu_CH_closureOf : List (Nat × List Nat) := [(4, [0, 2, 3])]
def cd_CH_closureOf : List ZE := [(0, .iload_n 1, ([1], 0, 0, []), zi0), (1, .istore_n 2, ([2], 0, 0, []), zi0), (2, .iconst 0, ([], nI 0, 0, []), zi0), (3, .istore_n 3, ([3], 0, 0, []), zi0), (4, .iload_n 3, ([3], 0, 0, []), zi0), (5, .aload_n 0, ([0], 0, 0, []), zi0), (6, .invokevirtual 9, ([0, 1, 86], 0, 0, []), mi_PM_points), (9, .if_icmp .ge 15, ([24], 0, 0, []), zi0), (12, .aload_n 0, ([0], 0, 0, []), zi0), (13, .iload_n 2, ([2], 0, 0, []), zi0), (14, .invokestatic 74, ([0, 1, 233], 0, 0, []), mi_CH_withImages), (17, .istore_n 2, ([2], 0, 0, []), zi0), (18, .iinc 3 1, ([], nI 1, 0, []), zi0), (21, .goto (-17), ([4], 0, 0, []), zi0), (24, .iload_n 2, ([2], 0, 0, []), zi0), (25, .ireturn, ([], 0, 0, []), zi0)]
set_option maxRecDepth 100000 in
theorem oc_CH_closureOf : cd_CH_closureOf.all (zchk mi_CH_closureOf) = true := by decide +kernel
set_option maxRecDepth 100000 in
theorem ow_CH_closureOf : zWs mi_CH_closureOf cd_CH_closureOf := ⟨trivial, trivial, trivial, trivial, trivial, trivial, ⟨rfl, rfl, mv_PM_points⟩, trivial, trivial, trivial, ⟨rfl, ms_CH_withImages⟩, trivial, trivial, trivial, trivial, trivial, trivial⟩
theorem ok_CH_closureOf : zgood2 mi_CH_closureOf cd_CH_closureOf := ⟨oc_CH_closureOf, ow_CH_closureOf⟩
def cu_CH_orbitOf : List (Nat × List Nat) := [(6, [0, 2, 3])]
def cd_CH_orbitOf : List ZE := [(0, .iconst 1, ([], nI 1, 0, []), zi0), (1, .iload_n 1, ([1], 0, 0, []), zi0), (2, .ishl, ([], 0, 0, []), zi0), (3, .istore_n 2, ([2], 0, 0, []), zi0), (4, .iconst 0, ([], nI 0, 0, []), zi0), (5, .istore_n 3, ([3], 0, 0, []), zi0), (6, .iload_n 3, ([3], 0, 0, []), zi0), (7, .aload_n 0, ([0], 0, 0, []), zi0), (8, .invokevirtual 9, ([0, 1, 86], 0, 0, []), mi_PM_points), (11, .if_icmp .ge 15, ([26], 0, 0, []), zi0), (14, .aload_n 0, ([0], 0, 0, []), zi0), (15, .iload_n 2, ([2], 0, 0, []), zi0), (16, .invokestatic 65, ([0, 1, 132], 0, 0, []), mi_CH_withLinked), (19, .istore_n 2, ([2], 0, 0, []), zi0), (20, .iinc 3 1, ([], nI 1, 0, []), zi0), (23, .goto (-17), ([6], 0, 0, []), zi0), (26, .iload_n 2, ([2], 0, 0, []), zi0), (27, .ireturn, ([], 0, 0, []), zi0)]
set_option maxRecDepth 100000 in
theorem oc_CH_orbitOf : cd_CH_orbitOf.all (zchk mi_CH_orbitOf) = true := by decide +kernel
set_option maxRecDepth 100000 in
theorem ow_CH_orbitOf : zWs mi_CH_orbitOf cd_CH_orbitOf := ⟨trivial, trivial, trivial, trivial, trivial, trivial, trivial, trivial, ⟨rfl, rfl, mv_PM_points⟩, trivial, trivial, trivial, ⟨rfl, ms_CH_withLinked⟩, trivial, trivial, trivial, trivial, trivial, trivial⟩
theorem ok_CH_orbitOf : zgood2 mi_CH_orbitOf cd_CH_orbitOf := ⟨oc_CH_orbitOf, ow_CH_orbitOf⟩
def cu_PM_becomeFlip : List (Nat × List Nat) := []
def cd_PM_becomeFlip : List ZE := [(0, .aload_n 0, ([0], 0, 0, []), zi0), (1, .iload_n 1, ([1], 0, 0, []), zi0), (2, .ldc 34, ([0, 186], nI 181896, 0, []), zi0), (4, .ldc 34, ([0, 186], nI 181896, 0, []), zi0), (6, .invokevirtual 35, ([0, 0, 187], 0, 0, []), mi_PM_becomeTwist), (9, .return_, ([], 0, 0, []), zi0)]
set_option maxRecDepth 100000 in
theorem oc_PM_becomeFlip : cd_PM_becomeFlip.all (zchk mi_PM_becomeFlip) = true := by decide +kernel
set_option maxRecDepth 100000 in
theorem ow_PM_becomeFlip : zWs mi_PM_becomeFlip cd_PM_becomeFlip := ⟨trivial, trivial, rfl, rfl, ⟨rfl, rfl, mv_PM_becomeTwist⟩, trivial, trivial⟩
theorem ok_PM_becomeFlip : zgood2 mi_PM_becomeFlip cd_PM_becomeFlip := ⟨oc_PM_becomeFlip, ow_PM_becomeFlip⟩
def cu_PM_becomeProduct : List (Nat × List Nat) := [(15, [0, 1, 2, 3]), (26, [0, 1, 2, 3, 4])]
def cd_PM_becomeProduct : List ZE := [(0, .aload_n 0, ([0], 0, 0, []), zi0), (1, .aload_n 1, ([1], 0, 0, []), zi0), (2, .getfield 13, ([0, 1, 0, 34], 0, 0, []), zi0), (5, .aload_n 2, ([2], 0, 0, []), zi0), (6, .getfield 13, ([0, 1, 0, 34], 0, 0, []), zi0), (9, .imul, ([], 0, 0, []), zi0), (10, .putfield 13, ([0, 1, 0, 34], 0, 0, []), zi0), (13, .iconst 0, ([], nI 0, 0, []), zi0), (14, .istore_n 3, ([3], 0, 0, []), zi0), (15, .iload_n 3, ([3], 0, 0, []), zi0), (16, .aload_n 1, ([1], 0, 0, []), zi0), (17, .getfield 13, ([0, 1, 0, 34], 0, 0, []), zi0), (20, .if_icmp .ge 36, ([56], 0, 0, []), zi0), (23, .iconst 0, ([], nI 0, 0, []), zi0), (24, .istore 4, ([], 0, 0, []), zi0), (26, .iload 4, ([], 0, 0, []), zi0), (28, .aload_n 1, ([1], 0, 0, []), zi0), (29, .getfield 13, ([0, 1, 0, 34], 0, 0, []), zi0), (32, .if_icmp .ge 18, ([50], 0, 0, []), zi0), (35, .aload_n 0, ([0], 0, 0, []), zi0), (36, .aload_n 1, ([1], 0, 0, []), zi0), (37, .aload_n 2, ([2], 0, 0, []), zi0), (38, .iload_n 3, ([3], 0, 0, []), zi0), (39, .iload 4, ([], 0, 0, []), zi0), (41, .invokevirtual 53, ([0, 2, 143], 0, 0, []), mi_PM_setBlock), (44, .iinc 4 1, ([], nI 1, 0, []), zi0), (47, .goto (-21), ([26], 0, 0, []), zi0), (50, .iinc 3 1, ([], nI 1, 0, []), zi0), (53, .goto (-38), ([15], 0, 0, []), zi0), (56, .return_, ([], 0, 0, []), zi0)]
set_option maxRecDepth 100000 in
theorem oc_PM_becomeProduct : cd_PM_becomeProduct.all (zchk mi_PM_becomeProduct) = true := by decide +kernel
set_option maxRecDepth 100000 in
theorem ow_PM_becomeProduct : zWs mi_PM_becomeProduct cd_PM_becomeProduct := ⟨trivial, trivial, rfl, trivial, rfl, trivial, ⟨rfl, rfl⟩, trivial, trivial, trivial, trivial, rfl, trivial, trivial, trivial, trivial, trivial, rfl, trivial, trivial, trivial, trivial, trivial, trivial, ⟨rfl, rfl, mv_PM_setBlock⟩, trivial, trivial, trivial, trivial, trivial, trivial⟩
theorem ok_PM_becomeProduct : zgood2 mi_PM_becomeProduct cd_PM_becomeProduct := ⟨oc_PM_becomeProduct, ow_PM_becomeProduct⟩
def cu_RG_orderFor : List (Nat × List Nat) := [(30, [0, 1, 2]), (47, [0, 1, 2, 3])]
def cd_RG_orderFor : List ZE := [(0, .aload_n 1, ([1], 0, 0, []), zi0), (1, .invokestatic 23, ([0, 1, 174], 0, 0, []), mi_CH_isLeftNondegenerate), (4, .ifCond .ne 5, ([9], 0, 0, []), zi0), (7, .iconst (-1), ([], (-1), 0, []), zi0), (8, .ireturn, ([], 0, 0, []), zi0), (9, .aload_n 0, ([0], 0, 0, []), zi0), (10, .getfield 15, ([5, 1, 0, 98], 0, 0, []), zi0), (13, .lconst 0, ([], 0, lN 0, []), zi0), (14, .invokestatic 29, ([0, 1, 175], 0, 0, []), mi_JA_fill), (17, .aload_n 0, ([0], 0, 0, []), zi0), (18, .iconst 0, ([], nI 0, 0, []), zi0), (19, .putfield 19, ([5, 2, 0, 99], 0, 0, []), zi0), (22, .aload_n 0, ([0], 0, 0, []), zi0), (23, .ldc 37, ([1, 178], nI 181896, 0, []), zi0), (25, .invokevirtual 38, ([5, 1, 179], 0, 0, []), mi_RG_add), (28, .iconst 0, ([], nI 0, 0, []), zi0), (29, .istore_n 2, ([2], 0, 0, []), zi0), (30, .iload_n 2, ([2], 0, 0, []), zi0), (31, .sipush 720, ([], nI 720, 0, []), zi0), (34, .if_icmp .ge 48, ([82], 0, 0, []), zi0), (37, .iload_n 2, ([2], 0, 0, []), zi0), (38, .aload_n 0, ([0], 0, 0, []), zi0), (39, .getfield 19, ([5, 2, 0, 99], 0, 0, []), zi0), (42, .if_icmp .ge 40, ([82], 0, 0, []), zi0), (45, .iconst 0, ([], nI 0, 0, []), zi0), (46, .istore_n 3, ([3], 0, 0, []), zi0), (47, .iload_n 3, ([3], 0, 0, []), zi0), (48, .aload_n 1, ([1], 0, 0, []), zi0), (49, .invokevirtual 42, ([0, 1, 183], 0, 0, []), mi_PM_points), (52, .if_icmp .ge 24, ([76], 0, 0, []), zi0), (55, .aload_n 0, ([0], 0, 0, []), zi0), (56, .aload_n 0, ([0], 0, 0, []), zi0), (57, .getfield 11, ([5, 0, 0, 97], 0, 0, []), zi0), (60, .iload_n 2, ([2], 0, 0, []), zi0), (61, .iaload, ([], 0, 0, []), zi0), (62, .aload_n 1, ([1], 0, 0, []), zi0), (63, .iload_n 3, ([3], 0, 0, []), zi0), (64, .invokestatic 48, ([0, 1, 184], 0, 0, []), mi_RG_followedBy), (67, .invokevirtual 38, ([5, 1, 179], 0, 0, []), mi_RG_add), (70, .iinc 3 1, ([], nI 1, 0, []), zi0), (73, .goto (-26), ([47], 0, 0, []), zi0), (76, .iinc 2 1, ([], nI 1, 0, []), zi0), (79, .goto (-49), ([30], 0, 0, []), zi0), (82, .aload_n 0, ([0], 0, 0, []), zi0), (83, .getfield 19, ([5, 2, 0, 99], 0, 0, []), zi0), (86, .ireturn, ([], 0, 0, []), zi0)]
set_option maxRecDepth 100000 in
theorem oc_RG_orderFor : cd_RG_orderFor.all (zchk mi_RG_orderFor) = true := by decide +kernel
set_option maxRecDepth 100000 in
theorem ow_RG_orderFor : zWs mi_RG_orderFor cd_RG_orderFor := ⟨trivial, ⟨rfl, ms_CH_isLeftNondegenerate⟩, trivial, trivial, trivial, trivial, rfl, trivial, ⟨rfl, ms_JA_fill⟩, trivial, trivial, ⟨rfl, rfl⟩, trivial, rfl, ⟨rfl, rfl, mv_RG_add⟩, trivial, trivial, trivial, trivial, trivial, trivial, trivial, rfl, trivial, trivial, trivial, trivial, trivial, ⟨rfl, rfl, mv_PM_points⟩, trivial, trivial, trivial, rfl, trivial, trivial, trivial, trivial, ⟨rfl, ms_RG_followedBy⟩, ⟨rfl, rfl, mv_RG_add⟩, trivial, trivial, trivial, trivial, trivial, rfl, trivial, trivial⟩
theorem ok_RG_orderFor : zgood2 mi_RG_orderFor cd_RG_orderFor := ⟨oc_RG_orderFor, ow_RG_orderFor⟩
def cu_RN_isomorphisms : List (Nat × List Nat) := [(28, [0, 1, 2, 3, 4, 5])]
def cd_RN_isomorphisms : List ZE := [(0, .aload_n 1, ([1], 0, 0, []), zi0), (1, .invokevirtual 15, ([0, 1, 193], 0, 0, []), mi_PM_points), (4, .istore_n 3, ([3], 0, 0, []), zi0), (5, .iload_n 3, ([3], 0, 0, []), zi0), (6, .aload_n 2, ([2], 0, 0, []), zi0), (7, .invokevirtual 15, ([0, 1, 193], 0, 0, []), mi_PM_points), (10, .if_icmp .eq 5, ([15], 0, 0, []), zi0), (13, .iconst 0, ([], nI 0, 0, []), zi0), (14, .ireturn, ([], 0, 0, []), zi0), (15, .iconst 0, ([], nI 0, 0, []), zi0), (16, .istore 4, ([], 0, 0, []), zi0), (18, .aload_n 0, ([0], 0, 0, []), zi0), (19, .invokevirtual 21, ([4, 1, 194], 0, 0, []), mi_RN_start), (22, .iload_n 3, ([3], 0, 0, []), zi0), (23, .invokestatic 24, ([0, 1, 198], 0, 0, []), mi_RN_permutations), (26, .istore 5, ([], 0, 0, []), zi0), (28, .iload 5, ([], 0, 0, []), zi0), (30, .ifCond .le 28, ([58], 0, 0, []), zi0), (33, .iload 4, ([], 0, 0, []), zi0), (35, .aload_n 0, ([0], 0, 0, []), zi0), (36, .aload_n 1, ([1], 0, 0, []), zi0), (37, .aload_n 2, ([2], 0, 0, []), zi0), (38, .invokevirtual 28, ([4, 1, 201], 0, 0, []), mi_RN_isIsomorphism), (41, .invokestatic 32, ([1, 1, 211], 0, 0, []), mi_T_oneIf), (44, .iadd, ([], 0, 0, []), zi0), (45, .istore 4, ([], 0, 0, []), zi0), (47, .aload_n 0, ([0], 0, 0, []), zi0), (48, .iload_n 3, ([3], 0, 0, []), zi0), (49, .invokevirtual 36, ([4, 1, 212], 0, 0, []), mi_RN_step), (52, .iinc 5 (-1), ([], (-1), 0, []), zi0), (55, .goto (-27), ([28], 0, 0, []), zi0), (58, .iload 4, ([], 0, 0, []), zi0), (60, .ireturn, ([], 0, 0, []), zi0)]
set_option maxRecDepth 100000 in
theorem oc_RN_isomorphisms : cd_RN_isomorphisms.all (zchk mi_RN_isomorphisms) = true := by decide +kernel
set_option maxRecDepth 100000 in
theorem ow_RN_isomorphisms : zWs mi_RN_isomorphisms cd_RN_isomorphisms := ⟨trivial, ⟨rfl, rfl, mv_PM_points⟩, trivial, trivial, trivial, ⟨rfl, rfl, mv_PM_points⟩, trivial, trivial, trivial, trivial, trivial, trivial, ⟨rfl, rfl, mv_RN_start⟩, trivial, ⟨rfl, ms_RN_permutations⟩, trivial, trivial, trivial, trivial, trivial, trivial, trivial, ⟨rfl, rfl, mv_RN_isIsomorphism⟩, ⟨rfl, ms_T_oneIf⟩, trivial, trivial, trivial, trivial, ⟨rfl, rfl, mv_RN_step⟩, trivial, trivial, trivial, trivial, trivial⟩
theorem ok_RN_isomorphisms : zgood2 mi_RN_isomorphisms cd_RN_isomorphisms := ⟨oc_RN_isomorphisms, ow_RN_isomorphisms⟩
def cu_RN_smallestRows : List (Nat × List Nat) := [(21, [0, 1, 2, 3, 5])]
def cd_RN_smallestRows : List ZE := [(0, .aload_n 1, ([1], 0, 0, []), zi0), (1, .invokevirtual 15, ([0, 1, 193], 0, 0, []), mi_PM_points), (4, .istore_n 2, ([2], 0, 0, []), zi0), (5, .aload_n 0, ([0], 0, 0, []), zi0), (6, .invokevirtual 21, ([4, 1, 194], 0, 0, []), mi_RN_start), (9, .aload_n 0, ([0], 0, 0, []), zi0), (10, .aload_n 1, ([1], 0, 0, []), zi0), (11, .invokevirtual 43, ([4, 2, 9], 0, 0, []), mi_RN_renamedRows), (14, .lstore_n 3, ([3], 0, 0, []), zi0), (15, .iload_n 2, ([2], 0, 0, []), zi0), (16, .invokestatic 24, ([0, 1, 198], 0, 0, []), mi_RN_permutations), (19, .istore 5, ([], 0, 0, []), zi0), (21, .iload 5, ([], 0, 0, []), zi0), (23, .ifCond .le 24, ([47], 0, 0, []), zi0), (26, .lload_n 3, ([3], 0, 0, []), zi0), (27, .aload_n 0, ([0], 0, 0, []), zi0), (28, .aload_n 1, ([1], 0, 0, []), zi0), (29, .invokevirtual 43, ([4, 2, 9], 0, 0, []), mi_RN_renamedRows), (32, .invokestatic 47, ([0, 2, 17], 0, 0, []), mi_JM_minL), (35, .lstore_n 3, ([3], 0, 0, []), zi0), (36, .aload_n 0, ([0], 0, 0, []), zi0), (37, .iload_n 2, ([2], 0, 0, []), zi0), (38, .invokevirtual 36, ([4, 1, 212], 0, 0, []), mi_RN_step), (41, .iinc 5 (-1), ([], (-1), 0, []), zi0), (44, .goto (-23), ([21], 0, 0, []), zi0), (47, .lload_n 3, ([3], 0, 0, []), zi0), (48, .lreturn, ([], 0, 0, []), zi0)]
set_option maxRecDepth 100000 in
theorem oc_RN_smallestRows : cd_RN_smallestRows.all (zchk mi_RN_smallestRows) = true := by decide +kernel
set_option maxRecDepth 100000 in
theorem ow_RN_smallestRows : zWs mi_RN_smallestRows cd_RN_smallestRows := ⟨trivial, ⟨rfl, rfl, mv_PM_points⟩, trivial, trivial, ⟨rfl, rfl, mv_RN_start⟩, trivial, trivial, ⟨rfl, rfl, mv_RN_renamedRows⟩, trivial, trivial, ⟨rfl, ms_RN_permutations⟩, trivial, trivial, trivial, trivial, trivial, trivial, ⟨rfl, rfl, mv_RN_renamedRows⟩, rfl, trivial, trivial, trivial, ⟨rfl, rfl, mv_RN_step⟩, trivial, trivial, trivial, trivial, trivial⟩
theorem ok_RN_smallestRows : zgood2 mi_RN_smallestRows cd_RN_smallestRows := ⟨oc_RN_smallestRows, ow_RN_smallestRows⟩
def cu_T_brace : List (Nat × List Nat) := []
def cd_T_brace : List ZE := [(0, .iload_n 1, ([1], 0, 0, []), zi0), (1, .invokestatic 69, ([0, 0, 174], 0, 0, []), mi_T_isPlace), (4, .ifCond .ne 6, ([10], 0, 0, []), zi0), (7, .ldc 73, ([0, 180], (-1000001), 0, []), zi0), (9, .ireturn, ([], 0, 0, []), zi0), (10, .iload_n 2, ([2], 0, 0, []), zi0), (11, .iconst 2, ([], nI 2, 0, []), zi0), (12, .bipush 6, ([], nI 6, 0, []), zi0), (14, .invokestatic 74, ([0, 0, 177], 0, 0, []), mi_T_isWithin), (17, .ifCond .eq 11, ([28], 0, 0, []), zi0), (20, .iload_n 2, ([2], 0, 0, []), zi0), (21, .iload_n 3, ([3], 0, 0, []), zi0), (22, .invokestatic 106, ([0, 1, 10], 0, 0, []), mi_AL_areUnits), (25, .ifCond .ne 6, ([31], 0, 0, []), zi0), (28, .ldc 78, ([0, 181], (-1000002), 0, []), zi0), (30, .ireturn, ([], 0, 0, []), zi0), (31, .iload_n 2, ([2], 0, 0, []), zi0), (32, .iload_n 3, ([3], 0, 0, []), zi0), (33, .invokestatic 109, ([0, 1, 18], 0, 0, []), mi_AL_isBrace), (36, .ifCond .ne 6, ([42], 0, 0, []), zi0), (39, .ldc 112, ([1, 24], (-1000003), 0, []), zi0), (41, .ireturn, ([], 0, 0, []), zi0), (42, .aload_n 0, ([0], 0, 0, []), zi0), (43, .getfield 31, ([2, 4, 0, 143], 0, 0, []), zi0), (46, .iload_n 2, ([2], 0, 0, []), zi0), (47, .iload_n 3, ([3], 0, 0, []), zi0), (48, .invokestatic 113, ([0, 1, 25], 0, 0, []), mi_AL_makeBraceMap), (51, .aload_n 0, ([0], 0, 0, []), zi0), (52, .iload_n 1, ([1], 0, 0, []), zi0), (53, .invokevirtual 83, ([2, 0, 201], 0, 0, []), mi_T_keepMade), (56, .ireturn, ([], 0, 0, []), zi0)]
set_option maxRecDepth 100000 in
theorem oc_T_brace : cd_T_brace.all (zchk mi_T_brace) = true := by decide +kernel
set_option maxRecDepth 100000 in
theorem ow_T_brace : zWs mi_T_brace cd_T_brace := ⟨trivial, ⟨rfl, ms_T_isPlace⟩, trivial, rfl, trivial, trivial, trivial, trivial, ⟨rfl, ms_T_isWithin⟩, trivial, trivial, trivial, ⟨rfl, ms_AL_areUnits⟩, trivial, rfl, trivial, trivial, trivial, ⟨rfl, ms_AL_isBrace⟩, trivial, rfl, trivial, trivial, rfl, trivial, trivial, ⟨rfl, ms_AL_makeBraceMap⟩, trivial, trivial, ⟨rfl, rfl, mv_T_keepMade⟩, trivial, trivial⟩
theorem ok_T_brace : zgood2 mi_T_brace cd_T_brace := ⟨oc_T_brace, ow_T_brace⟩
def cu_T_cell : List (Nat × List Nat) := []
def cd_T_cell : List ZE := [(0, .aload_n 0, ([0], 0, 0, []), zi0), (1, .iload_n 1, ([1], 0, 0, []), zi0), (2, .invokevirtual 123, ([2, 1, 35], 0, 0, []), mi_T_mapAt), (5, .astore 5, ([], 0, 0, []), zi0), (7, .aload 5, ([], 0, 0, []), zi0), (9, .iload_n 2, ([2], 0, 0, []), zi0), (10, .invokevirtual 127, ([0, 1, 39], 0, 0, []), mi_PM_hasPoint), (13, .ifCond .eq 12, ([25], 0, 0, []), zi0), (16, .aload 5, ([], 0, 0, []), zi0), (18, .iload_n 3, ([3], 0, 0, []), zi0), (19, .invokevirtual 127, ([0, 1, 39], 0, 0, []), mi_PM_hasPoint), (22, .ifCond .ne 6, ([28], 0, 0, []), zi0), (25, .ldc 73, ([0, 180], (-1000001), 0, []), zi0), (27, .ireturn, ([], 0, 0, []), zi0), (28, .iload 4, ([], 0, 0, []), zi0), (30, .iconst 0, ([], nI 0, 0, []), zi0), (31, .iconst 1, ([], nI 1, 0, []), zi0), (32, .invokestatic 74, ([0, 0, 177], 0, 0, []), mi_T_isWithin), (35, .ifCond .ne 6, ([41], 0, 0, []), zi0), (38, .ldc 78, ([0, 181], (-1000002), 0, []), zi0), (40, .ireturn, ([], 0, 0, []), zi0), (41, .iload 4, ([], 0, 0, []), zi0), (43, .ifCond .ne 13, ([56], 0, 0, []), zi0), (46, .aload 5, ([], 0, 0, []), zi0), (48, .iload_n 2, ([2], 0, 0, []), zi0), (49, .iload_n 3, ([3], 0, 0, []), zi0), (50, .invokevirtual 185, ([0, 1, 77], 0, 0, []), mi_PM_left), (53, .goto 10, ([63], 0, 0, []), zi0), (56, .aload 5, ([], 0, 0, []), zi0), (58, .iload_n 2, ([2], 0, 0, []), zi0), (59, .iload_n 3, ([3], 0, 0, []), zi0), (60, .invokevirtual 188, ([0, 1, 78], 0, 0, []), mi_PM_right), (63, .ireturn, ([], 0, 0, []), zi0)]
set_option maxRecDepth 100000 in
theorem oc_T_cell : cd_T_cell.all (zchk mi_T_cell) = true := by decide +kernel
set_option maxRecDepth 100000 in
theorem ow_T_cell : zWs mi_T_cell cd_T_cell := ⟨trivial, trivial, ⟨rfl, rfl, mv_T_mapAt⟩, trivial, trivial, trivial, ⟨rfl, rfl, mv_PM_hasPoint⟩, trivial, trivial, trivial, ⟨rfl, rfl, mv_PM_hasPoint⟩, trivial, rfl, trivial, trivial, trivial, trivial, ⟨rfl, ms_T_isWithin⟩, trivial, rfl, trivial, trivial, trivial, trivial, trivial, trivial, ⟨rfl, rfl, mv_PM_left⟩, trivial, trivial, trivial, trivial, ⟨rfl, rfl, mv_PM_right⟩, trivial, trivial⟩
theorem ok_T_cell : zgood2 mi_T_cell cd_T_cell := ⟨oc_T_cell, ow_T_cell⟩
def cu_T_drop : List (Nat × List Nat) := []
def cd_T_drop : List ZE := [(0, .aload_n 0, ([0], 0, 0, []), zi0), (1, .iload_n 1, ([1], 0, 0, []), zi0), (2, .invokevirtual 123, ([2, 1, 35], 0, 0, []), mi_T_mapAt), (5, .astore_n 2, ([2], 0, 0, []), zi0), (6, .aload_n 2, ([2], 0, 0, []), zi0), (7, .invokevirtual 143, ([0, 1, 56], 0, 0, []), mi_PM_isEmpty), (10, .ifCond .eq 6, ([16], 0, 0, []), zi0), (13, .ldc 73, ([0, 180], (-1000001), 0, []), zi0), (15, .ireturn, ([], 0, 0, []), zi0), (16, .aload_n 2, ([2], 0, 0, []), zi0), (17, .invokevirtual 155, ([0, 0, 209], 0, 0, []), mi_PM_points), (20, .istore_n 3, ([3], 0, 0, []), zi0), (21, .aload_n 2, ([2], 0, 0, []), zi0), (22, .iconst 0, ([], nI 0, 0, []), zi0), (23, .invokevirtual 182, ([0, 2, 184], 0, 0, []), mi_PM_resize), (26, .iload_n 3, ([3], 0, 0, []), zi0), (27, .ireturn, ([], 0, 0, []), zi0)]
set_option maxRecDepth 100000 in
theorem oc_T_drop : cd_T_drop.all (zchk mi_T_drop) = true := by decide +kernel
set_option maxRecDepth 100000 in
theorem ow_T_drop : zWs mi_T_drop cd_T_drop := ⟨trivial, trivial, ⟨rfl, rfl, mv_T_mapAt⟩, trivial, trivial, ⟨rfl, rfl, mv_PM_isEmpty⟩, trivial, rfl, trivial, trivial, ⟨rfl, rfl, mv_PM_points⟩, trivial, trivial, trivial, ⟨rfl, rfl, mv_PM_resize⟩, trivial, trivial, trivial⟩
theorem ok_T_drop : zgood2 mi_T_drop cd_T_drop := ⟨oc_T_drop, ow_T_drop⟩
def cu_T_group : List (Nat × List Nat) := []
def cd_T_group : List ZE := [(0, .iload_n 1, ([1], 0, 0, []), zi0), (1, .invokestatic 69, ([0, 0, 174], 0, 0, []), mi_T_isPlace), (4, .ifCond .ne 6, ([10], 0, 0, []), zi0), (7, .ldc 73, ([0, 180], (-1000001), 0, []), zi0), (9, .ireturn, ([], 0, 0, []), zi0), (10, .iload_n 2, ([2], 0, 0, []), zi0), (11, .iload_n 3, ([3], 0, 0, []), zi0), (12, .invokestatic 97, ([0, 0, 229], 0, 0, []), mi_AL_isGroup), (15, .ifCond .ne 6, ([21], 0, 0, []), zi0), (18, .ldc 78, ([0, 181], (-1000002), 0, []), zi0), (20, .ireturn, ([], 0, 0, []), zi0), (21, .aload_n 0, ([0], 0, 0, []), zi0), (22, .getfield 31, ([2, 4, 0, 143], 0, 0, []), zi0), (25, .iload_n 2, ([2], 0, 0, []), zi0), (26, .iload_n 3, ([3], 0, 0, []), zi0), (27, .invokestatic 102, ([0, 0, 232], 0, 0, []), mi_AL_makeGroupMap), (30, .aload_n 0, ([0], 0, 0, []), zi0), (31, .iload_n 1, ([1], 0, 0, []), zi0), (32, .invokevirtual 83, ([2, 0, 201], 0, 0, []), mi_T_keepMade), (35, .ireturn, ([], 0, 0, []), zi0)]
set_option maxRecDepth 100000 in
theorem oc_T_group : cd_T_group.all (zchk mi_T_group) = true := by decide +kernel
set_option maxRecDepth 100000 in
theorem ow_T_group : zWs mi_T_group cd_T_group := ⟨trivial, ⟨rfl, ms_T_isPlace⟩, trivial, rfl, trivial, trivial, trivial, ⟨rfl, ms_AL_isGroup⟩, trivial, rfl, trivial, trivial, rfl, trivial, trivial, ⟨rfl, ms_AL_makeGroupMap⟩, trivial, trivial, ⟨rfl, rfl, mv_T_keepMade⟩, trivial, trivial⟩
theorem ok_T_group : zgood2 mi_T_group cd_T_group := ⟨oc_T_group, ow_T_group⟩
def cu_T_invert : List (Nat × List Nat) := []
def cd_T_invert : List ZE := [(0, .aload_n 0, ([0], 0, 0, []), zi0), (1, .iload_n 1, ([1], 0, 0, []), zi0), (2, .invokevirtual 123, ([2, 1, 35], 0, 0, []), mi_T_mapAt), (5, .astore_n 3, ([3], 0, 0, []), zi0), (6, .aload_n 3, ([3], 0, 0, []), zi0), (7, .invokevirtual 143, ([0, 1, 56], 0, 0, []), mi_PM_isEmpty), (10, .ifCond .ne 10, ([20], 0, 0, []), zi0), (13, .iload_n 2, ([2], 0, 0, []), zi0), (14, .invokestatic 69, ([0, 0, 174], 0, 0, []), mi_T_isPlace), (17, .ifCond .ne 6, ([23], 0, 0, []), zi0), (20, .ldc 73, ([0, 180], (-1000001), 0, []), zi0), (22, .ireturn, ([], 0, 0, []), zi0), (23, .aload_n 3, ([3], 0, 0, []), zi0), (24, .invokestatic 166, ([0, 1, 101], 0, 0, []), mi_CH_isBijective), (27, .ifCond .ne 6, ([33], 0, 0, []), zi0), (30, .ldc 112, ([1, 24], (-1000003), 0, []), zi0), (32, .ireturn, ([], 0, 0, []), zi0), (33, .aload_n 0, ([0], 0, 0, []), zi0), (34, .getfield 31, ([2, 4, 0, 143], 0, 0, []), zi0), (37, .aload_n 3, ([3], 0, 0, []), zi0), (38, .invokevirtual 172, ([0, 2, 157], 0, 0, []), mi_PM_becomeInverse), (41, .aload_n 0, ([0], 0, 0, []), zi0), (42, .iload_n 2, ([2], 0, 0, []), zi0), (43, .invokevirtual 83, ([2, 0, 201], 0, 0, []), mi_T_keepMade), (46, .ireturn, ([], 0, 0, []), zi0)]
set_option maxRecDepth 100000 in
theorem oc_T_invert : cd_T_invert.all (zchk mi_T_invert) = true := by decide +kernel
set_option maxRecDepth 100000 in
theorem ow_T_invert : zWs mi_T_invert cd_T_invert := ⟨trivial, trivial, ⟨rfl, rfl, mv_T_mapAt⟩, trivial, trivial, ⟨rfl, rfl, mv_PM_isEmpty⟩, trivial, trivial, ⟨rfl, ms_T_isPlace⟩, trivial, rfl, trivial, trivial, ⟨rfl, ms_CH_isBijective⟩, trivial, rfl, trivial, trivial, rfl, trivial, ⟨rfl, rfl, mv_PM_becomeInverse⟩, trivial, trivial, ⟨rfl, rfl, mv_T_keepMade⟩, trivial, trivial⟩
theorem ok_T_invert : zgood2 mi_T_invert cd_T_invert := ⟨oc_T_invert, ow_T_invert⟩
def cu_T_mapsHeld : List (Nat × List Nat) := [(4, [0, 1, 2])]
def cd_T_mapsHeld : List ZE := [(0, .iconst 0, ([], nI 0, 0, []), zi0), (1, .istore_n 1, ([1], 0, 0, []), zi0), (2, .iconst 0, ([], nI 0, 0, []), zi0), (3, .istore_n 2, ([2], 0, 0, []), zi0), (4, .iload_n 2, ([2], 0, 0, []), zi0), (5, .iconst 4, ([], nI 4, 0, []), zi0), (6, .if_icmp .ge 31, ([37], 0, 0, []), zi0), (9, .iload_n 1, ([1], 0, 0, []), zi0), (10, .aload_n 0, ([0], 0, 0, []), zi0), (11, .iload_n 2, ([2], 0, 0, []), zi0), (12, .invokevirtual 123, ([2, 1, 35], 0, 0, []), mi_T_mapAt), (15, .invokevirtual 143, ([0, 1, 56], 0, 0, []), mi_PM_isEmpty), (18, .ifCond .ne 7, ([25], 0, 0, []), zi0), (21, .iconst 1, ([], nI 1, 0, []), zi0), (22, .goto 4, ([26], 0, 0, []), zi0), (25, .iconst 0, ([], nI 0, 0, []), zi0), (26, .invokestatic 195, ([0, 1, 100], 0, 0, []), mi_T_oneIf), (29, .iadd, ([], 0, 0, []), zi0), (30, .istore_n 1, ([1], 0, 0, []), zi0), (31, .iinc 2 1, ([], nI 1, 0, []), zi0), (34, .goto (-30), ([4], 0, 0, []), zi0), (37, .iload_n 1, ([1], 0, 0, []), zi0), (38, .ireturn, ([], 0, 0, []), zi0)]
set_option maxRecDepth 100000 in
theorem oc_T_mapsHeld : cd_T_mapsHeld.all (zchk mi_T_mapsHeld) = true := by decide +kernel
set_option maxRecDepth 100000 in
theorem ow_T_mapsHeld : zWs mi_T_mapsHeld cd_T_mapsHeld := ⟨trivial, trivial, trivial, trivial, trivial, trivial, trivial, trivial, trivial, trivial, ⟨rfl, rfl, mv_T_mapAt⟩, ⟨rfl, rfl, mv_PM_isEmpty⟩, trivial, trivial, trivial, trivial, ⟨rfl, ms_T_oneIf⟩, trivial, trivial, trivial, trivial, trivial, trivial, trivial⟩
theorem ok_T_mapsHeld : zgood2 mi_T_mapsHeld cd_T_mapsHeld := ⟨oc_T_mapsHeld, ow_T_mapsHeld⟩
def cu_T_mirror : List (Nat × List Nat) := []
def cd_T_mirror : List ZE := [(0, .aload_n 0, ([0], 0, 0, []), zi0), (1, .iload_n 1, ([1], 0, 0, []), zi0), (2, .invokevirtual 123, ([2, 1, 35], 0, 0, []), mi_T_mapAt), (5, .astore_n 3, ([3], 0, 0, []), zi0), (6, .aload_n 3, ([3], 0, 0, []), zi0), (7, .invokevirtual 143, ([0, 1, 56], 0, 0, []), mi_PM_isEmpty), (10, .ifCond .ne 10, ([20], 0, 0, []), zi0), (13, .iload_n 2, ([2], 0, 0, []), zi0), (14, .invokestatic 69, ([0, 0, 174], 0, 0, []), mi_T_isPlace), (17, .ifCond .ne 6, ([23], 0, 0, []), zi0), (20, .ldc 73, ([0, 180], (-1000001), 0, []), zi0), (22, .ireturn, ([], 0, 0, []), zi0), (23, .aload_n 0, ([0], 0, 0, []), zi0), (24, .getfield 31, ([2, 4, 0, 143], 0, 0, []), zi0), (27, .aload_n 3, ([3], 0, 0, []), zi0), (28, .invokevirtual 175, ([0, 2, 165], 0, 0, []), mi_PM_becomeMirror), (31, .aload_n 0, ([0], 0, 0, []), zi0), (32, .iload_n 2, ([2], 0, 0, []), zi0), (33, .invokevirtual 83, ([2, 0, 201], 0, 0, []), mi_T_keepMade), (36, .ireturn, ([], 0, 0, []), zi0)]
set_option maxRecDepth 100000 in
theorem oc_T_mirror : cd_T_mirror.all (zchk mi_T_mirror) = true := by decide +kernel
set_option maxRecDepth 100000 in
theorem ow_T_mirror : zWs mi_T_mirror cd_T_mirror := ⟨trivial, trivial, ⟨rfl, rfl, mv_T_mapAt⟩, trivial, trivial, ⟨rfl, rfl, mv_PM_isEmpty⟩, trivial, trivial, ⟨rfl, ms_T_isPlace⟩, trivial, rfl, trivial, trivial, rfl, trivial, ⟨rfl, rfl, mv_PM_becomeMirror⟩, trivial, trivial, ⟨rfl, rfl, mv_T_keepMade⟩, trivial, trivial⟩
theorem ok_T_mirror : zgood2 mi_T_mirror cd_T_mirror := ⟨oc_T_mirror, ow_T_mirror⟩
def cu_T_pointsHeld : List (Nat × List Nat) := [(4, [0, 1, 2])]
def cd_T_pointsHeld : List ZE := [(0, .iconst 0, ([], nI 0, 0, []), zi0), (1, .istore_n 1, ([1], 0, 0, []), zi0), (2, .iconst 0, ([], nI 0, 0, []), zi0), (3, .istore_n 2, ([2], 0, 0, []), zi0), (4, .iload_n 2, ([2], 0, 0, []), zi0), (5, .iconst 4, ([], nI 4, 0, []), zi0), (6, .if_icmp .ge 20, ([26], 0, 0, []), zi0), (9, .iload_n 1, ([1], 0, 0, []), zi0), (10, .aload_n 0, ([0], 0, 0, []), zi0), (11, .iload_n 2, ([2], 0, 0, []), zi0), (12, .invokevirtual 123, ([2, 1, 35], 0, 0, []), mi_T_mapAt), (15, .invokevirtual 155, ([0, 0, 209], 0, 0, []), mi_PM_points), (18, .iadd, ([], 0, 0, []), zi0), (19, .istore_n 1, ([1], 0, 0, []), zi0), (20, .iinc 2 1, ([], nI 1, 0, []), zi0), (23, .goto (-19), ([4], 0, 0, []), zi0), (26, .iload_n 1, ([1], 0, 0, []), zi0), (27, .ireturn, ([], 0, 0, []), zi0)]
set_option maxRecDepth 100000 in
theorem oc_T_pointsHeld : cd_T_pointsHeld.all (zchk mi_T_pointsHeld) = true := by decide +kernel
set_option maxRecDepth 100000 in
theorem ow_T_pointsHeld : zWs mi_T_pointsHeld cd_T_pointsHeld := ⟨trivial, trivial, trivial, trivial, trivial, trivial, trivial, trivial, trivial, trivial, ⟨rfl, rfl, mv_T_mapAt⟩, ⟨rfl, rfl, mv_PM_points⟩, trivial, trivial, trivial, trivial, trivial, trivial, trivial⟩
theorem ok_T_pointsHeld : zgood2 mi_T_pointsHeld cd_T_pointsHeld := ⟨oc_T_pointsHeld, ow_T_pointsHeld⟩
def cu_T_put : List (Nat × List Nat) := []
def cd_T_put : List ZE := [(0, .aload_n 0, ([0], 0, 0, []), zi0), (1, .iload_n 1, ([1], 0, 0, []), zi0), (2, .invokevirtual 123, ([2, 1, 35], 0, 0, []), mi_T_mapAt), (5, .astore 6, ([], 0, 0, []), zi0), (7, .aload 6, ([], 0, 0, []), zi0), (9, .iload_n 2, ([2], 0, 0, []), zi0), (10, .invokevirtual 127, ([0, 1, 39], 0, 0, []), mi_PM_hasPoint), (13, .ifCond .eq 32, ([45], 0, 0, []), zi0), (16, .aload 6, ([], 0, 0, []), zi0), (18, .iload_n 3, ([3], 0, 0, []), zi0), (19, .invokevirtual 127, ([0, 1, 39], 0, 0, []), mi_PM_hasPoint), (22, .ifCond .eq 23, ([45], 0, 0, []), zi0), (25, .aload 6, ([], 0, 0, []), zi0), (27, .iload 4, ([], 0, 0, []), zi0), (29, .invokevirtual 127, ([0, 1, 39], 0, 0, []), mi_PM_hasPoint), (32, .ifCond .eq 13, ([45], 0, 0, []), zi0), (35, .aload 6, ([], 0, 0, []), zi0), (37, .iload 5, ([], 0, 0, []), zi0), (39, .invokevirtual 127, ([0, 1, 39], 0, 0, []), mi_PM_hasPoint), (42, .ifCond .ne 6, ([48], 0, 0, []), zi0), (45, .ldc 73, ([0, 180], (-1000001), 0, []), zi0), (47, .ireturn, ([], 0, 0, []), zi0), (48, .aload 6, ([], 0, 0, []), zi0), (50, .iload_n 2, ([2], 0, 0, []), zi0), (51, .iload_n 3, ([3], 0, 0, []), zi0), (52, .invokestatic 130, ([0, 1, 43], 0, 0, []), mi_CO_pairOf), (55, .invokevirtual 133, ([0, 1, 44], 0, 0, []), mi_PM_imageOf), (58, .iconst 2, ([], nI 2, 0, []), zi0), (59, .invokestatic 136, ([0, 1, 48], 0, 0, []), mi_CO_turned), (62, .istore 7, ([], 0, 0, []), zi0), (64, .aload 6, ([], 0, 0, []), zi0), (66, .iload_n 2, ([2], 0, 0, []), zi0), (67, .iload_n 3, ([3], 0, 0, []), zi0), (68, .iload 4, ([], 0, 0, []), zi0), (70, .iload 5, ([], 0, 0, []), zi0), (72, .invokevirtual 139, ([0, 1, 51], 0, 0, []), mi_PM_setImage), (75, .iload 7, ([], 0, 0, []), zi0), (77, .ireturn, ([], 0, 0, []), zi0)]
set_option maxRecDepth 100000 in
theorem oc_T_put : cd_T_put.all (zchk mi_T_put) = true := by decide +kernel
set_option maxRecDepth 100000 in
theorem ow_T_put : zWs mi_T_put cd_T_put := ⟨trivial, trivial, ⟨rfl, rfl, mv_T_mapAt⟩, trivial, trivial, trivial, ⟨rfl, rfl, mv_PM_hasPoint⟩, trivial, trivial, trivial, ⟨rfl, rfl, mv_PM_hasPoint⟩, trivial, trivial, trivial, ⟨rfl, rfl, mv_PM_hasPoint⟩, trivial, trivial, trivial, ⟨rfl, rfl, mv_PM_hasPoint⟩, trivial, rfl, trivial, trivial, trivial, trivial, ⟨rfl, ms_CO_pairOf⟩, ⟨rfl, rfl, mv_PM_imageOf⟩, trivial, ⟨rfl, ms_CO_turned⟩, trivial, trivial, trivial, trivial, trivial, trivial, ⟨rfl, rfl, mv_PM_setImage⟩, trivial, trivial, trivial⟩
theorem ok_T_put : zgood2 mi_T_put cd_T_put := ⟨oc_T_put, ow_T_put⟩
def cu_T_rename : List (Nat × List Nat) := []
def cd_T_rename : List ZE := [(0, .aload_n 0, ([0], 0, 0, []), zi0), (1, .iload_n 1, ([1], 0, 0, []), zi0), (2, .invokevirtual 123, ([2, 1, 35], 0, 0, []), mi_T_mapAt), (5, .astore 4, ([], 0, 0, []), zi0), (7, .aload 4, ([], 0, 0, []), zi0), (9, .invokevirtual 143, ([0, 1, 56], 0, 0, []), mi_PM_isEmpty), (12, .ifCond .ne 10, ([22], 0, 0, []), zi0), (15, .iload_n 3, ([3], 0, 0, []), zi0), (16, .invokestatic 69, ([0, 0, 174], 0, 0, []), mi_T_isPlace), (19, .ifCond .ne 6, ([25], 0, 0, []), zi0), (22, .ldc 73, ([0, 180], (-1000001), 0, []), zi0), (24, .ireturn, ([], 0, 0, []), zi0), (25, .iload_n 2, ([2], 0, 0, []), zi0), (26, .aload 4, ([], 0, 0, []), zi0), (28, .invokevirtual 155, ([0, 0, 209], 0, 0, []), mi_PM_points), (31, .invokestatic 87, ([0, 0, 217], 0, 0, []), mi_CO_isPermutation), (34, .ifCond .ne 6, ([40], 0, 0, []), zi0), (37, .ldc 78, ([0, 181], (-1000002), 0, []), zi0), (39, .ireturn, ([], 0, 0, []), zi0), (40, .aload_n 0, ([0], 0, 0, []), zi0), (41, .getfield 31, ([2, 4, 0, 143], 0, 0, []), zi0), (44, .aload 4, ([], 0, 0, []), zi0), (46, .iload_n 2, ([2], 0, 0, []), zi0), (47, .invokevirtual 178, ([0, 1, 60], 0, 0, []), mi_PM_becomeRenamed), (50, .aload_n 0, ([0], 0, 0, []), zi0), (51, .iload_n 3, ([3], 0, 0, []), zi0), (52, .invokevirtual 83, ([2, 0, 201], 0, 0, []), mi_T_keepMade), (55, .ireturn, ([], 0, 0, []), zi0)]
set_option maxRecDepth 100000 in
theorem oc_T_rename : cd_T_rename.all (zchk mi_T_rename) = true := by decide +kernel
set_option maxRecDepth 100000 in
theorem ow_T_rename : zWs mi_T_rename cd_T_rename := ⟨trivial, trivial, ⟨rfl, rfl, mv_T_mapAt⟩, trivial, trivial, ⟨rfl, rfl, mv_PM_isEmpty⟩, trivial, trivial, ⟨rfl, ms_T_isPlace⟩, trivial, rfl, trivial, trivial, trivial, ⟨rfl, rfl, mv_PM_points⟩, ⟨rfl, ms_CO_isPermutation⟩, trivial, rfl, trivial, trivial, rfl, trivial, trivial, ⟨rfl, rfl, mv_PM_becomeRenamed⟩, trivial, trivial, ⟨rfl, rfl, mv_T_keepMade⟩, trivial, trivial⟩
theorem ok_T_rename : zgood2 mi_T_rename cd_T_rename := ⟨oc_T_rename, ow_T_rename⟩
def cu_T_twist : List (Nat × List Nat) := []
def cd_T_twist : List ZE := [(0, .iload_n 1, ([1], 0, 0, []), zi0), (1, .invokestatic 69, ([0, 0, 174], 0, 0, []), mi_T_isPlace), (4, .ifCond .ne 6, ([10], 0, 0, []), zi0), (7, .ldc 73, ([0, 180], (-1000001), 0, []), zi0), (9, .ireturn, ([], 0, 0, []), zi0), (10, .iload_n 2, ([2], 0, 0, []), zi0), (11, .iconst 1, ([], nI 1, 0, []), zi0), (12, .bipush 6, ([], nI 6, 0, []), zi0), (14, .invokestatic 74, ([0, 0, 177], 0, 0, []), mi_T_isWithin), (17, .ifCond .eq 20, ([37], 0, 0, []), zi0), (20, .iload_n 3, ([3], 0, 0, []), zi0), (21, .iload_n 2, ([2], 0, 0, []), zi0), (22, .invokestatic 87, ([0, 0, 217], 0, 0, []), mi_CO_isPermutation), (25, .ifCond .eq 12, ([37], 0, 0, []), zi0), (28, .iload 4, ([], 0, 0, []), zi0), (30, .iload_n 2, ([2], 0, 0, []), zi0), (31, .invokestatic 87, ([0, 0, 217], 0, 0, []), mi_CO_isPermutation), (34, .ifCond .ne 6, ([40], 0, 0, []), zi0), (37, .ldc 78, ([0, 181], (-1000002), 0, []), zi0), (39, .ireturn, ([], 0, 0, []), zi0), (40, .aload_n 0, ([0], 0, 0, []), zi0), (41, .getfield 31, ([2, 4, 0, 143], 0, 0, []), zi0), (44, .iload_n 2, ([2], 0, 0, []), zi0), (45, .iload_n 3, ([3], 0, 0, []), zi0), (46, .iload 4, ([], 0, 0, []), zi0), (48, .invokevirtual 93, ([0, 0, 224], 0, 0, []), mi_PM_becomeTwist), (51, .aload_n 0, ([0], 0, 0, []), zi0), (52, .iload_n 1, ([1], 0, 0, []), zi0), (53, .invokevirtual 83, ([2, 0, 201], 0, 0, []), mi_T_keepMade), (56, .ireturn, ([], 0, 0, []), zi0)]
set_option maxRecDepth 100000 in
theorem oc_T_twist : cd_T_twist.all (zchk mi_T_twist) = true := by decide +kernel
set_option maxRecDepth 100000 in
theorem ow_T_twist : zWs mi_T_twist cd_T_twist := ⟨trivial, ⟨rfl, ms_T_isPlace⟩, trivial, rfl, trivial, trivial, trivial, trivial, ⟨rfl, ms_T_isWithin⟩, trivial, trivial, trivial, ⟨rfl, ms_CO_isPermutation⟩, trivial, trivial, trivial, ⟨rfl, ms_CO_isPermutation⟩, trivial, rfl, trivial, trivial, rfl, trivial, trivial, trivial, ⟨rfl, rfl, mv_PM_becomeTwist⟩, trivial, trivial, ⟨rfl, rfl, mv_T_keepMade⟩, trivial, trivial⟩
theorem ok_T_twist : zgood2 mi_T_twist cd_T_twist := ⟨oc_T_twist, ow_T_twist⟩
def cu_AC_find : List (Nat × List Nat) := [(7, [0, 1, 2])]
def cd_AC_find : List ZE := [(0, .aload_n 0, ([0], 0, 0, []), zi0), (1, .iconst 0, ([], nI 0, 0, []), zi0), (2, .putfield 18, ([3, 2, 0, 67], 0, 0, []), zi0), (5, .iconst 0, ([], nI 0, 0, []), zi0), (6, .istore_n 2, ([2], 0, 0, []), zi0), (7, .iload_n 2, ([2], 0, 0, []), zi0), (8, .aload_n 1, ([1], 0, 0, []), zi0), (9, .invokevirtual 32, ([0, 1, 143], 0, 0, []), mi_PM_points), (12, .if_icmp .ge 73, ([85], 0, 0, []), zi0), (15, .aload_n 1, ([1], 0, 0, []), zi0), (16, .iload_n 2, ([2], 0, 0, []), zi0), (17, .invokestatic 36, ([0, 1, 148], 0, 0, []), mi_AC_smallestTwin), (20, .istore_n 3, ([3], 0, 0, []), zi0), (21, .iload_n 3, ([3], 0, 0, []), zi0), (22, .iload_n 2, ([2], 0, 0, []), zi0), (23, .if_icmp .ne 42, ([65], 0, 0, []), zi0), (26, .aload_n 0, ([0], 0, 0, []), zi0), (27, .getfield 15, ([3, 1, 0, 66], 0, 0, []), zi0), (30, .aload_n 0, ([0], 0, 0, []), zi0), (31, .getfield 18, ([3, 2, 0, 67], 0, 0, []), zi0), (34, .bipush 7, ([], nI 7, 0, []), zi0), (36, .iand, ([], 0, 0, []), zi0), (37, .iload_n 2, ([2], 0, 0, []), zi0), (38, .iastore, ([], 0, 0, []), zi0), (39, .aload_n 0, ([0], 0, 0, []), zi0), (40, .getfield 11, ([3, 0, 0, 65], 0, 0, []), zi0), (43, .iload_n 2, ([2], 0, 0, []), zi0), (44, .bipush 7, ([], nI 7, 0, []), zi0), (46, .iand, ([], 0, 0, []), zi0), (47, .aload_n 0, ([0], 0, 0, []), zi0), (48, .getfield 18, ([3, 2, 0, 67], 0, 0, []), zi0), (51, .iastore, ([], 0, 0, []), zi0), (52, .aload_n 0, ([0], 0, 0, []), zi0), (53, .dup, ([], 0, 0, []), zi0), (54, .getfield 18, ([3, 2, 0, 67], 0, 0, []), zi0), (57, .iconst 1, ([], nI 1, 0, []), zi0), (58, .iadd, ([], 0, 0, []), zi0), (59, .putfield 18, ([3, 2, 0, 67], 0, 0, []), zi0), (62, .goto 17, ([79], 0, 0, []), zi0), (65, .aload_n 0, ([0], 0, 0, []), zi0), (66, .getfield 11, ([3, 0, 0, 65], 0, 0, []), zi0), (69, .iload_n 2, ([2], 0, 0, []), zi0), (70, .bipush 7, ([], nI 7, 0, []), zi0), (72, .iand, ([], 0, 0, []), zi0), (73, .aload_n 0, ([0], 0, 0, []), zi0), (74, .iload_n 3, ([3], 0, 0, []), zi0), (75, .invokevirtual 40, ([3, 1, 156], 0, 0, []), mi_AC_classOf), (78, .iastore, ([], 0, 0, []), zi0), (79, .iinc 2 1, ([], nI 1, 0, []), zi0), (82, .goto (-75), ([7], 0, 0, []), zi0), (85, .return_, ([], 0, 0, []), zi0)]
set_option maxRecDepth 100000 in
theorem oc_AC_find : cd_AC_find.all (zchk mi_AC_find) = true := by decide +kernel
set_option maxRecDepth 100000 in
theorem ow_AC_find : zWs mi_AC_find cd_AC_find := ⟨trivial, trivial, ⟨rfl, rfl⟩, trivial, trivial, trivial, trivial, ⟨rfl, rfl, mv_PM_points⟩, trivial, trivial, trivial, ⟨rfl, ms_AC_smallestTwin⟩, trivial, trivial, trivial, trivial, trivial, rfl, trivial, rfl, trivial, trivial, trivial, trivial, trivial, rfl, trivial, trivial, trivial, trivial, rfl, trivial, trivial, trivial, rfl, trivial, trivial, ⟨rfl, rfl⟩, trivial, trivial, rfl, trivial, trivial, trivial, trivial, trivial, ⟨rfl, rfl, mv_AC_classOf⟩, trivial, trivial, trivial, trivial, trivial⟩
theorem ok_AC_find : zgood2 mi_AC_find cd_AC_find := ⟨oc_AC_find, ow_AC_find⟩
def cu_CH_orbits : List (Nat × List Nat) := [(4, [0, 1, 2])]
def cd_CH_orbits : List ZE := [(0, .iconst 0, ([], nI 0, 0, []), zi0), (1, .istore_n 1, ([1], 0, 0, []), zi0), (2, .iconst 0, ([], nI 0, 0, []), zi0), (3, .istore_n 2, ([2], 0, 0, []), zi0), (4, .iload_n 2, ([2], 0, 0, []), zi0), (5, .aload_n 0, ([0], 0, 0, []), zi0), (6, .invokevirtual 9, ([0, 1, 86], 0, 0, []), mi_PM_points), (9, .if_icmp .ge 36, ([45], 0, 0, []), zi0), (12, .aload_n 0, ([0], 0, 0, []), zi0), (13, .iload_n 2, ([2], 0, 0, []), zi0), (14, .invokestatic 71, ([0, 1, 129], 0, 0, []), mi_CH_orbitOf), (17, .iconst 1, ([], nI 1, 0, []), zi0), (18, .iload_n 2, ([2], 0, 0, []), zi0), (19, .ishl, ([], 0, 0, []), zi0), (20, .iconst 1, ([], nI 1, 0, []), zi0), (21, .isub, ([], 0, 0, []), zi0), (22, .iand, ([], 0, 0, []), zi0), (23, .istore_n 3, ([3], 0, 0, []), zi0), (24, .iload_n 1, ([1], 0, 0, []), zi0), (25, .iload_n 3, ([3], 0, 0, []), zi0), (26, .ifCond .ne 7, ([33], 0, 0, []), zi0), (29, .iconst 1, ([], nI 1, 0, []), zi0), (30, .goto 4, ([34], 0, 0, []), zi0), (33, .iconst 0, ([], nI 0, 0, []), zi0), (34, .invokestatic 46, ([1, 1, 94], 0, 0, []), mi_T_oneIf), (37, .iadd, ([], 0, 0, []), zi0), (38, .istore_n 1, ([1], 0, 0, []), zi0), (39, .iinc 2 1, ([], nI 1, 0, []), zi0), (42, .goto (-38), ([4], 0, 0, []), zi0), (45, .iload_n 1, ([1], 0, 0, []), zi0), (46, .ireturn, ([], 0, 0, []), zi0)]
set_option maxRecDepth 100000 in
theorem oc_CH_orbits : cd_CH_orbits.all (zchk mi_CH_orbits) = true := by decide +kernel
set_option maxRecDepth 100000 in
theorem ow_CH_orbits : zWs mi_CH_orbits cd_CH_orbits := ⟨trivial, trivial, trivial, trivial, trivial, trivial, ⟨rfl, rfl, mv_PM_points⟩, trivial, trivial, trivial, ⟨rfl, ms_CH_orbitOf⟩, trivial, trivial, trivial, trivial, trivial, trivial, trivial, trivial, trivial, trivial, trivial, trivial, trivial, ⟨rfl, ms_T_oneIf⟩, trivial, trivial, trivial, trivial, trivial, trivial, trivial⟩
theorem ok_CH_orbits : zgood2 mi_CH_orbits cd_CH_orbits := ⟨oc_CH_orbits, ow_CH_orbits⟩
def cu_PM_becomeUnion : List (Nat × List Nat) := []
def cd_PM_becomeUnion : List ZE := [(0, .aload_n 0, ([0], 0, 0, []), zi0), (1, .aload_n 1, ([1], 0, 0, []), zi0), (2, .getfield 13, ([0, 1, 0, 34], 0, 0, []), zi0), (5, .aload_n 2, ([2], 0, 0, []), zi0), (6, .getfield 13, ([0, 1, 0, 34], 0, 0, []), zi0), (9, .iadd, ([], 0, 0, []), zi0), (10, .invokevirtual 39, ([0, 2, 130], 0, 0, []), mi_PM_becomeFlip), (13, .aload_n 0, ([0], 0, 0, []), zi0), (14, .aload_n 1, ([1], 0, 0, []), zi0), (15, .iconst 0, ([], nI 0, 0, []), zi0), (16, .invokevirtual 43, ([0, 2, 131], 0, 0, []), mi_PM_setShifted), (19, .aload_n 0, ([0], 0, 0, []), zi0), (20, .aload_n 2, ([2], 0, 0, []), zi0), (21, .aload_n 1, ([1], 0, 0, []), zi0), (22, .getfield 13, ([0, 1, 0, 34], 0, 0, []), zi0), (25, .invokevirtual 43, ([0, 2, 131], 0, 0, []), mi_PM_setShifted), (28, .return_, ([], 0, 0, []), zi0)]
set_option maxRecDepth 100000 in
theorem oc_PM_becomeUnion : cd_PM_becomeUnion.all (zchk mi_PM_becomeUnion) = true := by decide +kernel
set_option maxRecDepth 100000 in
theorem ow_PM_becomeUnion : zWs mi_PM_becomeUnion cd_PM_becomeUnion := ⟨trivial, trivial, rfl, trivial, rfl, trivial, ⟨rfl, rfl, mv_PM_becomeFlip⟩, trivial, trivial, trivial, ⟨rfl, rfl, mv_PM_setShifted⟩, trivial, trivial, trivial, rfl, ⟨rfl, rfl, mv_PM_setShifted⟩, trivial, trivial⟩
theorem ok_PM_becomeUnion : zgood2 mi_PM_becomeUnion cd_PM_becomeUnion := ⟨oc_PM_becomeUnion, ow_PM_becomeUnion⟩
def cu_SL_indexOf : List (Nat × List Nat) := [(37, [2, 3, 5])]
def cd_SL_indexOf : List ZE := [(0, .aload_n 0, ([0], 0, 0, []), zi0), (1, .invokevirtual 44, ([0, 1, 239], 0, 0, []), mi_PM_points), (4, .istore_n 2, ([2], 0, 0, []), zi0), (5, .iload_n 2, ([2], 0, 0, []), zi0), (6, .invokestatic 48, ([0, 2, 0], 0, 0, []), mi_SL_hasPoints), (9, .ifCond .eq 17, ([26], 0, 0, []), zi0), (12, .aload_n 0, ([0], 0, 0, []), zi0), (13, .invokestatic 52, ([0, 2, 3], 0, 0, []), mi_CH_isInvolutive), (16, .ifCond .eq 10, ([26], 0, 0, []), zi0), (19, .aload_n 0, ([0], 0, 0, []), zi0), (20, .invokestatic 58, ([0, 2, 4], 0, 0, []), mi_CH_isLeftNondegenerate), (23, .ifCond .ne 5, ([28], 0, 0, []), zi0), (26, .iconst (-1), ([], (-1), 0, []), zi0), (27, .ireturn, ([], 0, 0, []), zi0), (28, .aload_n 1, ([1], 0, 0, []), zi0), (29, .aload_n 0, ([0], 0, 0, []), zi0), (30, .invokevirtual 61, ([4, 2, 5], 0, 0, []), mi_RN_smallestRows), (33, .lstore_n 3, ([3], 0, 0, []), zi0), (34, .iconst 0, ([], nI 0, 0, []), zi0), (35, .istore 5, ([], 0, 0, []), zi0), (37, .iload 5, ([], 0, 0, []), zi0), (39, .iload_n 2, ([2], 0, 0, []), zi0), (40, .invokestatic 67, ([0, 2, 20], 0, 0, []), mi_SL_size), (43, .if_icmp .ge 23, ([66], 0, 0, []), zi0), (46, .iload_n 2, ([2], 0, 0, []), zi0), (47, .iload 5, ([], 0, 0, []), zi0), (49, .invokestatic 19, ([0, 2, 26], 0, 0, []), mi_SL_rowsAt), (52, .lload_n 3, ([3], 0, 0, []), zi0), (53, .lcmp, ([], 0, 0, []), zi0), (54, .ifCond .ne 6, ([60], 0, 0, []), zi0), (57, .iload 5, ([], 0, 0, []), zi0), (59, .ireturn, ([], 0, 0, []), zi0), (60, .iinc 5 1, ([], nI 1, 0, []), zi0), (63, .goto (-26), ([37], 0, 0, []), zi0), (66, .iconst (-1), ([], (-1), 0, []), zi0), (67, .ireturn, ([], 0, 0, []), zi0)]
set_option maxRecDepth 100000 in
theorem oc_SL_indexOf : cd_SL_indexOf.all (zchk mi_SL_indexOf) = true := by decide +kernel
set_option maxRecDepth 100000 in
theorem ow_SL_indexOf : zWs mi_SL_indexOf cd_SL_indexOf := ⟨trivial, ⟨rfl, rfl, mv_PM_points⟩, trivial, trivial, ⟨rfl, ms_SL_hasPoints⟩, trivial, trivial, ⟨rfl, ms_CH_isInvolutive⟩, trivial, trivial, ⟨rfl, ms_CH_isLeftNondegenerate⟩, trivial, trivial, trivial, trivial, trivial, ⟨rfl, rfl, mv_RN_smallestRows⟩, trivial, trivial, trivial, trivial, trivial, ⟨rfl, ms_SL_size⟩, trivial, trivial, trivial, ⟨rfl, ms_SL_rowsAt⟩, trivial, trivial, trivial, trivial, trivial, trivial, trivial, trivial, trivial, trivial⟩
theorem ok_SL_indexOf : zgood2 mi_SL_indexOf cd_SL_indexOf := ⟨oc_SL_indexOf, ow_SL_indexOf⟩
def cu_T_count : List (Nat × List Nat) := []
def cd_T_count : List ZE := [(0, .iload_n 1, ([1], 0, 0, []), zi0), (1, .tableswitch 59 0 3 #[31, 36, 41, 50], ([60, 31], 0, 0, [(nI 0, 32), (nI 1, 37), (nI 2, 42), (nI 3, 51)]), zi0), (32, .aload_n 0, ([0], 0, 0, []), zi0), (33, .invokevirtual 323, ([2, 2, 53], 0, 0, []), mi_T_mapsHeld), (36, .ireturn, ([], 0, 0, []), zi0), (37, .aload_n 0, ([0], 0, 0, []), zi0), (38, .invokevirtual 326, ([2, 2, 57], 0, 0, []), mi_T_pointsHeld), (41, .ireturn, ([], 0, 0, []), zi0), (42, .aload_n 0, ([0], 0, 0, []), zi0), (43, .iconst 0, ([], nI 0, 0, []), zi0), (44, .invokevirtual 270, ([2, 2, 61], 0, 0, []), mi_T_braidAt), (47, .invokevirtual 280, ([1, 2, 68], 0, 0, []), mi_BR_length), (50, .ireturn, ([], 0, 0, []), zi0), (51, .aload_n 0, ([0], 0, 0, []), zi0), (52, .iconst 1, ([], nI 1, 0, []), zi0), (53, .invokevirtual 270, ([2, 2, 61], 0, 0, []), mi_T_braidAt), (56, .invokevirtual 280, ([1, 2, 68], 0, 0, []), mi_BR_length), (59, .ireturn, ([], 0, 0, []), zi0), (60, .ldc 78, ([0, 181], (-1000002), 0, []), zi0), (62, .ireturn, ([], 0, 0, []), zi0)]
set_option maxRecDepth 100000 in
theorem oc_T_count : cd_T_count.all (zchk mi_T_count) = true := by decide +kernel
set_option maxRecDepth 100000 in
theorem ow_T_count : zWs mi_T_count cd_T_count := ⟨trivial, trivial, trivial, ⟨rfl, rfl, mv_T_mapsHeld⟩, trivial, trivial, ⟨rfl, rfl, mv_T_pointsHeld⟩, trivial, trivial, trivial, ⟨rfl, rfl, mv_T_braidAt⟩, ⟨rfl, rfl, mv_BR_length⟩, trivial, trivial, trivial, ⟨rfl, rfl, mv_T_braidAt⟩, ⟨rfl, rfl, mv_BR_length⟩, trivial, rfl, trivial, trivial⟩
theorem ok_T_count : zgood2 mi_T_count cd_T_count := ⟨oc_T_count, ow_T_count⟩
def cu_T_flip : List (Nat × List Nat) := []
def cd_T_flip : List ZE := [(0, .iload_n 1, ([1], 0, 0, []), zi0), (1, .invokestatic 69, ([0, 0, 174], 0, 0, []), mi_T_isPlace), (4, .ifCond .ne 6, ([10], 0, 0, []), zi0), (7, .ldc 73, ([0, 180], (-1000001), 0, []), zi0), (9, .ireturn, ([], 0, 0, []), zi0), (10, .iload_n 2, ([2], 0, 0, []), zi0), (11, .iconst 1, ([], nI 1, 0, []), zi0), (12, .bipush 6, ([], nI 6, 0, []), zi0), (14, .invokestatic 74, ([0, 0, 177], 0, 0, []), mi_T_isWithin), (17, .ifCond .ne 6, ([23], 0, 0, []), zi0), (20, .ldc 78, ([0, 181], (-1000002), 0, []), zi0), (22, .ireturn, ([], 0, 0, []), zi0), (23, .aload_n 0, ([0], 0, 0, []), zi0), (24, .getfield 31, ([2, 4, 0, 143], 0, 0, []), zi0), (27, .iload_n 2, ([2], 0, 0, []), zi0), (28, .invokevirtual 79, ([0, 0, 182], 0, 0, []), mi_PM_becomeFlip), (31, .aload_n 0, ([0], 0, 0, []), zi0), (32, .iload_n 1, ([1], 0, 0, []), zi0), (33, .invokevirtual 83, ([2, 0, 201], 0, 0, []), mi_T_keepMade), (36, .ireturn, ([], 0, 0, []), zi0)]
set_option maxRecDepth 100000 in
theorem oc_T_flip : cd_T_flip.all (zchk mi_T_flip) = true := by decide +kernel
set_option maxRecDepth 100000 in
theorem ow_T_flip : zWs mi_T_flip cd_T_flip := ⟨trivial, ⟨rfl, ms_T_isPlace⟩, trivial, rfl, trivial, trivial, trivial, trivial, ⟨rfl, ms_T_isWithin⟩, trivial, rfl, trivial, trivial, rfl, trivial, ⟨rfl, rfl, mv_PM_becomeFlip⟩, trivial, trivial, ⟨rfl, rfl, mv_T_keepMade⟩, trivial, trivial⟩
theorem ok_T_flip : zgood2 mi_T_flip cd_T_flip := ⟨oc_T_flip, ow_T_flip⟩
def cu_T_orbit : List (Nat × List Nat) := []
def cd_T_orbit : List ZE := [(0, .aload_n 0, ([0], 0, 0, []), zi0), (1, .iload_n 1, ([1], 0, 0, []), zi0), (2, .invokevirtual 123, ([2, 1, 35], 0, 0, []), mi_T_mapAt), (5, .astore_n 3, ([3], 0, 0, []), zi0), (6, .aload_n 3, ([3], 0, 0, []), zi0), (7, .iload_n 2, ([2], 0, 0, []), zi0), (8, .invokevirtual 127, ([0, 1, 39], 0, 0, []), mi_PM_hasPoint), (11, .ifCond .ne 6, ([17], 0, 0, []), zi0), (14, .ldc 73, ([0, 180], (-1000001), 0, []), zi0), (16, .ireturn, ([], 0, 0, []), zi0), (17, .aload_n 3, ([3], 0, 0, []), zi0), (18, .iload_n 2, ([2], 0, 0, []), zi0), (19, .invokestatic 240, ([0, 2, 35], 0, 0, []), mi_CH_orbitOf), (22, .ireturn, ([], 0, 0, []), zi0)]
set_option maxRecDepth 100000 in
theorem oc_T_orbit : cd_T_orbit.all (zchk mi_T_orbit) = true := by decide +kernel
set_option maxRecDepth 100000 in
theorem ow_T_orbit : zWs mi_T_orbit cd_T_orbit := ⟨trivial, trivial, ⟨rfl, rfl, mv_T_mapAt⟩, trivial, trivial, trivial, ⟨rfl, rfl, mv_PM_hasPoint⟩, trivial, rfl, trivial, trivial, trivial, ⟨rfl, ms_CH_orbitOf⟩, trivial, trivial⟩
theorem ok_T_orbit : zgood2 mi_T_orbit cd_T_orbit := ⟨oc_T_orbit, ow_T_orbit⟩
def cu_T_pair : List (Nat × List Nat) := []
def cd_T_pair : List ZE := [(0, .aload_n 0, ([0], 0, 0, []), zi0), (1, .iload_n 1, ([1], 0, 0, []), zi0), (2, .invokevirtual 123, ([2, 1, 35], 0, 0, []), mi_T_mapAt), (5, .astore 4, ([], 0, 0, []), zi0), (7, .aload_n 0, ([0], 0, 0, []), zi0), (8, .iload_n 2, ([2], 0, 0, []), zi0), (9, .invokevirtual 123, ([2, 1, 35], 0, 0, []), mi_T_mapAt), (12, .astore 5, ([], 0, 0, []), zi0), (14, .aload 4, ([], 0, 0, []), zi0), (16, .invokevirtual 143, ([0, 1, 56], 0, 0, []), mi_PM_isEmpty), (19, .ifCond .ne 18, ([37], 0, 0, []), zi0), (22, .aload 5, ([], 0, 0, []), zi0), (24, .invokevirtual 143, ([0, 1, 56], 0, 0, []), mi_PM_isEmpty), (27, .ifCond .ne 10, ([37], 0, 0, []), zi0), (30, .iload_n 3, ([3], 0, 0, []), zi0), (31, .invokestatic 69, ([0, 0, 174], 0, 0, []), mi_T_isPlace), (34, .ifCond .ne 6, ([40], 0, 0, []), zi0), (37, .ldc 73, ([0, 180], (-1000001), 0, []), zi0), (39, .ireturn, ([], 0, 0, []), zi0), (40, .aload 4, ([], 0, 0, []), zi0), (42, .invokevirtual 155, ([0, 0, 209], 0, 0, []), mi_PM_points), (45, .aload 5, ([], 0, 0, []), zi0), (47, .invokevirtual 155, ([0, 0, 209], 0, 0, []), mi_PM_points), (50, .imul, ([], 0, 0, []), zi0), (51, .bipush 6, ([], nI 6, 0, []), zi0), (53, .if_icmp .le 6, ([59], 0, 0, []), zi0), (56, .ldc 159, ([2, 125], (-1000004), 0, []), zi0), (58, .ireturn, ([], 0, 0, []), zi0), (59, .aload_n 0, ([0], 0, 0, []), zi0), (60, .getfield 31, ([2, 4, 0, 143], 0, 0, []), zi0), (63, .aload 4, ([], 0, 0, []), zi0), (65, .aload 5, ([], 0, 0, []), zi0), (67, .invokevirtual 163, ([0, 2, 139], 0, 0, []), mi_PM_becomeProduct), (70, .aload_n 0, ([0], 0, 0, []), zi0), (71, .iload_n 3, ([3], 0, 0, []), zi0), (72, .invokevirtual 83, ([2, 0, 201], 0, 0, []), mi_T_keepMade), (75, .ireturn, ([], 0, 0, []), zi0)]
set_option maxRecDepth 100000 in
theorem oc_T_pair : cd_T_pair.all (zchk mi_T_pair) = true := by decide +kernel
set_option maxRecDepth 100000 in
theorem ow_T_pair : zWs mi_T_pair cd_T_pair := ⟨trivial, trivial, ⟨rfl, rfl, mv_T_mapAt⟩, trivial, trivial, trivial, ⟨rfl, rfl, mv_T_mapAt⟩, trivial, trivial, ⟨rfl, rfl, mv_PM_isEmpty⟩, trivial, trivial, ⟨rfl, rfl, mv_PM_isEmpty⟩, trivial, trivial, ⟨rfl, ms_T_isPlace⟩, trivial, rfl, trivial, trivial, ⟨rfl, rfl, mv_PM_points⟩, trivial, ⟨rfl, rfl, mv_PM_points⟩, trivial, trivial, trivial, rfl, trivial, trivial, rfl, trivial, trivial, ⟨rfl, rfl, mv_PM_becomeProduct⟩, trivial, trivial, ⟨rfl, rfl, mv_T_keepMade⟩, trivial, trivial⟩
theorem ok_T_pair : zgood2 mi_T_pair cd_T_pair := ⟨oc_T_pair, ow_T_pair⟩
def cu_T_shut : List (Nat × List Nat) := []
def cd_T_shut : List ZE := [(0, .aload_n 0, ([0], 0, 0, []), zi0), (1, .iload_n 1, ([1], 0, 0, []), zi0), (2, .invokevirtual 123, ([2, 1, 35], 0, 0, []), mi_T_mapAt), (5, .astore_n 3, ([3], 0, 0, []), zi0), (6, .aload_n 3, ([3], 0, 0, []), zi0), (7, .invokevirtual 143, ([0, 1, 56], 0, 0, []), mi_PM_isEmpty), (10, .ifCond .eq 6, ([16], 0, 0, []), zi0), (13, .ldc 73, ([0, 180], (-1000001), 0, []), zi0), (15, .ireturn, ([], 0, 0, []), zi0), (16, .iload_n 2, ([2], 0, 0, []), zi0), (17, .ifCond .lt 13, ([30], 0, 0, []), zi0), (20, .iload_n 2, ([2], 0, 0, []), zi0), (21, .iconst 1, ([], nI 1, 0, []), zi0), (22, .aload_n 3, ([3], 0, 0, []), zi0), (23, .invokevirtual 155, ([0, 0, 209], 0, 0, []), mi_PM_points), (26, .ishl, ([], 0, 0, []), zi0), (27, .if_icmp .lt 6, ([33], 0, 0, []), zi0), (30, .ldc 78, ([0, 181], (-1000002), 0, []), zi0), (32, .ireturn, ([], 0, 0, []), zi0), (33, .aload_n 3, ([3], 0, 0, []), zi0), (34, .iload_n 2, ([2], 0, 0, []), zi0), (35, .invokestatic 243, ([0, 2, 40], 0, 0, []), mi_CH_closureOf), (38, .ireturn, ([], 0, 0, []), zi0)]
set_option maxRecDepth 100000 in
theorem oc_T_shut : cd_T_shut.all (zchk mi_T_shut) = true := by decide +kernel
set_option maxRecDepth 100000 in
theorem ow_T_shut : zWs mi_T_shut cd_T_shut := ⟨trivial, trivial, ⟨rfl, rfl, mv_T_mapAt⟩, trivial, trivial, ⟨rfl, rfl, mv_PM_isEmpty⟩, trivial, rfl, trivial, trivial, trivial, trivial, trivial, trivial, ⟨rfl, rfl, mv_PM_points⟩, trivial, trivial, rfl, trivial, trivial, trivial, ⟨rfl, ms_CH_closureOf⟩, trivial, trivial⟩
theorem ok_T_shut : zgood2 mi_T_shut cd_T_shut := ⟨oc_T_shut, ow_T_shut⟩
def cu_AC_levelOf : List (Nat × List Nat) := [(10, [0, 2])]
def cd_AC_levelOf : List ZE := [(0, .aload_n 0, ([0], 0, 0, []), zi0), (1, .getfield 25, ([3, 3, 0, 68], 0, 0, []), zi0), (4, .aload_n 1, ([1], 0, 0, []), zi0), (5, .invokevirtual 66, ([0, 1, 142], 0, 0, []), mi_PM_copy), (8, .iconst 0, ([], nI 0, 0, []), zi0), (9, .istore_n 2, ([2], 0, 0, []), zi0), (10, .iload_n 2, ([2], 0, 0, []), zi0), (11, .bipush 6, ([], nI 6, 0, []), zi0), (13, .if_icmp .ge 69, ([82], 0, 0, []), zi0), (16, .aload_n 0, ([0], 0, 0, []), zi0), (17, .getfield 25, ([3, 3, 0, 68], 0, 0, []), zi0), (20, .invokevirtual 32, ([0, 1, 143], 0, 0, []), mi_PM_points), (23, .iconst 1, ([], nI 1, 0, []), zi0), (24, .if_icmp .ne 5, ([29], 0, 0, []), zi0), (27, .iload_n 2, ([2], 0, 0, []), zi0), (28, .ireturn, ([], 0, 0, []), zi0), (29, .aload_n 0, ([0], 0, 0, []), zi0), (30, .aload_n 0, ([0], 0, 0, []), zi0), (31, .getfield 25, ([3, 3, 0, 68], 0, 0, []), zi0), (34, .invokevirtual 70, ([3, 1, 144], 0, 0, []), mi_AC_find), (37, .aload_n 0, ([0], 0, 0, []), zi0), (38, .getfield 18, ([3, 2, 0, 67], 0, 0, []), zi0), (41, .aload_n 0, ([0], 0, 0, []), zi0), (42, .getfield 25, ([3, 3, 0, 68], 0, 0, []), zi0), (45, .invokevirtual 32, ([0, 1, 143], 0, 0, []), mi_PM_points), (48, .if_icmp .ne 5, ([53], 0, 0, []), zi0), (51, .iconst (-1), ([], (-1), 0, []), zi0), (52, .ireturn, ([], 0, 0, []), zi0), (53, .aload_n 0, ([0], 0, 0, []), zi0), (54, .aload_n 0, ([0], 0, 0, []), zi0), (55, .getfield 29, ([3, 4, 0, 69], 0, 0, []), zi0), (58, .aload_n 0, ([0], 0, 0, []), zi0), (59, .getfield 25, ([3, 3, 0, 68], 0, 0, []), zi0), (62, .invokevirtual 73, ([3, 1, 160], 0, 0, []), mi_AC_makeRetraction), (65, .aload_n 0, ([0], 0, 0, []), zi0), (66, .getfield 25, ([3, 3, 0, 68], 0, 0, []), zi0), (69, .aload_n 0, ([0], 0, 0, []), zi0), (70, .getfield 29, ([3, 4, 0, 69], 0, 0, []), zi0), (73, .invokevirtual 66, ([0, 1, 142], 0, 0, []), mi_PM_copy), (76, .iinc 2 1, ([], nI 1, 0, []), zi0), (79, .goto (-69), ([10], 0, 0, []), zi0), (82, .iconst (-1), ([], (-1), 0, []), zi0), (83, .ireturn, ([], 0, 0, []), zi0)]
set_option maxRecDepth 100000 in
theorem oc_AC_levelOf : cd_AC_levelOf.all (zchk mi_AC_levelOf) = true := by decide +kernel
set_option maxRecDepth 100000 in
theorem ow_AC_levelOf : zWs mi_AC_levelOf cd_AC_levelOf := ⟨trivial, rfl, trivial, ⟨rfl, rfl, mv_PM_copy⟩, trivial, trivial, trivial, trivial, trivial, trivial, rfl, ⟨rfl, rfl, mv_PM_points⟩, trivial, trivial, trivial, trivial, trivial, trivial, rfl, ⟨rfl, rfl, mv_AC_find⟩, trivial, rfl, trivial, rfl, ⟨rfl, rfl, mv_PM_points⟩, trivial, trivial, trivial, trivial, trivial, rfl, trivial, rfl, ⟨rfl, rfl, mv_AC_makeRetraction⟩, trivial, rfl, trivial, rfl, ⟨rfl, rfl, mv_PM_copy⟩, trivial, trivial, trivial, trivial, trivial⟩
theorem ok_AC_levelOf : zgood2 mi_AC_levelOf cd_AC_levelOf := ⟨oc_AC_levelOf, ow_AC_levelOf⟩
def cu_T_alike : List (Nat × List Nat) := []
def cd_T_alike : List ZE := [(0, .aload_n 0, ([0], 0, 0, []), zi0), (1, .iload_n 1, ([1], 0, 0, []), zi0), (2, .invokevirtual 123, ([2, 1, 35], 0, 0, []), mi_T_mapAt), (5, .astore_n 3, ([3], 0, 0, []), zi0), (6, .aload_n 3, ([3], 0, 0, []), zi0), (7, .iload_n 2, ([2], 0, 0, []), zi0), (8, .invokevirtual 127, ([0, 1, 39], 0, 0, []), mi_PM_hasPoint), (11, .ifCond .ne 6, ([17], 0, 0, []), zi0), (14, .ldc 73, ([0, 180], (-1000001), 0, []), zi0), (16, .ireturn, ([], 0, 0, []), zi0), (17, .aload_n 0, ([0], 0, 0, []), zi0), (18, .getfield 37, ([2, 5, 0, 144], 0, 0, []), zi0), (21, .aload_n 3, ([3], 0, 0, []), zi0), (22, .invokevirtual 147, ([3, 2, 47], 0, 0, []), mi_AC_find), (25, .aload_n 0, ([0], 0, 0, []), zi0), (26, .getfield 37, ([2, 5, 0, 144], 0, 0, []), zi0), (29, .iload_n 2, ([2], 0, 0, []), zi0), (30, .invokevirtual 246, ([3, 2, 48], 0, 0, []), mi_AC_classOf), (33, .ireturn, ([], 0, 0, []), zi0)]
set_option maxRecDepth 100000 in
theorem oc_T_alike : cd_T_alike.all (zchk mi_T_alike) = true := by decide +kernel
set_option maxRecDepth 100000 in
theorem ow_T_alike : zWs mi_T_alike cd_T_alike := ⟨trivial, trivial, ⟨rfl, rfl, mv_T_mapAt⟩, trivial, trivial, trivial, ⟨rfl, rfl, mv_PM_hasPoint⟩, trivial, rfl, trivial, trivial, rfl, trivial, ⟨rfl, rfl, mv_AC_find⟩, trivial, rfl, trivial, ⟨rfl, rfl, mv_AC_classOf⟩, trivial, trivial⟩
theorem ok_T_alike : zgood2 mi_T_alike cd_T_alike := ⟨oc_T_alike, ow_T_alike⟩
def cu_T_retract : List (Nat × List Nat) := []
def cd_T_retract : List ZE := [(0, .aload_n 0, ([0], 0, 0, []), zi0), (1, .iload_n 1, ([1], 0, 0, []), zi0), (2, .invokevirtual 123, ([2, 1, 35], 0, 0, []), mi_T_mapAt), (5, .astore_n 3, ([3], 0, 0, []), zi0), (6, .aload_n 3, ([3], 0, 0, []), zi0), (7, .invokevirtual 143, ([0, 1, 56], 0, 0, []), mi_PM_isEmpty), (10, .ifCond .ne 10, ([20], 0, 0, []), zi0), (13, .iload_n 2, ([2], 0, 0, []), zi0), (14, .invokestatic 69, ([0, 0, 174], 0, 0, []), mi_T_isPlace), (17, .ifCond .ne 6, ([23], 0, 0, []), zi0), (20, .ldc 73, ([0, 180], (-1000001), 0, []), zi0), (22, .ireturn, ([], 0, 0, []), zi0), (23, .aload_n 0, ([0], 0, 0, []), zi0), (24, .getfield 37, ([2, 5, 0, 144], 0, 0, []), zi0), (27, .aload_n 3, ([3], 0, 0, []), zi0), (28, .invokevirtual 147, ([3, 2, 47], 0, 0, []), mi_AC_find), (31, .aload_n 0, ([0], 0, 0, []), zi0), (32, .getfield 37, ([2, 5, 0, 144], 0, 0, []), zi0), (35, .aload_n 0, ([0], 0, 0, []), zi0), (36, .getfield 31, ([2, 4, 0, 143], 0, 0, []), zi0), (39, .aload_n 3, ([3], 0, 0, []), zi0), (40, .invokevirtual 151, ([3, 2, 179], 0, 0, []), mi_AC_makeRetraction), (43, .aload_n 0, ([0], 0, 0, []), zi0), (44, .iload_n 2, ([2], 0, 0, []), zi0), (45, .invokevirtual 83, ([2, 0, 201], 0, 0, []), mi_T_keepMade), (48, .ireturn, ([], 0, 0, []), zi0)]
set_option maxRecDepth 100000 in
theorem oc_T_retract : cd_T_retract.all (zchk mi_T_retract) = true := by decide +kernel
set_option maxRecDepth 100000 in
theorem ow_T_retract : zWs mi_T_retract cd_T_retract := ⟨trivial, trivial, ⟨rfl, rfl, mv_T_mapAt⟩, trivial, trivial, ⟨rfl, rfl, mv_PM_isEmpty⟩, trivial, trivial, ⟨rfl, ms_T_isPlace⟩, trivial, rfl, trivial, trivial, rfl, trivial, ⟨rfl, rfl, mv_AC_find⟩, trivial, rfl, trivial, rfl, trivial, ⟨rfl, rfl, mv_AC_makeRetraction⟩, trivial, trivial, ⟨rfl, rfl, mv_T_keepMade⟩, trivial, trivial⟩
theorem ok_T_retract : zgood2 mi_T_retract cd_T_retract := ⟨oc_T_retract, ow_T_retract⟩
def cu_T_unite : List (Nat × List Nat) := []
def cd_T_unite : List ZE := [(0, .aload_n 0, ([0], 0, 0, []), zi0), (1, .iload_n 1, ([1], 0, 0, []), zi0), (2, .invokevirtual 123, ([2, 1, 35], 0, 0, []), mi_T_mapAt), (5, .astore 4, ([], 0, 0, []), zi0), (7, .aload_n 0, ([0], 0, 0, []), zi0), (8, .iload_n 2, ([2], 0, 0, []), zi0), (9, .invokevirtual 123, ([2, 1, 35], 0, 0, []), mi_T_mapAt), (12, .astore 5, ([], 0, 0, []), zi0), (14, .aload 4, ([], 0, 0, []), zi0), (16, .invokevirtual 143, ([0, 1, 56], 0, 0, []), mi_PM_isEmpty), (19, .ifCond .ne 18, ([37], 0, 0, []), zi0), (22, .aload 5, ([], 0, 0, []), zi0), (24, .invokevirtual 143, ([0, 1, 56], 0, 0, []), mi_PM_isEmpty), (27, .ifCond .ne 10, ([37], 0, 0, []), zi0), (30, .iload_n 3, ([3], 0, 0, []), zi0), (31, .invokestatic 69, ([0, 0, 174], 0, 0, []), mi_T_isPlace), (34, .ifCond .ne 6, ([40], 0, 0, []), zi0), (37, .ldc 73, ([0, 180], (-1000001), 0, []), zi0), (39, .ireturn, ([], 0, 0, []), zi0), (40, .aload 4, ([], 0, 0, []), zi0), (42, .invokevirtual 155, ([0, 0, 209], 0, 0, []), mi_PM_points), (45, .aload 5, ([], 0, 0, []), zi0), (47, .invokevirtual 155, ([0, 0, 209], 0, 0, []), mi_PM_points), (50, .iadd, ([], 0, 0, []), zi0), (51, .bipush 6, ([], nI 6, 0, []), zi0), (53, .if_icmp .le 6, ([59], 0, 0, []), zi0), (56, .ldc 159, ([2, 125], (-1000004), 0, []), zi0), (58, .ireturn, ([], 0, 0, []), zi0), (59, .aload_n 0, ([0], 0, 0, []), zi0), (60, .getfield 31, ([2, 4, 0, 143], 0, 0, []), zi0), (63, .aload 4, ([], 0, 0, []), zi0), (65, .aload 5, ([], 0, 0, []), zi0), (67, .invokevirtual 160, ([0, 2, 126], 0, 0, []), mi_PM_becomeUnion), (70, .aload_n 0, ([0], 0, 0, []), zi0), (71, .iload_n 3, ([3], 0, 0, []), zi0), (72, .invokevirtual 83, ([2, 0, 201], 0, 0, []), mi_T_keepMade), (75, .ireturn, ([], 0, 0, []), zi0)]
set_option maxRecDepth 100000 in
theorem oc_T_unite : cd_T_unite.all (zchk mi_T_unite) = true := by decide +kernel
set_option maxRecDepth 100000 in
theorem ow_T_unite : zWs mi_T_unite cd_T_unite := ⟨trivial, trivial, ⟨rfl, rfl, mv_T_mapAt⟩, trivial, trivial, trivial, ⟨rfl, rfl, mv_T_mapAt⟩, trivial, trivial, ⟨rfl, rfl, mv_PM_isEmpty⟩, trivial, trivial, ⟨rfl, rfl, mv_PM_isEmpty⟩, trivial, trivial, ⟨rfl, ms_T_isPlace⟩, trivial, rfl, trivial, trivial, ⟨rfl, rfl, mv_PM_points⟩, trivial, ⟨rfl, rfl, mv_PM_points⟩, trivial, trivial, trivial, rfl, trivial, trivial, rfl, trivial, trivial, ⟨rfl, rfl, mv_PM_becomeUnion⟩, trivial, trivial, ⟨rfl, rfl, mv_T_keepMade⟩, trivial, trivial⟩
theorem ok_T_unite : zgood2 mi_T_unite cd_T_unite := ⟨oc_T_unite, ow_T_unite⟩
def cu_T_whole : List (Nat × List Nat) := []
def cd_T_whole : List ZE := [(0, .aload_n 0, ([0], 0, 0, []), zi0), (1, .iload_n 1, ([1], 0, 0, []), zi0), (2, .invokevirtual 123, ([2, 1, 35], 0, 0, []), mi_T_mapAt), (5, .astore_n 3, ([3], 0, 0, []), zi0), (6, .aload_n 3, ([3], 0, 0, []), zi0), (7, .invokevirtual 143, ([0, 1, 56], 0, 0, []), mi_PM_isEmpty), (10, .ifCond .eq 6, ([16], 0, 0, []), zi0), (13, .ldc 73, ([0, 180], (-1000001), 0, []), zi0), (15, .ireturn, ([], 0, 0, []), zi0), (16, .iload_n 2, ([2], 0, 0, []), zi0), (17, .tableswitch 193 0 14 #[75, 80, 96, 101, 109, 117, 125, 133, 141, 146, 155, 164, 174, 179, 184], ([210, 75], 0, 0, [(nI 0, 92), (nI 1, 97), (nI 2, 113), (nI 3, 118), (nI 4, 126), (nI 5, 134), (nI 6, 142), (nI 7, 150), (nI 8, 158), (nI 9, 163), (nI 10, 172), (nI 11, 181), (nI 12, 191), (nI 13, 196), (nI 14, 201)]), zi0), (92, .aload_n 3, ([3], 0, 0, []), zi0), (93, .invokevirtual 155, ([0, 0, 209], 0, 0, []), mi_PM_points), (96, .ireturn, ([], 0, 0, []), zi0), (97, .aload_n 3, ([3], 0, 0, []), zi0), (98, .invokestatic 191, ([0, 1, 83], 0, 0, []), mi_CH_brokenTriples), (101, .ifCond .ne 7, ([108], 0, 0, []), zi0), (104, .iconst 1, ([], nI 1, 0, []), zi0), (105, .goto 4, ([109], 0, 0, []), zi0), (108, .iconst 0, ([], nI 0, 0, []), zi0), (109, .invokestatic 195, ([0, 1, 100], 0, 0, []), mi_T_oneIf), (112, .ireturn, ([], 0, 0, []), zi0), (113, .aload_n 3, ([3], 0, 0, []), zi0), (114, .invokestatic 191, ([0, 1, 83], 0, 0, []), mi_CH_brokenTriples), (117, .ireturn, ([], 0, 0, []), zi0), (118, .aload_n 3, ([3], 0, 0, []), zi0), (119, .invokestatic 166, ([0, 1, 101], 0, 0, []), mi_CH_isBijective), (122, .invokestatic 195, ([0, 1, 100], 0, 0, []), mi_T_oneIf), (125, .ireturn, ([], 0, 0, []), zi0), (126, .aload_n 3, ([3], 0, 0, []), zi0), (127, .invokestatic 199, ([0, 1, 112], 0, 0, []), mi_CH_isInvolutive), (130, .invokestatic 195, ([0, 1, 100], 0, 0, []), mi_T_oneIf), (133, .ireturn, ([], 0, 0, []), zi0), (134, .aload_n 3, ([3], 0, 0, []), zi0), (135, .invokestatic 202, ([0, 1, 115], 0, 0, []), mi_CH_isLeftNondegenerate), (138, .invokestatic 195, ([0, 1, 100], 0, 0, []), mi_T_oneIf), (141, .ireturn, ([], 0, 0, []), zi0), (142, .aload_n 3, ([3], 0, 0, []), zi0), (143, .invokestatic 205, ([0, 1, 119], 0, 0, []), mi_CH_isRightNondegenerate), (146, .invokestatic 195, ([0, 1, 100], 0, 0, []), mi_T_oneIf), (149, .ireturn, ([], 0, 0, []), zi0), (150, .aload_n 3, ([3], 0, 0, []), zi0), (151, .invokestatic 208, ([0, 1, 123], 0, 0, []), mi_CH_isSquareFree), (154, .invokestatic 195, ([0, 1, 100], 0, 0, []), mi_T_oneIf), (157, .ireturn, ([], 0, 0, []), zi0), (158, .aload_n 3, ([3], 0, 0, []), zi0), (159, .invokestatic 211, ([0, 1, 126], 0, 0, []), mi_CH_orbits), (162, .ireturn, ([], 0, 0, []), zi0), (163, .aload_n 0, ([0], 0, 0, []), zi0), (164, .getfield 37, ([2, 5, 0, 144], 0, 0, []), zi0), (167, .aload_n 3, ([3], 0, 0, []), zi0), (168, .invokevirtual 214, ([3, 1, 138], 0, 0, []), mi_AC_levelOf), (171, .ireturn, ([], 0, 0, []), zi0), (172, .aload_n 0, ([0], 0, 0, []), zi0), (173, .getfield 51, ([2, 7, 0, 146], 0, 0, []), zi0), (176, .aload_n 3, ([3], 0, 0, []), zi0), (177, .invokevirtual 217, ([5, 1, 170], 0, 0, []), mi_RG_orderFor), (180, .ireturn, ([], 0, 0, []), zi0), (181, .aload_n 0, ([0], 0, 0, []), zi0), (182, .getfield 44, ([2, 6, 0, 145], 0, 0, []), zi0), (185, .aload_n 3, ([3], 0, 0, []), zi0), (186, .aload_n 3, ([3], 0, 0, []), zi0), (187, .invokevirtual 220, ([4, 1, 189], 0, 0, []), mi_RN_isomorphisms), (190, .ireturn, ([], 0, 0, []), zi0), (191, .aload_n 3, ([3], 0, 0, []), zi0), (192, .invokestatic 224, ([0, 1, 220], 0, 0, []), mi_CH_periodOf), (195, .ireturn, ([], 0, 0, []), zi0), (196, .aload_n 3, ([3], 0, 0, []), zi0), (197, .invokestatic 227, ([0, 1, 230], 0, 0, []), mi_CH_closedSets), (200, .ireturn, ([], 0, 0, []), zi0), (201, .aload_n 3, ([3], 0, 0, []), zi0), (202, .aload_n 0, ([0], 0, 0, []), zi0), (203, .getfield 44, ([2, 6, 0, 145], 0, 0, []), zi0), (206, .invokestatic 230, ([0, 1, 236], 0, 0, []), mi_SL_indexOf), (209, .ireturn, ([], 0, 0, []), zi0), (210, .ldc 78, ([0, 181], (-1000002), 0, []), zi0), (212, .ireturn, ([], 0, 0, []), zi0)]
set_option maxRecDepth 100000 in
theorem oc_T_whole : cd_T_whole.all (zchk mi_T_whole) = true := by decide +kernel
set_option maxRecDepth 100000 in
theorem ow_T_whole : zWs mi_T_whole cd_T_whole := ⟨trivial, trivial, ⟨rfl, rfl, mv_T_mapAt⟩, trivial, trivial, ⟨rfl, rfl, mv_PM_isEmpty⟩, trivial, rfl, trivial, trivial, trivial, trivial, ⟨rfl, rfl, mv_PM_points⟩, trivial, trivial, ⟨rfl, ms_CH_brokenTriples⟩, trivial, trivial, trivial, trivial, ⟨rfl, ms_T_oneIf⟩, trivial, trivial, ⟨rfl, ms_CH_brokenTriples⟩, trivial, trivial, ⟨rfl, ms_CH_isBijective⟩, ⟨rfl, ms_T_oneIf⟩, trivial, trivial, ⟨rfl, ms_CH_isInvolutive⟩, ⟨rfl, ms_T_oneIf⟩, trivial, trivial, ⟨rfl, ms_CH_isLeftNondegenerate⟩, ⟨rfl, ms_T_oneIf⟩, trivial, trivial, ⟨rfl, ms_CH_isRightNondegenerate⟩, ⟨rfl, ms_T_oneIf⟩, trivial, trivial, ⟨rfl, ms_CH_isSquareFree⟩, ⟨rfl, ms_T_oneIf⟩, trivial, trivial, ⟨rfl, ms_CH_orbits⟩, trivial, trivial, rfl, trivial, ⟨rfl, rfl, mv_AC_levelOf⟩, trivial, trivial, rfl, trivial, ⟨rfl, rfl, mv_RG_orderFor⟩, trivial, trivial, rfl, trivial, trivial, ⟨rfl, rfl, mv_RN_isomorphisms⟩, trivial, trivial, ⟨rfl, ms_CH_periodOf⟩, trivial, trivial, ⟨rfl, ms_CH_closedSets⟩, trivial, trivial, trivial, rfl, ⟨rfl, ms_SL_indexOf⟩, trivial, rfl, trivial, trivial⟩
theorem ok_T_whole : zgood2 mi_T_whole cd_T_whole := ⟨oc_T_whole, ow_T_whole⟩
end
section
def cu_LW_as : List (Nat × List Nat) := []
def cd_LW_as : List ZE := [(0, .iload_n 0, ([0], 0, 0, []), zi0), (1, .ifCond .eq 7, ([8], 0, 0, []), zi0), (4, .iconst 1, ([], nI 1, 0, []), zi0), (5, .goto 4, ([9], 0, 0, []), zi0), (8, .iconst 0, ([], nI 0, 0, []), zi0), (9, .ireturn, ([], 0, 0, []), zi0)]
set_option maxRecDepth 100000 in
theorem oc_LW_as : cd_LW_as.all (zchk mi_LW_as) = true := by decide +kernel
set_option maxRecDepth 100000 in
theorem ow_LW_as : zWs mi_LW_as cd_LW_as := ⟨trivial, trivial, trivial, trivial, trivial, trivial, trivial⟩
theorem ok_LW_as : zgood2 mi_LW_as cd_LW_as := ⟨oc_LW_as, ow_LW_as⟩
def cu_LW_cell : List (Nat × List Nat) := []
def cd_LW_cell : List ZE := [(0, .iload_n 1, ([1], 0, 0, []), zi0), (1, .aload_n 0, ([0], 0, 0, []), zi0), (2, .arraylength, ([], 0, 0, []), zi0), (3, .if_icmp .ge 9, ([12], 0, 0, []), zi0), (6, .aload_n 0, ([0], 0, 0, []), zi0), (7, .iload_n 1, ([1], 0, 0, []), zi0), (8, .iaload, ([], 0, 0, []), zi0), (9, .goto 9, ([18], 0, 0, []), zi0), (12, .ldc 7, ([2, 75], nI 1013904223, 0, []), zi0), (14, .iload_n 1, ([1], 0, 0, []), zi0), (15, .iconst 1, ([], nI 1, 0, []), zi0), (16, .iadd, ([], 0, 0, []), zi0), (17, .imul, ([], 0, 0, []), zi0), (18, .ireturn, ([], 0, 0, []), zi0)]
set_option maxRecDepth 100000 in
theorem oc_LW_cell : cd_LW_cell.all (zchk mi_LW_cell) = true := by decide +kernel
set_option maxRecDepth 100000 in
theorem ow_LW_cell : zWs mi_LW_cell cd_LW_cell := ⟨trivial, trivial, trivial, trivial, trivial, trivial, trivial, trivial, rfl, trivial, trivial, trivial, trivial, trivial, trivial⟩
theorem ok_LW_cell : zgood2 mi_LW_cell cd_LW_cell := ⟨oc_LW_cell, ow_LW_cell⟩
def cu_LW_copies : List (Nat × List Nat) := [(2, [0, 1, 2, 3])]
def cd_LW_copies : List ZE := [(0, .iconst 0, ([], nI 0, 0, []), zi0), (1, .istore_n 3, ([3], 0, 0, []), zi0), (2, .iload_n 3, ([3], 0, 0, []), zi0), (3, .bipush 8, ([], nI 8, 0, []), zi0), (5, .if_icmp .ge 25, ([30], 0, 0, []), zi0), (8, .aload_n 0, ([0], 0, 0, []), zi0), (9, .bipush 8, ([], nI 8, 0, []), zi0), (11, .iload_n 2, ([2], 0, 0, []), zi0), (12, .imul, ([], 0, 0, []), zi0), (13, .iload_n 3, ([3], 0, 0, []), zi0), (14, .iadd, ([], 0, 0, []), zi0), (15, .aload_n 0, ([0], 0, 0, []), zi0), (16, .bipush 8, ([], nI 8, 0, []), zi0), (18, .iload_n 1, ([1], 0, 0, []), zi0), (19, .imul, ([], 0, 0, []), zi0), (20, .iload_n 3, ([3], 0, 0, []), zi0), (21, .iadd, ([], 0, 0, []), zi0), (22, .laload, ([], 0, 0, []), zi0), (23, .lastore, ([], 0, 0, []), zi0), (24, .iinc 3 1, ([], nI 1, 0, []), zi0), (27, .goto (-25), ([2], 0, 0, []), zi0), (30, .return_, ([], 0, 0, []), zi0)]
set_option maxRecDepth 100000 in
theorem oc_LW_copies : cd_LW_copies.all (zchk mi_LW_copies) = true := by decide +kernel
set_option maxRecDepth 100000 in
theorem ow_LW_copies : zWs mi_LW_copies cd_LW_copies := ⟨trivial, trivial, trivial, trivial, trivial, trivial, trivial, trivial, trivial, trivial, trivial, trivial, trivial, trivial, trivial, trivial, trivial, trivial, trivial, trivial, trivial, trivial, trivial⟩
theorem ok_LW_copies : zgood2 mi_LW_copies cd_LW_copies := ⟨oc_LW_copies, ow_LW_copies⟩
def cu_LW_digit : List (Nat × List Nat) := []
def cd_LW_digit : List ZE := [(0, .iload_n 0, ([0], 0, 0, []), zi0), (1, .iconst 3, ([], nI 3, 0, []), zi0), (2, .iload_n 1, ([1], 0, 0, []), zi0), (3, .imul, ([], 0, 0, []), zi0), (4, .ishr, ([], 0, 0, []), zi0), (5, .bipush 7, ([], nI 7, 0, []), zi0), (7, .iand, ([], 0, 0, []), zi0), (8, .ireturn, ([], 0, 0, []), zi0)]
set_option maxRecDepth 100000 in
theorem oc_LW_digit : cd_LW_digit.all (zchk mi_LW_digit) = true := by decide +kernel
set_option maxRecDepth 100000 in
theorem ow_LW_digit : zWs mi_LW_digit cd_LW_digit := ⟨trivial, trivial, trivial, trivial, trivial, trivial, trivial, trivial, trivial⟩
theorem ok_LW_digit : zgood2 mi_LW_digit cd_LW_digit := ⟨oc_LW_digit, ow_LW_digit⟩
def cu_LW_l : List (Nat × List Nat) := []
def cd_LW_l : List ZE := [(0, .aload_n 0, ([0], 0, 0, []), zi0), (1, .bipush 8, ([], nI 8, 0, []), zi0), (3, .iload_n 1, ([1], 0, 0, []), zi0), (4, .imul, ([], 0, 0, []), zi0), (5, .iconst 1, ([], nI 1, 0, []), zi0), (6, .iadd, ([], 0, 0, []), zi0), (7, .iload_n 2, ([2], 0, 0, []), zi0), (8, .iadd, ([], 0, 0, []), zi0), (9, .laload, ([], 0, 0, []), zi0), (10, .iconst 3, ([], nI 3, 0, []), zi0), (11, .iload_n 3, ([3], 0, 0, []), zi0), (12, .imul, ([], 0, 0, []), zi0), (13, .lshr, ([], 0, 0, []), zi0), (14, .ldc2_w 9, ([2, 105], 0, lN 7, []), zi0), (17, .land, ([], 0, 0, []), zi0), (18, .l2i, ([], 0, 0, []), zi0), (19, .ireturn, ([], 0, 0, []), zi0)]
set_option maxRecDepth 100000 in
theorem oc_LW_l : cd_LW_l.all (zchk mi_LW_l) = true := by decide +kernel
set_option maxRecDepth 100000 in
theorem ow_LW_l : zWs mi_LW_l cd_LW_l := ⟨trivial, trivial, trivial, trivial, trivial, trivial, trivial, trivial, trivial, trivial, trivial, trivial, trivial, rfl, trivial, trivial, trivial, trivial⟩
theorem ok_LW_l : zgood2 mi_LW_l cd_LW_l := ⟨oc_LW_l, ow_LW_l⟩
def cu_LW_lays : List (Nat × List Nat) := []
def cd_LW_lays : List ZE := [(0, .aload_n 0, ([0], 0, 0, []), zi0), (1, .bipush 8, ([], nI 8, 0, []), zi0), (3, .iload_n 1, ([1], 0, 0, []), zi0), (4, .imul, ([], 0, 0, []), zi0), (5, .iconst 1, ([], nI 1, 0, []), zi0), (6, .iadd, ([], 0, 0, []), zi0), (7, .iload_n 2, ([2], 0, 0, []), zi0), (8, .iadd, ([], 0, 0, []), zi0), (9, .laload, ([], 0, 0, []), zi0), (10, .lstore 6, ([], 0, 0, []), zi0), (12, .lload 6, ([], 0, 0, []), zi0), (14, .ldc2_w 9, ([2, 105], 0, lN 7, []), zi0), (17, .iconst 3, ([], nI 3, 0, []), zi0), (18, .iload_n 3, ([3], 0, 0, []), zi0), (19, .imul, ([], 0, 0, []), zi0), (20, .lshl, ([], 0, 0, []), zi0), (21, .ldc2_w 9, ([2, 105], 0, lN 7, []), zi0), (24, .bipush 18, ([], nI 18, 0, []), zi0), (26, .iconst 3, ([], nI 3, 0, []), zi0), (27, .iload_n 3, ([3], 0, 0, []), zi0), (28, .imul, ([], 0, 0, []), zi0), (29, .iadd, ([], 0, 0, []), zi0), (30, .lshl, ([], 0, 0, []), zi0), (31, .lor, ([], 0, 0, []), zi0), (32, .ldc2_w 11, ([2, 106], 0, (-1), []), zi0), (35, .lxor, ([], 0, 0, []), zi0), (36, .land, ([], 0, 0, []), zi0), (37, .lstore 6, ([], 0, 0, []), zi0), (39, .aload_n 0, ([0], 0, 0, []), zi0), (40, .bipush 8, ([], nI 8, 0, []), zi0), (42, .iload_n 1, ([1], 0, 0, []), zi0), (43, .imul, ([], 0, 0, []), zi0), (44, .iconst 1, ([], nI 1, 0, []), zi0), (45, .iadd, ([], 0, 0, []), zi0), (46, .iload_n 2, ([2], 0, 0, []), zi0), (47, .iadd, ([], 0, 0, []), zi0), (48, .lload 6, ([], 0, 0, []), zi0), (50, .iload 4, ([], 0, 0, []), zi0), (52, .i2l, ([], 0, 0, []), zi0), (53, .iconst 3, ([], nI 3, 0, []), zi0), (54, .iload_n 3, ([3], 0, 0, []), zi0), (55, .imul, ([], 0, 0, []), zi0), (56, .lshl, ([], 0, 0, []), zi0), (57, .lor, ([], 0, 0, []), zi0), (58, .iload 5, ([], 0, 0, []), zi0), (60, .i2l, ([], 0, 0, []), zi0), (61, .bipush 18, ([], nI 18, 0, []), zi0), (63, .iconst 3, ([], nI 3, 0, []), zi0), (64, .iload_n 3, ([3], 0, 0, []), zi0), (65, .imul, ([], 0, 0, []), zi0), (66, .iadd, ([], 0, 0, []), zi0), (67, .lshl, ([], 0, 0, []), zi0), (68, .lor, ([], 0, 0, []), zi0), (69, .lastore, ([], 0, 0, []), zi0), (70, .return_, ([], 0, 0, []), zi0)]
set_option maxRecDepth 100000 in
theorem oc_LW_lays : cd_LW_lays.all (zchk mi_LW_lays) = true := by decide +kernel
set_option maxRecDepth 100000 in
theorem ow_LW_lays : zWs mi_LW_lays cd_LW_lays := ⟨trivial, trivial, trivial, trivial, trivial, trivial, trivial, trivial, trivial, trivial, trivial, rfl, trivial, trivial, trivial, trivial, rfl, trivial, trivial, trivial, trivial, trivial, trivial, trivial, rfl, trivial, trivial, trivial, trivial, trivial, trivial, trivial, trivial, trivial, trivial, trivial, trivial, trivial, trivial, trivial, trivial, trivial, trivial, trivial, trivial, trivial, trivial, trivial, trivial, trivial, trivial, trivial, trivial, trivial, trivial, trivial⟩
theorem ok_LW_lays : zgood2 mi_LW_lays cd_LW_lays := ⟨oc_LW_lays, ow_LW_lays⟩
def cu_LW_low : List (Nat × List Nat) := []
def cd_LW_low : List ZE := [(0, .iload_n 0, ([0], 0, 0, []), zi0), (1, .ldc 8, ([2, 85], nI 2147483647, 0, []), zi0), (3, .iand, ([], 0, 0, []), zi0), (4, .iload_n 1, ([1], 0, 0, []), zi0), (5, .irem, ([], 0, 0, []), zi0), (6, .ireturn, ([], 0, 0, []), zi0)]
set_option maxRecDepth 100000 in
theorem oc_LW_low : cd_LW_low.all (zchk mi_LW_low) = true := by decide +kernel
set_option maxRecDepth 100000 in
theorem ow_LW_low : zWs mi_LW_low cd_LW_low := ⟨trivial, rfl, trivial, trivial, trivial, trivial, trivial⟩
theorem ok_LW_low : zgood2 mi_LW_low cd_LW_low := ⟨oc_LW_low, ow_LW_low⟩
def cu_LW_points : List (Nat × List Nat) := []
def cd_LW_points : List ZE := [(0, .aload_n 0, ([0], 0, 0, []), zi0), (1, .bipush 8, ([], nI 8, 0, []), zi0), (3, .iload_n 1, ([1], 0, 0, []), zi0), (4, .imul, ([], 0, 0, []), zi0), (5, .laload, ([], 0, 0, []), zi0), (6, .l2i, ([], 0, 0, []), zi0), (7, .ireturn, ([], 0, 0, []), zi0)]
set_option maxRecDepth 100000 in
theorem oc_LW_points : cd_LW_points.all (zchk mi_LW_points) = true := by decide +kernel
set_option maxRecDepth 100000 in
theorem ow_LW_points : zWs mi_LW_points cd_LW_points := ⟨trivial, trivial, trivial, trivial, trivial, trivial, trivial, trivial⟩
theorem ok_LW_points : zgood2 mi_LW_points cd_LW_points := ⟨oc_LW_points, ow_LW_points⟩
def cu_LW_r : List (Nat × List Nat) := []
def cd_LW_r : List ZE := [(0, .aload_n 0, ([0], 0, 0, []), zi0), (1, .bipush 8, ([], nI 8, 0, []), zi0), (3, .iload_n 1, ([1], 0, 0, []), zi0), (4, .imul, ([], 0, 0, []), zi0), (5, .iconst 1, ([], nI 1, 0, []), zi0), (6, .iadd, ([], 0, 0, []), zi0), (7, .iload_n 2, ([2], 0, 0, []), zi0), (8, .iadd, ([], 0, 0, []), zi0), (9, .laload, ([], 0, 0, []), zi0), (10, .bipush 18, ([], nI 18, 0, []), zi0), (12, .iconst 3, ([], nI 3, 0, []), zi0), (13, .iload_n 3, ([3], 0, 0, []), zi0), (14, .imul, ([], 0, 0, []), zi0), (15, .iadd, ([], 0, 0, []), zi0), (16, .lshr, ([], 0, 0, []), zi0), (17, .ldc2_w 9, ([2, 105], 0, lN 7, []), zi0), (20, .land, ([], 0, 0, []), zi0), (21, .l2i, ([], 0, 0, []), zi0), (22, .ireturn, ([], 0, 0, []), zi0)]
set_option maxRecDepth 100000 in
theorem oc_LW_r : cd_LW_r.all (zchk mi_LW_r) = true := by decide +kernel
set_option maxRecDepth 100000 in
theorem ow_LW_r : zWs mi_LW_r cd_LW_r := ⟨trivial, trivial, trivial, trivial, trivial, trivial, trivial, trivial, trivial, trivial, trivial, trivial, trivial, trivial, trivial, rfl, trivial, trivial, trivial, trivial⟩
theorem ok_LW_r : zgood2 mi_LW_r cd_LW_r := ⟨oc_LW_r, ow_LW_r⟩
def cu_LW_times : List (Nat × List Nat) := []
def cd_LW_times : List ZE := [(0, .iload_n 3, ([3], 0, 0, []), zi0), (1, .iconst 3, ([], nI 3, 0, []), zi0), (2, .idiv, ([], 0, 0, []), zi0), (3, .ifCond .ne 15, ([18], 0, 0, []), zi0), (6, .iload_n 2, ([2], 0, 0, []), zi0), (7, .iconst 3, ([], nI 3, 0, []), zi0), (8, .idiv, ([], 0, 0, []), zi0), (9, .ifCond .ne 9, ([18], 0, 0, []), zi0), (12, .iload_n 2, ([2], 0, 0, []), zi0), (13, .iload_n 3, ([3], 0, 0, []), zi0), (14, .iadd, ([], 0, 0, []), zi0), (15, .goto 24, ([39], 0, 0, []), zi0), (18, .iload_n 2, ([2], 0, 0, []), zi0), (19, .iconst 3, ([], nI 3, 0, []), zi0), (20, .idiv, ([], 0, 0, []), zi0), (21, .ifCond .ne 11, ([32], 0, 0, []), zi0), (24, .iload_n 2, ([2], 0, 0, []), zi0), (25, .iload_n 3, ([3], 0, 0, []), zi0), (26, .iconst 3, ([], nI 3, 0, []), zi0), (27, .irem, ([], 0, 0, []), zi0), (28, .iadd, ([], 0, 0, []), zi0), (29, .goto 10, ([39], 0, 0, []), zi0), (32, .iload_n 2, ([2], 0, 0, []), zi0), (33, .iconst 3, ([], nI 3, 0, []), zi0), (34, .irem, ([], 0, 0, []), zi0), (35, .iload_n 3, ([3], 0, 0, []), zi0), (36, .iconst 3, ([], nI 3, 0, []), zi0), (37, .irem, ([], 0, 0, []), zi0), (38, .isub, ([], 0, 0, []), zi0), (39, .istore 4, ([], 0, 0, []), zi0), (41, .iload_n 0, ([0], 0, 0, []), zi0), (42, .ifCond .ne 11, ([53], 0, 0, []), zi0), (45, .iload_n 2, ([2], 0, 0, []), zi0), (46, .iload_n 3, ([3], 0, 0, []), zi0), (47, .iadd, ([], 0, 0, []), zi0), (48, .iload_n 1, ([1], 0, 0, []), zi0), (49, .irem, ([], 0, 0, []), zi0), (50, .goto 35, ([85], 0, 0, []), zi0), (53, .iload_n 0, ([0], 0, 0, []), zi0), (54, .iconst 1, ([], nI 1, 0, []), zi0), (55, .if_icmp .ne 9, ([64], 0, 0, []), zi0), (58, .iload_n 2, ([2], 0, 0, []), zi0), (59, .iload_n 3, ([3], 0, 0, []), zi0), (60, .ixor, ([], 0, 0, []), zi0), (61, .goto 24, ([85], 0, 0, []), zi0), (64, .iload 4, ([], 0, 0, []), zi0), (66, .iconst 3, ([], nI 3, 0, []), zi0), (67, .iadd, ([], 0, 0, []), zi0), (68, .iconst 3, ([], nI 3, 0, []), zi0), (69, .irem, ([], 0, 0, []), zi0), (70, .iload_n 2, ([2], 0, 0, []), zi0), (71, .iconst 3, ([], nI 3, 0, []), zi0), (72, .idiv, ([], 0, 0, []), zi0), (73, .iload_n 3, ([3], 0, 0, []), zi0), (74, .iconst 3, ([], nI 3, 0, []), zi0), (75, .idiv, ([], 0, 0, []), zi0), (76, .if_icmp .ne 7, ([83], 0, 0, []), zi0), (79, .iconst 0, ([], nI 0, 0, []), zi0), (80, .goto 4, ([84], 0, 0, []), zi0), (83, .iconst 3, ([], nI 3, 0, []), zi0), (84, .iadd, ([], 0, 0, []), zi0), (85, .ireturn, ([], 0, 0, []), zi0)]
set_option maxRecDepth 100000 in
theorem oc_LW_times : cd_LW_times.all (zchk mi_LW_times) = true := by decide +kernel
set_option maxRecDepth 100000 in
theorem ow_LW_times : zWs mi_LW_times cd_LW_times := ⟨trivial, trivial, trivial, trivial, trivial, trivial, trivial, trivial, trivial, trivial, trivial, trivial, trivial, trivial, trivial, trivial, trivial, trivial, trivial, trivial, trivial, trivial, trivial, trivial, trivial, trivial, trivial, trivial, trivial, trivial, trivial, trivial, trivial, trivial, trivial, trivial, trivial, trivial, trivial, trivial, trivial, trivial, trivial, trivial, trivial, trivial, trivial, trivial, trivial, trivial, trivial, trivial, trivial, trivial, trivial, trivial, trivial, trivial, trivial, trivial, trivial, trivial, trivial⟩
theorem ok_LW_times : zgood2 mi_LW_times cd_LW_times := ⟨oc_LW_times, ow_LW_times⟩
def cu_LW_bijective : List (Nat × List Nat) := [(14, [0, 1, 2, 3, 5, 6])]
def cd_LW_bijective : List ZE := [(0, .aload_n 0, ([0], 0, 0, []), zi0), (1, .iload_n 1, ([1], 0, 0, []), zi0), (2, .invokestatic 22, ([0, 2, 76], 0, 0, []), mi_LW_points), (5, .istore_n 2, ([2], 0, 0, []), zi0), (6, .lconst 0, ([], 0, lN 0, []), zi0), (7, .lstore_n 3, ([3], 0, 0, []), zi0), (8, .iconst 1, ([], nI 1, 0, []), zi0), (9, .istore 5, ([], 0, 0, []), zi0), (11, .iconst 0, ([], nI 0, 0, []), zi0), (12, .istore 6, ([], 0, 0, []), zi0), (14, .iload 6, ([], 0, 0, []), zi0), (16, .iload_n 2, ([2], 0, 0, []), zi0), (17, .iload_n 2, ([2], 0, 0, []), zi0), (18, .imul, ([], 0, 0, []), zi0), (19, .if_icmp .ge 69, ([88], 0, 0, []), zi0), (22, .lconst 1, ([], 0, lN 1, []), zi0), (23, .bipush 6, ([], nI 6, 0, []), zi0), (25, .aload_n 0, ([0], 0, 0, []), zi0), (26, .iload_n 1, ([1], 0, 0, []), zi0), (27, .iload 6, ([], 0, 0, []), zi0), (29, .iload_n 2, ([2], 0, 0, []), zi0), (30, .idiv, ([], 0, 0, []), zi0), (31, .iload 6, ([], 0, 0, []), zi0), (33, .iload_n 2, ([2], 0, 0, []), zi0), (34, .irem, ([], 0, 0, []), zi0), (35, .invokestatic 26, ([0, 2, 114], 0, 0, []), mi_LW_l), (38, .imul, ([], 0, 0, []), zi0), (39, .aload_n 0, ([0], 0, 0, []), zi0), (40, .iload_n 1, ([1], 0, 0, []), zi0), (41, .iload 6, ([], 0, 0, []), zi0), (43, .iload_n 2, ([2], 0, 0, []), zi0), (44, .idiv, ([], 0, 0, []), zi0), (45, .iload 6, ([], 0, 0, []), zi0), (47, .iload_n 2, ([2], 0, 0, []), zi0), (48, .irem, ([], 0, 0, []), zi0), (49, .invokestatic 30, ([0, 2, 117], 0, 0, []), mi_LW_r), (52, .iadd, ([], 0, 0, []), zi0), (53, .lshl, ([], 0, 0, []), zi0), (54, .lstore 7, ([], 0, 0, []), zi0), (56, .iload 5, ([], 0, 0, []), zi0), (58, .ifCond .eq 16, ([74], 0, 0, []), zi0), (61, .lload_n 3, ([3], 0, 0, []), zi0), (62, .lload 7, ([], 0, 0, []), zi0), (64, .land, ([], 0, 0, []), zi0), (65, .lconst 0, ([], 0, lN 0, []), zi0), (66, .lcmp, ([], 0, 0, []), zi0), (67, .ifCond .ne 7, ([74], 0, 0, []), zi0), (70, .iconst 1, ([], nI 1, 0, []), zi0), (71, .goto 4, ([75], 0, 0, []), zi0), (74, .iconst 0, ([], nI 0, 0, []), zi0), (75, .istore 5, ([], 0, 0, []), zi0), (77, .lload_n 3, ([3], 0, 0, []), zi0), (78, .lload 7, ([], 0, 0, []), zi0), (80, .lor, ([], 0, 0, []), zi0), (81, .lstore_n 3, ([3], 0, 0, []), zi0), (82, .iinc 6 1, ([], nI 1, 0, []), zi0), (85, .goto (-71), ([14], 0, 0, []), zi0), (88, .iload 5, ([], 0, 0, []), zi0), (90, .ireturn, ([], 0, 0, []), zi0)]
set_option maxRecDepth 100000 in
theorem oc_LW_bijective : cd_LW_bijective.all (zchk mi_LW_bijective) = true := by decide +kernel
set_option maxRecDepth 100000 in
theorem ow_LW_bijective : zWs mi_LW_bijective cd_LW_bijective := ⟨trivial, trivial, ⟨rfl, ms_LW_points⟩, trivial, trivial, trivial, trivial, trivial, trivial, trivial, trivial, trivial, trivial, trivial, trivial, trivial, trivial, trivial, trivial, trivial, trivial, trivial, trivial, trivial, trivial, ⟨rfl, ms_LW_l⟩, trivial, trivial, trivial, trivial, trivial, trivial, trivial, trivial, trivial, ⟨rfl, ms_LW_r⟩, trivial, trivial, trivial, trivial, trivial, trivial, trivial, trivial, trivial, trivial, trivial, trivial, trivial, trivial, trivial, trivial, trivial, trivial, trivial, trivial, trivial, trivial, trivial, trivial⟩
theorem ok_LW_bijective : zgood2 mi_LW_bijective cd_LW_bijective := ⟨oc_LW_bijective, ow_LW_bijective⟩
def cu_LW_clazz : List (Nat × List Nat) := [(15, [0, 1, 2, 3, 4, 5, 6]), (35, [0, 1, 2, 3, 4, 5, 6, 7, 8]), (46, [0, 1, 2, 3, 4, 5, 6, 7, 8, 9, 10]), (138, [0, 1, 2, 3, 4, 5, 6, 7, 8, 9])]
def cd_LW_clazz : List ZE := [(0, .aload_n 0, ([0], 0, 0, []), zi0), (1, .iload_n 1, ([1], 0, 0, []), zi0), (2, .invokestatic 22, ([0, 2, 76], 0, 0, []), mi_LW_points), (5, .istore_n 3, ([3], 0, 0, []), zi0), (6, .iconst 0, ([], nI 0, 0, []), zi0), (7, .istore 4, ([], 0, 0, []), zi0), (9, .iconst (-1), ([], (-1), 0, []), zi0), (10, .istore 5, ([], 0, 0, []), zi0), (12, .iconst 0, ([], nI 0, 0, []), zi0), (13, .istore 6, ([], 0, 0, []), zi0), (15, .iload 6, ([], 0, 0, []), zi0), (17, .iload_n 2, ([2], 0, 0, []), zi0), (18, .if_icmp .gt 221, ([239], 0, 0, []), zi0), (21, .iload 5, ([], 0, 0, []), zi0), (23, .iconst (-1), ([], (-1), 0, []), zi0), (24, .if_icmp .ne 215, ([239], 0, 0, []), zi0), (27, .iload 6, ([], 0, 0, []), zi0), (29, .istore 7, ([], 0, 0, []), zi0), (31, .iload 6, ([], 0, 0, []), zi0), (33, .istore 8, ([], 0, 0, []), zi0), (35, .iload 8, ([], 0, 0, []), zi0), (37, .ifCond .lt 95, ([132], 0, 0, []), zi0), (40, .iconst 1, ([], nI 1, 0, []), zi0), (41, .istore 9, ([], 0, 0, []), zi0), (43, .iconst 0, ([], nI 0, 0, []), zi0), (44, .istore 10, ([], 0, 0, []), zi0), (46, .iload 10, ([], 0, 0, []), zi0), (48, .iload_n 3, ([3], 0, 0, []), zi0), (49, .if_icmp .ge 63, ([112], 0, 0, []), zi0), (52, .iload 9, ([], 0, 0, []), zi0), (54, .ifCond .eq 49, ([103], 0, 0, []), zi0), (57, .aload_n 0, ([0], 0, 0, []), zi0), (58, .iload_n 1, ([1], 0, 0, []), zi0), (59, .iload 6, ([], 0, 0, []), zi0), (61, .iload 10, ([], 0, 0, []), zi0), (63, .invokestatic 26, ([0, 2, 114], 0, 0, []), mi_LW_l), (66, .aload_n 0, ([0], 0, 0, []), zi0), (67, .iload_n 1, ([1], 0, 0, []), zi0), (68, .iload 8, ([], 0, 0, []), zi0), (70, .iload 10, ([], 0, 0, []), zi0), (72, .invokestatic 26, ([0, 2, 114], 0, 0, []), mi_LW_l), (75, .if_icmp .ne 28, ([103], 0, 0, []), zi0), (78, .aload_n 0, ([0], 0, 0, []), zi0), (79, .iload_n 1, ([1], 0, 0, []), zi0), (80, .iload 10, ([], 0, 0, []), zi0), (82, .iload 6, ([], 0, 0, []), zi0), (84, .invokestatic 30, ([0, 2, 117], 0, 0, []), mi_LW_r), (87, .aload_n 0, ([0], 0, 0, []), zi0), (88, .iload_n 1, ([1], 0, 0, []), zi0), (89, .iload 10, ([], 0, 0, []), zi0), (91, .iload 8, ([], 0, 0, []), zi0), (93, .invokestatic 30, ([0, 2, 117], 0, 0, []), mi_LW_r), (96, .if_icmp .ne 7, ([103], 0, 0, []), zi0), (99, .iconst 1, ([], nI 1, 0, []), zi0), (100, .goto 4, ([104], 0, 0, []), zi0), (103, .iconst 0, ([], nI 0, 0, []), zi0), (104, .istore 9, ([], 0, 0, []), zi0), (106, .iinc 10 1, ([], nI 1, 0, []), zi0), (109, .goto (-63), ([46], 0, 0, []), zi0), (112, .iload 9, ([], 0, 0, []), zi0), (114, .ifCond .eq 8, ([122], 0, 0, []), zi0), (117, .iload 8, ([], 0, 0, []), zi0), (119, .goto 5, ([124], 0, 0, []), zi0), (122, .iload 7, ([], 0, 0, []), zi0), (124, .istore 7, ([], 0, 0, []), zi0), (126, .iinc 8 (-1), ([], (-1), 0, []), zi0), (129, .goto (-94), ([35], 0, 0, []), zi0), (132, .iconst 1, ([], nI 1, 0, []), zi0), (133, .istore 8, ([], 0, 0, []), zi0), (135, .iconst 0, ([], nI 0, 0, []), zi0), (136, .istore 9, ([], 0, 0, []), zi0), (138, .iload 9, ([], 0, 0, []), zi0), (140, .iload_n 3, ([3], 0, 0, []), zi0), (141, .if_icmp .ge 61, ([202], 0, 0, []), zi0), (144, .iload 8, ([], 0, 0, []), zi0), (146, .ifCond .eq 47, ([193], 0, 0, []), zi0), (149, .aload_n 0, ([0], 0, 0, []), zi0), (150, .iload_n 1, ([1], 0, 0, []), zi0), (151, .iload 6, ([], 0, 0, []), zi0), (153, .iload 9, ([], 0, 0, []), zi0), (155, .invokestatic 26, ([0, 2, 114], 0, 0, []), mi_LW_l), (158, .aload_n 0, ([0], 0, 0, []), zi0), (159, .iload_n 1, ([1], 0, 0, []), zi0), (160, .iload_n 2, ([2], 0, 0, []), zi0), (161, .iload 9, ([], 0, 0, []), zi0), (163, .invokestatic 26, ([0, 2, 114], 0, 0, []), mi_LW_l), (166, .if_icmp .ne 27, ([193], 0, 0, []), zi0), (169, .aload_n 0, ([0], 0, 0, []), zi0), (170, .iload_n 1, ([1], 0, 0, []), zi0), (171, .iload 9, ([], 0, 0, []), zi0), (173, .iload 6, ([], 0, 0, []), zi0), (175, .invokestatic 30, ([0, 2, 117], 0, 0, []), mi_LW_r), (178, .aload_n 0, ([0], 0, 0, []), zi0), (179, .iload_n 1, ([1], 0, 0, []), zi0), (180, .iload 9, ([], 0, 0, []), zi0), (182, .iload_n 2, ([2], 0, 0, []), zi0), (183, .invokestatic 30, ([0, 2, 117], 0, 0, []), mi_LW_r), (186, .if_icmp .ne 7, ([193], 0, 0, []), zi0), (189, .iconst 1, ([], nI 1, 0, []), zi0), (190, .goto 4, ([194], 0, 0, []), zi0), (193, .iconst 0, ([], nI 0, 0, []), zi0), (194, .istore 8, ([], 0, 0, []), zi0), (196, .iinc 9 1, ([], nI 1, 0, []), zi0), (199, .goto (-61), ([138], 0, 0, []), zi0), (202, .iload 8, ([], 0, 0, []), zi0), (204, .ifCond .eq 8, ([212], 0, 0, []), zi0), (207, .iload 4, ([], 0, 0, []), zi0), (209, .goto 5, ([214], 0, 0, []), zi0), (212, .iload 5, ([], 0, 0, []), zi0), (214, .istore 5, ([], 0, 0, []), zi0), (216, .iload 4, ([], 0, 0, []), zi0), (218, .iload 7, ([], 0, 0, []), zi0), (220, .iload 6, ([], 0, 0, []), zi0), (222, .if_icmp .ne 7, ([229], 0, 0, []), zi0), (225, .iconst 1, ([], nI 1, 0, []), zi0), (226, .goto 4, ([230], 0, 0, []), zi0), (229, .iconst 0, ([], nI 0, 0, []), zi0), (230, .iadd, ([], 0, 0, []), zi0), (231, .istore 4, ([], 0, 0, []), zi0), (233, .iinc 6 1, ([], nI 1, 0, []), zi0), (236, .goto (-221), ([15], 0, 0, []), zi0), (239, .iload 5, ([], 0, 0, []), zi0), (241, .ireturn, ([], 0, 0, []), zi0)]
set_option maxRecDepth 100000 in
theorem oc_LW_clazz : cd_LW_clazz.all (zchk mi_LW_clazz) = true := by decide +kernel
set_option maxRecDepth 100000 in
theorem ow_LW_clazz : zWs mi_LW_clazz cd_LW_clazz := ⟨trivial, trivial, ⟨rfl, ms_LW_points⟩, trivial, trivial, trivial, trivial, trivial, trivial, trivial, trivial, trivial, trivial, trivial, trivial, trivial, trivial, trivial, trivial, trivial, trivial, trivial, trivial, trivial, trivial, trivial, trivial, trivial, trivial, trivial, trivial, trivial, trivial, trivial, trivial, ⟨rfl, ms_LW_l⟩, trivial, trivial, trivial, trivial, ⟨rfl, ms_LW_l⟩, trivial, trivial, trivial, trivial, trivial, ⟨rfl, ms_LW_r⟩, trivial, trivial, trivial, trivial, ⟨rfl, ms_LW_r⟩, trivial, trivial, trivial, trivial, trivial, trivial, trivial, trivial, trivial, trivial, trivial, trivial, trivial, trivial, trivial, trivial, trivial, trivial, trivial, trivial, trivial, trivial, trivial, trivial, trivial, trivial, trivial, trivial, ⟨rfl, ms_LW_l⟩, trivial, trivial, trivial, trivial, ⟨rfl, ms_LW_l⟩, trivial, trivial, trivial, trivial, trivial, ⟨rfl, ms_LW_r⟩, trivial, trivial, trivial, trivial, ⟨rfl, ms_LW_r⟩, trivial, trivial, trivial, trivial, trivial, trivial, trivial, trivial, trivial, trivial, trivial, trivial, trivial, trivial, trivial, trivial, trivial, trivial, trivial, trivial, trivial, trivial, trivial, trivial, trivial, trivial, trivial⟩
theorem ok_LW_clazz : zgood2 mi_LW_clazz cd_LW_clazz := ⟨oc_LW_clazz, ow_LW_clazz⟩
def cu_LW_is : List (Nat × List Nat) := [(12, [0, 1, 2, 3, 4, 5]), (24, [0, 1, 2, 3, 4, 5, 6, 7])]
def cd_LW_is : List ZE := [(0, .aload_n 0, ([0], 0, 0, []), zi0), (1, .iload_n 1, ([1], 0, 0, []), zi0), (2, .invokestatic 22, ([0, 2, 76], 0, 0, []), mi_LW_points), (5, .istore_n 3, ([3], 0, 0, []), zi0), (6, .iconst 1, ([], nI 1, 0, []), zi0), (7, .istore 4, ([], 0, 0, []), zi0), (9, .iconst 0, ([], nI 0, 0, []), zi0), (10, .istore 5, ([], 0, 0, []), zi0), (12, .iload 5, ([], 0, 0, []), zi0), (14, .iload_n 3, ([3], 0, 0, []), zi0), (15, .if_icmp .ge 176, ([191], 0, 0, []), zi0), (18, .iconst 0, ([], nI 0, 0, []), zi0), (19, .istore 6, ([], 0, 0, []), zi0), (21, .iconst 0, ([], nI 0, 0, []), zi0), (22, .istore 7, ([], 0, 0, []), zi0), (24, .iload 7, ([], 0, 0, []), zi0), (26, .iload_n 3, ([3], 0, 0, []), zi0), (27, .if_icmp .ge 127, ([154], 0, 0, []), zi0), (30, .aload_n 0, ([0], 0, 0, []), zi0), (31, .iload_n 1, ([1], 0, 0, []), zi0), (32, .iload 5, ([], 0, 0, []), zi0), (34, .iload 7, ([], 0, 0, []), zi0), (36, .invokestatic 26, ([0, 2, 114], 0, 0, []), mi_LW_l), (39, .istore 8, ([], 0, 0, []), zi0), (41, .aload_n 0, ([0], 0, 0, []), zi0), (42, .iload_n 1, ([1], 0, 0, []), zi0), (43, .iload 5, ([], 0, 0, []), zi0), (45, .iload 7, ([], 0, 0, []), zi0), (47, .invokestatic 30, ([0, 2, 117], 0, 0, []), mi_LW_r), (50, .istore 9, ([], 0, 0, []), zi0), (52, .iload 6, ([], 0, 0, []), zi0), (54, .iconst 1, ([], nI 1, 0, []), zi0), (55, .iload_n 2, ([2], 0, 0, []), zi0), (56, .iconst 1, ([], nI 1, 0, []), zi0), (57, .if_icmp .ne 8, ([65], 0, 0, []), zi0), (60, .iload 8, ([], 0, 0, []), zi0), (62, .goto 12, ([74], 0, 0, []), zi0), (65, .aload_n 0, ([0], 0, 0, []), zi0), (66, .iload_n 1, ([1], 0, 0, []), zi0), (67, .iload 7, ([], 0, 0, []), zi0), (69, .iload 5, ([], 0, 0, []), zi0), (71, .invokestatic 30, ([0, 2, 117], 0, 0, []), mi_LW_r), (74, .ishl, ([], 0, 0, []), zi0), (75, .ior, ([], 0, 0, []), zi0), (76, .istore 6, ([], 0, 0, []), zi0), (78, .iload 4, ([], 0, 0, []), zi0), (80, .ifCond .eq 65, ([145], 0, 0, []), zi0), (83, .iload_n 2, ([2], 0, 0, []), zi0), (84, .ifCond .gt 31, ([115], 0, 0, []), zi0), (87, .aload_n 0, ([0], 0, 0, []), zi0), (88, .iload_n 1, ([1], 0, 0, []), zi0), (89, .iload 8, ([], 0, 0, []), zi0), (91, .iload 9, ([], 0, 0, []), zi0), (93, .invokestatic 26, ([0, 2, 114], 0, 0, []), mi_LW_l), (96, .iload 5, ([], 0, 0, []), zi0), (98, .if_icmp .ne 47, ([145], 0, 0, []), zi0), (101, .aload_n 0, ([0], 0, 0, []), zi0), (102, .iload_n 1, ([1], 0, 0, []), zi0), (103, .iload 8, ([], 0, 0, []), zi0), (105, .iload 9, ([], 0, 0, []), zi0), (107, .invokestatic 30, ([0, 2, 117], 0, 0, []), mi_LW_r), (110, .iload 7, ([], 0, 0, []), zi0), (112, .if_icmp .ne 33, ([145], 0, 0, []), zi0), (115, .iload_n 2, ([2], 0, 0, []), zi0), (116, .iconst 3, ([], nI 3, 0, []), zi0), (117, .if_icmp .lt 24, ([141], 0, 0, []), zi0), (120, .iload 5, ([], 0, 0, []), zi0), (122, .iload 7, ([], 0, 0, []), zi0), (124, .if_icmp .ne 17, ([141], 0, 0, []), zi0), (127, .iload 8, ([], 0, 0, []), zi0), (129, .iload 5, ([], 0, 0, []), zi0), (131, .if_icmp .ne 14, ([145], 0, 0, []), zi0), (134, .iload 9, ([], 0, 0, []), zi0), (136, .iload 5, ([], 0, 0, []), zi0), (138, .if_icmp .ne 7, ([145], 0, 0, []), zi0), (141, .iconst 1, ([], nI 1, 0, []), zi0), (142, .goto 4, ([146], 0, 0, []), zi0), (145, .iconst 0, ([], nI 0, 0, []), zi0), (146, .istore 4, ([], 0, 0, []), zi0), (148, .iinc 7 1, ([], nI 1, 0, []), zi0), (151, .goto (-127), ([24], 0, 0, []), zi0), (154, .iload 4, ([], 0, 0, []), zi0), (156, .ifCond .eq 26, ([182], 0, 0, []), zi0), (159, .iload_n 2, ([2], 0, 0, []), zi0), (160, .ifCond .eq 18, ([178], 0, 0, []), zi0), (163, .iload_n 2, ([2], 0, 0, []), zi0), (164, .iconst 3, ([], nI 3, 0, []), zi0), (165, .if_icmp .eq 13, ([178], 0, 0, []), zi0), (168, .iload 6, ([], 0, 0, []), zi0), (170, .iconst 1, ([], nI 1, 0, []), zi0), (171, .iload_n 3, ([3], 0, 0, []), zi0), (172, .ishl, ([], 0, 0, []), zi0), (173, .iconst 1, ([], nI 1, 0, []), zi0), (174, .isub, ([], 0, 0, []), zi0), (175, .if_icmp .ne 7, ([182], 0, 0, []), zi0), (178, .iconst 1, ([], nI 1, 0, []), zi0), (179, .goto 4, ([183], 0, 0, []), zi0), (182, .iconst 0, ([], nI 0, 0, []), zi0), (183, .istore 4, ([], 0, 0, []), zi0), (185, .iinc 5 1, ([], nI 1, 0, []), zi0), (188, .goto (-176), ([12], 0, 0, []), zi0), (191, .iload 4, ([], 0, 0, []), zi0), (193, .ireturn, ([], 0, 0, []), zi0)]
set_option maxRecDepth 100000 in
theorem oc_LW_is : cd_LW_is.all (zchk mi_LW_is) = true := by decide +kernel
set_option maxRecDepth 100000 in
theorem ow_LW_is : zWs mi_LW_is cd_LW_is := ⟨trivial, trivial, ⟨rfl, ms_LW_points⟩, trivial, trivial, trivial, trivial, trivial, trivial, trivial, trivial, trivial, trivial, trivial, trivial, trivial, trivial, trivial, trivial, trivial, trivial, trivial, ⟨rfl, ms_LW_l⟩, trivial, trivial, trivial, trivial, trivial, ⟨rfl, ms_LW_r⟩, trivial, trivial, trivial, trivial, trivial, trivial, trivial, trivial, trivial, trivial, trivial, trivial, ⟨rfl, ms_LW_r⟩, trivial, trivial, trivial, trivial, trivial, trivial, trivial, trivial, trivial, trivial, trivial, ⟨rfl, ms_LW_l⟩, trivial, trivial, trivial, trivial, trivial, trivial, ⟨rfl, ms_LW_r⟩, trivial, trivial, trivial, trivial, trivial, trivial, trivial, trivial, trivial, trivial, trivial, trivial, trivial, trivial, trivial, trivial, trivial, trivial, trivial, trivial, trivial, trivial, trivial, trivial, trivial, trivial, trivial, trivial, trivial, trivial, trivial, trivial, trivial, trivial, trivial, trivial, trivial, trivial, trivial, trivial, trivial, trivial, trivial⟩
theorem ok_LW_is : zgood2 mi_LW_is cd_LW_is := ⟨oc_LW_is, ow_LW_is⟩
def cu_LW_isBrace : List (Nat × List Nat) := [(4, [0, 1, 2, 3])]
def cd_LW_isBrace : List ZE := [(0, .iconst 1, ([], nI 1, 0, []), zi0), (1, .istore_n 2, ([2], 0, 0, []), zi0), (2, .iconst 0, ([], nI 0, 0, []), zi0), (3, .istore_n 3, ([3], 0, 0, []), zi0), (4, .iload_n 3, ([3], 0, 0, []), zi0), (5, .iload_n 1, ([1], 0, 0, []), zi0), (6, .iload_n 1, ([1], 0, 0, []), zi0), (7, .imul, ([], 0, 0, []), zi0), (8, .if_icmp .ge 65, ([73], 0, 0, []), zi0), (11, .iload_n 3, ([3], 0, 0, []), zi0), (12, .iload_n 1, ([1], 0, 0, []), zi0), (13, .idiv, ([], 0, 0, []), zi0), (14, .istore 4, ([], 0, 0, []), zi0), (16, .iload_n 3, ([3], 0, 0, []), zi0), (17, .iload_n 1, ([1], 0, 0, []), zi0), (18, .irem, ([], 0, 0, []), zi0), (19, .istore 5, ([], 0, 0, []), zi0), (21, .iload_n 2, ([2], 0, 0, []), zi0), (22, .ifCond .eq 43, ([65], 0, 0, []), zi0), (25, .iload_n 0, ([0], 0, 0, []), zi0), (26, .iload 4, ([], 0, 0, []), zi0), (28, .iload_n 0, ([0], 0, 0, []), zi0), (29, .iload 4, ([], 0, 0, []), zi0), (31, .invokestatic 19, ([0, 2, 93], 0, 0, []), mi_LW_digit), (34, .iload 5, ([], 0, 0, []), zi0), (36, .imul, ([], 0, 0, []), zi0), (37, .iadd, ([], 0, 0, []), zi0), (38, .iload_n 1, ([1], 0, 0, []), zi0), (39, .irem, ([], 0, 0, []), zi0), (40, .invokestatic 19, ([0, 2, 93], 0, 0, []), mi_LW_digit), (43, .iload_n 0, ([0], 0, 0, []), zi0), (44, .iload 4, ([], 0, 0, []), zi0), (46, .invokestatic 19, ([0, 2, 93], 0, 0, []), mi_LW_digit), (49, .iload_n 0, ([0], 0, 0, []), zi0), (50, .iload 5, ([], 0, 0, []), zi0), (52, .invokestatic 19, ([0, 2, 93], 0, 0, []), mi_LW_digit), (55, .imul, ([], 0, 0, []), zi0), (56, .iload_n 1, ([1], 0, 0, []), zi0), (57, .irem, ([], 0, 0, []), zi0), (58, .if_icmp .ne 7, ([65], 0, 0, []), zi0), (61, .iconst 1, ([], nI 1, 0, []), zi0), (62, .goto 4, ([66], 0, 0, []), zi0), (65, .iconst 0, ([], nI 0, 0, []), zi0), (66, .istore_n 2, ([2], 0, 0, []), zi0), (67, .iinc 3 1, ([], nI 1, 0, []), zi0), (70, .goto (-66), ([4], 0, 0, []), zi0), (73, .iload_n 2, ([2], 0, 0, []), zi0), (74, .ireturn, ([], 0, 0, []), zi0)]
set_option maxRecDepth 100000 in
theorem oc_LW_isBrace : cd_LW_isBrace.all (zchk mi_LW_isBrace) = true := by decide +kernel
set_option maxRecDepth 100000 in
theorem ow_LW_isBrace : zWs mi_LW_isBrace cd_LW_isBrace := ⟨trivial, trivial, trivial, trivial, trivial, trivial, trivial, trivial, trivial, trivial, trivial, trivial, trivial, trivial, trivial, trivial, trivial, trivial, trivial, trivial, trivial, trivial, trivial, ⟨rfl, ms_LW_digit⟩, trivial, trivial, trivial, trivial, trivial, ⟨rfl, ms_LW_digit⟩, trivial, trivial, ⟨rfl, ms_LW_digit⟩, trivial, trivial, ⟨rfl, ms_LW_digit⟩, trivial, trivial, trivial, trivial, trivial, trivial, trivial, trivial, trivial, trivial, trivial, trivial, trivial⟩
theorem ok_LW_isBrace : zgood2 mi_LW_isBrace cd_LW_isBrace := ⟨oc_LW_isBrace, ow_LW_isBrace⟩
def cu_LW_joins : List (Nat × List Nat) := [(43, [0, 1, 2, 3, 4, 5, 6, 7])]
def cd_LW_joins : List ZE := [(0, .aload_n 0, ([0], 0, 0, []), zi0), (1, .iload_n 1, ([1], 0, 0, []), zi0), (2, .invokestatic 22, ([0, 2, 76], 0, 0, []), mi_LW_points), (5, .istore 4, ([], 0, 0, []), zi0), (7, .aload_n 0, ([0], 0, 0, []), zi0), (8, .iload_n 2, ([2], 0, 0, []), zi0), (9, .invokestatic 22, ([0, 2, 76], 0, 0, []), mi_LW_points), (12, .istore 5, ([], 0, 0, []), zi0), (14, .iload_n 3, ([3], 0, 0, []), zi0), (15, .ifCond .eq 11, ([26], 0, 0, []), zi0), (18, .iload 4, ([], 0, 0, []), zi0), (20, .iload 5, ([], 0, 0, []), zi0), (22, .imul, ([], 0, 0, []), zi0), (23, .goto 8, ([31], 0, 0, []), zi0), (26, .iload 4, ([], 0, 0, []), zi0), (28, .iload 5, ([], 0, 0, []), zi0), (30, .iadd, ([], 0, 0, []), zi0), (31, .istore 6, ([], 0, 0, []), zi0), (33, .aload_n 0, ([0], 0, 0, []), zi0), (34, .bipush 32, ([], nI 32, 0, []), zi0), (36, .iload 6, ([], 0, 0, []), zi0), (38, .i2l, ([], 0, 0, []), zi0), (39, .lastore, ([], 0, 0, []), zi0), (40, .iconst 0, ([], nI 0, 0, []), zi0), (41, .istore 7, ([], 0, 0, []), zi0), (43, .iload 7, ([], 0, 0, []), zi0), (45, .iload 6, ([], 0, 0, []), zi0), (47, .iload 6, ([], 0, 0, []), zi0), (49, .imul, ([], 0, 0, []), zi0), (50, .if_icmp .ge 226, ([276], 0, 0, []), zi0), (53, .iload 7, ([], 0, 0, []), zi0), (55, .iload 6, ([], 0, 0, []), zi0), (57, .idiv, ([], 0, 0, []), zi0), (58, .istore 8, ([], 0, 0, []), zi0), (60, .iload 7, ([], 0, 0, []), zi0), (62, .iload 6, ([], 0, 0, []), zi0), (64, .irem, ([], 0, 0, []), zi0), (65, .istore 9, ([], 0, 0, []), zi0), (67, .iload_n 3, ([3], 0, 0, []), zi0), (68, .ifCond .eq 83, ([151], 0, 0, []), zi0), (71, .aload_n 0, ([0], 0, 0, []), zi0), (72, .iconst 4, ([], nI 4, 0, []), zi0), (73, .iload 8, ([], 0, 0, []), zi0), (75, .iload 9, ([], 0, 0, []), zi0), (77, .iload 5, ([], 0, 0, []), zi0), (79, .aload_n 0, ([0], 0, 0, []), zi0), (80, .iload_n 1, ([1], 0, 0, []), zi0), (81, .iload 8, ([], 0, 0, []), zi0), (83, .iload 5, ([], 0, 0, []), zi0), (85, .idiv, ([], 0, 0, []), zi0), (86, .iload 9, ([], 0, 0, []), zi0), (88, .iload 5, ([], 0, 0, []), zi0), (90, .idiv, ([], 0, 0, []), zi0), (91, .invokestatic 26, ([0, 2, 114], 0, 0, []), mi_LW_l), (94, .imul, ([], 0, 0, []), zi0), (95, .aload_n 0, ([0], 0, 0, []), zi0), (96, .iload_n 2, ([2], 0, 0, []), zi0), (97, .iload 8, ([], 0, 0, []), zi0), (99, .iload 5, ([], 0, 0, []), zi0), (101, .irem, ([], 0, 0, []), zi0), (102, .iload 9, ([], 0, 0, []), zi0), (104, .iload 5, ([], 0, 0, []), zi0), (106, .irem, ([], 0, 0, []), zi0), (107, .invokestatic 26, ([0, 2, 114], 0, 0, []), mi_LW_l), (110, .iadd, ([], 0, 0, []), zi0), (111, .iload 5, ([], 0, 0, []), zi0), (113, .aload_n 0, ([0], 0, 0, []), zi0), (114, .iload_n 1, ([1], 0, 0, []), zi0), (115, .iload 8, ([], 0, 0, []), zi0), (117, .iload 5, ([], 0, 0, []), zi0), (119, .idiv, ([], 0, 0, []), zi0), (120, .iload 9, ([], 0, 0, []), zi0), (122, .iload 5, ([], 0, 0, []), zi0), (124, .idiv, ([], 0, 0, []), zi0), (125, .invokestatic 30, ([0, 2, 117], 0, 0, []), mi_LW_r), (128, .imul, ([], 0, 0, []), zi0), (129, .aload_n 0, ([0], 0, 0, []), zi0), (130, .iload_n 2, ([2], 0, 0, []), zi0), (131, .iload 8, ([], 0, 0, []), zi0), (133, .iload 5, ([], 0, 0, []), zi0), (135, .irem, ([], 0, 0, []), zi0), (136, .iload 9, ([], 0, 0, []), zi0), (138, .iload 5, ([], 0, 0, []), zi0), (140, .irem, ([], 0, 0, []), zi0), (141, .invokestatic 30, ([0, 2, 117], 0, 0, []), mi_LW_r), (144, .iadd, ([], 0, 0, []), zi0), (145, .invokestatic 37, ([0, 2, 102], 0, 0, []), mi_LW_lays), (148, .goto 122, ([270], 0, 0, []), zi0), (151, .iload 8, ([], 0, 0, []), zi0), (153, .iload 4, ([], 0, 0, []), zi0), (155, .if_icmp .ge 40, ([195], 0, 0, []), zi0), (158, .iload 9, ([], 0, 0, []), zi0), (160, .iload 4, ([], 0, 0, []), zi0), (162, .if_icmp .ge 33, ([195], 0, 0, []), zi0), (165, .aload_n 0, ([0], 0, 0, []), zi0), (166, .iconst 4, ([], nI 4, 0, []), zi0), (167, .iload 8, ([], 0, 0, []), zi0), (169, .iload 9, ([], 0, 0, []), zi0), (171, .aload_n 0, ([0], 0, 0, []), zi0), (172, .iload_n 1, ([1], 0, 0, []), zi0), (173, .iload 8, ([], 0, 0, []), zi0), (175, .iload 9, ([], 0, 0, []), zi0), (177, .invokestatic 26, ([0, 2, 114], 0, 0, []), mi_LW_l), (180, .aload_n 0, ([0], 0, 0, []), zi0), (181, .iload_n 1, ([1], 0, 0, []), zi0), (182, .iload 8, ([], 0, 0, []), zi0), (184, .iload 9, ([], 0, 0, []), zi0), (186, .invokestatic 30, ([0, 2, 117], 0, 0, []), mi_LW_r), (189, .invokestatic 37, ([0, 2, 102], 0, 0, []), mi_LW_lays), (192, .goto 78, ([270], 0, 0, []), zi0), (195, .iload 8, ([], 0, 0, []), zi0), (197, .iload 4, ([], 0, 0, []), zi0), (199, .if_icmp .lt 58, ([257], 0, 0, []), zi0), (202, .iload 9, ([], 0, 0, []), zi0), (204, .iload 4, ([], 0, 0, []), zi0), (206, .if_icmp .lt 51, ([257], 0, 0, []), zi0), (209, .aload_n 0, ([0], 0, 0, []), zi0), (210, .iconst 4, ([], nI 4, 0, []), zi0), (211, .iload 8, ([], 0, 0, []), zi0), (213, .iload 9, ([], 0, 0, []), zi0), (215, .iload 4, ([], 0, 0, []), zi0), (217, .aload_n 0, ([0], 0, 0, []), zi0), (218, .iload_n 2, ([2], 0, 0, []), zi0), (219, .iload 8, ([], 0, 0, []), zi0), (221, .iload 4, ([], 0, 0, []), zi0), (223, .isub, ([], 0, 0, []), zi0), (224, .iload 9, ([], 0, 0, []), zi0), (226, .iload 4, ([], 0, 0, []), zi0), (228, .isub, ([], 0, 0, []), zi0), (229, .invokestatic 26, ([0, 2, 114], 0, 0, []), mi_LW_l), (232, .iadd, ([], 0, 0, []), zi0), (233, .iload 4, ([], 0, 0, []), zi0), (235, .aload_n 0, ([0], 0, 0, []), zi0), (236, .iload_n 2, ([2], 0, 0, []), zi0), (237, .iload 8, ([], 0, 0, []), zi0), (239, .iload 4, ([], 0, 0, []), zi0), (241, .isub, ([], 0, 0, []), zi0), (242, .iload 9, ([], 0, 0, []), zi0), (244, .iload 4, ([], 0, 0, []), zi0), (246, .isub, ([], 0, 0, []), zi0), (247, .invokestatic 30, ([0, 2, 117], 0, 0, []), mi_LW_r), (250, .iadd, ([], 0, 0, []), zi0), (251, .invokestatic 37, ([0, 2, 102], 0, 0, []), mi_LW_lays), (254, .goto 16, ([270], 0, 0, []), zi0), (257, .aload_n 0, ([0], 0, 0, []), zi0), (258, .iconst 4, ([], nI 4, 0, []), zi0), (259, .iload 8, ([], 0, 0, []), zi0), (261, .iload 9, ([], 0, 0, []), zi0), (263, .iload 9, ([], 0, 0, []), zi0), (265, .iload 8, ([], 0, 0, []), zi0), (267, .invokestatic 37, ([0, 2, 102], 0, 0, []), mi_LW_lays), (270, .iinc 7 1, ([], nI 1, 0, []), zi0), (273, .goto (-230), ([43], 0, 0, []), zi0), (276, .return_, ([], 0, 0, []), zi0)]
set_option maxRecDepth 100000 in
theorem oc_LW_joins : cd_LW_joins.all (zchk mi_LW_joins) = true := by decide +kernel
set_option maxRecDepth 100000 in
theorem ow_LW_joins : zWs mi_LW_joins cd_LW_joins := ⟨trivial, trivial, ⟨rfl, ms_LW_points⟩, trivial, trivial, trivial, ⟨rfl, ms_LW_points⟩, trivial, trivial, trivial, trivial, trivial, trivial, trivial, trivial, trivial, trivial, trivial, trivial, trivial, trivial, trivial, trivial, trivial, trivial, trivial, trivial, trivial, trivial, trivial, trivial, trivial, trivial, trivial, trivial, trivial, trivial, trivial, trivial, trivial, trivial, trivial, trivial, trivial, trivial, trivial, trivial, trivial, trivial, trivial, trivial, trivial, trivial, ⟨rfl, ms_LW_l⟩, trivial, trivial, trivial, trivial, trivial, trivial, trivial, trivial, trivial, ⟨rfl, ms_LW_l⟩, trivial, trivial, trivial, trivial, trivial, trivial, trivial, trivial, trivial, trivial, ⟨rfl, ms_LW_r⟩, trivial, trivial, trivial, trivial, trivial, trivial, trivial, trivial, trivial, ⟨rfl, ms_LW_r⟩, trivial, ⟨rfl, ms_LW_lays⟩, trivial, trivial, trivial, trivial, trivial, trivial, trivial, trivial, trivial, trivial, trivial, trivial, trivial, trivial, trivial, ⟨rfl, ms_LW_l⟩, trivial, trivial, trivial, trivial, ⟨rfl, ms_LW_r⟩, ⟨rfl, ms_LW_lays⟩, trivial, trivial, trivial, trivial, trivial, trivial, trivial, trivial, trivial, trivial, trivial, trivial, trivial, trivial, trivial, trivial, trivial, trivial, trivial, trivial, ⟨rfl, ms_LW_l⟩, trivial, trivial, trivial, trivial, trivial, trivial, trivial, trivial, trivial, trivial, ⟨rfl, ms_LW_r⟩, trivial, ⟨rfl, ms_LW_lays⟩, trivial, trivial, trivial, trivial, trivial, trivial, trivial, ⟨rfl, ms_LW_lays⟩, trivial, trivial, trivial, trivial⟩
theorem ok_LW_joins : zgood2 mi_LW_joins cd_LW_joins := ⟨oc_LW_joins, ow_LW_joins⟩
def cu_LW_makes : List (Nat × List Nat) := [(9, [0, 1, 2, 3, 4]), (67, [0, 1, 2, 3, 4, 5, 6, 7, 8, 9])]
def cd_LW_makes : List ZE := [(0, .aload_n 0, ([0], 0, 0, []), zi0), (1, .bipush 32, ([], nI 32, 0, []), zi0), (3, .iload_n 2, ([2], 0, 0, []), zi0), (4, .i2l, ([], 0, 0, []), zi0), (5, .lastore, ([], 0, 0, []), zi0), (6, .iconst 0, ([], nI 0, 0, []), zi0), (7, .istore 4, ([], 0, 0, []), zi0), (9, .iload 4, ([], 0, 0, []), zi0), (11, .iload_n 2, ([2], 0, 0, []), zi0), (12, .iload_n 2, ([2], 0, 0, []), zi0), (13, .imul, ([], 0, 0, []), zi0), (14, .if_icmp .ge 149, ([163], 0, 0, []), zi0), (17, .iload 4, ([], 0, 0, []), zi0), (19, .iload_n 2, ([2], 0, 0, []), zi0), (20, .idiv, ([], 0, 0, []), zi0), (21, .istore 5, ([], 0, 0, []), zi0), (23, .iload 4, ([], 0, 0, []), zi0), (25, .iload_n 2, ([2], 0, 0, []), zi0), (26, .irem, ([], 0, 0, []), zi0), (27, .istore 6, ([], 0, 0, []), zi0), (29, .iload_n 1, ([1], 0, 0, []), zi0), (30, .iconst 3, ([], nI 3, 0, []), zi0), (31, .if_icmp .ne 17, ([48], 0, 0, []), zi0), (34, .iload_n 3, ([3], 0, 0, []), zi0), (35, .iload 5, ([], 0, 0, []), zi0), (37, .invokestatic 19, ([0, 2, 93], 0, 0, []), mi_LW_digit), (40, .iload 6, ([], 0, 0, []), zi0), (42, .imul, ([], 0, 0, []), zi0), (43, .iload_n 2, ([2], 0, 0, []), zi0), (44, .irem, ([], 0, 0, []), zi0), (45, .goto 4, ([49], 0, 0, []), zi0), (48, .iconst 0, ([], nI 0, 0, []), zi0), (49, .istore 7, ([], 0, 0, []), zi0), (51, .iload_n 1, ([1], 0, 0, []), zi0), (52, .iconst 3, ([], nI 3, 0, []), zi0), (53, .if_icmp .ne 7, ([60], 0, 0, []), zi0), (56, .iconst 0, ([], nI 0, 0, []), zi0), (57, .goto 5, ([62], 0, 0, []), zi0), (60, .iload 5, ([], 0, 0, []), zi0), (62, .istore 8, ([], 0, 0, []), zi0), (64, .iconst 0, ([], nI 0, 0, []), zi0), (65, .istore 9, ([], 0, 0, []), zi0), (67, .iload 9, ([], 0, 0, []), zi0), (69, .iload_n 2, ([2], 0, 0, []), zi0), (70, .if_icmp .ge 74, ([144], 0, 0, []), zi0), (73, .iload_n 1, ([1], 0, 0, []), zi0), (74, .iconst 3, ([], nI 3, 0, []), zi0), (75, .if_icmp .ne 24, ([99], 0, 0, []), zi0), (78, .iload_n 3, ([3], 0, 0, []), zi0), (79, .iload 7, ([], 0, 0, []), zi0), (81, .invokestatic 19, ([0, 2, 93], 0, 0, []), mi_LW_digit), (84, .iload 9, ([], 0, 0, []), zi0), (86, .imul, ([], 0, 0, []), zi0), (87, .iload_n 2, ([2], 0, 0, []), zi0), (88, .irem, ([], 0, 0, []), zi0), (89, .iload 5, ([], 0, 0, []), zi0), (91, .if_icmp .ne 8, ([99], 0, 0, []), zi0), (94, .iload 9, ([], 0, 0, []), zi0), (96, .goto 5, ([101], 0, 0, []), zi0), (99, .iload 8, ([], 0, 0, []), zi0), (101, .istore 8, ([], 0, 0, []), zi0), (103, .iload_n 1, ([1], 0, 0, []), zi0), (104, .iconst 3, ([], nI 3, 0, []), zi0), (105, .if_icmp .ge 29, ([134], 0, 0, []), zi0), (108, .iload_n 1, ([1], 0, 0, []), zi0), (109, .iload_n 2, ([2], 0, 0, []), zi0), (110, .iload 9, ([], 0, 0, []), zi0), (112, .iload 5, ([], 0, 0, []), zi0), (114, .invokestatic 33, ([0, 2, 99], 0, 0, []), mi_LW_times), (117, .iload_n 1, ([1], 0, 0, []), zi0), (118, .iload_n 2, ([2], 0, 0, []), zi0), (119, .iload 5, ([], 0, 0, []), zi0), (121, .iload 6, ([], 0, 0, []), zi0), (123, .invokestatic 33, ([0, 2, 99], 0, 0, []), mi_LW_times), (126, .if_icmp .ne 8, ([134], 0, 0, []), zi0), (129, .iload 9, ([], 0, 0, []), zi0), (131, .goto 5, ([136], 0, 0, []), zi0), (134, .iload 7, ([], 0, 0, []), zi0), (136, .istore 7, ([], 0, 0, []), zi0), (138, .iinc 9 1, ([], nI 1, 0, []), zi0), (141, .goto (-74), ([67], 0, 0, []), zi0), (144, .aload_n 0, ([0], 0, 0, []), zi0), (145, .iconst 4, ([], nI 4, 0, []), zi0), (146, .iload 5, ([], 0, 0, []), zi0), (148, .iload 6, ([], 0, 0, []), zi0), (150, .iload 7, ([], 0, 0, []), zi0), (152, .iload 8, ([], 0, 0, []), zi0), (154, .invokestatic 37, ([0, 2, 102], 0, 0, []), mi_LW_lays), (157, .iinc 4 1, ([], nI 1, 0, []), zi0), (160, .goto (-151), ([9], 0, 0, []), zi0), (163, .return_, ([], 0, 0, []), zi0)]
set_option maxRecDepth 100000 in
theorem oc_LW_makes : cd_LW_makes.all (zchk mi_LW_makes) = true := by decide +kernel
set_option maxRecDepth 100000 in
theorem ow_LW_makes : zWs mi_LW_makes cd_LW_makes := ⟨trivial, trivial, trivial, trivial, trivial, trivial, trivial, trivial, trivial, trivial, trivial, trivial, trivial, trivial, trivial, trivial, trivial, trivial, trivial, trivial, trivial, trivial, trivial, trivial, trivial, ⟨rfl, ms_LW_digit⟩, trivial, trivial, trivial, trivial, trivial, trivial, trivial, trivial, trivial, trivial, trivial, trivial, trivial, trivial, trivial, trivial, trivial, trivial, trivial, trivial, trivial, trivial, trivial, trivial, ⟨rfl, ms_LW_digit⟩, trivial, trivial, trivial, trivial, trivial, trivial, trivial, trivial, trivial, trivial, trivial, trivial, trivial, trivial, trivial, trivial, trivial, ⟨rfl, ms_LW_times⟩, trivial, trivial, trivial, trivial, ⟨rfl, ms_LW_times⟩, trivial, trivial, trivial, trivial, trivial, trivial, trivial, trivial, trivial, trivial, trivial, trivial, trivial, ⟨rfl, ms_LW_lays⟩, trivial, trivial, trivial, trivial⟩
theorem ok_LW_makes : zgood2 mi_LW_makes cd_LW_makes := ⟨oc_LW_makes, ow_LW_makes⟩
def cu_LW_names : List (Nat × List Nat) := [(11, [0, 1, 2, 3, 4]), (38, [0, 1, 2, 3, 4, 5, 6, 7])]
def cd_LW_names : List ZE := [(0, .iconst 0, ([], nI 0, 0, []), zi0), (1, .istore_n 2, ([2], 0, 0, []), zi0), (2, .iconst 1, ([], nI 1, 0, []), zi0), (3, .iload_n 0, ([0], 0, 0, []), zi0), (4, .ishl, ([], 0, 0, []), zi0), (5, .iconst 1, ([], nI 1, 0, []), zi0), (6, .isub, ([], 0, 0, []), zi0), (7, .istore_n 3, ([3], 0, 0, []), zi0), (8, .iconst 0, ([], nI 0, 0, []), zi0), (9, .istore 4, ([], 0, 0, []), zi0), (11, .iload 4, ([], 0, 0, []), zi0), (13, .iload_n 0, ([0], 0, 0, []), zi0), (14, .if_icmp .ge 88, ([102], 0, 0, []), zi0), (17, .iload_n 1, ([1], 0, 0, []), zi0), (18, .iconst 3, ([], nI 3, 0, []), zi0), (19, .iload 4, ([], 0, 0, []), zi0), (21, .imul, ([], 0, 0, []), zi0), (22, .ishr, ([], 0, 0, []), zi0), (23, .iload_n 0, ([0], 0, 0, []), zi0), (24, .iload 4, ([], 0, 0, []), zi0), (26, .isub, ([], 0, 0, []), zi0), (27, .invokestatic 13, ([0, 2, 82], 0, 0, []), mi_LW_low), (30, .istore 5, ([], 0, 0, []), zi0), (32, .iconst 0, ([], nI 0, 0, []), zi0), (33, .istore 6, ([], 0, 0, []), zi0), (35, .iconst 0, ([], nI 0, 0, []), zi0), (36, .istore 7, ([], 0, 0, []), zi0), (38, .iload 7, ([], 0, 0, []), zi0), (40, .iload_n 0, ([0], 0, 0, []), zi0), (41, .if_icmp .ge 36, ([77], 0, 0, []), zi0), (44, .iload_n 3, ([3], 0, 0, []), zi0), (45, .iload 7, ([], 0, 0, []), zi0), (47, .ishr, ([], 0, 0, []), zi0), (48, .iconst 1, ([], nI 1, 0, []), zi0), (49, .iand, ([], 0, 0, []), zi0), (50, .iconst 1, ([], nI 1, 0, []), zi0), (51, .if_icmp .ne 20, ([71], 0, 0, []), zi0), (54, .iload 5, ([], 0, 0, []), zi0), (56, .ifCond .ne 8, ([64], 0, 0, []), zi0), (59, .iload 7, ([], 0, 0, []), zi0), (61, .goto 5, ([66], 0, 0, []), zi0), (64, .iload 6, ([], 0, 0, []), zi0), (66, .istore 6, ([], 0, 0, []), zi0), (68, .iinc 5 (-1), ([], (-1), 0, []), zi0), (71, .iinc 7 1, ([], nI 1, 0, []), zi0), (74, .goto (-36), ([38], 0, 0, []), zi0), (77, .iload_n 3, ([3], 0, 0, []), zi0), (78, .iconst 1, ([], nI 1, 0, []), zi0), (79, .iload 6, ([], 0, 0, []), zi0), (81, .ishl, ([], 0, 0, []), zi0), (82, .iconst (-1), ([], (-1), 0, []), zi0), (83, .ixor, ([], 0, 0, []), zi0), (84, .iand, ([], 0, 0, []), zi0), (85, .istore_n 3, ([3], 0, 0, []), zi0), (86, .iload_n 2, ([2], 0, 0, []), zi0), (87, .iload 6, ([], 0, 0, []), zi0), (89, .iconst 3, ([], nI 3, 0, []), zi0), (90, .iload 4, ([], 0, 0, []), zi0), (92, .imul, ([], 0, 0, []), zi0), (93, .ishl, ([], 0, 0, []), zi0), (94, .ior, ([], 0, 0, []), zi0), (95, .istore_n 2, ([2], 0, 0, []), zi0), (96, .iinc 4 1, ([], nI 1, 0, []), zi0), (99, .goto (-88), ([11], 0, 0, []), zi0), (102, .iload_n 2, ([2], 0, 0, []), zi0), (103, .ireturn, ([], 0, 0, []), zi0)]
set_option maxRecDepth 100000 in
theorem oc_LW_names : cd_LW_names.all (zchk mi_LW_names) = true := by decide +kernel
set_option maxRecDepth 100000 in
theorem ow_LW_names : zWs mi_LW_names cd_LW_names := ⟨trivial, trivial, trivial, trivial, trivial, trivial, trivial, trivial, trivial, trivial, trivial, trivial, trivial, trivial, trivial, trivial, trivial, trivial, trivial, trivial, trivial, ⟨rfl, ms_LW_low⟩, trivial, trivial, trivial, trivial, trivial, trivial, trivial, trivial, trivial, trivial, trivial, trivial, trivial, trivial, trivial, trivial, trivial, trivial, trivial, trivial, trivial, trivial, trivial, trivial, trivial, trivial, trivial, trivial, trivial, trivial, trivial, trivial, trivial, trivial, trivial, trivial, trivial, trivial, trivial, trivial, trivial, trivial, trivial, trivial, trivial⟩
theorem ok_LW_names : zgood2 mi_LW_names cd_LW_names := ⟨oc_LW_names, ow_LW_names⟩
def cu_LW_orbit : List (Nat × List Nat) := [(14, [0, 1, 3, 4, 5]), (28, [0, 1, 3, 4, 5, 6])]
def cd_LW_orbit : List ZE := [(0, .aload_n 0, ([0], 0, 0, []), zi0), (1, .iload_n 1, ([1], 0, 0, []), zi0), (2, .invokestatic 22, ([0, 2, 76], 0, 0, []), mi_LW_points), (5, .istore_n 3, ([3], 0, 0, []), zi0), (6, .iconst 0, ([], nI 0, 0, []), zi0), (7, .istore 4, ([], 0, 0, []), zi0), (9, .iconst 1, ([], nI 1, 0, []), zi0), (10, .iload_n 2, ([2], 0, 0, []), zi0), (11, .ishl, ([], 0, 0, []), zi0), (12, .istore 5, ([], 0, 0, []), zi0), (14, .iload 5, ([], 0, 0, []), zi0), (16, .iload 4, ([], 0, 0, []), zi0), (18, .if_icmp .eq 107, ([125], 0, 0, []), zi0), (21, .iload 5, ([], 0, 0, []), zi0), (23, .istore 4, ([], 0, 0, []), zi0), (25, .iconst 0, ([], nI 0, 0, []), zi0), (26, .istore 6, ([], 0, 0, []), zi0), (28, .iload 6, ([], 0, 0, []), zi0), (30, .iload_n 3, ([3], 0, 0, []), zi0), (31, .iload_n 3, ([3], 0, 0, []), zi0), (32, .imul, ([], 0, 0, []), zi0), (33, .if_icmp .ge 89, ([122], 0, 0, []), zi0), (36, .iload 6, ([], 0, 0, []), zi0), (38, .iload_n 3, ([3], 0, 0, []), zi0), (39, .irem, ([], 0, 0, []), zi0), (40, .istore 7, ([], 0, 0, []), zi0), (42, .iconst 1, ([], nI 1, 0, []), zi0), (43, .iload 7, ([], 0, 0, []), zi0), (45, .ishl, ([], 0, 0, []), zi0), (46, .iconst 1, ([], nI 1, 0, []), zi0), (47, .aload_n 0, ([0], 0, 0, []), zi0), (48, .iload_n 1, ([1], 0, 0, []), zi0), (49, .iload 6, ([], 0, 0, []), zi0), (51, .iload_n 3, ([3], 0, 0, []), zi0), (52, .idiv, ([], 0, 0, []), zi0), (53, .iload 7, ([], 0, 0, []), zi0), (55, .invokestatic 26, ([0, 2, 114], 0, 0, []), mi_LW_l), (58, .ishl, ([], 0, 0, []), zi0), (59, .ior, ([], 0, 0, []), zi0), (60, .istore 8, ([], 0, 0, []), zi0), (62, .iconst 1, ([], nI 1, 0, []), zi0), (63, .iload 7, ([], 0, 0, []), zi0), (65, .ishl, ([], 0, 0, []), zi0), (66, .iconst 1, ([], nI 1, 0, []), zi0), (67, .aload_n 0, ([0], 0, 0, []), zi0), (68, .iload_n 1, ([1], 0, 0, []), zi0), (69, .iload 7, ([], 0, 0, []), zi0), (71, .iload 6, ([], 0, 0, []), zi0), (73, .iload_n 3, ([3], 0, 0, []), zi0), (74, .idiv, ([], 0, 0, []), zi0), (75, .invokestatic 30, ([0, 2, 117], 0, 0, []), mi_LW_r), (78, .ishl, ([], 0, 0, []), zi0), (79, .ior, ([], 0, 0, []), zi0), (80, .istore 9, ([], 0, 0, []), zi0), (82, .iload 5, ([], 0, 0, []), zi0), (84, .iload 5, ([], 0, 0, []), zi0), (86, .iload 8, ([], 0, 0, []), zi0), (88, .iand, ([], 0, 0, []), zi0), (89, .ifCond .eq 8, ([97], 0, 0, []), zi0), (92, .iload 8, ([], 0, 0, []), zi0), (94, .goto 4, ([98], 0, 0, []), zi0), (97, .iconst 0, ([], nI 0, 0, []), zi0), (98, .iload 5, ([], 0, 0, []), zi0), (100, .iload 9, ([], 0, 0, []), zi0), (102, .iand, ([], 0, 0, []), zi0), (103, .ifCond .eq 8, ([111], 0, 0, []), zi0), (106, .iload 9, ([], 0, 0, []), zi0), (108, .goto 4, ([112], 0, 0, []), zi0), (111, .iconst 0, ([], nI 0, 0, []), zi0), (112, .ior, ([], 0, 0, []), zi0), (113, .ior, ([], 0, 0, []), zi0), (114, .istore 5, ([], 0, 0, []), zi0), (116, .iinc 6 1, ([], nI 1, 0, []), zi0), (119, .goto (-91), ([28], 0, 0, []), zi0), (122, .goto (-108), ([14], 0, 0, []), zi0), (125, .iload 4, ([], 0, 0, []), zi0), (127, .ireturn, ([], 0, 0, []), zi0)]
set_option maxRecDepth 100000 in
theorem oc_LW_orbit : cd_LW_orbit.all (zchk mi_LW_orbit) = true := by decide +kernel
set_option maxRecDepth 100000 in
theorem ow_LW_orbit : zWs mi_LW_orbit cd_LW_orbit := ⟨trivial, trivial, ⟨rfl, ms_LW_points⟩, trivial, trivial, trivial, trivial, trivial, trivial, trivial, trivial, trivial, trivial, trivial, trivial, trivial, trivial, trivial, trivial, trivial, trivial, trivial, trivial, trivial, trivial, trivial, trivial, trivial, trivial, trivial, trivial, trivial, trivial, trivial, trivial, trivial, ⟨rfl, ms_LW_l⟩, trivial, trivial, trivial, trivial, trivial, trivial, trivial, trivial, trivial, trivial, trivial, trivial, trivial, ⟨rfl, ms_LW_r⟩, trivial, trivial, trivial, trivial, trivial, trivial, trivial, trivial, trivial, trivial, trivial, trivial, trivial, trivial, trivial, trivial, trivial, trivial, trivial, trivial, trivial, trivial, trivial, trivial, trivial, trivial, trivial⟩
theorem ok_LW_orbit : zgood2 mi_LW_orbit cd_LW_orbit := ⟨oc_LW_orbit, ow_LW_orbit⟩
def cu_LW_shut : List (Nat × List Nat) := [(12, [0, 1, 3, 4, 5]), (26, [0, 1, 3, 4, 5, 6])]
def cd_LW_shut : List ZE := [(0, .aload_n 0, ([0], 0, 0, []), zi0), (1, .iload_n 1, ([1], 0, 0, []), zi0), (2, .invokestatic 22, ([0, 2, 76], 0, 0, []), mi_LW_points), (5, .istore_n 3, ([3], 0, 0, []), zi0), (6, .iconst (-1), ([], (-1), 0, []), zi0), (7, .istore 4, ([], 0, 0, []), zi0), (9, .iload_n 2, ([2], 0, 0, []), zi0), (10, .istore 5, ([], 0, 0, []), zi0), (12, .iload 5, ([], 0, 0, []), zi0), (14, .iload 4, ([], 0, 0, []), zi0), (16, .if_icmp .eq 100, ([116], 0, 0, []), zi0), (19, .iload 5, ([], 0, 0, []), zi0), (21, .istore 4, ([], 0, 0, []), zi0), (23, .iconst 0, ([], nI 0, 0, []), zi0), (24, .istore 6, ([], 0, 0, []), zi0), (26, .iload 6, ([], 0, 0, []), zi0), (28, .iload_n 3, ([3], 0, 0, []), zi0), (29, .iload_n 3, ([3], 0, 0, []), zi0), (30, .imul, ([], 0, 0, []), zi0), (31, .if_icmp .ge 82, ([113], 0, 0, []), zi0), (34, .iload 5, ([], 0, 0, []), zi0), (36, .iload 6, ([], 0, 0, []), zi0), (38, .iload_n 3, ([3], 0, 0, []), zi0), (39, .idiv, ([], 0, 0, []), zi0), (40, .ishr, ([], 0, 0, []), zi0), (41, .iload 5, ([], 0, 0, []), zi0), (43, .iload 6, ([], 0, 0, []), zi0), (45, .iload_n 3, ([3], 0, 0, []), zi0), (46, .irem, ([], 0, 0, []), zi0), (47, .ishr, ([], 0, 0, []), zi0), (48, .iand, ([], 0, 0, []), zi0), (49, .iconst 1, ([], nI 1, 0, []), zi0), (50, .iand, ([], 0, 0, []), zi0), (51, .iconst 1, ([], nI 1, 0, []), zi0), (52, .if_icmp .ne 7, ([59], 0, 0, []), zi0), (55, .iconst 1, ([], nI 1, 0, []), zi0), (56, .goto 4, ([60], 0, 0, []), zi0), (59, .iconst 0, ([], nI 0, 0, []), zi0), (60, .istore 7, ([], 0, 0, []), zi0), (62, .iload 5, ([], 0, 0, []), zi0), (64, .iload 7, ([], 0, 0, []), zi0), (66, .ifCond .eq 37, ([103], 0, 0, []), zi0), (69, .iconst 1, ([], nI 1, 0, []), zi0), (70, .aload_n 0, ([0], 0, 0, []), zi0), (71, .iload_n 1, ([1], 0, 0, []), zi0), (72, .iload 6, ([], 0, 0, []), zi0), (74, .iload_n 3, ([3], 0, 0, []), zi0), (75, .idiv, ([], 0, 0, []), zi0), (76, .iload 6, ([], 0, 0, []), zi0), (78, .iload_n 3, ([3], 0, 0, []), zi0), (79, .irem, ([], 0, 0, []), zi0), (80, .invokestatic 26, ([0, 2, 114], 0, 0, []), mi_LW_l), (83, .ishl, ([], 0, 0, []), zi0), (84, .iconst 1, ([], nI 1, 0, []), zi0), (85, .aload_n 0, ([0], 0, 0, []), zi0), (86, .iload_n 1, ([1], 0, 0, []), zi0), (87, .iload 6, ([], 0, 0, []), zi0), (89, .iload_n 3, ([3], 0, 0, []), zi0), (90, .idiv, ([], 0, 0, []), zi0), (91, .iload 6, ([], 0, 0, []), zi0), (93, .iload_n 3, ([3], 0, 0, []), zi0), (94, .irem, ([], 0, 0, []), zi0), (95, .invokestatic 30, ([0, 2, 117], 0, 0, []), mi_LW_r), (98, .ishl, ([], 0, 0, []), zi0), (99, .ior, ([], 0, 0, []), zi0), (100, .goto 4, ([104], 0, 0, []), zi0), (103, .iconst 0, ([], nI 0, 0, []), zi0), (104, .ior, ([], 0, 0, []), zi0), (105, .istore 5, ([], 0, 0, []), zi0), (107, .iinc 6 1, ([], nI 1, 0, []), zi0), (110, .goto (-84), ([26], 0, 0, []), zi0), (113, .goto (-101), ([12], 0, 0, []), zi0), (116, .iload 4, ([], 0, 0, []), zi0), (118, .ireturn, ([], 0, 0, []), zi0)]
set_option maxRecDepth 100000 in
theorem oc_LW_shut : cd_LW_shut.all (zchk mi_LW_shut) = true := by decide +kernel
set_option maxRecDepth 100000 in
theorem ow_LW_shut : zWs mi_LW_shut cd_LW_shut := ⟨trivial, trivial, ⟨rfl, ms_LW_points⟩, trivial, trivial, trivial, trivial, trivial, trivial, trivial, trivial, trivial, trivial, trivial, trivial, trivial, trivial, trivial, trivial, trivial, trivial, trivial, trivial, trivial, trivial, trivial, trivial, trivial, trivial, trivial, trivial, trivial, trivial, trivial, trivial, trivial, trivial, trivial, trivial, trivial, trivial, trivial, trivial, trivial, trivial, trivial, trivial, trivial, trivial, trivial, trivial, ⟨rfl, ms_LW_l⟩, trivial, trivial, trivial, trivial, trivial, trivial, trivial, trivial, trivial, trivial, ⟨rfl, ms_LW_r⟩, trivial, trivial, trivial, trivial, trivial, trivial, trivial, trivial, trivial, trivial, trivial, trivial⟩
theorem ok_LW_shut : zgood2 mi_LW_shut cd_LW_shut := ⟨oc_LW_shut, ow_LW_shut⟩
def cu_LW_turns : List (Nat × List Nat) := [(17, [0, 1, 2, 3, 4, 5])]
def cd_LW_turns : List ZE := [(0, .aload_n 0, ([0], 0, 0, []), zi0), (1, .iload_n 1, ([1], 0, 0, []), zi0), (2, .invokestatic 22, ([0, 2, 76], 0, 0, []), mi_LW_points), (5, .istore 4, ([], 0, 0, []), zi0), (7, .aload_n 0, ([0], 0, 0, []), zi0), (8, .bipush 32, ([], nI 32, 0, []), zi0), (10, .iload 4, ([], 0, 0, []), zi0), (12, .i2l, ([], 0, 0, []), zi0), (13, .lastore, ([], 0, 0, []), zi0), (14, .iconst 0, ([], nI 0, 0, []), zi0), (15, .istore 5, ([], 0, 0, []), zi0), (17, .iload 5, ([], 0, 0, []), zi0), (19, .iload 4, ([], 0, 0, []), zi0), (21, .iload 4, ([], 0, 0, []), zi0), (23, .imul, ([], 0, 0, []), zi0), (24, .if_icmp .ge 115, ([139], 0, 0, []), zi0), (27, .iload 5, ([], 0, 0, []), zi0), (29, .iload 4, ([], 0, 0, []), zi0), (31, .idiv, ([], 0, 0, []), zi0), (32, .istore 6, ([], 0, 0, []), zi0), (34, .iload 5, ([], 0, 0, []), zi0), (36, .iload 4, ([], 0, 0, []), zi0), (38, .irem, ([], 0, 0, []), zi0), (39, .istore 7, ([], 0, 0, []), zi0), (41, .aload_n 0, ([0], 0, 0, []), zi0), (42, .iload_n 1, ([1], 0, 0, []), zi0), (43, .iload 6, ([], 0, 0, []), zi0), (45, .iload 7, ([], 0, 0, []), zi0), (47, .invokestatic 26, ([0, 2, 114], 0, 0, []), mi_LW_l), (50, .istore 8, ([], 0, 0, []), zi0), (52, .aload_n 0, ([0], 0, 0, []), zi0), (53, .iload_n 1, ([1], 0, 0, []), zi0), (54, .iload 6, ([], 0, 0, []), zi0), (56, .iload 7, ([], 0, 0, []), zi0), (58, .invokestatic 30, ([0, 2, 117], 0, 0, []), mi_LW_r), (61, .istore 9, ([], 0, 0, []), zi0), (63, .iload_n 2, ([2], 0, 0, []), zi0), (64, .ifCond .ne 19, ([83], 0, 0, []), zi0), (67, .aload_n 0, ([0], 0, 0, []), zi0), (68, .iconst 4, ([], nI 4, 0, []), zi0), (69, .iload 8, ([], 0, 0, []), zi0), (71, .iload 9, ([], 0, 0, []), zi0), (73, .iload 6, ([], 0, 0, []), zi0), (75, .iload 7, ([], 0, 0, []), zi0), (77, .invokestatic 37, ([0, 2, 102], 0, 0, []), mi_LW_lays), (80, .goto 53, ([133], 0, 0, []), zi0), (83, .iload_n 2, ([2], 0, 0, []), zi0), (84, .iconst 1, ([], nI 1, 0, []), zi0), (85, .if_icmp .ne 19, ([104], 0, 0, []), zi0), (88, .aload_n 0, ([0], 0, 0, []), zi0), (89, .iconst 4, ([], nI 4, 0, []), zi0), (90, .iload 7, ([], 0, 0, []), zi0), (92, .iload 6, ([], 0, 0, []), zi0), (94, .iload 9, ([], 0, 0, []), zi0), (96, .iload 8, ([], 0, 0, []), zi0), (98, .invokestatic 37, ([0, 2, 102], 0, 0, []), mi_LW_lays), (101, .goto 32, ([133], 0, 0, []), zi0), (104, .aload_n 0, ([0], 0, 0, []), zi0), (105, .iconst 4, ([], nI 4, 0, []), zi0), (106, .iload_n 3, ([3], 0, 0, []), zi0), (107, .iload 6, ([], 0, 0, []), zi0), (109, .invokestatic 19, ([0, 2, 93], 0, 0, []), mi_LW_digit), (112, .iload_n 3, ([3], 0, 0, []), zi0), (113, .iload 7, ([], 0, 0, []), zi0), (115, .invokestatic 19, ([0, 2, 93], 0, 0, []), mi_LW_digit), (118, .iload_n 3, ([3], 0, 0, []), zi0), (119, .iload 8, ([], 0, 0, []), zi0), (121, .invokestatic 19, ([0, 2, 93], 0, 0, []), mi_LW_digit), (124, .iload_n 3, ([3], 0, 0, []), zi0), (125, .iload 9, ([], 0, 0, []), zi0), (127, .invokestatic 19, ([0, 2, 93], 0, 0, []), mi_LW_digit), (130, .invokestatic 37, ([0, 2, 102], 0, 0, []), mi_LW_lays), (133, .iinc 5 1, ([], nI 1, 0, []), zi0), (136, .goto (-119), ([17], 0, 0, []), zi0), (139, .return_, ([], 0, 0, []), zi0)]
set_option maxRecDepth 100000 in
theorem oc_LW_turns : cd_LW_turns.all (zchk mi_LW_turns) = true := by decide +kernel
set_option maxRecDepth 100000 in
theorem ow_LW_turns : zWs mi_LW_turns cd_LW_turns := ⟨trivial, trivial, ⟨rfl, ms_LW_points⟩, trivial, trivial, trivial, trivial, trivial, trivial, trivial, trivial, trivial, trivial, trivial, trivial, trivial, trivial, trivial, trivial, trivial, trivial, trivial, trivial, trivial, trivial, trivial, trivial, trivial, ⟨rfl, ms_LW_l⟩, trivial, trivial, trivial, trivial, trivial, ⟨rfl, ms_LW_r⟩, trivial, trivial, trivial, trivial, trivial, trivial, trivial, trivial, trivial, ⟨rfl, ms_LW_lays⟩, trivial, trivial, trivial, trivial, trivial, trivial, trivial, trivial, trivial, trivial, ⟨rfl, ms_LW_lays⟩, trivial, trivial, trivial, trivial, trivial, ⟨rfl, ms_LW_digit⟩, trivial, trivial, ⟨rfl, ms_LW_digit⟩, trivial, trivial, ⟨rfl, ms_LW_digit⟩, trivial, trivial, ⟨rfl, ms_LW_digit⟩, ⟨rfl, ms_LW_lays⟩, trivial, trivial, trivial, trivial⟩
theorem ok_LW_turns : zgood2 mi_LW_turns cd_LW_turns := ⟨oc_LW_turns, ow_LW_turns⟩
def cu_LW_units : List (Nat × List Nat) := [(4, [0, 1, 2, 3])]
def cd_LW_units : List ZE := [(0, .iconst 0, ([], nI 0, 0, []), zi0), (1, .istore_n 2, ([2], 0, 0, []), zi0), (2, .iconst 0, ([], nI 0, 0, []), zi0), (3, .istore_n 3, ([3], 0, 0, []), zi0), (4, .iload_n 3, ([3], 0, 0, []), zi0), (5, .iload_n 0, ([0], 0, 0, []), zi0), (6, .if_icmp .ge 98, ([104], 0, 0, []), zi0), (9, .iload_n 0, ([0], 0, 0, []), zi0), (10, .iconst 5, ([], nI 5, 0, []), zi0), (11, .if_icmp .ne 19, ([30], 0, 0, []), zi0), (14, .iconst 1, ([], nI 1, 0, []), zi0), (15, .iload_n 1, ([1], 0, 0, []), zi0), (16, .iconst 2, ([], nI 2, 0, []), zi0), (17, .iload_n 3, ([3], 0, 0, []), zi0), (18, .imul, ([], 0, 0, []), zi0), (19, .iconst 4, ([], nI 4, 0, []), zi0), (20, .iadd, ([], 0, 0, []), zi0), (21, .ishr, ([], 0, 0, []), zi0), (22, .iconst 4, ([], nI 4, 0, []), zi0), (23, .invokestatic 13, ([0, 2, 82], 0, 0, []), mi_LW_low), (26, .iadd, ([], 0, 0, []), zi0), (27, .goto 22, ([49], 0, 0, []), zi0), (30, .iload_n 1, ([1], 0, 0, []), zi0), (31, .iconst 2, ([], nI 2, 0, []), zi0), (32, .iload_n 3, ([3], 0, 0, []), zi0), (33, .imul, ([], 0, 0, []), zi0), (34, .iconst 4, ([], nI 4, 0, []), zi0), (35, .iadd, ([], 0, 0, []), zi0), (36, .ishr, ([], 0, 0, []), zi0), (37, .iconst 1, ([], nI 1, 0, []), zi0), (38, .iand, ([], 0, 0, []), zi0), (39, .ifCond .ne 7, ([46], 0, 0, []), zi0), (42, .iconst 1, ([], nI 1, 0, []), zi0), (43, .goto 6, ([49], 0, 0, []), zi0), (46, .iload_n 0, ([0], 0, 0, []), zi0), (47, .iconst 1, ([], nI 1, 0, []), zi0), (48, .isub, ([], 0, 0, []), zi0), (49, .istore 4, ([], 0, 0, []), zi0), (51, .iload_n 1, ([1], 0, 0, []), zi0), (52, .iconst 3, ([], nI 3, 0, []), zi0), (53, .iand, ([], 0, 0, []), zi0), (54, .ifCond .ne 7, ([61], 0, 0, []), zi0), (57, .iconst 1, ([], nI 1, 0, []), zi0), (58, .goto 29, ([87], 0, 0, []), zi0), (61, .iload_n 1, ([1], 0, 0, []), zi0), (62, .iconst 3, ([], nI 3, 0, []), zi0), (63, .iand, ([], 0, 0, []), zi0), (64, .iconst 3, ([], nI 3, 0, []), zi0), (65, .if_icmp .ge 20, ([85], 0, 0, []), zi0), (68, .iload_n 3, ([3], 0, 0, []), zi0), (69, .iconst 2, ([], nI 2, 0, []), zi0), (70, .irem, ([], 0, 0, []), zi0), (71, .iconst 1, ([], nI 1, 0, []), zi0), (72, .if_icmp .ne 9, ([81], 0, 0, []), zi0), (75, .iload_n 0, ([0], 0, 0, []), zi0), (76, .iconst 1, ([], nI 1, 0, []), zi0), (77, .isub, ([], 0, 0, []), zi0), (78, .goto 9, ([87], 0, 0, []), zi0), (81, .iconst 1, ([], nI 1, 0, []), zi0), (82, .goto 5, ([87], 0, 0, []), zi0), (85, .iload 4, ([], 0, 0, []), zi0), (87, .istore 5, ([], 0, 0, []), zi0), (89, .iload_n 2, ([2], 0, 0, []), zi0), (90, .iload 5, ([], 0, 0, []), zi0), (92, .iconst 3, ([], nI 3, 0, []), zi0), (93, .iload_n 3, ([3], 0, 0, []), zi0), (94, .imul, ([], 0, 0, []), zi0), (95, .ishl, ([], 0, 0, []), zi0), (96, .ior, ([], 0, 0, []), zi0), (97, .istore_n 2, ([2], 0, 0, []), zi0), (98, .iinc 3 1, ([], nI 1, 0, []), zi0), (101, .goto (-97), ([4], 0, 0, []), zi0), (104, .iload_n 2, ([2], 0, 0, []), zi0), (105, .ireturn, ([], 0, 0, []), zi0)]
set_option maxRecDepth 100000 in
theorem oc_LW_units : cd_LW_units.all (zchk mi_LW_units) = true := by decide +kernel
set_option maxRecDepth 100000 in
theorem ow_LW_units : zWs mi_LW_units cd_LW_units := ⟨trivial, trivial, trivial, trivial, trivial, trivial, trivial, trivial, trivial, trivial, trivial, trivial, trivial, trivial, trivial, trivial, trivial, trivial, trivial, ⟨rfl, ms_LW_low⟩, trivial, trivial, trivial, trivial, trivial, trivial, trivial, trivial, trivial, trivial, trivial, trivial, trivial, trivial, trivial, trivial, trivial, trivial, trivial, trivial, trivial, trivial, trivial, trivial, trivial, trivial, trivial, trivial, trivial, trivial, trivial, trivial, trivial, trivial, trivial, trivial, trivial, trivial, trivial, trivial, trivial, trivial, trivial, trivial, trivial, trivial, trivial, trivial, trivial, trivial, trivial, trivial, trivial, trivial, trivial⟩
theorem ok_LW_units : zgood2 mi_LW_units cd_LW_units := ⟨oc_LW_units, ow_LW_units⟩
def cu_LW_retracts : List (Nat × List Nat) := [(11, [0, 1, 2, 3, 4]), (59, [0, 1, 2, 4]), (69, [0, 1, 2, 4, 5])]
def cd_LW_retracts : List ZE := [(0, .aload_n 0, ([0], 0, 0, []), zi0), (1, .iload_n 1, ([1], 0, 0, []), zi0), (2, .invokestatic 22, ([0, 2, 76], 0, 0, []), mi_LW_points), (5, .istore_n 2, ([2], 0, 0, []), zi0), (6, .iconst 0, ([], nI 0, 0, []), zi0), (7, .istore_n 3, ([3], 0, 0, []), zi0), (8, .iconst 0, ([], nI 0, 0, []), zi0), (9, .istore 4, ([], 0, 0, []), zi0), (11, .iload 4, ([], 0, 0, []), zi0), (13, .iload_n 2, ([2], 0, 0, []), zi0), (14, .if_icmp .ge 34, ([48], 0, 0, []), zi0), (17, .aload_n 0, ([0], 0, 0, []), zi0), (18, .iload_n 1, ([1], 0, 0, []), zi0), (19, .iload 4, ([], 0, 0, []), zi0), (21, .invokestatic 41, ([0, 2, 172], 0, 0, []), mi_LW_clazz), (24, .iload_n 3, ([3], 0, 0, []), zi0), (25, .if_icmp .lt 15, ([40], 0, 0, []), zi0), (28, .aload_n 0, ([0], 0, 0, []), zi0), (29, .iload_n 1, ([1], 0, 0, []), zi0), (30, .iload 4, ([], 0, 0, []), zi0), (32, .invokestatic 41, ([0, 2, 172], 0, 0, []), mi_LW_clazz), (35, .iconst 1, ([], nI 1, 0, []), zi0), (36, .iadd, ([], 0, 0, []), zi0), (37, .goto 4, ([41], 0, 0, []), zi0), (40, .iload_n 3, ([3], 0, 0, []), zi0), (41, .istore_n 3, ([3], 0, 0, []), zi0), (42, .iinc 4 1, ([], nI 1, 0, []), zi0), (45, .goto (-34), ([11], 0, 0, []), zi0), (48, .aload_n 0, ([0], 0, 0, []), zi0), (49, .bipush 32, ([], nI 32, 0, []), zi0), (51, .iload_n 3, ([3], 0, 0, []), zi0), (52, .i2l, ([], 0, 0, []), zi0), (53, .lastore, ([], 0, 0, []), zi0), (54, .iload_n 2, ([2], 0, 0, []), zi0), (55, .iconst 1, ([], nI 1, 0, []), zi0), (56, .isub, ([], 0, 0, []), zi0), (57, .istore 4, ([], 0, 0, []), zi0), (59, .iload 4, ([], 0, 0, []), zi0), (61, .ifCond .lt 72, ([133], 0, 0, []), zi0), (64, .iload_n 2, ([2], 0, 0, []), zi0), (65, .iconst 1, ([], nI 1, 0, []), zi0), (66, .isub, ([], 0, 0, []), zi0), (67, .istore 5, ([], 0, 0, []), zi0), (69, .iload 5, ([], 0, 0, []), zi0), (71, .ifCond .lt 56, ([127], 0, 0, []), zi0), (74, .aload_n 0, ([0], 0, 0, []), zi0), (75, .iconst 4, ([], nI 4, 0, []), zi0), (76, .aload_n 0, ([0], 0, 0, []), zi0), (77, .iload_n 1, ([1], 0, 0, []), zi0), (78, .iload 4, ([], 0, 0, []), zi0), (80, .invokestatic 41, ([0, 2, 172], 0, 0, []), mi_LW_clazz), (83, .aload_n 0, ([0], 0, 0, []), zi0), (84, .iload_n 1, ([1], 0, 0, []), zi0), (85, .iload 5, ([], 0, 0, []), zi0), (87, .invokestatic 41, ([0, 2, 172], 0, 0, []), mi_LW_clazz), (90, .aload_n 0, ([0], 0, 0, []), zi0), (91, .iload_n 1, ([1], 0, 0, []), zi0), (92, .aload_n 0, ([0], 0, 0, []), zi0), (93, .iload_n 1, ([1], 0, 0, []), zi0), (94, .iload 4, ([], 0, 0, []), zi0), (96, .iload 5, ([], 0, 0, []), zi0), (98, .invokestatic 26, ([0, 2, 114], 0, 0, []), mi_LW_l), (101, .invokestatic 41, ([0, 2, 172], 0, 0, []), mi_LW_clazz), (104, .aload_n 0, ([0], 0, 0, []), zi0), (105, .iload_n 1, ([1], 0, 0, []), zi0), (106, .aload_n 0, ([0], 0, 0, []), zi0), (107, .iload_n 1, ([1], 0, 0, []), zi0), (108, .iload 4, ([], 0, 0, []), zi0), (110, .iload 5, ([], 0, 0, []), zi0), (112, .invokestatic 30, ([0, 2, 117], 0, 0, []), mi_LW_r), (115, .invokestatic 41, ([0, 2, 172], 0, 0, []), mi_LW_clazz), (118, .invokestatic 37, ([0, 2, 102], 0, 0, []), mi_LW_lays), (121, .iinc 5 (-1), ([], (-1), 0, []), zi0), (124, .goto (-55), ([69], 0, 0, []), zi0), (127, .iinc 4 (-1), ([], (-1), 0, []), zi0), (130, .goto (-71), ([59], 0, 0, []), zi0), (133, .return_, ([], 0, 0, []), zi0)]
set_option maxRecDepth 100000 in
theorem oc_LW_retracts : cd_LW_retracts.all (zchk mi_LW_retracts) = true := by decide +kernel
set_option maxRecDepth 100000 in
theorem ow_LW_retracts : zWs mi_LW_retracts cd_LW_retracts := ⟨trivial, trivial, ⟨rfl, ms_LW_points⟩, trivial, trivial, trivial, trivial, trivial, trivial, trivial, trivial, trivial, trivial, trivial, ⟨rfl, ms_LW_clazz⟩, trivial, trivial, trivial, trivial, trivial, ⟨rfl, ms_LW_clazz⟩, trivial, trivial, trivial, trivial, trivial, trivial, trivial, trivial, trivial, trivial, trivial, trivial, trivial, trivial, trivial, trivial, trivial, trivial, trivial, trivial, trivial, trivial, trivial, trivial, trivial, trivial, trivial, trivial, trivial, ⟨rfl, ms_LW_clazz⟩, trivial, trivial, trivial, ⟨rfl, ms_LW_clazz⟩, trivial, trivial, trivial, trivial, trivial, trivial, ⟨rfl, ms_LW_l⟩, ⟨rfl, ms_LW_clazz⟩, trivial, trivial, trivial, trivial, trivial, trivial, ⟨rfl, ms_LW_r⟩, ⟨rfl, ms_LW_clazz⟩, ⟨rfl, ms_LW_lays⟩, trivial, trivial, trivial, trivial, trivial, trivial⟩
theorem ok_LW_retracts : zgood2 mi_LW_retracts cd_LW_retracts := ⟨oc_LW_retracts, ow_LW_retracts⟩
def cu_LW_one : List (Nat × List Nat) := [(64, [0, 1, 2, 3, 4, 5, 6, 7, 8, 9, 10]), (224, [0, 1, 3, 4, 5, 6, 7, 8, 9, 10]), (271, [0, 1, 5, 6, 9, 13, 14, 15]), (388, [0, 1, 3, 5, 6, 7, 8, 10]), (525, [0, 1, 3, 5, 6, 7, 10]), (670, [0, 1, 3, 5, 6, 7, 10]), (718, [0, 1, 3, 5, 6, 7, 10]), (758, [0, 1, 3, 6, 7, 10]), (904, [1, 6, 11, 12])]
def cd_LW_one_0 : List ZE := [(0, .iload_n 2, ([2], 0, 0, []), zi0), (1, .iload 4, ([], 0, 0, []), zi0), (3, .invokestatic 13, ([0, 2, 82], 0, 0, []), mi_LW_low), (6, .istore 5, ([], 0, 0, []), zi0), (8, .iload_n 2, ([2], 0, 0, []), zi0), (9, .iconst 4, ([], nI 4, 0, []), zi0), (10, .ishr, ([], 0, 0, []), zi0), (11, .iconst 3, ([], nI 3, 0, []), zi0), (12, .iand, ([], 0, 0, []), zi0), (13, .istore 6, ([], 0, 0, []), zi0), (15, .iload_n 2, ([2], 0, 0, []), zi0), (16, .bipush 6, ([], nI 6, 0, []), zi0), (18, .ishr, ([], 0, 0, []), zi0), (19, .iconst 3, ([], nI 3, 0, []), zi0), (20, .iand, ([], 0, 0, []), zi0), (21, .istore 7, ([], 0, 0, []), zi0), (23, .iload_n 2, ([2], 0, 0, []), zi0), (24, .bipush 8, ([], nI 8, 0, []), zi0), (26, .ishr, ([], 0, 0, []), zi0), (27, .iconst 3, ([], nI 3, 0, []), zi0), (28, .iand, ([], 0, 0, []), zi0), (29, .istore 8, ([], 0, 0, []), zi0), (31, .iconst 1, ([], nI 1, 0, []), zi0), (32, .iload_n 2, ([2], 0, 0, []), zi0), (33, .bipush 10, ([], nI 10, 0, []), zi0), (35, .ishr, ([], 0, 0, []), zi0), (36, .bipush 6, ([], nI 6, 0, []), zi0), (38, .invokestatic 13, ([0, 2, 82], 0, 0, []), mi_LW_low), (41, .iadd, ([], 0, 0, []), zi0), (42, .istore 9, ([], 0, 0, []), zi0), (44, .aload_n 1, ([1], 0, 0, []), zi0), (45, .iload 7, ([], 0, 0, []), zi0), (47, .invokestatic 22, ([0, 2, 76], 0, 0, []), mi_LW_points), (50, .istore 10, ([], 0, 0, []), zi0), (52, .aload_n 1, ([1], 0, 0, []), zi0), (53, .bipush 32, ([], nI 32, 0, []), zi0), (55, .lconst 0, ([], 0, lN 0, []), zi0), (56, .lastore, ([], 0, 0, []), zi0), (57, .ldc 45, ([2, 86], (-1000001), 0, []), zi0), (59, .istore 11, ([], 0, 0, []), zi0), (61, .iconst 0, ([], nI 0, 0, []), zi0), (62, .istore 12, ([], 0, 0, []), zi0)]
set_option maxRecDepth 100000 in
theorem oc_LW_one_0 : cd_LW_one_0.all (zchk mi_LW_one) = true := by decide +kernel
set_option maxRecDepth 100000 in
theorem ow_LW_one_0 : zWs mi_LW_one cd_LW_one_0 := ⟨trivial, trivial, ⟨rfl, ms_LW_low⟩, trivial, trivial, trivial, trivial, trivial, trivial, trivial, trivial, trivial, trivial, trivial, trivial, trivial, trivial, trivial, trivial, trivial, trivial, trivial, trivial, trivial, trivial, trivial, trivial, ⟨rfl, ms_LW_low⟩, trivial, trivial, trivial, trivial, ⟨rfl, ms_LW_points⟩, trivial, trivial, trivial, trivial, trivial, rfl, trivial, trivial, trivial, trivial⟩
theorem ok_LW_one_0 : zgood2 mi_LW_one cd_LW_one_0 := ⟨oc_LW_one_0, ow_LW_one_0⟩
def cd_LW_one_1 : List ZE := [(64, .iload 5, ([], 0, 0, []), zi0), (66, .iconst 2, ([], nI 2, 0, []), zi0), (67, .if_icmp .ge 157, ([224], 0, 0, []), zi0), (70, .iload 5, ([], 0, 0, []), zi0), (72, .ifCond .ne 7, ([79], 0, 0, []), zi0), (75, .iconst 3, ([], nI 3, 0, []), zi0), (76, .goto 11, ([87], 0, 0, []), zi0), (79, .iload_n 2, ([2], 0, 0, []), zi0), (80, .bipush 13, ([], nI 13, 0, []), zi0), (82, .ishr, ([], 0, 0, []), zi0), (83, .iconst 3, ([], nI 3, 0, []), zi0), (84, .invokestatic 13, ([0, 2, 82], 0, 0, []), mi_LW_low), (87, .istore 13, ([], 0, 0, []), zi0), (89, .iload 13, ([], 0, 0, []), zi0), (91, .iconst 1, ([], nI 1, 0, []), zi0), (92, .if_icmp .ne 7, ([99], 0, 0, []), zi0), (95, .iconst 4, ([], nI 4, 0, []), zi0), (96, .goto 32, ([128], 0, 0, []), zi0), (99, .iload 13, ([], 0, 0, []), zi0), (101, .iconst 2, ([], nI 2, 0, []), zi0), (102, .if_icmp .ne 8, ([110], 0, 0, []), zi0), (105, .bipush 6, ([], nI 6, 0, []), zi0), (107, .goto 21, ([128], 0, 0, []), zi0), (110, .iload 13, ([], 0, 0, []), zi0), (112, .iconst 3, ([], nI 3, 0, []), zi0), (113, .if_icmp .ne 13, ([126], 0, 0, []), zi0), (116, .iload 9, ([], 0, 0, []), zi0), (118, .iconst 2, ([], nI 2, 0, []), zi0), (119, .if_icmp .ge 7, ([126], 0, 0, []), zi0), (122, .iconst 2, ([], nI 2, 0, []), zi0), (123, .goto 5, ([128], 0, 0, []), zi0), (126, .iload 9, ([], 0, 0, []), zi0), (128, .istore 14, ([], 0, 0, []), zi0), (130, .iload 14, ([], 0, 0, []), zi0), (132, .iload_n 3, ([3], 0, 0, []), zi0), (133, .invokestatic 46, ([0, 2, 87], 0, 0, []), mi_LW_units), (136, .istore 15, ([], 0, 0, []), zi0), (138, .iload 13, ([], 0, 0, []), zi0), (140, .iconst 3, ([], nI 3, 0, []), zi0), (141, .if_icmp .lt 13, ([154], 0, 0, []), zi0), (144, .iload 15, ([], 0, 0, []), zi0), (146, .iload 14, ([], 0, 0, []), zi0), (148, .invokestatic 49, ([0, 2, 90], 0, 0, []), mi_LW_isBrace), (151, .ifCond .eq 7, ([158], 0, 0, []), zi0), (154, .iconst 1, ([], nI 1, 0, []), zi0), (155, .goto 4, ([159], 0, 0, []), zi0), (158, .iconst 0, ([], nI 0, 0, []), zi0), (159, .istore 16, ([], 0, 0, []), zi0), (161, .iload 16, ([], 0, 0, []), zi0), (163, .ifCond .eq 13, ([176], 0, 0, []), zi0), (166, .aload_n 1, ([1], 0, 0, []), zi0), (167, .iload 13, ([], 0, 0, []), zi0), (169, .iload 14, ([], 0, 0, []), zi0), (171, .iload 15, ([], 0, 0, []), zi0), (173, .invokestatic 53, ([0, 2, 96], 0, 0, []), mi_LW_makes), (176, .iload 16, ([], 0, 0, []), zi0), (178, .ifCond .eq 8, ([186], 0, 0, []), zi0), (181, .iload 14, ([], 0, 0, []), zi0), (183, .goto 5, ([188], 0, 0, []), zi0), (186, .ldc 57, ([2, 107], (-1000003), 0, []), zi0), (188, .istore 11, ([], 0, 0, []), zi0), (190, .iload 13, ([], 0, 0, []), zi0), (192, .iconst 3, ([], nI 3, 0, []), zi0), (193, .if_icmp .ne 16, ([209], 0, 0, []), zi0), (196, .aload_n 0, ([0], 0, 0, []), zi0), (197, .iload 6, ([], 0, 0, []), zi0), (199, .iload 14, ([], 0, 0, []), zi0), (201, .iload 15, ([], 0, 0, []), zi0), (203, .invokevirtual 58, ([2, 1, 6], 0, 0, []), mi_T_brace), (206, .goto 13, ([219], 0, 0, []), zi0), (209, .aload_n 0, ([0], 0, 0, []), zi0), (210, .iload 6, ([], 0, 0, []), zi0), (212, .iload 13, ([], 0, 0, []), zi0), (214, .iload 14, ([], 0, 0, []), zi0), (216, .invokevirtual 64, ([2, 0, 225], 0, 0, []), mi_T_group), (219, .istore 12, ([], 0, 0, []), zi0), (221, .goto 683, ([904], 0, 0, []), zi0)]
set_option maxRecDepth 100000 in
theorem oc_LW_one_1 : cd_LW_one_1.all (zchk mi_LW_one) = true := by decide +kernel
set_option maxRecDepth 100000 in
theorem ow_LW_one_1 : zWs mi_LW_one cd_LW_one_1 := ⟨trivial, trivial, trivial, trivial, trivial, trivial, trivial, trivial, trivial, trivial, trivial, ⟨rfl, ms_LW_low⟩, trivial, trivial, trivial, trivial, trivial, trivial, trivial, trivial, trivial, trivial, trivial, trivial, trivial, trivial, trivial, trivial, trivial, trivial, trivial, trivial, trivial, trivial, trivial, ⟨rfl, ms_LW_units⟩, trivial, trivial, trivial, trivial, trivial, trivial, ⟨rfl, ms_LW_isBrace⟩, trivial, trivial, trivial, trivial, trivial, trivial, trivial, trivial, trivial, trivial, trivial, ⟨rfl, ms_LW_makes⟩, trivial, trivial, trivial, trivial, rfl, trivial, trivial, trivial, trivial, trivial, trivial, trivial, trivial, ⟨rfl, rfl, mv_T_brace⟩, trivial, trivial, trivial, trivial, trivial, ⟨rfl, rfl, mv_T_group⟩, trivial, trivial, trivial⟩
theorem ok_LW_one_1 : zgood2 mi_LW_one cd_LW_one_1 := ⟨oc_LW_one_1, ow_LW_one_1⟩
def cd_LW_one_2 : List ZE := [(224, .iload 5, ([], 0, 0, []), zi0), (226, .iconst 4, ([], nI 4, 0, []), zi0), (227, .if_icmp .ge 161, ([388], 0, 0, []), zi0), (230, .iload 9, ([], 0, 0, []), zi0), (232, .iload_n 3, ([3], 0, 0, []), zi0), (233, .invokestatic 67, ([0, 2, 108], 0, 0, []), mi_LW_names), (236, .istore 13, ([], 0, 0, []), zi0), (238, .iload 4, ([], 0, 0, []), zi0), (240, .bipush 10, ([], nI 10, 0, []), zi0), (242, .if_icmp .ge 8, ([250], 0, 0, []), zi0), (245, .iload 13, ([], 0, 0, []), zi0), (247, .goto 12, ([259], 0, 0, []), zi0), (250, .iload 9, ([], 0, 0, []), zi0), (252, .iload_n 3, ([3], 0, 0, []), zi0), (253, .bipush 7, ([], nI 7, 0, []), zi0), (255, .ishr, ([], 0, 0, []), zi0), (256, .invokestatic 67, ([0, 2, 108], 0, 0, []), mi_LW_names), (259, .istore 14, ([], 0, 0, []), zi0), (261, .aload_n 1, ([1], 0, 0, []), zi0), (262, .bipush 32, ([], nI 32, 0, []), zi0), (264, .iload 9, ([], 0, 0, []), zi0), (266, .i2l, ([], 0, 0, []), zi0), (267, .lastore, ([], 0, 0, []), zi0), (268, .iconst 0, ([], nI 0, 0, []), zi0), (269, .istore 15, ([], 0, 0, []), zi0), (271, .iload 15, ([], 0, 0, []), zi0), (273, .iload 9, ([], 0, 0, []), zi0), (275, .iload 9, ([], 0, 0, []), zi0), (277, .imul, ([], 0, 0, []), zi0), (278, .if_icmp .ge 72, ([350], 0, 0, []), zi0), (281, .aload_n 1, ([1], 0, 0, []), zi0), (282, .iconst 4, ([], nI 4, 0, []), zi0), (283, .iload 15, ([], 0, 0, []), zi0), (285, .iload 9, ([], 0, 0, []), zi0), (287, .idiv, ([], 0, 0, []), zi0), (288, .iload 15, ([], 0, 0, []), zi0), (290, .iload 9, ([], 0, 0, []), zi0), (292, .irem, ([], 0, 0, []), zi0), (293, .iload 5, ([], 0, 0, []), zi0), (295, .iconst 2, ([], nI 2, 0, []), zi0), (296, .if_icmp .ne 11, ([307], 0, 0, []), zi0), (299, .iload 15, ([], 0, 0, []), zi0), (301, .iload 9, ([], 0, 0, []), zi0), (303, .irem, ([], 0, 0, []), zi0), (304, .goto 13, ([317], 0, 0, []), zi0), (307, .iload 13, ([], 0, 0, []), zi0), (309, .iload 15, ([], 0, 0, []), zi0), (311, .iload 9, ([], 0, 0, []), zi0), (313, .irem, ([], 0, 0, []), zi0), (314, .invokestatic 19, ([0, 2, 93], 0, 0, []), mi_LW_digit), (317, .iload 5, ([], 0, 0, []), zi0), (319, .iconst 2, ([], nI 2, 0, []), zi0), (320, .if_icmp .ne 11, ([331], 0, 0, []), zi0), (323, .iload 15, ([], 0, 0, []), zi0), (325, .iload 9, ([], 0, 0, []), zi0), (327, .idiv, ([], 0, 0, []), zi0), (328, .goto 13, ([341], 0, 0, []), zi0), (331, .iload 14, ([], 0, 0, []), zi0), (333, .iload 15, ([], 0, 0, []), zi0), (335, .iload 9, ([], 0, 0, []), zi0), (337, .idiv, ([], 0, 0, []), zi0), (338, .invokestatic 19, ([0, 2, 93], 0, 0, []), mi_LW_digit), (341, .invokestatic 37, ([0, 2, 102], 0, 0, []), mi_LW_lays), (344, .iinc 15 1, ([], nI 1, 0, []), zi0), (347, .goto (-76), ([271], 0, 0, []), zi0), (350, .iload 9, ([], 0, 0, []), zi0), (352, .istore 11, ([], 0, 0, []), zi0), (354, .iload 5, ([], 0, 0, []), zi0), (356, .iconst 2, ([], nI 2, 0, []), zi0), (357, .if_icmp .ne 14, ([371], 0, 0, []), zi0), (360, .aload_n 0, ([0], 0, 0, []), zi0), (361, .iload 6, ([], 0, 0, []), zi0), (363, .iload 9, ([], 0, 0, []), zi0), (365, .invokevirtual 70, ([2, 0, 170], 0, 0, []), mi_T_flip), (368, .goto 15, ([383], 0, 0, []), zi0), (371, .aload_n 0, ([0], 0, 0, []), zi0), (372, .iload 6, ([], 0, 0, []), zi0), (374, .iload 9, ([], 0, 0, []), zi0), (376, .iload 13, ([], 0, 0, []), zi0), (378, .iload 14, ([], 0, 0, []), zi0), (380, .invokevirtual 73, ([2, 0, 213], 0, 0, []), mi_T_twist), (383, .istore 12, ([], 0, 0, []), zi0), (385, .goto 519, ([904], 0, 0, []), zi0)]
set_option maxRecDepth 100000 in
theorem oc_LW_one_2 : cd_LW_one_2.all (zchk mi_LW_one) = true := by decide +kernel
set_option maxRecDepth 100000 in
theorem ow_LW_one_2 : zWs mi_LW_one cd_LW_one_2 := ⟨trivial, trivial, trivial, trivial, trivial, ⟨rfl, ms_LW_names⟩, trivial, trivial, trivial, trivial, trivial, trivial, trivial, trivial, trivial, trivial, ⟨rfl, ms_LW_names⟩, trivial, trivial, trivial, trivial, trivial, trivial, trivial, trivial, trivial, trivial, trivial, trivial, trivial, trivial, trivial, trivial, trivial, trivial, trivial, trivial, trivial, trivial, trivial, trivial, trivial, trivial, trivial, trivial, trivial, trivial, trivial, trivial, ⟨rfl, ms_LW_digit⟩, trivial, trivial, trivial, trivial, trivial, trivial, trivial, trivial, trivial, trivial, trivial, ⟨rfl, ms_LW_digit⟩, ⟨rfl, ms_LW_lays⟩, trivial, trivial, trivial, trivial, trivial, trivial, trivial, trivial, trivial, trivial, ⟨rfl, rfl, mv_T_flip⟩, trivial, trivial, trivial, trivial, trivial, trivial, ⟨rfl, rfl, mv_T_twist⟩, trivial, trivial, trivial⟩
theorem ok_LW_one_2 : zgood2 mi_LW_one cd_LW_one_2 := ⟨oc_LW_one_2, ow_LW_one_2⟩
def cd_LW_one_3 : List ZE := [(388, .iload 5, ([], 0, 0, []), zi0), (390, .bipush 6, ([], nI 6, 0, []), zi0), (392, .if_icmp .ge 133, ([525], 0, 0, []), zi0), (395, .aload_n 1, ([1], 0, 0, []), zi0), (396, .iload 8, ([], 0, 0, []), zi0), (398, .invokestatic 22, ([0, 2, 76], 0, 0, []), mi_LW_points), (401, .istore 13, ([], 0, 0, []), zi0), (403, .iload 5, ([], 0, 0, []), zi0), (405, .iconst 4, ([], nI 4, 0, []), zi0), (406, .if_icmp .ne 11, ([417], 0, 0, []), zi0), (409, .iload 10, ([], 0, 0, []), zi0), (411, .iload 13, ([], 0, 0, []), zi0), (413, .iadd, ([], 0, 0, []), zi0), (414, .goto 8, ([422], 0, 0, []), zi0), (417, .iload 10, ([], 0, 0, []), zi0), (419, .iload 13, ([], 0, 0, []), zi0), (421, .imul, ([], 0, 0, []), zi0), (422, .istore 14, ([], 0, 0, []), zi0), (424, .iload 10, ([], 0, 0, []), zi0), (426, .ifCond .le 34, ([460], 0, 0, []), zi0), (429, .iload 13, ([], 0, 0, []), zi0), (431, .ifCond .le 29, ([460], 0, 0, []), zi0), (434, .iload 14, ([], 0, 0, []), zi0), (436, .bipush 7, ([], nI 7, 0, []), zi0), (438, .if_icmp .ge 22, ([460], 0, 0, []), zi0), (441, .aload_n 1, ([1], 0, 0, []), zi0), (442, .iload 7, ([], 0, 0, []), zi0), (444, .iload 8, ([], 0, 0, []), zi0), (446, .iload 5, ([], 0, 0, []), zi0), (448, .iconst 5, ([], nI 5, 0, []), zi0), (449, .if_icmp .ne 7, ([456], 0, 0, []), zi0), (452, .iconst 1, ([], nI 1, 0, []), zi0), (453, .goto 4, ([457], 0, 0, []), zi0), (456, .iconst 0, ([], nI 0, 0, []), zi0), (457, .invokestatic 76, ([0, 2, 111], 0, 0, []), mi_LW_joins), (460, .iload 10, ([], 0, 0, []), zi0), (462, .ifCond .eq 8, ([470], 0, 0, []), zi0), (465, .iload 13, ([], 0, 0, []), zi0), (467, .ifCond .ne 8, ([475], 0, 0, []), zi0), (470, .ldc 45, ([2, 86], (-1000001), 0, []), zi0), (472, .goto 17, ([489], 0, 0, []), zi0), (475, .iload 14, ([], 0, 0, []), zi0), (477, .bipush 6, ([], nI 6, 0, []), zi0), (479, .if_icmp .le 8, ([487], 0, 0, []), zi0), (482, .ldc 80, ([2, 120], (-1000004), 0, []), zi0), (484, .goto 5, ([489], 0, 0, []), zi0), (487, .iload 14, ([], 0, 0, []), zi0), (489, .istore 11, ([], 0, 0, []), zi0), (491, .iload 5, ([], 0, 0, []), zi0), (493, .iconst 4, ([], nI 4, 0, []), zi0), (494, .if_icmp .ne 16, ([510], 0, 0, []), zi0), (497, .aload_n 0, ([0], 0, 0, []), zi0), (498, .iload 7, ([], 0, 0, []), zi0), (500, .iload 8, ([], 0, 0, []), zi0), (502, .iload 6, ([], 0, 0, []), zi0), (504, .invokevirtual 81, ([2, 2, 121], 0, 0, []), mi_T_unite), (507, .goto 13, ([520], 0, 0, []), zi0), (510, .aload_n 0, ([0], 0, 0, []), zi0), (511, .iload 7, ([], 0, 0, []), zi0), (513, .iload 8, ([], 0, 0, []), zi0), (515, .iload 6, ([], 0, 0, []), zi0), (517, .invokevirtual 84, ([2, 2, 135], 0, 0, []), mi_T_pair), (520, .istore 12, ([], 0, 0, []), zi0), (522, .goto 382, ([904], 0, 0, []), zi0)]
set_option maxRecDepth 100000 in
theorem oc_LW_one_3 : cd_LW_one_3.all (zchk mi_LW_one) = true := by decide +kernel
set_option maxRecDepth 100000 in
theorem ow_LW_one_3 : zWs mi_LW_one cd_LW_one_3 := ⟨trivial, trivial, trivial, trivial, trivial, ⟨rfl, ms_LW_points⟩, trivial, trivial, trivial, trivial, trivial, trivial, trivial, trivial, trivial, trivial, trivial, trivial, trivial, trivial, trivial, trivial, trivial, trivial, trivial, trivial, trivial, trivial, trivial, trivial, trivial, trivial, trivial, trivial, ⟨rfl, ms_LW_joins⟩, trivial, trivial, trivial, trivial, rfl, trivial, trivial, trivial, trivial, rfl, trivial, trivial, trivial, trivial, trivial, trivial, trivial, trivial, trivial, trivial, ⟨rfl, rfl, mv_T_unite⟩, trivial, trivial, trivial, trivial, trivial, ⟨rfl, rfl, mv_T_pair⟩, trivial, trivial, trivial⟩
theorem ok_LW_one_3 : zgood2 mi_LW_one cd_LW_one_3 := ⟨oc_LW_one_3, ow_LW_one_3⟩
def cd_LW_one_4 : List ZE := [(525, .iload 5, ([], 0, 0, []), zi0), (527, .bipush 9, ([], nI 9, 0, []), zi0), (529, .if_icmp .ge 141, ([670], 0, 0, []), zi0), (532, .iload 10, ([], 0, 0, []), zi0), (534, .ifCond .le 12, ([546], 0, 0, []), zi0), (537, .iload 10, ([], 0, 0, []), zi0), (539, .iload_n 3, ([3], 0, 0, []), zi0), (540, .invokestatic 67, ([0, 2, 108], 0, 0, []), mi_LW_names), (543, .goto 4, ([547], 0, 0, []), zi0), (546, .iconst 0, ([], nI 0, 0, []), zi0), (547, .istore 13, ([], 0, 0, []), zi0), (549, .iload 5, ([], 0, 0, []), zi0), (551, .bipush 6, ([], nI 6, 0, []), zi0), (553, .if_icmp .gt 12, ([565], 0, 0, []), zi0), (556, .aload_n 1, ([1], 0, 0, []), zi0), (557, .iload 7, ([], 0, 0, []), zi0), (559, .invokestatic 87, ([0, 2, 147], 0, 0, []), mi_LW_bijective), (562, .ifCond .eq 7, ([569], 0, 0, []), zi0), (565, .iconst 1, ([], nI 1, 0, []), zi0), (566, .goto 4, ([570], 0, 0, []), zi0), (569, .iconst 0, ([], nI 0, 0, []), zi0), (570, .istore 14, ([], 0, 0, []), zi0), (572, .iload 10, ([], 0, 0, []), zi0), (574, .ifCond .le 21, ([595], 0, 0, []), zi0), (577, .iload 14, ([], 0, 0, []), zi0), (579, .ifCond .eq 16, ([595], 0, 0, []), zi0), (582, .aload_n 1, ([1], 0, 0, []), zi0), (583, .iload 7, ([], 0, 0, []), zi0), (585, .iload 5, ([], 0, 0, []), zi0), (587, .bipush 6, ([], nI 6, 0, []), zi0), (589, .isub, ([], 0, 0, []), zi0), (590, .iload 13, ([], 0, 0, []), zi0), (592, .invokestatic 91, ([0, 2, 150], 0, 0, []), mi_LW_turns), (595, .iload 10, ([], 0, 0, []), zi0), (597, .ifCond .ne 8, ([605], 0, 0, []), zi0), (600, .ldc 45, ([2, 86], (-1000001), 0, []), zi0), (602, .goto 15, ([617], 0, 0, []), zi0), (605, .iload 14, ([], 0, 0, []), zi0), (607, .ifCond .eq 8, ([615], 0, 0, []), zi0), (610, .iload 10, ([], 0, 0, []), zi0), (612, .goto 5, ([617], 0, 0, []), zi0), (615, .ldc 57, ([2, 107], (-1000003), 0, []), zi0), (617, .istore 11, ([], 0, 0, []), zi0), (619, .iload 5, ([], 0, 0, []), zi0), (621, .bipush 6, ([], nI 6, 0, []), zi0), (623, .if_icmp .ne 14, ([637], 0, 0, []), zi0), (626, .aload_n 0, ([0], 0, 0, []), zi0), (627, .iload 7, ([], 0, 0, []), zi0), (629, .iload 6, ([], 0, 0, []), zi0), (631, .invokevirtual 94, ([2, 2, 153], 0, 0, []), mi_T_invert), (634, .goto 31, ([665], 0, 0, []), zi0), (637, .iload 5, ([], 0, 0, []), zi0), (639, .bipush 7, ([], nI 7, 0, []), zi0), (641, .if_icmp .ne 14, ([655], 0, 0, []), zi0), (644, .aload_n 0, ([0], 0, 0, []), zi0), (645, .iload 7, ([], 0, 0, []), zi0), (647, .iload 6, ([], 0, 0, []), zi0), (649, .invokevirtual 97, ([2, 2, 161], 0, 0, []), mi_T_mirror), (652, .goto 13, ([665], 0, 0, []), zi0), (655, .aload_n 0, ([0], 0, 0, []), zi0), (656, .iload 7, ([], 0, 0, []), zi0), (658, .iload 13, ([], 0, 0, []), zi0), (660, .iload 6, ([], 0, 0, []), zi0), (662, .invokevirtual 100, ([2, 1, 52], 0, 0, []), mi_T_rename), (665, .istore 12, ([], 0, 0, []), zi0), (667, .goto 237, ([904], 0, 0, []), zi0)]
set_option maxRecDepth 100000 in
theorem oc_LW_one_4 : cd_LW_one_4.all (zchk mi_LW_one) = true := by decide +kernel
set_option maxRecDepth 100000 in
theorem ow_LW_one_4 : zWs mi_LW_one cd_LW_one_4 := ⟨trivial, trivial, trivial, trivial, trivial, trivial, trivial, ⟨rfl, ms_LW_names⟩, trivial, trivial, trivial, trivial, trivial, trivial, trivial, trivial, ⟨rfl, ms_LW_bijective⟩, trivial, trivial, trivial, trivial, trivial, trivial, trivial, trivial, trivial, trivial, trivial, trivial, trivial, trivial, trivial, ⟨rfl, ms_LW_turns⟩, trivial, trivial, rfl, trivial, trivial, trivial, trivial, trivial, rfl, trivial, trivial, trivial, trivial, trivial, trivial, trivial, ⟨rfl, rfl, mv_T_invert⟩, trivial, trivial, trivial, trivial, trivial, trivial, trivial, ⟨rfl, rfl, mv_T_mirror⟩, trivial, trivial, trivial, trivial, trivial, ⟨rfl, rfl, mv_T_rename⟩, trivial, trivial, trivial⟩
theorem ok_LW_one_4 : zgood2 mi_LW_one cd_LW_one_4 := ⟨oc_LW_one_4, ow_LW_one_4⟩
def cd_LW_one_5 : List ZE := [(670, .iload 5, ([], 0, 0, []), zi0), (672, .bipush 9, ([], nI 9, 0, []), zi0), (674, .if_icmp .ne 44, ([718], 0, 0, []), zi0), (677, .iload 10, ([], 0, 0, []), zi0), (679, .ifCond .le 9, ([688], 0, 0, []), zi0), (682, .aload_n 1, ([1], 0, 0, []), zi0), (683, .iload 7, ([], 0, 0, []), zi0), (685, .invokestatic 103, ([0, 2, 169], 0, 0, []), mi_LW_retracts), (688, .iload 10, ([], 0, 0, []), zi0), (690, .ifCond .ne 8, ([698], 0, 0, []), zi0), (693, .ldc 45, ([2, 86], (-1000001), 0, []), zi0), (695, .goto 8, ([703], 0, 0, []), zi0), (698, .aload_n 1, ([1], 0, 0, []), zi0), (699, .iconst 4, ([], nI 4, 0, []), zi0), (700, .invokestatic 22, ([0, 2, 76], 0, 0, []), mi_LW_points), (703, .istore 11, ([], 0, 0, []), zi0), (705, .aload_n 0, ([0], 0, 0, []), zi0), (706, .iload 7, ([], 0, 0, []), zi0), (708, .iload 6, ([], 0, 0, []), zi0), (710, .invokevirtual 107, ([2, 2, 175], 0, 0, []), mi_T_retract), (713, .istore 12, ([], 0, 0, []), zi0), (715, .goto 189, ([904], 0, 0, []), zi0)]
set_option maxRecDepth 100000 in
theorem oc_LW_one_5 : cd_LW_one_5.all (zchk mi_LW_one) = true := by decide +kernel
set_option maxRecDepth 100000 in
theorem ow_LW_one_5 : zWs mi_LW_one cd_LW_one_5 := ⟨trivial, trivial, trivial, trivial, trivial, trivial, trivial, ⟨rfl, ms_LW_retracts⟩, trivial, trivial, rfl, trivial, trivial, trivial, ⟨rfl, ms_LW_points⟩, trivial, trivial, trivial, trivial, ⟨rfl, rfl, mv_T_retract⟩, trivial, trivial, trivial⟩
theorem ok_LW_one_5 : zgood2 mi_LW_one cd_LW_one_5 := ⟨oc_LW_one_5, ow_LW_one_5⟩
def cd_LW_one_6 : List ZE := [(718, .iload 5, ([], 0, 0, []), zi0), (720, .bipush 10, ([], nI 10, 0, []), zi0), (722, .if_icmp .ne 36, ([758], 0, 0, []), zi0), (725, .iload 10, ([], 0, 0, []), zi0), (727, .ifCond .ne 8, ([735], 0, 0, []), zi0), (730, .ldc 45, ([2, 86], (-1000001), 0, []), zi0), (732, .goto 5, ([737], 0, 0, []), zi0), (735, .iload 10, ([], 0, 0, []), zi0), (737, .istore 11, ([], 0, 0, []), zi0), (739, .aload_n 1, ([1], 0, 0, []), zi0), (740, .bipush 8, ([], nI 8, 0, []), zi0), (742, .iload 7, ([], 0, 0, []), zi0), (744, .imul, ([], 0, 0, []), zi0), (745, .lconst 0, ([], 0, lN 0, []), zi0), (746, .lastore, ([], 0, 0, []), zi0), (747, .aload_n 0, ([0], 0, 0, []), zi0), (748, .iload 7, ([], 0, 0, []), zi0), (750, .invokevirtual 110, ([2, 2, 180], 0, 0, []), mi_T_drop), (753, .istore 12, ([], 0, 0, []), zi0), (755, .goto 149, ([904], 0, 0, []), zi0)]
set_option maxRecDepth 100000 in
theorem oc_LW_one_6 : cd_LW_one_6.all (zchk mi_LW_one) = true := by decide +kernel
set_option maxRecDepth 100000 in
theorem ow_LW_one_6 : zWs mi_LW_one cd_LW_one_6 := ⟨trivial, trivial, trivial, trivial, trivial, rfl, trivial, trivial, trivial, trivial, trivial, trivial, trivial, trivial, trivial, trivial, trivial, ⟨rfl, rfl, mv_T_drop⟩, trivial, trivial, trivial⟩
theorem ok_LW_one_6 : zgood2 mi_LW_one cd_LW_one_6 := ⟨oc_LW_one_6, ow_LW_one_6⟩
def cd_LW_one_7 : List ZE := [(758, .iload_n 3, ([3], 0, 0, []), zi0), (759, .bipush 6, ([], nI 6, 0, []), zi0), (761, .invokestatic 13, ([0, 2, 82], 0, 0, []), mi_LW_low), (764, .istore 13, ([], 0, 0, []), zi0), (766, .iload_n 3, ([3], 0, 0, []), zi0), (767, .iconst 3, ([], nI 3, 0, []), zi0), (768, .ishr, ([], 0, 0, []), zi0), (769, .bipush 6, ([], nI 6, 0, []), zi0), (771, .invokestatic 13, ([0, 2, 82], 0, 0, []), mi_LW_low), (774, .istore 14, ([], 0, 0, []), zi0), (776, .iload_n 3, ([3], 0, 0, []), zi0), (777, .bipush 6, ([], nI 6, 0, []), zi0), (779, .ishr, ([], 0, 0, []), zi0), (780, .bipush 6, ([], nI 6, 0, []), zi0), (782, .invokestatic 13, ([0, 2, 82], 0, 0, []), mi_LW_low), (785, .istore 15, ([], 0, 0, []), zi0), (787, .iload_n 3, ([3], 0, 0, []), zi0), (788, .bipush 9, ([], nI 9, 0, []), zi0), (790, .ishr, ([], 0, 0, []), zi0), (791, .bipush 6, ([], nI 6, 0, []), zi0), (793, .invokestatic 13, ([0, 2, 82], 0, 0, []), mi_LW_low), (796, .istore 16, ([], 0, 0, []), zi0), (798, .iload 13, ([], 0, 0, []), zi0), (800, .iload 10, ([], 0, 0, []), zi0), (802, .if_icmp .ge 28, ([830], 0, 0, []), zi0), (805, .iload 14, ([], 0, 0, []), zi0), (807, .iload 10, ([], 0, 0, []), zi0), (809, .if_icmp .ge 21, ([830], 0, 0, []), zi0), (812, .iload 15, ([], 0, 0, []), zi0), (814, .iload 10, ([], 0, 0, []), zi0), (816, .if_icmp .ge 14, ([830], 0, 0, []), zi0), (819, .iload 16, ([], 0, 0, []), zi0), (821, .iload 10, ([], 0, 0, []), zi0), (823, .if_icmp .ge 7, ([830], 0, 0, []), zi0), (826, .iconst 1, ([], nI 1, 0, []), zi0), (827, .goto 4, ([831], 0, 0, []), zi0), (830, .iconst 0, ([], nI 0, 0, []), zi0), (831, .istore 17, ([], 0, 0, []), zi0), (833, .iload 17, ([], 0, 0, []), zi0), (835, .ifCond .eq 30, ([865], 0, 0, []), zi0), (838, .aload_n 1, ([1], 0, 0, []), zi0), (839, .iload 7, ([], 0, 0, []), zi0), (841, .iload 13, ([], 0, 0, []), zi0), (843, .iload 14, ([], 0, 0, []), zi0), (845, .invokestatic 26, ([0, 2, 114], 0, 0, []), mi_LW_l), (848, .bipush 8, ([], nI 8, 0, []), zi0), (850, .aload_n 1, ([1], 0, 0, []), zi0), (851, .iload 7, ([], 0, 0, []), zi0), (853, .iload 13, ([], 0, 0, []), zi0), (855, .iload 14, ([], 0, 0, []), zi0), (857, .invokestatic 30, ([0, 2, 117], 0, 0, []), mi_LW_r), (860, .imul, ([], 0, 0, []), zi0), (861, .iadd, ([], 0, 0, []), zi0), (862, .goto 5, ([867], 0, 0, []), zi0), (865, .ldc 45, ([2, 86], (-1000001), 0, []), zi0), (867, .istore 11, ([], 0, 0, []), zi0), (869, .iload 17, ([], 0, 0, []), zi0), (871, .ifCond .eq 17, ([888], 0, 0, []), zi0), (874, .aload_n 1, ([1], 0, 0, []), zi0), (875, .iload 7, ([], 0, 0, []), zi0), (877, .iload 13, ([], 0, 0, []), zi0), (879, .iload 14, ([], 0, 0, []), zi0), (881, .iload 15, ([], 0, 0, []), zi0), (883, .iload 16, ([], 0, 0, []), zi0), (885, .invokestatic 37, ([0, 2, 102], 0, 0, []), mi_LW_lays), (888, .aload_n 0, ([0], 0, 0, []), zi0), (889, .iload 7, ([], 0, 0, []), zi0), (891, .iload 13, ([], 0, 0, []), zi0), (893, .iload 14, ([], 0, 0, []), zi0), (895, .iload 15, ([], 0, 0, []), zi0), (897, .iload 16, ([], 0, 0, []), zi0), (899, .invokevirtual 114, ([2, 1, 31], 0, 0, []), mi_T_put), (902, .istore 12, ([], 0, 0, []), zi0)]
set_option maxRecDepth 100000 in
theorem oc_LW_one_7 : cd_LW_one_7.all (zchk mi_LW_one) = true := by decide +kernel
set_option maxRecDepth 100000 in
theorem ow_LW_one_7 : zWs mi_LW_one cd_LW_one_7 := ⟨trivial, trivial, ⟨rfl, ms_LW_low⟩, trivial, trivial, trivial, trivial, trivial, ⟨rfl, ms_LW_low⟩, trivial, trivial, trivial, trivial, trivial, ⟨rfl, ms_LW_low⟩, trivial, trivial, trivial, trivial, trivial, ⟨rfl, ms_LW_low⟩, trivial, trivial, trivial, trivial, trivial, trivial, trivial, trivial, trivial, trivial, trivial, trivial, trivial, trivial, trivial, trivial, trivial, trivial, trivial, trivial, trivial, trivial, trivial, ⟨rfl, ms_LW_l⟩, trivial, trivial, trivial, trivial, trivial, ⟨rfl, ms_LW_r⟩, trivial, trivial, trivial, rfl, trivial, trivial, trivial, trivial, trivial, trivial, trivial, trivial, trivial, ⟨rfl, ms_LW_lays⟩, trivial, trivial, trivial, trivial, trivial, trivial, ⟨rfl, rfl, mv_T_put⟩, trivial, trivial⟩
theorem ok_LW_one_7 : zgood2 mi_LW_one cd_LW_one_7 := ⟨oc_LW_one_7, ow_LW_one_7⟩
def cd_LW_one_8 : List ZE := [(904, .aload_n 1, ([1], 0, 0, []), zi0), (905, .bipush 32, ([], nI 32, 0, []), zi0), (907, .laload, ([], 0, 0, []), zi0), (908, .lconst 0, ([], 0, lN 0, []), zi0), (909, .lcmp, ([], 0, 0, []), zi0), (910, .ifCond .le 10, ([920], 0, 0, []), zi0), (913, .aload_n 1, ([1], 0, 0, []), zi0), (914, .iconst 4, ([], nI 4, 0, []), zi0), (915, .iload 6, ([], 0, 0, []), zi0), (917, .invokestatic 118, ([0, 2, 185], 0, 0, []), mi_LW_copies), (920, .iload 12, ([], 0, 0, []), zi0), (922, .iload 11, ([], 0, 0, []), zi0), (924, .if_icmp .ne 7, ([931], 0, 0, []), zi0), (927, .iconst 1, ([], nI 1, 0, []), zi0), (928, .goto 4, ([932], 0, 0, []), zi0), (931, .iconst 0, ([], nI 0, 0, []), zi0), (932, .ireturn, ([], 0, 0, []), zi0)]
set_option maxRecDepth 100000 in
theorem oc_LW_one_8 : cd_LW_one_8.all (zchk mi_LW_one) = true := by decide +kernel
set_option maxRecDepth 100000 in
theorem ow_LW_one_8 : zWs mi_LW_one cd_LW_one_8 := ⟨trivial, trivial, trivial, trivial, trivial, trivial, trivial, trivial, trivial, ⟨rfl, ms_LW_copies⟩, trivial, trivial, trivial, trivial, trivial, trivial, trivial, trivial⟩
theorem ok_LW_one_8 : zgood2 mi_LW_one cd_LW_one_8 := ⟨oc_LW_one_8, ow_LW_one_8⟩
def cu_LW_known : List (Nat × List Nat) := [(62, [0, 1, 2, 3, 4]), (71, [0, 1, 2, 3, 4, 5, 6, 7]), (146, [0, 1, 2, 3, 4, 5, 6]), (149, [0, 1, 2, 3, 4, 5, 6, 7]), (196, [0, 1, 2, 5, 6, 7]), (249, [0, 1, 2, 5, 6, 7]), (299, [0, 1, 2, 6, 7])]
def cd_LW_known_0 : List ZE := [(0, .aload_n 1, ([1], 0, 0, []), zi0), (1, .iload_n 2, ([2], 0, 0, []), zi0), (2, .invokestatic 22, ([0, 2, 76], 0, 0, []), mi_LW_points), (5, .istore 4, ([], 0, 0, []), zi0), (7, .iload 4, ([], 0, 0, []), zi0), (9, .ifCond .ne 53, ([62], 0, 0, []), zi0), (12, .aload_n 0, ([0], 0, 0, []), zi0), (13, .iload_n 2, ([2], 0, 0, []), zi0), (14, .iconst 3, ([], nI 3, 0, []), zi0), (15, .invokevirtual 122, ([2, 1, 79], 0, 0, []), mi_T_whole), (18, .ldc 45, ([2, 86], (-1000001), 0, []), zi0), (20, .if_icmp .ne 40, ([60], 0, 0, []), zi0), (23, .aload_n 0, ([0], 0, 0, []), zi0), (24, .iload_n 2, ([2], 0, 0, []), zi0), (25, .iconst 0, ([], nI 0, 0, []), zi0), (26, .invokevirtual 128, ([2, 2, 31], 0, 0, []), mi_T_orbit), (29, .ldc 45, ([2, 86], (-1000001), 0, []), zi0), (31, .if_icmp .ne 29, ([60], 0, 0, []), zi0), (34, .aload_n 0, ([0], 0, 0, []), zi0), (35, .iload_n 2, ([2], 0, 0, []), zi0), (36, .iconst 0, ([], nI 0, 0, []), zi0), (37, .invokevirtual 131, ([2, 2, 36], 0, 0, []), mi_T_shut), (40, .ldc 45, ([2, 86], (-1000001), 0, []), zi0), (42, .if_icmp .ne 18, ([60], 0, 0, []), zi0), (45, .aload_n 0, ([0], 0, 0, []), zi0), (46, .iload_n 2, ([2], 0, 0, []), zi0), (47, .iconst 0, ([], nI 0, 0, []), zi0), (48, .invokevirtual 134, ([2, 2, 43], 0, 0, []), mi_T_alike), (51, .ldc 45, ([2, 86], (-1000001), 0, []), zi0), (53, .if_icmp .ne 7, ([60], 0, 0, []), zi0), (56, .iconst 1, ([], nI 1, 0, []), zi0), (57, .goto 4, ([61], 0, 0, []), zi0), (60, .iconst 0, ([], nI 0, 0, []), zi0), (61, .ireturn, ([], 0, 0, []), zi0)]
set_option maxRecDepth 100000 in
theorem oc_LW_known_0 : cd_LW_known_0.all (zchk mi_LW_known) = true := by decide +kernel
set_option maxRecDepth 100000 in
theorem ow_LW_known_0 : zWs mi_LW_known cd_LW_known_0 := ⟨trivial, trivial, ⟨rfl, ms_LW_points⟩, trivial, trivial, trivial, trivial, trivial, trivial, ⟨rfl, rfl, mv_T_whole⟩, rfl, trivial, trivial, trivial, trivial, ⟨rfl, rfl, mv_T_orbit⟩, rfl, trivial, trivial, trivial, trivial, ⟨rfl, rfl, mv_T_shut⟩, rfl, trivial, trivial, trivial, trivial, ⟨rfl, rfl, mv_T_alike⟩, rfl, trivial, trivial, trivial, trivial, trivial, trivial⟩
theorem ok_LW_known_0 : zgood2 mi_LW_known cd_LW_known_0 := ⟨oc_LW_known_0, ow_LW_known_0⟩
def cd_LW_known_1 : List ZE := [(62, .iconst 0, ([], nI 0, 0, []), zi0), (63, .istore 5, ([], 0, 0, []), zi0), (65, .iconst 0, ([], nI 0, 0, []), zi0), (66, .istore 6, ([], 0, 0, []), zi0), (68, .iconst 0, ([], nI 0, 0, []), zi0), (69, .istore 7, ([], 0, 0, []), zi0), (71, .iload 7, ([], 0, 0, []), zi0), (73, .iload 4, ([], 0, 0, []), zi0), (75, .if_icmp .ge 71, ([146], 0, 0, []), zi0), (78, .aload_n 1, ([1], 0, 0, []), zi0), (79, .iload_n 2, ([2], 0, 0, []), zi0), (80, .iload 7, ([], 0, 0, []), zi0), (82, .invokestatic 137, ([0, 2, 194], 0, 0, []), mi_LW_orbit), (85, .istore 8, ([], 0, 0, []), zi0), (87, .iload 5, ([], 0, 0, []), zi0), (89, .iload 8, ([], 0, 0, []), zi0), (91, .iconst 1, ([], nI 1, 0, []), zi0), (92, .iload 7, ([], 0, 0, []), zi0), (94, .ishl, ([], 0, 0, []), zi0), (95, .iconst 1, ([], nI 1, 0, []), zi0), (96, .isub, ([], 0, 0, []), zi0), (97, .iand, ([], 0, 0, []), zi0), (98, .ifCond .ne 7, ([105], 0, 0, []), zi0), (101, .iconst 1, ([], nI 1, 0, []), zi0), (102, .goto 4, ([106], 0, 0, []), zi0), (105, .iconst 0, ([], nI 0, 0, []), zi0), (106, .iadd, ([], 0, 0, []), zi0), (107, .istore 5, ([], 0, 0, []), zi0), (109, .aload_n 0, ([0], 0, 0, []), zi0), (110, .iload_n 2, ([2], 0, 0, []), zi0), (111, .iload 7, ([], 0, 0, []), zi0), (113, .invokevirtual 128, ([2, 2, 31], 0, 0, []), mi_T_orbit), (116, .iload 8, ([], 0, 0, []), zi0), (118, .if_icmp .ne 20, ([138], 0, 0, []), zi0), (121, .aload_n 0, ([0], 0, 0, []), zi0), (122, .iload_n 2, ([2], 0, 0, []), zi0), (123, .iload 7, ([], 0, 0, []), zi0), (125, .invokevirtual 134, ([2, 2, 43], 0, 0, []), mi_T_alike), (128, .aload_n 1, ([1], 0, 0, []), zi0), (129, .iload_n 2, ([2], 0, 0, []), zi0), (130, .iload 7, ([], 0, 0, []), zi0), (132, .invokestatic 41, ([0, 2, 172], 0, 0, []), mi_LW_clazz), (135, .if_icmp .eq 5, ([140], 0, 0, []), zi0), (138, .iconst 0, ([], nI 0, 0, []), zi0), (139, .ireturn, ([], 0, 0, []), zi0), (140, .iinc 7 1, ([], nI 1, 0, []), zi0), (143, .goto (-72), ([71], 0, 0, []), zi0)]
set_option maxRecDepth 100000 in
theorem oc_LW_known_1 : cd_LW_known_1.all (zchk mi_LW_known) = true := by decide +kernel
set_option maxRecDepth 100000 in
theorem ow_LW_known_1 : zWs mi_LW_known cd_LW_known_1 := ⟨trivial, trivial, trivial, trivial, trivial, trivial, trivial, trivial, trivial, trivial, trivial, trivial, ⟨rfl, ms_LW_orbit⟩, trivial, trivial, trivial, trivial, trivial, trivial, trivial, trivial, trivial, trivial, trivial, trivial, trivial, trivial, trivial, trivial, trivial, trivial, ⟨rfl, rfl, mv_T_orbit⟩, trivial, trivial, trivial, trivial, trivial, ⟨rfl, rfl, mv_T_alike⟩, trivial, trivial, trivial, ⟨rfl, ms_LW_clazz⟩, trivial, trivial, trivial, trivial, trivial, trivial⟩
theorem ok_LW_known_1 : zgood2 mi_LW_known cd_LW_known_1 := ⟨oc_LW_known_1, ow_LW_known_1⟩
def cd_LW_known_2 : List ZE := [(146, .iconst 0, ([], nI 0, 0, []), zi0), (147, .istore 7, ([], 0, 0, []), zi0), (149, .iload 7, ([], 0, 0, []), zi0), (151, .iconst 1, ([], nI 1, 0, []), zi0), (152, .iload 4, ([], 0, 0, []), zi0), (154, .ishl, ([], 0, 0, []), zi0), (155, .if_icmp .ge 31, ([186], 0, 0, []), zi0), (158, .iload 6, ([], 0, 0, []), zi0), (160, .aload_n 1, ([1], 0, 0, []), zi0), (161, .iload_n 2, ([2], 0, 0, []), zi0), (162, .iload 7, ([], 0, 0, []), zi0), (164, .invokestatic 139, ([0, 2, 197], 0, 0, []), mi_LW_shut), (167, .iload 7, ([], 0, 0, []), zi0), (169, .if_icmp .ne 7, ([176], 0, 0, []), zi0), (172, .iconst 1, ([], nI 1, 0, []), zi0), (173, .goto 4, ([177], 0, 0, []), zi0), (176, .iconst 0, ([], nI 0, 0, []), zi0), (177, .iadd, ([], 0, 0, []), zi0), (178, .istore 6, ([], 0, 0, []), zi0), (180, .iinc 7 1, ([], nI 1, 0, []), zi0), (183, .goto (-34), ([149], 0, 0, []), zi0), (186, .iload_n 3, ([3], 0, 0, []), zi0), (187, .iconst 1, ([], nI 1, 0, []), zi0), (188, .iload 4, ([], 0, 0, []), zi0), (190, .ishl, ([], 0, 0, []), zi0), (191, .invokestatic 13, ([0, 2, 82], 0, 0, []), mi_LW_low), (194, .istore 7, ([], 0, 0, []), zi0)]
set_option maxRecDepth 100000 in
theorem oc_LW_known_2 : cd_LW_known_2.all (zchk mi_LW_known) = true := by decide +kernel
set_option maxRecDepth 100000 in
theorem ow_LW_known_2 : zWs mi_LW_known cd_LW_known_2 := ⟨trivial, trivial, trivial, trivial, trivial, trivial, trivial, trivial, trivial, trivial, trivial, ⟨rfl, ms_LW_shut⟩, trivial, trivial, trivial, trivial, trivial, trivial, trivial, trivial, trivial, trivial, trivial, trivial, trivial, ⟨rfl, ms_LW_low⟩, trivial, trivial⟩
theorem ok_LW_known_2 : zgood2 mi_LW_known cd_LW_known_2 := ⟨oc_LW_known_2, ow_LW_known_2⟩
def cd_LW_known_3 : List ZE := [(196, .aload_n 0, ([0], 0, 0, []), zi0), (197, .iload_n 2, ([2], 0, 0, []), zi0), (198, .iconst 3, ([], nI 3, 0, []), zi0), (199, .invokevirtual 122, ([2, 1, 79], 0, 0, []), mi_T_whole), (202, .aload_n 1, ([1], 0, 0, []), zi0), (203, .iload_n 2, ([2], 0, 0, []), zi0), (204, .invokestatic 87, ([0, 2, 147], 0, 0, []), mi_LW_bijective), (207, .invokestatic 141, ([0, 2, 200], 0, 0, []), mi_LW_as), (210, .if_icmp .ne 122, ([332], 0, 0, []), zi0), (213, .aload_n 0, ([0], 0, 0, []), zi0), (214, .iload_n 2, ([2], 0, 0, []), zi0), (215, .iconst 4, ([], nI 4, 0, []), zi0), (216, .invokevirtual 122, ([2, 1, 79], 0, 0, []), mi_T_whole), (219, .aload_n 1, ([1], 0, 0, []), zi0), (220, .iload_n 2, ([2], 0, 0, []), zi0), (221, .iconst 0, ([], nI 0, 0, []), zi0), (222, .invokestatic 145, ([0, 2, 203], 0, 0, []), mi_LW_is), (225, .invokestatic 141, ([0, 2, 200], 0, 0, []), mi_LW_as), (228, .if_icmp .ne 104, ([332], 0, 0, []), zi0), (231, .aload_n 0, ([0], 0, 0, []), zi0), (232, .iload_n 2, ([2], 0, 0, []), zi0), (233, .iconst 5, ([], nI 5, 0, []), zi0), (234, .invokevirtual 122, ([2, 1, 79], 0, 0, []), mi_T_whole), (237, .aload_n 1, ([1], 0, 0, []), zi0), (238, .iload_n 2, ([2], 0, 0, []), zi0), (239, .iconst 1, ([], nI 1, 0, []), zi0), (240, .invokestatic 145, ([0, 2, 203], 0, 0, []), mi_LW_is), (243, .invokestatic 141, ([0, 2, 200], 0, 0, []), mi_LW_as), (246, .if_icmp .ne 86, ([332], 0, 0, []), zi0)]
set_option maxRecDepth 100000 in
theorem oc_LW_known_3 : cd_LW_known_3.all (zchk mi_LW_known) = true := by decide +kernel
set_option maxRecDepth 100000 in
theorem ow_LW_known_3 : zWs mi_LW_known cd_LW_known_3 := ⟨trivial, trivial, trivial, ⟨rfl, rfl, mv_T_whole⟩, trivial, trivial, ⟨rfl, ms_LW_bijective⟩, ⟨rfl, ms_LW_as⟩, trivial, trivial, trivial, trivial, ⟨rfl, rfl, mv_T_whole⟩, trivial, trivial, trivial, ⟨rfl, ms_LW_is⟩, ⟨rfl, ms_LW_as⟩, trivial, trivial, trivial, trivial, ⟨rfl, rfl, mv_T_whole⟩, trivial, trivial, trivial, ⟨rfl, ms_LW_is⟩, ⟨rfl, ms_LW_as⟩, trivial, trivial⟩
theorem ok_LW_known_3 : zgood2 mi_LW_known cd_LW_known_3 := ⟨oc_LW_known_3, ow_LW_known_3⟩
def cd_LW_known_4 : List ZE := [(249, .aload_n 0, ([0], 0, 0, []), zi0), (250, .iload_n 2, ([2], 0, 0, []), zi0), (251, .bipush 6, ([], nI 6, 0, []), zi0), (253, .invokevirtual 122, ([2, 1, 79], 0, 0, []), mi_T_whole), (256, .aload_n 1, ([1], 0, 0, []), zi0), (257, .iload_n 2, ([2], 0, 0, []), zi0), (258, .iconst 2, ([], nI 2, 0, []), zi0), (259, .invokestatic 145, ([0, 2, 203], 0, 0, []), mi_LW_is), (262, .invokestatic 141, ([0, 2, 200], 0, 0, []), mi_LW_as), (265, .if_icmp .ne 67, ([332], 0, 0, []), zi0), (268, .aload_n 0, ([0], 0, 0, []), zi0), (269, .iload_n 2, ([2], 0, 0, []), zi0), (270, .bipush 7, ([], nI 7, 0, []), zi0), (272, .invokevirtual 122, ([2, 1, 79], 0, 0, []), mi_T_whole), (275, .aload_n 1, ([1], 0, 0, []), zi0), (276, .iload_n 2, ([2], 0, 0, []), zi0), (277, .iconst 3, ([], nI 3, 0, []), zi0), (278, .invokestatic 145, ([0, 2, 203], 0, 0, []), mi_LW_is), (281, .invokestatic 141, ([0, 2, 200], 0, 0, []), mi_LW_as), (284, .if_icmp .ne 48, ([332], 0, 0, []), zi0), (287, .aload_n 0, ([0], 0, 0, []), zi0), (288, .iload_n 2, ([2], 0, 0, []), zi0), (289, .bipush 8, ([], nI 8, 0, []), zi0), (291, .invokevirtual 122, ([2, 1, 79], 0, 0, []), mi_T_whole), (294, .iload 5, ([], 0, 0, []), zi0), (296, .if_icmp .ne 36, ([332], 0, 0, []), zi0)]
set_option maxRecDepth 100000 in
theorem oc_LW_known_4 : cd_LW_known_4.all (zchk mi_LW_known) = true := by decide +kernel
set_option maxRecDepth 100000 in
theorem ow_LW_known_4 : zWs mi_LW_known cd_LW_known_4 := ⟨trivial, trivial, trivial, ⟨rfl, rfl, mv_T_whole⟩, trivial, trivial, trivial, ⟨rfl, ms_LW_is⟩, ⟨rfl, ms_LW_as⟩, trivial, trivial, trivial, trivial, ⟨rfl, rfl, mv_T_whole⟩, trivial, trivial, trivial, ⟨rfl, ms_LW_is⟩, ⟨rfl, ms_LW_as⟩, trivial, trivial, trivial, trivial, ⟨rfl, rfl, mv_T_whole⟩, trivial, trivial, trivial⟩
theorem ok_LW_known_4 : zgood2 mi_LW_known cd_LW_known_4 := ⟨oc_LW_known_4, ow_LW_known_4⟩
def cd_LW_known_5 : List ZE := [(299, .aload_n 0, ([0], 0, 0, []), zi0), (300, .iload_n 2, ([2], 0, 0, []), zi0), (301, .bipush 13, ([], nI 13, 0, []), zi0), (303, .invokevirtual 122, ([2, 1, 79], 0, 0, []), mi_T_whole), (306, .iload 6, ([], 0, 0, []), zi0), (308, .if_icmp .ne 24, ([332], 0, 0, []), zi0), (311, .aload_n 0, ([0], 0, 0, []), zi0), (312, .iload_n 2, ([2], 0, 0, []), zi0), (313, .iload 7, ([], 0, 0, []), zi0), (315, .invokevirtual 131, ([2, 2, 36], 0, 0, []), mi_T_shut), (318, .aload_n 1, ([1], 0, 0, []), zi0), (319, .iload_n 2, ([2], 0, 0, []), zi0), (320, .iload 7, ([], 0, 0, []), zi0), (322, .invokestatic 139, ([0, 2, 197], 0, 0, []), mi_LW_shut), (325, .if_icmp .ne 7, ([332], 0, 0, []), zi0), (328, .iconst 1, ([], nI 1, 0, []), zi0), (329, .goto 4, ([333], 0, 0, []), zi0), (332, .iconst 0, ([], nI 0, 0, []), zi0), (333, .ireturn, ([], 0, 0, []), zi0)]
set_option maxRecDepth 100000 in
theorem oc_LW_known_5 : cd_LW_known_5.all (zchk mi_LW_known) = true := by decide +kernel
set_option maxRecDepth 100000 in
theorem ow_LW_known_5 : zWs mi_LW_known cd_LW_known_5 := ⟨trivial, trivial, trivial, ⟨rfl, rfl, mv_T_whole⟩, trivial, trivial, trivial, trivial, trivial, ⟨rfl, rfl, mv_T_shut⟩, trivial, trivial, trivial, ⟨rfl, ms_LW_shut⟩, trivial, trivial, trivial, trivial, trivial, trivial⟩
theorem ok_LW_known_5 : zgood2 mi_LW_known cd_LW_known_5 := ⟨oc_LW_known_5, ow_LW_known_5⟩
def cu_LW_same : List (Nat × List Nat) := [(35, [0, 1, 2, 3, 4, 5])]
def cd_LW_same : List ZE := [(0, .aload_n 1, ([1], 0, 0, []), zi0), (1, .iload_n 2, ([2], 0, 0, []), zi0), (2, .invokestatic 22, ([0, 2, 76], 0, 0, []), mi_LW_points), (5, .istore_n 3, ([3], 0, 0, []), zi0), (6, .aload_n 0, ([0], 0, 0, []), zi0), (7, .iload_n 2, ([2], 0, 0, []), zi0), (8, .iconst 0, ([], nI 0, 0, []), zi0), (9, .invokevirtual 122, ([2, 1, 79], 0, 0, []), mi_T_whole), (12, .iload_n 3, ([3], 0, 0, []), zi0), (13, .ifCond .ne 8, ([21], 0, 0, []), zi0), (16, .ldc 45, ([2, 86], (-1000001), 0, []), zi0), (18, .goto 4, ([22], 0, 0, []), zi0), (21, .iload_n 3, ([3], 0, 0, []), zi0), (22, .if_icmp .ne 7, ([29], 0, 0, []), zi0), (25, .iconst 1, ([], nI 1, 0, []), zi0), (26, .goto 4, ([30], 0, 0, []), zi0), (29, .iconst 0, ([], nI 0, 0, []), zi0), (30, .istore 4, ([], 0, 0, []), zi0), (32, .iconst 0, ([], nI 0, 0, []), zi0), (33, .istore 5, ([], 0, 0, []), zi0), (35, .iload 5, ([], 0, 0, []), zi0), (37, .iload_n 3, ([3], 0, 0, []), zi0), (38, .iload_n 3, ([3], 0, 0, []), zi0), (39, .imul, ([], 0, 0, []), zi0), (40, .if_icmp .ge 81, ([121], 0, 0, []), zi0), (43, .iload 4, ([], 0, 0, []), zi0), (45, .ifCond .eq 67, ([112], 0, 0, []), zi0), (48, .aload_n 0, ([0], 0, 0, []), zi0), (49, .iload_n 2, ([2], 0, 0, []), zi0), (50, .iload 5, ([], 0, 0, []), zi0), (52, .iload_n 3, ([3], 0, 0, []), zi0), (53, .idiv, ([], 0, 0, []), zi0), (54, .iload 5, ([], 0, 0, []), zi0), (56, .iload_n 3, ([3], 0, 0, []), zi0), (57, .irem, ([], 0, 0, []), zi0), (58, .iconst 0, ([], nI 0, 0, []), zi0), (59, .invokevirtual 125, ([2, 1, 73], 0, 0, []), mi_T_cell), (62, .aload_n 1, ([1], 0, 0, []), zi0), (63, .iload_n 2, ([2], 0, 0, []), zi0), (64, .iload 5, ([], 0, 0, []), zi0), (66, .iload_n 3, ([3], 0, 0, []), zi0), (67, .idiv, ([], 0, 0, []), zi0), (68, .iload 5, ([], 0, 0, []), zi0), (70, .iload_n 3, ([3], 0, 0, []), zi0), (71, .irem, ([], 0, 0, []), zi0), (72, .invokestatic 26, ([0, 2, 114], 0, 0, []), mi_LW_l), (75, .if_icmp .ne 37, ([112], 0, 0, []), zi0), (78, .aload_n 0, ([0], 0, 0, []), zi0), (79, .iload_n 2, ([2], 0, 0, []), zi0), (80, .iload 5, ([], 0, 0, []), zi0), (82, .iload_n 3, ([3], 0, 0, []), zi0), (83, .idiv, ([], 0, 0, []), zi0), (84, .iload 5, ([], 0, 0, []), zi0), (86, .iload_n 3, ([3], 0, 0, []), zi0), (87, .irem, ([], 0, 0, []), zi0), (88, .iconst 1, ([], nI 1, 0, []), zi0), (89, .invokevirtual 125, ([2, 1, 73], 0, 0, []), mi_T_cell), (92, .aload_n 1, ([1], 0, 0, []), zi0), (93, .iload_n 2, ([2], 0, 0, []), zi0), (94, .iload 5, ([], 0, 0, []), zi0), (96, .iload_n 3, ([3], 0, 0, []), zi0), (97, .idiv, ([], 0, 0, []), zi0), (98, .iload 5, ([], 0, 0, []), zi0), (100, .iload_n 3, ([3], 0, 0, []), zi0), (101, .irem, ([], 0, 0, []), zi0), (102, .invokestatic 30, ([0, 2, 117], 0, 0, []), mi_LW_r), (105, .if_icmp .ne 7, ([112], 0, 0, []), zi0), (108, .iconst 1, ([], nI 1, 0, []), zi0), (109, .goto 4, ([113], 0, 0, []), zi0), (112, .iconst 0, ([], nI 0, 0, []), zi0), (113, .istore 4, ([], 0, 0, []), zi0), (115, .iinc 5 1, ([], nI 1, 0, []), zi0), (118, .goto (-83), ([35], 0, 0, []), zi0), (121, .iload 4, ([], 0, 0, []), zi0), (123, .ireturn, ([], 0, 0, []), zi0)]
set_option maxRecDepth 100000 in
theorem oc_LW_same : cd_LW_same.all (zchk mi_LW_same) = true := by decide +kernel
set_option maxRecDepth 100000 in
theorem ow_LW_same : zWs mi_LW_same cd_LW_same := ⟨trivial, trivial, ⟨rfl, ms_LW_points⟩, trivial, trivial, trivial, trivial, ⟨rfl, rfl, mv_T_whole⟩, trivial, trivial, rfl, trivial, trivial, trivial, trivial, trivial, trivial, trivial, trivial, trivial, trivial, trivial, trivial, trivial, trivial, trivial, trivial, trivial, trivial, trivial, trivial, trivial, trivial, trivial, trivial, trivial, ⟨rfl, rfl, mv_T_cell⟩, trivial, trivial, trivial, trivial, trivial, trivial, trivial, trivial, ⟨rfl, ms_LW_l⟩, trivial, trivial, trivial, trivial, trivial, trivial, trivial, trivial, trivial, trivial, ⟨rfl, rfl, mv_T_cell⟩, trivial, trivial, trivial, trivial, trivial, trivial, trivial, trivial, ⟨rfl, ms_LW_r⟩, trivial, trivial, trivial, trivial, trivial, trivial, trivial, trivial, trivial, trivial⟩
theorem ok_LW_same : zgood2 mi_LW_same cd_LW_same := ⟨oc_LW_same, ow_LW_same⟩
end
section
theorem go_AC_classOf {G : ZG} {Z : Option ZV → ZM → Prop} {M : ZM} {a0 : Int32} (h : ∀ K : Nat → ZL → List ZV → ZM → Prop, (∀ pc l st M, V 0 G mi_AC_classOf Z pc l st M → K pc l st M) → zex G mi_AC_classOf Z cu_AC_classOf cd_AC_classOf 300 0 [(0, zr 8 0), (1, zi a0)] [] M K) : Ctr 0 G mi_AC_classOf [zr 8 0, zi a0] M Z := z_start ok_AC_classOf rfl rfl h
theorem go_AC_smallestOf {G : ZG} {Z : Option ZV → ZM → Prop} {M : ZM} {a0 : Int32} (h : ∀ K : Nat → ZL → List ZV → ZM → Prop, (∀ pc l st M, V 0 G mi_AC_smallestOf Z pc l st M → K pc l st M) → zex G mi_AC_smallestOf Z cu_AC_smallestOf cd_AC_smallestOf 300 0 [(0, zr 8 0), (1, zi a0)] [] M K) : Ctr 0 G mi_AC_smallestOf [zr 8 0, zi a0] M Z := z_start ok_AC_smallestOf rfl rfl h
theorem go_AL_isGroup {G : ZG} {Z : Option ZV → ZM → Prop} {M : ZM} {a0 : Int32} {a1 : Int32} (h : ∀ K : Nat → ZL → List ZV → ZM → Prop, (∀ pc l st M, V 0 G mi_AL_isGroup Z pc l st M → K pc l st M) → zex G mi_AL_isGroup Z cu_AL_isGroup cd_AL_isGroup 300 0 [(0, zi a0), (1, zi a1)] [] M K) : Ctr 0 G mi_AL_isGroup [zi a0, zi a1] M Z := z_start ok_AL_isGroup rfl rfl h
theorem go_AL_isUnit {G : ZG} {Z : Option ZV → ZM → Prop} {M : ZM} {a0 : Int32} {a1 : Int32} (h : ∀ K : Nat → ZL → List ZV → ZM → Prop, (∀ pc l st M, V 0 G mi_AL_isUnit Z pc l st M → K pc l st M) → zex G mi_AL_isUnit Z cu_AL_isUnit cd_AL_isUnit 300 0 [(0, zi a0), (1, zi a1)] [] M K) : Ctr 0 G mi_AL_isUnit [zi a0, zi a1] M Z := z_start ok_AL_isUnit rfl rfl h
theorem go_AL_product {G : ZG} {Z : Option ZV → ZM → Prop} {M : ZM} {a0 : Int32} {a1 : Int32} {a2 : Int32} {a3 : Int32} (h : ∀ K : Nat → ZL → List ZV → ZM → Prop, (∀ pc l st M, V 0 G mi_AL_product Z pc l st M → K pc l st M) → zex G mi_AL_product Z cu_AL_product cd_AL_product 300 0 [(0, zi a0), (1, zi a1), (2, zi a2), (3, zi a3)] [] M K) : Ctr 0 G mi_AL_product [zi a0, zi a1, zi a2, zi a3] M Z := z_start ok_AL_product rfl rfl h
theorem go_AL_rest {G : ZG} {Z : Option ZV → ZM → Prop} {M : ZM} {a0 : Int32} {a1 : Int32} (h : ∀ K : Nat → ZL → List ZV → ZM → Prop, (∀ pc l st M, V 0 G mi_AL_rest Z pc l st M → K pc l st M) → zex G mi_AL_rest Z cu_AL_rest cd_AL_rest 300 0 [(0, zi a0), (1, zi a1)] [] M K) : Ctr 0 G mi_AL_rest [zi a0, zi a1] M Z := z_start ok_AL_rest rfl rfl h
theorem go_BR_length {G : ZG} {Z : Option ZV → ZM → Prop} {M : ZM} {k : Nat} (h : ∀ K : Nat → ZL → List ZV → ZM → Prop, (∀ pc l st M, V 0 G mi_BR_length Z pc l st M → K pc l st M) → zex G mi_BR_length Z cu_BR_length cd_BR_length 300 0 [(0, zr 2 k)] [] M K) : Ctr 0 G mi_BR_length [zr 2 k] M Z := z_start ok_BR_length rfl rfl h
theorem go_CH_joined {G : ZG} {Z : Option ZV → ZM → Prop} {M : ZM} {a0 : Int32} {a1 : Int32} {a2 : Int32} (h : ∀ K : Nat → ZL → List ZV → ZM → Prop, (∀ pc l st M, V 0 G mi_CH_joined Z pc l st M → K pc l st M) → zex G mi_CH_joined Z cu_CH_joined cd_CH_joined 300 0 [(0, zi a0), (1, zi a1), (2, zi a2)] [] M K) : Ctr 0 G mi_CH_joined [zi a0, zi a1, zi a2] M Z := z_start ok_CH_joined rfl rfl h
theorem go_CO_commonMultiple {G : ZG} {Z : Option ZV → ZM → Prop} {M : ZM} {a0 : Int32} {a1 : Int32} (h : ∀ K : Nat → ZL → List ZV → ZM → Prop, (∀ pc l st M, V 0 G mi_CO_commonMultiple Z pc l st M → K pc l st M) → zex G mi_CO_commonMultiple Z cu_CO_commonMultiple cd_CO_commonMultiple 300 0 [(0, zi a0), (1, zi a1)] [] M K) : Ctr 0 G mi_CO_commonMultiple [zi a0, zi a1] M Z := z_start ok_CO_commonMultiple rfl rfl h
theorem go_CO_digit {G : ZG} {Z : Option ZV → ZM → Prop} {M : ZM} {a0 : Int32} {a1 : Int32} (h : ∀ K : Nat → ZL → List ZV → ZM → Prop, (∀ pc l st M, V 0 G mi_CO_digit Z pc l st M → K pc l st M) → zex G mi_CO_digit Z cu_CO_digit cd_CO_digit 300 0 [(0, zi a0), (1, zi a1)] [] M K) : Ctr 0 G mi_CO_digit [zi a0, zi a1] M Z := z_start ok_CO_digit rfl rfl h
theorem go_CO_pairOf {G : ZG} {Z : Option ZV → ZM → Prop} {M : ZM} {a0 : Int32} {a1 : Int32} (h : ∀ K : Nat → ZL → List ZV → ZM → Prop, (∀ pc l st M, V 0 G mi_CO_pairOf Z pc l st M → K pc l st M) → zex G mi_CO_pairOf Z cu_CO_pairOf cd_CO_pairOf 300 0 [(0, zi a0), (1, zi a1)] [] M K) : Ctr 0 G mi_CO_pairOf [zi a0, zi a1] M Z := z_start ok_CO_pairOf rfl rfl h
theorem go_JA_fill {G : ZG} {Z : Option ZV → ZM → Prop} {M : ZM} {a0 ba0 : Nat} {a1 : Int64} (h : ∀ K : Nat → ZL → List ZV → ZM → Prop, (∀ pc l st M, V 0 G mi_JA_fill Z pc l st M → K pc l st M) → zex G mi_JA_fill Z cu_JA_fill cd_JA_fill 300 0 [(0, zr a0 ba0), (1, zl a1)] [] M K) : Ctr 0 G mi_JA_fill [zr a0 ba0, zl a1] M Z := z_start ok_JA_fill rfl rfl h
theorem go_JL_bitCount {G : ZG} {Z : Option ZV → ZM → Prop} {M : ZM} {a0 : Int64} (h : ∀ K : Nat → ZL → List ZV → ZM → Prop, (∀ pc l st M, V 0 G mi_JL_bitCount Z pc l st M → K pc l st M) → zex G mi_JL_bitCount Z cu_JL_bitCount cd_JL_bitCount 300 0 [(0, zl a0)] [] M K) : Ctr 0 G mi_JL_bitCount [zl a0] M Z := z_start ok_JL_bitCount rfl rfl h
theorem go_PM_copy {G : ZG} {Z : Option ZV → ZM → Prop} {M : ZM} {k : Nat} {a0 : Nat} (h : ∀ K : Nat → ZL → List ZV → ZM → Prop, (∀ pc l st M, V 0 G mi_PM_copy Z pc l st M → K pc l st M) → zex G mi_PM_copy Z cu_PM_copy cd_PM_copy 300 0 [(0, zr 0 k), (1, zr 0 a0)] [] M K) : Ctr 0 G mi_PM_copy [zr 0 k, zr 0 a0] M Z := z_start ok_PM_copy rfl rfl h
theorem go_PM_hasPoint {G : ZG} {Z : Option ZV → ZM → Prop} {M : ZM} {k : Nat} {a0 : Int32} (h : ∀ K : Nat → ZL → List ZV → ZM → Prop, (∀ pc l st M, V 0 G mi_PM_hasPoint Z pc l st M → K pc l st M) → zex G mi_PM_hasPoint Z cu_PM_hasPoint cd_PM_hasPoint 300 0 [(0, zr 0 k), (1, zi a0)] [] M K) : Ctr 0 G mi_PM_hasPoint [zr 0 k, zi a0] M Z := z_start ok_PM_hasPoint rfl rfl h
theorem go_PM_imageOf {G : ZG} {Z : Option ZV → ZM → Prop} {M : ZM} {k : Nat} {a0 : Int32} (h : ∀ K : Nat → ZL → List ZV → ZM → Prop, (∀ pc l st M, V 0 G mi_PM_imageOf Z pc l st M → K pc l st M) → zex G mi_PM_imageOf Z cu_PM_imageOf cd_PM_imageOf 300 0 [(0, zr 0 k), (1, zi a0)] [] M K) : Ctr 0 G mi_PM_imageOf [zr 0 k, zi a0] M Z := z_start ok_PM_imageOf rfl rfl h
theorem go_PM_isEmpty {G : ZG} {Z : Option ZV → ZM → Prop} {M : ZM} {k : Nat} (h : ∀ K : Nat → ZL → List ZV → ZM → Prop, (∀ pc l st M, V 0 G mi_PM_isEmpty Z pc l st M → K pc l st M) → zex G mi_PM_isEmpty Z cu_PM_isEmpty cd_PM_isEmpty 300 0 [(0, zr 0 k)] [] M K) : Ctr 0 G mi_PM_isEmpty [zr 0 k] M Z := z_start ok_PM_isEmpty rfl rfl h
theorem go_PM_points {G : ZG} {Z : Option ZV → ZM → Prop} {M : ZM} {k : Nat} (h : ∀ K : Nat → ZL → List ZV → ZM → Prop, (∀ pc l st M, V 0 G mi_PM_points Z pc l st M → K pc l st M) → zex G mi_PM_points Z cu_PM_points cd_PM_points 300 0 [(0, zr 0 k)] [] M K) : Ctr 0 G mi_PM_points [zr 0 k] M Z := z_start ok_PM_points rfl rfl h
theorem go_PM_resize {G : ZG} {Z : Option ZV → ZM → Prop} {M : ZM} {k : Nat} {a0 : Int32} (h : ∀ K : Nat → ZL → List ZV → ZM → Prop, (∀ pc l st M, V 0 G mi_PM_resize Z pc l st M → K pc l st M) → zex G mi_PM_resize Z cu_PM_resize cd_PM_resize 300 0 [(0, zr 0 k), (1, zi a0)] [] M K) : Ctr 0 G mi_PM_resize [zr 0 k, zi a0] M Z := z_start ok_PM_resize rfl rfl h
theorem go_RG_add {G : ZG} {Z : Option ZV → ZM → Prop} {M : ZM} {a0 : Int32} (h : ∀ K : Nat → ZL → List ZV → ZM → Prop, (∀ pc l st M, V 0 G mi_RG_add Z pc l st M → K pc l st M) → zex G mi_RG_add Z cu_RG_add cd_RG_add 300 0 [(0, zr 13 0), (1, zi a0)] [] M K) : Ctr 0 G mi_RG_add [zr 13 0, zi a0] M Z := z_start ok_RG_add rfl rfl h
theorem go_RN_imageOf {G : ZG} {Z : Option ZV → ZM → Prop} {M : ZM} {a0 : Int32} (h : ∀ K : Nat → ZL → List ZV → ZM → Prop, (∀ pc l st M, V 0 G mi_RN_imageOf Z pc l st M → K pc l st M) → zex G mi_RN_imageOf Z cu_RN_imageOf cd_RN_imageOf 300 0 [(0, zr 11 0), (1, zi a0)] [] M K) : Ctr 0 G mi_RN_imageOf [zr 11 0, zi a0] M Z := z_start ok_RN_imageOf rfl rfl h
theorem go_RN_permutations {G : ZG} {Z : Option ZV → ZM → Prop} {M : ZM} {a0 : Int32} (h : ∀ K : Nat → ZL → List ZV → ZM → Prop, (∀ pc l st M, V 0 G mi_RN_permutations Z pc l st M → K pc l st M) → zex G mi_RN_permutations Z cu_RN_permutations cd_RN_permutations 300 0 [(0, zi a0)] [] M K) : Ctr 0 G mi_RN_permutations [zi a0] M Z := z_start ok_RN_permutations rfl rfl h
theorem go_RN_start {G : ZG} {Z : Option ZV → ZM → Prop} {M : ZM}  (h : ∀ K : Nat → ZL → List ZV → ZM → Prop, (∀ pc l st M, V 0 G mi_RN_start Z pc l st M → K pc l st M) → zex G mi_RN_start Z cu_RN_start cd_RN_start 300 0 [(0, zr 11 0)] [] M K) : Ctr 0 G mi_RN_start [zr 11 0] M Z := z_start ok_RN_start rfl rfl h
theorem go_SL_hasPoints {G : ZG} {Z : Option ZV → ZM → Prop} {M : ZM} {a0 : Int32} (h : ∀ K : Nat → ZL → List ZV → ZM → Prop, (∀ pc l st M, V 0 G mi_SL_hasPoints Z pc l st M → K pc l st M) → zex G mi_SL_hasPoints Z cu_SL_hasPoints cd_SL_hasPoints 300 0 [(0, zi a0)] [] M K) : Ctr 0 G mi_SL_hasPoints [zi a0] M Z := z_start ok_SL_hasPoints rfl rfl h
theorem go_SL_shiftOf {G : ZG} {Z : Option ZV → ZM → Prop} {M : ZM} {a0 : Int32} {a1 : Int32} (h : ∀ K : Nat → ZL → List ZV → ZM → Prop, (∀ pc l st M, V 0 G mi_SL_shiftOf Z pc l st M → K pc l st M) → zex G mi_SL_shiftOf Z cu_SL_shiftOf cd_SL_shiftOf 300 0 [(0, zi a0), (1, zi a1)] [] M K) : Ctr 0 G mi_SL_shiftOf [zi a0, zi a1] M Z := z_start ok_SL_shiftOf rfl rfl h
theorem go_SL_start {G : ZG} {Z : Option ZV → ZM → Prop} {M : ZM} {a0 : Int32} (h : ∀ K : Nat → ZL → List ZV → ZM → Prop, (∀ pc l st M, V 0 G mi_SL_start Z pc l st M → K pc l st M) → zex G mi_SL_start Z cu_SL_start cd_SL_start 300 0 [(0, zi a0)] [] M K) : Ctr 0 G mi_SL_start [zi a0] M Z := z_start ok_SL_start rfl rfl h
theorem go_T_isWithin {G : ZG} {Z : Option ZV → ZM → Prop} {M : ZM} {a0 : Int32} {a1 : Int32} {a2 : Int32} (h : ∀ K : Nat → ZL → List ZV → ZM → Prop, (∀ pc l st M, V 0 G mi_T_isWithin Z pc l st M → K pc l st M) → zex G mi_T_isWithin Z cu_T_isWithin cd_T_isWithin 300 0 [(0, zi a0), (1, zi a1), (2, zi a2)] [] M K) : Ctr 0 G mi_T_isWithin [zi a0, zi a1, zi a2] M Z := z_start ok_T_isWithin rfl rfl h
theorem go_T_oneIf {G : ZG} {Z : Option ZV → ZM → Prop} {M : ZM} {a0 : Int32} (h : ∀ K : Nat → ZL → List ZV → ZM → Prop, (∀ pc l st M, V 0 G mi_T_oneIf Z pc l st M → K pc l st M) → zex G mi_T_oneIf Z cu_T_oneIf cd_T_oneIf 300 0 [(0, zi a0)] [] M K) : Ctr 0 G mi_T_oneIf [zi a0] M Z := z_start ok_T_oneIf rfl rfl h
theorem go_AL_inverse {G : ZG} {Z : Option ZV → ZM → Prop} {M : ZM} {a0 : Int32} {a1 : Int32} {a2 : Int32} (h : ∀ K : Nat → ZL → List ZV → ZM → Prop, (∀ pc l st M, V 0 G mi_AL_inverse Z pc l st M → K pc l st M) → zex G mi_AL_inverse Z cu_AL_inverse cd_AL_inverse 300 0 [(0, zi a0), (1, zi a1), (2, zi a2)] [] M K) : Ctr 0 G mi_AL_inverse [zi a0, zi a1, zi a2] M Z := z_start ok_AL_inverse rfl rfl h
theorem go_AL_isBrace {G : ZG} {Z : Option ZV → ZM → Prop} {M : ZM} {a0 : Int32} {a1 : Int32} (h : ∀ K : Nat → ZL → List ZV → ZM → Prop, (∀ pc l st M, V 0 G mi_AL_isBrace Z pc l st M → K pc l st M) → zex G mi_AL_isBrace Z cu_AL_isBrace cd_AL_isBrace 300 0 [(0, zi a0), (1, zi a1)] [] M K) : Ctr 0 G mi_AL_isBrace [zi a0, zi a1] M Z := z_start ok_AL_isBrace rfl rfl h
theorem go_AL_quotient {G : ZG} {Z : Option ZV → ZM → Prop} {M : ZM} {a0 : Int32} {a1 : Int32} {a2 : Int32} (h : ∀ K : Nat → ZL → List ZV → ZM → Prop, (∀ pc l st M, V 0 G mi_AL_quotient Z pc l st M → K pc l st M) → zex G mi_AL_quotient Z cu_AL_quotient cd_AL_quotient 300 0 [(0, zi a0), (1, zi a1), (2, zi a2)] [] M K) : Ctr 0 G mi_AL_quotient [zi a0, zi a1, zi a2] M Z := z_start ok_AL_quotient rfl rfl h
theorem go_CH_cycleLength {G : ZG} {Z : Option ZV → ZM → Prop} {M : ZM} {a0 : Nat} {a1 : Int32} (h : ∀ K : Nat → ZL → List ZV → ZM → Prop, (∀ pc l st M, V 0 G mi_CH_cycleLength Z pc l st M → K pc l st M) → zex G mi_CH_cycleLength Z cu_CH_cycleLength cd_CH_cycleLength 300 0 [(0, zr 0 a0), (1, zi a1)] [] M K) : Ctr 0 G mi_CH_cycleLength [zr 0 a0, zi a1] M Z := z_start ok_CH_cycleLength rfl rfl h
theorem go_CH_isBijective {G : ZG} {Z : Option ZV → ZM → Prop} {M : ZM} {a0 : Nat} (h : ∀ K : Nat → ZL → List ZV → ZM → Prop, (∀ pc l st M, V 0 G mi_CH_isBijective Z pc l st M → K pc l st M) → zex G mi_CH_isBijective Z cu_CH_isBijective cd_CH_isBijective 300 0 [(0, zr 0 a0)] [] M K) : Ctr 0 G mi_CH_isBijective [zr 0 a0] M Z := z_start ok_CH_isBijective rfl rfl h
theorem go_CH_isInvolutive {G : ZG} {Z : Option ZV → ZM → Prop} {M : ZM} {a0 : Nat} (h : ∀ K : Nat → ZL → List ZV → ZM → Prop, (∀ pc l st M, V 0 G mi_CH_isInvolutive Z pc l st M → K pc l st M) → zex G mi_CH_isInvolutive Z cu_CH_isInvolutive cd_CH_isInvolutive 300 0 [(0, zr 0 a0)] [] M K) : Ctr 0 G mi_CH_isInvolutive [zr 0 a0] M Z := z_start ok_CH_isInvolutive rfl rfl h
theorem go_CH_isSquareFree {G : ZG} {Z : Option ZV → ZM → Prop} {M : ZM} {a0 : Nat} (h : ∀ K : Nat → ZL → List ZV → ZM → Prop, (∀ pc l st M, V 0 G mi_CH_isSquareFree Z pc l st M → K pc l st M) → zex G mi_CH_isSquareFree Z cu_CH_isSquareFree cd_CH_isSquareFree 300 0 [(0, zr 0 a0)] [] M K) : Ctr 0 G mi_CH_isSquareFree [zr 0 a0] M Z := z_start ok_CH_isSquareFree rfl rfl h
theorem go_CO_isCode {G : ZG} {Z : Option ZV → ZM → Prop} {M : ZM} {a0 : Int32} {a1 : Int32} {a2 : Int32} (h : ∀ K : Nat → ZL → List ZV → ZM → Prop, (∀ pc l st M, V 0 G mi_CO_isCode Z pc l st M → K pc l st M) → zex G mi_CO_isCode Z cu_CO_isCode cd_CO_isCode 300 0 [(0, zi a0), (1, zi a1), (2, zi a2)] [] M K) : Ctr 0 G mi_CO_isCode [zi a0, zi a1, zi a2] M Z := z_start ok_CO_isCode rfl rfl h
theorem go_CO_next {G : ZG} {Z : Option ZV → ZM → Prop} {M : ZM} {a0 : Int32} {a1 : Int32} {a2 : Int32} (h : ∀ K : Nat → ZL → List ZV → ZM → Prop, (∀ pc l st M, V 0 G mi_CO_next Z pc l st M → K pc l st M) → zex G mi_CO_next Z cu_CO_next cd_CO_next 300 0 [(0, zi a0), (1, zi a1), (2, zi a2)] [] M K) : Ctr 0 G mi_CO_next [zi a0, zi a1, zi a2] M Z := z_start ok_CO_next rfl rfl h
theorem go_CO_turned {G : ZG} {Z : Option ZV → ZM → Prop} {M : ZM} {a0 : Int32} {a1 : Int32} (h : ∀ K : Nat → ZL → List ZV → ZM → Prop, (∀ pc l st M, V 0 G mi_CO_turned Z pc l st M → K pc l st M) → zex G mi_CO_turned Z cu_CO_turned cd_CO_turned 300 0 [(0, zi a0), (1, zi a1)] [] M K) : Ctr 0 G mi_CO_turned [zi a0, zi a1] M Z := z_start ok_CO_turned rfl rfl h
theorem go_PM_appliedAt {G : ZG} {Z : Option ZV → ZM → Prop} {M : ZM} {k : Nat} {a0 : Int32} {a1 : Int32} (h : ∀ K : Nat → ZL → List ZV → ZM → Prop, (∀ pc l st M, V 0 G mi_PM_appliedAt Z pc l st M → K pc l st M) → zex G mi_PM_appliedAt Z cu_PM_appliedAt cd_PM_appliedAt 300 0 [(0, zr 0 k), (1, zi a0), (2, zi a1)] [] M K) : Ctr 0 G mi_PM_appliedAt [zr 0 k, zi a0, zi a1] M Z := z_start ok_PM_appliedAt rfl rfl h
theorem go_PM_left {G : ZG} {Z : Option ZV → ZM → Prop} {M : ZM} {k : Nat} {a0 : Int32} {a1 : Int32} (h : ∀ K : Nat → ZL → List ZV → ZM → Prop, (∀ pc l st M, V 0 G mi_PM_left Z pc l st M → K pc l st M) → zex G mi_PM_left Z cu_PM_left cd_PM_left 300 0 [(0, zr 0 k), (1, zi a0), (2, zi a1)] [] M K) : Ctr 0 G mi_PM_left [zr 0 k, zi a0, zi a1] M Z := z_start ok_PM_left rfl rfl h
theorem go_PM_right {G : ZG} {Z : Option ZV → ZM → Prop} {M : ZM} {k : Nat} {a0 : Int32} {a1 : Int32} (h : ∀ K : Nat → ZL → List ZV → ZM → Prop, (∀ pc l st M, V 0 G mi_PM_right Z pc l st M → K pc l st M) → zex G mi_PM_right Z cu_PM_right cd_PM_right 300 0 [(0, zr 0 k), (1, zi a0), (2, zi a1)] [] M K) : Ctr 0 G mi_PM_right [zr 0 k, zi a0, zi a1] M Z := z_start ok_PM_right rfl rfl h
theorem go_PM_setImage {G : ZG} {Z : Option ZV → ZM → Prop} {M : ZM} {k : Nat} {a0 : Int32} {a1 : Int32} {a2 : Int32} {a3 : Int32} (h : ∀ K : Nat → ZL → List ZV → ZM → Prop, (∀ pc l st M, V 0 G mi_PM_setImage Z pc l st M → K pc l st M) → zex G mi_PM_setImage Z cu_PM_setImage cd_PM_setImage 300 0 [(0, zr 0 k), (1, zi a0), (2, zi a1), (3, zi a2), (4, zi a3)] [] M K) : Ctr 0 G mi_PM_setImage [zr 0 k, zi a0, zi a1, zi a2, zi a3] M Z := z_start ok_PM_setImage rfl rfl h
theorem go_RN_isIsomorphism {G : ZG} {Z : Option ZV → ZM → Prop} {M : ZM} {a0 : Nat} {a1 : Nat} (h : ∀ K : Nat → ZL → List ZV → ZM → Prop, (∀ pc l st M, V 0 G mi_RN_isIsomorphism Z pc l st M → K pc l st M) → zex G mi_RN_isIsomorphism Z cu_RN_isIsomorphism cd_RN_isIsomorphism 300 0 [(0, zr 11 0), (1, zr 0 a0), (2, zr 0 a1)] [] M K) : Ctr 0 G mi_RN_isIsomorphism [zr 11 0, zr 0 a0, zr 0 a1] M Z := z_start ok_RN_isIsomorphism rfl rfl h
theorem go_RN_swap {G : ZG} {Z : Option ZV → ZM → Prop} {M : ZM} {a0 : Int32} {a1 : Int32} (h : ∀ K : Nat → ZL → List ZV → ZM → Prop, (∀ pc l st M, V 0 G mi_RN_swap Z pc l st M → K pc l st M) → zex G mi_RN_swap Z cu_RN_swap cd_RN_swap 300 0 [(0, zr 11 0), (1, zi a0), (2, zi a1)] [] M K) : Ctr 0 G mi_RN_swap [zr 11 0, zi a0, zi a1] M Z := z_start ok_RN_swap rfl rfl h
theorem go_SL_rowsAt {G : ZG} {Z : Option ZV → ZM → Prop} {M : ZM} {a0 : Int32} {a1 : Int32} (h : ∀ K : Nat → ZL → List ZV → ZM → Prop, (∀ pc l st M, V 0 G mi_SL_rowsAt Z pc l st M → K pc l st M) → zex G mi_SL_rowsAt Z cu_SL_rowsAt cd_SL_rowsAt 300 0 [(0, zi a0), (1, zi a1)] [] M K) : Ctr 0 G mi_SL_rowsAt [zi a0, zi a1] M Z := z_start ok_SL_rowsAt rfl rfl h
theorem go_SL_size {G : ZG} {Z : Option ZV → ZM → Prop} {M : ZM} {a0 : Int32} (h : ∀ K : Nat → ZL → List ZV → ZM → Prop, (∀ pc l st M, V 0 G mi_SL_size Z pc l st M → K pc l st M) → zex G mi_SL_size Z cu_SL_size cd_SL_size 300 0 [(0, zi a0)] [] M K) : Ctr 0 G mi_SL_size [zi a0] M Z := z_start ok_SL_size rfl rfl h
theorem go_T_isBraid {G : ZG} {Z : Option ZV → ZM → Prop} {M : ZM} {a0 : Int32} (h : ∀ K : Nat → ZL → List ZV → ZM → Prop, (∀ pc l st M, V 0 G mi_T_isBraid Z pc l st M → K pc l st M) → zex G mi_T_isBraid Z cu_T_isBraid cd_T_isBraid 300 0 [(0, zi a0)] [] M K) : Ctr 0 G mi_T_isBraid [zi a0] M Z := z_start ok_T_isBraid rfl rfl h
theorem go_T_isPlace {G : ZG} {Z : Option ZV → ZM → Prop} {M : ZM} {a0 : Int32} (h : ∀ K : Nat → ZL → List ZV → ZM → Prop, (∀ pc l st M, V 0 G mi_T_isPlace Z pc l st M → K pc l st M) → zex G mi_T_isPlace Z cu_T_isPlace cd_T_isPlace 300 0 [(0, zi a0)] [] M K) : Ctr 0 G mi_T_isPlace [zi a0] M Z := z_start ok_T_isPlace rfl rfl h
theorem go_AC_areTwins {G : ZG} {Z : Option ZV → ZM → Prop} {M : ZM} {a0 : Nat} {a1 : Int32} {a2 : Int32} (h : ∀ K : Nat → ZL → List ZV → ZM → Prop, (∀ pc l st M, V 0 G mi_AC_areTwins Z pc l st M → K pc l st M) → zex G mi_AC_areTwins Z cu_AC_areTwins cd_AC_areTwins 300 0 [(0, zr 0 a0), (1, zi a1), (2, zi a2)] [] M K) : Ctr 0 G mi_AC_areTwins [zr 0 a0, zi a1, zi a2] M Z := z_start ok_AC_areTwins rfl rfl h
theorem go_AC_makeRetraction {G : ZG} {Z : Option ZV → ZM → Prop} {M : ZM} {a0 : Nat} {a1 : Nat} (h : ∀ K : Nat → ZL → List ZV → ZM → Prop, (∀ pc l st M, V 0 G mi_AC_makeRetraction Z pc l st M → K pc l st M) → zex G mi_AC_makeRetraction Z cu_AC_makeRetraction cd_AC_makeRetraction 300 0 [(0, zr 8 0), (1, zr 0 a0), (2, zr 0 a1)] [] M K) : Ctr 0 G mi_AC_makeRetraction [zr 8 0, zr 0 a0, zr 0 a1] M Z := z_start ok_AC_makeRetraction rfl rfl h
theorem go_AL_areUnits {G : ZG} {Z : Option ZV → ZM → Prop} {M : ZM} {a0 : Int32} {a1 : Int32} (h : ∀ K : Nat → ZL → List ZV → ZM → Prop, (∀ pc l st M, V 0 G mi_AL_areUnits Z pc l st M → K pc l st M) → zex G mi_AL_areUnits Z cu_AL_areUnits cd_AL_areUnits 300 0 [(0, zi a0), (1, zi a1)] [] M K) : Ctr 0 G mi_AL_areUnits [zi a0, zi a1] M Z := z_start ok_AL_areUnits rfl rfl h
theorem go_AL_makeBraceMap {G : ZG} {Z : Option ZV → ZM → Prop} {M : ZM} {a0 : Nat} {a1 : Int32} {a2 : Int32} (h : ∀ K : Nat → ZL → List ZV → ZM → Prop, (∀ pc l st M, V 0 G mi_AL_makeBraceMap Z pc l st M → K pc l st M) → zex G mi_AL_makeBraceMap Z cu_AL_makeBraceMap cd_AL_makeBraceMap 300 0 [(0, zr 0 a0), (1, zi a1), (2, zi a2)] [] M K) : Ctr 0 G mi_AL_makeBraceMap [zr 0 a0, zi a1, zi a2] M Z := z_start ok_AL_makeBraceMap rfl rfl h
theorem go_AL_makeGroupMap {G : ZG} {Z : Option ZV → ZM → Prop} {M : ZM} {a0 : Nat} {a1 : Int32} {a2 : Int32} (h : ∀ K : Nat → ZL → List ZV → ZM → Prop, (∀ pc l st M, V 0 G mi_AL_makeGroupMap Z pc l st M → K pc l st M) → zex G mi_AL_makeGroupMap Z cu_AL_makeGroupMap cd_AL_makeGroupMap 300 0 [(0, zr 0 a0), (1, zi a1), (2, zi a2)] [] M K) : Ctr 0 G mi_AL_makeGroupMap [zr 0 a0, zi a1, zi a2] M Z := z_start ok_AL_makeGroupMap rfl rfl h
theorem go_CH_isBroken {G : ZG} {Z : Option ZV → ZM → Prop} {M : ZM} {a0 : Nat} {a1 : Int32} (h : ∀ K : Nat → ZL → List ZV → ZM → Prop, (∀ pc l st M, V 0 G mi_CH_isBroken Z pc l st M → K pc l st M) → zex G mi_CH_isBroken Z cu_CH_isBroken cd_CH_isBroken 300 0 [(0, zr 0 a0), (1, zi a1)] [] M K) : Ctr 0 G mi_CH_isBroken [zr 0 a0, zi a1] M Z := z_start ok_CH_isBroken rfl rfl h
theorem go_CH_isLeftNondegenerate {G : ZG} {Z : Option ZV → ZM → Prop} {M : ZM} {a0 : Nat} (h : ∀ K : Nat → ZL → List ZV → ZM → Prop, (∀ pc l st M, V 0 G mi_CH_isLeftNondegenerate Z pc l st M → K pc l st M) → zex G mi_CH_isLeftNondegenerate Z cu_CH_isLeftNondegenerate cd_CH_isLeftNondegenerate 300 0 [(0, zr 0 a0)] [] M K) : Ctr 0 G mi_CH_isLeftNondegenerate [zr 0 a0] M Z := z_start ok_CH_isLeftNondegenerate rfl rfl h
theorem go_CH_isRightNondegenerate {G : ZG} {Z : Option ZV → ZM → Prop} {M : ZM} {a0 : Nat} (h : ∀ K : Nat → ZL → List ZV → ZM → Prop, (∀ pc l st M, V 0 G mi_CH_isRightNondegenerate Z pc l st M → K pc l st M) → zex G mi_CH_isRightNondegenerate Z cu_CH_isRightNondegenerate cd_CH_isRightNondegenerate 300 0 [(0, zr 0 a0)] [] M K) : Ctr 0 G mi_CH_isRightNondegenerate [zr 0 a0] M Z := z_start ok_CH_isRightNondegenerate rfl rfl h
theorem go_CH_periodOf {G : ZG} {Z : Option ZV → ZM → Prop} {M : ZM} {a0 : Nat} (h : ∀ K : Nat → ZL → List ZV → ZM → Prop, (∀ pc l st M, V 0 G mi_CH_periodOf Z pc l st M → K pc l st M) → zex G mi_CH_periodOf Z cu_CH_periodOf cd_CH_periodOf 300 0 [(0, zr 0 a0)] [] M K) : Ctr 0 G mi_CH_periodOf [zr 0 a0] M Z := z_start ok_CH_periodOf rfl rfl h
theorem go_CH_withImages {G : ZG} {Z : Option ZV → ZM → Prop} {M : ZM} {a0 : Nat} {a1 : Int32} (h : ∀ K : Nat → ZL → List ZV → ZM → Prop, (∀ pc l st M, V 0 G mi_CH_withImages Z pc l st M → K pc l st M) → zex G mi_CH_withImages Z cu_CH_withImages cd_CH_withImages 300 0 [(0, zr 0 a0), (1, zi a1)] [] M K) : Ctr 0 G mi_CH_withImages [zr 0 a0, zi a1] M Z := z_start ok_CH_withImages rfl rfl h
theorem go_CH_withLinked {G : ZG} {Z : Option ZV → ZM → Prop} {M : ZM} {a0 : Nat} {a1 : Int32} (h : ∀ K : Nat → ZL → List ZV → ZM → Prop, (∀ pc l st M, V 0 G mi_CH_withLinked Z pc l st M → K pc l st M) → zex G mi_CH_withLinked Z cu_CH_withLinked cd_CH_withLinked 300 0 [(0, zr 0 a0), (1, zi a1)] [] M K) : Ctr 0 G mi_CH_withLinked [zr 0 a0, zi a1] M Z := z_start ok_CH_withLinked rfl rfl h
theorem go_CO_isPermutation {G : ZG} {Z : Option ZV → ZM → Prop} {M : ZM} {a0 : Int32} {a1 : Int32} (h : ∀ K : Nat → ZL → List ZV → ZM → Prop, (∀ pc l st M, V 0 G mi_CO_isPermutation Z pc l st M → K pc l st M) → zex G mi_CO_isPermutation Z cu_CO_isPermutation cd_CO_isPermutation 300 0 [(0, zi a0), (1, zi a1)] [] M K) : Ctr 0 G mi_CO_isPermutation [zi a0, zi a1] M Z := z_start ok_CO_isPermutation rfl rfl h
theorem go_PM_becomeInverse {G : ZG} {Z : Option ZV → ZM → Prop} {M : ZM} {k : Nat} {a0 : Nat} (h : ∀ K : Nat → ZL → List ZV → ZM → Prop, (∀ pc l st M, V 0 G mi_PM_becomeInverse Z pc l st M → K pc l st M) → zex G mi_PM_becomeInverse Z cu_PM_becomeInverse cd_PM_becomeInverse 300 0 [(0, zr 0 k), (1, zr 0 a0)] [] M K) : Ctr 0 G mi_PM_becomeInverse [zr 0 k, zr 0 a0] M Z := z_start ok_PM_becomeInverse rfl rfl h
theorem go_PM_becomeMirror {G : ZG} {Z : Option ZV → ZM → Prop} {M : ZM} {k : Nat} {a0 : Nat} (h : ∀ K : Nat → ZL → List ZV → ZM → Prop, (∀ pc l st M, V 0 G mi_PM_becomeMirror Z pc l st M → K pc l st M) → zex G mi_PM_becomeMirror Z cu_PM_becomeMirror cd_PM_becomeMirror 300 0 [(0, zr 0 k), (1, zr 0 a0)] [] M K) : Ctr 0 G mi_PM_becomeMirror [zr 0 k, zr 0 a0] M Z := z_start ok_PM_becomeMirror rfl rfl h
theorem go_PM_becomeRenamed {G : ZG} {Z : Option ZV → ZM → Prop} {M : ZM} {k : Nat} {a0 : Nat} {a1 : Int32} (h : ∀ K : Nat → ZL → List ZV → ZM → Prop, (∀ pc l st M, V 0 G mi_PM_becomeRenamed Z pc l st M → K pc l st M) → zex G mi_PM_becomeRenamed Z cu_PM_becomeRenamed cd_PM_becomeRenamed 300 0 [(0, zr 0 k), (1, zr 0 a0), (2, zi a1)] [] M K) : Ctr 0 G mi_PM_becomeRenamed [zr 0 k, zr 0 a0, zi a1] M Z := z_start ok_PM_becomeRenamed rfl rfl h
theorem go_PM_becomeTwist {G : ZG} {Z : Option ZV → ZM → Prop} {M : ZM} {k : Nat} {a0 : Int32} {a1 : Int32} {a2 : Int32} (h : ∀ K : Nat → ZL → List ZV → ZM → Prop, (∀ pc l st M, V 0 G mi_PM_becomeTwist Z pc l st M → K pc l st M) → zex G mi_PM_becomeTwist Z cu_PM_becomeTwist cd_PM_becomeTwist 300 0 [(0, zr 0 k), (1, zi a0), (2, zi a1), (3, zi a2)] [] M K) : Ctr 0 G mi_PM_becomeTwist [zr 0 k, zi a0, zi a1, zi a2] M Z := z_start ok_PM_becomeTwist rfl rfl h
theorem go_PM_setBlock {G : ZG} {Z : Option ZV → ZM → Prop} {M : ZM} {k : Nat} {a0 : Nat} {a1 : Nat} {a2 : Int32} {a3 : Int32} (h : ∀ K : Nat → ZL → List ZV → ZM → Prop, (∀ pc l st M, V 0 G mi_PM_setBlock Z pc l st M → K pc l st M) → zex G mi_PM_setBlock Z cu_PM_setBlock cd_PM_setBlock 300 0 [(0, zr 0 k), (1, zr 0 a0), (2, zr 0 a1), (3, zi a2), (4, zi a3)] [] M K) : Ctr 0 G mi_PM_setBlock [zr 0 k, zr 0 a0, zr 0 a1, zi a2, zi a3] M Z := z_start ok_PM_setBlock rfl rfl h
theorem go_PM_setShifted {G : ZG} {Z : Option ZV → ZM → Prop} {M : ZM} {k : Nat} {a0 : Nat} {a1 : Int32} (h : ∀ K : Nat → ZL → List ZV → ZM → Prop, (∀ pc l st M, V 0 G mi_PM_setShifted Z pc l st M → K pc l st M) → zex G mi_PM_setShifted Z cu_PM_setShifted cd_PM_setShifted 300 0 [(0, zr 0 k), (1, zr 0 a0), (2, zi a1)] [] M K) : Ctr 0 G mi_PM_setShifted [zr 0 k, zr 0 a0, zi a1] M Z := z_start ok_PM_setShifted rfl rfl h
theorem go_RG_followedBy {G : ZG} {Z : Option ZV → ZM → Prop} {M : ZM} {a0 : Int32} {a1 : Nat} {a2 : Int32} (h : ∀ K : Nat → ZL → List ZV → ZM → Prop, (∀ pc l st M, V 0 G mi_RG_followedBy Z pc l st M → K pc l st M) → zex G mi_RG_followedBy Z cu_RG_followedBy cd_RG_followedBy 300 0 [(0, zi a0), (1, zr 0 a1), (2, zi a2)] [] M K) : Ctr 0 G mi_RG_followedBy [zi a0, zr 0 a1, zi a2] M Z := z_start ok_RG_followedBy rfl rfl h
theorem go_RN_renamedRows {G : ZG} {Z : Option ZV → ZM → Prop} {M : ZM} {a0 : Nat} (h : ∀ K : Nat → ZL → List ZV → ZM → Prop, (∀ pc l st M, V 0 G mi_RN_renamedRows Z pc l st M → K pc l st M) → zex G mi_RN_renamedRows Z cu_RN_renamedRows cd_RN_renamedRows 300 0 [(0, zr 11 0), (1, zr 0 a0)] [] M K) : Ctr 0 G mi_RN_renamedRows [zr 11 0, zr 0 a0] M Z := z_start ok_RN_renamedRows rfl rfl h
theorem go_RN_step {G : ZG} {Z : Option ZV → ZM → Prop} {M : ZM} {a0 : Int32} (h : ∀ K : Nat → ZL → List ZV → ZM → Prop, (∀ pc l st M, V 0 G mi_RN_step Z pc l st M → K pc l st M) → zex G mi_RN_step Z cu_RN_step cd_RN_step 300 0 [(0, zr 11 0), (1, zi a0)] [] M K) : Ctr 0 G mi_RN_step [zr 11 0, zi a0] M Z := z_start ok_RN_step rfl rfl h
theorem go_T_braidAt {G : ZG} {Z : Option ZV → ZM → Prop} {M : ZM} {a0 : Int32} (h : ∀ K : Nat → ZL → List ZV → ZM → Prop, (∀ pc l st M, V 0 G mi_T_braidAt Z pc l st M → K pc l st M) → zex G mi_T_braidAt Z cu_T_braidAt cd_T_braidAt 300 0 [(0, zr 5 0), (1, zi a0)] [] M K) : Ctr 0 G mi_T_braidAt [zr 5 0, zi a0] M Z := z_start ok_T_braidAt rfl rfl h
theorem go_T_keepMade {G : ZG} {Z : Option ZV → ZM → Prop} {M : ZM} {a0 : Int32} (h : ∀ K : Nat → ZL → List ZV → ZM → Prop, (∀ pc l st M, V 0 G mi_T_keepMade Z pc l st M → K pc l st M) → zex G mi_T_keepMade Z cu_T_keepMade cd_T_keepMade 300 0 [(0, zr 5 0), (1, zi a0)] [] M K) : Ctr 0 G mi_T_keepMade [zr 5 0, zi a0] M Z := z_start ok_T_keepMade rfl rfl h
theorem go_T_mapAt {G : ZG} {Z : Option ZV → ZM → Prop} {M : ZM} {a0 : Int32} (h : ∀ K : Nat → ZL → List ZV → ZM → Prop, (∀ pc l st M, V 0 G mi_T_mapAt Z pc l st M → K pc l st M) → zex G mi_T_mapAt Z cu_T_mapAt cd_T_mapAt 300 0 [(0, zr 5 0), (1, zi a0)] [] M K) : Ctr 0 G mi_T_mapAt [zr 5 0, zi a0] M Z := z_start ok_T_mapAt rfl rfl h
theorem go_AC_smallestTwin {G : ZG} {Z : Option ZV → ZM → Prop} {M : ZM} {a0 : Nat} {a1 : Int32} (h : ∀ K : Nat → ZL → List ZV → ZM → Prop, (∀ pc l st M, V 0 G mi_AC_smallestTwin Z pc l st M → K pc l st M) → zex G mi_AC_smallestTwin Z cu_AC_smallestTwin cd_AC_smallestTwin 300 0 [(0, zr 0 a0), (1, zi a1)] [] M K) : Ctr 0 G mi_AC_smallestTwin [zr 0 a0, zi a1] M Z := z_start ok_AC_smallestTwin rfl rfl h
theorem go_CH_brokenTriples {G : ZG} {Z : Option ZV → ZM → Prop} {M : ZM} {a0 : Nat} (h : ∀ K : Nat → ZL → List ZV → ZM → Prop, (∀ pc l st M, V 0 G mi_CH_brokenTriples Z pc l st M → K pc l st M) → zex G mi_CH_brokenTriples Z cu_CH_brokenTriples cd_CH_brokenTriples 300 0 [(0, zr 0 a0)] [] M K) : Ctr 0 G mi_CH_brokenTriples [zr 0 a0] M Z := z_start ok_CH_brokenTriples rfl rfl h
theorem go_CH_closedSets {G : ZG} {Z : Option ZV → ZM → Prop} {M : ZM} {a0 : Nat} (h : ∀ K : Nat → ZL → List ZV → ZM → Prop, (∀ pc l st M, V 0 G mi_CH_closedSets Z pc l st M → K pc l st M) → zex G mi_CH_closedSets Z cu_CH_closedSets cd_CH_closedSets 300 0 [(0, zr 0 a0)] [] M K) : Ctr 0 G mi_CH_closedSets [zr 0 a0] M Z := z_start ok_CH_closedSets rfl rfl h
theorem go_CH_closureOf {G : ZG} {Z : Option ZV → ZM → Prop} {M : ZM} {a0 : Nat} {a1 : Int32} (h : ∀ K : Nat → ZL → List ZV → ZM → Prop, (∀ pc l st M, V 0 G mi_CH_closureOf Z pc l st M → K pc l st M) → zex G mi_CH_closureOf Z cu_CH_closureOf cd_CH_closureOf 300 0 [(0, zr 0 a0), (1, zi a1)] [] M K) : Ctr 0 G mi_CH_closureOf [zr 0 a0, zi a1] M Z := z_start ok_CH_closureOf rfl rfl h
theorem go_CH_orbitOf {G : ZG} {Z : Option ZV → ZM → Prop} {M : ZM} {a0 : Nat} {a1 : Int32} (h : ∀ K : Nat → ZL → List ZV → ZM → Prop, (∀ pc l st M, V 0 G mi_CH_orbitOf Z pc l st M → K pc l st M) → zex G mi_CH_orbitOf Z cu_CH_orbitOf cd_CH_orbitOf 300 0 [(0, zr 0 a0), (1, zi a1)] [] M K) : Ctr 0 G mi_CH_orbitOf [zr 0 a0, zi a1] M Z := z_start ok_CH_orbitOf rfl rfl h
theorem go_PM_becomeFlip {G : ZG} {Z : Option ZV → ZM → Prop} {M : ZM} {k : Nat} {a0 : Int32} (h : ∀ K : Nat → ZL → List ZV → ZM → Prop, (∀ pc l st M, V 0 G mi_PM_becomeFlip Z pc l st M → K pc l st M) → zex G mi_PM_becomeFlip Z cu_PM_becomeFlip cd_PM_becomeFlip 300 0 [(0, zr 0 k), (1, zi a0)] [] M K) : Ctr 0 G mi_PM_becomeFlip [zr 0 k, zi a0] M Z := z_start ok_PM_becomeFlip rfl rfl h
theorem go_PM_becomeProduct {G : ZG} {Z : Option ZV → ZM → Prop} {M : ZM} {k : Nat} {a0 : Nat} {a1 : Nat} (h : ∀ K : Nat → ZL → List ZV → ZM → Prop, (∀ pc l st M, V 0 G mi_PM_becomeProduct Z pc l st M → K pc l st M) → zex G mi_PM_becomeProduct Z cu_PM_becomeProduct cd_PM_becomeProduct 300 0 [(0, zr 0 k), (1, zr 0 a0), (2, zr 0 a1)] [] M K) : Ctr 0 G mi_PM_becomeProduct [zr 0 k, zr 0 a0, zr 0 a1] M Z := z_start ok_PM_becomeProduct rfl rfl h
theorem go_RG_orderFor {G : ZG} {Z : Option ZV → ZM → Prop} {M : ZM} {a0 : Nat} (h : ∀ K : Nat → ZL → List ZV → ZM → Prop, (∀ pc l st M, V 0 G mi_RG_orderFor Z pc l st M → K pc l st M) → zex G mi_RG_orderFor Z cu_RG_orderFor cd_RG_orderFor 300 0 [(0, zr 13 0), (1, zr 0 a0)] [] M K) : Ctr 0 G mi_RG_orderFor [zr 13 0, zr 0 a0] M Z := z_start ok_RG_orderFor rfl rfl h
theorem go_RN_isomorphisms {G : ZG} {Z : Option ZV → ZM → Prop} {M : ZM} {a0 : Nat} {a1 : Nat} (h : ∀ K : Nat → ZL → List ZV → ZM → Prop, (∀ pc l st M, V 0 G mi_RN_isomorphisms Z pc l st M → K pc l st M) → zex G mi_RN_isomorphisms Z cu_RN_isomorphisms cd_RN_isomorphisms 300 0 [(0, zr 11 0), (1, zr 0 a0), (2, zr 0 a1)] [] M K) : Ctr 0 G mi_RN_isomorphisms [zr 11 0, zr 0 a0, zr 0 a1] M Z := z_start ok_RN_isomorphisms rfl rfl h
theorem go_RN_smallestRows {G : ZG} {Z : Option ZV → ZM → Prop} {M : ZM} {a0 : Nat} (h : ∀ K : Nat → ZL → List ZV → ZM → Prop, (∀ pc l st M, V 0 G mi_RN_smallestRows Z pc l st M → K pc l st M) → zex G mi_RN_smallestRows Z cu_RN_smallestRows cd_RN_smallestRows 300 0 [(0, zr 11 0), (1, zr 0 a0)] [] M K) : Ctr 0 G mi_RN_smallestRows [zr 11 0, zr 0 a0] M Z := z_start ok_RN_smallestRows rfl rfl h
theorem go_T_brace {G : ZG} {Z : Option ZV → ZM → Prop} {M : ZM} {a0 : Int32} {a1 : Int32} {a2 : Int32} (h : ∀ K : Nat → ZL → List ZV → ZM → Prop, (∀ pc l st M, V 0 G mi_T_brace Z pc l st M → K pc l st M) → zex G mi_T_brace Z cu_T_brace cd_T_brace 300 0 [(0, zr 5 0), (1, zi a0), (2, zi a1), (3, zi a2)] [] M K) : Ctr 0 G mi_T_brace [zr 5 0, zi a0, zi a1, zi a2] M Z := z_start ok_T_brace rfl rfl h
theorem go_T_cell {G : ZG} {Z : Option ZV → ZM → Prop} {M : ZM} {a0 : Int32} {a1 : Int32} {a2 : Int32} {a3 : Int32} (h : ∀ K : Nat → ZL → List ZV → ZM → Prop, (∀ pc l st M, V 0 G mi_T_cell Z pc l st M → K pc l st M) → zex G mi_T_cell Z cu_T_cell cd_T_cell 300 0 [(0, zr 5 0), (1, zi a0), (2, zi a1), (3, zi a2), (4, zi a3)] [] M K) : Ctr 0 G mi_T_cell [zr 5 0, zi a0, zi a1, zi a2, zi a3] M Z := z_start ok_T_cell rfl rfl h
theorem go_T_drop {G : ZG} {Z : Option ZV → ZM → Prop} {M : ZM} {a0 : Int32} (h : ∀ K : Nat → ZL → List ZV → ZM → Prop, (∀ pc l st M, V 0 G mi_T_drop Z pc l st M → K pc l st M) → zex G mi_T_drop Z cu_T_drop cd_T_drop 300 0 [(0, zr 5 0), (1, zi a0)] [] M K) : Ctr 0 G mi_T_drop [zr 5 0, zi a0] M Z := z_start ok_T_drop rfl rfl h
theorem go_T_group {G : ZG} {Z : Option ZV → ZM → Prop} {M : ZM} {a0 : Int32} {a1 : Int32} {a2 : Int32} (h : ∀ K : Nat → ZL → List ZV → ZM → Prop, (∀ pc l st M, V 0 G mi_T_group Z pc l st M → K pc l st M) → zex G mi_T_group Z cu_T_group cd_T_group 300 0 [(0, zr 5 0), (1, zi a0), (2, zi a1), (3, zi a2)] [] M K) : Ctr 0 G mi_T_group [zr 5 0, zi a0, zi a1, zi a2] M Z := z_start ok_T_group rfl rfl h
theorem go_T_invert {G : ZG} {Z : Option ZV → ZM → Prop} {M : ZM} {a0 : Int32} {a1 : Int32} (h : ∀ K : Nat → ZL → List ZV → ZM → Prop, (∀ pc l st M, V 0 G mi_T_invert Z pc l st M → K pc l st M) → zex G mi_T_invert Z cu_T_invert cd_T_invert 300 0 [(0, zr 5 0), (1, zi a0), (2, zi a1)] [] M K) : Ctr 0 G mi_T_invert [zr 5 0, zi a0, zi a1] M Z := z_start ok_T_invert rfl rfl h
theorem go_T_mapsHeld {G : ZG} {Z : Option ZV → ZM → Prop} {M : ZM}  (h : ∀ K : Nat → ZL → List ZV → ZM → Prop, (∀ pc l st M, V 0 G mi_T_mapsHeld Z pc l st M → K pc l st M) → zex G mi_T_mapsHeld Z cu_T_mapsHeld cd_T_mapsHeld 300 0 [(0, zr 5 0)] [] M K) : Ctr 0 G mi_T_mapsHeld [zr 5 0] M Z := z_start ok_T_mapsHeld rfl rfl h
theorem go_T_mirror {G : ZG} {Z : Option ZV → ZM → Prop} {M : ZM} {a0 : Int32} {a1 : Int32} (h : ∀ K : Nat → ZL → List ZV → ZM → Prop, (∀ pc l st M, V 0 G mi_T_mirror Z pc l st M → K pc l st M) → zex G mi_T_mirror Z cu_T_mirror cd_T_mirror 300 0 [(0, zr 5 0), (1, zi a0), (2, zi a1)] [] M K) : Ctr 0 G mi_T_mirror [zr 5 0, zi a0, zi a1] M Z := z_start ok_T_mirror rfl rfl h
theorem go_T_pointsHeld {G : ZG} {Z : Option ZV → ZM → Prop} {M : ZM}  (h : ∀ K : Nat → ZL → List ZV → ZM → Prop, (∀ pc l st M, V 0 G mi_T_pointsHeld Z pc l st M → K pc l st M) → zex G mi_T_pointsHeld Z cu_T_pointsHeld cd_T_pointsHeld 300 0 [(0, zr 5 0)] [] M K) : Ctr 0 G mi_T_pointsHeld [zr 5 0] M Z := z_start ok_T_pointsHeld rfl rfl h
theorem go_T_put {G : ZG} {Z : Option ZV → ZM → Prop} {M : ZM} {a0 : Int32} {a1 : Int32} {a2 : Int32} {a3 : Int32} {a4 : Int32} (h : ∀ K : Nat → ZL → List ZV → ZM → Prop, (∀ pc l st M, V 0 G mi_T_put Z pc l st M → K pc l st M) → zex G mi_T_put Z cu_T_put cd_T_put 300 0 [(0, zr 5 0), (1, zi a0), (2, zi a1), (3, zi a2), (4, zi a3), (5, zi a4)] [] M K) : Ctr 0 G mi_T_put [zr 5 0, zi a0, zi a1, zi a2, zi a3, zi a4] M Z := z_start ok_T_put rfl rfl h
theorem go_T_rename {G : ZG} {Z : Option ZV → ZM → Prop} {M : ZM} {a0 : Int32} {a1 : Int32} {a2 : Int32} (h : ∀ K : Nat → ZL → List ZV → ZM → Prop, (∀ pc l st M, V 0 G mi_T_rename Z pc l st M → K pc l st M) → zex G mi_T_rename Z cu_T_rename cd_T_rename 300 0 [(0, zr 5 0), (1, zi a0), (2, zi a1), (3, zi a2)] [] M K) : Ctr 0 G mi_T_rename [zr 5 0, zi a0, zi a1, zi a2] M Z := z_start ok_T_rename rfl rfl h
theorem go_T_twist {G : ZG} {Z : Option ZV → ZM → Prop} {M : ZM} {a0 : Int32} {a1 : Int32} {a2 : Int32} {a3 : Int32} (h : ∀ K : Nat → ZL → List ZV → ZM → Prop, (∀ pc l st M, V 0 G mi_T_twist Z pc l st M → K pc l st M) → zex G mi_T_twist Z cu_T_twist cd_T_twist 300 0 [(0, zr 5 0), (1, zi a0), (2, zi a1), (3, zi a2), (4, zi a3)] [] M K) : Ctr 0 G mi_T_twist [zr 5 0, zi a0, zi a1, zi a2, zi a3] M Z := z_start ok_T_twist rfl rfl h
theorem go_AC_find {G : ZG} {Z : Option ZV → ZM → Prop} {M : ZM} {a0 : Nat} (h : ∀ K : Nat → ZL → List ZV → ZM → Prop, (∀ pc l st M, V 0 G mi_AC_find Z pc l st M → K pc l st M) → zex G mi_AC_find Z cu_AC_find cd_AC_find 300 0 [(0, zr 8 0), (1, zr 0 a0)] [] M K) : Ctr 0 G mi_AC_find [zr 8 0, zr 0 a0] M Z := z_start ok_AC_find rfl rfl h
theorem go_CH_orbits {G : ZG} {Z : Option ZV → ZM → Prop} {M : ZM} {a0 : Nat} (h : ∀ K : Nat → ZL → List ZV → ZM → Prop, (∀ pc l st M, V 0 G mi_CH_orbits Z pc l st M → K pc l st M) → zex G mi_CH_orbits Z cu_CH_orbits cd_CH_orbits 300 0 [(0, zr 0 a0)] [] M K) : Ctr 0 G mi_CH_orbits [zr 0 a0] M Z := z_start ok_CH_orbits rfl rfl h
theorem go_PM_becomeUnion {G : ZG} {Z : Option ZV → ZM → Prop} {M : ZM} {k : Nat} {a0 : Nat} {a1 : Nat} (h : ∀ K : Nat → ZL → List ZV → ZM → Prop, (∀ pc l st M, V 0 G mi_PM_becomeUnion Z pc l st M → K pc l st M) → zex G mi_PM_becomeUnion Z cu_PM_becomeUnion cd_PM_becomeUnion 300 0 [(0, zr 0 k), (1, zr 0 a0), (2, zr 0 a1)] [] M K) : Ctr 0 G mi_PM_becomeUnion [zr 0 k, zr 0 a0, zr 0 a1] M Z := z_start ok_PM_becomeUnion rfl rfl h
theorem go_SL_indexOf {G : ZG} {Z : Option ZV → ZM → Prop} {M : ZM} {a0 : Nat} (h : ∀ K : Nat → ZL → List ZV → ZM → Prop, (∀ pc l st M, V 0 G mi_SL_indexOf Z pc l st M → K pc l st M) → zex G mi_SL_indexOf Z cu_SL_indexOf cd_SL_indexOf 300 0 [(0, zr 0 a0), (1, zr 11 0)] [] M K) : Ctr 0 G mi_SL_indexOf [zr 0 a0, zr 11 0] M Z := z_start ok_SL_indexOf rfl rfl h
theorem go_T_count {G : ZG} {Z : Option ZV → ZM → Prop} {M : ZM} {a0 : Int32} (h : ∀ K : Nat → ZL → List ZV → ZM → Prop, (∀ pc l st M, V 0 G mi_T_count Z pc l st M → K pc l st M) → zex G mi_T_count Z cu_T_count cd_T_count 300 0 [(0, zr 5 0), (1, zi a0)] [] M K) : Ctr 0 G mi_T_count [zr 5 0, zi a0] M Z := z_start ok_T_count rfl rfl h
theorem go_T_flip {G : ZG} {Z : Option ZV → ZM → Prop} {M : ZM} {a0 : Int32} {a1 : Int32} (h : ∀ K : Nat → ZL → List ZV → ZM → Prop, (∀ pc l st M, V 0 G mi_T_flip Z pc l st M → K pc l st M) → zex G mi_T_flip Z cu_T_flip cd_T_flip 300 0 [(0, zr 5 0), (1, zi a0), (2, zi a1)] [] M K) : Ctr 0 G mi_T_flip [zr 5 0, zi a0, zi a1] M Z := z_start ok_T_flip rfl rfl h
theorem go_T_orbit {G : ZG} {Z : Option ZV → ZM → Prop} {M : ZM} {a0 : Int32} {a1 : Int32} (h : ∀ K : Nat → ZL → List ZV → ZM → Prop, (∀ pc l st M, V 0 G mi_T_orbit Z pc l st M → K pc l st M) → zex G mi_T_orbit Z cu_T_orbit cd_T_orbit 300 0 [(0, zr 5 0), (1, zi a0), (2, zi a1)] [] M K) : Ctr 0 G mi_T_orbit [zr 5 0, zi a0, zi a1] M Z := z_start ok_T_orbit rfl rfl h
theorem go_T_pair {G : ZG} {Z : Option ZV → ZM → Prop} {M : ZM} {a0 : Int32} {a1 : Int32} {a2 : Int32} (h : ∀ K : Nat → ZL → List ZV → ZM → Prop, (∀ pc l st M, V 0 G mi_T_pair Z pc l st M → K pc l st M) → zex G mi_T_pair Z cu_T_pair cd_T_pair 300 0 [(0, zr 5 0), (1, zi a0), (2, zi a1), (3, zi a2)] [] M K) : Ctr 0 G mi_T_pair [zr 5 0, zi a0, zi a1, zi a2] M Z := z_start ok_T_pair rfl rfl h
theorem go_T_shut {G : ZG} {Z : Option ZV → ZM → Prop} {M : ZM} {a0 : Int32} {a1 : Int32} (h : ∀ K : Nat → ZL → List ZV → ZM → Prop, (∀ pc l st M, V 0 G mi_T_shut Z pc l st M → K pc l st M) → zex G mi_T_shut Z cu_T_shut cd_T_shut 300 0 [(0, zr 5 0), (1, zi a0), (2, zi a1)] [] M K) : Ctr 0 G mi_T_shut [zr 5 0, zi a0, zi a1] M Z := z_start ok_T_shut rfl rfl h
theorem go_AC_levelOf {G : ZG} {Z : Option ZV → ZM → Prop} {M : ZM} {a0 : Nat} (h : ∀ K : Nat → ZL → List ZV → ZM → Prop, (∀ pc l st M, V 0 G mi_AC_levelOf Z pc l st M → K pc l st M) → zex G mi_AC_levelOf Z cu_AC_levelOf cd_AC_levelOf 300 0 [(0, zr 8 0), (1, zr 0 a0)] [] M K) : Ctr 0 G mi_AC_levelOf [zr 8 0, zr 0 a0] M Z := z_start ok_AC_levelOf rfl rfl h
theorem go_T_alike {G : ZG} {Z : Option ZV → ZM → Prop} {M : ZM} {a0 : Int32} {a1 : Int32} (h : ∀ K : Nat → ZL → List ZV → ZM → Prop, (∀ pc l st M, V 0 G mi_T_alike Z pc l st M → K pc l st M) → zex G mi_T_alike Z cu_T_alike cd_T_alike 300 0 [(0, zr 5 0), (1, zi a0), (2, zi a1)] [] M K) : Ctr 0 G mi_T_alike [zr 5 0, zi a0, zi a1] M Z := z_start ok_T_alike rfl rfl h
theorem go_T_retract {G : ZG} {Z : Option ZV → ZM → Prop} {M : ZM} {a0 : Int32} {a1 : Int32} (h : ∀ K : Nat → ZL → List ZV → ZM → Prop, (∀ pc l st M, V 0 G mi_T_retract Z pc l st M → K pc l st M) → zex G mi_T_retract Z cu_T_retract cd_T_retract 300 0 [(0, zr 5 0), (1, zi a0), (2, zi a1)] [] M K) : Ctr 0 G mi_T_retract [zr 5 0, zi a0, zi a1] M Z := z_start ok_T_retract rfl rfl h
theorem go_T_unite {G : ZG} {Z : Option ZV → ZM → Prop} {M : ZM} {a0 : Int32} {a1 : Int32} {a2 : Int32} (h : ∀ K : Nat → ZL → List ZV → ZM → Prop, (∀ pc l st M, V 0 G mi_T_unite Z pc l st M → K pc l st M) → zex G mi_T_unite Z cu_T_unite cd_T_unite 300 0 [(0, zr 5 0), (1, zi a0), (2, zi a1), (3, zi a2)] [] M K) : Ctr 0 G mi_T_unite [zr 5 0, zi a0, zi a1, zi a2] M Z := z_start ok_T_unite rfl rfl h
theorem go_T_whole {G : ZG} {Z : Option ZV → ZM → Prop} {M : ZM} {a0 : Int32} {a1 : Int32} (h : ∀ K : Nat → ZL → List ZV → ZM → Prop, (∀ pc l st M, V 0 G mi_T_whole Z pc l st M → K pc l st M) → zex G mi_T_whole Z cu_T_whole cd_T_whole 300 0 [(0, zr 5 0), (1, zi a0), (2, zi a1)] [] M K) : Ctr 0 G mi_T_whole [zr 5 0, zi a0, zi a1] M Z := z_start ok_T_whole rfl rfl h
theorem go_LW_as {G : ZG} {Z : Option ZV → ZM → Prop} {M : ZM} {a0 : Int32} (h : ∀ K : Nat → ZL → List ZV → ZM → Prop, (∀ pc l st M, V 0 G mi_LW_as Z pc l st M → K pc l st M) → zex G mi_LW_as Z cu_LW_as cd_LW_as 300 0 [(0, zi a0)] [] M K) : Ctr 0 G mi_LW_as [zi a0] M Z := z_start ok_LW_as rfl rfl h
theorem go_LW_cell {G : ZG} {Z : Option ZV → ZM → Prop} {M : ZM} {a0 ba0 : Nat} {a1 : Int32} (h : ∀ K : Nat → ZL → List ZV → ZM → Prop, (∀ pc l st M, V 0 G mi_LW_cell Z pc l st M → K pc l st M) → zex G mi_LW_cell Z cu_LW_cell cd_LW_cell 300 0 [(0, zr a0 ba0), (1, zi a1)] [] M K) : Ctr 0 G mi_LW_cell [zr a0 ba0, zi a1] M Z := z_start ok_LW_cell rfl rfl h
theorem go_LW_copies {G : ZG} {Z : Option ZV → ZM → Prop} {M : ZM} {a0 ba0 : Nat} {a1 : Int32} {a2 : Int32} (h : ∀ K : Nat → ZL → List ZV → ZM → Prop, (∀ pc l st M, V 0 G mi_LW_copies Z pc l st M → K pc l st M) → zex G mi_LW_copies Z cu_LW_copies cd_LW_copies 300 0 [(0, zr a0 ba0), (1, zi a1), (2, zi a2)] [] M K) : Ctr 0 G mi_LW_copies [zr a0 ba0, zi a1, zi a2] M Z := z_start ok_LW_copies rfl rfl h
theorem go_LW_digit {G : ZG} {Z : Option ZV → ZM → Prop} {M : ZM} {a0 : Int32} {a1 : Int32} (h : ∀ K : Nat → ZL → List ZV → ZM → Prop, (∀ pc l st M, V 0 G mi_LW_digit Z pc l st M → K pc l st M) → zex G mi_LW_digit Z cu_LW_digit cd_LW_digit 300 0 [(0, zi a0), (1, zi a1)] [] M K) : Ctr 0 G mi_LW_digit [zi a0, zi a1] M Z := z_start ok_LW_digit rfl rfl h
theorem go_LW_l {G : ZG} {Z : Option ZV → ZM → Prop} {M : ZM} {a0 ba0 : Nat} {a1 : Int32} {a2 : Int32} {a3 : Int32} (h : ∀ K : Nat → ZL → List ZV → ZM → Prop, (∀ pc l st M, V 0 G mi_LW_l Z pc l st M → K pc l st M) → zex G mi_LW_l Z cu_LW_l cd_LW_l 300 0 [(0, zr a0 ba0), (1, zi a1), (2, zi a2), (3, zi a3)] [] M K) : Ctr 0 G mi_LW_l [zr a0 ba0, zi a1, zi a2, zi a3] M Z := z_start ok_LW_l rfl rfl h
theorem go_LW_lays {G : ZG} {Z : Option ZV → ZM → Prop} {M : ZM} {a0 ba0 : Nat} {a1 : Int32} {a2 : Int32} {a3 : Int32} {a4 : Int32} {a5 : Int32} (h : ∀ K : Nat → ZL → List ZV → ZM → Prop, (∀ pc l st M, V 0 G mi_LW_lays Z pc l st M → K pc l st M) → zex G mi_LW_lays Z cu_LW_lays cd_LW_lays 300 0 [(0, zr a0 ba0), (1, zi a1), (2, zi a2), (3, zi a3), (4, zi a4), (5, zi a5)] [] M K) : Ctr 0 G mi_LW_lays [zr a0 ba0, zi a1, zi a2, zi a3, zi a4, zi a5] M Z := z_start ok_LW_lays rfl rfl h
theorem go_LW_low {G : ZG} {Z : Option ZV → ZM → Prop} {M : ZM} {a0 : Int32} {a1 : Int32} (h : ∀ K : Nat → ZL → List ZV → ZM → Prop, (∀ pc l st M, V 0 G mi_LW_low Z pc l st M → K pc l st M) → zex G mi_LW_low Z cu_LW_low cd_LW_low 300 0 [(0, zi a0), (1, zi a1)] [] M K) : Ctr 0 G mi_LW_low [zi a0, zi a1] M Z := z_start ok_LW_low rfl rfl h
theorem go_LW_points {G : ZG} {Z : Option ZV → ZM → Prop} {M : ZM} {a0 ba0 : Nat} {a1 : Int32} (h : ∀ K : Nat → ZL → List ZV → ZM → Prop, (∀ pc l st M, V 0 G mi_LW_points Z pc l st M → K pc l st M) → zex G mi_LW_points Z cu_LW_points cd_LW_points 300 0 [(0, zr a0 ba0), (1, zi a1)] [] M K) : Ctr 0 G mi_LW_points [zr a0 ba0, zi a1] M Z := z_start ok_LW_points rfl rfl h
theorem go_LW_r {G : ZG} {Z : Option ZV → ZM → Prop} {M : ZM} {a0 ba0 : Nat} {a1 : Int32} {a2 : Int32} {a3 : Int32} (h : ∀ K : Nat → ZL → List ZV → ZM → Prop, (∀ pc l st M, V 0 G mi_LW_r Z pc l st M → K pc l st M) → zex G mi_LW_r Z cu_LW_r cd_LW_r 300 0 [(0, zr a0 ba0), (1, zi a1), (2, zi a2), (3, zi a3)] [] M K) : Ctr 0 G mi_LW_r [zr a0 ba0, zi a1, zi a2, zi a3] M Z := z_start ok_LW_r rfl rfl h
theorem go_LW_times {G : ZG} {Z : Option ZV → ZM → Prop} {M : ZM} {a0 : Int32} {a1 : Int32} {a2 : Int32} {a3 : Int32} (h : ∀ K : Nat → ZL → List ZV → ZM → Prop, (∀ pc l st M, V 0 G mi_LW_times Z pc l st M → K pc l st M) → zex G mi_LW_times Z cu_LW_times cd_LW_times 300 0 [(0, zi a0), (1, zi a1), (2, zi a2), (3, zi a3)] [] M K) : Ctr 0 G mi_LW_times [zi a0, zi a1, zi a2, zi a3] M Z := z_start ok_LW_times rfl rfl h
theorem go_LW_bijective {G : ZG} {Z : Option ZV → ZM → Prop} {M : ZM} {a0 ba0 : Nat} {a1 : Int32} (h : ∀ K : Nat → ZL → List ZV → ZM → Prop, (∀ pc l st M, V 0 G mi_LW_bijective Z pc l st M → K pc l st M) → zex G mi_LW_bijective Z cu_LW_bijective cd_LW_bijective 300 0 [(0, zr a0 ba0), (1, zi a1)] [] M K) : Ctr 0 G mi_LW_bijective [zr a0 ba0, zi a1] M Z := z_start ok_LW_bijective rfl rfl h
theorem go_LW_clazz {G : ZG} {Z : Option ZV → ZM → Prop} {M : ZM} {a0 ba0 : Nat} {a1 : Int32} {a2 : Int32} (h : ∀ K : Nat → ZL → List ZV → ZM → Prop, (∀ pc l st M, V 0 G mi_LW_clazz Z pc l st M → K pc l st M) → zex G mi_LW_clazz Z cu_LW_clazz cd_LW_clazz 300 0 [(0, zr a0 ba0), (1, zi a1), (2, zi a2)] [] M K) : Ctr 0 G mi_LW_clazz [zr a0 ba0, zi a1, zi a2] M Z := z_start ok_LW_clazz rfl rfl h
theorem go_LW_is {G : ZG} {Z : Option ZV → ZM → Prop} {M : ZM} {a0 ba0 : Nat} {a1 : Int32} {a2 : Int32} (h : ∀ K : Nat → ZL → List ZV → ZM → Prop, (∀ pc l st M, V 0 G mi_LW_is Z pc l st M → K pc l st M) → zex G mi_LW_is Z cu_LW_is cd_LW_is 300 0 [(0, zr a0 ba0), (1, zi a1), (2, zi a2)] [] M K) : Ctr 0 G mi_LW_is [zr a0 ba0, zi a1, zi a2] M Z := z_start ok_LW_is rfl rfl h
theorem go_LW_isBrace {G : ZG} {Z : Option ZV → ZM → Prop} {M : ZM} {a0 : Int32} {a1 : Int32} (h : ∀ K : Nat → ZL → List ZV → ZM → Prop, (∀ pc l st M, V 0 G mi_LW_isBrace Z pc l st M → K pc l st M) → zex G mi_LW_isBrace Z cu_LW_isBrace cd_LW_isBrace 300 0 [(0, zi a0), (1, zi a1)] [] M K) : Ctr 0 G mi_LW_isBrace [zi a0, zi a1] M Z := z_start ok_LW_isBrace rfl rfl h
theorem go_LW_joins {G : ZG} {Z : Option ZV → ZM → Prop} {M : ZM} {a0 ba0 : Nat} {a1 : Int32} {a2 : Int32} {a3 : Int32} (h : ∀ K : Nat → ZL → List ZV → ZM → Prop, (∀ pc l st M, V 0 G mi_LW_joins Z pc l st M → K pc l st M) → zex G mi_LW_joins Z cu_LW_joins cd_LW_joins 300 0 [(0, zr a0 ba0), (1, zi a1), (2, zi a2), (3, zi a3)] [] M K) : Ctr 0 G mi_LW_joins [zr a0 ba0, zi a1, zi a2, zi a3] M Z := z_start ok_LW_joins rfl rfl h
theorem go_LW_makes {G : ZG} {Z : Option ZV → ZM → Prop} {M : ZM} {a0 ba0 : Nat} {a1 : Int32} {a2 : Int32} {a3 : Int32} (h : ∀ K : Nat → ZL → List ZV → ZM → Prop, (∀ pc l st M, V 0 G mi_LW_makes Z pc l st M → K pc l st M) → zex G mi_LW_makes Z cu_LW_makes cd_LW_makes 300 0 [(0, zr a0 ba0), (1, zi a1), (2, zi a2), (3, zi a3)] [] M K) : Ctr 0 G mi_LW_makes [zr a0 ba0, zi a1, zi a2, zi a3] M Z := z_start ok_LW_makes rfl rfl h
theorem go_LW_names {G : ZG} {Z : Option ZV → ZM → Prop} {M : ZM} {a0 : Int32} {a1 : Int32} (h : ∀ K : Nat → ZL → List ZV → ZM → Prop, (∀ pc l st M, V 0 G mi_LW_names Z pc l st M → K pc l st M) → zex G mi_LW_names Z cu_LW_names cd_LW_names 300 0 [(0, zi a0), (1, zi a1)] [] M K) : Ctr 0 G mi_LW_names [zi a0, zi a1] M Z := z_start ok_LW_names rfl rfl h
theorem go_LW_orbit {G : ZG} {Z : Option ZV → ZM → Prop} {M : ZM} {a0 ba0 : Nat} {a1 : Int32} {a2 : Int32} (h : ∀ K : Nat → ZL → List ZV → ZM → Prop, (∀ pc l st M, V 0 G mi_LW_orbit Z pc l st M → K pc l st M) → zex G mi_LW_orbit Z cu_LW_orbit cd_LW_orbit 300 0 [(0, zr a0 ba0), (1, zi a1), (2, zi a2)] [] M K) : Ctr 0 G mi_LW_orbit [zr a0 ba0, zi a1, zi a2] M Z := z_start ok_LW_orbit rfl rfl h
theorem go_LW_shut {G : ZG} {Z : Option ZV → ZM → Prop} {M : ZM} {a0 ba0 : Nat} {a1 : Int32} {a2 : Int32} (h : ∀ K : Nat → ZL → List ZV → ZM → Prop, (∀ pc l st M, V 0 G mi_LW_shut Z pc l st M → K pc l st M) → zex G mi_LW_shut Z cu_LW_shut cd_LW_shut 300 0 [(0, zr a0 ba0), (1, zi a1), (2, zi a2)] [] M K) : Ctr 0 G mi_LW_shut [zr a0 ba0, zi a1, zi a2] M Z := z_start ok_LW_shut rfl rfl h
theorem go_LW_turns {G : ZG} {Z : Option ZV → ZM → Prop} {M : ZM} {a0 ba0 : Nat} {a1 : Int32} {a2 : Int32} {a3 : Int32} (h : ∀ K : Nat → ZL → List ZV → ZM → Prop, (∀ pc l st M, V 0 G mi_LW_turns Z pc l st M → K pc l st M) → zex G mi_LW_turns Z cu_LW_turns cd_LW_turns 300 0 [(0, zr a0 ba0), (1, zi a1), (2, zi a2), (3, zi a3)] [] M K) : Ctr 0 G mi_LW_turns [zr a0 ba0, zi a1, zi a2, zi a3] M Z := z_start ok_LW_turns rfl rfl h
theorem go_LW_units {G : ZG} {Z : Option ZV → ZM → Prop} {M : ZM} {a0 : Int32} {a1 : Int32} (h : ∀ K : Nat → ZL → List ZV → ZM → Prop, (∀ pc l st M, V 0 G mi_LW_units Z pc l st M → K pc l st M) → zex G mi_LW_units Z cu_LW_units cd_LW_units 300 0 [(0, zi a0), (1, zi a1)] [] M K) : Ctr 0 G mi_LW_units [zi a0, zi a1] M Z := z_start ok_LW_units rfl rfl h
theorem go_LW_retracts {G : ZG} {Z : Option ZV → ZM → Prop} {M : ZM} {a0 ba0 : Nat} {a1 : Int32} (h : ∀ K : Nat → ZL → List ZV → ZM → Prop, (∀ pc l st M, V 0 G mi_LW_retracts Z pc l st M → K pc l st M) → zex G mi_LW_retracts Z cu_LW_retracts cd_LW_retracts 300 0 [(0, zr a0 ba0), (1, zi a1)] [] M K) : Ctr 0 G mi_LW_retracts [zr a0 ba0, zi a1] M Z := z_start ok_LW_retracts rfl rfl h
theorem go_LW_one {G : ZG} {Z : Option ZV → ZM → Prop} {M : ZM} {a1 ba1 : Nat} {a2 : Int32} {a3 : Int32} {a4 : Int32} (h : ∀ K : Nat → ZL → List ZV → ZM → Prop, (∀ pc l st M, V 0 G mi_LW_one Z pc l st M → K pc l st M) → zex G mi_LW_one Z cu_LW_one cd_LW_one_0 300 0 [(0, zr 5 0), (1, zr a1 ba1), (2, zi a2), (3, zi a3), (4, zi a4)] [] M K) : Ctr 0 G mi_LW_one [zr 5 0, zr a1 ba1, zi a2, zi a3, zi a4] M Z := z_start ok_LW_one_0 rfl rfl h
theorem go_LW_known {G : ZG} {Z : Option ZV → ZM → Prop} {M : ZM} {a1 ba1 : Nat} {a2 : Int32} {a3 : Int32} (h : ∀ K : Nat → ZL → List ZV → ZM → Prop, (∀ pc l st M, V 0 G mi_LW_known Z pc l st M → K pc l st M) → zex G mi_LW_known Z cu_LW_known cd_LW_known_0 300 0 [(0, zr 5 0), (1, zr a1 ba1), (2, zi a2), (3, zi a3)] [] M K) : Ctr 0 G mi_LW_known [zr 5 0, zr a1 ba1, zi a2, zi a3] M Z := z_start ok_LW_known_0 rfl rfl h
theorem go_LW_same {G : ZG} {Z : Option ZV → ZM → Prop} {M : ZM} {a1 ba1 : Nat} {a2 : Int32} (h : ∀ K : Nat → ZL → List ZV → ZM → Prop, (∀ pc l st M, V 0 G mi_LW_same Z pc l st M → K pc l st M) → zex G mi_LW_same Z cu_LW_same cd_LW_same 300 0 [(0, zr 5 0), (1, zr a1 ba1), (2, zi a2)] [] M K) : Ctr 0 G mi_LW_same [zr 5 0, zr a1 ba1, zi a2] M Z := z_start ok_LW_same rfl rfl h
end
section
/-! numbers: every int is an nI below 2^32, every long an lN below 2^64 -/
theorem n_of (x : Int32) : ∃ m, m < 2 ^ 32 ∧ x = nI m := ⟨x.toBitVec.toNat, x.toBitVec.isLt, Int32.toBitVec_inj.mp (by show _ = BitVec.ofNat 32 _; simp)⟩
theorem n_bv (n : Nat) : (nI n).toBitVec = BitVec.ofNat 32 n := rfl
theorem n_tn {n : Nat} (h : n < 2 ^ 32) : (nI n).toBitVec.toNat = n := by rw [n_bv, BitVec.toNat_ofNat, Nat.mod_eq_of_lt h]
theorem n_ext {x y : Int32} (h : x.toBitVec = y.toBitVec) : x = y := Int32.toBitVec_inj.mp h
theorem n_or (a b : Nat) : nI a ||| nI b = nI (a ||| b) := n_ext (by
  rw [Int32.toBitVec_or, n_bv, n_bv, n_bv]
  apply BitVec.eq_of_toNat_eq
  simp only [BitVec.toNat_or, BitVec.toNat_ofNat]
  apply Nat.eq_of_testBit_eq
  intro i
  simp only [Nat.testBit_or, Nat.testBit_mod_two_pow]
  cases decide (i < 32) <;> simp)
theorem n_and (a b : Nat) : nI a &&& nI b = nI (a &&& b) := n_ext (by
  rw [Int32.toBitVec_and, n_bv, n_bv, n_bv]
  apply BitVec.eq_of_toNat_eq
  simp only [BitVec.toNat_and, BitVec.toNat_ofNat]
  apply Nat.eq_of_testBit_eq
  intro i
  simp only [Nat.testBit_and, Nat.testBit_mod_two_pow]
  cases decide (i < 32) <;> simp)
theorem n_xor (a b : Nat) : nI a ^^^ nI b = nI (a ^^^ b) := n_ext (by
  rw [Int32.toBitVec_xor, n_bv, n_bv, n_bv]
  apply BitVec.eq_of_toNat_eq
  simp only [BitVec.toNat_xor, BitVec.toNat_ofNat]
  apply Nat.eq_of_testBit_eq
  intro i
  simp only [Nat.testBit_xor, Nat.testBit_mod_two_pow]
  cases decide (i < 32) <;> simp)
theorem n_sm : ∀ k, k < 32 → ((nI k &&& 31).toBitVec.smod 32).toNat = k := by decide +kernel
theorem n_shl (a k : Nat) (hk : k < 32) : nI a <<< (nI k &&& 31) = nI (a * 2 ^ k) := n_ext (by
  rw [Int32.toBitVec_shiftLeft, n_bv, n_bv]
  apply BitVec.eq_of_toNat_eq
  have h := n_sm k hk
  show (BitVec.ofNat 32 a <<< ((nI k &&& 31).toBitVec.smod 32)).toNat = _
  rw [BitVec.shiftLeft_eq', h]
  simp only [BitVec.toNat_shiftLeft, BitVec.toNat_ofNat, Nat.shiftLeft_eq]
  rw [Nat.mod_mul_mod])
theorem n_shr {a : Nat} (k : Nat) (hk : k < 32) (ha : a < 2 ^ 31) : nI a >>> (nI k &&& 31) = nI (a / 2 ^ k) := pk_shrN ha _ k (n_sm k hk)
theorem n_mod {a b : Nat} (ha : a < 2 ^ 31) (h0 : 0 < b) (hb : b < 2 ^ 31) : nI a % nI b = nI (a % b) := by
  rw [← irem_eq_mod]; exact pk_rem ha h0 hb
theorem n_ne {a b : Nat} (ha : a < 2 ^ 31) (hb : b < 2 ^ 31) : (¬ nI a = nI b) ↔ a ≠ b := by rw [nI_eq ha hb]
theorem n_dig {m : Nat} (hm : m < 2 ^ 32) (i : Nat) (hi : i ≤ 9) : nI m >>> (nI (3 * i) &&& 31) &&& nI 7 = nI (m / 8 ^ i % 8) := n_ext (by
  rw [Int32.toBitVec_and, Int32.toBitVec_shiftRight, n_bv, n_bv, n_bv]
  have h := n_sm (3 * i) (by omega)
  apply BitVec.eq_of_getLsbD_eq
  intro j hj
  rw [BitVec.getLsbD_and]
  have h7 : (BitVec.ofNat 32 7).getLsbD j = decide (j < 3) := by
    rw [BitVec.getLsbD_ofNat]
    have : (7 : Nat) = 2 ^ 3 - 1 := rfl
    rw [this, Nat.testBit_two_pow_sub_one]
    simp only [hj, decide_true, Bool.true_and]
  rw [h7, BitVec.getLsbD_ofNat, show (8 : Nat) = 2 ^ 3 from rfl, ← Nat.pow_mul, Nat.testBit_mod_two_pow, Nat.testBit_div_two_pow]
  by_cases h3 : j < 3
  · simp only [hj, h3, decide_true, Bool.true_and, Bool.and_true]
    show ((BitVec.ofNat 32 m).sshiftRight ((nI (3 * i) &&& 31).toBitVec.smod 32).toNat).getLsbD j = _
    rw [h, BitVec.getLsbD_sshiftRight]
    have e : 3 * i + j < 32 := by omega
    simp only [e, hj, if_true, BitVec.getLsbD_ofNat, decide_true, Bool.true_and]
    have : ¬ 32 ≤ j := by omega
    simp only [this, decide_false, Bool.not_false, Bool.true_and, Nat.add_comm]
  · simp only [h3, decide_false, Bool.false_and, Bool.and_false])
/-! longs -/
theorem l_of (x : Int64) : ∃ m, m < 2 ^ 64 ∧ x = lN m := ⟨x.toBitVec.toNat, x.toBitVec.isLt, Int64.toBitVec_inj.mp (by show _ = BitVec.ofNat 64 _; simp)⟩
theorem l_bv (n : Nat) : (lN n).toBitVec = BitVec.ofNat 64 n := rfl
theorem l_ext {x y : Int64} (h : x.toBitVec = y.toBitVec) : x = y := Int64.toBitVec_inj.mp h
theorem l_or (a b : Nat) : lN a ||| lN b = lN (a ||| b) := l_ext (by
  rw [Int64.toBitVec_or, l_bv, l_bv, l_bv]
  apply BitVec.eq_of_toNat_eq
  simp only [BitVec.toNat_or, BitVec.toNat_ofNat]
  apply Nat.eq_of_testBit_eq
  intro i
  simp only [Nat.testBit_or, Nat.testBit_mod_two_pow]
  cases decide (i < 64) <;> simp)
theorem l_and (a b : Nat) : lN a &&& lN b = lN (a &&& b) := l_ext (by
  rw [Int64.toBitVec_and, l_bv, l_bv, l_bv]
  apply BitVec.eq_of_toNat_eq
  simp only [BitVec.toNat_and, BitVec.toNat_ofNat]
  apply Nat.eq_of_testBit_eq
  intro i
  simp only [Nat.testBit_and, Nat.testBit_mod_two_pow]
  cases decide (i < 64) <;> simp)
theorem l_sm : ∀ k, k < 64 → (((nI k).toInt64 &&& 63).toBitVec.smod 64).toNat = k := by decide +kernel
theorem l_shl (a k : Nat) (hk : k < 64) : lN a <<< ((nI k).toInt64 &&& 63) = lN (a * 2 ^ k) := l_ext (by
  rw [Int64.toBitVec_shiftLeft, l_bv, l_bv]
  apply BitVec.eq_of_toNat_eq
  have h := l_sm k hk
  rw [BitVec.shiftLeft_eq', h]
  simp only [BitVec.toNat_shiftLeft, BitVec.toNat_ofNat, Nat.shiftLeft_eq]
  rw [Nat.mod_mul_mod])
theorem l_tn {n : Nat} (h : n < 2 ^ 64) : (lN n).toBitVec.toNat = n := by rw [l_bv, BitVec.toNat_ofNat, Nat.mod_eq_of_lt h]
theorem l_inj {a b : Nat} (ha : a < 2 ^ 64) (hb : b < 2 ^ 64) (h : lN a = lN b) : a = b := by
  have := congrArg (fun x : Int64 => x.toBitVec.toNat) h
  simpa only [l_tn ha, l_tn hb] using this
theorem l_eq {a b : Nat} (ha : a < 2 ^ 64) (hb : b < 2 ^ 64) : lN a = lN b ↔ a = b := ⟨l_inj ha hb, fun h => by rw [h]⟩
theorem n_inj {a b : Nat} (ha : a < 2 ^ 32) (hb : b < 2 ^ 32) (h : nI a = nI b) : a = b := by
  have := congrArg (fun x : Int32 => x.toBitVec.toNat) h
  simpa only [n_tn ha, n_tn hb] using this
theorem n_eq {a b : Nat} (ha : a < 2 ^ 32) (hb : b < 2 ^ 32) : nI a = nI b ↔ a = b := ⟨n_inj ha hb, fun h => by rw [h]⟩
theorem n_neg {a : Nat} (h1 : 2 ^ 31 ≤ a) (h2 : a < 2 ^ 32) : (nI a).toInt = (a : Int) - 2 ^ 32 := by
  show (BitVec.ofNat 32 a).toInt = _
  rw [BitVec.toInt_eq_toNat_cond, BitVec.toNat_ofNat, Nat.mod_eq_of_lt h2]
  split <;> omega
/-- within 0 .. b, as the machine compares: an nI within 0 .. b -/
theorem n_nonneg {a : Nat} (h2 : a < 2 ^ 32) : nI 0 ≤ nI a ↔ a < 2 ^ 31 := by
  rw [Int32.le_iff_toInt_le]
  by_cases h : a < 2 ^ 31
  · rw [nI_toInt h, nI_toInt (by decide)]; omega
  · rw [n_neg (by omega) h2, nI_toInt (by decide)]; omega
theorem n_leb {a b : Nat} (ha : a < 2 ^ 32) (hb : b < 2 ^ 31) : nI a ≤ nI b ↔ (a ≤ b ∨ 2 ^ 31 ≤ a) := by
  rw [Int32.le_iff_toInt_le, nI_toInt hb]
  by_cases h : a < 2 ^ 31
  · rw [nI_toInt h]; omega
  · rw [n_neg (by omega) ha]; omega
theorem n_ltb {a b : Nat} (ha : a < 2 ^ 32) (hb : b < 2 ^ 31) : nI a < nI b ↔ (a < b ∨ 2 ^ 31 ≤ a) := by
  rw [Int32.lt_iff_toInt_lt, nI_toInt hb]
  by_cases h : a < 2 ^ 31
  · rw [nI_toInt h]; omega
  · rw [n_neg (by omega) ha]; omega
theorem n_ble {a b : Nat} (ha : a < 2 ^ 32) (hb : b < 2 ^ 31) : nI b ≤ nI a ↔ (b ≤ a ∧ a < 2 ^ 31) := by
  rw [Int32.le_iff_toInt_le, nI_toInt hb]
  by_cases h : a < 2 ^ 31
  · rw [nI_toInt h]; omega
  · rw [n_neg (by omega) ha]; omega
theorem n_blt {a b : Nat} (ha : a < 2 ^ 32) (hb : b < 2 ^ 31) : nI b < nI a ↔ (b < a ∧ a < 2 ^ 31) := by
  rw [Int32.lt_iff_toInt_lt, nI_toInt hb]
  by_cases h : a < 2 ^ 31
  · rw [nI_toInt h]; omega
  · rw [n_neg (by omega) ha]; omega
theorem n_m1 : (-1 : Int32) = nI 4294967295 := by decide +kernel
/-- a loop that counts up to n: backward from its end -/
theorem up_to {n : Nat} {P : Nat → Prop} (h0 : P n) (h1 : ∀ i, i < n → P (i + 1) → P i) : ∀ i, i ≤ n → P i := by
  intro i hi
  obtain ⟨d, rfl⟩ : ∃ d, n = i + d := ⟨n - i, by omega⟩
  clear hi
  induction d generalizing i with
  | zero => exact h0
  | succ d ih =>
    refine h1 i (by omega) (ih (i + 1) ?_ ?_)
    · rw [show i + 1 + d = i + (d + 1) by omega]; exact h0
    · intro j hj
      exact h1 j (by omega)
theorem nI_1' (a : Nat) : nI a + nI 1 = nI (a + 1) := nI_add a 1
end
section
/-! a map by its number of points, L and R -/
abbrev ZP : Type := Nat × ((Nat → Nat → Nat) × (Nat → Nat → Nat))
def pwf (A : ZP) : Prop := A.1 ≤ 6 ∧ ∀ x y, x < A.1 → y < A.1 → A.2.1 x y < A.1 ∧ A.2.2 x y < A.1
def isPM (M : ZM) (k : Nat) (A : ZP) : Prop := pwf A ∧ M.1 0 k 1 = nI A.1 ∧ ∀ x y, x < A.1 → y < A.1 → M.1 1 k (8 * x + y) = nI (8 * A.2.1 x y + A.2.2 x y)
/-- nothing but the cells of S has changed -/
def zsm (S : Nat → Nat → Prop) (M M' : ZM) : Prop := M'.2 = M.2 ∧ ∀ a b, ¬ S a b → M'.1 a b = M.1 a b
theorem zsm_refl (S : Nat → Nat → Prop) (M : ZM) : zsm S M M := ⟨rfl, fun _ _ _ => rfl⟩
theorem zsm_trans {S : Nat → Nat → Prop} {M M' M'' : ZM} (h : zsm S M M') (h' : zsm S M' M'') : zsm S M M'' := ⟨h'.1.trans h.1, fun a b q => (h'.2 a b q).trans (h.2 a b q)⟩
theorem zsm_mono {S S' : Nat → Nat → Prop} {M M' : ZM} (h : zsm S M M') (hs : ∀ a b, S a b → S' a b) : zsm S' M M' := ⟨h.1, fun a b q => h.2 a b (fun z => q (hs a b z))⟩
theorem zsm_set {S : Nat → Nat → Prop} {M : ZM} {a b c : Nat} {v : Int32} (h : S a b) : zsm S M (zset a b c v M) := ⟨rfl, fun x y q => by
  funext z
  simp only [zset]
  rw [if_neg (fun w => q (by rw [w.1, w.2.1]; exact h))]⟩
theorem zset_eq {a b c : Nat} {v : Int32} {M : ZM} : (zset a b c v M).1 a b c = v := by simp [zset]
theorem zset_ne {a b c x y z : Nat} {v : Int32} {M : ZM} (h : ¬ (x = a ∧ y = b ∧ z = c)) : (zset a b c v M).1 x y z = M.1 x y z := by simp only [zset]; rw [if_neg h]
def pmS (k : Nat) : Nat → Nat → Prop := fun a b => (a = 0 ∨ a = 1) ∧ b = k
theorem isPM_same {S : Nat → Nat → Prop} {M M' : ZM} {k : Nat} {A : ZP} (h : isPM M k A) (hs : zsm S M M') (h0 : ¬ S 0 k) (h1 : ¬ S 1 k) : isPM M' k A := by
  refine ⟨h.1, ?_, fun x y hx hy => ?_⟩
  · rw [hs.2 0 k h0]; exact h.2.1
  · rw [hs.2 1 k h1]; exact h.2.2 x y hx hy
section
variable {G : ZG} {M : ZM} {Z : Option ZV → ZM → Prop}
/-! Codes -/
theorem s_CO_digit {m i : Nat} (hm : m < 2 ^ 32) (hi : i ≤ 9) (hZ : Z (some (zi (nI (m / 8 ^ i % 8)))) M) : Ctr 0 G mi_CO_digit [zi (nI m), zi (nI i)] M Z := by
  refine go_CO_digit (fun Kz hKz => ?_)
  conv => whnf
  rw [pk_mul, n_dig hm i hi]
  exact hZ
theorem s_CO_pairOf {x y : Nat} (hx : x < 8) (hy : y < 8) (hZ : Z (some (zi (nI (8 * x + y)))) M) : Ctr 0 G mi_CO_pairOf [zi (nI x), zi (nI y)] M Z := by
  refine go_CO_pairOf (fun Kz hKz => ?_)
  conv => whnf
  rw [n_shl _ 3 (by decide), n_or, show x * 2 ^ 3 ||| y = 8 * x + y from by
    have h : ∀ a, a < 8 → ∀ b, b < 8 → a * 2 ^ 3 ||| b = 8 * a + b := by decide
    exact h x hx y hy]
  exact hZ
/-! PairMap -/
theorem s_PM_points {k : Nat} (hk : k < 10) (hZ : Z (some (zi (M.1 0 k 1))) M) : Ctr 0 G mi_PM_points [zr 0 k] M Z := by
  refine go_PM_points (fun Kz hKz => ?_)
  conv => whnf
  refine ⟨by first | assumption | decide, ?_⟩
  conv => whnf
  exact hZ
theorem s_PM_imageOf {k j : Nat} (hk : k < 10) (hj : j < 64) (hZ : Z (some (zi (M.1 1 k j))) M) : Ctr 0 G mi_PM_imageOf [zr 0 k, zi (nI j)] M Z := by
  have h0 : nI j &&& nI 63 = nI j := by rw [n_and, show (63 : Nat) = 2 ^ 6 - 1 from rfl, Nat.and_two_pow_sub_one_eq_mod, Nat.mod_eq_of_lt hj]
  refine go_PM_imageOf (fun Kz hKz => ?_)
  conv => whnf
  refine ⟨by first | assumption | decide, ?_⟩
  conv => whnf
  refine ⟨hk, ?_, ?_⟩
  · rw [h0]; exact vp_in_nI hj (by decide)
  conv => whnf
  rw [h0, nI_clamp (by omega)]
  exact hZ
theorem s_PM_resize {k : Nat} {x : Int32} (hk : k < 10) (hZ : Z none (zset 0 k 1 x M)) : Ctr 0 G mi_PM_resize [zr 0 k, zi x] M Z := by
  refine go_PM_resize (fun Kz hKz => ?_)
  conv => whnf
  refine ⟨by first | assumption | decide, ?_⟩
  conv => whnf
  exact hZ
theorem s_PM_isEmpty {k : Nat} {A : ZP} (hk : k < 10) (hA : isPM M k A) (h1 : A.1 = 0 → Z (some (zi (nI 1))) M) (h2 : ¬ A.1 = 0 → Z (some (zi (nI 0))) M) : Ctr 0 G mi_PM_isEmpty [zr 0 k] M Z := by
  have hn : A.1 < 2 ^ 31 := Nat.lt_of_le_of_lt hA.1.1 (by decide)
  refine go_PM_isEmpty (fun Kz hKz => ?_)
  conv => whnf
  refine ⟨by first | assumption | decide, ?_⟩
  conv => whnf
  rw [hA.2.1, nI_eq hn (by decide)]
  refine ⟨fun h => ?_, fun h => ?_⟩
  · conv => whnf
    exact ⟨Or.inl rfl, h2 h⟩
  · conv => whnf
    exact ⟨Or.inr rfl, h1 (Classical.not_not.mp h)⟩
theorem s_PM_hasPoint {k m : Nat} {A : ZP} (hk : k < 10) (hm : m < 2 ^ 32) (hA : isPM M k A) (h1 : m < A.1 → Z (some (zi (nI 1))) M) (h2 : ¬ m < A.1 → Z (some (zi (nI 0))) M) : Ctr 0 G mi_PM_hasPoint [zr 0 k, zi (nI m)] M Z := by
  have hn := hA.1.1
  refine go_PM_hasPoint (fun Kz hKz => ?_)
  conv => whnf
  rw [n_ltb hm (by decide)]
  refine ⟨fun h => ?_, fun h => ?_⟩
  · conv => whnf
    exact ⟨Or.inl rfl, h2 (by omega)⟩
  · conv => whnf
    refine ⟨by first | assumption | decide, ?_⟩
    conv => whnf
    rw [hA.2.1, nI_leI (by omega) (by omega)]
    refine ⟨fun h3 => ?_, fun h3 => ?_⟩
    · conv => whnf
      exact ⟨Or.inl rfl, h2 (by omega)⟩
    · conv => whnf
      exact ⟨Or.inr rfl, h1 (by omega)⟩
theorem s_PM_left {k x y : Nat} {A : ZP} (hk : k < 10) (hA : isPM M k A) (hx : x < A.1) (hy : y < A.1) (hZ : Z (some (zi (nI (A.2.1 x y)))) M) : Ctr 0 G mi_PM_left [zr 0 k, zi (nI x), zi (nI y)] M Z := by
  have hn := hA.1.1
  have hLR := hA.1.2 x y hx hy
  refine go_PM_left (fun Kz hKz => ?_)
  conv => whnf
  refine s_CO_pairOf (by omega) (by omega) ?_
  conv => whnf
  refine ⟨by first | assumption | decide, ?_⟩
  conv => whnf
  refine s_PM_imageOf hk (by omega) ?_
  conv => whnf
  rw [hA.2.2 x y hx hy, n_shr 3 (by decide) (by omega), show (8 * A.2.1 x y + A.2.2 x y) / 2 ^ 3 = A.2.1 x y by omega]
  exact hZ
theorem s_PM_right {k x y : Nat} {A : ZP} (hk : k < 10) (hA : isPM M k A) (hx : x < A.1) (hy : y < A.1) (hZ : Z (some (zi (nI (A.2.2 x y)))) M) : Ctr 0 G mi_PM_right [zr 0 k, zi (nI x), zi (nI y)] M Z := by
  have hn := hA.1.1
  have hLR := hA.1.2 x y hx hy
  refine go_PM_right (fun Kz hKz => ?_)
  conv => whnf
  refine s_CO_pairOf (by omega) (by omega) ?_
  conv => whnf
  refine ⟨by first | assumption | decide, ?_⟩
  conv => whnf
  refine s_PM_imageOf hk (by omega) ?_
  conv => whnf
  rw [hA.2.2 x y hx hy, n_and, show (7 : Nat) = 2 ^ 3 - 1 from rfl, Nat.and_two_pow_sub_one_eq_mod, show (8 * A.2.1 x y + A.2.2 x y) % 2 ^ 3 = A.2.2 x y by omega]
  exact hZ
theorem s_PM_setImage {k x y l r : Nat} (hk : k < 10) (hx : x < 8) (hy : y < 8) (hl : l < 8) (hr : r < 8) (hZ : Z none (zset 1 k (8 * x + y) (nI (8 * l + r)) M)) : Ctr 0 G mi_PM_setImage [zr 0 k, zi (nI x), zi (nI y), zi (nI l), zi (nI r)] M Z := by
  have h0 : nI (8 * x + y) &&& nI 63 = nI (8 * x + y) := by rw [n_and, show (63 : Nat) = 2 ^ 6 - 1 from rfl, Nat.and_two_pow_sub_one_eq_mod, Nat.mod_eq_of_lt (by omega)]
  refine go_PM_setImage (fun Kz hKz => ?_)
  conv => whnf
  refine ⟨by first | assumption | decide, ?_⟩
  conv => whnf
  refine s_CO_pairOf hx hy ?_
  conv => whnf
  refine s_CO_pairOf hl hr ?_
  conv => whnf
  refine ⟨hk, ?_, ?_⟩
  · rw [h0]; exact vp_in_nI (by omega) (by decide)
  conv => whnf
  rw [h0, nI_clamp (by omega)]
  exact hZ
theorem s_PM_copy {k j : Nat} (hk : k < 10) (hj : j < 10) (hkj : k ≠ j) (hZ : ∀ M', zsm (pmS k) M M' → M'.1 0 k 1 = M.1 0 j 1 → (∀ c, c < 64 → M'.1 1 k c = M.1 1 j c) → Z none M') : Ctr 0 G mi_PM_copy [zr 0 k, zr 0 j] M Z := by
  have lp : ∀ i, i ≤ 64 → ∀ M', zsm (pmS k) M M' → M'.1 0 k 1 = M.1 0 j 1 → (∀ c, c < i → M'.1 1 k c = M.1 1 j c) → V 0 G mi_PM_copy Z 10 [(0, zr 0 k), (1, zr 0 j), (2, zi (nI i))] [] M' := by
    refine up_to ?_ ?_
    · intro M' h1 h2 h3
      refine z_run (cuts := cu_PM_copy) ok_PM_copy (fun Kz hKz => ?_)
      conv => whnf
      rw [nI_ltI (by decide) (by decide)]
      first | refine ⟨fun _ => ?_, fun q => absurd (by decide) q⟩ | refine ⟨fun q => absurd q (by decide), fun _ => ?_⟩
      conv => whnf
      exact hZ M' h1 h2 h3
    · intro i hi ih M' h1 h2 h3
      refine z_run (cuts := cu_PM_copy) ok_PM_copy (fun Kz hKz => ?_)
      conv => whnf
      rw [nI_ltI (by decide) (by omega)]
      refine ⟨fun q => absurd q (by omega), fun _ => ?_⟩
      conv => whnf
      refine ⟨by first | assumption | decide, ?_⟩
      conv => whnf
      refine ⟨by first | assumption | decide, ?_⟩
      conv => whnf
      refine ⟨hj, vp_in_nI hi (by decide), ?_⟩
      conv => whnf
      refine ⟨hk, vp_in_nI hi (by decide), ?_⟩
      conv => whnf
      rw [nI_clamp (by omega), nI_1']
      refine hKz _ _ _ _ ?_
      refine ih _ (zsm_trans h1 (zsm_set ⟨Or.inr rfl, rfl⟩)) ?_ (fun c hc => ?_)
      · rw [zset_ne (by omega)]; exact h2
      · by_cases hci : c = i
        · subst hci
          rw [zset_eq, h1.2 1 j (fun q => hkj q.2.symm)]
        · rw [zset_ne (by omega)]
          exact h3 c (by omega)
  refine go_PM_copy (fun Kz hKz => ?_)
  conv => whnf
  refine ⟨by first | assumption | decide, ?_⟩
  conv => whnf
  refine ⟨by first | assumption | decide, ?_⟩
  conv => whnf
  refine hKz _ _ _ _ ?_
  exact lp 0 (by decide) _ (zsm_set ⟨Or.inl rfl, rfl⟩) zset_eq (fun c hc => absurd hc (Nat.not_lt_zero _))
end
end
section
/-- the turned code of the first k digits -/
def tn (m : Nat) : Nat → Nat
  | 0 => 0
  | k + 1 => 8 * tn m k + m / 8 ^ k % 8
theorem tn_lt (m k : Nat) : tn m k < 8 ^ k := by
  induction k with
  | zero => exact Nat.one_pos
  | succ k ih =>
    have h : m / 8 ^ k % 8 < 8 := Nat.mod_lt _ (by decide)
    simp only [tn, Nat.pow_succ]
    omega
theorem n_or8 {a d : Nat} (hd : d < 8) : a * 2 ^ 3 ||| d = 8 * a + d := by
  have h := Nat.shiftLeft_add_eq_or_of_lt (a := a) (b := d) (i := 3) hd
  rw [Nat.shiftLeft_eq] at h
  rw [← h]
  omega
theorem p8_le {k : Nat} (hk : k ≤ 6) : 8 ^ k ≤ 262144 := by
  have : 8 ^ k ≤ 8 ^ 6 := Nat.pow_le_pow_right (by decide) hk
  omega
def isC (m k n : Nat) : Prop := m < 8 ^ k ∧ ∀ i, i < k → m / 8 ^ i % 8 < n
/-- the set of the first k digits -/
def st8 (m : Nat) : Nat → Nat
  | 0 => 0
  | k + 1 => st8 m k ||| 2 ^ (m / 8 ^ k % 8)
def isP (m n : Nat) : Prop := isC m n n ∧ st8 m n = 2 ^ n - 1
/-- number j of the sequences of k numbers below n, turned -/
def enc (n : Nat) : Nat → Nat → Nat
  | 0, _ => 0
  | k + 1, j => 8 * enc n k (j / n) + j % n
theorem enc_lt {n : Nat} (hn : n ≤ 8) (h0 : 0 < n) (k : Nat) : ∀ j, enc n k j < 8 ^ k := by
  induction k with
  | zero => intro j; exact Nat.one_pos
  | succ k ih =>
    intro j
    have h1 := ih (j / n)
    have h2 : j % n < n := Nat.mod_lt _ h0
    simp only [enc, Nat.pow_succ]
    omega
section
variable {G : ZG} {M : ZM} {Z : Option ZV → ZM → Prop}
theorem s_CO_turned {m k : Nat} (hm : m < 2 ^ 32) (hk : k ≤ 6) (hZ : Z (some (zi (nI (tn m k)))) M) : Ctr 0 G mi_CO_turned [zi (nI m), zi (nI k)] M Z := by
  have lp : ∀ i, i ≤ k → V 0 G mi_CO_turned Z 4 [(0, zi (nI m)), (1, zi (nI k)), (2, zi (nI (tn m i))), (3, zi (nI i))] [] M := by
    refine up_to ?_ ?_
    · refine z_run (cuts := cu_CO_turned) ok_CO_turned (fun Kz hKz => ?_)
      conv => whnf
      rw [nI_leI (by omega) (by omega)]
      refine ⟨fun _ => ?_, fun q => absurd (Nat.le_refl _) q⟩
      conv => whnf
      exact hZ
    · intro i hi ih
      refine z_run (cuts := cu_CO_turned) ok_CO_turned (fun Kz hKz => ?_)
      conv => whnf
      rw [nI_leI (by omega) (by omega)]
      refine ⟨fun q => absurd q (by omega), fun _ => ?_⟩
      conv => whnf
      refine s_CO_digit hm (by omega) ?_
      conv => whnf
      refine hKz _ _ _ _ ?_
      rw [n_shl _ 3 (by decide), n_or, n_or8 (Nat.mod_lt _ (by decide)), nI_1']
      exact ih
  refine go_CO_turned (fun Kz hKz => ?_)
  conv => whnf
  refine hKz _ _ _ _ ?_
  exact lp 0 (Nat.zero_le _)
theorem s_CO_isCode {m k n : Nat} (hm : m < 2 ^ 32) (hk : k ≤ 6) (hn : n ≤ 6) (h1 : isC m k n → Z (some (zi (nI 1))) M) (h2 : ¬ isC m k n → Z (some (zi (nI 0))) M) : Ctr 0 G mi_CO_isCode [zi (nI m), zi (nI k), zi (nI n)] M Z := by
  have hu : ((nI m).toUInt32 >>> ((nI 3 * nI k).toUInt32 &&& Int32.toUInt32 31)).toInt32 = nI (m / 8 ^ k) := by
    have hs : ∀ k, k ≤ 6 → (((nI 3 * nI k).toUInt32 &&& Int32.toUInt32 31).toBitVec % 32).toNat = 3 * k := by decide +kernel
    have h := pk_ushrN hm (nI 3 * nI k) (3 * k) (hs k hk)
    rw [Nat.pow_mul] at h
    exact h
  have hd : m / 8 ^ k = 0 ↔ m < 8 ^ k := by
    have hp : 0 < 8 ^ k := Nat.pow_pos (by decide)
    constructor
    · intro h
      exact (Nat.div_eq_zero_iff_lt hp).mp h
    · intro h
      exact Nat.div_eq_of_lt h
  have lp : ∀ i, i ≤ k → (∀ j, j < i → m / 8 ^ j % 8 < n) → V 0 G mi_CO_isCode Z 2 [(0, zi (nI m)), (1, zi (nI k)), (2, zi (nI n)), (3, zi (nI i))] [] M := by
    refine up_to ?_ ?_
    · intro hj
      refine z_run (cuts := cu_CO_isCode) ok_CO_isCode (fun Kz hKz => ?_)
      conv => whnf
      rw [nI_leI (by omega) (by omega)]
      refine ⟨fun _ => ?_, fun q => absurd (Nat.le_refl _) q⟩
      conv => whnf
      rw [hu, n_eq (Nat.lt_of_le_of_lt (Nat.div_le_self _ _) hm) (by decide), hd]
      refine ⟨fun h => ?_, fun h => ?_⟩
      · conv => whnf
        exact ⟨Or.inl rfl, h2 (fun q => h q.1)⟩
      · conv => whnf
        exact ⟨Or.inr rfl, h1 ⟨Classical.not_not.mp h, hj⟩⟩
    · intro i hi ih hj
      refine z_run (cuts := cu_CO_isCode) ok_CO_isCode (fun Kz hKz => ?_)
      conv => whnf
      rw [nI_leI (by omega) (by omega)]
      refine ⟨fun q => absurd q (by omega), fun _ => ?_⟩
      conv => whnf
      refine s_CO_digit hm (by omega) ?_
      conv => whnf
      have hlt : m / 8 ^ i % 8 < 8 := Nat.mod_lt _ (by decide)
      rw [nI_ltI (by omega) (by omega)]
      refine ⟨fun h => ?_, fun h => ?_⟩
      · conv => whnf
        refine hKz _ _ _ _ ?_
        rw [nI_1']
        refine ih (fun j hj2 => ?_)
        rcases Nat.lt_succ_iff_lt_or_eq.mp hj2 with h3 | h3
        · exact hj j h3
        · rw [h3]; exact h
      · conv => whnf
        exact ⟨Or.inl rfl, h2 (fun q => h (q.2 i hi))⟩
  refine go_CO_isCode (fun Kz hKz => ?_)
  conv => whnf
  refine hKz _ _ _ _ ?_
  exact lp 0 (Nat.zero_le _) (fun j hj => absurd hj (Nat.not_lt_zero _))
theorem s_CO_isPermutation {m n : Nat} (hm : m < 2 ^ 32) (hn : n ≤ 6) (h1 : isP m n → Z (some (zi (nI 1))) M) (h2 : ¬ isP m n → Z (some (zi (nI 0))) M) : Ctr 0 G mi_CO_isPermutation [zi (nI m), zi (nI n)] M Z := by
  have hst : ∀ i, i ≤ 6 → st8 m i < 2 ^ 8 := by
    intro i
    induction i with
    | zero => intro _; exact Nat.pow_pos (by decide)
    | succ i ih =>
      intro hi
      have h1 := ih (by omega)
      have h2 : m / 8 ^ i % 8 < 8 := Nat.mod_lt _ (by decide)
      exact Nat.or_lt_two_pow h1 (Nat.pow_lt_pow_right (by decide) h2)
  have lp : ∀ i, i ≤ n → V 0 G mi_CO_isPermutation Z 4 [(0, zi (nI m)), (1, zi (nI n)), (2, zi (nI (st8 m i))), (3, zi (nI i))] [] M := by
    refine up_to ?_ ?_
    · refine z_run (cuts := cu_CO_isPermutation) ok_CO_isPermutation (fun Kz hKz => ?_)
      conv => whnf
      rw [nI_leI (by omega) (by omega)]
      refine ⟨fun _ => ?_, fun q => absurd (Nat.le_refl _) q⟩
      conv => whnf
      refine s_CO_isCode hm hn hn (fun h => ?_) (fun h => ?_)
      · conv => whnf
        first | refine ⟨fun _ => ?_, fun q => absurd (by decide) q⟩ | refine ⟨fun q => absurd q (by decide), fun _ => ?_⟩
        conv => whnf
        have hp : 2 ^ n ≤ 2 ^ 6 := Nat.pow_le_pow_right (by decide) hn
        have hp0 : 0 < 2 ^ n := Nat.pow_pos (by decide)
        rw [n_shl _ n (by omega), Nat.one_mul, pk_sub hp0, n_ne (Nat.lt_trans (hst n hn) (by decide)) (by omega)]
        refine ⟨fun h3 => ?_, fun h3 => ?_⟩
        · conv => whnf
          exact ⟨Or.inl rfl, h2 (fun q => h3 q.2)⟩
        · conv => whnf
          exact ⟨Or.inr rfl, h1 ⟨h, Classical.not_not.mp h3⟩⟩
      · conv => whnf
        first | refine ⟨fun _ => ?_, fun q => absurd (by decide) q⟩ | refine ⟨fun q => absurd q (by decide), fun _ => ?_⟩
        conv => whnf
        exact ⟨Or.inl rfl, h2 (fun q => h q.1)⟩
    · intro i hi ih
      refine z_run (cuts := cu_CO_isPermutation) ok_CO_isPermutation (fun Kz hKz => ?_)
      conv => whnf
      rw [nI_leI (by omega) (by omega)]
      refine ⟨fun q => absurd q (by omega), fun _ => ?_⟩
      conv => whnf
      refine s_CO_digit hm (by omega) ?_
      conv => whnf
      refine hKz _ _ _ _ ?_
      have hlt : m / 8 ^ i % 8 < 8 := Nat.mod_lt _ (by decide)
      rw [n_shl _ _ (by omega), Nat.one_mul, n_or, nI_1']
      exact ih
  refine go_CO_isPermutation (fun Kz hKz => ?_)
  conv => whnf
  refine hKz _ _ _ _ ?_
  exact lp 0 (Nat.zero_le _)
theorem s_T_isWithin {m l h : Nat} (hm : m < 2 ^ 32) (hl : l < 2 ^ 31) (hh : h < 2 ^ 31) (h1 : l ≤ m → m ≤ h → Z (some (zi (nI 1))) M) (h2 : ¬ (l ≤ m ∧ m ≤ h) → Z (some (zi (nI 0))) M) : Ctr 0 G mi_T_isWithin [zi (nI m), zi (nI l), zi (nI h)] M Z := by
  refine go_T_isWithin (fun Kz hKz => ?_)
  conv => whnf
  rw [n_ltb hm hl]
  refine ⟨fun q => ?_, fun q => ?_⟩
  · conv => whnf
    exact ⟨Or.inl rfl, h2 (by omega)⟩
  · conv => whnf
    rw [n_blt hm hh]
    refine ⟨fun q2 => ?_, fun q2 => ?_⟩
    · conv => whnf
      exact ⟨Or.inl rfl, h2 (by omega)⟩
    · conv => whnf
      exact ⟨Or.inr rfl, h1 (by omega) (by omega)⟩
theorem s_T_isPlace {m : Nat} (hm : m < 2 ^ 32) (h1 : m < 4 → Z (some (zi (nI 1))) M) (h2 : ¬ m < 4 → Z (some (zi (nI 0))) M) : Ctr 0 G mi_T_isPlace [zi (nI m)] M Z := by
  refine go_T_isPlace (fun Kz hKz => ?_)
  conv => whnf
  refine s_T_isWithin hm (by decide) (by decide) (fun h3 h4 => ?_) (fun h => ?_)
  · conv => whnf
    exact ⟨Or.inr rfl, h1 (by omega)⟩
  · conv => whnf
    exact ⟨Or.inl rfl, h2 (by omega)⟩
theorem s_T_isBraid {m : Nat} (hm : m < 2 ^ 32) (h1 : m < 2 → Z (some (zi (nI 1))) M) (h2 : ¬ m < 2 → Z (some (zi (nI 0))) M) : Ctr 0 G mi_T_isBraid [zi (nI m)] M Z := by
  refine go_T_isBraid (fun Kz hKz => ?_)
  conv => whnf
  refine s_T_isWithin hm (by decide) (by decide) (fun h3 h4 => ?_) (fun h => ?_)
  · conv => whnf
    exact ⟨Or.inr rfl, h1 (by omega)⟩
  · conv => whnf
    exact ⟨Or.inl rfl, h2 (by omega)⟩
theorem s_T_oneIf {x : Int32} (h1 : ¬ x = nI 0 → Z (some (zi (nI 1))) M) (h2 : x = nI 0 → Z (some (zi (nI 0))) M) : Ctr 0 G mi_T_oneIf [zi x] M Z := by
  refine go_T_oneIf (fun Kz hKz => ?_)
  conv => whnf
  refine ⟨fun q => ?_, fun q => ?_⟩
  · conv => whnf
    exact h2 q
  · conv => whnf
    exact h1 q
end
end
section
theorem enc_zero {n : Nat} (h0 : 0 < n) (k : Nat) : enc n k 0 = 0 := by
  induction k with
  | zero => rfl
  | succ k ih => simp only [enc, Nat.zero_div, Nat.zero_mod, ih]
/-- 8 ^ i at once, from the i lowest places on -/
theorem enc_dig {n : Nat} (hn : n ≤ 8) (h0 : 0 < n) : ∀ (i k j : Nat), i < k → enc n k j / 8 ^ i % 8 = j / n ^ i % n := by
  intro i
  induction i with
  | zero =>
    intro k j hk
    obtain ⟨k, rfl⟩ : ∃ k', k = k' + 1 := ⟨k - 1, by omega⟩
    have h := Nat.mod_lt j h0
    simp only [enc, Nat.pow_zero, Nat.div_one]
    omega
  | succ i ih =>
    intro k j hk
    obtain ⟨k, rfl⟩ : ∃ k', k = k' + 1 := ⟨k - 1, by omega⟩
    have h := Nat.mod_lt j h0
    have e1 : enc n (k + 1) j / 8 ^ (i + 1) = enc n k (j / n) / 8 ^ i := by
      rw [Nat.pow_succ, Nat.mul_comm, ← Nat.div_div_eq_div_mul]
      congr 1
      simp only [enc]
      omega
    rw [e1, ih k (j / n) (by omega), Nat.pow_succ, Nat.mul_comm, Nat.div_div_eq_div_mul]
theorem enc_shift {n : Nat} (h0 : 0 < n) : ∀ (i k X : Nat), i ≤ k → enc n k (n ^ i * X) = 8 ^ i * enc n (k - i) X := by
  intro i
  induction i with
  | zero => intro k X _; simp
  | succ i ih =>
    intro k X hk
    obtain ⟨k, rfl⟩ : ∃ k', k = k' + 1 := ⟨k - 1, by omega⟩
    have e : n ^ (i + 1) * X = n * (n ^ i * X) := by rw [Nat.pow_succ, Nat.mul_comm (n ^ i) n, Nat.mul_assoc]
    simp only [enc]
    rw [e, Nat.mul_mod_right, Nat.mul_div_cancel_left _ h0, ih k X (by omega), Nat.pow_succ, show k + 1 - (i + 1) = k - i by omega, Nat.mul_comm (8 ^ i) 8, Nat.mul_assoc]
    rfl
theorem n_clr {i q d : Nat} (hd : d < 8) (h : 8 ^ i * (8 * q + d) < 2 ^ 32) : 8 ^ i * (8 * q + d) &&& (7 * 8 ^ i ^^^ 4294967295) = 8 ^ (i + 1) * q := by
  have e8 : ∀ i, 8 ^ i = 2 ^ (3 * i) := fun i => by rw [Nat.pow_mul]
  apply Nat.eq_of_testBit_eq
  intro b
  rw [Nat.testBit_and, Nat.testBit_xor, show (4294967295 : Nat) = 2 ^ 32 - 1 from rfl, Nat.testBit_two_pow_sub_one, Nat.mul_comm 7, show (7 : Nat) = 2 ^ 3 - 1 from rfl]
  by_cases hb : 32 ≤ b
  · have h1 : (8 ^ i * (8 * q + d)).testBit b = false := Nat.testBit_lt_two_pow (Nat.lt_of_lt_of_le h (Nat.pow_le_pow_right (by decide) hb))
    have h2 : (8 ^ (i + 1) * q).testBit b = false := by
      apply Nat.testBit_lt_two_pow
      refine Nat.lt_of_le_of_lt ?_ (Nat.lt_of_lt_of_le h (Nat.pow_le_pow_right (by decide) hb))
      rw [Nat.pow_succ, Nat.mul_assoc]
      exact Nat.mul_le_mul_left _ (by omega)
    rw [h1, h2, Bool.false_and]
  · have hd2 : (8 * q + d).testBit = fun j => if j < 3 then d.testBit j else q.testBit (j - 3) := by
      funext j
      rw [show 8 * q + d = 2 ^ 3 * q + d from rfl, Nat.testBit_two_pow_mul_add _ (by omega)]
    rw [e8, e8, Nat.testBit_two_pow_mul, Nat.testBit_two_pow_mul, Nat.testBit_two_pow_mul, Nat.testBit_two_pow_sub_one, hd2]
    by_cases h1 : 3 * i ≤ b
    · by_cases h2 : b - 3 * i < 3
      · have h3 : ¬ 3 * (i + 1) ≤ b := by omega
        have h4 : b < 32 := by omega
        simp [h1, h2, h3, h4]
      · have h3 : 3 * (i + 1) ≤ b := by omega
        have h4 : b < 32 := by omega
        simp [h1, h2, h3, h4, show b - 3 * i - 3 = b - 3 * (i + 1) by omega]
    · have h3 : ¬ 3 * (i + 1) ≤ b := by omega
      simp [h1, h3]
section
variable {G : ZG} {M : ZM} {Z : Option ZV → ZM → Prop}
theorem s_CO_next {n k j : Nat} (h0 : 0 < n) (hn : n ≤ 6) (hk : k ≤ 4) (hj : j < n ^ k) (hZ : ∀ t, t < 4096 → (j + 1 < n ^ k → t = enc n k (j + 1)) → Z (some (zi (nI t))) M) : Ctr 0 G mi_CO_next [zi (nI (enc n k j)), zi (nI k), zi (nI n)] M Z := by
  have h8 : ∀ i, i ≤ 4 → 8 ^ i ≤ 4096 := fun i hi => Nat.pow_le_pow_right (by decide) hi
  have lp : ∀ i, i ≤ k → ∀ J, j + 1 = n ^ i * (J + 1) → V 0 G mi_CO_next Z 5 [(1, zi (nI k)), (2, zi (nI n)), (3, zi (nI (8 ^ i * enc n (k - i) J))), (4, zi (nI i))] [] M := by
    refine up_to ?_ ?_
    · intro J hJ
      refine z_run (cuts := cu_CO_next) ok_CO_next (fun Kz hKz => ?_)
      conv => whnf
      rw [nI_leI (by omega) (by omega)]
      refine ⟨fun _ => ?_, fun q => absurd (Nat.le_refl _) q⟩
      conv => whnf
      rw [Nat.sub_self, show enc n 0 J = 0 from rfl, Nat.mul_zero]
      refine hZ 0 (by decide) (fun q => ?_)
      have : n ^ k * 1 ≤ n ^ k * (J + 1) := Nat.mul_le_mul_left _ (by omega)
      omega
    · intro i hi ih J hJ
      obtain ⟨K, hK⟩ : ∃ K, k - i = K + 1 := ⟨k - i - 1, by omega⟩
      have hen := enc_lt (show n ≤ 8 by omega) h0 K (J / n)
      have hJn := Nat.mod_lt J h0
      have h81 : 8 ^ K ≤ 8 ^ 4 := Nat.pow_le_pow_right (by decide) (by omega)
      have hp : 0 < 8 ^ i := Nat.pow_pos (by decide)
      have hb1 : 8 ^ i * (8 * enc n K (J / n) + J % n) < 4096 := by
        have e1 : 8 * enc n K (J / n) + J % n + 1 ≤ 8 ^ (K + 1) := by rw [Nat.pow_succ]; omega
        have e2 : 8 ^ i * (8 * enc n K (J / n) + J % n + 1) ≤ 8 ^ i * 8 ^ (K + 1) := Nat.mul_le_mul_left _ e1
        rw [← Nat.pow_add] at e2
        have e3 := h8 (i + (K + 1)) (by omega)
        rw [Nat.mul_add] at e2
        omega
      refine z_run (cuts := cu_CO_next) ok_CO_next (fun Kz hKz => ?_)
      conv => whnf
      rw [nI_leI (by omega) (by omega)]
      refine ⟨fun q => absurd q (by omega), fun _ => ?_⟩
      conv => whnf
      rw [hK]
      simp only [enc]
      refine s_CO_digit (by omega) (by omega) ?_
      conv => whnf
      rw [Nat.mul_div_cancel_left _ hp, show (8 * enc n K (J / n) + J % n) % 8 = J % n by omega, nI_1', nI_leI (by omega) (by omega)]
      refine ⟨fun h => ?_, fun h => ?_⟩
      · conv => whnf
        refine hKz _ _ _ _ ?_
        have hJ1 : J % n = n - 1 := by omega
        have hJ2 : J + 1 = n * (J / n + 1) := by
          have := Nat.div_add_mod J n
          rw [Nat.mul_add]
          omega
        rw [n_m1, n_shl _ (3 * i) (by omega) |> fun e => (by rw [pk_mul]; exact e : nI 7 <<< (nI 3 * nI i &&& 31) = nI (7 * 2 ^ (3 * i))), Nat.pow_mul, n_xor, n_and, n_clr (by omega) (by omega), nI_1']
        have h9 := ih (J / n) (by rw [hJ, hJ2, Nat.pow_succ, Nat.mul_assoc])
        rw [show k - (i + 1) = K by omega] at h9
        exact h9
      · conv => whnf
        rw [pk_mul, n_shl _ (3 * i) (by omega), Nat.pow_mul, Nat.one_mul, nI_add]
        have hJ3 : (J + 1) / n = J / n ∧ (J + 1) % n = J % n + 1 := by
          have h1 := Nat.div_add_mod J n
          have hlt : J % n + 1 < n := by omega
          have e : J + 1 = n * (J / n) + (J % n + 1) := by omega
          constructor
          · rw [e, Nat.mul_add_div h0, Nat.div_eq_of_lt hlt, Nat.add_zero]
          · rw [e, Nat.mul_add_mod, Nat.mod_eq_of_lt hlt]
        rw [show (2 : Nat) ^ 3 = 8 from rfl]
        refine hZ _ ?_ (fun q => ?_)
        · have e1 : 8 * enc n K (J / n) + J % n + 1 < 8 ^ (K + 1) := by rw [Nat.pow_succ]; omega
          have e2 : 8 ^ i * (8 * enc n K (J / n) + J % n + 1) < 8 ^ i * 8 ^ (K + 1) := Nat.mul_lt_mul_of_pos_left e1 hp
          rw [← Nat.pow_add] at e2
          have e3 := h8 (i + (K + 1)) (by omega)
          rw [Nat.mul_add] at e2
          omega
        · rw [hJ, enc_shift h0 i k (J + 1) (by omega), hK]
          simp only [enc]
          rw [hJ3.1, hJ3.2, ← Nat.add_assoc, Nat.mul_add (8 ^ i) _ 1, Nat.mul_one]
  refine go_CO_next (fun Kz hKz => ?_)
  conv => whnf
  refine hKz _ _ _ _ ?_
  have h := lp 0 (Nat.zero_le _) j (by rw [Nat.pow_zero, Nat.one_mul])
  rw [Nat.pow_zero, Nat.one_mul, Nat.sub_zero] at h
  exact h
theorem s_CO_commonMultiple {a b : Nat} (ha : 0 < a) (hb : 0 < b) (hab : a * b < 2 ^ 31) (hZ : Z (some (zi (nI (Nat.lcm a b)))) M) : Ctr 0 G mi_CO_commonMultiple [zi (nI a), zi (nI b)] M Z := by
  have ha1 : a < 2 ^ 31 := Nat.lt_of_le_of_lt (Nat.le_mul_of_pos_right a hb) hab
  have hb1 : b < 2 ^ 31 := Nat.lt_of_le_of_lt (Nat.le_mul_of_pos_left b ha) hab
  have key : ∀ k, 0 < k → k ≤ b → b ∣ a * k → (∀ j, 0 < j → j < k → ¬ b ∣ a * j) → a * k = Nat.lcm a b := by
    intro k hk0 hkb hd hmin
    have h1 : Nat.lcm a b ∣ a * k := Nat.lcm_dvd (Nat.dvd_mul_right a k) hd
    obtain ⟨c, hc⟩ := Nat.dvd_lcm_left a b
    have hl0 : 0 < Nat.lcm a b := Nat.lcm_pos ha hb
    have hc0 : 0 < c := by
      rcases Nat.eq_zero_or_pos c with h | h
      · rw [h, Nat.mul_zero] at hc; omega
      · exact h
    have h2 : ¬ c < k := fun q => hmin c hc0 q (by rw [← hc]; exact Nat.dvd_lcm_right a b)
    have h3 := Nat.le_of_dvd (Nat.mul_pos ha hk0) h1
    rw [hc] at h3 ⊢
    have h4 : c ≤ k := Nat.le_of_mul_le_mul_left h3 ha
    rw [show c = k by omega]
  have lp : ∀ k, k ≤ b → 0 < k → (∀ j, 0 < j → j < k → ¬ b ∣ a * j) → V 0 G mi_CO_commonMultiple Z 2 [(0, zi (nI a)), (1, zi (nI b)), (2, zi (nI k))] [] M := by
    refine up_to ?_ ?_
    · intro h0 hm
      refine z_run (cuts := cu_CO_commonMultiple) ok_CO_commonMultiple (fun Kz hKz => ?_)
      conv => whnf
      rw [nI_leI hb1 hb1]
      refine ⟨fun _ => ?_, fun q => absurd (Nat.le_refl _) q⟩
      conv => whnf
      rw [pk_mul, key b hb (Nat.le_refl _) (Nat.dvd_mul_left b a) hm]
      exact hZ
    · intro k hk ih h0 hm
      have hak : a * k < 2 ^ 31 := Nat.lt_of_le_of_lt (Nat.mul_le_mul_left a (Nat.le_of_lt hk)) hab
      refine z_run (cuts := cu_CO_commonMultiple) ok_CO_commonMultiple (fun Kz hKz => ?_)
      conv => whnf
      rw [nI_leI hb1 (by omega)]
      refine ⟨fun q => absurd q (by omega), fun _ => ?_⟩
      conv => whnf
      refine ⟨?_, ?_⟩
      · rw [nI_eq hb1 (by decide)]; omega
      conv => whnf
      rw [pk_mul, n_mod hak hb hb1, nI_eq (Nat.lt_trans (Nat.mod_lt _ hb) hb1) (by decide)]
      refine ⟨fun h => ?_, fun h => ?_⟩
      · conv => whnf
        refine hKz _ _ _ _ ?_
        rw [nI_1']
        refine ih (by omega) (fun j hj0 hj => ?_)
        rcases Nat.lt_succ_iff_lt_or_eq.mp hj with h3 | h3
        · exact hm j hj0 h3
        · rw [h3]; exact fun q => h (Nat.mod_eq_zero_of_dvd q)
      · conv => whnf
        rw [pk_mul, key k h0 (by omega) (Nat.dvd_of_mod_eq_zero (Classical.not_not.mp h)) hm]
        exact hZ
  refine go_CO_commonMultiple (fun Kz hKz => ?_)
  conv => whnf
  refine hKz _ _ _ _ ?_
  exact lp 1 hb (by decide) (fun j h1 h2 => by omega)
end
end
section
/-! tuples as lists of numbers, and their turned codes -/
def tcl (w : List Nat) : Nat := w.foldl (fun a d => 8 * a + d) 0
theorem tcl_fold (w : List Nat) : ∀ a, w.foldl (fun a d => 8 * a + d) a = a * 8 ^ w.length + tcl w := by
  induction w with
  | nil => intro a; simp [tcl]
  | cons d r ih =>
    intro a
    rw [tcl, List.foldl_cons, List.foldl_cons, ih, ih (8 * 0 + d), List.length_cons, Nat.pow_succ, Nat.add_mul, Nat.mul_zero, Nat.zero_add, Nat.add_assoc, Nat.mul_comm 8 a, Nat.mul_assoc, Nat.mul_comm 8]
theorem tcl_app (u v : List Nat) : tcl (u ++ v) = tcl u * 8 ^ v.length + tcl v := by
  rw [tcl, List.foldl_append, tcl_fold]
  rfl
theorem tcl_lt {w : List Nat} (h : ∀ d ∈ w, d < 8) : tcl w < 8 ^ w.length := by
  induction w with
  | nil => exact Nat.one_pos
  | cons d r ih =>
    have h1 := ih (fun x hx => h x (List.mem_cons_of_mem _ hx))
    have h2 := h d List.mem_cons_self
    have e : tcl (d :: r) = d * 8 ^ r.length + tcl r := by
      have := tcl_app [d] r
      simpa [tcl] using this
    rw [e, List.length_cons, Nat.pow_succ]
    have h3 : d * 8 ^ r.length ≤ 7 * 8 ^ r.length := Nat.mul_le_mul_right _ (by omega)
    omega
/-- 8 ^ s * (64 * h + p) + l with p turned into q, by exclusive or -/
theorem n_swap {s h p q l : Nat} (hp : p < 64) (hq : q < 64) (hl : l < 8 ^ s) : (8 ^ s * (64 * h + p) + l) ^^^ ((p ^^^ q) * 8 ^ s) = 8 ^ s * (64 * h + q) + l := by
  have e8 : ∀ i, 8 ^ i = 2 ^ (3 * i) := fun i => by rw [Nat.pow_mul]
  rw [e8] at hl ⊢
  have hx : ∀ z, z < 64 → ∀ b, (64 * h + z).testBit b = if b < 6 then z.testBit b else h.testBit (b - 6) := by
    intro z hz b
    rw [show 64 * h + z = 2 ^ 6 * h + z from rfl, Nat.testBit_two_pow_mul_add _ (by omega)]
  apply Nat.eq_of_testBit_eq
  intro b
  rw [Nat.testBit_xor, Nat.testBit_two_pow_mul_add _ hl, Nat.testBit_two_pow_mul_add _ hl, Nat.mul_comm (p ^^^ q), Nat.testBit_two_pow_mul, hx p hp, hx q hq, Nat.testBit_xor]
  by_cases h1 : b < 3 * s
  · have h2 : ¬ 3 * s ≤ b := by omega
    simp [h1, h2]
  · have h2 : 3 * s ≤ b := by omega
    by_cases h3 : b - 3 * s < 6
    · simp only [h1, h2, h3, if_true, if_false, ge_iff_le, decide_true, Bool.true_and]
      cases p.testBit (b - 3 * s) <;> cases q.testBit (b - 3 * s) <;> rfl
    · have hp6 : p.testBit (b - 3 * s) = false := Nat.testBit_lt_two_pow (Nat.lt_of_lt_of_le hp (by rw [show 64 = 2 ^ 6 from rfl]; exact Nat.pow_le_pow_right (by decide) (by omega)))
      have hq6 : q.testBit (b - 3 * s) = false := Nat.testBit_lt_two_pow (Nat.lt_of_lt_of_le hq (by rw [show 64 = 2 ^ 6 from rfl]; exact Nat.pow_le_pow_right (by decide) (by omega)))
      simp [h1, h2, h3, hp6, hq6]
/-! rows of images that are written one by one -/
def rwS (k : Nat) : Nat → Nat → Prop := fun a b => a = 1 ∧ b = k
def winv (M : ZM) (k n : Nat) (pos val : Nat → Nat → Nat) (x y : Nat) (M' : ZM) : Prop :=
  zsm (rwS k) M M' ∧ (∀ a b, a < n → b < n → (a < x ∨ (a = x ∧ b < y)) → M'.1 1 k (pos a b) = nI (val a b)) ∧ ∀ c, (∀ a b, a < n → b < n → (a < x ∨ (a = x ∧ b < y)) → pos a b ≠ c) → M'.1 1 k c = M.1 1 k c
theorem winv_start (M : ZM) (k n : Nat) (pos val : Nat → Nat → Nat) : winv M k n pos val 0 0 M := ⟨zsm_refl _ _, fun a b _ _ h => by omega, fun _ _ => rfl⟩
theorem winv_next {M M' : ZM} {k n : Nat} {pos val : Nat → Nat → Nat} {x : Nat} (h : winv M k n pos val x n M') : winv M k n pos val (x + 1) 0 M' :=
  ⟨h.1, fun a b ha hb q => h.2.1 a b ha hb (by omega), fun c q => h.2.2 c (fun a b ha hb q2 => q a b ha hb (by omega))⟩
theorem winv_step {M M' : ZM} {k n : Nat} {pos val : Nat → Nat → Nat} {x y : Nat} (hx : x < n) (hy : y < n) (hinj : ∀ a b, a < n → b < n → pos a b = pos x y → a = x ∧ b = y) (h : winv M k n pos val x y M') : winv M k n pos val x (y + 1) (zset 1 k (pos x y) (nI (val x y)) M') := by
  refine ⟨zsm_trans h.1 (zsm_set ⟨rfl, rfl⟩), fun a b ha hb q => ?_, fun c q => ?_⟩
  · by_cases hp : pos a b = pos x y
    · obtain ⟨rfl, rfl⟩ := hinj a b ha hb hp
      exact zset_eq
    · rw [zset_ne (fun z => hp z.2.2)]
      exact h.2.1 a b ha hb (by
        rcases q with q | ⟨rfl, q⟩
        · exact Or.inl q
        · rcases Nat.lt_succ_iff_lt_or_eq.mp q with q | rfl
          · exact Or.inr ⟨rfl, q⟩
          · exact absurd rfl hp)
  · rw [zset_ne (fun z => q x y hx hy (Or.inr ⟨rfl, Nat.lt_succ_self y⟩) z.2.2.symm)]
    exact h.2.2 c (fun a b ha hb q2 => q a b ha hb (by omega))
theorem winv_pts {M M' : ZM} {k n : Nat} {pos val : Nat → Nat → Nat} {x y : Nat} (h : winv M k n pos val x y M') : M'.1 0 k 1 = M.1 0 k 1 := by
  rw [h.1.2 0 k (fun q => absurd q.1 (by decide))]
theorem pos8_inj {n x y : Nat} (hn : n ≤ 6) (hx : x < n) (hy : y < n) : ∀ a b, a < n → b < n → 8 * a + b = 8 * x + y → a = x ∧ b = y := by
  intro a b ha hb h
  omega
theorem winv_end {M M' : ZM} {k n : Nat} {v : Int32} {pos val : Nat → Nat → Nat} (h : winv (zset 0 k 1 v M) k n pos val n 0 M') : zsm (pmS k) M M' ∧ M'.1 0 k 1 = v ∧ ∀ x y, x < n → y < n → M'.1 1 k (pos x y) = nI (val x y) := by
  refine ⟨zsm_trans (zsm_set (a := 0) (b := k) (c := 1) (v := v) ⟨Or.inl rfl, rfl⟩) (zsm_mono h.1 ?_), by rw [winv_pts h, zset_eq], fun x y hx hy => h.2.1 x y hx hy (Or.inl hx)⟩
  intro a b q
  exact ⟨Or.inr q.1, q.2⟩
/-- two loops, one in the other, that write the images one by one -/
theorem wloop {M0 : ZM} {k n : Nat} {pos val : Nat → Nat → Nat} {O : Nat → ZM → Prop} {I : Nat → Nat → ZM → Prop} (hinj : ∀ x y, x < n → y < n → ∀ a b, a < n → b < n → pos a b = pos x y → a = x ∧ b = y)
    (h1 : ∀ M', winv M0 k n pos val n 0 M' → O n M') (h2 : ∀ x, x < n → ∀ M', I x 0 M' → O x M') (h3 : ∀ x, x < n → ∀ M', O (x + 1) M' → I x n M')
    (h4 : ∀ x y, x < n → y < n → ∀ M', winv M0 k n pos val x y M' → I x (y + 1) (zset 1 k (pos x y) (nI (val x y)) M') → I x y M') : O 0 M0 := by
  have out : ∀ x, x ≤ n → ∀ M', winv M0 k n pos val x 0 M' → O x M' := by
    refine up_to h1 ?_
    intro x hx ih M' h
    have inn : ∀ y, y ≤ n → ∀ M', winv M0 k n pos val x y M' → I x y M' := by
      refine up_to (fun M' h => h3 x hx M' (ih M' (winv_next h))) ?_
      intro y hy ih2 M' h
      exact h4 x y hx hy M' h (ih2 _ (winv_step hx hy (hinj x y hx hy) h))
    exact h2 x hx M' (inn 0 (Nat.zero_le _) M' h)
  exact out 0 (Nat.zero_le _) _ (winv_start _ _ _ _ _)
/-- the same, with any invariant -/
theorem wloop0 {M0 : ZM} {n : Nat} {O : Nat → ZM → Prop} {I : Nat → Nat → ZM → Prop} {inv : Nat → Nat → ZM → Prop} (h0 : inv 0 0 M0) (hn : ∀ x M', inv x n M' → inv (x + 1) 0 M')
    (h1 : ∀ M', inv n 0 M' → O n M') (h2 : ∀ x, x < n → ∀ M', inv x 0 M' → I x 0 M' → O x M') (h3 : ∀ x, x < n → ∀ M', inv x n M' → O (x + 1) M' → I x n M')
    (h4 : ∀ x y, x < n → y < n → ∀ M', inv x y M' → (∀ M'', inv x (y + 1) M'' → I x (y + 1) M'') → I x y M') : O 0 M0 := by
  have out : ∀ x, x ≤ n → ∀ M', inv x 0 M' → O x M' := by
    refine up_to h1 ?_
    intro x hx ih M' h
    have inn : ∀ y, y ≤ n → ∀ M', inv x y M' → I x y M' := by
      refine up_to (fun M' h => h3 x hx M' h (ih M' (hn x M' h))) ?_
      intro y hy ih2 M' h
      exact h4 x y hx hy M' h ih2
    exact h2 x hx M' h (inn 0 (Nat.zero_le _) M' h)
  exact out 0 (Nat.zero_le _) _ h0
theorem d8 (m i : Nat) : m / 8 ^ i % 8 < 8 := Nat.mod_lt _ (by decide)
section
variable {G : ZG} {M : ZM} {Z : Option ZV → ZM → Prop}
theorem s_PM_appliedAt {k x y : Nat} {u v : List Nat} {A : ZP} (hk : k < 10) (hA : isPM M k A) (hx : x < A.1) (hy : y < A.1) (hu : ∀ d ∈ u, d < 8) (hv : ∀ d ∈ v, d < 8) (hl : u.length + v.length ≤ 2) (hZ : Z (some (zi (nI (tcl (u ++ [A.2.1 x y, A.2.2 x y] ++ v))))) M) : Ctr 0 G mi_PM_appliedAt [zr 0 k, zi (nI (tcl (u ++ [x, y] ++ v))), zi (nI (3 * v.length))] M Z := by
  have hn := hA.1.1
  have hLR := hA.1.2 x y hx hy
  have e : ∀ a b, tcl (u ++ [a, b] ++ v) = 8 ^ v.length * (64 * tcl u + (8 * a + b)) + tcl v := by
    intro a b
    rw [tcl_app, tcl_app, show tcl [a, b] = 8 * a + b by simp [tcl], show [a, b].length = 2 from rfl, Nat.mul_comm (8 ^ v.length), Nat.mul_comm (tcl u)]
  have hvl := tcl_lt hv
  have hul := tcl_lt hu
  have hp : 0 < 8 ^ v.length := Nat.pow_pos (by decide)
  have hb : tcl (u ++ [x, y] ++ v) < 4096 := by
    have h1 := tcl_lt (w := u ++ [x, y] ++ v) (by
      intro d hd
      simp only [List.mem_append, List.mem_cons, List.not_mem_nil, or_false] at hd
      rcases hd with (h | h | h) | h
      · exact hu d h
      · omega
      · omega
      · exact hv d h)
    have h2 : 8 ^ (u ++ [x, y] ++ v).length ≤ 8 ^ 4 := Nat.pow_le_pow_right (by decide) (by simp; omega)
    omega
  refine go_PM_appliedAt (fun Kz hKz => ?_)
  conv => whnf
  have h64 : nI (tcl (u ++ [x, y] ++ v)) >>> (nI (3 * v.length) &&& 31) &&& nI 63 = nI (8 * x + y) := by
    rw [n_shr _ (by omega) (by omega), n_and, show (63 : Nat) = 2 ^ 6 - 1 from rfl, Nat.and_two_pow_sub_one_eq_mod, Nat.pow_mul, e, show (2 : Nat) ^ 3 = 8 from rfl, Nat.mul_add_div hp, Nat.div_eq_of_lt hvl]
    congr 1
    omega
  rw [h64]
  refine ⟨by first | assumption | decide, ?_⟩
  conv => whnf
  refine s_PM_imageOf hk (by omega) ?_
  conv => whnf
  rw [hA.2.2 x y hx hy, n_xor, n_shl _ _ (by omega), n_xor, Nat.pow_mul, e, show (2 : Nat) ^ 3 = 8 from rfl, n_swap (by omega) (by omega) hvl, ← e]
  exact hZ
end
end
section
/-! counting: as many pigeons as holes -/
theorem php : ∀ (n : Nat) (f : Nat → Nat), (∀ i, i ≤ n → f i < n) → ∃ i j, i < j ∧ j ≤ n ∧ f i = f j := by
  intro n
  induction n with
  | zero => intro f h; exact absurd (h 0 (Nat.le_refl 0)) (Nat.not_lt_zero _)
  | succ n ih =>
    intro f h
    by_cases hx : ∃ i, i ≤ n ∧ f i = f (n + 1)
    · obtain ⟨i, hi, he⟩ := hx
      exact ⟨i, n + 1, by omega, Nat.le_refl _, he⟩
    · have hne : ∀ i, i ≤ n → f i ≠ f (n + 1) := fun i hi he => hx ⟨i, hi, he⟩
      obtain ⟨i, j, hij, hj, he⟩ := ih (fun i => if f i = n then f (n + 1) else f i) (fun i hi => by
        have h1 := h i (by omega)
        have h2 := h (n + 1) (Nat.le_refl _)
        have h3 := hne i hi
        by_cases hc : f i = n
        · simp only [hc, if_true]; omega
        · simp only [hc, if_false]; omega)
      refine ⟨i, j, hij, by omega, ?_⟩
      have h1 := hne i (by omega)
      have h2 := hne j hj
      by_cases hc : f i = n
      · by_cases hd : f j = n
        · rw [hc, hd]
        · rw [if_pos hc, if_neg hd] at he
          exact absurd he.symm h2
      · by_cases hd : f j = n
        · rw [if_neg hc, if_pos hd] at he
          exact absurd he h1
        · rw [if_neg hc, if_neg hd] at he
          exact he
theorem inj_surj {n : Nat} {f : Nat → Nat} (hf : ∀ i, i < n → f i < n) (hinj : ∀ i j, i < n → j < n → f i = f j → i = j) : ∀ v, v < n → ∃ i, i < n ∧ f i = v := by
  intro v hv
  refine Classical.byContradiction fun hno => ?_
  have hne : ∀ i, i < n → f i ≠ v := fun i hi he => hno ⟨i, hi, he⟩
  obtain ⟨m, rfl⟩ : ∃ m, n = m + 1 := ⟨n - 1, by omega⟩
  obtain ⟨i, j, hij, hj, he⟩ := php m (fun i => if f i = m then v else f i) (fun i hi => by
    have h1 := hf i (by omega)
    have h3 := hne i (by omega)
    by_cases hc : f i = m
    · simp only [hc, if_true]
      have : f i ≠ v := h3
      omega
    · simp only [hc, if_false]; omega)
  have h1 := hne i (by omega)
  have h2 := hne j (by omega)
  have : f i = f j := by
    by_cases hc : f i = m
    · by_cases hd : f j = m
      · rw [hc, hd]
      · rw [if_pos hc, if_neg hd] at he
        exact absurd he.symm h2
    · by_cases hd : f j = m
      · rw [if_neg hc, if_pos hd] at he
        exact absurd he h1
      · rw [if_neg hc, if_neg hd] at he
        exact he
  have := hinj i j (by omega) (by omega) this
  omega
theorem surj_inj {n : Nat} {f : Nat → Nat} (hf : ∀ i, i < n → f i < n) (hs : ∀ v, v < n → ∃ i, i < n ∧ f i = v) : ∀ i j, i < n → j < n → f i = f j → i = j := by
  have h : ∀ v, ∃ i, v < n → i < n ∧ f i = v := by
    intro v
    by_cases hv : v < n
    · obtain ⟨i, hi⟩ := hs v hv
      exact ⟨i, fun _ => hi⟩
    · exact ⟨0, fun q => absurd q hv⟩
  obtain ⟨g, hg⟩ := Classical.axiomOfChoice h
  have gs := inj_surj (f := g) (fun v hv => (hg v hv).1) (fun v w hv hw e => by rw [← (hg v hv).2, ← (hg w hw).2, e])
  intro i j hi hj he
  obtain ⟨v, hv, rfl⟩ := gs i hi
  obtain ⟨w, hw, rfl⟩ := gs j hj
  rw [(hg v hv).2, (hg w hw).2] at he
  rw [he]
theorem st8_bit (m : Nat) : ∀ k v, (st8 m k).testBit v = true ↔ ∃ i, i < k ∧ m / 8 ^ i % 8 = v := by
  intro k
  induction k with
  | zero => intro v; simp [st8]
  | succ k ih =>
    intro v
    rw [st8, Nat.testBit_or, Bool.or_eq_true, ih, Nat.testBit_two_pow]
    constructor
    · rintro (⟨i, hi, he⟩ | h)
      · exact ⟨i, by omega, he⟩
      · exact ⟨k, by omega, of_decide_eq_true h⟩
    · rintro ⟨i, hi, he⟩
      rcases Nat.lt_succ_iff_lt_or_eq.mp hi with h | rfl
      · exact Or.inl ⟨i, h, he⟩
      · exact Or.inr (decide_eq_true he)
/-- number i of a code -/
def dg (m i : Nat) : Nat := m / 8 ^ i % 8
theorem isP_facts {m n : Nat} (h : isP m n) : (∀ i, i < n → dg m i < n) ∧ (∀ i j, i < n → j < n → dg m i = dg m j → i = j) ∧ ∀ v, v < n → ∃ i, i < n ∧ dg m i = v := by
  have h1 : ∀ i, i < n → dg m i < n := h.1.2
  have h2 : ∀ v, v < n → ∃ i, i < n ∧ dg m i = v := by
    intro v hv
    have hb : (st8 m n).testBit v = true := by rw [h.2, Nat.testBit_two_pow_sub_one]; exact decide_eq_true hv
    exact (st8_bit m n v).mp hb
  exact ⟨h1, surj_inj h1 h2, h2⟩
theorem isP_of {m n : Nat} (hc : isC m n n) (hinj : ∀ i j, i < n → j < n → dg m i = dg m j → i = j) : isP m n := by
  refine ⟨hc, Nat.eq_of_testBit_eq fun v => ?_⟩
  rw [Nat.testBit_two_pow_sub_one, Bool.eq_iff_iff, st8_bit]
  constructor
  · rintro ⟨i, hi, rfl⟩
    exact decide_eq_true (hc.2 i hi)
  · intro hv
    exact inj_surj (f := dg m) hc.2 hinj v (of_decide_eq_true hv)
/-! maps made of maps -/
def pinj (A : ZP) : Prop := ∀ x y x' y', x < A.1 → y < A.1 → x' < A.1 → y' < A.1 → A.2.1 x y = A.2.1 x' y' → A.2.2 x y = A.2.2 x' y' → x = x' ∧ y = y'
theorem pinj_surj {A : ZP} (hw : pwf A) (hi : pinj A) : ∀ p q, p < A.1 → q < A.1 → ∃ z : Nat × Nat, z.1 < A.1 ∧ z.2 < A.1 ∧ A.2.1 z.1 z.2 = p ∧ A.2.2 z.1 z.2 = q := by
  intro p q hp hq
  have h0 : 0 < A.1 := by omega
  have e : ∀ a b, b < A.1 → (A.1 * a + b) / A.1 = a ∧ (A.1 * a + b) % A.1 = b := by
    intro a b hb
    exact ⟨by rw [Nat.mul_add_div h0, Nat.div_eq_of_lt hb, Nat.add_zero], by rw [Nat.mul_add_mod, Nat.mod_eq_of_lt hb]⟩
  have lt : ∀ a b, a < A.1 → b < A.1 → A.1 * a + b < A.1 * A.1 := by
    intro a b ha hb
    have : A.1 * (a + 1) ≤ A.1 * A.1 := Nat.mul_le_mul_left _ ha
    rw [Nat.mul_add] at this
    omega
  have dv : ∀ i, i < A.1 * A.1 → i / A.1 < A.1 ∧ i % A.1 < A.1 := fun i hi => ⟨Nat.div_lt_of_lt_mul hi, Nat.mod_lt _ h0⟩
  obtain ⟨i, hi1, hi2⟩ := inj_surj (n := A.1 * A.1) (f := fun i => A.1 * A.2.1 (i / A.1) (i % A.1) + A.2.2 (i / A.1) (i % A.1)) (fun i h => by
    have h1 := dv i h
    have h2 := hw.2 _ _ h1.1 h1.2
    exact lt _ _ h2.1 h2.2) (fun i j h h' he => by
    have h1 := dv i h
    have h2 := dv j h'
    have h3 := hw.2 _ _ h1.1 h1.2
    have h4 := hw.2 _ _ h2.1 h2.2
    have h5 := congrArg (· / A.1) he
    have h6 := congrArg (· % A.1) he
    simp only [(e _ _ h3.2).1, (e _ _ h4.2).1, (e _ _ h3.2).2, (e _ _ h4.2).2] at h5 h6
    have h7 := hi _ _ _ _ h1.1 h1.2 h2.1 h2.2 h5 h6
    rw [← Nat.div_add_mod i A.1, ← Nat.div_add_mod j A.1, h7.1, h7.2]) (A.1 * p + q) (lt p q hp hq)
  have h1 := dv i hi1
  have h3 := hw.2 _ _ h1.1 h1.2
  have h5 := congrArg (· / A.1) hi2
  have h6 := congrArg (· % A.1) hi2
  simp only [(e _ _ h3.2).1, (e _ _ hq).1, (e _ _ h3.2).2, (e _ _ hq).2] at h5 h6
  exact ⟨(i / A.1, i % A.1), h1.1, h1.2, h5, h6⟩
noncomputable def pinvz (A : ZP) (p q : Nat) : Nat × Nat := Classical.epsilon fun z : Nat × Nat => z.1 < A.1 ∧ z.2 < A.1 ∧ A.2.1 z.1 z.2 = p ∧ A.2.2 z.1 z.2 = q
/-- the inverse map -/
noncomputable def pinv (A : ZP) : ZP := (A.1, fun p q => (pinvz A p q).1, fun p q => (pinvz A p q).2)
theorem pinvz_spec {A : ZP} (hw : pwf A) (hi : pinj A) {p q : Nat} (hp : p < A.1) (hq : q < A.1) : (pinvz A p q).1 < A.1 ∧ (pinvz A p q).2 < A.1 ∧ A.2.1 (pinvz A p q).1 (pinvz A p q).2 = p ∧ A.2.2 (pinvz A p q).1 (pinvz A p q).2 = q :=
  Classical.epsilon_spec (pinj_surj hw hi p q hp hq)
theorem pinvz_of {A : ZP} (hw : pwf A) (hi : pinj A) {x y : Nat} (hx : x < A.1) (hy : y < A.1) : pinvz A (A.2.1 x y) (A.2.2 x y) = (x, y) := by
  have h0 := hw.2 x y hx hy
  have h1 := pinvz_spec hw hi h0.1 h0.2
  have h2 := hi _ _ _ _ h1.1 h1.2.1 hx hy h1.2.2.1 h1.2.2.2
  exact Prod.ext h2.1 h2.2
theorem pinv_wf {A : ZP} (hw : pwf A) (hi : pinj A) : pwf (pinv A) := ⟨hw.1, fun p q hp hq => by
  have h := pinvz_spec hw hi (show p < A.1 from hp) (show q < A.1 from hq)
  exact ⟨h.1, h.2.1⟩⟩
/-- a map's points renamed by f, g the names backward -/
def pren (A : ZP) (f g : Nat → Nat) : ZP := (A.1, fun x y => f (A.2.1 (g x) (g y)), fun x y => f (A.2.2 (g x) (g y)))
def pmir (A : ZP) : ZP := (A.1, fun x y => A.2.2 y x, fun x y => A.2.1 y x)
def puni (A B : ZP) : ZP := (A.1 + B.1, fun x y => if x < A.1 then (if y < A.1 then A.2.1 x y else y) else (if y < A.1 then y else A.1 + B.2.1 (x - A.1) (y - A.1)), fun x y => if x < A.1 then (if y < A.1 then A.2.2 x y else x) else (if y < A.1 then x else A.1 + B.2.2 (x - A.1) (y - A.1)))
def pprod (A B : ZP) : ZP := (A.1 * B.1, fun x y => B.1 * A.2.1 (x / B.1) (y / B.1) + B.2.1 (x % B.1) (y % B.1), fun x y => B.1 * A.2.2 (x / B.1) (y / B.1) + B.2.2 (x % B.1) (y % B.1))
def ptwist (n f g : Nat) : ZP := (n, fun _ y => dg f y, fun x _ => dg g x)
def pflip (n : Nat) : ZP := (n, fun _ y => y, fun x _ => x)
end
section
section
variable {G : ZG} {M : ZM} {Z : Option ZV → ZM → Prop}
theorem s_PM_becomeTwist {k n f g : Nat} (hk : k < 10) (hn : n ≤ 6) (hf : f < 2 ^ 32) (hg : g < 2 ^ 32) (hZ : ∀ M', zsm (pmS k) M M' ∧ M'.1 0 k 1 = nI n ∧ (∀ x y, x < n → y < n → M'.1 1 k (8 * x + y) = nI (8 * (f / 8 ^ y % 8) + g / 8 ^ x % 8)) → Z none M') : Ctr 0 G mi_PM_becomeTwist [zr 0 k, zi (nI n), zi (nI f), zi (nI g)] M Z := by
  refine go_PM_becomeTwist (fun Kz hKz => ?_)
  conv => whnf
  refine ⟨by first | assumption | decide, ?_⟩
  conv => whnf
  refine hKz _ _ _ _ ?_
  refine wloop (k := k) (pos := fun a b => 8 * a + b) (val := fun a b => 8 * (f / 8 ^ b % 8) + g / 8 ^ a % 8) (O := fun x M' => V 0 G mi_PM_becomeTwist Z 8 [(0, zr 0 k), (1, zi (nI n)), (2, zi (nI f)), (3, zi (nI g)), (4, zi (nI x))] [] M') (I := fun x y M' => V 0 G mi_PM_becomeTwist Z 17 [(0, zr 0 k), (1, zi (nI n)), (2, zi (nI f)), (3, zi (nI g)), (4, zi (nI x)), (5, zi (nI y))] [] M') (fun x y hx hy => pos8_inj hn hx hy) (fun M' h => ?_) (fun x hx M' h => ?_) (fun x hx M' h => ?_) (fun x y hx hy M' h h9 => ?_)
  · refine z_run (cuts := cu_PM_becomeTwist) ok_PM_becomeTwist (fun Kz hKz => ?_)
    conv => whnf
    rw [nI_leI (by omega) (by omega)]
    refine ⟨fun _ => ?_, fun q => absurd (Nat.le_refl _) q⟩
    conv => whnf
    exact hZ M' (winv_end h)
  · refine z_run (cuts := cu_PM_becomeTwist) ok_PM_becomeTwist (fun Kz hKz => ?_)
    conv => whnf
    rw [nI_leI (by omega) (by omega)]
    refine ⟨fun q => absurd q (by omega), fun _ => ?_⟩
    conv => whnf
    refine hKz _ _ _ _ ?_
    exact h
  · refine z_run (cuts := cu_PM_becomeTwist) ok_PM_becomeTwist (fun Kz hKz => ?_)
    conv => whnf
    rw [nI_leI (by omega) (by omega)]
    refine ⟨fun _ => ?_, fun q => absurd (Nat.le_refl _) q⟩
    conv => whnf
    refine hKz _ _ _ _ ?_
    rw [nI_1']
    exact h
  · refine z_run (cuts := cu_PM_becomeTwist) ok_PM_becomeTwist (fun Kz hKz => ?_)
    conv => whnf
    rw [nI_leI (by omega) (by omega)]
    refine ⟨fun q => absurd q (by omega), fun _ => ?_⟩
    conv => whnf
    refine s_CO_digit hf (by omega) ?_
    conv => whnf
    refine s_CO_digit hg (by omega) ?_
    conv => whnf
    refine ⟨by first | assumption | decide, ?_⟩
    conv => whnf
    refine s_PM_setImage hk (by omega) (by omega) (d8 f y) (d8 g x) ?_
    conv => whnf
    refine hKz _ _ _ _ ?_
    rw [nI_1']
    exact h9
theorem idn_dig : ∀ i, i < 6 → 181896 / 8 ^ i % 8 = i := by decide
theorem s_PM_becomeFlip {k n : Nat} (hk : k < 10) (hn : n ≤ 6) (hZ : ∀ M', zsm (pmS k) M M' ∧ M'.1 0 k 1 = nI n ∧ (∀ x y, x < n → y < n → M'.1 1 k (8 * x + y) = nI (8 * y + x)) → Z none M') : Ctr 0 G mi_PM_becomeFlip [zr 0 k, zi (nI n)] M Z := by
  refine go_PM_becomeFlip (fun Kz hKz => ?_)
  conv => whnf
  refine ⟨by first | assumption | decide, ?_⟩
  conv => whnf
  refine s_PM_becomeTwist hk hn (by decide) (by decide) (fun M' h => ?_)
  conv => whnf
  refine hZ M' ⟨h.1, h.2.1, fun x y hx hy => ?_⟩
  rw [h.2.2 x y hx hy, idn_dig x (by omega), idn_dig y (by omega)]
theorem s_PM_becomeMirror {k j : Nat} {A : ZP} (hk : k < 10) (hj : j < 10) (hkj : k ≠ j) (hA : isPM M j A) (hZ : ∀ M', zsm (pmS k) M M' ∧ M'.1 0 k 1 = nI A.1 ∧ (∀ x y, x < A.1 → y < A.1 → M'.1 1 k (8 * x + y) = nI (8 * A.2.2 y x + A.2.1 y x)) → Z none M') : Ctr 0 G mi_PM_becomeMirror [zr 0 k, zr 0 j] M Z := by
  have hn := hA.1.1
  refine go_PM_becomeMirror (fun Kz hKz => ?_)
  conv => whnf
  refine ⟨by first | assumption | decide, ?_⟩
  conv => whnf
  refine ⟨by first | assumption | decide, ?_⟩
  conv => whnf
  refine hKz _ _ _ _ ?_
  rw [hA.2.1]
  have hp : ∀ {M' : ZM} {x y : Nat}, winv (zset 0 k 1 (nI A.1) M) k A.1 (fun a b => 8 * a + b) (fun a b => 8 * A.2.2 b a + A.2.1 b a) x y M' → M'.1 0 k 1 = nI A.1 ∧ isPM M' j A := by
    intro M' x y h
    refine ⟨by rw [winv_pts h, zset_eq], ?_⟩
    have h1 : isPM (zset 0 k 1 (nI A.1) M) j A := isPM_same hA (S := pmS k) (zsm_set ⟨Or.inl rfl, rfl⟩) (fun q => hkj q.2.symm) (fun q => hkj q.2.symm)
    exact isPM_same h1 h.1 (fun q => absurd q.1 (by decide)) (fun q => hkj q.2.symm)
  refine wloop (k := k) (pos := fun a b => 8 * a + b) (val := fun a b => 8 * A.2.2 b a + A.2.1 b a) (n := A.1) (O := fun x M' => M'.1 0 k 1 = nI A.1 → V 0 G mi_PM_becomeMirror Z 10 [(0, zr 0 k), (1, zr 0 j), (2, zi (nI x))] [] M') (I := fun x y M' => M'.1 0 k 1 = nI A.1 → V 0 G mi_PM_becomeMirror Z 20 [(0, zr 0 k), (1, zr 0 j), (2, zi (nI x)), (3, zi (nI y))] [] M') (fun x y hx hy => pos8_inj hn hx hy) (fun M' h e => ?_) (fun x hx M' h e => ?_) (fun x hx M' h e => ?_) (fun x y hx hy M' h h9 e => ?_) zset_eq
  · refine z_run (cuts := cu_PM_becomeMirror) ok_PM_becomeMirror (fun Kz hKz => ?_)
    conv => whnf
    refine ⟨by first | assumption | decide, ?_⟩
    conv => whnf
    rw [e, nI_leI (by omega) (by omega)]
    refine ⟨fun _ => ?_, fun q => absurd (Nat.le_refl _) q⟩
    conv => whnf
    exact hZ M' (winv_end h)
  · refine z_run (cuts := cu_PM_becomeMirror) ok_PM_becomeMirror (fun Kz hKz => ?_)
    conv => whnf
    refine ⟨by first | assumption | decide, ?_⟩
    conv => whnf
    rw [e, nI_leI (by omega) (by omega)]
    refine ⟨fun q => absurd q (by omega), fun _ => ?_⟩
    conv => whnf
    refine hKz _ _ _ _ ?_
    exact h e
  · refine z_run (cuts := cu_PM_becomeMirror) ok_PM_becomeMirror (fun Kz hKz => ?_)
    conv => whnf
    refine ⟨by first | assumption | decide, ?_⟩
    conv => whnf
    rw [e, nI_leI (by omega) (by omega)]
    refine ⟨fun _ => ?_, fun q => absurd (Nat.le_refl _) q⟩
    conv => whnf
    refine hKz _ _ _ _ ?_
    rw [nI_1']
    exact h e
  · have hA' := (hp h).2
    have hLR := hA.1.2 y x hy hx
    refine z_run (cuts := cu_PM_becomeMirror) ok_PM_becomeMirror (fun Kz hKz => ?_)
    conv => whnf
    refine ⟨by first | assumption | decide, ?_⟩
    conv => whnf
    rw [e, nI_leI (by omega) (by omega)]
    refine ⟨fun q => absurd q (by omega), fun _ => ?_⟩
    conv => whnf
    refine ⟨by first | assumption | decide, ?_⟩
    conv => whnf
    refine s_PM_right hj hA' hy hx ?_
    conv => whnf
    refine ⟨by first | assumption | decide, ?_⟩
    conv => whnf
    refine s_PM_left hj hA' hy hx ?_
    conv => whnf
    refine ⟨by first | assumption | decide, ?_⟩
    conv => whnf
    refine s_PM_setImage hk (by omega) (by omega) (by omega) (by omega) ?_
    conv => whnf
    refine hKz _ _ _ _ ?_
    rw [nI_1']
    exact h9 (by rw [zset_ne (by omega)]; exact e)
theorem s_PM_becomeInverse {k j : Nat} {A : ZP} (hk : k < 10) (hj : j < 10) (hkj : k ≠ j) (hA : isPM M j A) (hZ : ∀ M', zsm (pmS k) M M' → M'.1 0 k 1 = nI A.1 → (pinj A → isPM M' k (pinv A)) → Z none M') : Ctr 0 G mi_PM_becomeInverse [zr 0 k, zr 0 j] M Z := by
  have hn := hA.1.1
  refine go_PM_becomeInverse (fun Kz hKz => ?_)
  conv => whnf
  refine ⟨by first | assumption | decide, ?_⟩
  conv => whnf
  refine ⟨by first | assumption | decide, ?_⟩
  conv => whnf
  refine hKz _ _ _ _ ?_
  rw [hA.2.1]
  have hp : ∀ {M' : ZM}, zsm (rwS k) (zset 0 k 1 (nI A.1) M) M' → M'.1 0 k 1 = nI A.1 ∧ isPM M' j A := by
    intro M' h
    refine ⟨by rw [h.2 0 k (fun q => absurd q.1 (by decide)), zset_eq], ?_⟩
    have h1 : isPM (zset 0 k 1 (nI A.1) M) j A := isPM_same hA (S := pmS k) (zsm_set ⟨Or.inl rfl, rfl⟩) (fun q => hkj q.2.symm) (fun q => hkj q.2.symm)
    exact isPM_same h1 h (fun q => absurd q.1 (by decide)) (fun q => hkj q.2.symm)
  refine wloop0 (n := A.1) (inv := fun x y M' => zsm (rwS k) (zset 0 k 1 (nI A.1) M) M' ∧ (pinj A → winv (zset 0 k 1 (nI A.1) M) k A.1 (fun a b => 8 * A.2.1 a b + A.2.2 a b) (fun a b => 8 * a + b) x y M')) (O := fun x M' => V 0 G mi_PM_becomeInverse Z 10 [(0, zr 0 k), (1, zr 0 j), (2, zi (nI x))] [] M') (I := fun x y M' => V 0 G mi_PM_becomeInverse Z 20 [(0, zr 0 k), (1, zr 0 j), (2, zi (nI x)), (3, zi (nI y))] [] M') ⟨zsm_refl _ _, fun _ => winv_start _ _ _ _ _⟩ (fun x M' h => ⟨h.1, fun q => winv_next (h.2 q)⟩) (fun M' h => ?_) (fun x hx M' h h9 => ?_) (fun x hx M' h h9 => ?_) (fun x y hx hy M' h h8 => ?_)
  · refine z_run (cuts := cu_PM_becomeInverse) ok_PM_becomeInverse (fun Kz hKz => ?_)
    conv => whnf
    refine ⟨by first | assumption | decide, ?_⟩
    conv => whnf
    rw [(hp h.1).1, nI_leI (by omega) (by omega)]
    refine ⟨fun _ => ?_, fun q => absurd (Nat.le_refl _) q⟩
    conv => whnf
    have hpt := (hp h.1).1
    have hsm : zsm (pmS k) M M' := zsm_trans (zsm_set (a := 0) (b := k) (c := 1) (v := nI A.1) ⟨Or.inl rfl, rfl⟩) (zsm_mono h.1 (by intro a b q; exact ⟨Or.inr q.1, q.2⟩))
    refine hZ M' hsm hpt (fun q => ⟨pinv_wf hA.1 q, hpt, fun x y hx hy => ?_⟩)
    obtain ⟨z, hz1, hz2, rfl, rfl⟩ := pinj_surj hA.1 q x y hx hy
    have := (h.2 q).2.1 z.1 z.2 hz1 hz2 (Or.inl hz1)
    rw [this]
    simp only [pinv, pinvz_of hA.1 q hz1 hz2]
  · refine z_run (cuts := cu_PM_becomeInverse) ok_PM_becomeInverse (fun Kz hKz => ?_)
    conv => whnf
    refine ⟨by first | assumption | decide, ?_⟩
    conv => whnf
    rw [(hp h.1).1, nI_leI (by omega) (by omega)]
    refine ⟨fun q => absurd q (by omega), fun _ => ?_⟩
    conv => whnf
    refine hKz _ _ _ _ ?_
    exact h9
  · refine z_run (cuts := cu_PM_becomeInverse) ok_PM_becomeInverse (fun Kz hKz => ?_)
    conv => whnf
    refine ⟨by first | assumption | decide, ?_⟩
    conv => whnf
    rw [(hp h.1).1, nI_leI (by omega) (by omega)]
    refine ⟨fun _ => ?_, fun q => absurd (Nat.le_refl _) q⟩
    conv => whnf
    refine hKz _ _ _ _ ?_
    rw [nI_1']
    exact h9
  · have hA' := (hp h.1).2
    have hLR := hA.1.2 x y hx hy
    have h9 := h8 (zset 1 k (8 * A.2.1 x y + A.2.2 x y) (nI (8 * x + y)) M') ⟨zsm_trans h.1 (zsm_set ⟨rfl, rfl⟩), fun q => winv_step hx hy (fun a b ha hb he => ?_) (h.2 q)⟩
    rotate_left
    · have h1 := hA.1.2 a b ha hb
      exact q a b x y ha hb hx hy (by omega) (by omega)
    · refine z_run (cuts := cu_PM_becomeInverse) ok_PM_becomeInverse (fun Kz hKz => ?_)
      conv => whnf
      refine ⟨by first | assumption | decide, ?_⟩
      conv => whnf
      rw [(hp h.1).1, nI_leI (by omega) (by omega)]
      refine ⟨fun q => absurd q (by omega), fun _ => ?_⟩
      conv => whnf
      refine ⟨by first | assumption | decide, ?_⟩
      conv => whnf
      refine s_PM_left hj hA' hx hy ?_
      conv => whnf
      refine ⟨by first | assumption | decide, ?_⟩
      conv => whnf
      refine s_PM_right hj hA' hx hy ?_
      conv => whnf
      refine ⟨by first | assumption | decide, ?_⟩
      conv => whnf
      refine s_PM_setImage hk (by omega) (by omega) (by omega) (by omega) ?_
      conv => whnf
      refine hKz _ _ _ _ ?_
      rw [nI_1']
      exact h9
theorem s_PM_becomeRenamed {k j f : Nat} {A : ZP} (hk : k < 10) (hj : j < 10) (hkj : k ≠ j) (hA : isPM M j A) (hf : f < 2 ^ 32) (hP : isP f A.1) (hZ : ∀ M', zsm (pmS k) M M' → M'.1 0 k 1 = nI A.1 → (∀ x y, x < A.1 → y < A.1 → M'.1 1 k (8 * dg f x + dg f y) = nI (8 * dg f (A.2.1 x y) + dg f (A.2.2 x y))) → Z none M') : Ctr 0 G mi_PM_becomeRenamed [zr 0 k, zr 0 j, zi (nI f)] M Z := by
  have hn := hA.1.1
  obtain ⟨hf1, hf2, -⟩ := isP_facts hP
  refine go_PM_becomeRenamed (fun Kz hKz => ?_)
  conv => whnf
  refine ⟨by first | assumption | decide, ?_⟩
  conv => whnf
  refine ⟨by first | assumption | decide, ?_⟩
  conv => whnf
  refine hKz _ _ _ _ ?_
  rw [hA.2.1]
  have hp : ∀ {M' : ZM} {x y : Nat}, winv (zset 0 k 1 (nI A.1) M) k A.1 (fun a b => 8 * dg f a + dg f b) (fun a b => 8 * dg f (A.2.1 a b) + dg f (A.2.2 a b)) x y M' → M'.1 0 k 1 = nI A.1 ∧ isPM M' j A := by
    intro M' x y h
    refine ⟨by rw [winv_pts h, zset_eq], ?_⟩
    have h1 : isPM (zset 0 k 1 (nI A.1) M) j A := isPM_same hA (S := pmS k) (zsm_set ⟨Or.inl rfl, rfl⟩) (fun q => hkj q.2.symm) (fun q => hkj q.2.symm)
    exact isPM_same h1 h.1 (fun q => absurd q.1 (by decide)) (fun q => hkj q.2.symm)
  refine wloop (k := k) (pos := fun a b => 8 * dg f a + dg f b) (val := fun a b => 8 * dg f (A.2.1 a b) + dg f (A.2.2 a b)) (n := A.1) (O := fun x M' => M'.1 0 k 1 = nI A.1 → V 0 G mi_PM_becomeRenamed Z 10 [(0, zr 0 k), (1, zr 0 j), (2, zi (nI f)), (3, zi (nI x))] [] M') (I := fun x y M' => M'.1 0 k 1 = nI A.1 → V 0 G mi_PM_becomeRenamed Z 21 [(0, zr 0 k), (1, zr 0 j), (2, zi (nI f)), (3, zi (nI x)), (4, zi (nI y))] [] M') (fun x y hx hy a b ha hb he => ?_) (fun M' h e => ?_) (fun x hx M' h e => ?_) (fun x hx M' h e => ?_) (fun x y hx hy M' h h9 e => ?_) zset_eq
  · have h1 := hf1 a ha
    have h2 := hf1 b hb
    have h3 := hf1 x hx
    have h4 := hf1 y hy
    exact ⟨hf2 a x ha hx (by omega), hf2 b y hb hy (by omega)⟩
  · refine z_run (cuts := cu_PM_becomeRenamed) ok_PM_becomeRenamed (fun Kz hKz => ?_)
    conv => whnf
    refine ⟨by first | assumption | decide, ?_⟩
    conv => whnf
    rw [e, nI_leI (by omega) (by omega)]
    refine ⟨fun _ => ?_, fun q => absurd (Nat.le_refl _) q⟩
    conv => whnf
    have h5 := winv_end h
    exact hZ M' h5.1 h5.2.1 h5.2.2
  · refine z_run (cuts := cu_PM_becomeRenamed) ok_PM_becomeRenamed (fun Kz hKz => ?_)
    conv => whnf
    refine ⟨by first | assumption | decide, ?_⟩
    conv => whnf
    rw [e, nI_leI (by omega) (by omega)]
    refine ⟨fun q => absurd q (by omega), fun _ => ?_⟩
    conv => whnf
    refine hKz _ _ _ _ ?_
    exact h e
  · refine z_run (cuts := cu_PM_becomeRenamed) ok_PM_becomeRenamed (fun Kz hKz => ?_)
    conv => whnf
    refine ⟨by first | assumption | decide, ?_⟩
    conv => whnf
    rw [e, nI_leI (by omega) (by omega)]
    refine ⟨fun _ => ?_, fun q => absurd (Nat.le_refl _) q⟩
    conv => whnf
    refine hKz _ _ _ _ ?_
    rw [nI_1']
    exact h e
  · have hA' := (hp h).2
    have hLR := hA.1.2 x y hx hy
    refine z_run (cuts := cu_PM_becomeRenamed) ok_PM_becomeRenamed (fun Kz hKz => ?_)
    conv => whnf
    refine ⟨by first | assumption | decide, ?_⟩
    conv => whnf
    rw [e, nI_leI (by omega) (by omega)]
    refine ⟨fun q => absurd q (by omega), fun _ => ?_⟩
    conv => whnf
    refine ⟨by first | assumption | decide, ?_⟩
    conv => whnf
    refine s_PM_left hj hA' hx hy ?_
    conv => whnf
    refine s_CO_digit hf (by omega) ?_
    conv => whnf
    refine ⟨by first | assumption | decide, ?_⟩
    conv => whnf
    refine s_PM_right hj hA' hx hy ?_
    conv => whnf
    refine s_CO_digit hf (by omega) ?_
    conv => whnf
    refine s_CO_digit hf (by omega) ?_
    conv => whnf
    refine s_CO_digit hf (by omega) ?_
    conv => whnf
    refine ⟨by first | assumption | decide, ?_⟩
    conv => whnf
    refine s_PM_setImage hk (d8 _ _) (d8 _ _) (d8 _ _) (d8 _ _) ?_
    conv => whnf
    refine hKz _ _ _ _ ?_
    rw [nI_1']
    exact h9 (by rw [zset_ne (by omega)]; exact e)
theorem s_PM_setShifted {k j d : Nat} {A : ZP} (hk : k < 10) (hj : j < 10) (hkj : k ≠ j) (hA : isPM M j A) (hd : d + A.1 ≤ 6) (hZ : ∀ M', winv M k A.1 (fun a b => 8 * (d + a) + (d + b)) (fun a b => 8 * (d + A.2.1 a b) + (d + A.2.2 a b)) A.1 0 M' → Z none M') : Ctr 0 G mi_PM_setShifted [zr 0 k, zr 0 j, zi (nI d)] M Z := by
  have hn := hA.1.1
  refine go_PM_setShifted (fun Kz hKz => ?_)
  conv => whnf
  refine hKz _ _ _ _ ?_
  have hp : ∀ {M' : ZM} {x y : Nat}, winv M k A.1 (fun a b => 8 * (d + a) + (d + b)) (fun a b => 8 * (d + A.2.1 a b) + (d + A.2.2 a b)) x y M' → isPM M' j A := fun h => isPM_same hA h.1 (fun q => absurd q.1 (by decide)) (fun q => hkj q.2.symm)
  refine wloop0 (n := A.1) (inv := winv M k A.1 (fun a b => 8 * (d + a) + (d + b)) (fun a b => 8 * (d + A.2.1 a b) + (d + A.2.2 a b))) (O := fun x M' => V 0 G mi_PM_setShifted Z 2 [(0, zr 0 k), (1, zr 0 j), (2, zi (nI d)), (3, zi (nI x))] [] M') (I := fun x y M' => V 0 G mi_PM_setShifted Z 13 [(0, zr 0 k), (1, zr 0 j), (2, zi (nI d)), (3, zi (nI x)), (4, zi (nI y))] [] M') (winv_start _ _ _ _ _) (fun x M' h => winv_next h) (fun M' h => ?_) (fun x hx M' h h9 => ?_) (fun x hx M' h h9 => ?_) (fun x y hx hy M' h h8 => ?_)
  · refine z_run (cuts := cu_PM_setShifted) ok_PM_setShifted (fun Kz hKz => ?_)
    conv => whnf
    refine ⟨by first | assumption | decide, ?_⟩
    conv => whnf
    rw [(hp h).2.1, nI_leI (by omega) (by omega)]
    refine ⟨fun _ => ?_, fun q => absurd (Nat.le_refl _) q⟩
    conv => whnf
    exact hZ M' h
  · refine z_run (cuts := cu_PM_setShifted) ok_PM_setShifted (fun Kz hKz => ?_)
    conv => whnf
    refine ⟨by first | assumption | decide, ?_⟩
    conv => whnf
    rw [(hp h).2.1, nI_leI (by omega) (by omega)]
    refine ⟨fun q => absurd q (by omega), fun _ => ?_⟩
    conv => whnf
    refine hKz _ _ _ _ ?_
    exact h9
  · refine z_run (cuts := cu_PM_setShifted) ok_PM_setShifted (fun Kz hKz => ?_)
    conv => whnf
    refine ⟨by first | assumption | decide, ?_⟩
    conv => whnf
    rw [(hp h).2.1, nI_leI (by omega) (by omega)]
    refine ⟨fun _ => ?_, fun q => absurd (Nat.le_refl _) q⟩
    conv => whnf
    refine hKz _ _ _ _ ?_
    rw [nI_1']
    exact h9
  · have hA' := hp h
    have hLR := hA.1.2 x y hx hy
    refine z_run (cuts := cu_PM_setShifted) ok_PM_setShifted (fun Kz hKz => ?_)
    conv => whnf
    refine ⟨by first | assumption | decide, ?_⟩
    conv => whnf
    rw [(hp h).2.1, nI_leI (by omega) (by omega)]
    refine ⟨fun q => absurd q (by omega), fun _ => ?_⟩
    conv => whnf
    refine ⟨by first | assumption | decide, ?_⟩
    conv => whnf
    refine s_PM_left hj hA' hx hy ?_
    conv => whnf
    refine ⟨by first | assumption | decide, ?_⟩
    conv => whnf
    refine s_PM_right hj hA' hx hy ?_
    conv => whnf
    refine ⟨by first | assumption | decide, ?_⟩
    conv => whnf
    rw [nI_add, nI_add, nI_add, nI_add]
    refine s_PM_setImage hk (by omega) (by omega) (by omega) (by omega) ?_
    conv => whnf
    refine hKz _ _ _ _ ?_
    rw [nI_1']
    exact h8 _ (winv_step (pos := fun a b => 8 * (d + a) + (d + b)) (val := fun a b => 8 * (d + A.2.1 a b) + (d + A.2.2 a b)) hx hy (fun a b ha hb he => by
      have he : 8 * (d + a) + (d + b) = 8 * (d + x) + (d + y) := he
      omega) h)
theorem puni_wf {A B : ZP} (hA : pwf A) (hB : pwf B) (h : A.1 + B.1 ≤ 6) : pwf (puni A B) := by
  refine ⟨h, fun x y hx hy => ?_⟩
  have hx : x < A.1 + B.1 := hx
  have hy : y < A.1 + B.1 := hy
  show _ < A.1 + B.1 ∧ _ < A.1 + B.1
  simp only [puni]
  by_cases h1 : x < A.1
  · by_cases h2 : y < A.1
    · have := hA.2 x y h1 h2
      simp only [h1, h2, if_true]
      omega
    · simp only [h1, h2, if_true, if_false]
      omega
  · by_cases h2 : y < A.1
    · simp only [h1, h2, if_true, if_false]
      omega
    · have := hB.2 (x - A.1) (y - A.1) (by omega) (by omega)
      simp only [h1, h2, if_false]
      omega
theorem s_PM_becomeUnion {k i j : Nat} {A B : ZP} (hk : k < 10) (hi : i < 10) (hj : j < 10) (hki : k ≠ i) (hkj : k ≠ j) (hA : isPM M i A) (hB : isPM M j B) (h6 : A.1 + B.1 ≤ 6) (hZ : ∀ M', zsm (pmS k) M M' → isPM M' k (puni A B) → Z none M') : Ctr 0 G mi_PM_becomeUnion [zr 0 k, zr 0 i, zr 0 j] M Z := by
  have hnA := hA.1.1
  have hnB := hB.1.1
  refine go_PM_becomeUnion (fun Kz hKz => ?_)
  conv => whnf
  refine ⟨by first | assumption | decide, ?_⟩
  conv => whnf
  refine ⟨by first | assumption | decide, ?_⟩
  conv => whnf
  rw [hA.2.1, hB.2.1, nI_add]
  refine ⟨by first | assumption | decide, ?_⟩
  conv => whnf
  refine s_PM_becomeFlip hk h6 (fun M1 h1 => ?_)
  conv => whnf
  refine ⟨by first | assumption | decide, ?_⟩
  conv => whnf
  have hA1 : isPM M1 i A := isPM_same hA h1.1 (fun q => hki q.2.symm) (fun q => hki q.2.symm)
  have hB1 : isPM M1 j B := isPM_same hB h1.1 (fun q => hkj q.2.symm) (fun q => hkj q.2.symm)
  refine s_PM_setShifted hk hi hki hA1 (by omega) (fun M2 h2 => ?_)
  have hA2 : isPM M2 i A := isPM_same hA1 h2.1 (fun q => absurd q.1 (by decide)) (fun q => hki q.2.symm)
  have hB2 : isPM M2 j B := isPM_same hB1 h2.1 (fun q => absurd q.1 (by decide)) (fun q => hkj q.2.symm)
  conv => whnf
  refine ⟨by first | assumption | decide, ?_⟩
  conv => whnf
  rw [hA2.2.1]
  refine ⟨by first | assumption | decide, ?_⟩
  conv => whnf
  refine s_PM_setShifted hk hj hkj hB2 (by omega) (fun M3 h3 => ?_)
  conv => whnf
  have hm : ∀ a b, rwS k a b → pmS k a b := fun a b q => ⟨Or.inr q.1, q.2⟩
  refine hZ M3 (zsm_trans h1.1 (zsm_trans (zsm_mono h2.1 hm) (zsm_mono h3.1 hm))) ⟨puni_wf hA.1 hB.1 h6, ?_, fun x y hx hy => ?_⟩
  · rw [winv_pts h3, winv_pts h2, h1.2.1]
    rfl
  · have hx : x < A.1 + B.1 := hx
    have hy : y < A.1 + B.1 := hy
    simp only [puni]
    by_cases hxy : ¬ x < A.1 ∧ ¬ y < A.1
    · have e := h3.2.1 (x - A.1) (y - A.1) (by omega) (by omega) (Or.inl (by omega))
      dsimp only at e
      rw [show A.1 + (x - A.1) = x by omega, show A.1 + (y - A.1) = y by omega] at e
      rw [if_neg hxy.1, if_neg hxy.2, if_neg hxy.1, if_neg hxy.2, e]
    · have e3 := h3.2.2 (8 * x + y) (fun a b ha hb _ he => by dsimp only at he; omega)
      rw [e3]
      by_cases hxy2 : x < A.1 ∧ y < A.1
      · have e := h2.2.1 x y hxy2.1 hxy2.2 (Or.inl hxy2.1)
        dsimp only at e
        rw [Nat.zero_add, Nat.zero_add] at e
        rw [e, if_pos hxy2.1, if_pos hxy2.2, if_pos hxy2.1, if_pos hxy2.2, Nat.zero_add, Nat.zero_add]
      · have e2 := h2.2.2 (8 * x + y) (fun a b ha hb _ he => by dsimp only at he; omega)
        rw [e2, h1.2.2 x y hx hy]
        by_cases h7 : x < A.1
        · have h8 : ¬ y < A.1 := fun q => hxy2 ⟨h7, q⟩
          rw [if_pos h7, if_neg h8, if_pos h7, if_neg h8]
        · have h8 : y < A.1 := Classical.not_not.mp (fun q => hxy ⟨h7, q⟩)
          rw [if_neg h7, if_pos h8, if_neg h7, if_pos h8]
end
end
section
theorem pprod_lt {n m a b : Nat} (ha : a < n) (hb : b < m) : m * a + b < n * m := by
  have : m * (a + 1) ≤ m * n := Nat.mul_le_mul_left _ ha
  rw [Nat.mul_add, Nat.mul_comm m n] at this
  omega
theorem pprod_wf {A B : ZP} (hA : pwf A) (hB : pwf B) (h : A.1 * B.1 ≤ 6) : pwf (pprod A B) := by
  refine ⟨h, fun x y hx hy => ?_⟩
  have hx : x < A.1 * B.1 := hx
  have hy : y < A.1 * B.1 := hy
  have h0 : 0 < B.1 := by
    rcases Nat.eq_zero_or_pos B.1 with q | q
    · rw [q] at hx; omega
    · exact q
  have hx1 : x / B.1 < A.1 := Nat.div_lt_of_lt_mul (by rw [Nat.mul_comm]; exact hx)
  have hy1 : y / B.1 < A.1 := Nat.div_lt_of_lt_mul (by rw [Nat.mul_comm]; exact hy)
  have e1 := hA.2 _ _ hx1 hy1
  have e2 := hB.2 (x % B.1) (y % B.1) (Nat.mod_lt _ h0) (Nat.mod_lt _ h0)
  exact ⟨pprod_lt e1.1 e2.1, pprod_lt e1.2 e2.2⟩
section
variable {G : ZG} {M : ZM} {Z : Option ZV → ZM → Prop}
theorem s_PM_setBlock {k i j x y : Nat} {A B : ZP} (hk : k < 10) (hi : i < 10) (hj : j < 10) (hki : k ≠ i) (hkj : k ≠ j) (hA : isPM M i A) (hB : isPM M j B) (h6 : A.1 * B.1 ≤ 6) (hx : x < A.1) (hy : y < A.1) (hZ : ∀ M', winv M k B.1 (fun a b => 8 * (B.1 * x + a) + (B.1 * y + b)) (fun a b => 8 * (B.1 * A.2.1 x y + B.2.1 a b) + (B.1 * A.2.2 x y + B.2.2 a b)) B.1 0 M' → Z none M') : Ctr 0 G mi_PM_setBlock [zr 0 k, zr 0 i, zr 0 j, zi (nI x), zi (nI y)] M Z := by
  have hn := hA.1.1
  have hm := hB.1.1
  have hLRA := hA.1.2 x y hx hy
  refine go_PM_setBlock (fun Kz hKz => ?_)
  conv => whnf
  refine ⟨by first | assumption | decide, ?_⟩
  conv => whnf
  refine ⟨by first | assumption | decide, ?_⟩
  conv => whnf
  refine s_PM_left hi hA hx hy ?_
  conv => whnf
  refine ⟨by first | assumption | decide, ?_⟩
  conv => whnf
  refine s_PM_right hi hA hx hy ?_
  conv => whnf
  refine hKz _ _ _ _ ?_
  rw [hB.2.1, pk_mul, pk_mul]
  have hp : ∀ {M' : ZM} {a b : Nat}, winv M k B.1 (fun a b => 8 * (B.1 * x + a) + (B.1 * y + b)) (fun a b => 8 * (B.1 * A.2.1 x y + B.2.1 a b) + (B.1 * A.2.2 x y + B.2.2 a b)) a b M' → isPM M' j B := fun h => isPM_same hB h.1 (fun q => absurd q.1 (by decide)) (fun q => hkj q.2.symm)
  refine wloop0 (n := B.1) (inv := winv M k B.1 (fun a b => 8 * (B.1 * x + a) + (B.1 * y + b)) (fun a b => 8 * (B.1 * A.2.1 x y + B.2.1 a b) + (B.1 * A.2.2 x y + B.2.2 a b))) (O := fun z M' => V 0 G mi_PM_setBlock Z 33 [(0, zr 0 k), (2, zr 0 j), (3, zi (nI x)), (4, zi (nI y)), (5, zi (nI B.1)), (6, zi (nI (A.2.1 x y * B.1))), (7, zi (nI (A.2.2 x y * B.1))), (8, zi (nI z))] [] M') (I := fun z w M' => V 0 G mi_PM_setBlock Z 43 [(0, zr 0 k), (2, zr 0 j), (3, zi (nI x)), (4, zi (nI y)), (5, zi (nI B.1)), (6, zi (nI (A.2.1 x y * B.1))), (7, zi (nI (A.2.2 x y * B.1))), (8, zi (nI z)), (9, zi (nI w))] [] M') (winv_start _ _ _ _ _) (fun x M' h => winv_next h) (fun M' h => ?_) (fun z hz M' h h9 => ?_) (fun z hz M' h h9 => ?_) (fun z w hz hw M' h h8 => ?_)
  · refine z_run (cuts := cu_PM_setBlock) ok_PM_setBlock (fun Kz hKz => ?_)
    conv => whnf
    rw [nI_leI (by omega) (by omega)]
    refine ⟨fun _ => ?_, fun q => absurd (Nat.le_refl _) q⟩
    conv => whnf
    exact hZ M' h
  · refine z_run (cuts := cu_PM_setBlock) ok_PM_setBlock (fun Kz hKz => ?_)
    conv => whnf
    rw [nI_leI (by omega) (by omega)]
    refine ⟨fun q => absurd q (by omega), fun _ => ?_⟩
    conv => whnf
    refine hKz _ _ _ _ ?_
    exact h9
  · refine z_run (cuts := cu_PM_setBlock) ok_PM_setBlock (fun Kz hKz => ?_)
    conv => whnf
    rw [nI_leI (by omega) (by omega)]
    refine ⟨fun _ => ?_, fun q => absurd (Nat.le_refl _) q⟩
    conv => whnf
    refine hKz _ _ _ _ ?_
    rw [nI_1']
    exact h9
  · have hB' := hp h
    have hLR := hB.1.2 z w hz hw
    have b1 := pprod_lt hx hz
    have b2 := pprod_lt hy hw
    have b3 := pprod_lt hLRA.1 hLR.1
    have b4 := pprod_lt hLRA.2 hLR.2
    refine z_run (cuts := cu_PM_setBlock) ok_PM_setBlock (fun Kz hKz => ?_)
    conv => whnf
    rw [nI_leI (by omega) (by omega)]
    refine ⟨fun q => absurd q (by omega), fun _ => ?_⟩
    conv => whnf
    refine ⟨by first | assumption | decide, ?_⟩
    conv => whnf
    refine s_PM_left hj hB' hz hw ?_
    conv => whnf
    refine ⟨by first | assumption | decide, ?_⟩
    conv => whnf
    refine s_PM_right hj hB' hz hw ?_
    conv => whnf
    refine ⟨by first | assumption | decide, ?_⟩
    conv => whnf
    rw [pk_mul, pk_mul, nI_add, nI_add, nI_add, nI_add, Nat.mul_comm x, Nat.mul_comm y, Nat.mul_comm (A.2.1 x y), Nat.mul_comm (A.2.2 x y)]
    refine s_PM_setImage hk (by omega) (by omega) (by omega) (by omega) ?_
    conv => whnf
    refine hKz _ _ _ _ ?_
    rw [nI_1', Nat.mul_comm B.1 (A.2.1 x y), Nat.mul_comm B.1 (A.2.2 x y)]
    have h7 := h8 _ (winv_step (pos := fun a b => 8 * (B.1 * x + a) + (B.1 * y + b)) (val := fun a b => 8 * (B.1 * A.2.1 x y + B.2.1 a b) + (B.1 * A.2.2 x y + B.2.2 a b)) hz hw (fun a b ha hb he => by
      have c1 := pprod_lt hx ha
      have c2 := pprod_lt hy hb
      omega) h)
    rw [Nat.mul_comm B.1 (A.2.1 x y), Nat.mul_comm B.1 (A.2.2 x y)] at h7
    exact h7
/-- what a product's map has when the blocks before (x, y) are done -/
def pbinv (M : ZM) (k : Nat) (A B : ZP) (x y : Nat) (M' : ZM) : Prop := zsm (rwS k) M M' ∧ ∀ a b, a < A.1 → b < A.1 → (a < x ∨ (a = x ∧ b < y)) → ∀ z w, z < B.1 → w < B.1 → M'.1 1 k (8 * (B.1 * a + z) + (B.1 * b + w)) = nI (8 * (B.1 * A.2.1 a b + B.2.1 z w) + (B.1 * A.2.2 a b + B.2.2 z w))
theorem s_PM_becomeProduct {k i j : Nat} {A B : ZP} (hk : k < 10) (hi : i < 10) (hj : j < 10) (hki : k ≠ i) (hkj : k ≠ j) (hA : isPM M i A) (hB : isPM M j B) (h6 : A.1 * B.1 ≤ 6) (hZ : ∀ M', zsm (pmS k) M M' → isPM M' k (pprod A B) → Z none M') : Ctr 0 G mi_PM_becomeProduct [zr 0 k, zr 0 i, zr 0 j] M Z := by
  have hn := hA.1.1
  have hm := hB.1.1
  refine go_PM_becomeProduct (fun Kz hKz => ?_)
  conv => whnf
  refine ⟨by first | assumption | decide, ?_⟩
  conv => whnf
  refine ⟨by first | assumption | decide, ?_⟩
  conv => whnf
  refine ⟨by first | assumption | decide, ?_⟩
  conv => whnf
  refine hKz _ _ _ _ ?_
  rw [hA.2.1, hB.2.1, pk_mul]
  have hs0 : zsm (pmS k) M (zset 0 k 1 (nI (A.1 * B.1)) M) := zsm_set ⟨Or.inl rfl, rfl⟩
  have hA0 : isPM (zset 0 k 1 (nI (A.1 * B.1)) M) i A := isPM_same hA hs0 (fun q => hki q.2.symm) (fun q => hki q.2.symm)
  have hB0 : isPM (zset 0 k 1 (nI (A.1 * B.1)) M) j B := isPM_same hB hs0 (fun q => hkj q.2.symm) (fun q => hkj q.2.symm)
  have hpA : ∀ {M' : ZM}, zsm (rwS k) (zset 0 k 1 (nI (A.1 * B.1)) M) M' → isPM M' i A := fun h => isPM_same hA0 h (fun q => absurd q.1 (by decide)) (fun q => hki q.2.symm)
  have hpB : ∀ {M' : ZM}, zsm (rwS k) (zset 0 k 1 (nI (A.1 * B.1)) M) M' → isPM M' j B := fun h => isPM_same hB0 h (fun q => absurd q.1 (by decide)) (fun q => hkj q.2.symm)
  refine wloop0 (n := A.1) (inv := pbinv (zset 0 k 1 (nI (A.1 * B.1)) M) k A B) (O := fun x M' => V 0 G mi_PM_becomeProduct Z 15 [(0, zr 0 k), (1, zr 0 i), (2, zr 0 j), (3, zi (nI x))] [] M') (I := fun x y M' => V 0 G mi_PM_becomeProduct Z 26 [(0, zr 0 k), (1, zr 0 i), (2, zr 0 j), (3, zi (nI x)), (4, zi (nI y))] [] M') ⟨zsm_refl _ _, fun a b _ _ q => by omega⟩ (fun x M' h => ⟨h.1, fun a b ha hb q => h.2 a b ha hb (by omega)⟩) (fun M' h => ?_) (fun x hx M' h h9 => ?_) (fun x hx M' h h9 => ?_) (fun x y hx hy M' h h8 => ?_)
  · refine z_run (cuts := cu_PM_becomeProduct) ok_PM_becomeProduct (fun Kz hKz => ?_)
    conv => whnf
    refine ⟨by first | assumption | decide, ?_⟩
    conv => whnf
    rw [(hpA h.1).2.1, nI_leI (by omega) (by omega)]
    refine ⟨fun _ => ?_, fun q => absurd (Nat.le_refl _) q⟩
    conv => whnf
    refine hZ M' (zsm_trans hs0 (zsm_mono h.1 (fun a b q => ⟨Or.inr q.1, q.2⟩))) ⟨pprod_wf hA.1 hB.1 h6, ?_, fun x y hx hy => ?_⟩
    · rw [h.1.2 0 k (fun q => absurd q.1 (by decide)), zset_eq]
      rfl
    · have hx : x < A.1 * B.1 := hx
      have hy : y < A.1 * B.1 := hy
      have h0 : 0 < B.1 := by
        rcases Nat.eq_zero_or_pos B.1 with q | q
        · rw [q] at hx; omega
        · exact q
      have hx1 : x / B.1 < A.1 := Nat.div_lt_of_lt_mul (by rw [Nat.mul_comm]; exact hx)
      have hy1 : y / B.1 < A.1 := Nat.div_lt_of_lt_mul (by rw [Nat.mul_comm]; exact hy)
      have e := h.2 _ _ hx1 hy1 (Or.inl hx1) (x % B.1) (y % B.1) (Nat.mod_lt _ h0) (Nat.mod_lt _ h0)
      rw [Nat.div_add_mod, Nat.div_add_mod] at e
      exact e
  · refine z_run (cuts := cu_PM_becomeProduct) ok_PM_becomeProduct (fun Kz hKz => ?_)
    conv => whnf
    refine ⟨by first | assumption | decide, ?_⟩
    conv => whnf
    rw [(hpA h.1).2.1, nI_leI (by omega) (by omega)]
    refine ⟨fun q => absurd q (by omega), fun _ => ?_⟩
    conv => whnf
    refine hKz _ _ _ _ ?_
    exact h9
  · refine z_run (cuts := cu_PM_becomeProduct) ok_PM_becomeProduct (fun Kz hKz => ?_)
    conv => whnf
    refine ⟨by first | assumption | decide, ?_⟩
    conv => whnf
    rw [(hpA h.1).2.1, nI_leI (by omega) (by omega)]
    refine ⟨fun _ => ?_, fun q => absurd (Nat.le_refl _) q⟩
    conv => whnf
    refine hKz _ _ _ _ ?_
    rw [nI_1']
    exact h9
  · refine z_run (cuts := cu_PM_becomeProduct) ok_PM_becomeProduct (fun Kz hKz => ?_)
    conv => whnf
    refine ⟨by first | assumption | decide, ?_⟩
    conv => whnf
    rw [(hpA h.1).2.1, nI_leI (by omega) (by omega)]
    refine ⟨fun q => absurd q (by omega), fun _ => ?_⟩
    conv => whnf
    refine ⟨by first | assumption | decide, ?_⟩
    conv => whnf
    refine s_PM_setBlock hk hi hj hki hkj (hpA h.1) (hpB h.1) h6 hx hy (fun M2 h2 => ?_)
    conv => whnf
    refine hKz _ _ _ _ ?_
    rw [nI_1']
    refine h8 M2 ⟨zsm_trans h.1 h2.1, fun a b ha hb q z w hz hw => ?_⟩
    by_cases hab : a = x ∧ b = y
    · obtain ⟨rfl, rfl⟩ := hab
      exact h2.2.1 z w hz hw (Or.inl hz)
    · have e := h2.2.2 (8 * (B.1 * a + z) + (B.1 * b + w)) (fun z' w' hz' hw' _ he => by
        have c1 := pprod_lt ha hz
        have c2 := pprod_lt hb hw
        have c3 := pprod_lt hx hz'
        have c4 := pprod_lt hy hw'
        dsimp only at he
        have d1 : B.1 * x + z' = B.1 * a + z := by omega
        have d2 : B.1 * y + w' = B.1 * b + w := by omega
        have e1 := congrArg (· / B.1) d1
        have e2 := congrArg (· / B.1) d2
        have h0 : 0 < B.1 := by omega
        simp only [Nat.mul_add_div h0, Nat.div_eq_of_lt hz, Nat.div_eq_of_lt hz', Nat.div_eq_of_lt hw, Nat.div_eq_of_lt hw', Nat.add_zero] at e1 e2
        exact hab ⟨e1.symm, e2.symm⟩)
      rw [e]
      exact h.2 a b ha hb (by omega) z w hz hw
end
end
section
/-! the class's state: the maps at the four places, the two braids (where each letter acts, whether it is a capital) -/
abbrev ZS : Type := (Nat → ZP) × (Nat → List (Nat × Bool))
def p0 : ZP := (0, fun _ _ => 0, fun _ _ => 0)
def b2i (b : Bool) : Int32 := if b then nI 1 else nI 0
def isBR (M : ZM) (b : Nat) (w : List (Nat × Bool)) : Prop := w.length ≤ 24 ∧ M.1 2 b 2 = nI w.length ∧ ∀ i q, w[i]? = some q → q.1 < 3 ∧ M.1 3 b i = nI q.1 ∧ M.1 4 b i = b2i q.2
def CS (M : ZM) (S : ZS) : Prop := (∀ m, m < 4 → isPM M m (S.1 m)) ∧ isPM M 4 p0 ∧ (∀ b, b < 2 → isBR M b (S.2 b)) ∧ isBR M 2 []
/-- the reference's cells are as they were -/
def csm (M M' : ZM) : Prop := ∀ a b, 20 ≤ a → M'.1 a b = M.1 a b ∧ M'.2 a b = M.2 a b
theorem csm_refl (M : ZM) : csm M M := fun _ _ _ => ⟨rfl, rfl⟩
theorem csm_trans {M M' M'' : ZM} (h : csm M M') (h' : csm M' M'') : csm M M'' := fun a b q => ⟨(h' a b q).1.trans (h a b q).1, (h' a b q).2.trans (h a b q).2⟩
theorem csm_of {S : Nat → Nat → Prop} {M M' : ZM} (h : zsm S M M') (hs : ∀ a b, S a b → a < 20) : csm M M' := fun a b q => ⟨h.2 a b (fun z => by have := hs a b z; omega), by rw [h.1]⟩
theorem csm_pm {k : Nat} {M M' : ZM} (h : zsm (pmS k) M M') : csm M M' := csm_of h (fun a b q => by rcases q.1 with q | q <;> omega)
def upS (S : ZS) (to : Nat) (A : ZP) : ZS := (fun m => if m = to then A else S.1 m, S.2)
def plk (m : Nat) : Nat := if m < 4 then m else 4
def plA (S : ZS) (m : Nat) : ZP := if m < 4 then S.1 m else p0
theorem plk_lt (m : Nat) : plk m < 5 := by unfold plk; split <;> omega
theorem CS_pl {M : ZM} {S : ZS} (h : CS M S) (m : Nat) : isPM M (plk m) (plA S m) := by
  unfold plk plA
  by_cases hm : m < 4
  · rw [if_pos hm, if_pos hm]; exact h.1 m hm
  · rw [if_neg hm, if_neg hm]; exact h.2.1
theorem isBR_same {S : Nat → Nat → Prop} {M M' : ZM} {b : Nat} {w : List (Nat × Bool)} (h : isBR M b w) (hs : zsm S M M') (h2 : ¬ S 2 b) (h3 : ¬ S 3 b) (h4 : ¬ S 4 b) : isBR M' b w := by
  refine ⟨h.1, by rw [hs.2 2 b h2]; exact h.2.1, fun i q hi => ?_⟩
  rw [hs.2 3 b h3, hs.2 4 b h4]
  exact h.2.2 i q hi
theorem isBR_eq {M M' : ZM} {b : Nat} {w : List (Nat × Bool)} (h : isBR M b w) (h2 : M'.1 2 b = M.1 2 b) (h3 : M'.1 3 b = M.1 3 b) (h4 : M'.1 4 b = M.1 4 b) : isBR M' b w := by
  refine ⟨h.1, by rw [h2]; exact h.2.1, fun i q hi => ?_⟩
  rw [h3, h4]
  exact h.2.2 i q hi
theorem isPM_eq {M M' : ZM} {k : Nat} {A : ZP} (h : isPM M k A) (h0 : M'.1 0 k = M.1 0 k) (h1 : M'.1 1 k = M.1 1 k) : isPM M' k A := by
  refine ⟨h.1, by rw [h0]; exact h.2.1, fun x y hx hy => ?_⟩
  rw [h1]
  exact h.2.2 x y hx hy
/-- the places and the braids are as they were -/
def cst (M M' : ZM) : Prop := (∀ b, b < 5 → M'.1 0 b = M.1 0 b ∧ M'.1 1 b = M.1 1 b) ∧ ∀ b, b < 3 → M'.1 2 b = M.1 2 b ∧ M'.1 3 b = M.1 3 b ∧ M'.1 4 b = M.1 4 b
theorem CS_cst {M M' : ZM} {S : ZS} (h : CS M S) (hc : cst M M') : CS M' S :=
  ⟨fun m hm => isPM_eq (h.1 m hm) (hc.1 m (by omega)).1 (hc.1 m (by omega)).2, isPM_eq h.2.1 (hc.1 4 (by omega)).1 (hc.1 4 (by omega)).2, fun b hb => isBR_eq (h.2.2.1 b hb) (hc.2 b (by omega)).1 (hc.2 b (by omega)).2.1 (hc.2 b (by omega)).2.2, isBR_eq h.2.2.2 (hc.2 2 (by omega)).1 (hc.2 2 (by omega)).2.1 (hc.2 2 (by omega)).2.2⟩
theorem cst_of {S : Nat → Nat → Prop} {M M' : ZM} (h : zsm S M M') (h0 : ∀ b, b < 5 → ¬ S 0 b ∧ ¬ S 1 b) (h2 : ∀ b, b < 3 → ¬ S 2 b ∧ ¬ S 3 b ∧ ¬ S 4 b) : cst M M' :=
  ⟨fun b hb => ⟨h.2 0 b (h0 b hb).1, h.2 1 b (h0 b hb).2⟩, fun b hb => ⟨h.2 2 b (h2 b hb).1, h.2 3 b (h2 b hb).2.1, h.2 4 b (h2 b hb).2.2⟩⟩
theorem cst_pm {k : Nat} {M M' : ZM} (hk : 5 ≤ k) (h : zsm (pmS k) M M') : cst M M' :=
  cst_of h (fun b hb => ⟨fun q => by have := q.2; omega, fun q => by have := q.2; omega⟩) (fun b hb => ⟨fun q => absurd q.1 (by decide), fun q => absurd q.1 (by decide), fun q => absurd q.1 (by decide)⟩)
theorem CS_put {M M' : ZM} {S : ZS} {to : Nat} {A : ZP} (h : CS M S) (hto : to < 4) (hs : zsm (pmS to) M M') (hA : isPM M' to A) : CS M' (upS S to A) := by
  refine ⟨fun m hm => ?_, isPM_same h.2.1 hs (fun q => by have := q.2; omega) (fun q => by have := q.2; omega), fun b hb => isBR_same (h.2.2.1 b hb) hs (fun q => absurd q.1 (by decide)) (fun q => absurd q.1 (by decide)) (fun q => absurd q.1 (by decide)), isBR_same h.2.2.2 hs (fun q => absurd q.1 (by decide)) (fun q => absurd q.1 (by decide)) (fun q => absurd q.1 (by decide))⟩
  simp only [upS]
  by_cases he : m = to
  · rw [if_pos he, he]; exact hA
  · rw [if_neg he]
    exact isPM_same (h.1 m hm) hs (fun q => he q.2) (fun q => he q.2)
section
variable {G : ZG} {M : ZM} {Z : Option ZV → ZM → Prop}
theorem s_T_mapAt {m : Nat} (hm : m < 2 ^ 32) (hZ : Z (some (zr 0 (plk m))) M) : Ctr 0 G mi_T_mapAt [zr 5 0, zi (nI m)] M Z := by
  refine go_T_mapAt (fun Kz hKz => ?_)
  conv => whnf
  refine s_T_isPlace hm (fun h => ?_) (fun h => ?_)
  · conv => whnf
    first | refine ⟨fun _ => ?_, fun q => absurd (by decide) q⟩ | refine ⟨fun q => absurd q (by decide), fun _ => ?_⟩
    conv => whnf
    refine ⟨vp_in_nI h (by decide), ?_⟩
    conv => whnf
    rw [nI_clamp (by omega)]
    rw [plk, if_pos h] at hZ
    exact hZ
  · conv => whnf
    first | refine ⟨fun _ => ?_, fun q => absurd (by decide) q⟩ | refine ⟨fun q => absurd q (by decide), fun _ => ?_⟩
    conv => whnf
    rw [plk, if_neg h] at hZ
    exact hZ
theorem s_T_braidAt {m : Nat} (hm : m < 2 ^ 32) (hZ : Z (some (zr 2 (if m < 2 then m else 2))) M) : Ctr 0 G mi_T_braidAt [zr 5 0, zi (nI m)] M Z := by
  refine go_T_braidAt (fun Kz hKz => ?_)
  conv => whnf
  refine s_T_isBraid hm (fun h => ?_) (fun h => ?_)
  · conv => whnf
    first | refine ⟨fun _ => ?_, fun q => absurd (by decide) q⟩ | refine ⟨fun q => absurd q (by decide), fun _ => ?_⟩
    conv => whnf
    refine ⟨vp_in_nI h (by decide), ?_⟩
    conv => whnf
    rw [nI_clamp (by omega)]
    rw [if_pos h] at hZ
    exact hZ
  · conv => whnf
    first | refine ⟨fun _ => ?_, fun q => absurd (by decide) q⟩ | refine ⟨fun q => absurd q (by decide), fun _ => ?_⟩
    conv => whnf
    rw [if_neg h] at hZ
    exact hZ
theorem s_T_keepMade {to : Nat} {B : ZP} {S : ZS} (hto : to < 4) (hC : CS M S) (hB : isPM M 5 B) (hZ : ∀ M', CS M' (upS S to B) → csm M M' → Z (some (zi (nI B.1))) M') : Ctr 0 G mi_T_keepMade [zr 5 0, zi (nI to)] M Z := by
  refine go_T_keepMade (fun Kz hKz => ?_)
  conv => whnf
  refine s_T_isPlace (by omega) (fun h => ?_) (fun h => absurd hto h)
  conv => whnf
  first | refine ⟨fun _ => ?_, fun q => absurd (by decide) q⟩ | refine ⟨fun q => absurd q (by decide), fun _ => ?_⟩
  conv => whnf
  refine ⟨vp_in_nI h (by decide), ?_⟩
  conv => whnf
  rw [nI_clamp (by omega)]
  refine ⟨by show to < 10; omega, ?_⟩
  refine s_PM_copy (by omega) (by decide) (by omega) (fun M' h1 h2 h3 => ?_)
  conv => whnf
  refine ⟨by first | assumption | decide, ?_⟩
  conv => whnf
  have hB' : isPM M' to B := by
    refine ⟨hB.1, h2.trans hB.2.1, fun x y hx hy => ?_⟩
    have := hB.1.1
    rw [h3 _ (by omega)]
    exact hB.2.2 x y hx hy
  have hB5 : isPM M' 5 B := isPM_same hB h1 (fun q => by have := q.2; omega) (fun q => by have := q.2; omega)
  refine s_PM_points (by decide) ?_
  conv => whnf
  rw [hB5.2.1]
  exact hZ M' (CS_put hC hto h1 hB') (csm_pm h1)
theorem c_flip {to n : Nat} {S : ZS} (hto : to < 2 ^ 32) (hn : n < 2 ^ 32) (hC : CS M S) (h1 : ¬ to < 4 → Z (some (zi (-1000001))) M) (h2 : to < 4 → ¬ (1 ≤ n ∧ n ≤ 6) → Z (some (zi (-1000002))) M) (h3 : to < 4 → 1 ≤ n → n ≤ 6 → ∀ M', CS M' (upS S to (pflip n)) → csm M M' → Z (some (zi (nI n))) M') : Ctr 0 G mi_T_flip [zr 5 0, zi (nI to), zi (nI n)] M Z := by
  refine go_T_flip (fun Kz hKz => ?_)
  conv => whnf
  refine s_T_isPlace hto (fun h => ?_) (fun h => ?_)
  · conv => whnf
    first | refine ⟨fun _ => ?_, fun q => absurd (by decide) q⟩ | refine ⟨fun q => absurd q (by decide), fun _ => ?_⟩
    conv => whnf
    refine s_T_isWithin hn (by decide) (by decide) (fun h4 h5 => ?_) (fun h4 => ?_)
    · conv => whnf
      first | refine ⟨fun _ => ?_, fun q => absurd (by decide) q⟩ | refine ⟨fun q => absurd q (by decide), fun _ => ?_⟩
      conv => whnf
      refine ⟨by decide, ?_⟩
      refine s_PM_becomeFlip (by decide) h5 (fun M1 hM1 => ?_)
      conv => whnf
      have hwf : pwf (pflip n) := ⟨h5, fun x y hx hy => ⟨hy, hx⟩⟩
      refine s_T_keepMade h (CS_cst hC (cst_pm (by decide) hM1.1)) ⟨hwf, hM1.2.1, fun x y hx hy => hM1.2.2 x y hx hy⟩ (fun M' h6 h7 => ?_)
      conv => whnf
      exact h3 h h4 h5 M' h6 (csm_trans (csm_pm hM1.1) h7)
    · conv => whnf
      first | refine ⟨fun _ => ?_, fun q => absurd (by decide) q⟩ | refine ⟨fun q => absurd q (by decide), fun _ => ?_⟩
      conv => whnf
      exact h2 h h4
  · conv => whnf
    first | refine ⟨fun _ => ?_, fun q => absurd (by decide) q⟩ | refine ⟨fun q => absurd q (by decide), fun _ => ?_⟩
    conv => whnf
    exact h1 h
end
end
section
theorem ptwist_wf {n f g : Nat} (hn : n ≤ 6) (hf : isP f n) (hg : isP g n) : pwf (ptwist n f g) := ⟨hn, fun x y hx hy => ⟨(isP_facts hf).1 y hy, (isP_facts hg).1 x hx⟩⟩
/-- the names backward of a permutation's code -/
noncomputable def dgi (f n v : Nat) : Nat := Classical.epsilon fun i : Nat => i < n ∧ dg f i = v
theorem dgi_spec {f n v : Nat} (h : isP f n) (hv : v < n) : dgi f n v < n ∧ dg f (dgi f n v) = v := Classical.epsilon_spec ((isP_facts h).2.2 v hv)
theorem dgi_of {f n i : Nat} (h : isP f n) (hi : i < n) : dgi f n (dg f i) = i := by
  have h1 := dgi_spec h ((isP_facts h).1 i hi)
  exact (isP_facts h).2.1 _ _ h1.1 hi h1.2
theorem pren_wf {A : ZP} {f : Nat} (hA : pwf A) (hf : isP f A.1) : pwf (pren A (dg f) (dgi f A.1)) := ⟨hA.1, fun x y hx hy => by
  have h1 := dgi_spec hf hx
  have h2 := dgi_spec hf hy
  have h3 := hA.2 _ _ h1.1 h2.1
  exact ⟨(isP_facts hf).1 _ h3.1, (isP_facts hf).1 _ h3.2⟩⟩
theorem pmir_wf {A : ZP} (hA : pwf A) : pwf (pmir A) := ⟨hA.1, fun x y hx hy => ⟨(hA.2 y x hy hx).2, (hA.2 y x hy hx).1⟩⟩
theorem plA_wf {M : ZM} {S : ZS} (hC : CS M S) (m : Nat) : pwf (plA S m) := (CS_pl hC m).1
theorem plA_lt {S : ZS} {m : Nat} (h : ¬ (plA S m).1 = 0) : m < 4 := by
  unfold plA at h
  by_cases hm : m < 4
  · exact hm
  · rw [if_neg hm] at h; exact absurd rfl h
theorem plA_eq {S : ZS} {m : Nat} (h : m < 4) : plA S m = S.1 m := if_pos h
theorem CS_upd {M M' : ZM} {S : ZS} {k : Nat} {A : ZP} (hk : k < 4) (hA : isPM M' k A) (hC : CS M S) (h1 : zsm (pmS k) M M') : CS M' (upS S k A) := CS_put hC hk h1 hA
section
variable {G : ZG} {M : ZM} {Z : Option ZV → ZM → Prop} {S : ZS}
theorem c_twist {to n f g : Nat} (hto : to < 2 ^ 32) (hn : n < 2 ^ 32) (hf : f < 2 ^ 32) (hg : g < 2 ^ 32) (hC : CS M S) (h1 : ¬ to < 4 → Z (some (zi (-1000001))) M) (h2 : to < 4 → ¬ ((1 ≤ n ∧ n ≤ 6) ∧ isP f n ∧ isP g n) → Z (some (zi (-1000002))) M) (h3 : to < 4 → 1 ≤ n → n ≤ 6 → isP f n → isP g n → ∀ M', CS M' (upS S to (ptwist n f g)) → csm M M' → Z (some (zi (nI n))) M') : Ctr 0 G mi_T_twist [zr 5 0, zi (nI to), zi (nI n), zi (nI f), zi (nI g)] M Z := by
  refine go_T_twist (fun Kz hKz => ?_)
  conv => whnf
  refine s_T_isPlace hto (fun h => ?_) (fun h => ?_)
  · conv => whnf
    first | refine ⟨fun _ => ?_, fun q => absurd (by decide) q⟩ | refine ⟨fun q => absurd q (by decide), fun _ => ?_⟩
    conv => whnf
    refine s_T_isWithin hn (by decide) (by decide) (fun h4 h5 => ?_) (fun h4 => ?_)
    · conv => whnf
      first | refine ⟨fun _ => ?_, fun q => absurd (by decide) q⟩ | refine ⟨fun q => absurd q (by decide), fun _ => ?_⟩
      conv => whnf
      refine s_CO_isPermutation hf h5 (fun hpf => ?_) (fun hpf => ?_)
      · conv => whnf
        first | refine ⟨fun _ => ?_, fun q => absurd (by decide) q⟩ | refine ⟨fun q => absurd q (by decide), fun _ => ?_⟩
        conv => whnf
        refine s_CO_isPermutation hg h5 (fun hpg => ?_) (fun hpg => ?_)
        · conv => whnf
          first | refine ⟨fun _ => ?_, fun q => absurd (by decide) q⟩ | refine ⟨fun q => absurd q (by decide), fun _ => ?_⟩
          conv => whnf
          refine ⟨by decide, ?_⟩
          refine s_PM_becomeTwist (by decide) h5 hf hg (fun M1 hM1 => ?_)
          conv => whnf
          refine s_T_keepMade h (CS_cst hC (cst_pm (by decide) hM1.1)) ⟨ptwist_wf h5 hpf hpg, hM1.2.1, fun x y hx hy => hM1.2.2 x y hx hy⟩ (fun M' h6 h7 => ?_)
          conv => whnf
          exact h3 h h4 h5 hpf hpg M' h6 (csm_trans (csm_pm hM1.1) h7)
        · conv => whnf
          first | refine ⟨fun _ => ?_, fun q => absurd (by decide) q⟩ | refine ⟨fun q => absurd q (by decide), fun _ => ?_⟩
          conv => whnf
          exact h2 h (fun q => hpg q.2.2)
      · conv => whnf
        first | refine ⟨fun _ => ?_, fun q => absurd (by decide) q⟩ | refine ⟨fun q => absurd q (by decide), fun _ => ?_⟩
        conv => whnf
        exact h2 h (fun q => hpf q.2.1)
    · conv => whnf
      first | refine ⟨fun _ => ?_, fun q => absurd (by decide) q⟩ | refine ⟨fun q => absurd q (by decide), fun _ => ?_⟩
      conv => whnf
      exact h2 h (fun q => h4 q.1)
  · conv => whnf
    first | refine ⟨fun _ => ?_, fun q => absurd (by decide) q⟩ | refine ⟨fun q => absurd q (by decide), fun _ => ?_⟩
    conv => whnf
    exact h1 h
theorem c_unite {a b to : Nat} (ha : a < 2 ^ 32) (hb : b < 2 ^ 32) (hto : to < 2 ^ 32) (hC : CS M S) (h1 : (plA S a).1 = 0 ∨ (plA S b).1 = 0 ∨ ¬ to < 4 → Z (some (zi (-1000001))) M) (h2 : ¬ (plA S a).1 = 0 → ¬ (plA S b).1 = 0 → to < 4 → ¬ (plA S a).1 + (plA S b).1 ≤ 6 → Z (some (zi (-1000004))) M)
    (h3 : ¬ (plA S a).1 = 0 → ¬ (plA S b).1 = 0 → to < 4 → (plA S a).1 + (plA S b).1 ≤ 6 → ∀ M', CS M' (upS S to (puni (plA S a) (plA S b))) → csm M M' → Z (some (zi (nI ((plA S a).1 + (plA S b).1)))) M') : Ctr 0 G mi_T_unite [zr 5 0, zi (nI a), zi (nI b), zi (nI to)] M Z := by
  have hA := CS_pl hC a
  have hB := CS_pl hC b
  have ka := plk_lt a
  have kb := plk_lt b
  have na := hA.1.1
  have nb := hB.1.1
  refine go_T_unite (fun Kz hKz => ?_)
  conv => whnf
  refine s_T_mapAt ha ?_
  conv => whnf
  refine s_T_mapAt hb ?_
  conv => whnf
  refine ⟨by show plk a < 10; omega, ?_⟩
  refine s_PM_isEmpty (by omega) hA (fun e1 => ?_) (fun e1 => ?_)
  · conv => whnf
    first | refine ⟨fun _ => ?_, fun q => absurd (by decide) q⟩ | refine ⟨fun q => absurd q (by decide), fun _ => ?_⟩
    conv => whnf
    exact h1 (Or.inl e1)
  · conv => whnf
    first | refine ⟨fun _ => ?_, fun q => absurd (by decide) q⟩ | refine ⟨fun q => absurd q (by decide), fun _ => ?_⟩
    conv => whnf
    refine ⟨by show plk b < 10; omega, ?_⟩
    refine s_PM_isEmpty (by omega) hB (fun e2 => ?_) (fun e2 => ?_)
    · conv => whnf
      first | refine ⟨fun _ => ?_, fun q => absurd (by decide) q⟩ | refine ⟨fun q => absurd q (by decide), fun _ => ?_⟩
      conv => whnf
      exact h1 (Or.inr (Or.inl e2))
    · conv => whnf
      first | refine ⟨fun _ => ?_, fun q => absurd (by decide) q⟩ | refine ⟨fun q => absurd q (by decide), fun _ => ?_⟩
      conv => whnf
      refine s_T_isPlace hto (fun h => ?_) (fun h => ?_)
      · conv => whnf
        first | refine ⟨fun _ => ?_, fun q => absurd (by decide) q⟩ | refine ⟨fun q => absurd q (by decide), fun _ => ?_⟩
        conv => whnf
        refine ⟨by show plk a < 10; omega, ?_⟩
        refine s_PM_points (by omega) ?_
        conv => whnf
        refine ⟨by show plk b < 10; omega, ?_⟩
        refine s_PM_points (by omega) ?_
        conv => whnf
        rw [hA.2.1, hB.2.1, nI_add, nI_leI (by omega) (by decide)]
        refine ⟨fun q => ?_, fun q => ?_⟩
        · conv => whnf
          refine ⟨by decide, ?_⟩
          refine s_PM_becomeUnion (by decide) (by omega) (by omega) (by omega) (by omega) hA hB q (fun M1 h4 h5 => ?_)
          conv => whnf
          refine s_T_keepMade h (CS_cst hC (cst_pm (by decide) h4)) h5 (fun M' h6 h7 => ?_)
          conv => whnf
          exact h3 e1 e2 h q M' h6 (csm_trans (csm_pm h4) h7)
        · conv => whnf
          exact h2 e1 e2 h q
      · conv => whnf
        first | refine ⟨fun _ => ?_, fun q => absurd (by decide) q⟩ | refine ⟨fun q => absurd q (by decide), fun _ => ?_⟩
        conv => whnf
        exact h1 (Or.inr (Or.inr h))
theorem c_pair {a b to : Nat} (ha : a < 2 ^ 32) (hb : b < 2 ^ 32) (hto : to < 2 ^ 32) (hC : CS M S) (h1 : (plA S a).1 = 0 ∨ (plA S b).1 = 0 ∨ ¬ to < 4 → Z (some (zi (-1000001))) M) (h2 : ¬ (plA S a).1 = 0 → ¬ (plA S b).1 = 0 → to < 4 → ¬ (plA S a).1 * (plA S b).1 ≤ 6 → Z (some (zi (-1000004))) M)
    (h3 : ¬ (plA S a).1 = 0 → ¬ (plA S b).1 = 0 → to < 4 → (plA S a).1 * (plA S b).1 ≤ 6 → ∀ M', CS M' (upS S to (pprod (plA S a) (plA S b))) → csm M M' → Z (some (zi (nI ((plA S a).1 * (plA S b).1)))) M') : Ctr 0 G mi_T_pair [zr 5 0, zi (nI a), zi (nI b), zi (nI to)] M Z := by
  have hA := CS_pl hC a
  have hB := CS_pl hC b
  have ka := plk_lt a
  have kb := plk_lt b
  have na := hA.1.1
  have nb := hB.1.1
  have nab : (plA S a).1 * (plA S b).1 ≤ 6 * 6 := Nat.mul_le_mul na nb
  refine go_T_pair (fun Kz hKz => ?_)
  conv => whnf
  refine s_T_mapAt ha ?_
  conv => whnf
  refine s_T_mapAt hb ?_
  conv => whnf
  refine ⟨by show plk a < 10; omega, ?_⟩
  refine s_PM_isEmpty (by omega) hA (fun e1 => ?_) (fun e1 => ?_)
  · conv => whnf
    first | refine ⟨fun _ => ?_, fun q => absurd (by decide) q⟩ | refine ⟨fun q => absurd q (by decide), fun _ => ?_⟩
    conv => whnf
    exact h1 (Or.inl e1)
  · conv => whnf
    first | refine ⟨fun _ => ?_, fun q => absurd (by decide) q⟩ | refine ⟨fun q => absurd q (by decide), fun _ => ?_⟩
    conv => whnf
    refine ⟨by show plk b < 10; omega, ?_⟩
    refine s_PM_isEmpty (by omega) hB (fun e2 => ?_) (fun e2 => ?_)
    · conv => whnf
      first | refine ⟨fun _ => ?_, fun q => absurd (by decide) q⟩ | refine ⟨fun q => absurd q (by decide), fun _ => ?_⟩
      conv => whnf
      exact h1 (Or.inr (Or.inl e2))
    · conv => whnf
      first | refine ⟨fun _ => ?_, fun q => absurd (by decide) q⟩ | refine ⟨fun q => absurd q (by decide), fun _ => ?_⟩
      conv => whnf
      refine s_T_isPlace hto (fun h => ?_) (fun h => ?_)
      · conv => whnf
        first | refine ⟨fun _ => ?_, fun q => absurd (by decide) q⟩ | refine ⟨fun q => absurd q (by decide), fun _ => ?_⟩
        conv => whnf
        refine ⟨by show plk a < 10; omega, ?_⟩
        refine s_PM_points (by omega) ?_
        conv => whnf
        refine ⟨by show plk b < 10; omega, ?_⟩
        refine s_PM_points (by omega) ?_
        conv => whnf
        rw [hA.2.1, hB.2.1, pk_mul, nI_leI (by omega) (by decide)]
        refine ⟨fun q => ?_, fun q => ?_⟩
        · conv => whnf
          refine ⟨by decide, ?_⟩
          refine s_PM_becomeProduct (by decide) (by omega) (by omega) (by omega) (by omega) hA hB q (fun M1 h4 h5 => ?_)
          conv => whnf
          refine s_T_keepMade h (CS_cst hC (cst_pm (by decide) h4)) h5 (fun M' h6 h7 => ?_)
          conv => whnf
          exact h3 e1 e2 h q M' h6 (csm_trans (csm_pm h4) h7)
        · conv => whnf
          exact h2 e1 e2 h q
      · conv => whnf
        first | refine ⟨fun _ => ?_, fun q => absurd (by decide) q⟩ | refine ⟨fun q => absurd q (by decide), fun _ => ?_⟩
        conv => whnf
        exact h1 (Or.inr (Or.inr h))
theorem c_mirror {a to : Nat} (ha : a < 2 ^ 32) (hto : to < 2 ^ 32) (hC : CS M S) (h1 : (plA S a).1 = 0 ∨ ¬ to < 4 → Z (some (zi (-1000001))) M) (h3 : ¬ (plA S a).1 = 0 → to < 4 → ∀ M', CS M' (upS S to (pmir (plA S a))) → csm M M' → Z (some (zi (nI (plA S a).1))) M') : Ctr 0 G mi_T_mirror [zr 5 0, zi (nI a), zi (nI to)] M Z := by
  have hA := CS_pl hC a
  have ka := plk_lt a
  refine go_T_mirror (fun Kz hKz => ?_)
  conv => whnf
  refine s_T_mapAt ha ?_
  conv => whnf
  refine ⟨by show plk a < 10; omega, ?_⟩
  refine s_PM_isEmpty (by omega) hA (fun e1 => ?_) (fun e1 => ?_)
  · conv => whnf
    first | refine ⟨fun _ => ?_, fun q => absurd (by decide) q⟩ | refine ⟨fun q => absurd q (by decide), fun _ => ?_⟩
    conv => whnf
    exact h1 (Or.inl e1)
  · conv => whnf
    first | refine ⟨fun _ => ?_, fun q => absurd (by decide) q⟩ | refine ⟨fun q => absurd q (by decide), fun _ => ?_⟩
    conv => whnf
    refine s_T_isPlace hto (fun h => ?_) (fun h => ?_)
    · conv => whnf
      first | refine ⟨fun _ => ?_, fun q => absurd (by decide) q⟩ | refine ⟨fun q => absurd q (by decide), fun _ => ?_⟩
      conv => whnf
      refine ⟨by decide, ?_⟩
      refine s_PM_becomeMirror (by decide) (by omega) (by omega) hA (fun M1 h4 => ?_)
      conv => whnf
      refine s_T_keepMade h (CS_cst hC (cst_pm (by decide) h4.1)) ⟨pmir_wf hA.1, h4.2.1, fun x y hx hy => h4.2.2 x y hx hy⟩ (fun M' h6 h7 => ?_)
      conv => whnf
      exact h3 e1 h M' h6 (csm_trans (csm_pm h4.1) h7)
    · conv => whnf
      first | refine ⟨fun _ => ?_, fun q => absurd (by decide) q⟩ | refine ⟨fun q => absurd q (by decide), fun _ => ?_⟩
      conv => whnf
      exact h1 (Or.inr h)
theorem c_rename {a f to : Nat} (ha : a < 2 ^ 32) (hf : f < 2 ^ 32) (hto : to < 2 ^ 32) (hC : CS M S) (h1 : (plA S a).1 = 0 ∨ ¬ to < 4 → Z (some (zi (-1000001))) M) (h2 : ¬ (plA S a).1 = 0 → to < 4 → ¬ isP f (plA S a).1 → Z (some (zi (-1000002))) M) (h3 : ¬ (plA S a).1 = 0 → to < 4 → isP f (plA S a).1 → ∀ M', CS M' (upS S to (pren (plA S a) (dg f) (dgi f (plA S a).1))) → csm M M' → Z (some (zi (nI (plA S a).1))) M') : Ctr 0 G mi_T_rename [zr 5 0, zi (nI a), zi (nI f), zi (nI to)] M Z := by
  have hA := CS_pl hC a
  have ka := plk_lt a
  refine go_T_rename (fun Kz hKz => ?_)
  conv => whnf
  refine s_T_mapAt ha ?_
  conv => whnf
  refine ⟨by show plk a < 10; omega, ?_⟩
  refine s_PM_isEmpty (by omega) hA (fun e1 => ?_) (fun e1 => ?_)
  · conv => whnf
    first | refine ⟨fun _ => ?_, fun q => absurd (by decide) q⟩ | refine ⟨fun q => absurd q (by decide), fun _ => ?_⟩
    conv => whnf
    exact h1 (Or.inl e1)
  · conv => whnf
    first | refine ⟨fun _ => ?_, fun q => absurd (by decide) q⟩ | refine ⟨fun q => absurd q (by decide), fun _ => ?_⟩
    conv => whnf
    refine s_T_isPlace hto (fun h => ?_) (fun h => ?_)
    · conv => whnf
      first | refine ⟨fun _ => ?_, fun q => absurd (by decide) q⟩ | refine ⟨fun q => absurd q (by decide), fun _ => ?_⟩
      conv => whnf
      refine ⟨by show plk a < 10; omega, ?_⟩
      refine s_PM_points (by omega) ?_
      conv => whnf
      rw [hA.2.1]
      refine s_CO_isPermutation hf hA.1.1 (fun hp => ?_) (fun hp => ?_)
      · conv => whnf
        first | refine ⟨fun _ => ?_, fun q => absurd (by decide) q⟩ | refine ⟨fun q => absurd q (by decide), fun _ => ?_⟩
        conv => whnf
        refine ⟨by decide, ?_⟩
        refine s_PM_becomeRenamed (by decide) (by omega) (by omega) hA hf hp (fun M1 h4 h5 h5b => ?_)
        conv => whnf
        refine s_T_keepMade h (CS_cst hC (cst_pm (by decide) h4)) (B := pren (plA S a) (dg f) (dgi f (plA S a).1)) ⟨pren_wf hA.1 hp, h5, fun x y hx hy => ?_⟩ (fun M' h6 h7 => ?_)
        · have e3 := dgi_spec hp hx
          have e4 := dgi_spec hp hy
          have e5 := h5b _ _ e3.1 e4.1
          rw [e3.2, e4.2] at e5
          exact e5
        conv => whnf
        exact h3 e1 h hp M' h6 (csm_trans (csm_pm h4) h7)
      · conv => whnf
        first | refine ⟨fun _ => ?_, fun q => absurd (by decide) q⟩ | refine ⟨fun q => absurd q (by decide), fun _ => ?_⟩
        conv => whnf
        exact h2 e1 h hp
    · conv => whnf
      first | refine ⟨fun _ => ?_, fun q => absurd (by decide) q⟩ | refine ⟨fun q => absurd q (by decide), fun _ => ?_⟩
      conv => whnf
      exact h1 (Or.inr h)
end
end
section
def pput (A : ZP) (x y l r : Nat) : ZP := (A.1, fun a b => if a = x ∧ b = y then l else A.2.1 a b, fun a b => if a = x ∧ b = y then r else A.2.2 a b)
theorem pput_wf {A : ZP} {x y l r : Nat} (hA : pwf A) (hl : l < A.1) (hr : r < A.1) : pwf (pput A x y l r) := ⟨hA.1, fun a b ha hb => by
  have := hA.2 a b ha hb
  by_cases h : a = x ∧ b = y
  · show (if _ then _ else _) < A.1 ∧ (if _ then _ else _) < A.1
    rw [if_pos h, if_pos h]; exact ⟨hl, hr⟩
  · show (if _ then _ else _) < A.1 ∧ (if _ then _ else _) < A.1
    rw [if_neg h, if_neg h]; exact this⟩
theorem p0_wf : pwf p0 := ⟨by decide, fun x y hx _ => absurd hx (Nat.not_lt_zero _)⟩
section
variable {G : ZG} {M : ZM} {Z : Option ZV → ZM → Prop} {S : ZS}
theorem c_drop {a : Nat} (ha : a < 2 ^ 32) (hC : CS M S) (h1 : (plA S a).1 = 0 → Z (some (zi (-1000001))) M) (h3 : ¬ (plA S a).1 = 0 → ∀ M', CS M' (upS S a p0) → csm M M' → Z (some (zi (nI (plA S a).1))) M') : Ctr 0 G mi_T_drop [zr 5 0, zi (nI a)] M Z := by
  have hA := CS_pl hC a
  have ka := plk_lt a
  refine go_T_drop (fun Kz hKz => ?_)
  conv => whnf
  refine s_T_mapAt ha ?_
  conv => whnf
  refine ⟨by show plk a < 10; omega, ?_⟩
  refine s_PM_isEmpty (by omega) hA (fun e1 => ?_) (fun e1 => ?_)
  · conv => whnf
    first | refine ⟨fun _ => ?_, fun q => absurd (by decide) q⟩ | refine ⟨fun q => absurd q (by decide), fun _ => ?_⟩
    conv => whnf
    exact h1 e1
  · have h4 := plA_lt e1
    have hpk : plk a = a := if_pos h4
    conv => whnf
    first | refine ⟨fun _ => ?_, fun q => absurd (by decide) q⟩ | refine ⟨fun q => absurd q (by decide), fun _ => ?_⟩
    conv => whnf
    refine ⟨by show plk a < 10; omega, ?_⟩
    refine s_PM_points (by omega) ?_
    conv => whnf
    refine ⟨by show plk a < 10; omega, ?_⟩
    refine s_PM_resize (by omega) ?_
    conv => whnf
    rw [hA.2.1, hpk]
    have hs : zsm (pmS a) M (zset 0 a 1 (nI 0) M) := zsm_set ⟨Or.inl rfl, rfl⟩
    exact h3 e1 _ (CS_put hC h4 hs ⟨p0_wf, zset_eq, fun x y hx _ => absurd hx (Nat.not_lt_zero _)⟩) (csm_pm hs)
theorem c_cell {a x y w : Nat} (ha : a < 2 ^ 32) (hx : x < 2 ^ 32) (hy : y < 2 ^ 32) (hw : w < 2 ^ 32) (hC : CS M S) (h1 : ¬ (x < (plA S a).1 ∧ y < (plA S a).1) → Z (some (zi (-1000001))) M) (h2 : x < (plA S a).1 → y < (plA S a).1 → ¬ w ≤ 1 → Z (some (zi (-1000002))) M) (h3 : x < (plA S a).1 → y < (plA S a).1 → w = 0 → Z (some (zi (nI ((plA S a).2.1 x y)))) M) (h4 : x < (plA S a).1 → y < (plA S a).1 → w = 1 → Z (some (zi (nI ((plA S a).2.2 x y)))) M) : Ctr 0 G mi_T_cell [zr 5 0, zi (nI a), zi (nI x), zi (nI y), zi (nI w)] M Z := by
  have hA := CS_pl hC a
  have ka := plk_lt a
  refine go_T_cell (fun Kz hKz => ?_)
  conv => whnf
  refine s_T_mapAt ha ?_
  conv => whnf
  refine ⟨by show plk a < 10; omega, ?_⟩
  refine s_PM_hasPoint (by omega) hx hA (fun e1 => ?_) (fun e1 => ?_)
  · conv => whnf
    first | refine ⟨fun _ => ?_, fun q => absurd (by decide) q⟩ | refine ⟨fun q => absurd q (by decide), fun _ => ?_⟩
    conv => whnf
    refine ⟨by show plk a < 10; omega, ?_⟩
    refine s_PM_hasPoint (by omega) hy hA (fun e2 => ?_) (fun e2 => ?_)
    · conv => whnf
      first | refine ⟨fun _ => ?_, fun q => absurd (by decide) q⟩ | refine ⟨fun q => absurd q (by decide), fun _ => ?_⟩
      conv => whnf
      refine s_T_isWithin hw (by decide) (by decide) (fun h5 h6 => ?_) (fun h5 => ?_)
      · conv => whnf
        first | refine ⟨fun _ => ?_, fun q => absurd (by decide) q⟩ | refine ⟨fun q => absurd q (by decide), fun _ => ?_⟩
        conv => whnf
        rw [nI_eq (by omega) (by decide)]
        refine ⟨fun q => ?_, fun q => ?_⟩
        · conv => whnf
          refine ⟨by show plk a < 10; omega, ?_⟩
          refine s_PM_right (by omega) hA e1 e2 ?_
          conv => whnf
          exact h4 e1 e2 (by omega)
        · conv => whnf
          refine ⟨by show plk a < 10; omega, ?_⟩
          refine s_PM_left (by omega) hA e1 e2 ?_
          conv => whnf
          exact h3 e1 e2 (by omega)
      · conv => whnf
        first | refine ⟨fun _ => ?_, fun q => absurd (by decide) q⟩ | refine ⟨fun q => absurd q (by decide), fun _ => ?_⟩
        conv => whnf
        exact h2 e1 e2 (by omega)
    · conv => whnf
      first | refine ⟨fun _ => ?_, fun q => absurd (by decide) q⟩ | refine ⟨fun q => absurd q (by decide), fun _ => ?_⟩
      conv => whnf
      exact h1 (fun q => e2 q.2)
  · conv => whnf
    first | refine ⟨fun _ => ?_, fun q => absurd (by decide) q⟩ | refine ⟨fun q => absurd q (by decide), fun _ => ?_⟩
    conv => whnf
    exact h1 (fun q => e1 q.1)
theorem c_put {a x y u v : Nat} (ha : a < 2 ^ 32) (hx : x < 2 ^ 32) (hy : y < 2 ^ 32) (hu : u < 2 ^ 32) (hv : v < 2 ^ 32) (hC : CS M S) (h1 : ¬ (x < (plA S a).1 ∧ y < (plA S a).1 ∧ u < (plA S a).1 ∧ v < (plA S a).1) → Z (some (zi (-1000001))) M) (h3 : x < (plA S a).1 → y < (plA S a).1 → u < (plA S a).1 → v < (plA S a).1 → ∀ M', CS M' (upS S a (pput (plA S a) x y u v)) → csm M M' → Z (some (zi (nI ((plA S a).2.1 x y + 8 * (plA S a).2.2 x y)))) M') : Ctr 0 G mi_T_put [zr 5 0, zi (nI a), zi (nI x), zi (nI y), zi (nI u), zi (nI v)] M Z := by
  have hA := CS_pl hC a
  have ka := plk_lt a
  have na := hA.1.1
  refine go_T_put (fun Kz hKz => ?_)
  conv => whnf
  refine s_T_mapAt ha ?_
  conv => whnf
  refine ⟨by show plk a < 10; omega, ?_⟩
  refine s_PM_hasPoint (by omega) hx hA (fun e1 => ?_) (fun e1 => ?_)
  · conv => whnf
    first | refine ⟨fun _ => ?_, fun q => absurd (by decide) q⟩ | refine ⟨fun q => absurd q (by decide), fun _ => ?_⟩
    conv => whnf
    refine ⟨by show plk a < 10; omega, ?_⟩
    refine s_PM_hasPoint (by omega) hy hA (fun e2 => ?_) (fun e2 => ?_)
    · conv => whnf
      first | refine ⟨fun _ => ?_, fun q => absurd (by decide) q⟩ | refine ⟨fun q => absurd q (by decide), fun _ => ?_⟩
      conv => whnf
      refine ⟨by show plk a < 10; omega, ?_⟩
      refine s_PM_hasPoint (by omega) hu hA (fun e3 => ?_) (fun e3 => ?_)
      · conv => whnf
        first | refine ⟨fun _ => ?_, fun q => absurd (by decide) q⟩ | refine ⟨fun q => absurd q (by decide), fun _ => ?_⟩
        conv => whnf
        refine ⟨by show plk a < 10; omega, ?_⟩
        refine s_PM_hasPoint (by omega) hv hA (fun e4 => ?_) (fun e4 => ?_)
        · have h4 : a < 4 := plA_lt (S := S) (by omega)
          have hpk : plk a = a := if_pos h4
          have hLR := hA.1.2 x y e1 e2
          conv => whnf
          first | refine ⟨fun _ => ?_, fun q => absurd (by decide) q⟩ | refine ⟨fun q => absurd q (by decide), fun _ => ?_⟩
          conv => whnf
          refine s_CO_pairOf (by omega) (by omega) ?_
          conv => whnf
          refine ⟨by show plk a < 10; omega, ?_⟩
          refine s_PM_imageOf (by omega) (by omega) ?_
          conv => whnf
          rw [hA.2.2 x y e1 e2]
          refine s_CO_turned (by omega) (by decide) ?_
          conv => whnf
          refine ⟨by show plk a < 10; omega, ?_⟩
          refine s_PM_setImage (by omega) (by omega) (by omega) (by omega) (by omega) ?_
          conv => whnf
          rw [hpk, show tn (8 * (plA S a).2.1 x y + (plA S a).2.2 x y) 2 = (plA S a).2.1 x y + 8 * (plA S a).2.2 x y by simp only [tn]; omega]
          have hs : zsm (pmS a) M (zset 1 a (8 * x + y) (nI (8 * u + v)) M) := zsm_set ⟨Or.inr rfl, rfl⟩
          rw [hpk] at hA
          refine h3 e1 e2 e3 e4 _ (CS_put hC h4 hs ⟨pput_wf hA.1 e3 e4, ?_, fun p q hp hq => ?_⟩) (csm_pm hs)
          · rw [zset_ne (by omega)]; exact hA.2.1
          · have hp : p < (plA S a).1 := hp
            have hq : q < (plA S a).1 := hq
            by_cases h : p = x ∧ q = y
            · rw [h.1, h.2, zset_eq]
              simp only [pput, and_self, if_true]
            · rw [zset_ne (by omega), hA.2.2 p q hp hq]
              simp only [pput]
              rw [if_neg h, if_neg h]
        · conv => whnf
          first | refine ⟨fun _ => ?_, fun q => absurd (by decide) q⟩ | refine ⟨fun q => absurd q (by decide), fun _ => ?_⟩
          conv => whnf
          exact h1 (fun q => e4 q.2.2.2)
      · conv => whnf
        first | refine ⟨fun _ => ?_, fun q => absurd (by decide) q⟩ | refine ⟨fun q => absurd q (by decide), fun _ => ?_⟩
        conv => whnf
        exact h1 (fun q => e3 q.2.2.1)
    · conv => whnf
      first | refine ⟨fun _ => ?_, fun q => absurd (by decide) q⟩ | refine ⟨fun q => absurd q (by decide), fun _ => ?_⟩
      conv => whnf
      exact h1 (fun q => e2 q.2.1)
  · conv => whnf
    first | refine ⟨fun _ => ?_, fun q => absurd (by decide) q⟩ | refine ⟨fun q => absurd q (by decide), fun _ => ?_⟩
    conv => whnf
    exact h1 (fun q => e1 q.1)
end
end
section
/-- a letter: where it acts, whether it is a capital -/
def lpos (c : Nat) : Nat := if 97 ≤ c then c - 97 else c - 65
def isLet (c : Nat) : Prop := (97 ≤ c ∧ c < 100) ∨ (65 ≤ c ∧ c < 68)
def capl (c : Nat) : Bool := decide (c < 97)
theorem lpos_lt {c : Nat} (h : isLet c) : lpos c < 3 := by
  unfold lpos; unfold isLet at h; split <;> omega
/-- how many points the letters ask; is one a capital -/
def bstr : List (Nat × Bool) → Nat
  | [] => 0
  | q :: r => max (q.1 + 2) (bstr r)
def bcap (w : List (Nat × Bool)) : Bool := w.any (fun q => q.2)
section
variable {G : ZG} {M : ZM} {Z : Option ZV → ZM → Prop}
theorem s_BR_length {b : Nat} (hb : b < 3) (hZ : Z (some (zi (M.1 2 b 2))) M) : Ctr 0 G mi_BR_length [zr 2 b] M Z := by
  refine go_BR_length (fun Kz hKz => ?_)
  conv => whnf
  refine ⟨by first | assumption | decide, ?_⟩
  conv => whnf
  exact hZ
def brS (b : Nat) : Nat → Nat → Prop := fun a c => (a = 2 ∨ a = 3 ∨ a = 4) ∧ c = b
theorem bstr_app (u : List (Nat × Bool)) (q : Nat × Bool) : bstr (u ++ [q]) = max (bstr u) (q.1 + 2) := by
  induction u with
  | nil => simp [bstr]
  | cons a r ih => simp only [List.cons_append, bstr, ih]; omega
end
end
section
/-! the bits of a long, counted as java/lang/Long does -/
def pc8 (b : Nat) : Nat := b % 2 + b / 2 % 2 + b / 4 % 2 + b / 8 % 2 + b / 16 % 2 + b / 32 % 2 + b / 64 % 2 + b / 128 % 2
/-- byte by byte -/
def rep8 (m : Nat) : Nat → Nat
  | 0 => 0
  | k + 1 => 256 * rep8 m k + m
theorem and8 {a b c d : Nat} (hb : b < 256) (hd : d < 256) : (256 * a + b) &&& (256 * c + d) = 256 * (a &&& c) + (b &&& d) := by
  have hbd : b &&& d < 2 ^ 8 := Nat.lt_of_le_of_lt Nat.and_le_left hb
  apply Nat.eq_of_testBit_eq
  intro i
  rw [Nat.testBit_and, show 256 * a + b = 2 ^ 8 * a + b from rfl, show 256 * c + d = 2 ^ 8 * c + d from rfl, show 256 * (a &&& c) + (b &&& d) = 2 ^ 8 * (a &&& c) + (b &&& d) from rfl, Nat.testBit_two_pow_mul_add _ hb, Nat.testBit_two_pow_mul_add _ hd, Nat.testBit_two_pow_mul_add _ hbd]
  by_cases h : i < 8
  · simp [h]
  · simp [h]
def bs1 (i m : Nat) : Nat := i - (i / 2 &&& m)
def bs2 (i m : Nat) : Nat := (i &&& m) + (i / 4 &&& m)
def bs3 (i m : Nat) : Nat := (i + i / 16) &&& m
theorem by1 : ∀ b, b < 256 → (b / 2 &&& 85) ≤ b ∧ ((128 + b / 2) &&& 85) = (b / 2 &&& 85) ∧ bs1 b 85 < 256 ∧ (bs1 b 85 &&& 51) + (bs1 b 85 / 4 &&& 51) < 256 := by decide +kernel
theorem by2 : ∀ t, t < 256 → ∀ r, r < 4 → ((64 * r + t / 4) &&& 51) = (t / 4 &&& 51) := by decide +kernel
theorem by3 : ∀ b, b < 256 → (bs3 (bs2 (bs1 b 85) 51) 15 = pc8 b ∧ bs2 (bs1 b 85) 51 % 16 ≤ 4 ∧ bs2 (bs1 b 85) 51 / 16 ≤ 4) := by decide +kernel
theorem by4 : ∀ t, t < 256 → t % 16 ≤ 4 → t / 16 ≤ 4 → ∀ r, r < 16 → ((t + t / 16 + 16 * r) &&& 15) = ((t + t / 16) &&& 15) ∧ t + t / 16 + 16 * r < 512 := by decide +kernel
theorem bs1_step (a b k : Nat) (hb : b < 256) : bs1 (256 * a + b) (rep8 85 (k + 1)) = 256 * bs1 a (rep8 85 k) + bs1 b 85 := by
  have h := by1 b hb
  have e1 : (256 * a + b) / 2 = 256 * (a / 2) + (128 * (a % 2) + b / 2) := by omega
  have e2 : ((128 * (a % 2) + b / 2) &&& 85) = (b / 2 &&& 85) := by
    rcases Nat.mod_two_eq_zero_or_one a with q | q
    · rw [q]; simp
    · rw [q]; exact h.2.1
  have hle : (a / 2 &&& rep8 85 k) ≤ a := Nat.le_trans Nat.and_le_left (Nat.div_le_self _ _)
  rw [bs1, rep8, e1, and8 (by omega) (by decide), e2]
  simp only [bs1]
  have := h.1
  rw [show 256 * (a - (a / 2 &&& rep8 85 k)) = 256 * a - 256 * (a / 2 &&& rep8 85 k) by omega]
  omega
theorem bs2_step (a b k : Nat) (hb : b < 256) : bs2 (256 * a + b) (rep8 51 (k + 1)) = 256 * bs2 a (rep8 51 k) + bs2 b 51 := by
  have e1 : (256 * a + b) / 4 = 256 * (a / 4) + (64 * (a % 4) + b / 4) := by omega
  rw [bs2, rep8, e1, and8 hb (by decide), and8 (by omega) (by decide), by2 b hb (a % 4) (Nat.mod_lt _ (by decide))]
  simp only [bs2]
  omega
theorem bs3_step (a b k : Nat) (hb : b < 256) (h1 : b % 16 ≤ 4) (h2 : b / 16 ≤ 4) (h3 : a % 16 ≤ 4) : bs3 (256 * a + b) (rep8 15 (k + 1)) = 256 * bs3 a (rep8 15 k) + bs3 b 15 := by
  have e1 : (256 * a + b) + (256 * a + b) / 16 = 256 * (a + a / 16) + (b + b / 16 + 16 * (a % 16)) := by omega
  have h := by4 b hb h1 h2 (a % 16) (Nat.mod_lt _ (by decide))
  rw [bs3, rep8, e1, and8 (by omega) (by decide), h.1]
  rfl
/-- the bytes, each replaced by the number of its bits -/
def pcb (i : Nat) : Nat → Nat
  | 0 => 0
  | k + 1 => 256 * pcb (i / 256) k + pc8 (i % 256)
theorem bs123 : ∀ (k i : Nat), i < 256 ^ k → bs3 (bs2 (bs1 i (rep8 85 k)) (rep8 51 k)) (rep8 15 k) = pcb i k ∧ bs2 (bs1 i (rep8 85 k)) (rep8 51 k) % 16 ≤ 4 := by
  intro k
  induction k with
  | zero =>
    intro i h
    have : i = 0 := by rw [Nat.pow_zero] at h; omega
    subst this
    decide
  | succ k ih =>
    intro i h
    have h1 := ih (i / 256) (Nat.div_lt_of_lt_mul (by rw [Nat.pow_succ, Nat.mul_comm] at h; exact h))
    have hb : i % 256 < 256 := Nat.mod_lt _ (by decide)
    have h2 := by3 _ hb
    have h3 := by1 _ hb
    have e : i = 256 * (i / 256) + i % 256 := (Nat.div_add_mod i 256).symm
    have e1 : bs1 i (rep8 85 (k + 1)) = 256 * bs1 (i / 256) (rep8 85 k) + bs1 (i % 256) 85 := by
      have := bs1_step (i / 256) (i % 256) k hb
      rw [← e] at this
      exact this
    have e2 : bs2 (bs1 i (rep8 85 (k + 1))) (rep8 51 (k + 1)) = 256 * bs2 (bs1 (i / 256) (rep8 85 k)) (rep8 51 k) + bs2 (bs1 (i % 256) 85) 51 := by rw [e1, bs2_step _ _ _ h3.2.2.1]
    rw [e2]
    have hlt : bs2 (bs1 (i % 256) 85) 51 < 256 := h3.2.2.2
    refine ⟨?_, by omega⟩
    rw [bs3_step _ _ _ hlt h2.2.1 h2.2.2 h1.2, h1.1, h2.1]
    rfl
/-- how many of the first k bits are set -/
def bct (i : Nat) : Nat → Nat
  | 0 => 0
  | k + 1 => bct i k + (i.testBit k).toNat
theorem tb (i k : Nat) : (i.testBit k).toNat = i / 2 ^ k % 2 := Nat.toNat_testBit i k
theorem pc8_eq (i k : Nat) : pc8 (i / 2 ^ k % 256) = (i.testBit k).toNat + (i.testBit (k + 1)).toNat + (i.testBit (k + 2)).toNat + (i.testBit (k + 3)).toNat + (i.testBit (k + 4)).toNat + (i.testBit (k + 5)).toNat + (i.testBit (k + 6)).toNat + (i.testBit (k + 7)).toNat := by
  simp only [tb, Nat.pow_add, ← Nat.div_div_eq_div_mul]
  generalize i / 2 ^ k = a
  simp only [pc8]
  omega
theorem bct8 (i k : Nat) : bct i (k + 8) = bct i k + pc8 (i / 2 ^ k % 256) := by
  rw [pc8_eq]
  simp only [bct]
  omega
theorem bct_pcb (i : Nat) : bct i 64 = pc8 (i % 256) + pc8 (i / 256 % 256) + pc8 (i / 65536 % 256) + pc8 (i / 16777216 % 256) + pc8 (i / 4294967296 % 256) + pc8 (i / 1099511627776 % 256) + pc8 (i / 281474976710656 % 256) + pc8 (i / 72057594037927936 % 256) := by
  have h0 := bct8 i 0
  have h1 := bct8 i 8
  have h2 := bct8 i 16
  have h3 := bct8 i 24
  have h4 := bct8 i 32
  have h5 := bct8 i 40
  have h6 := bct8 i 48
  have h7 := bct8 i 56
  simp only [Nat.reducePow, Nat.reduceAdd, Nat.div_one] at h0 h1 h2 h3 h4 h5 h6 h7
  have hz : bct i 0 = 0 := rfl
  omega
theorem pc8_le (b : Nat) : pc8 b ≤ 8 := by unfold pc8; omega
theorem bl2 {p0 p1 p2 T3 : Nat} (h0 : p0 ≤ 8) (h1 : p1 ≤ 8) (h2 : p2 ≤ 8) : ((256 * (256 * (256 * T3 + p2) + p1) + p0) + (256 * (256 * T3 + p2) + p1)) / 65536 = (256 * T3 + p2) + T3 := by
  rw [show (256 * (256 * (256 * T3 + p2) + p1) + p0) + (256 * (256 * T3 + p2) + p1) = 65536 * ((256 * T3 + p2) + T3) + (256 * (p1 + p2) + p0 + p1) by omega]
  rw [Nat.mul_add_div (by decide), Nat.div_eq_of_lt (by omega), Nat.add_zero]
theorem bl3 {p0 p1 p2 T3 : Nat} : (256 * (256 * (256 * T3 + p2) + p1) + p0) + (256 * (256 * T3 + p2) + p1) = (p0 + p1 + 256 * (p1 + p2)) + 65536 * ((256 * T3 + p2) + T3) := by omega
theorem bl4 {a0 a1 a2 Q : Nat} (h0 : a0 < 20000) (h1 : a1 < 20000) (h2 : a2 < 20000) (hQ : Q < 20000) : (a0 + 65536 * (a1 + 65536 * (a2 + 65536 * Q)) + (a1 + 65536 * (a2 + 65536 * Q))) / 4294967296 = (a2 + 65536 * Q) + Q := by
  rw [show a0 + 65536 * (a1 + 65536 * (a2 + 65536 * Q)) + (a1 + 65536 * (a2 + 65536 * Q)) = 4294967296 * ((a2 + 65536 * Q) + Q) + (a0 + a1 + 65536 * (a1 + a2)) by omega]
  rw [Nat.mul_add_div (by decide), Nat.div_eq_of_lt (by omega), Nat.add_zero]
theorem bl5 {a0 a1 a2 Q : Nat} : (a0 + 65536 * (a1 + 65536 * (a2 + 65536 * Q)) + (a1 + 65536 * (a2 + 65536 * Q)) + ((a2 + 65536 * Q) + Q)) % 128 = (a0 + a1 + a2 + Q) % 128 := by
  rw [show a0 + 65536 * (a1 + 65536 * (a2 + 65536 * Q)) + (a1 + 65536 * (a2 + 65536 * Q)) + ((a2 + 65536 * Q) + Q) = (a0 + a1 + a2 + Q) + 128 * (512 * (a1 + 65536 * (a2 + 65536 * Q)) + 512 * (a2 + 65536 * Q) + 512 * Q) by omega, Nat.add_mul_mod_self_left]
theorem bl6 {p0 p1 p2 p3 p4 p5 p6 p7 : Nat} (h : p0 + p1 + p2 + p3 + p4 + p5 + p6 + p7 < 128) : ((p0 + p1 + 256 * (p1 + p2)) + (p2 + p3 + 256 * (p3 + p4)) + (p4 + p5 + 256 * (p5 + p6)) + (p6 + p7 + 256 * p7)) % 128 = p0 + p1 + p2 + p3 + p4 + p5 + p6 + p7 := by
  rw [show (p0 + p1 + 256 * (p1 + p2)) + (p2 + p3 + 256 * (p3 + p4)) + (p4 + p5 + 256 * (p5 + p6)) + (p6 + p7 + 256 * p7) = (p0 + p1 + p2 + p3 + p4 + p5 + p6 + p7) + 128 * (2 * (p1 + p2) + 2 * (p3 + p4) + 2 * (p5 + p6) + 2 * p7) by omega, Nat.add_mul_mod_self_left, Nat.mod_eq_of_lt h]
theorem bct_last (i : Nat) : (pcb i 8 + pcb i 8 / 256 + (pcb i 8 + pcb i 8 / 256) / 65536 + (pcb i 8 + pcb i 8 / 256 + (pcb i 8 + pcb i 8 / 256) / 65536) / 4294967296) % 128 = bct i 64 ∧ pcb i 8 < 2 ^ 61 := by
  rw [bct_pcb]
  simp only [pcb, Nat.div_div_eq_div_mul, Nat.reduceMul, Nat.mul_zero, Nat.zero_add]
  have g0 := pc8_le (i % 256)
  have g1 := pc8_le (i / 256 % 256)
  have g2 := pc8_le (i / 65536 % 256)
  have g3 := pc8_le (i / 16777216 % 256)
  have g4 := pc8_le (i / 4294967296 % 256)
  have g5 := pc8_le (i / 1099511627776 % 256)
  have g6 := pc8_le (i / 281474976710656 % 256)
  have g7 := pc8_le (i / 72057594037927936 % 256)
  generalize pc8 (i % 256) = p0 at *
  generalize pc8 (i / 256 % 256) = p1 at *
  generalize pc8 (i / 65536 % 256) = p2 at *
  generalize pc8 (i / 16777216 % 256) = p3 at *
  generalize pc8 (i / 4294967296 % 256) = p4 at *
  generalize pc8 (i / 1099511627776 % 256) = p5 at *
  generalize pc8 (i / 281474976710656 % 256) = p6 at *
  generalize pc8 (i / 72057594037927936 % 256) = p7 at *
  have e0 : ∀ T, (256 * T + p0) / 256 = T := fun T => by omega
  rw [e0, bl2 g0 g1 g2, bl3]
  have e2 : (256 * (256 * (256 * (256 * (256 * p7 + p6) + p5) + p4) + p3) + p2) + (256 * (256 * (256 * (256 * p7 + p6) + p5) + p4) + p3) = (p2 + p3 + 256 * (p3 + p4)) + 65536 * ((256 * (256 * (256 * p7 + p6) + p5) + p4) + (256 * (256 * p7 + p6) + p5)) := bl3
  have e4 : (256 * (256 * (256 * p7 + p6) + p5) + p4) + (256 * (256 * p7 + p6) + p5) = (p4 + p5 + 256 * (p5 + p6)) + 65536 * ((256 * p7 + p6) + p7) := bl3
  have e6 : (256 * p7 + p6) + p7 = p6 + p7 + 256 * p7 := by omega
  rw [e2, e4, e6, bl4 (by omega) (by omega) (by omega) (by omega), bl5, bl6 (by omega)]
  exact ⟨rfl, by omega⟩
theorem l_cu : ∀ k, k < 64 → ((nI k).toInt64.toUInt64 &&& Int64.toUInt64 63) = UInt64.ofNat k := by decide +kernel
theorem l_ushr {n k : Nat} (hn : n < 2 ^ 64) (hk : k < 64) : ((lN n).toUInt64 >>> ((nI k).toInt64.toUInt64 &&& Int64.toUInt64 63)).toInt64 = lN (n / 2 ^ k) := by
  rw [l_cu k hk]
  apply l_ext
  apply BitVec.eq_of_toNat_eq
  show ((lN n).toUInt64 >>> UInt64.ofNat k).toNat = _
  rw [UInt64.toNat_shiftRight, UInt64.toNat_ofNat_of_lt' (by show k < 2 ^ 64; omega), l_bv, BitVec.toNat_ofNat, Nat.mod_eq_of_lt (Nat.lt_of_le_of_lt (Nat.div_le_self _ _) hn), Nat.mod_eq_of_lt hk, Nat.shiftRight_eq_div_pow]
  congr 1
  show (lN n).toBitVec.toNat = n
  exact l_tn hn
section
variable {G : ZG} {M : ZM} {Z : Option ZV → ZM → Prop}
theorem s_JL_bitCount {m : Nat} (hm : m < 2 ^ 64) (hZ : Z (some (zi (nI (bct m 64)))) M) : Ctr 0 G mi_JL_bitCount [zl (lN m)] M Z := by
  have h1 := (bs123 8 m (by rw [show (256 : Nat) ^ 8 = 2 ^ 64 from rfl]; exact hm)).1
  have e85 : rep8 85 8 = 6148914691236517205 := rfl
  have e51 : rep8 51 8 = 3689348814741910323 := rfl
  have e15 : rep8 15 8 = 1085102592571150095 := rfl
  rw [e85, e51, e15] at h1
  have hl := bct_last m
  rw [← h1] at hl
  have b1 : (m / 2 &&& 6148914691236517205) ≤ m := Nat.le_trans Nat.and_le_left (Nat.div_le_self _ _)
  have c1 : bs1 m 6148914691236517205 < 2 ^ 64 := Nat.lt_of_le_of_lt (Nat.sub_le _ _) hm
  have c2a : (bs1 m 6148914691236517205 &&& 3689348814741910323) ≤ 3689348814741910323 := Nat.and_le_right
  have c2b : (bs1 m 6148914691236517205 / 4 &&& 3689348814741910323) ≤ 3689348814741910323 := Nat.and_le_right
  have c2 : bs2 (bs1 m 6148914691236517205) 3689348814741910323 ≤ 7378697629483820646 := by unfold bs2; omega
  refine go_JL_bitCount (fun Kz hKz => ?_)
  conv => whnf
  rw [l_ushr hm (by decide), l_and, Nat.pow_one, lN_sub b1, show m - (m / 2 &&& 6148914691236517205) = bs1 m 6148914691236517205 from rfl]
  generalize bs1 m 6148914691236517205 = x1 at *
  rw [l_ushr c1 (by decide), l_and, l_and, lN_add, show (x1 &&& 3689348814741910323) + (x1 / 2 ^ 2 &&& 3689348814741910323) = bs2 x1 3689348814741910323 from rfl]
  generalize bs2 x1 3689348814741910323 = x2 at *
  rw [l_ushr (by omega) (by decide), lN_add, l_and, show (x2 + x2 / 2 ^ 4) &&& 1085102592571150095 = bs3 x2 1085102592571150095 from rfl]
  generalize bs3 x2 1085102592571150095 = x3 at *
  obtain ⟨hl1, hl2⟩ := hl
  rw [l_ushr (by omega) (by decide), lN_add, l_ushr (by omega) (by decide), lN_add, l_ushr (by omega) (by decide), lN_add, lN_i, n_and, show (127 : Nat) = 2 ^ 7 - 1 from rfl, Nat.and_two_pow_sub_one_eq_mod]
  have e : (x3 + x3 / 2 ^ 8 + (x3 + x3 / 2 ^ 8) / 2 ^ 16 + (x3 + x3 / 2 ^ 8 + (x3 + x3 / 2 ^ 8) / 2 ^ 16) / 2 ^ 32) % 2 ^ 7 = bct m 64 := hl1
  rw [e]
  exact hZ
end
end
section
/-- the set of the first k values of f -/
def orf (f : Nat → Nat) : Nat → Nat
  | 0 => 0
  | k + 1 => orf f k ||| 2 ^ f k
theorem orf_bit (f : Nat → Nat) : ∀ k v, (orf f k).testBit v = true ↔ ∃ i, i < k ∧ f i = v := by
  intro k
  induction k with
  | zero => intro v; simp [orf]
  | succ k ih =>
    intro v
    rw [orf, Nat.testBit_or, Bool.or_eq_true, ih, Nat.testBit_two_pow]
    constructor
    · rintro (⟨i, hi, he⟩ | h)
      · exact ⟨i, by omega, he⟩
      · exact ⟨k, by omega, of_decide_eq_true h⟩
    · rintro ⟨i, hi, he⟩
      rcases Nat.lt_succ_iff_lt_or_eq.mp hi with h | rfl
      · exact Or.inl ⟨i, h, he⟩
      · exact Or.inr (decide_eq_true he)
theorem orf_lt {f : Nat → Nat} {b : Nat} : ∀ k, (∀ i, i < k → f i < b) → orf f k < 2 ^ b := by
  intro k
  induction k with
  | zero => intro _; exact Nat.pow_pos (by decide)
  | succ k ih =>
    intro h
    exact Nat.or_lt_two_pow (ih fun i hi => h i (by omega)) (Nat.pow_lt_pow_right (by decide) (h k (by omega)))
theorem orf_congr {f g : Nat → Nat} : ∀ k, (∀ i, i < k → f i = g i) → orf f k = orf g k := by
  intro k
  induction k with
  | zero => intro _; rfl
  | succ k ih => intro h; rw [orf, orf, ih fun i hi => h i (by omega), h k (by omega)]
theorem orf_full {f : Nat → Nat} {n : Nat} (hf : ∀ i, i < n → f i < n) : orf f n = 2 ^ n - 1 ↔ ∀ i j, i < n → j < n → f i = f j → i = j := by
  constructor
  · intro h
    refine surj_inj hf fun v hv => ?_
    have hb : (orf f n).testBit v = true := by rw [h, Nat.testBit_two_pow_sub_one]; exact decide_eq_true hv
    exact (orf_bit f n v).mp hb
  · intro hi
    refine Nat.eq_of_testBit_eq fun v => ?_
    rw [Nat.testBit_two_pow_sub_one, Bool.eq_iff_iff, orf_bit]
    constructor
    · rintro ⟨i, hi, rfl⟩
      exact decide_eq_true (hf i hi)
    · intro hv
      exact inj_surj hf hi v (of_decide_eq_true hv)
theorem bct_or (r e : Nat) : ∀ k, bct (r ||| 2 ^ e) k = bct r k + (if e < k then (if r.testBit e then 0 else 1) else 0) := by
  intro k
  induction k with
  | zero => simp [bct]
  | succ k ih =>
    rw [bct, bct, ih, Nat.testBit_or, Nat.testBit_two_pow]
    by_cases he : e = k
    · subst he
      cases hr : r.testBit e <;> simp
    · have h1 : decide (e = k) = false := decide_eq_false he
      rw [h1, Bool.or_false]
      by_cases hk : e < k
      · have : e < k + 1 := by omega
        simp only [hk, this, if_true]
        omega
      · have : ¬ e < k + 1 := by omega
        simp only [hk, this, if_false]
        omega
theorem bct_orf {f : Nat → Nat} : ∀ k, (∀ i, i < k → f i < 64) → bct (orf f k) 64 ≤ k ∧ (bct (orf f k) 64 = k ↔ ∀ i j, i < k → j < k → f i = f j → i = j) := by
  intro k
  induction k with
  | zero =>
    intro _
    have : bct (orf f 0) 64 = 0 := (by decide : bct 0 64 = 0)
    exact ⟨by omega, fun _ i j hi => absurd hi (Nat.not_lt_zero _), fun _ => this⟩
  | succ k ih =>
    intro h
    obtain ⟨h1, h2⟩ := ih fun i hi => h i (by omega)
    rw [orf, bct_or, if_pos (h k (by omega))]
    by_cases hb : (orf f k).testBit (f k) = true
    · rw [if_pos hb]
      refine ⟨by omega, fun q => by omega, fun q => ?_⟩
      obtain ⟨i, hi, he⟩ := (orf_bit f k _).mp hb
      have := q i k (by omega) (by omega) he
      omega
    · rw [if_neg hb]
      refine ⟨by omega, fun q => ?_, fun q => ?_⟩
      · have h3 := h2.mp (by omega)
        intro i j hi hj he
        rcases Nat.lt_succ_iff_lt_or_eq.mp hi with hi | rfl
        · rcases Nat.lt_succ_iff_lt_or_eq.mp hj with hj | rfl
          · exact h3 i j hi hj he
          · exact absurd ((orf_bit f _ _).mpr ⟨i, hi, he⟩) hb
        · rcases Nat.lt_succ_iff_lt_or_eq.mp hj with hj | rfl
          · exact absurd ((orf_bit f _ _).mpr ⟨j, hj, he.symm⟩) hb
          · rfl
      · rw [h2.mpr fun i j hi hj he => q i j (by omega) (by omega) he]
/-- two loops, one in the other, that only read -/
theorem rloop {n m : Nat} {O : Nat → Prop} {I : Nat → Nat → Prop} (h1 : O n) (h2 : ∀ x, x < n → I x 0 → O x) (h3 : ∀ x, x < n → O (x + 1) → I x m) (h4 : ∀ x y, x < n → y < m → I x (y + 1) → I x y) : O 0 := by
  have out : ∀ x, x ≤ n → O x := by
    refine up_to h1 ?_
    intro x hx ih
    have inn : ∀ y, y ≤ m → I x y := up_to (h3 x hx ih) (fun y hy ih2 => h4 x y hx hy ih2)
    exact h2 x hx (inn 0 (Nat.zero_le _))
  exact out 0 (Nat.zero_le _)
/-- pair number j of a map's pairs -/
def pj (A : ZP) (c j : Nat) : Nat := c * A.2.1 (j / A.1) (j % A.1) + A.2.2 (j / A.1) (j % A.1)
theorem dvm {n x y : Nat} (hy : y < n) : (n * x + y) / n = x ∧ (n * x + y) % n = y := by
  have h0 : 0 < n := by omega
  exact ⟨by rw [Nat.mul_add_div h0, Nat.div_eq_of_lt hy, Nat.add_zero], by rw [Nat.mul_add_mod, Nat.mod_eq_of_lt hy]⟩
theorem dvlt {n j : Nat} (h : j < n * n) : j / n < n ∧ j % n < n := by
  have h0 : 0 < n := by
    rcases Nat.eq_zero_or_pos n with q | q
    · rw [q] at h; omega
    · exact q
  exact ⟨Nat.div_lt_of_lt_mul h, Nat.mod_lt _ h0⟩
theorem prlt {n x y : Nat} (hx : x < n) (hy : y < n) : n * x + y < n * n := by
  have : n * (x + 1) ≤ n * n := Nat.mul_le_mul_left _ hx
  rw [Nat.mul_add] at this
  omega
theorem pj_inj {A : ZP} {c : Nat} (hA : pwf A) (hc : A.1 ≤ c) : (∀ i j, i < A.1 * A.1 → j < A.1 * A.1 → pj A c i = pj A c j → i = j) ↔ pinj A := by
  constructor
  · intro h x y x' y' hx hy hx' hy' e1 e2
    have h1 := dvm (x := x) hy
    have h2 := dvm (x := x') hy'
    have := h _ _ (prlt hx hy) (prlt hx' hy') (by simp only [pj, h1.1, h1.2, h2.1, h2.2, e1, e2])
    have e3 := congrArg (· / A.1) this
    have e4 := congrArg (· % A.1) this
    simp only [h1.1, h1.2, h2.1, h2.2] at e3 e4
    exact ⟨e3, e4⟩
  · intro h i j hi hj he
    have h1 := dvlt hi
    have h2 := dvlt hj
    have h3 := hA.2 _ _ h1.1 h1.2
    have h4 := hA.2 _ _ h2.1 h2.2
    simp only [pj] at he
    have e := dvm (x := A.2.1 (i / A.1) (i % A.1)) (Nat.lt_of_lt_of_le h3.2 hc)
    have e' := dvm (x := A.2.1 (j / A.1) (j % A.1)) (Nat.lt_of_lt_of_le h4.2 hc)
    have e5 := congrArg (· / c) he
    have e6 := congrArg (· % c) he
    simp only [e.1, e.2, e'.1, e'.2] at e5 e6
    have := h _ _ _ _ h1.1 h1.2 h2.1 h2.2 e5 e6
    rw [← Nat.div_add_mod i A.1, ← Nat.div_add_mod j A.1, this.1, this.2]
section
variable {G : ZG} {M : ZM} {Z : Option ZV → ZM → Prop}
theorem s_CH_isBijective {k : Nat} {A : ZP} (hk : k < 10) (hA : isPM M k A) (h1 : pinj A → Z (some (zi (nI 1))) M) (h2 : ¬ pinj A → Z (some (zi (nI 0))) M) : Ctr 0 G mi_CH_isBijective [zr 0 k] M Z := by
  have hn := hA.1.1
  have hnn : A.1 * A.1 ≤ 6 * 6 := Nat.mul_le_mul hn hn
  have hlt : ∀ j, j < A.1 * A.1 → pj A 8 j < 64 := by
    intro j hj
    have h := dvlt hj
    have := hA.1.2 _ _ h.1 h.2
    unfold pj
    omega
  refine go_CH_isBijective (fun Kz hKz => ?_)
  conv => whnf
  refine ⟨by first | assumption | decide, ?_⟩
  conv => whnf
  refine s_PM_points hk ?_
  conv => whnf
  refine hKz _ _ _ _ ?_
  rw [hA.2.1, show (0 : Nat) = orf (pj A 8) (A.1 * 0) by rw [Nat.mul_zero]; rfl]
  refine rloop (n := A.1) (m := A.1) (O := fun x => V 0 G mi_CH_isBijective Z 10 [(0, zr 0 k), (1, zi (nI A.1)), (2, zl (lN (orf (pj A 8) (A.1 * x)))), (4, zi (nI x))] [] M) (I := fun x y => V 0 G mi_CH_isBijective Z 19 [(0, zr 0 k), (1, zi (nI A.1)), (2, zl (lN (orf (pj A 8) (A.1 * x + y)))), (4, zi (nI x)), (5, zi (nI y))] [] M) ?_ (fun x hx h => ?_) (fun x hx h => ?_) (fun x y hx hy h => ?_)
  · have hb := bct_orf (f := pj A 8) (A.1 * A.1) hlt
    have hol := orf_lt (f := pj A 8) (b := 64) (A.1 * A.1) hlt
    refine z_run (cuts := cu_CH_isBijective) ok_CH_isBijective (fun Kz hKz => ?_)
    conv => whnf
    rw [nI_leI (by omega) (by omega)]
    refine ⟨fun _ => ?_, fun q => absurd (Nat.le_refl _) q⟩
    conv => whnf
    refine s_JL_bitCount hol ?_
    conv => whnf
    rw [pk_mul, n_ne (by omega) (by omega)]
    refine ⟨fun q => ?_, fun q => ?_⟩
    · conv => whnf
      exact ⟨Or.inl rfl, h2 (fun z => q (hb.2.mpr ((pj_inj hA.1 (by omega)).mpr z)))⟩
    · conv => whnf
      exact ⟨Or.inr rfl, h1 ((pj_inj hA.1 (by omega)).mp (hb.2.mp (Classical.not_not.mp q)))⟩
  · refine z_run (cuts := cu_CH_isBijective) ok_CH_isBijective (fun Kz hKz => ?_)
    conv => whnf
    rw [nI_leI (by omega) (by omega)]
    refine ⟨fun q => absurd q (by omega), fun _ => ?_⟩
    conv => whnf
    refine hKz _ _ _ _ ?_
    exact h
  · refine z_run (cuts := cu_CH_isBijective) ok_CH_isBijective (fun Kz hKz => ?_)
    conv => whnf
    rw [nI_leI (by omega) (by omega)]
    refine ⟨fun _ => ?_, fun q => absurd (Nat.le_refl _) q⟩
    conv => whnf
    refine hKz _ _ _ _ ?_
    rw [nI_1', show A.1 * x + A.1 = A.1 * (x + 1) by rw [Nat.mul_add, Nat.mul_one]]
    exact h
  · have e := dvm (x := x) hy
    have hl := hlt _ (prlt hx hy)
    have he : pj A 8 (A.1 * x + y) = 8 * A.2.1 x y + A.2.2 x y := by unfold pj; rw [e.1, e.2]
    refine z_run (cuts := cu_CH_isBijective) ok_CH_isBijective (fun Kz hKz => ?_)
    conv => whnf
    rw [nI_leI (by omega) (by omega)]
    refine ⟨fun q => absurd q (by omega), fun _ => ?_⟩
    conv => whnf
    refine s_CO_pairOf (by omega) (by omega) ?_
    conv => whnf
    refine ⟨by first | assumption | decide, ?_⟩
    conv => whnf
    refine s_PM_imageOf hk (by omega) ?_
    conv => whnf
    refine hKz _ _ _ _ ?_
    rw [hA.2.2 x y hx hy, ← he, l_shl _ _ hl, Nat.one_mul, l_or, nI_1']
    exact h
end
end
section
def pinvo (A : ZP) : Prop := ∀ x y, x < A.1 → y < A.1 → A.2.1 (A.2.1 x y) (A.2.2 x y) = x ∧ A.2.2 (A.2.1 x y) (A.2.2 x y) = y
def plnd (A : ZP) : Prop := ∀ x, x < A.1 → orf (fun y => A.2.1 x y) A.1 = 2 ^ A.1 - 1
def prnd (A : ZP) : Prop := ∀ y, y < A.1 → orf (fun x => A.2.2 x y) A.1 = 2 ^ A.1 - 1
def psq (A : ZP) : Prop := ∀ x, x < A.1 → A.2.1 x x = x ∧ A.2.2 x x = x
section
variable {G : ZG} {M : ZM} {Z : Option ZV → ZM → Prop}
theorem s_CH_isInvolutive {k : Nat} {A : ZP} (hk : k < 10) (hA : isPM M k A) (h1 : pinvo A → Z (some (zi (nI 1))) M) (h2 : ¬ pinvo A → Z (some (zi (nI 0))) M) : Ctr 0 G mi_CH_isInvolutive [zr 0 k] M Z := by
  have hn := hA.1.1
  refine go_CH_isInvolutive (fun Kz hKz => ?_)
  conv => whnf
  refine ⟨by first | assumption | decide, ?_⟩
  conv => whnf
  refine s_PM_points hk ?_
  conv => whnf
  refine hKz _ _ _ _ ?_
  rw [hA.2.1]
  refine rloop (n := A.1) (m := A.1) (O := fun x => (∀ a b, a < A.1 → b < A.1 → a < x → A.2.1 (A.2.1 a b) (A.2.2 a b) = a ∧ A.2.2 (A.2.1 a b) (A.2.2 a b) = b) → V 0 G mi_CH_isInvolutive Z 7 [(0, zr 0 k), (1, zi (nI A.1)), (2, zi (nI x))] [] M) (I := fun x y => (∀ a b, a < A.1 → b < A.1 → (a < x ∨ (a = x ∧ b < y)) → A.2.1 (A.2.1 a b) (A.2.2 a b) = a ∧ A.2.2 (A.2.1 a b) (A.2.2 a b) = b) → V 0 G mi_CH_isInvolutive Z 14 [(0, zr 0 k), (1, zi (nI A.1)), (2, zi (nI x)), (3, zi (nI y))] [] M) (fun q => ?_) (fun x hx h q => ?_) (fun x hx h q => ?_) (fun x y hx hy h q => ?_) (fun a b _ _ q => absurd q (Nat.not_lt_zero _))
  · refine z_run (cuts := cu_CH_isInvolutive) ok_CH_isInvolutive (fun Kz hKz => ?_)
    conv => whnf
    rw [nI_leI (by omega) (by omega)]
    refine ⟨fun _ => ?_, fun q => absurd (Nat.le_refl _) q⟩
    conv => whnf
    exact ⟨Or.inr rfl, h1 (fun x y hx hy => q x y hx hy hx)⟩
  · refine z_run (cuts := cu_CH_isInvolutive) ok_CH_isInvolutive (fun Kz hKz => ?_)
    conv => whnf
    rw [nI_leI (by omega) (by omega)]
    refine ⟨fun q => absurd q (by omega), fun _ => ?_⟩
    conv => whnf
    refine hKz _ _ _ _ ?_
    exact h (fun a b ha hb q2 => q a b ha hb (by omega))
  · refine z_run (cuts := cu_CH_isInvolutive) ok_CH_isInvolutive (fun Kz hKz => ?_)
    conv => whnf
    rw [nI_leI (by omega) (by omega)]
    refine ⟨fun _ => ?_, fun q => absurd (Nat.le_refl _) q⟩
    conv => whnf
    refine hKz _ _ _ _ ?_
    rw [nI_1']
    exact h (fun a b ha hb q2 => q a b ha hb (by omega))
  · have hLR := hA.1.2 x y hx hy
    have hLR2 := hA.1.2 _ _ hLR.1 hLR.2
    refine z_run (cuts := cu_CH_isInvolutive) ok_CH_isInvolutive (fun Kz hKz => ?_)
    conv => whnf
    rw [nI_leI (by omega) (by omega)]
    refine ⟨fun q => absurd q (by omega), fun _ => ?_⟩
    conv => whnf
    refine s_CO_pairOf (by omega) (by omega) ?_
    conv => whnf
    refine ⟨by first | assumption | decide, ?_⟩
    conv => whnf
    refine s_PM_imageOf hk (by omega) ?_
    conv => whnf
    rw [hA.2.2 x y hx hy]
    refine ⟨by first | assumption | decide, ?_⟩
    conv => whnf
    refine s_PM_imageOf hk (by omega) ?_
    conv => whnf
    rw [hA.2.2 _ _ hLR.1 hLR.2, nI_eq (by omega) (by omega)]
    refine ⟨fun z => ?_, fun z => ?_⟩
    · conv => whnf
      refine hKz _ _ _ _ ?_
      rw [nI_1']
      refine h (fun a b ha hb q2 => ?_)
      by_cases hab : a = x ∧ b = y
      · rw [hab.1, hab.2]; omega
      · exact q a b ha hb (by omega)
    · conv => whnf
      refine ⟨Or.inl rfl, h2 (fun w => z ?_)⟩
      have := w x y hx hy
      rw [this.1, this.2]
theorem s_CH_isLeftNondegenerate {k : Nat} {A : ZP} (hk : k < 10) (hA : isPM M k A) (h1 : plnd A → Z (some (zi (nI 1))) M) (h2 : ¬ plnd A → Z (some (zi (nI 0))) M) : Ctr 0 G mi_CH_isLeftNondegenerate [zr 0 k] M Z := by
  have hn := hA.1.1
  refine go_CH_isLeftNondegenerate (fun Kz hKz => ?_)
  conv => whnf
  refine ⟨by first | assumption | decide, ?_⟩
  conv => whnf
  refine s_PM_points hk ?_
  conv => whnf
  refine hKz _ _ _ _ ?_
  rw [hA.2.1]
  have hlt : ∀ x, x < A.1 → orf (fun y => A.2.1 x y) A.1 < 2 ^ 8 := fun x hx => orf_lt _ (fun i hi => by have := hA.1.2 x i hx hi; show A.2.1 x i < 8; omega)
  have hp : 2 ^ A.1 ≤ 2 ^ 6 := Nat.pow_le_pow_right (by decide) hn
  have hp0 : 0 < 2 ^ A.1 := Nat.pow_pos (by decide)
  refine rloop (n := A.1) (m := A.1) (O := fun x => (∀ a, a < x → orf (fun y => A.2.1 a y) A.1 = 2 ^ A.1 - 1) → V 0 G mi_CH_isLeftNondegenerate Z 7 [(0, zr 0 k), (1, zi (nI A.1)), (2, zi (nI x))] [] M) (I := fun x y => (∀ a, a < x → orf (fun y => A.2.1 a y) A.1 = 2 ^ A.1 - 1) → V 0 G mi_CH_isLeftNondegenerate Z 17 [(0, zr 0 k), (1, zi (nI A.1)), (2, zi (nI x)), (3, zi (nI (orf (fun y => A.2.1 x y) y))), (4, zi (nI y))] [] M) (fun q => ?_) (fun x hx h q => ?_) (fun x hx h q => ?_) (fun x y hx hy h q => ?_) (fun a q => absurd q (Nat.not_lt_zero _))
  · refine z_run (cuts := cu_CH_isLeftNondegenerate) ok_CH_isLeftNondegenerate (fun Kz hKz => ?_)
    conv => whnf
    rw [nI_leI (by omega) (by omega)]
    refine ⟨fun _ => ?_, fun q => absurd (Nat.le_refl _) q⟩
    conv => whnf
    exact ⟨Or.inr rfl, h1 (fun x hx => q x hx)⟩
  · refine z_run (cuts := cu_CH_isLeftNondegenerate) ok_CH_isLeftNondegenerate (fun Kz hKz => ?_)
    conv => whnf
    rw [nI_leI (by omega) (by omega)]
    refine ⟨fun q => absurd q (by omega), fun _ => ?_⟩
    conv => whnf
    refine hKz _ _ _ _ ?_
    exact h q
  · have hl := hlt x hx
    refine z_run (cuts := cu_CH_isLeftNondegenerate) ok_CH_isLeftNondegenerate (fun Kz hKz => ?_)
    conv => whnf
    rw [nI_leI (by omega) (by omega)]
    refine ⟨fun _ => ?_, fun q => absurd (Nat.le_refl _) q⟩
    conv => whnf
    rw [n_shl _ _ (by omega), Nat.one_mul, pk_sub hp0, nI_eq (by omega) (by omega)]
    refine ⟨fun z => ?_, fun z => ?_⟩
    · conv => whnf
      refine hKz _ _ _ _ ?_
      rw [nI_1']
      refine h (fun a ha => ?_)
      rcases Nat.lt_succ_iff_lt_or_eq.mp ha with ha | rfl
      · exact q a ha
      · exact z
    · conv => whnf
      exact ⟨Or.inl rfl, h2 (fun w => z (w x hx))⟩
  · have hLR := hA.1.2 x y hx hy
    refine z_run (cuts := cu_CH_isLeftNondegenerate) ok_CH_isLeftNondegenerate (fun Kz hKz => ?_)
    conv => whnf
    rw [nI_leI (by omega) (by omega)]
    refine ⟨fun q => absurd q (by omega), fun _ => ?_⟩
    conv => whnf
    refine ⟨by first | assumption | decide, ?_⟩
    conv => whnf
    refine s_PM_left hk hA hx hy ?_
    conv => whnf
    refine hKz _ _ _ _ ?_
    rw [n_shl _ _ (by omega), Nat.one_mul, n_or, nI_1']
    exact h q
theorem s_CH_isRightNondegenerate {k : Nat} {A : ZP} (hk : k < 10) (hA : isPM M k A) (h1 : prnd A → Z (some (zi (nI 1))) M) (h2 : ¬ prnd A → Z (some (zi (nI 0))) M) : Ctr 0 G mi_CH_isRightNondegenerate [zr 0 k] M Z := by
  have hn := hA.1.1
  refine go_CH_isRightNondegenerate (fun Kz hKz => ?_)
  conv => whnf
  refine ⟨by first | assumption | decide, ?_⟩
  conv => whnf
  refine s_PM_points hk ?_
  conv => whnf
  refine hKz _ _ _ _ ?_
  rw [hA.2.1]
  have hlt : ∀ y, y < A.1 → orf (fun x => A.2.2 x y) A.1 < 2 ^ 8 := fun y hy => orf_lt _ (fun i hi => by have := hA.1.2 i y hi hy; show A.2.2 i y < 8; omega)
  have hp : 2 ^ A.1 ≤ 2 ^ 6 := Nat.pow_le_pow_right (by decide) hn
  have hp0 : 0 < 2 ^ A.1 := Nat.pow_pos (by decide)
  refine rloop (n := A.1) (m := A.1) (O := fun y => (∀ a, a < y → orf (fun x => A.2.2 x a) A.1 = 2 ^ A.1 - 1) → V 0 G mi_CH_isRightNondegenerate Z 7 [(0, zr 0 k), (1, zi (nI A.1)), (2, zi (nI y))] [] M) (I := fun y x => (∀ a, a < y → orf (fun x => A.2.2 x a) A.1 = 2 ^ A.1 - 1) → V 0 G mi_CH_isRightNondegenerate Z 17 [(0, zr 0 k), (1, zi (nI A.1)), (2, zi (nI y)), (3, zi (nI (orf (fun x => A.2.2 x y) x))), (4, zi (nI x))] [] M) (fun q => ?_) (fun y hy h q => ?_) (fun y hy h q => ?_) (fun y x hy hx h q => ?_) (fun a q => absurd q (Nat.not_lt_zero _))
  · refine z_run (cuts := cu_CH_isRightNondegenerate) ok_CH_isRightNondegenerate (fun Kz hKz => ?_)
    conv => whnf
    rw [nI_leI (by omega) (by omega)]
    refine ⟨fun _ => ?_, fun q => absurd (Nat.le_refl _) q⟩
    conv => whnf
    exact ⟨Or.inr rfl, h1 (fun x hx => q x hx)⟩
  · refine z_run (cuts := cu_CH_isRightNondegenerate) ok_CH_isRightNondegenerate (fun Kz hKz => ?_)
    conv => whnf
    rw [nI_leI (by omega) (by omega)]
    refine ⟨fun q => absurd q (by omega), fun _ => ?_⟩
    conv => whnf
    refine hKz _ _ _ _ ?_
    exact h q
  · have hl := hlt y hy
    refine z_run (cuts := cu_CH_isRightNondegenerate) ok_CH_isRightNondegenerate (fun Kz hKz => ?_)
    conv => whnf
    rw [nI_leI (by omega) (by omega)]
    refine ⟨fun _ => ?_, fun q => absurd (Nat.le_refl _) q⟩
    conv => whnf
    rw [n_shl _ _ (by omega), Nat.one_mul, pk_sub hp0, nI_eq (by omega) (by omega)]
    refine ⟨fun z => ?_, fun z => ?_⟩
    · conv => whnf
      refine hKz _ _ _ _ ?_
      rw [nI_1']
      refine h (fun a ha => ?_)
      rcases Nat.lt_succ_iff_lt_or_eq.mp ha with ha | rfl
      · exact q a ha
      · exact z
    · conv => whnf
      exact ⟨Or.inl rfl, h2 (fun w => z (w y hy))⟩
  · have hLR := hA.1.2 x y hx hy
    refine z_run (cuts := cu_CH_isRightNondegenerate) ok_CH_isRightNondegenerate (fun Kz hKz => ?_)
    conv => whnf
    rw [nI_leI (by omega) (by omega)]
    refine ⟨fun q => absurd q (by omega), fun _ => ?_⟩
    conv => whnf
    refine ⟨by first | assumption | decide, ?_⟩
    conv => whnf
    refine s_PM_right hk hA hx hy ?_
    conv => whnf
    refine hKz _ _ _ _ ?_
    rw [n_shl _ _ (by omega), Nat.one_mul, n_or, nI_1']
    exact h q
theorem s_CH_isSquareFree {k : Nat} {A : ZP} (hk : k < 10) (hA : isPM M k A) (h1 : psq A → Z (some (zi (nI 1))) M) (h2 : ¬ psq A → Z (some (zi (nI 0))) M) : Ctr 0 G mi_CH_isSquareFree [zr 0 k] M Z := by
  have hn := hA.1.1
  have lp : ∀ x, x ≤ A.1 → (∀ a, a < x → A.2.1 a a = a ∧ A.2.2 a a = a) → V 0 G mi_CH_isSquareFree Z 2 [(0, zr 0 k), (1, zi (nI x))] [] M := by
    refine up_to ?_ ?_
    · intro q
      refine z_run (cuts := cu_CH_isSquareFree) ok_CH_isSquareFree (fun Kz hKz => ?_)
      conv => whnf
      refine ⟨by first | assumption | decide, ?_⟩
      conv => whnf
      refine s_PM_points hk ?_
      conv => whnf
      rw [hA.2.1, nI_leI (by omega) (by omega)]
      refine ⟨fun _ => ?_, fun q => absurd (Nat.le_refl _) q⟩
      conv => whnf
      exact ⟨Or.inr rfl, h1 q⟩
    · intro x hx ih q
      have hLR := hA.1.2 x x hx hx
      refine z_run (cuts := cu_CH_isSquareFree) ok_CH_isSquareFree (fun Kz hKz => ?_)
      conv => whnf
      refine ⟨by first | assumption | decide, ?_⟩
      conv => whnf
      refine s_PM_points hk ?_
      conv => whnf
      rw [hA.2.1, nI_leI (by omega) (by omega)]
      refine ⟨fun q => absurd q (by omega), fun _ => ?_⟩
      conv => whnf
      refine s_CO_pairOf (by omega) (by omega) ?_
      conv => whnf
      refine ⟨by first | assumption | decide, ?_⟩
      conv => whnf
      refine s_PM_imageOf hk (by omega) ?_
      conv => whnf
      rw [hA.2.2 x x hx hx, nI_eq (by omega) (by omega)]
      refine ⟨fun z => ?_, fun z => ?_⟩
      · conv => whnf
        refine hKz _ _ _ _ ?_
        rw [nI_1']
        refine ih (fun a ha => ?_)
        rcases Nat.lt_succ_iff_lt_or_eq.mp ha with ha | rfl
        · exact q a ha
        · omega
      · conv => whnf
        refine ⟨Or.inl rfl, h2 (fun w => z ?_)⟩
        have := w x hx
        rw [this.1, this.2]
  refine go_CH_isSquareFree (fun Kz hKz => ?_)
  conv => whnf
  refine hKz _ _ _ _ ?_
  exact lp 0 (Nat.zero_le _) (fun a q => absurd q (Nat.not_lt_zero _))
end
end
section
/-- number j of the sequences of k numbers below n -/
def dgl (n : Nat) : Nat → Nat → List Nat
  | 0, _ => []
  | k + 1, j => dgl n k (j / n) ++ [j % n]
theorem dgl_len (n : Nat) : ∀ k j, (dgl n k j).length = k := by
  intro k
  induction k with
  | zero => intro j; rfl
  | succ k ih => intro j; simp [dgl, ih]
theorem dgl_lt {n : Nat} (h0 : 0 < n) : ∀ k j, ∀ d ∈ dgl n k j, d < n := by
  intro k
  induction k with
  | zero => intro j d hd; cases hd
  | succ k ih =>
    intro j d hd
    simp only [dgl, List.mem_append, List.mem_cons, List.not_mem_nil, or_false] at hd
    rcases hd with h | h
    · exact ih _ d h
    · rw [h]; exact Nat.mod_lt _ h0
theorem tcl_dgl (n : Nat) : ∀ k j, tcl (dgl n k j) = enc n k j := by
  intro k
  induction k with
  | zero => intro j; rfl
  | succ k ih =>
    intro j
    rw [dgl, tcl_app, ih, enc]
    simp [tcl, Nat.mul_comm]
theorem tcl_inj : ∀ (u v : List Nat), u.length = v.length → (∀ d ∈ u, d < 8) → (∀ d ∈ v, d < 8) → tcl u = tcl v → u = v := by
  have e : ∀ d (r : List Nat), tcl (d :: r) = d * 8 ^ r.length + tcl r := by
    intro d r
    have := tcl_app [d] r
    simpa [tcl] using this
  intro u
  induction u with
  | nil =>
    intro v hl _ _ _
    cases v with
    | nil => rfl
    | cons a r => cases hl
  | cons d u ih =>
    intro v hl hu hv h
    cases v with
    | nil => cases hl
    | cons d' v =>
      have hl2 : u.length = v.length := Nat.succ.inj hl
      have hu2 := tcl_lt (w := u) (fun x hx => hu x (List.mem_cons_of_mem _ hx))
      have hv2 := tcl_lt (w := v) (fun x hx => hv x (List.mem_cons_of_mem _ hx))
      rw [e, e, hl2] at h
      rw [hl2] at hu2
      have h0 : 0 < 8 ^ v.length := Nat.pow_pos (by decide)
      have h1 := congrArg (· / 8 ^ v.length) h
      have h2 := congrArg (· % 8 ^ v.length) h
      simp only [Nat.mul_comm _ (8 ^ v.length), Nat.mul_add_div h0, Nat.mul_add_mod, Nat.div_eq_of_lt hu2, Nat.div_eq_of_lt hv2, Nat.mod_eq_of_lt hu2, Nat.mod_eq_of_lt hv2, Nat.add_zero] at h1 h2
      rw [h1, ih v hl2 (fun x hx => hu x (List.mem_cons_of_mem _ hx)) (fun x hx => hv x (List.mem_cons_of_mem _ hx)) h2]
/-- r applied to the numbers at i and i + 1 -/
def act (A : ZP) (i : Nat) (w : List Nat) : List Nat := w.take i ++ [A.2.1 (w.getD i 0) (w.getD (i + 1) 0), A.2.2 (w.getD i 0) (w.getD (i + 1) 0)] ++ w.drop (i + 2)
def allB (n : Nat) (w : List Nat) : Prop := ∀ d ∈ w, d < n
theorem allB_get {n : Nat} {w : List Nat} (h : allB n w) {i : Nat} (hi : i < w.length) : w.getD i 0 < n := by
  rw [List.getD_eq_getElem?_getD, List.getElem?_eq_getElem hi]
  exact h _ (List.getElem_mem hi)
theorem act_len {A : ZP} {i : Nat} {w : List Nat} (h : i + 1 < w.length) : (act A i w).length = w.length := by
  simp [act]
  omega
theorem act_all {A : ZP} {i : Nat} {w : List Nat} (hA : pwf A) (hw : allB A.1 w) (h : i + 1 < w.length) : allB A.1 (act A i w) := by
  intro d hd
  have hLR := hA.2 _ _ (allB_get hw (show i < w.length by omega)) (allB_get hw h)
  simp only [act, List.mem_append, List.mem_cons, List.not_mem_nil, or_false] at hd
  rcases hd with (hd | hd | hd) | hd
  · exact hw d (List.mem_of_mem_take hd)
  · rw [hd]; exact hLR.1
  · rw [hd]; exact hLR.2
  · exact hw d (List.mem_of_mem_drop hd)
theorem cut_list {w : List Nat} {i : Nat} (h : i + 1 < w.length) : w = w.take i ++ [w.getD i 0, w.getD (i + 1) 0] ++ w.drop (i + 2) := by
  have h1 : w.getD i 0 = w[i] := by rw [List.getD_eq_getElem?_getD, List.getElem?_eq_getElem]; rfl
  have h2 : w.getD (i + 1) 0 = w[i + 1] := by rw [List.getD_eq_getElem?_getD, List.getElem?_eq_getElem]; rfl
  rw [h1, h2]
  have e1 : w.drop i = w[i] :: w.drop (i + 1) := List.drop_eq_getElem_cons (by omega)
  have e2 : w.drop (i + 1) = w[i + 1] :: w.drop (i + 2) := List.drop_eq_getElem_cons h
  rw [List.append_assoc]
  show w = w.take i ++ (w[i] :: w[i + 1] :: w.drop (i + 2))
  rw [← e2, ← e1, List.take_append_drop]
def brk (A : ZP) (w : List Nat) : Bool := decide (act A 0 (act A 1 (act A 0 w)) ≠ act A 1 (act A 0 (act A 1 w)))
/-- how many below k -/
def cnt (p : Nat → Bool) : Nat → Nat
  | 0 => 0
  | k + 1 => cnt p k + (p k).toNat
theorem cnt_le (p : Nat → Bool) : ∀ k, cnt p k ≤ k := by
  intro k
  induction k with
  | zero => exact Nat.le_refl _
  | succ k ih =>
    have : (p k).toNat ≤ 1 := by cases p k <;> decide
    simp only [cnt]
    omega
section
variable {G : ZG} {M : ZM} {Z : Option ZV → ZM → Prop}
theorem s_T_oneIfb {b : Bool} (hZ : Z (some (zi (nI b.toNat))) M) : Ctr 0 G mi_T_oneIf [zi (b2i b)] M Z := by
  cases b
  · exact s_T_oneIf (fun q => absurd rfl q) (fun _ => hZ)
  · exact s_T_oneIf (fun _ => hZ) (fun q => absurd q (by decide))
theorem s_PM_act {k i s : Nat} {A : ZP} {w : List Nat} (hk : k < 10) (hA : isPM M k A) (hw : allB A.1 w) (hi : i + 1 < w.length) (hl : w.length ≤ 4) (hs : s = 3 * (w.length - 2 - i)) (hZ : Z (some (zi (nI (tcl (act A i w))))) M) : Ctr 0 G mi_PM_appliedAt [zr 0 k, zi (nI (tcl w)), zi (nI s)] M Z := by
  have hn := hA.1.1
  have h8 : ∀ d ∈ w, d < 8 := fun d hd => by have := hw d hd; omega
  have h := s_PM_appliedAt (G := G) (Z := Z) (u := w.take i) (v := w.drop (i + 2)) (x := w.getD i 0) (y := w.getD (i + 1) 0) hk hA (allB_get hw (by omega)) (allB_get hw hi) (fun d hd => h8 d (List.mem_of_mem_take hd)) (fun d hd => h8 d (List.mem_of_mem_drop hd)) (by simp; omega) hZ
  rw [← cut_list hi, show 3 * (w.drop (i + 2)).length = s by rw [List.length_drop, hs]; omega] at h
  exact h
theorem s_CH_isBroken {k : Nat} {A : ZP} {w : List Nat} (hk : k < 10) (hA : isPM M k A) (hw : allB A.1 w) (hl : w.length = 3) (hZ : Z (some (zi (b2i (brk A w)))) M) : Ctr 0 G mi_CH_isBroken [zr 0 k, zi (nI (tcl w))] M Z := by
  have hn := hA.1.1
  have l1 := act_len (A := A) (i := 0) (w := w) (by omega)
  have a1 := act_all hA.1 hw (i := 0) (by omega)
  have l2 := act_len (A := A) (i := 1) (w := act A 0 w) (by omega)
  have a2 := act_all hA.1 a1 (i := 1) (by omega)
  have l3 := act_len (A := A) (i := 0) (w := act A 1 (act A 0 w)) (by omega)
  have a3 := act_all hA.1 a2 (i := 0) (by omega)
  have m1 := act_len (A := A) (i := 1) (w := w) (by omega)
  have b1 := act_all hA.1 hw (i := 1) (by omega)
  have m2 := act_len (A := A) (i := 0) (w := act A 1 w) (by omega)
  have b2 := act_all hA.1 b1 (i := 0) (by omega)
  have m3 := act_len (A := A) (i := 1) (w := act A 0 (act A 1 w)) (by omega)
  have b3 := act_all hA.1 b2 (i := 1) (by omega)
  have t3 := tcl_lt (w := act A 0 (act A 1 (act A 0 w))) (fun d hd => by have := a3 d hd; omega)
  have u3 := tcl_lt (w := act A 1 (act A 0 (act A 1 w))) (fun d hd => by have := b3 d hd; omega)
  rw [l3, l2, l1, hl] at t3
  rw [m3, m2, m1, hl] at u3
  refine go_CH_isBroken (fun Kz hKz => ?_)
  conv => whnf
  refine ⟨by first | assumption | decide, ?_⟩
  conv => whnf
  refine s_PM_act (i := 0) hk hA hw (by omega) (by omega) (by rw [hl]) ?_
  conv => whnf
  refine ⟨by first | assumption | decide, ?_⟩
  conv => whnf
  refine s_PM_act (i := 1) hk hA a1 (by omega) (by omega) (by rw [l1, hl]) ?_
  conv => whnf
  refine ⟨by first | assumption | decide, ?_⟩
  conv => whnf
  refine s_PM_act (i := 0) hk hA a2 (by omega) (by omega) (by rw [l2, l1, hl]) ?_
  conv => whnf
  refine ⟨by first | assumption | decide, ?_⟩
  conv => whnf
  refine s_PM_act (i := 1) hk hA hw (by omega) (by omega) (by rw [hl]) ?_
  conv => whnf
  refine ⟨by first | assumption | decide, ?_⟩
  conv => whnf
  refine s_PM_act (i := 0) hk hA b1 (by omega) (by omega) (by rw [m1, hl]) ?_
  conv => whnf
  refine ⟨by first | assumption | decide, ?_⟩
  conv => whnf
  refine s_PM_act (i := 1) hk hA b2 (by omega) (by omega) (by rw [m2, m1, hl]) ?_
  conv => whnf
  rw [nI_eq (by omega) (by omega)]
  have e : tcl (act A 0 (act A 1 (act A 0 w))) = tcl (act A 1 (act A 0 (act A 1 w))) ↔ brk A w = false := by
    unfold brk
    rw [decide_eq_false_iff_not, Classical.not_not]
    refine ⟨fun h => tcl_inj _ _ (by omega) (fun d hd => by have := a3 d hd; omega) (fun d hd => by have := b3 d hd; omega) h, fun h => by rw [h]⟩
  rw [e]
  refine ⟨fun q => ?_, fun q => ?_⟩
  · conv => whnf
    rw [q] at hZ
    exact ⟨Or.inl rfl, hZ⟩
  · conv => whnf
    rw [Bool.not_eq_false] at q
    rw [q] at hZ
    exact ⟨Or.inr rfl, hZ⟩
theorem s_CH_brokenTriples {k : Nat} {A : ZP} (hk : k < 10) (hA : isPM M k A) (h0 : 0 < A.1) (hZ : Z (some (zi (nI (cnt (fun j => brk A (dgl A.1 3 j)) (A.1 ^ 3))))) M) : Ctr 0 G mi_CH_brokenTriples [zr 0 k] M Z := by
  have hn := hA.1.1
  have h3 : A.1 ^ 3 = A.1 * A.1 * A.1 := by rw [Nat.pow_succ, Nat.pow_succ, Nat.pow_succ, Nat.pow_zero, Nat.one_mul]
  have hb : A.1 ^ 3 ≤ 6 ^ 3 := Nat.pow_le_pow_left hn 3
  have lp : ∀ j, j ≤ A.1 ^ 3 → ∀ t, (j < A.1 ^ 3 → t = enc A.1 3 j) → V 0 G mi_CH_brokenTriples Z 12 [(0, zr 0 k), (1, zi (nI A.1)), (2, zi (nI (cnt (fun j => brk A (dgl A.1 3 j)) j))), (3, zi (nI t)), (4, zi (nI j))] [] M := by
    refine up_to ?_ ?_
    · intro t ht
      refine z_run (cuts := cu_CH_brokenTriples) ok_CH_brokenTriples (fun Kz hKz => ?_)
      conv => whnf
      rw [pk_mul, pk_mul, ← h3, nI_leI (by omega) (by omega)]
      refine ⟨fun _ => ?_, fun q => absurd (Nat.le_refl _) q⟩
      conv => whnf
      exact hZ
    · intro j hj ih t ht
      refine z_run (cuts := cu_CH_brokenTriples) ok_CH_brokenTriples (fun Kz hKz => ?_)
      conv => whnf
      rw [pk_mul, pk_mul, ← h3, nI_leI (by omega) (by omega)]
      refine ⟨fun q => absurd q (by omega), fun _ => ?_⟩
      conv => whnf
      rw [ht hj, ← tcl_dgl]
      refine s_CH_isBroken hk hA (dgl_lt h0 3 j) (dgl_len _ 3 j) ?_
      conv => whnf
      refine s_T_oneIfb ?_
      conv => whnf
      rw [tcl_dgl]
      refine s_CO_next h0 hn (by decide) hj (fun t2 ht1 ht2 => ?_)
      conv => whnf
      refine hKz _ _ _ _ ?_
      rw [nI_add, nI_1']
      exact ih t2 ht2
  refine go_CH_brokenTriples (fun Kz hKz => ?_)
  conv => whnf
  refine ⟨by first | assumption | decide, ?_⟩
  conv => whnf
  refine s_PM_points hk ?_
  conv => whnf
  refine hKz _ _ _ _ ?_
  rw [hA.2.1]
  exact lp 0 (Nat.zero_le _) 0 (fun _ => (enc_zero h0 3).symm)
end
end
section
/-! sets as bits; a pass that adds what must be in, until nothing is missing -/
def sub2 (s t : Nat) : Prop := ∀ i, s.testBit i = true → t.testBit i = true
theorem sub2_refl (s : Nat) : sub2 s s := fun _ h => h
theorem sub2_trans {s t u : Nat} (h : sub2 s t) (h' : sub2 t u) : sub2 s u := fun i q => h' i (h i q)
theorem sub2_anti {s t : Nat} (h : sub2 s t) (h' : sub2 t s) : s = t := Nat.eq_of_testBit_eq fun i => by
  rw [Bool.eq_iff_iff]
  exact ⟨h i, h' i⟩
theorem sub2_or {s a t : Nat} (h : sub2 s t) (ha : sub2 a t) : sub2 (s ||| a) t := fun i q => by
  rw [Nat.testBit_or, Bool.or_eq_true] at q
  exact q.elim (h i) (ha i)
theorem sub2_pow {e t : Nat} (h : t.testBit e = true) : sub2 (2 ^ e) t := fun i q => by
  rw [Nat.testBit_two_pow] at q
  rw [← of_decide_eq_true q]; exact h
theorem sub2_l {s a : Nat} : sub2 s (s ||| a) := fun i q => by rw [Nat.testBit_or, q, Bool.true_or]
theorem bct_mono {s t : Nat} (h : sub2 s t) : ∀ k, bct s k ≤ bct t k := by
  intro k
  induction k with
  | zero => exact Nat.le_refl _
  | succ k ih =>
    have : (s.testBit k).toNat ≤ (t.testBit k).toNat := by
      cases hs : s.testBit k with
      | false => exact Nat.zero_le _
      | true => rw [h k hs]; exact Nat.le_refl _
    simp only [bct]
    omega
theorem bct_strict {s t : Nat} (h : sub2 s t) : ∀ k, (∃ i, i < k ∧ s.testBit i = false ∧ t.testBit i = true) → bct s k < bct t k := by
  intro k
  induction k with
  | zero => rintro ⟨i, hi, _⟩; exact absurd hi (Nat.not_lt_zero _)
  | succ k ih =>
    rintro ⟨i, hi, h1, h2⟩
    simp only [bct]
    rcases Nat.lt_succ_iff_lt_or_eq.mp hi with hi | rfl
    · have h3 := ih ⟨i, hi, h1, h2⟩
      have : (s.testBit k).toNat ≤ (t.testBit k).toNat := by
        cases hs : s.testBit k with
        | false => exact Nat.zero_le _
        | true => rw [h k hs]; exact Nat.le_refl _
      omega
    · have h3 := bct_mono h i
      rw [h1, h2]
      simp only [Bool.toNat_false, Bool.toNat_true]
      omega
theorem bct_le (s : Nat) : ∀ k, bct s k ≤ k := by
  intro k
  induction k with
  | zero => exact Nat.le_refl _
  | succ k ih =>
    have : (s.testBit k).toNat ≤ 1 := by cases s.testBit k <;> decide
    simp only [bct]
    omega
theorem bit_lt {s n i : Nat} (hs : s < 2 ^ n) (h : s.testBit i = true) : i < n := by
  rcases Nat.lt_or_ge i n with q | q
  · exact q
  · rw [Nat.testBit_lt_two_pow (Nat.lt_of_lt_of_le hs (Nat.pow_le_pow_right (by decide) q))] at h
    cases h
def itr (f : Nat → Nat) (s : Nat) : Nat → Nat
  | 0 => s
  | k + 1 => f (itr f s k)
/-- what n passes give: the least closed set -/
theorem least_closed {n : Nat} {f : Nat → Nat} {cl : Nat → Prop} (P1 : ∀ s, sub2 s (f s)) (P2 : ∀ s, s < 2 ^ n → f s = s → cl s) (P3 : ∀ s t, sub2 s t → cl t → sub2 (f s) t) (P4 : ∀ s, s < 2 ^ n → f s < 2 ^ n) {s0 : Nat} (h0 : s0 < 2 ^ n) :
    itr f s0 n < 2 ^ n ∧ sub2 s0 (itr f s0 n) ∧ cl (itr f s0 n) ∧ ∀ t, sub2 s0 t → cl t → sub2 (itr f s0 n) t := by
  have hlt : ∀ k, itr f s0 k < 2 ^ n := by
    intro k
    induction k with
    | zero => exact h0
    | succ k ih => exact P4 _ ih
  have hsub : ∀ k, sub2 s0 (itr f s0 k) := by
    intro k
    induction k with
    | zero => exact sub2_refl _
    | succ k ih => exact sub2_trans ih (P1 _)
  have hmin : ∀ t, sub2 s0 t → cl t → ∀ k, sub2 (itr f s0 k) t := by
    intro t h1 h2 k
    induction k with
    | zero => exact h1
    | succ k ih => exact P3 _ _ ih h2
  have hgrow : ∀ k, f (itr f s0 k) = itr f s0 k ∨ k ≤ bct (itr f s0 k) n := by
    intro k
    induction k with
    | zero => exact Or.inr (Nat.zero_le _)
    | succ k ih =>
      rcases ih with h | h
      · exact Or.inl (by rw [itr, h, h])
      · by_cases he : itr f s0 (k + 1) = itr f s0 k
        · exact Or.inl (by rw [he]; exact he)
        · refine Or.inr ?_
          have hs := P1 (itr f s0 k)
          have : ∃ i, i < n ∧ (itr f s0 k).testBit i = false ∧ (itr f s0 (k + 1)).testBit i = true := by
            refine Classical.byContradiction fun hno => he (sub2_anti (fun i hi => ?_) hs)
            have hin := bit_lt (hlt (k + 1)) hi
            cases hb : (itr f s0 k).testBit i with
            | true => rfl
            | false => exact absurd ⟨i, hin, hb, hi⟩ hno
          have := bct_strict hs n this
          show k + 1 ≤ bct (f (itr f s0 k)) n
          omega
  refine ⟨hlt n, hsub n, ?_, fun t h1 h2 => hmin t h1 h2 n⟩
  refine P2 _ (hlt n) ?_
  rcases hgrow n with h | h
  · exact h
  · have hfull : ∀ i, i < n → (itr f s0 n).testBit i = true := by
      intro i hi
      cases hb : (itr f s0 n).testBit i with
      | true => rfl
      | false =>
        exfalso
        have h1 : sub2 (itr f s0 n) (2 ^ n - 1) := fun j hj => by rw [Nat.testBit_two_pow_sub_one]; exact decide_eq_true (bit_lt (hlt n) hj)
        have h2 := bct_strict h1 n ⟨i, hi, hb, by rw [Nat.testBit_two_pow_sub_one]; exact decide_eq_true hi⟩
        have h3 := bct_le (2 ^ n - 1) n
        omega
    exact sub2_anti (fun i hi => hfull i (bit_lt (P4 _ (hlt n)) hi)) (P1 _)
/-! orbits -/
def jn (s a b : Nat) : Nat := if s.testBit a || s.testBit b then s ||| (2 ^ a ||| 2 ^ b) else s
theorem jn_sub (s a b : Nat) : sub2 s (jn s a b) := by
  unfold jn
  split
  · exact sub2_l
  · exact sub2_refl _
theorem jn_fix {s a b : Nat} (h : jn s a b = s) : s.testBit a = s.testBit b := by
  unfold jn at h
  cases ha : s.testBit a <;> cases hb : s.testBit b
  · rfl
  · rw [ha, hb, Bool.false_or, if_pos rfl] at h
    have : (s ||| (2 ^ a ||| 2 ^ b)).testBit a = true := by simp
    rw [h, ha] at this
    cases this
  · rw [ha, hb, Bool.true_or, if_pos rfl] at h
    have : (s ||| (2 ^ a ||| 2 ^ b)).testBit b = true := by simp
    rw [h, hb] at this
    cases this
  · rfl
theorem jn_min {s t a b : Nat} (h : sub2 s t) (hc : t.testBit a = t.testBit b) : sub2 (jn s a b) t := by
  unfold jn
  split
  · rename_i q
    rw [Bool.or_eq_true] at q
    have hb : t.testBit b = true := by
      rcases q with q | q
      · rw [← hc]; exact h a q
      · exact h b q
    exact sub2_or h (sub2_or (sub2_pow (hc.trans hb)) (sub2_pow hb))
  · exact h
theorem jn_lt {s a b n : Nat} (h : s < 2 ^ n) (ha : a < n) (hb : b < n) : jn s a b < 2 ^ n := by
  unfold jn
  split
  · exact Nat.or_lt_two_pow h (Nat.or_lt_two_pow (Nat.pow_lt_pow_right (by decide) ha) (Nat.pow_lt_pow_right (by decide) hb))
  · exact h
/-- links one by one -/
def jns (l : Nat → Nat × Nat) (s : Nat) : Nat → Nat
  | 0 => s
  | k + 1 => jn (jns l s k) (l k).1 (l k).2
theorem jns_sub (l : Nat → Nat × Nat) (s : Nat) : ∀ k, sub2 s (jns l s k) := by
  intro k
  induction k with
  | zero => exact sub2_refl _
  | succ k ih => exact sub2_trans ih (jn_sub _ _ _)
theorem jns_fix {l : Nat → Nat × Nat} {s : Nat} : ∀ k, jns l s k = s → ∀ i, i < k → s.testBit (l i).1 = s.testBit (l i).2 := by
  intro k
  induction k with
  | zero => intro _ i hi; exact absurd hi (Nat.not_lt_zero _)
  | succ k ih =>
    intro h i hi
    have h1 : jns l s k = s := sub2_anti (fun j hj => by rw [← h]; exact jn_sub _ _ _ j hj) (jns_sub l s k)
    rcases Nat.lt_succ_iff_lt_or_eq.mp hi with hi | rfl
    · exact ih h1 i hi
    · rw [jns, h1] at h
      exact jn_fix h
theorem jns_min {l : Nat → Nat × Nat} {s t : Nat} (h : sub2 s t) : ∀ k, (∀ i, i < k → t.testBit (l i).1 = t.testBit (l i).2) → sub2 (jns l s k) t := by
  intro k
  induction k with
  | zero => intro _; exact h
  | succ k ih => intro hc; exact jn_min (ih fun i hi => hc i (by omega)) (hc k (by omega))
theorem jns_lt {l : Nat → Nat × Nat} {s n : Nat} (h : s < 2 ^ n) : ∀ k, (∀ i, i < k → (l i).1 < n ∧ (l i).2 < n) → jns l s k < 2 ^ n := by
  intro k
  induction k with
  | zero => intro _; exact h
  | succ k ih => intro hc; exact jn_lt (ih fun i hi => hc i (by omega)) (hc k (by omega)).1 (hc k (by omega)).2
/-- a set that the links of a map lead neither into nor out of -/
def clO (A : ZP) (s : Nat) : Prop := ∀ x y, x < A.1 → y < A.1 → s.testBit y = s.testBit (A.2.1 x y) ∧ s.testBit x = s.testBit (A.2.2 x y)
def isOrb (A : ZP) (x r : Nat) : Prop := r < 2 ^ A.1 ∧ r.testBit x = true ∧ clO A r ∧ ∀ t, t.testBit x = true → clO A t → sub2 r t
theorem isOrb_uniq {A : ZP} {x r r' : Nat} (h : isOrb A x r) (h' : isOrb A x r') : r = r' := sub2_anti (h.2.2.2 r' h'.2.1 h'.2.2.1) (h'.2.2.2 r h.2.1 h.2.2.1)
/-- n passes over links that are a map's links give the orbit -/
theorem orb_of {A : ZP} {l : Nat → Nat × Nat} {k : Nat} (hl : ∀ i, i < k → (l i).1 < A.1 ∧ (l i).2 < A.1) (hcl : ∀ s, (∀ i, i < k → s.testBit (l i).1 = s.testBit (l i).2) ↔ clO A s) {x : Nat} (hx : x < A.1) : isOrb A x (itr (fun s => jns l s k) (2 ^ x) A.1) := by
  have h := least_closed (n := A.1) (f := fun s => jns l s k) (cl := clO A) (fun s => jns_sub l s k) (fun s _ hs => (hcl s).mp (jns_fix k hs)) (fun s t h1 h2 => jns_min h1 k ((hcl t).mpr h2)) (fun s hs => jns_lt hs k hl) (s0 := 2 ^ x) (Nat.pow_lt_pow_right (by decide) hx)
  refine ⟨h.1, h.2.1 x (by rw [Nat.testBit_two_pow]; exact decide_eq_true rfl), h.2.2.1, fun t h1 h2 => h.2.2.2 t (sub2_pow h1) h2⟩
end
section
theorem jn_and (s a b : Nat) : s &&& (2 ^ a ||| 2 ^ b) = 0 ↔ (s.testBit a || s.testBit b) = false := by
  refine ⟨fun h => ?_, fun h => ?_⟩
  · have h1 : (s &&& (2 ^ a ||| 2 ^ b)).testBit a = false := by rw [h]; exact Nat.zero_testBit _
    have h2 : (s &&& (2 ^ a ||| 2 ^ b)).testBit b = false := by rw [h]; exact Nat.zero_testBit _
    simp at h1 h2
    simp [h1, h2]
  · rw [Bool.or_eq_false_iff] at h
    refine Nat.eq_of_testBit_eq fun i => ?_
    rw [Nat.zero_testBit, Nat.testBit_and, Nat.testBit_or, Nat.testBit_two_pow, Nat.testBit_two_pow]
    by_cases ha : a = i
    · rw [← ha, h.1, Bool.false_and]
    · by_cases hb : b = i
      · rw [← hb, h.2, Bool.false_and]
      · rw [decide_eq_false ha, decide_eq_false hb, Bool.or_false, Bool.and_false]
def lnk (A : ZP) (j : Nat) : Nat × Nat := if j % 2 = 0 then (j / 2 % A.1, A.2.1 (j / 2 / A.1) (j / 2 % A.1)) else (j / 2 / A.1, A.2.2 (j / 2 / A.1) (j / 2 % A.1))
theorem lnk_l {A : ZP} {x y : Nat} (hy : y < A.1) : lnk A (2 * (A.1 * x + y)) = (y, A.2.1 x y) := by
  unfold lnk
  rw [if_pos (Nat.mul_mod_right 2 _), Nat.mul_div_cancel_left _ (by decide : 0 < 2), (dvm hy).1, (dvm hy).2]
theorem lnk_r {A : ZP} {x y : Nat} (hy : y < A.1) : lnk A (2 * (A.1 * x + y) + 1) = (x, A.2.2 x y) := by
  unfold lnk
  have h1 : (2 * (A.1 * x + y) + 1) % 2 = 1 := by omega
  have h2 : (2 * (A.1 * x + y) + 1) / 2 = A.1 * x + y := by omega
  rw [h1, if_neg (by decide), h2, (dvm hy).1, (dvm hy).2]
theorem lnk_lt {A : ZP} (hA : pwf A) : ∀ i, i < 2 * (A.1 * A.1) → (lnk A i).1 < A.1 ∧ (lnk A i).2 < A.1 := by
  intro i hi
  have hj : i / 2 < A.1 * A.1 := by omega
  have h := dvlt hj
  have hLR := hA.2 _ _ h.1 h.2
  unfold lnk
  split
  · exact ⟨h.2, hLR.1⟩
  · exact ⟨h.1, hLR.2⟩
theorem lnk_cl (A : ZP) (s : Nat) : (∀ i, i < 2 * (A.1 * A.1) → s.testBit (lnk A i).1 = s.testBit (lnk A i).2) ↔ clO A s := by
  refine ⟨fun h x y hx hy => ?_, fun h i hi => ?_⟩
  · have hp := prlt hx hy
    have h1 := h (2 * (A.1 * x + y)) (by omega)
    have h2 := h (2 * (A.1 * x + y) + 1) (by omega)
    rw [lnk_l hy] at h1
    rw [lnk_r hy] at h2
    exact ⟨h1, h2⟩
  · have hj : i / 2 < A.1 * A.1 := by omega
    have q := dvlt hj
    have hc := h _ _ q.1 q.2
    unfold lnk
    split
    · exact hc.1
    · exact hc.2
theorem jns_two (A : ZP) (s : Nat) {x y : Nat} (hy : y < A.1) : jns (lnk A) s (2 * (A.1 * x + y + 1)) = jn (jn (jns (lnk A) s (2 * (A.1 * x + y))) y (A.2.1 x y)) x (A.2.2 x y) := by
  rw [show 2 * (A.1 * x + y + 1) = 2 * (A.1 * x + y) + 1 + 1 by omega, jns, jns, lnk_l hy, lnk_r hy]
theorem bit_and1 (s x y : Nat) : (s / 2 ^ x &&& s / 2 ^ y) &&& 1 = (s.testBit x && s.testBit y).toNat := by
  rw [show (1 : Nat) = 2 ^ 1 - 1 from rfl, Nat.and_two_pow_sub_one_eq_mod, Nat.pow_one]
  have h : ∀ z, s / 2 ^ z % 2 = (s.testBit z).toNat := fun z => (Nat.toNat_testBit s z).symm
  have e : (s / 2 ^ x &&& s / 2 ^ y) % 2 = ((s / 2 ^ x &&& s / 2 ^ y).testBit 0).toNat := by rw [Nat.toNat_testBit, Nat.pow_zero, Nat.div_one]
  rw [e, Nat.testBit_and, Nat.testBit_div_two_pow, Nat.testBit_div_two_pow, Nat.zero_add, Nat.zero_add]
/-- the images of the pairs of a set -/
def wim (A : ZP) (s : Nat) : Nat → Nat
  | 0 => s
  | j + 1 => if (s.testBit (j / A.1) && s.testBit (j % A.1)) = true then wim A s j ||| (2 ^ (A.2.1 (j / A.1) (j % A.1)) ||| 2 ^ (A.2.2 (j / A.1) (j % A.1))) else wim A s j
def clS (A : ZP) (s : Nat) : Prop := ∀ x y, x < A.1 → y < A.1 → s.testBit x = true → s.testBit y = true → s.testBit (A.2.1 x y) = true ∧ s.testBit (A.2.2 x y) = true
theorem wim_sub (A : ZP) (s : Nat) : ∀ j, sub2 s (wim A s j) := by
  intro j
  induction j with
  | zero => exact sub2_refl _
  | succ j ih =>
    rw [wim]
    split
    · exact sub2_trans ih sub2_l
    · exact ih
theorem wim_step (A : ZP) (s j : Nat) : sub2 (wim A s j) (wim A s (j + 1)) := by
  rw [wim]
  split
  · exact sub2_l
  · exact sub2_refl _
theorem wim_mono (A : ZP) (s : Nat) : ∀ d j, sub2 (wim A s j) (wim A s (j + d)) := by
  intro d
  induction d with
  | zero => intro j; exact sub2_refl _
  | succ d ih => intro j; exact sub2_trans (ih j) (wim_step A s (j + d))
theorem wim_lt {A : ZP} (hA : pwf A) {s : Nat} (hs : s < 2 ^ A.1) : ∀ j, j ≤ A.1 * A.1 → wim A s j < 2 ^ A.1 := by
  intro j
  induction j with
  | zero => intro _; exact hs
  | succ j ih =>
    intro hj
    have q := dvlt (show j < A.1 * A.1 by omega)
    have hLR := hA.2 _ _ q.1 q.2
    rw [wim]
    split
    · exact Nat.or_lt_two_pow (ih (by omega)) (Nat.or_lt_two_pow (Nat.pow_lt_pow_right (by decide) hLR.1) (Nat.pow_lt_pow_right (by decide) hLR.2))
    · exact ih (by omega)
theorem wim_fix (A : ZP) {s : Nat} (h : wim A s (A.1 * A.1) = s) : clS A s := by
  intro x y hx hy h1 h2
  have hp := prlt hx hy
  have hs : sub2 (wim A s (A.1 * x + y + 1)) s := by
    have := wim_mono A s (A.1 * A.1 - (A.1 * x + y + 1)) (A.1 * x + y + 1)
    rw [Nat.add_sub_cancel' (by omega), h] at this
    exact this
  rw [wim, (dvm hy).1, (dvm hy).2, h1, h2, Bool.true_and, if_pos rfl] at hs
  exact ⟨hs _ (by simp), hs _ (by simp)⟩
theorem wim_min {A : ZP} {s t : Nat} (h : sub2 s t) (hc : clS A t) : ∀ j, j ≤ A.1 * A.1 → sub2 (wim A s j) t := by
  intro j
  induction j with
  | zero => intro _; exact h
  | succ j ih =>
    intro hj
    have q := dvlt (show j < A.1 * A.1 by omega)
    rw [wim]
    split
    · rename_i g
      rw [Bool.and_eq_true] at g
      have hc2 := hc _ _ q.1 q.2 (h _ g.1) (h _ g.2)
      exact sub2_or (ih (by omega)) (sub2_or (sub2_pow hc2.1) (sub2_pow hc2.2))
    · exact ih (by omega)
def clSb (A : ZP) (s : Nat) : Bool := decide (wim A s (A.1 * A.1) = s)
theorem clSb_iff (A : ZP) (s : Nat) : clSb A s = true ↔ clS A s := by
  unfold clSb
  rw [decide_eq_true_iff]
  exact ⟨wim_fix A, fun h => sub2_anti (wim_min (sub2_refl _) h _ (Nat.le_refl _)) (wim_sub A s _)⟩
def isShut (A : ZP) (s r : Nat) : Prop := r < 2 ^ A.1 ∧ sub2 s r ∧ clS A r ∧ ∀ t, sub2 s t → clS A t → sub2 r t
theorem isShut_uniq {A : ZP} {s r r' : Nat} (h : isShut A s r) (h' : isShut A s r') : r = r' := sub2_anti (h.2.2.2 r' h'.2.1 h'.2.2.1) (h'.2.2.2 r h.2.1 h.2.2.1)
theorem shut_of {A : ZP} (hA : pwf A) {s : Nat} (hs : s < 2 ^ A.1) : isShut A s (itr (fun s => wim A s (A.1 * A.1)) s A.1) :=
  least_closed (n := A.1) (f := fun s => wim A s (A.1 * A.1)) (cl := clS A) (fun s => wim_sub A s _) (fun s _ h => wim_fix A h) (fun s t h1 h2 => wim_min h1 h2 _ (Nat.le_refl _)) (fun s h => wim_lt hA h _ (Nat.le_refl _)) hs
section
variable {G : ZG} {M : ZM} {Z : Option ZV → ZM → Prop}
theorem s_CH_joined {s a b : Nat} (hs : s < 2 ^ 31) (ha : a < 8) (hb : b < 8) (hZ : Z (some (zi (nI (jn s a b)))) M) : Ctr 0 G mi_CH_joined [zi (nI s), zi (nI a), zi (nI b)] M Z := by
  refine go_CH_joined (fun Kz hKz => ?_)
  conv => whnf
  rw [n_shl _ _ (by omega), n_shl _ _ (by omega), Nat.one_mul, Nat.one_mul, n_or, n_and, nI_eq (Nat.lt_of_le_of_lt Nat.and_le_left hs) (by decide), jn_and]
  unfold jn at hZ
  refine ⟨fun q => ?_, fun q => ?_⟩
  · rw [Bool.not_eq_false] at q
    rw [if_pos q, ← n_or] at hZ
    conv => whnf
    exact hZ
  · rw [Classical.not_not] at q
    rw [if_neg (by rw [q]; decide)] at hZ
    conv => whnf
    exact hZ
theorem s_CH_withLinked {k s : Nat} {A : ZP} (hk : k < 10) (hA : isPM M k A) (hs : s < 2 ^ A.1) (hZ : Z (some (zi (nI (jns (lnk A) s (2 * (A.1 * A.1)))))) M) : Ctr 0 G mi_CH_withLinked [zr 0 k, zi (nI s)] M Z := by
  have hn := hA.1.1
  have hp : 2 ^ A.1 ≤ 2 ^ 6 := Nat.pow_le_pow_right (by decide) hn
  have hlt : ∀ j, j ≤ 2 * (A.1 * A.1) → jns (lnk A) s j < 2 ^ A.1 := fun j hj => jns_lt hs j (fun i hi => lnk_lt hA.1 i (by omega))
  refine go_CH_withLinked (fun Kz hKz => ?_)
  conv => whnf
  refine ⟨by first | assumption | decide, ?_⟩
  conv => whnf
  refine s_PM_points hk ?_
  conv => whnf
  refine hKz _ _ _ _ ?_
  rw [hA.2.1]
  refine rloop (n := A.1) (m := A.1) (O := fun x => ∀ v, v = jns (lnk A) s (2 * (A.1 * x)) → V 0 G mi_CH_withLinked Z 10 [(0, zr 0 k), (2, zi (nI A.1)), (3, zi (nI v)), (4, zi (nI x))] [] M) (I := fun x y => V 0 G mi_CH_withLinked Z 19 [(0, zr 0 k), (2, zi (nI A.1)), (3, zi (nI (jns (lnk A) s (2 * (A.1 * x + y))))), (4, zi (nI x)), (5, zi (nI y))] [] M) (fun v hv => ?_) (fun x hx h v hv => ?_) (fun x hx h => ?_) (fun x y hx hy h => ?_) s rfl
  · refine z_run (cuts := cu_CH_withLinked) ok_CH_withLinked (fun Kz hKz => ?_)
    conv => whnf
    rw [nI_leI (by omega) (by omega)]
    refine ⟨fun _ => ?_, fun q => absurd (Nat.le_refl _) q⟩
    conv => whnf
    rw [hv]
    exact hZ
  · refine z_run (cuts := cu_CH_withLinked) ok_CH_withLinked (fun Kz hKz => ?_)
    conv => whnf
    rw [nI_leI (by omega) (by omega)]
    refine ⟨fun q => absurd q (by omega), fun _ => ?_⟩
    conv => whnf
    refine hKz _ _ _ _ ?_
    rw [hv]
    exact h
  · refine z_run (cuts := cu_CH_withLinked) ok_CH_withLinked (fun Kz hKz => ?_)
    conv => whnf
    rw [nI_leI (by omega) (by omega)]
    refine ⟨fun _ => ?_, fun q => absurd (Nat.le_refl _) q⟩
    conv => whnf
    refine hKz _ _ _ _ ?_
    rw [nI_1']
    exact h _ (by rw [Nat.mul_succ])
  · have hLR := hA.1.2 x y hx hy
    have hpr := prlt hx hy
    have j1 := hlt (2 * (A.1 * x + y)) (by omega)
    have j2 := jn_lt j1 hy hLR.1
    refine z_run (cuts := cu_CH_withLinked) ok_CH_withLinked (fun Kz hKz => ?_)
    conv => whnf
    rw [nI_leI (by omega) (by omega)]
    refine ⟨fun q => absurd q (by omega), fun _ => ?_⟩
    conv => whnf
    refine ⟨by first | assumption | decide, ?_⟩
    conv => whnf
    refine s_PM_left hk hA hx hy ?_
    conv => whnf
    refine s_CH_joined (by omega) (by omega) (by omega) ?_
    conv => whnf
    refine ⟨by first | assumption | decide, ?_⟩
    conv => whnf
    refine s_PM_right hk hA hx hy ?_
    conv => whnf
    refine s_CH_joined (by omega) (by omega) (by omega) ?_
    conv => whnf
    refine hKz _ _ _ _ ?_
    rw [nI_1', ← jns_two A s hy]
    exact h
theorem s_CH_orbitOf {k x : Nat} {A : ZP} (hk : k < 10) (hA : isPM M k A) (hx : x < A.1) (hZ : ∀ r, isOrb A x r → Z (some (zi (nI r))) M) : Ctr 0 G mi_CH_orbitOf [zr 0 k, zi (nI x)] M Z := by
  have hn := hA.1.1
  have ho := orb_of (lnk_lt hA.1) (lnk_cl A) hx
  have hlt : ∀ j, itr (fun s => jns (lnk A) s (2 * (A.1 * A.1))) (2 ^ x) j < 2 ^ A.1 := by
    intro j
    induction j with
    | zero => exact Nat.pow_lt_pow_right (by decide) hx
    | succ j ih => exact jns_lt ih _ (lnk_lt hA.1)
  have lp : ∀ j, j ≤ A.1 → V 0 G mi_CH_orbitOf Z 6 [(0, zr 0 k), (2, zi (nI (itr (fun s => jns (lnk A) s (2 * (A.1 * A.1))) (2 ^ x) j))), (3, zi (nI j))] [] M := by
    refine up_to ?_ ?_
    · refine z_run (cuts := cu_CH_orbitOf) ok_CH_orbitOf (fun Kz hKz => ?_)
      conv => whnf
      refine ⟨by first | assumption | decide, ?_⟩
      conv => whnf
      refine s_PM_points hk ?_
      conv => whnf
      rw [hA.2.1, nI_leI (by omega) (by omega)]
      refine ⟨fun _ => ?_, fun q => absurd (Nat.le_refl _) q⟩
      conv => whnf
      exact hZ _ ho
    · intro j hj ih
      refine z_run (cuts := cu_CH_orbitOf) ok_CH_orbitOf (fun Kz hKz => ?_)
      conv => whnf
      refine ⟨by first | assumption | decide, ?_⟩
      conv => whnf
      refine s_PM_points hk ?_
      conv => whnf
      rw [hA.2.1, nI_leI (by omega) (by omega)]
      refine ⟨fun q => absurd q (by omega), fun _ => ?_⟩
      conv => whnf
      refine s_CH_withLinked hk hA (hlt j) ?_
      conv => whnf
      refine hKz _ _ _ _ ?_
      rw [nI_1']
      exact ih
  refine go_CH_orbitOf (fun Kz hKz => ?_)
  conv => whnf
  refine hKz _ _ _ _ ?_
  rw [n_shl _ _ (by omega), Nat.one_mul]
  exact lp 0 (Nat.zero_le _)
theorem s_CH_orbits {k : Nat} {A : ZP} (hk : k < 10) (hA : isPM M k A) (hZ : ∀ p : Nat → Bool, (∀ x, x < A.1 → ∃ r, isOrb A x r ∧ (p x = true ↔ ∀ i, i < x → r.testBit i = false)) → Z (some (zi (nI (cnt p A.1)))) M) : Ctr 0 G mi_CH_orbits [zr 0 k] M Z := by
  have hn := hA.1.1
  have hp : 2 ^ A.1 ≤ 2 ^ 6 := Nat.pow_le_pow_right (by decide) hn
  have orb : ∀ x, x < A.1 → isOrb A x (itr (fun s => jns (lnk A) s (2 * (A.1 * A.1))) (2 ^ x) A.1) := fun x hx => orb_of (lnk_lt hA.1) (lnk_cl A) hx
  have hlow : ∀ r x, r &&& (2 ^ x - 1) = 0 ↔ ∀ i, i < x → r.testBit i = false := by
    intro r x
    refine ⟨fun h i hi => ?_, fun h => Nat.eq_of_testBit_eq fun i => ?_⟩
    · have : (r &&& (2 ^ x - 1)).testBit i = false := by rw [h]; exact Nat.zero_testBit _
      rw [Nat.testBit_and, Nat.testBit_two_pow_sub_one, decide_eq_true hi, Bool.and_true] at this
      exact this
    · rw [Nat.zero_testBit, Nat.testBit_and, Nat.testBit_two_pow_sub_one]
      by_cases hi : i < x
      · rw [h i hi, Bool.false_and]
      · rw [decide_eq_false hi, Bool.and_false]
  have hp' := hZ (fun x => decide (itr (fun s => jns (lnk A) s (2 * (A.1 * A.1))) (2 ^ x) A.1 &&& (2 ^ x - 1) = 0)) (fun x hx => ⟨_, orb x hx, by rw [decide_eq_true_iff]; exact hlow _ _⟩)
  have lp : ∀ j, j ≤ A.1 → V 0 G mi_CH_orbits Z 4 [(0, zr 0 k), (1, zi (nI (cnt (fun x => decide (itr (fun s => jns (lnk A) s (2 * (A.1 * A.1))) (2 ^ x) A.1 &&& (2 ^ x - 1) = 0)) j))), (2, zi (nI j))] [] M := by
    refine up_to ?_ ?_
    · refine z_run (cuts := cu_CH_orbits) ok_CH_orbits (fun Kz hKz => ?_)
      conv => whnf
      refine ⟨by first | assumption | decide, ?_⟩
      conv => whnf
      refine s_PM_points hk ?_
      conv => whnf
      rw [hA.2.1, nI_leI (by omega) (by omega)]
      refine ⟨fun _ => ?_, fun q => absurd (Nat.le_refl _) q⟩
      conv => whnf
      exact hp'
    · intro j hj ih
      have hj2 : 2 ^ j ≤ 2 ^ 6 := Nat.pow_le_pow_right (by decide) (by omega)
      have hj0 : 0 < 2 ^ j := Nat.pow_pos (by decide)
      refine z_run (cuts := cu_CH_orbits) ok_CH_orbits (fun Kz hKz => ?_)
      conv => whnf
      refine ⟨by first | assumption | decide, ?_⟩
      conv => whnf
      refine s_PM_points hk ?_
      conv => whnf
      rw [hA.2.1, nI_leI (by omega) (by omega)]
      refine ⟨fun q => absurd q (by omega), fun _ => ?_⟩
      conv => whnf
      refine s_CH_orbitOf hk hA hj (fun r hr => ?_)
      have e := isOrb_uniq hr (orb j hj)
      subst e
      conv => whnf
      rw [n_shl _ _ (by omega), Nat.one_mul, pk_sub hj0, n_and, nI_eq (Nat.lt_of_le_of_lt Nat.and_le_right (by omega)) (by decide)]
      have ih2 : ∀ v, v = cnt (fun x => decide (itr (fun s => jns (lnk A) s (2 * (A.1 * A.1))) (2 ^ x) A.1 &&& (2 ^ x - 1) = 0)) (j + 1) → V 0 G mi_CH_orbits Z 4 [(0, zr 0 k), (1, zi (nI v)), (2, zi (nI (j + 1)))] [] M := by
        rintro v rfl; exact ih
      refine ⟨fun q => ?_, fun q => ?_⟩
      · conv => whnf
        refine s_T_oneIfb (b := false) ?_
        conv => whnf
        refine hKz _ _ _ _ ?_
        rw [nI_add, nI_1']
        refine ih2 _ ?_
        have q2 : ¬ itr (fun s => jns (lnk A) s (2 * (A.1 * A.1))) (2 ^ j) A.1 &&& (2 ^ j - 1) = 0 := q
        simp only [cnt, decide_eq_false q2, Bool.toNat_false, Nat.add_zero]
      · conv => whnf
        refine s_T_oneIfb (b := true) ?_
        conv => whnf
        refine hKz _ _ _ _ ?_
        rw [nI_add, nI_1']
        refine ih2 _ ?_
        have q2 : itr (fun s => jns (lnk A) s (2 * (A.1 * A.1))) (2 ^ j) A.1 &&& (2 ^ j - 1) = 0 := Classical.not_not.mp q
        simp only [cnt, decide_eq_true q2, Bool.toNat_true]
  refine go_CH_orbits (fun Kz hKz => ?_)
  conv => whnf
  refine hKz _ _ _ _ ?_
  exact lp 0 (Nat.zero_le _)
theorem s_CH_withImages {k s : Nat} {A : ZP} (hk : k < 10) (hA : isPM M k A) (hs : s < 2 ^ A.1) (hZ : Z (some (zi (nI (wim A s (A.1 * A.1))))) M) : Ctr 0 G mi_CH_withImages [zr 0 k, zi (nI s)] M Z := by
  have hn := hA.1.1
  have hp : 2 ^ A.1 ≤ 2 ^ 6 := Nat.pow_le_pow_right (by decide) hn
  refine go_CH_withImages (fun Kz hKz => ?_)
  conv => whnf
  refine ⟨by first | assumption | decide, ?_⟩
  conv => whnf
  refine s_PM_points hk ?_
  conv => whnf
  refine hKz _ _ _ _ ?_
  rw [hA.2.1]
  refine rloop (n := A.1) (m := A.1) (O := fun x => ∀ v, v = wim A s (A.1 * x) → V 0 G mi_CH_withImages Z 10 [(0, zr 0 k), (1, zi (nI s)), (2, zi (nI A.1)), (3, zi (nI v)), (4, zi (nI x))] [] M) (I := fun x y => V 0 G mi_CH_withImages Z 19 [(0, zr 0 k), (1, zi (nI s)), (2, zi (nI A.1)), (3, zi (nI (wim A s (A.1 * x + y)))), (4, zi (nI x)), (5, zi (nI y))] [] M) (fun v hv => ?_) (fun x hx h v hv => ?_) (fun x hx h => ?_) (fun x y hx hy h => ?_) s rfl
  · refine z_run (cuts := cu_CH_withImages) ok_CH_withImages (fun Kz hKz => ?_)
    conv => whnf
    rw [nI_leI (by omega) (by omega)]
    refine ⟨fun _ => ?_, fun q => absurd (Nat.le_refl _) q⟩
    conv => whnf
    rw [hv]
    exact hZ
  · refine z_run (cuts := cu_CH_withImages) ok_CH_withImages (fun Kz hKz => ?_)
    conv => whnf
    rw [nI_leI (by omega) (by omega)]
    refine ⟨fun q => absurd q (by omega), fun _ => ?_⟩
    conv => whnf
    refine hKz _ _ _ _ ?_
    rw [hv]
    exact h
  · refine z_run (cuts := cu_CH_withImages) ok_CH_withImages (fun Kz hKz => ?_)
    conv => whnf
    rw [nI_leI (by omega) (by omega)]
    refine ⟨fun _ => ?_, fun q => absurd (Nat.le_refl _) q⟩
    conv => whnf
    refine hKz _ _ _ _ ?_
    rw [nI_1']
    exact h _ (by rw [Nat.mul_succ])
  · have hLR := hA.1.2 x y hx hy
    have e : wim A s (A.1 * x + (y + 1)) = if (s.testBit x && s.testBit y) = true then wim A s (A.1 * x + y) ||| (2 ^ (A.2.1 x y) ||| 2 ^ (A.2.2 x y)) else wim A s (A.1 * x + y) := by
      rw [← Nat.add_assoc, wim, (dvm hy).1, (dvm hy).2]
    rw [e] at h
    refine z_run (cuts := cu_CH_withImages) ok_CH_withImages (fun Kz hKz => ?_)
    conv => whnf
    rw [nI_leI (by omega) (by omega)]
    refine ⟨fun q => absurd q (by omega), fun _ => ?_⟩
    conv => whnf
    rw [n_shr _ (by omega) (by omega), n_shr _ (by omega) (by omega), n_and, n_and, bit_and1]
    cases hb : s.testBit x && s.testBit y
    · rw [hb, if_neg (by decide)] at h
      first | refine ⟨fun _ => ?_, fun q => absurd (by decide) q⟩ | refine ⟨fun q => absurd q (by decide), fun _ => ?_⟩
      conv => whnf
      refine hKz _ _ _ _ ?_
      rw [nI_1']
      exact h
    · rw [hb, if_pos rfl] at h
      first | refine ⟨fun _ => ?_, fun q => absurd (by decide) q⟩ | refine ⟨fun q => absurd q (by decide), fun _ => ?_⟩
      conv => whnf
      refine ⟨by first | assumption | decide, ?_⟩
      conv => whnf
      refine s_PM_left hk hA hx hy ?_
      conv => whnf
      refine ⟨by first | assumption | decide, ?_⟩
      conv => whnf
      refine s_PM_right hk hA hx hy ?_
      conv => whnf
      refine hKz _ _ _ _ ?_
      rw [n_shl _ _ (by omega), n_shl _ _ (by omega), Nat.one_mul, Nat.one_mul, n_or, n_or, nI_1']
      exact h
theorem s_CH_closureOf {k s : Nat} {A : ZP} (hk : k < 10) (hA : isPM M k A) (hs : s < 2 ^ A.1) (hZ : ∀ r, isShut A s r → Z (some (zi (nI r))) M) : Ctr 0 G mi_CH_closureOf [zr 0 k, zi (nI s)] M Z := by
  have hn := hA.1.1
  have hlt : ∀ j, itr (fun s => wim A s (A.1 * A.1)) s j < 2 ^ A.1 := by
    intro j
    induction j with
    | zero => exact hs
    | succ j ih => exact wim_lt hA.1 ih _ (Nat.le_refl _)
  have lp : ∀ j, j ≤ A.1 → V 0 G mi_CH_closureOf Z 4 [(0, zr 0 k), (2, zi (nI (itr (fun s => wim A s (A.1 * A.1)) s j))), (3, zi (nI j))] [] M := by
    refine up_to ?_ ?_
    · refine z_run (cuts := cu_CH_closureOf) ok_CH_closureOf (fun Kz hKz => ?_)
      conv => whnf
      refine ⟨by first | assumption | decide, ?_⟩
      conv => whnf
      refine s_PM_points hk ?_
      conv => whnf
      rw [hA.2.1, nI_leI (by omega) (by omega)]
      refine ⟨fun _ => ?_, fun q => absurd (Nat.le_refl _) q⟩
      conv => whnf
      exact hZ _ (shut_of hA.1 hs)
    · intro j hj ih
      refine z_run (cuts := cu_CH_closureOf) ok_CH_closureOf (fun Kz hKz => ?_)
      conv => whnf
      refine ⟨by first | assumption | decide, ?_⟩
      conv => whnf
      refine s_PM_points hk ?_
      conv => whnf
      rw [hA.2.1, nI_leI (by omega) (by omega)]
      refine ⟨fun q => absurd q (by omega), fun _ => ?_⟩
      conv => whnf
      refine s_CH_withImages hk hA (hlt j) ?_
      conv => whnf
      refine hKz _ _ _ _ ?_
      rw [nI_1']
      exact ih
  refine go_CH_closureOf (fun Kz hKz => ?_)
  conv => whnf
  refine hKz _ _ _ _ ?_
  exact lp 0 (Nat.zero_le _)
theorem s_CH_closedSets {k : Nat} {A : ZP} (hk : k < 10) (hA : isPM M k A) (hZ : Z (some (zi (nI (cnt (clSb A) (2 ^ A.1))))) M) : Ctr 0 G mi_CH_closedSets [zr 0 k] M Z := by
  have hn := hA.1.1
  have hp : 2 ^ A.1 ≤ 2 ^ 6 := Nat.pow_le_pow_right (by decide) hn
  have lp : ∀ j, j ≤ 2 ^ A.1 → V 0 G mi_CH_closedSets Z 4 [(0, zr 0 k), (1, zi (nI (cnt (clSb A) j))), (2, zi (nI j))] [] M := by
    refine up_to ?_ ?_
    · refine z_run (cuts := cu_CH_closedSets) ok_CH_closedSets (fun Kz hKz => ?_)
      conv => whnf
      refine ⟨by first | assumption | decide, ?_⟩
      conv => whnf
      refine s_PM_points hk ?_
      conv => whnf
      rw [hA.2.1, n_shl _ _ (by omega), Nat.one_mul, nI_leI (by omega) (by omega)]
      refine ⟨fun _ => ?_, fun q => absurd (Nat.le_refl _) q⟩
      conv => whnf
      exact hZ
    · intro j hj ih
      have hw := wim_lt hA.1 hj (A.1 * A.1) (Nat.le_refl _)
      have ih2 : ∀ v, v = cnt (clSb A) (j + 1) → V 0 G mi_CH_closedSets Z 4 [(0, zr 0 k), (1, zi (nI v)), (2, zi (nI (j + 1)))] [] M := by
        rintro v rfl; exact ih
      refine z_run (cuts := cu_CH_closedSets) ok_CH_closedSets (fun Kz hKz => ?_)
      conv => whnf
      refine ⟨by first | assumption | decide, ?_⟩
      conv => whnf
      refine s_PM_points hk ?_
      conv => whnf
      rw [hA.2.1, n_shl _ _ (by omega), Nat.one_mul, nI_leI (by omega) (by omega)]
      refine ⟨fun q => absurd q (by omega), fun _ => ?_⟩
      conv => whnf
      refine s_CH_withImages hk hA hj ?_
      conv => whnf
      rw [nI_eq (by omega) (by omega)]
      refine ⟨fun q => ?_, fun q => ?_⟩
      · conv => whnf
        refine s_T_oneIfb (b := false) ?_
        conv => whnf
        refine hKz _ _ _ _ ?_
        rw [nI_add, nI_1']
        refine ih2 _ ?_
        simp [cnt, clSb, q]
      · conv => whnf
        refine s_T_oneIfb (b := true) ?_
        conv => whnf
        refine hKz _ _ _ _ ?_
        rw [nI_add, nI_1']
        refine ih2 _ ?_
        simp [cnt, clSb, Classical.not_not.mp q]
  refine go_CH_closedSets (fun Kz hKz => ?_)
  conv => whnf
  refine hKz _ _ _ _ ?_
  exact lp 0 (Nat.zero_le _)
end
end
section
/-! cycles of a one-to-one step, and what is common to their lengths -/
theorem least_of {P : Nat → Prop} : ∀ n, P n → ∃ m, m ≤ n ∧ P m ∧ ∀ k, k < m → ¬ P k := by
  intro n
  induction n using Nat.strongRecOn with
  | _ n ih =>
    intro h
    by_cases q : ∃ k, k < n ∧ P k
    · obtain ⟨k, hk, hp⟩ := q
      obtain ⟨m, h1, h2, h3⟩ := ih k hk hp
      exact ⟨m, by omega, h2, h3⟩
    · exact ⟨n, Nat.le_refl _, h, fun k hk hp => q ⟨k, hk, hp⟩⟩
theorem itr_add (f : Nat → Nat) (p a : Nat) : ∀ b, itr f p (a + b) = itr f (itr f p a) b := by
  intro b
  induction b with
  | zero => rfl
  | succ b ih => rw [← Nat.add_assoc, itr, ih, itr]
def isCyc (f : Nat → Nat) (p c : Nat) : Prop := 0 < c ∧ itr f p c = p ∧ ∀ k, 0 < k → k < c → itr f p k ≠ p
theorem cyc_uniq {f : Nat → Nat} {p c c' : Nat} (h : isCyc f p c) (h' : isCyc f p c') : c = c' := by
  rcases Nat.lt_trichotomy c c' with q | q | q
  · exact absurd h.2.1 (h'.2.2 c h.1 q)
  · exact q
  · exact absurd h'.2.1 (h.2.2 c' h'.1 q)
section
variable {f : Nat → Nat} {N : Nat}
theorem itr_lt (hf : ∀ p, p < N → f p < N) {p : Nat} (hp : p < N) : ∀ k, itr f p k < N := by
  intro k
  induction k with
  | zero => exact hp
  | succ k ih => exact hf _ ih
theorem itr_inj (hf : ∀ p, p < N → f p < N) (hi : ∀ p q, p < N → q < N → f p = f q → p = q) {p q : Nat} (hp : p < N) (hq : q < N) : ∀ k, itr f p k = itr f q k → p = q := by
  intro k
  induction k with
  | zero => exact id
  | succ k ih => intro h; exact ih (hi _ _ (itr_lt hf hp k) (itr_lt hf hq k) h)
theorem itr_back (hf : ∀ p, p < N → f p < N) (hi : ∀ p q, p < N → q < N → f p = f q → p = q) {p i j : Nat} (hp : p < N) (hij : i ≤ j) (h : itr f p i = itr f p j) : itr f p (j - i) = p := by
  obtain ⟨d, rfl⟩ : ∃ d, j = d + i := ⟨j - i, by omega⟩
  rw [Nat.add_sub_cancel]
  rw [itr_add] at h
  exact (itr_inj hf hi hp (itr_lt hf hp d) i h).symm
theorem cyc_ex (hf : ∀ p, p < N → f p < N) (hi : ∀ p q, p < N → q < N → f p = f q → p = q) {p : Nat} (hp : p < N) : ∃ c, c ≤ N ∧ isCyc f p c := by
  obtain ⟨i, j, h1, h2, h3⟩ := php N (fun k => itr f p k) (fun k _ => itr_lt hf hp k)
  have h4 := itr_back hf hi hp (Nat.le_of_lt h1) h3
  obtain ⟨m, h5, h6, h7⟩ := least_of (P := fun c => 0 < c ∧ itr f p c = p) (j - i) ⟨by omega, h4⟩
  exact ⟨m, by omega, h6.1, h6.2, fun k q1 q2 q3 => h7 k q2 ⟨q1, q3⟩⟩
theorem cyc_dist (hf : ∀ p, p < N → f p < N) (hi : ∀ p q, p < N → q < N → f p = f q → p = q) {p c : Nat} (hp : p < N) (h : isCyc f p c) : ∀ i j, i < c → j < c → itr f p i = itr f p j → i = j := by
  intro i j h1 h2 h3
  rcases Nat.lt_trichotomy i j with q | q | q
  · exact absurd (itr_back hf hi hp (Nat.le_of_lt q) h3) (h.2.2 _ (by omega) (by omega))
  · exact q
  · exact absurd (itr_back hf hi hp (Nat.le_of_lt q) h3.symm) (h.2.2 _ (by omega) (by omega))
theorem cyc_along (hf : ∀ p, p < N → f p < N) (hi : ∀ p q, p < N → q < N → f p = f q → p = q) {p c : Nat} (hp : p < N) (h : isCyc f p c) (k : Nat) : isCyc f (itr f p k) c := by
  refine ⟨h.1, ?_, fun d h1 h2 h3 => h.2.2 d h1 h2 ?_⟩
  · rw [← itr_add, Nat.add_comm, itr_add, h.2.1]
  · rw [← itr_add, Nat.add_comm, itr_add] at h3
    exact itr_inj hf hi (itr_lt hf hp d) hp k h3
theorem bct_add (g : Nat → Nat) (U : Nat) : ∀ k, (∀ i, i < k → g i < N) → (∀ i j, i < k → j < k → g i = g j → i = j) → (∀ i, i < k → U.testBit (g i) = false) → bct (U ||| orf g k) N = bct U N + k := by
  intro k
  induction k with
  | zero => intro _ _ _; rw [orf, Nat.or_zero]; rfl
  | succ k ih =>
    intro h1 h2 h3
    have hb : (U ||| orf g k).testBit (g k) = false := by
      rw [Nat.testBit_or, h3 k (by omega), Bool.false_or, Bool.eq_false_iff]
      intro q
      obtain ⟨i, hi, he⟩ := (orf_bit g k (g k)).mp q
      have := h2 i k (by omega) (by omega) he
      omega
    rw [orf, ← Nat.or_assoc, bct_or, ih (fun i hi => h1 i (by omega)) (fun i j hi hj => h2 i j (by omega) (by omega)) (fun i hi => h3 i (by omega)), hb, if_pos (h1 k (by omega)), if_neg (by decide)]
    omega
theorem orf_lt2 {g : Nat → Nat} {v : Nat} (k : Nat) (h : (orf g k).testBit v = true) : ∃ i, i < k ∧ g i = v := (orf_bit g k v).mp h
def lcmU (C : Nat → Nat) : Nat → Nat
  | 0 => 1
  | j + 1 => Nat.lcm (lcmU C j) (C j)
def covU (f : Nat → Nat) (C : Nat → Nat) : Nat → Nat
  | 0 => 0
  | j + 1 => covU f C j ||| orf (itr f j) (C j)
theorem covU_bit (f : Nat → Nat) (C : Nat → Nat) : ∀ j v, (covU f C j).testBit v = true → ∃ p i, p < j ∧ i < C p ∧ itr f p i = v := by
  intro j
  induction j with
  | zero => intro v h; rw [covU, Nat.zero_testBit] at h; cases h
  | succ j ih =>
    intro v h
    rw [covU, Nat.testBit_or, Bool.or_eq_true] at h
    rcases h with h | h
    · obtain ⟨p, i, h1, h2, h3⟩ := ih v h
      exact ⟨p, i, by omega, h2, h3⟩
    · obtain ⟨i, h1, h2⟩ := (orf_bit _ _ _).mp h
      exact ⟨j, i, by omega, h1, h2⟩
theorem lcmU_pos {C : Nat → Nat} : ∀ j, (∀ p, p < j → 0 < C p) → 0 < lcmU C j := by
  intro j
  induction j with
  | zero => intro _; exact Nat.one_pos
  | succ j ih => intro h; exact Nat.lcm_pos (ih fun p hp => h p (by omega)) (h j (by omega))
theorem lcmU_dvd {C : Nat → Nat} : ∀ j p, p < j → C p ∣ lcmU C j := by
  intro j
  induction j with
  | zero => intro p hp; exact absurd hp (Nat.not_lt_zero _)
  | succ j ih =>
    intro p hp
    rcases Nat.lt_succ_iff_lt_or_eq.mp hp with hp | rfl
    · exact Nat.dvd_trans (ih p hp) (Nat.dvd_lcm_left _ _)
    · exact Nat.dvd_lcm_right _ _
theorem cube_le : ∀ c, c < 37 → c ^ 3 ≤ 3 ^ c := by decide
theorem lcmU_cube (hf : ∀ p, p < N → f p < N) (hi : ∀ p q, p < N → q < N → f p = f q → p = q) (hN : N ≤ 36) {C : Nat → Nat} (hC : ∀ p, p < N → C p ≤ N ∧ isCyc f p (C p)) : ∀ j, j ≤ N → lcmU C j ^ 3 ≤ 3 ^ bct (covU f C j) N := by
  intro j
  induction j with
  | zero => intro _; rw [lcmU, Nat.one_pow]; exact Nat.pow_pos (by decide)
  | succ j ih =>
    intro hj
    have hCj := hC j (by omega)
    have h := ih (by omega)
    by_cases q : ∃ i, i < C j ∧ (covU f C j).testBit (itr f j i) = true
    · obtain ⟨i, h1, h2⟩ := q
      obtain ⟨p, i', h3, h4, h5⟩ := covU_bit f C j _ h2
      have e1 := cyc_along hf hi (show p < N by omega) (hC p (by omega)).2 i'
      have e2 := cyc_along hf hi (show j < N by omega) hCj.2 i
      rw [h5] at e1
      have e := cyc_uniq e1 e2
      have hd := lcmU_dvd (C := C) j p h3
      rw [e] at hd
      rw [lcmU, Nat.lcm_eq_left hd]
      exact Nat.le_trans h (Nat.pow_le_pow_right (by decide) (bct_mono sub2_l N))
    · have hb := bct_add (N := N) (itr f j) (covU f C j) (C j) (fun i _ => itr_lt hf (by omega) i) (cyc_dist hf hi (by omega) hCj.2) (fun i hi2 => by
        cases hb : (covU f C j).testBit (itr f j i) with
        | false => rfl
        | true => exact absurd ⟨i, hi2, hb⟩ q)
      have hl : lcmU C (j + 1) ≤ lcmU C j * C j := Nat.le_of_dvd (Nat.mul_pos (lcmU_pos j fun p hp => (hC p (by omega)).2.1) hCj.2.1) (Nat.lcm_dvd_mul _ _)
      rw [covU, hb, Nat.pow_add]
      refine Nat.le_trans (Nat.pow_le_pow_left hl 3) ?_
      rw [Nat.mul_pow]
      exact Nat.mul_le_mul h (cube_le _ (by omega))
theorem lcmU_le (hf : ∀ p, p < N → f p < N) (hi : ∀ p q, p < N → q < N → f p = f q → p = q) (hN : N ≤ 36) {C : Nat → Nat} (hC : ∀ p, p < N → C p ≤ N ∧ isCyc f p (C p)) {j : Nat} (hj : j ≤ N) : lcmU C j ≤ 531441 := by
  have h := lcmU_cube hf hi hN hC j hj
  have h2 : (3 : Nat) ^ bct (covU f C j) N ≤ 3 ^ 36 := Nat.pow_le_pow_right (by decide) (Nat.le_trans (bct_le _ _) hN)
  rcases Nat.lt_or_ge 531441 (lcmU C j) with q | q
  · have h3 := Nat.pow_le_pow_left (show 531442 ≤ lcmU C j from q) 3
    have h4 : (3 : Nat) ^ 36 < 531442 ^ 3 := by decide
    omega
  · exact q
end
/-- the code of pair number j -/
def e8 (A : ZP) (j : Nat) : Nat := 8 * (j / A.1) + j % A.1
theorem e8_pj {A : ZP} (hA : pwf A) {j : Nat} (hj : j < A.1 * A.1) : e8 A (pj A A.1 j) = 8 * A.2.1 (j / A.1) (j % A.1) + A.2.2 (j / A.1) (j % A.1) := by
  have h := dvlt hj
  have hLR := hA.2 _ _ h.1 h.2
  unfold e8 pj
  rw [(dvm hLR.2).1, (dvm hLR.2).2]
theorem e8_lt {A : ZP} (hA : pwf A) {j : Nat} (hj : j < A.1 * A.1) : e8 A j < 64 := by
  have h := dvlt hj
  have := hA.1
  unfold e8
  omega
theorem e8_inj {A : ZP} (hA : pwf A) {i j : Nat} (hi : i < A.1 * A.1) (hj : j < A.1 * A.1) (h : e8 A i = e8 A j) : i = j := by
  have h1 := dvlt hi
  have h2 := dvlt hj
  have h3 := hA.1
  have e1 := Nat.div_add_mod i A.1
  have e2 := Nat.div_add_mod j A.1
  unfold e8 at h
  generalize i / A.1 = a at *
  generalize i % A.1 = b at *
  generalize j / A.1 = a' at *
  generalize j % A.1 = b' at *
  have ha : a = a' := by omega
  subst ha
  have hb : b = b' := by omega
  subst hb
  omega
theorem pj_lt {A : ZP} (hA : pwf A) : ∀ j, j < A.1 * A.1 → pj A A.1 j < A.1 * A.1 := by
  intro j hj
  have h := dvlt hj
  have hLR := hA.2 _ _ h.1 h.2
  exact prlt hLR.1 hLR.2
section
variable {G : ZG} {M : ZM} {Z : Option ZV → ZM → Prop}
theorem s_PM_step {k j : Nat} {A : ZP} (hk : k < 10) (hA : isPM M k A) (hj : j < A.1 * A.1) (hZ : Z (some (zi (nI (e8 A (pj A A.1 j))))) M) : Ctr 0 G mi_PM_imageOf [zr 0 k, zi (nI (e8 A j))] M Z := by
  have h := dvlt hj
  refine s_PM_imageOf hk (e8_lt hA.1 hj) ?_
  rw [e8_pj hA.1 hj] at hZ
  unfold e8
  rw [hA.2.2 _ _ h.1 h.2]
  exact hZ
theorem s_CH_cycleLength {k p c : Nat} {A : ZP} (hk : k < 10) (hA : isPM M k A) (hp : p < A.1 * A.1) (hc : c ≤ A.1 * A.1) (hcy : isCyc (pj A A.1) p c) (hZ : Z (some (zi (nI c))) M) : Ctr 0 G mi_CH_cycleLength [zr 0 k, zi (nI (e8 A p))] M Z := by
  have hn := hA.1.1
  have hnn : A.1 * A.1 ≤ 6 * 6 := Nat.mul_le_mul hn hn
  have il : ∀ i, itr (pj A A.1) p i < A.1 * A.1 := itr_lt (pj_lt hA.1) hp
  have lp : ∀ i, i ≤ c → 0 < i → V 0 G mi_CH_cycleLength Z 19 [(0, zr 0 k), (1, zi (nI (e8 A p))), (2, zi (nI (A.1 * A.1))), (3, zi (nI (e8 A (itr (pj A A.1) p i)))), (4, zi (nI i))] [] M := by
    refine up_to ?_ ?_
    · intro _
      rw [hcy.2.1]
      have h8 := e8_lt hA.1 hp
      refine z_run (cuts := cu_CH_cycleLength) ok_CH_cycleLength (fun Kz hKz => ?_)
      conv => whnf
      rw [nI_leI (by omega) (by omega)]
      refine ⟨fun q => ?_, fun q => ?_⟩
      · conv => whnf
        exact hZ
      · conv => whnf
        refine ⟨fun _ => ?_, fun q => absurd rfl q⟩
        conv => whnf
        exact hZ
    · intro i hi ih hi0
      have h8 := e8_lt hA.1 hp
      have h9 := e8_lt hA.1 (il i)
      refine z_run (cuts := cu_CH_cycleLength) ok_CH_cycleLength (fun Kz hKz => ?_)
      conv => whnf
      rw [nI_leI (by omega) (by omega)]
      refine ⟨fun q => absurd q (by omega), fun _ => ?_⟩
      conv => whnf
      rw [nI_eq (by omega) (by omega)]
      refine ⟨fun q => absurd (e8_inj hA.1 (il i) hp q) (hcy.2.2 i hi0 hi), fun _ => ?_⟩
      conv => whnf
      refine ⟨by first | assumption | decide, ?_⟩
      conv => whnf
      refine s_PM_step hk hA (il i) ?_
      conv => whnf
      refine hKz _ _ _ _ ?_
      rw [nI_1']
      exact ih (Nat.succ_pos _)
  refine go_CH_cycleLength (fun Kz hKz => ?_)
  conv => whnf
  refine ⟨by first | assumption | decide, ?_⟩
  conv => whnf
  refine s_PM_points hk ?_
  conv => whnf
  refine ⟨by first | assumption | decide, ?_⟩
  conv => whnf
  refine s_PM_points hk ?_
  conv => whnf
  refine ⟨by first | assumption | decide, ?_⟩
  conv => whnf
  refine s_PM_step hk hA hp ?_
  conv => whnf
  refine hKz _ _ _ _ ?_
  rw [hA.2.1, pk_mul]
  exact lp 1 hcy.1 Nat.one_pos
theorem s_CH_periodOf {k : Nat} {A : ZP} (hk : k < 10) (hA : isPM M k A) (h0 : ¬ pinj A → Z (some (zi (-1))) M) (h1 : pinj A → ∀ C : Nat → Nat, (∀ p, p < A.1 * A.1 → C p ≤ A.1 * A.1 ∧ isCyc (pj A A.1) p (C p)) → (∀ j, j ≤ A.1 * A.1 → 0 < lcmU C j ∧ lcmU C j ≤ 531441) → Z (some (zi (nI (lcmU C (A.1 * A.1))))) M) : Ctr 0 G mi_CH_periodOf [zr 0 k] M Z := by
  have hn := hA.1.1
  have hnn : A.1 * A.1 ≤ 6 * 6 := Nat.mul_le_mul hn hn
  refine go_CH_periodOf (fun Kz hKz => ?_)
  conv => whnf
  refine s_CH_isBijective hk hA (fun hi => ?_) (fun hi => ?_)
  · have hf := pj_lt hA.1
    have hinj : ∀ p q, p < A.1 * A.1 → q < A.1 * A.1 → pj A A.1 p = pj A A.1 q → p = q := (pj_inj hA.1 (Nat.le_refl _)).mpr hi
    have hex : ∀ p, ∃ c, p < A.1 * A.1 → c ≤ A.1 * A.1 ∧ isCyc (pj A A.1) p c := by
      intro p
      by_cases hp : p < A.1 * A.1
      · obtain ⟨c, hc⟩ := cyc_ex hf hinj hp
        exact ⟨c, fun _ => hc⟩
      · exact ⟨0, fun q => absurd q hp⟩
    obtain ⟨C, hC⟩ : ∃ C : Nat → Nat, ∀ p, p < A.1 * A.1 → C p ≤ A.1 * A.1 ∧ isCyc (pj A A.1) p (C p) := ⟨fun p => Classical.choose (hex p), fun p hp => Classical.choose_spec (hex p) hp⟩
    have hle : ∀ j, j ≤ A.1 * A.1 → 0 < lcmU C j ∧ lcmU C j ≤ 531441 := fun j hj => ⟨lcmU_pos j fun p hp => (hC p (by omega)).2.1, lcmU_le hf hinj (by omega) hC hj⟩
    have hZ := h1 hi C hC hle
    conv => whnf
    first | refine ⟨fun _ => ?_, fun q => absurd (by decide) q⟩ | refine ⟨fun q => absurd q (by decide), fun _ => ?_⟩
    conv => whnf
    refine ⟨by first | assumption | decide, ?_⟩
    conv => whnf
    refine s_PM_points hk ?_
    conv => whnf
    refine hKz _ _ _ _ ?_
    rw [hA.2.1]
    refine rloop (n := A.1) (m := A.1) (O := fun x => ∀ v, v = lcmU C (A.1 * x) → V 0 G mi_CH_periodOf Z 18 [(0, zr 0 k), (1, zi (nI A.1)), (2, zi (nI v)), (3, zi (nI x))] [] M) (I := fun x y => V 0 G mi_CH_periodOf Z 26 [(0, zr 0 k), (1, zi (nI A.1)), (2, zi (nI (lcmU C (A.1 * x + y)))), (3, zi (nI x)), (4, zi (nI y))] [] M) (fun v hv => ?_) (fun x hx h v hv => ?_) (fun x hx h => ?_) (fun x y hx hy h => ?_) 1 rfl
    · refine z_run (cuts := cu_CH_periodOf) ok_CH_periodOf (fun Kz hKz => ?_)
      conv => whnf
      rw [nI_leI (by omega) (by omega)]
      refine ⟨fun _ => ?_, fun q => absurd (Nat.le_refl _) q⟩
      conv => whnf
      rw [hv]
      exact hZ
    · refine z_run (cuts := cu_CH_periodOf) ok_CH_periodOf (fun Kz hKz => ?_)
      conv => whnf
      rw [nI_leI (by omega) (by omega)]
      refine ⟨fun q => absurd q (by omega), fun _ => ?_⟩
      conv => whnf
      refine hKz _ _ _ _ ?_
      rw [hv]
      exact h
    · refine z_run (cuts := cu_CH_periodOf) ok_CH_periodOf (fun Kz hKz => ?_)
      conv => whnf
      rw [nI_leI (by omega) (by omega)]
      refine ⟨fun _ => ?_, fun q => absurd (Nat.le_refl _) q⟩
      conv => whnf
      refine hKz _ _ _ _ ?_
      rw [nI_1']
      exact h _ (by rw [Nat.mul_succ])
    · have hpr := prlt hx hy
      have hl := hle (A.1 * x + y) (by omega)
      have hCp := hC _ hpr
      have hm : lcmU C (A.1 * x + y) * C (A.1 * x + y) ≤ 531441 * 36 := Nat.mul_le_mul hl.2 (by omega)
      refine z_run (cuts := cu_CH_periodOf) ok_CH_periodOf (fun Kz hKz => ?_)
      conv => whnf
      rw [nI_leI (by omega) (by omega)]
      refine ⟨fun q => absurd q (by omega), fun _ => ?_⟩
      conv => whnf
      refine s_CO_pairOf (by omega) (by omega) ?_
      conv => whnf
      have e : 8 * x + y = e8 A (A.1 * x + y) := by unfold e8; rw [(dvm hy).1, (dvm hy).2]
      rw [e]
      refine s_CH_cycleLength hk hA hpr hCp.1 hCp.2 ?_
      conv => whnf
      refine s_CO_commonMultiple hl.1 hCp.2.1 (by omega) ?_
      conv => whnf
      refine hKz _ _ _ _ ?_
      rw [nI_1']
      exact h
  · conv => whnf
    first | refine ⟨fun _ => ?_, fun q => absurd (by decide) q⟩ | refine ⟨fun q => absurd q (by decide), fun _ => ?_⟩
    conv => whnf
    exact h0 hi
end
end
section
/-! counting, the first that is -/
theorem cnt_mono (p : Nat → Bool) (i : Nat) : ∀ d, cnt p i ≤ cnt p (i + d) := by
  intro d
  induction d with
  | zero => exact Nat.le_refl _
  | succ d ih => exact Nat.le_trans ih (Nat.le_add_right _ _)
theorem cnt_step {p : Nat → Bool} {i j : Nat} (h : p i = true) (hij : i < j) : cnt p i < cnt p j := by
  obtain ⟨d, rfl⟩ : ∃ d, j = i + 1 + d := ⟨j - (i + 1), by omega⟩
  have := cnt_mono p (i + 1) d
  rw [cnt, h, Bool.toNat_true] at this
  omega
theorem cnt_inj {p : Nat → Bool} {i j : Nat} (h : p i = true) (h' : p j = true) (he : cnt p i = cnt p j) : i = j := by
  rcases Nat.lt_trichotomy i j with q | q | q
  · have := cnt_step h q; omega
  · exact q
  · have := cnt_step h' q; omega
theorem cnt_surj {p : Nat → Bool} {c : Nat} : ∀ k, c < cnt p k → ∃ i, i < k ∧ p i = true ∧ cnt p i = c := by
  intro k
  induction k with
  | zero => intro h; exact absurd h (Nat.not_lt_zero _)
  | succ k ih =>
    intro h
    by_cases q : c < cnt p k
    · obtain ⟨i, h1, h2⟩ := ih q
      exact ⟨i, by omega, h2⟩
    · cases hp : p k with
      | false => rw [cnt, hp, Bool.toNat_false] at h; omega
      | true =>
        rw [cnt, hp, Bool.toNat_true] at h
        exact ⟨k, by omega, hp, by omega⟩
def fnd (p : Nat → Bool) : Nat → Nat
  | 0 => 0
  | k + 1 => if fnd p k < k then fnd p k else if p k = true then k else k + 1
theorem fnd_le (p : Nat → Bool) : ∀ k, fnd p k ≤ k := by
  intro k
  induction k with
  | zero => exact Nat.le_refl _
  | succ k ih =>
    rw [fnd]
    split
    · omega
    · split <;> omega
theorem fnd_min (p : Nat → Bool) : ∀ k i, i < fnd p k → p i = false := by
  intro k
  induction k with
  | zero => intro i h; exact absurd h (Nat.not_lt_zero _)
  | succ k ih =>
    intro i h
    rw [fnd] at h
    have hk := fnd_le p k
    split at h
    · exact ih i h
    · split at h
      · exact ih i (by omega)
      · rename_i hp
        rcases Nat.lt_succ_iff_lt_or_eq.mp h with h | rfl
        · exact ih i (by omega)
        · exact Bool.eq_false_iff.mpr hp
theorem fnd_is (p : Nat → Bool) : ∀ k, fnd p k < k → p (fnd p k) = true := by
  intro k
  induction k with
  | zero => intro h; exact absurd h (Nat.not_lt_zero _)
  | succ k ih =>
    intro h
    rw [fnd] at h ⊢
    split
    · rename_i q; exact ih q
    · split
      · rename_i q; exact q
      · rename_i q1 q2; rw [if_neg q1, if_neg q2] at h; omega
theorem fnd_eq {p : Nat → Bool} {k i : Nat} (hi : i < k) (hp : p i = true) (hm : ∀ j, j < i → p j = false) : fnd p k = i := by
  have h1 : fnd p k ≤ i := by
    rcases Nat.lt_or_ge i (fnd p k) with q | q
    · have := fnd_min p k i q; rw [hp] at this; cases this
    · exact q
  rcases Nat.lt_or_eq_of_le h1 with q | q
  · have := fnd_is p k (by omega); rw [hm _ q] at this; cases this
  · exact q
/-! points that are alike -/
def twin (A : ZP) (x y : Nat) : Prop := ∀ z, z < A.1 → A.2.1 x z = A.2.1 y z ∧ A.2.2 z x = A.2.2 z y
theorem twin_refl (A : ZP) (x : Nat) : twin A x x := fun _ _ => ⟨rfl, rfl⟩
theorem twin_symm {A : ZP} {x y : Nat} (h : twin A x y) : twin A y x := fun z hz => ⟨(h z hz).1.symm, (h z hz).2.symm⟩
theorem twin_trans {A : ZP} {x y z : Nat} (h : twin A x y) (h' : twin A y z) : twin A x z := fun w hw => ⟨(h w hw).1.trans (h' w hw).1, (h w hw).2.trans (h' w hw).2⟩
def twb (A : ZP) (x y : Nat) : Bool := decide (∀ z, z < A.1 → A.2.1 x z = A.2.1 y z ∧ A.2.2 z x = A.2.2 z y)
theorem twb_iff {A : ZP} {x y : Nat} : twb A x y = true ↔ twin A x y := decide_eq_true_iff
theorem twb_no {A : ZP} {x y : Nat} : twb A x y = false ↔ ¬ twin A x y := decide_eq_false_iff_not
def rep (A : ZP) (x : Nat) : Nat := fnd (twb A x) x
theorem rep_le (A : ZP) (x : Nat) : rep A x ≤ x := fnd_le _ _
theorem rep_twin (A : ZP) (x : Nat) : twin A x (rep A x) := by
  rcases Nat.lt_or_eq_of_le (rep_le A x) with q | q
  · exact twb_iff.mp (fnd_is _ _ q)
  · rw [q]; exact twin_refl A x
theorem rep_min {A : ZP} {x y : Nat} (h : twin A x y) : rep A x ≤ y := by
  rcases Nat.lt_or_ge y (rep A x) with q | q
  · exact absurd h (twb_no.mp (fnd_min _ _ y q))
  · exact q
theorem rep_eq {A : ZP} {x y : Nat} (h : twin A x y) : rep A x = rep A y :=
  Nat.le_antisymm (rep_min (twin_trans h (rep_twin A y))) (rep_min (twin_trans (twin_symm h) (rep_twin A x)))
theorem rep_rep (A : ZP) (x : Nat) : rep A (rep A x) = rep A x := (rep_eq (rep_twin A x)).symm
def isRep (A : ZP) (x : Nat) : Bool := decide (rep A x = x)
def clz (A : ZP) (x : Nat) : Nat := cnt (isRep A) (rep A x)
def ksz (A : ZP) : Nat := cnt (isRep A) A.1
def lst (A : ZP) (c : Nat) : Nat := fnd (fun x => isRep A x && decide (cnt (isRep A) x = c)) A.1
theorem isRep_rep (A : ZP) (x : Nat) : isRep A (rep A x) = true := decide_eq_true (rep_rep A x)
theorem clz_lt {A : ZP} {x : Nat} (hx : x < A.1) : clz A x < ksz A := cnt_step (isRep_rep A x) (Nat.lt_of_le_of_lt (rep_le A x) hx)
theorem lst_of {A : ZP} {x : Nat} (hx : x < A.1) (hr : isRep A x = true) : lst A (cnt (isRep A) x) = x := by
  refine fnd_eq hx (by rw [hr, Bool.true_and]; exact decide_eq_true rfl) (fun j hj => ?_)
  cases hq : isRep A j with
  | false => rfl
  | true =>
    rw [Bool.true_and]
    refine decide_eq_false fun he => ?_
    have := cnt_inj hq hr he
    omega
theorem lst_is {A : ZP} {c : Nat} (hc : c < ksz A) : lst A c < A.1 ∧ isRep A (lst A c) = true ∧ cnt (isRep A) (lst A c) = c := by
  obtain ⟨i, h1, h2, h3⟩ := cnt_surj A.1 hc
  have h := lst_of h1 h2
  rw [h3] at h
  rw [h]
  exact ⟨h1, h2, h3⟩
theorem lst_clz {A : ZP} {x : Nat} (hx : x < A.1) : lst A (clz A x) = rep A x := lst_of (Nat.lt_of_le_of_lt (rep_le A x) hx) (isRep_rep A x)
def pretr (A : ZP) : ZP := (ksz A, fun c d => clz A (A.2.1 (lst A c) (lst A d)), fun c d => clz A (A.2.2 (lst A c) (lst A d)))
theorem ksz_le (A : ZP) : ksz A ≤ A.1 := cnt_le _ _
theorem pretr_wf {A : ZP} (hA : pwf A) : pwf (pretr A) := by
  refine ⟨Nat.le_trans (ksz_le A) hA.1, fun x y hx hy => ?_⟩
  have h := hA.2 _ _ (lst_is hx).1 (lst_is hy).1
  exact ⟨clz_lt h.1, clz_lt h.2⟩
/-! what AlikeClasses holds -/
def acS : Nat → Nat → Prop := fun a b => (a = 8 ∨ a = 9 ∨ a = 10) ∧ b = 0
def acv (A : ZP) (x : Nat) (M : ZM) : Prop := M.1 8 0 2 = nI (cnt (isRep A) x) ∧ (∀ y, y < x → M.1 9 0 y = nI (clz A y)) ∧ ∀ y, y < x → isRep A y = true → M.1 10 0 (cnt (isRep A) y) = nI y
section
variable {G : ZG} {M : ZM} {Z : Option ZV → ZM → Prop}
theorem n_mask {x : Nat} (hx : x < 8) : nI x &&& nI 7 = nI x := by rw [n_and, show (7 : Nat) = 2 ^ 3 - 1 from rfl, Nat.and_two_pow_sub_one_eq_mod, Nat.mod_eq_of_lt hx]
theorem s_AC_classOf {x : Nat} (hx : x < 8) (hZ : Z (some (zi (M.1 9 0 x))) M) : Ctr 0 G mi_AC_classOf [zr 8 0, zi (nI x)] M Z := by
  refine go_AC_classOf (fun Kz hKz => ?_)
  conv => whnf
  rw [n_mask hx]
  refine ⟨vp_in_nI hx (by decide), ?_⟩
  conv => whnf
  rw [nI_clamp (by omega)]
  exact hZ
theorem s_AC_smallestOf {x : Nat} (hx : x < 8) (hZ : Z (some (zi (M.1 10 0 x))) M) : Ctr 0 G mi_AC_smallestOf [zr 8 0, zi (nI x)] M Z := by
  refine go_AC_smallestOf (fun Kz hKz => ?_)
  conv => whnf
  rw [n_mask hx]
  refine ⟨vp_in_nI hx (by decide), ?_⟩
  conv => whnf
  rw [nI_clamp (by omega)]
  exact hZ
theorem s_AC_areTwins {k x y : Nat} {A : ZP} (hk : k < 10) (hA : isPM M k A) (hx : x < A.1) (hy : y < A.1) (h1 : twin A x y → Z (some (zi (nI 1))) M) (h2 : ¬ twin A x y → Z (some (zi (nI 0))) M) : Ctr 0 G mi_AC_areTwins [zr 0 k, zi (nI x), zi (nI y)] M Z := by
  have hn := hA.1.1
  have lp : ∀ z, z ≤ A.1 → (∀ w, w < z → A.2.1 x w = A.2.1 y w ∧ A.2.2 w x = A.2.2 w y) → V 0 G mi_AC_areTwins Z 2 [(0, zr 0 k), (1, zi (nI x)), (2, zi (nI y)), (3, zi (nI z))] [] M := by
    refine up_to ?_ ?_
    · intro h
      refine z_run (cuts := cu_AC_areTwins) ok_AC_areTwins (fun Kz hKz => ?_)
      conv => whnf
      refine ⟨by first | assumption | decide, ?_⟩
      conv => whnf
      refine s_PM_points hk ?_
      conv => whnf
      rw [hA.2.1, nI_leI (by omega) (by omega)]
      refine ⟨fun _ => ?_, fun q => absurd (Nat.le_refl _) q⟩
      conv => whnf
      exact ⟨Or.inr rfl, h1 h⟩
    · intro z hz ih h
      have a1 := hA.1.2 x z hx hz
      have a2 := hA.1.2 y z hy hz
      have a3 := hA.1.2 z x hz hx
      have a4 := hA.1.2 z y hz hy
      refine z_run (cuts := cu_AC_areTwins) ok_AC_areTwins (fun Kz hKz => ?_)
      conv => whnf
      refine ⟨by first | assumption | decide, ?_⟩
      conv => whnf
      refine s_PM_points hk ?_
      conv => whnf
      rw [hA.2.1, nI_leI (by omega) (by omega)]
      refine ⟨fun q => absurd q (by omega), fun _ => ?_⟩
      conv => whnf
      refine ⟨by first | assumption | decide, ?_⟩
      conv => whnf
      refine s_PM_left hk hA hx hz ?_
      conv => whnf
      refine ⟨by first | assumption | decide, ?_⟩
      conv => whnf
      refine s_PM_left hk hA hy hz ?_
      conv => whnf
      rw [n_ne (by omega) (by omega)]
      refine ⟨fun q => ?_, fun q => ?_⟩
      · conv => whnf
        exact ⟨Or.inl rfl, h2 (fun w => q (w z hz).1)⟩
      · have q := Classical.not_not.mp q
        conv => whnf
        refine ⟨by first | assumption | decide, ?_⟩
        conv => whnf
        refine s_PM_right hk hA hz hx ?_
        conv => whnf
        refine ⟨by first | assumption | decide, ?_⟩
        conv => whnf
        refine s_PM_right hk hA hz hy ?_
        conv => whnf
        rw [nI_eq (by omega) (by omega)]
        refine ⟨fun q2 => ?_, fun q2 => ?_⟩
        · conv => whnf
          refine hKz _ _ _ _ ?_
          rw [nI_1']
          refine ih (fun w hw => ?_)
          rcases Nat.lt_succ_iff_lt_or_eq.mp hw with hw | rfl
          · exact h w hw
          · exact ⟨q, q2⟩
        · conv => whnf
          exact ⟨Or.inl rfl, h2 (fun w => q2 (w z hz).2)⟩
  refine go_AC_areTwins (fun Kz hKz => ?_)
  conv => whnf
  refine hKz _ _ _ _ ?_
  exact lp 0 (Nat.zero_le _) (fun w hw => absurd hw (Nat.not_lt_zero _))
theorem s_AC_smallestTwin {k x : Nat} {A : ZP} (hk : k < 10) (hA : isPM M k A) (hx : x < A.1) (hZ : Z (some (zi (nI (rep A x)))) M) : Ctr 0 G mi_AC_smallestTwin [zr 0 k, zi (nI x)] M Z := by
  have hn := hA.1.1
  have lp : ∀ y, y ≤ x → (∀ w, w < y → twb A x w = false) → V 0 G mi_AC_smallestTwin Z 2 [(0, zr 0 k), (1, zi (nI x)), (2, zi (nI y))] [] M := by
    refine up_to ?_ ?_
    · intro h
      have e : rep A x = x := by
        rcases Nat.lt_or_eq_of_le (rep_le A x) with q | q
        · have := h _ q; rw [twb_iff.mpr (rep_twin A x)] at this; cases this
        · exact q
      rw [e] at hZ
      refine z_run (cuts := cu_AC_smallestTwin) ok_AC_smallestTwin (fun Kz hKz => ?_)
      conv => whnf
      rw [nI_leI (by omega) (by omega)]
      refine ⟨fun _ => ?_, fun q => absurd (Nat.le_refl _) q⟩
      conv => whnf
      exact hZ
    · intro y hy ih h
      refine z_run (cuts := cu_AC_smallestTwin) ok_AC_smallestTwin (fun Kz hKz => ?_)
      conv => whnf
      rw [nI_leI (by omega) (by omega)]
      refine ⟨fun q => absurd q (by omega), fun _ => ?_⟩
      conv => whnf
      refine s_AC_areTwins hk hA hx (by omega) (fun q => ?_) (fun q => ?_)
      · conv => whnf
        first | refine ⟨fun _ => ?_, fun q => absurd (by decide) q⟩ | refine ⟨fun q => absurd q (by decide), fun _ => ?_⟩
        conv => whnf
        have e : rep A x = y := fnd_eq hy (twb_iff.mpr q) h
        rw [e] at hZ
        exact hZ
      · conv => whnf
        first | refine ⟨fun _ => ?_, fun q => absurd (by decide) q⟩ | refine ⟨fun q => absurd q (by decide), fun _ => ?_⟩
        conv => whnf
        refine hKz _ _ _ _ ?_
        rw [nI_1']
        refine ih (fun w hw => ?_)
        rcases Nat.lt_succ_iff_lt_or_eq.mp hw with hw | rfl
        · exact h w hw
        · exact twb_no.mpr q
  refine go_AC_smallestTwin (fun Kz hKz => ?_)
  conv => whnf
  refine hKz _ _ _ _ ?_
  exact lp 0 (Nat.zero_le _) (fun w hw => absurd hw (Nat.not_lt_zero _))
theorem acv_same {S : Nat → Nat → Prop} {M M' : ZM} {A : ZP} {x : Nat} (h : acv A x M) (hs : zsm S M M') (h8 : ¬ S 8 0) (h9 : ¬ S 9 0) (h10 : ¬ S 10 0) : acv A x M' := by
  unfold acv
  rw [hs.2 8 0 h8, hs.2 9 0 h9, hs.2 10 0 h10]
  exact h
theorem s_AC_find {k : Nat} {A : ZP} (hk : k < 10) (hA : isPM M k A) (hZ : ∀ M', zsm acS M M' → acv A A.1 M' → Z none M') : Ctr 0 G mi_AC_find [zr 8 0, zr 0 k] M Z := by
  have hn := hA.1.1
  have pk : ∀ {M' : ZM}, zsm acS M M' → isPM M' k A := fun h => isPM_same hA h (fun q => absurd q.1 (by decide)) (fun q => absurd q.1 (by decide))
  have lp : ∀ x, x ≤ A.1 → ∀ M', zsm acS M M' → acv A x M' → V 0 G mi_AC_find Z 7 [(0, zr 8 0), (1, zr 0 k), (2, zi (nI x))] [] M' := by
    refine up_to ?_ ?_
    · intro M' h1 h2
      refine z_run (cuts := cu_AC_find) ok_AC_find (fun Kz hKz => ?_)
      conv => whnf
      refine ⟨by first | assumption | decide, ?_⟩
      conv => whnf
      refine s_PM_points hk ?_
      conv => whnf
      rw [(pk h1).2.1, nI_leI (by omega) (by omega)]
      refine ⟨fun _ => ?_, fun q => absurd (Nat.le_refl _) q⟩
      conv => whnf
      exact hZ M' h1 h2
    · intro x hx ih M' h1 h2
      have hr := rep_le A x
      have hc := cnt_le (isRep A) x
      refine z_run (cuts := cu_AC_find) ok_AC_find (fun Kz hKz => ?_)
      conv => whnf
      refine ⟨by first | assumption | decide, ?_⟩
      conv => whnf
      refine s_PM_points hk ?_
      conv => whnf
      rw [(pk h1).2.1, nI_leI (by omega) (by omega)]
      refine ⟨fun q => absurd q (by omega), fun _ => ?_⟩
      conv => whnf
      refine s_AC_smallestTwin hk (pk h1) hx ?_
      conv => whnf
      rw [n_ne (by omega) (by omega)]
      refine ⟨fun q => ?_, fun q => ?_⟩
      · conv => whnf
        rw [n_mask (by omega)]
        refine s_AC_classOf (x := rep A x) (by omega) ?_
        conv => whnf
        refine ⟨vp_in_nI (show x < 8 by omega) (by decide), ?_⟩
        conv => whnf
        refine hKz _ _ _ _ ?_
        rw [nI_1', nI_clamp (by omega), h2.2.1 (rep A x) (by omega)]
        have e : clz A (rep A x) = clz A x := by unfold clz; rw [rep_rep]
        have e2 : isRep A x = false := decide_eq_false q
        rw [e]
        refine ih _ (zsm_trans h1 (zsm_set ⟨Or.inr (Or.inl rfl), rfl⟩)) ⟨?_, fun y hy => ?_, fun y hy hi => ?_⟩
        · rw [zset_ne (by omega), h2.1, cnt, e2]; rfl
        · rcases Nat.lt_succ_iff_lt_or_eq.mp hy with hy | rfl
          · rw [zset_ne (by omega)]; exact h2.2.1 y hy
          · exact zset_eq
        · rcases Nat.lt_succ_iff_lt_or_eq.mp hy with hy | rfl
          · rw [zset_ne (by omega)]; exact h2.2.2 y hy hi
          · rw [e2] at hi; cases hi
      · have q := Classical.not_not.mp q
        have e2 : isRep A x = true := decide_eq_true q
        conv => whnf
        rw [h2.1, n_mask (by omega)]
        refine ⟨vp_in_nI (show cnt (isRep A) x < 8 by omega) (by decide), ?_⟩
        conv => whnf
        rw [n_mask (by omega), zset_ne (by omega), h2.1]
        refine ⟨vp_in_nI (show x < 8 by omega) (by decide), ?_⟩
        conv => whnf
        refine hKz _ _ _ _ ?_
        rw [zset_ne (by omega), zset_ne (by omega), h2.1, nI_1', nI_1', nI_clamp (by omega), nI_clamp (by omega)]
        have e : clz A x = cnt (isRep A) x := by unfold clz; rw [q]
        rw [← e]
        refine ih _ (zsm_trans (zsm_trans (zsm_trans h1 (zsm_set ⟨Or.inr (Or.inr rfl), rfl⟩)) (zsm_set ⟨Or.inr (Or.inl rfl), rfl⟩)) (zsm_set ⟨Or.inl rfl, rfl⟩)) ⟨?_, fun y hy => ?_, fun y hy hi => ?_⟩
        · rw [zset_eq, cnt, e2, e]; rfl
        · rw [zset_ne (by omega)]
          rcases Nat.lt_succ_iff_lt_or_eq.mp hy with hy | rfl
          · rw [zset_ne (by omega), zset_ne (by omega)]; exact h2.2.1 y hy
          · exact zset_eq
        · rw [zset_ne (by omega), zset_ne (by omega)]
          rcases Nat.lt_succ_iff_lt_or_eq.mp hy with hy | rfl
          · have := cnt_step hi hy
            rw [zset_ne (by omega)]; exact h2.2.2 y hy hi
          · rw [e]; exact zset_eq
  refine go_AC_find (fun Kz hKz => ?_)
  conv => whnf
  refine hKz _ _ _ _ ?_
  exact lp 0 (Nat.zero_le _) _ (zsm_set ⟨Or.inl rfl, rfl⟩) ⟨zset_eq, fun y hy => absurd hy (Nat.not_lt_zero _), fun y hy => absurd hy (Nat.not_lt_zero _)⟩
end
end
section
/-- often retracted -/
def rt (A : ZP) : Nat → ZP
  | 0 => A
  | i + 1 => pretr (rt A i)
theorem rt_wf {A : ZP} (hA : pwf A) : ∀ i, pwf (rt A i) := by
  intro i
  induction i with
  | zero => exact hA
  | succ i ih => exact pretr_wf ih
theorem ksz_pos {A : ZP} (h : 0 < A.1) : 0 < ksz A := Nat.lt_of_le_of_lt (Nat.zero_le _) (clz_lt (x := 0) h)
theorem rt_pos {A : ZP} (h : 0 < A.1) : ∀ i, 0 < (rt A i).1 := by
  intro i
  induction i with
  | zero => exact h
  | succ i ih => exact ksz_pos ih
theorem rt_less {A : ZP} : ∀ i, (∀ j, j < i → ksz (rt A j) < (rt A j).1) → (rt A i).1 + i ≤ A.1 := by
  intro i
  induction i with
  | zero => intro _; exact Nat.le_refl _
  | succ i ih =>
    intro h
    have h1 := ih fun j hj => h j (by omega)
    have h2 := h i (by omega)
    show ksz (rt A i) + (i + 1) ≤ A.1
    omega
def lvS : Nat → Nat → Prop := fun a b => acS a b ∨ pmS 6 a b ∨ pmS 7 a b
/-- the level: how often, until nothing changes -/
def isLev (A : ZP) (t : Nat) : Prop := (∀ i, i < t → ksz (rt A i) < (rt A i).1) ∧ ksz (rt A t) = (rt A t).1
theorem isLev_uniq {A : ZP} {t t' : Nat} (h : isLev A t) (h' : isLev A t') : t = t' := by
  rcases Nat.lt_trichotomy t t' with q | q | q
  · have := h'.1 t q; have := h.2; omega
  · exact q
  · have := h.1 t' q; have := h'.2; omega
section
variable {G : ZG} {M : ZM} {Z : Option ZV → ZM → Prop}
theorem s_AC_makeRetraction {k j : Nat} {A : ZP} (hk : k < 10) (hj : j < 10) (hkj : k ≠ j) (hA : isPM M j A) (hC : acv A A.1 M) (hZ : ∀ M', zsm (pmS k) M M' → isPM M' k (pretr A) → Z none M') : Ctr 0 G mi_AC_makeRetraction [zr 8 0, zr 0 k, zr 0 j] M Z := by
  have hn := hA.1.1
  have hkn := ksz_le A
  have e0 : M.1 8 0 2 = nI (ksz A) := hC.1
  have hp : ∀ {M' : ZM} {x y : Nat}, winv (zset 0 k 1 (nI (ksz A)) M) k (ksz A) (fun a b => 8 * a + b) (fun a b => 8 * (pretr A).2.1 a b + (pretr A).2.2 a b) x y M' → isPM M' j A ∧ acv A A.1 M' ∧ M'.1 8 0 2 = nI (ksz A) := by
    intro M' x y h
    have h0 : zsm (pmS k) M (zset 0 k 1 (nI (ksz A)) M) := zsm_set ⟨Or.inl rfl, rfl⟩
    have h1 : isPM (zset 0 k 1 (nI (ksz A)) M) j A := isPM_same hA h0 (fun q => hkj q.2.symm) (fun q => hkj q.2.symm)
    have h2 := acv_same hC h0 (fun q => absurd q.1 (by decide)) (fun q => absurd q.1 (by decide)) (fun q => absurd q.1 (by decide))
    have h3 := acv_same h2 h.1 (fun q => absurd q.1 (by decide)) (fun q => absurd q.1 (by decide)) (fun q => absurd q.1 (by decide))
    exact ⟨isPM_same h1 h.1 (fun q => absurd q.1 (by decide)) (fun q => hkj q.2.symm), h3, h3.1⟩
  refine go_AC_makeRetraction (fun Kz hKz => ?_)
  conv => whnf
  refine ⟨hk, ?_⟩
  rw [e0]
  refine s_PM_resize hk ?_
  conv => whnf
  refine hKz _ _ _ _ ?_
  refine wloop (k := k) (pos := fun a b => 8 * a + b) (val := fun a b => 8 * (pretr A).2.1 a b + (pretr A).2.2 a b) (n := ksz A) (O := fun x M' => M'.1 8 0 2 = nI (ksz A) → V 0 G mi_AC_makeRetraction Z 10 [(0, zr 8 0), (1, zr 0 k), (2, zr 0 j), (3, zi (nI x))] [] M') (I := fun x y M' => M'.1 8 0 2 = nI (ksz A) → V 0 G mi_AC_makeRetraction Z 21 [(0, zr 8 0), (1, zr 0 k), (2, zr 0 j), (3, zi (nI x)), (4, zi (nI y))] [] M') (fun x y hx hy => pos8_inj (by omega) hx hy) (fun M' h e => ?_) (fun x hx M' h e => ?_) (fun x hx M' h e => ?_) (fun x y hx hy M' h h9 e => ?_) (by rw [zset_ne (by omega)]; exact e0)
  · refine z_run (cuts := cu_AC_makeRetraction) ok_AC_makeRetraction (fun Kz hKz => ?_)
    conv => whnf
    rw [e, nI_leI (by omega) (by omega)]
    refine ⟨fun _ => ?_, fun q => absurd (Nat.le_refl _) q⟩
    conv => whnf
    have he := winv_end h
    exact hZ M' he.1 ⟨pretr_wf hA.1, he.2.1, he.2.2⟩
  · refine z_run (cuts := cu_AC_makeRetraction) ok_AC_makeRetraction (fun Kz hKz => ?_)
    conv => whnf
    rw [e, nI_leI (by omega) (by omega)]
    refine ⟨fun q => absurd q (by omega), fun _ => ?_⟩
    conv => whnf
    refine hKz _ _ _ _ ?_
    exact h e
  · refine z_run (cuts := cu_AC_makeRetraction) ok_AC_makeRetraction (fun Kz hKz => ?_)
    conv => whnf
    rw [e, nI_leI (by omega) (by omega)]
    refine ⟨fun _ => ?_, fun q => absurd (Nat.le_refl _) q⟩
    conv => whnf
    refine hKz _ _ _ _ ?_
    rw [nI_1']
    exact h e
  · have hp' := hp h
    have lx := lst_is hx
    have ly := lst_is hy
    have hLR := hA.1.2 _ _ lx.1 ly.1
    have c1 := clz_lt hLR.1
    have c2 := clz_lt hLR.2
    have s1 : M'.1 10 0 x = nI (lst A x) := by
      have := hp'.2.1.2.2 _ lx.1 lx.2.1
      rw [lx.2.2] at this
      exact this
    have s2 : M'.1 10 0 y = nI (lst A y) := by
      have := hp'.2.1.2.2 _ ly.1 ly.2.1
      rw [ly.2.2] at this
      exact this
    refine z_run (cuts := cu_AC_makeRetraction) ok_AC_makeRetraction (fun Kz hKz => ?_)
    conv => whnf
    rw [e, nI_leI (by omega) (by omega)]
    refine ⟨fun q => absurd q (by omega), fun _ => ?_⟩
    conv => whnf
    refine s_AC_smallestOf (by omega) ?_
    conv => whnf
    rw [s1]
    refine s_AC_smallestOf (by omega) ?_
    conv => whnf
    rw [s2]
    refine ⟨by first | assumption | decide, ?_⟩
    conv => whnf
    refine s_PM_left hj hp'.1 lx.1 ly.1 ?_
    conv => whnf
    refine s_AC_classOf (by omega) ?_
    conv => whnf
    rw [hp'.2.1.2.1 _ hLR.1]
    refine ⟨by first | assumption | decide, ?_⟩
    conv => whnf
    refine s_PM_right hj hp'.1 lx.1 ly.1 ?_
    conv => whnf
    refine s_AC_classOf (by omega) ?_
    conv => whnf
    rw [hp'.2.1.2.1 _ hLR.2]
    refine ⟨by first | assumption | decide, ?_⟩
    conv => whnf
    refine s_PM_setImage hk (by omega) (by omega) (by omega) (by omega) ?_
    conv => whnf
    refine hKz _ _ _ _ ?_
    rw [nI_1']
    exact h9 (by rw [zset_ne (by omega)]; exact e)
theorem s_AC_levelOf {k : Nat} {A : ZP} (hk : k < 6) (hA : isPM M k A) (h0 : 0 < A.1) (h1 : ∀ t, isLev A t → (rt A t).1 = 1 → ∀ M', zsm lvS M M' → Z (some (zi (nI t))) M') (h2 : ∀ t, isLev A t → ¬ (rt A t).1 = 1 → ∀ M', zsm lvS M M' → Z (some (zi (-1))) M') : Ctr 0 G mi_AC_levelOf [zr 8 0, zr 0 k] M Z := by
  have hn := hA.1.1
  have lp : ∀ d i, d = 6 - i → i ≤ 5 → (∀ j, j < i → ksz (rt A j) < (rt A j).1) → ∀ M', zsm lvS M M' → isPM M' 6 (rt A i) → V 0 G mi_AC_levelOf Z 10 [(0, zr 8 0), (2, zi (nI i))] [] M' := by
    intro d
    induction d with
    | zero => intro i hd hi; omega
    | succ d ih =>
      intro i hd hi hl M' hs hB
      have hless := rt_less i hl
      have hBn := hB.1.1
      have hpos := rt_pos h0 i
      have hkz := ksz_pos hpos
      have hkle := ksz_le (rt A i)
      refine z_run (cuts := cu_AC_levelOf) ok_AC_levelOf (fun Kz hKz => ?_)
      conv => whnf
      rw [nI_leI (by omega) (by omega)]
      refine ⟨fun q => absurd q (by omega), fun _ => ?_⟩
      conv => whnf
      refine ⟨by decide, ?_⟩
      refine s_PM_points (by decide) ?_
      conv => whnf
      rw [hB.2.1, n_ne (by omega) (by omega)]
      refine ⟨fun q => ?_, fun q => ?_⟩
      · conv => whnf
        refine s_AC_find (by decide) hB (fun M1 g1 g2 => ?_)
        have hB1 : isPM M1 6 (rt A i) := isPM_same hB g1 (fun q => absurd q.1 (by decide)) (fun q => absurd q.1 (by decide))
        have s1 : zsm lvS M M1 := zsm_trans hs (zsm_mono g1 fun a b q => Or.inl q)
        conv => whnf
        refine ⟨by decide, ?_⟩
        refine s_PM_points (by decide) ?_
        conv => whnf
        rw [g2.1, hB1.2.1]
        show _ ∧ _
        rw [n_ne (show cnt (isRep (rt A i)) (rt A i).1 < 2 ^ 31 from Nat.lt_of_le_of_lt hkle (by omega)) (by omega)]
        refine ⟨fun q2 => ?_, fun q2 => ?_⟩
        · have hlt : ksz (rt A i) < (rt A i).1 := Nat.lt_of_le_of_ne hkle q2
          conv => whnf
          refine s_AC_makeRetraction (by decide) (by decide) (by decide) hB1 g2 (fun M2 g3 g4 => ?_)
          conv => whnf
          refine ⟨by decide, ?_⟩
          refine s_PM_copy (by decide) (by decide) (by decide) (fun M3 g5 g6 g7 => ?_)
          conv => whnf
          refine hKz _ _ _ _ ?_
          rw [nI_1']
          refine ih (i + 1) (by omega) (by omega) (fun j hj => ?_) M3 (zsm_trans (zsm_trans s1 (zsm_mono g3 fun a b q => Or.inr (Or.inr q))) (zsm_mono g5 fun a b q => Or.inr (Or.inl q))) ⟨g4.1, ?_, fun x y hx hy => ?_⟩
          · rcases Nat.lt_succ_iff_lt_or_eq.mp hj with hj | rfl
            · exact hl j hj
            · exact hlt
          · rw [g6]; exact g4.2.1
          · have hx6 : x < 6 := Nat.lt_of_lt_of_le hx (Nat.le_trans hkle hBn)
            have hy6 : y < 6 := Nat.lt_of_lt_of_le hy (Nat.le_trans hkle hBn)
            rw [g7 _ (by omega)]
            exact g4.2.2 x y hx hy
        · have q2 := Classical.not_not.mp q2
          conv => whnf
          exact h2 i ⟨hl, q2⟩ q M1 s1
      · have q := Classical.not_not.mp q
        conv => whnf
        exact h1 i ⟨hl, by omega⟩ q M' hs
  refine go_AC_levelOf (fun Kz hKz => ?_)
  conv => whnf
  refine ⟨by decide, ?_⟩
  refine s_PM_copy (by decide) (by omega) (by omega) (fun M1 g1 g2 g3 => ?_)
  conv => whnf
  refine hKz _ _ _ _ ?_
  refine lp 6 0 rfl (by decide) (fun j hj => absurd hj (Nat.not_lt_zero _)) M1 (zsm_mono g1 fun a b q => Or.inr (Or.inl q)) ⟨hA.1, by rw [g2]; exact hA.2.1, fun x y hx hy => ?_⟩
  have hx6 : x < 6 := Nat.lt_of_lt_of_le hx hn
  have hy6 : y < 6 := Nat.lt_of_lt_of_le hy hn
  rw [g3 _ (by omega)]
  exact hA.2.2 x y hx hy
theorem cst_ac {M M' : ZM} (h : zsm acS M M') : cst M M' :=
  cst_of h (fun b hb => ⟨fun q => absurd q.1 (by decide), fun q => absurd q.1 (by decide)⟩) (fun b hb => ⟨fun q => absurd q.1 (by decide), fun q => absurd q.1 (by decide), fun q => absurd q.1 (by decide)⟩)
theorem csm_ac {M M' : ZM} (h : zsm acS M M') : csm M M' := csm_of h (fun a b q => by rcases q.1 with q | q | q <;> omega)
theorem c_retract {a to : Nat} {S : ZS} (ha : a < 2 ^ 32) (hto : to < 2 ^ 32) (hC : CS M S) (h1 : (plA S a).1 = 0 ∨ ¬ to < 4 → Z (some (zi (-1000001))) M) (h3 : ¬ (plA S a).1 = 0 → to < 4 → ∀ M', CS M' (upS S to (pretr (plA S a))) → csm M M' → Z (some (zi (nI (ksz (plA S a))))) M') : Ctr 0 G mi_T_retract [zr 5 0, zi (nI a), zi (nI to)] M Z := by
  have hA := CS_pl hC a
  have ka := plk_lt a
  refine go_T_retract (fun Kz hKz => ?_)
  conv => whnf
  refine s_T_mapAt ha ?_
  conv => whnf
  refine ⟨by show plk a < 10; omega, ?_⟩
  refine s_PM_isEmpty (by omega) hA (fun e1 => ?_) (fun e1 => ?_)
  · conv => whnf
    first | refine ⟨fun _ => ?_, fun q => absurd (by decide) q⟩ | refine ⟨fun q => absurd q (by decide), fun _ => ?_⟩
    conv => whnf
    exact h1 (Or.inl e1)
  · conv => whnf
    first | refine ⟨fun _ => ?_, fun q => absurd (by decide) q⟩ | refine ⟨fun q => absurd q (by decide), fun _ => ?_⟩
    conv => whnf
    refine s_T_isPlace hto (fun h => ?_) (fun h => ?_)
    · conv => whnf
      first | refine ⟨fun _ => ?_, fun q => absurd (by decide) q⟩ | refine ⟨fun q => absurd q (by decide), fun _ => ?_⟩
      conv => whnf
      refine s_AC_find (by omega) hA (fun M1 g1 g2 => ?_)
      have hA1 : isPM M1 (plk a) (plA S a) := isPM_same hA g1 (fun q => absurd q.1 (by decide)) (fun q => absurd q.1 (by decide))
      conv => whnf
      refine s_AC_makeRetraction (by decide) (by omega) (by omega) hA1 g2 (fun M2 g3 g4 => ?_)
      conv => whnf
      refine s_T_keepMade h (CS_cst (CS_cst hC (cst_ac g1)) (cst_pm (by decide) g3)) g4 (fun M' h6 h7 => ?_)
      conv => whnf
      exact h3 e1 h M' h6 (csm_trans (csm_trans (csm_ac g1) (csm_pm g3)) h7)
    · conv => whnf
      first | refine ⟨fun _ => ?_, fun q => absurd (by decide) q⟩ | refine ⟨fun q => absurd q (by decide), fun _ => ?_⟩
      conv => whnf
      exact h1 (Or.inr h)
theorem c_alike {a x : Nat} {S : ZS} (ha : a < 2 ^ 32) (hx : x < 2 ^ 32) (hC : CS M S) (h1 : ¬ x < (plA S a).1 → Z (some (zi (-1000001))) M) (h3 : x < (plA S a).1 → ∀ M', CS M' S → csm M M' → Z (some (zi (nI (clz (plA S a) x)))) M') : Ctr 0 G mi_T_alike [zr 5 0, zi (nI a), zi (nI x)] M Z := by
  have hA := CS_pl hC a
  have ka := plk_lt a
  have hn := hA.1.1
  refine go_T_alike (fun Kz hKz => ?_)
  conv => whnf
  refine s_T_mapAt ha ?_
  conv => whnf
  refine ⟨by show plk a < 10; omega, ?_⟩
  refine s_PM_hasPoint (by omega) hx hA (fun e1 => ?_) (fun e1 => ?_)
  · conv => whnf
    first | refine ⟨fun _ => ?_, fun q => absurd (by decide) q⟩ | refine ⟨fun q => absurd q (by decide), fun _ => ?_⟩
    conv => whnf
    refine s_AC_find (by omega) hA (fun M1 g1 g2 => ?_)
    conv => whnf
    refine s_AC_classOf (by omega) ?_
    conv => whnf
    rw [g2.2.1 x e1]
    exact h3 e1 M1 (CS_cst hC (cst_ac g1)) (csm_ac g1)
  · conv => whnf
    first | refine ⟨fun _ => ?_, fun q => absurd (by decide) q⟩ | refine ⟨fun q => absurd q (by decide), fun _ => ?_⟩
    conv => whnf
    exact h1 e1
end
end
section
/-! the groups -/
def isG (kind n : Nat) : Prop := (kind = 0 ∧ 1 ≤ n ∧ n ≤ 6) ∨ (kind = 1 ∧ n = 4) ∨ (kind = 2 ∧ n = 6)
def gp (kind n x y : Nat) : Nat := if kind = 0 then (x + y) % n else if kind = 1 then x ^^^ y else (if x < 3 then x % 3 + y % 3 else x % 3 + 3 - y % 3) % 3 + 3 * ((x / 3 + y / 3) % 2)
def gi (kind n x : Nat) : Nat := fnd (fun z => decide (gp kind n x z = 0)) n
theorem isG_dec {P : Nat → Nat → Prop} (h0 : ∀ n, n < 7 → 0 < n → P 0 n) (h1 : P 1 4) (h2 : P 2 6) : ∀ kind n, isG kind n → P kind n := by
  rintro kind n (⟨rfl, h, h'⟩ | ⟨rfl, rfl⟩ | ⟨rfl, rfl⟩)
  · exact h0 n (by omega) h
  · exact h1
  · exact h2
theorem isG_le {kind n : Nat} (h : isG kind n) : 0 < n ∧ n ≤ 6 := by
  rcases h with h | h | h <;> omega
theorem gp_lt : ∀ kind n, isG kind n → ∀ x, x < n → ∀ y, y < n → gp kind n x y < n := isG_dec (P := fun kind n => ∀ x, x < n → ∀ y, y < n → gp kind n x y < n) (by decide +kernel) (by decide +kernel) (by decide +kernel)
theorem gi_is : ∀ kind n, isG kind n → ∀ x, x < n → gi kind n x < n ∧ gp kind n x (gi kind n x) = 0 ∧ ∀ z, z < n → gp kind n x z = 0 → z = gi kind n x := isG_dec (P := fun kind n => ∀ x, x < n → gi kind n x < n ∧ gp kind n x (gi kind n x) = 0 ∧ ∀ z, z < n → gp kind n x z = 0 → z = gi kind n x) (by decide +kernel) (by decide +kernel) (by decide +kernel)
def pgrp (kind n : Nat) : ZP := (n, fun x y => gp kind n (gp kind n x y) (gi kind n x), fun x _ => x)
theorem pgrp_wf {kind n : Nat} (h : isG kind n) : pwf (pgrp kind n) := ⟨(isG_le h).2, fun x y hx hy => ⟨gp_lt _ _ h _ (gp_lt _ _ h x hx y hy) _ (gi_is _ _ h x hx).1, hx⟩⟩
theorem turn_sub : ∀ a, a < 3 → ∀ b, b < 3 → nI a - nI b + nI 3 = nI (a + 3 - b) := by decide +kernel
section
variable {G : ZG} {M : ZM} {Z : Option ZV → ZM → Prop}
theorem s_AL_isGroup {kind n : Nat} (hk : kind < 2 ^ 32) (hn : n < 2 ^ 32) (h1 : isG kind n → Z (some (zi (nI 1))) M) (h2 : ¬ isG kind n → Z (some (zi (nI 0))) M) : Ctr 0 G mi_AL_isGroup [zi (nI kind), zi (nI n)] M Z := by
  have h10 : (¬ (kind = 0 ∧ 1 ≤ n ∧ n ≤ 6) ∧ ¬ (kind = 1 ∧ n = 4) ∧ ¬ (kind = 2 ∧ n = 6)) → Z (some (zi (nI 0))) M := fun q => h2 (fun w => by
    rcases w with w | w | w
    · exact q.1 w
    · exact q.2.1 w
    · exact q.2.2 w)
  refine go_AL_isGroup (fun Kz hKz => ?_)
  conv => whnf
  refine ⟨fun (q : nI kind = nI 0) => ?_, fun (q : ¬ nI kind = nI 0) => ?_⟩
  · rw [n_eq hk (by decide)] at q
    conv => whnf
    rw [n_ltb hn (by decide)]
    refine ⟨fun w => ?_, fun w => ?_⟩
    · conv => whnf
      exact ⟨Or.inl rfl, h10 (by omega)⟩
    · conv => whnf
      rw [n_blt hn (by decide)]
      refine ⟨fun w2 => ?_, fun w2 => ?_⟩
      · conv => whnf
        exact ⟨Or.inl rfl, h10 (by omega)⟩
      · conv => whnf
        exact ⟨Or.inr rfl, h1 (Or.inl (by omega))⟩
  · rw [n_eq hk (by decide)] at q
    conv => whnf
    refine ⟨fun (q1 : nI kind = nI 1) => ?_, fun (q1 : ¬ nI kind = nI 1) => ?_⟩
    · rw [n_eq hk (by decide)] at q1
      conv => whnf
      rw [n_eq hn (by decide)]
      refine ⟨fun w => ?_, fun w => ?_⟩
      · conv => whnf
        exact ⟨Or.inl rfl, h10 (by omega)⟩
      · conv => whnf
        exact ⟨Or.inr rfl, h1 (Or.inr (Or.inl (by omega)))⟩
    · rw [n_eq hk (by decide)] at q1
      conv => whnf
      refine ⟨fun (q2 : nI kind = nI 2) => ?_, fun (q2 : ¬ nI kind = nI 2) => ?_⟩
      · rw [n_eq hk (by decide)] at q2
        conv => whnf
        rw [n_eq hn (by decide)]
        refine ⟨fun w => ?_, fun w => ?_⟩
        · conv => whnf
          exact ⟨Or.inl rfl, h10 (by omega)⟩
        · conv => whnf
          exact ⟨Or.inr rfl, h1 (Or.inr (Or.inr (by omega)))⟩
      · rw [n_eq hk (by decide)] at q2
        conv => whnf
        exact ⟨Or.inl rfl, h10 (by omega)⟩
theorem s_AL_product {kind n x y : Nat} (h : isG kind n) (hx : x < n) (hy : y < n) (hZ : Z (some (zi (nI (gp kind n x y)))) M) : Ctr 0 G mi_AL_product [zi (nI kind), zi (nI n), zi (nI x), zi (nI y)] M Z := by
  have hn := isG_le h
  refine go_AL_product (fun Kz hKz => ?_)
  conv => whnf
  rw [n_ne (by rcases h with h | h | h <;> omega) (by decide)]
  refine ⟨fun q => ?_, fun q => ?_⟩
  · conv => whnf
    rw [n_ne (by rcases h with h | h | h <;> omega) (by decide)]
    refine ⟨fun q2 => ?_, fun q2 => ?_⟩
    · have e : kind = 2 ∧ n = 6 := by rcases h with h | h | h <;> omega
      obtain ⟨rfl, rfl⟩ := e
      simp only [gp, if_neg q, if_neg q2] at hZ
      conv => whnf
      rw [nI_leI (by omega) (by omega)]
      refine ⟨fun q3 => ?_, fun q3 => ?_⟩
      · rw [if_neg (by omega)] at hZ
        conv => whnf
        refine ⟨by decide, ?_⟩
        conv => whnf
        refine ⟨by decide, ?_⟩
        conv => whnf
        refine ⟨by decide, ?_⟩
        conv => whnf
        refine ⟨by decide, ?_⟩
        conv => whnf
        refine ⟨by decide, ?_⟩
        conv => whnf
        refine ⟨by decide, ?_⟩
        conv => whnf
        rw [n_mod (by omega) (by decide) (by decide), n_mod (by omega) (by decide) (by decide), turn_sub _ (Nat.mod_lt _ (by decide)) _ (Nat.mod_lt _ (by decide)), n_mod (by omega) (by decide) (by decide), pk_div (by omega) (by decide) (by decide), pk_div (by omega) (by decide) (by decide), nI_add, n_mod (by omega) (by decide) (by decide), pk_mul, nI_add]
        exact hZ
      · rw [if_pos (by omega)] at hZ
        conv => whnf
        refine ⟨by decide, ?_⟩
        conv => whnf
        refine ⟨by decide, ?_⟩
        conv => whnf
        refine ⟨by decide, ?_⟩
        conv => whnf
        refine ⟨by decide, ?_⟩
        conv => whnf
        refine ⟨by decide, ?_⟩
        conv => whnf
        refine ⟨by decide, ?_⟩
        conv => whnf
        rw [n_mod (by omega) (by decide) (by decide), n_mod (by omega) (by decide) (by decide), nI_add, n_mod (by omega) (by decide) (by decide), pk_div (by omega) (by decide) (by decide), pk_div (by omega) (by decide) (by decide), nI_add, n_mod (by omega) (by decide) (by decide), pk_mul, nI_add]
        exact hZ
    · have e : kind = 1 := Classical.not_not.mp q2
      subst e
      simp only [gp, if_neg q, if_pos trivial] at hZ
      conv => whnf
      rw [n_xor]
      exact hZ
  · have e : kind = 0 := Classical.not_not.mp q
    subst e
    simp only [gp, if_pos trivial] at hZ
    conv => whnf
    rw [nI_add, nI_leI (by omega) (by omega)]
    refine ⟨fun q3 => ?_, fun q3 => ?_⟩
    · rw [Nat.mod_eq_sub_mod q3, Nat.mod_eq_of_lt (by omega)] at hZ
      conv => whnf
      rw [nI_add, pk_sub q3]
      exact hZ
    · rw [Nat.mod_eq_of_lt (by omega)] at hZ
      conv => whnf
      rw [nI_add]
      exact hZ
theorem s_AL_inverse {kind n x : Nat} (h : isG kind n) (hx : x < n) (hZ : Z (some (zi (nI (gi kind n x)))) M) : Ctr 0 G mi_AL_inverse [zi (nI kind), zi (nI n), zi (nI x)] M Z := by
  have hn := isG_le h
  have hg := gi_is _ _ h x hx
  have lp : ∀ z, z ≤ n → (∀ w, w < z → ¬ gp kind n x w = 0) → V 0 G mi_AL_inverse Z 2 [(0, zi (nI kind)), (1, zi (nI n)), (2, zi (nI x)), (3, zi (nI z))] [] M := by
    refine up_to (fun q => absurd hg.2.1 (q _ hg.1)) ?_
    intro z hz ih q
    have hl := gp_lt _ _ h x hx z hz
    refine z_run (cuts := cu_AL_inverse) ok_AL_inverse (fun Kz hKz => ?_)
    conv => whnf
    rw [nI_leI (by omega) (by omega)]
    refine ⟨fun q => absurd q (by omega), fun _ => ?_⟩
    conv => whnf
    refine s_AL_product h hx hz ?_
    conv => whnf
    rw [n_ne (by omega) (by decide)]
    refine ⟨fun q2 => ?_, fun q2 => ?_⟩
    · conv => whnf
      refine hKz _ _ _ _ ?_
      rw [nI_1']
      refine ih (fun w hw => ?_)
      rcases Nat.lt_succ_iff_lt_or_eq.mp hw with hw | rfl
      · exact q w hw
      · exact q2
    · conv => whnf
      rw [hg.2.2 z hz (Classical.not_not.mp q2)]
      exact hZ
  refine go_AL_inverse (fun Kz hKz => ?_)
  conv => whnf
  refine hKz _ _ _ _ ?_
  exact lp 0 (Nat.zero_le _) (fun w hw => absurd hw (Nat.not_lt_zero _))
theorem s_AL_makeGroupMap {k kind n : Nat} (hk : k < 10) (h : isG kind n) (hZ : ∀ M', zsm (pmS k) M M' → isPM M' k (pgrp kind n) → Z none M') : Ctr 0 G mi_AL_makeGroupMap [zr 0 k, zi (nI kind), zi (nI n)] M Z := by
  have hn := isG_le h
  refine go_AL_makeGroupMap (fun Kz hKz => ?_)
  conv => whnf
  refine ⟨by first | assumption | decide, ?_⟩
  conv => whnf
  refine s_PM_resize hk ?_
  conv => whnf
  refine hKz _ _ _ _ ?_
  refine wloop (k := k) (pos := fun a b => 8 * a + b) (val := fun a b => 8 * (pgrp kind n).2.1 a b + (pgrp kind n).2.2 a b) (n := n) (O := fun x M' => V 0 G mi_AL_makeGroupMap Z 7 [(0, zr 0 k), (1, zi (nI kind)), (2, zi (nI n)), (3, zi (nI x))] [] M') (I := fun x y M' => V 0 G mi_AL_makeGroupMap Z 23 [(0, zr 0 k), (1, zi (nI kind)), (2, zi (nI n)), (3, zi (nI x)), (4, zi (nI (gi kind n x))), (5, zi (nI y))] [] M') (fun x y hx hy => pos8_inj (by omega) hx hy) (fun M' h9 => ?_) (fun x hx M' h9 => ?_) (fun x hx M' h9 => ?_) (fun x y hx hy M' h8 h9 => ?_)
  · refine z_run (cuts := cu_AL_makeGroupMap) ok_AL_makeGroupMap (fun Kz hKz => ?_)
    conv => whnf
    rw [nI_leI (by omega) (by omega)]
    refine ⟨fun _ => ?_, fun q => absurd (Nat.le_refl _) q⟩
    conv => whnf
    have he := winv_end h9
    exact hZ M' he.1 ⟨pgrp_wf h, he.2.1, he.2.2⟩
  · refine z_run (cuts := cu_AL_makeGroupMap) ok_AL_makeGroupMap (fun Kz hKz => ?_)
    conv => whnf
    rw [nI_leI (by omega) (by omega)]
    refine ⟨fun q => absurd q (by omega), fun _ => ?_⟩
    conv => whnf
    refine s_AL_inverse h hx ?_
    conv => whnf
    refine hKz _ _ _ _ ?_
    exact h9
  · refine z_run (cuts := cu_AL_makeGroupMap) ok_AL_makeGroupMap (fun Kz hKz => ?_)
    conv => whnf
    rw [nI_leI (by omega) (by omega)]
    refine ⟨fun _ => ?_, fun q => absurd (Nat.le_refl _) q⟩
    conv => whnf
    refine hKz _ _ _ _ ?_
    rw [nI_1']
    exact h9
  · have g1 := gp_lt _ _ h x hx y hy
    have g2 := (gi_is _ _ h x hx).1
    have g3 := gp_lt _ _ h _ g1 _ g2
    refine z_run (cuts := cu_AL_makeGroupMap) ok_AL_makeGroupMap (fun Kz hKz => ?_)
    conv => whnf
    rw [nI_leI (by omega) (by omega)]
    refine ⟨fun q => absurd q (by omega), fun _ => ?_⟩
    conv => whnf
    refine s_AL_product h hx hy ?_
    conv => whnf
    refine s_AL_product h g1 g2 ?_
    conv => whnf
    refine ⟨by first | assumption | decide, ?_⟩
    conv => whnf
    refine s_PM_setImage hk (by omega) (by omega) (by omega) (by omega) ?_
    conv => whnf
    refine hKz _ _ _ _ ?_
    rw [nI_1']
    exact h9
theorem c_group {to kind n : Nat} {S : ZS} (hto : to < 2 ^ 32) (hk : kind < 2 ^ 32) (hn : n < 2 ^ 32) (hC : CS M S) (h1 : ¬ to < 4 → Z (some (zi (-1000001))) M) (h2 : to < 4 → ¬ isG kind n → Z (some (zi (-1000002))) M) (h3 : to < 4 → isG kind n → ∀ M', CS M' (upS S to (pgrp kind n)) → csm M M' → Z (some (zi (nI n))) M') : Ctr 0 G mi_T_group [zr 5 0, zi (nI to), zi (nI kind), zi (nI n)] M Z := by
  refine go_T_group (fun Kz hKz => ?_)
  conv => whnf
  refine s_T_isPlace hto (fun h => ?_) (fun h => ?_)
  · conv => whnf
    first | refine ⟨fun _ => ?_, fun q => absurd (by decide) q⟩ | refine ⟨fun q => absurd q (by decide), fun _ => ?_⟩
    conv => whnf
    refine s_AL_isGroup hk hn (fun h4 => ?_) (fun h4 => ?_)
    · conv => whnf
      first | refine ⟨fun _ => ?_, fun q => absurd (by decide) q⟩ | refine ⟨fun q => absurd q (by decide), fun _ => ?_⟩
      conv => whnf
      refine s_AL_makeGroupMap (by decide) h4 (fun M1 g1 g2 => ?_)
      conv => whnf
      refine s_T_keepMade h (CS_cst hC (cst_pm (by decide) g1)) g2 (fun M' h6 h7 => ?_)
      conv => whnf
      exact h3 h h4 M' h6 (csm_trans (csm_pm g1) h7)
    · conv => whnf
      first | refine ⟨fun _ => ?_, fun q => absurd (by decide) q⟩ | refine ⟨fun q => absurd q (by decide), fun _ => ?_⟩
      conv => whnf
      exact h2 h h4
  · conv => whnf
    first | refine ⟨fun _ => ?_, fun q => absurd (by decide) q⟩ | refine ⟨fun q => absurd q (by decide), fun _ => ?_⟩
    conv => whnf
    exact h1 h
end
end
section
/-! units and braces -/
def un (n m : Nat) : Bool := decide (0 < m ∧ m < n ∧ ∀ d, d < n → 2 ≤ d → ¬ (n % d = 0 ∧ m % d = 0))
theorem un_iff {n m : Nat} : un n m = true ↔ (0 < m ∧ m < n ∧ ∀ d, d < n → 2 ≤ d → ¬ (n % d = 0 ∧ m % d = 0)) := decide_eq_true_iff
def areU (n u : Nat) : Prop := u < 8 ^ n ∧ ∀ a, a < n → un n (dg u a) = true
def bra (n u : Nat) : Prop := ∀ a b, a < n → b < n → dg u ((a + dg u a * b) % n) = dg u a * dg u b % n
def qt (n a m : Nat) : Nat := fnd (fun c => decide (m * c % n = a)) n
def qtb (n m a : Nat) : Bool := decide (qt n a m < n ∧ m * qt n a m % n = a ∧ ∀ c, c < n → m * c % n = a → c = qt n a m)
theorem qt_is0 : ∀ n, n < 7 → ∀ m, m < n → ∀ a, a < n → (2 ≤ n ∧ un n m = true) → qtb n m a = true := by decide +kernel
theorem qt_is (n : Nat) (h : n < 7) (h2 : 2 ≤ n) (m : Nat) (hm : m < n) (hu : un n m = true) (a : Nat) (ha : a < n) : qt n a m < n ∧ m * qt n a m % n = a ∧ ∀ c, c < n → m * c % n = a → c = qt n a m := of_decide_eq_true (qt_is0 n h m hm a ha ⟨h2, hu⟩)
def pbra (n u : Nat) : ZP := (n, fun a b => dg u a * b % n, fun a b => qt n a (dg u (dg u a * b % n)))
theorem dg_lt (u a : Nat) : dg u a < 8 := Nat.mod_lt _ (by decide)
theorem pbra_wf {n u : Nat} (h2 : 2 ≤ n) (h6 : n ≤ 6) (h : areU n u) : pwf (pbra n u) := by
  refine ⟨h6, fun a b ha hb => ?_⟩
  have hl : dg u a * b % n < n := Nat.mod_lt _ (by omega)
  have hu := h.2 _ hl
  exact ⟨hl, (qt_is n (by omega) h2 _ (un_iff.mp hu).2.1 hu a ha).1⟩
section
variable {G : ZG} {M : ZM} {Z : Option ZV → ZM → Prop}
theorem s_AL_isUnit {n m : Nat} (h2 : 2 ≤ n) (h6 : n ≤ 6) (hm : m < 8) (hZ : Z (some (zi (b2i (un n m)))) M) : Ctr 0 G mi_AL_isUnit [zi (nI n), zi (nI m)] M Z := by
  have lp : ∀ d, d ≤ n → 2 ≤ d → (∀ e, e < d → 2 ≤ e → ¬ (n % e = 0 ∧ m % e = 0)) → V 0 G mi_AL_isUnit Z 2 [(0, zi (nI n)), (1, zi (nI m)), (2, zi (nI d))] [] M := by
    refine up_to ?_ ?_
    · intro _ q
      have e1 : ¬ (0 < m ∧ m < n) → un n m = false := fun w => decide_eq_false (fun z => w ⟨z.1, z.2.1⟩)
      have e2 : 0 < m → m < n → un n m = true := fun w w2 => decide_eq_true ⟨w, w2, q⟩
      refine z_run (cuts := cu_AL_isUnit) ok_AL_isUnit (fun Kz hKz => ?_)
      conv => whnf
      rw [nI_leI (by omega) (by omega)]
      refine ⟨fun _ => ?_, fun q => absurd (Nat.le_refl _) q⟩
      conv => whnf
      rw [nI_leI (by omega) (by omega)]
      refine ⟨fun w => ?_, fun w => ?_⟩
      · rw [e1 (by omega)] at hZ
        conv => whnf
        exact ⟨Or.inl rfl, hZ⟩
      · conv => whnf
        rw [nI_leI (by omega) (by omega)]
        refine ⟨fun w2 => ?_, fun w2 => ?_⟩
        · rw [e1 (by omega)] at hZ
          conv => whnf
          exact ⟨Or.inl rfl, hZ⟩
        · rw [e2 (by omega) (by omega)] at hZ
          conv => whnf
          exact ⟨Or.inr rfl, hZ⟩
    · intro d hd ih hd2 q
      have nx : ¬ (n % d = 0 ∧ m % d = 0) → V 0 G mi_AL_isUnit Z 2 [(0, zi (nI n)), (1, zi (nI m)), (2, zi (nI (d + 1)))] [] M := by
        intro w
        refine ih (by omega) (fun e he h2 => ?_)
        rcases Nat.lt_succ_iff_lt_or_eq.mp he with he | rfl
        · exact q e he h2
        · exact w
      have dm : n % d < d := Nat.mod_lt _ (by omega)
      have dm2 : m % d < d := Nat.mod_lt _ (by omega)
      refine z_run (cuts := cu_AL_isUnit) ok_AL_isUnit (fun Kz hKz => ?_)
      conv => whnf
      rw [nI_leI (by omega) (by omega)]
      refine ⟨fun q => absurd q (by omega), fun _ => ?_⟩
      conv => whnf
      refine ⟨fun w => absurd ((nI_eq (by omega) (by decide)).mp w) (by omega), ?_⟩
      conv => whnf
      rw [n_mod (by omega) (by omega) (by omega), n_ne (by omega) (by decide)]
      refine ⟨fun w => ?_, fun w => ?_⟩
      · conv => whnf
        refine hKz _ _ _ _ ?_
        rw [nI_1']
        exact nx (fun z => w z.1)
      · conv => whnf
        refine ⟨fun w => absurd ((nI_eq (by omega) (by decide)).mp w) (by omega), ?_⟩
        conv => whnf
        rw [n_mod (by omega) (by omega) (by omega), n_ne (by omega) (by decide)]
        refine ⟨fun w2 => ?_, fun w2 => ?_⟩
        · conv => whnf
          refine hKz _ _ _ _ ?_
          rw [nI_1']
          exact nx (fun z => w2 z.2)
        · have e1 : un n m = false := decide_eq_false (fun z => z.2.2 d hd hd2 ⟨Classical.not_not.mp w, Classical.not_not.mp w2⟩)
          rw [e1] at hZ
          conv => whnf
          exact ⟨Or.inl rfl, hZ⟩
  refine go_AL_isUnit (fun Kz hKz => ?_)
  conv => whnf
  refine hKz _ _ _ _ ?_
  exact lp 2 h2 (Nat.le_refl _) (fun e he h => absurd he (by omega))
theorem s_AL_areUnits {n u : Nat} (h2 : 2 ≤ n) (h6 : n ≤ 6) (hu : u < 2 ^ 32) (h1 : areU n u → Z (some (zi (nI 1))) M) (h0 : ¬ areU n u → Z (some (zi (nI 0))) M) : Ctr 0 G mi_AL_areUnits [zi (nI n), zi (nI u)] M Z := by
  have lp : ∀ a, a ≤ n → (∀ b, b < a → un n (dg u b) = true) → V 0 G mi_AL_areUnits Z 2 [(0, zi (nI n)), (1, zi (nI u)), (2, zi (nI a))] [] M := by
    refine up_to ?_ ?_
    · intro q
      refine z_run (cuts := cu_AL_areUnits) ok_AL_areUnits (fun Kz hKz => ?_)
      conv => whnf
      rw [nI_leI (by omega) (by omega)]
      refine ⟨fun _ => ?_, fun q => absurd (Nat.le_refl _) q⟩
      conv => whnf
      refine s_CO_isCode hu h6 h6 (fun w => ?_) (fun w => ?_)
      · conv => whnf
        exact ⟨Or.inr rfl, h1 ⟨w.1, q⟩⟩
      · conv => whnf
        exact ⟨Or.inl rfl, h0 (fun z => w ⟨z.1, fun i hi => (un_iff.mp (z.2 i hi)).2.1⟩)⟩
    · intro a ha ih q
      refine z_run (cuts := cu_AL_areUnits) ok_AL_areUnits (fun Kz hKz => ?_)
      conv => whnf
      rw [nI_leI (by omega) (by omega)]
      refine ⟨fun q => absurd q (by omega), fun _ => ?_⟩
      conv => whnf
      refine s_CO_digit hu (by omega) ?_
      conv => whnf
      refine s_AL_isUnit h2 h6 (dg_lt u a) ?_
      cases hb : un n (u / 8 ^ a % 8) with
      | true =>
        conv => whnf
        first | refine ⟨fun _ => ?_, fun q => absurd (by decide) q⟩ | refine ⟨fun q => absurd q (by decide), fun _ => ?_⟩
        conv => whnf
        refine hKz _ _ _ _ ?_
        rw [nI_1']
        refine ih (fun b hb2 => ?_)
        rcases Nat.lt_succ_iff_lt_or_eq.mp hb2 with hb2 | rfl
        · exact q b hb2
        · exact hb
      | false =>
        conv => whnf
        first | refine ⟨fun _ => ?_, fun q => absurd (by decide) q⟩ | refine ⟨fun q => absurd q (by decide), fun _ => ?_⟩
        conv => whnf
        exact ⟨Or.inl rfl, h0 (fun z => by have := (z.2 a ha).symm.trans hb; cases this)⟩
  refine go_AL_areUnits (fun Kz hKz => ?_)
  conv => whnf
  refine hKz _ _ _ _ ?_
  exact lp 0 (Nat.zero_le _) (fun b hb => absurd hb (Nat.not_lt_zero _))
theorem s_AL_rest {n m : Nat} (h2 : 2 ≤ n) (h6 : n ≤ 6) (hm : m < 2 ^ 31) (hZ : Z (some (zi (nI (m % n)))) M) : Ctr 0 G mi_AL_rest [zi (nI m), zi (nI n)] M Z := by
  refine go_AL_rest (fun Kz hKz => ?_)
  conv => whnf
  rw [nI_leI (by omega) (by omega)]
  refine ⟨fun q => absurd q (by omega), fun _ => ?_⟩
  conv => whnf
  refine ⟨fun w => absurd ((nI_eq (by omega) (by decide)).mp w) (by omega), ?_⟩
  conv => whnf
  rw [n_mod (by omega) (by omega) (by omega)]
  exact hZ
theorem s_AL_isBrace {n u : Nat} (h2 : 2 ≤ n) (h6 : n ≤ 6) (hu : u < 2 ^ 32) (h1 : bra n u → Z (some (zi (nI 1))) M) (h0 : ¬ bra n u → Z (some (zi (nI 0))) M) : Ctr 0 G mi_AL_isBrace [zi (nI n), zi (nI u)] M Z := by
  have hml : ∀ a b, dg u a * b ≤ 8 * b := fun a b => Nat.mul_le_mul_right _ (Nat.le_of_lt (dg_lt u a))
  refine go_AL_isBrace (fun Kz hKz => ?_)
  conv => whnf
  refine hKz _ _ _ _ ?_
  refine rloop (n := n) (m := n) (O := fun x => (∀ a b, a < n → b < n → a < x → dg u ((a + dg u a * b) % n) = dg u a * dg u b % n) → V 0 G mi_AL_isBrace Z 2 [(0, zi (nI n)), (1, zi (nI u)), (2, zi (nI x))] [] M) (I := fun x y => (∀ a b, a < n → b < n → (a < x ∨ (a = x ∧ b < y)) → dg u ((a + dg u a * b) % n) = dg u a * dg u b % n) → V 0 G mi_AL_isBrace Z 9 [(0, zi (nI n)), (1, zi (nI u)), (2, zi (nI x)), (3, zi (nI y))] [] M) (fun q => ?_) (fun x hx h q => ?_) (fun x hx h q => ?_) (fun x y hx hy h q => ?_) (fun a b _ _ q => absurd q (Nat.not_lt_zero _))
  · refine z_run (cuts := cu_AL_isBrace) ok_AL_isBrace (fun Kz hKz => ?_)
    conv => whnf
    rw [nI_leI (by omega) (by omega)]
    refine ⟨fun _ => ?_, fun q => absurd (Nat.le_refl _) q⟩
    conv => whnf
    exact ⟨Or.inr rfl, h1 (fun a b ha hb => q a b ha hb ha)⟩
  · refine z_run (cuts := cu_AL_isBrace) ok_AL_isBrace (fun Kz hKz => ?_)
    conv => whnf
    rw [nI_leI (by omega) (by omega)]
    refine ⟨fun q => absurd q (by omega), fun _ => ?_⟩
    conv => whnf
    refine hKz _ _ _ _ ?_
    exact h (fun a b ha hb q2 => q a b ha hb (by omega))
  · refine z_run (cuts := cu_AL_isBrace) ok_AL_isBrace (fun Kz hKz => ?_)
    conv => whnf
    rw [nI_leI (by omega) (by omega)]
    refine ⟨fun _ => ?_, fun q => absurd (Nat.le_refl _) q⟩
    conv => whnf
    refine hKz _ _ _ _ ?_
    rw [nI_1']
    exact h (fun a b ha hb q2 => q a b ha hb (by omega))
  · have m1 := hml x y
    have d1 := dg_lt u y
    have m2 := hml x (dg u y)
    have r1 : (x + dg u x * y) % n < n := Nat.mod_lt _ (by omega)
    have r2 : dg u x * dg u y % n < n := Nat.mod_lt _ (by omega)
    have d2 := dg_lt u ((x + dg u x * y) % n)
    refine z_run (cuts := cu_AL_isBrace) ok_AL_isBrace (fun Kz hKz => ?_)
    conv => whnf
    rw [nI_leI (by omega) (by omega)]
    refine ⟨fun q => absurd q (by omega), fun _ => ?_⟩
    conv => whnf
    refine s_CO_digit hu (by omega) ?_
    conv => whnf
    rw [pk_mul, nI_add]
    refine s_AL_rest h2 h6 (show x + dg u x * y < 2 ^ 31 by omega) ?_
    conv => whnf
    refine s_CO_digit hu (show (x + dg u x * y) % n ≤ 9 by omega) ?_
    conv => whnf
    refine s_CO_digit hu (by omega) ?_
    conv => whnf
    refine s_CO_digit hu (by omega) ?_
    conv => whnf
    rw [pk_mul]
    refine s_AL_rest h2 h6 (show dg u x * dg u y < 2 ^ 31 by omega) ?_
    conv => whnf
    show (nI (dg u ((x + dg u x * y) % n)) = nI (dg u x * dg u y % n) → _) ∧ _
    rw [nI_eq (by omega) (by omega)]
    refine ⟨fun z => ?_, fun z => ?_⟩
    · conv => whnf
      refine hKz _ _ _ _ ?_
      rw [nI_1']
      refine h (fun a b ha hb q2 => ?_)
      by_cases hab : a = x ∧ b = y
      · rw [hab.1, hab.2]; exact z
      · exact q a b ha hb (by omega)
    · conv => whnf
      exact ⟨Or.inl rfl, h0 (fun w => z (congrArg nI (w x y hx hy)))⟩
theorem s_AL_quotient {n a m : Nat} (h2 : 2 ≤ n) (h6 : n ≤ 6) (hm : m < 8) (ha : a < n) (hu : un n m = true) (hZ : Z (some (zi (nI (qt n a m)))) M) : Ctr 0 G mi_AL_quotient [zi (nI n), zi (nI a), zi (nI m)] M Z := by
  have hq := qt_is n (by omega) h2 m (un_iff.mp hu).2.1 hu a ha
  have lp : ∀ c, c ≤ n → (∀ w, w < c → ¬ m * w % n = a) → V 0 G mi_AL_quotient Z 2 [(0, zi (nI n)), (1, zi (nI a)), (2, zi (nI m)), (3, zi (nI c))] [] M := by
    refine up_to (fun q => absurd hq.2.1 (q _ hq.1)) ?_
    intro c hc ih q
    have hml : m * c ≤ 8 * c := Nat.mul_le_mul_right _ (Nat.le_of_lt hm)
    have hr : m * c % n < n := Nat.mod_lt _ (by omega)
    refine z_run (cuts := cu_AL_quotient) ok_AL_quotient (fun Kz hKz => ?_)
    conv => whnf
    rw [nI_leI (by omega) (by omega)]
    refine ⟨fun q => absurd q (by omega), fun _ => ?_⟩
    conv => whnf
    rw [pk_mul]
    refine s_AL_rest h2 h6 (by omega) ?_
    conv => whnf
    rw [n_ne (by omega) (by omega)]
    refine ⟨fun q2 => ?_, fun q2 => ?_⟩
    · conv => whnf
      refine hKz _ _ _ _ ?_
      rw [nI_1']
      refine ih (fun w hw => ?_)
      rcases Nat.lt_succ_iff_lt_or_eq.mp hw with hw | rfl
      · exact q w hw
      · exact q2
    · conv => whnf
      rw [hq.2.2 c hc (Classical.not_not.mp q2)]
      exact hZ
  refine go_AL_quotient (fun Kz hKz => ?_)
  conv => whnf
  refine hKz _ _ _ _ ?_
  exact lp 0 (Nat.zero_le _) (fun w hw => absurd hw (Nat.not_lt_zero _))
theorem s_AL_makeBraceMap {k n u : Nat} (hk : k < 10) (h2 : 2 ≤ n) (h6 : n ≤ 6) (hu : u < 2 ^ 32) (h : areU n u) (hZ : ∀ M', zsm (pmS k) M M' → isPM M' k (pbra n u) → Z none M') : Ctr 0 G mi_AL_makeBraceMap [zr 0 k, zi (nI n), zi (nI u)] M Z := by
  have hml : ∀ a b, dg u a * b ≤ 8 * b := fun a b => Nat.mul_le_mul_right _ (Nat.le_of_lt (dg_lt u a))
  refine go_AL_makeBraceMap (fun Kz hKz => ?_)
  conv => whnf
  refine ⟨by first | assumption | decide, ?_⟩
  conv => whnf
  refine s_PM_resize hk ?_
  conv => whnf
  refine hKz _ _ _ _ ?_
  refine wloop (k := k) (pos := fun a b => 8 * a + b) (val := fun a b => 8 * (pbra n u).2.1 a b + (pbra n u).2.2 a b) (n := n) (O := fun x M' => V 0 G mi_AL_makeBraceMap Z 7 [(0, zr 0 k), (1, zi (nI n)), (2, zi (nI u)), (3, zi (nI x))] [] M') (I := fun x y M' => V 0 G mi_AL_makeBraceMap Z 15 [(0, zr 0 k), (1, zi (nI n)), (2, zi (nI u)), (3, zi (nI x)), (4, zi (nI y))] [] M') (fun x y hx hy => pos8_inj (by omega) hx hy) (fun M' h9 => ?_) (fun x hx M' h9 => ?_) (fun x hx M' h9 => ?_) (fun x y hx hy M' h8 h9 => ?_)
  · refine z_run (cuts := cu_AL_makeBraceMap) ok_AL_makeBraceMap (fun Kz hKz => ?_)
    conv => whnf
    rw [nI_leI (by omega) (by omega)]
    refine ⟨fun _ => ?_, fun q => absurd (Nat.le_refl _) q⟩
    conv => whnf
    have he := winv_end h9
    exact hZ M' he.1 ⟨pbra_wf h2 h6 h, he.2.1, he.2.2⟩
  · refine z_run (cuts := cu_AL_makeBraceMap) ok_AL_makeBraceMap (fun Kz hKz => ?_)
    conv => whnf
    rw [nI_leI (by omega) (by omega)]
    refine ⟨fun q => absurd q (by omega), fun _ => ?_⟩
    conv => whnf
    refine hKz _ _ _ _ ?_
    exact h9
  · refine z_run (cuts := cu_AL_makeBraceMap) ok_AL_makeBraceMap (fun Kz hKz => ?_)
    conv => whnf
    rw [nI_leI (by omega) (by omega)]
    refine ⟨fun _ => ?_, fun q => absurd (Nat.le_refl _) q⟩
    conv => whnf
    refine hKz _ _ _ _ ?_
    rw [nI_1']
    exact h9
  · have m1 := hml x y
    have hl : dg u x * y % n < n := Nat.mod_lt _ (by omega)
    have hul := h.2 _ hl
    have hq := qt_is n (by omega) h2 _ (un_iff.mp hul).2.1 hul x hx
    refine z_run (cuts := cu_AL_makeBraceMap) ok_AL_makeBraceMap (fun Kz hKz => ?_)
    conv => whnf
    rw [nI_leI (by omega) (by omega)]
    refine ⟨fun q => absurd q (by omega), fun _ => ?_⟩
    conv => whnf
    refine s_CO_digit hu (by omega) ?_
    conv => whnf
    rw [pk_mul]
    refine s_AL_rest h2 h6 (show dg u x * y < 2 ^ 31 by omega) ?_
    conv => whnf
    refine s_CO_digit hu (show dg u x * y % n ≤ 9 by omega) ?_
    conv => whnf
    refine s_AL_quotient h2 h6 (dg_lt u (dg u x * y % n)) hx hul ?_
    conv => whnf
    refine ⟨by first | assumption | decide, ?_⟩
    conv => whnf
    refine s_PM_setImage (l := dg u x * y % n) (r := qt n x (dg u (dg u x * y % n))) hk (by omega) (by omega) (by omega) (by omega) ?_
    conv => whnf
    refine hKz _ _ _ _ ?_
    rw [nI_1']
    exact h9
theorem c_brace {to n u : Nat} {S : ZS} (hto : to < 2 ^ 32) (hn : n < 2 ^ 32) (hu : u < 2 ^ 32) (hC : CS M S) (h1 : ¬ to < 4 → Z (some (zi (-1000001))) M) (h2 : to < 4 → ¬ (2 ≤ n ∧ n ≤ 6 ∧ areU n u) → Z (some (zi (-1000002))) M) (h3 : to < 4 → 2 ≤ n → n ≤ 6 → areU n u → ¬ bra n u → Z (some (zi (-1000003))) M) (h4 : to < 4 → 2 ≤ n → n ≤ 6 → areU n u → bra n u → ∀ M', CS M' (upS S to (pbra n u)) → csm M M' → Z (some (zi (nI n))) M') : Ctr 0 G mi_T_brace [zr 5 0, zi (nI to), zi (nI n), zi (nI u)] M Z := by
  refine go_T_brace (fun Kz hKz => ?_)
  conv => whnf
  refine s_T_isPlace hto (fun h => ?_) (fun h => ?_)
  · conv => whnf
    first | refine ⟨fun _ => ?_, fun q => absurd (by decide) q⟩ | refine ⟨fun q => absurd q (by decide), fun _ => ?_⟩
    conv => whnf
    refine s_T_isWithin hn (by decide) (by decide) (fun w w2 => ?_) (fun w => ?_)
    · conv => whnf
      first | refine ⟨fun _ => ?_, fun q => absurd (by decide) q⟩ | refine ⟨fun q => absurd q (by decide), fun _ => ?_⟩
      conv => whnf
      refine s_AL_areUnits w w2 hu (fun g => ?_) (fun g => ?_)
      · conv => whnf
        first | refine ⟨fun _ => ?_, fun q => absurd (by decide) q⟩ | refine ⟨fun q => absurd q (by decide), fun _ => ?_⟩
        conv => whnf
        refine s_AL_isBrace w w2 hu (fun g2 => ?_) (fun g2 => ?_)
        · conv => whnf
          first | refine ⟨fun _ => ?_, fun q => absurd (by decide) q⟩ | refine ⟨fun q => absurd q (by decide), fun _ => ?_⟩
          conv => whnf
          refine s_AL_makeBraceMap (by decide) w w2 hu g (fun M1 g3 g4 => ?_)
          conv => whnf
          refine s_T_keepMade h (CS_cst hC (cst_pm (by decide) g3)) g4 (fun M' h6 h7 => ?_)
          conv => whnf
          exact h4 h w w2 g g2 M' h6 (csm_trans (csm_pm g3) h7)
        · conv => whnf
          first | refine ⟨fun _ => ?_, fun q => absurd (by decide) q⟩ | refine ⟨fun q => absurd q (by decide), fun _ => ?_⟩
          conv => whnf
          exact h3 h w w2 g g2
      · conv => whnf
        first | refine ⟨fun _ => ?_, fun q => absurd (by decide) q⟩ | refine ⟨fun q => absurd q (by decide), fun _ => ?_⟩
        conv => whnf
        exact h2 h (fun q => g q.2.2)
    · conv => whnf
      first | refine ⟨fun _ => ?_, fun q => absurd (by decide) q⟩ | refine ⟨fun q => absurd q (by decide), fun _ => ?_⟩
      conv => whnf
      exact h2 h (fun q => w ⟨q.1, q.2.1⟩)
  · conv => whnf
    first | refine ⟨fun _ => ?_, fun q => absurd (by decide) q⟩ | refine ⟨fun q => absurd q (by decide), fun _ => ?_⟩
    conv => whnf
    exact h1 h
end
end
section
/-! the codes of units, in their order -/
def unl (n : Nat) : List Nat := (List.range n).filter (un n)
def uc (n : Nat) : Nat → Nat → Nat
  | 0, _ => 0
  | k + 1, j => (unl n).getD (j % (unl n).length) 0 + 8 * uc n k (j / (unl n).length)
theorem unl_is : ∀ n, n < 7 → 2 ≤ n → 0 < (unl n).length ∧ (unl n).length = cnt (un n) n ∧ (∀ i, i < (unl n).length → un n ((unl n).getD i 0) = true) ∧ (∀ i, i < (unl n).length → ∀ j, j < i → (unl n).getD j 0 < (unl n).getD i 0) ∧ ∀ m, m < n → un n m = true → ∃ i, i < (unl n).length ∧ (unl n).getD i 0 = m := by
  have h : ∀ n, n < 7 → ∀ (_ : 2 ≤ n), (0 < (unl n).length ∧ (unl n).length = cnt (un n) n ∧ (∀ i, i < (unl n).length → un n ((unl n).getD i 0) = true) ∧ (∀ i, i < (unl n).length → ∀ j, j < i → (unl n).getD j 0 < (unl n).getD i 0)) := by decide +kernel
  have h2 : ∀ n, n < 7 → ∀ m, m < n → un n m = true → decide (fnd (fun i => decide ((unl n).getD i 0 = m)) (unl n).length < (unl n).length) = true := by decide +kernel
  intro n hn hn2
  obtain ⟨a, b, c, d⟩ := h n hn hn2
  refine ⟨a, b, c, d, fun m hm hu => ?_⟩
  have q := of_decide_eq_true (h2 n hn m hm hu)
  exact ⟨_, q, of_decide_eq_true (fnd_is (fun i => decide ((unl n).getD i 0 = m)) _ q)⟩
theorem uc_lt {n : Nat} (h6 : n < 7) (h2 : 2 ≤ n) : ∀ k j, uc n k j < 8 ^ k := by
  have h := unl_is n h6 h2
  intro k
  induction k with
  | zero => intro j; exact Nat.one_pos
  | succ k ih =>
    intro j
    have h3 := ih (j / (unl n).length)
    have h4 := (un_iff.mp (h.2.2.1 _ (Nat.mod_lt j h.1))).2.1
    rw [uc, Nat.pow_succ]
    omega
theorem uc_mono {n : Nat} (h6 : n < 7) (h2 : 2 ≤ n) : ∀ k i j, i < j → j < (unl n).length ^ k → uc n k i < uc n k j := by
  have h := unl_is n h6 h2
  intro k
  induction k with
  | zero => intro i j h3 h4; rw [Nat.pow_zero] at h4; omega
  | succ k ih =>
    intro i j h3 h4
    have a1 := (un_iff.mp (h.2.2.1 _ (Nat.mod_lt i h.1))).2.1
    have a2 := (un_iff.mp (h.2.2.1 _ (Nat.mod_lt j h.1))).2.1
    rw [uc, uc]
    rcases Nat.lt_or_ge (i / (unl n).length) (j / (unl n).length) with q | q
    · have := ih _ _ q (Nat.div_lt_of_lt_mul (by rw [Nat.mul_comm]; exact h4))
      omega
    · have e : i / (unl n).length = j / (unl n).length := Nat.le_antisymm (Nat.div_le_div_right (Nat.le_of_lt h3)) q
      have e1 := Nat.div_add_mod i (unl n).length
      have e2 := Nat.div_add_mod j (unl n).length
      rw [e] at e1 ⊢
      have := h.2.2.2.1 _ (Nat.mod_lt j h.1) (i % (unl n).length) (by omega)
      omega
theorem uc_surj {n : Nat} (h6 : n < 7) (h2 : 2 ≤ n) : ∀ k v, v < 8 ^ k → (∀ a, a < k → un n (dg v a) = true) → ∃ j, j < (unl n).length ^ k ∧ uc n k j = v := by
  have h := unl_is n h6 h2
  intro k
  induction k with
  | zero => intro v hv _; rw [Nat.pow_zero] at hv; exact ⟨0, Nat.one_pos, by rw [uc]; omega⟩
  | succ k ih =>
    intro v hv hd
    obtain ⟨j, h3, h4⟩ := ih (v / 8) (by rw [Nat.pow_succ] at hv; omega) (fun a ha => by
      have := hd (a + 1) (by omega)
      unfold dg at this ⊢
      rw [Nat.div_div_eq_div_mul, Nat.mul_comm, ← Nat.pow_succ]
      exact this)
    have h0 := hd 0 (by omega)
    unfold dg at h0
    rw [Nat.pow_zero, Nat.div_one] at h0
    obtain ⟨i, h5, h7⟩ := h.2.2.2.2 _ (un_iff.mp h0).2.1 h0
    refine ⟨(unl n).length * j + i, ?_, ?_⟩
    · have : (unl n).length * (j + 1) ≤ (unl n).length * (unl n).length ^ k := Nat.mul_le_mul_left _ h3
      rw [Nat.pow_succ, Nat.mul_comm ((unl n).length ^ k)]
      rw [Nat.mul_add] at this
      omega
    · rw [uc, (dvm h5).1, (dvm h5).2, h4, h7]
      omega
theorem uc_dig {n : Nat} (h6 : n < 7) (h2 : 2 ≤ n) : ∀ k j a, a < k → un n (dg (uc n k j) a) = true := by
  have h := unl_is n h6 h2
  intro k
  induction k with
  | zero => intro j a ha; exact absurd ha (Nat.not_lt_zero _)
  | succ k ih =>
    intro j a ha
    have hu := h.2.2.1 _ (Nat.mod_lt j h.1)
    have a1 := (un_iff.mp hu).2.1
    cases a with
    | zero =>
      unfold dg
      rw [uc, Nat.pow_zero, Nat.div_one, Nat.add_mul_mod_self_left, Nat.mod_eq_of_lt (by omega)]
      exact hu
    | succ a =>
      have := ih (j / (unl n).length) a (by omega)
      unfold dg at this ⊢
      rw [uc, Nat.pow_succ, Nat.mul_comm (8 ^ a) 8, ← Nat.div_div_eq_div_mul, Nat.add_mul_div_left _ _ (by decide : 0 < 8), Nat.div_eq_of_lt (show (unl n).getD (j % (unl n).length) 0 < 8 by omega), Nat.zero_add]
      exact this
/-- counting along what is met in its order -/
theorem cnt_map {g : Nat → Nat} {N B : Nat} {p : Nat → Bool} (hm : ∀ i j, i < j → j < N → g i < g j) (hs : ∀ v, v < B → p v = true → ∃ i, i < N ∧ g i = v) : ∀ v, v ≤ B → ∀ j, j ≤ N → (∀ i, i < j → g i < v) → (∀ i, j ≤ i → i < N → v ≤ g i) → cnt p v = cnt (fun i => p (g i)) j := by
  intro v
  induction v with
  | zero =>
    intro _ j hj h1 _
    cases j with
    | zero => rfl
    | succ j => exact absurd (h1 j (by omega)) (Nat.not_lt_zero _)
  | succ v ih =>
    intro hv j hj h1 h2
    by_cases q : ∃ i, i + 1 = j ∧ g i = v
    · obtain ⟨i, rfl, hg⟩ := q
      have h3 := ih (by omega) i (by omega) (fun i' hi' => by rw [← hg]; exact hm _ _ hi' (by omega)) (fun i' h4 h5 => by
        rcases Nat.lt_or_eq_of_le h4 with h6 | rfl
        · have := hm _ _ h6 h5; omega
        · omega)
      rw [cnt, cnt, h3, hg]
    · have hne : ∀ i, i < N → g i ≠ v := by
        intro i hi he
        rcases Nat.lt_or_ge i j with h3 | h3
        · rcases Nat.lt_or_eq_of_le (show i + 1 ≤ j from h3) with h4 | h4
          · have := hm i (i + 1) (by omega) (by omega)
            have := h1 (i + 1) h4
            omega
          · exact q ⟨i, h4, he⟩
        · have := h2 i h3 hi; omega
      have hp : p v = false := by
        cases hp : p v with
        | false => rfl
        | true => obtain ⟨i, h3, h4⟩ := hs v (by omega) hp; exact absurd h4 (hne i h3)
      have h3 := ih (by omega) j hj (fun i hi => by have := h1 i hi; have := hne i (by omega); omega) (fun i h4 h5 => by have := h2 i h4 h5; omega)
      rw [cnt, hp, h3]
      rfl
/-- the next units -/
def ua (n m : Nat) : Nat := if fnd (fun v => decide (m < v) && un n v) n < n then fnd (fun v => decide (m < v) && un n v) n else 1
def nuw (n : Nat) : Nat → Nat → Nat → Nat
  | 0, _, r => r
  | f + 1, a, r => if ua n (dg r a) ≤ dg r a then nuw n f (a + 1) (r - dg r a * 8 ^ a + ua n (dg r a) * 8 ^ a) else r - dg r a * 8 ^ a + ua n (dg r a) * 8 ^ a
def nxb (n : Nat) : Bool := (List.range ((unl n).length ^ n - 1)).all fun j => decide (nuw n n 0 (uc n n j) = uc n n (j + 1))
theorem nxb_all : ∀ n, n < 7 → 2 ≤ n → nxb n = true := by decide +kernel
theorem nx_is {n j : Nat} (h6 : n < 7) (h2 : 2 ≤ n) (hj : j + 1 < (unl n).length ^ n) : nuw n n 0 (uc n n j) = uc n n (j + 1) :=
  of_decide_eq_true (List.all_eq_true.mp (nxb_all n h6 h2) j (List.mem_range.mpr (by omega)))
def ons : Nat → Nat
  | 0 => 0
  | k + 1 => ons k ||| 2 ^ (3 * k)
theorem ons_is : ∀ n, n < 7 → 2 ≤ n → uc n n 0 = ons n := by decide +kernel
theorem nI_wrap (x c : Nat) : nI (x + 2 ^ 32 * c) = nI x := n_ext (by
  rw [n_bv, n_bv]
  refine BitVec.eq_of_toNat_eq ?_
  rw [BitVec.toNat_ofNat, BitVec.toNat_ofNat, Nat.add_mul_mod_self_left])
theorem dig_sub : ∀ a, a < 8 → ∀ b, b < 8 → nI a - nI b = nI (a + (4294967296 - b)) := by decide +kernel
theorem dig_le (r a : Nat) : dg r a * 8 ^ a ≤ r := by
  unfold dg
  exact Nat.le_trans (Nat.mul_le_mul_right _ (Nat.mod_le _ _)) (Nat.div_mul_le_self _ _)
theorem ua_lt {n : Nat} (h2 : 2 ≤ n) (m : Nat) : ua n m < n := by
  unfold ua
  split
  · assumption
  · omega
section
variable {G : ZG} {M : ZM} {Z : Option ZV → ZM → Prop}
/-- what tells the codes of braces -/
def isBr (n : Nat) (p : Nat → Bool) : Prop := ∀ v, p v = true ↔ areU n v ∧ bra n v
theorem isBr_uniq {n : Nat} {p q : Nat → Bool} (h : isBr n p) (h' : isBr n q) : p = q := funext fun v => by
  rw [Bool.eq_iff_iff]
  exact (h v).trans (h' v).symm
theorem isBr_ex (n : Nat) : ∃ p, isBr n p := ⟨fun v => @decide (areU n v ∧ bra n v) (Classical.propDecidable _), fun v => @decide_eq_true_iff _ (Classical.propDecidable _)⟩
theorem br_cnt {n : Nat} {p : Nat → Bool} (h2 : 2 ≤ n) (h6 : n ≤ 6) (hp : isBr n p) : (∀ j, j < (unl n).length ^ n → cnt p (uc n n j) = cnt (fun i => p (uc n n i)) j) ∧ cnt p (8 ^ n) = cnt (fun i => p (uc n n i)) ((unl n).length ^ n) := by
  have hm : ∀ i j, i < j → j < (unl n).length ^ n → uc n n i < uc n n j := uc_mono (by omega) h2 n
  have hs : ∀ v, v < 8 ^ n → p v = true → ∃ i, i < (unl n).length ^ n ∧ uc n n i = v := fun v hv h => uc_surj (by omega) h2 n v hv ((hp v).mp h).1.2
  have hl := uc_lt (n := n) (by omega) h2 n
  refine ⟨fun j hj => cnt_map hm hs _ (Nat.le_of_lt (hl j)) j (Nat.le_of_lt hj) (fun i hi => hm i j hi hj) (fun i hi hi2 => ?_), cnt_map hm hs _ (Nat.le_refl _) _ (Nat.le_refl _) (fun i _ => hl i) (fun i hi hi2 => by omega)⟩
  rcases Nat.lt_or_eq_of_le hi with q | rfl
  · exact Nat.le_of_lt (hm _ _ q hi2)
  · exact Nat.le_refl _
theorem uc_br {n : Nat} {p : Nat → Bool} (h2 : 2 ≤ n) (h6 : n ≤ 6) (hp : isBr n p) (j : Nat) : p (uc n n j) = true ↔ bra n (uc n n j) := by
  rw [hp]
  exact ⟨fun h => h.2, fun h => ⟨⟨uc_lt (by omega) h2 n j, uc_dig (by omega) h2 n j⟩, h⟩⟩
theorem cands_le : ∀ n, n < 7 → (unl n).length ^ n ≤ 1024 := by decide +kernel
theorem n_m1le {i : Nat} (hi : i < 2 ^ 32) : (-1 : Int32) ≤ nI i ↔ (i < 2 ^ 31 ∨ i = 4294967295) := by
  have e : (-1 : Int32).toInt = -1 := by decide
  rw [Int32.le_iff_toInt_le, e]
  by_cases h : i < 2 ^ 31
  · rw [nI_toInt h]; omega
  · rw [n_neg (by omega) hi]; omega
theorem n_m1ne {i : Nat} (hi : i < 2 ^ 32) : (¬ nI i = (-1 : Int32)) ↔ i ≠ 4294967295 := by
  rw [n_m1, n_eq hi (by decide)]
end
end
section
section
variable {G : ZG} {M : ZM} {Z : Option ZV → ZM → Prop} {S : ZS}
theorem c_orbit {a x : Nat} (ha : a < 2 ^ 32) (hx : x < 2 ^ 32) (hC : CS M S) (h1 : ¬ x < (plA S a).1 → Z (some (zi (-1000001))) M) (h3 : x < (plA S a).1 → ∀ r, isOrb (plA S a) x r → Z (some (zi (nI r))) M) : Ctr 0 G mi_T_orbit [zr 5 0, zi (nI a), zi (nI x)] M Z := by
  have hA := CS_pl hC a
  have ka := plk_lt a
  refine go_T_orbit (fun Kz hKz => ?_)
  conv => whnf
  refine s_T_mapAt ha ?_
  conv => whnf
  refine ⟨by show plk a < 10; omega, ?_⟩
  refine s_PM_hasPoint (by omega) hx hA (fun e1 => ?_) (fun e1 => ?_)
  · conv => whnf
    first | refine ⟨fun _ => ?_, fun q => absurd (by decide) q⟩ | refine ⟨fun q => absurd q (by decide), fun _ => ?_⟩
    conv => whnf
    refine s_CH_orbitOf (by omega) hA e1 (fun r hr => ?_)
    conv => whnf
    exact h3 e1 r hr
  · conv => whnf
    first | refine ⟨fun _ => ?_, fun q => absurd (by decide) q⟩ | refine ⟨fun q => absurd q (by decide), fun _ => ?_⟩
    conv => whnf
    exact h1 e1
theorem c_shut {a s : Nat} (ha : a < 2 ^ 32) (hs : s < 2 ^ 32) (hC : CS M S) (h1 : (plA S a).1 = 0 → Z (some (zi (-1000001))) M) (h2 : ¬ (plA S a).1 = 0 → ¬ s < 2 ^ (plA S a).1 → Z (some (zi (-1000002))) M) (h3 : ¬ (plA S a).1 = 0 → s < 2 ^ (plA S a).1 → ∀ r, isShut (plA S a) s r → Z (some (zi (nI r))) M) : Ctr 0 G mi_T_shut [zr 5 0, zi (nI a), zi (nI s)] M Z := by
  have hA := CS_pl hC a
  have ka := plk_lt a
  have hn := hA.1.1
  have hp : 2 ^ (plA S a).1 ≤ 2 ^ 6 := Nat.pow_le_pow_right (by decide) hn
  refine go_T_shut (fun Kz hKz => ?_)
  conv => whnf
  refine s_T_mapAt ha ?_
  conv => whnf
  refine ⟨by show plk a < 10; omega, ?_⟩
  refine s_PM_isEmpty (by omega) hA (fun e1 => ?_) (fun e1 => ?_)
  · conv => whnf
    first | refine ⟨fun _ => ?_, fun q => absurd (by decide) q⟩ | refine ⟨fun q => absurd q (by decide), fun _ => ?_⟩
    conv => whnf
    exact h1 e1
  · conv => whnf
    first | refine ⟨fun _ => ?_, fun q => absurd (by decide) q⟩ | refine ⟨fun q => absurd q (by decide), fun _ => ?_⟩
    conv => whnf
    rw [n_ltb hs (by decide)]
    refine ⟨fun q => ?_, fun q => ?_⟩
    · conv => whnf
      exact h2 e1 (by omega)
    · conv => whnf
      refine ⟨by show plk a < 10; omega, ?_⟩
      refine s_PM_points (by omega) ?_
      conv => whnf
      rw [hA.2.1, n_shl _ _ (by omega), Nat.one_mul, n_ltb hs (by omega)]
      refine ⟨fun q2 => ?_, fun q2 => ?_⟩
      · conv => whnf
        refine s_CH_closureOf (by omega) hA (by omega) (fun r hr => ?_)
        conv => whnf
        exact h3 e1 (by omega) r hr
      · conv => whnf
        exact h2 e1 (by omega)
theorem c_invert {a to : Nat} (ha : a < 2 ^ 32) (hto : to < 2 ^ 32) (hC : CS M S) (h1 : (plA S a).1 = 0 ∨ ¬ to < 4 → Z (some (zi (-1000001))) M) (h2 : ¬ (plA S a).1 = 0 → to < 4 → ¬ pinj (plA S a) → Z (some (zi (-1000003))) M) (h3 : ¬ (plA S a).1 = 0 → to < 4 → pinj (plA S a) → ∀ M', CS M' (upS S to (pinv (plA S a))) → csm M M' → Z (some (zi (nI (plA S a).1))) M') : Ctr 0 G mi_T_invert [zr 5 0, zi (nI a), zi (nI to)] M Z := by
  have hA := CS_pl hC a
  have ka := plk_lt a
  refine go_T_invert (fun Kz hKz => ?_)
  conv => whnf
  refine s_T_mapAt ha ?_
  conv => whnf
  refine ⟨by show plk a < 10; omega, ?_⟩
  refine s_PM_isEmpty (by omega) hA (fun e1 => ?_) (fun e1 => ?_)
  · conv => whnf
    first | refine ⟨fun _ => ?_, fun q => absurd (by decide) q⟩ | refine ⟨fun q => absurd q (by decide), fun _ => ?_⟩
    conv => whnf
    exact h1 (Or.inl e1)
  · conv => whnf
    first | refine ⟨fun _ => ?_, fun q => absurd (by decide) q⟩ | refine ⟨fun q => absurd q (by decide), fun _ => ?_⟩
    conv => whnf
    refine s_T_isPlace hto (fun h => ?_) (fun h => ?_)
    · conv => whnf
      first | refine ⟨fun _ => ?_, fun q => absurd (by decide) q⟩ | refine ⟨fun q => absurd q (by decide), fun _ => ?_⟩
      conv => whnf
      refine s_CH_isBijective (by omega) hA (fun hb => ?_) (fun hb => ?_)
      · conv => whnf
        first | refine ⟨fun _ => ?_, fun q => absurd (by decide) q⟩ | refine ⟨fun q => absurd q (by decide), fun _ => ?_⟩
        conv => whnf
        refine ⟨by decide, ?_⟩
        refine s_PM_becomeInverse (by decide) (by omega) (by omega) hA (fun M1 g1 g2 g3 => ?_)
        conv => whnf
        refine s_T_keepMade h (CS_cst hC (cst_pm (by decide) g1)) (g3 hb) (fun M' h6 h7 => ?_)
        conv => whnf
        exact h3 e1 h hb M' h6 (csm_trans (csm_pm g1) h7)
      · conv => whnf
        first | refine ⟨fun _ => ?_, fun q => absurd (by decide) q⟩ | refine ⟨fun q => absurd q (by decide), fun _ => ?_⟩
        conv => whnf
        exact h2 e1 h hb
    · conv => whnf
      first | refine ⟨fun _ => ?_, fun q => absurd (by decide) q⟩ | refine ⟨fun q => absurd q (by decide), fun _ => ?_⟩
      conv => whnf
      exact h1 (Or.inr h)
end
end
section
/-! permutations in their order -/
def gw (w : List Nat) (x : Nat) : Nat := w.getD x 0
def sw (w : List Nat) (i j : Nat) : List Nat := (w.set i (gw w j)).set j (gw w i)
theorem sw_len (w : List Nat) (i j : Nat) : (sw w i j).length = w.length := by simp [sw]
theorem gw_sw {w : List Nat} {i j : Nat} (hi : i < w.length) (hj : j < w.length) (x : Nat) : gw (sw w i j) x = if x = j then gw w i else if x = i then gw w j else gw w x := by
  unfold gw sw
  simp only [List.getD_eq_getElem?_getD, List.getElem?_set, List.length_set]
  by_cases h1 : x = j
  · subst h1; simp [hj, gw]
  · by_cases h2 : x = i
    · subst h2; simp [hi, h1, Ne.symm h1, gw]
    · simp [h1, h2, Ne.symm h1, Ne.symm h2]
def pvt (w : List Nat) : Nat → Nat
  | 0 => 0
  | i + 1 => if gw w i ≤ gw w (i + 1) then i + 1 else pvt w i
def grt (w : List Nat) (p : Nat) : Nat → Nat
  | 0 => 0
  | j + 1 => if p < j + 1 ∧ gw w (j + 1) < gw w p then grt w p j else j + 1
def rvs (w : List Nat) : Nat → Nat → Nat → List Nat
  | 0, _, _ => w
  | f + 1, l, h => if l < h then rvs (sw w l h) f (l + 1) (h - 1) else w
def nxp (w : List Nat) : List Nat := if pvt w (w.length - 1) = 0 then w else rvs (sw w (pvt w (w.length - 1) - 1) (grt w (pvt w (w.length - 1) - 1) (w.length - 1))) w.length (pvt w (w.length - 1)) (w.length - 1)
def pw (n : Nat) : Nat → List Nat
  | 0 => List.range n
  | j + 1 => nxp (pw n j)
def rnS : Nat → Nat → Prop := fun a b => a = 12 ∧ b = 0
def isW (M : ZM) (w : List Nat) : Prop := ∀ x, x < w.length → M.1 12 0 x = nI (gw w x)
theorem isW_sw {M : ZM} {w : List Nat} {i j : Nat} (h : isW M w) (hi : i < w.length) (hj : j < w.length) : isW (zset 12 0 j (M.1 12 0 i) (zset 12 0 i (M.1 12 0 j) M)) (sw w i j) := by
  intro x hx
  rw [sw_len] at hx
  rw [gw_sw hi hj]
  by_cases h1 : x = j
  · rw [if_pos h1, h1, zset_eq]; exact h i hi
  · rw [if_neg h1, zset_ne (by omega)]
    by_cases h2 : x = i
    · rw [if_pos h2, h2, zset_eq]; exact h j hj
    · rw [if_neg h2, zset_ne (by omega)]; exact h x hx
section
variable {G : ZG} {M : ZM} {Z : Option ZV → ZM → Prop}
theorem s_RN_imageOf {x : Nat} (hx : x < 8) (hZ : Z (some (zi (M.1 12 0 x))) M) : Ctr 0 G mi_RN_imageOf [zr 11 0, zi (nI x)] M Z := by
  refine go_RN_imageOf (fun Kz hKz => ?_)
  conv => whnf
  rw [n_mask hx]
  refine ⟨vp_in_nI hx (by decide), ?_⟩
  conv => whnf
  rw [nI_clamp (by omega)]
  exact hZ
theorem s_RN_swap {x y : Nat} (hx : x < 8) (hy : y < 8) (hZ : Z none (zset 12 0 y (M.1 12 0 x) (zset 12 0 x (M.1 12 0 y) M))) : Ctr 0 G mi_RN_swap [zr 11 0, zi (nI x), zi (nI y)] M Z := by
  refine go_RN_swap (fun Kz hKz => ?_)
  conv => whnf
  refine s_RN_imageOf hx ?_
  conv => whnf
  rw [n_mask hx]
  refine s_RN_imageOf hy ?_
  conv => whnf
  refine ⟨vp_in_nI hx (by decide), ?_⟩
  conv => whnf
  rw [n_mask hy, nI_clamp (by omega)]
  refine ⟨vp_in_nI hy (by decide), ?_⟩
  conv => whnf
  rw [nI_clamp (by omega)]
  exact hZ
theorem s_RN_start (hZ : ∀ M', zsm rnS M M' → (∀ n, n ≤ 6 → isW M' (List.range n)) → Z none M') : Ctr 0 G mi_RN_start [zr 11 0] M Z := by
  have lp : ∀ i, i ≤ 8 → ∀ M', zsm rnS M M' → (∀ x, x < i → M'.1 12 0 x = nI x) → V 0 G mi_RN_start Z 2 [(0, zr 11 0), (1, zi (nI i))] [] M' := by
    refine up_to ?_ ?_
    · intro M' h1 h2
      have h3 : ∀ n, n ≤ 6 → isW M' (List.range n) := fun n hn x hx => by
        rw [List.length_range] at hx
        rw [h2 x (by omega)]
        simp [gw, hx]
      refine z_run (cuts := cu_RN_start) ok_RN_start (fun Kz hKz => ?_)
      conv => whnf
      first | refine ⟨fun _ => ?_, fun q => absurd (by decide) q⟩ | refine ⟨fun q => absurd q (by decide), fun _ => ?_⟩
      conv => whnf
      exact hZ M' h1 h3
    · intro i hi ih M' h1 h2
      refine z_run (cuts := cu_RN_start) ok_RN_start (fun Kz hKz => ?_)
      conv => whnf
      rw [nI_ltI (by omega) (by omega)]
      refine ⟨fun q => absurd q (by omega), fun _ => ?_⟩
      conv => whnf
      refine ⟨vp_in_nI hi (by decide), ?_⟩
      conv => whnf
      refine hKz _ _ _ _ ?_
      rw [nI_clamp (by omega), nI_1']
      refine ih _ (zsm_trans h1 (zsm_set ⟨rfl, rfl⟩)) (fun x hx => ?_)
      rcases Nat.lt_succ_iff_lt_or_eq.mp hx with hx | rfl
      · rw [zset_ne (by omega)]; exact h2 x hx
      · exact zset_eq
  refine go_RN_start (fun Kz hKz => ?_)
  conv => whnf
  refine hKz _ _ _ _ ?_
  exact lp 0 (Nat.zero_le _) M (zsm_refl _ _) (fun x hx => absurd hx (Nat.not_lt_zero _))
theorem pvI_two : ∀ n, n < 7 → 0 < n → nI n - nI 2 = nI (n - 1 + 4294967295) := by decide +kernel
theorem s_RN_step {w : List Nat} {n : Nat} (hl : w.length = n) (h1 : 1 ≤ n) (h6 : n ≤ 6) (hb : ∀ x, gw w x < 8) (hw : isW M w) (hZ : ∀ M', zsm rnS M M' → isW M' (nxp w) → Z none M') : Ctr 0 G mi_RN_step [zr 11 0, zi (nI n)] M Z := by
  subst hl
  have lp3 : ∀ f l h v M', zsm rnS M M' → isW M' v → v.length = w.length → h ≤ l + f → h < w.length → l ≤ w.length → rvs v f l h = nxp w → V 0 G mi_RN_step Z 78 [(0, zr 11 0), (4, zi (nI h)), (5, zi (nI l))] [] M' := by
    intro f
    induction f with
    | zero =>
      intro l h v M' g1 g2 g3 g4 g5 g6 g7
      rw [rvs] at g7
      refine z_run (cuts := cu_RN_step) ok_RN_step (fun Kz hKz => ?_)
      conv => whnf
      rw [nI_leI (by omega) (by omega)]
      refine ⟨fun _ => ?_, fun q => absurd (show h ≤ l by omega) q⟩
      conv => whnf
      exact hZ M' g1 (by rw [← g7]; exact g2)
    | succ f ih =>
      intro l h v M' g1 g2 g3 g4 g5 g6 g7
      rw [rvs] at g7
      refine z_run (cuts := cu_RN_step) ok_RN_step (fun Kz hKz => ?_)
      conv => whnf
      rw [nI_leI (by omega) (by omega)]
      refine ⟨fun q => ?_, fun q => ?_⟩
      · rw [if_neg (by omega)] at g7
        conv => whnf
        exact hZ M' g1 (by rw [← g7]; exact g2)
      · rw [if_pos (by omega)] at g7
        obtain ⟨d, rfl⟩ : ∃ d, h = d + 1 := ⟨h - 1, by omega⟩
        conv => whnf
        refine s_RN_swap (by omega) (by omega) ?_
        conv => whnf
        refine hKz _ _ _ _ ?_
        rw [pk_m1, nI_1']
        exact ih (l + 1) d (sw v l (d + 1)) _ (zsm_trans (zsm_trans g1 (zsm_set ⟨rfl, rfl⟩)) (zsm_set ⟨rfl, rfl⟩)) (isW_sw g2 (by omega) (by omega)) (by rw [sw_len, g3]) (by omega) (by omega) (by omega) g7
  have lp2 : ∀ p, pvt w (w.length - 1) = p + 1 → p + 1 < w.length → ∀ j, p ≤ j → j < w.length → grt w p j = grt w p (w.length - 1) → V 0 G mi_RN_step Z 38 [(0, zr 11 0), (1, zi (nI w.length)), (2, zi (nI p)), (3, zi (nI j))] [] M := by
    intro p hp hpl
    have tail : ∀ j, p ≤ j → j < w.length → j = grt w p (w.length - 1) → ∀ M', M' = zset 12 0 j (M.1 12 0 p) (zset 12 0 p (M.1 12 0 j) M) → V 0 G mi_RN_step Z 78 [(0, zr 11 0), (4, zi (nI (w.length - 1))), (5, zi (nI (p + 1)))] [] M' := by
      rintro j hj1 hj2 hj3 M' rfl
      refine lp3 w.length (p + 1) (w.length - 1) (sw w p j) _ (zsm_trans (zsm_set ⟨rfl, rfl⟩) (zsm_set ⟨rfl, rfl⟩)) (isW_sw hw (by omega) hj2) (sw_len _ _ _) (by omega) (by omega) (by omega) ?_
      rw [nxp, hp, if_neg (by omega), Nat.add_sub_cancel, ← hj3]
    intro j
    induction j with
    | zero =>
      intro g1 g2 g3
      have hp0 : p = 0 := by omega
      subst hp0
      refine z_run (cuts := cu_RN_step) ok_RN_step (fun Kz hKz => ?_)
      conv => whnf
      refine ⟨fun _ => ?_, fun q => absurd ((nI_leI (by omega) (by omega)).mpr (Nat.le_refl 0)) q⟩
      conv => whnf
      refine s_RN_swap (by omega) (by omega) ?_
      conv => whnf
      refine hKz _ _ _ _ ?_
      rw [pk_sub (by omega), nI_1']
      exact tail 0 g1 g2 g3 _ rfl
    | succ j ih =>
      intro g1 g2 g3
      rw [grt] at g3
      refine z_run (cuts := cu_RN_step) ok_RN_step (fun Kz hKz => ?_)
      conv => whnf
      rw [nI_leI (by omega) (by omega)]
      refine ⟨fun q => ?_, fun q => ?_⟩
      · rw [if_neg (by omega)] at g3
        conv => whnf
        refine s_RN_swap (by omega) (by omega) ?_
        conv => whnf
        refine hKz _ _ _ _ ?_
        rw [pk_sub (by omega), nI_1']
        exact tail (j + 1) g1 g2 g3 _ rfl
      · have b1 := hb (j + 1)
        have b2 := hb p
        conv => whnf
        refine s_RN_imageOf (by omega) ?_
        conv => whnf
        rw [hw (j + 1) g2]
        refine s_RN_imageOf (by omega) ?_
        conv => whnf
        rw [hw p (by omega), nI_leI (by omega) (by omega)]
        refine ⟨fun q2 => ?_, fun q2 => ?_⟩
        · rw [if_neg (by omega)] at g3
          conv => whnf
          refine s_RN_swap (by omega) (by omega) ?_
          conv => whnf
          refine hKz _ _ _ _ ?_
          rw [pk_sub (by omega), nI_1']
          exact tail (j + 1) g1 g2 g3 _ rfl
        · rw [if_pos (by omega)] at g3
          conv => whnf
          refine hKz _ _ _ _ ?_
          rw [pk_m1]
          exact ih (by omega) (by omega) g3
  have lp1 : ∀ i, i < w.length → pvt w i = pvt w (w.length - 1) → V 0 G mi_RN_step Z 4 [(0, zr 11 0), (1, zi (nI w.length)), (2, zi (nI (i + 4294967295)))] [] M := by
    intro i
    induction i with
    | zero =>
      intro g1 g2
      rw [pvt] at g2
      have e : nxp w = w := by rw [nxp, if_pos g2.symm]
      rw [e] at hZ
      refine z_run (cuts := cu_RN_step) ok_RN_step (fun Kz hKz => ?_)
      conv => whnf
      first | refine ⟨fun _ => ?_, fun q => absurd (by decide) q⟩ | refine ⟨fun q => absurd q (by decide), fun _ => ?_⟩
      conv => whnf
      first | refine ⟨fun _ => ?_, fun q => absurd (by decide) q⟩ | refine ⟨fun q => absurd q (by decide), fun _ => ?_⟩
      conv => whnf
      exact hZ M (zsm_refl _ _) hw
    | succ i ih =>
      intro g1 g2
      rw [pvt] at g2
      have b1 := hb i
      have b2 := hb (i + 1)
      have e : nI (i + 1 + 4294967295) = nI i := by rw [show i + 1 + 4294967295 = i + 2 ^ 32 * 1 by omega]; exact nI_wrap i 1
      rw [e]
      refine z_run (cuts := cu_RN_step) ok_RN_step (fun Kz hKz => ?_)
      conv => whnf
      rw [nI_ltI (by omega) (by omega)]
      refine ⟨fun q => absurd q (by omega), fun _ => ?_⟩
      conv => whnf
      refine s_RN_imageOf (by omega) ?_
      conv => whnf
      rw [hw i (by omega), nI_1']
      refine s_RN_imageOf (by omega) ?_
      conv => whnf
      rw [hw (i + 1) g1, nI_leI (by omega) (by omega)]
      refine ⟨fun q => ?_, fun q => ?_⟩
      · rw [if_pos q] at g2
        conv => whnf
        rw [nI_leI (by omega) (by omega)]
        refine ⟨fun _ => ?_, fun q => absurd (Nat.zero_le _) q⟩
        conv => whnf
        refine hKz _ _ _ _ ?_
        rw [pk_sub (by omega)]
        exact lp2 i g2.symm g1 (w.length - 1) (by omega) (by omega) rfl
      · rw [if_neg q] at g2
        conv => whnf
        refine hKz _ _ _ _ ?_
        rw [n_m1, nI_add]
        exact ih (by omega) g2
  refine go_RN_step (fun Kz hKz => ?_)
  conv => whnf
  refine hKz _ _ _ _ ?_
  rw [pvI_two _ (by omega) (by omega)]
  exact lp1 (w.length - 1) (by omega) rfl
end
end
section
/-! which permutations rename one map into another -/
def fac : Nat → Nat
  | 0 => 1
  | n + 1 => fac n * (n + 1)
def wv (w : List Nat) (n : Nat) : Prop := w.length = n ∧ ∀ x, x < n → gw w x < n
theorem gw_out {w : List Nat} {x : Nat} (h : w.length ≤ x) : gw w x = 0 := by
  unfold gw
  rw [List.getD_eq_getElem?_getD, List.getElem?_eq_none h]
  rfl
theorem wv_lt {w : List Nat} {n : Nat} (h : wv w n) (h6 : n ≤ 6) : ∀ x, gw w x < 8 := by
  intro x
  rcases Nat.lt_or_ge x n with q | q
  · have := h.2 x q; omega
  · rw [gw_out (by rw [h.1]; exact q)]; decide
theorem wv_sw {w : List Nat} {n i j : Nat} (h : wv w n) (hi : i < n) (hj : j < n) : wv (sw w i j) n := by
  refine ⟨by rw [sw_len]; exact h.1, fun x hx => ?_⟩
  rw [gw_sw (by rw [h.1]; exact hi) (by rw [h.1]; exact hj)]
  split
  · exact h.2 i hi
  · split
    · exact h.2 j hj
    · exact h.2 x hx
theorem wv_rvs {n : Nat} : ∀ f (w : List Nat) l h, wv w n → h < n → wv (rvs w f l h) n := by
  intro f
  induction f with
  | zero => intro w l h g _; exact g
  | succ f ih =>
    intro w l h g g2
    rw [rvs]
    split
    · exact ih _ _ _ (wv_sw g (by omega) g2) (by omega)
    · exact g
theorem pvt_le (w : List Nat) : ∀ i, pvt w i ≤ i := by
  intro i
  induction i with
  | zero => exact Nat.le_refl _
  | succ i ih =>
    rw [pvt]
    split
    · exact Nat.le_refl _
    · omega
theorem grt_le (w : List Nat) (p : Nat) : ∀ i, grt w p i ≤ i := by
  intro i
  induction i with
  | zero => exact Nat.le_refl _
  | succ i ih =>
    rw [grt]
    split
    · omega
    · exact Nat.le_refl _
theorem wv_nxp {w : List Nat} {n : Nat} (h : wv w n) (h1 : 1 ≤ n) : wv (nxp w) n := by
  have e := h.1
  have h2 := pvt_le w (w.length - 1)
  have h3 := grt_le w (pvt w (w.length - 1) - 1) (w.length - 1)
  rw [nxp]
  split
  · exact h
  · exact wv_rvs _ _ _ _ (wv_sw h (by omega) (by omega)) (by omega)
theorem wv_pw {n : Nat} (h1 : 1 ≤ n) : ∀ j, wv (pw n j) n := by
  intro j
  induction j with
  | zero => exact ⟨List.length_range, fun x hx => by simp [pw, gw, hx]⟩
  | succ j ih => exact wv_nxp ih h1
theorem fac_le : ∀ n, n ≤ 6 → fac n ≤ 720 := by decide
def isoB (A B : ZP) (w : List Nat) : Bool := decide (∀ x, x < A.1 → ∀ y, y < A.1 → B.2.1 (gw w x) (gw w y) = gw w (A.2.1 x y) ∧ B.2.2 (gw w x) (gw w y) = gw w (A.2.2 x y))
theorem isoB_iff {A B : ZP} {w : List Nat} : isoB A B w = true ↔ ∀ x, x < A.1 → ∀ y, y < A.1 → B.2.1 (gw w x) (gw w y) = gw w (A.2.1 x y) ∧ B.2.2 (gw w x) (gw w y) = gw w (A.2.2 x y) := decide_eq_true_iff
section
variable {G : ZG} {M : ZM} {Z : Option ZV → ZM → Prop}
theorem s_RN_imageOf8 {m : Nat} (hm : m < 64) (hZ : Z (some (zi (M.1 12 0 (m % 8)))) M) : Ctr 0 G mi_RN_imageOf [zr 11 0, zi (nI m)] M Z := by
  have h8 : m % 8 < 8 := Nat.mod_lt _ (by decide)
  refine go_RN_imageOf (fun Kz hKz => ?_)
  conv => whnf
  rw [n_and, show (7 : Nat) = 2 ^ 3 - 1 from rfl, Nat.and_two_pow_sub_one_eq_mod, show (2 : Nat) ^ 3 = 8 from rfl]
  refine ⟨vp_in_nI h8 (by decide), ?_⟩
  conv => whnf
  rw [nI_clamp (by omega)]
  exact hZ
theorem s_RN_isIsomorphism {k j : Nat} {A B : ZP} {w : List Nat} (hk : k < 10) (hj : j < 10) (hA : isPM M k A) (hB : isPM M j B) (hAB : A.1 = B.1) (hw : isW M w) (hv : wv w A.1) (hZ : Z (some (zi (b2i (isoB A B w)))) M) : Ctr 0 G mi_RN_isIsomorphism [zr 11 0, zr 0 k, zr 0 j] M Z := by
  have hn := hA.1.1
  have rd : ∀ x, x < A.1 → M.1 12 0 x = nI (gw w x) := fun x hx => hw x (by rw [hv.1]; exact hx)
  refine go_RN_isIsomorphism (fun Kz hKz => ?_)
  conv => whnf
  refine ⟨by first | assumption | decide, ?_⟩
  conv => whnf
  refine s_PM_points hk ?_
  conv => whnf
  refine hKz _ _ _ _ ?_
  rw [hA.2.1]
  refine rloop (n := A.1) (m := A.1) (O := fun x => (∀ a b, a < A.1 → b < A.1 → a < x → B.2.1 (gw w a) (gw w b) = gw w (A.2.1 a b) ∧ B.2.2 (gw w a) (gw w b) = gw w (A.2.2 a b)) → V 0 G mi_RN_isIsomorphism Z 8 [(0, zr 11 0), (1, zr 0 k), (2, zr 0 j), (3, zi (nI A.1)), (4, zi (nI x))] [] M) (I := fun x y => (∀ a b, a < A.1 → b < A.1 → (a < x ∨ (a = x ∧ b < y)) → B.2.1 (gw w a) (gw w b) = gw w (A.2.1 a b) ∧ B.2.2 (gw w a) (gw w b) = gw w (A.2.2 a b)) → V 0 G mi_RN_isIsomorphism Z 25 [(0, zr 11 0), (1, zr 0 k), (2, zr 0 j), (3, zi (nI A.1)), (4, zi (nI x)), (5, zi (nI (gw w x))), (6, zi (nI y))] [] M) (fun q => ?_) (fun x hx h q => ?_) (fun x hx h q => ?_) (fun x y hx hy h q => ?_) (fun a b _ _ q => absurd q (Nat.not_lt_zero _))
  · have e : isoB A B w = true := isoB_iff.mpr (fun x hx y hy => q x y hx hy hx)
    rw [e] at hZ
    refine z_run (cuts := cu_RN_isIsomorphism) ok_RN_isIsomorphism (fun Kz hKz => ?_)
    conv => whnf
    rw [nI_leI (by omega) (by omega)]
    refine ⟨fun _ => ?_, fun q => absurd (Nat.le_refl _) q⟩
    conv => whnf
    exact ⟨Or.inr rfl, hZ⟩
  · refine z_run (cuts := cu_RN_isIsomorphism) ok_RN_isIsomorphism (fun Kz hKz => ?_)
    conv => whnf
    rw [nI_leI (by omega) (by omega)]
    refine ⟨fun q => absurd q (by omega), fun _ => ?_⟩
    conv => whnf
    refine s_RN_imageOf (by omega) ?_
    conv => whnf
    refine hKz _ _ _ _ ?_
    rw [rd x hx]
    exact h (fun a b ha hb q2 => q a b ha hb (by omega))
  · refine z_run (cuts := cu_RN_isIsomorphism) ok_RN_isIsomorphism (fun Kz hKz => ?_)
    conv => whnf
    rw [nI_leI (by omega) (by omega)]
    refine ⟨fun _ => ?_, fun q => absurd (Nat.le_refl _) q⟩
    conv => whnf
    refine hKz _ _ _ _ ?_
    rw [nI_1']
    exact h (fun a b ha hb q2 => q a b ha hb (by omega))
  · have hLR := hA.1.2 x y hx hy
    have v1 := hv.2 x hx
    have v2 := hv.2 y hy
    have v3 := hv.2 _ hLR.1
    have v4 := hv.2 _ hLR.2
    have hLB := hB.1.2 (gw w x) (gw w y) (by omega) (by omega)
    have d1 : (8 * A.2.1 x y + A.2.2 x y) / 2 ^ 3 = A.2.1 x y := by rw [show (2 : Nat) ^ 3 = 8 from rfl]; omega
    have d2 : (8 * A.2.1 x y + A.2.2 x y) % 8 = A.2.2 x y := by omega
    refine z_run (cuts := cu_RN_isIsomorphism) ok_RN_isIsomorphism (fun Kz hKz => ?_)
    conv => whnf
    rw [nI_leI (by omega) (by omega)]
    refine ⟨fun q => absurd q (by omega), fun _ => ?_⟩
    conv => whnf
    refine s_CO_pairOf (by omega) (by omega) ?_
    conv => whnf
    refine ⟨by first | assumption | decide, ?_⟩
    conv => whnf
    refine s_PM_imageOf hk (by omega) ?_
    conv => whnf
    rw [hA.2.2 x y hx hy, n_shr _ (by omega) (by omega), d1]
    refine s_RN_imageOf (by omega) ?_
    conv => whnf
    rw [rd _ hLR.1]
    refine s_RN_imageOf8 (by omega) ?_
    conv => whnf
    rw [d2, rd _ hLR.2]
    refine s_CO_pairOf (by omega) (by omega) ?_
    conv => whnf
    refine s_RN_imageOf (by omega) ?_
    conv => whnf
    rw [rd y hy]
    refine s_CO_pairOf (by omega) (by omega) ?_
    conv => whnf
    refine ⟨by first | assumption | decide, ?_⟩
    conv => whnf
    refine s_PM_imageOf hj (by omega) ?_
    conv => whnf
    rw [hB.2.2 _ _ (by omega) (by omega), nI_eq (by omega) (by omega)]
    refine ⟨fun z => ?_, fun z => ?_⟩
    · conv => whnf
      refine hKz _ _ _ _ ?_
      rw [nI_1']
      refine h (fun a b ha hb q2 => ?_)
      by_cases hab : a = x ∧ b = y
      · rw [hab.1, hab.2]; omega
      · exact q a b ha hb (by omega)
    · have e : isoB A B w = false := by
        rw [Bool.eq_false_iff]
        intro g
        have := isoB_iff.mp g x hx y hy
        exact z (by rw [this.1, this.2])
      rw [e] at hZ
      conv => whnf
      exact ⟨Or.inl rfl, hZ⟩
theorem s_RN_permutations {n : Nat} (h1 : 1 ≤ n) (h6 : n ≤ 6) (hZ : Z (some (zi (nI (fac n)))) M) : Ctr 0 G mi_RN_permutations [zi (nI n)] M Z := by
  have lp : ∀ i, i ≤ n → V 0 G mi_RN_permutations Z 4 [(0, zi (nI n)), (1, zi (nI (fac i))), (2, zi (nI (i + 1)))] [] M := by
    refine up_to ?_ ?_
    · refine z_run (cuts := cu_RN_permutations) ok_RN_permutations (fun Kz hKz => ?_)
      conv => whnf
      rw [nI_ltI (by omega) (by omega)]
      refine ⟨fun _ => ?_, fun q => absurd (Nat.lt_succ_self _) q⟩
      conv => whnf
      exact hZ
    · intro i hi ih
      refine z_run (cuts := cu_RN_permutations) ok_RN_permutations (fun Kz hKz => ?_)
      conv => whnf
      rw [nI_ltI (by omega) (by omega)]
      refine ⟨fun q => absurd q (by omega), fun _ => ?_⟩
      conv => whnf
      refine hKz _ _ _ _ ?_
      rw [pk_mul, nI_1']
      exact ih
  refine go_RN_permutations (fun Kz hKz => ?_)
  conv => whnf
  refine hKz _ _ _ _ ?_
  exact lp 1 h1
def codW (w : List Nat) : Nat → Nat
  | 0 => 0
  | x + 1 => codW w x ||| gw w x * 8 ^ x
theorem codW_lt {w : List Nat} (h : ∀ x, gw w x < 8) : ∀ n, codW w n < 8 ^ n := by
  intro n
  induction n with
  | zero => exact Nat.one_pos
  | succ n ih =>
    have e : (8 : Nat) ^ (n + 1) = 2 ^ (3 * (n + 1)) := by rw [Nat.pow_mul]
    have e2 : (8 : Nat) ^ n ≤ 8 ^ (n + 1) := Nat.pow_le_pow_right (by decide) (Nat.le_succ n)
    rw [codW, e]
    refine Nat.or_lt_two_pow (by rw [← e]; exact Nat.lt_of_lt_of_le ih e2) ?_
    rw [← e, Nat.pow_succ, Nat.mul_comm]
    exact Nat.mul_lt_mul_of_pos_left (h n) (Nat.pow_pos (by decide))
/-- how many of the first i permutations rename A into B -/
def nIso (A B : ZP) : Nat → Nat := cnt fun j => isoB A B (pw A.1 j)
theorem isPM_rn {M M' : ZM} {k : Nat} {A : ZP} (h : isPM M k A) (hs : zsm rnS M M') : isPM M' k A := isPM_same h hs (fun q => absurd q.1 (by decide)) (fun q => absurd q.1 (by decide))
theorem s_RN_isomorphisms {k j : Nat} {A B : ZP} (hk : k < 10) (hj : j < 10) (hA : isPM M k A) (hB : isPM M j B) (h0 : 0 < A.1) (h1 : A.1 = B.1 → ∀ M', zsm rnS M M' → Z (some (zi (nI (nIso A B (fac A.1))))) M') (h2 : ¬ A.1 = B.1 → Z (some (zi (nI 0))) M) : Ctr 0 G mi_RN_isomorphisms [zr 11 0, zr 0 k, zr 0 j] M Z := by
  have hn := hA.1.1
  have hnB := hB.1.1
  have hf := fac_le A.1 hn
  refine go_RN_isomorphisms (fun Kz hKz => ?_)
  conv => whnf
  refine ⟨by first | assumption | decide, ?_⟩
  conv => whnf
  refine s_PM_points hk ?_
  conv => whnf
  refine ⟨by first | assumption | decide, ?_⟩
  conv => whnf
  refine s_PM_points hj ?_
  conv => whnf
  rw [hA.2.1, hB.2.1, nI_eq (by omega) (by omega)]
  refine ⟨fun q => ?_, fun q => ?_⟩
  · have lp : ∀ i, i ≤ fac A.1 → ∀ M', zsm rnS M M' → isW M' (pw A.1 i) → V 0 G mi_RN_isomorphisms Z 28 [(0, zr 11 0), (1, zr 0 k), (2, zr 0 j), (3, zi (nI A.1)), (4, zi (nI (nIso A B i))), (5, zi (nI (fac A.1 - i)))] [] M' := by
      refine up_to ?_ ?_
      · intro M' g1 g2
        refine z_run (cuts := cu_RN_isomorphisms) ok_RN_isomorphisms (fun Kz hKz => ?_)
        conv => whnf
        rw [Nat.sub_self, nI_leI (by omega) (by omega)]
        refine ⟨fun _ => ?_, fun q => absurd (Nat.le_refl _) q⟩
        conv => whnf
        exact h1 q M' g1
      · intro i hi ih M' g1 g2
        obtain ⟨d, hd⟩ : ∃ d, fac A.1 - i = d + 1 := ⟨fac A.1 - i - 1, by omega⟩
        have hd2 : fac A.1 - (i + 1) = d := by omega
        have hv := wv_pw (n := A.1) h0 i
        refine z_run (cuts := cu_RN_isomorphisms) ok_RN_isomorphisms (fun Kz hKz => ?_)
        conv => whnf
        rw [nI_leI (by omega) (by omega)]
        refine ⟨fun q => absurd q (by omega), fun _ => ?_⟩
        conv => whnf
        refine s_RN_isIsomorphism hk hj (isPM_rn hA g1) (isPM_rn hB g1) q g2 hv ?_
        conv => whnf
        refine s_T_oneIfb ?_
        conv => whnf
        refine s_RN_step hv.1 h0 hn (wv_lt hv hn) g2 (fun M2 g3 g4 => ?_)
        conv => whnf
        refine hKz _ _ _ _ ?_
        rw [nI_add, hd, pk_m1, ← hd2]
        exact ih M2 (zsm_trans g1 g3) g4
    conv => whnf
    refine s_RN_start (fun M1 g1 g2 => ?_)
    conv => whnf
    refine s_RN_permutations h0 hn ?_
    conv => whnf
    refine hKz _ _ _ _ ?_
    exact lp 0 (Nat.zero_le _) M1 g1 (g2 A.1 hn)
  · conv => whnf
    exact h2 q
theorem cst_rn {M M' : ZM} (h : zsm rnS M M') : cst M M' :=
  cst_of h (fun b hb => ⟨fun q => absurd q.1 (by decide), fun q => absurd q.1 (by decide)⟩) (fun b hb => ⟨fun q => absurd q.1 (by decide), fun q => absurd q.1 (by decide), fun q => absurd q.1 (by decide)⟩)
theorem csm_rn {M M' : ZM} (h : zsm rnS M M') : csm M M' := csm_of h (fun a b q => by have := q.1; omega)
end
end
section
def upB (S : ZS) (b : Nat) (w : List (Nat × Bool)) : ZS := (S.1, fun i => if i = b then w else S.2 i)
theorem CS_br {M M' : ZM} {S : ZS} {b : Nat} {w : List (Nat × Bool)} (h : CS M S) (hb : b < 2) (hs : zsm (brS b) M M') (hw : isBR M' b w) : CS M' (upB S b w) := by
  refine ⟨fun m hm => isPM_same (h.1 m hm) hs (fun q => absurd q.1 (by decide)) (fun q => absurd q.1 (by decide)), isPM_same h.2.1 hs (fun q => absurd q.1 (by decide)) (fun q => absurd q.1 (by decide)), fun c hc => ?_, isBR_same h.2.2.2 hs (fun q => by have := q.2; omega) (fun q => by have := q.2; omega) (fun q => by have := q.2; omega)⟩
  simp only [upB]
  by_cases he : c = b
  · rw [if_pos he, he]; exact hw
  · rw [if_neg he]
    exact isBR_same (h.2.2.1 c hc) hs (fun q => he q.2) (fun q => he q.2) (fun q => he q.2)
theorem csm_br {b : Nat} {M M' : ZM} (h : zsm (brS b) M M') : csm M M' := csm_of h (fun a c q => by rcases q.1 with q | q | q <;> omega)
def sumP (S : ZS) : Nat → Nat
  | 0 => 0
  | k + 1 => sumP S k + (S.1 k).1
section
variable {G : ZG} {M : ZM} {Z : Option ZV → ZM → Prop} {S : ZS}
theorem s_T_mapsHeld (hC : CS M S) (hZ : Z (some (zi (nI (cnt (fun m => decide (0 < (S.1 m).1)) 4)))) M) : Ctr 0 G mi_T_mapsHeld [zr 5 0] M Z := by
  have lp : ∀ i, i ≤ 4 → V 0 G mi_T_mapsHeld Z 4 [(0, zr 5 0), (1, zi (nI (cnt (fun m => decide (0 < (S.1 m).1)) i))), (2, zi (nI i))] [] M := by
    refine up_to ?_ ?_
    · refine z_run (cuts := cu_T_mapsHeld) ok_T_mapsHeld (fun Kz hKz => ?_)
      conv => whnf
      first | refine ⟨fun _ => ?_, fun q => absurd (by decide) q⟩ | refine ⟨fun q => absurd q (by decide), fun _ => ?_⟩
      conv => whnf
      exact hZ
    · intro i hi ih
      have hA := hC.1 i hi
      have e : plk i = i := by unfold plk; rw [if_pos hi]
      refine z_run (cuts := cu_T_mapsHeld) ok_T_mapsHeld (fun Kz hKz => ?_)
      conv => whnf
      rw [nI_leI (by omega) (by omega)]
      refine ⟨fun q => absurd q (by omega), fun _ => ?_⟩
      conv => whnf
      refine s_T_mapAt (by omega) ?_
      rw [e]
      conv => whnf
      refine ⟨by show i < 10; omega, ?_⟩
      refine s_PM_isEmpty (by omega) hA (fun e1 => ?_) (fun e1 => ?_)
      · rw [cnt, decide_eq_false (by omega)] at ih
        conv => whnf
        first | refine ⟨fun _ => ?_, fun q => absurd (by decide) q⟩ | refine ⟨fun q => absurd q (by decide), fun _ => ?_⟩
        conv => whnf
        refine s_T_oneIfb (b := false) ?_
        conv => whnf
        refine hKz _ _ _ _ ?_
        rw [nI_add, nI_1']
        exact ih
      · rw [cnt, decide_eq_true (by omega)] at ih
        conv => whnf
        first | refine ⟨fun _ => ?_, fun q => absurd (by decide) q⟩ | refine ⟨fun q => absurd q (by decide), fun _ => ?_⟩
        conv => whnf
        refine s_T_oneIfb (b := true) ?_
        conv => whnf
        refine hKz _ _ _ _ ?_
        rw [nI_add, nI_1']
        exact ih
  refine go_T_mapsHeld (fun Kz hKz => ?_)
  conv => whnf
  refine hKz _ _ _ _ ?_
  exact lp 0 (Nat.zero_le _)
theorem s_T_pointsHeld (hC : CS M S) (hZ : Z (some (zi (nI (sumP S 4)))) M) : Ctr 0 G mi_T_pointsHeld [zr 5 0] M Z := by
  have lp : ∀ i, i ≤ 4 → V 0 G mi_T_pointsHeld Z 4 [(0, zr 5 0), (1, zi (nI (sumP S i))), (2, zi (nI i))] [] M := by
    refine up_to ?_ ?_
    · refine z_run (cuts := cu_T_pointsHeld) ok_T_pointsHeld (fun Kz hKz => ?_)
      conv => whnf
      first | refine ⟨fun _ => ?_, fun q => absurd (by decide) q⟩ | refine ⟨fun q => absurd q (by decide), fun _ => ?_⟩
      conv => whnf
      exact hZ
    · intro i hi ih
      have hA := hC.1 i hi
      have e : plk i = i := by unfold plk; rw [if_pos hi]
      refine z_run (cuts := cu_T_pointsHeld) ok_T_pointsHeld (fun Kz hKz => ?_)
      conv => whnf
      rw [nI_leI (by omega) (by omega)]
      refine ⟨fun q => absurd q (by omega), fun _ => ?_⟩
      conv => whnf
      refine s_T_mapAt (by omega) ?_
      rw [e]
      conv => whnf
      refine ⟨by show i < 10; omega, ?_⟩
      refine s_PM_points (by omega) ?_
      conv => whnf
      refine hKz _ _ _ _ ?_
      rw [hA.2.1, nI_add, nI_1']
      exact ih
  refine go_T_pointsHeld (fun Kz hKz => ?_)
  conv => whnf
  refine hKz _ _ _ _ ?_
  exact lp 0 (Nat.zero_le _)
theorem c_count {c : Nat} (hc : c < 2 ^ 32) (hC : CS M S) (h0 : c = 0 → Z (some (zi (nI (cnt (fun m => decide (0 < (S.1 m).1)) 4)))) M) (h1 : c = 1 → Z (some (zi (nI (sumP S 4)))) M) (h2 : c = 2 → Z (some (zi (nI (S.2 0).length))) M) (h3 : c = 3 → Z (some (zi (nI (S.2 1).length))) M) (h4 : ¬ c < 4 → Z (some (zi (-1000002))) M) : Ctr 0 G mi_T_count [zr 5 0, zi (nI c)] M Z := by
  have b0 := hC.2.2.1 0 (by decide)
  have b1 := hC.2.2.1 1 (by decide)
  refine go_T_count (fun Kz hKz => ?_)
  conv => whnf
  refine ⟨fun (q : nI c = nI 0) => ?_, fun (q : ¬ nI c = nI 0) => ?_⟩
  · rw [n_eq hc (by decide)] at q
    conv => whnf
    refine s_T_mapsHeld hC ?_
    conv => whnf
    exact h0 q
  · rw [n_eq hc (by decide)] at q
    conv => whnf
    refine ⟨fun (q1 : nI c = nI 1) => ?_, fun (q1 : ¬ nI c = nI 1) => ?_⟩
    · rw [n_eq hc (by decide)] at q1
      conv => whnf
      refine s_T_pointsHeld hC ?_
      conv => whnf
      exact h1 q1
    · rw [n_eq hc (by decide)] at q1
      conv => whnf
      refine ⟨fun (q2 : nI c = nI 2) => ?_, fun (q2 : ¬ nI c = nI 2) => ?_⟩
      · rw [n_eq hc (by decide)] at q2
        conv => whnf
        refine s_T_braidAt (by decide) ?_
        conv => whnf
        refine ⟨by decide, ?_⟩
        refine s_BR_length (by decide) ?_
        conv => whnf
        rw [if_pos (by decide), b0.2.1]
        exact h2 q2
      · rw [n_eq hc (by decide)] at q2
        conv => whnf
        refine ⟨fun (q3 : nI c = nI 3) => ?_, fun (q3 : ¬ nI c = nI 3) => ?_⟩
        · rw [n_eq hc (by decide)] at q3
          conv => whnf
          refine s_T_braidAt (by decide) ?_
          conv => whnf
          refine ⟨by decide, ?_⟩
          refine s_BR_length (by decide) ?_
          conv => whnf
          rw [if_pos (by decide), b1.2.1]
          exact h3 q3
        · rw [n_eq hc (by decide)] at q3
          conv => whnf
          exact h4 (by omega)
end
end
section
/-! from each number to a smaller one; where that ends -/
def rtf (s : Nat → Nat) : Nat → Nat → Nat
  | 0, w => w
  | f + 1, w => if s w = w then w else rtf s f (s w)
def root (s : Nat → Nat) (w : Nat) : Nat := rtf s w w
def uwf (s : Nat → Nat) : Prop := ∀ w, s w ≤ w
theorem rtf_enough {s : Nat → Nat} (h : uwf s) : ∀ f g w, w ≤ f → w ≤ g → rtf s f w = rtf s g w := by
  intro f
  induction f with
  | zero =>
    intro g w h1 h2
    have e : w = 0 := by omega
    subst e
    cases g with
    | zero => rfl
    | succ g => rw [rtf, rtf, if_pos (Nat.le_zero.mp (h 0))]
  | succ f ih =>
    intro g w h1 h2
    cases g with
    | zero =>
      have e : w = 0 := by omega
      subst e
      rw [rtf, rtf, if_pos (Nat.le_zero.mp (h 0))]
    | succ g =>
      rw [rtf, rtf]
      by_cases q : s w = w
      · rw [if_pos q, if_pos q]
      · have := h w
        rw [if_neg q, if_neg q]
        exact ih g (s w) (by omega) (by omega)
theorem root_self {s : Nat → Nat} {w : Nat} (h : s w = w) : root s w = w := by
  unfold root
  cases w with
  | zero => rfl
  | succ w => rw [rtf, if_pos h]
theorem root_step {s : Nat → Nat} (h : uwf s) (w : Nat) : root s (s w) = root s w := by
  by_cases q : s w = w
  · rw [q]
  · have hw := h w
    obtain ⟨v, rfl⟩ : ∃ v, w = v + 1 := ⟨w - 1, by omega⟩
    show rtf s (s (v + 1)) (s (v + 1)) = rtf s (v + 1) (v + 1)
    rw [rtf, if_neg q]
    exact rtf_enough h _ _ _ (Nat.le_refl _) (by omega)
/-- what is as it is one step on, and at the ends, is the root -/
theorem root_uniq {s : Nat → Nat} (h : uwf s) {r : Nat → Nat} (h1 : ∀ w, r (s w) = r w) (h2 : ∀ w, s w = w → r w = w) : ∀ w, root s w = r w := by
  intro w
  induction w using Nat.strongRecOn with
  | _ w ih =>
    by_cases q : s w = w
    · rw [root_self q, h2 w q]
    · have hw := h w
      rw [← root_step h, ih (s w) (by omega), h1]
theorem root_end {s : Nat → Nat} (h : uwf s) : ∀ w, s (root s w) = root s w := by
  intro w
  induction w using Nat.strongRecOn with
  | _ w ih =>
    by_cases q : s w = w
    · rw [root_self q, q]
    · have hw := h w
      rw [← root_step h]
      exact ih (s w) (by omega)
theorem root_le {s : Nat → Nat} (h : uwf s) : ∀ w, root s w ≤ w := by
  intro w
  induction w using Nat.strongRecOn with
  | _ w ih =>
    by_cases q : s w = w
    · rw [root_self q]; exact Nat.le_refl _
    · have hw := h w
      have := ih (s w) (by omega)
      rw [root_step h] at this
      omega
def upN (s : Nat → Nat) (r v : Nat) : Nat → Nat := fun w => if w = r then v else s w
theorem uwf_upN {s : Nat → Nat} {r v : Nat} (h : uwf s) (hv : v ≤ r) : uwf (upN s r v) := fun w => by
  unfold upN
  split
  · omega
  · exact h w
/-- a shorter way has the same end -/
theorem root_half {s : Nat → Nat} (h : uwf s) (r : Nat) : ∀ w, root (upN s r (s (s r))) w = root s w := by
  have hr := h r
  have hr2 := h (s r)
  refine root_uniq (uwf_upN h (by omega)) (fun w => ?_) (fun w q => ?_)
  · unfold upN
    split
    · rename_i e; rw [e, root_step h, root_step h]
    · exact root_step h w
  · unfold upN at q
    split at q
    · rename_i e
      subst e
      exact root_self (by omega)
    · exact root_self q
/-- one end led to another -/
theorem root_join {s : Nat → Nat} (h : uwf s) {a b : Nat} (ha : s a = a) (hb : s b = b) (hab : a < b) : ∀ w, root (upN s b a) w = if root s w = b then a else root s w := by
  refine root_uniq (r := fun w => if root s w = b then a else root s w) (uwf_upN h (by omega)) (fun w => ?_) (fun w q => ?_)
  · unfold upN
    split
    · rename_i e
      show (if root s a = b then a else root s a) = if root s w = b then a else root s w
      rw [e, root_self ha, root_self hb, if_neg (by omega), if_pos rfl]
    · show (if root s (s w) = b then a else root s (s w)) = _
      rw [root_step h]
  · unfold upN at q
    split at q
    · omega
    · rename_i e
      show (if root s w = b then a else root s w) = w
      rw [root_self q, if_neg e]
def isU (M : ZM) (s : Nat → Nat) : Prop := ∀ w, w < 4096 → M.1 17 0 w = nI (s w)
def wcS : Nat → Nat → Prop := fun a b => (a = 16 ∨ a = 17) ∧ b = 0
def smS : Nat → Nat → Prop := fun a b => a = 17 ∧ b = 0
theorem isU_set {M : ZM} {s : Nat → Nat} {r v : Nat} (h : isU M s) : isU (zset 17 0 r (nI v) M) (upN s r v) := by
  intro w hw
  unfold upN
  by_cases e : w = r
  · rw [if_pos e, e, zset_eq]
  · rw [if_neg e, zset_ne (by omega)]; exact h w hw
theorem n_mask12 {x : Nat} (hx : x < 4096) : nI x &&& nI 4095 = nI x := by rw [n_and, show (4095 : Nat) = 2 ^ 12 - 1 from rfl, Nat.and_two_pow_sub_one_eq_mod, Nat.mod_eq_of_lt hx]
section
variable {G : ZG} {M : ZM} {Z : Option ZV → ZM → Prop}
theorem isU_same {M M' : ZM} {s : Nat → Nat} (h : isU M s) (hs : M'.1 17 0 = M.1 17 0) : isU M' s := fun w hw => by rw [hs]; exact h w hw
def jr (r : Nat → Nat) (a b v : Nat) : Nat := if r v = max (r a) (r b) then min (r a) (r b) else r v
theorem jr_same {r : Nat → Nat} {a b : Nat} (h : r a = r b) (v : Nat) : jr r a b v = r v := by
  unfold jr
  rw [h, Nat.max_self, Nat.min_self]
  split
  · rename_i q; exact q.symm
  · rfl
end
end
section
/-! words that are the same: no function that acting leaves as it is tells them apart -/
def vW (A : ZP) (k : Nat) (w : List Nat) : Prop := allB A.1 w ∧ w.length = k
def wEq (A : ZP) (k : Nat) (w v : List Nat) : Prop := ∀ f : List Nat → Nat, (∀ u i, vW A k u → i + 1 < k → f (act A i u) = f u) → f w = f v
theorem wEq_refl (A : ZP) (k : Nat) (w : List Nat) : wEq A k w w := fun _ _ => rfl
theorem wEq_symm {A : ZP} {k : Nat} {w v : List Nat} (h : wEq A k w v) : wEq A k v w := fun f hf => (h f hf).symm
theorem wEq_trans {A : ZP} {k : Nat} {u v w : List Nat} (h : wEq A k u v) (h' : wEq A k v w) : wEq A k u w := fun f hf => (h f hf).trans (h' f hf)
theorem wEq_act {A : ZP} {k i : Nat} {w : List Nat} (h : vW A k w) (hi : i + 1 < k) : wEq A k w (act A i w) := fun f hf => (hf w i h hi).symm
theorem vW_act {A : ZP} (hA : pwf A) {k i : Nat} {w : List Nat} (h : vW A k w) (hi : i + 1 < k) : vW A k (act A i w) := ⟨act_all hA h.1 (by rw [h.2]; exact hi), by rw [act_len (by rw [h.2]; exact hi), h.2]⟩
theorem vW_inj {A : ZP} (hA : pwf A) {k : Nat} {w v : List Nat} (h : vW A k w) (h' : vW A k v) (e : tcl w = tcl v) : w = v := by
  have := hA.1
  exact tcl_inj _ _ (by rw [h.2, h'.2]) (fun d hd => by have := h.1 d hd; omega) (fun d hd => by have := h'.1 d hd; omega) e
/-- the first of each class of words -/
def isLst (A : ZP) (k : Nat) (r : List Nat → List Nat) : Prop := ∀ w, vW A k w → vW A k (r w) ∧ wEq A k w (r w) ∧ ∀ v, vW A k v → wEq A k w v → tcl (r w) ≤ tcl v
theorem isLst_uniq {A : ZP} (hA : pwf A) {k : Nat} {r r' : List Nat → List Nat} (h : isLst A k r) (h' : isLst A k r') {w : List Nat} (hw : vW A k w) : r w = r' w := by
  have a := h w hw
  have b := h' w hw
  exact vW_inj hA a.1 b.1 (Nat.le_antisymm (a.2.2 _ b.1 b.2.1) (b.2.2 _ a.1 a.2.1))
/-- an s whose ends are words of the same class -/
def sound (A : ZP) (k : Nat) (s : Nat → Nat) : Prop := uwf s ∧ ∀ w, vW A k w → ∃ v, vW A k v ∧ root s (tcl w) = tcl v ∧ wEq A k w v
theorem sound_join {A : ZP} (hA : pwf A) {k i : Nat} {s s' : Nat → Nat} (h : sound A k s) (hs' : uwf s') {u : List Nat} (hu : vW A k u) (hi : i + 1 < k) (hr : ∀ v, root s' v = jr (root s) (tcl u) (tcl (act A i u)) v) : sound A k s' := by
  obtain ⟨a, ha1, ha2, ha3⟩ := h.2 u hu
  obtain ⟨b, hb1, hb2, hb3⟩ := h.2 _ (vW_act hA hu hi)
  have hab : wEq A k a b := wEq_trans (wEq_symm ha3) (wEq_trans (wEq_act hu hi) hb3)
  refine ⟨hs', fun w hw => ?_⟩
  obtain ⟨v, hv1, hv2, hv3⟩ := h.2 w hw
  rw [hr, jr, hv2, ha2, hb2]
  by_cases q : tcl v = max (tcl a) (tcl b)
  · rw [if_pos q]
    have hva : wEq A k v a := by
      rcases Nat.le_total (tcl a) (tcl b) with h1 | h1
      · rw [Nat.max_eq_right h1] at q
        rw [vW_inj hA hv1 hb1 q]
        exact wEq_symm hab
      · rw [Nat.max_eq_left h1] at q
        rw [vW_inj hA hv1 ha1 q]
        exact wEq_refl _ _ _
    rcases Nat.le_total (tcl a) (tcl b) with h1 | h1
    · exact ⟨a, ha1, Nat.min_eq_left h1, wEq_trans hv3 hva⟩
    · exact ⟨b, hb1, Nat.min_eq_right h1, wEq_trans hv3 (wEq_trans hva hab)⟩
  · rw [if_neg q]
    exact ⟨v, hv1, rfl, hv3⟩
/-- once joined, joined -/
theorem jr_keeps {r : Nat → Nat} {a b x y : Nat} (h : r x = r y) : jr r a b x = jr r a b y := by unfold jr; rw [h]
theorem jr_joins (r : Nat → Nat) (a b : Nat) : jr r a b a = jr r a b b := by
  unfold jr
  rcases Nat.le_total (r a) (r b) with h | h
  · rw [Nat.max_eq_right h, Nat.min_eq_left h, if_pos rfl]
    split <;> rfl
  · rw [Nat.max_eq_left h, Nat.min_eq_right h, if_pos rfl]
    split <;> rfl
/-- all joined: the ends are the first words -/
theorem root_lst {A : ZP} {k : Nat} {s : Nat → Nat} (h : sound A k s) (hj : ∀ u i, vW A k u → i + 1 < k → root s (tcl (act A i u)) = root s (tcl u)) : ∃ r, isLst A k r ∧ ∀ w, vW A k w → root s (tcl w) = tcl (r w) := by
  have hex : ∀ w, ∃ v, vW A k w → vW A k v ∧ root s (tcl w) = tcl v ∧ wEq A k w v := by
    intro w
    by_cases hw : vW A k w
    · obtain ⟨v, hv⟩ := h.2 w hw
      exact ⟨v, fun _ => hv⟩
    · exact ⟨w, fun q => absurd q hw⟩
  refine ⟨fun w => Classical.choose (hex w), fun w hw => ?_, fun w hw => (Classical.choose_spec (hex w) hw).2.1⟩
  have hv := Classical.choose_spec (hex w) hw
  refine ⟨hv.1, hv.2.2, fun u hu he => ?_⟩
  rw [← hv.2.1, he (fun w => root s (tcl w)) hj]
  exact root_le h.1 _
end
section
/-! braids on tuples -/
def fit (A : ZP) (w : List (Nat × Bool)) (s : Nat) : Prop := bstr w ≤ s ∧ (bcap w = true → pinj A)
def baS : Nat → Nat → Prop := fun a b => (a = 0 ∨ a = 1) ∧ (b = 8 ∨ b = 9)
/-- what prepare leaves -/
def isBA (M : ZM) (A : ZP) : Prop := isPM M 8 A ∧ (pinj A → isPM M 9 (pinv A))
noncomputable def ltr (A : ZP) (q : Nat × Bool) (u : List Nat) : List Nat := act (if q.2 = true then pinv A else A) q.1 u
noncomputable def brun (A : ZP) (w : List (Nat × Bool)) (u : List Nat) : List Nat := w.foldl (fun u q => ltr A q u) u
theorem bstr_mem : ∀ (w : List (Nat × Bool)) q, q ∈ w → q.1 + 2 ≤ bstr w := by
  intro w
  induction w with
  | nil => intro q h; cases h
  | cons a w ih =>
    intro q h
    rw [bstr]
    rcases List.mem_cons.mp h with h | h
    · rw [h]; exact Nat.le_max_left _ _
    · exact Nat.le_trans (ih q h) (Nat.le_max_right _ _)
theorem fit_letter {A : ZP} {w : List (Nat × Bool)} {s : Nat} (h : fit A w s) : ∀ q ∈ w, q.1 + 2 ≤ s ∧ (q.2 = true → pinj A) := by
  intro q hq
  refine ⟨Nat.le_trans (bstr_mem w q hq) h.1, fun hc => h.2 ?_⟩
  exact List.any_eq_true.mpr ⟨q, hq, hc⟩
theorem ltr_vW {A : ZP} (hA : pwf A) {s : Nat} {q : Nat × Bool} {u : List Nat} (hq : q.1 + 2 ≤ s ∧ (q.2 = true → pinj A)) (hu : vW A s u) : vW A s (ltr A q u) := by
  unfold ltr
  cases hc : q.2 with
  | false => rw [if_neg (by decide)]; exact vW_act hA hu (by omega)
  | true =>
    rw [if_pos rfl]
    exact vW_act (A := pinv A) (pinv_wf hA (hq.2 hc)) hu (by omega)
theorem brun_vW {A : ZP} (hA : pwf A) {s : Nat} : ∀ (w : List (Nat × Bool)) (u : List Nat), (∀ q ∈ w, q.1 + 2 ≤ s ∧ (q.2 = true → pinj A)) → vW A s u → vW A s (brun A w u) := by
  intro w
  induction w with
  | nil => intro u _ h; exact h
  | cons a w ih =>
    intro u h hu
    exact ih _ (fun q hq => h q (List.mem_cons_of_mem _ hq)) (ltr_vW hA (h a (List.mem_cons_self ..)) hu)
theorem brun_take {A : ZP} {w : List (Nat × Bool)} {u : List Nat} {i : Nat} {q : Nat × Bool} (h : w[i]? = some q) : brun A (w.take (i + 1)) u = ltr A q (brun A (w.take i) u) := by
  unfold brun
  rw [List.take_succ, h, Option.toList_some, List.foldl_append]
  rfl
section
variable {G : ZG} {M : ZM} {Z : Option ZV → ZM → Prop}
end
end
section
/-! Arrays.fill of a row of longs -/
theorem zsetL_eq {a b c : Nat} {v : Int64} {M : ZM} : (zsetL a b c v M).2 a b c = v := by simp [zsetL]
theorem zsetL_ne {a b c x y z : Nat} {v : Int64} {M : ZM} (h : ¬ (x = a ∧ y = b ∧ z = c)) : (zsetL a b c v M).2 x y z = M.2 x y z := by simp only [zsetL]; rw [if_neg h]
/-- nothing but the longs of kind k has changed -/
def zsl (k : Nat) (M M' : ZM) : Prop := M'.1 = M.1 ∧ ∀ a b c, ¬ (a = k ∧ b = 0) → M'.2 a b c = M.2 a b c
theorem zsl_refl (k : Nat) (M : ZM) : zsl k M M := ⟨rfl, fun _ _ _ _ => rfl⟩
theorem zsl_trans {k : Nat} {M M' M'' : ZM} (h : zsl k M M') (h' : zsl k M' M'') : zsl k M M'' := ⟨h'.1.trans h.1, fun a b c q => (h'.2 a b c q).trans (h.2 a b c q)⟩
theorem zsl_set {k j : Nat} {v : Int64} {M : ZM} : zsl k M (zsetL k 0 j v M) := ⟨rfl, fun a b c q => zsetL_ne (fun w => q ⟨w.1, w.2.1⟩)⟩
section
variable {G : ZG} {M : ZM} {Z : Option ZV → ZM → Prop}
theorem s_JA_fill19 {v : Int64} (hZ : ∀ M', zsl 19 M M' → (∀ i, i < 64 → M'.2 19 0 i = v) → Z none M') : Ctr 0 G mi_JA_fill [zr 19 0, zl v] M Z := by
  have lp : ∀ i, i ≤ 64 → ∀ M', zsl 19 M M' → (∀ j, j < i → M'.2 19 0 j = v) → V 0 G mi_JA_fill Z 6 [(0, zr 19 0), (1, zl v), (3, zi (nI i)), (4, zi (nI 64))] [] M' := by
    refine up_to ?_ ?_
    · intro M' g1 g2
      refine z_run (cuts := cu_JA_fill) ok_JA_fill (fun Kz hKz => ?_)
      conv => whnf
      first | refine ⟨fun _ => ?_, fun q => absurd (by decide) q⟩ | refine ⟨fun q => absurd q (by decide), fun _ => ?_⟩
      conv => whnf
      exact hZ M' g1 g2
    · intro i hi ih M' g1 g2
      refine z_run (cuts := cu_JA_fill) ok_JA_fill (fun Kz hKz => ?_)
      conv => whnf
      rw [nI_leI (by omega) (by omega)]
      refine ⟨fun q => absurd q (by omega), fun _ => ?_⟩
      conv => whnf
      refine ⟨vp_in_nI hi (by decide), ?_⟩
      conv => whnf
      refine hKz _ _ _ _ ?_
      rw [nI_clamp (by omega), nI_1']
      refine ih _ (zsl_trans g1 zsl_set) (fun j hj => ?_)
      rcases Nat.lt_succ_iff_lt_or_eq.mp hj with hj | rfl
      · rw [zsetL_ne (by omega)]; exact g2 j hj
      · exact zsetL_eq
  refine go_JA_fill (fun Kz hKz => ?_)
  conv => whnf
  refine hKz _ _ _ _ ?_
  exact lp 0 (Nat.zero_le _) M (zsl_refl _ _) (fun j hj => absurd hj (Nat.not_lt_zero _))
theorem s_JA_fill15 {v : Int64} (hZ : ∀ M', zsl 15 M M' → (∀ i, i < 512 → M'.2 15 0 i = v) → Z none M') : Ctr 0 G mi_JA_fill [zr 15 0, zl v] M Z := by
  have lp : ∀ i, i ≤ 512 → ∀ M', zsl 15 M M' → (∀ j, j < i → M'.2 15 0 j = v) → V 0 G mi_JA_fill Z 6 [(0, zr 15 0), (1, zl v), (3, zi (nI i)), (4, zi (nI 512))] [] M' := by
    refine up_to ?_ ?_
    · intro M' g1 g2
      refine z_run (cuts := cu_JA_fill) ok_JA_fill (fun Kz hKz => ?_)
      conv => whnf
      first | refine ⟨fun _ => ?_, fun q => absurd (by decide) q⟩ | refine ⟨fun q => absurd q (by decide), fun _ => ?_⟩
      conv => whnf
      exact hZ M' g1 g2
    · intro i hi ih M' g1 g2
      refine z_run (cuts := cu_JA_fill) ok_JA_fill (fun Kz hKz => ?_)
      conv => whnf
      rw [nI_leI (by omega) (by omega)]
      refine ⟨fun q => absurd q (by omega), fun _ => ?_⟩
      conv => whnf
      refine ⟨vp_in_nI hi (by decide), ?_⟩
      conv => whnf
      refine hKz _ _ _ _ ?_
      rw [nI_clamp (by omega), nI_1']
      refine ih _ (zsl_trans g1 zsl_set) (fun j hj => ?_)
      rcases Nat.lt_succ_iff_lt_or_eq.mp hj with hj | rfl
      · rw [zsetL_ne (by omega)]; exact g2 j hj
      · exact zsetL_eq
  refine go_JA_fill (fun Kz hKz => ?_)
  conv => whnf
  refine hKz _ _ _ _ ?_
  exact lp 0 (Nat.zero_le _) M (zsl_refl _ _) (fun j hj => absurd hj (Nat.not_lt_zero _))
end
end
section
/-! bits of longs; how often a braid acts until all is back -/
theorem lc_eq (x y : Int64) : lg_cmp x y = nI 0 ↔ x = y := by rw [nI_0]; exact lg_cmp_eq x y
theorem l_sh63 {v : Nat} (hv : v < 2 ^ 31) : (nI v).toInt64 &&& 63 = (nI (v % 64)).toInt64 &&& 63 := by
  rw [nI_l hv, nI_l (by omega)]
  show lN v &&& lN 63 = lN (v % 64) &&& lN 63
  rw [l_and, l_and, show (63 : Nat) = 2 ^ 6 - 1 from rfl, Nat.and_two_pow_sub_one_eq_mod, Nat.and_two_pow_sub_one_eq_mod, show (2 : Nat) ^ 6 = 64 from rfl, Nat.mod_mod]
theorem l_bit (m k : Nat) (hk : k < 64) : lN m >>> ((nI k).toInt64 &&& 63) &&& lN 1 = lN (m.testBit k).toNat := l_ext (by
  rw [Int64.toBitVec_and, Int64.toBitVec_shiftRight, l_bv, l_bv, l_bv]
  have h := l_sm k hk
  apply BitVec.eq_of_getLsbD_eq
  intro j hj
  rw [BitVec.getLsbD_and]
  rcases Nat.eq_zero_or_pos j with rfl | h0
  · show (((BitVec.ofNat 64 m).sshiftRight (((nI k).toInt64 &&& 63).toBitVec.smod 64).toNat).getLsbD 0 && _) = _
    rw [h, BitVec.getLsbD_sshiftRight]
    have e : k + 0 < 64 := by omega
    have e2 : ¬ 64 ≤ 0 := by omega
    have e3 : (BitVec.ofNat 64 m).getLsbD k = m.testBit k := by rw [BitVec.getLsbD_ofNat, decide_eq_true hk, Bool.true_and]
    rw [decide_eq_false e2, Bool.not_false, Bool.true_and, if_pos e, Nat.add_zero, e3]
    cases m.testBit k <;> simp
  · have h1 : (BitVec.ofNat 64 1).getLsbD j = false := by
      rw [BitVec.getLsbD_ofNat, Bool.eq_false_iff.mpr (fun q => absurd (Nat.testBit_one_eq_true_iff_self_eq_zero.mp q) (by omega)), Bool.and_false]
    have h2 : (BitVec.ofNat 64 (m.testBit k).toNat).getLsbD j = false := by
      cases m.testBit k
      · simp
      · exact h1
    rw [h1, h2, Bool.and_false])
def itT (f : List Nat → List Nat) (u : List Nat) : Nat → List Nat
  | 0 => u
  | k + 1 => f (itT f u k)
theorem itT_add (f : List Nat → List Nat) (u : List Nat) (a : Nat) : ∀ b, itT f u (a + b) = itT f (itT f u a) b := by
  intro b
  induction b with
  | zero => rfl
  | succ b ih => rw [← Nat.add_assoc, itT, ih, itT]
theorem itT_mul {f : List Nat → List Nat} {u : List Nat} {c : Nat} (h : itT f u c = u) : ∀ q, itT f u (c * q) = u := by
  intro q
  induction q with
  | zero => rfl
  | succ q ih => rw [Nat.mul_succ, itT_add, ih, h]
theorem itT_dvd {f : List Nat → List Nat} {u : List Nat} {c : Nat} (h0 : 1 ≤ c) (h : itT f u c = u) (hm : ∀ d, 1 ≤ d → d < c → itT f u d ≠ u) (d : Nat) : itT f u d = u ↔ c ∣ d := by
  constructor
  · intro hd
    have h1 := Nat.mod_lt d (show c > 0 by omega)
    have h2 := Nat.div_add_mod d c
    rw [← h2, itT_add, itT_mul h] at hd
    rcases Nat.eq_zero_or_pos (d % c) with q | q
    · exact Nat.dvd_of_mod_eq_zero q
    · exact absurd hd (hm _ q h1)
  · rintro ⟨q, rfl⟩
    exact itT_mul h q
/-- after d times all tuples are back -/
noncomputable def backs (A : ZP) (w : List (Nat × Bool)) (s n d : Nat) : Prop := ∀ j, j < n → itT (brun A w) (dgl A.1 s j) d = dgl A.1 s j
def isSn (M : ZM) (U : Nat → Bool) : Prop := ∀ q, q < 64 → ∃ m, m < 2 ^ 64 ∧ M.2 19 0 q = lN m ∧ ∀ b, b < 64 → m.testBit b = U (64 * q + b)
theorem isBA_l {M M' : ZM} {A : ZP} (h : isBA M A) (hM : M'.1 = M.1) : isBA M' A := ⟨isPM_eq h.1 (by rw [hM]) (by rw [hM]), fun q => isPM_eq (h.2 q) (by rw [hM]) (by rw [hM])⟩
theorem isBR_l {M M' : ZM} {b : Nat} {w : List (Nat × Bool)} (h : isBR M b w) (hM : M'.1 = M.1) : isBR M' b w := isBR_eq h (by rw [hM]) (by rw [hM]) (by rw [hM])
theorem itT_vW {A : ZP} (hA : pwf A) {s : Nat} {w : List (Nat × Bool)} (hf : fit A w s) {u : List Nat} (hu : vW A s u) : ∀ k, vW A s (itT (brun A w) u k) := by
  intro k
  induction k with
  | zero => exact hu
  | succ k ih => exact brun_vW hA w _ (fit_letter hf) ih
section
variable {G : ZG} {M : ZM} {Z : Option ZV → ZM → Prop} {S : ZS}
end
end
section
/-! the number of a permutation: how many lesser ones stand behind each -/
def les (d : Nat → Nat) (i : Nat) : Nat → Nat
  | 0 => 0
  | k + 1 => les d i k + (if d (i + 1 + k) < d i then 1 else 0)
def lm (d : Nat → Nat) (n : Nat) : Nat → Nat
  | 0 => 0
  | i + 1 => lm d n i * (n - i) + les d i (n - 1 - i)
def msk (d : Nat → Nat) (i : Nat) : Nat → Nat
  | 0 => 0
  | k + 1 => if d (i + 1 + k) < d i then msk d i k ||| 2 ^ d (i + 1 + k) else msk d i k
def df (n : Nat) : Nat → Nat
  | 0 => 1
  | i + 1 => df n i * (n - i)
theorem les_le (d : Nat → Nat) (i : Nat) : ∀ k, les d i k ≤ k := by
  intro k
  induction k with
  | zero => exact Nat.le_refl _
  | succ k ih =>
    rw [les]
    split <;> omega
theorem lm_lt (d : Nat → Nat) (n : Nat) : ∀ i, i ≤ n → lm d n i < df n i := by
  intro i
  induction i with
  | zero => intro _; exact Nat.one_pos
  | succ i ih =>
    intro h
    have h1 := ih (by omega)
    have h2 := les_le d i (n - 1 - i)
    have h3 : (lm d n i + 1) * (n - i) ≤ df n i * (n - i) := Nat.mul_le_mul_right _ h1
    rw [Nat.add_mul] at h3
    rw [lm, df]
    omega
theorem df_le : ∀ n, n ≤ 6 → df n n ≤ 720 := by decide
theorem msk_bit (d : Nat → Nat) (i : Nat) : ∀ k v, (msk d i k).testBit v = true ↔ ∃ j, j < k ∧ d (i + 1 + j) < d i ∧ d (i + 1 + j) = v := by
  intro k
  induction k with
  | zero => intro v; rw [msk, Nat.zero_testBit]; exact ⟨fun h => (by cases h), fun ⟨j, h, _⟩ => absurd h (Nat.not_lt_zero _)⟩
  | succ k ih =>
    intro v
    rw [msk]
    by_cases q : d (i + 1 + k) < d i
    · rw [if_pos q, Nat.testBit_or, Nat.testBit_two_pow, Bool.or_eq_true, ih v]
      constructor
      · rintro (⟨j, h1, h2⟩ | h)
        · exact ⟨j, by omega, h2⟩
        · exact ⟨k, by omega, q, of_decide_eq_true h⟩
      · rintro ⟨j, h1, h2, h3⟩
        rcases Nat.lt_succ_iff_lt_or_eq.mp h1 with h1 | rfl
        · exact Or.inl ⟨j, h1, h2, h3⟩
        · exact Or.inr (decide_eq_true h3)
    · rw [if_neg q, ih v]
      constructor
      · rintro ⟨j, h1, h2⟩
        exact ⟨j, by omega, h2⟩
      · rintro ⟨j, h1, h2, h3⟩
        rcases Nat.lt_succ_iff_lt_or_eq.mp h1 with h1 | rfl
        · exact ⟨j, h1, h2, h3⟩
        · exact absurd h2 q
theorem bct_msk {d : Nat → Nat} {i : Nat} : ∀ k, (∀ a b, a < i + 1 + k → b < i + 1 + k → d a = d b → a = b) → (∀ a, a < i + 1 + k → d a < 8) → bct (msk d i k) 8 = les d i k := by
  intro k
  induction k with
  | zero => intro _ _; show bct 0 8 = 0; decide
  | succ k ih =>
    intro h1 h2
    have h3 := ih (fun a b ha hb => h1 a b (by omega) (by omega)) (fun a ha => h2 a (by omega))
    rw [msk, les]
    by_cases q : d (i + 1 + k) < d i
    · have hb : ¬ (msk d i k).testBit (d (i + 1 + k)) = true := by
        rw [msk_bit]
        rintro ⟨j, g1, g2, g3⟩
        have := h1 (i + 1 + j) (i + 1 + k) (by omega) (by omega) g3
        omega
      rw [if_pos q, if_pos q, bct_or, if_pos (h2 _ (by omega)), if_neg hb, h3]
    · rw [if_neg q, if_neg q, h3]
      rfl
theorem les_lt {d e : Nat → Nat} {n i : Nat} (hi : i < n) (h8 : n ≤ 8) (d1 : ∀ a, a < n → d a < n) (d2 : ∀ a b, a < n → b < n → d a = d b → a = b) (e1 : ∀ a, a < n → e a < n) (e2 : ∀ a b, a < n → b < n → e a = e b → a = b) (hag : ∀ j, j < i → d j = e j) (hlt : d i < e i) : les d i (n - 1 - i) < les e i (n - 1 - i) := by
  rw [← bct_msk (n - 1 - i) (fun a b ha hb => d2 a b (by omega) (by omega)) (fun a ha => by have := d1 a (by omega); omega), ← bct_msk (n - 1 - i) (fun a b ha hb => e2 a b (by omega) (by omega)) (fun a ha => by have := e1 a (by omega); omega)]
  have hs := inj_surj e1 e2
  refine bct_strict (fun v hv => ?_) 8 ⟨d i, by have := d1 i hi; omega, ?_, ?_⟩
  · obtain ⟨j, h1, h2, h3⟩ := (msk_bit d i _ v).mp hv
    obtain ⟨p, hp, hpe⟩ := hs v (by have := d1 (i + 1 + j) (by omega); omega)
    rw [msk_bit]
    have hip : i < p := by
      rcases Nat.lt_trichotomy p i with q | q | q
      · have := d2 p (i + 1 + j) hp (by omega) (by rw [hag p q, hpe, h3])
        omega
      · rw [q] at hpe; omega
      · exact q
    refine ⟨p - (i + 1), by omega, ?_, ?_⟩
    · rw [show i + 1 + (p - (i + 1)) = p by omega, hpe]; omega
    · rw [show i + 1 + (p - (i + 1)) = p by omega, hpe]
  · rw [Bool.eq_false_iff]
    intro q
    obtain ⟨j, h1, h2, h3⟩ := (msk_bit d i _ _).mp q
    omega
  · obtain ⟨p, hp, hpe⟩ := hs (d i) (d1 i hi)
    rw [msk_bit]
    have hip : i < p := by
      rcases Nat.lt_trichotomy p i with q | q | q
      · have := d2 p i hp hi (by rw [hag p q, hpe])
        omega
      · rw [q] at hpe; omega
      · exact q
    refine ⟨p - (i + 1), by omega, ?_, ?_⟩
    · rw [show i + 1 + (p - (i + 1)) = p by omega, hpe]; exact hlt
    · rw [show i + 1 + (p - (i + 1)) = p by omega, hpe]
theorem lm_back {d e : Nat → Nat} {n : Nat} (h : lm d n n = lm e n n) : ∀ i, i ≤ n → lm d n i = lm e n i := by
  refine up_to h ?_
  intro i hi ih
  have h1 := les_le d i (n - 1 - i)
  have h2 := les_le e i (n - 1 - i)
  rw [lm, lm] at ih
  have g := congrArg (· / (n - i)) ih
  simp only [Nat.mul_comm _ (n - i), Nat.mul_add_div (show 0 < n - i by omega), Nat.div_eq_of_lt (show les d i (n - 1 - i) < n - i by omega), Nat.div_eq_of_lt (show les e i (n - 1 - i) < n - i by omega), Nat.add_zero] at g
  exact g
theorem lm_inj {d e : Nat → Nat} {n : Nat} (h8 : n ≤ 8) (d1 : ∀ a, a < n → d a < n) (d2 : ∀ a b, a < n → b < n → d a = d b → a = b) (e1 : ∀ a, a < n → e a < n) (e2 : ∀ a b, a < n → b < n → e a = e b → a = b) (h : lm d n n = lm e n n) : ∀ i, i < n → d i = e i := by
  intro i
  induction i using Nat.strongRecOn with
  | _ i ih =>
    intro hi
    have hag : ∀ j, j < i → d j = e j := fun j hj => ih j hj (by omega)
    have g := lm_back h (i + 1) (by omega)
    rw [lm, lm, lm_back h i (by omega)] at g
    rcases Nat.lt_trichotomy (d i) (e i) with q | q | q
    · have := les_lt hi h8 d1 d2 e1 e2 hag q
      omega
    · exact q
    · have := les_lt hi h8 e1 e2 d1 d2 (fun j hj => (hag j hj).symm) q
      omega
/-! permutations as lists -/
def wp (w : List Nat) (n : Nat) : Prop := wv w n ∧ ∀ i j, i < n → j < n → gw w i = gw w j → i = j
theorem gw_ext {w v : List Nat} {n : Nat} (hw : w.length = n) (hv : v.length = n) (h : ∀ i, i < n → gw w i = gw v i) : w = v := by
  apply List.ext_getElem?
  intro i
  rcases Nat.lt_or_ge i n with q | q
  · have := h i q
    unfold gw at this
    rw [List.getD_eq_getElem?_getD, List.getD_eq_getElem?_getD, List.getElem?_eq_getElem (by omega), List.getElem?_eq_getElem (by omega)] at this
    rw [List.getElem?_eq_getElem (by omega), List.getElem?_eq_getElem (by omega)]
    exact congrArg some this
  · rw [List.getElem?_eq_none (by omega), List.getElem?_eq_none (by omega)]
theorem wp_lm {w v : List Nat} {n : Nat} (h6 : n ≤ 6) (hw : wp w n) (hv : wp v n) (h : lm (gw w) n n = lm (gw v) n n) : w = v :=
  gw_ext hw.1.1 hv.1.1 (lm_inj (by omega) hw.1.2 hw.2 hv.1.2 hv.2 h)
theorem wp_count {n : Nat} (h6 : n ≤ 6) {L : List (List Nat)} (hL : ∀ w ∈ L, wp w n) (hN : L.Nodup) : L.length ≤ df n n := by
  refine Classical.byContradiction fun hno => ?_
  have hg : ∀ i, i < L.length → L.getD i [] ∈ L := fun i hi => by
    rw [List.getD_eq_getElem?_getD, List.getElem?_eq_getElem hi]
    exact List.getElem_mem hi
  obtain ⟨i, j, h1, h2, h3⟩ := php (df n n) (fun i => lm (gw (L.getD i [])) n n) (fun i _ => lm_lt _ n n (Nat.le_refl _))
  have h4 := wp_lm h6 (hL _ (hg i (by omega))) (hL _ (hg j (by omega))) h3
  rw [List.getD_eq_getElem?_getD, List.getD_eq_getElem?_getD, List.getElem?_eq_getElem (by omega), List.getElem?_eq_getElem (by omega)] at h4
  have h5 := (List.getElem_inj hN).mp h4
  omega
theorem gw_map {w : List Nat} {f : Nat → Nat} {i : Nat} (hi : i < w.length) : gw (w.map f) i = f (gw w i) := by
  unfold gw
  rw [List.getD_eq_getElem?_getD, List.getD_eq_getElem?_getD, List.getElem?_map, List.getElem?_eq_getElem hi]
  rfl
theorem wp_id (n : Nat) : wp (List.range n) n := by
  have h : ∀ i, i < n → gw (List.range n) i = i := fun i hi => by simp [gw, hi]
  exact ⟨⟨List.length_range, fun x hx => by rw [h x hx]; exact hx⟩, fun i j hi hj e => by rwa [h i hi, h j hj] at e⟩
theorem plnd_inj {A : ZP} (hA : pwf A) : plnd A ↔ ∀ x, x < A.1 → ∀ i j, i < A.1 → j < A.1 → A.2.1 x i = A.2.1 x j → i = j := by
  constructor
  · intro h x hx
    exact (orf_full fun y hy => (hA.2 x y hx hy).1).mp (h x hx)
  · intro h x hx
    exact (orf_full fun y hy => (hA.2 x y hx hy).1).mpr (h x hx)
theorem wp_next {A : ZP} (hA : pwf A) (hl : plnd A) {w : List Nat} (hw : wp w A.1) {x : Nat} (hx : x < A.1) : wp (w.map (A.2.1 x)) A.1 := by
  have hr := (plnd_inj hA).mp hl x hx
  refine ⟨⟨by rw [List.length_map]; exact hw.1.1, fun y hy => ?_⟩, fun i j hi hj e => ?_⟩
  · rw [gw_map (by rw [hw.1.1]; exact hy)]
    exact (hA.2 x _ hx (hw.1.2 y hy)).1
  · rw [gw_map (by rw [hw.1.1]; exact hi), gw_map (by rw [hw.1.1]; exact hj)] at e
    exact hw.2 i j hi hj (hr _ _ (hw.1.2 i hi) (hw.1.2 j hj) e)
/-- the group that the rows generate, each element once -/
def isGen (A : ZP) (L : List (List Nat)) : Prop := L.Nodup ∧ List.range A.1 ∈ L ∧ (∀ w, w ∈ L → ∀ x, x < A.1 → w.map (A.2.1 x) ∈ L) ∧ ∀ P : List Nat → Prop, P (List.range A.1) → (∀ w, P w → ∀ x, x < A.1 → P (w.map (A.2.1 x))) → ∀ w, w ∈ L → P w
theorem isGen_uniq {A : ZP} {L K : List (List Nat)} (h : isGen A L) (h' : isGen A K) : L.length = K.length :=
  List.Perm.length_eq ((List.perm_ext_iff_of_nodup h.1 h'.1).mpr fun w => ⟨h.2.2.2 (fun w => w ∈ K) h'.2.1 h'.2.2.1 w, h'.2.2.2 (fun w => w ∈ L) h.2.1 h.2.2.1 w⟩)
end
section
/-! RowGroup: the group that the rows generate -/
def x6 (w : List Nat) : List Nat := w ++ (List.range 6).drop w.length
theorem x6_len {w : List Nat} (h : w.length ≤ 6) : (x6 w).length = 6 := by simp [x6]; omega
theorem gw_x6 {w : List Nat} (h : w.length ≤ 6) {y : Nat} (hy : y < 6) : gw (x6 w) y = if y < w.length then gw w y else y := by
  unfold gw x6
  by_cases q : y < w.length
  · rw [if_pos q, List.getD_eq_getElem?_getD, List.getD_eq_getElem?_getD, List.getElem?_append_left q]
  · rw [if_neg q, List.getD_eq_getElem?_getD, List.getElem?_append_right (by omega), List.getElem?_drop, List.getElem?_range (by omega)]
    show w.length + (y - w.length) = y
    omega
theorem gw_x6_lt {w : List Nat} {n : Nat} (h : wv w n) (h6 : n ≤ 6) : ∀ y, gw (x6 w) y < 8 := by
  intro y
  have hl : w.length ≤ 6 := by rw [h.1]; exact h6
  rcases Nat.lt_or_ge y 6 with q | q
  · rw [gw_x6 hl q]
    split
    · have := h.2 y (by rw [← h.1]; assumption); omega
    · omega
  · rw [gw_out (by rw [x6_len hl]; exact q)]; decide
theorem codW_add {w : List Nat} (h : ∀ x, gw w x < 8) (n : Nat) : codW w (n + 1) = codW w n + 8 ^ n * gw w n := by
  have h1 := codW_lt h n
  have e : (8 : Nat) ^ n = 2 ^ (3 * n) := by rw [Nat.pow_mul]
  rw [codW, e, Nat.mul_comm, Nat.or_comm, ← Nat.two_pow_add_eq_or_of_lt (by rw [← e]; exact h1), Nat.add_comm]
theorem codW_dig {w : List Nat} (h : ∀ x, gw w x < 8) : ∀ n i, i < n → codW w n / 8 ^ i % 8 = gw w i := by
  intro n
  induction n with
  | zero => intro i hi; exact absurd hi (Nat.not_lt_zero _)
  | succ n ih =>
    intro i hi
    rw [codW_add h]
    rcases Nat.lt_succ_iff_lt_or_eq.mp hi with hi | rfl
    · obtain ⟨k, rfl⟩ : ∃ k, n = i + 1 + k := ⟨n - i - 1, by omega⟩
      rw [← ih i hi, show (8 : Nat) ^ (i + 1 + k) * gw w (i + 1 + k) = 8 ^ i * (8 * (8 ^ k * gw w (i + 1 + k))) by rw [Nat.pow_add, Nat.pow_add, Nat.pow_one]; simp only [Nat.mul_assoc], Nat.add_comm, Nat.mul_add_div (Nat.pow_pos (by decide)), Nat.mul_add_mod]
    · rw [Nat.add_comm, Nat.mul_add_div (Nat.pow_pos (by decide)), Nat.div_eq_of_lt (codW_lt h i), Nat.add_zero, Nat.mod_eq_of_lt (h i)]
theorem codW_mod {w : List Nat} (h : ∀ x, gw w x < 8) (n : Nat) : codW w (n + 1) % 8 ^ n = codW w n := by
  rw [codW_add h, Nat.add_mul_mod_self_left, Nat.mod_eq_of_lt (codW_lt h n)]
def kn (w : List Nat) : Nat := codW (x6 w) 5
theorem kn_inj {w v : List Nat} {n : Nat} (h6 : n ≤ 6) (hw : wp w n) (hv : wp v n) (h : kn w = kn v) : w = v := by
  have lw : w.length ≤ 6 := by rw [hw.1.1]; exact h6
  have lv : v.length ≤ 6 := by rw [hv.1.1]; exact h6
  have e : ∀ i, i < 5 → i < n → gw w i = gw v i := by
    intro i hi hin
    have g1 := codW_dig (gw_x6_lt hw.1 h6) 5 i hi
    have g2 := codW_dig (gw_x6_lt hv.1 h6) 5 i hi
    unfold kn at h
    rw [h, g2, gw_x6 lw (by omega), gw_x6 lv (by omega), if_pos (by rw [hv.1.1]; exact hin), if_pos (by rw [hw.1.1]; exact hin)] at g1
    exact g1.symm
  refine gw_ext hw.1.1 hv.1.1 (fun i hi => ?_)
  rcases Nat.lt_or_ge i 5 with q | q
  · exact e i q hi
  · have hi5 : i = 5 := by omega
    subst hi5
    obtain ⟨p, hp, hpe⟩ := inj_surj hw.1.2 hw.2 (gw v 5) (hv.1.2 5 hi)
    rcases Nat.lt_or_ge p 5 with q2 | q2
    · have := hv.2 p 5 hp hi (by rw [← e p q2 hp, hpe])
      omega
    · rw [show p = 5 by omega] at hpe
      exact hpe
theorem kn_lt {w : List Nat} {n : Nat} (h : wv w n) (h6 : n ≤ 6) : kn w < 32768 := codW_lt (gw_x6_lt h h6) 5
theorem and_bit (m b : Nat) : m &&& 2 ^ b = 0 ↔ m.testBit b = false := by
  constructor
  · intro h
    have h2 := congrArg (fun x => x.testBit b) h
    simp only [Nat.testBit_and, Nat.testBit_two_pow, Nat.zero_testBit, decide_true, Bool.and_true] at h2
    exact h2
  · intro h
    apply Nat.eq_of_testBit_eq
    intro i
    rw [Nat.testBit_and, Nat.testBit_two_pow, Nat.zero_testBit]
    by_cases e : b = i
    · rw [← e, h, Bool.false_and]
    · rw [decide_eq_false e, Bool.and_false]
/-- nothing but RowGroup's cells has changed -/
def grs (M M' : ZM) : Prop := (∀ a b, ¬ ((a = 13 ∨ a = 14) ∧ b = 0) → M'.1 a b = M.1 a b) ∧ ∀ a b c, ¬ (a = 15 ∧ b = 0) → M'.2 a b c = M.2 a b c
theorem grs_refl (M : ZM) : grs M M := ⟨fun _ _ _ => rfl, fun _ _ _ _ => rfl⟩
theorem grs_trans {M M' M'' : ZM} (h : grs M M') (h' : grs M' M'') : grs M M'' := ⟨fun a b q => (h'.1 a b q).trans (h.1 a b q), fun a b c q => (h'.2 a b c q).trans (h.2 a b c q)⟩
theorem grs_set {a c : Nat} {v : Int32} {M : ZM} (h : a = 13 ∨ a = 14) : grs M (zset a 0 c v M) := ⟨fun x y q => by
  funext z
  simp only [zset]
  rw [if_neg (fun w => q ⟨by rw [w.1]; exact h, w.2.1⟩)], fun _ _ _ _ => rfl⟩
theorem grs_l {M M' : ZM} (h : zsl 15 M M') : grs M M' := ⟨fun a b _ => by rw [h.1], h.2⟩
theorem isPM_gr {M M' : ZM} {k : Nat} {A : ZP} (h : isPM M k A) (hs : grs M M') : isPM M' k A := isPM_eq h (hs.1 0 k (by omega)) (hs.1 1 k (by omega))
def gst (M : ZM) (L : List (List Nat)) : Prop := M.1 13 0 2 = nI L.length ∧ (∀ i w, L[i]? = some w → M.1 14 0 i = nI (codW (x6 w) 6)) ∧ ∀ q, q < 512 → ∃ m, m < 2 ^ 64 ∧ M.2 15 0 q = lN m ∧ ∀ b, b < 64 → (m.testBit b = true ↔ ∃ w, w ∈ L ∧ kn w = 64 * q + b)
section
variable {G : ZG} {M : ZM} {Z : Option ZV → ZM → Prop}
theorem s_RG_followedBy {k x : Nat} {A : ZP} {w : List Nat} (hk : k < 10) (hA : isPM M k A) (hw : wv w A.1) (hx : x < A.1) (hZ : Z (some (zi (nI (codW (x6 (w.map (A.2.1 x))) 6)))) M) : Ctr 0 G mi_RG_followedBy [zi (nI (codW (x6 w) 6)), zr 0 k, zi (nI x)] M Z := by
  have hn := hA.1.1
  have h8 := gw_x6_lt hw hn
  have hc := codW_lt h8 6
  have hl : w.length ≤ 6 := by rw [hw.1]; exact hn
  have hl2 : (w.map (A.2.1 x)).length ≤ 6 := by rw [List.length_map]; exact hl
  have lp : ∀ i, i ≤ 6 → V 0 G mi_RG_followedBy Z 11 [(0, zi (nI (codW (x6 w) 6))), (1, zr 0 k), (2, zi (nI x)), (3, zi (nI A.1)), (4, zi (nI (codW (x6 (w.map (A.2.1 x))) i))), (5, zi (nI i))] [] M := by
    refine up_to ?_ ?_
    · refine z_run (cuts := cu_RG_followedBy) ok_RG_followedBy (fun Kz hKz => ?_)
      conv => whnf
      first | refine ⟨fun _ => ?_, fun q => absurd (by decide) q⟩ | refine ⟨fun q => absurd q (by decide), fun _ => ?_⟩
      conv => whnf
      exact hZ
    · intro i hi ih
      have e := gw_x6 hl hi
      have e2 := gw_x6 hl2 hi
      rw [List.length_map] at e2
      refine z_run (cuts := cu_RG_followedBy) ok_RG_followedBy (fun Kz hKz => ?_)
      conv => whnf
      rw [nI_leI (by omega) (by omega)]
      refine ⟨fun q => absurd q (by omega), fun _ => ?_⟩
      conv => whnf
      refine s_CO_digit (by omega) (by omega) ?_
      rw [codW_dig h8 6 i hi]
      conv => whnf
      have h9 := h8 i
      rw [nI_leI (by omega) (by omega)]
      refine ⟨fun q => ?_, fun q => ?_⟩
      · have hin : ¬ i < w.length := by
          intro z
          rw [if_pos z] at e
          have := hw.2 i (by rw [← hw.1]; exact z)
          omega
        rw [if_neg hin] at e e2
        conv => whnf
        refine hKz _ _ _ _ ?_
        rw [e, pk_mul, n_shl _ _ (by omega), n_or, nI_1', Nat.pow_mul]
        have e3 : codW (x6 (w.map (A.2.1 x))) (i + 1) = codW (x6 (w.map (A.2.1 x))) i ||| gw (x6 (w.map (A.2.1 x))) i * 8 ^ i := rfl
        rw [e3, e2] at ih
        exact ih
      · have hin : i < w.length := by
          refine Classical.byContradiction fun z => q ?_
          rw [if_neg z] at e
          rw [e, ← hw.1]
          omega
        rw [if_pos hin] at e e2
        rw [gw_map hin] at e2
        conv => whnf
        refine ⟨hk, ?_⟩
        refine s_PM_left hk hA hx (by omega) ?_
        conv => whnf
        refine hKz _ _ _ _ ?_
        rw [e, pk_mul, n_shl _ _ (by omega), n_or, nI_1', Nat.pow_mul]
        have e3 : codW (x6 (w.map (A.2.1 x))) (i + 1) = codW (x6 (w.map (A.2.1 x))) i ||| gw (x6 (w.map (A.2.1 x))) i * 8 ^ i := rfl
        rw [e3, e2] at ih
        exact ih
  refine go_RG_followedBy (fun Kz hKz => ?_)
  conv => whnf
  refine ⟨hk, ?_⟩
  refine s_PM_points hk ?_
  rw [hA.2.1]
  conv => whnf
  refine hKz _ _ _ _ ?_
  exact lp 0 (Nat.zero_le _)
theorem s_RG_add {n : Nat} {w : List Nat} {L : List (List Nat)} (h6 : n ≤ 6) (hw : wp w n) (hL : gst M L) (hLp : ∀ v ∈ L, wp v n) (hN : L.Nodup) (h1 : w ∈ L → Z none M) (h2 : w ∉ L → ∀ M', grs M M' → gst M' (L ++ [w]) → Z none M') : Ctr 0 G mi_RG_add [zr 13 0, zi (nI (codW (x6 w) 6))] M Z := by
  have h8 := gw_x6_lt hw.1 h6
  have hc := codW_lt h8 6
  have hk5 : codW (x6 w) 6 % 2 ^ 15 = kn w := codW_mod h8 5
  have hk := kn_lt hw.1 h6
  have hcnt := Nat.le_trans (wp_count h6 hLp hN) (df_le n h6)
  have hq : kn w / 64 < 512 := by omega
  have hb : kn w % 64 < 64 := Nat.mod_lt _ (by decide)
  obtain ⟨m, hm, e1, e2⟩ := hL.2.2 (kn w / 64) hq
  have e3 := e2 (kn w % 64) hb
  rw [Nat.div_add_mod] at e3
  have hmem : m.testBit (kn w % 64) = true ↔ w ∈ L := by
    rw [e3]
    constructor
    · rintro ⟨v, hv, he⟩
      rw [← kn_inj h6 (hLp v hv) hw he]
      exact hv
    · intro q; exact ⟨w, q, rfl⟩
  refine go_RG_add (fun Kz hKz => ?_)
  conv => whnf
  rw [n_and, show (32767 : Nat) = 2 ^ 15 - 1 from rfl, Nat.and_two_pow_sub_one_eq_mod, hk5, n_shr 6 (by decide) (by omega), n_and, show (511 : Nat) = 2 ^ 9 - 1 from rfl, Nat.and_two_pow_sub_one_eq_mod, show (2 : Nat) ^ 6 = 64 from rfl, show (2 : Nat) ^ 9 = 512 from rfl, Nat.mod_eq_of_lt hq]
  refine ⟨vp_in_nI hq (by decide), ?_⟩
  conv => whnf
  rw [nI_clamp (by omega), e1, l_sh63 (by omega), l_shl _ _ hb, Nat.one_mul, l_and, lc_eq, l_eq (Nat.lt_of_le_of_lt Nat.and_le_left hm) (by decide), and_bit]
  refine ⟨fun q => ?_, fun q => ?_⟩
  · conv => whnf
    exact h1 (hmem.mp ((Bool.not_eq_false _).mp q))
  · have hno : w ∉ L := fun z => q (by rw [hmem.mpr z]; decide)
    have hcnt2 := wp_count h6 (L := L ++ [w]) (fun v hv => by
      rcases List.mem_append.mp hv with g | g
      · exact hLp v g
      · rw [List.mem_singleton.mp g]; exact hw) (List.nodup_append.mpr ⟨hN, by simp, fun a ha b hb e => hno (by rw [← List.mem_singleton.mp hb, ← e]; exact ha)⟩)
    have hd := df_le n h6
    rw [List.length_append] at hcnt2
    have hl1 : [w].length = 1 := rfl
    conv => whnf
    rw [hL.1]
    refine ⟨fun z => absurd (show nI L.length < nI 0 from z) (fun y => by have := (nI_ltI (by omega) (by decide)).mp y; omega), fun _ => ?_⟩
    conv => whnf
    rw [hL.1, nI_leI (by omega) (by omega)]
    refine ⟨fun z => absurd z (by omega), fun _ => ?_⟩
    conv => whnf
    refine ⟨vp_in_nI hq (by decide), ?_⟩
    conv => whnf
    refine ⟨vp_in_nI hq (by decide), ?_⟩
    conv => whnf
    rw [nI_clamp (by omega), e1, l_or]
    rw [show (zsetL 15 0 (kn w / 64) (lN (m ||| 2 ^ (kn w % 64))) M).1 = M.1 from rfl, hL.1]
    refine ⟨vp_in_nI (by omega) (by decide), ?_⟩
    conv => whnf
    rw [nI_clamp (by omega), zset_ne (by omega), show (zsetL 15 0 (kn w / 64) (lN (m ||| 2 ^ (kn w % 64))) M).1 = M.1 from rfl, hL.1, nI_1']
    refine h2 hno _ (grs_trans (grs_trans (grs_l zsl_set) (grs_set (Or.inr rfl))) (grs_set (Or.inl rfl))) ⟨?_, ?_, ?_⟩
    · rw [zset_eq, List.length_append, hl1]
    · intro i v hv
      rw [zset_ne (by omega)]
      rcases Nat.lt_or_ge i L.length with z | z
      · rw [List.getElem?_append_left z] at hv
        rw [zset_ne (by omega)]
        exact hL.2.1 i v hv
      · rw [List.getElem?_append_right z] at hv
        have hi : i = L.length := by
          rcases Nat.lt_or_ge (i - L.length) 1 with y | y
          · omega
          · rw [List.getElem?_eq_none (by simpa using y)] at hv; cases hv
        rw [hi] at hv ⊢
        rw [zset_eq]
        rw [Nat.sub_self] at hv
        rw [Option.some.inj hv]
    · intro p hp
      show ∃ m2, m2 < 2 ^ 64 ∧ (zsetL 15 0 (kn w / 64) (lN (m ||| 2 ^ (kn w % 64))) M).2 15 0 p = lN m2 ∧ _
      by_cases e : p = kn w / 64
      · subst e
        refine ⟨m ||| 2 ^ (kn w % 64), Nat.or_lt_two_pow hm (Nat.pow_lt_pow_right (by decide) hb), zsetL_eq, fun b hb2 => ?_⟩
        rw [Nat.testBit_or, Nat.testBit_two_pow, Bool.or_eq_true, e2 b hb2]
        constructor
        · rintro (⟨v, g1, g2⟩ | g)
          · exact ⟨v, List.mem_append_left _ g1, g2⟩
          · refine ⟨w, List.mem_append_right _ (List.mem_singleton.mpr rfl), ?_⟩
            have := of_decide_eq_true g
            omega
        · rintro ⟨v, g1, g2⟩
          rcases List.mem_append.mp g1 with g1 | g1
          · exact Or.inl ⟨v, g1, g2⟩
          · rw [List.mem_singleton.mp g1] at g2
            exact Or.inr (decide_eq_true (by omega))
      · obtain ⟨m2, g1, g2, g3⟩ := hL.2.2 p hp
        refine ⟨m2, g1, by rw [zsetL_ne (by omega)]; exact g2, fun b hb2 => ?_⟩
        rw [g3 b hb2]
        constructor
        · rintro ⟨v, y1, y2⟩
          exact ⟨v, List.mem_append_left _ y1, y2⟩
        · rintro ⟨v, y1, y2⟩
          rcases List.mem_append.mp y1 with y1 | y1
          · exact ⟨v, y1, y2⟩
          · rw [List.mem_singleton.mp y1] at y2
            omega
end
end
section
/-! RowGroup.orderFor -/
def grp (A : ZP) (L : List (List Nat)) : Prop := L.Nodup ∧ (∀ w, w ∈ L → wp w A.1) ∧ List.range A.1 ∈ L ∧ ∀ P : List Nat → Prop, P (List.range A.1) → (∀ w, P w → ∀ x, x < A.1 → P (w.map (A.2.1 x))) → ∀ w, w ∈ L → P w
theorem nodup_snoc {L : List (List Nat)} {v : List Nat} (h : L.Nodup) (hv : v ∉ L) : (L ++ [v]).Nodup := List.nodup_append.mpr ⟨h, by simp, fun a ha b hb e => hv (by rw [← List.mem_singleton.mp hb, ← e]; exact ha)⟩
theorem grp_add {A : ZP} (hA : pwf A) (hl : plnd A) {L : List (List Nat)} (h : grp A L) {w : List Nat} (hw : w ∈ L) {x : Nat} (hx : x < A.1) (hno : w.map (A.2.1 x) ∉ L) : grp A (L ++ [w.map (A.2.1 x)]) := by
  refine ⟨nodup_snoc h.1 hno, fun v hv => ?_, List.mem_append_left _ h.2.2.1, fun P p1 p2 v hv => ?_⟩
  · rcases List.mem_append.mp hv with g | g
    · exact h.2.1 v g
    · rw [List.mem_singleton.mp g]; exact wp_next hA hl (h.2.1 w hw) hx
  · rcases List.mem_append.mp hv with g | g
    · exact h.2.2.2 P p1 p2 v g
    · rw [List.mem_singleton.mp g]; exact p2 w (h.2.2.2 P p1 p2 w hw) x hx
theorem grp_one (A : ZP) : grp A [List.range A.1] := ⟨by simp, fun w hw => by rw [List.mem_singleton.mp hw]; exact wp_id _, List.mem_singleton.mpr rfl, fun P p1 _ w hw => by rw [List.mem_singleton.mp hw]; exact p1⟩
/-- of the first i all that comes of them is there -/
def gcl (A : ZP) (L : List (List Nat)) (i : Nat) : Prop := ∀ j w, j < i → L[j]? = some w → ∀ x, x < A.1 → w.map (A.2.1 x) ∈ L
theorem grp_gen {A : ZP} {L : List (List Nat)} (h : grp A L) (hc : gcl A L L.length) : isGen A L := ⟨h.1, h.2.2.1, fun w hw x hx => by
  obtain ⟨j, hj⟩ := List.mem_iff_getElem?.mp hw
  exact hc j w (List.getElem?_eq_some_iff.mp hj).1 hj x hx, h.2.2.2⟩
theorem gcl_snoc {A : ZP} {L : List (List Nat)} {i : Nat} {v : List Nat} (h : gcl A L i) (hi : i ≤ L.length) : gcl A (L ++ [v]) i := fun j w hj hw x hx => by
  rw [List.getElem?_append_left (by omega)] at hw
  exact List.mem_append_left _ (h j w hj hw x hx)
section
variable {G : ZG} {M : ZM} {Z : Option ZV → ZM → Prop}
theorem id6 : ∀ n, n ≤ 6 → codW (x6 (List.range n)) 6 = 181896 := by decide
theorem s_RG_orderFor {k : Nat} {A : ZP} (hk : k < 10) (hA : isPM M k A) (h0 : ¬ plnd A → Z (some (zi (-1))) M) (h1 : plnd A → ∀ L, isGen A L → L.length ≤ 720 → ∀ M', grs M M' → Z (some (zi (nI L.length))) M') : Ctr 0 G mi_RG_orderFor [zr 13 0, zr 0 k] M Z := by
  have hn := hA.1.1
  have hdf := df_le A.1 hn
  refine go_RG_orderFor (fun Kz hKz => ?_)
  conv => whnf
  refine s_CH_isLeftNondegenerate hk hA (fun hl => ?_) (fun hl => ?_)
  · have cnt : ∀ L, grp A L → L.length ≤ 720 := fun L h => Nat.le_trans (wp_count hn h.2.1 h.1) hdf
    have inner : ∀ i, i < 720 → (∀ L M', grs M M' → gst M' L → grp A L → i + 1 ≤ L.length → gcl A L (i + 1) → V 0 G mi_RG_orderFor Z 30 [(0, zr 13 0), (1, zr 0 k), (2, zi (nI (i + 1)))] [] M') → ∀ y, y ≤ A.1 → ∀ L M' w, grs M M' → gst M' L → grp A L → gcl A L i → L[i]? = some w → (∀ x, x < y → w.map (A.2.1 x) ∈ L) → V 0 G mi_RG_orderFor Z 47 [(0, zr 13 0), (1, zr 0 k), (2, zi (nI i)), (3, zi (nI y))] [] M' := by
      intro i hi nxt
      refine up_to ?_ ?_
      · intro L M' w g1 g2 g3 g4 g5 g6
        have hil := (List.getElem?_eq_some_iff.mp g5).1
        refine z_run (cuts := cu_RG_orderFor) ok_RG_orderFor (fun Kz hKz => ?_)
        conv => whnf
        refine ⟨hk, ?_⟩
        refine s_PM_points hk ?_
        rw [(isPM_gr hA g1).2.1]
        conv => whnf
        rw [nI_leI (by omega) (by omega)]
        refine ⟨fun _ => ?_, fun q => absurd (Nat.le_refl _) q⟩
        conv => whnf
        refine hKz _ _ _ _ ?_
        rw [nI_1']
        refine nxt L M' g1 g2 g3 hil (fun j v hj hv x hx => ?_)
        rcases Nat.lt_succ_iff_lt_or_eq.mp hj with hj | rfl
        · exact g4 j v hj hv x hx
        · rw [g5] at hv
          rw [← Option.some.inj hv]
          exact g6 x hx
      · intro y hy ih L M' w g1 g2 g3 g4 g5 g6
        have hil := (List.getElem?_eq_some_iff.mp g5).1
        have hw : w ∈ L := List.mem_of_getElem? g5
        have hwp := g3.2.1 w hw
        have hA' := isPM_gr hA g1
        have hlc := cnt L g3
        refine z_run (cuts := cu_RG_orderFor) ok_RG_orderFor (fun Kz hKz => ?_)
        conv => whnf
        refine ⟨hk, ?_⟩
        refine s_PM_points hk ?_
        rw [hA'.2.1]
        conv => whnf
        rw [nI_leI (by omega) (by omega)]
        refine ⟨fun q => absurd q (by omega), fun _ => ?_⟩
        conv => whnf
        refine ⟨vp_in_nI hi (by decide), ?_⟩
        conv => whnf
        rw [nI_clamp (by omega), g2.2.1 i w g5]
        refine s_RG_followedBy hk hA' hwp.1 hy ?_
        conv => whnf
        refine s_RG_add hn (wp_next hA.1 hl hwp hy) g2 g3.2.1 g3.1 (fun hin => ?_) (fun hno M2 r1 r2 => ?_)
        · conv => whnf
          refine hKz _ _ _ _ ?_
          rw [nI_1']
          refine ih L M' w g1 g2 g3 g4 g5 (fun x hx => ?_)
          rcases Nat.lt_succ_iff_lt_or_eq.mp hx with hx | rfl
          · exact g6 x hx
          · exact hin
        · conv => whnf
          refine hKz _ _ _ _ ?_
          rw [nI_1']
          refine ih _ M2 w (grs_trans g1 r1) r2 (grp_add hA.1 hl g3 hw hy hno) (gcl_snoc g4 (by omega)) (by rw [List.getElem?_append_left hil]; exact g5) (fun x hx => ?_)
          rcases Nat.lt_succ_iff_lt_or_eq.mp hx with hx | rfl
          · exact List.mem_append_left _ (g6 x hx)
          · exact List.mem_append_right _ (List.mem_singleton.mpr rfl)
    have lp : ∀ i, i ≤ 720 → ∀ L M', grs M M' → gst M' L → grp A L → i ≤ L.length → gcl A L i → V 0 G mi_RG_orderFor Z 30 [(0, zr 13 0), (1, zr 0 k), (2, zi (nI i))] [] M' := by
      refine up_to ?_ ?_
      · intro L M' g1 g2 g3 g4 g5
        have hlc := cnt L g3
        have e : L.length = 720 := by omega
        refine z_run (cuts := cu_RG_orderFor) ok_RG_orderFor (fun Kz hKz => ?_)
        conv => whnf
        first | refine ⟨fun _ => ?_, fun q => absurd (by decide) q⟩ | refine ⟨fun q => absurd q (by decide), fun _ => ?_⟩
        conv => whnf
        rw [g2.1]
        exact h1 hl L (grp_gen g3 (by rw [e]; exact g5)) hlc M' g1
      · intro i hi ih L M' g1 g2 g3 g4 g5
        have hlc := cnt L g3
        refine z_run (cuts := cu_RG_orderFor) ok_RG_orderFor (fun Kz hKz => ?_)
        conv => whnf
        rw [nI_leI (by omega) (by omega)]
        refine ⟨fun q => absurd q (by omega), fun _ => ?_⟩
        conv => whnf
        rw [g2.1, nI_leI (by omega) (by omega)]
        refine ⟨fun q => ?_, fun q => ?_⟩
        · have e : L.length = i := by omega
          conv => whnf
          rw [g2.1]
          exact h1 hl L (grp_gen g3 (by rw [e]; exact g5)) hlc M' g1
        · conv => whnf
          refine hKz _ _ _ _ ?_
          obtain ⟨w, hw⟩ : ∃ w, L[i]? = some w := ⟨L[i]'(by omega), List.getElem?_eq_getElem (by omega)⟩
          exact inner i hi ih 0 (Nat.zero_le _) L M' w g1 g2 g3 g5 hw (fun x hx => absurd hx (Nat.not_lt_zero _))
    conv => whnf
    first | refine ⟨fun _ => ?_, fun q => absurd (by decide) q⟩ | refine ⟨fun q => absurd q (by decide), fun _ => ?_⟩
    conv => whnf
    refine s_JA_fill15 (fun M1 g1 g2 => ?_)
    conv => whnf
    have hst : gst (zset 13 0 2 (nI 0) M1) [] := ⟨zset_eq, fun i w h => (by cases h), fun q hq => ⟨0, by decide, g2 q hq, fun b _ => by rw [Nat.zero_testBit]; exact ⟨fun h => (by cases h), fun ⟨w, h, _⟩ => (by cases h)⟩⟩⟩
    rw [show nI 181896 = nI (codW (x6 (List.range A.1)) 6) by rw [id6 A.1 hn]]
    refine s_RG_add hn (wp_id A.1) hst (fun v hv => (by cases hv)) List.nodup_nil (fun h => by cases h) (fun _ M2 r1 r2 => ?_)
    conv => whnf
    refine hKz _ _ _ _ ?_
    exact lp 0 (Nat.zero_le _) [List.range A.1] M2 (grs_trans (grs_trans (grs_l g1) (grs_set (Or.inl rfl))) r1) r2 (grp_one A) (Nat.zero_le _) (fun j w hj => absurd hj (Nat.not_lt_zero _))
  · conv => whnf
    first | refine ⟨fun _ => ?_, fun q => absurd (by decide) q⟩ | refine ⟨fun q => absurd q (by decide), fun _ => ?_⟩
    conv => whnf
    exact h0 hl
end
end
section
/-! SolutionList: the rows, the maps that they tell -/
def rowNL : List Nat := [0x0, 0x0101, 0x1010, 0x012012012, 0x012012102, 0x012021021, 0x021021021, 0x120120120, 0x0123012301230123, 0x0123012301230213, 0x0123012301231203, 0x0123012301320132, 0x0123012301321032, 0x0123012310231023, 0x0123012310321032, 0x0123013201320132, 0x0123023102310231, 0x0132013201320132, 0x0132013210231023, 0x0132013210321032, 0x0132231032011023, 0x0231023102310231, 0x0231031203120312, 0x1023102301320132, 0x1023102301321032, 0x1023102310321032, 0x1023231001323201, 0x1032103210321032, 0x1032230123011032, 0x1230123012301230, 0x1230301212303012]
def rowN (k : Nat) : Nat := rowNL.getD k 0
theorem zrows_eq : ∀ k, k < 31 → zrows k = lN (rowN k) := by decide +kernel
theorem rowN_lt : ∀ k, k < 31 → rowN k < 2 ^ 61 := by decide +kernel
def st0 (n : Nat) : Nat := match n with
  | 1 => 0
  | 2 => 1
  | 3 => 3
  | 4 => 8
  | _ => 31
def sz (n : Nat) : Nat := st0 (n + 1) - st0 n
def rwn (n i : Nat) : Nat := rowN (st0 n + i)
def pt (R n x y : Nat) : Nat := R / 16 ^ (n * n - 1 - (n * x + y)) % 8
def clm (R n p v : Nat) : Nat := fnd (fun c => decide (pt R n p c = v)) n
def plist (n i : Nat) : ZP := (n, fun x y => pt (rwn n i) n x y, fun x y => clm (rwn n i) n (pt (rwn n i) n x y) x)
theorem st0_sz : ∀ n, n ≤ 4 → 1 ≤ n → st0 n + sz n ≤ 31 := by decide
def lsB (n i : Nat) : Bool := decide (∀ x, x < n → ∀ y, y < n → pt (rwn n i) n x y < n ∧ clm (rwn n i) n (pt (rwn n i) n x y) x < n)
theorem lsB_all : ∀ n, n ≤ 4 → 1 ≤ n → ∀ i, i < sz n → lsB n i = true := by decide +kernel
theorem plist_wf {n i : Nat} (h1 : 1 ≤ n) (h4 : n ≤ 4) (hi : i < sz n) : pwf (plist n i) := ⟨by show n ≤ 6; omega, fun x y hx hy => of_decide_eq_true (lsB_all n h4 h1 i hi) x hx y hy⟩
theorem l_shr {a : Nat} (k : Nat) (hk : k < 64) (ha : a < 2 ^ 63) : lN a >>> ((nI k).toInt64 &&& 63) = lN (a / 2 ^ k) := l_ext (by
  rw [Int64.toBitVec_shiftRight, l_bv, l_bv]
  have h := l_sm k hk
  show (BitVec.ofNat 64 a).sshiftRight (((nI k).toInt64 &&& 63).toBitVec.smod 64).toNat = _
  have h2 : (BitVec.ofNat 64 a).toNat = a := by rw [BitVec.toNat_ofNat, Nat.mod_eq_of_lt (by omega)]
  rw [h, BitVec.sshiftRight_eq_of_msb_false (by rw [BitVec.msb_eq_false_iff_two_mul_lt, h2]; omega)]
  apply BitVec.eq_of_toNat_eq
  have h3 : a / 2 ^ k ≤ a := Nat.div_le_self _ _
  rw [BitVec.toNat_ushiftRight, h2, BitVec.toNat_ofNat, Nat.shiftRight_eq_div_pow, Nat.mod_eq_of_lt (by omega)])
section
variable {G : ZG} {M : ZM} {Z : Option ZV → ZM → Prop} {S : ZS}
theorem s_SL_hasPoints {m : Nat} (hm : m < 2 ^ 32) (h1 : 1 ≤ m → m ≤ 4 → Z (some (zi (nI 1))) M) (h2 : ¬ (1 ≤ m ∧ m ≤ 4) → Z (some (zi (nI 0))) M) : Ctr 0 G mi_SL_hasPoints [zi (nI m)] M Z := by
  refine go_SL_hasPoints (fun Kz hKz => ?_)
  conv => whnf
  rw [n_ltb hm (by decide)]
  refine ⟨fun q => ?_, fun q => ?_⟩
  · conv => whnf
    exact ⟨Or.inl rfl, h2 (by omega)⟩
  · conv => whnf
    rw [n_blt hm (by decide)]
    refine ⟨fun q2 => ?_, fun q2 => ?_⟩
    · conv => whnf
      exact ⟨Or.inl rfl, h2 (by omega)⟩
    · conv => whnf
      exact ⟨Or.inr rfl, h1 (by omega) (by omega)⟩
theorem s_SL_start {n : Nat} (h1 : 1 ≤ n) (h5 : n ≤ 5) (hZ : Z (some (zi (nI (st0 n)))) M) : Ctr 0 G mi_SL_start [zi (nI n)] M Z := by
  have hn : n = 1 ∨ n = 2 ∨ n = 3 ∨ n = 4 ∨ n = 5 := by omega
  rcases hn with rfl | rfl | rfl | rfl | rfl
  · refine go_SL_start (fun Kz hKz => ?_)
    conv => whnf
    first | refine ⟨fun _ => ?_, fun q => absurd (by decide) q⟩ | refine ⟨fun q => absurd q (by decide), fun _ => ?_⟩
    conv => whnf
    exact hZ
  · refine go_SL_start (fun Kz hKz => ?_)
    conv => whnf
    first | refine ⟨fun _ => ?_, fun q => absurd (by decide) q⟩ | refine ⟨fun q => absurd q (by decide), fun _ => ?_⟩
    conv => whnf
    first | refine ⟨fun _ => ?_, fun q => absurd (by decide) q⟩ | refine ⟨fun q => absurd q (by decide), fun _ => ?_⟩
    conv => whnf
    exact hZ
  · refine go_SL_start (fun Kz hKz => ?_)
    conv => whnf
    first | refine ⟨fun _ => ?_, fun q => absurd (by decide) q⟩ | refine ⟨fun q => absurd q (by decide), fun _ => ?_⟩
    conv => whnf
    first | refine ⟨fun _ => ?_, fun q => absurd (by decide) q⟩ | refine ⟨fun q => absurd q (by decide), fun _ => ?_⟩
    conv => whnf
    first | refine ⟨fun _ => ?_, fun q => absurd (by decide) q⟩ | refine ⟨fun q => absurd q (by decide), fun _ => ?_⟩
    conv => whnf
    exact hZ
  · refine go_SL_start (fun Kz hKz => ?_)
    conv => whnf
    first | refine ⟨fun _ => ?_, fun q => absurd (by decide) q⟩ | refine ⟨fun q => absurd q (by decide), fun _ => ?_⟩
    conv => whnf
    first | refine ⟨fun _ => ?_, fun q => absurd (by decide) q⟩ | refine ⟨fun q => absurd q (by decide), fun _ => ?_⟩
    conv => whnf
    first | refine ⟨fun _ => ?_, fun q => absurd (by decide) q⟩ | refine ⟨fun q => absurd q (by decide), fun _ => ?_⟩
    conv => whnf
    first | refine ⟨fun _ => ?_, fun q => absurd (by decide) q⟩ | refine ⟨fun q => absurd q (by decide), fun _ => ?_⟩
    conv => whnf
    exact hZ
  · refine go_SL_start (fun Kz hKz => ?_)
    conv => whnf
    first | refine ⟨fun _ => ?_, fun q => absurd (by decide) q⟩ | refine ⟨fun q => absurd q (by decide), fun _ => ?_⟩
    conv => whnf
    first | refine ⟨fun _ => ?_, fun q => absurd (by decide) q⟩ | refine ⟨fun q => absurd q (by decide), fun _ => ?_⟩
    conv => whnf
    first | refine ⟨fun _ => ?_, fun q => absurd (by decide) q⟩ | refine ⟨fun q => absurd q (by decide), fun _ => ?_⟩
    conv => whnf
    first | refine ⟨fun _ => ?_, fun q => absurd (by decide) q⟩ | refine ⟨fun q => absurd q (by decide), fun _ => ?_⟩
    conv => whnf
    exact hZ
theorem s_SL_size {n : Nat} (h1 : 1 ≤ n) (h4 : n ≤ 4) (hZ : Z (some (zi (nI (sz n)))) M) : Ctr 0 G mi_SL_size [zi (nI n)] M Z := by
  have hle : st0 n ≤ st0 (n + 1) := by
    have : ∀ n, n ≤ 4 → 1 ≤ n → st0 n ≤ st0 (n + 1) := by decide
    exact this n h4 h1
  refine go_SL_size (fun Kz hKz => ?_)
  conv => whnf
  rw [nI_1']
  refine s_SL_start (by omega) (by omega) ?_
  conv => whnf
  refine s_SL_start h1 (by omega) ?_
  conv => whnf
  rw [pk_sub hle]
  exact hZ
theorem s_SL_rowsAt {n i : Nat} (h1 : 1 ≤ n) (h4 : n ≤ 4) (hi : i < sz n) (hZ : Z (some (zl (lN (rwn n i)))) M) : Ctr 0 G mi_SL_rowsAt [zi (nI n), zi (nI i)] M Z := by
  have hs := st0_sz n h4 h1
  refine go_SL_rowsAt (fun Kz hKz => ?_)
  conv => whnf
  refine s_SL_start h1 (by omega) ?_
  conv => whnf
  rw [nI_add, nI_ltI (by omega) (by omega)]
  refine ⟨fun q => absurd q (by omega), fun _ => ?_⟩
  conv => whnf
  rw [nI_leI (by omega) (by omega)]
  refine ⟨fun q => absurd q (by omega), fun _ => ?_⟩
  conv => whnf
  refine ⟨vp_in_nI (by omega) (by decide), ?_⟩
  conv => whnf
  rw [nI_clamp (by omega), zrows_eq _ (by omega)]
  exact hZ
theorem s_SL_shiftOf {n p : Nat} (h1 : 1 ≤ n) (hp : p < n * n) (hZ : Z (some (zi (nI (4 * (n * n - 1 - p))))) M) : Ctr 0 G mi_SL_shiftOf [zi (nI p), zi (nI n)] M Z := by
  refine go_SL_shiftOf (fun Kz hKz => ?_)
  conv => whnf
  rw [pk_mul, pk_sub (by omega), pk_sub (by omega), pk_mul]
  exact hZ
end
end
section
/-! the L of a renamed map as a number; which listed map a map is like -/
def ora (f : Nat → Nat) : Nat → Nat
  | 0 => 0
  | k + 1 => ora f k ||| f k
theorem ora_bit (f : Nat → Nat) : ∀ k b, (ora f k).testBit b = true ↔ ∃ j, j < k ∧ (f j).testBit b = true := by
  intro k
  induction k with
  | zero => intro b; rw [ora, Nat.zero_testBit]; exact ⟨fun h => (by cases h), fun ⟨j, h, _⟩ => absurd h (Nat.not_lt_zero _)⟩
  | succ k ih =>
    intro b
    rw [ora, Nat.testBit_or, Bool.or_eq_true, ih b]
    constructor
    · rintro (⟨j, h1, h2⟩ | h)
      · exact ⟨j, by omega, h2⟩
      · exact ⟨k, by omega, h⟩
    · rintro ⟨j, h1, h2⟩
      rcases Nat.lt_succ_iff_lt_or_eq.mp h1 with h1 | rfl
      · exact Or.inl ⟨j, h1, h2⟩
      · exact Or.inr h2
theorem ora_lt {f : Nat → Nat} {b : Nat} : ∀ k, (∀ i, i < k → f i < 2 ^ b) → ora f k < 2 ^ b := by
  intro k
  induction k with
  | zero => intro _; exact Nat.two_pow_pos b
  | succ k ih => intro h; exact Nat.or_lt_two_pow (ih fun i hi => h i (by omega)) (h k (by omega))
theorem tb_mul (v e b : Nat) : (v * 2 ^ e).testBit b = (decide (e ≤ b) && v.testBit (b - e)) := by
  rw [← Nat.shiftLeft_eq, Nat.testBit_shiftLeft]
theorem tb_dig (N e b : Nat) : (N / 2 ^ e % 2 ^ 4).testBit b = (decide (b < 4) && N.testBit (e + b)) := by
  rw [Nat.testBit_mod_two_pow, Nat.testBit_div_two_pow]
  first | rfl | rw [Nat.add_comm]
theorem ora_digit {f v e : Nat → Nat} {k : Nat} (hf : ∀ j, j < k → f j = v j * 2 ^ (4 * e j)) (hv : ∀ j, j < k → v j < 16) (he : ∀ i j, i < k → j < k → e i = e j → i = j) {i : Nat} (hi : i < k) : ora f k / 2 ^ (4 * e i) % 2 ^ 4 = v i := by
  apply Nat.eq_of_testBit_eq
  intro b
  rw [tb_dig]
  by_cases hb : b < 4
  · rw [decide_eq_true hb, Bool.true_and, Bool.eq_iff_iff, ora_bit]
    constructor
    · rintro ⟨j, h1, h2⟩
      rw [hf j h1, tb_mul, Bool.and_eq_true] at h2
      have h3 := of_decide_eq_true h2.1
      have h4 : 4 * e i + b - 4 * e j < 4 := by
        refine Classical.byContradiction fun q => ?_
        have h5 := h2.2
        rw [Nat.testBit_lt_two_pow (Nat.lt_of_lt_of_le (hv j h1) (show 16 ≤ 2 ^ (4 * e i + b - 4 * e j) from Nat.le_trans (show 16 ≤ 2 ^ 4 by decide) (Nat.pow_le_pow_right (by decide) (by omega))))] at h5
        cases h5
      have h6 : j = i := he j i h1 hi (by omega)
      rw [h6, show 4 * e i + b - 4 * e i = b by omega] at h2
      exact h2.2
    · intro h
      refine ⟨i, hi, ?_⟩
      rw [hf i hi, tb_mul, show 4 * e i + b - 4 * e i = b by omega, h, Bool.and_true]
      exact decide_eq_true (by omega)
  · rw [decide_eq_false hb, Bool.false_and, Nat.testBit_lt_two_pow (Nat.lt_of_lt_of_le (hv i hi) (show 16 ≤ 2 ^ b from Nat.le_trans (show 16 ≤ 2 ^ 4 by decide) (Nat.pow_le_pow_right (by decide) (by omega))))]
def rrt (A : ZP) (w : List Nat) (j : Nat) : Nat := gw w (A.2.1 (j / A.1) (j % A.1)) * 2 ^ (4 * (A.1 * A.1 - 1 - (A.1 * gw w (j / A.1) + gw w (j % A.1))))
def rr (A : ZP) (w : List Nat) : Nat := ora (rrt A w) (A.1 * A.1)
theorem rrt_at {A : ZP} {w : List Nat} {x y : Nat} (hy : y < A.1) : rrt A w (A.1 * x + y) = gw w (A.2.1 x y) * 2 ^ (4 * (A.1 * A.1 - 1 - (A.1 * gw w x + gw w y))) := by
  unfold rrt
  rw [(dvm hy).1, (dvm hy).2]
theorem rr_lt {A : ZP} {w : List Nat} (h4 : A.1 ≤ 4) (hA : pwf A) (hw : wv w A.1) : rr A w < 2 ^ 63 := by
  have hnn : A.1 * A.1 ≤ 4 * 4 := Nat.mul_le_mul h4 h4
  refine ora_lt _ fun j hj => ?_
  have h := dvlt hj
  have h1 := hw.2 _ (hA.2 _ _ h.1 h.2).1
  unfold rrt
  have h2 : gw w (A.2.1 (j / A.1) (j % A.1)) * 2 ^ (4 * (A.1 * A.1 - 1 - (A.1 * gw w (j / A.1) + gw w (j % A.1)))) < 2 ^ 3 * 2 ^ (4 * (A.1 * A.1 - 1 - (A.1 * gw w (j / A.1) + gw w (j % A.1)))) := Nat.mul_lt_mul_of_pos_right (by omega) (Nat.two_pow_pos _)
  rw [← Nat.pow_add] at h2
  exact Nat.lt_of_lt_of_le h2 (Nat.pow_le_pow_right (by decide) (by omega))
theorem rr_iso {A B : ZP} {w u v : List Nat} (hA : pwf A) (hAB : A.1 = B.1) (hw : wp w A.1) (hi : isoB A B w = true) (hc : ∀ x, x < A.1 → gw v x = gw u (gw w x)) : rr A v = rr B u := by
  have key : ∀ x y, x < A.1 → y < A.1 → rrt A v (A.1 * x + y) = rrt B u (A.1 * gw w x + gw w y) := by
    intro x y hx hy
    have h1 := hw.1.2 x hx
    have h2 := hw.1.2 y hy
    rw [rrt_at hy, hAB, rrt_at (by rw [← hAB]; exact h2), ← hAB, hc _ (hA.2 x y hx hy).1, hc x hx, hc y hy, (isoB_iff.mp hi x hx y hy).1]
  apply Nat.eq_of_testBit_eq
  intro b
  unfold rr
  rw [Bool.eq_iff_iff, ora_bit, ora_bit, ← hAB]
  constructor
  · rintro ⟨j, h1, h2⟩
    have h := dvlt h1
    refine ⟨A.1 * gw w (j / A.1) + gw w (j % A.1), prlt (hw.1.2 _ h.1) (hw.1.2 _ h.2), ?_⟩
    rw [← key _ _ h.1 h.2, Nat.div_add_mod]
    exact h2
  · rintro ⟨j, h1, h2⟩
    have h := dvlt h1
    obtain ⟨x, hx, ex⟩ := inj_surj hw.1.2 hw.2 _ h.1
    obtain ⟨y, hy, ey⟩ := inj_surj hw.1.2 hw.2 _ h.2
    refine ⟨A.1 * x + y, prlt hx hy, ?_⟩
    rw [key x y hx hy, ex, ey, Nat.div_add_mod]
    exact h2
theorem rr_dig {A : ZP} {w : List Nat} (hA : pwf A) (hw : wp w A.1) {x y : Nat} (hx : x < A.1) (hy : y < A.1) : rr A w / 2 ^ (4 * (A.1 * A.1 - 1 - (A.1 * gw w x + gw w y))) % 2 ^ 4 = gw w (A.2.1 x y) := by
  have h := ora_digit (f := rrt A w) (v := fun j => gw w (A.2.1 (j / A.1) (j % A.1))) (e := fun j => A.1 * A.1 - 1 - (A.1 * gw w (j / A.1) + gw w (j % A.1))) (k := A.1 * A.1) (fun j _ => rfl) (fun j hj => by
    have h := dvlt hj
    have h1 := hw.1.2 _ (hA.2 _ _ h.1 h.2).1
    have := hA.1
    show gw w _ < 16
    omega) (fun i j hi hj e => by
    have h1 := dvlt hi
    have h2 := dvlt hj
    have g1 := prlt (hw.1.2 _ h1.1) (hw.1.2 _ h1.2)
    have g2 := prlt (hw.1.2 _ h2.1) (hw.1.2 _ h2.2)
    have e2 : A.1 * gw w (i / A.1) + gw w (i % A.1) = A.1 * gw w (j / A.1) + gw w (j % A.1) := by omega
    have d1 := dvm (n := A.1) (x := gw w (i / A.1)) (hw.1.2 _ h1.2)
    have d2 := dvm (n := A.1) (x := gw w (j / A.1)) (hw.1.2 _ h2.2)
    have e3 := hw.2 _ _ h1.1 h2.1 (by rw [← d1.1, ← d2.1, e2])
    have e4 := hw.2 _ _ h1.2 h2.2 (by rw [← d1.2, ← d2.2, e2])
    rw [← Nat.div_add_mod i A.1, ← Nat.div_add_mod j A.1, e3, e4]) (prlt hx hy)
  simp only [(dvm hy).1, (dvm hy).2] at h
  exact h
/-! what is checked of the list by counting -/
def pw_B (n j : Nat) : Bool := decide (∀ x, x < n → gw (pw n j) x < n) && (decide (∀ x, x < n → ∀ y, y < n → gw (pw n j) x = gw (pw n j) y → x = y) && decide (lm (gw (pw n j)) n n = j))
theorem pw_all : ∀ n, n ≤ 4 → ∀ j, j < fac n → pw_B n j = true := by decide +kernel
theorem df_fac : ∀ n, n ≤ 6 → df n n = fac n := by decide
theorem pw_wp {n j : Nat} (h1 : 1 ≤ n) (h4 : n ≤ 4) (hj : j < fac n) : wp (pw n j) n ∧ lm (gw (pw n j)) n n = j := by
  have h := pw_all n h4 j hj
  unfold pw_B at h
  simp only [Bool.and_eq_true, decide_eq_true_eq] at h
  exact ⟨⟨wv_pw h1 j, fun i k hi hk => h.2.1 i hi k hk⟩, h.2.2⟩
theorem pw_full {n : Nat} (h1 : 1 ≤ n) (h4 : n ≤ 4) {u : List Nat} (hu : wp u n) : ∃ j, j < fac n ∧ pw n j = u := by
  have h := lm_lt (gw u) n n (Nat.le_refl _)
  rw [df_fac n (by omega)] at h
  have h2 := pw_wp h1 h4 h
  exact ⟨_, h, wp_lm (by omega) h2.1 hu h2.2⟩
def ckB (n i : Nat) : Bool := decide (∀ x, x < n → ∀ y, y < n → (plist n i).2.1 ((plist n i).2.1 x y) ((plist n i).2.2 x y) = x ∧ (plist n i).2.2 ((plist n i).2.1 x y) ((plist n i).2.2 x y) = y)
def ckL (n i : Nat) : Bool := decide (∀ x, x < n → ∀ y, y < n → ∀ z, z < n → (plist n i).2.1 x y = (plist n i).2.1 x z → y = z)
def ckR (n i : Nat) : Bool := decide (rr (plist n i) (List.range n) = rwn n i) && decide (∀ j, j < fac n → rwn n i ≤ rr (plist n i) (pw n j))
def ckD (n i : Nat) : Bool := decide (∀ j, j < i → rwn n j ≠ rwn n i)
theorem ck_all : ∀ n, n ≤ 4 → 1 ≤ n → ∀ i, i < sz n → (ckB n i && (ckL n i && (ckR n i && ckD n i))) = true := by decide +kernel
theorem ck_of {n i : Nat} (h1 : 1 ≤ n) (h4 : n ≤ 4) (hi : i < sz n) : pinvo (plist n i) ∧ plnd (plist n i) ∧ rr (plist n i) (List.range n) = rwn n i ∧ (∀ j, j < fac n → rwn n i ≤ rr (plist n i) (pw n j)) ∧ ∀ j, j < i → rwn n j ≠ rwn n i := by
  have h := ck_all n h4 h1 i hi
  simp only [Bool.and_eq_true] at h
  obtain ⟨hB, hL, hR, hD⟩ := h
  have hR2 := hR
  unfold ckR at hR2
  simp only [Bool.and_eq_true, decide_eq_true_eq] at hR2
  exact ⟨fun x y hx hy => of_decide_eq_true hB x hx y hy, (plnd_inj (plist_wf h1 h4 hi)).mpr fun x hx i j hi hj => of_decide_eq_true hL x hx i hi j hj, hR2.1, hR2.2, of_decide_eq_true hD⟩
end
section
/-! a map is like the listed map whose rows are its least ones -/
theorem nIso_pos {A B : ZP} {k : Nat} : 0 < nIso A B k ↔ ∃ j, j < k ∧ isoB A B (pw A.1 j) = true := by
  constructor
  · intro h
    obtain ⟨i, h1, h2, _⟩ := cnt_surj k h
    exact ⟨i, h1, h2⟩
  · rintro ⟨j, h1, h2⟩
    exact Nat.lt_of_le_of_lt (Nat.zero_le _) (cnt_step h2 h1)
theorem list_to {A : ZP} (hA : pwf A) (h1 : 1 ≤ A.1) (h4 : A.1 ≤ 4) {i : Nat} (hi : i < sz A.1) (h : 0 < nIso A (plist A.1 i) (fac A.1)) : pinvo A ∧ plnd A ∧ (∀ j, j < fac A.1 → rwn A.1 i ≤ rr A (pw A.1 j)) ∧ ∃ j, j < fac A.1 ∧ rr A (pw A.1 j) = rwn A.1 i := by
  obtain ⟨j, hj, hiso⟩ := nIso_pos.mp h
  obtain ⟨c1, c2, c3, c4, c5⟩ := ck_of h1 h4 hi
  have hwB := plist_wf h1 h4 hi
  have hw := (pw_wp h1 h4 hj).1
  generalize hB : plist A.1 i = B at *
  have hAB : A.1 = B.1 := by rw [← hB]; rfl
  have hs := isoB_iff.mp hiso
  have hlB := (plnd_inj hwB).mp c2
  refine ⟨fun x y hx hy => ?_, (plnd_inj hA).mpr fun x hx a b ha hb e => ?_, fun j' hj' => ?_, ⟨j, hj, ?_⟩⟩
  · have hLR := hA.2 x y hx hy
    have hLL := hA.2 _ _ hLR.1 hLR.2
    have e1 := hs x hx y hy
    have e2 := hs _ hLR.1 _ hLR.2
    have e3 := c1 _ _ (show gw (pw A.1 j) x < B.1 by rw [← hAB]; exact hw.1.2 x hx) (show gw (pw A.1 j) y < B.1 by rw [← hAB]; exact hw.1.2 y hy)
    rw [e1.1, e1.2] at e3
    exact ⟨hw.2 _ _ hLL.1 hx (e2.1.symm.trans e3.1), hw.2 _ _ hLL.2 hy (e2.2.symm.trans e3.2)⟩
  · have e1 := (hs x hx a ha).1
    have e2 := (hs x hx b hb).1
    exact hw.2 _ _ ha hb (hlB _ (by rw [← hAB]; exact hw.1.2 x hx) _ _ (by rw [← hAB]; exact hw.1.2 a ha) (by rw [← hAB]; exact hw.1.2 b hb) (by rw [e1, e2, e]))
  · have hv := (pw_wp h1 h4 hj').1
    have hf : ∀ x, x < A.1 → fnd (fun z => decide (gw (pw A.1 j) z = gw (pw A.1 j) x)) A.1 = x := fun x hx => fnd_eq hx (decide_eq_true rfl) (fun z hz => decide_eq_false (fun e => by have := hw.2 z x (by omega) hx e; omega))
    have hu : ∀ p, p < A.1 → gw ((List.range A.1).map fun p => gw (pw A.1 j') (fnd (fun z => decide (gw (pw A.1 j) z = p)) A.1)) p = gw (pw A.1 j') (fnd (fun z => decide (gw (pw A.1 j) z = p)) A.1) := fun p hp => by
      rw [gw_map (by rw [List.length_range]; exact hp)]
      simp [gw, hp]
    have hux : ∀ x, x < A.1 → gw ((List.range A.1).map fun p => gw (pw A.1 j') (fnd (fun z => decide (gw (pw A.1 j) z = p)) A.1)) (gw (pw A.1 j) x) = gw (pw A.1 j') x := fun x hx => by
      rw [hu _ (hw.1.2 x hx), hf x hx]
    have hwu : wp ((List.range A.1).map fun p => gw (pw A.1 j') (fnd (fun z => decide (gw (pw A.1 j) z = p)) A.1)) A.1 := by
      refine ⟨⟨by rw [List.length_map, List.length_range], fun p hp => ?_⟩, fun p q hp hq e => ?_⟩
      · obtain ⟨x, hx, ex⟩ := inj_surj hw.1.2 hw.2 p hp
        rw [← ex, hux x hx]
        exact hv.1.2 x hx
      · obtain ⟨x, hx, ex⟩ := inj_surj hw.1.2 hw.2 p hp
        obtain ⟨y, hy, ey⟩ := inj_surj hw.1.2 hw.2 q hq
        rw [← ex, ← ey, hux x hx, hux y hy] at e
        rw [← ex, ← ey, hv.2 x y hx hy e]
    obtain ⟨j2, hj2, e2⟩ := pw_full h1 h4 hwu
    have := c4 j2 hj2
    rw [e2] at this
    rw [rr_iso hA hAB hw hiso (fun x hx => (hux x hx).symm)]
    exact this
  · rw [← c3]
    exact rr_iso hA hAB hw hiso (fun x hx => by have := hw.1.2 x hx; simp [gw] at this ⊢; simp [this])
theorem list_of {A : ZP} (hA : pwf A) (h1 : 1 ≤ A.1) (h4 : A.1 ≤ 4) {i : Nat} (hi : i < sz A.1) (hv : pinvo A) (hl : plnd A) (h : ∃ j, j < fac A.1 ∧ rr A (pw A.1 j) = rwn A.1 i) : 0 < nIso A (plist A.1 i) (fac A.1) := by
  obtain ⟨j, hj, he⟩ := h
  obtain ⟨c1, c2, c3, c4, c5⟩ := ck_of h1 h4 hi
  have hwB := plist_wf h1 h4 hi
  have hw := (pw_wp h1 h4 hj).1
  have hid := wp_id A.1
  have hg : ∀ x, x < A.1 → gw (List.range A.1) x = x := fun x hx => by simp [gw, hx]
  have hL : ∀ x y, x < A.1 → y < A.1 → (plist A.1 i).2.1 (gw (pw A.1 j) x) (gw (pw A.1 j) y) = gw (pw A.1 j) (A.2.1 x y) := by
    intro x y hx hy
    have d1 := rr_dig hA hw hx hy
    have d2 := rr_dig (A := plist A.1 i) hwB (w := List.range A.1) hid (hw.1.2 x hx) (hw.1.2 y hy)
    have hb := (hwB.2 _ _ (hw.1.2 x hx) (hw.1.2 y hy)).1
    rw [he, ← c3] at d1
    rw [hg _ (hw.1.2 x hx), hg _ (hw.1.2 y hy), hg _ hb] at d2
    exact d2.symm.trans d1
  refine nIso_pos.mpr ⟨j, hj, isoB_iff.mpr fun x hx y hy => ⟨hL x y hx hy, ?_⟩⟩
  have hLR := hA.2 x y hx hy
  show fnd (fun c => decide ((plist A.1 i).2.1 ((plist A.1 i).2.1 (gw (pw A.1 j) x) (gw (pw A.1 j) y)) c = gw (pw A.1 j) x)) A.1 = _
  have e0 : (plist A.1 i).2.1 (gw (pw A.1 j) (A.2.1 x y)) (gw (pw A.1 j) (A.2.2 x y)) = gw (pw A.1 j) x := by
    rw [hL _ _ hLR.1 hLR.2, (hv x y hx hy).1]
  rw [hL x y hx hy]
  refine fnd_eq (hw.1.2 _ hLR.2) (decide_eq_true e0) (fun c hc => decide_eq_false fun e => ?_)
  have hcn : c < A.1 := Nat.lt_trans hc (hw.1.2 _ hLR.2)
  have := (plnd_inj hwB).mp c2 _ (hw.1.2 _ hLR.1) c _ hcn (hw.1.2 _ hLR.2) (e.trans e0.symm)
  omega
/-- the least of the rows -/
def mnR (A : ZP) : Nat → Nat
  | 0 => 2 ^ 63 - 1
  | k + 1 => if rr A (pw A.1 k) < mnR A k then rr A (pw A.1 k) else mnR A k
theorem mnR_le (A : ZP) : ∀ k, mnR A k ≤ 2 ^ 63 - 1 ∧ ∀ j, j < k → mnR A k ≤ rr A (pw A.1 j) := by
  intro k
  induction k with
  | zero => exact ⟨Nat.le_refl _, fun j hj => absurd hj (Nat.not_lt_zero _)⟩
  | succ k ih =>
    rw [mnR]
    by_cases q : rr A (pw A.1 k) < mnR A k
    · rw [if_pos q]
      refine ⟨by omega, fun j hj => ?_⟩
      rcases Nat.lt_succ_iff_lt_or_eq.mp hj with hj | rfl
      · have := ih.2 j hj; omega
      · exact Nat.le_refl _
    · rw [if_neg q]
      refine ⟨ih.1, fun j hj => ?_⟩
      rcases Nat.lt_succ_iff_lt_or_eq.mp hj with hj | rfl
      · exact ih.2 j hj
      · omega
theorem mnR_at (A : ZP) : ∀ k, mnR A k = 2 ^ 63 - 1 ∨ ∃ j, j < k ∧ rr A (pw A.1 j) = mnR A k := by
  intro k
  induction k with
  | zero => exact Or.inl rfl
  | succ k ih =>
    rw [mnR]
    by_cases q : rr A (pw A.1 k) < mnR A k
    · rw [if_pos q]
      exact Or.inr ⟨k, by omega, rfl⟩
    · rw [if_neg q]
      rcases ih with h | ⟨j, h1, h2⟩
      · exact Or.inl h
      · exact Or.inr ⟨j, by omega, h2⟩
theorem list_iff {A : ZP} (hA : pwf A) (h1 : 1 ≤ A.1) (h4 : A.1 ≤ 4) {i : Nat} (hi : i < sz A.1) (hv : pinvo A) (hl : plnd A) : rwn A.1 i = mnR A (fac A.1) ↔ 0 < nIso A (plist A.1 i) (fac A.1) := by
  have hs := st0_sz A.1 h4 h1
  have hr := rowN_lt (st0 A.1 + i) (by omega)
  constructor
  · intro e
    refine list_of hA h1 h4 hi hv hl ?_
    rcases mnR_at A (fac A.1) with h | ⟨j, g1, g2⟩
    · rw [← e] at h
      unfold rwn at h
      omega
    · exact ⟨j, g1, g2.trans e.symm⟩
  · intro h
    obtain ⟨_, _, g1, ⟨j, g2, g3⟩⟩ := list_to hA h1 h4 hi h
    have g4 := (mnR_le A (fac A.1)).2 j g2
    rcases mnR_at A (fac A.1) with h | ⟨j2, y1, y2⟩
    · have g5 := (mnR_le A (fac A.1)).1
      unfold rwn at g3 ⊢
      omega
    · have := g1 j2 y1
      omega
theorem l_ti {a : Nat} (h : a < 2 ^ 63) : (lN a).toInt = a := by
  show (BitVec.ofNat 64 a).toInt = _
  rw [BitVec.toInt_eq_toNat_cond, BitVec.toNat_ofNat, Nat.mod_eq_of_lt (by omega)]
  split <;> omega
theorem l_lt {a b : Nat} (ha : a < 2 ^ 63) (hb : b < 2 ^ 63) : lN a < lN b ↔ a < b := by
  rw [Int64.lt_iff_toInt_lt, l_ti ha, l_ti hb]
  omega
section
variable {G : ZG} {M : ZM} {Z : Option ZV → ZM → Prop} {S : ZS}
theorem s_RN_renamedRows {k : Nat} {A : ZP} {w : List Nat} (hk : k < 10) (h4 : A.1 ≤ 4) (hA : isPM M k A) (hw : isW M w) (hv : wp w A.1) (hZ : Z (some (zl (lN (rr A w)))) M) : Ctr 0 G mi_RN_renamedRows [zr 11 0, zr 0 k] M Z := by
  have rd : ∀ x, x < A.1 → M.1 12 0 x = nI (gw w x) := fun x hx => hw x (by rw [hv.1.1]; exact hx)
  have hnn : A.1 * A.1 ≤ 4 * 4 := Nat.mul_le_mul h4 h4
  refine go_RN_renamedRows (fun Kz hKz => ?_)
  conv => whnf
  refine ⟨hk, ?_⟩
  refine s_PM_points hk ?_
  rw [hA.2.1]
  conv => whnf
  refine hKz _ _ _ _ ?_
  refine rloop (n := A.1) (m := A.1) (O := fun x => ∀ v, v = ora (rrt A w) (A.1 * x) → V 0 G mi_RN_renamedRows Z 10 [(0, zr 11 0), (1, zr 0 k), (2, zi (nI A.1)), (3, zl (lN v)), (5, zi (nI x))] [] M) (I := fun x y => V 0 G mi_RN_renamedRows Z 19 [(0, zr 11 0), (1, zr 0 k), (2, zi (nI A.1)), (3, zl (lN (ora (rrt A w) (A.1 * x + y)))), (5, zi (nI x)), (6, zi (nI y))] [] M) (fun v hv2 => ?_) (fun x hx h v hv2 => ?_) (fun x hx h => ?_) (fun x y hx hy h => ?_) 0 rfl
  · refine z_run (cuts := cu_RN_renamedRows) ok_RN_renamedRows (fun Kz hKz => ?_)
    conv => whnf
    rw [nI_leI (by omega) (by omega)]
    refine ⟨fun _ => ?_, fun q => absurd (Nat.le_refl _) q⟩
    conv => whnf
    rw [hv2]
    exact hZ
  · refine z_run (cuts := cu_RN_renamedRows) ok_RN_renamedRows (fun Kz hKz => ?_)
    conv => whnf
    rw [nI_leI (by omega) (by omega)]
    refine ⟨fun q => absurd q (by omega), fun _ => ?_⟩
    conv => whnf
    refine hKz _ _ _ _ ?_
    rw [hv2]
    exact h
  · refine z_run (cuts := cu_RN_renamedRows) ok_RN_renamedRows (fun Kz hKz => ?_)
    conv => whnf
    rw [nI_leI (by omega) (by omega)]
    refine ⟨fun _ => ?_, fun q => absurd (Nat.le_refl _) q⟩
    conv => whnf
    refine hKz _ _ _ _ ?_
    rw [nI_1']
    exact h _ (by rw [Nat.mul_succ])
  · have hLR := hA.1.2 x y hx hy
    have v1 := hv.1.2 x hx
    have v2 := hv.1.2 y hy
    have v3 := hv.1.2 _ hLR.1
    have hp := prlt v1 v2
    refine z_run (cuts := cu_RN_renamedRows) ok_RN_renamedRows (fun Kz hKz => ?_)
    conv => whnf
    rw [nI_leI (by omega) (by omega)]
    refine ⟨fun q => absurd q (by omega), fun _ => ?_⟩
    conv => whnf
    refine s_RN_imageOf (by omega) ?_
    rw [rd x hx]
    conv => whnf
    refine s_RN_imageOf (by omega) ?_
    rw [rd y hy]
    conv => whnf
    refine ⟨hk, ?_⟩
    refine s_PM_left hk hA hx hy ?_
    conv => whnf
    refine s_RN_imageOf (by omega) ?_
    rw [rd _ hLR.1]
    conv => whnf
    rw [pk_mul, nI_add, Nat.mul_comm (gw w x) A.1]
    refine s_SL_shiftOf (by omega) hp ?_
    conv => whnf
    refine hKz _ _ _ _ ?_
    have e := rrt_at (A := A) (w := w) (x := x) hy
    rw [nI_l (by omega), l_shl _ _ (by omega), l_or, nI_1', ← e]
    exact h
def mqR (A : ZP) (k : Nat) : Nat := min (mnR A k) (rr A (pw A.1 0))
theorem mqR_0 {A : ZP} (h : rr A (pw A.1 0) < 2 ^ 63) : mqR A 0 = rr A (pw A.1 0) := by
  show min (2 ^ 63 - 1) _ = _
  omega
theorem mqR_succ (A : ZP) (k : Nat) : mqR A (k + 1) = if rr A (pw A.1 k) < mqR A k then rr A (pw A.1 k) else mqR A k := by
  unfold mqR
  rw [mnR]
  by_cases q : rr A (pw A.1 k) < mnR A k
  · rw [if_pos q]
    split <;> omega
  · rw [if_neg q, if_neg (fun z => q (by omega))]
theorem mqR_le (A : ZP) (k : Nat) : mqR A k ≤ 2 ^ 63 - 1 := Nat.le_trans (Nat.min_le_left _ _) (mnR_le A k).1
theorem fac_ps : ∀ n, n ≤ 4 → 0 < fac n := by decide
theorem mqR_fac {A : ZP} (h1 : 1 ≤ A.1) (h4 : A.1 ≤ 4) : mqR A (fac A.1) = mnR A (fac A.1) := Nat.min_eq_left ((mnR_le A (fac A.1)).2 0 (fac_ps A.1 h4))
theorem s_RN_smallestRows {k : Nat} {A : ZP} (hk : k < 10) (h1 : 1 ≤ A.1) (h4 : A.1 ≤ 4) (hA : isPM M k A) (hZ : ∀ M', zsm rnS M M' → Z (some (zl (lN (mnR A (fac A.1))))) M') : Ctr 0 G mi_RN_smallestRows [zr 11 0, zr 0 k] M Z := by
  have hf := fac_le A.1 (by omega)
  have lp : ∀ i, i ≤ fac A.1 → ∀ M', zsm rnS M M' → isW M' (pw A.1 i) → V 0 G mi_RN_smallestRows Z 21 [(0, zr 11 0), (1, zr 0 k), (2, zi (nI A.1)), (3, zl (lN (mqR A i))), (5, zi (nI (fac A.1 - i)))] [] M' := by
    refine up_to ?_ ?_
    · intro M' g1 g2
      refine z_run (cuts := cu_RN_smallestRows) ok_RN_smallestRows (fun Kz hKz => ?_)
      conv => whnf
      rw [Nat.sub_self, nI_leI (by omega) (by omega)]
      refine ⟨fun _ => ?_, fun q => absurd (Nat.le_refl _) q⟩
      conv => whnf
      rw [mqR_fac h1 h4]
      exact hZ M' g1
    · intro i hi ih M' g1 g2
      obtain ⟨d, hd⟩ : ∃ d, fac A.1 - i = d + 1 := ⟨fac A.1 - i - 1, by omega⟩
      have hd2 : fac A.1 - (i + 1) = d := by omega
      have hv := (pw_wp h1 h4 hi).1
      have b1 := rr_lt h4 hA.1 hv.1
      have b2 := mqR_le A i
      refine z_run (cuts := cu_RN_smallestRows) ok_RN_smallestRows (fun Kz hKz => ?_)
      conv => whnf
      rw [nI_leI (by omega) (by omega)]
      refine ⟨fun q => absurd q (by omega), fun _ => ?_⟩
      conv => whnf
      refine s_RN_renamedRows hk h4 (isPM_rn hA g1) g2 hv ?_
      conv => whnf
      refine s_RN_step hv.1.1 h1 (by omega) (wv_lt hv.1 (by omega)) g2 (fun M2 g3 g4 => ?_)
      conv => whnf
      refine hKz _ _ _ _ ?_
      rw [hd, pk_m1, ← hd2]
      have e : (if lN (rr A (pw A.1 i)) < lN (mqR A i) then lN (rr A (pw A.1 i)) else lN (mqR A i)) = lN (mqR A (i + 1)) := by
        rw [mqR_succ]
        by_cases q : rr A (pw A.1 i) < mqR A i
        · rw [if_pos q, if_pos ((l_lt b1 (by omega)).mpr q)]
        · rw [if_neg q, if_neg (fun z => q ((l_lt b1 (by omega)).mp z))]
      rw [e]
      exact ih M2 (zsm_trans g1 g3) g4
  refine go_RN_smallestRows (fun Kz hKz => ?_)
  conv => whnf
  refine ⟨hk, ?_⟩
  refine s_PM_points hk ?_
  rw [hA.2.1]
  conv => whnf
  refine s_RN_start (fun M1 g1 g2 => ?_)
  conv => whnf
  have hv0 := (pw_wp h1 h4 (show 0 < fac A.1 from fac_ps A.1 h4)).1
  refine s_RN_renamedRows hk h4 (isPM_rn hA g1) (g2 A.1 (by omega)) hv0 ?_
  conv => whnf
  refine s_RN_permutations h1 (by omega) ?_
  conv => whnf
  refine hKz _ _ _ _ ?_
  rw [show rr A (List.range A.1) = mqR A 0 from (mqR_0 (rr_lt h4 hA.1 hv0.1)).symm]
  exact lp 0 (Nat.zero_le _) M1 g1 (g2 A.1 (by omega))
theorem s_SL_indexOf {k : Nat} {A : ZP} (hk : k < 10) (h1 : 1 ≤ A.1) (hA : isPM M k A) (hi : A.1 ≤ 4 → ∀ i, i < sz A.1 → 0 < nIso A (plist A.1 i) (fac A.1) → (∀ j, j < i → ¬ 0 < nIso A (plist A.1 j) (fac A.1)) → ∀ M', zsm rnS M M' → Z (some (zi (nI i))) M') (h0 : (A.1 ≤ 4 → ∀ i, i < sz A.1 → ¬ 0 < nIso A (plist A.1 i) (fac A.1)) → ∀ M', zsm rnS M M' → Z (some (zi (-1))) M') : Ctr 0 G mi_SL_indexOf [zr 0 k, zr 11 0] M Z := by
  have hn := hA.1.1
  refine go_SL_indexOf (fun Kz hKz => ?_)
  conv => whnf
  refine ⟨hk, ?_⟩
  refine s_PM_points hk ?_
  rw [hA.2.1]
  conv => whnf
  refine s_SL_hasPoints (by omega) (fun _ h4 => ?_) (fun h4 => ?_)
  · have hs := st0_sz A.1 h4 h1
    conv => whnf
    first | refine ⟨fun _ => ?_, fun q => absurd (by decide) q⟩ | refine ⟨fun q => absurd q (by decide), fun _ => ?_⟩
    conv => whnf
    refine s_CH_isInvolutive hk hA (fun hv => ?_) (fun hv => ?_)
    · conv => whnf
      first | refine ⟨fun _ => ?_, fun q => absurd (by decide) q⟩ | refine ⟨fun q => absurd q (by decide), fun _ => ?_⟩
      conv => whnf
      refine s_CH_isLeftNondegenerate hk hA (fun hl => ?_) (fun hl => ?_)
      · conv => whnf
        first | refine ⟨fun _ => ?_, fun q => absurd (by decide) q⟩ | refine ⟨fun q => absurd q (by decide), fun _ => ?_⟩
        conv => whnf
        refine s_RN_smallestRows hk h1 h4 hA (fun M1 g1 => ?_)
        conv => whnf
        refine hKz _ _ _ _ ?_
        have b2 := (mnR_le A (fac A.1)).1
        have lp : ∀ i, i ≤ sz A.1 → (∀ j, j < i → ¬ 0 < nIso A (plist A.1 j) (fac A.1)) → V 0 G mi_SL_indexOf Z 37 [(2, zi (nI A.1)), (3, zl (lN (mnR A (fac A.1)))), (5, zi (nI i))] [] M1 := by
          refine up_to ?_ ?_
          · intro hno
            refine z_run (cuts := cu_SL_indexOf) ok_SL_indexOf (fun Kz hKz => ?_)
            conv => whnf
            refine s_SL_size h1 h4 ?_
            conv => whnf
            rw [nI_leI (by omega) (by omega)]
            refine ⟨fun _ => ?_, fun q => absurd (Nat.le_refl _) q⟩
            conv => whnf
            exact h0 (fun _ => hno) M1 g1
          · intro i hi2 ih hno
            have hr := rowN_lt (st0 A.1 + i) (by omega)
            have hlif := list_iff hA.1 h1 h4 hi2 hv hl
            refine z_run (cuts := cu_SL_indexOf) ok_SL_indexOf (fun Kz hKz => ?_)
            conv => whnf
            refine s_SL_size h1 h4 ?_
            conv => whnf
            rw [nI_leI (by omega) (by omega)]
            refine ⟨fun q => absurd q (by omega), fun _ => ?_⟩
            conv => whnf
            refine s_SL_rowsAt h1 h4 hi2 ?_
            conv => whnf
            rw [lc_eq, l_eq (by unfold rwn; omega) (by omega), hlif]
            refine ⟨fun q => ?_, fun q => ?_⟩
            · conv => whnf
              refine hKz _ _ _ _ ?_
              rw [nI_1']
              refine ih (fun j hj => ?_)
              rcases Nat.lt_succ_iff_lt_or_eq.mp hj with hj | rfl
              · exact hno j hj
              · exact q
            · conv => whnf
              exact hi h4 i hi2 (Classical.not_not.mp q) hno M1 g1
        exact lp 0 (Nat.zero_le _) (fun j hj => absurd hj (Nat.not_lt_zero _))
      · conv => whnf
        first | refine ⟨fun _ => ?_, fun q => absurd (by decide) q⟩ | refine ⟨fun q => absurd q (by decide), fun _ => ?_⟩
        conv => whnf
        exact h0 (fun _ i hi2 h => hl (list_to hA.1 h1 h4 hi2 h).2.1) M (zsm_refl _ _)
    · conv => whnf
      first | refine ⟨fun _ => ?_, fun q => absurd (by decide) q⟩ | refine ⟨fun q => absurd q (by decide), fun _ => ?_⟩
      conv => whnf
      exact h0 (fun _ i hi2 h => hv (list_to hA.1 h1 h4 hi2 h).1) M (zsm_refl _ _)
  · conv => whnf
    first | refine ⟨fun _ => ?_, fun q => absurd (by decide) q⟩ | refine ⟨fun q => absurd q (by decide), fun _ => ?_⟩
    conv => whnf
    exact h0 (fun q => absurd ⟨h1, q⟩ h4) M (zsm_refl _ _)
end
end
section
/-! the properties of a map: what each number asks -/
def nBrk (A : ZP) : Nat := cnt (fun j => brk A (dgl A.1 3 j)) (A.1 ^ 3)
def whR (A : ZP) (v : Int32) : Nat → Prop
  | 0 => v = nI A.1
  | 1 => v = nI (decide (nBrk A = 0)).toNat
  | 2 => v = nI (nBrk A)
  | 3 => (pinj A → v = nI 1) ∧ (¬ pinj A → v = nI 0)
  | 4 => (pinvo A → v = nI 1) ∧ (¬ pinvo A → v = nI 0)
  | 5 => (plnd A → v = nI 1) ∧ (¬ plnd A → v = nI 0)
  | 6 => (prnd A → v = nI 1) ∧ (¬ prnd A → v = nI 0)
  | 7 => (psq A → v = nI 1) ∧ (¬ psq A → v = nI 0)
  | 8 => ∃ p : Nat → Bool, (∀ x, x < A.1 → ∃ r, isOrb A x r ∧ (p x = true ↔ ∀ i, i < x → r.testBit i = false)) ∧ v = nI (cnt p A.1)
  | 9 => ∃ t, isLev A t ∧ ((rt A t).1 = 1 → v = nI t) ∧ (¬ (rt A t).1 = 1 → v = -1)
  | 10 => (¬ plnd A → v = -1) ∧ (plnd A → ∃ L, isGen A L ∧ v = nI L.length)
  | 11 => v = nI (nIso A A (fac A.1))
  | 12 => (¬ pinj A → v = -1) ∧ (pinj A → ∃ C : Nat → Nat, (∀ p, p < A.1 * A.1 → isCyc (pj A A.1) p (C p)) ∧ v = nI (lcmU C (A.1 * A.1)))
  | 13 => v = nI (cnt (clSb A) (2 ^ A.1))
  | 14 => (∃ i, A.1 ≤ 4 ∧ i < sz A.1 ∧ 0 < nIso A (plist A.1 i) (fac A.1) ∧ (∀ j, j < i → ¬ 0 < nIso A (plist A.1 j) (fac A.1)) ∧ v = nI i) ∨ ((A.1 ≤ 4 → ∀ i, i < sz A.1 → ¬ 0 < nIso A (plist A.1 i) (fac A.1)) ∧ v = -1)
  | _ => v = -1000002
theorem yn_uniq {P : Prop} {v v' : Int32} (h : (P → v = nI 1) ∧ (¬ P → v = nI 0)) (h' : (P → v' = nI 1) ∧ (¬ P → v' = nI 0)) : v = v' := by
  by_cases q : P
  · rw [h.1 q, h'.1 q]
  · rw [h.2 q, h'.2 q]
theorem cnt_congr {p q : Nat → Bool} : ∀ k, (∀ i, i < k → p i = q i) → cnt p k = cnt q k := by
  intro k
  induction k with
  | zero => intro _; rfl
  | succ k ih => intro h; rw [cnt, cnt, ih fun i hi => h i (by omega), h k (by omega)]
theorem lcmU_congr {C D : Nat → Nat} : ∀ k, (∀ i, i < k → C i = D i) → lcmU C k = lcmU D k := by
  intro k
  induction k with
  | zero => intro _; rfl
  | succ k ih => intro h; rw [lcmU, lcmU, ih fun i hi => h i (by omega), h k (by omega)]
theorem whR_uniq {A : ZP} {v v' : Int32} : ∀ c, whR A v c → whR A v' c → v = v'
  | 0, h, h' => h.trans h'.symm
  | 1, h, h' => h.trans h'.symm
  | 2, h, h' => h.trans h'.symm
  | 3, h, h' => yn_uniq h h'
  | 4, h, h' => yn_uniq h h'
  | 5, h, h' => yn_uniq h h'
  | 6, h, h' => yn_uniq h h'
  | 7, h, h' => yn_uniq h h'
  | 8, ⟨p, h1, h2⟩, ⟨p', h1', h2'⟩ => by
    rw [h2, h2']
    refine congrArg nI (cnt_congr _ fun x hx => ?_)
    obtain ⟨r, g1, g2⟩ := h1 x hx
    obtain ⟨r', g1', g2'⟩ := h1' x hx
    rw [isOrb_uniq g1' g1] at g2'
    rw [Bool.eq_iff_iff, g2, g2']
  | 9, ⟨t, h1, h2, h3⟩, ⟨t', h1', h2', h3'⟩ => by
    have e := isLev_uniq h1' h1
    subst e
    by_cases q : (rt A t').1 = 1
    · rw [h2 q, h2' q]
    · rw [h3 q, h3' q]
  | 10, h, h' => by
    by_cases q : plnd A
    · obtain ⟨L, g1, g2⟩ := h.2 q
      obtain ⟨L', g1', g2'⟩ := h'.2 q
      rw [g2, g2', isGen_uniq g1 g1']
    · rw [h.1 q, h'.1 q]
  | 11, h, h' => h.trans h'.symm
  | 12, h, h' => by
    by_cases q : pinj A
    · obtain ⟨C, g1, g2⟩ := h.2 q
      obtain ⟨C', g1', g2'⟩ := h'.2 q
      rw [g2, g2']
      exact congrArg nI (lcmU_congr _ fun i hi => cyc_uniq (g1 i hi) (g1' i hi))
    · rw [h.1 q, h'.1 q]
  | 13, h, h' => h.trans h'.symm
  | 14, h, h' => by
    rcases h with ⟨i, g1, g2, g3, g4, g5⟩ | ⟨g1, g2⟩
    · rcases h' with ⟨i', g1', g2', g3', g4', g5'⟩ | ⟨g1', g2'⟩
      · rw [g5, g5']
        rcases Nat.lt_trichotomy i i' with q | q | q
        · exact absurd g3 (g4' i q)
        · rw [q]
        · exact absurd g3' (g4 i' q)
      · exact absurd g3 (g1' g1 i g2)
    · rcases h' with ⟨i', g1', g2', g3', g4', g5'⟩ | ⟨g1', g2'⟩
      · exact absurd g3' (g1 g1' i' g2')
      · rw [g2, g2']
  | c + 15, h, h' => Eq.trans (b := (-1000002 : Int32)) h (Eq.symm h')
theorem csm_gr {M M' : ZM} (h : grs M M') : csm M M' := fun a b q => ⟨h.1 a b (by omega), funext fun c => h.2 a b c (by omega)⟩
theorem cst_gr {M M' : ZM} (h : grs M M') : cst M M' := ⟨fun b _ => ⟨h.1 0 b (by omega), h.1 1 b (by omega)⟩, fun b _ => ⟨h.1 2 b (by omega), h.1 3 b (by omega), h.1 4 b (by omega)⟩⟩
theorem lvS_no {a b : Nat} (h : lvS a b) : ¬ ((a = 2 ∨ a = 3 ∨ a = 4) ∨ ((a = 0 ∨ a = 1) ∧ b < 5)) ∧ a < 20 := by
  rcases h with h | h | h
  · have h2 := h.1; have := h.2; omega
  · have h2 := h.1; have := h.2; omega
  · have h2 := h.1; have := h.2; omega
theorem cst_lv {M M' : ZM} (h : zsm lvS M M') : cst M M' :=
  cst_of h (fun b hb => ⟨fun q => (lvS_no q).1 (by omega), fun q => (lvS_no q).1 (by omega)⟩) (fun b hb => ⟨fun q => (lvS_no q).1 (by omega), fun q => (lvS_no q).1 (by omega), fun q => (lvS_no q).1 (by omega)⟩)
theorem csm_lv {M M' : ZM} (h : zsm lvS M M') : csm M M' := csm_of h (fun a b q => (lvS_no q).2)
section
variable {G : ZG} {M : ZM} {Z : Option ZV → ZM → Prop} {S : ZS}
theorem c_whole {a c : Nat} (ha : a < 2 ^ 32) (hc : c < 2 ^ 32) (hC : CS M S) (h1 : (plA S a).1 = 0 → Z (some (zi (-1000001))) M) (h2 : ¬ (plA S a).1 = 0 → ∀ v, whR (plA S a) v c → ∀ M', CS M' S → csm M M' → Z (some (zi v)) M') : Ctr 0 G mi_T_whole [zr 5 0, zi (nI a), zi (nI c)] M Z := by
  have hA := CS_pl hC a
  have ka := plk_lt a
  have hn := hA.1.1
  have yes : ∀ {P : Prop}, P → (P → nI 1 = nI 1) ∧ (¬ P → nI 1 = nI 0) := fun h => ⟨fun _ => rfl, fun q => absurd h q⟩
  have no : ∀ {P : Prop}, ¬ P → (P → nI 0 = nI 1) ∧ (¬ P → nI 0 = nI 0) := fun h => ⟨fun q => absurd q h, fun _ => rfl⟩
  refine go_T_whole (fun Kz hKz => ?_)
  conv => whnf
  refine s_T_mapAt ha ?_
  conv => whnf
  refine ⟨by show plk a < 10; omega, ?_⟩
  refine s_PM_isEmpty (by omega) hA (fun e1 => ?_) (fun e1 => ?_)
  · conv => whnf
    first | refine ⟨fun _ => ?_, fun q => absurd (by decide) q⟩ | refine ⟨fun q => absurd q (by decide), fun _ => ?_⟩
    conv => whnf
    exact h1 e1
  · have h2 := h2 e1
    have hk : plk a < 10 := by omega
    have hpos : 0 < (plA S a).1 := by omega
    conv => whnf
    first | refine ⟨fun _ => ?_, fun q => absurd (by decide) q⟩ | refine ⟨fun q => absurd q (by decide), fun _ => ?_⟩
    conv => whnf
    refine ⟨fun (q : nI c = nI 0) => ?_, fun (q : ¬ nI c = nI 0) => ?_⟩
    · rw [n_eq hc (by decide)] at q
      subst q
      conv => whnf
      refine ⟨by show plk a < 10; omega, ?_⟩
      refine s_PM_points hk ?_
      rw [hA.2.1]
      conv => whnf
      exact h2 _ rfl M hC (csm_refl M)
    rw [n_eq hc (by decide)] at q
    conv => whnf
    refine ⟨fun (q : nI c = nI 1) => ?_, fun (q : ¬ nI c = nI 1) => ?_⟩
    · rw [n_eq hc (by decide)] at q
      subst q
      have hle := cnt_le (fun j => brk (plA S a) (dgl (plA S a).1 3 j)) ((plA S a).1 ^ 3)
      have h3 : (plA S a).1 ^ 3 ≤ 6 ^ 3 := Nat.pow_le_pow_left hn 3
      have h63 : (6 : Nat) ^ 3 = 216 := by decide
      conv => whnf
      refine s_CH_brokenTriples hk hA hpos ?_
      conv => whnf
      rw [n_ne (by omega) (by decide)]
      refine ⟨fun z => ?_, fun z => ?_⟩
      · have e : (decide (nBrk (plA S a) = 0)).toNat = 0 := by rw [decide_eq_false (show ¬ nBrk (plA S a) = 0 from z)]; rfl
        conv => whnf
        refine s_T_oneIfb (b := false) ?_
        conv => whnf
        exact h2 _ (show nI 0 = nI (decide (nBrk (plA S a) = 0)).toNat by rw [e]) M hC (csm_refl M)
      · have e : (decide (nBrk (plA S a) = 0)).toNat = 1 := by rw [decide_eq_true (show nBrk (plA S a) = 0 from Classical.not_not.mp z)]; rfl
        conv => whnf
        refine s_T_oneIfb (b := true) ?_
        conv => whnf
        exact h2 _ (show nI 1 = nI (decide (nBrk (plA S a) = 0)).toNat by rw [e]) M hC (csm_refl M)
    rw [n_eq hc (by decide)] at q
    conv => whnf
    refine ⟨fun (q : nI c = nI 2) => ?_, fun (q : ¬ nI c = nI 2) => ?_⟩
    · rw [n_eq hc (by decide)] at q
      subst q
      conv => whnf
      refine s_CH_brokenTriples hk hA hpos ?_
      conv => whnf
      exact h2 _ (show nI _ = nI (nBrk (plA S a)) from rfl) M hC (csm_refl M)
    rw [n_eq hc (by decide)] at q
    conv => whnf
    refine ⟨fun (q : nI c = nI 3) => ?_, fun (q : ¬ nI c = nI 3) => ?_⟩
    · rw [n_eq hc (by decide)] at q
      subst q
      conv => whnf
      refine s_CH_isBijective hk hA (fun z => ?_) (fun z => ?_)
      · conv => whnf
        refine s_T_oneIfb (b := true) ?_
        conv => whnf
        exact h2 _ (yes z) M hC (csm_refl M)
      · conv => whnf
        refine s_T_oneIfb (b := false) ?_
        conv => whnf
        exact h2 _ (no z) M hC (csm_refl M)
    rw [n_eq hc (by decide)] at q
    conv => whnf
    refine ⟨fun (q : nI c = nI 4) => ?_, fun (q : ¬ nI c = nI 4) => ?_⟩
    · rw [n_eq hc (by decide)] at q
      subst q
      conv => whnf
      refine s_CH_isInvolutive hk hA (fun z => ?_) (fun z => ?_)
      · conv => whnf
        refine s_T_oneIfb (b := true) ?_
        conv => whnf
        exact h2 _ (yes z) M hC (csm_refl M)
      · conv => whnf
        refine s_T_oneIfb (b := false) ?_
        conv => whnf
        exact h2 _ (no z) M hC (csm_refl M)
    rw [n_eq hc (by decide)] at q
    conv => whnf
    refine ⟨fun (q : nI c = nI 5) => ?_, fun (q : ¬ nI c = nI 5) => ?_⟩
    · rw [n_eq hc (by decide)] at q
      subst q
      conv => whnf
      refine s_CH_isLeftNondegenerate hk hA (fun z => ?_) (fun z => ?_)
      · conv => whnf
        refine s_T_oneIfb (b := true) ?_
        conv => whnf
        exact h2 _ (yes z) M hC (csm_refl M)
      · conv => whnf
        refine s_T_oneIfb (b := false) ?_
        conv => whnf
        exact h2 _ (no z) M hC (csm_refl M)
    rw [n_eq hc (by decide)] at q
    conv => whnf
    refine ⟨fun (q : nI c = nI 6) => ?_, fun (q : ¬ nI c = nI 6) => ?_⟩
    · rw [n_eq hc (by decide)] at q
      subst q
      conv => whnf
      refine s_CH_isRightNondegenerate hk hA (fun z => ?_) (fun z => ?_)
      · conv => whnf
        refine s_T_oneIfb (b := true) ?_
        conv => whnf
        exact h2 _ (yes z) M hC (csm_refl M)
      · conv => whnf
        refine s_T_oneIfb (b := false) ?_
        conv => whnf
        exact h2 _ (no z) M hC (csm_refl M)
    rw [n_eq hc (by decide)] at q
    conv => whnf
    refine ⟨fun (q : nI c = nI 7) => ?_, fun (q : ¬ nI c = nI 7) => ?_⟩
    · rw [n_eq hc (by decide)] at q
      subst q
      conv => whnf
      refine s_CH_isSquareFree hk hA (fun z => ?_) (fun z => ?_)
      · conv => whnf
        refine s_T_oneIfb (b := true) ?_
        conv => whnf
        exact h2 _ (yes z) M hC (csm_refl M)
      · conv => whnf
        refine s_T_oneIfb (b := false) ?_
        conv => whnf
        exact h2 _ (no z) M hC (csm_refl M)
    rw [n_eq hc (by decide)] at q
    conv => whnf
    refine ⟨fun (q : nI c = nI 8) => ?_, fun (q : ¬ nI c = nI 8) => ?_⟩
    · rw [n_eq hc (by decide)] at q
      subst q
      conv => whnf
      refine s_CH_orbits hk hA (fun p hp => ?_)
      conv => whnf
      exact h2 _ ⟨p, hp, rfl⟩ M hC (csm_refl M)
    rw [n_eq hc (by decide)] at q
    conv => whnf
    refine ⟨fun (q : nI c = nI 9) => ?_, fun (q : ¬ nI c = nI 9) => ?_⟩
    · rw [n_eq hc (by decide)] at q
      subst q
      conv => whnf
      refine s_AC_levelOf (by omega) hA hpos (fun t g1 g2 M' g3 => ?_) (fun t g1 g2 M' g3 => ?_)
      · conv => whnf
        exact h2 _ ⟨t, g1, fun _ => rfl, fun z => absurd g2 z⟩ M' (CS_cst hC (cst_lv g3)) (csm_lv g3)
      · conv => whnf
        exact h2 _ ⟨t, g1, fun z => absurd z g2, fun _ => rfl⟩ M' (CS_cst hC (cst_lv g3)) (csm_lv g3)
    rw [n_eq hc (by decide)] at q
    conv => whnf
    refine ⟨fun (q : nI c = nI 10) => ?_, fun (q : ¬ nI c = nI 10) => ?_⟩
    · rw [n_eq hc (by decide)] at q
      subst q
      conv => whnf
      refine s_RG_orderFor hk hA (fun z => ?_) (fun z L g1 g2 M' g3 => ?_)
      · conv => whnf
        exact h2 _ ⟨fun _ => rfl, fun y => absurd y z⟩ M hC (csm_refl M)
      · conv => whnf
        exact h2 _ ⟨fun y => absurd z y, fun _ => ⟨L, g1, rfl⟩⟩ M' (CS_cst hC (cst_gr g3)) (csm_gr g3)
    rw [n_eq hc (by decide)] at q
    conv => whnf
    refine ⟨fun (q : nI c = nI 11) => ?_, fun (q : ¬ nI c = nI 11) => ?_⟩
    · rw [n_eq hc (by decide)] at q
      subst q
      conv => whnf
      refine s_RN_isomorphisms hk hk hA hA hpos (fun _ M' g1 => ?_) (fun z => absurd rfl z)
      conv => whnf
      exact h2 _ rfl M' (CS_cst hC (cst_rn g1)) (csm_rn g1)
    rw [n_eq hc (by decide)] at q
    conv => whnf
    refine ⟨fun (q : nI c = nI 12) => ?_, fun (q : ¬ nI c = nI 12) => ?_⟩
    · rw [n_eq hc (by decide)] at q
      subst q
      conv => whnf
      refine s_CH_periodOf hk hA (fun z => ?_) (fun z C g1 g2 => ?_)
      · conv => whnf
        exact h2 _ ⟨fun _ => rfl, fun y => absurd y z⟩ M hC (csm_refl M)
      · conv => whnf
        exact h2 _ ⟨fun y => absurd z y, fun _ => ⟨C, fun p hp => (g1 p hp).2, rfl⟩⟩ M hC (csm_refl M)
    rw [n_eq hc (by decide)] at q
    conv => whnf
    refine ⟨fun (q : nI c = nI 13) => ?_, fun (q : ¬ nI c = nI 13) => ?_⟩
    · rw [n_eq hc (by decide)] at q
      subst q
      conv => whnf
      refine s_CH_closedSets hk hA ?_
      conv => whnf
      exact h2 _ rfl M hC (csm_refl M)
    rw [n_eq hc (by decide)] at q
    conv => whnf
    refine ⟨fun (q : nI c = nI 14) => ?_, fun (q : ¬ nI c = nI 14) => ?_⟩
    · rw [n_eq hc (by decide)] at q
      subst q
      conv => whnf
      refine s_SL_indexOf hk hpos hA (fun g1 i g2 g3 g4 M' g5 => ?_) (fun g1 M' g5 => ?_)
      · conv => whnf
        exact h2 _ (Or.inl ⟨i, g1, g2, g3, g4, rfl⟩) M' (CS_cst hC (cst_rn g5)) (csm_rn g5)
      · conv => whnf
        exact h2 _ (Or.inr ⟨g1, rfl⟩) M' (CS_cst hC (cst_rn g5)) (csm_rn g5)
    rw [n_eq hc (by decide)] at q
    obtain ⟨d, rfl⟩ : ∃ d, c = d + 15 := ⟨c - 15, by omega⟩
    conv => whnf
    exact h2 _ (show (-1000002 : Int32) = -1000002 from rfl) M hC (csm_refl M)
end
end
section
/-! the law's own rows: 8 longs a map: how many points, six rows of cells; numbers -/
theorem n_nz {b : Nat} (h0 : 0 < b) (hb : b < 2 ^ 31) : ¬ nI b = nI 0 := by rw [nI_eq hb (by decide)]; omega
theorem lg_lt0 (x y : Int64) : lg_cmp x y < nI 0 ↔ x < y := by rw [nI_0]; exact lg_cmp_lt x y
theorem lg_gt0 (x y : Int64) : nI 0 < lg_cmp x y ↔ y < x := by rw [nI_0]; exact lg_cmp_gt x y
theorem lg_le0 (x y : Int64) : lg_cmp x y ≤ nI 0 ↔ ¬ y < x := by rw [← lg_gt0, Int32.not_lt]
theorem b2i_t : b2i true = nI 1 := rfl
theorem b2i_f : b2i false = nI 0 := rfl
theorem n_dm {k n : Nat} (hk : k < 2 ^ 31) (h0 : 0 < n) (hn : n < 2 ^ 31) : nI k / nI n = nI (k / n) ∧ nI k % nI n = nI (k % n) := ⟨pk_div hk h0 hn, n_mod hk h0 hn⟩
theorem l_xor (a b : Nat) : lN a ^^^ lN b = lN (a ^^^ b) := l_ext (by
  rw [Int64.toBitVec_xor, l_bv, l_bv, l_bv]
  apply BitVec.eq_of_toNat_eq
  simp only [BitVec.toNat_xor, BitVec.toNat_ofNat]
  apply Nat.eq_of_testBit_eq
  intro i
  simp only [Nat.testBit_xor, Nat.testBit_mod_two_pow]
  cases decide (i < 64) <;> simp)
theorem l_m1 : (-1 : Int64) = lN (2 ^ 64 - 1) := by decide +kernel
/-- digits of three bits -/
theorem sh_tb {v p q i : Nat} (hv : v < 8) (hi : i < 3) : (v * 2 ^ (3 * p)).testBit (3 * q + i) = (decide (q = p) && v.testBit i) := by
  rw [Nat.testBit_mul_two_pow]
  rcases Nat.lt_trichotomy q p with h | h | h
  · rw [decide_eq_false (show ¬ 3 * p ≤ 3 * q + i by omega), decide_eq_false (show ¬ q = p by omega)]
    rfl
  · rw [h, decide_eq_true (show 3 * p ≤ 3 * p + i by omega), decide_eq_true rfl, show 3 * p + i - 3 * p = i by omega]
  · rw [decide_eq_false (show ¬ q = p by omega), Bool.false_and, Nat.testBit_lt_two_pow (show v < 2 ^ (3 * q + i - 3 * p) from Nat.lt_of_lt_of_le hv (Nat.pow_le_pow_right (n := 2) (i := 3) (by decide) (by omega))), Bool.and_false]
theorem dg3_tb (w q i : Nat) (hi : i < 3) : (w / 2 ^ (3 * q) % 8).testBit i = w.testBit (3 * q + i) := by
  rw [show (8 : Nat) = 2 ^ 3 from rfl, Nat.testBit_mod_two_pow, Nat.testBit_div_two_pow, decide_eq_true hi, Bool.true_and, Nat.add_comm]
theorem dg3_ext {a b : Nat} (ha : a < 8) (hb : b < 8) (h : ∀ i, i < 3 → a.testBit i = b.testBit i) : a = b := by
  apply Nat.eq_of_testBit_eq
  intro i
  by_cases hi : i < 3
  · exact h i hi
  · rw [Nat.testBit_lt_two_pow (Nat.lt_of_lt_of_le ha (Nat.pow_le_pow_right (n := 2) (i := 3) (by decide) (by omega))), Nat.testBit_lt_two_pow (Nat.lt_of_lt_of_le hb (Nat.pow_le_pow_right (n := 2) (i := 3) (by decide) (by omega)))]
theorem seven_tb : ∀ i, i < 3 → (7 : Nat).testBit i = true := by decide
/-- two digits laid anew -/
def ly2 (w p q u v : Nat) : Nat := ((w &&& ((7 * 2 ^ (3 * p) ||| 7 * 2 ^ (3 * q)) ^^^ (2 ^ 64 - 1))) ||| u * 2 ^ (3 * p)) ||| v * 2 ^ (3 * q)
theorem ly2_dg {w p q u v r : Nat} (hp : p < 21) (hq : q < 21) (hpq : p ≠ q) (hr : r < 21) (hu : u < 8) (hv : v < 8) : ly2 w p q u v / 2 ^ (3 * r) % 8 = if r = p then u else if r = q then v else w / 2 ^ (3 * r) % 8 := by
  refine dg3_ext (Nat.mod_lt _ (by decide)) (by split; exact hu; split; exact hv; exact Nat.mod_lt _ (by decide)) (fun i hi => ?_)
  rw [dg3_tb _ _ _ hi]
  unfold ly2
  rw [Nat.testBit_or, Nat.testBit_or, Nat.testBit_and, Nat.testBit_xor, Nat.testBit_or, sh_tb (by decide) hi, sh_tb (by decide) hi, sh_tb hu hi, sh_tb hv hi, Nat.testBit_two_pow_sub_one, seven_tb i hi, decide_eq_true (show 3 * r + i < 64 by omega)]
  by_cases h1 : r = p
  · rw [if_pos h1, decide_eq_true h1, decide_eq_false (show ¬ r = q by omega)]
    simp
  · rw [if_neg h1, decide_eq_false h1]
    by_cases h2 : r = q
    · rw [if_pos h2, decide_eq_true h2]
      simp
    · rw [if_neg h2, decide_eq_false h2, dg3_tb _ _ _ hi]
      simp
theorem ly2_lt {w p q u v : Nat} (hw : w < 2 ^ 36) (hp : p < 12) (hq : q < 12) (hu : u < 8) (hv : v < 8) : ly2 w p q u v < 2 ^ 36 := by
  have h3 : ∀ a r, a < 8 → r < 12 → a * 2 ^ (3 * r) < 2 ^ 36 := fun a r ha hr => by
    have h4 : a * 2 ^ (3 * r) < 8 * 2 ^ (3 * r) := Nat.mul_lt_mul_of_pos_right ha (Nat.two_pow_pos _)
    have h5 : 8 * 2 ^ (3 * r) = 2 ^ (3 + 3 * r) := by rw [Nat.pow_add]
    have h6 : (2 : Nat) ^ (3 + 3 * r) ≤ 2 ^ 36 := Nat.pow_le_pow_right (by decide) (by omega)
    omega
  exact Nat.or_lt_two_pow (Nat.or_lt_two_pow (Nat.lt_of_le_of_lt Nat.and_le_left hw) (h3 u p hu hp)) (h3 v q hv hq)
/-- a row's word; a cell's two numbers -/
def hw (M : ZM) (m x : Nat) : Nat := (M.2 20 0 (8 * m + 1 + x)).toBitVec.toNat
theorem hw_eq (M : ZM) (m x : Nat) : M.2 20 0 (8 * m + 1 + x) = lN (hw M m x) := l_ext (by
  rw [l_bv]
  unfold hw
  apply BitVec.eq_of_toNat_eq
  rw [BitVec.toNat_ofNat, Nat.mod_eq_of_lt (BitVec.isLt _)])
def hcl (M : ZM) (m x y : Nat) : Nat := hw M m x / 2 ^ (3 * y) % 8
def hcr (M : ZM) (m x y : Nat) : Nat := hw M m x / 2 ^ (3 * (6 + y)) % 8
def hok (M : ZM) : Prop := ∀ m, m < 5 → ∀ x, x < 6 → hw M m x < 2 ^ 36
def hfr (M M' : ZM) : Prop := M'.1 = M.1 ∧ ∀ a b, ¬ (a = 20 ∧ b = 0) → M'.2 a b = M.2 a b
theorem hfr_refl (M : ZM) : hfr M M := ⟨rfl, fun _ _ _ => rfl⟩
theorem hfr_trans {M M' M'' : ZM} (h : hfr M M') (h' : hfr M' M'') : hfr M M'' := ⟨h'.1.trans h.1, fun a b q => (h'.2 a b q).trans (h.2 a b q)⟩
/-- a cell is laid; all other cells, all points are as they were -/
def hly (m x y u v : Nat) (M M' : ZM) : Prop := hfr M M' ∧ hok M' ∧ (∀ k, k < 5 → M'.2 20 0 (8 * k) = M.2 20 0 (8 * k)) ∧ ∀ k a b, k < 5 → a < 6 → b < 6 → hcl M' k a b = (if k = m ∧ a = x ∧ b = y then u else hcl M k a b) ∧ hcr M' k a b = (if k = m ∧ a = x ∧ b = y then v else hcr M k a b)
def isH (M : ZM) (m : Nat) (A : ZP) : Prop := pwf A ∧ M.2 20 0 (8 * m) = lN A.1 ∧ ∀ x y, x < A.1 → y < A.1 → hcl M m x y = A.2.1 x y ∧ hcr M m x y = A.2.2 x y
def LH (M : ZM) (S : ZS) : Prop := hok M ∧ ∀ m, m < 4 → isH M m (S.1 m)
theorem hok_eq {M M' : ZM} (h : hok M) (q : M'.2 20 0 = M.2 20 0) : hok M' := fun m hm x hx => by unfold hw; rw [q]; exact h m hm x hx
theorem isH_eq {M M' : ZM} {m : Nat} {A : ZP} (h : isH M m A) (q : M'.2 20 0 = M.2 20 0) : isH M' m A := by
  unfold isH hcl hcr hw
  rw [q]
  exact h
theorem LH_eq {M M' : ZM} {S : ZS} (h : LH M S) (q : M'.2 20 0 = M.2 20 0) : LH M' S := ⟨hok_eq h.1 q, fun m hm => isH_eq (h.2 m hm) q⟩
theorem LH_csm {M M' : ZM} {S : ZS} (h : LH M S) (q : csm M M') : LH M' S := LH_eq h (q 20 0 (by decide)).2
theorem CS_hfr {M M' : ZM} {S : ZS} (h : CS M S) (q : hfr M M') : CS M' S := by
  unfold CS isPM isBR at *
  rw [q.1]
  exact h
theorem hly_set {M : ZM} {m x y u v : Nat} (hM : hok M) (hm : m < 5) (hx : x < 6) (hy : y < 6) (hu : u < 8) (hv : v < 8) : hly m x y u v M (zsetL 20 0 (8 * m + 1 + x) (lN (ly2 (hw M m x) y (6 + y) u v)) M) := by
  have w0 := hM m hm x hx
  have wl := ly2_lt (p := y) (q := 6 + y) w0 (by omega) (by omega) hu hv
  have hwe : ∀ k a, k < 5 → a < 6 → hw (zsetL 20 0 (8 * m + 1 + x) (lN (ly2 (hw M m x) y (6 + y) u v)) M) k a = if k = m ∧ a = x then ly2 (hw M m x) y (6 + y) u v else hw M k a := by
    intro k a hk ha
    by_cases h : k = m ∧ a = x
    · rw [if_pos h, h.1, h.2]
      show ((zsetL 20 0 (8 * m + 1 + x) _ M).2 20 0 (8 * m + 1 + x)).toBitVec.toNat = _
      rw [zsetL_eq, l_tn (by omega)]
    · rw [if_neg h]
      show ((zsetL 20 0 (8 * m + 1 + x) _ M).2 20 0 (8 * k + 1 + a)).toBitVec.toNat = _
      rw [zsetL_ne (by omega)]
      rfl
  refine ⟨⟨rfl, fun a b q => zsetL_off q⟩, fun k hk a ha => ?_, fun k hk => zsetL_ne (by omega), fun k a b hk ha hb => ?_⟩
  · rw [hwe k a hk ha]
    split
    · exact wl
    · exact hM k hk a ha
  · unfold hcl hcr
    rw [hwe k a hk ha]
    by_cases h : k = m ∧ a = x
    · rw [if_pos h, ly2_dg (by omega) (by omega) (by omega) (by omega) hu hv, ly2_dg (by omega) (by omega) (by omega) (by omega) hu hv, if_neg (show ¬ 6 + b = y by omega), if_neg (show ¬ b = 6 + y by omega), h.1, h.2]
      by_cases h2 : b = y
      · rw [if_pos h2, if_pos (show 6 + b = 6 + y by omega), if_pos ⟨rfl, rfl, h2⟩, if_pos ⟨rfl, rfl, h2⟩]
        exact ⟨rfl, rfl⟩
      · rw [if_neg h2, if_neg (show ¬ 6 + b = 6 + y by omega), if_neg (fun z => h2 z.2.2), if_neg (fun z => h2 z.2.2)]
        exact ⟨rfl, rfl⟩
    · rw [if_neg h, if_neg (fun z => h ⟨z.1, z.2.1⟩), if_neg (fun z => h ⟨z.1, z.2.1⟩)]
      exact ⟨rfl, rfl⟩
section
variable {G : ZG} {M : ZM} {Z : Option ZV → ZM → Prop} {S : ZS}
theorem h_cell {k : Nat} (hk : k < 2 ^ 31) (hN : gN G < 2 ^ 31) (hZ : ∀ v, Z (some (zi v)) M) : Ctr 0 G mi_LW_cell [zr 39 0, zi (nI k)] M Z := by
  refine go_LW_cell (fun Kz hKz => ?_)
  conv => whnf
  rw [nI_leI hN hk]
  refine ⟨fun q => ?_, fun q => ?_⟩
  · conv => whnf
    exact hZ _
  · conv => whnf
    refine ⟨vp_in_nI (by omega) hN, ?_⟩
    conv => whnf
    exact hZ _
theorem h_low {v : Int32} {n : Nat} (h0 : 0 < n) (hn : n < 2 ^ 31) (hZ : ∀ r, r < n → Z (some (zi (nI r))) M) : Ctr 0 G mi_LW_low [zi v, zi (nI n)] M Z := by
  obtain ⟨a, ha, rfl⟩ := n_of v
  refine go_LW_low (fun Kz hKz => ?_)
  conv => whnf
  refine ⟨n_nz h0 hn, ?_⟩
  conv => whnf
  rw [n_and, show (2147483647 : Nat) = 2 ^ 31 - 1 from rfl, Nat.and_two_pow_sub_one_eq_mod, n_mod (Nat.mod_lt _ (by decide)) h0 hn]
  exact hZ _ (Nat.mod_lt _ h0)
theorem h_points {m : Nat} {A : ZP} (hm : m < 5) (hA : isH M m A) (hZ : Z (some (zi (nI A.1))) M) : Ctr 0 G mi_LW_points [zr 20 0, zi (nI m)] M Z := by
  refine go_LW_points (fun Kz hKz => ?_)
  conv => whnf
  rw [pk_mul]
  refine ⟨vp_in_nI (by omega) (by decide), ?_⟩
  conv => whnf
  rw [nI_clamp (by omega), hA.2.1, lN_i]
  exact hZ
theorem h_l {m x y : Nat} {A : ZP} (hm : m < 5) (hM : hok M) (hA : isH M m A) (hx : x < A.1) (hy : y < A.1) (hZ : Z (some (zi (nI (A.2.1 x y)))) M) : Ctr 0 G mi_LW_l [zr 20 0, zi (nI m), zi (nI x), zi (nI y)] M Z := by
  have hn := hA.1.1
  have w0 := hM m hm x (by omega)
  refine go_LW_l (fun Kz hKz => ?_)
  conv => whnf
  rw [pk_mul, nI_add, nI_add]
  refine ⟨vp_in_nI (by omega) (by decide), ?_⟩
  conv => whnf
  rw [nI_clamp (by omega), hw_eq, pk_mul, l_shr _ (by omega) (by omega), l_and, lN_i, show (7 : Nat) = 2 ^ 3 - 1 from rfl, Nat.and_two_pow_sub_one_eq_mod]
  rw [← (hA.2.2 x y hx hy).1] at hZ
  exact hZ
theorem h_r {m x y : Nat} {A : ZP} (hm : m < 5) (hM : hok M) (hA : isH M m A) (hx : x < A.1) (hy : y < A.1) (hZ : Z (some (zi (nI (A.2.2 x y)))) M) : Ctr 0 G mi_LW_r [zr 20 0, zi (nI m), zi (nI x), zi (nI y)] M Z := by
  have hn := hA.1.1
  have w0 := hM m hm x (by omega)
  refine go_LW_r (fun Kz hKz => ?_)
  conv => whnf
  rw [pk_mul, nI_add, nI_add]
  refine ⟨vp_in_nI (by omega) (by decide), ?_⟩
  conv => whnf
  rw [nI_clamp (by omega), hw_eq, pk_mul, nI_add, l_shr _ (by omega) (by omega), l_and, lN_i, show (7 : Nat) = 2 ^ 3 - 1 from rfl, Nat.and_two_pow_sub_one_eq_mod]
  rw [← (hA.2.2 x y hx hy).2] at hZ
  unfold hcr at hZ
  rw [Nat.mul_add] at hZ
  exact hZ
theorem h_lays {m x y u v : Nat} (hm : m < 5) (hM : hok M) (hx : x < 6) (hy : y < 6) (hu : u < 8) (hv : v < 8) (hZ : ∀ M', hly m x y u v M M' → Z none M') : Ctr 0 G mi_LW_lays [zr 20 0, zi (nI m), zi (nI x), zi (nI y), zi (nI u), zi (nI v)] M Z := by
  refine go_LW_lays (fun Kz hKz => ?_)
  conv => whnf
  rw [pk_mul, nI_add, nI_add]
  refine ⟨vp_in_nI (by omega) (by decide), ?_⟩
  conv => whnf
  rw [pk_mul, nI_add, nI_add]
  refine ⟨vp_in_nI (by omega) (by decide), ?_⟩
  conv => whnf
  rw [nI_clamp (by omega), hw_eq, pk_mul, nI_add, nI_l (by omega : u < 2 ^ 31), nI_l (by omega : v < 2 ^ 31), l_shl _ _ (by omega), l_shl _ _ (by omega), l_shl _ _ (by omega), l_shl _ _ (by omega), l_or, l_m1, l_xor, l_and, l_or, l_or]
  have h := hZ _ (hly_set hM hm hx hy hu hv)
  unfold ly2 at h
  rw [Nat.mul_add] at h
  exact h
end
end
section
/-! the law: copies, numbers of a code, permutations and units out of a cell, groups' products, braces -/
/-- the inner row of 'names': the unused number with s unused ones before it, how many were seen -/
def pk2 (left s : Nat) : Nat → Nat × Nat
  | 0 => (0, 0)
  | k + 1 => if left.testBit k then ((if (pk2 left s k).2 = s then k else (pk2 left s k).1), (pk2 left s k).2 + 1) else pk2 left s k
theorem pk2_le (left s : Nat) : ∀ k, (pk2 left s k).2 ≤ k ∧ (pk2 left s k).1 ≤ k := by
  intro k
  induction k with
  | zero => exact ⟨Nat.le_refl _, Nat.le_refl _⟩
  | succ k ih =>
    rw [pk2]
    split
    · refine ⟨by show (pk2 left s k).2 + 1 ≤ k + 1; omega, ?_⟩
      show (if _ then k else (pk2 left s k).1) ≤ k + 1
      split <;> omega
    · exact ⟨by omega, by omega⟩
def nmL (n : Nat) : Nat → List (Nat × Nat)
  | 0 => [(0, 2 ^ n - 1)]
  | i + 1 => (nmL n i).flatMap fun q => (List.range (n - i)).map fun r => (q.1 ||| (pk2 q.2 r n).1 * 2 ^ (3 * i), q.2 &&& (1 * 2 ^ (pk2 q.2 r n).1 ^^^ 4294967295))
theorem nmL_next {n i r : Nat} {q : Nat × Nat} (h : q ∈ nmL n i) (hr : r < n - i) : (q.1 ||| (pk2 q.2 r n).1 * 2 ^ (3 * i), q.2 &&& (1 * 2 ^ (pk2 q.2 r n).1 ^^^ 4294967295)) ∈ nmL n (i + 1) :=
  List.mem_flatMap.mpr ⟨q, h, List.mem_map.mpr ⟨r, List.mem_range.mpr hr, rfl⟩⟩
def isPB (m n : Nat) : Bool := decide (m < 8 ^ n ∧ (∀ i, i < n → m / 8 ^ i % 8 < n) ∧ st8 m n = 2 ^ n - 1)
theorem isPB_iff {m n : Nat} (h : isPB m n = true) : isP m n := by
  have := of_decide_eq_true h
  exact ⟨⟨this.1, this.2.1⟩, this.2.2⟩
def nmB (n : Nat) : Bool := (nmL n n).all fun q => isPB q.1 n
theorem nmB_all : ∀ n, n ≤ 6 → nmB n = true := by decide +kernel
def nmC (n : Nat) : Bool := (List.range (n + 1)).all fun i => (nmL n i).all fun q => decide (q.2 < 64)
theorem nmC_all : ∀ n, n ≤ 6 → nmC n = true := by decide +kernel
theorem nmL_lt {n i : Nat} {q : Nat × Nat} (hn : n ≤ 6) (hi : i ≤ n) (h : q ∈ nmL n i) : q.2 < 64 := by
  have h1 := nmC_all n hn
  unfold nmC at h1
  have h2 := List.all_eq_true.mp h1 i (List.mem_range.mpr (by omega))
  exact of_decide_eq_true (List.all_eq_true.mp h2 q h)
theorem nmL_isP {n : Nat} {q : Nat × Nat} (hn : n ≤ 6) (h : q ∈ nmL n n) : isP q.1 n := isPB_iff (List.all_eq_true.mp (nmB_all n hn) q h)
/-- 'units' -/
def wls (n : Nat) : List Nat := if n = 5 then [1, 2, 3, 4] else [1, n - 1]
def unL (n : Nat) : Nat → List Nat
  | 0 => [0]
  | i + 1 => (unL n i).flatMap fun c => (wls n).map fun w => c ||| w * 2 ^ (3 * i)
def unB (n : Nat) : Bool := (unL n n).all fun c => decide (c < 8 ^ n) && (List.range n).all fun a => decide (n < 2) || un n (dg c a)
theorem unB_all : ∀ n, n ≤ 6 → unB n = true := by decide +kernel
theorem unL_lt {n c : Nat} (hn : n ≤ 6) (h : c ∈ unL n n) : c < 8 ^ n := by
  have h1 := List.all_eq_true.mp (unB_all n hn) c h
  simp only [Bool.and_eq_true, decide_eq_true_eq] at h1
  exact h1.1
theorem unL_areU {n c : Nat} (h2 : 2 ≤ n) (hn : n ≤ 6) (h : c ∈ unL n n) : areU n c := by
  have h1 := List.all_eq_true.mp (unB_all n hn) c h
  simp only [Bool.and_eq_true, decide_eq_true_eq] at h1
  refine ⟨h1.1, fun a ha => ?_⟩
  have h3 := List.all_eq_true.mp h1.2 a (List.mem_range.mpr ha)
  rw [decide_eq_false (show ¬ n < 2 by omega), Bool.false_or] at h3
  exact h3
theorem n_ones : (-1 : Int32) = nI 4294967295 := by decide +kernel
theorem n_ti0 {a : Nat} (ha : a < 2 ^ 32) : nI a = nI 0 ↔ a = 0 := by
  constructor
  · intro h
    have h1 := congrArg (fun z : Int32 => z.toBitVec.toNat) h
    have h2 : (nI a).toBitVec.toNat = (nI 0).toBitVec.toNat := h1
    rw [n_tn ha, n_tn (by decide)] at h2
    exact h2
  · intro h; rw [h]
theorem n_mod32 (a : Nat) : nI a = nI (a % 2 ^ 32) := n_ext (by
  rw [n_bv, n_bv]
  apply BitVec.eq_of_toNat_eq
  rw [BitVec.toNat_ofNat, BitVec.toNat_ofNat, Nat.mod_mod])
section
variable {G : ZG} {M : ZM} {Z : Option ZV → ZM → Prop} {S : ZS}
theorem h_digit {m i : Nat} (hm : m < 2 ^ 32) (hi : i ≤ 9) (hZ : Z (some (zi (nI (dg m i)))) M) : Ctr 0 G mi_LW_digit [zi (nI m), zi (nI i)] M Z := by
  refine go_LW_digit (fun Kz hKz => ?_)
  conv => whnf
  rw [pk_mul, n_dig hm i hi]
  exact hZ
theorem h_copies {to : Nat} {A : ZP} (hto : to < 4) (hA : isH M 4 A) (hL : LH M S) (hZ : ∀ M', hfr M M' → LH M' (upS S to A) → Z none M') : Ctr 0 G mi_LW_copies [zr 20 0, zi (nI 4), zi (nI to)] M Z := by
  have lp : ∀ k, k ≤ 8 → ∀ M', hfr M M' → (∀ c, M'.2 20 0 c = if 8 * to ≤ c ∧ c < 8 * to + k then M.2 20 0 (32 + (c - 8 * to)) else M.2 20 0 c) → V 0 G mi_LW_copies Z 2 [(0, zr 20 0), (1, zi (nI 4)), (2, zi (nI to)), (3, zi (nI k))] [] M' := by
    refine up_to ?_ ?_
    · intro M' h1 h2
      have e1 : ∀ m x, m < 4 → x < 6 → hw M' m x = if m = to then hw M 4 x else hw M m x := by
        intro m x hm hx
        unfold hw
        rw [h2]
        by_cases q : m = to
        · rw [if_pos q, if_pos (by omega), show 32 + (8 * m + 1 + x - 8 * to) = 8 * 4 + 1 + x by omega]
        · rw [if_neg q, if_neg (by omega)]
      have e4 : ∀ x, x < 6 → hw M' 4 x = hw M 4 x := by
        intro x hx
        unfold hw
        rw [h2, if_neg (by omega)]
      have hM' : hok M' := by
        intro m hm x hx
        by_cases q4 : m = 4
        · rw [q4, e4 x hx]; exact hL.1 4 (by decide) x hx
        · rw [e1 m x (by omega) hx]
          split
          · exact hL.1 4 (by decide) x hx
          · exact hL.1 m hm x hx
      have hL' : LH M' (upS S to A) := by
        refine ⟨hM', fun m hm => ?_⟩
        simp only [upS]
        by_cases q : m = to
        · rw [if_pos q, q]
          have hn := hA.1.1
          refine ⟨hA.1, ?_, fun x y hx hy => ?_⟩
          · rw [h2, if_pos (by omega), show 32 + (8 * to - 8 * to) = 8 * 4 by omega]
            exact hA.2.1
          · unfold hcl hcr
            rw [e1 to x hto (by omega), if_pos rfl]
            exact hA.2.2 x y hx hy
        · rw [if_neg q]
          have hB := hL.2 m hm
          have hn := hB.1.1
          refine ⟨hB.1, ?_, fun x y hx hy => ?_⟩
          · rw [h2, if_neg (by omega)]
            exact hB.2.1
          · unfold hcl hcr
            rw [e1 m x hm (by omega), if_neg q]
            exact hB.2.2 x y hx hy
      refine z_run (cuts := cu_LW_copies) ok_LW_copies (fun Kz hKz => ?_)
      conv => whnf
      rw [nI_leI (by decide) (by decide)]
      first | refine ⟨fun _ => ?_, fun q => absurd (by decide) q⟩ | refine ⟨fun q => absurd q (by decide), fun _ => ?_⟩
      conv => whnf
      exact hZ M' h1 hL'
    · intro k hk ih M' h1 h2
      refine z_run (cuts := cu_LW_copies) ok_LW_copies (fun Kz hKz => ?_)
      conv => whnf
      rw [nI_leI (by omega) (by omega)]
      refine ⟨fun q => absurd q (by omega), fun _ => ?_⟩
      conv => whnf
      rw [pk_mul, nI_add]
      refine ⟨vp_in_nI (by omega) (by decide), ?_⟩
      conv => whnf
      rw [pk_mul, nI_add]
      refine ⟨vp_in_nI (by omega) (by decide), ?_⟩
      conv => whnf
      refine hKz _ _ _ _ ?_
      rw [nI_clamp (by omega), nI_clamp (by omega), nI_1']
      refine ih _ (hfr_trans h1 ⟨rfl, fun a b q => zsetL_off q⟩) (fun c => ?_)
      by_cases q : c = 8 * to + k
      · rw [q, zsetL_eq, h2, if_neg (by omega), if_pos (by omega), show 8 * 4 + k = 32 + (8 * to + k - 8 * to) by omega]
      · rw [zsetL_ne (by omega), h2]
        by_cases q2 : 8 * to ≤ c ∧ c < 8 * to + k
        · rw [if_pos q2, if_pos (by omega)]
        · rw [if_neg q2, if_neg (by omega)]
  refine go_LW_copies (fun Kz hKz => ?_)
  conv => whnf
  refine hKz _ _ _ _ ?_
  exact lp 0 (Nat.zero_le _) M (hfr_refl M) (fun c => by rw [if_neg (by omega)])
theorem h_names {n : Nat} {v : Int32} (h1 : 1 ≤ n) (h6 : n ≤ 6) (hZ : ∀ f, isP f n → Z (some (zi (nI f))) M) : Ctr 0 G mi_LW_names [zi (nI n), zi v] M Z := by
  have outer : ∀ i, i ≤ n → ∀ q, q ∈ nmL n i → V 0 G mi_LW_names Z 11 [(0, zi (nI n)), (1, zi v), (2, zi (nI q.1)), (3, zi (nI q.2)), (4, zi (nI i))] [] M := by
    refine up_to ?_ ?_
    · intro q hq
      refine z_run (cuts := cu_LW_names) ok_LW_names (fun Kz hKz => ?_)
      conv => whnf
      rw [nI_leI (by omega) (by omega)]
      refine ⟨fun _ => ?_, fun q => absurd (by omega) q⟩
      conv => whnf
      exact hZ _ (nmL_isP h6 hq)
    · intro i hi ih q hq
      have hlt := nmL_lt h6 (by omega) hq
      refine z_run (cuts := cu_LW_names) ok_LW_names (fun Kz hKz => ?_)
      conv => whnf
      rw [nI_leI (by omega) (by omega)]
      refine ⟨fun q => absurd q (by omega), fun _ => ?_⟩
      conv => whnf
      rw [pk_sub (by omega)]
      refine h_low (by omega) (by omega) (fun r hr => ?_)
      conv => whnf
      refine hKz _ _ _ _ ?_
      have inner : ∀ k, k ≤ n → V 0 G mi_LW_names Z 38 [(0, zi (nI n)), (1, zi v), (2, zi (nI q.1)), (3, zi (nI q.2)), (4, zi (nI i)), (5, zi (nI (r + 4294967295 * (pk2 q.2 r k).2))), (6, zi (nI (pk2 q.2 r k).1)), (7, zi (nI k))] [] M := by
        refine up_to ?_ ?_
        · have hp := (pk2_le q.2 r n).2
          refine z_run (cuts := cu_LW_names) ok_LW_names (fun Kz hKz => ?_)
          conv => whnf
          rw [nI_leI (by omega) (by omega)]
          refine ⟨fun _ => ?_, fun q => absurd (by omega) q⟩
          conv => whnf
          refine hKz _ _ _ _ ?_
          have h := ih _ (nmL_next hq hr)
          rw [n_shl _ _ (by omega), n_ones, n_xor, n_and, pk_mul, n_shl _ _ (by omega), n_or, nI_1']
          exact h
        · intro k hk ih2
          have hp := pk2_le q.2 r k
          refine z_run (cuts := cu_LW_names) ok_LW_names (fun Kz hKz => ?_)
          conv => whnf
          rw [nI_leI (by omega) (by omega)]
          refine ⟨fun q => absurd q (by omega), fun _ => ?_⟩
          conv => whnf
          rw [n_shr k (by omega) (by omega), n_and, Nat.and_one_is_mod, nI_eq (by omega) (by decide)]
          have ht : q.2.testBit k = decide (q.2 / 2 ^ k % 2 = 1) := by rw [Nat.testBit_eq_decide_div_mod_eq]
          refine ⟨fun e => ?_, fun e => ?_⟩
          · conv => whnf
            rw [pk2, if_neg (by rw [ht]; simpa using e)] at ih2
            refine hKz _ _ _ _ ?_
            rw [nI_1']
            exact ih2
          · have e : q.2 / 2 ^ k % 2 = 1 := by omega
            rw [pk2, if_pos (by rw [ht]; simpa using e)] at ih2
            have e2 : nI (r + 4294967295 * (pk2 q.2 r k).2) = nI 0 ↔ (pk2 q.2 r k).2 = r := by
              rw [n_mod32, n_ti0 (Nat.mod_lt _ (by decide))]
              omega
            have e3 : nI (r + 4294967295 * (pk2 q.2 r k).2) + -1 = nI (r + 4294967295 * ((pk2 q.2 r k).2 + 1)) := by
              rw [n_ones, nI_add, Nat.mul_add, Nat.mul_one, Nat.add_assoc]
            conv => whnf
            rw [e2]
            refine ⟨fun g => ?_, fun g => ?_⟩
            · rw [if_neg g] at ih2
              conv => whnf
              refine hKz _ _ _ _ ?_
              rw [e3, nI_1']
              exact ih2
            · have g : (pk2 q.2 r k).2 = r := Decidable.not_not.mp g
              rw [if_pos g] at ih2
              conv => whnf
              refine hKz _ _ _ _ ?_
              rw [e3, nI_1']
              exact ih2
      exact inner 0 (Nat.zero_le _)
  refine go_LW_names (fun Kz hKz => ?_)
  conv => whnf
  rw [n_shl _ _ (by omega), pk_sub (by have := Nat.two_pow_pos n; omega), Nat.one_mul]
  refine hKz _ _ _ _ ?_
  exact outer 0 (Nat.zero_le _) (0, 2 ^ n - 1) (List.mem_singleton.mpr rfl)
end
end
section
/-! the law: laying a map's cells; units, braces, products -/
def hstp (M M' : ZM) : Prop := hfr M M' ∧ hok M' ∧ (∀ k, k < 5 → M'.2 20 0 (8 * k) = M.2 20 0 (8 * k)) ∧ ∀ k x y, k < 4 → x < 6 → y < 6 → hcl M' k x y = hcl M k x y ∧ hcr M' k x y = hcr M k x y
theorem hstp_refl {M : ZM} (h : hok M) : hstp M M := ⟨hfr_refl M, h, fun _ _ => rfl, fun _ _ _ _ _ _ => ⟨rfl, rfl⟩⟩
theorem hstp_trans {M M' M'' : ZM} (h : hstp M M') (h' : hstp M' M'') : hstp M M'' := ⟨hfr_trans h.1 h'.1, h'.2.1, fun k hk => (h'.2.2.1 k hk).trans (h.2.2.1 k hk), fun k x y hk hx hy => ⟨(h'.2.2.2 k x y hk hx hy).1.trans (h.2.2.2 k x y hk hx hy).1, (h'.2.2.2 k x y hk hx hy).2.trans (h.2.2.2 k x y hk hx hy).2⟩⟩
theorem hstp_ly {M M' : ZM} {x y u v : Nat} (h : hly 4 x y u v M M') : hstp M M' := ⟨h.1, h.2.1, h.2.2.1, fun k a b hk ha hb => by
  have := h.2.2.2 k a b (by omega) ha hb
  rw [if_neg (by omega), if_neg (by omega)] at this
  exact this⟩
theorem isH_stp {M M' : ZM} {m : Nat} {A : ZP} (h : isH M m A) (hm : m < 4) (q : hstp M M') : isH M' m A := by
  have hn := h.1.1
  refine ⟨h.1, (q.2.2.1 m (by omega)).trans h.2.1, fun x y hx hy => ?_⟩
  have e := q.2.2.2 m x y hm (by omega) (by omega)
  rw [e.1, e.2]
  exact h.2.2 x y hx hy
theorem LH_stp {M M' : ZM} {S : ZS} (h : LH M S) (q : hstp M M') : LH M' S := ⟨q.2.1, fun m hm => isH_stp (h.2 m hm) hm q⟩
/-- the first k cells of the map that is made are laid -/
def laid (M0 : ZM) (pos vl vr : Nat → Nat) (k : Nat) (M' : ZM) : Prop := hstp M0 M' ∧ ∀ j, j < k → hcl M' 4 (pos j / 6) (pos j % 6) = vl j ∧ hcr M' 4 (pos j / 6) (pos j % 6) = vr j
theorem h_build {M0 : ZM} {N : Nat} {pos vl vr : Nat → Nat} {P : Nat → ZM → Prop} (hM : hok M0) (hpos : ∀ k, k < N → pos k < 36) (hinj : ∀ i j, i < N → j < N → pos i = pos j → i = j) (h1 : ∀ M', laid M0 pos vl vr N M' → P N M') (h2 : ∀ k, k < N → ∀ M', laid M0 pos vl vr k M' → (∀ x y, pos k = 6 * x + y → y < 6 → ∀ M2, hly 4 x y (vl k) (vr k) M' M2 → P (k + 1) M2) → P k M') : P 0 M0 := by
  have lp : ∀ k, k ≤ N → ∀ M', laid M0 pos vl vr k M' → P k M' := by
    refine up_to h1 ?_
    intro k hk ih M' h
    have hp := hpos k hk
    refine h2 k hk M' h (fun x y e hy M2 q => ih M2 ⟨hstp_trans h.1 (hstp_ly q), fun j hj => ?_⟩)
    have hp2 := hpos j (by omega)
    have e2 := q.2.2.2 4 (pos j / 6) (pos j % 6) (by decide) (by omega) (by omega)
    rcases Nat.lt_succ_iff_lt_or_eq.mp hj with hj | rfl
    · have hne : pos j ≠ pos k := fun e => by have := hinj j k (by omega) hk e; omega
      rw [e2.1, e2.2, if_neg (by omega), if_neg (by omega)]
      exact h.2 j hj
    · rw [e2.1, e2.2, if_pos (by omega), if_pos (by omega)]
      exact ⟨rfl, rfl⟩
  exact lp 0 (Nat.zero_le _) M0 ⟨hstp_refl hM, fun j hj => absurd hj (Nat.not_lt_zero _)⟩
theorem laid_isH {M0 M' : ZM} {N : Nat} {pos vl vr : Nat → Nat} {A : ZP} (h : laid M0 pos vl vr N M') (hA : pwf A) (h0 : M0.2 20 0 32 = lN A.1) (hc : ∀ x y, x < A.1 → y < A.1 → ∃ k, k < N ∧ pos k = 6 * x + y ∧ vl k = A.2.1 x y ∧ vr k = A.2.2 x y) : isH M' 4 A := by
  have hn := hA.1
  refine ⟨hA, (h.1.2.2.1 4 (by decide)).trans h0, fun x y hx hy => ?_⟩
  obtain ⟨k, h1, h2, h3, h4⟩ := hc x y hx hy
  have := h.2 k h1
  rw [h2, h3, h4, show (6 * x + y) / 6 = x by omega, show (6 * x + y) % 6 = y by omega] at this
  exact this
/-- the usual order of the cells -/
def sp (n k : Nat) : Nat := 6 * (k / n) + k % n
theorem sp_lt {n k : Nat} (hn : n ≤ 6) (h : k < n * n) : sp n k < 36 := by
  have := dvlt h
  unfold sp
  omega
theorem sp_inj {n : Nat} (hn : n ≤ 6) : ∀ i j, i < n * n → j < n * n → sp n i = sp n j → i = j := by
  intro i j hi hj h
  have h1 := dvlt hi
  have h2 := dvlt hj
  have e1 := Nat.div_add_mod i n
  have e2 := Nat.div_add_mod j n
  unfold sp at h
  have a1 : i / n = j / n := by omega
  have a2 : i % n = j % n := by omega
  rw [← e1, ← e2, a1, a2]
theorem sp_isH {M0 M' : ZM} {vl vr : Nat → Nat} {A : ZP} (h : laid M0 (sp A.1) vl vr (A.1 * A.1) M') (hA : pwf A) (h0 : M0.2 20 0 32 = lN A.1) (hl : ∀ k, k < A.1 * A.1 → vl k = A.2.1 (k / A.1) (k % A.1) ∧ vr k = A.2.2 (k / A.1) (k % A.1)) : isH M' 4 A := by
  refine laid_isH h hA h0 (fun x y hx hy => ⟨A.1 * x + y, prlt hx hy, ?_, ?_, ?_⟩)
  · unfold sp; rw [(dvm hy).1, (dvm hy).2]
  · rw [(hl _ (prlt hx hy)).1, (dvm hy).1, (dvm hy).2]
  · rw [(hl _ (prlt hx hy)).2, (dvm hy).1, (dvm hy).2]
/-- the points of the map that is made are set -/
def hz4 (n : Nat) (M : ZM) : ZM := zsetL 20 0 32 (lN n) M
theorem hz4_hw {M : ZM} {n m x : Nat} (hx : x < 6) (hm : m < 5) : hw (hz4 n M) m x = hw M m x := by
  unfold hw hz4
  rw [zsetL_ne (by omega)]
theorem hz4_hok {M : ZM} {n : Nat} (h : hok M) : hok (hz4 n M) := fun m hm x hx => by rw [hz4_hw hx hm]; exact h m hm x hx
theorem hz4_fr (M : ZM) (n : Nat) : hfr M (hz4 n M) := ⟨rfl, fun a b q => zsetL_off q⟩
theorem hz4_isH {M : ZM} {n m : Nat} {A : ZP} (h : isH M m A) (hm : m < 4) : isH (hz4 n M) m A := by
  have hn := h.1.1
  refine ⟨h.1, ?_, fun x y hx hy => ?_⟩
  · unfold hz4
    rw [zsetL_ne (by omega)]
    exact h.2.1
  · unfold hcl hcr
    rw [hz4_hw (by omega) (by omega)]
    exact h.2.2 x y hx hy
theorem hz4_LS {M : ZM} {n : Nat} {S : ZS} (h : LH M S) : LH (hz4 n M) S := ⟨hz4_hok h.1, fun m hm => hz4_isH (h.2 m hm) hm⟩
theorem hz4_at (M : ZM) (n : Nat) : (hz4 n M).2 20 0 32 = lN n := zsetL_eq
/-- the last one of which it holds -/
def lastc (p : Nat → Bool) (d : Nat) : Nat → Nat
  | 0 => d
  | k + 1 => if p k then k else lastc p d k
theorem lastc_is {p : Nat → Bool} {d n v : Nat} (hv : v < n) (h : ∀ c, c < n → (p c = true ↔ c = v)) : lastc p d n = v := by
  have : ∀ k, k ≤ n → v < k → lastc p d k = v := by
    intro k
    induction k with
    | zero => intro _ q; omega
    | succ k ih =>
      intro hk hv2
      rw [lastc]
      by_cases q : p k = true
      · rw [if_pos q]; exact (h k (by omega)).mp q
      · rw [if_neg q]
        have : k ≠ v := fun e => q ((h k (by omega)).mpr e)
        exact ih (by omega) (by omega)
  exact this n (Nat.le_refl _) hv
theorem lastc_lt {p : Nat → Bool} {d n : Nat} (hd : d < n) : ∀ k, k ≤ n → lastc p d k < n := by
  intro k
  induction k with
  | zero => intro _; exact hd
  | succ k ih =>
    intro hk
    rw [lastc]
    split
    · omega
    · exact ih (by omega)
def alb (p : Nat → Bool) : Nat → Bool
  | 0 => true
  | k + 1 => alb p k && p k
theorem alb_iff (p : Nat → Bool) : ∀ k, alb p k = true ↔ ∀ i, i < k → p i = true := by
  intro k
  induction k with
  | zero => exact ⟨fun _ i hi => absurd hi (Nat.not_lt_zero _), fun _ => rfl⟩
  | succ k ih =>
    rw [alb, Bool.and_eq_true, ih]
    constructor
    · rintro ⟨h1, h2⟩ i hi
      rcases Nat.lt_succ_iff_lt_or_eq.mp hi with hi | rfl
      · exact h1 i hi
      · exact h2
    · intro h
      exact ⟨fun i hi => h i (by omega), h k (by omega)⟩
def avl (x y : Nat) : Nat := if y / 3 = 0 then (if x / 3 = 0 then x + y + 3 else x % 3 + 3 - y % 3) else if x / 3 = 0 then x + y % 3 + 3 else x % 3 + 3 - y % 3
theorem avl_gp : ∀ x, x < 6 → ∀ y, y < 6 → avl x y % 3 + (if x / 3 = y / 3 then 0 else 3) = gp 2 6 x y ∧ avl x y < 16 := by decide
def brP (n u j : Nat) : Bool := decide (dg u ((j / n + dg u (j / n) * (j % n)) % n) = dg u (j / n) * dg u (j % n) % n)
theorem brP_iff {n u : Nat} : alb (brP n u) (n * n) = true ↔ bra n u := by
  rw [alb_iff]
  constructor
  · intro h a b ha hb
    have := of_decide_eq_true (h (n * a + b) (prlt ha hb))
    rw [(dvm hb).1, (dvm hb).2] at this
    exact this
  · intro h j hj
    have hd := dvlt hj
    exact decide_eq_true (h _ _ hd.1 hd.2)
section
variable {G : ZG} {M : ZM} {Z : Option ZV → ZM → Prop} {S : ZS}
theorem h_units {n : Nat} {v : Int32} (h1 : 1 ≤ n) (h6 : n ≤ 6) (hZ : ∀ u, u < 8 ^ n → (2 ≤ n → areU n u) → Z (some (zi (nI u))) M) : Ctr 0 G mi_LW_units [zi (nI n), zi v] M Z := by
  have lp : ∀ i, i ≤ n → ∀ u, u ∈ unL n i → V 0 G mi_LW_units Z 4 [(0, zi (nI n)), (1, zi v), (2, zi (nI u)), (3, zi (nI i))] [] M := by
    refine up_to ?_ ?_
    · intro u hu
      refine z_run (cuts := cu_LW_units) ok_LW_units (fun Kz hKz => ?_)
      conv => whnf
      rw [nI_leI (by omega) (by omega)]
      refine ⟨fun _ => ?_, fun q => absurd (by omega) q⟩
      conv => whnf
      exact hZ u (unL_lt h6 hu) (fun h2 => unL_areU h2 h6 hu)
    · intro i hi ih u hu
      have fin : ∀ w, w ∈ wls n → V 0 G mi_LW_units Z 89 [(0, zi (nI n)), (1, zi v), (2, zi (nI u)), (3, zi (nI i)), (5, zi (nI w))] [] M := by
        intro w hw
        have h := ih (u ||| w * 2 ^ (3 * i)) (List.mem_flatMap.mpr ⟨u, hu, List.mem_map.mpr ⟨w, hw, rfl⟩⟩)
        refine z_run (cuts := cu_LW_units) ok_LW_units (fun Kz hKz => ?_)
        conv => whnf
        refine hKz _ _ _ _ ?_
        rw [pk_mul, n_shl _ _ (by omega), n_or, nI_1']
        exact h
      have w1 : (1 : Nat) ∈ wls n := by unfold wls; split <;> exact List.mem_cons_self
      have wn : n - 1 ∈ wls n := by
        unfold wls
        split
        · rename_i q; rw [q]; decide
        · exact List.mem_cons_of_mem _ List.mem_cons_self
      have mid : ∀ w, w ∈ wls n → V 0 G mi_LW_units Z 51 [(0, zi (nI n)), (1, zi v), (2, zi (nI u)), (3, zi (nI i)), (4, zi (nI w))] [] M := by
        intro w hw
        refine z_run (cuts := [(89, [0, 1, 2, 3, 5])]) ok_LW_units (fun Kz hKz => ?_)
        conv => whnf
        refine ⟨fun q => ?_, fun q => ?_⟩
        · conv => whnf
          refine ⟨fun q => ?_, fun q => ?_⟩
          · conv => whnf
            refine hKz _ _ _ _ ?_
            exact fin _ hw
          · conv => whnf
            refine ⟨(by decide), ?_⟩
            conv => whnf
            refine ⟨fun q => ?_, fun q => ?_⟩
            · conv => whnf
              refine hKz _ _ _ _ ?_
              exact fin _ w1
            · conv => whnf
              rw [pk_sub h1]
              refine hKz _ _ _ _ ?_
              exact fin _ wn
        · conv => whnf
          refine hKz _ _ _ _ ?_
          exact fin _ w1
      refine z_run (cuts := [(51, [0, 1, 2, 3, 4])]) ok_LW_units (fun Kz hKz => ?_)
      conv => whnf
      rw [nI_leI (by omega) (by omega)]
      refine ⟨fun q => absurd q (by omega), fun _ => ?_⟩
      conv => whnf
      rw [n_ne (by omega) (by decide)]
      refine ⟨fun q => ?_, fun q => ?_⟩
      · conv => whnf
        refine ⟨fun q => ?_, fun q => ?_⟩
        · conv => whnf
          rw [pk_sub h1]
          refine hKz _ _ _ _ ?_
          exact mid _ wn
        · conv => whnf
          refine hKz _ _ _ _ ?_
          exact mid _ w1
      · have q : n = 5 := Classical.not_not.mp q
        conv => whnf
        refine h_low (by decide) (by decide) (fun r hr => ?_)
        conv => whnf
        refine hKz _ _ _ _ ?_
        rw [nI_add]
        refine mid _ ?_
        unfold wls
        rw [if_pos q]
        revert hr
        revert r
        decide
  refine go_LW_units (fun Kz hKz => ?_)
  conv => whnf
  refine hKz _ _ _ _ ?_
  exact lp 0 (Nat.zero_le _) 0 (List.mem_singleton.mpr rfl)
theorem h_isBrace {n u : Nat} (h2 : 2 ≤ n) (h6 : n ≤ 6) (hU : areU n u) (h1 : bra n u → Z (some (zi (nI 1))) M) (h0 : ¬ bra n u → Z (some (zi (nI 0))) M) : Ctr 0 G mi_LW_isBrace [zi (nI u), zi (nI n)] M Z := by
  have hz := n_nz (b := n) (by omega) (by omega)
  have hdn : ∀ a, a < n → dg u a < n := fun a ha => (un_iff.mp (hU.2 a ha)).2.1
  have h8 := p8_le h6
  have hu : u < 2 ^ 32 := by have := hU.1; omega
  have hnn : n * n ≤ 6 * 6 := Nat.mul_le_mul h6 h6
  have lp : ∀ k, k ≤ n * n → V 0 G mi_LW_isBrace Z 4 [(0, zi (nI u)), (1, zi (nI n)), (2, zi (b2i (alb (brP n u) k))), (3, zi (nI k))] [] M := by
    refine up_to ?_ ?_
    · refine z_run (cuts := cu_LW_isBrace) ok_LW_isBrace (fun Kz hKz => ?_)
      conv => whnf
      rw [pk_mul, nI_leI (by omega) (by omega)]
      refine ⟨fun _ => ?_, fun q => absurd (by omega) q⟩
      conv => whnf
      cases hb : alb (brP n u) (n * n) with
      | true => exact ⟨Or.inr rfl, h1 (brP_iff.mp hb)⟩
      | false => exact ⟨Or.inl rfl, h0 (fun q => by rw [brP_iff.mpr q] at hb; cases hb)⟩
    · intro k hk ih
      have hd := dvlt hk
      obtain ⟨ed, em⟩ := n_dm (k := k) (n := n) (by omega) (by omega) (by omega)
      have d1 := hdn _ hd.1
      have d2 := hdn _ hd.2
      have m1 : dg u (k / n) * (k % n) ≤ 6 * 6 := Nat.mul_le_mul (by omega) (by omega)
      have m2 : dg u (k / n) * dg u (k % n) ≤ 6 * 6 := Nat.mul_le_mul (by omega) (by omega)
      have hr : (k / n + dg u (k / n) * (k % n)) % n < n := Nat.mod_lt _ (by omega)
      have hr2 : dg u (k / n) * dg u (k % n) % n < n := Nat.mod_lt _ (by omega)
      have hd8 := dg_lt u ((k / n + dg u (k / n) * (k % n)) % n)
      rw [alb] at ih
      refine z_run (cuts := cu_LW_isBrace) ok_LW_isBrace (fun Kz hKz => ?_)
      conv => whnf
      rw [pk_mul, nI_leI (by omega) (by omega)]
      refine ⟨fun q => absurd q (by omega), fun _ => ?_⟩
      conv => whnf
      refine ⟨hz, ?_⟩
      conv => whnf
      rw [ed]
      refine ⟨hz, ?_⟩
      conv => whnf
      rw [em]
      cases hb : alb (brP n u) k with
      | false =>
        rw [hb, Bool.false_and] at ih
        first | refine ⟨fun _ => ?_, fun q => absurd (by decide) q⟩ | refine ⟨fun q => absurd q (by decide), fun _ => ?_⟩
        conv => whnf
        refine hKz _ _ _ _ ?_
        rw [nI_1']
        exact ih
      | true =>
        rw [hb, Bool.true_and] at ih
        first | refine ⟨fun _ => ?_, fun q => absurd (by decide) q⟩ | refine ⟨fun q => absurd q (by decide), fun _ => ?_⟩
        conv => whnf
        refine h_digit hu (by omega) ?_
        conv => whnf
        rw [pk_mul, nI_add]
        refine ⟨hz, ?_⟩
        conv => whnf
        rw [n_mod (by omega) (by omega) (by omega)]
        refine h_digit hu (by omega) ?_
        conv => whnf
        refine h_digit hu (by omega) ?_
        conv => whnf
        refine h_digit hu (by omega) ?_
        conv => whnf
        rw [pk_mul]
        refine ⟨hz, ?_⟩
        conv => whnf
        rw [n_mod (by omega) (by omega) (by omega), n_ne (by omega) (by omega)]
        refine ⟨fun q => ?_, fun q => ?_⟩
        · have e : brP n u k = false := decide_eq_false q
          rw [e] at ih
          conv => whnf
          refine hKz _ _ _ _ ?_
          rw [nI_1']
          exact ih
        · have e : brP n u k = true := decide_eq_true (Classical.not_not.mp q)
          rw [e] at ih
          conv => whnf
          refine hKz _ _ _ _ ?_
          rw [nI_1']
          exact ih
  refine go_LW_isBrace (fun Kz hKz => ?_)
  conv => whnf
  refine hKz _ _ _ _ ?_
  exact lp 0 (Nat.zero_le _)
theorem h_times {kind n x y : Nat} (hG : isG kind n) (hx : x < n) (hy : y < n) (hZ : Z (some (zi (nI (gp kind n x y)))) M) : Ctr 0 G mi_LW_times [zi (nI kind), zi (nI n), zi (nI x), zi (nI y)] M Z := by
  have hn := isG_le hG
  have hk : kind < 3 := by rcases hG with h | h | h <;> omega
  have h3 : ¬ nI 3 = nI 0 := by decide
  obtain ⟨dx, mx⟩ := n_dm (k := x) (n := 3) (by omega) (by decide) (by decide)
  obtain ⟨dy, my⟩ := n_dm (k := y) (n := 3) (by omega) (by decide) (by decide)
  have tail : ∀ a, a + nI 3 = nI (avl x y) → V 0 G mi_LW_times Z 41 [(0, zi (nI kind)), (1, zi (nI n)), (2, zi (nI x)), (3, zi (nI y)), (4, zi a)] [] M := by
    intro a ha
    refine z_run (cuts := cu_LW_times) ok_LW_times (fun Kz hKz => ?_)
    conv => whnf
    rw [n_ne (by omega) (by decide)]
    refine ⟨fun q => ?_, fun q => ?_⟩
    · conv => whnf
      rw [n_ne (by omega) (by decide)]
      refine ⟨fun q1 => ?_, fun q1 => ?_⟩
      · have hG2 : kind = 2 ∧ n = 6 := by rcases hG with h | h | h <;> omega
        obtain ⟨g1, g2⟩ := avl_gp x (by omega) y (by omega)
        rw [hG2.1, hG2.2, ← g1] at hZ
        conv => whnf
        rw [ha]
        refine ⟨h3, ?_⟩
        conv => whnf
        rw [n_mod (by omega) (by decide) (by decide)]
        refine ⟨h3, ?_⟩
        conv => whnf
        refine ⟨h3, ?_⟩
        conv => whnf
        rw [dx, dy, n_ne (by omega) (by omega)]
        refine ⟨fun g => ?_, fun g => ?_⟩
        · rw [if_neg g] at hZ
          conv => whnf
          rw [nI_add]
          exact hZ
        · rw [if_pos (Classical.not_not.mp g)] at hZ
          conv => whnf
          rw [nI_add]
          exact hZ
      · have q1 : kind = 1 := Classical.not_not.mp q1
        rw [gp, if_neg (by omega), if_pos q1] at hZ
        conv => whnf
        rw [n_xor]
        exact hZ
    · have q : kind = 0 := Classical.not_not.mp q
      rw [gp, if_pos q] at hZ
      conv => whnf
      rw [nI_add]
      refine ⟨n_nz (by omega) (by omega), ?_⟩
      conv => whnf
      rw [n_mod (by omega) (by omega) (by omega)]
      exact hZ
  have fin : ∀ a, a + nI 3 = nI (avl x y) → V 0 G mi_LW_times Z 39 [(0, zi (nI kind)), (1, zi (nI n)), (2, zi (nI x)), (3, zi (nI y))] [zi a] M := by
    intro a ha
    refine z_run (cuts := [(41, [0, 1, 2, 3, 4])]) ok_LW_times (fun Kz hKz => ?_)
    conv => whnf
    refine hKz _ _ _ _ ?_
    exact tail a ha
  have lat : ¬ (y / 3 = 0 ∧ x / 3 = 0) → V 0 G mi_LW_times Z 18 [(0, zi (nI kind)), (1, zi (nI n)), (2, zi (nI x)), (3, zi (nI y))] [] M := by
    intro hne
    refine z_run (cuts := [(39, [0, 1, 2, 3])]) ok_LW_times (fun Kz hKz => ?_)
    conv => whnf
    refine ⟨h3, ?_⟩
    conv => whnf
    rw [dx, n_ne (by omega) (by decide)]
    refine ⟨fun q => ?_, fun q => ?_⟩
    · conv => whnf
      refine ⟨h3, ?_⟩
      conv => whnf
      refine ⟨h3, ?_⟩
      conv => whnf
      rw [mx, my]
      refine hKz _ _ _ _ ?_
      refine fin _ ?_
      rw [turn_sub _ (Nat.mod_lt _ (by decide)) _ (Nat.mod_lt _ (by decide))]
      simp only [avl, if_neg q, ite_self]
    · have q : x / 3 = 0 := Classical.not_not.mp q
      conv => whnf
      refine ⟨h3, ?_⟩
      conv => whnf
      rw [my, nI_add]
      refine hKz _ _ _ _ ?_
      refine fin _ ?_
      rw [nI_add]
      unfold avl
      rw [if_neg (fun z => hne ⟨z, q⟩), if_pos q]
  refine z_start (cuts := [(18, [0, 1, 2, 3]), (39, [0, 1, 2, 3])]) ok_LW_times rfl rfl (fun Kz hKz => ?_)
  conv => whnf
  refine ⟨h3, ?_⟩
  conv => whnf
  rw [dy, n_ne (by omega) (by decide)]
  refine ⟨fun q => ?_, fun q => ?_⟩
  · conv => whnf
    refine hKz _ _ _ _ ?_
    exact lat (fun z => q z.1)
  · have q : y / 3 = 0 := Classical.not_not.mp q
    conv => whnf
    refine ⟨h3, ?_⟩
    conv => whnf
    rw [dx, n_ne (by omega) (by decide)]
    refine ⟨fun q2 => ?_, fun q2 => ?_⟩
    · conv => whnf
      refine hKz _ _ _ _ ?_
      exact lat (fun z => q2 z.2)
    · have q2 : x / 3 = 0 := Classical.not_not.mp q2
      conv => whnf
      rw [nI_add]
      refine hKz _ _ _ _ ?_
      refine fin _ ?_
      rw [nI_add]
      unfold avl
      rw [if_pos q, if_pos q2]
end
end
section
/-! the law: groups' and braces' maps, maps side by side and pair by pair, turned maps -/
def gcb (kind n x y : Nat) : Bool := decide (∀ c, c < n → (gp kind n c x = gp kind n x y ↔ c = gp kind n (gp kind n x y) (gi kind n x)))
theorem gcb_all : ∀ kind n, isG kind n → ∀ x, x < n → ∀ y, y < n → gcb kind n x y = true := isG_dec (P := fun kind n => ∀ x, x < n → ∀ y, y < n → gcb kind n x y = true) (by decide +kernel) (by decide +kernel) (by decide +kernel)
section
variable {G : ZG} {M : ZM} {Z : Option ZV → ZM → Prop} {S : ZS}
theorem h_makesG {kind n : Nat} {w : Int32} (hG : isG kind n) (hL : LH M S) (hZ : ∀ M', hfr M M' → LH M' S → isH M' 4 (pgrp kind n) → Z none M') : Ctr 0 G mi_LW_makes [zr 20 0, zi (nI kind), zi (nI n), zi w] M Z := by
  have hn := isG_le hG
  have hk3 : kind < 3 := by rcases hG with h | h | h <;> omega
  have hnn : n * n ≤ 6 * 6 := Nat.mul_le_mul hn.2 hn.2
  have hz := n_nz (b := n) (by omega) (by omega)
  have hwf := pgrp_wf hG
  refine go_LW_makes (fun Kz hKz => ?_)
  conv => whnf
  refine ⟨vp_in_nI (by decide) (by decide), ?_⟩
  conv => whnf
  refine hKz _ _ _ _ ?_
  rw [nI_clamp (by decide), nI_l (by omega)]
  refine h_build (M0 := hz4 n M) (N := n * n) (pos := sp n) (vl := fun k => gp kind n (gp kind n (k / n) (k % n)) (gi kind n (k / n))) (vr := fun k => k / n) (P := fun k M' => V 0 G mi_LW_makes Z 9 [(0, zr 20 0), (1, zi (nI kind)), (2, zi (nI n)), (3, zi w), (4, zi (nI k))] [] M') (hz4_hok hL.1) (fun k hk => sp_lt hn.2 hk) (sp_inj hn.2) (fun M' hl => ?_) (fun k hk M' hl h => ?_)
  · refine z_run (cuts := cu_LW_makes) ok_LW_makes (fun Kz hKz => ?_)
    conv => whnf
    rw [pk_mul, nI_leI (by omega) (by omega)]
    refine ⟨fun _ => ?_, fun q => absurd (by omega) q⟩
    conv => whnf
    exact hZ M' (hfr_trans (hz4_fr M n) hl.1.1) (LH_stp (hz4_LS hL) hl.1) (sp_isH (A := pgrp kind n) hl hwf (hz4_at M n) (fun k hk => ⟨rfl, rfl⟩))
  · have hd := dvlt hk
    obtain ⟨ed, em⟩ := n_dm (k := k) (n := n) (by omega) (by omega) (by omega)
    have hv := (hwf.2 (k / n) (k % n) hd.1 hd.2).1
    have hv : gp kind n (gp kind n (k / n) (k % n)) (gi kind n (k / n)) < n := hv
    have hc := of_decide_eq_true (gcb_all _ _ hG _ hd.1 _ hd.2)
    have hlast := lastc_is (p := fun c => decide (gp kind n c (k / n) = gp kind n (k / n) (k % n))) (d := 0) hv (fun c hc2 => by rw [decide_eq_true_iff]; exact hc c hc2)
    have e2 := h (k / n) (k % n) rfl (by omega)
    clear h
    generalize k / n = x at *
    generalize k % n = y at *
    have inner : ∀ c, c ≤ n → V 0 G mi_LW_makes Z 67 [(0, zr 20 0), (1, zi (nI kind)), (2, zi (nI n)), (3, zi w), (4, zi (nI k)), (5, zi (nI x)), (6, zi (nI y)), (7, zi (nI (lastc (fun c => decide (gp kind n c x = gp kind n x y)) 0 c))), (8, zi (nI x)), (9, zi (nI c))] [] M' := by
      refine up_to ?_ ?_
      · rw [hlast]
        refine z_run (cuts := cu_LW_makes) ok_LW_makes (fun Kz hKz => ?_)
        conv => whnf
        rw [nI_leI (by omega) (by omega)]
        refine ⟨fun _ => ?_, fun q => absurd (by omega) q⟩
        conv => whnf
        refine h_lays (by decide) hl.1.2.1 (by omega) (by omega) (by omega) (by omega) (fun M2 q => ?_)
        conv => whnf
        refine hKz _ _ _ _ ?_
        rw [nI_1']
        exact e2 M2 q
      · intro c hc2 ih
        rw [lastc] at ih
        refine z_run (cuts := cu_LW_makes) ok_LW_makes (fun Kz hKz => ?_)
        conv => whnf
        rw [nI_leI (by omega) (by omega)]
        refine ⟨fun q => absurd q (by omega), fun _ => ?_⟩
        conv => whnf
        rw [n_ne (by omega) (by decide)]
        refine ⟨fun _ => ?_, fun q => absurd (show kind ≠ 3 by omega) q⟩
        conv => whnf
        rw [nI_leI (by omega) (by omega)]
        refine ⟨fun q => absurd q (by omega), fun _ => ?_⟩
        conv => whnf
        refine h_times hG hc2 hd.1 ?_
        conv => whnf
        refine h_times hG hd.1 hd.2 ?_
        conv => whnf
        have g1 := gp_lt _ _ hG c hc2 x hd.1
        have g2 := gp_lt _ _ hG x hd.1 y hd.2
        rw [n_ne (by omega) (by omega)]
        refine ⟨fun q => ?_, fun q => ?_⟩
        · rw [if_neg (by simpa using q)] at ih
          conv => whnf
          refine hKz _ _ _ _ ?_
          rw [nI_1']
          exact ih
        · rw [if_pos (by simpa using q)] at ih
          conv => whnf
          refine hKz _ _ _ _ ?_
          rw [nI_1']
          exact ih
    refine z_run (cuts := cu_LW_makes) ok_LW_makes (fun Kz hKz => ?_)
    conv => whnf
    rw [pk_mul, nI_leI (by omega) (by omega)]
    refine ⟨fun q => absurd q (by omega), fun _ => ?_⟩
    conv => whnf
    refine ⟨hz, ?_⟩
    conv => whnf
    rw [ed]
    refine ⟨hz, ?_⟩
    conv => whnf
    rw [em, n_ne (by omega) (by decide)]
    refine ⟨fun _ => ?_, fun q => absurd (show kind ≠ 3 by omega) q⟩
    conv => whnf
    rw [n_ne (by omega) (by decide)]
    refine ⟨fun _ => ?_, fun q => absurd (show kind ≠ 3 by omega) q⟩
    conv => whnf
    refine hKz _ _ _ _ ?_
    exact inner 0 (Nat.zero_le _)
theorem h_makesB {n u : Nat} (h2 : 2 ≤ n) (h6 : n ≤ 6) (hU : areU n u) (hL : LH M S) (hZ : ∀ M', hfr M M' → LH M' S → isH M' 4 (pbra n u) → Z none M') : Ctr 0 G mi_LW_makes [zr 20 0, zi (nI 3), zi (nI n), zi (nI u)] M Z := by
  have h8 := p8_le h6
  have hu : u < 2 ^ 32 := by have := hU.1; omega
  have hnn : n * n ≤ 6 * 6 := Nat.mul_le_mul h6 h6
  have hz := n_nz (b := n) (by omega) (by omega)
  have hwf := pbra_wf h2 h6 hU
  have hdn : ∀ a, a < n → dg u a < n := fun a ha => (un_iff.mp (hU.2 a ha)).2.1
  refine go_LW_makes (fun Kz hKz => ?_)
  conv => whnf
  refine ⟨vp_in_nI (by decide) (by decide), ?_⟩
  conv => whnf
  refine hKz _ _ _ _ ?_
  rw [nI_clamp (by decide), nI_l (by omega)]
  refine h_build (M0 := hz4 n M) (N := n * n) (pos := sp n) (vl := fun k => dg u (k / n) * (k % n) % n) (vr := fun k => qt n (k / n) (dg u (dg u (k / n) * (k % n) % n))) (P := fun k M' => V 0 G mi_LW_makes Z 9 [(0, zr 20 0), (1, zi (nI 3)), (2, zi (nI n)), (3, zi (nI u)), (4, zi (nI k))] [] M') (hz4_hok hL.1) (fun k hk => sp_lt h6 hk) (sp_inj h6) (fun M' hl => ?_) (fun k hk M' hl h => ?_)
  · refine z_run (cuts := cu_LW_makes) ok_LW_makes (fun Kz hKz => ?_)
    conv => whnf
    rw [pk_mul, nI_leI (by omega) (by omega)]
    refine ⟨fun _ => ?_, fun q => absurd (by omega) q⟩
    conv => whnf
    exact hZ M' (hfr_trans (hz4_fr M n) hl.1.1) (LH_stp (hz4_LS hL) hl.1) (sp_isH (A := pbra n u) hl hwf (hz4_at M n) (fun k hk => ⟨rfl, rfl⟩))
  · have hd := dvlt hk
    have hd1 := hdn _ hd.1
    have hm1 : dg u (k / n) * (k % n) ≤ 6 * 6 := Nat.mul_le_mul (by omega) (by omega)
    have ht1 : dg u (k / n) * (k % n) % n < n := Nat.mod_lt _ (by omega)
    obtain ⟨ed, em⟩ := n_dm (k := k) (n := n) (by omega) (by omega) (by omega)
    have e2 := h (k / n) (k % n) rfl (by omega)
    clear h
    have e2 : ∀ M2, hly 4 (k / n) (k % n) (dg u (k / n) * (k % n) % n) (qt n (k / n) (dg u (dg u (k / n) * (k % n) % n))) M' M2 → _ := e2
    generalize k / n = x at *
    generalize k % n = y at *
    generalize hT : dg u x * y % n = T at *
    have hd2 := hdn T ht1
    obtain ⟨q1, q2, q3⟩ := qt_is n (by omega) h2 (dg u T) hd2 (hU.2 T ht1) x hd.1
    have hlast := lastc_is (p := fun c => decide (dg u T * c % n = x)) (d := 0) q1 (fun c hc2 => by rw [decide_eq_true_iff]; exact ⟨fun z => q3 c hc2 z, fun z => by rw [z]; exact q2⟩)
    have inner : ∀ c, c ≤ n → V 0 G mi_LW_makes Z 67 [(0, zr 20 0), (1, zi (nI 3)), (2, zi (nI n)), (3, zi (nI u)), (4, zi (nI k)), (5, zi (nI x)), (6, zi (nI y)), (7, zi (nI T)), (8, zi (nI (lastc (fun c => decide (dg u T * c % n = x)) 0 c))), (9, zi (nI c))] [] M' := by
      refine up_to ?_ ?_
      · rw [hlast]
        refine z_run (cuts := cu_LW_makes) ok_LW_makes (fun Kz hKz => ?_)
        conv => whnf
        rw [nI_leI (by omega) (by omega)]
        refine ⟨fun _ => ?_, fun q => absurd (by omega) q⟩
        conv => whnf
        refine h_lays (by decide) hl.1.2.1 (by omega) (by omega) (by omega) (by omega) (fun M2 q => ?_)
        conv => whnf
        refine hKz _ _ _ _ ?_
        rw [nI_1']
        exact e2 M2 q
      · intro c hc2 ih
        have hm2 : dg u T * c ≤ 6 * 6 := Nat.mul_le_mul (by omega) (by omega)
        have hr2 : dg u T * c % n < n := Nat.mod_lt _ (by omega)
        rw [lastc] at ih
        refine z_run (cuts := cu_LW_makes) ok_LW_makes (fun Kz hKz => ?_)
        conv => whnf
        rw [nI_leI (by omega) (by omega)]
        refine ⟨fun q => absurd q (by omega), fun _ => ?_⟩
        conv => whnf
        refine ⟨fun q => absurd rfl q, fun _ => ?_⟩
        conv => whnf
        refine h_digit hu (by omega) ?_
        conv => whnf
        rw [pk_mul]
        refine ⟨hz, ?_⟩
        conv => whnf
        rw [n_mod (by omega) (by omega) (by omega), n_ne (by omega) (by omega)]
        refine ⟨fun q => ?_, fun q => ?_⟩
        · rw [if_neg (by simpa using q)] at ih
          conv => whnf
          rw [nI_leI (by decide) (by decide)]
          first | refine ⟨fun _ => ?_, fun q => absurd (by decide) q⟩ | refine ⟨fun q => absurd q (by decide), fun _ => ?_⟩
          conv => whnf
          refine hKz _ _ _ _ ?_
          rw [nI_1']
          exact ih
        · rw [if_pos (by simpa using q)] at ih
          conv => whnf
          rw [nI_leI (by decide) (by decide)]
          first | refine ⟨fun _ => ?_, fun q => absurd (by decide) q⟩ | refine ⟨fun q => absurd q (by decide), fun _ => ?_⟩
          conv => whnf
          refine hKz _ _ _ _ ?_
          rw [nI_1']
          exact ih
    refine z_run (cuts := cu_LW_makes) ok_LW_makes (fun Kz hKz => ?_)
    conv => whnf
    rw [pk_mul, nI_leI (by omega) (by omega)]
    refine ⟨fun q => absurd q (by omega), fun _ => ?_⟩
    conv => whnf
    refine ⟨hz, ?_⟩
    conv => whnf
    rw [ed]
    refine ⟨hz, ?_⟩
    conv => whnf
    rw [em]
    refine ⟨fun q => absurd rfl q, fun _ => ?_⟩
    conv => whnf
    refine h_digit hu (by omega) ?_
    conv => whnf
    rw [pk_mul]
    refine ⟨hz, ?_⟩
    conv => whnf
    rw [n_mod (by omega) (by omega) (by omega), hT]
    refine ⟨fun q => absurd rfl q, fun _ => ?_⟩
    conv => whnf
    refine hKz _ _ _ _ ?_
    exact inner 0 (Nat.zero_le _)
end
end
section
/-! the law: maps side by side and pair by pair, turned maps, whether a map is bijective -/
section
variable {G : ZG} {M : ZM} {Z : Option ZV → ZM → Prop} {S : ZS}
theorem h_joinsU {a b : Nat} {A B : ZP} (ha : a < 4) (hb : b < 4) (hA : isH M a A) (hB : isH M b B) (h0 : 0 < A.1) (h0' : 0 < B.1) (q : A.1 + B.1 ≤ 6) (hL : LH M S) (hZ : ∀ M', hfr M M' → LH M' S → isH M' 4 (puni A B) → Z none M') : Ctr 0 G mi_LW_joins [zr 20 0, zi (nI a), zi (nI b), zi (nI 0)] M Z := by
  have hn := hA.1.1
  have hm := hB.1.1
  have hpos : 0 < A.1 * B.1 := Nat.mul_pos h0 h0'
  have hbig : A.1 * B.1 ≤ 6 * 6 := Nat.mul_le_mul hn hm
  have hnn : (A.1 + B.1) * (A.1 + B.1) ≤ 6 * 6 := Nat.mul_le_mul q q
  have hz := n_nz (b := A.1 + B.1) (by omega) (by omega)
  have hzb := n_nz (b := B.1) (by omega) (by omega)
  refine go_LW_joins (fun Kz hKz => ?_)
  conv => whnf
  refine h_points (by omega) hA ?_
  conv => whnf
  refine h_points (by omega) hB ?_
  conv => whnf
  first | refine ⟨fun _ => ?_, fun z => absurd rfl z⟩ | refine ⟨fun z => absurd z (by decide), fun _ => ?_⟩
  conv => whnf
  refine ⟨vp_in_nI (by decide) (by decide), ?_⟩
  conv => whnf
  refine hKz _ _ _ _ ?_
  rw [nI_clamp (by decide), nI_add, nI_l (by omega)]
  refine h_build (M0 := hz4 (A.1 + B.1) M) (N := (A.1 + B.1) * (A.1 + B.1)) (pos := sp (A.1 + B.1)) (vl := fun k => (puni A B).2.1 (k / (A.1 + B.1)) (k % (A.1 + B.1))) (vr := fun k => (puni A B).2.2 (k / (A.1 + B.1)) (k % (A.1 + B.1))) (P := fun k M' => V 0 G mi_LW_joins Z 43 [(0, zr 20 0), (1, zi (nI a)), (2, zi (nI b)), (3, zi (nI 0)), (4, zi (nI A.1)), (5, zi (nI B.1)), (6, zi (nI (A.1 + B.1))), (7, zi (nI k))] [] M') (hz4_hok hL.1) (fun k hk => sp_lt q hk) (sp_inj q) (fun M' hl => ?_) (fun k hk M' hl h => ?_)
  · refine z_run (cuts := cu_LW_joins) ok_LW_joins (fun Kz hKz => ?_)
    conv => whnf
    rw [pk_mul, nI_leI (by omega) (by omega)]
    refine ⟨fun _ => ?_, fun q => absurd (by omega) q⟩
    conv => whnf
    exact hZ M' (hfr_trans (hz4_fr M _) hl.1.1) (LH_stp (hz4_LS hL) hl.1) (sp_isH (A := puni A B) hl (puni_wf hA.1 hB.1 q) (hz4_at M _) (fun k hk => ⟨rfl, rfl⟩))
  · have hd := dvlt hk
    obtain ⟨ed, em⟩ := n_dm (k := k) (n := A.1 + B.1) (by omega) (by omega) (by omega)
    have hM' := hl.1.2.1
    have hA' : isH M' a A := isH_stp (hz4_isH hA ha) ha hl.1
    have hB' : isH M' b B := isH_stp (hz4_isH hB hb) hb hl.1
    have h := h (k / (A.1 + B.1)) (k % (A.1 + B.1)) rfl (by omega)
    clear hl
    have pl : ∀ x y, (puni A B).2.1 x y = if x < A.1 then (if y < A.1 then A.2.1 x y else y) else (if y < A.1 then y else A.1 + B.2.1 (x - A.1) (y - A.1)) := fun _ _ => rfl
    have pr : ∀ x y, (puni A B).2.2 x y = if x < A.1 then (if y < A.1 then A.2.2 x y else x) else (if y < A.1 then x else A.1 + B.2.2 (x - A.1) (y - A.1)) := fun _ _ => rfl
    rw [pl, pr] at h
    generalize k / (A.1 + B.1) = x at *
    generalize k % (A.1 + B.1) = y at *
    refine z_run (cuts := cu_LW_joins) ok_LW_joins (fun Kz hKz => ?_)
    conv => whnf
    rw [pk_mul, nI_leI (by omega) (by omega)]
    refine ⟨fun q => absurd q (by omega), fun _ => ?_⟩
    conv => whnf
    refine ⟨hz, ?_⟩
    conv => whnf
    rw [ed]
    refine ⟨hz, ?_⟩
    conv => whnf
    rw [em]
    refine ⟨fun _ => ?_, fun z => absurd rfl z⟩
    conv => whnf
    rw [nI_leI (by omega) (by omega)]
    refine ⟨fun qx => ?_, fun qx => ?_⟩
    · simp only [if_neg (show ¬ x < A.1 by omega)] at h
      conv => whnf
      rw [nI_ltI (by omega) (by omega)]
      refine ⟨fun q => absurd q (by omega), fun _ => ?_⟩
      conv => whnf
      rw [nI_ltI (by omega) (by omega)]
      refine ⟨fun qy => ?_, fun qy => ?_⟩
      · simp only [if_pos qy] at h
        conv => whnf
        refine h_lays (by decide) hM' (by omega) (by omega) (by omega) (by omega) (fun M2 g => ?_)
        conv => whnf
        refine hKz _ _ _ _ ?_
        rw [nI_1']
        exact h M2 g
      · simp only [if_neg qy] at h
        have hLR := hB.1.2 (x - A.1) (y - A.1) (by omega) (by omega)
        conv => whnf
        rw [pk_sub (by omega), pk_sub (by omega)]
        refine h_l (by omega) hM' hB' (by omega) (by omega) ?_
        conv => whnf
        rw [pk_sub (by omega), pk_sub (by omega)]
        refine h_r (by omega) hM' hB' (by omega) (by omega) ?_
        conv => whnf
        rw [nI_add, nI_add]
        refine h_lays (by decide) hM' (by omega) (by omega) (by omega) (by omega) (fun M2 g => ?_)
        conv => whnf
        refine hKz _ _ _ _ ?_
        rw [nI_1']
        exact h M2 g
    · simp only [if_pos (show x < A.1 by omega)] at h
      conv => whnf
      rw [nI_leI (by omega) (by omega)]
      refine ⟨fun qy => ?_, fun qy => ?_⟩
      · simp only [if_neg (show ¬ y < A.1 by omega)] at h
        conv => whnf
        rw [nI_ltI (by omega) (by omega)]
        refine ⟨fun _ => ?_, fun z => absurd (by omega) z⟩
        conv => whnf
        refine h_lays (by decide) hM' (by omega) (by omega) (by omega) (by omega) (fun M2 g => ?_)
        conv => whnf
        refine hKz _ _ _ _ ?_
        rw [nI_1']
        exact h M2 g
      · simp only [if_pos (show y < A.1 by omega)] at h
        have hLR := hA.1.2 x y (by omega) (by omega)
        conv => whnf
        refine h_l (by omega) hM' hA' (by omega) (by omega) ?_
        conv => whnf
        refine h_r (by omega) hM' hA' (by omega) (by omega) ?_
        conv => whnf
        refine h_lays (by decide) hM' (by omega) (by omega) (by omega) (by omega) (fun M2 g => ?_)
        conv => whnf
        refine hKz _ _ _ _ ?_
        rw [nI_1']
        exact h M2 g
theorem h_joinsP {a b : Nat} {A B : ZP} (ha : a < 4) (hb : b < 4) (hA : isH M a A) (hB : isH M b B) (h0 : 0 < A.1) (h0' : 0 < B.1) (q : A.1 * B.1 ≤ 6) (hL : LH M S) (hZ : ∀ M', hfr M M' → LH M' S → isH M' 4 (pprod A B) → Z none M') : Ctr 0 G mi_LW_joins [zr 20 0, zi (nI a), zi (nI b), zi (nI 1)] M Z := by
  have hn := hA.1.1
  have hm := hB.1.1
  have hpos : 0 < A.1 * B.1 := Nat.mul_pos h0 h0'
  have hbig : A.1 * B.1 ≤ 6 * 6 := Nat.mul_le_mul hn hm
  have hnn : (A.1 * B.1) * (A.1 * B.1) ≤ 6 * 6 := Nat.mul_le_mul q q
  have hz := n_nz (b := A.1 * B.1) (by omega) (by omega)
  have hzb := n_nz (b := B.1) (by omega) (by omega)
  refine go_LW_joins (fun Kz hKz => ?_)
  conv => whnf
  refine h_points (by omega) hA ?_
  conv => whnf
  refine h_points (by omega) hB ?_
  conv => whnf
  first | refine ⟨fun _ => ?_, fun z => absurd rfl z⟩ | refine ⟨fun z => absurd z (by decide), fun _ => ?_⟩
  conv => whnf
  refine ⟨vp_in_nI (by decide) (by decide), ?_⟩
  conv => whnf
  refine hKz _ _ _ _ ?_
  rw [nI_clamp (by decide), pk_mul, nI_l (by omega)]
  refine h_build (M0 := hz4 (A.1 * B.1) M) (N := (A.1 * B.1) * (A.1 * B.1)) (pos := sp (A.1 * B.1)) (vl := fun k => (pprod A B).2.1 (k / (A.1 * B.1)) (k % (A.1 * B.1))) (vr := fun k => (pprod A B).2.2 (k / (A.1 * B.1)) (k % (A.1 * B.1))) (P := fun k M' => V 0 G mi_LW_joins Z 43 [(0, zr 20 0), (1, zi (nI a)), (2, zi (nI b)), (3, zi (nI 1)), (4, zi (nI A.1)), (5, zi (nI B.1)), (6, zi (nI (A.1 * B.1))), (7, zi (nI k))] [] M') (hz4_hok hL.1) (fun k hk => sp_lt q hk) (sp_inj q) (fun M' hl => ?_) (fun k hk M' hl h => ?_)
  · refine z_run (cuts := cu_LW_joins) ok_LW_joins (fun Kz hKz => ?_)
    conv => whnf
    rw [pk_mul, nI_leI (by omega) (by omega)]
    refine ⟨fun _ => ?_, fun q => absurd (by omega) q⟩
    conv => whnf
    exact hZ M' (hfr_trans (hz4_fr M _) hl.1.1) (LH_stp (hz4_LS hL) hl.1) (sp_isH (A := pprod A B) hl (pprod_wf hA.1 hB.1 q) (hz4_at M _) (fun k hk => ⟨rfl, rfl⟩))
  · have hd := dvlt hk
    obtain ⟨ed, em⟩ := n_dm (k := k) (n := A.1 * B.1) (by omega) (by omega) (by omega)
    have hM' := hl.1.2.1
    have hA' : isH M' a A := isH_stp (hz4_isH hA ha) ha hl.1
    have hB' : isH M' b B := isH_stp (hz4_isH hB hb) hb hl.1
    have h := h (k / (A.1 * B.1)) (k % (A.1 * B.1)) rfl (by omega)
    clear hl
    have pl : ∀ x y, (pprod A B).2.1 x y = B.1 * A.2.1 (x / B.1) (y / B.1) + B.2.1 (x % B.1) (y % B.1) := fun _ _ => rfl
    have pr : ∀ x y, (pprod A B).2.2 x y = B.1 * A.2.2 (x / B.1) (y / B.1) + B.2.2 (x % B.1) (y % B.1) := fun _ _ => rfl
    have hwf := (pprod_wf hA.1 hB.1 q).2 _ _ hd.1 hd.2
    rw [pl, pr] at h hwf
    have hwf : _ < A.1 * B.1 ∧ _ < A.1 * B.1 := hwf
    generalize k / (A.1 * B.1) = x at *
    generalize k % (A.1 * B.1) = y at *
    have dx : x / B.1 < A.1 := Nat.div_lt_of_lt_mul (by rw [Nat.mul_comm]; exact hd.1)
    have dy : y / B.1 < A.1 := Nat.div_lt_of_lt_mul (by rw [Nat.mul_comm]; exact hd.2)
    have mx : x % B.1 < B.1 := Nat.mod_lt _ (by omega)
    have my : y % B.1 < B.1 := Nat.mod_lt _ (by omega)
    obtain ⟨x1, x2⟩ := n_dm (k := x) (n := B.1) (by omega) (by omega) (by omega)
    obtain ⟨y1, y2⟩ := n_dm (k := y) (n := B.1) (by omega) (by omega) (by omega)
    refine z_run (cuts := cu_LW_joins) ok_LW_joins (fun Kz hKz => ?_)
    conv => whnf
    rw [pk_mul, nI_leI (by omega) (by omega)]
    refine ⟨fun q => absurd q (by omega), fun _ => ?_⟩
    conv => whnf
    refine ⟨hz, ?_⟩
    conv => whnf
    rw [ed]
    refine ⟨hz, ?_⟩
    conv => whnf
    rw [em]
    refine ⟨fun z => absurd z (by decide), fun _ => ?_⟩
    conv => whnf
    refine ⟨hzb, ?_⟩
    conv => whnf
    refine ⟨hzb, ?_⟩
    conv => whnf
    rw [x1, y1]
    refine h_l (by omega) hM' hA' dx dy ?_
    conv => whnf
    refine ⟨hzb, ?_⟩
    conv => whnf
    refine ⟨hzb, ?_⟩
    conv => whnf
    rw [x2, y2]
    refine h_l (by omega) hM' hB' mx my ?_
    conv => whnf
    refine ⟨hzb, ?_⟩
    conv => whnf
    refine ⟨hzb, ?_⟩
    conv => whnf
    rw [x1, y1]
    refine h_r (by omega) hM' hA' dx dy ?_
    conv => whnf
    refine ⟨hzb, ?_⟩
    conv => whnf
    refine ⟨hzb, ?_⟩
    conv => whnf
    rw [x2, y2]
    refine h_r (by omega) hM' hB' mx my ?_
    conv => whnf
    rw [pk_mul, pk_mul, nI_add, nI_add]
    refine h_lays (by decide) hM' (by omega) (by omega) (by omega) (by omega) (fun M2 g => ?_)
    conv => whnf
    refine hKz _ _ _ _ ?_
    rw [nI_1']
    exact h M2 g
theorem h_turns0 {a : Nat} {f : Int32} {A : ZP} (ha : a < 4) (hA : isH M a A) (h0 : 0 < A.1) (hi : pinj A) (hL : LH M S) (hZ : ∀ M', hfr M M' → LH M' S → isH M' 4 (pinv A) → Z none M') : Ctr 0 G mi_LW_turns [zr 20 0, zi (nI a), zi (nI 0), zi f] M Z := by
  have hn := hA.1.1
  have hnn : A.1 * A.1 ≤ 6 * 6 := Nat.mul_le_mul hn hn
  have hz := n_nz (b := A.1) (by omega) (by omega)
  refine go_LW_turns (fun Kz hKz => ?_)
  conv => whnf
  refine h_points (by omega) hA ?_
  conv => whnf
  refine ⟨vp_in_nI (by decide) (by decide), ?_⟩
  conv => whnf
  refine hKz _ _ _ _ ?_
  rw [nI_clamp (by decide), nI_l (by omega)]
  refine h_build (M0 := hz4 A.1 M) (N := A.1 * A.1) (pos := pj A 6) (vl := fun k => k / A.1) (vr := fun k => k % A.1) (P := fun k M' => V 0 G mi_LW_turns Z 17 [(0, zr 20 0), (1, zi (nI a)), (2, zi (nI 0)), (3, zi f), (4, zi (nI A.1)), (5, zi (nI k))] [] M') (hz4_hok hL.1) (fun k hk => ?_) ((pj_inj hA.1 hn).mpr hi) (fun M' hl => ?_) (fun k hk M' hl h => ?_)
  · have hd := dvlt hk
    have hLR := hA.1.2 _ _ hd.1 hd.2
    unfold pj
    omega
  · refine z_run (cuts := cu_LW_turns) ok_LW_turns (fun Kz hKz => ?_)
    conv => whnf
    rw [pk_mul, nI_leI (by omega) (by omega)]
    refine ⟨fun _ => ?_, fun q => absurd (by omega) q⟩
    conv => whnf
    have hB : isH M' 4 (pinv A) := by
      refine laid_isH hl (pinv_wf hA.1 hi) (hz4_at M _) (fun p q hp hq => ?_)
      obtain ⟨z1, z2, z3, z4⟩ := pinvz_spec hA.1 hi hp hq
      refine ⟨A.1 * (pinvz A p q).1 + (pinvz A p q).2, prlt z1 z2, ?_, ?_, ?_⟩
      · unfold pj
        rw [(dvm z2).1, (dvm z2).2, z3, z4]
      · show (A.1 * (pinvz A p q).1 + (pinvz A p q).2) / A.1 = (pinvz A p q).1
        exact (dvm z2).1
      · show (A.1 * (pinvz A p q).1 + (pinvz A p q).2) % A.1 = (pinvz A p q).2
        exact (dvm z2).2
    exact hZ M' (hfr_trans (hz4_fr M _) hl.1.1) (LH_stp (hz4_LS hL) hl.1) hB
  · have hd := dvlt hk
    have hLR := hA.1.2 _ _ hd.1 hd.2
    obtain ⟨ed, em⟩ := n_dm (k := k) (n := A.1) (by omega) (by omega) (by omega)
    have hM' := hl.1.2.1
    have hA' : isH M' a A := isH_stp (hz4_isH hA ha) ha hl.1
    have h := h (A.2.1 (k / A.1) (k % A.1)) (A.2.2 (k / A.1) (k % A.1)) rfl (by omega)
    clear hl
    refine z_run (cuts := cu_LW_turns) ok_LW_turns (fun Kz hKz => ?_)
    conv => whnf
    rw [pk_mul, nI_leI (by omega) (by omega)]
    refine ⟨fun q => absurd q (by omega), fun _ => ?_⟩
    conv => whnf
    refine ⟨hz, ?_⟩
    conv => whnf
    rw [ed]
    refine ⟨hz, ?_⟩
    conv => whnf
    rw [em]
    refine h_l (by omega) hM' hA' hd.1 hd.2 ?_
    conv => whnf
    refine h_r (by omega) hM' hA' hd.1 hd.2 ?_
    conv => whnf
    refine ⟨fun z => absurd rfl z, fun _ => ?_⟩
    conv => whnf
    refine h_lays (by decide) hM' (by omega) (by omega) (by omega) (by omega) (fun M2 g => ?_)
    conv => whnf
    refine hKz _ _ _ _ ?_
    rw [nI_1']
    exact h M2 g
theorem h_turns1 {a : Nat} {f : Int32} {A : ZP} (ha : a < 4) (hA : isH M a A) (h0 : 0 < A.1) (hL : LH M S) (hZ : ∀ M', hfr M M' → LH M' S → isH M' 4 (pmir A) → Z none M') : Ctr 0 G mi_LW_turns [zr 20 0, zi (nI a), zi (nI 1), zi f] M Z := by
  have hn := hA.1.1
  have hnn : A.1 * A.1 ≤ 6 * 6 := Nat.mul_le_mul hn hn
  have hz := n_nz (b := A.1) (by omega) (by omega)
  refine go_LW_turns (fun Kz hKz => ?_)
  conv => whnf
  refine h_points (by omega) hA ?_
  conv => whnf
  refine ⟨vp_in_nI (by decide) (by decide), ?_⟩
  conv => whnf
  refine hKz _ _ _ _ ?_
  rw [nI_clamp (by decide), nI_l (by omega)]
  refine h_build (M0 := hz4 A.1 M) (N := A.1 * A.1) (pos := fun k => 6 * (k % A.1) + k / A.1) (vl := fun k => A.2.2 (k / A.1) (k % A.1)) (vr := fun k => A.2.1 (k / A.1) (k % A.1)) (P := fun k M' => V 0 G mi_LW_turns Z 17 [(0, zr 20 0), (1, zi (nI a)), (2, zi (nI 1)), (3, zi f), (4, zi (nI A.1)), (5, zi (nI k))] [] M') (hz4_hok hL.1) (fun k hk => ?_) (fun i j hi hj q => ?_) (fun M' hl => ?_) (fun k hk M' hl h => ?_)
  · have hd := dvlt hk
    show 6 * (k % A.1) + k / A.1 < 36
    omega
  · have hd1 := dvlt hi
    have hd2 := dvlt hj
    have q2 : 6 * (i % A.1) + i / A.1 = 6 * (j % A.1) + j / A.1 := q
    obtain ⟨c1, c2⟩ := (show ∀ p q p' q' : Nat, p < 6 → p' < 6 → 6 * q + p = 6 * q' + p' → p = p' ∧ q = q' by omega) _ _ _ _ (Nat.lt_of_lt_of_le hd1.1 hn) (Nat.lt_of_lt_of_le hd2.1 hn) q2
    rw [← Nat.div_add_mod i A.1, ← Nat.div_add_mod j A.1, c1, c2]
  · refine z_run (cuts := cu_LW_turns) ok_LW_turns (fun Kz hKz => ?_)
    conv => whnf
    rw [pk_mul, nI_leI (by omega) (by omega)]
    refine ⟨fun _ => ?_, fun q => absurd (by omega) q⟩
    conv => whnf
    have hB : isH M' 4 (pmir A) := by
      refine laid_isH hl (pmir_wf hA.1) (hz4_at M _) (fun x y hx hy => ?_)
      have hx : x < A.1 := hx
      have hy : y < A.1 := hy
      refine ⟨A.1 * y + x, prlt hy hx, ?_, ?_, ?_⟩
      · show 6 * ((A.1 * y + x) % A.1) + (A.1 * y + x) / A.1 = _
        rw [(dvm hx).1, (dvm hx).2]
      · show A.2.2 ((A.1 * y + x) / A.1) ((A.1 * y + x) % A.1) = A.2.2 y x
        rw [(dvm hx).1, (dvm hx).2]
      · show A.2.1 ((A.1 * y + x) / A.1) ((A.1 * y + x) % A.1) = A.2.1 y x
        rw [(dvm hx).1, (dvm hx).2]
    exact hZ M' (hfr_trans (hz4_fr M _) hl.1.1) (LH_stp (hz4_LS hL) hl.1) hB
  · have hd := dvlt hk
    have hLR := hA.1.2 _ _ hd.1 hd.2
    obtain ⟨ed, em⟩ := n_dm (k := k) (n := A.1) (by omega) (by omega) (by omega)
    have hM' := hl.1.2.1
    have hA' : isH M' a A := isH_stp (hz4_isH hA ha) ha hl.1
    have h := h (k % A.1) (k / A.1) rfl (by omega)
    clear hl
    refine z_run (cuts := cu_LW_turns) ok_LW_turns (fun Kz hKz => ?_)
    conv => whnf
    rw [pk_mul, nI_leI (by omega) (by omega)]
    refine ⟨fun q => absurd q (by omega), fun _ => ?_⟩
    conv => whnf
    refine ⟨hz, ?_⟩
    conv => whnf
    rw [ed]
    refine ⟨hz, ?_⟩
    conv => whnf
    rw [em]
    refine h_l (by omega) hM' hA' hd.1 hd.2 ?_
    conv => whnf
    refine h_r (by omega) hM' hA' hd.1 hd.2 ?_
    conv => whnf
    refine ⟨fun _ => ?_, fun z => absurd (by decide) z⟩
    conv => whnf
    refine ⟨fun z => absurd rfl z, fun _ => ?_⟩
    conv => whnf
    refine h_lays (by decide) hM' (by omega) (by omega) (by omega) (by omega) (fun M2 g => ?_)
    conv => whnf
    refine hKz _ _ _ _ ?_
    rw [nI_1']
    exact h M2 g
theorem h_turns2 {a : Nat} {f : Nat} {A : ZP} (ha : a < 4) (hA : isH M a A) (h0 : 0 < A.1) (pf : isP f A.1) (hL : LH M S) (hZ : ∀ M', hfr M M' → LH M' S → isH M' 4 (pren A (dg f) (dgi f A.1)) → Z none M') : Ctr 0 G mi_LW_turns [zr 20 0, zi (nI a), zi (nI 2), zi (nI f)] M Z := by
  have hn := hA.1.1
  have hnn : A.1 * A.1 ≤ 6 * 6 := Nat.mul_le_mul hn hn
  have hz := n_nz (b := A.1) (by omega) (by omega)
  obtain ⟨f1, f2, f3⟩ := isP_facts pf
  have h8 := p8_le hn
  have hf : f < 2 ^ 32 := by have := pf.1.1; omega
  refine go_LW_turns (fun Kz hKz => ?_)
  conv => whnf
  refine h_points (by omega) hA ?_
  conv => whnf
  refine ⟨vp_in_nI (by decide) (by decide), ?_⟩
  conv => whnf
  refine hKz _ _ _ _ ?_
  rw [nI_clamp (by decide), nI_l (by omega)]
  refine h_build (M0 := hz4 A.1 M) (N := A.1 * A.1) (pos := fun k => 6 * dg f (k / A.1) + dg f (k % A.1)) (vl := fun k => dg f (A.2.1 (k / A.1) (k % A.1))) (vr := fun k => dg f (A.2.2 (k / A.1) (k % A.1))) (P := fun k M' => V 0 G mi_LW_turns Z 17 [(0, zr 20 0), (1, zi (nI a)), (2, zi (nI 2)), (3, zi (nI f)), (4, zi (nI A.1)), (5, zi (nI k))] [] M') (hz4_hok hL.1) (fun k hk => ?_) (fun i j hi hj q => ?_) (fun M' hl => ?_) (fun k hk M' hl h => ?_)
  · have hd := dvlt hk
    have := f1 _ hd.1
    have := f1 _ hd.2
    show 6 * dg f (k / A.1) + dg f (k % A.1) < 36
    omega
  · have hd1 := dvlt hi
    have hd2 := dvlt hj
    have b1 := f1 _ hd1.2
    have b2 := f1 _ hd2.2
    have q2 : 6 * dg f (i / A.1) + dg f (i % A.1) = 6 * dg f (j / A.1) + dg f (j % A.1) := q
    have c1 := f2 _ _ hd1.1 hd2.1 (by omega)
    have c2 := f2 _ _ hd1.2 hd2.2 (by omega)
    rw [← Nat.div_add_mod i A.1, ← Nat.div_add_mod j A.1, c1, c2]
  · refine z_run (cuts := cu_LW_turns) ok_LW_turns (fun Kz hKz => ?_)
    conv => whnf
    rw [pk_mul, nI_leI (by omega) (by omega)]
    refine ⟨fun _ => ?_, fun q => absurd (by omega) q⟩
    conv => whnf
    have hB : isH M' 4 (pren A (dg f) (dgi f A.1)) := by
      refine laid_isH hl (pren_wf hA.1 pf) (hz4_at M _) (fun x y hx hy => ?_)
      obtain ⟨x', hx', ex⟩ := f3 x hx
      obtain ⟨y', hy', ey⟩ := f3 y hy
      refine ⟨A.1 * x' + y', prlt hx' hy', ?_, ?_, ?_⟩
      · show 6 * dg f ((A.1 * x' + y') / A.1) + dg f ((A.1 * x' + y') % A.1) = _
        rw [(dvm hy').1, (dvm hy').2, ex, ey]
      · show dg f (A.2.1 ((A.1 * x' + y') / A.1) ((A.1 * x' + y') % A.1)) = dg f (A.2.1 (dgi f A.1 x) (dgi f A.1 y))
        rw [(dvm hy').1, (dvm hy').2, ← ex, ← ey, dgi_of pf hx', dgi_of pf hy']
      · show dg f (A.2.2 ((A.1 * x' + y') / A.1) ((A.1 * x' + y') % A.1)) = dg f (A.2.2 (dgi f A.1 x) (dgi f A.1 y))
        rw [(dvm hy').1, (dvm hy').2, ← ex, ← ey, dgi_of pf hx', dgi_of pf hy']
    exact hZ M' (hfr_trans (hz4_fr M _) hl.1.1) (LH_stp (hz4_LS hL) hl.1) hB
  · have hd := dvlt hk
    have hLR := hA.1.2 _ _ hd.1 hd.2
    obtain ⟨ed, em⟩ := n_dm (k := k) (n := A.1) (by omega) (by omega) (by omega)
    have hM' := hl.1.2.1
    have hA' : isH M' a A := isH_stp (hz4_isH hA ha) ha hl.1
    have b1 := f1 _ hd.1
    have b2 := f1 _ hd.2
    have b3 := f1 _ hLR.1
    have b4 := f1 _ hLR.2
    have h := h (dg f (k / A.1)) (dg f (k % A.1)) rfl (by omega)
    clear hl
    refine z_run (cuts := cu_LW_turns) ok_LW_turns (fun Kz hKz => ?_)
    conv => whnf
    rw [pk_mul, nI_leI (by omega) (by omega)]
    refine ⟨fun q => absurd q (by omega), fun _ => ?_⟩
    conv => whnf
    refine ⟨hz, ?_⟩
    conv => whnf
    rw [ed]
    refine ⟨hz, ?_⟩
    conv => whnf
    rw [em]
    refine h_l (by omega) hM' hA' hd.1 hd.2 ?_
    conv => whnf
    refine h_r (by omega) hM' hA' hd.1 hd.2 ?_
    conv => whnf
    refine ⟨fun _ => ?_, fun z => absurd (by decide) z⟩
    conv => whnf
    refine ⟨fun _ => ?_, fun z => absurd (by decide) z⟩
    conv => whnf
    refine h_digit hf (by omega) ?_
    conv => whnf
    refine h_digit hf (by omega) ?_
    conv => whnf
    refine h_digit hf (by omega) ?_
    conv => whnf
    refine h_digit hf (by omega) ?_
    conv => whnf
    refine h_lays (by decide) hM' (by omega) (by omega) (by omega) (by omega) (fun M2 g => ?_)
    conv => whnf
    refine hKz _ _ _ _ ?_
    rw [nI_1']
    exact h M2 g
theorem h_bijective {m : Nat} {A : ZP} (hm : m < 5) (hM : hok M) (hA : isH M m A) (h1 : pinj A → Z (some (zi (nI 1))) M) (h0 : ¬ pinj A → Z (some (zi (nI 0))) M) : Ctr 0 G mi_LW_bijective [zr 20 0, zi (nI m)] M Z := by
  have hn := hA.1.1
  have hnn : A.1 * A.1 ≤ 6 * 6 := Nat.mul_le_mul hn hn
  have plt : ∀ j, j < A.1 * A.1 → pj A 6 j < 36 := fun j hj => by
    have hd := dvlt hj
    have hLR := hA.1.2 _ _ hd.1 hd.2
    unfold pj
    omega
  have lp : ∀ k, k ≤ A.1 * A.1 → ∀ b : Bool, (b = true ↔ ∀ i j, i < k → j < k → pj A 6 i = pj A 6 j → i = j) → V 0 G mi_LW_bijective Z 14 [(0, zr 20 0), (1, zi (nI m)), (2, zi (nI A.1)), (3, zl (lN (orf (pj A 6) k))), (5, zi (b2i b)), (6, zi (nI k))] [] M := by
    refine up_to ?_ ?_
    · intro b hb
      rw [pj_inj hA.1 hn] at hb
      refine z_run (cuts := cu_LW_bijective) ok_LW_bijective (fun Kz hKz => ?_)
      conv => whnf
      rw [pk_mul, nI_leI (by omega) (by omega)]
      refine ⟨fun _ => ?_, fun q => absurd (by omega) q⟩
      conv => whnf
      cases b with
      | true => exact ⟨Or.inr rfl, h1 (hb.mp rfl)⟩
      | false => exact ⟨Or.inl rfl, h0 (fun z => by have := hb.mpr z; cases this)⟩
    · intro k hk ih b hb
      have hd := dvlt hk
      have hLR := hA.1.2 _ _ hd.1 hd.2
      have hz := n_nz (b := A.1) (by omega) (by omega)
      obtain ⟨ed, em⟩ := n_dm (k := k) (n := A.1) (by omega) (by omega) (by omega)
      have hp := plt k hk
      have hs : orf (pj A 6) k < 2 ^ 36 := orf_lt k (fun i hi => plt i (by omega))
      have ep : 6 * A.2.1 (k / A.1) (k % A.1) + A.2.2 (k / A.1) (k % A.1) = pj A 6 k := rfl
      have hb2 : (2 : Nat) ^ pj A 6 k < 2 ^ 36 := Nat.pow_lt_pow_right (by decide) hp
      have hbit : (orf (pj A 6) k).testBit (pj A 6 k) = false ↔ ∀ i, i < k → pj A 6 i ≠ pj A 6 k := by
        rw [← Bool.not_eq_true, orf_bit]
        exact ⟨fun h i hi e => h ⟨i, hi, e⟩, fun h ⟨i, hi, e⟩ => h i hi e⟩
      have nxt : ∀ d : Bool, (d = true ↔ (b = true ∧ (orf (pj A 6) k).testBit (pj A 6 k) = false)) → (d = true ↔ ∀ i j, i < k + 1 → j < k + 1 → pj A 6 i = pj A 6 j → i = j) := by
        intro d hd2
        rw [hd2, hb, hbit]
        constructor
        · rintro ⟨g1, g2⟩ i j hi hj e
          rcases Nat.lt_succ_iff_lt_or_eq.mp hi with hi | rfl
          · rcases Nat.lt_succ_iff_lt_or_eq.mp hj with hj | rfl
            · exact g1 i j hi hj e
            · exact absurd e (g2 i hi)
          · rcases Nat.lt_succ_iff_lt_or_eq.mp hj with hj | rfl
            · exact absurd e.symm (g2 j hj)
            · rfl
        · intro g
          exact ⟨fun i j hi hj e => g i j (by omega) (by omega) e, fun i hi e => by have := g i k (by omega) (by omega) e; omega⟩
      have ih : ∀ d : Bool, (d = true ↔ (b = true ∧ (orf (pj A 6) k).testBit (pj A 6 k) = false)) → V 0 G mi_LW_bijective Z 14 [(0, zr 20 0), (1, zi (nI m)), (2, zi (nI A.1)), (3, zl (lN (orf (pj A 6) k ||| 2 ^ pj A 6 k))), (5, zi (b2i d)), (6, zi (nI (k + 1)))] [] M := fun d hd2 => ih d (nxt d hd2)
      refine z_run (cuts := cu_LW_bijective) ok_LW_bijective (fun Kz hKz => ?_)
      conv => whnf
      rw [pk_mul, nI_leI (by omega) (by omega)]
      refine ⟨fun q => absurd q (by omega), fun _ => ?_⟩
      conv => whnf
      refine ⟨hz, ?_⟩
      conv => whnf
      refine ⟨hz, ?_⟩
      conv => whnf
      rw [ed, em]
      refine h_l hm hM hA hd.1 hd.2 ?_
      conv => whnf
      refine ⟨hz, ?_⟩
      conv => whnf
      refine ⟨hz, ?_⟩
      conv => whnf
      rw [ed, em]
      refine h_r hm hM hA hd.1 hd.2 ?_
      conv => whnf
      rw [pk_mul, nI_add, ep, l_shl _ _ (by omega), Nat.one_mul]
      cases hb4 : b with
      | false =>
        first | refine ⟨fun _ => ?_, fun q => absurd (by decide) q⟩ | refine ⟨fun q => absurd q (by decide), fun _ => ?_⟩
        conv => whnf
        refine hKz _ _ _ _ ?_
        rw [l_or, nI_1']
        exact ih false (by rw [hb4]; simp)
      | true =>
        first | refine ⟨fun _ => ?_, fun q => absurd (by decide) q⟩ | refine ⟨fun q => absurd q (by decide), fun _ => ?_⟩
        conv => whnf
        rw [l_and, lc_eq, l_eq (Nat.lt_of_le_of_lt Nat.and_le_left (by omega)) (by decide), and_bit]
        refine ⟨fun q => ?_, fun q => ?_⟩
        · conv => whnf
          refine hKz _ _ _ _ ?_
          rw [l_or, nI_1']
          exact ih false (by simp [q])
        · conv => whnf
          refine hKz _ _ _ _ ?_
          rw [l_or, nI_1']
          exact ih true (by simp [hb4, Classical.not_not.mp q])
  refine go_LW_bijective (fun Kz hKz => ?_)
  conv => whnf
  refine h_points hm hA ?_
  conv => whnf
  refine hKz _ _ _ _ ?_
  exact lp 0 (Nat.zero_le _) true ⟨fun _ i j hi _ _ => absurd hi (Nat.not_lt_zero _), fun _ => rfl⟩
end
end
