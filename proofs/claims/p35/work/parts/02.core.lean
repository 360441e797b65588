/-! values, memory, places: the cells of the whole world by kind and number -/
abbrev ZV : Type := Int32 ⊕ (Int64 ⊕ (Nat × Nat))
abbrev zi (x : Int32) : ZV := Sum.inl x
abbrev zl (x : Int64) : ZV := Sum.inr (Sum.inl x)
abbrev zr (k i : Nat) : ZV := Sum.inr (Sum.inr (k, i))
abbrev ZM : Type := (Nat → Nat → Nat → Int32) × (Nat → Nat → Nat → Int64)
abbrev ZL : Type := List (Nat × ZV)
abbrev ZG : Type := Launch × ((Nat → Nat → Nat) × (va_G × ((Nat → ClassId) × ((Nat → Prop) × (Nat × (Nat → Int32))))))
def gl (G : ZG) : Launch := G.1
def ga (G : ZG) : Nat → Nat → Nat := G.2.1
def gD (G : ZG) : va_G := G.2.2.1
def gc (G : ZG) : Nat → ClassId := G.2.2.2.1
def gA (G : ZG) : Nat → Prop := G.2.2.2.2.1
def gN (G : ZG) : Nat := G.2.2.2.2.2.1
def gX (G : ZG) : Nat → Int32 := G.2.2.2.2.2.2
def zc (G : ZG) (v : ZV) : Value := match v with
  | .inl x => .int x
  | .inr (.inl x) => .long x
  | .inr (.inr q) => .ref (ga G q.1 q.2)
def zcat (v : ZV) : Nat := match v with
  | .inl _ => 1
  | .inr (.inl _) => 2
  | .inr (.inr _) => 1
theorem zcat_eq (G : ZG) (v : ZV) : (zc G v).category = zcat v := by
  rcases v with x | x | x <;> rfl
def zct : List ZV → Nat
  | [] => 0
  | v :: r => zcat v + zct r
theorem zct_eq (G : ZG) (st : List ZV) : ((st.map (zc G)).map fun v => v.category).sum = zct st := by
  induction st with
  | nil => rfl
  | cons v r ih => simp only [List.map_cons, List.sum_cons, ih, zcat_eq, zct]
/-- a field: a number, or the cell that it holds for ever (its kind; its number; or the number of the object itself) -/
abbrev ZF : Type := Option (Nat × Nat × Bool)
/-- a kind: objects (class, fields) or arrays (0 int, 1 long, 2 boolean, 3 PairMap, 4 Braid; length) -/
abbrev ZK : Type := (Nat × List ZF) ⊕ (Nat × Nat)
def zKL : List (ZK × Nat) := [
  (.inl (0, [some (1, 0, true), none]), 10), (.inr (0, 64), 10),
  (.inl (1, [some (3, 0, true), some (4, 0, true), none]), 3), (.inr (0, 24), 3), (.inr (2, 24), 3),
  (.inl (2, [some (6, 0, false), some (7, 0, false), some (0, 4, false), some (2, 2, false), some (0, 5, false), some (8, 0, false), some (11, 0, false), some (13, 0, false), some (16, 0, false), some (18, 0, false)]), 1), (.inr (3, 4), 1), (.inr (4, 2), 1),
  (.inl (3, [some (9, 0, false), some (10, 0, false), none, some (0, 6, false), some (0, 7, false)]), 1), (.inr (0, 8), 1), (.inr (0, 8), 1),
  (.inl (4, [some (12, 0, false)]), 1), (.inr (0, 8), 1),
  (.inl (5, [some (14, 0, false), some (15, 0, false), none]), 1), (.inr (0, 720), 1), (.inr (1, 512), 1),
  (.inl (6, [some (17, 0, false), none]), 1), (.inr (0, 4096), 1),
  (.inl (7, [some (0, 8, false), some (0, 9, false), some (19, 0, false)]), 1), (.inr (1, 64), 1),
  (.inr (1, 48), 1)]
def zK (k : Nat) : ZK := (zKL.getD k (.inl (0, []), 0)).1
def zN (k : Nat) : Nat := (zKL.getD k (.inl (0, []), 0)).2
def zfv (k i j : Nat) (M : ZM) (f : ZF) : ZV := match f with
  | none => zi (M.1 k i j)
  | some (k', c, b) => match b with
    | true => zr k' i
    | false => zr k' c
def zfs (G : ZG) (M : ZM) (k i : Nat) (fs : List ZF) : List Value := fs.zipIdx.map (fun p => zc G (zfv k i p.2 M p.1))
def zarr (G : ZG) (M : ZM) (k i t n : Nat) : ClassId × vp_A := match t with
  | 0 => (gc G 0, n, .inl (M.1 k i))
  | 1 => (gc G 1, n, .inr (.inl (M.2 k i)))
  | 2 => (gc G 2, n, .inl (M.1 k i))
  | 3 => (gc G 3, n, .inr (.inr (.inr (.inr fun j => some (ga G 0 j)))))
  | _ => (gc G 4, n, .inr (.inr (.inr (.inr fun j => some (ga G 2 j)))))
def zent (G : ZG) (M : ZM) (k i : Nat) : va_E := match zK k with
  | .inl (ci, fs) => .inr (ci, zfs G M k i fs)
  | .inr (t, n) => .inl (zarr G M k i t n)
def zcells : List (Nat × Nat) := (List.range 38).flatMap fun k => (List.range (zN k)).map fun i => (k, i)
def zws (G : ZG) (M : ZM) : va_W := zcells.map fun c => (ga G c.1 c.2, zent G M c.1 c.2)
def ztys (G : ZG) : List (ClassId × FieldType) := [(gc G 0, .int), (gc G 1, .long), (gc G 2, .boolean), (gc G 3, .object "ThreeStrandMaps$PairMap"), (gc G 4, .object "ThreeStrandMaps$Braid")]
def zT0 : u_T := fun k => match k with
  | 0 => ("ThreeStrandMaps$PairMap", "images", "[I", true)
  | _ => ("ThreeStrandMaps$PairMap", "points", "I", false)
def zT1 : u_T := fun k => match k with
  | 0 => ("ThreeStrandMaps$Braid", "positions", "[I", true)
  | 1 => ("ThreeStrandMaps$Braid", "capitals", "[Z", true)
  | _ => ("ThreeStrandMaps$Braid", "length", "I", false)
def zT2 : u_T := fun k => match k with
  | 0 => ("ThreeStrandMaps", "places", "[LThreeStrandMaps$PairMap;", true)
  | 1 => ("ThreeStrandMaps", "braids", "[LThreeStrandMaps$Braid;", true)
  | 2 => ("ThreeStrandMaps", "noMap", "LThreeStrandMaps$PairMap;", true)
  | 3 => ("ThreeStrandMaps", "noBraid", "LThreeStrandMaps$Braid;", true)
  | 4 => ("ThreeStrandMaps", "made", "LThreeStrandMaps$PairMap;", true)
  | 5 => ("ThreeStrandMaps", "classes", "LThreeStrandMaps$AlikeClasses;", true)
  | 6 => ("ThreeStrandMaps", "renamings", "LThreeStrandMaps$Renamings;", true)
  | 7 => ("ThreeStrandMaps", "rowGroup", "LThreeStrandMaps$RowGroup;", true)
  | 8 => ("ThreeStrandMaps", "wordClasses", "LThreeStrandMaps$WordClasses;", true)
  | _ => ("ThreeStrandMaps", "action", "LThreeStrandMaps$BraidAction;", true)
def zT3 : u_T := fun k => match k with
  | 0 => ("ThreeStrandMaps$AlikeClasses", "classes", "[I", true)
  | 1 => ("ThreeStrandMaps$AlikeClasses", "smallest", "[I", true)
  | 2 => ("ThreeStrandMaps$AlikeClasses", "size", "I", false)
  | 3 => ("ThreeStrandMaps$AlikeClasses", "current", "LThreeStrandMaps$PairMap;", true)
  | _ => ("ThreeStrandMaps$AlikeClasses", "smaller", "LThreeStrandMaps$PairMap;", true)
def zT4 : u_T := fun k => match k with
  | _ => ("ThreeStrandMaps$Renamings", "images", "[I", true)
def zT5 : u_T := fun k => match k with
  | 0 => ("ThreeStrandMaps$RowGroup", "elements", "[I", true)
  | 1 => ("ThreeStrandMaps$RowGroup", "seen", "[J", true)
  | _ => ("ThreeStrandMaps$RowGroup", "size", "I", false)
def zT6 : u_T := fun k => match k with
  | 0 => ("ThreeStrandMaps$WordClasses", "smaller", "[I", true)
  | _ => ("ThreeStrandMaps$WordClasses", "size", "I", false)
def zT7 : u_T := fun k => match k with
  | 0 => ("ThreeStrandMaps$BraidAction", "map", "LThreeStrandMaps$PairMap;", true)
  | 1 => ("ThreeStrandMaps$BraidAction", "inverse", "LThreeStrandMaps$PairMap;", true)
  | _ => ("ThreeStrandMaps$BraidAction", "seen", "[J", true)
def zcls : List vw_C := [("ThreeStrandMaps$PairMap", zT0, 2), ("ThreeStrandMaps$Braid", zT1, 3), ("ThreeStrandMaps", zT2, 10), ("ThreeStrandMaps$AlikeClasses", zT3, 5), ("ThreeStrandMaps$Renamings", zT4, 1), ("ThreeStrandMaps$RowGroup", zT5, 3), ("ThreeStrandMaps$WordClasses", zT6, 2), ("ThreeStrandMaps$BraidAction", zT7, 3)]
def zrowL : List Int64 := [0x0, 0x0101, 0x1010, 0x012012012, 0x012012102, 0x012021021, 0x021021021, 0x120120120, 0x0123012301230123, 0x0123012301230213, 0x0123012301231203, 0x0123012301320132, 0x0123012301321032, 0x0123012310231023, 0x0123012310321032, 0x0123013201320132, 0x0123023102310231, 0x0132013201320132, 0x0132013210231023, 0x0132013210321032, 0x0132231032011023, 0x0231023102310231, 0x0231031203120312, 0x1023102301320132, 0x1023102301321032, 0x1023102310321032, 0x1023231001323201, 0x1032103210321032, 0x1032230123011032, 0x1230123012301230, 0x1230301212303012]
def zrows (j : Nat) : Int64 := zrowL.getD j 0
def zTw : List Jvm.Cond := lw_tbl.filter goodWord
def znest : List Jvm.Cond := lw_tbl.filter (fun w => match w with | .methodLinkNest _ _ _ _ => true | _ => false)
theorem zTw_of {w : Jvm.Cond} (q : Nat) (h : lw_tbl[q]? = some w) (hg : goodWord w = true) : w ∈ zTw := List.mem_filter.mpr ⟨List.mem_of_getElem? h, hg⟩
/-! cells -/
def zval (k i : Nat) : Prop := k < 38 ∧ i < zN k
theorem zcells_mem {k i : Nat} (h : zval k i) : (k, i) ∈ zcells := by
  unfold zcells
  rw [List.mem_flatMap]
  exact ⟨k, List.mem_range.mpr h.1, List.mem_map.mpr ⟨i, List.mem_range.mpr h.2, rfl⟩⟩
theorem zcells_len : zcells.length = 45 := by decide +kernel
theorem zcells_inj0 : ∀ i, i < 45 → ∀ j, j < 45 → zcells[i]? = zcells[j]? → i = j := by decide +kernel
theorem zcells_inj {i j : Nat} {c : Nat × Nat} (hi : zcells[i]? = some c) (hj : zcells[j]? = some c) : i = j := by
  have h1 := (List.getElem?_eq_some_iff.mp hi).1
  have h2 := (List.getElem?_eq_some_iff.mp hj).1
  rw [zcells_len] at h1 h2
  exact zcells_inj0 i h1 j h2 (hi.trans hj.symm)
def zok (G : ZG) : Prop := (∀ c ∈ zcells, ∀ c' ∈ zcells, ga G c.1 c.2 = ga G c'.1 c'.2 → c = c') ∧ ∀ c ∈ zcells, gA G (ga G c.1 c.2)
theorem zws_at {G : ZG} {k i : Nat} (h : zval k i) : ∃ q0 : Nat, zcells[q0]? = some (k, i) ∧ ∀ M, (zws G M)[q0]? = some (ga G k i, zent G M k i) := by
  obtain ⟨q0, hq⟩ := List.getElem?_of_mem (zcells_mem h)
  refine ⟨q0, hq, fun M => ?_⟩
  unfold zws
  rw [List.getElem?_map, hq]
  rfl
theorem zws_D {G : ZG} (h : zok G) (M : ZM) : va_D (gA G) (zws G M) := by
  refine ⟨fun i j p q hi hj he => ?_, fun k q hk => ?_⟩
  · unfold zws at hi hj
    rw [List.getElem?_map, Option.map_eq_some_iff] at hi hj
    obtain ⟨c, hc, rfl⟩ := hi
    obtain ⟨c', hc', rfl⟩ := hj
    have h1 := h.1 c (List.mem_of_getElem? hc) c' (List.mem_of_getElem? hc') he
    subst h1
    exact zcells_inj hc hc'
  · unfold zws at hk
    rw [List.getElem?_map, Option.map_eq_some_iff] at hk
    obtain ⟨c, hc, rfl⟩ := hk
    exact h.2 c (List.mem_of_getElem? hc)
def zset (k i j : Nat) (v : Int32) (M : ZM) : ZM := (fun a b c => if a = k ∧ b = i ∧ c = j then v else M.1 a b c, M.2)
def zsetL (k i j : Nat) (v : Int64) (M : ZM) : ZM := (M.1, fun a b c => if a = k ∧ b = i ∧ c = j then v else M.2 a b c)
theorem zfs_congr {G : ZG} {M M' : ZM} {k i : Nat} (h : M.1 k i = M'.1 k i) (fs : List ZF) : zfs G M k i fs = zfs G M' k i fs := by
  unfold zfs
  apply List.map_congr_left
  intro p _
  rcases p with ⟨f, j⟩
  cases f with
  | none => simp only [zfv, h]
  | some f => rcases f with ⟨a, b, c⟩; cases c <;> rfl
theorem zent_congr {G : ZG} {M M' : ZM} {k i : Nat} (h1 : M.1 k i = M'.1 k i) (h2 : M.2 k i = M'.2 k i) : zent G M k i = zent G M' k i := by
  unfold zent
  split
  · rw [zfs_congr h1]
  · unfold zarr
    split <;> simp only [h1, h2]
theorem zset_row {k i j : Nat} {v : Int32} {M : ZM} : (zset k i j v M).1 k i = upd (M.1 k i) j v := by
  funext c
  simp [zset, upd]
theorem zsetL_row {k i j : Nat} {v : Int64} {M : ZM} : (zsetL k i j v M).2 k i = vp_updL (M.2 k i) j v := by
  funext c
  simp [zsetL, vp_updL]
theorem zset_off {k i j a b : Nat} {v : Int32} {M : ZM} (h : ¬ (a = k ∧ b = i)) : (zset k i j v M).1 a b = M.1 a b := by
  funext c
  simp only [zset]
  rw [if_neg (fun q => h ⟨q.1, q.2.1⟩)]
theorem zsetL_off {k i j a b : Nat} {v : Int64} {M : ZM} (h : ¬ (a = k ∧ b = i)) : (zsetL k i j v M).2 a b = M.2 a b := by
  funext c
  simp only [zsetL]
  rw [if_neg (fun q => h ⟨q.1, q.2.1⟩)]
theorem zws_set {G : ZG} {M M' : ZM} {k i q0 : Nat} {e' : va_E} (hq : zcells[q0]? = some (k, i)) (h1 : ∀ a b, ¬ (a = k ∧ b = i) → M.1 a b = M'.1 a b ∧ M.2 a b = M'.2 a b) (he : zent G M' k i = e') : (zws G M).set q0 (ga G k i, e') = zws G M' := by
  apply List.ext_getElem?
  intro n
  rw [List.getElem?_set]
  split
  · rename_i hn
    subst hn
    obtain ⟨hlt, -⟩ := List.getElem?_eq_some_iff.mp hq
    unfold zws
    rw [if_pos (by simpa using hlt), List.getElem?_map, hq]
    simp only [Option.map_some, he]
  · rename_i hn
    unfold zws
    rw [List.getElem?_map, List.getElem?_map]
    cases hc : zcells[n]? with
    | none => rfl
    | some c =>
      simp only [Option.map_some]
      have hne : ¬ (c.1 = k ∧ c.2 = i) := by
        intro hck
        apply hn
        exact zcells_inj hq (by rw [hc]; exact congrArg some (Prod.ext hck.1 hck.2))
      rw [zent_congr (h1 c.1 c.2 hne).1 (h1 c.1 c.2 hne).2]
/-! locals, sorted by their places -/
def lget : ZL → Nat → Option ZV
  | [], _ => none
  | q :: r, n => bif q.1 == n then some q.2 else lget r n
theorem lget_mem {l : ZL} {n : Nat} {v : ZV} (h : lget l n = some v) : (n, v) ∈ l := by
  induction l with
  | nil => simp [lget] at h
  | cons q r ih =>
    obtain ⟨a, b⟩ := q
    unfold lget at h
    cases hq : a == n with
    | true =>
      simp only [hq, cond_true, Option.some.injEq] at h
      rw [← h, ← beq_iff_eq.mp hq]
      exact List.mem_cons_self
    | false =>
      simp only [hq, cond_false] at h
      exact List.mem_cons_of_mem _ (ih h)
def lkp (n c : Nat) (q : Nat × ZV) : Bool := !(q.1 == n) && (!(c == 2 && q.1 == n + 1) && !(q.1 + 1 == n && zcat q.2 == 2))
def lflt (n c : Nat) : ZL → ZL
  | [] => []
  | q :: r => bif lkp n c q then q :: lflt n c r else lflt n c r
def lins (n : Nat) (v : ZV) : ZL → ZL
  | [] => [(n, v)]
  | q :: r => bif Nat.ble n q.1 then (n, v) :: q :: r else q :: lins n v r
def lput (n : Nat) (v : ZV) (l : ZL) : ZL := lins n v (lflt n (zcat v) l)
def zkeep (ks : List Nat) : ZL → ZL
  | [] => []
  | q :: r => bif ks.elem q.1 then q :: zkeep ks r else zkeep ks r
theorem lflt_mem {n c : Nat} {l : ZL} {q : Nat × ZV} (h : q ∈ lflt n c l) : q ∈ l ∧ lkp n c q = true := by
  induction l with
  | nil => simp [lflt] at h
  | cons a r ih =>
    unfold lflt at h
    cases hc : lkp n c a with
    | true =>
      rw [hc] at h
      simp only [cond_true, List.mem_cons] at h
      rcases h with h | h
      · subst h; exact ⟨List.mem_cons_self, hc⟩
      · exact ⟨List.mem_cons_of_mem _ (ih h).1, (ih h).2⟩
    | false =>
      rw [hc] at h
      simp only [cond_false] at h
      exact ⟨List.mem_cons_of_mem _ (ih h).1, (ih h).2⟩
theorem lins_mem {n : Nat} {v : ZV} {l : ZL} {q : Nat × ZV} (h : q ∈ lins n v l) : q = (n, v) ∨ q ∈ l := by
  induction l with
  | nil => simp [lins] at h; exact Or.inl h
  | cons a r ih =>
    unfold lins at h
    cases hc : Nat.ble n a.1 with
    | true =>
      rw [hc] at h
      simp only [cond_true, List.mem_cons] at h
      rcases h with h | h | h
      · exact Or.inl h
      · exact Or.inr (by rw [h]; exact List.mem_cons_self)
      · exact Or.inr (List.mem_cons_of_mem _ h)
    | false =>
      rw [hc] at h
      simp only [cond_false, List.mem_cons] at h
      rcases h with h | h
      · exact Or.inr (by rw [h]; exact List.mem_cons_self)
      · rcases ih h with h | h
        · exact Or.inl h
        · exact Or.inr (List.mem_cons_of_mem _ h)
theorem zkeep_mem {ks : List Nat} {l : ZL} {q : Nat × ZV} (h : q ∈ zkeep ks l) : q ∈ l := by
  induction l with
  | nil => simp [zkeep] at h
  | cons a r ih =>
    unfold zkeep at h
    cases hc : ks.elem a.1 with
    | true =>
      rw [hc] at h
      simp only [cond_true, List.mem_cons] at h
      rcases h with h | h
      · rw [h]; exact List.mem_cons_self
      · exact List.mem_cons_of_mem _ (ih h)
    | false =>
      rw [hc] at h
      simp only [cond_false] at h
      exact List.mem_cons_of_mem _ (ih h)
abbrev zlm (G : ZG) (l : ZL) : List (Nat × Value) := l.map fun q => (q.1, zc G q.2)
theorem lget_has {G : ZG} {ls : Array Slot} {nL n : Nat} {l : ZL} {v : ZV} (h : lv_has ls nL (zlm G l)) (hg : lget l n = some v) : ls[n]? = some (.val (zc G v)) :=
  h.2.2 (n, zc G v) (List.mem_map.mpr ⟨(n, v), lget_mem hg, rfl⟩)
theorem zkeep_has {G : ZG} {ls : Array Slot} {nL : Nat} {l l' : ZL} (h : lv_has ls nL (zlm G l)) (hs : ∀ q ∈ l', q ∈ l) : lv_has ls nL (zlm G l') := by
  refine ⟨h.1, h.2.1, fun q hq => ?_⟩
  obtain ⟨q', hq', rfl⟩ := List.mem_map.mp hq
  exact h.2.2 _ (List.mem_map.mpr ⟨q', hs q' hq', rfl⟩)
theorem lput_has1 {G : ZG} {ls : Array Slot} {nL n : Nat} {l : ZL} {v : ZV} (h : lv_has ls nL ((n, zc G v) :: (zlm G l).filter (fun q => !(q.1 == n) && !(q.1 + 1 == n && q.2.category == 2)))) : lv_has ls nL (zlm G (lput n v l)) := by
  refine ⟨h.1, h.2.1, fun q hq => h.2.2 q ?_⟩
  obtain ⟨q', hq', rfl⟩ := List.mem_map.mp hq
  rcases lins_mem hq' with h1 | h1
  · rw [h1]; exact List.mem_cons_self
  · obtain ⟨h2, h3⟩ := lflt_mem h1
    refine List.mem_cons_of_mem _ (List.mem_filter.mpr ⟨List.mem_map.mpr ⟨q', h2, rfl⟩, ?_⟩)
    simp only [lkp, Bool.and_eq_true] at h3
    simp only [Bool.and_eq_true, zcat_eq]
    exact ⟨h3.1, h3.2.2⟩
theorem lput_has2 {G : ZG} {ls : Array Slot} {nL n : Nat} {l : ZL} {x : Int64} (h : lv_has ls nL ((n, zc G (zl x)) :: (zlm G l).filter (fun q => !(q.1 == n) && (!(q.1 == n + 1) && !(q.1 + 1 == n && q.2.category == 2))))) : lv_has ls nL (zlm G (lput n (zl x) l)) := by
  refine ⟨h.1, h.2.1, fun q hq => h.2.2 q ?_⟩
  obtain ⟨q', hq', rfl⟩ := List.mem_map.mp hq
  rcases lins_mem hq' with h1 | h1
  · rw [h1]; exact List.mem_cons_self
  · obtain ⟨h2, h3⟩ := lflt_mem h1
    refine List.mem_cons_of_mem _ (List.mem_filter.mpr ⟨List.mem_map.mpr ⟨q', h2, rfl⟩, ?_⟩)
    simp only [lkp, zcat, Bool.and_eq_true, beq_self_eq_true, Bool.true_and] at h3
    simp only [Bool.and_eq_true, zcat_eq]
    exact ⟨h3.1, h3.2.1, h3.2.2⟩
/-! methods, their contracts, the walk's judgement -/
/-- name, code, locals, answer's type, arguments (the receiver apart), depth of its calls (11: the law) -/
abbrev ZI : Type := MethodName × (ByteArray × (Nat × (Option FieldType × (Nat × Nat))))
def iN (m : ZI) : MethodName := m.1
def iB (m : ZI) : ByteArray := m.2.1
def iL (m : ZI) : Nat := m.2.2.1
def iR (m : ZI) : Option FieldType := m.2.2.2.1
def iA (m : ZI) : Nat := m.2.2.2.2.1
def iD (m : ZI) : Nat := m.2.2.2.2.2
def zrm (m : ZI) : Room := { frames := iD m, cells := 0, slots := 0, locals := 39 * iD m }
def zR (m : ZI) : Room := bif iD m == 11 then room_1 else zrm m
def zC (m : ZI) : Nat := bif iD m == 11 then 600000 else 0
def zS (m : ZI) : Nat := bif iD m == 11 then 7302250 else 0
def zwm (m : ZI) : List Jvm.Cond := Jvm.Cond.code (iN m) (iB m) (iL m) (iR m) :: zTw
def zEnv (G : ZG) (U : State) (H : Heap) : Prop := va_K (gD G) zcls (ztys G) U ∧ va_Z "ThreeStrandMaps$SolutionList" "ROWS" "[J" (.ref (ga G 38 0)) (gA G) U H ∧ va_T .long (ga G 38 0) 31 (fun j => .long (zrows j)) (gA G) U H ∧ va_T .int (ga G 39 0) (gN G) (fun j => .int (gX G j)) (gA G) U H ∧ ∀ w ∈ znest, va_Nw w U
def zPc (G : ZG) (M : ZM) (av : List ZV) : Array Value → State → Prop := va_Pc (av.map (zc G)) (fun U => va_P (gD G) zcls (zws G M) U.heap ∧ zEnv G U U.heap)
def zQc (G : ZG) (Z : Option ZV → ZM → Prop) : Array Value → State → Outcome → State → Prop := fun _ st oc t => (∃ (r : Option ZV) (M' : ZM), oc = .returned (r.map (zc G)) ∧ Z r M' ∧ va_P (gD G) zcls (zws G M') t.heap) ∧ va_F (gA G) st t
def zZ (below : List Frame) (a : Array Value) (s : State) : State → Prop := fun t => ∃ o, t.status = .running ∧ Ended t below o ∧ lw_Q a s o t
def zQ (G : ZG) (m : ZI) (Z : Option ZV → ZM → Prop) (below : List Frame) (a : Array Value) (s : State) : State → Prop := bif iD m == 11 then zZ below a s else MQ below (zQc G Z) a s 0 0 (gA G)
/-- the contract of a method, from a memory M, with arguments av: it ends with an answer and a memory of which Z holds -/
def Ctr (n : Nat) (G : ZG) (mi : ZI) (av : List ZV) (M : ZM) (Z : Option ZV → ZM → Prop) : Prop :=
  if n = 0 then (zok G → Met (gl G) (iN mi) (zwm mi) (zrm mi) (zPc G M av) (zQc G Z) 0 0 (gA G)) else Ctr (n - 1) G mi av M Z
termination_by n
/-- from here in the method's body: it comes to an end of which Z holds -/
def V (n : Nat) (G : ZG) (mi : ZI) (Z : Option ZV → ZM → Prop) (pc : Nat) (l : ZL) (st : List ZV) (M : ZM) : Prop :=
  if n = 0 then (zok G → ∀ (p : Program) (e : Env) (s : State) (m : MethodId) (args : Array Value) (below : List Frame) (meth : Method) (c : Code) (H : Heap) (locs : List Loc) (ls : Array Slot),
    CallFix p m c (iB mi) (iL mi) s args zTw (iN mi).cls → meth.sig.returnType = iR mi → meth.locks = false → (iD mi = 11 → ∀ q, gA G q → s.heap.size ≤ q) → zEnv G s s.heap → va_P (gD G) zcls (zws G M) H → va_S (gA G) s.heap H locs → lv_has ls (iL mi) (zlm G l) →
    W p (gl G) e (zR mi) s m args below meth c H locs (zC mi) (zS mi) (zQ G mi Z below args s) (F0 m pc ls (st.map (zc G)))) else V (n - 1) G mi Z pc l st M
termination_by n
theorem Ctr_eq (G : ZG) (mi : ZI) (av : List ZV) (M : ZM) (Z : Option ZV → ZM → Prop) : Ctr 0 G mi av M Z = (zok G → Met (gl G) (iN mi) (zwm mi) (zrm mi) (zPc G M av) (zQc G Z) 0 0 (gA G)) := by
  rw [Ctr]; rfl
theorem V_eq (G : ZG) (mi : ZI) (Z : Option ZV → ZM → Prop) (pc : Nat) (l : ZL) (st : List ZV) (M : ZM) : V 0 G mi Z pc l st M = (zok G → ∀ (p : Program) (e : Env) (s : State) (m : MethodId) (args : Array Value) (below : List Frame) (meth : Method) (c : Code) (H : Heap) (locs : List Loc) (ls : Array Slot),
    CallFix p m c (iB mi) (iL mi) s args zTw (iN mi).cls → meth.sig.returnType = iR mi → meth.locks = false → (iD mi = 11 → ∀ q, gA G q → s.heap.size ≤ q) → zEnv G s s.heap → va_P (gD G) zcls (zws G M) H → va_S (gA G) s.heap H locs → lv_has ls (iL mi) (zlm G l) →
    W p (gl G) e (zR mi) s m args below meth c H locs (zC mi) (zS mi) (zQ G mi Z below args s) (F0 m pc ls (st.map (zc G)))) := by
  rw [V]; rfl
section
variable {G : ZG} {mi : ZI} {Z : Option ZV → ZM → Prop} {pc : Nat} {l : ZL} {st : List ZV} {M : ZM}
set_option maxHeartbeats 1000000 in
theorem z_iconst {n : Int} {v : Int32} (hd : decode (iB mi) pc = .ok (.iconst n, 1)) (hv : Int32.ofInt n = v) (hk : V 0 G mi Z (pc + 1) l (zi v :: st) M) : V 0 G mi Z pc l st M := by
  rw [V_eq] at hk ⊢; intro hok p e s m args below meth c H locs ls hf hr hlk hfr hE hP hS hl
  exact lv_iconst hf.1 hf.2.1 hd hv (hk hok p e s m args below meth c H locs ls hf hr hlk hfr hE hP hS hl)
set_option maxHeartbeats 1000000 in
theorem z_bipush {n : Int} {v : Int32} (hd : decode (iB mi) pc = .ok (.bipush n, 2)) (hv : (Int8.ofInt n).toInt32 = v) (hk : V 0 G mi Z (pc + 2) l (zi v :: st) M) : V 0 G mi Z pc l st M := by
  rw [V_eq] at hk ⊢; intro hok p e s m args below meth c H locs ls hf hr hlk hfr hE hP hS hl
  exact lv_bipush hf.1 hf.2.1 hd hv (hk hok p e s m args below meth c H locs ls hf hr hlk hfr hE hP hS hl)
set_option maxHeartbeats 1000000 in
theorem z_sipush {n : Int} {v : Int32} (hd : decode (iB mi) pc = .ok (.sipush n, 3)) (hv : (Int16.ofInt n).toInt32 = v) (hk : V 0 G mi Z (pc + 3) l (zi v :: st) M) : V 0 G mi Z pc l st M := by
  rw [V_eq] at hk ⊢; intro hok p e s m args below meth c H locs ls hf hr hlk hfr hE hP hS hl
  exact lv_sipush hf.1 hf.2.1 hd hv (hk hok p e s m args below meth c H locs ls hf hr hlk hfr hE hP hS hl)
set_option maxHeartbeats 1000000 in
theorem z_lconst {n : Fin 2} {v : Int64} (hd : decode (iB mi) pc = .ok (.lconst n, 1)) (hv : Int64.ofNat (n : Nat) = v) (hk : V 0 G mi Z (pc + 1) l (zl v :: st) M) : V 0 G mi Z pc l st M := by
  rw [V_eq] at hk ⊢; intro hok p e s m args below meth c H locs ls hf hr hlk hfr hE hP hS hl
  exact lv_lconst hf.1 hf.2.1 hd hv (hk hok p e s m args below meth c H locs ls hf hr hlk hfr hE hP hS hl)
set_option maxHeartbeats 1000000 in
theorem z_ldc {n : Nat} {v : Int32} (hd : decode (iB mi) pc = .ok (.ldc n, 2)) (hw : Jvm.Cond.constant (iN mi).cls n v ∈ zTw) (hk : V 0 G mi Z (pc + 2) l (zi v :: st) M) : V 0 G mi Z pc l st M := by
  rw [V_eq] at hk ⊢; intro hok p e s m args below meth c H locs ls hf hr hlk hfr hE hP hS hl
  exact lv_ldc hf.1 hf.2.1 hf.2.2.2.1 (hf.2.2.2.2 _ hw) hd (hk hok p e s m args below meth c H locs ls hf hr hlk hfr hE hP hS hl)
set_option maxHeartbeats 1000000 in
theorem z_ldc2_w {n : Nat} {v : Int64} (hd : decode (iB mi) pc = .ok (.ldc2_w n, 3)) (hw : Jvm.Cond.constantLong (iN mi).cls n v ∈ zTw) (hk : V 0 G mi Z (pc + 3) l (zl v :: st) M) : V 0 G mi Z pc l st M := by
  rw [V_eq] at hk ⊢; intro hok p e s m args below meth c H locs ls hf hr hlk hfr hE hP hS hl
  exact lv_ldc2 hf.1 hf.2.1 hf.2.2.2.1 (hf.2.2.2.2 _ hw) hd (hk hok p e s m args below meth c H locs ls hf hr hlk hfr hE hP hS hl)
set_option maxHeartbeats 1000000 in
theorem z_iload {n : Nat} {x : Int32} (hd : decode (iB mi) pc = .ok (.iload n, 2)) (hg : lget l n = some (zi x)) (hk : V 0 G mi Z (pc + 2) l (zi x :: st) M) : V 0 G mi Z pc l st M := by
  rw [V_eq] at hk ⊢; intro hok p e s m args below meth c H locs ls hf hr hlk hfr hE hP hS hl
  exact lv_iload hf.1 hf.2.1 hd (lget_has hl hg) (hk hok p e s m args below meth c H locs ls hf hr hlk hfr hE hP hS hl)
set_option maxHeartbeats 1000000 in
theorem z_iload_n {n : Fin 4} {x : Int32} (hd : decode (iB mi) pc = .ok (.iload_n n, 1)) (hg : lget l n.val = some (zi x)) (hk : V 0 G mi Z (pc + 1) l (zi x :: st) M) : V 0 G mi Z pc l st M := by
  rw [V_eq] at hk ⊢; intro hok p e s m args below meth c H locs ls hf hr hlk hfr hE hP hS hl
  exact lv_iload_n hf.1 hf.2.1 hd rfl (lget_has hl hg) (hk hok p e s m args below meth c H locs ls hf hr hlk hfr hE hP hS hl)
set_option maxHeartbeats 1000000 in
theorem z_lload {n : Nat} {x : Int64} (hd : decode (iB mi) pc = .ok (.lload n, 2)) (hg : lget l n = some (zl x)) (hk : V 0 G mi Z (pc + 2) l (zl x :: st) M) : V 0 G mi Z pc l st M := by
  rw [V_eq] at hk ⊢; intro hok p e s m args below meth c H locs ls hf hr hlk hfr hE hP hS hl
  exact lv_lload hf.1 hf.2.1 hd (lget_has hl hg) (hk hok p e s m args below meth c H locs ls hf hr hlk hfr hE hP hS hl)
set_option maxHeartbeats 1000000 in
theorem z_lload_n {n : Fin 4} {x : Int64} (hd : decode (iB mi) pc = .ok (.lload_n n, 1)) (hg : lget l n.val = some (zl x)) (hk : V 0 G mi Z (pc + 1) l (zl x :: st) M) : V 0 G mi Z pc l st M := by
  rw [V_eq] at hk ⊢; intro hok p e s m args below meth c H locs ls hf hr hlk hfr hE hP hS hl
  exact lv_lload_n hf.1 hf.2.1 hd rfl (lget_has hl hg) (hk hok p e s m args below meth c H locs ls hf hr hlk hfr hE hP hS hl)
set_option maxHeartbeats 1000000 in
theorem z_aload {n a b : Nat} (hd : decode (iB mi) pc = .ok (.aload n, 2)) (hg : lget l n = some (zr a b)) (hk : V 0 G mi Z (pc + 2) l (zr a b :: st) M) : V 0 G mi Z pc l st M := by
  rw [V_eq] at hk ⊢; intro hok p e s m args below meth c H locs ls hf hr hlk hfr hE hP hS hl
  exact lv_aload hf.1 hf.2.1 hd (lget_has hl hg) (hk hok p e s m args below meth c H locs ls hf hr hlk hfr hE hP hS hl)
set_option maxHeartbeats 1000000 in
theorem z_aload_n {n : Fin 4} {a b : Nat} (hd : decode (iB mi) pc = .ok (.aload_n n, 1)) (hg : lget l n.val = some (zr a b)) (hk : V 0 G mi Z (pc + 1) l (zr a b :: st) M) : V 0 G mi Z pc l st M := by
  rw [V_eq] at hk ⊢; intro hok p e s m args below meth c H locs ls hf hr hlk hfr hE hP hS hl
  exact lv_aload_n hf.1 hf.2.1 hd rfl (lget_has hl hg) (hk hok p e s m args below meth c H locs ls hf hr hlk hfr hE hP hS hl)
set_option maxHeartbeats 1000000 in
theorem z_istore {n : Nat} {x : Int32} (hd : decode (iB mi) pc = .ok (.istore n, 2)) (hn : n < iL mi) (hk : V 0 G mi Z (pc + 2) (lput n (zi x) l) st M) : V 0 G mi Z pc l (zi x :: st) M := by
  rw [V_eq] at hk ⊢; intro hok p e s m args below meth c H locs ls0 hf hr hlk hfr hE hP hS hl
  exact lv_istore hf.1 hf.2.1 hd hl hn rfl (fun ls hl2 => hk hok p e s m args below meth c H locs ls hf hr hlk hfr hE hP hS (lput_has1 hl2))
set_option maxHeartbeats 1000000 in
theorem z_istore_n {n : Fin 4} {x : Int32} (hd : decode (iB mi) pc = .ok (.istore_n n, 1)) (hn : n.val < iL mi) (hk : V 0 G mi Z (pc + 1) (lput n.val (zi x) l) st M) : V 0 G mi Z pc l (zi x :: st) M := by
  rw [V_eq] at hk ⊢; intro hok p e s m args below meth c H locs ls0 hf hr hlk hfr hE hP hS hl
  exact lv_istore_n hf.1 hf.2.1 hd rfl hl hn rfl (fun ls hl2 => hk hok p e s m args below meth c H locs ls hf hr hlk hfr hE hP hS (lput_has1 hl2))
set_option maxHeartbeats 1000000 in
theorem z_lstore {n : Nat} {x : Int64} (hd : decode (iB mi) pc = .ok (.lstore n, 2)) (hn : n + 1 < iL mi) (hk : V 0 G mi Z (pc + 2) (lput n (zl x) l) st M) : V 0 G mi Z pc l (zl x :: st) M := by
  rw [V_eq] at hk ⊢; intro hok p e s m args below meth c H locs ls0 hf hr hlk hfr hE hP hS hl
  exact lv_lstore hf.1 hf.2.1 hd hl hn rfl (fun ls hl2 => hk hok p e s m args below meth c H locs ls hf hr hlk hfr hE hP hS (lput_has2 hl2))
set_option maxHeartbeats 1000000 in
theorem z_lstore_n {n : Fin 4} {x : Int64} (hd : decode (iB mi) pc = .ok (.lstore_n n, 1)) (hn : n.val + 1 < iL mi) (hk : V 0 G mi Z (pc + 1) (lput n.val (zl x) l) st M) : V 0 G mi Z pc l (zl x :: st) M := by
  rw [V_eq] at hk ⊢; intro hok p e s m args below meth c H locs ls0 hf hr hlk hfr hE hP hS hl
  exact lv_lstore_n hf.1 hf.2.1 hd rfl hl hn rfl (fun ls hl2 => hk hok p e s m args below meth c H locs ls hf hr hlk hfr hE hP hS (lput_has2 hl2))
set_option maxHeartbeats 1000000 in
theorem z_astore {n : Nat} {x y : Nat} (hd : decode (iB mi) pc = .ok (.astore n, 2)) (hn : n < iL mi) (hk : V 0 G mi Z (pc + 2) (lput n (zr x y) l) st M) : V 0 G mi Z pc l (zr x y :: st) M := by
  rw [V_eq] at hk ⊢; intro hok p e s m args below meth c H locs ls0 hf hr hlk hfr hE hP hS hl
  exact lv_astore hf.1 hf.2.1 hd hl hn rfl (fun ls hl2 => hk hok p e s m args below meth c H locs ls hf hr hlk hfr hE hP hS (lput_has1 hl2))
set_option maxHeartbeats 1000000 in
theorem z_astore_n {n : Fin 4} {x y : Nat} (hd : decode (iB mi) pc = .ok (.astore_n n, 1)) (hn : n.val < iL mi) (hk : V 0 G mi Z (pc + 1) (lput n.val (zr x y) l) st M) : V 0 G mi Z pc l (zr x y :: st) M := by
  rw [V_eq] at hk ⊢; intro hok p e s m args below meth c H locs ls0 hf hr hlk hfr hE hP hS hl
  exact lv_astore_n hf.1 hf.2.1 hd rfl hl hn rfl (fun ls hl2 => hk hok p e s m args below meth c H locs ls hf hr hlk hfr hE hP hS (lput_has1 hl2))
set_option maxHeartbeats 1000000 in
theorem z_iadd {x : Int32} {y : Int32} (hd : decode (iB mi) pc = .ok (.iadd, 1)) (hk : V 0 G mi Z (pc + 1) l (zi (x + y) :: st) M) : V 0 G mi Z pc l (zi y :: zi x :: st) M := by
  rw [V_eq] at hk ⊢; intro hok p e s m args below meth c H locs ls hf hr hlk hfr hE hP hS hl
  exact lv_iadd hf.1 hf.2.1 hd  (hk hok p e s m args below meth c H locs ls hf hr hlk hfr hE hP hS hl)
set_option maxHeartbeats 1000000 in
theorem z_isub {x : Int32} {y : Int32} (hd : decode (iB mi) pc = .ok (.isub, 1)) (hk : V 0 G mi Z (pc + 1) l (zi (x - y) :: st) M) : V 0 G mi Z pc l (zi y :: zi x :: st) M := by
  rw [V_eq] at hk ⊢; intro hok p e s m args below meth c H locs ls hf hr hlk hfr hE hP hS hl
  exact lv_isub hf.1 hf.2.1 hd  (hk hok p e s m args below meth c H locs ls hf hr hlk hfr hE hP hS hl)
set_option maxHeartbeats 1000000 in
theorem z_imul {x : Int32} {y : Int32} (hd : decode (iB mi) pc = .ok (.imul, 1)) (hk : V 0 G mi Z (pc + 1) l (zi (x * y) :: st) M) : V 0 G mi Z pc l (zi y :: zi x :: st) M := by
  rw [V_eq] at hk ⊢; intro hok p e s m args below meth c H locs ls hf hr hlk hfr hE hP hS hl
  exact lv_imul hf.1 hf.2.1 hd  (hk hok p e s m args below meth c H locs ls hf hr hlk hfr hE hP hS hl)
set_option maxHeartbeats 1000000 in
theorem z_iand {x : Int32} {y : Int32} (hd : decode (iB mi) pc = .ok (.iand, 1)) (hk : V 0 G mi Z (pc + 1) l (zi (x &&& y) :: st) M) : V 0 G mi Z pc l (zi y :: zi x :: st) M := by
  rw [V_eq] at hk ⊢; intro hok p e s m args below meth c H locs ls hf hr hlk hfr hE hP hS hl
  exact lv_iand hf.1 hf.2.1 hd  (hk hok p e s m args below meth c H locs ls hf hr hlk hfr hE hP hS hl)
set_option maxHeartbeats 1000000 in
theorem z_ior {x : Int32} {y : Int32} (hd : decode (iB mi) pc = .ok (.ior, 1)) (hk : V 0 G mi Z (pc + 1) l (zi (x ||| y) :: st) M) : V 0 G mi Z pc l (zi y :: zi x :: st) M := by
  rw [V_eq] at hk ⊢; intro hok p e s m args below meth c H locs ls hf hr hlk hfr hE hP hS hl
  exact lv_ior hf.1 hf.2.1 hd  (hk hok p e s m args below meth c H locs ls hf hr hlk hfr hE hP hS hl)
set_option maxHeartbeats 1000000 in
theorem z_ixor {x : Int32} {y : Int32} (hd : decode (iB mi) pc = .ok (.ixor, 1)) (hk : V 0 G mi Z (pc + 1) l (zi (x ^^^ y) :: st) M) : V 0 G mi Z pc l (zi y :: zi x :: st) M := by
  rw [V_eq] at hk ⊢; intro hok p e s m args below meth c H locs ls hf hr hlk hfr hE hP hS hl
  exact lv_ixor hf.1 hf.2.1 hd  (hk hok p e s m args below meth c H locs ls hf hr hlk hfr hE hP hS hl)
set_option maxHeartbeats 1000000 in
theorem z_ishl {x : Int32} {y : Int32} (hd : decode (iB mi) pc = .ok (.ishl, 1)) (hk : V 0 G mi Z (pc + 1) l (zi (x <<< (y &&& 31)) :: st) M) : V 0 G mi Z pc l (zi y :: zi x :: st) M := by
  rw [V_eq] at hk ⊢; intro hok p e s m args below meth c H locs ls hf hr hlk hfr hE hP hS hl
  exact lv_ishl hf.1 hf.2.1 hd  (hk hok p e s m args below meth c H locs ls hf hr hlk hfr hE hP hS hl)
set_option maxHeartbeats 1000000 in
theorem z_ishr {x : Int32} {y : Int32} (hd : decode (iB mi) pc = .ok (.ishr, 1)) (hk : V 0 G mi Z (pc + 1) l (zi (x >>> (y &&& 31)) :: st) M) : V 0 G mi Z pc l (zi y :: zi x :: st) M := by
  rw [V_eq] at hk ⊢; intro hok p e s m args below meth c H locs ls hf hr hlk hfr hE hP hS hl
  exact lv_ishr hf.1 hf.2.1 hd  (hk hok p e s m args below meth c H locs ls hf hr hlk hfr hE hP hS hl)
set_option maxHeartbeats 1000000 in
theorem z_ladd {x : Int64} {y : Int64} (hd : decode (iB mi) pc = .ok (.ladd, 1)) (hk : V 0 G mi Z (pc + 1) l (zl (x + y) :: st) M) : V 0 G mi Z pc l (zl y :: zl x :: st) M := by
  rw [V_eq] at hk ⊢; intro hok p e s m args below meth c H locs ls hf hr hlk hfr hE hP hS hl
  exact lv_ladd hf.1 hf.2.1 hd  (hk hok p e s m args below meth c H locs ls hf hr hlk hfr hE hP hS hl)
set_option maxHeartbeats 1000000 in
theorem z_lsub {x : Int64} {y : Int64} (hd : decode (iB mi) pc = .ok (.lsub, 1)) (hk : V 0 G mi Z (pc + 1) l (zl (x - y) :: st) M) : V 0 G mi Z pc l (zl y :: zl x :: st) M := by
  rw [V_eq] at hk ⊢; intro hok p e s m args below meth c H locs ls hf hr hlk hfr hE hP hS hl
  exact lv_lsub hf.1 hf.2.1 hd  (hk hok p e s m args below meth c H locs ls hf hr hlk hfr hE hP hS hl)
set_option maxHeartbeats 1000000 in
theorem z_land {x : Int64} {y : Int64} (hd : decode (iB mi) pc = .ok (.land, 1)) (hk : V 0 G mi Z (pc + 1) l (zl (x &&& y) :: st) M) : V 0 G mi Z pc l (zl y :: zl x :: st) M := by
  rw [V_eq] at hk ⊢; intro hok p e s m args below meth c H locs ls hf hr hlk hfr hE hP hS hl
  exact lv_land hf.1 hf.2.1 hd  (hk hok p e s m args below meth c H locs ls hf hr hlk hfr hE hP hS hl)
set_option maxHeartbeats 1000000 in
theorem z_lor {x : Int64} {y : Int64} (hd : decode (iB mi) pc = .ok (.lor, 1)) (hk : V 0 G mi Z (pc + 1) l (zl (x ||| y) :: st) M) : V 0 G mi Z pc l (zl y :: zl x :: st) M := by
  rw [V_eq] at hk ⊢; intro hok p e s m args below meth c H locs ls hf hr hlk hfr hE hP hS hl
  exact lv_lor hf.1 hf.2.1 hd  (hk hok p e s m args below meth c H locs ls hf hr hlk hfr hE hP hS hl)
set_option maxHeartbeats 1000000 in
theorem z_lxor {x : Int64} {y : Int64} (hd : decode (iB mi) pc = .ok (.lxor, 1)) (hk : V 0 G mi Z (pc + 1) l (zl (x ^^^ y) :: st) M) : V 0 G mi Z pc l (zl y :: zl x :: st) M := by
  rw [V_eq] at hk ⊢; intro hok p e s m args below meth c H locs ls hf hr hlk hfr hE hP hS hl
  exact lv_lxor hf.1 hf.2.1 hd  (hk hok p e s m args below meth c H locs ls hf hr hlk hfr hE hP hS hl)
set_option maxHeartbeats 1000000 in
theorem z_iushr {x : Int32} {y : Int32} (hd : decode (iB mi) pc = .ok (.iushr, 1)) (hk : V 0 G mi Z (pc + 1) l (zi ((x.toUInt32 >>> (y.toUInt32 &&& Int32.toUInt32 31)).toInt32) :: st) M) : V 0 G mi Z pc l (zi y :: zi x :: st) M := by
  rw [V_eq] at hk ⊢; intro hok p e s m args below meth c H locs ls hf hr hlk hfr hE hP hS hl
  exact lv_iushr hf.1 hf.2.1 hd rfl (hk hok p e s m args below meth c H locs ls hf hr hlk hfr hE hP hS hl)
set_option maxHeartbeats 1000000 in
theorem z_lshl {x : Int64} {y : Int32} (hd : decode (iB mi) pc = .ok (.lshl, 1)) (hk : V 0 G mi Z (pc + 1) l (zl (x <<< (y.toInt64 &&& 63)) :: st) M) : V 0 G mi Z pc l (zi y :: zl x :: st) M := by
  rw [V_eq] at hk ⊢; intro hok p e s m args below meth c H locs ls hf hr hlk hfr hE hP hS hl
  exact lv_lshl hf.1 hf.2.1 hd rfl (hk hok p e s m args below meth c H locs ls hf hr hlk hfr hE hP hS hl)
set_option maxHeartbeats 1000000 in
theorem z_lshr {x : Int64} {y : Int32} (hd : decode (iB mi) pc = .ok (.lshr, 1)) (hk : V 0 G mi Z (pc + 1) l (zl (x >>> (y.toInt64 &&& 63)) :: st) M) : V 0 G mi Z pc l (zi y :: zl x :: st) M := by
  rw [V_eq] at hk ⊢; intro hok p e s m args below meth c H locs ls hf hr hlk hfr hE hP hS hl
  exact lv_lshr hf.1 hf.2.1 hd rfl (hk hok p e s m args below meth c H locs ls hf hr hlk hfr hE hP hS hl)
set_option maxHeartbeats 1000000 in
theorem z_lushr {x : Int64} {y : Int32} (hd : decode (iB mi) pc = .ok (.lushr, 1)) (hk : V 0 G mi Z (pc + 1) l (zl ((x.toUInt64 >>> (y.toInt64.toUInt64 &&& Int64.toUInt64 63)).toInt64) :: st) M) : V 0 G mi Z pc l (zi y :: zl x :: st) M := by
  rw [V_eq] at hk ⊢; intro hok p e s m args below meth c H locs ls hf hr hlk hfr hE hP hS hl
  exact lv_lushr hf.1 hf.2.1 hd rfl (hk hok p e s m args below meth c H locs ls hf hr hlk hfr hE hP hS hl)
set_option maxHeartbeats 1000000 in
theorem z_idiv {x : Int32} {y : Int32} (hd : decode (iB mi) pc = .ok (.idiv, 1)) (hne : ¬ y = 0) (hk : V 0 G mi Z (pc + 1) l (zi (x / y) :: st) M) : V 0 G mi Z pc l (zi y :: zi x :: st) M := by
  rw [V_eq] at hk ⊢; intro hok p e s m args below meth c H locs ls hf hr hlk hfr hE hP hS hl
  exact lv_idiv hf.1 hf.2.1 hd hne (hk hok p e s m args below meth c H locs ls hf hr hlk hfr hE hP hS hl)
set_option maxHeartbeats 1000000 in
theorem z_lcmp {x : Int64} {y : Int64} (hd : decode (iB mi) pc = .ok (.lcmp, 1)) (hk : V 0 G mi Z (pc + 1) l (zi (lg_cmp x y) :: st) M) : V 0 G mi Z pc l (zl y :: zl x :: st) M := by
  rw [V_eq] at hk ⊢; intro hok p e s m args below meth c H locs ls hf hr hlk hfr hE hP hS hl
  exact W.lcmp hf.1 hf.2.1 hd  (hk hok p e s m args below meth c H locs ls hf hr hlk hfr hE hP hS hl)
set_option maxHeartbeats 1000000 in
theorem z_irem {x y : Int32} (hd : decode (iB mi) pc = .ok (.irem, 1)) (hne : ¬ y = 0) (hk : V 0 G mi Z (pc + 1) l (zi (x % y) :: st) M) : V 0 G mi Z pc l (zi y :: zi x :: st) M := by
  rw [← irem_eq_mod x y] at hk
  rw [V_eq] at hk ⊢; intro hok p e s m args below meth c H locs ls hf hr hlk hfr hE hP hS hl
  exact lv_irem hf.1 hf.2.1 hd hne (hk hok p e s m args below meth c H locs ls hf hr hlk hfr hE hP hS hl)
set_option maxHeartbeats 1000000 in
theorem z_i2l {x : Int32} (hd : decode (iB mi) pc = .ok (.i2l, 1)) (hk : V 0 G mi Z (pc + 1) l (zl x.toInt64 :: st) M) : V 0 G mi Z pc l (zi x :: st) M := by
  rw [V_eq] at hk ⊢; intro hok p e s m args below meth c H locs ls hf hr hlk hfr hE hP hS hl
  exact lv_i2l hf.1 hf.2.1 hd rfl (hk hok p e s m args below meth c H locs ls hf hr hlk hfr hE hP hS hl)
set_option maxHeartbeats 1000000 in
theorem z_l2i {x : Int64} (hd : decode (iB mi) pc = .ok (.l2i, 1)) (hk : V 0 G mi Z (pc + 1) l (zi x.toInt32 :: st) M) : V 0 G mi Z pc l (zl x :: st) M := by
  rw [V_eq] at hk ⊢; intro hok p e s m args below meth c H locs ls hf hr hlk hfr hE hP hS hl
  exact lv_l2i hf.1 hf.2.1 hd rfl (hk hok p e s m args below meth c H locs ls hf hr hlk hfr hE hP hS hl)
set_option maxHeartbeats 1000000 in
theorem z_if_eq {x : Int32} {off : Int} {tgt : Nat} (hd : decode (iB mi) pc = .ok (.ifCond .eq off, 3)) (ht : (pc : Int) + off = (tgt : Int)) (h1 : x = 0 → V 0 G mi Z tgt l st M) (h2 : ¬ (x = 0) → V 0 G mi Z (pc + 3) l st M) : V 0 G mi Z pc l (zi x :: st) M := by
  rw [V_eq]; intro hok p e s m args below meth c H locs ls hf hr hlk hfr hE hP hS hl
  refine lv_if_eq hf.1 hf.2.1 hd ht (fun h => ?_) (fun h => ?_)
  · have hk := h1 h
    rw [V_eq] at hk
    exact hk hok p e s m args below meth c H locs ls hf hr hlk hfr hE hP hS hl
  · have hk := h2 h
    rw [V_eq] at hk
    exact hk hok p e s m args below meth c H locs ls hf hr hlk hfr hE hP hS hl
set_option maxHeartbeats 1000000 in
theorem z_icmp_eq {x y : Int32} {off : Int} {tgt : Nat} (hd : decode (iB mi) pc = .ok (.if_icmp .eq off, 3)) (ht : (pc : Int) + off = (tgt : Int)) (h1 : x = y → V 0 G mi Z tgt l st M) (h2 : ¬ (x = y) → V 0 G mi Z (pc + 3) l st M) : V 0 G mi Z pc l (zi y :: zi x :: st) M := by
  rw [V_eq]; intro hok p e s m args below meth c H locs ls hf hr hlk hfr hE hP hS hl
  refine lv_icmp_eq hf.1 hf.2.1 hd ht (fun h => ?_) (fun h => ?_)
  · have hk := h1 h
    rw [V_eq] at hk
    exact hk hok p e s m args below meth c H locs ls hf hr hlk hfr hE hP hS hl
  · have hk := h2 h
    rw [V_eq] at hk
    exact hk hok p e s m args below meth c H locs ls hf hr hlk hfr hE hP hS hl
set_option maxHeartbeats 1000000 in
theorem z_if_ne {x : Int32} {off : Int} {tgt : Nat} (hd : decode (iB mi) pc = .ok (.ifCond .ne off, 3)) (ht : (pc : Int) + off = (tgt : Int)) (h1 : ¬ x = 0 → V 0 G mi Z tgt l st M) (h2 : ¬ (¬ x = 0) → V 0 G mi Z (pc + 3) l st M) : V 0 G mi Z pc l (zi x :: st) M := by
  rw [V_eq]; intro hok p e s m args below meth c H locs ls hf hr hlk hfr hE hP hS hl
  refine lv_if_ne hf.1 hf.2.1 hd ht (fun h => ?_) (fun h => ?_)
  · have hk := h1 h
    rw [V_eq] at hk
    exact hk hok p e s m args below meth c H locs ls hf hr hlk hfr hE hP hS hl
  · have hk := h2 (fun q => q h)
    rw [V_eq] at hk
    exact hk hok p e s m args below meth c H locs ls hf hr hlk hfr hE hP hS hl
set_option maxHeartbeats 1000000 in
theorem z_icmp_ne {x y : Int32} {off : Int} {tgt : Nat} (hd : decode (iB mi) pc = .ok (.if_icmp .ne off, 3)) (ht : (pc : Int) + off = (tgt : Int)) (h1 : ¬ x = y → V 0 G mi Z tgt l st M) (h2 : ¬ (¬ x = y) → V 0 G mi Z (pc + 3) l st M) : V 0 G mi Z pc l (zi y :: zi x :: st) M := by
  rw [V_eq]; intro hok p e s m args below meth c H locs ls hf hr hlk hfr hE hP hS hl
  refine lv_icmp_ne hf.1 hf.2.1 hd ht (fun h => ?_) (fun h => ?_)
  · have hk := h1 h
    rw [V_eq] at hk
    exact hk hok p e s m args below meth c H locs ls hf hr hlk hfr hE hP hS hl
  · have hk := h2 (fun q => q h)
    rw [V_eq] at hk
    exact hk hok p e s m args below meth c H locs ls hf hr hlk hfr hE hP hS hl
set_option maxHeartbeats 1000000 in
theorem z_if_lt {x : Int32} {off : Int} {tgt : Nat} (hd : decode (iB mi) pc = .ok (.ifCond .lt off, 3)) (ht : (pc : Int) + off = (tgt : Int)) (h1 : x < 0 → V 0 G mi Z tgt l st M) (h2 : ¬ (x < 0) → V 0 G mi Z (pc + 3) l st M) : V 0 G mi Z pc l (zi x :: st) M := by
  rw [V_eq]; intro hok p e s m args below meth c H locs ls hf hr hlk hfr hE hP hS hl
  refine lv_if_lt hf.1 hf.2.1 hd ht (fun h => ?_) (fun h => ?_)
  · have hk := h1 h
    rw [V_eq] at hk
    exact hk hok p e s m args below meth c H locs ls hf hr hlk hfr hE hP hS hl
  · have hk := h2 h
    rw [V_eq] at hk
    exact hk hok p e s m args below meth c H locs ls hf hr hlk hfr hE hP hS hl
set_option maxHeartbeats 1000000 in
theorem z_icmp_lt {x y : Int32} {off : Int} {tgt : Nat} (hd : decode (iB mi) pc = .ok (.if_icmp .lt off, 3)) (ht : (pc : Int) + off = (tgt : Int)) (h1 : x < y → V 0 G mi Z tgt l st M) (h2 : ¬ (x < y) → V 0 G mi Z (pc + 3) l st M) : V 0 G mi Z pc l (zi y :: zi x :: st) M := by
  rw [V_eq]; intro hok p e s m args below meth c H locs ls hf hr hlk hfr hE hP hS hl
  refine lv_icmp_lt hf.1 hf.2.1 hd ht (fun h => ?_) (fun h => ?_)
  · have hk := h1 h
    rw [V_eq] at hk
    exact hk hok p e s m args below meth c H locs ls hf hr hlk hfr hE hP hS hl
  · have hk := h2 h
    rw [V_eq] at hk
    exact hk hok p e s m args below meth c H locs ls hf hr hlk hfr hE hP hS hl
set_option maxHeartbeats 1000000 in
theorem z_if_ge {x : Int32} {off : Int} {tgt : Nat} (hd : decode (iB mi) pc = .ok (.ifCond .ge off, 3)) (ht : (pc : Int) + off = (tgt : Int)) (h1 : 0 ≤ x → V 0 G mi Z tgt l st M) (h2 : ¬ (0 ≤ x) → V 0 G mi Z (pc + 3) l st M) : V 0 G mi Z pc l (zi x :: st) M := by
  rw [V_eq]; intro hok p e s m args below meth c H locs ls hf hr hlk hfr hE hP hS hl
  refine lv_if_ge hf.1 hf.2.1 hd ht (fun h => ?_) (fun h => ?_)
  · have hk := h1 h
    rw [V_eq] at hk
    exact hk hok p e s m args below meth c H locs ls hf hr hlk hfr hE hP hS hl
  · have hk := h2 h
    rw [V_eq] at hk
    exact hk hok p e s m args below meth c H locs ls hf hr hlk hfr hE hP hS hl
set_option maxHeartbeats 1000000 in
theorem z_icmp_ge {x y : Int32} {off : Int} {tgt : Nat} (hd : decode (iB mi) pc = .ok (.if_icmp .ge off, 3)) (ht : (pc : Int) + off = (tgt : Int)) (h1 : y ≤ x → V 0 G mi Z tgt l st M) (h2 : ¬ (y ≤ x) → V 0 G mi Z (pc + 3) l st M) : V 0 G mi Z pc l (zi y :: zi x :: st) M := by
  rw [V_eq]; intro hok p e s m args below meth c H locs ls hf hr hlk hfr hE hP hS hl
  refine lv_icmp_ge hf.1 hf.2.1 hd ht (fun h => ?_) (fun h => ?_)
  · have hk := h1 h
    rw [V_eq] at hk
    exact hk hok p e s m args below meth c H locs ls hf hr hlk hfr hE hP hS hl
  · have hk := h2 h
    rw [V_eq] at hk
    exact hk hok p e s m args below meth c H locs ls hf hr hlk hfr hE hP hS hl
set_option maxHeartbeats 1000000 in
theorem z_if_gt {x : Int32} {off : Int} {tgt : Nat} (hd : decode (iB mi) pc = .ok (.ifCond .gt off, 3)) (ht : (pc : Int) + off = (tgt : Int)) (h1 : 0 < x → V 0 G mi Z tgt l st M) (h2 : ¬ (0 < x) → V 0 G mi Z (pc + 3) l st M) : V 0 G mi Z pc l (zi x :: st) M := by
  rw [V_eq]; intro hok p e s m args below meth c H locs ls hf hr hlk hfr hE hP hS hl
  refine lv_if_gt hf.1 hf.2.1 hd ht (fun h => ?_) (fun h => ?_)
  · have hk := h1 h
    rw [V_eq] at hk
    exact hk hok p e s m args below meth c H locs ls hf hr hlk hfr hE hP hS hl
  · have hk := h2 h
    rw [V_eq] at hk
    exact hk hok p e s m args below meth c H locs ls hf hr hlk hfr hE hP hS hl
set_option maxHeartbeats 1000000 in
theorem z_icmp_gt {x y : Int32} {off : Int} {tgt : Nat} (hd : decode (iB mi) pc = .ok (.if_icmp .gt off, 3)) (ht : (pc : Int) + off = (tgt : Int)) (h1 : y < x → V 0 G mi Z tgt l st M) (h2 : ¬ (y < x) → V 0 G mi Z (pc + 3) l st M) : V 0 G mi Z pc l (zi y :: zi x :: st) M := by
  rw [V_eq]; intro hok p e s m args below meth c H locs ls hf hr hlk hfr hE hP hS hl
  refine lv_icmp_gt hf.1 hf.2.1 hd ht (fun h => ?_) (fun h => ?_)
  · have hk := h1 h
    rw [V_eq] at hk
    exact hk hok p e s m args below meth c H locs ls hf hr hlk hfr hE hP hS hl
  · have hk := h2 h
    rw [V_eq] at hk
    exact hk hok p e s m args below meth c H locs ls hf hr hlk hfr hE hP hS hl
set_option maxHeartbeats 1000000 in
theorem z_if_le {x : Int32} {off : Int} {tgt : Nat} (hd : decode (iB mi) pc = .ok (.ifCond .le off, 3)) (ht : (pc : Int) + off = (tgt : Int)) (h1 : x ≤ 0 → V 0 G mi Z tgt l st M) (h2 : ¬ (x ≤ 0) → V 0 G mi Z (pc + 3) l st M) : V 0 G mi Z pc l (zi x :: st) M := by
  rw [V_eq]; intro hok p e s m args below meth c H locs ls hf hr hlk hfr hE hP hS hl
  refine lv_if_le hf.1 hf.2.1 hd ht (fun h => ?_) (fun h => ?_)
  · have hk := h1 h
    rw [V_eq] at hk
    exact hk hok p e s m args below meth c H locs ls hf hr hlk hfr hE hP hS hl
  · have hk := h2 h
    rw [V_eq] at hk
    exact hk hok p e s m args below meth c H locs ls hf hr hlk hfr hE hP hS hl
set_option maxHeartbeats 1000000 in
theorem z_icmp_le {x y : Int32} {off : Int} {tgt : Nat} (hd : decode (iB mi) pc = .ok (.if_icmp .le off, 3)) (ht : (pc : Int) + off = (tgt : Int)) (h1 : x ≤ y → V 0 G mi Z tgt l st M) (h2 : ¬ (x ≤ y) → V 0 G mi Z (pc + 3) l st M) : V 0 G mi Z pc l (zi y :: zi x :: st) M := by
  rw [V_eq]; intro hok p e s m args below meth c H locs ls hf hr hlk hfr hE hP hS hl
  refine lv_icmp_le hf.1 hf.2.1 hd ht (fun h => ?_) (fun h => ?_)
  · have hk := h1 h
    rw [V_eq] at hk
    exact hk hok p e s m args below meth c H locs ls hf hr hlk hfr hE hP hS hl
  · have hk := h2 h
    rw [V_eq] at hk
    exact hk hok p e s m args below meth c H locs ls hf hr hlk hfr hE hP hS hl
end
