/-! the start of the law: what stands before its first call -/
def zad (q v t b : Nat) (u : Nat → Nat) (k i : Nat) : Nat := (([[u 29, u 31, u 33, u 35, u 2, u 7, u 12, u 14, u 24, u 26], [u 30, u 32, u 34, u 36, u 3, u 8, u 13, u 15, u 25, u 27], [u 37, u 40, u 4], [u 38, u 41, u 5], [u 39, u 42, u 6], [q], [u 0], [u 1], [u 9], [u 10], [u 11], [u 16], [u 17], [u 18], [u 19], [u 20], [u 21], [u 22], [u 23], [u 28], [v], [], [], [], [], [], [], [], [], [], [], [], [], [], [], [], [], [], [t], [b]] : List (List Nat)).getD k []).getD i 0
def zst (l : Launch) (q v t b : Nat) (u : Nat → Nat) (D : va_G) (k : Nat → ClassId) (A : Nat → Prop) (n : Nat) (xs : Nat → Int32) : ZG := (l, zad q v t b u, D, k, A, n, xs)
def zpl : List Nat := [30, 32, 34, 36, 3, 8, 13, 15, 25, 27, 31, 33, 35, 37, 4, 9, 14, 16, 26, 28, 38, 41, 5, 39, 42, 6, 40, 43, 7, 0, 1, 2, 10, 11, 12, 17, 18, 19, 20, 21, 22, 23, 24, 29, 44]
theorem va_P_alter {D : va_G} {cl : List vw_C} {ws : va_W} {H : Heap} {i a : Nat} {x y : ClassId × vp_A} (h : va_P D cl ws H) (hi : ws[i]? = some (a, .inl x)) (he : vp_cell x.1 x.2 = vp_cell y.1 y.2) : va_P D cl (ws.set i (a, .inl y)) H := by
  intro k q hq
  by_cases hk : i = k
  · subst hk
    rw [List.getElem?_set, if_pos rfl, if_pos (List.getElem?_eq_some_iff.mp hi).1] at hq
    cases hq
    show H[a]? = some (vp_cell y.1 y.2)
    rw [← he]
    exact h i _ hi
  · rw [List.getElem?_set, if_neg hk] at hq
    exact h k q hq
theorem va_D_fst {A : Nat → Prop} {ws ws' : va_W} (h : ws'.map (fun q => q.1) = ws.map (fun q => q.1)) (hD : va_D A ws) : va_D A ws' := by
  have key : ∀ (i : Nat) (p : Nat × va_E), ws'[i]? = some p → ∃ p', ws[i]? = some p' ∧ p'.1 = p.1 := by
    intro i p hp
    have h1 : (ws'.map (fun q => q.1))[i]? = some p.1 := by rw [List.getElem?_map, hp]; rfl
    rw [h, List.getElem?_map] at h1
    cases h2 : ws[i]? with
    | none => rw [h2] at h1; cases h1
    | some p' => rw [h2] at h1; exact ⟨p', rfl, Option.some.inj h1⟩
  refine ⟨fun i j p q hi hj he => ?_, fun i p hi => ?_⟩
  · obtain ⟨p', h1, h2⟩ := key i p hi
    obtain ⟨q', h3, h4⟩ := key j q hj
    exact hD.1 i j p' q' h1 h3 (by rw [h2, h4, he])
  · obtain ⟨p', h1, h2⟩ := key i p hi
    rw [← h2]
    exact hD.2 i p' h1
theorem arrV_to {c : ClassId} {n : Nat} {f g : Nat → Value} (h : ∀ j, j < n → f j = g j) : arrV c n f = arrV c n g := by
  unfold arrV
  have e : (Array.ofFn (n := n) fun j => f j.val) = Array.ofFn (n := n) fun j => g j.val := congrArg _ (funext fun j => h j.val j.isLt)
  rw [e]
theorem vpq_to {c : ClassId} {n : Nat} {f g : Nat → Option Nat} (h : ∀ j, j < n → f j = g j) : vp_cell c (n, .inr (.inr (.inr (.inr f)))) = vp_cell c (n, .inr (.inr (.inr (.inr g)))) := by
  show arrV c n (fun j => va_rf (f j)) = arrV c n (fun j => va_rf (g j))
  exact arrV_to fun j hj => congrArg va_rf (h j hj)
theorem vpi_to {c : ClassId} {n : Nat} {f g : Nat → Int32} (h : ∀ j, j < n → f j = g j) : vp_cell c (n, .inl f) = vp_cell c (n, .inl g) := by
  show arrV c n (fun j => .int (f j)) = arrV c n (fun j => .int (g j))
  exact arrV_to fun j hj => congrArg Value.int (h j hj)
theorem st_mem : ∀ j, j < 31 → Jvm.Cond.eq (.elem (.static "ThreeStrandMaps$SolutionList" "ROWS" "[J") (.int (Int32.ofNat j))) (.long (zrows j)) ∈ flatC (Jvm.Cond.and given_1 narrow_1) := by decide +kernel
theorem st_rows {b : Nat} {s : State} {A : Nat → Prop} (h : (Jvm.Cond.and given_1 narrow_1).before #[Value.ref b] s = true) (hts : ∀ w ∈ zTw, w.before #[Value.ref b] s = true) (hl : (Jvm.Cond.laysStatic "ThreeStrandMaps$SolutionList" "ROWS" "[J").before #[Value.ref b] s = true) (hA : ∀ a : Nat, a < s.heap.size → ¬ A a) : ∃ t : Nat, va_Z "ThreeStrandMaps$SolutionList" "ROWS" "[J" (.ref t) A s s.heap ∧ va_T .long t 31 (fun j => .long (zrows j)) A s s.heap := by
  have hs := flat_of_before _ h
  obtain ⟨t, ht, hT⟩ := va_Tof (tm := .static "ThreeStrandMaps$SolutionList" "ROWS" "[J") (ty := .long) (N := 31) (f := fun j => .long (zrows j)) (A := A) (by decide) (hs _ (by decide +kernel)) (va_eqt (hs _ (by decide +kernel))) (fun j hj => va_eqtl (hs _ (st_mem j hj))) hA
  exact ⟨t, va_Zref hl (hts _ (zw_of 0 13 rfl rfl)) ht hA, hT⟩
theorem st_inst : ∀ q ∈ zcls, Jvm.Cond.instantiable q.1 q.2.2 ∈ lw_tbl := by decide +kernel
theorem st_D {args : Array Value} {s : State} (hts : ∀ w ∈ lw_tbl, w.before args s = true) : ∃ D : va_G, ∀ (c : Nat) (q : vw_C), zcls[c]? = some q → u_Kn s q.1 q.2.1 q.2.2 (D.1 c) (D.2 c) := by
  have h : ∀ c : Nat, ∃ d : ClassId × (Nat → Nat), ∀ q : vw_C, zcls[c]? = some q → u_Kn s q.1 q.2.1 q.2.2 d.1 d.2 := by
    intro c
    cases hc : zcls[c]? with
    | none => exact ⟨(0, fun _ => 0), fun q hq => by cases hq⟩
    | some q =>
      obtain ⟨cC, iS, hk⟩ := u_known hts (zuws0 q (List.mem_of_getElem? hc)) (hts _ (st_inst q (List.mem_of_getElem? hc)))
      exact ⟨(cC, iS), fun q hq => by cases hq; exact hk⟩
  exact ⟨(fun c => (Classical.choose (h c)).1, fun c => (Classical.choose (h c)).2), fun c q hq => Classical.choose_spec (h c) q hq⟩
theorem st_obj {args : Array Value} {s : State} {C : String} (h : (Jvm.Cond.arrayOver (.object C)).before args s = true) : ∃ c : ClassId, ArrOfT s c (.object C) ∧ va_RA s c (.object C) := by
  obtain ⟨comp, c, kA, f1, -, f2, f3, f4⟩ := Cond.arrayOver_spec h
  exact ⟨c, fun n z => ⟨fun k h => (by cases h), kA, f2, comp, f3⟩, kA, comp, f2, f3, f1, f4⟩
theorem st_int {args : Array Value} {s : State} (h : (Jvm.Cond.arrayClass .int).before args s = true) : ∃ c : ClassId, ArrOfT s c .int ∧ va_RA s c .int := by
  obtain ⟨cA, kA, comp, h1, h2, h3⟩ := Cond.arrayClass_spec h
  exact ⟨cA, fun n z => ⟨fun k h => (by cases h), kA, h2, comp, h3⟩, h1⟩
theorem st_long {args : Array Value} {s : State} (h : (Jvm.Cond.arrayClass .long).before args s = true) : ∃ c : ClassId, ArrOfT s c .long ∧ va_RA s c .long := by
  obtain ⟨cA, kA, comp, h1, h2, h3⟩ := Cond.arrayClass_spec h
  exact ⟨cA, fun n z => ⟨fun k h => (by cases h), kA, h2, comp, h3⟩, h1⟩
theorem st_bool {args : Array Value} {s : State} (h : (Jvm.Cond.arrayClass .boolean).before args s = true) : ∃ c : ClassId, ArrOfT s c .boolean ∧ va_RA s c .boolean := by
  obtain ⟨cA, kA, comp, h1, h2, h3⟩ := Cond.arrayClass_spec h
  exact ⟨cA, fun n z => ⟨fun k h => (by cases h), kA, h2, comp, h3⟩, h1⟩
theorem st_look {w : Jvm.Cond} (t n : Nat) (h : zlook t n = some w) : w ∈ lw_tbl := by
  unfold zlook at h
  split at h
  · rename_i l hl
    exact zTabs_mem _ (List.mem_of_getElem? hl) _ (znth_mem _ _ h)
  · cases h
theorem st_E {args : Array Value} {s : State} (hts : ∀ w ∈ lw_tbl, w.before args s = true) : ∃ (D : va_G) (k : Nat → ClassId), iE D k s := by
  obtain ⟨D, hD⟩ := st_D hts
  obtain ⟨k0, h0⟩ := st_int (hts _ (st_look 0 40 rfl))
  obtain ⟨k1, h1⟩ := st_long (hts _ (st_look 0 107 rfl))
  obtain ⟨k2, h2⟩ := st_bool (hts _ (st_look 0 56 rfl))
  obtain ⟨k3, h3⟩ := st_obj (hts _ (st_look 0 25 rfl))
  obtain ⟨k4, h4⟩ := st_obj (hts _ (st_look 0 27 rfl))
  refine ⟨D, fun i => ([k0, k1, k2, k3, k4] : List ClassId).getD i 0, ⟨hD, fun j q hj => ?_⟩, va_AO.of (hts _ (st_look 0 25 rfl)), va_AO.of (hts _ (st_look 0 27 rfl)), fun w hw => ?_⟩
  · match j, hj with
    | 0, hj => cases hj; exact h0
    | 1, hj => cases hj; exact h1
    | 2, hj => cases hj; exact h2
    | 3, hj => cases hj; exact h3
    | 4, hj => cases hj; exact h4
    | j + 5, hj => simp [itys] at hj
  · obtain ⟨a, i, x, h9, rfl⟩ := znest_form w hw
    exact va_Nw.of rfl (hts _ (List.mem_filter.mp hw).1)
theorem st_ok {G : ZG} {M : ZM} (hD : va_D (gA G) (zws G M)) : zok G := by
  have key : ∀ (i : Nat) (c : Nat × Nat), zcells[i]? = some c → (zws G M)[i]? = some (ga G c.1 c.2, zent G M c.1 c.2) := fun i c hc => by
    unfold zws
    rw [List.getElem?_map, hc]
    rfl
  refine ⟨fun c hc c' hc' he => ?_, fun c hc => ?_⟩
  · obtain ⟨i, hi⟩ := List.getElem?_of_mem hc
    obtain ⟨j, hj⟩ := List.getElem?_of_mem hc'
    have hij := hD.1 i j _ _ (key i c hi) (key j c' hj) he
    subst hij
    exact Option.some.inj (hi.symm.trans hj)
  · obtain ⟨i, hi⟩ := List.getElem?_of_mem hc
    exact hD.2 i _ (key i c hi)
theorem st_cells : zcells = [(0, 0), (0, 1), (0, 2), (0, 3), (0, 4), (0, 5), (0, 6), (0, 7), (0, 8), (0, 9), (1, 0), (1, 1), (1, 2), (1, 3), (1, 4), (1, 5), (1, 6), (1, 7), (1, 8), (1, 9), (2, 0), (2, 1), (2, 2), (3, 0), (3, 1), (3, 2), (4, 0), (4, 1), (4, 2), (5, 0), (6, 0), (7, 0), (8, 0), (9, 0), (10, 0), (11, 0), (12, 0), (13, 0), (14, 0), (15, 0), (16, 0), (17, 0), (18, 0), (19, 0), (20, 0)] := by decide +kernel
def st_PM (u : Nat → Nat) (k : Nat → ClassId) : ClassId × vp_A := (k 3, 4, .inr (.inr (.inr (.inr fun j => some (([u 29, u 31, u 33, u 35, u 2, u 7, u 12, u 14, u 24, u 26] : List Nat).getD j 0)))))
def st_BR (u : Nat → Nat) (k : Nat → ClassId) : ClassId × vp_A := (k 4, 2, .inr (.inr (.inr (.inr fun j => some (([u 37, u 40, u 4] : List Nat).getD j 0)))))
def st_W (q v : Nat) (u : Nat → Nat) (k : Nat → ClassId) : va_W := ((sh_T k q u ++ [(v, .inl (k 1, 48, .inr (.inl fun _ => 0)))] : va_W).set 1 (u 0, .inl (st_PM u k))).set 2 (u 1, .inl (st_BR u k))
set_option maxHeartbeats 4000000 in
set_option maxRecDepth 20000 in
theorem st_Wof {D : va_G} {k : Nat → ClassId} {q v : Nat} {u : Nat → Nat} {H : Heap} (h : va_P D zcls (sh_T k q u ++ [(v, .inl (k 1, 48, .inr (.inl fun _ => 0)))]) H) : va_P D zcls (st_W q v u k) H := by
  unfold st_W
  refine va_P_alter (x := (k 4, 2, .inr (.inr (.inr (.inr (va_up (va_up (fun _ => none) (Int32.toNatClampNeg 0) (some (u 37))) (Int32.toNatClampNeg 1) (some (u 40)))))))) (va_P_alter (x := (k 3, 4, .inr (.inr (.inr (.inr (va_up (va_up (va_up (va_up (fun _ => none) (Int32.toNatClampNeg 0) (some (u 29))) (Int32.toNatClampNeg 1) (some (u 31))) (Int32.toNatClampNeg 2) (some (u 33))) (Int32.toNatClampNeg 3) (some (u 35)))))))) h rfl ?_) rfl ?_
  · refine vpq_to fun j hj => ?_
    match j, hj with
    | 0, _ => rfl
    | 1, _ => rfl
    | 2, _ => rfl
    | 3, _ => rfl
    | j + 4, hj => omega
  · refine vpq_to fun j hj => ?_
    match j, hj with
    | 0, _ => rfl
    | 1, _ => rfl
    | j + 2, hj => omega
set_option maxHeartbeats 4000000 in
set_option maxRecDepth 20000 in
theorem st_P {l : Launch} {D : va_G} {k : Nat → ClassId} {A : Nat → Prop} {n : Nat} {xs : Nat → Int32} {q v t b : Nat} {u : Nat → Nat} {H : Heap} (h : va_P D zcls (sh_T k q u ++ [(v, .inl (k 1, 48, .inr (.inl fun _ => 0)))]) H) : va_P D zcls (zws (zst l q v t b u D k A n xs) M0) H := by
  refine (st_Wof h).sub zpl ?_
  unfold zws
  rw [st_cells]
  rfl
set_option maxHeartbeats 4000000 in
set_option maxRecDepth 20000 in
theorem st_DD {l : Launch} {D : va_G} {k : Nat → ClassId} {A B : Nat → Prop} {n : Nat} {xs : Nat → Int32} {q v t b : Nat} {u : Nat → Nat} (h : va_D B (sh_T k q u ++ [(v, .inl (k 1, 48, .inr (.inl fun _ => 0)))])) : va_D B (zws (zst l q v t b u D k A n xs) M0) := by
  refine va_D_fst (ws := zpl.filterMap fun i => (sh_T k q u ++ [(v, .inl (k 1, 48, .inr (.inl fun _ => 0)))])[i]?) ?_ (h.sub zpl (by decide +kernel) rfl)
  unfold zws
  rw [st_cells]
  rfl
theorem dw_0 : decode code 0 = .ok (.new 59, 3) := by decide +kernel
theorem dw_3 : decode code 3 = .ok (.dup, 1) := by decide +kernel
theorem dw_4 : decode code 4 = .ok (.invokespecial 149, 3) := by decide +kernel
theorem dw_7 : decode code 7 = .ok (.astore_n 1, 1) := by decide +kernel
theorem dw_8 : decode code 8 = .ok (.bipush 48, 2) := by decide +kernel
theorem dw_10 : decode code 10 = .ok (.newarray .long, 2) := by decide +kernel
theorem dw_12 : decode code 12 = .ok (.astore_n 2, 1) := by decide +kernel
set_option maxHeartbeats 4000000 in
set_option maxRecDepth 20000 in
/-- THE LAW, from its entry -/
theorem whole_start {p : Program} {e : Env} {s : State} {m : MethodId} {below : List Frame} {meth : Method} {c : Code} (l : Launch) (_hflags : l.flags = flags0) {b L : Nat} {xs : Nat → Int32} (hL : L ≤ 260) (C0 : lw_At p s m meth c b L xs) : W p l e room_1 s m #[Value.ref b] below meth c s.heap [] 0 0 (lw_Z below #[Value.ref b] s) (entryFrame m ([Value.ref b] : List Value).toArray 10) := by
  obtain ⟨hx, hb, hr, hml, hown, hts, hX, hbl, hlocks, hgv⟩ := id C0
  have htz : ∀ w ∈ zTw, w.before #[Value.ref b] s = true := fun w hw => hts w (List.mem_filter.mp hw).1
  obtain ⟨D, k, hE⟩ := st_E hts
  have hno : ∀ a : Nat, a < s.heap.size → ¬ (fun q : Nat => s.heap.size ≤ q) a := fun a ha => Nat.not_le.mpr ha
  obtain ⟨t, hZ, hT⟩ := st_rows (A := fun q : Nat => s.heap.size ≤ q) hgv htz (hts _ (st_look 2 30 rfl)) hno
  have hTi : va_T .int b L (fun j => .int (xs j)) (fun q : Nat => s.heap.size ≤ q) s s.heap := by
    obtain ⟨scr, h1, h2, h3, h4, h5⟩ := hX
    exact ⟨scr, h1, h2, h3, Nat.le_of_eq h4.symm, by rw [h4], h5, hno b hbl⟩
  have hl := lv_entry ([.ref b]) (n := 10) (Nat.le_of_ble_eq_true rfl)
  rw [lg_entry_eq]
  generalize (lg_sl ([.ref b]) ++ List.replicate (10 - (lg_sl ([.ref b])).length) Slot.unset).toArray = ls at hl ⊢
  have hl : lv_has ls 10 [(0, .ref b)] := hl
  have h : IS p m c code 10 s #[Value.ref b] R_law D k (fun q : Nat => s.heap.size ≤ q) s.heap [] [] := ⟨⟨hx, hb, hml, hown, htz⟩, hE, fun k q h => by simp at h, ⟨fun i j p q h => by simp at h, fun k q h => by simp at h⟩, va_S.rf, fun _ h => h⟩
  refine i_new (C := "ThreeStrandMaps") (T := zT2) (N := 10) (ci := 2) (fs := [.null, .null, .null, .null, .null, .null, .null, .null, .null, .null]) h rfl (zw_of 0 16 rfl rfl) (zw_of 0 17 rfl rfl) (zw_of 0 1 rfl rfl) fi_T (Nat.le_of_ble_eq_true rfl) (Nat.le_of_ble_eq_true rfl) dw_0 (fun q H h => ?_)
  refine lv_dup hx hb dw_3 rfl ?_
  refine i_call (ws := []) ci_T h hl.1 (zw_of 0 20 rfl rfl) (zw_of 0 1 rfl rfl) (zw_of 0 18 rfl rfl) (zw_of 0 19 rfl rfl) rfl (by decide +kernel) ⟨(Nat.le_of_ble_eq_true rfl), (Nat.le_of_ble_eq_true rfl)⟩ (Nat.le_of_ble_eq_true rfl) dw_4 ⟨(Nat.le_of_ble_eq_true rfl), (Nat.le_of_ble_eq_true rfl)⟩ (fun u H locs h => ?_)
  refine lv_astore_n (lv' := [(1, .ref q), (0, .ref b)]) hx hb dw_7 rfl hl (by decide) rfl (fun ls hl => ?_)
  refine lv_bipush (v := 48) hx hb dw_8 (by decide) ?_
  refine i_newL (N := 48) h (by decide) (by decide) (Nat.le_of_ble_eq_true rfl) (Nat.le_of_ble_eq_true rfl) (Nat.le_of_ble_eq_true rfl) dw_10 (fun v H h => ?_)
  refine lv_astore_n (lv' := [(2, .ref v), (1, .ref q), (0, .ref b)]) hx hb dw_12 rfl hl (by decide) rfl (fun ls hl => ?_)
  obtain ⟨hf, -, hP, hD, hS, -⟩ := h
  have hP2 := st_P (l := l) (A := fun q : Nat => s.heap.size ≤ q) (n := L) (xs := xs) (t := t) (b := b) (D := D) (k := k) (q := q) (v := v) (u := u) (H := H) hP
  have hD2 := st_DD (l := l) (A := fun q : Nat => s.heap.size ≤ q) (n := L) (xs := xs) (t := t) (b := b) (D := D) (k := k) (q := q) (v := v) (u := u) hD
  have hok : zok (zst l q v t b u D k (fun q : Nat => s.heap.size ≤ q) L xs) := st_ok hD2
  have hl2 : lv_has ls 10 (zlm (zst l q v t b u D k (fun q : Nat => s.heap.size ≤ q) L xs) [(0, zr 39 0), (1, zr 5 0), (2, zr 20 0)]) := lv_sub hl [2, 1, 0] rfl
  have hV := lw_first (G := zst l q v t b u D k (fun q : Nat => s.heap.size ≤ q) L xs) (Z := fun _ _ => True) (by show L < 2 ^ 31; omega) CS_0 LH_0
  rw [V_eq] at hV
  have hEnv : zEnv (zst l q v t b u D k (fun q : Nat => s.heap.size ≤ q) L xs) s s.heap := ⟨hE.1, hZ, hT, hTi, hE.2.2.2⟩
  refine W.widen (k := 600000) (n := 7302250) (Nat.le_of_ble_eq_true rfl) (Nat.le_of_ble_eq_true rfl) ?_
  exact hV hok p e s m #[Value.ref b] below meth c H _ ls hf hr hlocks (fun _ q hq => hq) hEnv hP2 hS hl2
