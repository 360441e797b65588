theorem zEnv_keep {G : ZG} {s U : State} {H H' : Heap} (hE : zEnv G s H) (hq : ∀ a : Nat, a < H.size → ¬ gA G a → H'[a]? = H[a]?) (hvm : s.vm.Alike U.vm) (hn : ∀ w ∈ znest, va_Nw w U) : zEnv G U H' :=
  ⟨va_K.moved hvm hE.1, (hE.2.1.moved hvm).kept hq, (hE.2.2.1.moved hvm).kept hq, (hE.2.2.2.1.moved hvm).kept hq, hn⟩
theorem znest_form : ∀ w ∈ znest, ∃ a i x h, w = .methodLinkNest a i x h := by
  intro w hw
  have h := (List.mem_filter.mp hw).2
  cases w <;> first | exact ⟨_, _, _, _, rfl⟩ | cases h
theorem znest_warm {s U : State} (hW : s.WarmedH U.vm) (h : ∀ w ∈ znest, va_Nw w s) : ∀ w ∈ znest, va_Nw w U := by
  intro w hw
  have h2 := h w hw
  obtain ⟨a, i, x, h9, rfl⟩ := znest_form w hw
  exact va_Nw.warmM hW h2
theorem zEnv_call {G : ZG} {s U : State} {H : Heap} {locs : List Loc} (hE : zEnv G s s.heap) (hS : va_S (gA G) s.heap H locs) (hU : U.heap = H) (hW : s.WarmedH U.vm) : zEnv G U U.heap := by
  rw [hU]
  exact zEnv_keep hE (fun a h1 h2 => hS.2.1 a h1 h2) hW.alike (znest_warm hW hE.2.2.2.2)
theorem zPc_blind (G : ZG) (M : ZM) (av : List ZV) : FrameBlind (zPc G M av) := fun a U g mk q => ⟨q.1, q.2.1, zEnv_keep (s := U) (U := U.calling g mk a) q.2.2 (fun _ _ _ => rfl) (Vm.Alike.refl U.vm) (fun w hw => by
  have h2 := q.2.2.2.2.2.2 w hw
  obtain ⟨a, i, x, h9, rfl⟩ := znest_form w hw
  exact va_Nw.same rfl (U := U.calling g mk _) rfl h2)⟩
section
variable {p : Program} {l : Launch} {e : Env} {R : Room} {s : State} {m : MethodId} {args : Array Value} {below : List Frame} {meth : Method} {c : Code} {H : Heap} {locs : List Loc} {cells slots : Nat} {Q : State → Prop}
theorem zcall {G : ZG} {Z : Option ZV → ZM → Prop} {pc : Nat} {ls : Array Slot} {st0 rest : List Value} {av : Array Value} {H0 : Heap} (hr : va_Run p l e R s m args below meth c H locs cells slots 0 0 (F0 m pc ls st0) rest (zQc G Z av) (gA G)) (hS : va_S (gA G) H0 H locs)
    (kk : ∀ (r : Option ZV) (M' : ZM) (H1 : Heap) (locs1 : List Loc), Z r M' → va_P (gD G) zcls (zws G M') H1 → va_S (gA G) H0 H1 locs1 → W p l e R s m args below meth c H1 locs1 cells slots Q (F0 m (pc + 3) ls ((r.map (zc G)).toList ++ rest))) : W p l e R s m args below meth c H locs cells slots Q (F0 m pc ls st0) := by
  intro T hT X
  obtain ⟨v, st₀, t, T', L, h0, X', hL, hT', hvm, hQ, hg⟩ := hr T hT X
  obtain ⟨⟨r, M', hv, hZ, hP⟩, hF1, hF2⟩ := hQ
  have hv2 : v = r.map (zc G) := Outcome.returned.inj hv
  subst hv2
  have hS1 : va_S (gA G) H0 t.heap (locs ++ L) := by
    refine ⟨Nat.le_trans hS.1 (by rw [← h0]; exact hF1), fun q h1 h2 => ?_, fun q hq => ?_⟩
    · rw [hF2 q (by rw [h0]; exact Nat.lt_of_lt_of_le h1 hS.1) h2, h0]
      exact hS.2.1 q h1 h2
    · rcases List.mem_append.mp hq with h | h
      · exact hS.2.2 q h
      · exact hL q h
  obtain ⟨t2, a1, b1⟩ := kk r M' t.heap (locs ++ L) hZ hP hS1 T' hT' X'
  exact ⟨t2, hg t2 a1, b1⟩
end
/-- a method's row of the tables: its code's word, its class initialised, how many arguments -/
def zmOk (cm : ZI) : Prop := Jvm.Cond.code (iN cm) (iB cm) (iL cm) (iR cm) ∈ zTw ∧ Jvm.Cond.initialized (iN cm).cls ∈ zTw ∧ ((iN cm).cls ≠ "java/lang/invoke/MethodHandle" ∧ (iN cm).cls ≠ "java/lang/invoke/VarHandle" ∧ (parseMethodDescriptor (iN cm).desc).map (fun d => d.parameters.length) = some (iA cm))
def zfit (mi cm : ZI) : Prop := iD cm + 1 ≤ (zR mi).frames ∧ 8 + (iL cm + 11) + 39 * iD cm ≤ (zR mi).locals
theorem zwm_good {cm : ZI} (h : zmOk cm) {w : Jvm.Cond} (hw : w ∈ zwm cm) : w ∈ zTw := by
  rcases List.mem_cons.mp hw with h1 | h1
  · rw [h1]; exact h.1
  · exact h1
theorem zgood {ws : List Jvm.Cond} (h : ∀ w ∈ ws, w ∈ zTw) : GoodIn zTw ws := fun w hw => ⟨h w hw, zTw_good w (h w hw)⟩
theorem zcs_le (mi : ZI) : zC mi + 0 ≤ (zR mi).cells ∧ zS mi + 0 ≤ (zR mi).slots := by
  unfold zC zS zR
  cases (iD mi == 11) <;> exact ⟨Nat.le_refl _, Nat.le_refl _⟩
section
variable {G : ZG} {mi : ZI} {Z : Option ZV → ZM → Prop} {pc : Nat} {l : ZL} {st : List ZV} {M : ZM}
set_option maxHeartbeats 1000000 in
theorem z_virt {n kd ix ci N : Nat} {fs : List ZF} {C : String} {T : u_T} {cm : ZI} {as : List ZV} (hd : decode (iB mi) pc = .ok (.invokevirtual n, 3)) (hm : zmOk cm) (hfit : zfit mi cm) (has : as.length = iA cm) (hst : zct st ≤ 8) (hk0 : zK kd = .inl (ci, fs)) (hv : zval kd ix) (hc : zcls[ci]? = some (C, T, N)) (hC : (iN cm).cls = C)
    (hw1 : Jvm.Cond.methodLink (iN mi).cls n (iN cm) ∈ zTw) (hw2 : Jvm.Cond.instanceMethod (iN cm) ∈ zTw) (hw3 : Jvm.Cond.selects C (iN cm) (iN cm) ∈ zTw)
    (hk : Ctr 0 G cm (zr kd ix :: as) M (fun r M' => V 0 G mi Z (pc + 3) l (r.toList ++ st) M')) : V 0 G mi Z pc l (as.reverse ++ zr kd ix :: st) M := by
  rw [V_eq]
  rw [Ctr_eq] at hk
  intro hok p e s m args below meth c H locs ls hf hr hlk hfr hE hP hS hl
  obtain ⟨q0, hq0, hq1⟩ := zws_at (G := G) hv
  have he := hq1 M
  rw [zent_obj hk0] at he
  have hT : GoodIn zTw (wsV (iN mi).cls n C (iN cm) (zwm cm)) := zgood (fun w hw => by
    unfold wsV at hw
    simp only [List.cons_append, List.nil_append, List.mem_cons] at hw
    rcases hw with rfl | rfl | rfl | rfl | hw
    · exact hw1
    · exact hw2
    · exact hw3
    · rw [← hC]; exact hm.2.1
    · exact zwm_good hm hw)
  refine zcall (Z := fun r M' => V 0 G mi Z (pc + 3) l (r.toList ++ st) M') (rest := st.map (zc G)) (va_runV (As := as.map (zc G)) (rest := st.map (zc G)) hf (hk hok) (cwV (iA cm) hf.2.2.2.2 hT rfl rfl rfl ⟨hC, hm.2.2.1, hm.2.2.2.1, hm.2.2.2.2⟩ hfit) ⟨zPc_blind G M _, va_recv hE.1 hP hc he, fun U hU hW => ⟨rfl, by rw [hU]; exact hP, zEnv_call hE hS hU hW⟩⟩ rfl (by rw [List.length_map]; exact has) hl.1 (by simp [List.map_append, List.map_reverse, zc]) (lv_room (by rw [zct_eq]; exact hst)) hd (zcs_le mi)) hS (fun r M' H1 locs1 hZ hP1 hS1 => ?_)
  rw [V_eq] at hZ
  have h := hZ hok p e s m args below meth c H1 locs1 ls hf hr hlk hfr hE hP1 hS1 hl
  cases r with
  | none => exact h
  | some r => exact h
set_option maxHeartbeats 1000000 in
theorem z_stat {n : Nat} {cm : ZI} {as : List ZV} (hd : decode (iB mi) pc = .ok (.invokestatic n, 3)) (hm : zmOk cm) (hfit : zfit mi cm) (has : as.length = iA cm) (hst : zct st ≤ 8)
    (hw1 : Jvm.Cond.methodLink (iN mi).cls n (iN cm) ∈ zTw) (hw2 : Jvm.Cond.static (iN cm) ∈ zTw)
    (hk : Ctr 0 G cm as M (fun r M' => V 0 G mi Z (pc + 3) l (r.toList ++ st) M')) : V 0 G mi Z pc l (as.reverse ++ st) M := by
  rw [V_eq]
  rw [Ctr_eq] at hk
  intro hok p e s m args below meth c H locs ls hf hr hlk hfr hE hP hS hl
  have hT : GoodIn zTw (va_wsS (iN mi).cls n (iN cm) (zwm cm)) := zgood (fun w hw => by
    unfold va_wsS at hw
    simp only [List.cons_append, List.nil_append, List.mem_cons] at hw
    rcases hw with rfl | rfl | rfl | hw
    · exact hw1
    · exact hw2
    · exact hm.2.1
    · exact zwm_good hm hw)
  refine zcall (Z := fun r M' => V 0 G mi Z (pc + 3) l (r.toList ++ st) M') (rest := st.map (zc G)) (va_runS (As := as.map (zc G)) (rest := st.map (zc G)) hf (hk hok) (va_cwS (iA cm) hf.2.2.2.2 hT rfl rfl rfl hm.2.2 hfit) ⟨zPc_blind G M _, fun U hU hW => ⟨rfl, by rw [hU]; exact hP, zEnv_call hE hS hU hW⟩⟩ rfl (by rw [List.length_map]; exact has) hl.1 (by simp [List.map_append, List.map_reverse]) (lv_room (by rw [zct_eq]; exact hst)) hd (zcs_le mi)) hS (fun r M' H1 locs1 hZ hP1 hS1 => ?_)
  rw [V_eq] at hZ
  have h := hZ hok p e s m args below meth c H1 locs1 ls hf hr hlk hfr hE hP1 hS1 hl
  cases r with
  | none => exact h
  | some r => exact h
set_option maxHeartbeats 1000000 in
theorem z_nest {n : Nat} {cm : ZI} {host : String} {as : List ZV} (hd : decode (iB mi) pc = .ok (.invokestatic n, 3)) (hm : zmOk cm) (hfit : zfit mi cm) (has : as.length = iA cm) (hst : zct st ≤ 8)
    (hw1 : Jvm.Cond.methodLinkNest (iN mi).cls n (iN cm) host ∈ znest) (hw2 : Jvm.Cond.static (iN cm) ∈ zTw)
    (hk : Ctr 0 G cm as M (fun r M' => V 0 G mi Z (pc + 3) l (r.toList ++ st) M')) : V 0 G mi Z pc l (as.reverse ++ st) M := by
  rw [V_eq]
  rw [Ctr_eq] at hk
  intro hok p e s m args below meth c H locs ls hf hr hlk hfr hE hP hS hl
  have hT : GoodIn zTw (zwm cm) := zgood (fun w hw => zwm_good hm hw)
  refine zcall (Z := fun r M' => V 0 G mi Z (pc + 3) l (r.toList ++ st) M') (rest := st.map (zc G)) (va_runSN (As := as.map (zc G)) (rest := st.map (zc G)) hf (hk hok) ⟨va_cnB (iA cm) hf.2.2.2.2 hT rfl rfl rfl (hE.2.2.2.2 _ hw1) (hf.2.2.2.2 _ hm.2.1) hm.2.2 hfit, hf.2.2.2.2 _ hw2, trivial⟩ ⟨zPc_blind G M _, fun U hU hW => ⟨rfl, by rw [hU]; exact hP, zEnv_call hE hS hU hW⟩⟩ rfl (by rw [List.length_map]; exact has) hl.1 (by simp [List.map_append, List.map_reverse]) (lv_room (by rw [zct_eq]; exact hst)) hd (zcs_le mi)) hS (fun r M' H1 locs1 hZ hP1 hS1 => ?_)
  rw [V_eq] at hZ
  have h := hZ hok p e s m args below meth c H1 locs1 ls hf hr hlk hfr hE hP1 hS1 hl
  cases r with
  | none => exact h
  | some r => exact h
theorem zlaw_no (h : iD mi ≠ 11) : (iD mi == 11) = false := by simpa using h
set_option maxHeartbeats 1000000 in
theorem z_ireturn {x : Int32} (hd : decode (iB mi) pc = .ok (.ireturn, 1)) (hD : iD mi ≠ 11) (hR : iR mi = some .int) (hk : Z (some (zi x)) M) : V 0 G mi Z pc l [zi x] M := by
  rw [V_eq]
  intro hok p e s m args below meth c H locs ls hf hr hlk hfr hE hP hS hl
  simp only [zQ, zC, zS, zR, zlaw_no hD, cond_false]
  exact W.iret (v := x) hf.1 hf.2.1 (hr.trans hR) (fun t ht hW => ⟨⟨some (zi x), M, rfl, hk, by rw [ht]; exact hP⟩, hS.F ht⟩) hS.2.2 hd hlk
set_option maxHeartbeats 1000000 in
theorem z_zreturn {x : Int32} (hd : decode (iB mi) pc = .ok (.ireturn, 1)) (hD : iD mi ≠ 11) (hR : iR mi = some .boolean) (hx : x = 0 ∨ x = 1) (hk : Z (some (zi x)) M) : V 0 G mi Z pc l [zi x] M := by
  rw [V_eq]
  intro hok p e s m args below meth c H locs ls hf hr hlk hfr hE hP hS hl
  simp only [zQ, zC, zS, zR, zlaw_no hD, cond_false]
  exact W.zret (v := x) (ty := .boolean) hf.1 hf.2.1 (hr.trans hR) (by rcases hx with rfl | rfl <;> rfl) (fun t ht hW => ⟨⟨some (zi x), M, rfl, hk, by rw [ht]; exact hP⟩, hS.F ht⟩) hS.2.2 hd hlk
set_option maxHeartbeats 1000000 in
theorem z_lreturn {x : Int64} (hd : decode (iB mi) pc = .ok (.lreturn, 1)) (hD : iD mi ≠ 11) (hR : iR mi = some .long) (hk : Z (some (zl x)) M) : V 0 G mi Z pc l [zl x] M := by
  rw [V_eq]
  intro hok p e s m args below meth c H locs ls hf hr hlk hfr hE hP hS hl
  simp only [zQ, zC, zS, zR, zlaw_no hD, cond_false]
  exact W.lret (v := x) hf.1 hf.2.1 (hr.trans hR) (fun t ht hW => ⟨⟨some (zl x), M, rfl, hk, by rw [ht]; exact hP⟩, hS.F ht⟩) hS.2.2 hd hlk
set_option maxHeartbeats 1000000 in
theorem z_areturn {a b : Nat} {n : String} (hd : decode (iB mi) pc = .ok (.areturn, 1)) (hD : iD mi ≠ 11) (hR : iR mi = some (.object n)) (hk : Z (some (zr a b)) M) : V 0 G mi Z pc l [zr a b] M := by
  rw [V_eq]
  intro hok p e s m args below meth c H locs ls hf hr hlk hfr hE hP hS hl
  simp only [zQ, zC, zS, zR, zlaw_no hD, cond_false]
  exact W.aret (v := .ref (ga G a b)) hf.1 hf.2.1 (hr.trans hR) (Or.inl ⟨n, rfl⟩) (Or.inr ⟨_, rfl⟩) (fun t ht hW => ⟨⟨some (zr a b), M, rfl, hk, by rw [ht]; exact hP⟩, hS.F ht⟩) hS.2.2 hd hlk
set_option maxHeartbeats 1000000 in
theorem z_return (hd : decode (iB mi) pc = .ok (.return_, 1)) (hD : iD mi ≠ 11) (hR : iR mi = none) (hk : Z none M) : V 0 G mi Z pc l [] M := by
  rw [V_eq]
  intro hok p e s m args below meth c H locs ls hf hr hlk hfr hE hP hS hl
  simp only [zQ, zC, zS, zR, zlaw_no hD, cond_false]
  exact W.vret hf.1 hf.2.1 (hr.trans hR) (fun t ht hW => ⟨⟨none, M, rfl, hk, by rw [ht]; exact hP⟩, hS.F ht⟩) hS.2.2 hd hlk
end
theorem zlaw_end {p : Program} {l : Launch} {e : Env} {R : Room} {s : State} {m : MethodId} {args : Array Value} {below : List Frame} {meth : Method} {c : Code} {H : Heap} {cc : ByteArray} {ls : Array Slot} {pc : Nat} (hx : p.tables.exec = Jvm.exec) (hb : c.code = cc) (hr : meth.sig.returnType = some .boolean) (hlocks : meth.locks = false) (hdg : decode cc pc = .ok (.ireturn, 1)) : W p l e R s m args below meth c H [] 600000 7302250 (zZ below args s) (F0 m pc ls [.int 1]) := by
  intro T hT X
  obtain ⟨fs, hret, hrun, hended, hW, hframe⟩ := X.leave (v := some (.int 1)) (hlocks := hlocks) (fun h => by rw [hr] at h; cases h)
  have hmeth' : T.vm.method? m = some meth := X.method'
  refine ⟨T.setFrames fs, ?_, .returned (some (.int 1)), hrun, hended, rfl, ⟨_, rfl⟩, hW, hframe⟩
  jvm_step X.here [X.here.top, hx, hb, hdg, hmeth', hr, narrow_b1]
  (try refine ⟨rfl, ?_⟩); (try refine ⟨rfl, ?_⟩)
  first | (intro acts; rw [hret _ acts rfl rfl rfl]) | rw [hret _ _ rfl rfl rfl]
  exact Steps.refl _
set_option maxHeartbeats 1000000 in
theorem z_lawret {G : ZG} {mi : ZI} {Z : Option ZV → ZM → Prop} {pc : Nat} {l : ZL} {M : ZM} (hd : decode (iB mi) pc = .ok (.ireturn, 1)) (hD : iD mi = 11) (hR : iR mi = some .boolean) : V 0 G mi Z pc l [zi 1] M := by
  rw [V_eq]
  intro hok p e s m args below meth c H locs ls hf hr hlk hfr hE hP hS hl
  have h11 : (iD mi == 11) = true := by simpa using hD
  simp only [zQ, zC, zS, zR, h11, cond_true]
  exact va_forget (fun q hq => hfr hD _ (hS.2.2 q hq)) (zlaw_end hf.1 hf.2.1 (hr.trans hR) hlk hd)
theorem Ctr_mono {G : ZG} {cm : ZI} {av : List ZV} {M : ZM} {Z Z' : Option ZV → ZM → Prop} (h : Ctr 0 G cm av M Z) (hz : ∀ r M', Z r M' → Z' r M') : Ctr 0 G cm av M Z' := by
  rw [Ctr_eq] at *
  intro hok p e ha hc hk s m args below hf hap hpre hK
  obtain ⟨t, o, h1, h2, h3, ⟨⟨r, M', e1, e2, e3⟩, hF⟩, hL⟩ := h hok p e ha hc hk s m args below hf hap hpre hK
  exact ⟨t, o, h1, h2, h3, ⟨⟨r, M', e1, hz r M' e2, e3⟩, hF⟩, hL⟩
def zargs : Nat → List ZV → ZL
  | _, [] => []
  | n, v :: r => (n, v) :: zargs (match v with | .inr (.inl _) => n + 2 | _ => n + 1) r
theorem zargs_eq (G : ZG) (av : List ZV) : ∀ n, lv_args n (av.map (zc G)) = zlm G (zargs n av) := by
  induction av with
  | nil => intro n; rfl
  | cons v r ih =>
    intro n
    rcases v with x | x | x <;> exact congrArg _ (ih _)
theorem zlen_eq (G : ZG) (av : List ZV) : (lg_sl (av.map (zc G))).length = zct av := by
  induction av with
  | nil => rfl
  | cons v r ih =>
    have h : lg_sl ((v :: r).map (zc G)) = (if (zc G v).category = 2 then [.val (zc G v), .second] else [.val (zc G v)]) ++ lg_sl (r.map (zc G)) := rfl
    rw [h, List.length_append, ih]
    rcases v with x | x | x <;> rfl
set_option maxHeartbeats 1000000 in
theorem z_enter {G : ZG} {mi : ZI} {av : List ZV} {M : ZM} {Z : Option ZV → ZM → Prop} (hpl : plainName (iN mi).cls = true) (hD : iD mi ≠ 11) (hlen : zct av ≤ iL mi) (hk : V 0 G mi Z 0 (zargs 0 av) [] M) : Ctr 0 G mi av M Z := by
  rw [Ctr_eq]
  rw [V_eq] at hk
  intro hok
  refine Met.ofW (cc := iB mi) (maxL := iL mi) (ret := iR mi) hpl rfl ?_
  intro p e s m args below meth c s₁ B hml hv
  obtain ⟨rfl, hP, hE⟩ := hv
  have hts := atoms_spec (ws := zwm mi) B.pre
  have hown : s.vm.findClass (iN mi).cls = some m.cls := findClass_of_methodNamed B.named
  have hl := lv_entry (av.map (zc G)) (n := iL mi) (by rw [zlen_eq]; exact hlen)
  rw [zargs_eq] at hl
  have h := hk hok p e s m (av.map (zc G)).toArray below meth c s.heap [] _ ⟨B.exec, B.bytes, hml, hown, fun w hw => hts w (List.mem_cons_of_mem _ hw)⟩ B.returns B.notSynchronized (fun h => absurd h hD) hE hP va_S.rf hl
  simp only [zQ, zC, zS, zR, zlaw_no hD, cond_false] at h
  rw [lg_entry_eq]
  exact h
