/-! class and reference agree: what one answers, the other answers from the state that the first leaves -/
theorem RS_csm {M M' : ZM} {S : ZS} (h : RS M S) (q : csm M M') : RS M' S := by
  have e21 := q 21 0 (by decide)
  have e22 := q 22 0 (by decide)
  have e23 := q 23 0 (by decide)
  have e30 := q 30 0 (by decide)
  have e31 := q 31 0 (by decide)
  have e36 := q 36 0 (by decide)
  have e37 := q 37 0 (by decide)
  refine ⟨fun m hm => ?_, fun b hb => ?_, fun n h1 h4 => ?_⟩
  · have z := h.1 m hm
    unfold isRM at z ⊢
    rw [e21, e22, e23]
    exact z
  · have z := h.2.1 b hb
    unfold isRB at z ⊢
    rw [e36, e37]
    exact z
  · have z := h.2.2 n h1 h4
    unfold isRL at z ⊢
    rw [e30, e31]
    exact z
theorem CS_rsm {M M' : ZM} {S : ZS} (h : CS M S) (q : rsm M M') : CS M' S := CS_cst h ⟨fun b _ => ⟨q 0 b (by decide), q 1 b (by decide)⟩, fun b _ => ⟨q 2 b (by decide), q 3 b (by decide), q 4 b (by decide)⟩⟩
section
variable {G : ZG} {M : ZM} {Z : Option ZV → ZM → Prop} {S : ZS}
theorem ag_flip {to n : Nat} (hto : to < 2 ^ 32) (hn : n < 2 ^ 32) (hC : CS M S) (hR : RS M S) (h : ∀ v0 M', (∀ Zr : Option ZV → ZM → Prop, (∀ M'' S', CS M'' S' → RS M'' S' → Zr (some (zi v0)) M'') → Ctr 0 G mi_R_flip [zr 20 0, zi (nI to), zi (nI n)] M' Zr) → Z (some (zi v0)) M') : Ctr 0 G mi_T_flip [zr 5 0, zi (nI to), zi (nI n)] M Z := by
  refine c_flip hto hn hC (fun g1 => ?_) (fun g1 g2 => ?_) (fun g1 g2 g3 M1 k1 k2 => ?_)
  · refine h _ M (fun Zr hz => ?_)
    refine r_flip hto hn hR (fun e1 => ?_) (fun e1 e2 => ?_) (fun e1 e2 e3 M2 q1 q2 => ?_)
    · exact hz _ _ hC hR
    · exfalso
      first | omega | contradiction | (clear h hz hC hR; simp_all; done) | (clear h hz hC hR; simp_all; omega)
    · exfalso
      first | omega | contradiction | (clear h hz hC hR; simp_all; done) | (clear h hz hC hR; simp_all; omega)
  · refine h _ M (fun Zr hz => ?_)
    refine r_flip hto hn hR (fun e1 => ?_) (fun e1 e2 => ?_) (fun e1 e2 e3 M2 q1 q2 => ?_)
    · exfalso
      first | omega | contradiction | (clear h hz hC hR; simp_all; done) | (clear h hz hC hR; simp_all; omega)
    · exact hz _ _ hC hR
    · exfalso
      first | omega | contradiction | (clear h hz hC hR; simp_all; done) | (clear h hz hC hR; simp_all; omega)
  · refine h _ M1 (fun Zr hz => ?_)
    refine r_flip hto hn (RS_csm hR k2) (fun e1 => ?_) (fun e1 e2 => ?_) (fun e1 e2 e3 M2 q1 q2 => ?_)
    · exfalso
      first | omega | contradiction | (clear h hz hC hR; simp_all; done) | (clear h hz hC hR; simp_all; omega)
    · exfalso
      first | omega | contradiction | (clear h hz hC hR; simp_all; done) | (clear h hz hC hR; simp_all; omega)
    · exact hz _ _ (CS_rsm k1 q2) q1
theorem ag_twist {to n f g : Nat} (hto : to < 2 ^ 32) (hn : n < 2 ^ 32) (hf : f < 2 ^ 32) (hg : g < 2 ^ 32) (hC : CS M S) (hR : RS M S) (h : ∀ v0 M', (∀ Zr : Option ZV → ZM → Prop, (∀ M'' S', CS M'' S' → RS M'' S' → Zr (some (zi v0)) M'') → Ctr 0 G mi_R_twist [zr 20 0, zi (nI to), zi (nI n), zi (nI f), zi (nI g)] M' Zr) → Z (some (zi v0)) M') : Ctr 0 G mi_T_twist [zr 5 0, zi (nI to), zi (nI n), zi (nI f), zi (nI g)] M Z := by
  refine c_twist hto hn hf hg hC (fun g1 => ?_) (fun g1 g2 => ?_) (fun g1 g2 g3 g4 g5 M1 k1 k2 => ?_)
  · refine h _ M (fun Zr hz => ?_)
    refine r_twist hto hn hf hg hR (fun e1 => ?_) (fun e1 e2 => ?_) (fun e1 e2 e3 e4 e5 M2 q1 q2 => ?_)
    · exact hz _ _ hC hR
    · exfalso
      first | omega | contradiction | (clear h hz hC hR; simp_all; done) | (clear h hz hC hR; simp_all; omega)
    · exfalso
      first | omega | contradiction | (clear h hz hC hR; simp_all; done) | (clear h hz hC hR; simp_all; omega)
  · refine h _ M (fun Zr hz => ?_)
    refine r_twist hto hn hf hg hR (fun e1 => ?_) (fun e1 e2 => ?_) (fun e1 e2 e3 e4 e5 M2 q1 q2 => ?_)
    · exfalso
      first | omega | contradiction | (clear h hz hC hR; simp_all; done) | (clear h hz hC hR; simp_all; omega)
    · exact hz _ _ hC hR
    · exfalso
      first | omega | contradiction | (clear h hz hC hR; simp_all; done) | (clear h hz hC hR; simp_all; omega)
  · refine h _ M1 (fun Zr hz => ?_)
    refine r_twist hto hn hf hg (RS_csm hR k2) (fun e1 => ?_) (fun e1 e2 => ?_) (fun e1 e2 e3 e4 e5 M2 q1 q2 => ?_)
    · exfalso
      first | omega | contradiction | (clear h hz hC hR; simp_all; done) | (clear h hz hC hR; simp_all; omega)
    · exfalso
      first | omega | contradiction | (clear h hz hC hR; simp_all; done) | (clear h hz hC hR; simp_all; omega)
    · exact hz _ _ (CS_rsm k1 q2) q1
theorem ag_group {to k n : Nat} (hto : to < 2 ^ 32) (hk : k < 2 ^ 32) (hn : n < 2 ^ 32) (hC : CS M S) (hR : RS M S) (h : ∀ v0 M', (∀ Zr : Option ZV → ZM → Prop, (∀ M'' S', CS M'' S' → RS M'' S' → Zr (some (zi v0)) M'') → Ctr 0 G mi_R_group [zr 20 0, zi (nI to), zi (nI k), zi (nI n)] M' Zr) → Z (some (zi v0)) M') : Ctr 0 G mi_T_group [zr 5 0, zi (nI to), zi (nI k), zi (nI n)] M Z := by
  refine c_group hto hk hn hC (fun g1 => ?_) (fun g1 g2 => ?_) (fun g1 g2 M1 k1 k2 => ?_)
  · refine h _ M (fun Zr hz => ?_)
    refine r_group hto hk hn hR (fun e1 => ?_) (fun e1 e2 => ?_) (fun e1 e2 M2 q1 q2 => ?_)
    · exact hz _ _ hC hR
    · exfalso
      first | omega | contradiction | (clear h hz hC hR; simp_all; done) | (clear h hz hC hR; simp_all; omega)
    · exfalso
      first | omega | contradiction | (clear h hz hC hR; simp_all; done) | (clear h hz hC hR; simp_all; omega)
  · refine h _ M (fun Zr hz => ?_)
    refine r_group hto hk hn hR (fun e1 => ?_) (fun e1 e2 => ?_) (fun e1 e2 M2 q1 q2 => ?_)
    · exfalso
      first | omega | contradiction | (clear h hz hC hR; simp_all; done) | (clear h hz hC hR; simp_all; omega)
    · exact hz _ _ hC hR
    · exfalso
      first | omega | contradiction | (clear h hz hC hR; simp_all; done) | (clear h hz hC hR; simp_all; omega)
  · refine h _ M1 (fun Zr hz => ?_)
    refine r_group hto hk hn (RS_csm hR k2) (fun e1 => ?_) (fun e1 e2 => ?_) (fun e1 e2 M2 q1 q2 => ?_)
    · exfalso
      first | omega | contradiction | (clear h hz hC hR; simp_all; done) | (clear h hz hC hR; simp_all; omega)
    · exfalso
      first | omega | contradiction | (clear h hz hC hR; simp_all; done) | (clear h hz hC hR; simp_all; omega)
    · exact hz _ _ (CS_rsm k1 q2) q1
theorem ag_brace {to n u : Nat} (hto : to < 2 ^ 32) (hn : n < 2 ^ 32) (hu : u < 2 ^ 32) (hC : CS M S) (hR : RS M S) (h : ∀ v0 M', (∀ Zr : Option ZV → ZM → Prop, (∀ M'' S', CS M'' S' → RS M'' S' → Zr (some (zi v0)) M'') → Ctr 0 G mi_R_brace [zr 20 0, zi (nI to), zi (nI n), zi (nI u)] M' Zr) → Z (some (zi v0)) M') : Ctr 0 G mi_T_brace [zr 5 0, zi (nI to), zi (nI n), zi (nI u)] M Z := by
  refine c_brace hto hn hu hC (fun g1 => ?_) (fun g1 g2 => ?_) (fun g1 g2 g3 g4 g5 => ?_) (fun g1 g2 g3 g4 g5 M1 k1 k2 => ?_)
  · refine h _ M (fun Zr hz => ?_)
    refine r_brace hto hn hu hR (fun e1 => ?_) (fun e1 e2 => ?_) (fun e1 e2 e3 e4 e5 => ?_) (fun e1 e2 e3 e4 e5 M2 q1 q2 => ?_)
    · exact hz _ _ hC hR
    · exfalso
      first | omega | contradiction | (clear h hz hC hR; simp_all; done) | (clear h hz hC hR; simp_all; omega)
    · exfalso
      first | omega | contradiction | (clear h hz hC hR; simp_all; done) | (clear h hz hC hR; simp_all; omega)
    · exfalso
      first | omega | contradiction | (clear h hz hC hR; simp_all; done) | (clear h hz hC hR; simp_all; omega)
  · refine h _ M (fun Zr hz => ?_)
    refine r_brace hto hn hu hR (fun e1 => ?_) (fun e1 e2 => ?_) (fun e1 e2 e3 e4 e5 => ?_) (fun e1 e2 e3 e4 e5 M2 q1 q2 => ?_)
    · exfalso
      first | omega | contradiction | (clear h hz hC hR; simp_all; done) | (clear h hz hC hR; simp_all; omega)
    · exact hz _ _ hC hR
    · exfalso
      first | omega | contradiction | (clear h hz hC hR; simp_all; done) | (clear h hz hC hR; simp_all; omega)
    · exfalso
      first | omega | contradiction | (clear h hz hC hR; simp_all; done) | (clear h hz hC hR; simp_all; omega)
  · refine h _ M (fun Zr hz => ?_)
    refine r_brace hto hn hu hR (fun e1 => ?_) (fun e1 e2 => ?_) (fun e1 e2 e3 e4 e5 => ?_) (fun e1 e2 e3 e4 e5 M2 q1 q2 => ?_)
    · exfalso
      first | omega | contradiction | (clear h hz hC hR; simp_all; done) | (clear h hz hC hR; simp_all; omega)
    · exfalso
      first | omega | contradiction | (clear h hz hC hR; simp_all; done) | (clear h hz hC hR; simp_all; omega)
    · exact hz _ _ hC hR
    · exfalso
      first | omega | contradiction | (clear h hz hC hR; simp_all; done) | (clear h hz hC hR; simp_all; omega)
  · refine h _ M1 (fun Zr hz => ?_)
    refine r_brace hto hn hu (RS_csm hR k2) (fun e1 => ?_) (fun e1 e2 => ?_) (fun e1 e2 e3 e4 e5 => ?_) (fun e1 e2 e3 e4 e5 M2 q1 q2 => ?_)
    · exfalso
      first | omega | contradiction | (clear h hz hC hR; simp_all; done) | (clear h hz hC hR; simp_all; omega)
    · exfalso
      first | omega | contradiction | (clear h hz hC hR; simp_all; done) | (clear h hz hC hR; simp_all; omega)
    · exfalso
      first | omega | contradiction | (clear h hz hC hR; simp_all; done) | (clear h hz hC hR; simp_all; omega)
    · exact hz _ _ (CS_rsm k1 q2) q1
theorem ag_put {a x y u v : Nat} (ha : a < 2 ^ 32) (hx : x < 2 ^ 32) (hy : y < 2 ^ 32) (hu : u < 2 ^ 32) (hv : v < 2 ^ 32) (hC : CS M S) (hR : RS M S) (h : ∀ v0 M', (∀ Zr : Option ZV → ZM → Prop, (∀ M'' S', CS M'' S' → RS M'' S' → Zr (some (zi v0)) M'') → Ctr 0 G mi_R_put [zr 20 0, zi (nI a), zi (nI x), zi (nI y), zi (nI u), zi (nI v)] M' Zr) → Z (some (zi v0)) M') : Ctr 0 G mi_T_put [zr 5 0, zi (nI a), zi (nI x), zi (nI y), zi (nI u), zi (nI v)] M Z := by
  refine c_put ha hx hy hu hv hC (fun g1 => ?_) (fun g1 g2 g3 g4 M1 k1 k2 => ?_)
  · refine h _ M (fun Zr hz => ?_)
    refine r_put ha hx hy hu hv hR (fun e1 => ?_) (fun e1 e2 e3 e4 M2 q1 q2 => ?_)
    · exact hz _ _ hC hR
    · exfalso
      first | omega | contradiction | (clear h hz hC hR; simp_all; done) | (clear h hz hC hR; simp_all; omega)
  · refine h _ M1 (fun Zr hz => ?_)
    refine r_put ha hx hy hu hv (RS_csm hR k2) (fun e1 => ?_) (fun e1 e2 e3 e4 M2 q1 q2 => ?_)
    · exfalso
      first | omega | contradiction | (clear h hz hC hR; simp_all; done) | (clear h hz hC hR; simp_all; omega)
    · exact hz _ _ (CS_rsm k1 q2) q1
theorem ag_retract {a to : Nat} (ha : a < 2 ^ 32) (hto : to < 2 ^ 32) (hC : CS M S) (hR : RS M S) (h : ∀ v0 M', (∀ Zr : Option ZV → ZM → Prop, (∀ M'' S', CS M'' S' → RS M'' S' → Zr (some (zi v0)) M'') → Ctr 0 G mi_R_retract [zr 20 0, zi (nI a), zi (nI to)] M' Zr) → Z (some (zi v0)) M') : Ctr 0 G mi_T_retract [zr 5 0, zi (nI a), zi (nI to)] M Z := by
  refine c_retract ha hto hC (fun g1 => ?_) (fun g1 g2 M1 k1 k2 => ?_)
  · refine h _ M (fun Zr hz => ?_)
    refine r_retract ha hto hR (fun e1 => ?_) (fun e1 e2 M2 q1 q2 => ?_)
    · exact hz _ _ hC hR
    · exfalso
      first | omega | contradiction | (clear h hz hC hR; simp_all; done) | (clear h hz hC hR; simp_all; omega)
  · refine h _ M1 (fun Zr hz => ?_)
    refine r_retract ha hto (RS_csm hR k2) (fun e1 => ?_) (fun e1 e2 M2 q1 q2 => ?_)
    · exfalso
      first | omega | contradiction | (clear h hz hC hR; simp_all; done) | (clear h hz hC hR; simp_all; omega)
    · exact hz _ _ (CS_rsm k1 q2) q1
theorem ag_unite {a b to : Nat} (ha : a < 2 ^ 32) (hb : b < 2 ^ 32) (hto : to < 2 ^ 32) (hC : CS M S) (hR : RS M S) (h : ∀ v0 M', (∀ Zr : Option ZV → ZM → Prop, (∀ M'' S', CS M'' S' → RS M'' S' → Zr (some (zi v0)) M'') → Ctr 0 G mi_R_unite [zr 20 0, zi (nI a), zi (nI b), zi (nI to)] M' Zr) → Z (some (zi v0)) M') : Ctr 0 G mi_T_unite [zr 5 0, zi (nI a), zi (nI b), zi (nI to)] M Z := by
  refine c_unite ha hb hto hC (fun g1 => ?_) (fun g1 g2 g3 g4 => ?_) (fun g1 g2 g3 g4 M1 k1 k2 => ?_)
  · refine h _ M (fun Zr hz => ?_)
    refine r_unite ha hb hto hR (fun e1 => ?_) (fun e1 e2 e3 e4 => ?_) (fun e1 e2 e3 e4 M2 q1 q2 => ?_)
    · exact hz _ _ hC hR
    · exfalso
      first | omega | contradiction | (clear h hz hC hR; simp_all; done) | (clear h hz hC hR; simp_all; omega)
    · exfalso
      first | omega | contradiction | (clear h hz hC hR; simp_all; done) | (clear h hz hC hR; simp_all; omega)
  · refine h _ M (fun Zr hz => ?_)
    refine r_unite ha hb hto hR (fun e1 => ?_) (fun e1 e2 e3 e4 => ?_) (fun e1 e2 e3 e4 M2 q1 q2 => ?_)
    · exfalso
      first | omega | contradiction | (clear h hz hC hR; simp_all; done) | (clear h hz hC hR; simp_all; omega)
    · exact hz _ _ hC hR
    · exfalso
      first | omega | contradiction | (clear h hz hC hR; simp_all; done) | (clear h hz hC hR; simp_all; omega)
  · refine h _ M1 (fun Zr hz => ?_)
    refine r_unite ha hb hto (RS_csm hR k2) (fun e1 => ?_) (fun e1 e2 e3 e4 => ?_) (fun e1 e2 e3 e4 M2 q1 q2 => ?_)
    · exfalso
      first | omega | contradiction | (clear h hz hC hR; simp_all; done) | (clear h hz hC hR; simp_all; omega)
    · exfalso
      first | omega | contradiction | (clear h hz hC hR; simp_all; done) | (clear h hz hC hR; simp_all; omega)
    · exact hz _ _ (CS_rsm k1 q2) q1
theorem ag_pair {a b to : Nat} (ha : a < 2 ^ 32) (hb : b < 2 ^ 32) (hto : to < 2 ^ 32) (hC : CS M S) (hR : RS M S) (h : ∀ v0 M', (∀ Zr : Option ZV → ZM → Prop, (∀ M'' S', CS M'' S' → RS M'' S' → Zr (some (zi v0)) M'') → Ctr 0 G mi_R_pair [zr 20 0, zi (nI a), zi (nI b), zi (nI to)] M' Zr) → Z (some (zi v0)) M') : Ctr 0 G mi_T_pair [zr 5 0, zi (nI a), zi (nI b), zi (nI to)] M Z := by
  refine c_pair ha hb hto hC (fun g1 => ?_) (fun g1 g2 g3 g4 => ?_) (fun g1 g2 g3 g4 M1 k1 k2 => ?_)
  · refine h _ M (fun Zr hz => ?_)
    refine r_pair ha hb hto hR (fun e1 => ?_) (fun e1 e2 e3 e4 => ?_) (fun e1 e2 e3 e4 M2 q1 q2 => ?_)
    · exact hz _ _ hC hR
    · exfalso
      first | omega | contradiction | (clear h hz hC hR; simp_all; done) | (clear h hz hC hR; simp_all; omega)
    · exfalso
      first | omega | contradiction | (clear h hz hC hR; simp_all; done) | (clear h hz hC hR; simp_all; omega)
  · refine h _ M (fun Zr hz => ?_)
    refine r_pair ha hb hto hR (fun e1 => ?_) (fun e1 e2 e3 e4 => ?_) (fun e1 e2 e3 e4 M2 q1 q2 => ?_)
    · exfalso
      first | omega | contradiction | (clear h hz hC hR; simp_all; done) | (clear h hz hC hR; simp_all; omega)
    · exact hz _ _ hC hR
    · exfalso
      first | omega | contradiction | (clear h hz hC hR; simp_all; done) | (clear h hz hC hR; simp_all; omega)
  · refine h _ M1 (fun Zr hz => ?_)
    refine r_pair ha hb hto (RS_csm hR k2) (fun e1 => ?_) (fun e1 e2 e3 e4 => ?_) (fun e1 e2 e3 e4 M2 q1 q2 => ?_)
    · exfalso
      first | omega | contradiction | (clear h hz hC hR; simp_all; done) | (clear h hz hC hR; simp_all; omega)
    · exfalso
      first | omega | contradiction | (clear h hz hC hR; simp_all; done) | (clear h hz hC hR; simp_all; omega)
    · exact hz _ _ (CS_rsm k1 q2) q1
theorem ag_invert {a to : Nat} (ha : a < 2 ^ 32) (hto : to < 2 ^ 32) (hC : CS M S) (hR : RS M S) (h : ∀ v0 M', (∀ Zr : Option ZV → ZM → Prop, (∀ M'' S', CS M'' S' → RS M'' S' → Zr (some (zi v0)) M'') → Ctr 0 G mi_R_invert [zr 20 0, zi (nI a), zi (nI to)] M' Zr) → Z (some (zi v0)) M') : Ctr 0 G mi_T_invert [zr 5 0, zi (nI a), zi (nI to)] M Z := by
  refine c_invert ha hto hC (fun g1 => ?_) (fun g1 g2 g3 => ?_) (fun g1 g2 g3 M1 k1 k2 => ?_)
  · refine h _ M (fun Zr hz => ?_)
    refine r_invert ha hto hR (fun e1 => ?_) (fun e1 e2 e3 => ?_) (fun e1 e2 e3 M2 q1 q2 => ?_)
    · exact hz _ _ hC hR
    · exfalso
      first | omega | contradiction | (clear h hz hC hR; simp_all; done) | (clear h hz hC hR; simp_all; omega)
    · exfalso
      first | omega | contradiction | (clear h hz hC hR; simp_all; done) | (clear h hz hC hR; simp_all; omega)
  · refine h _ M (fun Zr hz => ?_)
    refine r_invert ha hto hR (fun e1 => ?_) (fun e1 e2 e3 => ?_) (fun e1 e2 e3 M2 q1 q2 => ?_)
    · exfalso
      first | omega | contradiction | (clear h hz hC hR; simp_all; done) | (clear h hz hC hR; simp_all; omega)
    · exact hz _ _ hC hR
    · exfalso
      first | omega | contradiction | (clear h hz hC hR; simp_all; done) | (clear h hz hC hR; simp_all; omega)
  · refine h _ M1 (fun Zr hz => ?_)
    refine r_invert ha hto (RS_csm hR k2) (fun e1 => ?_) (fun e1 e2 e3 => ?_) (fun e1 e2 e3 M2 q1 q2 => ?_)
    · exfalso
      first | omega | contradiction | (clear h hz hC hR; simp_all; done) | (clear h hz hC hR; simp_all; omega)
    · exfalso
      first | omega | contradiction | (clear h hz hC hR; simp_all; done) | (clear h hz hC hR; simp_all; omega)
    · exact hz _ _ (CS_rsm k1 q2) q1
theorem ag_mirror {a to : Nat} (ha : a < 2 ^ 32) (hto : to < 2 ^ 32) (hC : CS M S) (hR : RS M S) (h : ∀ v0 M', (∀ Zr : Option ZV → ZM → Prop, (∀ M'' S', CS M'' S' → RS M'' S' → Zr (some (zi v0)) M'') → Ctr 0 G mi_R_mirror [zr 20 0, zi (nI a), zi (nI to)] M' Zr) → Z (some (zi v0)) M') : Ctr 0 G mi_T_mirror [zr 5 0, zi (nI a), zi (nI to)] M Z := by
  refine c_mirror ha hto hC (fun g1 => ?_) (fun g1 g2 M1 k1 k2 => ?_)
  · refine h _ M (fun Zr hz => ?_)
    refine r_mirror ha hto hR (fun e1 => ?_) (fun e1 e2 M2 q1 q2 => ?_)
    · exact hz _ _ hC hR
    · exfalso
      first | omega | contradiction | (clear h hz hC hR; simp_all; done) | (clear h hz hC hR; simp_all; omega)
  · refine h _ M1 (fun Zr hz => ?_)
    refine r_mirror ha hto (RS_csm hR k2) (fun e1 => ?_) (fun e1 e2 M2 q1 q2 => ?_)
    · exfalso
      first | omega | contradiction | (clear h hz hC hR; simp_all; done) | (clear h hz hC hR; simp_all; omega)
    · exact hz _ _ (CS_rsm k1 q2) q1
theorem ag_rename {a f to : Nat} (ha : a < 2 ^ 32) (hf : f < 2 ^ 32) (hto : to < 2 ^ 32) (hC : CS M S) (hR : RS M S) (h : ∀ v0 M', (∀ Zr : Option ZV → ZM → Prop, (∀ M'' S', CS M'' S' → RS M'' S' → Zr (some (zi v0)) M'') → Ctr 0 G mi_R_rename [zr 20 0, zi (nI a), zi (nI f), zi (nI to)] M' Zr) → Z (some (zi v0)) M') : Ctr 0 G mi_T_rename [zr 5 0, zi (nI a), zi (nI f), zi (nI to)] M Z := by
  refine c_rename ha hf hto hC (fun g1 => ?_) (fun g1 g2 g3 => ?_) (fun g1 g2 g3 M1 k1 k2 => ?_)
  · refine h _ M (fun Zr hz => ?_)
    refine r_rename ha hf hto hR (fun e1 => ?_) (fun e1 e2 e3 => ?_) (fun e1 e2 e3 M2 q1 q2 => ?_)
    · exact hz _ _ hC hR
    · exfalso
      first | omega | contradiction | (clear h hz hC hR; simp_all; done) | (clear h hz hC hR; simp_all; omega)
    · exfalso
      first | omega | contradiction | (clear h hz hC hR; simp_all; done) | (clear h hz hC hR; simp_all; omega)
  · refine h _ M (fun Zr hz => ?_)
    refine r_rename ha hf hto hR (fun e1 => ?_) (fun e1 e2 e3 => ?_) (fun e1 e2 e3 M2 q1 q2 => ?_)
    · exfalso
      first | omega | contradiction | (clear h hz hC hR; simp_all; done) | (clear h hz hC hR; simp_all; omega)
    · exact hz _ _ hC hR
    · exfalso
      first | omega | contradiction | (clear h hz hC hR; simp_all; done) | (clear h hz hC hR; simp_all; omega)
  · refine h _ M1 (fun Zr hz => ?_)
    refine r_rename ha hf hto (RS_csm hR k2) (fun e1 => ?_) (fun e1 e2 e3 => ?_) (fun e1 e2 e3 M2 q1 q2 => ?_)
    · exfalso
      first | omega | contradiction | (clear h hz hC hR; simp_all; done) | (clear h hz hC hR; simp_all; omega)
    · exfalso
      first | omega | contradiction | (clear h hz hC hR; simp_all; done) | (clear h hz hC hR; simp_all; omega)
    · exact hz _ _ (CS_rsm k1 q2) q1
theorem ag_drop {a : Nat} (ha : a < 2 ^ 32) (hC : CS M S) (hR : RS M S) (h : ∀ v0 M', (∀ Zr : Option ZV → ZM → Prop, (∀ M'' S', CS M'' S' → RS M'' S' → Zr (some (zi v0)) M'') → Ctr 0 G mi_R_drop [zr 20 0, zi (nI a)] M' Zr) → Z (some (zi v0)) M') : Ctr 0 G mi_T_drop [zr 5 0, zi (nI a)] M Z := by
  refine c_drop ha hC (fun g1 => ?_) (fun g1 M1 k1 k2 => ?_)
  · refine h _ M (fun Zr hz => ?_)
    refine r_drop ha hR (fun e1 => ?_) (fun e1 M2 q1 q2 => ?_)
    · exact hz _ _ hC hR
    · exfalso
      first | omega | contradiction | (clear h hz hC hR; simp_all; done) | (clear h hz hC hR; simp_all; omega)
  · refine h _ M1 (fun Zr hz => ?_)
    refine r_drop ha (RS_csm hR k2) (fun e1 => ?_) (fun e1 M2 q1 q2 => ?_)
    · exfalso
      first | omega | contradiction | (clear h hz hC hR; simp_all; done) | (clear h hz hC hR; simp_all; omega)
    · exact hz _ _ (CS_rsm k1 q2) q1
theorem ag_cell {a x y w : Nat} (ha : a < 2 ^ 32) (hx : x < 2 ^ 32) (hy : y < 2 ^ 32) (hw : w < 2 ^ 32) (hC : CS M S) (hR : RS M S) (h : ∀ v0 M', (∀ Zr : Option ZV → ZM → Prop, (∀ M'' S', CS M'' S' → RS M'' S' → Zr (some (zi v0)) M'') → Ctr 0 G mi_R_cell [zr 20 0, zi (nI a), zi (nI x), zi (nI y), zi (nI w)] M' Zr) → Z (some (zi v0)) M') : Ctr 0 G mi_T_cell [zr 5 0, zi (nI a), zi (nI x), zi (nI y), zi (nI w)] M Z := by
  refine c_cell ha hx hy hw hC (fun g1 => ?_) (fun g1 g2 g3 => ?_) (fun g1 g2 g3 => ?_) (fun g1 g2 g3 => ?_)
  · refine h _ M (fun Zr hz => ?_)
    refine r_cell ha hx hy hw hR (fun e1 => ?_) (fun e1 e2 e3 => ?_) (fun e1 e2 e3 => ?_) (fun e1 e2 e3 => ?_)
    · exact hz _ _ hC hR
    · exfalso
      first | omega | contradiction | (clear h hz hC hR; simp_all; done) | (clear h hz hC hR; simp_all; omega)
    · exfalso
      first | omega | contradiction | (clear h hz hC hR; simp_all; done) | (clear h hz hC hR; simp_all; omega)
    · exfalso
      first | omega | contradiction | (clear h hz hC hR; simp_all; done) | (clear h hz hC hR; simp_all; omega)
  · refine h _ M (fun Zr hz => ?_)
    refine r_cell ha hx hy hw hR (fun e1 => ?_) (fun e1 e2 e3 => ?_) (fun e1 e2 e3 => ?_) (fun e1 e2 e3 => ?_)
    · exfalso
      first | omega | contradiction | (clear h hz hC hR; simp_all; done) | (clear h hz hC hR; simp_all; omega)
    · exact hz _ _ hC hR
    · exfalso
      first | omega | contradiction | (clear h hz hC hR; simp_all; done) | (clear h hz hC hR; simp_all; omega)
    · exfalso
      first | omega | contradiction | (clear h hz hC hR; simp_all; done) | (clear h hz hC hR; simp_all; omega)
  · refine h _ M (fun Zr hz => ?_)
    refine r_cell ha hx hy hw hR (fun e1 => ?_) (fun e1 e2 e3 => ?_) (fun e1 e2 e3 => ?_) (fun e1 e2 e3 => ?_)
    · exfalso
      first | omega | contradiction | (clear h hz hC hR; simp_all; done) | (clear h hz hC hR; simp_all; omega)
    · exfalso
      first | omega | contradiction | (clear h hz hC hR; simp_all; done) | (clear h hz hC hR; simp_all; omega)
    · exact hz _ _ hC hR
    · exfalso
      first | omega | contradiction | (clear h hz hC hR; simp_all; done) | (clear h hz hC hR; simp_all; omega)
  · refine h _ M (fun Zr hz => ?_)
    refine r_cell ha hx hy hw hR (fun e1 => ?_) (fun e1 e2 e3 => ?_) (fun e1 e2 e3 => ?_) (fun e1 e2 e3 => ?_)
    · exfalso
      first | omega | contradiction | (clear h hz hC hR; simp_all; done) | (clear h hz hC hR; simp_all; omega)
    · exfalso
      first | omega | contradiction | (clear h hz hC hR; simp_all; done) | (clear h hz hC hR; simp_all; omega)
    · exfalso
      first | omega | contradiction | (clear h hz hC hR; simp_all; done) | (clear h hz hC hR; simp_all; omega)
    · exact hz _ _ hC hR
theorem ag_whole {a c : Nat} (ha : a < 2 ^ 32) (hc : c < 2 ^ 32) (hC : CS M S) (hR : RS M S) (h : ∀ v0 M', (∀ Zr : Option ZV → ZM → Prop, (∀ M'' S', CS M'' S' → RS M'' S' → Zr (some (zi v0)) M'') → Ctr 0 G mi_R_whole [zr 20 0, zi (nI a), zi (nI c)] M' Zr) → Z (some (zi v0)) M') : Ctr 0 G mi_T_whole [zr 5 0, zi (nI a), zi (nI c)] M Z := by
  refine c_whole ha hc hC (fun g1 => ?_) (fun g1 v hv M1 k1 k2 => ?_)
  · refine h _ M (fun Zr hz => ?_)
    refine r_whole ha hc hR (fun e1 => ?_) (fun g1_ v_ hv_ M2 q1 q2 => ?_)
    · exact hz _ _ hC hR
    · exfalso
      first | omega | contradiction | (clear h hz hC hR; simp_all; done) | (clear h hz hC hR; simp_all; omega)
  · refine h _ M1 (fun Zr hz => ?_)
    refine r_whole ha hc (RS_csm hR k2) (fun e1 => ?_) (fun g1_ v_ hv_ M2 q1 q2 => ?_)
    · exfalso
      first | omega | contradiction | (clear h hz hC hR; simp_all; done) | (clear h hz hC hR; simp_all; omega)
    · rw [whR_uniq c hv_ hv]
      exact hz _ _ (CS_rsm k1 q2) q1
theorem ag_fails {a i : Nat} (ha : a < 2 ^ 32) (hi : i < 2 ^ 32) (hC : CS M S) (hR : RS M S) (h : ∀ v0 M', (∀ Zr : Option ZV → ZM → Prop, (∀ M'' S', CS M'' S' → RS M'' S' → Zr (some (zi v0)) M'') → Ctr 0 G mi_R_fails [zr 20 0, zi (nI a), zi (nI i)] M' Zr) → Z (some (zi v0)) M') : Ctr 0 G mi_T_fails [zr 5 0, zi (nI a), zi (nI i)] M Z := by
  refine c_fails ha hi hC (fun g1 => ?_) (fun g1 g2 => ?_) (fun g1 g2 j hj hp hc => ?_) (fun g1 g2 g3 => ?_)
  · refine h _ M (fun Zr hz => ?_)
    refine r_fails ha hi hR (fun e1 => ?_) (fun e1 e2 => ?_) (fun g1_ g2_ j_ hj_ hp_ hc_ M2 q1 q2 => ?_) (fun e1 e2 e3 M2 q1 q2 => ?_)
    · exact hz _ _ hC hR
    · exfalso
      first | omega | contradiction | (clear h hz hC hR; simp_all; done) | (clear h hz hC hR; simp_all; omega)
    · exfalso
      first | omega | contradiction | (clear h hz hC hR; simp_all; done) | (clear h hz hC hR; simp_all; omega)
    · exfalso
      first | omega | contradiction | (clear h hz hC hR; simp_all; done) | (clear h hz hC hR; simp_all; omega)
  · refine h _ M (fun Zr hz => ?_)
    refine r_fails ha hi hR (fun e1 => ?_) (fun e1 e2 => ?_) (fun g1_ g2_ j_ hj_ hp_ hc_ M2 q1 q2 => ?_) (fun e1 e2 e3 M2 q1 q2 => ?_)
    · exfalso
      first | omega | contradiction | (clear h hz hC hR; simp_all; done) | (clear h hz hC hR; simp_all; omega)
    · exact hz _ _ hC hR
    · exfalso
      first | omega | contradiction | (clear h hz hC hR; simp_all; done) | (clear h hz hC hR; simp_all; omega)
    · exfalso
      first | omega | contradiction | (clear h hz hC hR; simp_all; done) | (clear h hz hC hR; simp_all; omega)
  · refine h _ M (fun Zr hz => ?_)
    refine r_fails ha hi hR (fun e1 => ?_) (fun e1 e2 => ?_) (fun g1_ g2_ j_ hj_ hp_ hc_ M2 q1 q2 => ?_) (fun e1 e2 e3 M2 q1 q2 => ?_)
    · exfalso
      first | omega | contradiction | (clear h hz hC hR; simp_all; done) | (clear h hz hC hR; simp_all; omega)
    · exfalso
      first | omega | contradiction | (clear h hz hC hR; simp_all; done) | (clear h hz hC hR; simp_all; omega)
    · rw [cnt_inj hp_ hp (hc_.trans hc.symm)]
      exact hz _ _ (CS_rsm hC q2) q1
    · exfalso
      exact absurd (cnt_step (p := fun j => brk (plA S a) (dgl (plA S a).1 3 j)) hp hj) (by omega)
  · refine h _ M (fun Zr hz => ?_)
    refine r_fails ha hi hR (fun e1 => ?_) (fun e1 e2 => ?_) (fun g1_ g2_ j_ hj_ hp_ hc_ M2 q1 q2 => ?_) (fun e1 e2 e3 M2 q1 q2 => ?_)
    · exfalso
      first | omega | contradiction | (clear h hz hC hR; simp_all; done) | (clear h hz hC hR; simp_all; omega)
    · exfalso
      first | omega | contradiction | (clear h hz hC hR; simp_all; done) | (clear h hz hC hR; simp_all; omega)
    · exfalso
      exact absurd (cnt_step (p := fun j => brk (plA S a) (dgl (plA S a).1 3 j)) hp_ hj_) (by omega)
    · exact hz _ _ (CS_rsm hC q2) q1
theorem ag_orbit {a x : Nat} (ha : a < 2 ^ 32) (hx : x < 2 ^ 32) (hC : CS M S) (hR : RS M S) (h : ∀ v0 M', (∀ Zr : Option ZV → ZM → Prop, (∀ M'' S', CS M'' S' → RS M'' S' → Zr (some (zi v0)) M'') → Ctr 0 G mi_R_orbit [zr 20 0, zi (nI a), zi (nI x)] M' Zr) → Z (some (zi v0)) M') : Ctr 0 G mi_T_orbit [zr 5 0, zi (nI a), zi (nI x)] M Z := by
  refine c_orbit ha hx hC (fun g1 => ?_) (fun g1 r hr => ?_)
  · refine h _ M (fun Zr hz => ?_)
    refine r_orbit ha hx hR (fun e1 => ?_) (fun e1 => ?_)
    · exact hz _ _ hC hR
    · exfalso
      first | omega | contradiction | (clear h hz hC hR; simp_all; done) | (clear h hz hC hR; simp_all; omega)
  · refine h _ M (fun Zr hz => ?_)
    refine r_orbit ha hx hR (fun e1 => ?_) (fun e1 => ?_)
    · exfalso
      first | omega | contradiction | (clear h hz hC hR; simp_all; done) | (clear h hz hC hR; simp_all; omega)
    · rw [isOrb_uniq (orb_is (CS_pl hC a).1 g1) hr]
      exact hz _ _ hC hR
theorem ag_shut {a s : Nat} (ha : a < 2 ^ 32) (hs : s < 2 ^ 32) (hC : CS M S) (hR : RS M S) (h : ∀ v0 M', (∀ Zr : Option ZV → ZM → Prop, (∀ M'' S', CS M'' S' → RS M'' S' → Zr (some (zi v0)) M'') → Ctr 0 G mi_R_shut [zr 20 0, zi (nI a), zi (nI s)] M' Zr) → Z (some (zi v0)) M') : Ctr 0 G mi_T_shut [zr 5 0, zi (nI a), zi (nI s)] M Z := by
  refine c_shut ha hs hC (fun g1 => ?_) (fun g1 g2 => ?_) (fun g1 g2 r hr => ?_)
  · refine h _ M (fun Zr hz => ?_)
    refine r_shut ha hs hR (fun e1 => ?_) (fun e1 e2 => ?_) (fun g1_ g2_ r_ hr_ => ?_)
    · exact hz _ _ hC hR
    · exfalso
      first | omega | contradiction | (clear h hz hC hR; simp_all; done) | (clear h hz hC hR; simp_all; omega)
    · exfalso
      first | omega | contradiction | (clear h hz hC hR; simp_all; done) | (clear h hz hC hR; simp_all; omega)
  · refine h _ M (fun Zr hz => ?_)
    refine r_shut ha hs hR (fun e1 => ?_) (fun e1 e2 => ?_) (fun g1_ g2_ r_ hr_ => ?_)
    · exfalso
      first | omega | contradiction | (clear h hz hC hR; simp_all; done) | (clear h hz hC hR; simp_all; omega)
    · exact hz _ _ hC hR
    · exfalso
      first | omega | contradiction | (clear h hz hC hR; simp_all; done) | (clear h hz hC hR; simp_all; omega)
  · refine h _ M (fun Zr hz => ?_)
    refine r_shut ha hs hR (fun e1 => ?_) (fun e1 e2 => ?_) (fun g1_ g2_ r_ hr_ => ?_)
    · exfalso
      first | omega | contradiction | (clear h hz hC hR; simp_all; done) | (clear h hz hC hR; simp_all; omega)
    · exfalso
      first | omega | contradiction | (clear h hz hC hR; simp_all; done) | (clear h hz hC hR; simp_all; omega)
    · rw [isShut_uniq hr_ hr]
      exact hz _ _ hC hR
theorem ag_alike {a x : Nat} (ha : a < 2 ^ 32) (hx : x < 2 ^ 32) (hC : CS M S) (hR : RS M S) (h : ∀ v0 M', (∀ Zr : Option ZV → ZM → Prop, (∀ M'' S', CS M'' S' → RS M'' S' → Zr (some (zi v0)) M'') → Ctr 0 G mi_R_alike [zr 20 0, zi (nI a), zi (nI x)] M' Zr) → Z (some (zi v0)) M') : Ctr 0 G mi_T_alike [zr 5 0, zi (nI a), zi (nI x)] M Z := by
  refine c_alike ha hx hC (fun g1 => ?_) (fun g1 M1 k1 k2 => ?_)
  · refine h _ M (fun Zr hz => ?_)
    refine r_alike ha hx hR (fun e1 => ?_) (fun e1 M2 q1 q2 => ?_)
    · exact hz _ _ hC hR
    · exfalso
      first | omega | contradiction | (clear h hz hC hR; simp_all; done) | (clear h hz hC hR; simp_all; omega)
  · refine h _ M1 (fun Zr hz => ?_)
    refine r_alike ha hx (RS_csm hR k2) (fun e1 => ?_) (fun e1 M2 q1 q2 => ?_)
    · exfalso
      first | omega | contradiction | (clear h hz hC hR; simp_all; done) | (clear h hz hC hR; simp_all; omega)
    · exact hz _ _ (CS_rsm k1 q2) q1
theorem ag_power {a x y k : Nat} (ha : a < 2 ^ 32) (hx : x < 2 ^ 32) (hy : y < 2 ^ 32) (hk : k < 2 ^ 32) (hC : CS M S) (hR : RS M S) (h : ∀ v0 M', (∀ Zr : Option ZV → ZM → Prop, (∀ M'' S', CS M'' S' → RS M'' S' → Zr (some (zi v0)) M'') → Ctr 0 G mi_R_power [zr 20 0, zi (nI a), zi (nI x), zi (nI y), zi (nI k)] M' Zr) → Z (some (zi v0)) M') : Ctr 0 G mi_T_power [zr 5 0, zi (nI a), zi (nI x), zi (nI y), zi (nI k)] M Z := by
  refine c_power ha hx hy hk hC (fun g1 => ?_) (fun g1 g2 g3 => ?_) (fun g1 g2 g3 => ?_)
  · refine h _ M (fun Zr hz => ?_)
    refine r_power ha hx hy hk hR (fun e1 => ?_) (fun e1 e2 e3 => ?_) (fun e1 e2 e3 M2 q1 q2 => ?_)
    · exact hz _ _ hC hR
    · exfalso
      first | omega | contradiction | (clear h hz hC hR; simp_all; done) | (clear h hz hC hR; simp_all; omega)
    · exfalso
      first | omega | contradiction | (clear h hz hC hR; simp_all; done) | (clear h hz hC hR; simp_all; omega)
  · refine h _ M (fun Zr hz => ?_)
    refine r_power ha hx hy hk hR (fun e1 => ?_) (fun e1 e2 e3 => ?_) (fun e1 e2 e3 M2 q1 q2 => ?_)
    · exfalso
      first | omega | contradiction | (clear h hz hC hR; simp_all; done) | (clear h hz hC hR; simp_all; omega)
    · exact hz _ _ hC hR
    · exfalso
      first | omega | contradiction | (clear h hz hC hR; simp_all; done) | (clear h hz hC hR; simp_all; omega)
  · refine h _ M (fun Zr hz => ?_)
    refine r_power ha hx hy hk hR (fun e1 => ?_) (fun e1 e2 e3 => ?_) (fun e1 e2 e3 M2 q1 q2 => ?_)
    · exfalso
      first | omega | contradiction | (clear h hz hC hR; simp_all; done) | (clear h hz hC hR; simp_all; omega)
    · exfalso
      first | omega | contradiction | (clear h hz hC hR; simp_all; done) | (clear h hz hC hR; simp_all; omega)
    · exact hz _ _ (CS_rsm hC q2) q1
theorem ag_like {a b i : Nat} (ha : a < 2 ^ 32) (hb : b < 2 ^ 32) (hi : i < 2 ^ 32) (hC : CS M S) (hR : RS M S) (h : ∀ v0 M', (∀ Zr : Option ZV → ZM → Prop, (∀ M'' S', CS M'' S' → RS M'' S' → Zr (some (zi v0)) M'') → Ctr 0 G mi_R_like [zr 20 0, zi (nI a), zi (nI b), zi (nI i)] M' Zr) → Z (some (zi v0)) M') : Ctr 0 G mi_T_like [zr 5 0, zi (nI a), zi (nI b), zi (nI i)] M Z := by
  refine c_like ha hb hi hC (fun g1 => ?_) (fun g1 g2 g3 g4 => ?_) (fun g1 g2 g3 M1 k1 k2 => ?_) (fun g1 g2 g3 g4 j hj hp hc M1 k1 k2 => ?_) (fun g1 g2 g3 g4 M1 k1 k2 => ?_)
  · refine h _ M (fun Zr hz => ?_)
    refine r_like ha hb hi hR (fun e1 => ?_) (fun e1 e2 e3 e4 => ?_) (fun e1 e2 e3 M2 q1 q2 => ?_) (fun g1_ g2_ g3_ g4_ j_ hj_ hp_ hc_ M2 q1 q2 => ?_) (fun e1 e2 e3 e4 M2 q1 q2 => ?_)
    · exact hz _ _ hC hR
    · exfalso
      first | omega | contradiction | (clear h hz hC hR; simp_all; done) | (clear h hz hC hR; simp_all; omega)
    · exfalso
      first | omega | contradiction | (clear h hz hC hR; simp_all; done) | (clear h hz hC hR; simp_all; omega)
    · exfalso
      first | omega | contradiction | (clear h hz hC hR; simp_all; done) | (clear h hz hC hR; simp_all; omega)
    · exfalso
      first | omega | contradiction | (clear h hz hC hR; simp_all; done) | (clear h hz hC hR; simp_all; omega)
  · refine h _ M (fun Zr hz => ?_)
    refine r_like ha hb hi hR (fun e1 => ?_) (fun e1 e2 e3 e4 => ?_) (fun e1 e2 e3 M2 q1 q2 => ?_) (fun g1_ g2_ g3_ g4_ j_ hj_ hp_ hc_ M2 q1 q2 => ?_) (fun e1 e2 e3 e4 M2 q1 q2 => ?_)
    · exfalso
      first | omega | contradiction | (clear h hz hC hR; simp_all; done) | (clear h hz hC hR; simp_all; omega)
    · exact hz _ _ hC hR
    · exfalso
      first | omega | contradiction | (clear h hz hC hR; simp_all; done) | (clear h hz hC hR; simp_all; omega)
    · exfalso
      first | omega | contradiction | (clear h hz hC hR; simp_all; done) | (clear h hz hC hR; simp_all; omega)
    · exfalso
      first | omega | contradiction | (clear h hz hC hR; simp_all; done) | (clear h hz hC hR; simp_all; omega)
  · refine h _ M1 (fun Zr hz => ?_)
    refine r_like ha hb hi (RS_csm hR k2) (fun e1 => ?_) (fun e1 e2 e3 e4 => ?_) (fun e1 e2 e3 M2 q1 q2 => ?_) (fun g1_ g2_ g3_ g4_ j_ hj_ hp_ hc_ M2 q1 q2 => ?_) (fun e1 e2 e3 e4 M2 q1 q2 => ?_)
    · exfalso
      first | omega | contradiction | (clear h hz hC hR; simp_all; done) | (clear h hz hC hR; simp_all; omega)
    · exfalso
      first | omega | contradiction | (clear h hz hC hR; simp_all; done) | (clear h hz hC hR; simp_all; omega)
    · exact hz _ _ (CS_rsm k1 q2) q1
    · exfalso
      first | omega | contradiction | (clear h hz hC hR; simp_all; done) | (clear h hz hC hR; simp_all; omega)
    · exfalso
      first | omega | contradiction | (clear h hz hC hR; simp_all; done) | (clear h hz hC hR; simp_all; omega)
  · refine h _ M1 (fun Zr hz => ?_)
    refine r_like ha hb hi (RS_csm hR k2) (fun e1 => ?_) (fun e1 e2 e3 e4 => ?_) (fun e1 e2 e3 M2 q1 q2 => ?_) (fun g1_ g2_ g3_ g4_ j_ hj_ hp_ hc_ M2 q1 q2 => ?_) (fun e1 e2 e3 e4 M2 q1 q2 => ?_)
    · exfalso
      first | omega | contradiction | (clear h hz hC hR; simp_all; done) | (clear h hz hC hR; simp_all; omega)
    · exfalso
      first | omega | contradiction | (clear h hz hC hR; simp_all; done) | (clear h hz hC hR; simp_all; omega)
    · exfalso
      first | omega | contradiction | (clear h hz hC hR; simp_all; done) | (clear h hz hC hR; simp_all; omega)
    · rw [show j_ = j from cnt_inj (p := fun j => isoB (plA S a) (plA S b) (pw (plA S a).1 j)) hp_ hp (hc_.trans hc.symm)]
      exact hz _ _ (CS_rsm k1 q2) q1
    · exfalso
      exact absurd (show nIso (plA S a) (plA S b) j < nIso (plA S a) (plA S b) (fac (plA S a).1) from cnt_step (p := fun j => isoB (plA S a) (plA S b) (pw (plA S a).1 j)) hp hj) (by have := e4 g4; omega)
  · refine h _ M1 (fun Zr hz => ?_)
    refine r_like ha hb hi (RS_csm hR k2) (fun e1 => ?_) (fun e1 e2 e3 e4 => ?_) (fun e1 e2 e3 M2 q1 q2 => ?_) (fun g1_ g2_ g3_ g4_ j_ hj_ hp_ hc_ M2 q1 q2 => ?_) (fun e1 e2 e3 e4 M2 q1 q2 => ?_)
    · exfalso
      first | omega | contradiction | (clear h hz hC hR; simp_all; done) | (clear h hz hC hR; simp_all; omega)
    · exfalso
      first | omega | contradiction | (clear h hz hC hR; simp_all; done) | (clear h hz hC hR; simp_all; omega)
    · exfalso
      first | omega | contradiction | (clear h hz hC hR; simp_all; done) | (clear h hz hC hR; simp_all; omega)
    · exfalso
      exact absurd (show nIso (plA S a) (plA S b) j_ < nIso (plA S a) (plA S b) (fac (plA S a).1) from cnt_step (p := fun j => isoB (plA S a) (plA S b) (pw (plA S a).1 j)) hp_ hj_) (by have := g4 g4_; omega)
    · exact hz _ _ (CS_rsm k1 q2) q1
theorem ag_words {a k : Nat} (ha : a < 2 ^ 32) (hk : k < 2 ^ 32) (hC : CS M S) (hR : RS M S) (h : ∀ v0 M', (∀ Zr : Option ZV → ZM → Prop, (∀ M'' S', CS M'' S' → RS M'' S' → Zr (some (zi v0)) M'') → Ctr 0 G mi_R_words [zr 20 0, zi (nI a), zi (nI k)] M' Zr) → Z (some (zi v0)) M') : Ctr 0 G mi_T_words [zr 5 0, zi (nI a), zi (nI k)] M Z := by
  obtain ⟨r0, hr0⟩ := isLst_ex (plA S a) k
  refine c_words ha hk hC (fun g1 => ?_) (fun g1 g2 => ?_) (fun g1 g2 g3 r hr M1 k1 k2 => ?_)
  · refine h _ M (fun Zr hz => ?_)
    refine r_words (r := r0) ha hk hR (fun _ _ _ => hr0) (fun e1 => ?_) (fun e1 e2 => ?_) (fun e1 e2 e3 M2 q1 q2 => ?_)
    · exact hz _ _ hC hR
    · exfalso
      first | omega | contradiction | (clear h hz hC hR; simp_all; done) | (clear h hz hC hR; simp_all; omega)
    · exfalso
      first | omega | contradiction | (clear h hz hC hR; simp_all; done) | (clear h hz hC hR; simp_all; omega)
  · refine h _ M (fun Zr hz => ?_)
    refine r_words (r := r0) ha hk hR (fun _ _ _ => hr0) (fun e1 => ?_) (fun e1 e2 => ?_) (fun e1 e2 e3 M2 q1 q2 => ?_)
    · exfalso
      first | omega | contradiction | (clear h hz hC hR; simp_all; done) | (clear h hz hC hR; simp_all; omega)
    · exact hz _ _ hC hR
    · exfalso
      first | omega | contradiction | (clear h hz hC hR; simp_all; done) | (clear h hz hC hR; simp_all; omega)
  · refine h _ M1 (fun Zr hz => ?_)
    refine r_words (r := r) ha hk (RS_csm hR k2) (fun _ _ _ => hr) (fun e1 => ?_) (fun e1 e2 => ?_) (fun e1 e2 e3 M2 q1 q2 => ?_)
    · exfalso
      first | omega | contradiction | (clear h hz hC hR; simp_all; done) | (clear h hz hC hR; simp_all; omega)
    · exfalso
      first | omega | contradiction | (clear h hz hC hR; simp_all; done) | (clear h hz hC hR; simp_all; omega)
    · exact hz _ _ (CS_rsm k1 q2) q1
theorem ag_least {a k m : Nat} (ha : a < 2 ^ 32) (hk : k < 2 ^ 32) (hm : m < 2 ^ 32) (hC : CS M S) (hR : RS M S) (h : ∀ v0 M', (∀ Zr : Option ZV → ZM → Prop, (∀ M'' S', CS M'' S' → RS M'' S' → Zr (some (zi v0)) M'') → Ctr 0 G mi_R_least [zr 20 0, zi (nI a), zi (nI k), zi (nI m)] M' Zr) → Z (some (zi v0)) M') : Ctr 0 G mi_T_least [zr 5 0, zi (nI a), zi (nI k), zi (nI m)] M Z := by
  obtain ⟨r0, hr0⟩ := isLst_ex (plA S a) k
  refine c_least ha hk hm hC (fun g1 => ?_) (fun g1 g2 => ?_) (fun g1 g2 g3 g4 r hr M1 k1 k2 => ?_)
  · refine h _ M (fun Zr hz => ?_)
    refine r_least (r := r0) ha hk hm hR (fun _ _ _ => hr0) (fun e1 => ?_) (fun e1 e2 => ?_) (fun e1 e2 e3 e4 M2 q1 q2 => ?_)
    · exact hz _ _ hC hR
    · exfalso
      first | omega | contradiction | (clear h hz hC hR; simp_all; done) | (clear h hz hC hR; simp_all; omega)
    · exfalso
      first | omega | contradiction | (clear h hz hC hR; simp_all; done) | (clear h hz hC hR; simp_all; omega)
  · refine h _ M (fun Zr hz => ?_)
    refine r_least (r := r0) ha hk hm hR (fun _ _ _ => hr0) (fun e1 => ?_) (fun e1 e2 => ?_) (fun e1 e2 e3 e4 M2 q1 q2 => ?_)
    · exfalso
      first | omega | contradiction | (clear h hz hC hR; simp_all; done) | (clear h hz hC hR; simp_all; omega)
    · exact hz _ _ hC hR
    · exfalso
      first | omega | contradiction | (clear h hz hC hR; simp_all; done) | (clear h hz hC hR; simp_all; omega)
  · refine h _ M1 (fun Zr hz => ?_)
    refine r_least (r := r) ha hk hm (RS_csm hR k2) (fun _ _ _ => hr) (fun e1 => ?_) (fun e1 e2 => ?_) (fun e1 e2 e3 e4 M2 q1 q2 => ?_)
    · exfalso
      first | omega | contradiction | (clear h hz hC hR; simp_all; done) | (clear h hz hC hR; simp_all; omega)
    · exfalso
      first | omega | contradiction | (clear h hz hC hR; simp_all; done) | (clear h hz hC hR; simp_all; omega)
    · exact hz _ _ (CS_rsm k1 q2) q1
theorem ag_write {b c : Nat} (hb : b < 2 ^ 32) (hc : c < 2 ^ 32) (hC : CS M S) (hR : RS M S) (h : ∀ v0 M', (∀ Zr : Option ZV → ZM → Prop, (∀ M'' S', CS M'' S' → RS M'' S' → Zr (some (zi v0)) M'') → Ctr 0 G mi_R_write [zr 20 0, zi (nI b), zi (nI c)] M' Zr) → Z (some (zi v0)) M') : Ctr 0 G mi_T_write [zr 5 0, zi (nI b), zi (nI c)] M Z := by
  refine c_write hb hc hC (fun g1 => ?_) (fun g1 g2 => ?_) (fun g1 g2 g3 => ?_) (fun g1 g2 g3 M1 k1 k2 => ?_)
  · refine h _ M (fun Zr hz => ?_)
    refine r_write hb hc hR (fun e1 => ?_) (fun e1 e2 => ?_) (fun e1 e2 e3 => ?_) (fun e1 e2 e3 M2 q1 q2 => ?_)
    · exact hz _ _ hC hR
    · exfalso
      first | omega | contradiction | (clear h hz hC hR; simp_all; done) | (clear h hz hC hR; simp_all; omega)
    · exfalso
      first | omega | contradiction | (clear h hz hC hR; simp_all; done) | (clear h hz hC hR; simp_all; omega)
    · exfalso
      first | omega | contradiction | (clear h hz hC hR; simp_all; done) | (clear h hz hC hR; simp_all; omega)
  · refine h _ M (fun Zr hz => ?_)
    refine r_write hb hc hR (fun e1 => ?_) (fun e1 e2 => ?_) (fun e1 e2 e3 => ?_) (fun e1 e2 e3 M2 q1 q2 => ?_)
    · exfalso
      first | omega | contradiction | (clear h hz hC hR; simp_all; done) | (clear h hz hC hR; simp_all; omega)
    · exact hz _ _ hC hR
    · exfalso
      first | omega | contradiction | (clear h hz hC hR; simp_all; done) | (clear h hz hC hR; simp_all; omega)
    · exfalso
      first | omega | contradiction | (clear h hz hC hR; simp_all; done) | (clear h hz hC hR; simp_all; omega)
  · refine h _ M (fun Zr hz => ?_)
    refine r_write hb hc hR (fun e1 => ?_) (fun e1 e2 => ?_) (fun e1 e2 e3 => ?_) (fun e1 e2 e3 M2 q1 q2 => ?_)
    · exfalso
      first | omega | contradiction | (clear h hz hC hR; simp_all; done) | (clear h hz hC hR; simp_all; omega)
    · exfalso
      first | omega | contradiction | (clear h hz hC hR; simp_all; done) | (clear h hz hC hR; simp_all; omega)
    · exact hz _ _ hC hR
    · exfalso
      first | omega | contradiction | (clear h hz hC hR; simp_all; done) | (clear h hz hC hR; simp_all; omega)
  · refine h _ M1 (fun Zr hz => ?_)
    refine r_write hb hc (RS_csm hR k2) (fun e1 => ?_) (fun e1 e2 => ?_) (fun e1 e2 e3 => ?_) (fun e1 e2 e3 M2 q1 q2 => ?_)
    · exfalso
      first | omega | contradiction | (clear h hz hC hR; simp_all; done) | (clear h hz hC hR; simp_all; omega)
    · exfalso
      first | omega | contradiction | (clear h hz hC hR; simp_all; done) | (clear h hz hC hR; simp_all; omega)
    · exfalso
      first | omega | contradiction | (clear h hz hC hR; simp_all; done) | (clear h hz hC hR; simp_all; omega)
    · exact hz _ _ (CS_rsm k1 q2) q1
theorem ag_erase {b : Nat} (hb : b < 2 ^ 32) (hC : CS M S) (hR : RS M S) (h : ∀ v0 M', (∀ Zr : Option ZV → ZM → Prop, (∀ M'' S', CS M'' S' → RS M'' S' → Zr (some (zi v0)) M'') → Ctr 0 G mi_R_erase [zr 20 0, zi (nI b)] M' Zr) → Z (some (zi v0)) M') : Ctr 0 G mi_T_erase [zr 5 0, zi (nI b)] M Z := by
  refine c_erase hb hC (fun g1 => ?_) (fun g1 M1 k1 k2 => ?_)
  · refine h _ M (fun Zr hz => ?_)
    refine r_erase hb hR (fun e1 => ?_) (fun e1 M2 q1 q2 => ?_)
    · exact hz _ _ hC hR
    · exfalso
      first | omega | contradiction | (clear h hz hC hR; simp_all; done) | (clear h hz hC hR; simp_all; omega)
  · refine h _ M1 (fun Zr hz => ?_)
    refine r_erase hb (RS_csm hR k2) (fun e1 => ?_) (fun e1 M2 q1 q2 => ?_)
    · exfalso
      first | omega | contradiction | (clear h hz hC hR; simp_all; done) | (clear h hz hC hR; simp_all; omega)
    · exact hz _ _ (CS_rsm k1 q2) q1
theorem ag_through {a b s m : Nat} (ha : a < 2 ^ 32) (hb : b < 2 ^ 32) (hs : s < 2 ^ 32) (hm : m < 2 ^ 32) (hC : CS M S) (hR : RS M S) (h : ∀ v0 M', (∀ Zr : Option ZV → ZM → Prop, (∀ M'' S', CS M'' S' → RS M'' S' → Zr (some (zi v0)) M'') → Ctr 0 G mi_R_through [zr 20 0, zi (nI a), zi (nI b), zi (nI s), zi (nI m)] M' Zr) → Z (some (zi v0)) M') : Ctr 0 G mi_T_through [zr 5 0, zi (nI a), zi (nI b), zi (nI s), zi (nI m)] M Z := by
  refine c_through ha hb hs hm hC (fun g1 => ?_) (fun g1 g2 g3 => ?_) (fun g1 g2 g3 g4 g5 g6 => ?_) (fun g1 g2 g3 g4 g5 g6 M1 k1 k2 => ?_)
  · refine h _ M (fun Zr hz => ?_)
    refine r_through ha hb hs hm hR (fun e1 => ?_) (fun e1 e2 e3 => ?_) (fun e1 e2 e3 e4 e5 e6 => ?_) (fun e1 e2 e3 e4 e5 e6 M2 q1 q2 => ?_)
    · exact hz _ _ hC hR
    · exfalso
      first | omega | contradiction | (clear h hz hC hR; simp_all; done) | (clear h hz hC hR; simp_all; omega)
    · exfalso
      first | omega | contradiction | (clear h hz hC hR; simp_all; done) | (clear h hz hC hR; simp_all; omega)
    · exfalso
      first | omega | contradiction | (clear h hz hC hR; simp_all; done) | (clear h hz hC hR; simp_all; omega)
  · refine h _ M (fun Zr hz => ?_)
    refine r_through ha hb hs hm hR (fun e1 => ?_) (fun e1 e2 e3 => ?_) (fun e1 e2 e3 e4 e5 e6 => ?_) (fun e1 e2 e3 e4 e5 e6 M2 q1 q2 => ?_)
    · exfalso
      first | omega | contradiction | (clear h hz hC hR; simp_all; done) | (clear h hz hC hR; simp_all; omega)
    · exact hz _ _ hC hR
    · exfalso
      first | omega | contradiction | (clear h hz hC hR; simp_all; done) | (clear h hz hC hR; simp_all; omega)
    · exfalso
      first | omega | contradiction | (clear h hz hC hR; simp_all; done) | (clear h hz hC hR; simp_all; omega)
  · refine h _ M (fun Zr hz => ?_)
    refine r_through ha hb hs hm hR (fun e1 => ?_) (fun e1 e2 e3 => ?_) (fun e1 e2 e3 e4 e5 e6 => ?_) (fun e1 e2 e3 e4 e5 e6 M2 q1 q2 => ?_)
    · exfalso
      first | omega | contradiction | (clear h hz hC hR; simp_all; done) | (clear h hz hC hR; simp_all; omega)
    · exfalso
      first | omega | contradiction | (clear h hz hC hR; simp_all; done) | (clear h hz hC hR; simp_all; omega)
    · exact hz _ _ hC hR
    · exfalso
      first | omega | contradiction | (clear h hz hC hR; simp_all; done) | (clear h hz hC hR; simp_all; omega)
  · refine h _ M1 (fun Zr hz => ?_)
    refine r_through ha hb hs hm (RS_csm hR k2) (fun e1 => ?_) (fun e1 e2 e3 => ?_) (fun e1 e2 e3 e4 e5 e6 => ?_) (fun e1 e2 e3 e4 e5 e6 M2 q1 q2 => ?_)
    · exfalso
      first | omega | contradiction | (clear h hz hC hR; simp_all; done) | (clear h hz hC hR; simp_all; omega)
    · exfalso
      first | omega | contradiction | (clear h hz hC hR; simp_all; done) | (clear h hz hC hR; simp_all; omega)
    · exfalso
      first | omega | contradiction | (clear h hz hC hR; simp_all; done) | (clear h hz hC hR; simp_all; omega)
    · exact hz _ _ (CS_rsm k1 q2) q1
theorem ag_stays {a b s : Nat} (ha : a < 2 ^ 32) (hb : b < 2 ^ 32) (hs : s < 2 ^ 32) (hC : CS M S) (hR : RS M S) (h : ∀ v0 M', (∀ Zr : Option ZV → ZM → Prop, (∀ M'' S', CS M'' S' → RS M'' S' → Zr (some (zi v0)) M'') → Ctr 0 G mi_R_stays [zr 20 0, zi (nI a), zi (nI b), zi (nI s)] M' Zr) → Z (some (zi v0)) M') : Ctr 0 G mi_T_stays [zr 5 0, zi (nI a), zi (nI b), zi (nI s)] M Z := by
  refine c_stays ha hb hs hC (fun g1 => ?_) (fun g1 g2 g3 => ?_) (fun g1 g2 g3 g4 g5 => ?_) (fun g1 g2 g3 g4 g5 M1 k1 k2 => ?_)
  · refine h _ M (fun Zr hz => ?_)
    refine r_stays ha hb hs hR (fun e1 => ?_) (fun e1 e2 e3 => ?_) (fun e1 e2 e3 e4 e5 => ?_) (fun e1 e2 e3 e4 e5 M2 q1 q2 => ?_)
    · exact hz _ _ hC hR
    · exfalso
      first | omega | contradiction | (clear h hz hC hR; simp_all; done) | (clear h hz hC hR; simp_all; omega)
    · exfalso
      first | omega | contradiction | (clear h hz hC hR; simp_all; done) | (clear h hz hC hR; simp_all; omega)
    · exfalso
      first | omega | contradiction | (clear h hz hC hR; simp_all; done) | (clear h hz hC hR; simp_all; omega)
  · refine h _ M (fun Zr hz => ?_)
    refine r_stays ha hb hs hR (fun e1 => ?_) (fun e1 e2 e3 => ?_) (fun e1 e2 e3 e4 e5 => ?_) (fun e1 e2 e3 e4 e5 M2 q1 q2 => ?_)
    · exfalso
      first | omega | contradiction | (clear h hz hC hR; simp_all; done) | (clear h hz hC hR; simp_all; omega)
    · exact hz _ _ hC hR
    · exfalso
      first | omega | contradiction | (clear h hz hC hR; simp_all; done) | (clear h hz hC hR; simp_all; omega)
    · exfalso
      first | omega | contradiction | (clear h hz hC hR; simp_all; done) | (clear h hz hC hR; simp_all; omega)
  · refine h _ M (fun Zr hz => ?_)
    refine r_stays ha hb hs hR (fun e1 => ?_) (fun e1 e2 e3 => ?_) (fun e1 e2 e3 e4 e5 => ?_) (fun e1 e2 e3 e4 e5 M2 q1 q2 => ?_)
    · exfalso
      first | omega | contradiction | (clear h hz hC hR; simp_all; done) | (clear h hz hC hR; simp_all; omega)
    · exfalso
      first | omega | contradiction | (clear h hz hC hR; simp_all; done) | (clear h hz hC hR; simp_all; omega)
    · exact hz _ _ hC hR
    · exfalso
      first | omega | contradiction | (clear h hz hC hR; simp_all; done) | (clear h hz hC hR; simp_all; omega)
  · refine h _ M1 (fun Zr hz => ?_)
    refine r_stays ha hb hs (RS_csm hR k2) (fun e1 => ?_) (fun e1 e2 e3 => ?_) (fun e1 e2 e3 e4 e5 => ?_) (fun e1 e2 e3 e4 e5 M2 q1 q2 => ?_)
    · exfalso
      first | omega | contradiction | (clear h hz hC hR; simp_all; done) | (clear h hz hC hR; simp_all; omega)
    · exfalso
      first | omega | contradiction | (clear h hz hC hR; simp_all; done) | (clear h hz hC hR; simp_all; omega)
    · exfalso
      first | omega | contradiction | (clear h hz hC hR; simp_all; done) | (clear h hz hC hR; simp_all; omega)
    · exact hz _ _ (CS_rsm k1 q2) q1
theorem ag_rounds {a b s : Nat} (ha : a < 2 ^ 32) (hb : b < 2 ^ 32) (hs : s < 2 ^ 32) (hC : CS M S) (hR : RS M S) (h : ∀ v0 M', (∀ Zr : Option ZV → ZM → Prop, (∀ M'' S', CS M'' S' → RS M'' S' → Zr (some (zi v0)) M'') → Ctr 0 G mi_R_rounds [zr 20 0, zi (nI a), zi (nI b), zi (nI s)] M' Zr) → Z (some (zi v0)) M') : Ctr 0 G mi_T_rounds [zr 5 0, zi (nI a), zi (nI b), zi (nI s)] M Z := by
  refine c_rounds ha hb hs hC (fun g1 => ?_) (fun g1 g2 g3 => ?_) (fun g1 g2 g3 g4 g5 => ?_) (fun g1 g2 g3 g4 g5 r hr1 hr2 hr3 hr4 M1 k1 k2 => ?_) (fun g1 g2 g3 g4 g5 hno M1 k1 k2 => ?_)
  · refine h _ M (fun Zr hz => ?_)
    refine r_rounds ha hb hs hR (fun e1 => ?_) (fun e1 e2 e3 => ?_) (fun e1 e2 e3 e4 e5 => ?_) (fun g1_ g2_ g3_ g4_ g5_ r_ hr1_ hr2_ hr3_ hr4_ M2 q1 q2 => ?_) (fun g1_ g2_ g3_ g4_ g5_ hno_ M2 q1 q2 => ?_)
    · exact hz _ _ hC hR
    · exfalso
      first | omega | contradiction | (clear h hz hC hR; simp_all; done) | (clear h hz hC hR; simp_all; omega)
    · exfalso
      first | omega | contradiction | (clear h hz hC hR; simp_all; done) | (clear h hz hC hR; simp_all; omega)
    · exfalso
      first | omega | contradiction | (clear h hz hC hR; simp_all; done) | (clear h hz hC hR; simp_all; omega)
    · exfalso
      first | omega | contradiction | (clear h hz hC hR; simp_all; done) | (clear h hz hC hR; simp_all; omega)
  · refine h _ M (fun Zr hz => ?_)
    refine r_rounds ha hb hs hR (fun e1 => ?_) (fun e1 e2 e3 => ?_) (fun e1 e2 e3 e4 e5 => ?_) (fun g1_ g2_ g3_ g4_ g5_ r_ hr1_ hr2_ hr3_ hr4_ M2 q1 q2 => ?_) (fun g1_ g2_ g3_ g4_ g5_ hno_ M2 q1 q2 => ?_)
    · exfalso
      first | omega | contradiction | (clear h hz hC hR; simp_all; done) | (clear h hz hC hR; simp_all; omega)
    · exact hz _ _ hC hR
    · exfalso
      first | omega | contradiction | (clear h hz hC hR; simp_all; done) | (clear h hz hC hR; simp_all; omega)
    · exfalso
      first | omega | contradiction | (clear h hz hC hR; simp_all; done) | (clear h hz hC hR; simp_all; omega)
    · exfalso
      first | omega | contradiction | (clear h hz hC hR; simp_all; done) | (clear h hz hC hR; simp_all; omega)
  · refine h _ M (fun Zr hz => ?_)
    refine r_rounds ha hb hs hR (fun e1 => ?_) (fun e1 e2 e3 => ?_) (fun e1 e2 e3 e4 e5 => ?_) (fun g1_ g2_ g3_ g4_ g5_ r_ hr1_ hr2_ hr3_ hr4_ M2 q1 q2 => ?_) (fun g1_ g2_ g3_ g4_ g5_ hno_ M2 q1 q2 => ?_)
    · exfalso
      first | omega | contradiction | (clear h hz hC hR; simp_all; done) | (clear h hz hC hR; simp_all; omega)
    · exfalso
      first | omega | contradiction | (clear h hz hC hR; simp_all; done) | (clear h hz hC hR; simp_all; omega)
    · exact hz _ _ hC hR
    · exfalso
      first | omega | contradiction | (clear h hz hC hR; simp_all; done) | (clear h hz hC hR; simp_all; omega)
    · exfalso
      first | omega | contradiction | (clear h hz hC hR; simp_all; done) | (clear h hz hC hR; simp_all; omega)
  · refine h _ M1 (fun Zr hz => ?_)
    refine r_rounds ha hb hs (RS_csm hR k2) (fun e1 => ?_) (fun e1 e2 e3 => ?_) (fun e1 e2 e3 e4 e5 => ?_) (fun g1_ g2_ g3_ g4_ g5_ r_ hr1_ hr2_ hr3_ hr4_ M2 q1 q2 => ?_) (fun g1_ g2_ g3_ g4_ g5_ hno_ M2 q1 q2 => ?_)
    · exfalso
      first | omega | contradiction | (clear h hz hC hR; simp_all; done) | (clear h hz hC hR; simp_all; omega)
    · exfalso
      first | omega | contradiction | (clear h hz hC hR; simp_all; done) | (clear h hz hC hR; simp_all; omega)
    · exfalso
      first | omega | contradiction | (clear h hz hC hR; simp_all; done) | (clear h hz hC hR; simp_all; omega)
    · rw [show r_ = r from by
          rcases Nat.lt_trichotomy r r_ with z | z | z
          · exact absurd hr3 (hr4_ r hr1 z)
          · exact z.symm
          · exact absurd hr3_ (hr4 r_ hr1_ z)]
      exact hz _ _ (CS_rsm k1 q2) q1
    · exfalso
      exact absurd hr3 (hno_ r hr1 hr2)
  · refine h _ M1 (fun Zr hz => ?_)
    refine r_rounds ha hb hs (RS_csm hR k2) (fun e1 => ?_) (fun e1 e2 e3 => ?_) (fun e1 e2 e3 e4 e5 => ?_) (fun g1_ g2_ g3_ g4_ g5_ r_ hr1_ hr2_ hr3_ hr4_ M2 q1 q2 => ?_) (fun g1_ g2_ g3_ g4_ g5_ hno_ M2 q1 q2 => ?_)
    · exfalso
      first | omega | contradiction | (clear h hz hC hR; simp_all; done) | (clear h hz hC hR; simp_all; omega)
    · exfalso
      first | omega | contradiction | (clear h hz hC hR; simp_all; done) | (clear h hz hC hR; simp_all; omega)
    · exfalso
      first | omega | contradiction | (clear h hz hC hR; simp_all; done) | (clear h hz hC hR; simp_all; omega)
    · exfalso
      exact absurd hr3_ (hno r_ hr1_ hr2_)
    · exact hz _ _ (CS_rsm k1 q2) q1
theorem ag_part {a s : Nat} (ha : a < 2 ^ 32) (hs : s < 2 ^ 32) (hC : CS M S) (hR : RS M S) (h : ∀ v0 M', (∀ Zr : Option ZV → ZM → Prop, (∀ M'' S', CS M'' S' → RS M'' S' → Zr (some (zi v0)) M'') → Ctr 0 G mi_R_part [zr 20 0, zi (nI a), zi (nI s)] M' Zr) → Z (some (zi v0)) M') : Ctr 0 G mi_T_part [zr 5 0, zi (nI a), zi (nI s)] M Z := by
  refine c_part ha hs hC (fun g1 => ?_) (fun g1 g2 => ?_) (fun g1 g2 g3 g4 => ?_) (fun g1 g2 g3 g4 g5 j hj hd hl M1 k1 k2 => ?_) (fun g1 g2 g3 g4 g5 hno M1 k1 k2 => ?_)
  · refine h _ M (fun Zr hz => ?_)
    refine r_part ha hs hR (fun e1 => ?_) (fun e1 e2 => ?_) (fun e1 e2 e3 e4 => ?_) (fun g1_ g2_ g3_ g4_ g5_ j_ hj_ hd_ hl_ M2 q1 q2 => ?_) (fun g1_ g2_ g3_ g4_ g5_ hno_ M2 q1 q2 => ?_)
    · exact hz _ _ hC hR
    · exfalso
      first | omega | contradiction | (clear h hz hC hR; simp_all; done) | (clear h hz hC hR; simp_all; omega)
    · exfalso
      first | omega | contradiction | (clear h hz hC hR; simp_all; done) | (clear h hz hC hR; simp_all; omega)
    · exfalso
      first | omega | contradiction | (clear h hz hC hR; simp_all; done) | (clear h hz hC hR; simp_all; omega)
    · exfalso
      first | omega | contradiction | (clear h hz hC hR; simp_all; done) | (clear h hz hC hR; simp_all; omega)
  · refine h _ M (fun Zr hz => ?_)
    refine r_part ha hs hR (fun e1 => ?_) (fun e1 e2 => ?_) (fun e1 e2 e3 e4 => ?_) (fun g1_ g2_ g3_ g4_ g5_ j_ hj_ hd_ hl_ M2 q1 q2 => ?_) (fun g1_ g2_ g3_ g4_ g5_ hno_ M2 q1 q2 => ?_)
    · exfalso
      first | omega | contradiction | (clear h hz hC hR; simp_all; done) | (clear h hz hC hR; simp_all; omega)
    · exact hz _ _ hC hR
    · exfalso
      first | omega | contradiction | (clear h hz hC hR; simp_all; done) | (clear h hz hC hR; simp_all; omega)
    · exfalso
      first | omega | contradiction | (clear h hz hC hR; simp_all; done) | (clear h hz hC hR; simp_all; omega)
    · exfalso
      first | omega | contradiction | (clear h hz hC hR; simp_all; done) | (clear h hz hC hR; simp_all; omega)
  · refine h _ M (fun Zr hz => ?_)
    refine r_part ha hs hR (fun e1 => ?_) (fun e1 e2 => ?_) (fun e1 e2 e3 e4 => ?_) (fun g1_ g2_ g3_ g4_ g5_ j_ hj_ hd_ hl_ M2 q1 q2 => ?_) (fun g1_ g2_ g3_ g4_ g5_ hno_ M2 q1 q2 => ?_)
    · exfalso
      first | omega | contradiction | (clear h hz hC hR; simp_all; done) | (clear h hz hC hR; simp_all; omega)
    · exfalso
      first | omega | contradiction | (clear h hz hC hR; simp_all; done) | (clear h hz hC hR; simp_all; omega)
    · exact hz _ _ hC hR
    · exfalso
      first | omega | contradiction | (clear h hz hC hR; simp_all; done) | (clear h hz hC hR; simp_all; omega)
    · exfalso
      first | omega | contradiction | (clear h hz hC hR; simp_all; done) | (clear h hz hC hR; simp_all; omega)
  · refine h _ M1 (fun Zr hz => ?_)
    refine r_part ha hs (RS_csm hR k2) (fun e1 => ?_) (fun e1 e2 => ?_) (fun e1 e2 e3 e4 => ?_) (fun g1_ g2_ g3_ g4_ g5_ j_ hj_ hd_ hl_ M2 q1 q2 => ?_) (fun g1_ g2_ g3_ g4_ g5_ hno_ M2 q1 q2 => ?_)
    · exfalso
      first | omega | contradiction | (clear h hz hC hR; simp_all; done) | (clear h hz hC hR; simp_all; omega)
    · exfalso
      first | omega | contradiction | (clear h hz hC hR; simp_all; done) | (clear h hz hC hR; simp_all; omega)
    · exfalso
      first | omega | contradiction | (clear h hz hC hR; simp_all; done) | (clear h hz hC hR; simp_all; omega)
    · rw [show j_ = j from by
          rcases Nat.lt_trichotomy j j_ with z | z | z
          · exact absurd hd (hl_ j z)
          · exact z.symm
          · exact absurd hd_ (hl j_ z)]
      exact hz _ _ (CS_rsm k1 q2) q1
    · exfalso
      exact absurd hd (hno_ j hj)
  · refine h _ M1 (fun Zr hz => ?_)
    refine r_part ha hs (RS_csm hR k2) (fun e1 => ?_) (fun e1 e2 => ?_) (fun e1 e2 e3 e4 => ?_) (fun g1_ g2_ g3_ g4_ g5_ j_ hj_ hd_ hl_ M2 q1 q2 => ?_) (fun g1_ g2_ g3_ g4_ g5_ hno_ M2 q1 q2 => ?_)
    · exfalso
      first | omega | contradiction | (clear h hz hC hR; simp_all; done) | (clear h hz hC hR; simp_all; omega)
    · exfalso
      first | omega | contradiction | (clear h hz hC hR; simp_all; done) | (clear h hz hC hR; simp_all; omega)
    · exfalso
      first | omega | contradiction | (clear h hz hC hR; simp_all; done) | (clear h hz hC hR; simp_all; omega)
    · exfalso
      exact absurd hd_ (hno j_ hj_)
    · exact hz _ _ (CS_rsm k1 q2) q1
theorem ag_listed {n : Nat} (hn : n < 2 ^ 32) (hC : CS M S) (hR : RS M S) (h : ∀ v0 M', (∀ Zr : Option ZV → ZM → Prop, (∀ M'' S', CS M'' S' → RS M'' S' → Zr (some (zi v0)) M'') → Ctr 0 G mi_R_listed [zr 20 0, zi (nI n)] M' Zr) → Z (some (zi v0)) M') : Ctr 0 G mi_T_listed [zr 5 0, zi (nI n)] M Z := by
  refine c_listed hn (fun g1 g2 => ?_) (fun g1 => ?_)
  · refine h _ M (fun Zr hz => ?_)
    refine r_listed hn hR (fun e1 e2 M2 q1 q2 => ?_) (fun e1 => ?_)
    · exact hz _ _ (CS_rsm hC q2) q1
    · exfalso
      first | omega | contradiction | (clear h hz hC hR; simp_all; done) | (clear h hz hC hR; simp_all; omega)
  · refine h _ M (fun Zr hz => ?_)
    refine r_listed hn hR (fun e1 e2 M2 q1 q2 => ?_) (fun e1 => ?_)
    · exfalso
      first | omega | contradiction | (clear h hz hC hR; simp_all; done) | (clear h hz hC hR; simp_all; omega)
    · exact hz _ _ hC hR
theorem ag_take {n i to : Nat} (hn : n < 2 ^ 32) (hi : i < 2 ^ 32) (hto : to < 2 ^ 32) (hC : CS M S) (hR : RS M S) (h : ∀ v0 M', (∀ Zr : Option ZV → ZM → Prop, (∀ M'' S', CS M'' S' → RS M'' S' → Zr (some (zi v0)) M'') → Ctr 0 G mi_R_take [zr 20 0, zi (nI n), zi (nI i), zi (nI to)] M' Zr) → Z (some (zi v0)) M') : Ctr 0 G mi_T_take [zr 5 0, zi (nI n), zi (nI i), zi (nI to)] M Z := by
  refine c_take hn hi hto hC (fun g1 => ?_) (fun g1 g2 => ?_) (fun g1 g2 g3 g4 g5 => ?_) (fun g1 g2 g3 g4 M1 k1 k2 => ?_)
  · refine h _ M (fun Zr hz => ?_)
    refine r_take hn hi hto hR (fun e1 => ?_) (fun e1 e2 => ?_) (fun e1 e2 e3 e4 e5 M2 q1 q2 => ?_) (fun e1 e2 e3 e4 M2 q1 q2 => ?_)
    · exact hz _ _ hC hR
    · exfalso
      first | omega | contradiction | (clear h hz hC hR; simp_all; done) | (clear h hz hC hR; simp_all; omega)
    · exfalso
      first | omega | contradiction | (clear h hz hC hR; simp_all; done) | (clear h hz hC hR; simp_all; omega)
    · exfalso
      first | omega | contradiction | (clear h hz hC hR; simp_all; done) | (clear h hz hC hR; simp_all; omega)
  · refine h _ M (fun Zr hz => ?_)
    refine r_take hn hi hto hR (fun e1 => ?_) (fun e1 e2 => ?_) (fun e1 e2 e3 e4 e5 M2 q1 q2 => ?_) (fun e1 e2 e3 e4 M2 q1 q2 => ?_)
    · exfalso
      first | omega | contradiction | (clear h hz hC hR; simp_all; done) | (clear h hz hC hR; simp_all; omega)
    · exact hz _ _ hC hR
    · exfalso
      first | omega | contradiction | (clear h hz hC hR; simp_all; done) | (clear h hz hC hR; simp_all; omega)
    · exfalso
      have := sz_le n e3 e2; omega
  · refine h _ M (fun Zr hz => ?_)
    refine r_take hn hi hto hR (fun e1 => ?_) (fun e1 e2 => ?_) (fun e1 e2 e3 e4 e5 M2 q1 q2 => ?_) (fun e1 e2 e3 e4 M2 q1 q2 => ?_)
    · exfalso
      first | omega | contradiction | (clear h hz hC hR; simp_all; done) | (clear h hz hC hR; simp_all; omega)
    · exfalso
      first | omega | contradiction | (clear h hz hC hR; simp_all; done) | (clear h hz hC hR; simp_all; omega)
    · exact hz _ _ (CS_rsm hC q2) q1
    · exfalso
      first | omega | contradiction | (clear h hz hC hR; simp_all; done) | (clear h hz hC hR; simp_all; omega)
  · refine h _ M1 (fun Zr hz => ?_)
    refine r_take hn hi hto (RS_csm hR k2) (fun e1 => ?_) (fun e1 e2 => ?_) (fun e1 e2 e3 e4 e5 M2 q1 q2 => ?_) (fun e1 e2 e3 e4 M2 q1 q2 => ?_)
    · exfalso
      first | omega | contradiction | (clear h hz hC hR; simp_all; done) | (clear h hz hC hR; simp_all; omega)
    · exfalso
      have := sz_le n g3 g2; omega
    · exfalso
      first | omega | contradiction | (clear h hz hC hR; simp_all; done) | (clear h hz hC hR; simp_all; omega)
    · exact hz _ _ (CS_rsm k1 q2) q1
theorem ag_count {c : Nat} (hc : c < 2 ^ 32) (hC : CS M S) (hR : RS M S) (h : ∀ v0 M', (∀ Zr : Option ZV → ZM → Prop, (∀ M'' S', CS M'' S' → RS M'' S' → Zr (some (zi v0)) M'') → Ctr 0 G mi_R_count [zr 20 0, zi (nI c)] M' Zr) → Z (some (zi v0)) M') : Ctr 0 G mi_T_count [zr 5 0, zi (nI c)] M Z := by
  refine c_count hc hC (fun g1 => ?_) (fun g1 => ?_) (fun g1 => ?_) (fun g1 => ?_) (fun g1 => ?_)
  · refine h _ M (fun Zr hz => ?_)
    refine r_count hc hR (fun e1 => ?_) (fun e1 => ?_) (fun e1 => ?_) (fun e1 => ?_) (fun e1 => ?_)
    · exact hz _ _ hC hR
    · exfalso
      first | omega | contradiction | (clear h hz hC hR; simp_all; done) | (clear h hz hC hR; simp_all; omega)
    · exfalso
      first | omega | contradiction | (clear h hz hC hR; simp_all; done) | (clear h hz hC hR; simp_all; omega)
    · exfalso
      first | omega | contradiction | (clear h hz hC hR; simp_all; done) | (clear h hz hC hR; simp_all; omega)
    · exfalso
      first | omega | contradiction | (clear h hz hC hR; simp_all; done) | (clear h hz hC hR; simp_all; omega)
  · refine h _ M (fun Zr hz => ?_)
    refine r_count hc hR (fun e1 => ?_) (fun e1 => ?_) (fun e1 => ?_) (fun e1 => ?_) (fun e1 => ?_)
    · exfalso
      first | omega | contradiction | (clear h hz hC hR; simp_all; done) | (clear h hz hC hR; simp_all; omega)
    · exact hz _ _ hC hR
    · exfalso
      first | omega | contradiction | (clear h hz hC hR; simp_all; done) | (clear h hz hC hR; simp_all; omega)
    · exfalso
      first | omega | contradiction | (clear h hz hC hR; simp_all; done) | (clear h hz hC hR; simp_all; omega)
    · exfalso
      first | omega | contradiction | (clear h hz hC hR; simp_all; done) | (clear h hz hC hR; simp_all; omega)
  · refine h _ M (fun Zr hz => ?_)
    refine r_count hc hR (fun e1 => ?_) (fun e1 => ?_) (fun e1 => ?_) (fun e1 => ?_) (fun e1 => ?_)
    · exfalso
      first | omega | contradiction | (clear h hz hC hR; simp_all; done) | (clear h hz hC hR; simp_all; omega)
    · exfalso
      first | omega | contradiction | (clear h hz hC hR; simp_all; done) | (clear h hz hC hR; simp_all; omega)
    · exact hz _ _ hC hR
    · exfalso
      first | omega | contradiction | (clear h hz hC hR; simp_all; done) | (clear h hz hC hR; simp_all; omega)
    · exfalso
      first | omega | contradiction | (clear h hz hC hR; simp_all; done) | (clear h hz hC hR; simp_all; omega)
  · refine h _ M (fun Zr hz => ?_)
    refine r_count hc hR (fun e1 => ?_) (fun e1 => ?_) (fun e1 => ?_) (fun e1 => ?_) (fun e1 => ?_)
    · exfalso
      first | omega | contradiction | (clear h hz hC hR; simp_all; done) | (clear h hz hC hR; simp_all; omega)
    · exfalso
      first | omega | contradiction | (clear h hz hC hR; simp_all; done) | (clear h hz hC hR; simp_all; omega)
    · exfalso
      first | omega | contradiction | (clear h hz hC hR; simp_all; done) | (clear h hz hC hR; simp_all; omega)
    · exact hz _ _ hC hR
    · exfalso
      first | omega | contradiction | (clear h hz hC hR; simp_all; done) | (clear h hz hC hR; simp_all; omega)
  · refine h _ M (fun Zr hz => ?_)
    refine r_count hc hR (fun e1 => ?_) (fun e1 => ?_) (fun e1 => ?_) (fun e1 => ?_) (fun e1 => ?_)
    · exfalso
      first | omega | contradiction | (clear h hz hC hR; simp_all; done) | (clear h hz hC hR; simp_all; omega)
    · exfalso
      first | omega | contradiction | (clear h hz hC hR; simp_all; done) | (clear h hz hC hR; simp_all; omega)
    · exfalso
      first | omega | contradiction | (clear h hz hC hR; simp_all; done) | (clear h hz hC hR; simp_all; omega)
    · exfalso
      first | omega | contradiction | (clear h hz hC hR; simp_all; done) | (clear h hz hC hR; simp_all; omega)
    · exact hz _ _ hC hR
theorem ag_braces {n i : Nat} (hn : n < 2 ^ 32) (hi : i < 2 ^ 32) (hC : CS M S) (hR : RS M S) (h : ∀ v0 M', (∀ Zr : Option ZV → ZM → Prop, (∀ M'' S', CS M'' S' → RS M'' S' → Zr (some (zi v0)) M'') → Ctr 0 G mi_R_braces [zr 20 0, zi (nI n), zi (nI i)] M' Zr) → Z (some (zi v0)) M') : Ctr 0 G mi_T_braces [zr 5 0, zi (nI n), zi (nI i)] M Z := by
  refine c_braces hn hi (fun g1 => ?_) (fun g1 g2 g3 p hp => ?_) (fun g1 g2 g3 p hp v hv hpv hc => ?_) (fun g1 g2 g3 p hp hle => ?_)
  · refine h _ M (fun Zr hz => ?_)
    refine r_braces hn hi (fun e1 => ?_) (fun g1_ g2_ g3_ p_ hp_ => ?_) (fun g1_ g2_ g3_ p_ hp_ v_ hv_ hpv_ hc_ => ?_) (fun g1_ g2_ g3_ p_ hp_ hle_ => ?_)
    · exact hz _ _ hC hR
    · exfalso
      first | omega | contradiction | (clear h hz hC hR; simp_all; done) | (clear h hz hC hR; simp_all; omega)
    · exfalso
      first | omega | contradiction | (clear h hz hC hR; simp_all; done) | (clear h hz hC hR; simp_all; omega)
    · exfalso
      first | omega | contradiction | (clear h hz hC hR; simp_all; done) | (clear h hz hC hR; simp_all; omega)
  · refine h _ M (fun Zr hz => ?_)
    refine r_braces hn hi (fun e1 => ?_) (fun g1_ g2_ g3_ p_ hp_ => ?_) (fun g1_ g2_ g3_ p_ hp_ v_ hv_ hpv_ hc_ => ?_) (fun g1_ g2_ g3_ p_ hp_ hle_ => ?_)
    · exfalso
      first | omega | contradiction | (clear h hz hC hR; simp_all; done) | (clear h hz hC hR; simp_all; omega)
    · rw [isBr_uniq hp_ hp]
      exact hz _ _ hC hR
    · exfalso
      first | omega | contradiction | (clear h hz hC hR; simp_all; done) | (clear h hz hC hR; simp_all; omega)
    · exfalso
      first | omega | contradiction | (clear h hz hC hR; simp_all; done) | (clear h hz hC hR; simp_all; omega)
  · refine h _ M (fun Zr hz => ?_)
    refine r_braces hn hi (fun e1 => ?_) (fun g1_ g2_ g3_ p_ hp_ => ?_) (fun g1_ g2_ g3_ p_ hp_ v_ hv_ hpv_ hc_ => ?_) (fun g1_ g2_ g3_ p_ hp_ hle_ => ?_)
    · exfalso
      first | omega | contradiction | (clear h hz hC hR; simp_all; done) | (clear h hz hC hR; simp_all; omega)
    · exfalso
      first | omega | contradiction | (clear h hz hC hR; simp_all; done) | (clear h hz hC hR; simp_all; omega)
    · obtain rfl := isBr_uniq hp_ hp
      rw [cnt_inj hpv_ hpv (hc_.trans hc.symm)]
      exact hz _ _ hC hR
    · exfalso
      obtain rfl := isBr_uniq hp_ hp
      exact absurd (cnt_step hpv hv) (by omega)
  · refine h _ M (fun Zr hz => ?_)
    refine r_braces hn hi (fun e1 => ?_) (fun g1_ g2_ g3_ p_ hp_ => ?_) (fun g1_ g2_ g3_ p_ hp_ v_ hv_ hpv_ hc_ => ?_) (fun g1_ g2_ g3_ p_ hp_ hle_ => ?_)
    · exfalso
      first | omega | contradiction | (clear h hz hC hR; simp_all; done) | (clear h hz hC hR; simp_all; omega)
    · exfalso
      first | omega | contradiction | (clear h hz hC hR; simp_all; done) | (clear h hz hC hR; simp_all; omega)
    · exfalso
      obtain rfl := isBr_uniq hp_ hp
      exact absurd (cnt_step hpv_ hv_) (by omega)
    · exact hz _ _ hC hR
end
