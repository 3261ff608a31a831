/-! ===== rows for constructors: cells are made ===== -/
theorem wld_push {E : XE} {N : Nat} {σ : Mm} {w : va_E} (hw : xcel E (sz0 σ N) N = w) : wld E N σ ++ [(E.B + N, w)] = wld E (N + 1) (sz0 σ N) := by
  unfold wld
  rw [List.range_succ, List.map_append, List.map_singleton, hw]
  congr 1
  refine List.map_congr_left fun a ha => ?_
  have hne : a ≠ N := by have := List.mem_range.mp ha; omega
  rw [xcel_other (σ := σ) (τ := sz0 σ N) (fun i => if_neg hne) (fun i => if_neg hne) (fun i => if_neg hne)]
theorem gi_sz0 (σ : Mm) (a b j : Nat) : gi (sz0 σ a) b j = if b = a then 0 else gi σ b j := rfl
theorem gl_sz0 (σ : Mm) (a b j : Nat) : gl (sz0 σ a) b j = if b = a then 0 else gl σ b j := rfl
theorem gr_sz0 (σ : Mm) (a b j : Nat) : gr (sz0 σ a) b j = if b = a then none else gr σ b j := rfl
def okTy : FieldType → Bool := fun t => match t with
  | .int => true
  | .boolean => true
  | .long => true
  | .object _ => true
  | .array _ => true
  | _ => false
theorem xfv_born {E : XE} {σ : Mm} {t : FieldType} {a i : Nat} (h : okTy t = true) : defaultValue t = xfv E t (sz0 σ a) a i := by
  have e1 : gi (sz0 σ a) a i = 0 := if_pos rfl
  have e2 : gl (sz0 σ a) a i = 0 := if_pos rfl
  have e3 : gr (sz0 σ a) a i = none := if_pos rfl
  cases t <;> first | (simp [okTy] at h; done) | (unfold xfv; simp only [e1, e2, e3]; rfl)
section CTR
variable {ρ : Type} {E : XE} {N0 nL : Nat} {own : String} {cc : ByteArray} {p : Program} {l : Launch} {e : Env} {R : Room} {s : State} {m : MethodId} {args : Array Value} {below : List Frame} {meth : Method} {c : Code} {cells slots cells' slots' : Nat} {Q : ρ → State → Prop} {pc : Nat} {lv lv' : List (Nat × Value)} {st st0 : List Value} {σ τ : Mm} {X : Option ρ}
theorem xA_up (hG : GG E N0 nL own cc p s m args c) : ∀ q, s.heap.size ≤ q → xA E q := by
  intro q h
  have := hG.2.2.2.2.2.2.2
  show E.B ≤ q
  omega
/-- the address of what is made -/
theorem new_at (hG : GG E N0 nL own cc p s m args c) {q : Nat} {w : va_E} {H1 : Heap} (hP : va_P E.D vwCl (wld E (N0 + cells) σ ++ [(q, w)]) H1) (hD : va_D (xA E) (wld E (N0 + cells) σ ++ [(q, w)])) (hz : H1.size ≤ s.heap.size + (cells + 1)) : q = E.B + (N0 + cells) := by
  have h0 := hG.2.2.2.2.2.2.2
  have hlast : (wld E (N0 + cells) σ ++ [(q, w)])[N0 + cells]? = some (q, w) := by
    rw [List.getElem?_append_right (by rw [wld_len]; exact Nat.le_refl _), wld_len, Nat.sub_self]; rfl
  have h1 := (hP _ _ hlast).lt
  have h2 : E.B ≤ q := hD.2 _ _ hlast
  by_cases hq : q < E.B + (N0 + cells)
  · exfalso
    have hk : q - E.B < N0 + cells := by omega
    have h3 : (wld E (N0 + cells) σ ++ [(q, w)])[q - E.B]? = some (E.B + (q - E.B), xcel E σ (q - E.B)) := by
      rw [List.getElem?_append_left (by rw [wld_len]; exact hk), wld_get hk]
    have h4 := hD.1 _ _ _ _ h3 hlast (by show E.B + (q - E.B) = q; omega)
    omega
  · have : q < H1.size := h1
    omega
theorem jr_newa (hG : GG E N0 nL own cc p s m args c) {at1 : ArrayType} {t n : Nat} {v : Int32} (hw : Cond.arrayClass (newarray.typeOf at1) ∈ goodL) (ht : t < 3) (hty : (xtys E)[t]? = some (E.cA t, newarray.typeOf at1)) (hok : newarray.typeOf at1 = .int ∨ newarray.typeOf at1 = .byte ∨ newarray.typeOf at1 = .boolean) (ho : shp (N0 + cells) = .inr (t, n)) (hv : v = nI n) (hn : n < 100000) (hc1 : cells + 1 = cells') (hs1 : slots + n = slots') (hR : cells' ≤ R.cells ∧ slots' ≤ R.slots) (hd : decode cc pc = .ok (.newarray at1, 2))
    (kk : JR E N0 nL p l e R s m args below meth c cells' slots' Q (pc + 2) lv (.ref (E.B + (N0 + cells)) :: st) (sz0 σ (N0 + cells)) X) : JR E N0 nL p l e R s m args below meth c cells slots Q pc lv (.int v :: st) σ X := by
  intro r hX H locs ls hP hS hl
  subst hc1 hs1 hv
  have hK := hG.2.2.2.2.2.1.2.2
  refine va_newa (D := E.D) (tys := xtys E) (a0 := (n, .inl (fun _ => 0))) (N' := n) hG.1 hG.2.1 (hG.2.2.2.2.1 _ hw) rfl hK hP wld_D hS (xA_up hG) (fun cA => ?_) (nI_pos (by omega)) (nI_clamp (by omega)) ?_ hR.1 hR.2 hd (fun q cA H1 hK1 hP1 hD1 hS1 => ?_)
  · rw [vp_cell_i]
    rcases hok with h | h | h <;> rw [h] <;> rfl
  · rcases hok with h | h | h <;> rw [h] <;> simp only [componentBytes] <;> omega
  · refine W_sz fun hz => ?_
    have hq := new_at hG hP1 hD1 hz
    have hcA : cA = E.cA t := by
      have h1 := (hK1.2 (xtys E).length _ (by rw [List.getElem?_append_right (Nat.le_refl _), Nat.sub_self]; rfl)).2
      have h2 := (hK.2 t _ hty).2
      rcases hok with h | h | h <;> simp only [h] at h1 h2 <;> exact Option.some.inj (h1.symm.trans h2)
    subst hq
    subst hcA
    rw [wld_push (by rw [xcel_i ho ht]; congr 4; funext k; exact if_pos rfl)] at hP1
    exact kk r hX H1 locs ls hP1 hS1 hl
theorem jr_anewa (hG : GG E N0 nL own cc p s m args c) {idx t n : Nat} {C : String} {v : Int32} (hw : Cond.classLink own idx C ∈ goodL) (hao : Cond.arrayOver (.object C) ∈ nstW) (ht : ¬ t < 3) (hty : (xtys E)[t]? = some (E.cA t, .object C)) (ho : shp (N0 + cells) = .inr (t, n)) (hv : v = nI n) (hn : n < 100000) (hc1 : cells + 1 = cells') (hs1 : slots + n = slots') (hR : cells' ≤ R.cells ∧ slots' ≤ R.slots) (hd : decode cc pc = .ok (.anewarray idx, 3))
    (kk : JR E N0 nL p l e R s m args below meth c cells' slots' Q (pc + 3) lv (.ref (E.B + (N0 + cells)) :: st) (sz0 σ (N0 + cells)) X) : JR E N0 nL p l e R s m args below meth c cells slots Q pc lv (.int v :: st) σ X := by
  intro r hX H locs ls hP hS hl
  subst hc1 hs1 hv
  have hK := hG.2.2.2.2.2.1.2.2
  refine va_newq (D := E.D) (tys := xtys E) (N' := n) hG.1 hG.2.1 hG.2.2.2.1 (hG.2.2.2.2.1 _ hw) (hG.2.2.2.2.2.1.2.1 _ hao) hK hP wld_D hS (xA_up hG) (nI_pos (by omega)) (nI_clamp (by omega)) (by omega) hR.1 hR.2 hd (fun q cA H1 hK1 hP1 hD1 hS1 => ?_)
  refine W_sz fun hz => ?_
  have hq := new_at hG hP1 hD1 hz
  have hcA : cA = E.cA t := by
    obtain ⟨_, _, -, -, -, h1⟩ := (hK1.2 (xtys E).length _ (by rw [List.getElem?_append_right (Nat.le_refl _), Nat.sub_self]; rfl)).2
    obtain ⟨_, _, -, -, -, h2⟩ := (hK.2 t _ hty).2
    exact Option.some.inj (h1.symm.trans h2)
  subst hq
  subst hcA
  rw [wld_push (by rw [xcel_r ho ht]; congr 7; funext k; rw [gr_sz0, if_pos rfl]; rfl)] at hP1
  exact kk r hX H1 locs ls hP1 hS1 hl
theorem jr_new (hG : GG E N0 nL own cc p s m args c) {idx ci : Nat} {C : String} {T : u_T} (hcl : CLx ci C T) (hw : Cond.classLink own idx C ∈ goodL) (hwi : Cond.instantiable C (nFl ci) ∈ goodL) (hwn : Cond.initialized C ∈ goodL) (hty : ∀ k, k < nFl ci → okTy (tyF ci k) = true) (ho : shp (N0 + cells) = .inl ci) (hc1 : cells + 1 = cells') (hs1 : slots + nFl ci = slots') (hR : cells' ≤ R.cells ∧ slots' ≤ R.slots) (hd : decode cc pc = .ok (.new idx, 3))
    (kk : JR E N0 nL p l e R s m args below meth c cells' slots' Q (pc + 3) lv (.ref (E.B + (N0 + cells)) :: st) (sz0 σ (N0 + cells)) X) : JR E N0 nL p l e R s m args below meth c cells slots Q pc lv st σ X := by
  intro r hX H locs ls hP hS hl
  subst hc1 hs1
  refine va_new (D := E.D) (tys := xtys E) (fs := (List.range (nFl ci)).map (fun i => xfv E (tyF ci i) (sz0 σ (N0 + cells)) (N0 + cells) i)) hG.1 hG.2.1 hG.2.2.2.2.1 hcl.2.1 (tyF ci) hcl.2.2.1 hG.2.2.2.1 (hG.2.2.2.2.1 _ hw) (hG.2.2.2.2.1 _ hwi) (hG.2.2.2.2.1 _ hwn) hG.2.2.2.2.2.1.2.2 hP wld_D hS (xA_up hG) hcl.1 (fun j hj => ?_) hR.1 hR.2 hd (fun q H1 hP1 hD1 hS1 => ?_)
  · unfold vp_V
    rw [List.getD_eq_getElem?_getD, List.getElem?_map, List.getElem?_range hj]
    exact xfv_born (hty j hj)
  · refine W_sz fun hz => ?_
    have hq := new_at hG hP1 hD1 hz
    subst hq
    rw [wld_push (by rw [xcel_o ho])] at hP1
    exact kk r hX H1 locs ls hP1 hS1 hl
theorem jr_objInit (hG : GG E N0 nL own cc p s m args c) {idx a : Nat} (hw : Cond.methodLink own idx objectInit ∈ goodL) (hwi : Cond.instanceMethod objectInit ∈ goodL) (hwc : Cond.code objectInit ⟨#[0xb1]⟩ 1 none ∈ goodL) (hd : decode cc pc = .ok (.invokespecial idx, 3)) (hR : 1 ≤ R.frames ∧ 12 ≤ R.locals)
    (kk : JR E N0 nL p l e R s m args below meth c cells slots Q (pc + 3) lv [] σ X) : JR E N0 nL p l e R s m args below meth c cells slots Q pc lv [.ref a] σ X := by
  intro r hX H locs ls hP hS hl
  exact W.objInit hG.1 hG.2.1 hG.2.2.2.1 (hG.2.2.2.2.1 _ hw) (hG.2.2.2.2.1 _ hwi) (hG.2.2.2.2.1 _ hwc) rfl (by rw [hG.2.2.1]; exact hl.1) rfl hd hR.1 (by show 0 + 0 + 12 ≤ _; exact hR.2) (kk r hX H locs ls hP hS hl)
/-- a final field is written by the constructor of its class -/
theorem jr_putF (hG : GG E N0 nL own cc p s m args c) (hin : meth.name = "<init>") {idx ci k a : Nat} {C : String} {T : u_T} (fi : FIx own idx ci k C T) (ht : isRefTy (tyF ci k) = true) (hfin : (T k).2.2.2 = true) (hdc : (T k).1 = own) (ho : shp a = .inl ci) (ha : a < N0 + cells) {v : Nat} (hd : decode cc pc = .ok (.putfield idx, 3))
    (kk : JR E N0 nL p l e R s m args below meth c cells slots Q (pc + 3) lv st (sr σ a k (some v)) X) : JR E N0 nL p l e R s m args below meth c cells slots Q pc lv (.ref (E.B + v) :: .ref (E.B + a) :: st) σ X := by
  intro r hX H locs ls hP hS hl
  obtain ⟨hx, hb, -, hown, hts, hK, -⟩ := hG
  have e1 : ((List.range (nFl ci)).map (fun i => xfv E (tyF ci i) σ a i)).set k (.ref (E.B + v)) = (List.range (nFl ci)).map (fun i => xfv E (tyF ci i) (sr σ a k (some v)) a i) := fs_set (xfv_ref ht (by rw [gr_sr, if_pos ⟨rfl, rfl⟩])) (fun i hi => xfv_other rfl rfl (by rw [gr_sr, if_neg (fun q => hi q.2)]))
  refine va_putF (D := E.D) (tys := xtys E) (ty := tyF ci k) hx hb hts fi.1.2.1 (tyF ci) fi.1.2.2.1 fi.1.2.2.2 hown hK.2.2 hP wld_D hS a ((wld_get ha).trans (by rw [xcel_o ho])) fi.1.1 k fi.2.1 (hts _ fi.2.2) (fun _ h => h) hfin hin hdc (fi.1.2.2.1 k fi.2.1) (by cases h : tyF ci k <;> rfl) (by cases h : tyF ci k <;> rw [h] at ht <;> first | rfl | cases ht) (by rw [List.length_map, List.length_range]; exact fi.2.1) hd (fun H1 locs1 hP1 _ hS1 => ?_)
  rw [e1] at hP1
  have h3 : ∀ b, b ≠ a → xcel E (sr σ a k (some v)) b = xcel E σ b := fun b hb => xcel_other (fun _ => rfl) (fun _ => rfl) (fun i => by rw [gr_sr, if_neg (fun q => hb q.1)])
  rw [wld_set (by rw [xcel_o ho]) h3] at hP1
  exact kk r hX H1 locs1 ls hP1 hS1 hl
theorem jr_aast (hG : GG E N0 nL own cc p s m args c) {a n t ci v : Nat} {C : String} {T : u_T} {i : Int32} (hcl : CLx ci C T) (ho : shp a = .inr (t, n)) (ht : ¬ t < 3) (htc : (xtys E)[t]? = some (E.cA t, .object C)) (ha : a < N0 + cells) (hov : shp v = .inl ci) (hav : v < N0 + cells) (hi : inb i n = true) (hd : decode cc pc = .ok (.aastore, 1))
    (kk : JR E N0 nL p l e R s m args below meth c cells slots Q (pc + 1) lv st (sr σ a (ix i) (some v)) X) : JR E N0 nL p l e R s m args below meth c cells slots Q pc lv (.ref (E.B + v) :: .int i :: .ref (E.B + a) :: st) σ X := by
  intro r hX H locs ls hP hS hl
  refine va_astq (D := E.D) (tys := xtys E) (r := (C, T, nFl ci)) hG.1 hG.2.1 hG.2.2.2.2.2.1.2.2 hP wld_D hS a t v ci ((wld_get ha).trans (by rw [xcel_r ho ht])) htc ((wld_get hav).trans (by rw [xcel_o hov])) hcl.1 (inb_in hi) hd (fun H1 locs1 hP1 _ hS1 => ?_)
  have ew : (wld E (N0 + cells) σ).set a (E.B + a, .inl (E.cA t, n, .inr (.inr (.inr (.inr (va_up (fun i => (gr σ a i).map (fun b => E.B + b)) i.toNatClampNeg (some (E.B + v)))))))) = wld E (N0 + cells) (sr σ a (ix i) (some v)) := wld_set (by
    rw [xcel_r ho ht]
    congr 7
    funext k
    rw [gr_sr]
    by_cases hk : k = i.toNatClampNeg
    · subst hk
      rw [if_pos ⟨rfl, rfl⟩]
      simp [va_up]
    · rw [if_neg (fun q => hk q.2)]
      simp [va_up, hk]) (fun b hb => xcel_other (fun _ => rfl) (fun _ => rfl) (fun i => by rw [gr_sr, if_neg (fun q => hb q.1)]))
  have hP2 : va_P E.D vwCl ((wld E (N0 + cells) σ).set a (E.B + a, .inl (E.cA t, n, .inr (.inr (.inr (.inr (va_up (fun i => (gr σ a i).map (fun b => E.B + b)) i.toNatClampNeg (some (E.B + v))))))))) H1 := hP1
  rw [ew] at hP2
  exact kk r hX H1 locs1 ls hP2 hS1 hl
variable {y : MethodName} {bytes : ByteArray} {maxL idx b : Nat} {rm : Room} {mc ms : Nat}
theorem jr_callIN (hG : GG E N0 nL own cc p s m args c) (hM : Met l y [Cond.code y bytes maxL none] rm (xPc E (N0 + cells) σ [.ref (E.B + b)]) (xQv E (N0 + cells') τ) mc ms (xA E)) (ci : CIx y bytes maxL none 0) (wl : Cond.methodLinkNest own idx y RX5 ∈ nstW) (hyi : y.name = "<init>") (wi : Cond.instanceMethod y ∈ goodL) (hrm : rm.cells = mc ∧ rm.slots = ms ∧ rm.frames + 1 ≤ R.frames ∧ 8 + (maxL + 11) + rm.locals ≤ R.locals) (hW : (st.map fun v => v.category).sum ≤ 8) (hd : decode cc pc = .ok (.invokespecial idx, 3)) (hc1 : cells + mc = cells') (hs1 : slots + ms = slots') (hf : cells' ≤ R.cells ∧ slots' ≤ R.slots)
    (kk : JR E N0 nL p l e R s m args below meth c cells' slots' Q (pc + 3) lv st τ X) : JR E N0 nL p l e R s m args below meth c cells slots Q pc lv (.ref (E.B + b) :: st) σ X := by
  intro r hX H locs ls hP hS hl
  subst hc1 hs1
  refine W_sz fun hz => ?_
  refine va_callv (va_runIN (As := []) (n := 0) (host := RX5) ⟨hG.1, hG.2.1, hG.2.2.1, hG.2.2.2.1, hG.2.2.2.2.1⟩ hM ⟨va_cnB 0 hG.2.2.2.2.1 (good_one ci.1) rfl hrm.1 hrm.2.1 (hG.2.2.2.2.2.1.2.1 _ wl) (hG.2.2.2.2.1 _ ci.2.1) ci.2.2 hrm.2.2, hyi, hG.2.2.2.2.1 _ wi⟩ ⟨xPc_blind, fun U hU hW => pre_of hG hP hS hz U hU hW⟩ rfl rfl hl.1 rfl (lv_room hW) hd hf) hS (fun _ _ h => h) (fun _ h => h) (fun u t H1 locs1 ht _ _ hB _ _ hS1 => ?_)
  exact kk r hX H1 locs1 ls (by rw [← ht]; exact hB) hS1 hl
theorem jr_callI (hG : GG E N0 nL own cc p s m args c) (hM : Met l y [Cond.code y bytes maxL none] rm (xPc E (N0 + cells) σ [.ref (E.B + b)]) (xQv E (N0 + cells') τ) mc ms (xA E)) (ci : CIx y bytes maxL none 0) (wl : Cond.methodLink own idx y ∈ goodL) (hyi : y.name = "<init>") (wi : Cond.instanceMethod y ∈ goodL) (hrm : rm.cells = mc ∧ rm.slots = ms ∧ rm.frames + 1 ≤ R.frames ∧ 8 + (maxL + 11) + rm.locals ≤ R.locals) (hW : (st.map fun v => v.category).sum ≤ 8) (hd : decode cc pc = .ok (.invokespecial idx, 3)) (hc1 : cells + mc = cells') (hs1 : slots + ms = slots') (hf : cells' ≤ R.cells ∧ slots' ≤ R.slots)
    (kk : JR E N0 nL p l e R s m args below meth c cells' slots' Q (pc + 3) lv st τ X) : JR E N0 nL p l e R s m args below meth c cells slots Q pc lv (.ref (E.B + b) :: st) σ X := by
  intro r hX H locs ls hP hS hl
  subst hc1 hs1
  refine W_sz fun hz => ?_
  refine va_callv (va_runI (As := []) (n := 0) ⟨hG.1, hG.2.1, hG.2.2.1, hG.2.2.2.1, hG.2.2.2.2.1⟩ hM ⟨call_b hG ci wl hrm, hyi, hG.2.2.2.2.1 _ wi⟩ ⟨xPc_blind, fun U hU hW => pre_of hG hP hS hz U hU hW⟩ rfl rfl hl.1 rfl (lv_room hW) hd hf) hS (fun _ _ h => h) (fun _ h => h) (fun u t H1 locs1 ht _ _ hB _ _ hS1 => ?_)
  exact kk r hX H1 locs1 ls (by rw [← ht]; exact hB) hS1 hl
/-- rows for what is known beforehand -/
theorem jr_iastK (hG : GG E N0 nL own cc p s m args c) {a n : Nat} {i x : Int32} (ho : shp a = .inr (0, n)) (ha : a < N0 + cells) (hi : inb i n = true) (hd : decode cc pc = .ok (.iastore, 1))
    (kk : JR E N0 nL p l e R s m args below meth c cells slots Q (pc + 1) lv st (si σ a (ix i) x) X) : JR E N0 nL p l e R s m args below meth c cells slots Q pc lv (.int x :: .int i :: .ref (E.B + a) :: st) σ X := by
  have h := jr_iast (Q := Q) (X := X) hG (i := i) (x := x) ho ha hd kk
  rw [if_pos hi] at h
  exact h
theorem jr_aaldK (hG : GG E N0 nL own cc p s m args c) {a n t b : Nat} {C : String} {i : Int32} (ho : shp a = .inr (t, n)) (ht : ¬ t < 3) (htc : (xtys E)[t]? = some (E.cA t, .object C)) (ha : a < N0 + cells) (hi : inb i n = true) (hb : gr σ a (ix i) = some b) (hd : decode cc pc = .ok (.aaload, 1))
    (kk : JR E N0 nL p l e R s m args below meth c cells slots Q (pc + 1) lv (.ref (E.B + b) :: st) σ X) : JR E N0 nL p l e R s m args below meth c cells slots Q pc lv (.int i :: .ref (E.B + a) :: st) σ X := by
  have h := jr_aald (Q := Q) (f := fun _ => X) (chk := fun z => decide (z = b)) hG (i := i) (st := st) (lv := lv) (σ := σ) ho ht htc ha hd (fun z hz => by rw [of_decide_eq_true hz]; exact kk)
  rw [if_pos hi, hb] at h
  have e : bR (some b) (fun z => decide (z = b)) (fun _ => X) = X := by unfold bR; simp
  rw [e] at h
  exact h
theorem jr_getK (hG : GG E N0 nL own cc p s m args c) {idx ci k a b : Nat} {C : String} {T : u_T} (fi : FIx own idx ci k C T) (ht : isRefTy (tyF ci k) = true) (ho : shp a = .inl ci) (ha : a < N0 + cells) (hb : gr σ a k = some b) (hd : decode cc pc = .ok (.getfield idx, 3))
    (kk : JR E N0 nL p l e R s m args below meth c cells slots Q (pc + 3) lv (.ref (E.B + b) :: st) σ X) : JR E N0 nL p l e R s m args below meth c cells slots Q pc lv (.ref (E.B + a) :: st) σ X := jr_get hG fi ho ha (xfv_ref ht hb) hd kk
theorem jr_geT (hG : GG E N0 nL own cc p s m args c) {x y : Int32} {off : Int} (tgt : Nat) (hd : decode cc pc = .ok (.if_icmp .ge off, 3)) (ht : (pc : Int) + off = (tgt : Int)) (h : y ≤ x) (kk : JR E N0 nL p l e R s m args below meth c cells slots Q tgt lv st σ X) : JR E N0 nL p l e R s m args below meth c cells slots Q pc lv (.int y :: .int x :: st) σ X := by
  have h1 := jr_icmp_ge (Q := Q) (X := X) (Y := X) hG tgt hd ht (fun _ => kk) (fun q => absurd h q)
  rw [if_pos h] at h1
  exact h1
theorem jr_geF (hG : GG E N0 nL own cc p s m args c) {x y : Int32} {off : Int} (tgt : Nat) (hd : decode cc pc = .ok (.if_icmp .ge off, 3)) (ht : (pc : Int) + off = (tgt : Int)) (h : ¬ y ≤ x) (kk : JR E N0 nL p l e R s m args below meth c cells slots Q (pc + 3) lv st σ X) : JR E N0 nL p l e R s m args below meth c cells slots Q pc lv (.int y :: .int x :: st) σ X := by
  have h1 := jr_icmp_ge (Q := Q) (X := X) (Y := X) hG tgt hd ht (fun q => absurd q h) (fun _ => kk)
  rw [if_neg h] at h1
  exact h1
end CTR
