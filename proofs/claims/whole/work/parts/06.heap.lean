/-! ===== rows that read and write the world ===== -/
theorem wld_get {E : XE} {N a : Nat} {σ : Mm} (h : a < N) : (wld E N σ)[a]? = some (E.B + a, xcel E σ a) := by
  unfold wld
  rw [List.getElem?_map, List.getElem?_range h]
  rfl
theorem wld_len {E : XE} {N : Nat} {σ : Mm} : (wld E N σ).length = N := by
  unfold wld
  rw [List.length_map, List.length_range]
theorem wld_D {E : XE} {N : Nat} {σ : Mm} : va_D (xA E) (wld E N σ) := by
  have key : ∀ (k : Nat) (q : Nat × va_E), (wld E N σ)[k]? = some q → q.1 = E.B + k := by
    intro k q h
    have hk : k < N := by
      have := (List.getElem?_eq_some_iff.mp h).1
      rwa [wld_len] at this
    rw [wld_get hk] at h
    rw [← Option.some.inj h]
  refine ⟨fun i j x y hx hy hxy => ?_, fun k q h => ?_⟩
  · have h1 := key i x hx
    have h2 := key j y hy
    omega
  · show E.B ≤ q.1
    rw [key k q h]
    omega
theorem wld_set {E : XE} {N a : Nat} {σ τ : Mm} {w : va_E} (hw : xcel E τ a = w) (ho : ∀ b, b ≠ a → xcel E τ b = xcel E σ b) : (wld E N σ).set a (E.B + a, w) = wld E N τ := by
  apply List.ext_getElem?
  intro k
  by_cases hk : k < N
  · rw [wld_get hk]
    by_cases hka : a = k
    · subst hka
      rw [List.getElem?_set_self (by rw [wld_len]; exact hk), hw]
    · rw [List.getElem?_set_ne hka, wld_get hk, ho k (fun q => hka q.symm)]
  · have h1 : (wld E N τ)[k]? = none := List.getElem?_eq_none (by rw [wld_len]; omega)
    have h2 : ((wld E N σ).set a (E.B + a, w))[k]? = none := List.getElem?_eq_none (by rw [List.length_set, wld_len]; omega)
    rw [h1, h2]
theorem wld_size {E : XE} {N : Nat} {σ : Mm} {H : Heap} (hP : va_P E.D vwCl (wld E N σ) H) (h0 : E.B ≤ H.size) : E.B + N ≤ H.size := by
  cases N with
  | zero => exact h0
  | succ n =>
    have h := (hP n _ (wld_get (Nat.lt_succ_self n))).lt
    omega
theorem xcel_o {E : XE} {σ : Mm} {a ci : Nat} (h : shp a = .inl ci) : xcel E σ a = .inr (ci, (List.range (nFl ci)).map (fun i => xfv E (tyF ci i) σ a i)) := by
  unfold xcel
  rw [h]
theorem xcel_i {E : XE} {σ : Mm} {a t n : Nat} (h : shp a = .inr (t, n)) (ht : t < 3) : xcel E σ a = .inl (E.cA t, n, .inl (gi σ a)) := by
  unfold xcel
  rw [h]
  show Sum.inl (E.cA t, n, if t < 3 then _ else _) = _
  rw [if_pos ht]
theorem xcel_r {E : XE} {σ : Mm} {a t n : Nat} (h : shp a = .inr (t, n)) (ht : ¬ t < 3) : xcel E σ a = .inl (E.cA t, n, .inr (.inr (.inr (.inr (fun i => (gr σ a i).map (fun b => E.B + b)))))) := by
  unfold xcel
  rw [h]
  show Sum.inl (E.cA t, n, if t < 3 then _ else _) = _
  rw [if_neg ht]
theorem xfv_other {E : XE} {σ τ : Mm} {t : FieldType} {a i : Nat} (h1 : gi τ a i = gi σ a i) (h2 : gl τ a i = gl σ a i) (h3 : gr τ a i = gr σ a i) : xfv E t τ a i = xfv E t σ a i := by
  unfold xfv
  cases t <;> simp [h1, h2, h3]
theorem xcel_other {E : XE} {σ τ : Mm} {b : Nat} (h1 : ∀ i, gi τ b i = gi σ b i) (h2 : ∀ i, gl τ b i = gl σ b i) (h3 : ∀ i, gr τ b i = gr σ b i) : xcel E τ b = xcel E σ b := by
  unfold xcel
  have e1 : gi τ b = gi σ b := funext h1
  cases h : shp b with
  | inl ci =>
    show Sum.inr (ci, _) = Sum.inr (ci, _)
    congr 2
    exact List.map_congr_left fun i _ => xfv_other (h1 i) (h2 i) (h3 i)
  | inr x =>
    simp only [e1, h3]
theorem gi_si (σ : Mm) (a k b j : Nat) (v : Int32) : gi (si σ a k v) b j = if b = a ∧ j = k then v else gi σ b j := rfl
theorem gi_sl (σ : Mm) (a k b j : Nat) (v : Int64) : gi (sl σ a k v) b j = gi σ b j := rfl
theorem gi_sr (σ : Mm) (a k b j : Nat) (v : Option Nat) : gi (sr σ a k v) b j = gi σ b j := rfl
theorem gl_si (σ : Mm) (a k b j : Nat) (v : Int32) : gl (si σ a k v) b j = gl σ b j := rfl
theorem gl_sl (σ : Mm) (a k b j : Nat) (v : Int64) : gl (sl σ a k v) b j = if b = a ∧ j = k then v else gl σ b j := rfl
theorem gl_sr (σ : Mm) (a k b j : Nat) (v : Option Nat) : gl (sr σ a k v) b j = gl σ b j := rfl
theorem gr_si (σ : Mm) (a k b j : Nat) (v : Int32) : gr (si σ a k v) b j = gr σ b j := rfl
theorem gr_sl (σ : Mm) (a k b j : Nat) (v : Int64) : gr (sl σ a k v) b j = gr σ b j := rfl
theorem gr_sr (σ : Mm) (a k b j : Nat) (v : Option Nat) : gr (sr σ a k v) b j = if b = a ∧ j = k then v else gr σ b j := rfl
/-- a store in a field: the list of fields -/
theorem fs_set {f g : Nat → Value} {n k : Nat} {v : Value} (h1 : g k = v) (h2 : ∀ i, i ≠ k → g i = f i) : ((List.range n).map f).set k v = (List.range n).map g := by
  apply List.ext_getElem?
  intro j
  by_cases hj : j < n
  · rw [List.getElem?_map, List.getElem?_range hj]
    by_cases hk : k = j
    · subst hk
      rw [List.getElem?_set_self (by rw [List.length_map, List.length_range]; exact hj)]
      show some v = some (g k)
      rw [h1]
    · rw [List.getElem?_set_ne hk, List.getElem?_map, List.getElem?_range hj]
      show some (f j) = some (g j)
      rw [h2 j (fun q => hk q.symm)]
  · rw [List.getElem?_eq_none (by rw [List.length_set, List.length_map, List.length_range]; omega), List.getElem?_eq_none (by rw [List.length_map, List.length_range]; omega)]
/-- what is known of a class, of a field, of a callee -/
def CLx (ci : Nat) (C : String) (T : u_T) : Prop := vwCl[ci]? = some (C, T, nFl ci) ∧ (∀ w ∈ u_ws C T (nFl ci), w ∈ goodL) ∧ (∀ k, k < nFl ci → parseFieldDescriptor (T k).2.2.1 = some (tyF ci k)) ∧ (∀ a, a < nFl ci → ∀ b, b < nFl ci → a ≠ b → (T a).2.1 ≠ (T b).2.1)
def FIx (own : String) (idx ci k : Nat) (C : String) (T : u_T) : Prop := CLx ci C T ∧ k < nFl ci ∧ Cond.fieldLink own idx (T k).1 (T k).2.1 (T k).2.2.1 ∈ goodL
theorem cl_0 : CLx 0 RX0 TX0 := ⟨rfl, ws_in0, tyX0_ok, nmX0⟩
theorem cl_1 : CLx 1 RX1 TX1 := ⟨rfl, ws_in1, tyX1_ok, nmX1⟩
theorem cl_2 : CLx 2 RX2 TX2 := ⟨rfl, ws_in2, tyX2_ok, nmX2⟩
theorem cl_3 : CLx 3 RX3 TX3 := ⟨rfl, ws_in3, tyX3_ok, nmX3⟩
theorem cl_4 : CLx 4 RX4 TX4 := ⟨rfl, ws_in4, tyX4_ok, nmX4⟩
theorem cl_5 : CLx 5 RX5 TX5 := ⟨rfl, ws_in5, tyX5_ok, nmX5⟩
theorem cl_6 : CLx 6 RX6 TX6 := ⟨rfl, ws_in6, tyX6_ok, nmX6⟩
theorem okO_s {ci a : Nat} (h : okO ci a = true) : shp a = .inl ci := by
  unfold okO at h
  rw [Bool.and_eq_true, decide_eq_true_eq, decide_eq_true_eq] at h
  exact h.2
theorem okO_l {ci a : Nat} (h : okO ci a = true) : a < NT + 0 := by
  unfold okO at h
  rw [Bool.and_eq_true, decide_eq_true_eq, decide_eq_true_eq] at h
  exact h.1
theorem okA_l {t a : Nat} (h : okA t a = true) : a < NT + 0 := by
  unfold okA at h
  rw [Bool.and_eq_true, decide_eq_true_eq, decide_eq_true_eq] at h
  exact h.1
theorem okA_s {t a : Nat} (ht : t < 99) (h : okA t a = true) : shp a = .inr (t, arL a) := by
  unfold okA at h
  rw [Bool.and_eq_true, decide_eq_true_eq, decide_eq_true_eq] at h
  have h2 := h.2
  unfold arT at h2
  unfold arL
  cases hs : shp a with
  | inl c =>
    rw [hs] at h2
    have : 99 = t := h2
    omega
  | inr x =>
    rw [hs] at h2
    have e : x.1 = t := h2
    show Sum.inr x = Sum.inr (t, x.2)
    rw [← e]
theorem xK_warm {E : XE} {s U : State} (hW : s.WarmedH U.vm) (h : xK E s) : xK E U := by
  obtain ⟨h1, h2, h3⟩ := h
  refine ⟨fun w hw => word_at hW (good_of_word (gd_good hw)) (h1 w hw), fun w hw => ?_, va_K.moved hW.alike h3⟩
  have h4 := h2 w hw
  unfold nstW at hw
  simp only [List.mem_cons, List.not_mem_nil, or_false] at hw
  rcases hw with rfl | rfl | rfl | rfl | rfl | rfl | rfl | rfl | rfl | rfl | rfl | rfl | rfl
  all_goals first | exact va_Nw.warmM hW h4 | exact va_Nw.warmF hW h4 | exact va_AO.moved hW.alike h4
theorem xZ_moved {E : XE} {s U : State} {H H1 : Heap} (hvm : s.vm.Alike U.vm) (hq : ∀ a : Nat, a < H.size → ¬ xA E a → H1[a]? = H[a]?) (h : xZ E s H) : xZ E U H1 := by
  obtain ⟨h1, h2, h3, h4⟩ := h
  exact ⟨(h1.moved hvm).kept hq, (h2.moved hvm).kept hq, (h3.moved hvm).kept hq, (h4.moved hvm).kept hq⟩
/-- the start of a method, its ends -/
def xPc (E : XE) (N : Nat) (σ : Mm) (av : List Value) : Array Value → State → Prop := va_Pc av (fun U => xK E U ∧ xZ E U U.heap ∧ U.heap.size = E.B + N ∧ va_P E.D vwCl (wld E N σ) U.heap)
def xQi (E : XE) (N : Nat) (r : Int32 × Mm) : Array Value → State → Outcome → State → Prop := va_Qi (fun (v : Int32) (_ : Unit) => v = r.1) (fun _ t => va_P E.D vwCl (wld E N r.2) t.heap) (xA E)
def xQl (E : XE) (N : Nat) (r : Int64 × Mm) : Array Value → State → Outcome → State → Prop := va_Ql (fun (v : Int64) (_ : Unit) => v = r.1) (fun _ t => va_P E.D vwCl (wld E N r.2) t.heap) (xA E)
def xQv (E : XE) (N : Nat) (r : Mm) : Array Value → State → Outcome → State → Prop := va_Qv (fun (_ : Unit) => True) (fun _ t => va_P E.D vwCl (wld E N r) t.heap) (xA E)
theorem xPc_blind {E : XE} {N : Nat} {σ : Mm} {av : List Value} : FrameBlind (xPc E N σ av) := by
  intro a U g mk h
  obtain ⟨h1, h2, h3, h4, h5⟩ := h
  exact ⟨h1, xK_warm (U := U.calling g mk a) (State.WarmedH.refl U) h2, xZ_moved (U := U.calling g mk a) (Vm.Alike.refl U.vm) (fun _ _ _ => rfl) h3, h4, h5⟩
theorem bz_fits {v : Int32} (h : bz v = true) : fits .boolean (.int v) = true := by
  unfold bz at h
  rw [Bool.or_eq_true, decide_eq_true_eq, decide_eq_true_eq] at h
  rcases h with rfl | rfl <;> rfl
section HPS
variable {ρ : Type} {E : XE} {N0 nL : Nat} {own : String} {cc : ByteArray} {p : Program} {l : Launch} {e : Env} {R : Room} {s : State} {m : MethodId} {args : Array Value} {below : List Frame} {meth : Method} {c : Code} {cells slots : Nat} {Q : ρ → State → Prop} {pc : Nat} {lv lv' : List (Nat × Value)} {st : List Value} {σ : Mm} {X Y : Option ρ}
theorem W_sz {H : Heap} {locs : List Loc} {Z : State → Prop} {g : JFrame} (k : H.size ≤ s.heap.size + cells → W p l e R s m args below meth c H locs cells slots Z g) : W p l e R s m args below meth c H locs cells slots Z g := fun T hT X => k (by rw [← hT]; exact X.heapSize) T hT X
/-- a field is read: what it holds -/
theorem jr_get (hG : GG E N0 nL own cc p s m args c) {idx ci k a : Nat} {C : String} {T : u_T} (fi : FIx own idx ci k C T) (ho : shp a = .inl ci) (ha : a < N0 + cells) {v : Value} (hv : xfv E (tyF ci k) σ a k = v) (hd : decode cc pc = .ok (.getfield idx, 3))
    (kk : JR E N0 nL p l e R s m args below meth c cells slots Q (pc + 3) lv (v :: st) σ X) : JR E N0 nL p l e R s m args below meth c cells slots Q pc lv (.ref (E.B + a) :: st) σ X := by
  intro r hX H locs ls hP hS hl
  obtain ⟨hx, hb, -, hown, hts, hK, -⟩ := hG
  refine va_get (D := E.D) (tys := xtys E) hx hb hts fi.1.2.1 hown hK.2.2 hP a ((wld_get ha).trans (by rw [xcel_o ho])) fi.1.1 k fi.2.1 (hts _ fi.2.2) (fun _ h => h) (v := v) ?_ hd (kk r hX H locs ls hP hS hl)
  rw [List.getElem?_map, List.getElem?_range fi.2.1]
  exact congrArg some hv
theorem jr_getI (hG : GG E N0 nL own cc p s m args c) {idx ci k a : Nat} {C : String} {T : u_T} (fi : FIx own idx ci k C T) (ht : tyF ci k = .int) (ho : shp a = .inl ci) (ha : a < N0 + cells) (hd : decode cc pc = .ok (.getfield idx, 3))
    (kk : JR E N0 nL p l e R s m args below meth c cells slots Q (pc + 3) lv (.int (gi σ a k) :: st) σ X) : JR E N0 nL p l e R s m args below meth c cells slots Q pc lv (.ref (E.B + a) :: st) σ X := jr_get hG fi ho ha (by rw [ht]; rfl) hd kk
theorem jr_getZ (hG : GG E N0 nL own cc p s m args c) {idx ci k a : Nat} {C : String} {T : u_T} (fi : FIx own idx ci k C T) (ht : tyF ci k = .boolean) (ho : shp a = .inl ci) (ha : a < N0 + cells) (hd : decode cc pc = .ok (.getfield idx, 3))
    (kk : JR E N0 nL p l e R s m args below meth c cells slots Q (pc + 3) lv (.int (gi σ a k) :: st) σ X) : JR E N0 nL p l e R s m args below meth c cells slots Q pc lv (.ref (E.B + a) :: st) σ X := jr_get hG fi ho ha (by rw [ht]; rfl) hd kk
theorem jr_getL (hG : GG E N0 nL own cc p s m args c) {idx ci k a : Nat} {C : String} {T : u_T} (fi : FIx own idx ci k C T) (ht : tyF ci k = .long) (ho : shp a = .inl ci) (ha : a < N0 + cells) (hd : decode cc pc = .ok (.getfield idx, 3))
    (kk : JR E N0 nL p l e R s m args below meth c cells slots Q (pc + 3) lv (.long (gl σ a k) :: st) σ X) : JR E N0 nL p l e R s m args below meth c cells slots Q pc lv (.ref (E.B + a) :: st) σ X := jr_get hG fi ho ha (by rw [ht]; rfl) hd kk
def isRefTy : FieldType → Bool := fun t => match t with
  | .object _ => true
  | .array _ => true
  | _ => false
theorem xfv_ref {t : FieldType} (ht : isRefTy t = true) {a k b : Nat} (h : gr σ a k = some b) : xfv E t σ a k = .ref (E.B + b) := by
  cases t <;> simp [isRefTy] at ht <;> simp [xfv, h, va_rf]
theorem jr_getR (hG : GG E N0 nL own cc p s m args c) {idx ci k a : Nat} {C : String} {T : u_T} (fi : FIx own idx ci k C T) (ht : isRefTy (tyF ci k) = true) (ho : shp a = .inl ci) (ha : a < N0 + cells) (hd : decode cc pc = .ok (.getfield idx, 3)) {chk : Nat → Bool} {f : Nat → Option ρ}
    (kk : ∀ b, chk b = true → JR E N0 nL p l e R s m args below meth c cells slots Q (pc + 3) lv (.ref (E.B + b) :: st) σ (f b)) : JR E N0 nL p l e R s m args below meth c cells slots Q pc lv (.ref (E.B + a) :: st) σ (bR (gr σ a k) chk f) := by
  intro r hX
  cases hb : gr σ a k with
  | none => rw [hb] at hX; cases hX
  | some b =>
    rw [hb] at hX
    have hX : (if chk b then f b else none) = some r := hX
    by_cases hc : chk b = true
    · rw [if_pos hc] at hX
      exact jr_get hG fi ho ha (xfv_ref ht hb) hd (kk b hc) r hX
    · rw [if_neg hc] at hX; cases hX
/-- a field is written -/
theorem jr_put (hG : GG E N0 nL own cc p s m args c) {idx ci k a : Nat} {C : String} {T : u_T} (fi : FIx own idx ci k C T) (hfin : (T k).2.2.2 = false) (ho : shp a = .inl ci) (ha : a < N0 + cells) {v : Value} {τ : Mm} (hn : narrow (tyF ci k) v = v) (hf : fits (tyF ci k) v = true) (hv : xfv E (tyF ci k) τ a k = v) (h2 : ∀ i, i ≠ k → xfv E (tyF ci i) τ a i = xfv E (tyF ci i) σ a i) (h3 : ∀ b, b ≠ a → xcel E τ b = xcel E σ b) (hd : decode cc pc = .ok (.putfield idx, 3))
    (kk : JR E N0 nL p l e R s m args below meth c cells slots Q (pc + 3) lv st τ X) : JR E N0 nL p l e R s m args below meth c cells slots Q pc lv (v :: .ref (E.B + a) :: st) σ X := by
  intro r hX H locs ls hP hS hl
  obtain ⟨hx, hb, -, hown, hts, hK, -⟩ := hG
  have e1 : ((List.range (nFl ci)).map (fun i => xfv E (tyF ci i) σ a i)).set k v = (List.range (nFl ci)).map (fun i => xfv E (tyF ci i) τ a i) := fs_set hv h2
  refine va_put (D := E.D) (tys := xtys E) hx hb hts fi.1.2.1 (tyF ci) fi.1.2.2.1 fi.1.2.2.2 hown hK.2.2 hP wld_D hS a ((wld_get ha).trans (by rw [xcel_o ho])) fi.1.1 k fi.2.1 (hts _ fi.2.2) (fun _ h => h) hfin (fi.1.2.2.1 k fi.2.1) hn hf (by rw [List.length_map, List.length_range]; exact fi.2.1) hd (fun H1 locs1 hP1 _ hS1 => ?_)
  rw [e1] at hP1
  rw [wld_set (by rw [xcel_o ho]) h3] at hP1
  exact kk r hX H1 locs1 ls hP1 hS1 hl
theorem jr_putI (hG : GG E N0 nL own cc p s m args c) {idx ci k a : Nat} {C : String} {T : u_T} (fi : FIx own idx ci k C T) (ht : tyF ci k = .int) (hfin : (T k).2.2.2 = false) (ho : shp a = .inl ci) (ha : a < N0 + cells) {v : Int32} (hd : decode cc pc = .ok (.putfield idx, 3))
    (kk : JR E N0 nL p l e R s m args below meth c cells slots Q (pc + 3) lv st (si σ a k v) X) : JR E N0 nL p l e R s m args below meth c cells slots Q pc lv (.int v :: .ref (E.B + a) :: st) σ X := by
  refine jr_put (τ := si σ a k v) hG fi hfin ho ha (by rw [ht]; rfl) (by rw [ht]; rfl) (by rw [ht]; show Value.int (gi (si σ a k v) a k) = _; rw [gi_si, if_pos ⟨rfl, rfl⟩]) (fun i hi => xfv_other (by rw [gi_si, if_neg (fun q => hi q.2)]) rfl rfl) (fun b hb => xcel_other (fun i => by rw [gi_si, if_neg (fun q => hb q.1)]) (fun _ => rfl) (fun _ => rfl)) hd kk
theorem jr_putZ (hG : GG E N0 nL own cc p s m args c) {idx ci k a : Nat} {C : String} {T : u_T} (fi : FIx own idx ci k C T) (ht : tyF ci k = .boolean) (hfin : (T k).2.2.2 = false) (ho : shp a = .inl ci) (ha : a < N0 + cells) {v : Int32} (hz : bz v = true) (hd : decode cc pc = .ok (.putfield idx, 3))
    (kk : JR E N0 nL p l e R s m args below meth c cells slots Q (pc + 3) lv st (si σ a k v) X) : JR E N0 nL p l e R s m args below meth c cells slots Q pc lv (.int v :: .ref (E.B + a) :: st) σ X := by
  refine jr_put (τ := si σ a k v) hG fi hfin ho ha (by rw [ht]; exact bz_nar hz) (by rw [ht]; exact bz_fits hz) (by rw [ht]; show Value.int (gi (si σ a k v) a k) = _; rw [gi_si, if_pos ⟨rfl, rfl⟩]) (fun i hi => xfv_other (by rw [gi_si, if_neg (fun q => hi q.2)]) rfl rfl) (fun b hb => xcel_other (fun i => by rw [gi_si, if_neg (fun q => hb q.1)]) (fun _ => rfl) (fun _ => rfl)) hd kk
theorem jr_putL (hG : GG E N0 nL own cc p s m args c) {idx ci k a : Nat} {C : String} {T : u_T} (fi : FIx own idx ci k C T) (ht : tyF ci k = .long) (hfin : (T k).2.2.2 = false) (ho : shp a = .inl ci) (ha : a < N0 + cells) {v : Int64} (hd : decode cc pc = .ok (.putfield idx, 3))
    (kk : JR E N0 nL p l e R s m args below meth c cells slots Q (pc + 3) lv st (sl σ a k v) X) : JR E N0 nL p l e R s m args below meth c cells slots Q pc lv (.long v :: .ref (E.B + a) :: st) σ X := by
  refine jr_put (τ := sl σ a k v) hG fi hfin ho ha (by rw [ht]; rfl) (by rw [ht]; rfl) (by rw [ht]; show Value.long (gl (sl σ a k v) a k) = _; rw [gl_sl, if_pos ⟨rfl, rfl⟩]) (fun i hi => xfv_other rfl (by rw [gl_sl, if_neg (fun q => hi q.2)]) rfl) (fun b hb => xcel_other (fun _ => rfl) (fun i => by rw [gl_sl, if_neg (fun q => hb q.1)]) (fun _ => rfl)) hd kk
theorem jr_putR (hG : GG E N0 nL own cc p s m args c) {idx ci k a : Nat} {C : String} {T : u_T} (fi : FIx own idx ci k C T) (ht : isRefTy (tyF ci k) = true) (hfin : (T k).2.2.2 = false) (ho : shp a = .inl ci) (ha : a < N0 + cells) {v : Nat} (hd : decode cc pc = .ok (.putfield idx, 3))
    (kk : JR E N0 nL p l e R s m args below meth c cells slots Q (pc + 3) lv st (sr σ a k (some v)) X) : JR E N0 nL p l e R s m args below meth c cells slots Q pc lv (.ref (E.B + v) :: .ref (E.B + a) :: st) σ X := by
  refine jr_put (τ := sr σ a k (some v)) hG fi hfin ho ha (by cases h : tyF ci k <;> rfl) (by cases h : tyF ci k <;> rw [h] at ht <;> first | rfl | cases ht) (xfv_ref ht (by rw [gr_sr, if_pos ⟨rfl, rfl⟩])) (fun i hi => xfv_other rfl rfl (by rw [gr_sr, if_neg (fun q => hi q.2)])) (fun b hb => xcel_other (fun _ => rfl) (fun _ => rfl) (fun i => by rw [gr_sr, if_neg (fun q => hb q.1)])) hd kk
end HPS
