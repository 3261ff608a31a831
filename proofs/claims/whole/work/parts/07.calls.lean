/-! ===== rows for arrays, calls, ends ===== -/
theorem xt_t {E : XE} {t : Nat} : (xtys E)[0]? = some (E.cA 0, .int) ∧ (xtys E)[1]? = some (E.cA 1, .byte) ∧ (xtys E)[2]? = some (E.cA 2, .boolean) := ⟨rfl, rfl, rfl⟩
/-- a copied stretch of an array of ints -/
def cpI (σ : Mm) (a0 a1 sp dp n : Nat) : Mm := (fun b j => if b = a1 then va_cpy (σ.1 a0) (σ.1 a1) sp dp n j else σ.1 b j, σ.2.1, σ.2.2)
theorem gi_cpI (σ : Mm) (a0 a1 sp dp n b j : Nat) : gi (cpI σ a0 a1 sp dp n) b j = if b = a1 then va_cpy (gi σ a0) (gi σ a1) sp dp n j else gi σ b j := rfl
theorem gl_cpI (σ : Mm) (a0 a1 sp dp n b j : Nat) : gl (cpI σ a0 a1 sp dp n) b j = gl σ b j := rfl
theorem gr_cpI (σ : Mm) (a0 a1 sp dp n b j : Nat) : gr (cpI σ a0 a1 sp dp n) b j = gr σ b j := rfl
def acOK (sp dp n : Int32) (n0 n1 : Nat) : Bool := decide (0 ≤ sp) && (decide (0 ≤ dp) && (decide (0 ≤ n) && (decide (ix sp + ix n ≤ n0) && decide (ix dp + ix n ≤ n1))))
def CIx (y : MethodName) (bytes : ByteArray) (maxL : Nat) (ret : Option FieldType) (n : Nat) : Prop := Cond.code y bytes maxL ret ∈ goodL ∧ Cond.initialized y.cls ∈ goodL ∧ (y.cls ≠ "java/lang/invoke/MethodHandle" ∧ y.cls ≠ "java/lang/invoke/VarHandle" ∧ (parseMethodDescriptor y.desc).map (fun d => d.parameters.length) = some n)
theorem good_one {w : Cond} (h : w ∈ goodL) : GoodIn goodL [w] := by
  intro v hv
  rw [List.mem_singleton.mp hv]
  exact ⟨h, good_of_word (gd_good h)⟩
section CLS
variable {ρ : Type} {E : XE} {N0 nL : Nat} {own : String} {cc : ByteArray} {p : Program} {l : Launch} {e : Env} {R : Room} {s : State} {m : MethodId} {args : Array Value} {below : List Frame} {meth : Method} {c : Code} {cells slots : Nat} {Q : ρ → State → Prop} {pc : Nat} {lv lv' : List (Nat × Value)} {st st0 : List Value} {σ : Mm} {X : Option ρ}
theorem jr_iald (hG : GG E N0 nL own cc p s m args c) {a n : Nat} {i : Int32} (ho : shp a = .inr (0, n)) (ha : a < N0 + cells) (hd : decode cc pc = .ok (.iaload, 1))
    (kk : JR E N0 nL p l e R s m args below meth c cells slots Q (pc + 1) lv (.int (gi σ a (ix i)) :: st) σ X) : JR E N0 nL p l e R s m args below meth c cells slots Q pc lv (.int i :: .ref (E.B + a) :: st) σ (if inb i n then X else none) :=
  jr_guard fun hi r hX H locs ls hP hS hl => va_iald (D := E.D) (tys := xtys E) hG.1 hG.2.1 hG.2.2.2.2.2.1.2.2 hP a 0 ((wld_get ha).trans (by rw [xcel_i ho (by decide)])) rfl (inb_in hi) hd (kk r hX H locs ls hP hS hl)
theorem jr_bald (hG : GG E N0 nL own cc p s m args c) {a n : Nat} {i : Int32} (ho : shp a = .inr (1, n)) (ha : a < N0 + cells) (hd : decode cc pc = .ok (.baload, 1))
    (kk : JR E N0 nL p l e R s m args below meth c cells slots Q (pc + 1) lv (.int (gi σ a (ix i)) :: st) σ X) : JR E N0 nL p l e R s m args below meth c cells slots Q pc lv (.int i :: .ref (E.B + a) :: st) σ (if inb i n then X else none) :=
  jr_guard fun hi r hX H locs ls hP hS hl => va_bald (D := E.D) (tys := xtys E) hG.1 hG.2.1 hG.2.2.2.2.2.1.2.2 hP a 1 ((wld_get ha).trans (by rw [xcel_i ho (by decide)])) rfl (inb_in hi) hd (kk r hX H locs ls hP hS hl)
theorem jr_zald (hG : GG E N0 nL own cc p s m args c) {a n : Nat} {i : Int32} (ho : shp a = .inr (2, n)) (ha : a < N0 + cells) (hd : decode cc pc = .ok (.baload, 1))
    (kk : JR E N0 nL p l e R s m args below meth c cells slots Q (pc + 1) lv (.int (gi σ a (ix i)) :: st) σ X) : JR E N0 nL p l e R s m args below meth c cells slots Q pc lv (.int i :: .ref (E.B + a) :: st) σ (if inb i n then X else none) :=
  jr_guard fun hi r hX H locs ls hP hS hl => va_zald (D := E.D) (tys := xtys E) hG.1 hG.2.1 hG.2.2.2.2.2.1.2.2 hP a 2 ((wld_get ha).trans (by rw [xcel_i ho (by decide)])) rfl (inb_in hi) hd (kk r hX H locs ls hP hS hl)
theorem st_row {t n a j : Nat} {x : Int32} (ho : shp a = .inr (t, n)) (ht : t < 3) {N : Nat} : (wld E N σ).set a (E.B + a, .inl (E.cA t, n, .inl (upd (gi σ a) j x))) = wld E N (si σ a j x) :=
  wld_set (by
    rw [xcel_i ho ht]
    congr 4
    funext k
    rw [gi_si]
    by_cases hk : k = j
    · subst hk
      rw [if_pos ⟨rfl, rfl⟩]
      simp [upd]
    · rw [if_neg (fun q => hk q.2)]
      simp [upd, hk]) (fun b hb => xcel_other (fun i => by rw [gi_si, if_neg (fun q => hb q.1)]) (fun _ => rfl) (fun _ => rfl))
theorem jr_iast (hG : GG E N0 nL own cc p s m args c) {a n : Nat} {i x : Int32} (ho : shp a = .inr (0, n)) (ha : a < N0 + cells) (hd : decode cc pc = .ok (.iastore, 1))
    (kk : JR E N0 nL p l e R s m args below meth c cells slots Q (pc + 1) lv st (si σ a (ix i) x) X) : JR E N0 nL p l e R s m args below meth c cells slots Q pc lv (.int x :: .int i :: .ref (E.B + a) :: st) σ (if inb i n then X else none) :=
  jr_guard fun hi r hX H locs ls hP hS hl => va_iast (D := E.D) (tys := xtys E) hG.1 hG.2.1 hG.2.2.2.2.2.1.2.2 hP wld_D hS a 0 ((wld_get ha).trans (by rw [xcel_i ho (by decide)])) rfl (inb_in hi) hd (fun H1 locs1 hP1 _ hS1 => kk r hX H1 locs1 ls (by rw [st_row ho (by decide)] at hP1; exact hP1) hS1 hl)
theorem jr_bast (hG : GG E N0 nL own cc p s m args c) {a n : Nat} {i x : Int32} (ho : shp a = .inr (1, n)) (ha : a < N0 + cells) (hd : decode cc pc = .ok (.bastore, 1))
    (kk : JR E N0 nL p l e R s m args below meth c cells slots Q (pc + 1) lv st (si σ a (ix i) x.toInt8.toInt32) X) : JR E N0 nL p l e R s m args below meth c cells slots Q pc lv (.int x :: .int i :: .ref (E.B + a) :: st) σ (if inb i n then X else none) :=
  jr_guard fun hi r hX H locs ls hP hS hl => va_bast (D := E.D) (tys := xtys E) hG.1 hG.2.1 hG.2.2.2.2.2.1.2.2 hP wld_D hS a 1 ((wld_get ha).trans (by rw [xcel_i ho (by decide)])) rfl (inb_in hi) hd (fun H1 locs1 hP1 _ hS1 => kk r hX H1 locs1 ls (by rw [vp_nar_byte, st_row ho (by decide)] at hP1; exact hP1) hS1 hl)
theorem jr_zast (hG : GG E N0 nL own cc p s m args c) {a n : Nat} {i x : Int32} (ho : shp a = .inr (2, n)) (ha : a < N0 + cells) (hd : decode cc pc = .ok (.bastore, 1))
    (kk : JR E N0 nL p l e R s m args below meth c cells slots Q (pc + 1) lv st (si σ a (ix i) (x &&& 1)) X) : JR E N0 nL p l e R s m args below meth c cells slots Q pc lv (.int x :: .int i :: .ref (E.B + a) :: st) σ (if inb i n then X else none) :=
  jr_guard fun hi r hX H locs ls hP hS hl => va_zast (D := E.D) (tys := xtys E) hG.1 hG.2.1 hG.2.2.2.2.2.1.2.2 hP wld_D hS a 2 ((wld_get ha).trans (by rw [xcel_i ho (by decide)])) rfl (inb_in hi) hd (fun H1 locs1 hP1 _ hS1 => kk r hX H1 locs1 ls (by rw [show vp_nar .boolean x = x &&& 1 from rfl, st_row ho (by decide)] at hP1; exact hP1) hS1 hl)
theorem jr_aald (hG : GG E N0 nL own cc p s m args c) {a n t : Nat} {C : String} {i : Int32} (ho : shp a = .inr (t, n)) (ht : ¬ t < 3) (htc : (xtys E)[t]? = some (E.cA t, .object C)) (ha : a < N0 + cells) (hd : decode cc pc = .ok (.aaload, 1)) {chk : Nat → Bool} {f : Nat → Option ρ}
    (kk : ∀ b, chk b = true → JR E N0 nL p l e R s m args below meth c cells slots Q (pc + 1) lv (.ref (E.B + b) :: st) σ (f b)) : JR E N0 nL p l e R s m args below meth c cells slots Q pc lv (.int i :: .ref (E.B + a) :: st) σ (if inb i n then bR (gr σ a (ix i)) chk f else none) :=
  jr_guard fun hi r hX H locs ls hP hS hl => by
    cases hb : gr σ a (ix i) with
    | none => rw [hb] at hX; cases hX
    | some b =>
      rw [hb] at hX
      have hX : (if chk b then f b else none) = some r := hX
      by_cases hc : chk b = true
      · rw [if_pos hc] at hX
        refine va_aldq (D := E.D) (tys := xtys E) hG.1 hG.2.1 hG.2.2.2.2.2.1.2.2 hP a t ((wld_get ha).trans (by rw [xcel_r ho ht])) htc (inb_in hi) hd ?_
        have e2 : va_rf ((gr σ a i.toNatClampNeg).map (fun b => E.B + b)) = .ref (E.B + b) := by rw [show gr σ a i.toNatClampNeg = some b from hb]; rfl
        rw [e2]
        exact kk b hc r hX H locs ls hP hS hl
      · rw [if_neg hc] at hX; cases hX
theorem jr_acopy (hG : GG E N0 nL own cc p s m args c) {idx a0 a1 n0 n1 : Nat} {sp dp n : Int32} (hw : Cond.methodLink own idx arraycopyName ∈ goodL) (h0 : shp a0 = .inr (0, n0)) (h1 : shp a1 = .inr (0, n1)) (ha0 : a0 < N0 + cells) (ha1 : a1 < N0 + cells) (hwn : Cond.native arraycopyName ∈ goodL) (hws : Cond.static arraycopyName ∈ goodL) (hwi : Cond.initialized "java/lang/System" ∈ goodL) (hf : 1 ≤ R.frames) (hlo : (st.map fun v => v.category).sum + (nativeFrameWords "java/lang/System" "arraycopy" 5 + 11) ≤ R.locals) (hd : decode cc pc = .ok (.invokestatic idx, 3))
    (kk : JR E N0 nL p l e R s m args below meth c cells slots Q (pc + 3) lv st (cpI σ a0 a1 (ix sp) (ix dp) (ix n)) X) : JR E N0 nL p l e R s m args below meth c cells slots Q pc lv (.int n :: .int dp :: .ref (E.B + a1) :: .int sp :: .ref (E.B + a0) :: st) σ (if acOK sp dp n n0 n1 then X else none) :=
  jr_guard fun hi r hX H locs ls hP hS hl => by
    unfold acOK at hi
    simp only [Bool.and_eq_true, decide_eq_true_eq] at hi
    obtain ⟨i1, i2, i3, i4, i5⟩ := hi
    refine va_copyi (D := E.D) (tys := xtys E) (ty := .int) hG.1 hG.2.1 (hG.2.2.1.trans hl.1.symm) hG.2.2.2.1 (hG.2.2.2.2.1 _ hw) (hG.2.2.2.2.1 _ hwn) (hG.2.2.2.2.1 _ hws) (hG.2.2.2.2.1 _ hwi) hG.2.2.2.2.2.1.2.2 hP wld_D hS a0 a1 0 0 ((wld_get ha0).trans (by rw [xcel_i h0 (by decide)])) ((wld_get ha1).trans (by rw [xcel_i h1 (by decide)])) rfl rfl rfl (Int32.not_lt.mpr i1) (Int32.not_lt.mpr i2) (Int32.not_lt.mpr i3) i4 i5 (fun i _ => rfl) hf hlo hd (fun H1 locs1 hP1 _ hS1 => kk r hX H1 locs1 ls ?_ hS1 hl)
    have ew : (wld E (N0 + cells) σ).set a1 (E.B + a1, .inl (E.cA 0, n1, .inl (va_cpy (gi σ a0) (gi σ a1) (ix sp) (ix dp) (ix n)))) = wld E (N0 + cells) (cpI σ a0 a1 (ix sp) (ix dp) (ix n)) := wld_set (by
      rw [xcel_i h1 (by decide)]
      congr 4
      funext k
      rw [gi_cpI, if_pos rfl]) (fun b hb => xcel_other (fun i => by rw [gi_cpI, if_neg hb]) (fun _ => rfl) (fun _ => rfl))
    have hP2 : va_P E.D vwCl ((wld E (N0 + cells) σ).set a1 (E.B + a1, .inl (E.cA 0, n1, .inl (va_cpy (gi σ a0) (gi σ a1) (ix sp) (ix dp) (ix n))))) H1 := hP1
    rw [ew] at hP2
    exact hP2
theorem jr_getsL (hG : GG E N0 nL RX2 cc p s m args c) (hd : decode cc pc = .ok (.getstatic 67, 3)) (kk : JR E N0 nL p l e R s m args below meth c cells slots Q (pc + 3) lv (.ref E.tL :: st) σ X) : JR E N0 nL p l e R s m args below meth c cells slots Q pc lv st σ X := fun r hX H locs ls hP hS hl => va_getsN hG.1 hG.2.1 hG.2.2.2.2.2.2.1.1 hS hG.2.2.2.1 (va_Nw.use rfl (hG.2.2.2.2.2.1.2.1 _ (List.mem_of_getElem? (i := 8) rfl))) (fun _ h => h) hd (kk r hX H locs ls hP hS hl)
theorem jr_getsB (hG : GG E N0 nL RX2 cc p s m args c) (hd : decode cc pc = .ok (.getstatic 71, 3)) (kk : JR E N0 nL p l e R s m args below meth c cells slots Q (pc + 3) lv (.ref E.tB :: st) σ X) : JR E N0 nL p l e R s m args below meth c cells slots Q pc lv st σ X := fun r hX H locs ls hP hS hl => va_getsN hG.1 hG.2.1 hG.2.2.2.2.2.2.1.2.2.1 hS hG.2.2.2.1 (va_Nw.use rfl (hG.2.2.2.2.2.1.2.1 _ (List.mem_of_getElem? (i := 9) rfl))) (fun _ h => h) hd (kk r hX H locs ls hP hS hl)
theorem jr_tL (hG : GG E N0 nL own cc p s m args c) {i : Int32} (hd : decode cc pc = .ok (.caload, 1)) (kk : JR E N0 nL p l e R s m args below meth c cells slots Q (pc + 1) lv (.int (letC (ix i)) :: st) σ X) : JR E N0 nL p l e R s m args below meth c cells slots Q pc lv (.int i :: .ref E.tL :: st) σ (if inb i 6 then X else none) :=
  jr_guard fun hi r hX H locs ls hP hS hl => va_tc hG.1 hG.2.1 hG.2.2.2.2.2.2.1.2.1 hS (inb_in hi) rfl hd (kk r hX H locs ls hP hS hl)
theorem jr_tB (hG : GG E N0 nL own cc p s m args c) {i : Int32} (hd : decode cc pc = .ok (.iaload, 1)) (kk : JR E N0 nL p l e R s m args below meth c cells slots Q (pc + 1) lv (.int (besC (ix i)) :: st) σ X) : JR E N0 nL p l e R s m args below meth c cells slots Q pc lv (.int i :: .ref E.tB :: st) σ (if inb i 6 then X else none) :=
  jr_guard fun hi r hX H locs ls hP hS hl => va_ti hG.1 hG.2.1 hG.2.2.2.2.2.2.1.2.2.2 hS (inb_in hi) rfl hd (kk r hX H locs ls hP hS hl)
/-- what a callee finds -/
theorem pre_of (hG : GG E N0 nL own cc p s m args c) {H : Heap} {locs : List Loc} (hP : va_P E.D vwCl (wld E (N0 + cells) σ) H) (hS : va_S (xA E) s.heap H locs) (hz : H.size ≤ s.heap.size + cells) {av : List Value} (U : State) (hU : U.heap = H) (hW : s.WarmedH U.vm) : xPc E (N0 + cells) σ av av.toArray U := by
  obtain ⟨-, -, -, -, -, hK, hZ, h0⟩ := hG
  refine ⟨rfl, xK_warm hW hK, ?_, ?_, ?_⟩
  · rw [hU]
    exact xZ_moved hW.alike (fun a h1 h2 => hS.2.1 a h1 h2) hZ
  · rw [hU]
    have h1 := wld_size hP (by have := hS.1; omega)
    omega
  · rw [hU]; exact hP
variable {y : MethodName} {bytes : ByteArray} {maxL n idx cn b : Nat} {ret : Option FieldType} {rm : Room} {As : List Value} {T : u_T} {H : Heap} {locs : List Loc} {ls : Array Slot} {mc ms : Nat} {Qc : Array Value → State → Outcome → State → Prop}
theorem call_b (hG : GG E N0 nL own cc p s m args c) (ci : CIx y bytes maxL ret n) (wl : Cond.methodLink own idx y ∈ goodL) (hrm : rm.cells = mc ∧ rm.slots = ms ∧ rm.frames + 1 ≤ R.frames ∧ 8 + (maxL + 11) + rm.locals ≤ R.locals) : CallB R s args own idx y bytes maxL ret [Cond.code y bytes maxL ret] rm mc ms n :=
  callB_of n hG.2.2.2.2.1 (good_one ci.1) rfl hrm.1 hrm.2.1 (hG.2.2.2.2.1 _ ci.2.1) (hG.2.2.2.2.1 _ wl) ci.2.2 hrm.2.2
theorem run_V (hG : GG E N0 nL own cc p s m args c) (hM : Met l y [Cond.code y bytes maxL ret] rm (xPc E (N0 + cells) σ (.ref (E.B + b) :: As)) Qc mc ms (xA E)) (ci : CIx y bytes maxL ret n) (wl : Cond.methodLink own idx y ∈ goodL) (wi : Cond.instanceMethod y ∈ goodL ∧ Cond.selects y.cls y y ∈ goodL) (hcl : CLx cn y.cls T) (ho : shp b = .inl cn) (hb : b < N0 + cells) (hrm : rm.cells = mc ∧ rm.slots = ms ∧ rm.frames + 1 ≤ R.frames ∧ 8 + (maxL + 11) + rm.locals ≤ R.locals)
    (hP : va_P E.D vwCl (wld E (N0 + cells) σ) H) (hS : va_S (xA E) s.heap H locs) (hl : lv_has ls nL lv) (hz : H.size ≤ s.heap.size + cells) (hn : As.length = n) (hst : st0 = As.reverse ++ .ref (E.B + b) :: st) (hW : (st.map fun v => v.category).sum ≤ 8) (hd : decode cc pc = .ok (.invokevirtual idx, 3)) (hf : cells + mc ≤ R.cells ∧ slots + ms ≤ R.slots) :
    va_Run p l e R s m args below meth c H locs cells slots mc ms (F0 m pc ls st0) st (Qc (Value.ref (E.B + b) :: As).toArray) (xA E) :=
  va_runV (C := y.cls) ⟨hG.1, hG.2.1, hG.2.2.1, hG.2.2.2.1, hG.2.2.2.2.1⟩ hM ⟨call_b hG ci wl hrm, hG.2.2.2.2.1 _ wi.1, hG.2.2.2.2.1 _ wi.2⟩ ⟨xPc_blind, va_recv hG.2.2.2.2.2.1.2.2 hP hcl.1 ((wld_get hb).trans (by rw [xcel_o ho])), fun U hU hW => pre_of hG hP hS hz U hU hW⟩ rfl hn hl.1 hst (lv_room hW) hd hf
theorem run_S (hG : GG E N0 nL own cc p s m args c) (hM : Met l y [Cond.code y bytes maxL ret] rm (xPc E (N0 + cells) σ As) Qc mc ms (xA E)) (ci : CIx y bytes maxL ret n) (wl : Cond.methodLink own idx y ∈ goodL) (wi : Cond.static y ∈ goodL) (hrm : rm.cells = mc ∧ rm.slots = ms ∧ rm.frames + 1 ≤ R.frames ∧ 8 + (maxL + 11) + rm.locals ≤ R.locals)
    (hP : va_P E.D vwCl (wld E (N0 + cells) σ) H) (hS : va_S (xA E) s.heap H locs) (hl : lv_has ls nL lv) (hz : H.size ≤ s.heap.size + cells) (hn : As.length = n) (hst : st0 = As.reverse ++ st) (hW : (st.map fun v => v.category).sum ≤ 8) (hd : decode cc pc = .ok (.invokestatic idx, 3)) (hf : cells + mc ≤ R.cells ∧ slots + ms ≤ R.slots) :
    va_Run p l e R s m args below meth c H locs cells slots mc ms (F0 m pc ls st0) st (Qc As.toArray) (xA E) :=
  va_runS ⟨hG.1, hG.2.1, hG.2.2.1, hG.2.2.2.1, hG.2.2.2.2.1⟩ hM ⟨call_b hG ci wl hrm, hG.2.2.2.2.1 _ wi⟩ ⟨xPc_blind, fun U hU hW => pre_of hG hP hS hz U hU hW⟩ rfl hn hl.1 hst (lv_room hW) hd hf
theorem run_SN (hG : GG E N0 nL own cc p s m args c) (hM : Met l y [Cond.code y bytes maxL ret] rm (xPc E (N0 + cells) σ As) Qc mc ms (xA E)) (ci : CIx y bytes maxL ret n) (wl : Cond.methodLinkNest own idx y RX5 ∈ nstW) (wi : Cond.static y ∈ goodL) (hrm : rm.cells = mc ∧ rm.slots = ms ∧ rm.frames + 1 ≤ R.frames ∧ 8 + (maxL + 11) + rm.locals ≤ R.locals)
    (hP : va_P E.D vwCl (wld E (N0 + cells) σ) H) (hS : va_S (xA E) s.heap H locs) (hl : lv_has ls nL lv) (hz : H.size ≤ s.heap.size + cells) (hn : As.length = n) (hst : st0 = As.reverse ++ st) (hW : (st.map fun v => v.category).sum ≤ 8) (hd : decode cc pc = .ok (.invokestatic idx, 3)) (hf : cells + mc ≤ R.cells ∧ slots + ms ≤ R.slots) :
    va_Run p l e R s m args below meth c H locs cells slots mc ms (F0 m pc ls st0) st (Qc As.toArray) (xA E) :=
  va_runSN ⟨hG.1, hG.2.1, hG.2.2.1, hG.2.2.2.1, hG.2.2.2.2.1⟩ hM ⟨va_cnB n hG.2.2.2.2.1 (good_one ci.1) rfl hrm.1 hrm.2.1 (hG.2.2.2.2.2.1.2.1 _ wl) (hG.2.2.2.2.1 _ ci.2.1) ci.2.2 hrm.2.2, hG.2.2.2.2.1 _ wi, trivial⟩ ⟨xPc_blind, fun U hU hW => pre_of hG hP hS hz U hU hW⟩ rfl hn hl.1 hst (lv_room hW) hd hf
/-- behind a call -/
theorem go_i {a : Array Value} {r0 : Int32 × Mm} {Z : State → Prop} (hr : va_Run p l e R s m args below meth c H locs cells slots 0 0 (F0 m pc ls st0) st (xQi E (N0 + cells) r0 a) (xA E)) (hS : va_S (xA E) s.heap H locs) (kk : ∀ (H1 : Heap) (locs1 : List Loc), va_P E.D vwCl (wld E (N0 + cells) r0.2) H1 → va_S (xA E) s.heap H1 locs1 → W p l e R s m args below meth c H1 locs1 cells slots Z (F0 m (pc + 3) ls (.int r0.1 :: st))) : W p l e R s m args below meth c H locs cells slots Z (F0 m pc ls st0) :=
  va_calli hr hS (fun _ _ h => h) (fun _ h => h) (fun v u t H1 locs1 ht _ hv hB _ _ hS1 => by subst hv; exact kk H1 locs1 (by rw [← ht]; exact hB) hS1)
theorem go_l {a : Array Value} {r0 : Int64 × Mm} {Z : State → Prop} (hr : va_Run p l e R s m args below meth c H locs cells slots 0 0 (F0 m pc ls st0) st (xQl E (N0 + cells) r0 a) (xA E)) (hS : va_S (xA E) s.heap H locs) (kk : ∀ (H1 : Heap) (locs1 : List Loc), va_P E.D vwCl (wld E (N0 + cells) r0.2) H1 → va_S (xA E) s.heap H1 locs1 → W p l e R s m args below meth c H1 locs1 cells slots Z (F0 m (pc + 3) ls (.long r0.1 :: st))) : W p l e R s m args below meth c H locs cells slots Z (F0 m pc ls st0) :=
  va_calll hr hS (fun _ _ h => h) (fun _ h => h) (fun v u t H1 locs1 ht _ hv hB _ _ hS1 => by subst hv; exact kk H1 locs1 (by rw [← ht]; exact hB) hS1)
theorem go_v {a : Array Value} {r0 : Mm} {Z : State → Prop} (hr : va_Run p l e R s m args below meth c H locs cells slots 0 0 (F0 m pc ls st0) st (xQv E (N0 + cells) r0 a) (xA E)) (hS : va_S (xA E) s.heap H locs) (kk : ∀ (H1 : Heap) (locs1 : List Loc), va_P E.D vwCl (wld E (N0 + cells) r0) H1 → va_S (xA E) s.heap H1 locs1 → W p l e R s m args below meth c H1 locs1 cells slots Z (F0 m (pc + 3) ls st)) : W p l e R s m args below meth c H locs cells slots Z (F0 m pc ls st0) :=
  va_callv hr hS (fun _ _ h => h) (fun _ h => h) (fun u t H1 locs1 ht _ _ hB _ _ hS1 => kk H1 locs1 (by rw [← ht]; exact hB) hS1)
theorem jr_callVi (hG : GG E N0 nL own cc p s m args c) {Y : Option (Int32 × Mm)} {f : Int32 → Mm → Option ρ} (hM : ∀ r0, Y = some r0 → Met l y [Cond.code y bytes maxL ret] rm (xPc E (N0 + cells) σ (.ref (E.B + b) :: As)) (xQi E (N0 + cells) r0) 0 0 (xA E)) (ci : CIx y bytes maxL ret n) (wl : Cond.methodLink own idx y ∈ goodL) (wi : Cond.instanceMethod y ∈ goodL ∧ Cond.selects y.cls y y ∈ goodL) (hcl : CLx cn y.cls T) (ho : shp b = .inl cn) (hb : b < N0 + cells) (hrm : rm.cells = 0 ∧ rm.slots = 0 ∧ rm.frames + 1 ≤ R.frames ∧ 8 + (maxL + 11) + rm.locals ≤ R.locals) (hn : As.length = n) (hst : st0 = As.reverse ++ .ref (E.B + b) :: st) (hW : (st.map fun v => v.category).sum ≤ 8) (hd : decode cc pc = .ok (.invokevirtual idx, 3)) (hf : cells + 0 ≤ R.cells ∧ slots + 0 ≤ R.slots)
    (kk : ∀ v σ1, JR E N0 nL p l e R s m args below meth c cells slots Q (pc + 3) lv (.int v :: st) σ1 (f v σ1)) : JR E N0 nL p l e R s m args below meth c cells slots Q pc lv st0 σ (bI Y f) := by
  intro r hX H locs ls hP hS hl
  cases Y with
  | none => cases hX
  | some r0 =>
    refine W_sz fun hz => ?_
    exact go_i (run_V hG (hM _ rfl) ci wl wi hcl ho hb hrm hP hS hl hz hn hst hW hd hf) hS (fun H1 locs1 hP1 hS1 => kk r0.1 r0.2 r hX H1 locs1 ls hP1 hS1 hl)
theorem jr_callVl (hG : GG E N0 nL own cc p s m args c) {Y : Option (Int64 × Mm)} {f : Int64 → Mm → Option ρ} (hM : ∀ r0, Y = some r0 → Met l y [Cond.code y bytes maxL ret] rm (xPc E (N0 + cells) σ (.ref (E.B + b) :: As)) (xQl E (N0 + cells) r0) 0 0 (xA E)) (ci : CIx y bytes maxL ret n) (wl : Cond.methodLink own idx y ∈ goodL) (wi : Cond.instanceMethod y ∈ goodL ∧ Cond.selects y.cls y y ∈ goodL) (hcl : CLx cn y.cls T) (ho : shp b = .inl cn) (hb : b < N0 + cells) (hrm : rm.cells = 0 ∧ rm.slots = 0 ∧ rm.frames + 1 ≤ R.frames ∧ 8 + (maxL + 11) + rm.locals ≤ R.locals) (hn : As.length = n) (hst : st0 = As.reverse ++ .ref (E.B + b) :: st) (hW : (st.map fun v => v.category).sum ≤ 8) (hd : decode cc pc = .ok (.invokevirtual idx, 3)) (hf : cells + 0 ≤ R.cells ∧ slots + 0 ≤ R.slots)
    (kk : ∀ v σ1, JR E N0 nL p l e R s m args below meth c cells slots Q (pc + 3) lv (.long v :: st) σ1 (f v σ1)) : JR E N0 nL p l e R s m args below meth c cells slots Q pc lv st0 σ (bL Y f) := by
  intro r hX H locs ls hP hS hl
  cases Y with
  | none => cases hX
  | some r0 =>
    refine W_sz fun hz => ?_
    exact go_l (run_V hG (hM _ rfl) ci wl wi hcl ho hb hrm hP hS hl hz hn hst hW hd hf) hS (fun H1 locs1 hP1 hS1 => kk r0.1 r0.2 r hX H1 locs1 ls hP1 hS1 hl)
theorem jr_callVv (hG : GG E N0 nL own cc p s m args c) {Y : Option (Mm)} {f : Mm → Option ρ} (hM : ∀ r0, Y = some r0 → Met l y [Cond.code y bytes maxL ret] rm (xPc E (N0 + cells) σ (.ref (E.B + b) :: As)) (xQv E (N0 + cells) r0) 0 0 (xA E)) (ci : CIx y bytes maxL ret n) (wl : Cond.methodLink own idx y ∈ goodL) (wi : Cond.instanceMethod y ∈ goodL ∧ Cond.selects y.cls y y ∈ goodL) (hcl : CLx cn y.cls T) (ho : shp b = .inl cn) (hb : b < N0 + cells) (hrm : rm.cells = 0 ∧ rm.slots = 0 ∧ rm.frames + 1 ≤ R.frames ∧ 8 + (maxL + 11) + rm.locals ≤ R.locals) (hn : As.length = n) (hst : st0 = As.reverse ++ .ref (E.B + b) :: st) (hW : (st.map fun v => v.category).sum ≤ 8) (hd : decode cc pc = .ok (.invokevirtual idx, 3)) (hf : cells + 0 ≤ R.cells ∧ slots + 0 ≤ R.slots)
    (kk : ∀ σ1, JR E N0 nL p l e R s m args below meth c cells slots Q (pc + 3) lv st σ1 (f σ1)) : JR E N0 nL p l e R s m args below meth c cells slots Q pc lv st0 σ (bV Y f) := by
  intro r hX H locs ls hP hS hl
  cases Y with
  | none => cases hX
  | some r0 =>
    refine W_sz fun hz => ?_
    exact go_v (run_V hG (hM _ rfl) ci wl wi hcl ho hb hrm hP hS hl hz hn hst hW hd hf) hS (fun H1 locs1 hP1 hS1 => kk r0 r hX H1 locs1 ls hP1 hS1 hl)
theorem jr_callSi (hG : GG E N0 nL own cc p s m args c) {Y : Option (Int32 × Mm)} {f : Int32 → Mm → Option ρ} (hM : ∀ r0, Y = some r0 → Met l y [Cond.code y bytes maxL ret] rm (xPc E (N0 + cells) σ As) (xQi E (N0 + cells) r0) 0 0 (xA E)) (ci : CIx y bytes maxL ret n) (wl : Cond.methodLink own idx y ∈ goodL) (wi : Cond.static y ∈ goodL) (hrm : rm.cells = 0 ∧ rm.slots = 0 ∧ rm.frames + 1 ≤ R.frames ∧ 8 + (maxL + 11) + rm.locals ≤ R.locals) (hn : As.length = n) (hst : st0 = As.reverse ++ st) (hW : (st.map fun v => v.category).sum ≤ 8) (hd : decode cc pc = .ok (.invokestatic idx, 3)) (hf : cells + 0 ≤ R.cells ∧ slots + 0 ≤ R.slots)
    (kk : ∀ v σ1, JR E N0 nL p l e R s m args below meth c cells slots Q (pc + 3) lv (.int v :: st) σ1 (f v σ1)) : JR E N0 nL p l e R s m args below meth c cells slots Q pc lv st0 σ (bI Y f) := by
  intro r hX H locs ls hP hS hl
  cases Y with
  | none => cases hX
  | some r0 =>
    refine W_sz fun hz => ?_
    exact go_i (run_S hG (hM _ rfl) ci wl wi hrm hP hS hl hz hn hst hW hd hf) hS (fun H1 locs1 hP1 hS1 => kk r0.1 r0.2 r hX H1 locs1 ls hP1 hS1 hl)
theorem jr_callSl (hG : GG E N0 nL own cc p s m args c) {Y : Option (Int64 × Mm)} {f : Int64 → Mm → Option ρ} (hM : ∀ r0, Y = some r0 → Met l y [Cond.code y bytes maxL ret] rm (xPc E (N0 + cells) σ As) (xQl E (N0 + cells) r0) 0 0 (xA E)) (ci : CIx y bytes maxL ret n) (wl : Cond.methodLink own idx y ∈ goodL) (wi : Cond.static y ∈ goodL) (hrm : rm.cells = 0 ∧ rm.slots = 0 ∧ rm.frames + 1 ≤ R.frames ∧ 8 + (maxL + 11) + rm.locals ≤ R.locals) (hn : As.length = n) (hst : st0 = As.reverse ++ st) (hW : (st.map fun v => v.category).sum ≤ 8) (hd : decode cc pc = .ok (.invokestatic idx, 3)) (hf : cells + 0 ≤ R.cells ∧ slots + 0 ≤ R.slots)
    (kk : ∀ v σ1, JR E N0 nL p l e R s m args below meth c cells slots Q (pc + 3) lv (.long v :: st) σ1 (f v σ1)) : JR E N0 nL p l e R s m args below meth c cells slots Q pc lv st0 σ (bL Y f) := by
  intro r hX H locs ls hP hS hl
  cases Y with
  | none => cases hX
  | some r0 =>
    refine W_sz fun hz => ?_
    exact go_l (run_S hG (hM _ rfl) ci wl wi hrm hP hS hl hz hn hst hW hd hf) hS (fun H1 locs1 hP1 hS1 => kk r0.1 r0.2 r hX H1 locs1 ls hP1 hS1 hl)
theorem jr_callSv (hG : GG E N0 nL own cc p s m args c) {Y : Option (Mm)} {f : Mm → Option ρ} (hM : ∀ r0, Y = some r0 → Met l y [Cond.code y bytes maxL ret] rm (xPc E (N0 + cells) σ As) (xQv E (N0 + cells) r0) 0 0 (xA E)) (ci : CIx y bytes maxL ret n) (wl : Cond.methodLink own idx y ∈ goodL) (wi : Cond.static y ∈ goodL) (hrm : rm.cells = 0 ∧ rm.slots = 0 ∧ rm.frames + 1 ≤ R.frames ∧ 8 + (maxL + 11) + rm.locals ≤ R.locals) (hn : As.length = n) (hst : st0 = As.reverse ++ st) (hW : (st.map fun v => v.category).sum ≤ 8) (hd : decode cc pc = .ok (.invokestatic idx, 3)) (hf : cells + 0 ≤ R.cells ∧ slots + 0 ≤ R.slots)
    (kk : ∀ σ1, JR E N0 nL p l e R s m args below meth c cells slots Q (pc + 3) lv st σ1 (f σ1)) : JR E N0 nL p l e R s m args below meth c cells slots Q pc lv st0 σ (bV Y f) := by
  intro r hX H locs ls hP hS hl
  cases Y with
  | none => cases hX
  | some r0 =>
    refine W_sz fun hz => ?_
    exact go_v (run_S hG (hM _ rfl) ci wl wi hrm hP hS hl hz hn hst hW hd hf) hS (fun H1 locs1 hP1 hS1 => kk r0 r hX H1 locs1 ls hP1 hS1 hl)
theorem jr_callNi (hG : GG E N0 nL own cc p s m args c) {Y : Option (Int32 × Mm)} {f : Int32 → Mm → Option ρ} (hM : ∀ r0, Y = some r0 → Met l y [Cond.code y bytes maxL ret] rm (xPc E (N0 + cells) σ As) (xQi E (N0 + cells) r0) 0 0 (xA E)) (ci : CIx y bytes maxL ret n) (wl : Cond.methodLinkNest own idx y RX5 ∈ nstW) (wi : Cond.static y ∈ goodL) (hrm : rm.cells = 0 ∧ rm.slots = 0 ∧ rm.frames + 1 ≤ R.frames ∧ 8 + (maxL + 11) + rm.locals ≤ R.locals) (hn : As.length = n) (hst : st0 = As.reverse ++ st) (hW : (st.map fun v => v.category).sum ≤ 8) (hd : decode cc pc = .ok (.invokestatic idx, 3)) (hf : cells + 0 ≤ R.cells ∧ slots + 0 ≤ R.slots)
    (kk : ∀ v σ1, JR E N0 nL p l e R s m args below meth c cells slots Q (pc + 3) lv (.int v :: st) σ1 (f v σ1)) : JR E N0 nL p l e R s m args below meth c cells slots Q pc lv st0 σ (bI Y f) := by
  intro r hX H locs ls hP hS hl
  cases Y with
  | none => cases hX
  | some r0 =>
    refine W_sz fun hz => ?_
    exact go_i (run_SN hG (hM _ rfl) ci wl wi hrm hP hS hl hz hn hst hW hd hf) hS (fun H1 locs1 hP1 hS1 => kk r0.1 r0.2 r hX H1 locs1 ls hP1 hS1 hl)
end CLS
section ENDS
variable {E : XE} {N0 nL : Nat} {own : String} {cc : ByteArray} {p : Program} {l : Launch} {e : Env} {R : Room} {s : State} {m : MethodId} {args : Array Value} {below : List Frame} {meth : Method} {c : Code} {cells slots : Nat} {pc : Nat} {lv : List (Nat × Value)} {σ : Mm}
theorem jr_iret (hG : GG E N0 nL own cc p s m args c) (hr : meth.sig.returnType = some .int) (hk : meth.locks = false) {v : Int32} (hd : decode cc pc = .ok (.ireturn, 1)) : JR E N0 nL p l e R s m args below meth c cells slots (fun r => MQ below (xQi E (N0 + cells) r) args s cells slots (xA E)) pc lv [.int v] σ (some (v, σ)) := by
  intro r hX H locs ls hP hS hl
  cases hX
  exact W.iret hG.1 hG.2.1 hr (fun t ht hW => ⟨⟨v, (), rfl, rfl, by show va_P _ _ _ t.heap; rw [ht]; exact hP⟩, hS.F ht⟩) hS.2.2 hd hk
theorem jr_zret (hG : GG E N0 nL own cc p s m args c) (hr : meth.sig.returnType = some .boolean) (hk : meth.locks = false) {v : Int32} (hz : bz v = true) (hd : decode cc pc = .ok (.ireturn, 1)) : JR E N0 nL p l e R s m args below meth c cells slots (fun r => MQ below (xQi E (N0 + cells) r) args s cells slots (xA E)) pc lv [.int v] σ (some (v, σ)) := by
  intro r hX H locs ls hP hS hl
  cases hX
  exact W.zret hG.1 hG.2.1 hr (bz_nar hz) (fun t ht hW => ⟨⟨v, (), rfl, rfl, by show va_P _ _ _ t.heap; rw [ht]; exact hP⟩, hS.F ht⟩) hS.2.2 hd hk
theorem jr_lret (hG : GG E N0 nL own cc p s m args c) (hr : meth.sig.returnType = some .long) (hk : meth.locks = false) {v : Int64} (hd : decode cc pc = .ok (.lreturn, 1)) : JR E N0 nL p l e R s m args below meth c cells slots (fun r => MQ below (xQl E (N0 + cells) r) args s cells slots (xA E)) pc lv [.long v] σ (some (v, σ)) := by
  intro r hX H locs ls hP hS hl
  cases hX
  exact W.lret hG.1 hG.2.1 hr (fun t ht hW => ⟨⟨v, (), rfl, rfl, by show va_P _ _ _ t.heap; rw [ht]; exact hP⟩, hS.F ht⟩) hS.2.2 hd hk
theorem jr_vret (hG : GG E N0 nL own cc p s m args c) (hr : meth.sig.returnType = none) (hk : meth.locks = false) (hd : decode cc pc = .ok (.return_, 1)) : JR E N0 nL p l e R s m args below meth c cells slots (fun r => MQ below (xQv E (N0 + cells) r) args s cells slots (xA E)) pc lv [] σ (some σ) := by
  intro r hX H locs ls hP hS hl
  cases hX
  exact W.vret hG.1 hG.2.1 hr (fun t ht hW => ⟨⟨(), rfl, trivial, by show va_P _ _ _ t.heap; rw [ht]; exact hP⟩, hS.F ht⟩) hS.2.2 hd hk
end ENDS
/-- a contract out of a walk from the entry -/
theorem met_of {ρ : Type} {l : Launch} {E : XE} {N0 mc ms : Nat} {y : MethodName} {bytes : ByteArray} {maxL : Nat} {ret : Option FieldType} {rm : Room} {σ : Mm} {av : List Value} {X : Option ρ} {Qc : ρ → Array Value → State → Outcome → State → Prop} (hy : plainName y.cls = true) (hlen : (lg_sl av).length ≤ maxL)
    (k : ∀ p e s m args below meth c, GG E N0 maxL y.cls bytes p s m args c → meth.sig.returnType = ret → meth.locks = false → meth.name = y.name → JR E N0 maxL p l e rm s m args below meth c 0 0 (fun r => MQ below (Qc r) args s mc ms (xA E)) 0 (lv_args 0 av) [] σ X) (r : ρ) (hX : X = some r) : Met l y [Cond.code y bytes maxL ret] rm (xPc E N0 σ av) (Qc r) mc ms (xA E) := by
  refine Met.ofW (cc := bytes) (maxL := maxL) (ret := ret) hy rfl ?_
  intro p e s m args below meth c s₁ B hml hv
  obtain ⟨rfl, hK, hZ, hsz, hP⟩ := hv
  have hG : GG E N0 maxL y.cls bytes p s m av.toArray c := ⟨B.exec, B.bytes, hml, findClass_of_methodNamed B.named, fun w hw => word_at (State.WarmedH.refl s) (good_of_word (gd_good hw)) (hK.1 w hw), hK, hZ, hsz⟩
  have hl := lv_entry av hlen
  rw [lg_entry_eq]
  exact k p e s m av.toArray below meth c hG B.returns B.notSynchronized (name_of_methodNamed B.named B.method).1 r hX s.heap [] _ hP va_S.rf hl

