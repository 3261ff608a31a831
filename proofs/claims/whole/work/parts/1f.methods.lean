-- TonguesDealtModel.asked()I
abbrev rm_X6_asked : Room := { frames := 0, cells := 0, slots := 0, locals := 0 }
theorem ci_X6_asked : CIx yX6_asked cX6_asked 1 (some .int) 0 := ⟨wd_853, wd_77, by decide +kernel⟩
def f_X6_asked (N : Nat) (a0 : Nat) (σ : Mm) : Option (Int32 × Mm) := if okO 6 a0 then (some (gi σ a0 2, σ)) else none
set_option maxRecDepth 20000 in
theorem c_X6_asked (l : Launch) (E : XE) (N : Nat) (a0 : Nat) (σ : Mm) : ∀ r0, f_X6_asked N a0 σ = some r0 → Met l yX6_asked [Cond.code yX6_asked cX6_asked 1 (some .int)] rm_X6_asked (xPc E (NT + 0) σ [.ref (E.B + a0)]) (xQi E (NT + 0) r0) 0 0 (xA E) := by
  refine met_of (N0 := NT) (by decide +kernel) (Nat.le_of_ble_eq_true rfl) ?_
  intro p e s m args below meth c hG hr hk _
  show JR E NT 1 p l e rm_X6_asked s m args below meth c 0 0 (fun r => MQ below (xQi E (NT + 0) r) args s 0 0 (xA E)) 0 [(0, .ref (E.B + a0))] [] σ (if okO 6 a0 then (some (gi σ a0 2, σ)) else none)
  refine jr_guard (fun ha0 => ?_)
  refine jr_aload_n hG 0 dX6_asked_0 rfl rfl ?_
  refine jr_getI hG fi_RX6_90 rfl (okO_s ha0) (okO_l ha0) dX6_asked_1 ?_
  exact jr_iret hG hr hk dX6_asked_4
-- TonguesDealtModel.fraction(II)I
abbrev rm_X6_fraction : Room := { frames := 0, cells := 0, slots := 0, locals := 0 }
theorem ci_X6_fraction : CIx yX6_fraction cX6_fraction 6 (some .int) 2 := ⟨wd_1147, wd_77, by decide +kernel⟩
def f_X6_fraction_5 (N : Nat)  : Nat → Nat → Int32 → Int32 → Int32 → Int32 → Mm → Option (Int32 × Mm)
  | 0 => fun _ _ _ _ _ _ => none
  | n + 1 => fun a0 v1 v2 v3 v4 σ => if v4 = 0 then (if v3 = 0 then none else lt (sl σ a0 3 ((v1 / v3).toInt64)) (fun t1 => if v3 = 0 then none else lt (sl t1 a0 4 ((v2 / v3).toInt64)) (fun t2 => some ((1 : Int32), t2)))) else (if v4 = 0 then none else lt (v3 - v3 / v4 * v4) (fun x3 => f_X6_fraction_5 N n a0 v1 v2 v4 x3 (σ)))
set_option maxRecDepth 20000 in
theorem w_X6_fraction_5 {p : Program} {l : Launch} {e : Env} {s : State} {m : MethodId} {args : Array Value} {below : List Frame} {meth : Method} {c : Code} {E : XE} (N : Nat) (hG : GG E NT 6 RX6 cX6_fraction p s m args c) (hr : meth.sig.returnType = (some .int)) (hk : meth.locks = false)  : ∀ (n : Nat) (a0 : Nat) (v1 : Int32) (v2 : Int32) (v3 : Int32) (v4 : Int32) (ha0 : okO 6 a0 = true) (σ : Mm), JR E NT 6 p l e rm_X6_fraction s m args below meth c 0 0 (fun r => MQ below (xQi E (NT + 0) r) args s 0 0 (xA E)) 5 [(0, .ref (E.B + a0)), (1, .int v1), (2, .int v2), (3, .int v3), (4, .int v4)] [] σ (f_X6_fraction_5 N n a0 v1 v2 v3 v4 σ) := by
  intro n
  induction n with
  | zero => intro a0 v1 v2 v3 v4 ha0 σ r hX; cases hX
  | succ n ih =>
    intro a0 v1 v2 v3 v4 ha0 σ
    show JR E NT 6 p l e rm_X6_fraction s m args below meth c 0 0 (fun r => MQ below (xQi E (NT + 0) r) args s 0 0 (xA E)) 5 [(0, .ref (E.B + a0)), (1, .int v1), (2, .int v2), (3, .int v3), (4, .int v4)] [] σ (if v4 = 0 then (if v3 = 0 then none else lt (sl σ a0 3 ((v1 / v3).toInt64)) (fun t1 => if v3 = 0 then none else lt (sl t1 a0 4 ((v2 / v3).toInt64)) (fun t2 => some ((1 : Int32), t2)))) else (if v4 = 0 then none else lt (v3 - v3 / v4 * v4) (fun x3 => f_X6_fraction_5 N n a0 v1 v2 v4 x3 (σ))))
    refine jr_iload hG 4 dX6_fraction_5 rfl ?_
    refine jr_if_eq hG 26 dX6_fraction_7 (by decide) (fun _ => ?_) (fun _ => ?_)
    · refine jr_aload_n hG 0 dX6_fraction_26 rfl rfl ?_
      refine jr_iload_n hG 1 dX6_fraction_27 rfl rfl ?_
      refine jr_iload_n hG 3 dX6_fraction_28 rfl rfl ?_
      refine jr_idiv hG dX6_fraction_29 ?_
      refine jr_i2l hG dX6_fraction_30 ?_
      refine jr_putL hG fi_RX6_93 rfl rfl (okO_s ha0) (okO_l ha0) dX6_fraction_31 ?_
      refine jr_lets (fun t1 _ => ?_)
      refine jr_aload_n hG 0 dX6_fraction_34 rfl rfl ?_
      refine jr_iload_n hG 2 dX6_fraction_35 rfl rfl ?_
      refine jr_iload_n hG 3 dX6_fraction_36 rfl rfl ?_
      refine jr_idiv hG dX6_fraction_37 ?_
      refine jr_i2l hG dX6_fraction_38 ?_
      refine jr_putL hG fi_RX6_13 rfl rfl (okO_s ha0) (okO_l ha0) dX6_fraction_39 ?_
      refine jr_lets (fun t2 _ => ?_)
      refine jr_iconst (v := (1 : Int32)) hG dX6_fraction_42 (by decide) ?_
      exact jr_iret hG hr hk dX6_fraction_43
    · refine jr_iload_n hG 3 dX6_fraction_10 rfl rfl ?_
      refine jr_iload hG 4 dX6_fraction_11 rfl ?_
      refine jr_irem hG dX6_fraction_13 ?_
      refine jr_leti (fun x3 _ => ?_)
      refine jr_istore (lv' := [(5, .int x3), (0, .ref (E.B + a0)), (1, .int v1), (2, .int v2), (3, .int v3), (4, .int v4)]) hG dX6_fraction_14 (by decide) rfl ?_
      refine jr_iload hG 5 dX6_fraction_16 rfl ?_
      refine jr_istore_n (lv' := [(3, .int v4), (5, .int x3), (0, .ref (E.B + a0)), (1, .int v1), (2, .int v2), (4, .int v4)]) hG dX6_fraction_18 rfl (by decide) rfl ?_
      refine jr_iload hG 1 dX6_fraction_19 rfl ?_
      refine jr_istore (lv' := [(4, .int x3), (3, .int v4), (5, .int x3), (0, .ref (E.B + a0)), (1, .int v1), (2, .int v2)]) hG dX6_fraction_21 (by decide) rfl ?_
      refine jr_goto hG 5 dX6_fraction_23 (by decide) ?_
      refine jr_sub (lv' := [(0, .ref (E.B + a0)), (1, .int v1), (2, .int v2), (3, .int v4), (4, .int x3)]) [3, 4, 5, 1, 0] rfl ?_
      exact ih a0 v1 v2 v4 x3 ha0 (σ)
def f_X6_fraction (N : Nat) (a0 : Nat) (v1 : Int32) (v2 : Int32) (σ : Mm) : Option (Int32 × Mm) := if okO 6 a0 then (f_X6_fraction_5 N N a0 v1 v2 v1 v2 (σ)) else none
set_option maxRecDepth 20000 in
theorem c_X6_fraction (l : Launch) (E : XE) (N : Nat) (a0 : Nat) (v1 : Int32) (v2 : Int32) (σ : Mm) : ∀ r0, f_X6_fraction N a0 v1 v2 σ = some r0 → Met l yX6_fraction [Cond.code yX6_fraction cX6_fraction 6 (some .int)] rm_X6_fraction (xPc E (NT + 0) σ [.ref (E.B + a0), .int v1, .int v2]) (xQi E (NT + 0) r0) 0 0 (xA E) := by
  refine met_of (N0 := NT) (by decide +kernel) (Nat.le_of_ble_eq_true rfl) ?_
  intro p e s m args below meth c hG hr hk _
  show JR E NT 6 p l e rm_X6_fraction s m args below meth c 0 0 (fun r => MQ below (xQi E (NT + 0) r) args s 0 0 (xA E)) 0 [(0, .ref (E.B + a0)), (1, .int v1), (2, .int v2)] [] σ (if okO 6 a0 then (f_X6_fraction_5 N N a0 v1 v2 v1 v2 (σ)) else none)
  refine jr_guard (fun ha0 => ?_)
  refine jr_iload_n hG 1 dX6_fraction_0 rfl rfl ?_
  refine jr_istore_n (lv' := [(3, .int v1), (0, .ref (E.B + a0)), (1, .int v1), (2, .int v2)]) hG dX6_fraction_1 rfl (by decide) rfl ?_
  refine jr_iload_n hG 3 dX6_fraction_2 rfl rfl ?_
  refine jr_istore (lv' := [(4, .int v2), (3, .int v1), (0, .ref (E.B + a0)), (1, .int v1), (2, .int v2)]) hG dX6_fraction_3 (by decide) rfl ?_
  refine jr_sub (lv' := [(0, .ref (E.B + a0)), (1, .int v1), (2, .int v2), (3, .int v1), (4, .int v2)]) [2, 3, 4, 1, 0] rfl ?_
  exact w_X6_fraction_5 N hG hr hk N a0 v1 v2 v1 v2 ha0 (σ)
-- TonguesDealtModel.upper()J
abbrev rm_X6_upper : Room := { frames := 0, cells := 0, slots := 0, locals := 0 }
theorem ci_X6_upper : CIx yX6_upper cX6_upper 1 (some .long) 0 := ⟨wd_857, wd_77, by decide +kernel⟩
def f_X6_upper (N : Nat) (a0 : Nat) (σ : Mm) : Option (Int64 × Mm) := if okO 6 a0 then (some (gl σ a0 3, σ)) else none
set_option maxRecDepth 20000 in
theorem c_X6_upper (l : Launch) (E : XE) (N : Nat) (a0 : Nat) (σ : Mm) : ∀ r0, f_X6_upper N a0 σ = some r0 → Met l yX6_upper [Cond.code yX6_upper cX6_upper 1 (some .long)] rm_X6_upper (xPc E (NT + 0) σ [.ref (E.B + a0)]) (xQl E (NT + 0) r0) 0 0 (xA E) := by
  refine met_of (N0 := NT) (by decide +kernel) (Nat.le_of_ble_eq_true rfl) ?_
  intro p e s m args below meth c hG hr hk _
  show JR E NT 1 p l e rm_X6_upper s m args below meth c 0 0 (fun r => MQ below (xQl E (NT + 0) r) args s 0 0 (xA E)) 0 [(0, .ref (E.B + a0))] [] σ (if okO 6 a0 then (some (gl σ a0 3, σ)) else none)
  refine jr_guard (fun ha0 => ?_)
  refine jr_aload_n hG 0 dX6_upper_0 rfl rfl ?_
  refine jr_getL hG fi_RX6_93 rfl (okO_s ha0) (okO_l ha0) dX6_upper_1 ?_
  exact jr_lret hG hr hk dX6_upper_4
-- TonguesDealtModel.lower()J
abbrev rm_X6_lower : Room := { frames := 0, cells := 0, slots := 0, locals := 0 }
theorem ci_X6_lower : CIx yX6_lower cX6_lower 1 (some .long) 0 := ⟨wd_861, wd_77, by decide +kernel⟩
def f_X6_lower (N : Nat) (a0 : Nat) (σ : Mm) : Option (Int64 × Mm) := if okO 6 a0 then (some (gl σ a0 4, σ)) else none
set_option maxRecDepth 20000 in
theorem c_X6_lower (l : Launch) (E : XE) (N : Nat) (a0 : Nat) (σ : Mm) : ∀ r0, f_X6_lower N a0 σ = some r0 → Met l yX6_lower [Cond.code yX6_lower cX6_lower 1 (some .long)] rm_X6_lower (xPc E (NT + 0) σ [.ref (E.B + a0)]) (xQl E (NT + 0) r0) 0 0 (xA E) := by
  refine met_of (N0 := NT) (by decide +kernel) (Nat.le_of_ble_eq_true rfl) ?_
  intro p e s m args below meth c hG hr hk _
  show JR E NT 1 p l e rm_X6_lower s m args below meth c 0 0 (fun r => MQ below (xQl E (NT + 0) r) args s 0 0 (xA E)) 0 [(0, .ref (E.B + a0))] [] σ (if okO 6 a0 then (some (gl σ a0 4, σ)) else none)
  refine jr_guard (fun ha0 => ?_)
  refine jr_aload_n hG 0 dX6_lower_0 rfl rfl ?_
  refine jr_getL hG fi_RX6_13 rfl (okO_s ha0) (okO_l ha0) dX6_lower_1 ?_
  exact jr_lret hG hr hk dX6_lower_4
-- TonguesDealtModel.isRow(I)Z
abbrev rm_X6_isRow : Room := { frames := 1, cells := 0, slots := 0, locals := 22 }
theorem ci_X6_isRow : CIx yX6_isRow cX6_isRow 1 (some .boolean) 1 := ⟨wd_868, wd_77, by decide +kernel⟩
def f_X6_isRow (N : Nat) (v0 : Int32) (σ : Mm) : Option (Int32 × Mm) := bI (f_X6_in N v0 (0 : Int32) (5 : Int32) (σ)) (fun r2 t1 => if bz r2 then some (r2, t1) else none)
set_option maxRecDepth 20000 in
theorem c_X6_isRow (l : Launch) (E : XE) (N : Nat) (v0 : Int32) (σ : Mm) : ∀ r0, f_X6_isRow N v0 σ = some r0 → Met l yX6_isRow [Cond.code yX6_isRow cX6_isRow 1 (some .boolean)] rm_X6_isRow (xPc E (NT + 0) σ [.int v0]) (xQi E (NT + 0) r0) 0 0 (xA E) := by
  refine met_of (N0 := NT) (by decide +kernel) (Nat.le_of_ble_eq_true rfl) ?_
  intro p e s m args below meth c hG hr hk _
  show JR E NT 1 p l e rm_X6_isRow s m args below meth c 0 0 (fun r => MQ below (xQi E (NT + 0) r) args s 0 0 (xA E)) 0 [(0, .int v0)] [] σ (bI (f_X6_in N v0 (0 : Int32) (5 : Int32) (σ)) (fun r2 t1 => if bz r2 then some (r2, t1) else none))
  refine jr_iload_n hG 0 dX6_isRow_0 rfl rfl ?_
  refine jr_iconst (v := (0 : Int32)) hG dX6_isRow_1 (by decide) ?_
  refine jr_iconst (v := (5 : Int32)) hG dX6_isRow_2 (by decide) ?_
  refine jr_callSi (As := [.int v0, .int (0 : Int32), .int (5 : Int32)]) hG (c_X6_in l E N v0 (0 : Int32) (5 : Int32) (σ)) ci_X6_in wd_847 wd_848 ⟨rfl, rfl, Nat.le_of_ble_eq_true rfl, Nat.le_of_ble_eq_true rfl⟩ rfl rfl (Nat.le_of_ble_eq_true rfl) dX6_isRow_3 ⟨Nat.le_refl _, Nat.le_refl _⟩ (fun r2 t1 => ?_)
  refine jr_guard (fun hz => ?_)
  exact jr_zret hG hr hk hz dX6_isRow_6
-- TonguesDealtModel.rowAt(II)I
abbrev rm_X6_rowAt : Room := { frames := 0, cells := 0, slots := 0, locals := 0 }
theorem ci_X6_rowAt : CIx yX6_rowAt cX6_rowAt 3 (some .int) 2 := ⟨wd_880, wd_77, by decide +kernel⟩
def f_X6_rowAt (N : Nat) (a0 : Nat) (v1 : Int32) (v2 : Int32) (σ : Mm) : Option (Int32 × Mm) := if okO 6 a0 then (bR (gr σ a0 6) (okA 0) (fun o1 => if inb (((40 : Int32) * v1) + v2) (arL o1) then (some (gi σ o1 (ix (((40 : Int32) * v1) + v2)), σ)) else none)) else none
set_option maxRecDepth 20000 in
theorem c_X6_rowAt (l : Launch) (E : XE) (N : Nat) (a0 : Nat) (v1 : Int32) (v2 : Int32) (σ : Mm) : ∀ r0, f_X6_rowAt N a0 v1 v2 σ = some r0 → Met l yX6_rowAt [Cond.code yX6_rowAt cX6_rowAt 3 (some .int)] rm_X6_rowAt (xPc E (NT + 0) σ [.ref (E.B + a0), .int v1, .int v2]) (xQi E (NT + 0) r0) 0 0 (xA E) := by
  refine met_of (N0 := NT) (by decide +kernel) (Nat.le_of_ble_eq_true rfl) ?_
  intro p e s m args below meth c hG hr hk _
  show JR E NT 3 p l e rm_X6_rowAt s m args below meth c 0 0 (fun r => MQ below (xQi E (NT + 0) r) args s 0 0 (xA E)) 0 [(0, .ref (E.B + a0)), (1, .int v1), (2, .int v2)] [] σ (if okO 6 a0 then (bR (gr σ a0 6) (okA 0) (fun o1 => if inb (((40 : Int32) * v1) + v2) (arL o1) then (some (gi σ o1 (ix (((40 : Int32) * v1) + v2)), σ)) else none)) else none)
  refine jr_guard (fun ha0 => ?_)
  refine jr_aload_n hG 0 dX6_rowAt_0 rfl rfl ?_
  refine jr_getR hG fi_RX6_20 rfl (okO_s ha0) (okO_l ha0) dX6_rowAt_1 (fun o1 ho1 => ?_)
  refine jr_bipush (v := (40 : Int32)) hG dX6_rowAt_4 (by decide) ?_
  refine jr_iload_n hG 1 dX6_rowAt_6 rfl rfl ?_
  refine jr_imul hG dX6_rowAt_7 ?_
  refine jr_iload_n hG 2 dX6_rowAt_8 rfl rfl ?_
  refine jr_iadd hG dX6_rowAt_9 ?_
  refine jr_iald hG (okA_s (by decide) ho1) (okA_l ho1) dX6_rowAt_10 ?_
  exact jr_iret hG hr hk dX6_rowAt_11
-- TonguesDealtModel.row(II)I
abbrev rm_X6_row : Room := { frames := 2, cells := 0, slots := 0, locals := 42 }
theorem ci_X6_row : CIx yX6_row cX6_row 4 (some .int) 2 := ⟨wd_865, wd_77, by decide +kernel⟩
def f_X6_row_34 (N : Nat)  : Nat → Nat → Int32 → Int32 → Int32 → Mm → Option (Int32 × Mm)
  | 0 => fun _ _ _ _ _ => none
  | n + 1 => fun a0 v1 v2 v3 σ => if (40 : Int32) ≤ v3 then (some (v2, σ)) else (bR (gr σ a0 6) (okA 0) (fun o7 => if inb (((40 : Int32) * v1) + v3) (arL o7) then (lt (si σ o7 (ix (((40 : Int32) * v1) + v3)) (0 : Int32)) (fun t8 => f_X6_row_34 N n a0 v1 v2 (v3 + (1 : Int32)) t8)) else none))
set_option maxRecDepth 20000 in
theorem w_X6_row_34 {p : Program} {l : Launch} {e : Env} {s : State} {m : MethodId} {args : Array Value} {below : List Frame} {meth : Method} {c : Code} {E : XE} (N : Nat) (hG : GG E NT 4 RX6 cX6_row p s m args c) (hr : meth.sig.returnType = (some .int)) (hk : meth.locks = false)  : ∀ (n : Nat) (a0 : Nat) (v1 : Int32) (v2 : Int32) (v3 : Int32) (ha0 : okO 6 a0 = true) (σ : Mm), JR E NT 4 p l e rm_X6_row s m args below meth c 0 0 (fun r => MQ below (xQi E (NT + 0) r) args s 0 0 (xA E)) 34 [(0, .ref (E.B + a0)), (1, .int v1), (2, .int v2), (3, .int v3)] [] σ (f_X6_row_34 N n a0 v1 v2 v3 σ) := by
  intro n
  induction n with
  | zero => intro a0 v1 v2 v3 ha0 σ r hX; cases hX
  | succ n ih =>
    intro a0 v1 v2 v3 ha0 σ
    show JR E NT 4 p l e rm_X6_row s m args below meth c 0 0 (fun r => MQ below (xQi E (NT + 0) r) args s 0 0 (xA E)) 34 [(0, .ref (E.B + a0)), (1, .int v1), (2, .int v2), (3, .int v3)] [] σ (if (40 : Int32) ≤ v3 then (some (v2, σ)) else (bR (gr σ a0 6) (okA 0) (fun o7 => if inb (((40 : Int32) * v1) + v3) (arL o7) then (lt (si σ o7 (ix (((40 : Int32) * v1) + v3)) (0 : Int32)) (fun t8 => f_X6_row_34 N n a0 v1 v2 (v3 + (1 : Int32)) t8)) else none)))
    refine jr_iload_n hG 3 dX6_row_34 rfl rfl ?_
    refine jr_bipush (v := (40 : Int32)) hG dX6_row_35 (by decide) ?_
    refine jr_icmp_ge hG 58 dX6_row_37 (by decide) (fun _ => ?_) (fun _ => ?_)
    · refine jr_iload_n hG 2 dX6_row_58 rfl rfl ?_
      exact jr_iret hG hr hk dX6_row_59
    · refine jr_aload_n hG 0 dX6_row_40 rfl rfl ?_
      refine jr_getR hG fi_RX6_20 rfl (okO_s ha0) (okO_l ha0) dX6_row_41 (fun o7 ho7 => ?_)
      refine jr_bipush (v := (40 : Int32)) hG dX6_row_44 (by decide) ?_
      refine jr_iload_n hG 1 dX6_row_46 rfl rfl ?_
      refine jr_imul hG dX6_row_47 ?_
      refine jr_iload_n hG 3 dX6_row_48 rfl rfl ?_
      refine jr_iadd hG dX6_row_49 ?_
      refine jr_iconst (v := (0 : Int32)) hG dX6_row_50 (by decide) ?_
      refine jr_iast hG (okA_s (by decide) ho7) (okA_l ho7) dX6_row_51 ?_
      refine jr_lets (fun t8 _ => ?_)
      refine jr_iinc (v := v3 + (1 : Int32)) (lv' := [(3, .int (v3 + (1 : Int32))), (0, .ref (E.B + a0)), (1, .int v1), (2, .int v2)]) hG 3 dX6_row_52 rfl rfl (by decide) rfl ?_
      refine jr_goto hG 34 dX6_row_55 (by decide) ?_
      refine jr_sub (lv' := [(0, .ref (E.B + a0)), (1, .int v1), (2, .int v2), (3, .int (v3 + (1 : Int32)))]) [1, 2, 3, 0] rfl ?_
      exact ih a0 v1 v2 (v3 + (1 : Int32)) ha0 t8
def f_X6_row (N : Nat) (a0 : Nat) (v1 : Int32) (v2 : Int32) (σ : Mm) : Option (Int32 × Mm) := if okO 6 a0 then (bI (f_X6_isRow N v1 (σ)) (fun r2 t1 => if r2 = 0 then (some ((-1 : Int32), t1)) else (if v2 ≤ (40 : Int32) then (if 0 ≤ v2 then (bR (gr t1 a0 5) (okA 0) (fun o3 => if inb v1 (arL o3) then (lt (si t1 o3 (ix v1) v2) (fun t4 => f_X6_row_34 N N a0 v1 v2 (0 : Int32) t4)) else none)) else (bI (f_X6_meets N a0 (5 : Int32) t1) (fun r6 t5 => some (r6, t5)))) else (some ((-1 : Int32), t1))))) else none
set_option maxRecDepth 20000 in
theorem c_X6_row (l : Launch) (E : XE) (N : Nat) (a0 : Nat) (v1 : Int32) (v2 : Int32) (σ : Mm) : ∀ r0, f_X6_row N a0 v1 v2 σ = some r0 → Met l yX6_row [Cond.code yX6_row cX6_row 4 (some .int)] rm_X6_row (xPc E (NT + 0) σ [.ref (E.B + a0), .int v1, .int v2]) (xQi E (NT + 0) r0) 0 0 (xA E) := by
  refine met_of (N0 := NT) (by decide +kernel) (Nat.le_of_ble_eq_true rfl) ?_
  intro p e s m args below meth c hG hr hk _
  show JR E NT 4 p l e rm_X6_row s m args below meth c 0 0 (fun r => MQ below (xQi E (NT + 0) r) args s 0 0 (xA E)) 0 [(0, .ref (E.B + a0)), (1, .int v1), (2, .int v2)] [] σ (if okO 6 a0 then (bI (f_X6_isRow N v1 (σ)) (fun r2 t1 => if r2 = 0 then (some ((-1 : Int32), t1)) else (if v2 ≤ (40 : Int32) then (if 0 ≤ v2 then (bR (gr t1 a0 5) (okA 0) (fun o3 => if inb v1 (arL o3) then (lt (si t1 o3 (ix v1) v2) (fun t4 => f_X6_row_34 N N a0 v1 v2 (0 : Int32) t4)) else none)) else (bI (f_X6_meets N a0 (5 : Int32) t1) (fun r6 t5 => some (r6, t5)))) else (some ((-1 : Int32), t1))))) else none)
  refine jr_guard (fun ha0 => ?_)
  refine jr_iload_n hG 1 dX6_row_0 rfl rfl ?_
  refine jr_callSi (As := [.int v1]) hG (c_X6_isRow l E N v1 (σ)) ci_X6_isRow wd_866 wd_867 ⟨rfl, rfl, Nat.le_of_ble_eq_true rfl, Nat.le_of_ble_eq_true rfl⟩ rfl rfl (Nat.le_of_ble_eq_true rfl) dX6_row_1 ⟨Nat.le_refl _, Nat.le_refl _⟩ (fun r2 t1 => ?_)
  refine jr_if_eq hG 13 dX6_row_4 (by decide) (fun _ => ?_) (fun _ => ?_)
  · refine jr_iconst (v := (-1 : Int32)) hG dX6_row_13 (by decide) ?_
    exact jr_iret hG hr hk dX6_row_14
  · refine jr_iload_n hG 2 dX6_row_7 rfl rfl ?_
    refine jr_bipush (v := (40 : Int32)) hG dX6_row_8 (by decide) ?_
    refine jr_icmp_le hG 15 dX6_row_10 (by decide) (fun _ => ?_) (fun _ => ?_)
    · refine jr_iload_n hG 2 dX6_row_15 rfl rfl ?_
      refine jr_if_ge hG 25 dX6_row_16 (by decide) (fun _ => ?_) (fun _ => ?_)
      · refine jr_aload_n hG 0 dX6_row_25 rfl rfl ?_
        refine jr_getR hG fi_RX6_17 rfl (okO_s ha0) (okO_l ha0) dX6_row_26 (fun o3 ho3 => ?_)
        refine jr_iload_n hG 1 dX6_row_29 rfl rfl ?_
        refine jr_iload_n hG 2 dX6_row_30 rfl rfl ?_
        refine jr_iast hG (okA_s (by decide) ho3) (okA_l ho3) dX6_row_31 ?_
        refine jr_lets (fun t4 _ => ?_)
        refine jr_iconst (v := (0 : Int32)) hG dX6_row_32 (by decide) ?_
        refine jr_istore_n (lv' := [(3, .int (0 : Int32)), (0, .ref (E.B + a0)), (1, .int v1), (2, .int v2)]) hG dX6_row_33 rfl (by decide) rfl ?_
        refine jr_sub (lv' := [(0, .ref (E.B + a0)), (1, .int v1), (2, .int v2), (3, .int (0 : Int32))]) [1, 2, 3, 0] rfl ?_
        exact w_X6_row_34 N hG hr hk N a0 v1 v2 (0 : Int32) ha0 t4
      · refine jr_aload_n hG 0 dX6_row_19 rfl rfl ?_
        refine jr_iconst (v := (5 : Int32)) hG dX6_row_20 (by decide) ?_
        refine jr_callVi (As := [.int (5 : Int32)]) hG (c_X6_meets l E N a0 (5 : Int32) t1) ci_X6_meets wd_869 ⟨wd_871, wd_21⟩ cl_6 (okO_s ha0) (okO_l ha0) ⟨rfl, rfl, Nat.le_of_ble_eq_true rfl, Nat.le_of_ble_eq_true rfl⟩ rfl rfl (Nat.le_of_ble_eq_true rfl) dX6_row_21 ⟨Nat.le_refl _, Nat.le_refl _⟩ (fun r6 t5 => ?_)
        exact jr_iret hG hr hk dX6_row_24
    · refine jr_iconst (v := (-1 : Int32)) hG dX6_row_13 (by decide) ?_
      exact jr_iret hG hr hk dX6_row_14
-- TonguesDealtModel.lay(III)I
abbrev rm_X6_lay : Room := { frames := 2, cells := 0, slots := 0, locals := 42 }
theorem ci_X6_lay : CIx yX6_lay cX6_lay 5 (some .int) 3 := ⟨wd_876, wd_77, by decide +kernel⟩
def f_X6_lay (N : Nat) (a0 : Nat) (v1 : Int32) (v2 : Int32) (v3 : Int32) (σ : Mm) : Option (Int32 × Mm) := if okO 6 a0 then (bI (f_X6_isRow N v1 (σ)) (fun r2 t1 => if r2 = 0 then (some ((-1 : Int32), t1)) else (bR (gr t1 a0 5) (okA 0) (fun o3 => if inb v1 (arL o3) then (if 0 ≤ (gi t1 o3 (ix v1)) then (bR (gr t1 a0 5) (okA 0) (fun o4 => if inb v1 (arL o4) then (bI (f_X6_in N v2 (0 : Int32) ((gi t1 o4 (ix v1)) - (1 : Int32)) t1) (fun r6 t5 => if r6 = 0 then (bI (f_X6_meets N a0 (2 : Int32) t5) (fun r14 t13 => some (r14, t13))) else (bI (f_X6_rowAt N a0 v1 v2 t5) (fun r8 t7 => bR (gr t7 a0 6) (okA 0) (fun o9 => if inb (((40 : Int32) * v1) + v2) (arL o9) then (lt (si t7 o9 (ix (((40 : Int32) * v1) + v2)) v3) (fun t10 => bI (f_X6_gives N a0 r8 (1 : Int32) t10) (fun r12 t11 => some (r12, t11)))) else none))))) else none)) else (bI (f_X6_meets N a0 (1 : Int32) t1) (fun r16 t15 => some (r16, t15)))) else none)))) else none
set_option maxRecDepth 20000 in
theorem c_X6_lay (l : Launch) (E : XE) (N : Nat) (a0 : Nat) (v1 : Int32) (v2 : Int32) (v3 : Int32) (σ : Mm) : ∀ r0, f_X6_lay N a0 v1 v2 v3 σ = some r0 → Met l yX6_lay [Cond.code yX6_lay cX6_lay 5 (some .int)] rm_X6_lay (xPc E (NT + 0) σ [.ref (E.B + a0), .int v1, .int v2, .int v3]) (xQi E (NT + 0) r0) 0 0 (xA E) := by
  refine met_of (N0 := NT) (by decide +kernel) (Nat.le_of_ble_eq_true rfl) ?_
  intro p e s m args below meth c hG hr hk _
  show JR E NT 5 p l e rm_X6_lay s m args below meth c 0 0 (fun r => MQ below (xQi E (NT + 0) r) args s 0 0 (xA E)) 0 [(0, .ref (E.B + a0)), (1, .int v1), (2, .int v2), (3, .int v3)] [] σ (if okO 6 a0 then (bI (f_X6_isRow N v1 (σ)) (fun r2 t1 => if r2 = 0 then (some ((-1 : Int32), t1)) else (bR (gr t1 a0 5) (okA 0) (fun o3 => if inb v1 (arL o3) then (if 0 ≤ (gi t1 o3 (ix v1)) then (bR (gr t1 a0 5) (okA 0) (fun o4 => if inb v1 (arL o4) then (bI (f_X6_in N v2 (0 : Int32) ((gi t1 o4 (ix v1)) - (1 : Int32)) t1) (fun r6 t5 => if r6 = 0 then (bI (f_X6_meets N a0 (2 : Int32) t5) (fun r14 t13 => some (r14, t13))) else (bI (f_X6_rowAt N a0 v1 v2 t5) (fun r8 t7 => bR (gr t7 a0 6) (okA 0) (fun o9 => if inb (((40 : Int32) * v1) + v2) (arL o9) then (lt (si t7 o9 (ix (((40 : Int32) * v1) + v2)) v3) (fun t10 => bI (f_X6_gives N a0 r8 (1 : Int32) t10) (fun r12 t11 => some (r12, t11)))) else none))))) else none)) else (bI (f_X6_meets N a0 (1 : Int32) t1) (fun r16 t15 => some (r16, t15)))) else none)))) else none)
  refine jr_guard (fun ha0 => ?_)
  refine jr_iload_n hG 1 dX6_lay_0 rfl rfl ?_
  refine jr_callSi (As := [.int v1]) hG (c_X6_isRow l E N v1 (σ)) ci_X6_isRow wd_866 wd_867 ⟨rfl, rfl, Nat.le_of_ble_eq_true rfl, Nat.le_of_ble_eq_true rfl⟩ rfl rfl (Nat.le_of_ble_eq_true rfl) dX6_lay_1 ⟨Nat.le_refl _, Nat.le_refl _⟩ (fun r2 t1 => ?_)
  refine jr_if_ne hG 9 dX6_lay_4 (by decide) (fun _ => ?_) (fun _ => ?_)
  · refine jr_aload_n hG 0 dX6_lay_9 rfl rfl ?_
    refine jr_getR hG fi_RX6_17 rfl (okO_s ha0) (okO_l ha0) dX6_lay_10 (fun o3 ho3 => ?_)
    refine jr_iload_n hG 1 dX6_lay_13 rfl rfl ?_
    refine jr_iald hG (okA_s (by decide) ho3) (okA_l ho3) dX6_lay_14 ?_
    refine jr_if_ge hG 24 dX6_lay_15 (by decide) (fun _ => ?_) (fun _ => ?_)
    · refine jr_iload_n hG 2 dX6_lay_24 rfl rfl ?_
      refine jr_iconst (v := (0 : Int32)) hG dX6_lay_25 (by decide) ?_
      refine jr_aload_n hG 0 dX6_lay_26 rfl rfl ?_
      refine jr_getR hG fi_RX6_17 rfl (okO_s ha0) (okO_l ha0) dX6_lay_27 (fun o4 ho4 => ?_)
      refine jr_iload_n hG 1 dX6_lay_30 rfl rfl ?_
      refine jr_iald hG (okA_s (by decide) ho4) (okA_l ho4) dX6_lay_31 ?_
      refine jr_iconst (v := (1 : Int32)) hG dX6_lay_32 (by decide) ?_
      refine jr_isub hG dX6_lay_33 ?_
      refine jr_callSi (As := [.int v2, .int (0 : Int32), .int ((gi t1 o4 (ix v1)) - (1 : Int32))]) hG (c_X6_in l E N v2 (0 : Int32) ((gi t1 o4 (ix v1)) - (1 : Int32)) t1) ci_X6_in wd_847 wd_848 ⟨rfl, rfl, Nat.le_of_ble_eq_true rfl, Nat.le_of_ble_eq_true rfl⟩ rfl rfl (Nat.le_of_ble_eq_true rfl) dX6_lay_34 ⟨Nat.le_refl _, Nat.le_refl _⟩ (fun r6 t5 => ?_)
      refine jr_if_ne hG 46 dX6_lay_37 (by decide) (fun _ => ?_) (fun _ => ?_)
      · refine jr_aload_n hG 0 dX6_lay_46 rfl rfl ?_
        refine jr_iload_n hG 1 dX6_lay_47 rfl rfl ?_
        refine jr_iload_n hG 2 dX6_lay_48 rfl rfl ?_
        refine jr_callVi (As := [.int v1, .int v2]) hG (c_X6_rowAt l E N a0 v1 v2 t5) ci_X6_rowAt wd_877 ⟨wd_879, wd_22⟩ cl_6 (okO_s ha0) (okO_l ha0) ⟨rfl, rfl, Nat.le_of_ble_eq_true rfl, Nat.le_of_ble_eq_true rfl⟩ rfl rfl (Nat.le_of_ble_eq_true rfl) dX6_lay_49 ⟨Nat.le_refl _, Nat.le_refl _⟩ (fun r8 t7 => ?_)
        refine jr_istore (lv' := [(4, .int r8), (0, .ref (E.B + a0)), (1, .int v1), (2, .int v2), (3, .int v3)]) hG dX6_lay_52 (by decide) rfl ?_
        refine jr_aload_n hG 1 dX6_lay_54 rfl rfl ?_
        refine jr_getR hG fi_RX6_20 rfl (okO_s ha0) (okO_l ha0) dX6_lay_55 (fun o9 ho9 => ?_)
        refine jr_bipush (v := (40 : Int32)) hG dX6_lay_58 (by decide) ?_
        refine jr_iload_n hG 2 dX6_lay_60 rfl rfl ?_
        refine jr_imul hG dX6_lay_61 ?_
        refine jr_iload_n hG 3 dX6_lay_62 rfl rfl ?_
        refine jr_iadd hG dX6_lay_63 ?_
        refine jr_iload_n hG 4 dX6_lay_64 rfl rfl ?_
        refine jr_iast hG (okA_s (by decide) ho9) (okA_l ho9) dX6_lay_65 ?_
        refine jr_lets (fun t10 _ => ?_)
        refine jr_aload_n hG 1 dX6_lay_66 rfl rfl ?_
        refine jr_iload hG 0 dX6_lay_67 rfl ?_
        refine jr_iconst (v := (1 : Int32)) hG dX6_lay_69 (by decide) ?_
        refine jr_callVi (As := [.int r8, .int (1 : Int32)]) hG (c_X6_gives l E N a0 r8 (1 : Int32) t10) ci_X6_gives wd_881 ⟨wd_883, wd_23⟩ cl_6 (okO_s ha0) (okO_l ha0) ⟨rfl, rfl, Nat.le_of_ble_eq_true rfl, Nat.le_of_ble_eq_true rfl⟩ rfl rfl (Nat.le_of_ble_eq_true rfl) dX6_lay_70 ⟨Nat.le_refl _, Nat.le_refl _⟩ (fun r12 t11 => ?_)
        exact jr_iret hG hr hk dX6_lay_73
      · refine jr_aload_n hG 0 dX6_lay_40 rfl rfl ?_
        refine jr_iconst (v := (2 : Int32)) hG dX6_lay_41 (by decide) ?_
        refine jr_callVi (As := [.int (2 : Int32)]) hG (c_X6_meets l E N a0 (2 : Int32) t5) ci_X6_meets wd_869 ⟨wd_871, wd_21⟩ cl_6 (okO_s ha0) (okO_l ha0) ⟨rfl, rfl, Nat.le_of_ble_eq_true rfl, Nat.le_of_ble_eq_true rfl⟩ rfl rfl (Nat.le_of_ble_eq_true rfl) dX6_lay_42 ⟨Nat.le_refl _, Nat.le_refl _⟩ (fun r14 t13 => ?_)
        exact jr_iret hG hr hk dX6_lay_45
    · refine jr_aload_n hG 0 dX6_lay_18 rfl rfl ?_
      refine jr_iconst (v := (1 : Int32)) hG dX6_lay_19 (by decide) ?_
      refine jr_callVi (As := [.int (1 : Int32)]) hG (c_X6_meets l E N a0 (1 : Int32) t1) ci_X6_meets wd_869 ⟨wd_871, wd_21⟩ cl_6 (okO_s ha0) (okO_l ha0) ⟨rfl, rfl, Nat.le_of_ble_eq_true rfl, Nat.le_of_ble_eq_true rfl⟩ rfl rfl (Nat.le_of_ble_eq_true rfl) dX6_lay_20 ⟨Nat.le_refl _, Nat.le_refl _⟩ (fun r16 t15 => ?_)
      exact jr_iret hG hr hk dX6_lay_23
  · refine jr_iconst (v := (-1 : Int32)) hG dX6_lay_7 (by decide) ?_
    exact jr_iret hG hr hk dX6_lay_8
-- TonguesDealtModel.at(II)I
abbrev rm_X6_at : Room := { frames := 2, cells := 0, slots := 0, locals := 42 }
theorem ci_X6_at : CIx yX6_at cX6_at 3 (some .int) 2 := ⟨wd_888, wd_77, by decide +kernel⟩
def f_X6_at (N : Nat) (a0 : Nat) (v1 : Int32) (v2 : Int32) (σ : Mm) : Option (Int32 × Mm) := if okO 6 a0 then (bI (f_X6_isRow N v1 (σ)) (fun r2 t1 => if r2 = 0 then (some ((-1 : Int32), t1)) else (bR (gr t1 a0 5) (okA 0) (fun o3 => if inb v1 (arL o3) then (if 0 ≤ (gi t1 o3 (ix v1)) then (bR (gr t1 a0 5) (okA 0) (fun o4 => if inb v1 (arL o4) then (bI (f_X6_in N v2 (0 : Int32) ((gi t1 o4 (ix v1)) - (1 : Int32)) t1) (fun r6 t5 => if r6 = 0 then (bI (f_X6_meets N a0 (2 : Int32) t5) (fun r8 t7 => some (r8, t7))) else (bI (f_X6_rowAt N a0 v1 v2 t5) (fun r10 t9 => bI (f_X6_gives N a0 r10 (1 : Int32) t9) (fun r12 t11 => some (r12, t11)))))) else none)) else (bI (f_X6_meets N a0 (1 : Int32) t1) (fun r14 t13 => some (r14, t13)))) else none)))) else none
set_option maxRecDepth 20000 in
theorem c_X6_at (l : Launch) (E : XE) (N : Nat) (a0 : Nat) (v1 : Int32) (v2 : Int32) (σ : Mm) : ∀ r0, f_X6_at N a0 v1 v2 σ = some r0 → Met l yX6_at [Cond.code yX6_at cX6_at 3 (some .int)] rm_X6_at (xPc E (NT + 0) σ [.ref (E.B + a0), .int v1, .int v2]) (xQi E (NT + 0) r0) 0 0 (xA E) := by
  refine met_of (N0 := NT) (by decide +kernel) (Nat.le_of_ble_eq_true rfl) ?_
  intro p e s m args below meth c hG hr hk _
  show JR E NT 3 p l e rm_X6_at s m args below meth c 0 0 (fun r => MQ below (xQi E (NT + 0) r) args s 0 0 (xA E)) 0 [(0, .ref (E.B + a0)), (1, .int v1), (2, .int v2)] [] σ (if okO 6 a0 then (bI (f_X6_isRow N v1 (σ)) (fun r2 t1 => if r2 = 0 then (some ((-1 : Int32), t1)) else (bR (gr t1 a0 5) (okA 0) (fun o3 => if inb v1 (arL o3) then (if 0 ≤ (gi t1 o3 (ix v1)) then (bR (gr t1 a0 5) (okA 0) (fun o4 => if inb v1 (arL o4) then (bI (f_X6_in N v2 (0 : Int32) ((gi t1 o4 (ix v1)) - (1 : Int32)) t1) (fun r6 t5 => if r6 = 0 then (bI (f_X6_meets N a0 (2 : Int32) t5) (fun r8 t7 => some (r8, t7))) else (bI (f_X6_rowAt N a0 v1 v2 t5) (fun r10 t9 => bI (f_X6_gives N a0 r10 (1 : Int32) t9) (fun r12 t11 => some (r12, t11)))))) else none)) else (bI (f_X6_meets N a0 (1 : Int32) t1) (fun r14 t13 => some (r14, t13)))) else none)))) else none)
  refine jr_guard (fun ha0 => ?_)
  refine jr_iload_n hG 1 dX6_at_0 rfl rfl ?_
  refine jr_callSi (As := [.int v1]) hG (c_X6_isRow l E N v1 (σ)) ci_X6_isRow wd_866 wd_867 ⟨rfl, rfl, Nat.le_of_ble_eq_true rfl, Nat.le_of_ble_eq_true rfl⟩ rfl rfl (Nat.le_of_ble_eq_true rfl) dX6_at_1 ⟨Nat.le_refl _, Nat.le_refl _⟩ (fun r2 t1 => ?_)
  refine jr_if_ne hG 9 dX6_at_4 (by decide) (fun _ => ?_) (fun _ => ?_)
  · refine jr_aload_n hG 0 dX6_at_9 rfl rfl ?_
    refine jr_getR hG fi_RX6_17 rfl (okO_s ha0) (okO_l ha0) dX6_at_10 (fun o3 ho3 => ?_)
    refine jr_iload_n hG 1 dX6_at_13 rfl rfl ?_
    refine jr_iald hG (okA_s (by decide) ho3) (okA_l ho3) dX6_at_14 ?_
    refine jr_if_ge hG 24 dX6_at_15 (by decide) (fun _ => ?_) (fun _ => ?_)
    · refine jr_iload_n hG 2 dX6_at_24 rfl rfl ?_
      refine jr_iconst (v := (0 : Int32)) hG dX6_at_25 (by decide) ?_
      refine jr_aload_n hG 0 dX6_at_26 rfl rfl ?_
      refine jr_getR hG fi_RX6_17 rfl (okO_s ha0) (okO_l ha0) dX6_at_27 (fun o4 ho4 => ?_)
      refine jr_iload_n hG 1 dX6_at_30 rfl rfl ?_
      refine jr_iald hG (okA_s (by decide) ho4) (okA_l ho4) dX6_at_31 ?_
      refine jr_iconst (v := (1 : Int32)) hG dX6_at_32 (by decide) ?_
      refine jr_isub hG dX6_at_33 ?_
      refine jr_callSi (As := [.int v2, .int (0 : Int32), .int ((gi t1 o4 (ix v1)) - (1 : Int32))]) hG (c_X6_in l E N v2 (0 : Int32) ((gi t1 o4 (ix v1)) - (1 : Int32)) t1) ci_X6_in wd_847 wd_848 ⟨rfl, rfl, Nat.le_of_ble_eq_true rfl, Nat.le_of_ble_eq_true rfl⟩ rfl rfl (Nat.le_of_ble_eq_true rfl) dX6_at_34 ⟨Nat.le_refl _, Nat.le_refl _⟩ (fun r6 t5 => ?_)
      refine jr_if_eq hG 54 dX6_at_37 (by decide) (fun _ => ?_) (fun _ => ?_)
      · refine jr_aload_n hG 0 dX6_at_54 rfl rfl ?_
        refine jr_iconst (v := (2 : Int32)) hG dX6_at_55 (by decide) ?_
        refine jr_callVi (As := [.int (2 : Int32)]) hG (c_X6_meets l E N a0 (2 : Int32) t5) ci_X6_meets wd_869 ⟨wd_871, wd_21⟩ cl_6 (okO_s ha0) (okO_l ha0) ⟨rfl, rfl, Nat.le_of_ble_eq_true rfl, Nat.le_of_ble_eq_true rfl⟩ rfl rfl (Nat.le_of_ble_eq_true rfl) dX6_at_56 ⟨Nat.le_refl _, Nat.le_refl _⟩ (fun r8 t7 => ?_)
        exact jr_iret hG hr hk dX6_at_59
      · refine jr_aload_n hG 0 dX6_at_40 rfl rfl ?_
        refine jr_aload_n hG 0 dX6_at_41 rfl rfl ?_
        refine jr_iload_n hG 1 dX6_at_42 rfl rfl ?_
        refine jr_iload_n hG 2 dX6_at_43 rfl rfl ?_
        refine jr_callVi (As := [.int v1, .int v2]) hG (c_X6_rowAt l E N a0 v1 v2 t5) ci_X6_rowAt wd_877 ⟨wd_879, wd_22⟩ cl_6 (okO_s ha0) (okO_l ha0) ⟨rfl, rfl, Nat.le_of_ble_eq_true rfl, Nat.le_of_ble_eq_true rfl⟩ rfl rfl (Nat.le_of_ble_eq_true rfl) dX6_at_44 ⟨Nat.le_refl _, Nat.le_refl _⟩ (fun r10 t9 => ?_)
        refine jr_iconst (v := (1 : Int32)) hG dX6_at_47 (by decide) ?_
        refine jr_callVi (As := [.int r10, .int (1 : Int32)]) hG (c_X6_gives l E N a0 r10 (1 : Int32) t9) ci_X6_gives wd_881 ⟨wd_883, wd_23⟩ cl_6 (okO_s ha0) (okO_l ha0) ⟨rfl, rfl, Nat.le_of_ble_eq_true rfl, Nat.le_of_ble_eq_true rfl⟩ rfl rfl (Nat.le_of_ble_eq_true rfl) dX6_at_48 ⟨Nat.le_refl _, Nat.le_refl _⟩ (fun r12 t11 => ?_)
        refine jr_goto hG 59 dX6_at_51 (by decide) ?_
        exact jr_iret hG hr hk dX6_at_59
    · refine jr_aload_n hG 0 dX6_at_18 rfl rfl ?_
      refine jr_iconst (v := (1 : Int32)) hG dX6_at_19 (by decide) ?_
      refine jr_callVi (As := [.int (1 : Int32)]) hG (c_X6_meets l E N a0 (1 : Int32) t1) ci_X6_meets wd_869 ⟨wd_871, wd_21⟩ cl_6 (okO_s ha0) (okO_l ha0) ⟨rfl, rfl, Nat.le_of_ble_eq_true rfl, Nat.le_of_ble_eq_true rfl⟩ rfl rfl (Nat.le_of_ble_eq_true rfl) dX6_at_20 ⟨Nat.le_refl _, Nat.le_refl _⟩ (fun r14 t13 => ?_)
      exact jr_iret hG hr hk dX6_at_23
  · refine jr_iconst (v := (-1 : Int32)) hG dX6_at_7 (by decide) ?_
    exact jr_iret hG hr hk dX6_at_8
-- TonguesDealtModel.tear(I)I
abbrev rm_X6_tear : Room := { frames := 2, cells := 0, slots := 0, locals := 42 }
theorem ci_X6_tear : CIx yX6_tear cX6_tear 2 (some .int) 1 := ⟨wd_892, wd_77, by decide +kernel⟩
def f_X6_tear (N : Nat) (a0 : Nat) (v1 : Int32) (σ : Mm) : Option (Int32 × Mm) := if okO 6 a0 then (bI (f_X6_isRow N v1 (σ)) (fun r2 t1 => if r2 = 0 then (some ((-1 : Int32), t1)) else (bR (gr t1 a0 5) (okA 0) (fun o3 => if inb v1 (arL o3) then (if 0 ≤ (gi t1 o3 (ix v1)) then (bR (gr t1 a0 5) (okA 0) (fun o4 => if inb v1 (arL o4) then (lt (si t1 o4 (ix v1) (-1 : Int32)) (fun t5 => some ((1 : Int32), t5))) else none)) else (bI (f_X6_meets N a0 (1 : Int32) t1) (fun r7 t6 => some (r7, t6)))) else none)))) else none
set_option maxRecDepth 20000 in
theorem c_X6_tear (l : Launch) (E : XE) (N : Nat) (a0 : Nat) (v1 : Int32) (σ : Mm) : ∀ r0, f_X6_tear N a0 v1 σ = some r0 → Met l yX6_tear [Cond.code yX6_tear cX6_tear 2 (some .int)] rm_X6_tear (xPc E (NT + 0) σ [.ref (E.B + a0), .int v1]) (xQi E (NT + 0) r0) 0 0 (xA E) := by
  refine met_of (N0 := NT) (by decide +kernel) (Nat.le_of_ble_eq_true rfl) ?_
  intro p e s m args below meth c hG hr hk _
  show JR E NT 2 p l e rm_X6_tear s m args below meth c 0 0 (fun r => MQ below (xQi E (NT + 0) r) args s 0 0 (xA E)) 0 [(0, .ref (E.B + a0)), (1, .int v1)] [] σ (if okO 6 a0 then (bI (f_X6_isRow N v1 (σ)) (fun r2 t1 => if r2 = 0 then (some ((-1 : Int32), t1)) else (bR (gr t1 a0 5) (okA 0) (fun o3 => if inb v1 (arL o3) then (if 0 ≤ (gi t1 o3 (ix v1)) then (bR (gr t1 a0 5) (okA 0) (fun o4 => if inb v1 (arL o4) then (lt (si t1 o4 (ix v1) (-1 : Int32)) (fun t5 => some ((1 : Int32), t5))) else none)) else (bI (f_X6_meets N a0 (1 : Int32) t1) (fun r7 t6 => some (r7, t6)))) else none)))) else none)
  refine jr_guard (fun ha0 => ?_)
  refine jr_iload_n hG 1 dX6_tear_0 rfl rfl ?_
  refine jr_callSi (As := [.int v1]) hG (c_X6_isRow l E N v1 (σ)) ci_X6_isRow wd_866 wd_867 ⟨rfl, rfl, Nat.le_of_ble_eq_true rfl, Nat.le_of_ble_eq_true rfl⟩ rfl rfl (Nat.le_of_ble_eq_true rfl) dX6_tear_1 ⟨Nat.le_refl _, Nat.le_refl _⟩ (fun r2 t1 => ?_)
  refine jr_if_ne hG 9 dX6_tear_4 (by decide) (fun _ => ?_) (fun _ => ?_)
  · refine jr_aload_n hG 0 dX6_tear_9 rfl rfl ?_
    refine jr_getR hG fi_RX6_17 rfl (okO_s ha0) (okO_l ha0) dX6_tear_10 (fun o3 ho3 => ?_)
    refine jr_iload_n hG 1 dX6_tear_13 rfl rfl ?_
    refine jr_iald hG (okA_s (by decide) ho3) (okA_l ho3) dX6_tear_14 ?_
    refine jr_if_ge hG 24 dX6_tear_15 (by decide) (fun _ => ?_) (fun _ => ?_)
    · refine jr_aload_n hG 0 dX6_tear_24 rfl rfl ?_
      refine jr_getR hG fi_RX6_17 rfl (okO_s ha0) (okO_l ha0) dX6_tear_25 (fun o4 ho4 => ?_)
      refine jr_iload_n hG 1 dX6_tear_28 rfl rfl ?_
      refine jr_iconst (v := (-1 : Int32)) hG dX6_tear_29 (by decide) ?_
      refine jr_iast hG (okA_s (by decide) ho4) (okA_l ho4) dX6_tear_30 ?_
      refine jr_lets (fun t5 _ => ?_)
      refine jr_iconst (v := (1 : Int32)) hG dX6_tear_31 (by decide) ?_
      exact jr_iret hG hr hk dX6_tear_32
    · refine jr_aload_n hG 0 dX6_tear_18 rfl rfl ?_
      refine jr_iconst (v := (1 : Int32)) hG dX6_tear_19 (by decide) ?_
      refine jr_callVi (As := [.int (1 : Int32)]) hG (c_X6_meets l E N a0 (1 : Int32) t1) ci_X6_meets wd_869 ⟨wd_871, wd_21⟩ cl_6 (okO_s ha0) (okO_l ha0) ⟨rfl, rfl, Nat.le_of_ble_eq_true rfl, Nat.le_of_ble_eq_true rfl⟩ rfl rfl (Nat.le_of_ble_eq_true rfl) dX6_tear_20 ⟨Nat.le_refl _, Nat.le_refl _⟩ (fun r7 t6 => ?_)
      exact jr_iret hG hr hk dX6_tear_23
  · refine jr_iconst (v := (-1 : Int32)) hG dX6_tear_7 (by decide) ?_
    exact jr_iret hG hr hk dX6_tear_8
-- TonguesDealtModel.copy(IIIII)I
abbrev rm_X6_copy : Room := { frames := 2, cells := 0, slots := 0, locals := 42 }
theorem ci_X6_copy : CIx yX6_copy cX6_copy 7 (some .int) 5 := ⟨wd_896, wd_77, by decide +kernel⟩
def f_X6_copy_136 (N : Nat)  : Nat → Nat → Int32 → Int32 → Int32 → Int32 → Mm → Option (Int32 × Mm)
  | 0 => fun _ _ _ _ _ _ => none
  | n + 1 => fun a0 v3 v4 v5 v6 σ => if v5 ≤ v6 then (some ((1 : Int32), σ)) else (bR (gr σ a0 6) (okA 0) (fun o15 => bR (gr σ a0 7) (okA 0) (fun o16 => if inb v6 (arL o16) then (if inb ((((40 : Int32) * v3) + v4) + v6) (arL o15) then (lt (si σ o15 (ix ((((40 : Int32) * v3) + v4) + v6)) (gi σ o16 (ix v6))) (fun t17 => f_X6_copy_136 N n a0 v3 v4 v5 (v6 + (1 : Int32)) t17)) else none) else none)))
set_option maxRecDepth 20000 in
theorem w_X6_copy_136 {p : Program} {l : Launch} {e : Env} {s : State} {m : MethodId} {args : Array Value} {below : List Frame} {meth : Method} {c : Code} {E : XE} (N : Nat) (hG : GG E NT 7 RX6 cX6_copy p s m args c) (hr : meth.sig.returnType = (some .int)) (hk : meth.locks = false)  : ∀ (n : Nat) (a0 : Nat) (v3 : Int32) (v4 : Int32) (v5 : Int32) (v6 : Int32) (ha0 : okO 6 a0 = true) (σ : Mm), JR E NT 7 p l e rm_X6_copy s m args below meth c 0 0 (fun r => MQ below (xQi E (NT + 0) r) args s 0 0 (xA E)) 136 [(0, .ref (E.B + a0)), (3, .int v3), (4, .int v4), (5, .int v5), (6, .int v6)] [] σ (f_X6_copy_136 N n a0 v3 v4 v5 v6 σ) := by
  intro n
  induction n with
  | zero => intro a0 v3 v4 v5 v6 ha0 σ r hX; cases hX
  | succ n ih =>
    intro a0 v3 v4 v5 v6 ha0 σ
    show JR E NT 7 p l e rm_X6_copy s m args below meth c 0 0 (fun r => MQ below (xQi E (NT + 0) r) args s 0 0 (xA E)) 136 [(0, .ref (E.B + a0)), (3, .int v3), (4, .int v4), (5, .int v5), (6, .int v6)] [] σ (if v5 ≤ v6 then (some ((1 : Int32), σ)) else (bR (gr σ a0 6) (okA 0) (fun o15 => bR (gr σ a0 7) (okA 0) (fun o16 => if inb v6 (arL o16) then (if inb ((((40 : Int32) * v3) + v4) + v6) (arL o15) then (lt (si σ o15 (ix ((((40 : Int32) * v3) + v4) + v6)) (gi σ o16 (ix v6))) (fun t17 => f_X6_copy_136 N n a0 v3 v4 v5 (v6 + (1 : Int32)) t17)) else none) else none))))
    refine jr_iload hG 4 dX6_copy_136 rfl ?_
    refine jr_iload hG 3 dX6_copy_138 rfl ?_
    refine jr_icmp_ge hG 171 dX6_copy_140 (by decide) (fun _ => ?_) (fun _ => ?_)
    · refine jr_iconst (v := (1 : Int32)) hG dX6_copy_171 (by decide) ?_
      exact jr_iret hG hr hk dX6_copy_172
    · refine jr_aload_n hG 0 dX6_copy_143 rfl rfl ?_
      refine jr_getR hG fi_RX6_20 rfl (okO_s ha0) (okO_l ha0) dX6_copy_144 (fun o15 ho15 => ?_)
      refine jr_bipush (v := (40 : Int32)) hG dX6_copy_147 (by decide) ?_
      refine jr_iload_n hG 1 dX6_copy_149 rfl rfl ?_
      refine jr_imul hG dX6_copy_150 ?_
      refine jr_iload hG 2 dX6_copy_151 rfl ?_
      refine jr_iadd hG dX6_copy_153 ?_
      refine jr_iload hG 4 dX6_copy_154 rfl ?_
      refine jr_iadd hG dX6_copy_156 ?_
      refine jr_aload_n hG 0 dX6_copy_157 rfl rfl ?_
      refine jr_getR hG fi_RX6_23 rfl (okO_s ha0) (okO_l ha0) dX6_copy_158 (fun o16 ho16 => ?_)
      refine jr_iload hG 4 dX6_copy_161 rfl ?_
      refine jr_iald hG (okA_s (by decide) ho16) (okA_l ho16) dX6_copy_163 ?_
      refine jr_iast hG (okA_s (by decide) ho15) (okA_l ho15) dX6_copy_164 ?_
      refine jr_lets (fun t17 _ => ?_)
      refine jr_iinc (v := v6 + (1 : Int32)) (lv' := [(6, .int (v6 + (1 : Int32))), (0, .ref (E.B + a0)), (3, .int v3), (4, .int v4), (5, .int v5)]) hG 4 dX6_copy_165 rfl rfl (by decide) rfl ?_
      refine jr_goto hG 136 dX6_copy_168 (by decide) ?_
      refine jr_sub (lv' := [(0, .ref (E.B + a0)), (3, .int v3), (4, .int v4), (5, .int v5), (6, .int (v6 + (1 : Int32)))]) [1, 2, 3, 4, 0] rfl ?_
      exact ih a0 v3 v4 v5 (v6 + (1 : Int32)) ha0 t17
def f_X6_copy_104 (N : Nat)  : Nat → Nat → Int32 → Int32 → Int32 → Int32 → Int32 → Int32 → Mm → Option (Int32 × Mm)
  | 0 => fun _ _ _ _ _ _ _ _ => none
  | n + 1 => fun a0 v1 v2 v3 v4 v5 v6 σ => if v5 ≤ v6 then (f_X6_copy_136 N N a0 v3 v4 v5 (0 : Int32) (σ)) else (bR (gr σ a0 7) (okA 0) (fun o11 => bI (f_X6_rowAt N a0 v1 (v2 + v6) (σ)) (fun r13 t12 => if inb v6 (arL o11) then (lt (si t12 o11 (ix v6) r13) (fun t14 => f_X6_copy_104 N n a0 v1 v2 v3 v4 v5 (v6 + (1 : Int32)) t14)) else none)))
set_option maxRecDepth 20000 in
theorem w_X6_copy_104 {p : Program} {l : Launch} {e : Env} {s : State} {m : MethodId} {args : Array Value} {below : List Frame} {meth : Method} {c : Code} {E : XE} (N : Nat) (hG : GG E NT 7 RX6 cX6_copy p s m args c) (hr : meth.sig.returnType = (some .int)) (hk : meth.locks = false)  : ∀ (n : Nat) (a0 : Nat) (v1 : Int32) (v2 : Int32) (v3 : Int32) (v4 : Int32) (v5 : Int32) (v6 : Int32) (ha0 : okO 6 a0 = true) (σ : Mm), JR E NT 7 p l e rm_X6_copy s m args below meth c 0 0 (fun r => MQ below (xQi E (NT + 0) r) args s 0 0 (xA E)) 104 [(0, .ref (E.B + a0)), (1, .int v1), (2, .int v2), (3, .int v3), (4, .int v4), (5, .int v5), (6, .int v6)] [] σ (f_X6_copy_104 N n a0 v1 v2 v3 v4 v5 v6 σ) := by
  intro n
  induction n with
  | zero => intro a0 v1 v2 v3 v4 v5 v6 ha0 σ r hX; cases hX
  | succ n ih =>
    intro a0 v1 v2 v3 v4 v5 v6 ha0 σ
    show JR E NT 7 p l e rm_X6_copy s m args below meth c 0 0 (fun r => MQ below (xQi E (NT + 0) r) args s 0 0 (xA E)) 104 [(0, .ref (E.B + a0)), (1, .int v1), (2, .int v2), (3, .int v3), (4, .int v4), (5, .int v5), (6, .int v6)] [] σ (if v5 ≤ v6 then (f_X6_copy_136 N N a0 v3 v4 v5 (0 : Int32) (σ)) else (bR (gr σ a0 7) (okA 0) (fun o11 => bI (f_X6_rowAt N a0 v1 (v2 + v6) (σ)) (fun r13 t12 => if inb v6 (arL o11) then (lt (si t12 o11 (ix v6) r13) (fun t14 => f_X6_copy_104 N n a0 v1 v2 v3 v4 v5 (v6 + (1 : Int32)) t14)) else none))))
    refine jr_iload hG 6 dX6_copy_104 rfl ?_
    refine jr_iload hG 5 dX6_copy_106 rfl ?_
    refine jr_icmp_ge hG 133 dX6_copy_108 (by decide) (fun _ => ?_) (fun _ => ?_)
    · refine jr_iconst (v := (0 : Int32)) hG dX6_copy_133 (by decide) ?_
      refine jr_istore (lv' := [(6, .int (0 : Int32)), (0, .ref (E.B + a0)), (1, .int v1), (2, .int v2), (3, .int v3), (4, .int v4), (5, .int v5)]) hG dX6_copy_134 (by decide) rfl ?_
      refine jr_sub (lv' := [(0, .ref (E.B + a0)), (3, .int v3), (4, .int v4), (5, .int v5), (6, .int (0 : Int32))]) [1, 4, 5, 6, 0] rfl ?_
      exact w_X6_copy_136 N hG hr hk N a0 v3 v4 v5 (0 : Int32) ha0 (σ)
    · refine jr_aload_n hG 0 dX6_copy_111 rfl rfl ?_
      refine jr_getR hG fi_RX6_23 rfl (okO_s ha0) (okO_l ha0) dX6_copy_112 (fun o11 ho11 => ?_)
      refine jr_iload hG 6 dX6_copy_115 rfl ?_
      refine jr_aload_n hG 0 dX6_copy_117 rfl rfl ?_
      refine jr_iload_n hG 1 dX6_copy_118 rfl rfl ?_
      refine jr_iload_n hG 2 dX6_copy_119 rfl rfl ?_
      refine jr_iload hG 6 dX6_copy_120 rfl ?_
      refine jr_iadd hG dX6_copy_122 ?_
      refine jr_callVi (As := [.int v1, .int (v2 + v6)]) hG (c_X6_rowAt l E N a0 v1 (v2 + v6) (σ)) ci_X6_rowAt wd_877 ⟨wd_879, wd_22⟩ cl_6 (okO_s ha0) (okO_l ha0) ⟨rfl, rfl, Nat.le_of_ble_eq_true rfl, Nat.le_of_ble_eq_true rfl⟩ rfl rfl (Nat.le_of_ble_eq_true rfl) dX6_copy_123 ⟨Nat.le_refl _, Nat.le_refl _⟩ (fun r13 t12 => ?_)
      refine jr_iast hG (okA_s (by decide) ho11) (okA_l ho11) dX6_copy_126 ?_
      refine jr_lets (fun t14 _ => ?_)
      refine jr_iinc (v := v6 + (1 : Int32)) (lv' := [(6, .int (v6 + (1 : Int32))), (0, .ref (E.B + a0)), (1, .int v1), (2, .int v2), (3, .int v3), (4, .int v4), (5, .int v5)]) hG 6 dX6_copy_127 rfl rfl (by decide) rfl ?_
      refine jr_goto hG 104 dX6_copy_130 (by decide) ?_
      refine jr_sub (lv' := [(0, .ref (E.B + a0)), (1, .int v1), (2, .int v2), (3, .int v3), (4, .int v4), (5, .int v5), (6, .int (v6 + (1 : Int32)))]) [1, 2, 3, 4, 5, 6, 0] rfl ?_
      exact ih a0 v1 v2 v3 v4 v5 (v6 + (1 : Int32)) ha0 t14
def f_X6_copy_95 (N : Nat)  (a0 : Nat) (σ : Mm) : Option (Int32 × Mm) := bI (f_X6_meets N a0 (2 : Int32) (σ)) (fun r19 t18 => some (r19, t18))
set_option maxRecDepth 20000 in
theorem w_X6_copy_95 {p : Program} {l : Launch} {e : Env} {s : State} {m : MethodId} {args : Array Value} {below : List Frame} {meth : Method} {c : Code} {E : XE} (N : Nat) (hG : GG E NT 7 RX6 cX6_copy p s m args c) (hr : meth.sig.returnType = (some .int)) (hk : meth.locks = false)  (a0 : Nat) (ha0 : okO 6 a0 = true) (σ : Mm) : JR E NT 7 p l e rm_X6_copy s m args below meth c 0 0 (fun r => MQ below (xQi E (NT + 0) r) args s 0 0 (xA E)) 95 [(0, .ref (E.B + a0))] [] σ (f_X6_copy_95 N a0 σ) := by
  show JR E NT 7 p l e rm_X6_copy s m args below meth c 0 0 (fun r => MQ below (xQi E (NT + 0) r) args s 0 0 (xA E)) 95 [(0, .ref (E.B + a0))] [] σ (bI (f_X6_meets N a0 (2 : Int32) (σ)) (fun r19 t18 => some (r19, t18)))
  refine jr_aload_n hG 0 dX6_copy_95 rfl rfl ?_
  refine jr_iconst (v := (2 : Int32)) hG dX6_copy_96 (by decide) ?_
  refine jr_callVi (As := [.int (2 : Int32)]) hG (c_X6_meets l E N a0 (2 : Int32) (σ)) ci_X6_meets wd_869 ⟨wd_871, wd_21⟩ cl_6 (okO_s ha0) (okO_l ha0) ⟨rfl, rfl, Nat.le_of_ble_eq_true rfl, Nat.le_of_ble_eq_true rfl⟩ rfl rfl (Nat.le_of_ble_eq_true rfl) dX6_copy_97 ⟨Nat.le_refl _, Nat.le_refl _⟩ (fun r19 t18 => ?_)
  exact jr_iret hG hr hk dX6_copy_100
def f_X6_copy_45 (N : Nat)  (a0 : Nat) (σ : Mm) : Option (Int32 × Mm) := bI (f_X6_meets N a0 (1 : Int32) (σ)) (fun r21 t20 => some (r21, t20))
set_option maxRecDepth 20000 in
theorem w_X6_copy_45 {p : Program} {l : Launch} {e : Env} {s : State} {m : MethodId} {args : Array Value} {below : List Frame} {meth : Method} {c : Code} {E : XE} (N : Nat) (hG : GG E NT 7 RX6 cX6_copy p s m args c) (hr : meth.sig.returnType = (some .int)) (hk : meth.locks = false)  (a0 : Nat) (ha0 : okO 6 a0 = true) (σ : Mm) : JR E NT 7 p l e rm_X6_copy s m args below meth c 0 0 (fun r => MQ below (xQi E (NT + 0) r) args s 0 0 (xA E)) 45 [(0, .ref (E.B + a0))] [] σ (f_X6_copy_45 N a0 σ) := by
  show JR E NT 7 p l e rm_X6_copy s m args below meth c 0 0 (fun r => MQ below (xQi E (NT + 0) r) args s 0 0 (xA E)) 45 [(0, .ref (E.B + a0))] [] σ (bI (f_X6_meets N a0 (1 : Int32) (σ)) (fun r21 t20 => some (r21, t20)))
  refine jr_aload_n hG 0 dX6_copy_45 rfl rfl ?_
  refine jr_iconst (v := (1 : Int32)) hG dX6_copy_46 (by decide) ?_
  refine jr_callVi (As := [.int (1 : Int32)]) hG (c_X6_meets l E N a0 (1 : Int32) (σ)) ci_X6_meets wd_869 ⟨wd_871, wd_21⟩ cl_6 (okO_s ha0) (okO_l ha0) ⟨rfl, rfl, Nat.le_of_ble_eq_true rfl, Nat.le_of_ble_eq_true rfl⟩ rfl rfl (Nat.le_of_ble_eq_true rfl) dX6_copy_47 ⟨Nat.le_refl _, Nat.le_refl _⟩ (fun r21 t20 => ?_)
  exact jr_iret hG hr hk dX6_copy_50
def f_X6_copy (N : Nat) (a0 : Nat) (v1 : Int32) (v2 : Int32) (v3 : Int32) (v4 : Int32) (v5 : Int32) (σ : Mm) : Option (Int32 × Mm) := if okO 6 a0 then (bI (f_X6_isRow N v1 (σ)) (fun r2 t1 => if r2 = 0 then (some ((-1 : Int32), t1)) else (bI (f_X6_isRow N v3 t1) (fun r4 t3 => if r4 = 0 then (some ((-1 : Int32), t3)) else (if 0 ≤ v5 then (bR (gr t3 a0 5) (okA 0) (fun o5 => if inb v1 (arL o5) then (if (gi t3 o5 (ix v1)) < 0 then (f_X6_copy_45 N a0 t3) else (bR (gr t3 a0 5) (okA 0) (fun o6 => if inb v3 (arL o6) then (if 0 ≤ (gi t3 o6 (ix v3)) then (if v2 < 0 then (f_X6_copy_95 N a0 t3) else (if v4 < 0 then (f_X6_copy_95 N a0 t3) else (bR (gr t3 a0 5) (okA 0) (fun o7 => if inb v1 (arL o7) then (if 0 < (lg_cmp ((v2.toInt64) + (v5.toInt64)) ((gi t3 o7 (ix v1)).toInt64)) then (f_X6_copy_95 N a0 t3) else (bR (gr t3 a0 5) (okA 0) (fun o8 => if inb v3 (arL o8) then (if (lg_cmp ((v4.toInt64) + (v5.toInt64)) ((gi t3 o8 (ix v3)).toInt64)) ≤ 0 then (f_X6_copy_104 N N a0 v1 v2 v3 v4 v5 (0 : Int32) t3) else (f_X6_copy_95 N a0 t3)) else none))) else none)))) else (f_X6_copy_45 N a0 t3)) else none))) else none)) else (bI (f_X6_meets N a0 (5 : Int32) t3) (fun r10 t9 => some (r10, t9)))))))) else none
set_option maxRecDepth 20000 in
theorem c_X6_copy (l : Launch) (E : XE) (N : Nat) (a0 : Nat) (v1 : Int32) (v2 : Int32) (v3 : Int32) (v4 : Int32) (v5 : Int32) (σ : Mm) : ∀ r0, f_X6_copy N a0 v1 v2 v3 v4 v5 σ = some r0 → Met l yX6_copy [Cond.code yX6_copy cX6_copy 7 (some .int)] rm_X6_copy (xPc E (NT + 0) σ [.ref (E.B + a0), .int v1, .int v2, .int v3, .int v4, .int v5]) (xQi E (NT + 0) r0) 0 0 (xA E) := by
  refine met_of (N0 := NT) (by decide +kernel) (Nat.le_of_ble_eq_true rfl) ?_
  intro p e s m args below meth c hG hr hk _
  show JR E NT 7 p l e rm_X6_copy s m args below meth c 0 0 (fun r => MQ below (xQi E (NT + 0) r) args s 0 0 (xA E)) 0 [(0, .ref (E.B + a0)), (1, .int v1), (2, .int v2), (3, .int v3), (4, .int v4), (5, .int v5)] [] σ (if okO 6 a0 then (bI (f_X6_isRow N v1 (σ)) (fun r2 t1 => if r2 = 0 then (some ((-1 : Int32), t1)) else (bI (f_X6_isRow N v3 t1) (fun r4 t3 => if r4 = 0 then (some ((-1 : Int32), t3)) else (if 0 ≤ v5 then (bR (gr t3 a0 5) (okA 0) (fun o5 => if inb v1 (arL o5) then (if (gi t3 o5 (ix v1)) < 0 then (f_X6_copy_45 N a0 t3) else (bR (gr t3 a0 5) (okA 0) (fun o6 => if inb v3 (arL o6) then (if 0 ≤ (gi t3 o6 (ix v3)) then (if v2 < 0 then (f_X6_copy_95 N a0 t3) else (if v4 < 0 then (f_X6_copy_95 N a0 t3) else (bR (gr t3 a0 5) (okA 0) (fun o7 => if inb v1 (arL o7) then (if 0 < (lg_cmp ((v2.toInt64) + (v5.toInt64)) ((gi t3 o7 (ix v1)).toInt64)) then (f_X6_copy_95 N a0 t3) else (bR (gr t3 a0 5) (okA 0) (fun o8 => if inb v3 (arL o8) then (if (lg_cmp ((v4.toInt64) + (v5.toInt64)) ((gi t3 o8 (ix v3)).toInt64)) ≤ 0 then (f_X6_copy_104 N N a0 v1 v2 v3 v4 v5 (0 : Int32) t3) else (f_X6_copy_95 N a0 t3)) else none))) else none)))) else (f_X6_copy_45 N a0 t3)) else none))) else none)) else (bI (f_X6_meets N a0 (5 : Int32) t3) (fun r10 t9 => some (r10, t9)))))))) else none)
  refine jr_guard (fun ha0 => ?_)
  refine jr_iload_n hG 1 dX6_copy_0 rfl rfl ?_
  refine jr_callSi (As := [.int v1]) hG (c_X6_isRow l E N v1 (σ)) ci_X6_isRow wd_866 wd_867 ⟨rfl, rfl, Nat.le_of_ble_eq_true rfl, Nat.le_of_ble_eq_true rfl⟩ rfl rfl (Nat.le_of_ble_eq_true rfl) dX6_copy_1 ⟨Nat.le_refl _, Nat.le_refl _⟩ (fun r2 t1 => ?_)
  refine jr_if_eq hG 14 dX6_copy_4 (by decide) (fun _ => ?_) (fun _ => ?_)
  · refine jr_iconst (v := (-1 : Int32)) hG dX6_copy_14 (by decide) ?_
    exact jr_iret hG hr hk dX6_copy_15
  · refine jr_iload_n hG 3 dX6_copy_7 rfl rfl ?_
    refine jr_callSi (As := [.int v3]) hG (c_X6_isRow l E N v3 t1) ci_X6_isRow wd_866 wd_867 ⟨rfl, rfl, Nat.le_of_ble_eq_true rfl, Nat.le_of_ble_eq_true rfl⟩ rfl rfl (Nat.le_of_ble_eq_true rfl) dX6_copy_8 ⟨Nat.le_refl _, Nat.le_refl _⟩ (fun r4 t3 => ?_)
    refine jr_if_ne hG 16 dX6_copy_11 (by decide) (fun _ => ?_) (fun _ => ?_)
    · refine jr_iload hG 5 dX6_copy_16 rfl ?_
      refine jr_if_ge hG 27 dX6_copy_18 (by decide) (fun _ => ?_) (fun _ => ?_)
      · refine jr_aload_n hG 0 dX6_copy_27 rfl rfl ?_
        refine jr_getR hG fi_RX6_17 rfl (okO_s ha0) (okO_l ha0) dX6_copy_28 (fun o5 ho5 => ?_)
        refine jr_iload_n hG 1 dX6_copy_31 rfl rfl ?_
        refine jr_iald hG (okA_s (by decide) ho5) (okA_l ho5) dX6_copy_32 ?_
        refine jr_if_lt hG 45 dX6_copy_33 (by decide) (fun _ => ?_) (fun _ => ?_)
        · refine jr_sub (lv' := [(0, .ref (E.B + a0))]) [0] rfl ?_
          exact w_X6_copy_45 N hG hr hk a0 ha0 t3
        · refine jr_aload_n hG 0 dX6_copy_36 rfl rfl ?_
          refine jr_getR hG fi_RX6_17 rfl (okO_s ha0) (okO_l ha0) dX6_copy_37 (fun o6 ho6 => ?_)
          refine jr_iload_n hG 3 dX6_copy_40 rfl rfl ?_
          refine jr_iald hG (okA_s (by decide) ho6) (okA_l ho6) dX6_copy_41 ?_
          refine jr_if_ge hG 51 dX6_copy_42 (by decide) (fun _ => ?_) (fun _ => ?_)
          · refine jr_iload_n hG 2 dX6_copy_51 rfl rfl ?_
            refine jr_if_lt hG 95 dX6_copy_52 (by decide) (fun _ => ?_) (fun _ => ?_)
            · refine jr_sub (lv' := [(0, .ref (E.B + a0))]) [0] rfl ?_
              exact w_X6_copy_95 N hG hr hk a0 ha0 t3
            · refine jr_iload hG 4 dX6_copy_55 rfl ?_
              refine jr_if_lt hG 95 dX6_copy_57 (by decide) (fun _ => ?_) (fun _ => ?_)
              · refine jr_sub (lv' := [(0, .ref (E.B + a0))]) [0] rfl ?_
                exact w_X6_copy_95 N hG hr hk a0 ha0 t3
              · refine jr_iload_n hG 2 dX6_copy_60 rfl rfl ?_
                refine jr_i2l hG dX6_copy_61 ?_
                refine jr_iload hG 5 dX6_copy_62 rfl ?_
                refine jr_i2l hG dX6_copy_64 ?_
                refine jr_ladd hG dX6_copy_65 ?_
                refine jr_aload_n hG 0 dX6_copy_66 rfl rfl ?_
                refine jr_getR hG fi_RX6_17 rfl (okO_s ha0) (okO_l ha0) dX6_copy_67 (fun o7 ho7 => ?_)
                refine jr_iload_n hG 1 dX6_copy_70 rfl rfl ?_
                refine jr_iald hG (okA_s (by decide) ho7) (okA_l ho7) dX6_copy_71 ?_
                refine jr_i2l hG dX6_copy_72 ?_
                refine jr_lcmp hG dX6_copy_73 ?_
                refine jr_if_gt hG 95 dX6_copy_74 (by decide) (fun _ => ?_) (fun _ => ?_)
                · refine jr_sub (lv' := [(0, .ref (E.B + a0))]) [0] rfl ?_
                  exact w_X6_copy_95 N hG hr hk a0 ha0 t3
                · refine jr_iload hG 4 dX6_copy_77 rfl ?_
                  refine jr_i2l hG dX6_copy_79 ?_
                  refine jr_iload hG 5 dX6_copy_80 rfl ?_
                  refine jr_i2l hG dX6_copy_82 ?_
                  refine jr_ladd hG dX6_copy_83 ?_
                  refine jr_aload_n hG 0 dX6_copy_84 rfl rfl ?_
                  refine jr_getR hG fi_RX6_17 rfl (okO_s ha0) (okO_l ha0) dX6_copy_85 (fun o8 ho8 => ?_)
                  refine jr_iload_n hG 3 dX6_copy_88 rfl rfl ?_
                  refine jr_iald hG (okA_s (by decide) ho8) (okA_l ho8) dX6_copy_89 ?_
                  refine jr_i2l hG dX6_copy_90 ?_
                  refine jr_lcmp hG dX6_copy_91 ?_
                  refine jr_if_le hG 101 dX6_copy_92 (by decide) (fun _ => ?_) (fun _ => ?_)
                  · refine jr_iconst (v := (0 : Int32)) hG dX6_copy_101 (by decide) ?_
                    refine jr_istore (lv' := [(6, .int (0 : Int32)), (0, .ref (E.B + a0)), (1, .int v1), (2, .int v2), (3, .int v3), (4, .int v4), (5, .int v5)]) hG dX6_copy_102 (by decide) rfl ?_
                    refine jr_sub (lv' := [(0, .ref (E.B + a0)), (1, .int v1), (2, .int v2), (3, .int v3), (4, .int v4), (5, .int v5), (6, .int (0 : Int32))]) [1, 2, 3, 4, 5, 6, 0] rfl ?_
                    exact w_X6_copy_104 N hG hr hk N a0 v1 v2 v3 v4 v5 (0 : Int32) ha0 t3
                  · refine jr_sub (lv' := [(0, .ref (E.B + a0))]) [0] rfl ?_
                    exact w_X6_copy_95 N hG hr hk a0 ha0 t3
          · refine jr_sub (lv' := [(0, .ref (E.B + a0))]) [0] rfl ?_
            exact w_X6_copy_45 N hG hr hk a0 ha0 t3
      · refine jr_aload_n hG 0 dX6_copy_21 rfl rfl ?_
        refine jr_iconst (v := (5 : Int32)) hG dX6_copy_22 (by decide) ?_
        refine jr_callVi (As := [.int (5 : Int32)]) hG (c_X6_meets l E N a0 (5 : Int32) t3) ci_X6_meets wd_869 ⟨wd_871, wd_21⟩ cl_6 (okO_s ha0) (okO_l ha0) ⟨rfl, rfl, Nat.le_of_ble_eq_true rfl, Nat.le_of_ble_eq_true rfl⟩ rfl rfl (Nat.le_of_ble_eq_true rfl) dX6_copy_23 ⟨Nat.le_refl _, Nat.le_refl _⟩ (fun r10 t9 => ?_)
        exact jr_iret hG hr hk dX6_copy_26
    · refine jr_iconst (v := (-1 : Int32)) hG dX6_copy_14 (by decide) ?_
      exact jr_iret hG hr hk dX6_copy_15
-- TonguesDealtModel.mean(I)I
abbrev rm_X6_mean : Room := { frames := 2, cells := 0, slots := 0, locals := 42 }
theorem ci_X6_mean : CIx yX6_mean cX6_mean 5 (some .int) 1 := ⟨wd_900, wd_77, by decide +kernel⟩
def f_X6_mean_44 (N : Nat)  : Nat → Nat → Int32 → Int64 → Int32 → Mm → Option (Int32 × Mm)
  | 0 => fun _ _ _ _ _ => none
  | n + 1 => fun a0 v1 v2 v4 σ => bR (gr σ a0 5) (okA 0) (fun o9 => if inb v1 (arL o9) then (if (gi σ o9 (ix v1)) ≤ v4 then (bR (gr σ a0 5) (okA 0) (fun o10 => if inb v1 (arL o10) then (if ((gi σ o10 (ix v1)).toInt64) = 0 then none else bI (f_X6_gives N a0 ((v2 / ((gi σ o10 (ix v1)).toInt64)).toInt32) (1 : Int32) (σ)) (fun r12 t11 => some (r12, t11))) else none)) else (bI (f_X6_rowAt N a0 v1 v4 (σ)) (fun r14 t13 => lt (v2 + (r14.toInt64)) (fun x15 => f_X6_mean_44 N n a0 v1 x15 (v4 + (1 : Int32)) t13)))) else none)
set_option maxRecDepth 20000 in
theorem w_X6_mean_44 {p : Program} {l : Launch} {e : Env} {s : State} {m : MethodId} {args : Array Value} {below : List Frame} {meth : Method} {c : Code} {E : XE} (N : Nat) (hG : GG E NT 5 RX6 cX6_mean p s m args c) (hr : meth.sig.returnType = (some .int)) (hk : meth.locks = false)  : ∀ (n : Nat) (a0 : Nat) (v1 : Int32) (v2 : Int64) (v4 : Int32) (ha0 : okO 6 a0 = true) (σ : Mm), JR E NT 5 p l e rm_X6_mean s m args below meth c 0 0 (fun r => MQ below (xQi E (NT + 0) r) args s 0 0 (xA E)) 44 [(0, .ref (E.B + a0)), (1, .int v1), (2, .long v2), (4, .int v4)] [] σ (f_X6_mean_44 N n a0 v1 v2 v4 σ) := by
  intro n
  induction n with
  | zero => intro a0 v1 v2 v4 ha0 σ r hX; cases hX
  | succ n ih =>
    intro a0 v1 v2 v4 ha0 σ
    show JR E NT 5 p l e rm_X6_mean s m args below meth c 0 0 (fun r => MQ below (xQi E (NT + 0) r) args s 0 0 (xA E)) 44 [(0, .ref (E.B + a0)), (1, .int v1), (2, .long v2), (4, .int v4)] [] σ (bR (gr σ a0 5) (okA 0) (fun o9 => if inb v1 (arL o9) then (if (gi σ o9 (ix v1)) ≤ v4 then (bR (gr σ a0 5) (okA 0) (fun o10 => if inb v1 (arL o10) then (if ((gi σ o10 (ix v1)).toInt64) = 0 then none else bI (f_X6_gives N a0 ((v2 / ((gi σ o10 (ix v1)).toInt64)).toInt32) (1 : Int32) (σ)) (fun r12 t11 => some (r12, t11))) else none)) else (bI (f_X6_rowAt N a0 v1 v4 (σ)) (fun r14 t13 => lt (v2 + (r14.toInt64)) (fun x15 => f_X6_mean_44 N n a0 v1 x15 (v4 + (1 : Int32)) t13)))) else none))
    refine jr_iload hG 3 dX6_mean_44 rfl ?_
    refine jr_aload_n hG 0 dX6_mean_46 rfl rfl ?_
    refine jr_getR hG fi_RX6_17 rfl (okO_s ha0) (okO_l ha0) dX6_mean_47 (fun o9 ho9 => ?_)
    refine jr_iload_n hG 1 dX6_mean_50 rfl rfl ?_
    refine jr_iald hG (okA_s (by decide) ho9) (okA_l ho9) dX6_mean_51 ?_
    refine jr_icmp_ge hG 72 dX6_mean_52 (by decide) (fun _ => ?_) (fun _ => ?_)
    · refine jr_aload_n hG 0 dX6_mean_72 rfl rfl ?_
      refine jr_lload_n hG 2 dX6_mean_73 rfl rfl ?_
      refine jr_aload_n hG 0 dX6_mean_74 rfl rfl ?_
      refine jr_getR hG fi_RX6_17 rfl (okO_s ha0) (okO_l ha0) dX6_mean_75 (fun o10 ho10 => ?_)
      refine jr_iload_n hG 1 dX6_mean_78 rfl rfl ?_
      refine jr_iald hG (okA_s (by decide) ho10) (okA_l ho10) dX6_mean_79 ?_
      refine jr_i2l hG dX6_mean_80 ?_
      refine jr_ldiv hG dX6_mean_81 ?_
      refine jr_l2i hG dX6_mean_82 ?_
      refine jr_iconst (v := (1 : Int32)) hG dX6_mean_83 (by decide) ?_
      refine jr_callVi (As := [.int ((v2 / ((gi σ o10 (ix v1)).toInt64)).toInt32), .int (1 : Int32)]) hG (c_X6_gives l E N a0 ((v2 / ((gi σ o10 (ix v1)).toInt64)).toInt32) (1 : Int32) (σ)) ci_X6_gives wd_881 ⟨wd_883, wd_23⟩ cl_6 (okO_s ha0) (okO_l ha0) ⟨rfl, rfl, Nat.le_of_ble_eq_true rfl, Nat.le_of_ble_eq_true rfl⟩ rfl rfl (Nat.le_of_ble_eq_true rfl) dX6_mean_84 ⟨Nat.le_refl _, Nat.le_refl _⟩ (fun r12 t11 => ?_)
      exact jr_iret hG hr hk dX6_mean_87
    · refine jr_lload_n hG 2 dX6_mean_55 rfl rfl ?_
      refine jr_aload_n hG 0 dX6_mean_56 rfl rfl ?_
      refine jr_iload_n hG 1 dX6_mean_57 rfl rfl ?_
      refine jr_iload hG 3 dX6_mean_58 rfl ?_
      refine jr_callVi (As := [.int v1, .int v4]) hG (c_X6_rowAt l E N a0 v1 v4 (σ)) ci_X6_rowAt wd_877 ⟨wd_879, wd_22⟩ cl_6 (okO_s ha0) (okO_l ha0) ⟨rfl, rfl, Nat.le_of_ble_eq_true rfl, Nat.le_of_ble_eq_true rfl⟩ rfl rfl (Nat.le_of_ble_eq_true rfl) dX6_mean_60 ⟨Nat.le_refl _, Nat.le_refl _⟩ (fun r14 t13 => ?_)
      refine jr_i2l hG dX6_mean_63 ?_
      refine jr_ladd hG dX6_mean_64 ?_
      refine jr_letl (fun x15 _ => ?_)
      refine jr_lstore_n (lv' := [(2, .long x15), (0, .ref (E.B + a0)), (1, .int v1), (4, .int v4)]) hG dX6_mean_65 rfl (by decide) rfl ?_
      refine jr_iinc (v := v4 + (1 : Int32)) (lv' := [(4, .int (v4 + (1 : Int32))), (2, .long x15), (0, .ref (E.B + a0)), (1, .int v1)]) hG 3 dX6_mean_66 rfl rfl (by decide) rfl ?_
      refine jr_goto hG 44 dX6_mean_69 (by decide) ?_
      refine jr_sub (lv' := [(0, .ref (E.B + a0)), (1, .int v1), (2, .long x15), (4, .int (v4 + (1 : Int32)))]) [2, 3, 1, 0] rfl ?_
      exact ih a0 v1 x15 (v4 + (1 : Int32)) ha0 t13
def f_X6_mean (N : Nat) (a0 : Nat) (v1 : Int32) (σ : Mm) : Option (Int32 × Mm) := if okO 6 a0 then (bI (f_X6_isRow N v1 (σ)) (fun r2 t1 => if r2 = 0 then (some ((-1 : Int32), t1)) else (bR (gr t1 a0 5) (okA 0) (fun o3 => if inb v1 (arL o3) then (if 0 ≤ (gi t1 o3 (ix v1)) then (bR (gr t1 a0 5) (okA 0) (fun o4 => if inb v1 (arL o4) then (if (gi t1 o4 (ix v1)) = 0 then (bI (f_X6_meets N a0 (4 : Int32) t1) (fun r6 t5 => some (r6, t5))) else (f_X6_mean_44 N N a0 v1 (0 : Int64) (0 : Int32) t1)) else none)) else (bI (f_X6_meets N a0 (1 : Int32) t1) (fun r8 t7 => some (r8, t7)))) else none)))) else none
set_option maxRecDepth 20000 in
theorem c_X6_mean (l : Launch) (E : XE) (N : Nat) (a0 : Nat) (v1 : Int32) (σ : Mm) : ∀ r0, f_X6_mean N a0 v1 σ = some r0 → Met l yX6_mean [Cond.code yX6_mean cX6_mean 5 (some .int)] rm_X6_mean (xPc E (NT + 0) σ [.ref (E.B + a0), .int v1]) (xQi E (NT + 0) r0) 0 0 (xA E) := by
  refine met_of (N0 := NT) (by decide +kernel) (Nat.le_of_ble_eq_true rfl) ?_
  intro p e s m args below meth c hG hr hk _
  show JR E NT 5 p l e rm_X6_mean s m args below meth c 0 0 (fun r => MQ below (xQi E (NT + 0) r) args s 0 0 (xA E)) 0 [(0, .ref (E.B + a0)), (1, .int v1)] [] σ (if okO 6 a0 then (bI (f_X6_isRow N v1 (σ)) (fun r2 t1 => if r2 = 0 then (some ((-1 : Int32), t1)) else (bR (gr t1 a0 5) (okA 0) (fun o3 => if inb v1 (arL o3) then (if 0 ≤ (gi t1 o3 (ix v1)) then (bR (gr t1 a0 5) (okA 0) (fun o4 => if inb v1 (arL o4) then (if (gi t1 o4 (ix v1)) = 0 then (bI (f_X6_meets N a0 (4 : Int32) t1) (fun r6 t5 => some (r6, t5))) else (f_X6_mean_44 N N a0 v1 (0 : Int64) (0 : Int32) t1)) else none)) else (bI (f_X6_meets N a0 (1 : Int32) t1) (fun r8 t7 => some (r8, t7)))) else none)))) else none)
  refine jr_guard (fun ha0 => ?_)
  refine jr_iload_n hG 1 dX6_mean_0 rfl rfl ?_
  refine jr_callSi (As := [.int v1]) hG (c_X6_isRow l E N v1 (σ)) ci_X6_isRow wd_866 wd_867 ⟨rfl, rfl, Nat.le_of_ble_eq_true rfl, Nat.le_of_ble_eq_true rfl⟩ rfl rfl (Nat.le_of_ble_eq_true rfl) dX6_mean_1 ⟨Nat.le_refl _, Nat.le_refl _⟩ (fun r2 t1 => ?_)
  refine jr_if_ne hG 9 dX6_mean_4 (by decide) (fun _ => ?_) (fun _ => ?_)
  · refine jr_aload_n hG 0 dX6_mean_9 rfl rfl ?_
    refine jr_getR hG fi_RX6_17 rfl (okO_s ha0) (okO_l ha0) dX6_mean_10 (fun o3 ho3 => ?_)
    refine jr_iload_n hG 1 dX6_mean_13 rfl rfl ?_
    refine jr_iald hG (okA_s (by decide) ho3) (okA_l ho3) dX6_mean_14 ?_
    refine jr_if_ge hG 24 dX6_mean_15 (by decide) (fun _ => ?_) (fun _ => ?_)
    · refine jr_aload_n hG 0 dX6_mean_24 rfl rfl ?_
      refine jr_getR hG fi_RX6_17 rfl (okO_s ha0) (okO_l ha0) dX6_mean_25 (fun o4 ho4 => ?_)
      refine jr_iload_n hG 1 dX6_mean_28 rfl rfl ?_
      refine jr_iald hG (okA_s (by decide) ho4) (okA_l ho4) dX6_mean_29 ?_
      refine jr_if_ne hG 39 dX6_mean_30 (by decide) (fun _ => ?_) (fun _ => ?_)
      · refine jr_lconst (v := (0 : Int64)) hG dX6_mean_39 (by decide) ?_
        refine jr_lstore_n (lv' := [(2, .long (0 : Int64)), (0, .ref (E.B + a0)), (1, .int v1)]) hG dX6_mean_40 rfl (by decide) rfl ?_
        refine jr_iconst (v := (0 : Int32)) hG dX6_mean_41 (by decide) ?_
        refine jr_istore (lv' := [(4, .int (0 : Int32)), (2, .long (0 : Int64)), (0, .ref (E.B + a0)), (1, .int v1)]) hG dX6_mean_42 (by decide) rfl ?_
        refine jr_sub (lv' := [(0, .ref (E.B + a0)), (1, .int v1), (2, .long (0 : Int64)), (4, .int (0 : Int32))]) [2, 3, 1, 0] rfl ?_
        exact w_X6_mean_44 N hG hr hk N a0 v1 (0 : Int64) (0 : Int32) ha0 t1
      · refine jr_aload_n hG 0 dX6_mean_33 rfl rfl ?_
        refine jr_iconst (v := (4 : Int32)) hG dX6_mean_34 (by decide) ?_
        refine jr_callVi (As := [.int (4 : Int32)]) hG (c_X6_meets l E N a0 (4 : Int32) t1) ci_X6_meets wd_869 ⟨wd_871, wd_21⟩ cl_6 (okO_s ha0) (okO_l ha0) ⟨rfl, rfl, Nat.le_of_ble_eq_true rfl, Nat.le_of_ble_eq_true rfl⟩ rfl rfl (Nat.le_of_ble_eq_true rfl) dX6_mean_35 ⟨Nat.le_refl _, Nat.le_refl _⟩ (fun r6 t5 => ?_)
        exact jr_iret hG hr hk dX6_mean_38
    · refine jr_aload_n hG 0 dX6_mean_18 rfl rfl ?_
      refine jr_iconst (v := (1 : Int32)) hG dX6_mean_19 (by decide) ?_
      refine jr_callVi (As := [.int (1 : Int32)]) hG (c_X6_meets l E N a0 (1 : Int32) t1) ci_X6_meets wd_869 ⟨wd_871, wd_21⟩ cl_6 (okO_s ha0) (okO_l ha0) ⟨rfl, rfl, Nat.le_of_ble_eq_true rfl, Nat.le_of_ble_eq_true rfl⟩ rfl rfl (Nat.le_of_ble_eq_true rfl) dX6_mean_20 ⟨Nat.le_refl _, Nat.le_refl _⟩ (fun r8 t7 => ?_)
      exact jr_iret hG hr hk dX6_mean_23
  · refine jr_iconst (v := (-1 : Int32)) hG dX6_mean_7 (by decide) ?_
    exact jr_iret hG hr hk dX6_mean_8
-- TonguesDealtModel.isText(I)Z
abbrev rm_X6_isText : Room := { frames := 1, cells := 0, slots := 0, locals := 22 }
theorem ci_X6_isText : CIx yX6_isText cX6_isText 1 (some .boolean) 1 := ⟨wd_907, wd_77, by decide +kernel⟩
def f_X6_isText (N : Nat) (v0 : Int32) (σ : Mm) : Option (Int32 × Mm) := bI (f_X6_in N v0 (0 : Int32) (3 : Int32) (σ)) (fun r2 t1 => if bz r2 then some (r2, t1) else none)
set_option maxRecDepth 20000 in
theorem c_X6_isText (l : Launch) (E : XE) (N : Nat) (v0 : Int32) (σ : Mm) : ∀ r0, f_X6_isText N v0 σ = some r0 → Met l yX6_isText [Cond.code yX6_isText cX6_isText 1 (some .boolean)] rm_X6_isText (xPc E (NT + 0) σ [.int v0]) (xQi E (NT + 0) r0) 0 0 (xA E) := by
  refine met_of (N0 := NT) (by decide +kernel) (Nat.le_of_ble_eq_true rfl) ?_
  intro p e s m args below meth c hG hr hk _
  show JR E NT 1 p l e rm_X6_isText s m args below meth c 0 0 (fun r => MQ below (xQi E (NT + 0) r) args s 0 0 (xA E)) 0 [(0, .int v0)] [] σ (bI (f_X6_in N v0 (0 : Int32) (3 : Int32) (σ)) (fun r2 t1 => if bz r2 then some (r2, t1) else none))
  refine jr_iload_n hG 0 dX6_isText_0 rfl rfl ?_
  refine jr_iconst (v := (0 : Int32)) hG dX6_isText_1 (by decide) ?_
  refine jr_iconst (v := (3 : Int32)) hG dX6_isText_2 (by decide) ?_
  refine jr_callSi (As := [.int v0, .int (0 : Int32), .int (3 : Int32)]) hG (c_X6_in l E N v0 (0 : Int32) (3 : Int32) (σ)) ci_X6_in wd_847 wd_848 ⟨rfl, rfl, Nat.le_of_ble_eq_true rfl, Nat.le_of_ble_eq_true rfl⟩ rfl rfl (Nat.le_of_ble_eq_true rfl) dX6_isText_3 ⟨Nat.le_refl _, Nat.le_refl _⟩ (fun r2 t1 => ?_)
  refine jr_guard (fun hz => ?_)
  exact jr_zret hG hr hk hz dX6_isText_6
-- TonguesDealtModel.text(II)I
abbrev rm_X6_text : Room := { frames := 2, cells := 0, slots := 0, locals := 42 }
theorem ci_X6_text : CIx yX6_text cX6_text 4 (some .int) 2 := ⟨wd_904, wd_77, by decide +kernel⟩
def f_X6_text_34 (N : Nat)  : Nat → Nat → Int32 → Int32 → Int32 → Mm → Option (Int32 × Mm)
  | 0 => fun _ _ _ _ _ => none
  | n + 1 => fun a0 v1 v2 v3 σ => if (60 : Int32) ≤ v3 then (some (v2, σ)) else (bR (gr σ a0 9) (okA 1) (fun o7 => if inb (((60 : Int32) * v1) + v3) (arL o7) then (lt (si σ o7 (ix (((60 : Int32) * v1) + v3)) ((32 : Int32).toInt8.toInt32)) (fun t8 => f_X6_text_34 N n a0 v1 v2 (v3 + (1 : Int32)) t8)) else none))
set_option maxRecDepth 20000 in
theorem w_X6_text_34 {p : Program} {l : Launch} {e : Env} {s : State} {m : MethodId} {args : Array Value} {below : List Frame} {meth : Method} {c : Code} {E : XE} (N : Nat) (hG : GG E NT 4 RX6 cX6_text p s m args c) (hr : meth.sig.returnType = (some .int)) (hk : meth.locks = false)  : ∀ (n : Nat) (a0 : Nat) (v1 : Int32) (v2 : Int32) (v3 : Int32) (ha0 : okO 6 a0 = true) (σ : Mm), JR E NT 4 p l e rm_X6_text s m args below meth c 0 0 (fun r => MQ below (xQi E (NT + 0) r) args s 0 0 (xA E)) 34 [(0, .ref (E.B + a0)), (1, .int v1), (2, .int v2), (3, .int v3)] [] σ (f_X6_text_34 N n a0 v1 v2 v3 σ) := by
  intro n
  induction n with
  | zero => intro a0 v1 v2 v3 ha0 σ r hX; cases hX
  | succ n ih =>
    intro a0 v1 v2 v3 ha0 σ
    show JR E NT 4 p l e rm_X6_text s m args below meth c 0 0 (fun r => MQ below (xQi E (NT + 0) r) args s 0 0 (xA E)) 34 [(0, .ref (E.B + a0)), (1, .int v1), (2, .int v2), (3, .int v3)] [] σ (if (60 : Int32) ≤ v3 then (some (v2, σ)) else (bR (gr σ a0 9) (okA 1) (fun o7 => if inb (((60 : Int32) * v1) + v3) (arL o7) then (lt (si σ o7 (ix (((60 : Int32) * v1) + v3)) ((32 : Int32).toInt8.toInt32)) (fun t8 => f_X6_text_34 N n a0 v1 v2 (v3 + (1 : Int32)) t8)) else none)))
    refine jr_iload_n hG 3 dX6_text_34 rfl rfl ?_
    refine jr_bipush (v := (60 : Int32)) hG dX6_text_35 (by decide) ?_
    refine jr_icmp_ge hG 59 dX6_text_37 (by decide) (fun _ => ?_) (fun _ => ?_)
    · refine jr_iload_n hG 2 dX6_text_59 rfl rfl ?_
      exact jr_iret hG hr hk dX6_text_60
    · refine jr_aload_n hG 0 dX6_text_40 rfl rfl ?_
      refine jr_getR hG fi_RX6_29 rfl (okO_s ha0) (okO_l ha0) dX6_text_41 (fun o7 ho7 => ?_)
      refine jr_bipush (v := (60 : Int32)) hG dX6_text_44 (by decide) ?_
      refine jr_iload_n hG 1 dX6_text_46 rfl rfl ?_
      refine jr_imul hG dX6_text_47 ?_
      refine jr_iload_n hG 3 dX6_text_48 rfl rfl ?_
      refine jr_iadd hG dX6_text_49 ?_
      refine jr_bipush (v := (32 : Int32)) hG dX6_text_50 (by decide) ?_
      refine jr_bast hG (okA_s (by decide) ho7) (okA_l ho7) dX6_text_52 ?_
      refine jr_lets (fun t8 _ => ?_)
      refine jr_iinc (v := v3 + (1 : Int32)) (lv' := [(3, .int (v3 + (1 : Int32))), (0, .ref (E.B + a0)), (1, .int v1), (2, .int v2)]) hG 3 dX6_text_53 rfl rfl (by decide) rfl ?_
      refine jr_goto hG 34 dX6_text_56 (by decide) ?_
      refine jr_sub (lv' := [(0, .ref (E.B + a0)), (1, .int v1), (2, .int v2), (3, .int (v3 + (1 : Int32)))]) [1, 2, 3, 0] rfl ?_
      exact ih a0 v1 v2 (v3 + (1 : Int32)) ha0 t8
def f_X6_text (N : Nat) (a0 : Nat) (v1 : Int32) (v2 : Int32) (σ : Mm) : Option (Int32 × Mm) := if okO 6 a0 then (bI (f_X6_isText N v1 (σ)) (fun r2 t1 => if r2 = 0 then (some ((-1 : Int32), t1)) else (if v2 ≤ (60 : Int32) then (if 0 ≤ v2 then (bR (gr t1 a0 8) (okA 0) (fun o3 => if inb v1 (arL o3) then (lt (si t1 o3 (ix v1) v2) (fun t4 => f_X6_text_34 N N a0 v1 v2 (0 : Int32) t4)) else none)) else (bI (f_X6_meets N a0 (5 : Int32) t1) (fun r6 t5 => some (r6, t5)))) else (some ((-1 : Int32), t1))))) else none
set_option maxRecDepth 20000 in
theorem c_X6_text (l : Launch) (E : XE) (N : Nat) (a0 : Nat) (v1 : Int32) (v2 : Int32) (σ : Mm) : ∀ r0, f_X6_text N a0 v1 v2 σ = some r0 → Met l yX6_text [Cond.code yX6_text cX6_text 4 (some .int)] rm_X6_text (xPc E (NT + 0) σ [.ref (E.B + a0), .int v1, .int v2]) (xQi E (NT + 0) r0) 0 0 (xA E) := by
  refine met_of (N0 := NT) (by decide +kernel) (Nat.le_of_ble_eq_true rfl) ?_
  intro p e s m args below meth c hG hr hk _
  show JR E NT 4 p l e rm_X6_text s m args below meth c 0 0 (fun r => MQ below (xQi E (NT + 0) r) args s 0 0 (xA E)) 0 [(0, .ref (E.B + a0)), (1, .int v1), (2, .int v2)] [] σ (if okO 6 a0 then (bI (f_X6_isText N v1 (σ)) (fun r2 t1 => if r2 = 0 then (some ((-1 : Int32), t1)) else (if v2 ≤ (60 : Int32) then (if 0 ≤ v2 then (bR (gr t1 a0 8) (okA 0) (fun o3 => if inb v1 (arL o3) then (lt (si t1 o3 (ix v1) v2) (fun t4 => f_X6_text_34 N N a0 v1 v2 (0 : Int32) t4)) else none)) else (bI (f_X6_meets N a0 (5 : Int32) t1) (fun r6 t5 => some (r6, t5)))) else (some ((-1 : Int32), t1))))) else none)
  refine jr_guard (fun ha0 => ?_)
  refine jr_iload_n hG 1 dX6_text_0 rfl rfl ?_
  refine jr_callSi (As := [.int v1]) hG (c_X6_isText l E N v1 (σ)) ci_X6_isText wd_905 wd_906 ⟨rfl, rfl, Nat.le_of_ble_eq_true rfl, Nat.le_of_ble_eq_true rfl⟩ rfl rfl (Nat.le_of_ble_eq_true rfl) dX6_text_1 ⟨Nat.le_refl _, Nat.le_refl _⟩ (fun r2 t1 => ?_)
  refine jr_if_eq hG 13 dX6_text_4 (by decide) (fun _ => ?_) (fun _ => ?_)
  · refine jr_iconst (v := (-1 : Int32)) hG dX6_text_13 (by decide) ?_
    exact jr_iret hG hr hk dX6_text_14
  · refine jr_iload_n hG 2 dX6_text_7 rfl rfl ?_
    refine jr_bipush (v := (60 : Int32)) hG dX6_text_8 (by decide) ?_
    refine jr_icmp_le hG 15 dX6_text_10 (by decide) (fun _ => ?_) (fun _ => ?_)
    · refine jr_iload_n hG 2 dX6_text_15 rfl rfl ?_
      refine jr_if_ge hG 25 dX6_text_16 (by decide) (fun _ => ?_) (fun _ => ?_)
      · refine jr_aload_n hG 0 dX6_text_25 rfl rfl ?_
        refine jr_getR hG fi_RX6_26 rfl (okO_s ha0) (okO_l ha0) dX6_text_26 (fun o3 ho3 => ?_)
        refine jr_iload_n hG 1 dX6_text_29 rfl rfl ?_
        refine jr_iload_n hG 2 dX6_text_30 rfl rfl ?_
        refine jr_iast hG (okA_s (by decide) ho3) (okA_l ho3) dX6_text_31 ?_
        refine jr_lets (fun t4 _ => ?_)
        refine jr_iconst (v := (0 : Int32)) hG dX6_text_32 (by decide) ?_
        refine jr_istore_n (lv' := [(3, .int (0 : Int32)), (0, .ref (E.B + a0)), (1, .int v1), (2, .int v2)]) hG dX6_text_33 rfl (by decide) rfl ?_
        refine jr_sub (lv' := [(0, .ref (E.B + a0)), (1, .int v1), (2, .int v2), (3, .int (0 : Int32))]) [1, 2, 3, 0] rfl ?_
        exact w_X6_text_34 N hG hr hk N a0 v1 v2 (0 : Int32) ha0 t4
      · refine jr_aload_n hG 0 dX6_text_19 rfl rfl ?_
        refine jr_iconst (v := (5 : Int32)) hG dX6_text_20 (by decide) ?_
        refine jr_callVi (As := [.int (5 : Int32)]) hG (c_X6_meets l E N a0 (5 : Int32) t1) ci_X6_meets wd_869 ⟨wd_871, wd_21⟩ cl_6 (okO_s ha0) (okO_l ha0) ⟨rfl, rfl, Nat.le_of_ble_eq_true rfl, Nat.le_of_ble_eq_true rfl⟩ rfl rfl (Nat.le_of_ble_eq_true rfl) dX6_text_21 ⟨Nat.le_refl _, Nat.le_refl _⟩ (fun r6 t5 => ?_)
        exact jr_iret hG hr hk dX6_text_24
    · refine jr_iconst (v := (-1 : Int32)) hG dX6_text_13 (by decide) ?_
      exact jr_iret hG hr hk dX6_text_14
-- TonguesDealtModel.put(III)I
abbrev rm_X6_put : Room := { frames := 2, cells := 0, slots := 0, locals := 42 }
theorem ci_X6_put : CIx yX6_put cX6_put 5 (some .int) 3 := ⟨wd_911, wd_77, by decide +kernel⟩
def f_X6_put (N : Nat) (a0 : Nat) (v1 : Int32) (v2 : Int32) (v3 : Int32) (σ : Mm) : Option (Int32 × Mm) := if okO 6 a0 then (bI (f_X6_isText N v1 (σ)) (fun r2 t1 => if r2 = 0 then (some ((-1 : Int32), t1)) else (bR (gr t1 a0 8) (okA 0) (fun o3 => if inb v1 (arL o3) then (if 0 ≤ (gi t1 o3 (ix v1)) then (bR (gr t1 a0 8) (okA 0) (fun o4 => if inb v1 (arL o4) then (bI (f_X6_in N v2 (0 : Int32) ((gi t1 o4 (ix v1)) - (1 : Int32)) t1) (fun r6 t5 => if r6 = 0 then (bI (f_X6_meets N a0 (2 : Int32) t5) (fun r12 t11 => some (r12, t11))) else (bR (gr t5 a0 9) (okA 1) (fun o7 => if inb (((60 : Int32) * v1) + v2) (arL o7) then (lt (gi t5 o7 (ix (((60 : Int32) * v1) + v2))) (fun x8 => bR (gr t5 a0 9) (okA 1) (fun o9 => if inb (((60 : Int32) * v1) + v2) (arL o9) then (lt (si t5 o9 (ix (((60 : Int32) * v1) + v2)) ((v3.toInt8.toInt32).toInt8.toInt32)) (fun t10 => some ((1000 : Int32) + x8, t10))) else none))) else none)))) else none)) else (bI (f_X6_meets N a0 (1 : Int32) t1) (fun r14 t13 => some (r14, t13)))) else none)))) else none
set_option maxRecDepth 20000 in
theorem c_X6_put (l : Launch) (E : XE) (N : Nat) (a0 : Nat) (v1 : Int32) (v2 : Int32) (v3 : Int32) (σ : Mm) : ∀ r0, f_X6_put N a0 v1 v2 v3 σ = some r0 → Met l yX6_put [Cond.code yX6_put cX6_put 5 (some .int)] rm_X6_put (xPc E (NT + 0) σ [.ref (E.B + a0), .int v1, .int v2, .int v3]) (xQi E (NT + 0) r0) 0 0 (xA E) := by
  refine met_of (N0 := NT) (by decide +kernel) (Nat.le_of_ble_eq_true rfl) ?_
  intro p e s m args below meth c hG hr hk _
  show JR E NT 5 p l e rm_X6_put s m args below meth c 0 0 (fun r => MQ below (xQi E (NT + 0) r) args s 0 0 (xA E)) 0 [(0, .ref (E.B + a0)), (1, .int v1), (2, .int v2), (3, .int v3)] [] σ (if okO 6 a0 then (bI (f_X6_isText N v1 (σ)) (fun r2 t1 => if r2 = 0 then (some ((-1 : Int32), t1)) else (bR (gr t1 a0 8) (okA 0) (fun o3 => if inb v1 (arL o3) then (if 0 ≤ (gi t1 o3 (ix v1)) then (bR (gr t1 a0 8) (okA 0) (fun o4 => if inb v1 (arL o4) then (bI (f_X6_in N v2 (0 : Int32) ((gi t1 o4 (ix v1)) - (1 : Int32)) t1) (fun r6 t5 => if r6 = 0 then (bI (f_X6_meets N a0 (2 : Int32) t5) (fun r12 t11 => some (r12, t11))) else (bR (gr t5 a0 9) (okA 1) (fun o7 => if inb (((60 : Int32) * v1) + v2) (arL o7) then (lt (gi t5 o7 (ix (((60 : Int32) * v1) + v2))) (fun x8 => bR (gr t5 a0 9) (okA 1) (fun o9 => if inb (((60 : Int32) * v1) + v2) (arL o9) then (lt (si t5 o9 (ix (((60 : Int32) * v1) + v2)) ((v3.toInt8.toInt32).toInt8.toInt32)) (fun t10 => some ((1000 : Int32) + x8, t10))) else none))) else none)))) else none)) else (bI (f_X6_meets N a0 (1 : Int32) t1) (fun r14 t13 => some (r14, t13)))) else none)))) else none)
  refine jr_guard (fun ha0 => ?_)
  refine jr_iload_n hG 1 dX6_put_0 rfl rfl ?_
  refine jr_callSi (As := [.int v1]) hG (c_X6_isText l E N v1 (σ)) ci_X6_isText wd_905 wd_906 ⟨rfl, rfl, Nat.le_of_ble_eq_true rfl, Nat.le_of_ble_eq_true rfl⟩ rfl rfl (Nat.le_of_ble_eq_true rfl) dX6_put_1 ⟨Nat.le_refl _, Nat.le_refl _⟩ (fun r2 t1 => ?_)
  refine jr_if_ne hG 9 dX6_put_4 (by decide) (fun _ => ?_) (fun _ => ?_)
  · refine jr_aload_n hG 0 dX6_put_9 rfl rfl ?_
    refine jr_getR hG fi_RX6_26 rfl (okO_s ha0) (okO_l ha0) dX6_put_10 (fun o3 ho3 => ?_)
    refine jr_iload_n hG 1 dX6_put_13 rfl rfl ?_
    refine jr_iald hG (okA_s (by decide) ho3) (okA_l ho3) dX6_put_14 ?_
    refine jr_if_ge hG 24 dX6_put_15 (by decide) (fun _ => ?_) (fun _ => ?_)
    · refine jr_iload_n hG 2 dX6_put_24 rfl rfl ?_
      refine jr_iconst (v := (0 : Int32)) hG dX6_put_25 (by decide) ?_
      refine jr_aload_n hG 0 dX6_put_26 rfl rfl ?_
      refine jr_getR hG fi_RX6_26 rfl (okO_s ha0) (okO_l ha0) dX6_put_27 (fun o4 ho4 => ?_)
      refine jr_iload_n hG 1 dX6_put_30 rfl rfl ?_
      refine jr_iald hG (okA_s (by decide) ho4) (okA_l ho4) dX6_put_31 ?_
      refine jr_iconst (v := (1 : Int32)) hG dX6_put_32 (by decide) ?_
      refine jr_isub hG dX6_put_33 ?_
      refine jr_callSi (As := [.int v2, .int (0 : Int32), .int ((gi t1 o4 (ix v1)) - (1 : Int32))]) hG (c_X6_in l E N v2 (0 : Int32) ((gi t1 o4 (ix v1)) - (1 : Int32)) t1) ci_X6_in wd_847 wd_848 ⟨rfl, rfl, Nat.le_of_ble_eq_true rfl, Nat.le_of_ble_eq_true rfl⟩ rfl rfl (Nat.le_of_ble_eq_true rfl) dX6_put_34 ⟨Nat.le_refl _, Nat.le_refl _⟩ (fun r6 t5 => ?_)
      refine jr_if_ne hG 46 dX6_put_37 (by decide) (fun _ => ?_) (fun _ => ?_)
      · refine jr_aload_n hG 0 dX6_put_46 rfl rfl ?_
        refine jr_getR hG fi_RX6_29 rfl (okO_s ha0) (okO_l ha0) dX6_put_47 (fun o7 ho7 => ?_)
        refine jr_bipush (v := (60 : Int32)) hG dX6_put_50 (by decide) ?_
        refine jr_iload_n hG 1 dX6_put_52 rfl rfl ?_
        refine jr_imul hG dX6_put_53 ?_
        refine jr_iload_n hG 2 dX6_put_54 rfl rfl ?_
        refine jr_iadd hG dX6_put_55 ?_
        refine jr_bald hG (okA_s (by decide) ho7) (okA_l ho7) dX6_put_56 ?_
        refine jr_leti (fun x8 _ => ?_)
        refine jr_istore (lv' := [(4, .int x8), (0, .ref (E.B + a0)), (1, .int v1), (2, .int v2), (3, .int v3)]) hG dX6_put_57 (by decide) rfl ?_
        refine jr_aload_n hG 1 dX6_put_59 rfl rfl ?_
        refine jr_getR hG fi_RX6_29 rfl (okO_s ha0) (okO_l ha0) dX6_put_60 (fun o9 ho9 => ?_)
        refine jr_bipush (v := (60 : Int32)) hG dX6_put_63 (by decide) ?_
        refine jr_iload_n hG 2 dX6_put_65 rfl rfl ?_
        refine jr_imul hG dX6_put_66 ?_
        refine jr_iload_n hG 3 dX6_put_67 rfl rfl ?_
        refine jr_iadd hG dX6_put_68 ?_
        refine jr_iload_n hG 4 dX6_put_69 rfl rfl ?_
        refine jr_i2b hG dX6_put_70 ?_
        refine jr_bast hG (okA_s (by decide) ho9) (okA_l ho9) dX6_put_71 ?_
        refine jr_lets (fun t10 _ => ?_)
        refine jr_sipush (v := (1000 : Int32)) hG dX6_put_72 (by decide) ?_
        refine jr_iload hG 0 dX6_put_75 rfl ?_
        refine jr_iadd hG dX6_put_77 ?_
        exact jr_iret hG hr hk dX6_put_78
      · refine jr_aload_n hG 0 dX6_put_40 rfl rfl ?_
        refine jr_iconst (v := (2 : Int32)) hG dX6_put_41 (by decide) ?_
        refine jr_callVi (As := [.int (2 : Int32)]) hG (c_X6_meets l E N a0 (2 : Int32) t5) ci_X6_meets wd_869 ⟨wd_871, wd_21⟩ cl_6 (okO_s ha0) (okO_l ha0) ⟨rfl, rfl, Nat.le_of_ble_eq_true rfl, Nat.le_of_ble_eq_true rfl⟩ rfl rfl (Nat.le_of_ble_eq_true rfl) dX6_put_42 ⟨Nat.le_refl _, Nat.le_refl _⟩ (fun r12 t11 => ?_)
        exact jr_iret hG hr hk dX6_put_45
    · refine jr_aload_n hG 0 dX6_put_18 rfl rfl ?_
      refine jr_iconst (v := (1 : Int32)) hG dX6_put_19 (by decide) ?_
      refine jr_callVi (As := [.int (1 : Int32)]) hG (c_X6_meets l E N a0 (1 : Int32) t1) ci_X6_meets wd_869 ⟨wd_871, wd_21⟩ cl_6 (okO_s ha0) (okO_l ha0) ⟨rfl, rfl, Nat.le_of_ble_eq_true rfl, Nat.le_of_ble_eq_true rfl⟩ rfl rfl (Nat.le_of_ble_eq_true rfl) dX6_put_20 ⟨Nat.le_refl _, Nat.le_refl _⟩ (fun r14 t13 => ?_)
      exact jr_iret hG hr hk dX6_put_23
  · refine jr_iconst (v := (-1 : Int32)) hG dX6_put_7 (by decide) ?_
    exact jr_iret hG hr hk dX6_put_8
-- TonguesDealtModel.byteAt(II)I
abbrev rm_X6_byteAt : Room := { frames := 0, cells := 0, slots := 0, locals := 0 }
theorem ci_X6_byteAt : CIx yX6_byteAt cX6_byteAt 3 (some .int) 2 := ⟨wd_923, wd_77, by decide +kernel⟩
def f_X6_byteAt (N : Nat) (a0 : Nat) (v1 : Int32) (v2 : Int32) (σ : Mm) : Option (Int32 × Mm) := if okO 6 a0 then (bR (gr σ a0 8) (okA 0) (fun o1 => if inb v1 (arL o1) then (if (gi σ o1 (ix v1)) ≤ v2 then (some ((0 : Int32), σ)) else (bR (gr σ a0 9) (okA 1) (fun o2 => if inb (((60 : Int32) * v1) + v2) (arL o2) then (some (gi σ o2 (ix (((60 : Int32) * v1) + v2)), σ)) else none))) else none)) else none
set_option maxRecDepth 20000 in
theorem c_X6_byteAt (l : Launch) (E : XE) (N : Nat) (a0 : Nat) (v1 : Int32) (v2 : Int32) (σ : Mm) : ∀ r0, f_X6_byteAt N a0 v1 v2 σ = some r0 → Met l yX6_byteAt [Cond.code yX6_byteAt cX6_byteAt 3 (some .int)] rm_X6_byteAt (xPc E (NT + 0) σ [.ref (E.B + a0), .int v1, .int v2]) (xQi E (NT + 0) r0) 0 0 (xA E) := by
  refine met_of (N0 := NT) (by decide +kernel) (Nat.le_of_ble_eq_true rfl) ?_
  intro p e s m args below meth c hG hr hk _
  show JR E NT 3 p l e rm_X6_byteAt s m args below meth c 0 0 (fun r => MQ below (xQi E (NT + 0) r) args s 0 0 (xA E)) 0 [(0, .ref (E.B + a0)), (1, .int v1), (2, .int v2)] [] σ (if okO 6 a0 then (bR (gr σ a0 8) (okA 0) (fun o1 => if inb v1 (arL o1) then (if (gi σ o1 (ix v1)) ≤ v2 then (some ((0 : Int32), σ)) else (bR (gr σ a0 9) (okA 1) (fun o2 => if inb (((60 : Int32) * v1) + v2) (arL o2) then (some (gi σ o2 (ix (((60 : Int32) * v1) + v2)), σ)) else none))) else none)) else none)
  refine jr_guard (fun ha0 => ?_)
  refine jr_iload_n hG 2 dX6_byteAt_0 rfl rfl ?_
  refine jr_aload_n hG 0 dX6_byteAt_1 rfl rfl ?_
  refine jr_getR hG fi_RX6_26 rfl (okO_s ha0) (okO_l ha0) dX6_byteAt_2 (fun o1 ho1 => ?_)
  refine jr_iload_n hG 1 dX6_byteAt_5 rfl rfl ?_
  refine jr_iald hG (okA_s (by decide) ho1) (okA_l ho1) dX6_byteAt_6 ?_
  refine jr_icmp_ge hG 24 dX6_byteAt_7 (by decide) (fun _ => ?_) (fun _ => ?_)
  · refine jr_iconst (v := (0 : Int32)) hG dX6_byteAt_24 (by decide) ?_
    exact jr_iret hG hr hk dX6_byteAt_25
  · refine jr_aload_n hG 0 dX6_byteAt_10 rfl rfl ?_
    refine jr_getR hG fi_RX6_29 rfl (okO_s ha0) (okO_l ha0) dX6_byteAt_11 (fun o2 ho2 => ?_)
    refine jr_bipush (v := (60 : Int32)) hG dX6_byteAt_14 (by decide) ?_
    refine jr_iload_n hG 1 dX6_byteAt_16 rfl rfl ?_
    refine jr_imul hG dX6_byteAt_17 ?_
    refine jr_iload_n hG 2 dX6_byteAt_18 rfl rfl ?_
    refine jr_iadd hG dX6_byteAt_19 ?_
    refine jr_bald hG (okA_s (by decide) ho2) (okA_l ho2) dX6_byteAt_20 ?_
    refine jr_goto hG 25 dX6_byteAt_21 (by decide) ?_
    exact jr_iret hG hr hk dX6_byteAt_25
-- TonguesDealtModel.layRow(I[II)V
abbrev rm_X6_layRow : Room := { frames := 0, cells := 0, slots := 0, locals := 0 }
theorem ci_X6_layRow : CIx yX6_layRow cX6_layRow 5 none 3 := ⟨wd_1059, wd_77, by decide +kernel⟩
def f_X6_layRow_42 (N : Nat) (K10 : Nat → Int32 → Nat → Int32 → Int32 → Mm → Option (Mm)) (a0 : Nat) (v1 : Int32) (a2 : Nat) (v3 : Int32) (v4 : Int32) (s0 : Int32) (s1 : Int32) (b2 : Nat) (σ : Mm) : Option (Mm) := if inb s1 (arL b2) then (lt (si σ b2 (ix s1) s0) (fun t4 => K10 a0 v1 a2 v3 (v4 + (1 : Int32)) t4)) else none
set_option maxRecDepth 20000 in
theorem w_X6_layRow_42 {p : Program} {l : Launch} {e : Env} {s : State} {m : MethodId} {args : Array Value} {below : List Frame} {meth : Method} {c : Code} {E : XE} (N : Nat) (hG : GG E NT 5 RX6 cX6_layRow p s m args c) (hr : meth.sig.returnType = none) (hk : meth.locks = false) {K10 : Nat → Int32 → Nat → Int32 → Int32 → Mm → Option (Mm)} (hK10 : ∀ (a0 : Nat) (v1 : Int32) (a2 : Nat) (v3 : Int32) (v4 : Int32) (ha0 : okO 6 a0 = true) (ha2 : okA 0 a2 = true) (σ : Mm), JR E NT 5 p l e rm_X6_layRow s m args below meth c 0 0 (fun r => MQ below (xQv E (NT + 0) r) args s 0 0 (xA E)) 10 [(0, .ref (E.B + a0)), (1, .int v1), (2, .ref (E.B + a2)), (3, .int v3), (4, .int v4)] [] σ (K10 a0 v1 a2 v3 v4 σ)) (a0 : Nat) (v1 : Int32) (a2 : Nat) (v3 : Int32) (v4 : Int32) (s0 : Int32) (s1 : Int32) (b2 : Nat) (ha0 : okO 6 a0 = true) (ha2 : okA 0 a2 = true) (hb2 : okA 0 b2 = true) (σ : Mm) : JR E NT 5 p l e rm_X6_layRow s m args below meth c 0 0 (fun r => MQ below (xQv E (NT + 0) r) args s 0 0 (xA E)) 42 [(0, .ref (E.B + a0)), (1, .int v1), (2, .ref (E.B + a2)), (3, .int v3), (4, .int v4)] [.int s0, .int s1, .ref (E.B + b2)] σ (f_X6_layRow_42 N K10 a0 v1 a2 v3 v4 s0 s1 b2 σ) := by
  show JR E NT 5 p l e rm_X6_layRow s m args below meth c 0 0 (fun r => MQ below (xQv E (NT + 0) r) args s 0 0 (xA E)) 42 [(0, .ref (E.B + a0)), (1, .int v1), (2, .ref (E.B + a2)), (3, .int v3), (4, .int v4)] [.int s0, .int s1, .ref (E.B + b2)] σ (if inb s1 (arL b2) then (lt (si σ b2 (ix s1) s0) (fun t4 => K10 a0 v1 a2 v3 (v4 + (1 : Int32)) t4)) else none)
  refine jr_iast hG (okA_s (by decide) hb2) (okA_l hb2) dX6_layRow_42 ?_
  refine jr_lets (fun t4 _ => ?_)
  refine jr_iinc (v := v4 + (1 : Int32)) (lv' := [(4, .int (v4 + (1 : Int32))), (0, .ref (E.B + a0)), (1, .int v1), (2, .ref (E.B + a2)), (3, .int v3)]) hG 4 dX6_layRow_43 rfl rfl (by decide) rfl ?_
  refine jr_goto hG 10 dX6_layRow_46 (by decide) ?_
  refine jr_sub (lv' := [(0, .ref (E.B + a0)), (1, .int v1), (2, .ref (E.B + a2)), (3, .int v3), (4, .int (v4 + (1 : Int32)))]) [1, 2, 3, 4, 0] rfl ?_
  exact hK10 a0 v1 a2 v3 (v4 + (1 : Int32)) ha0 ha2 t4
def f_X6_layRow_10 (N : Nat)  : Nat → Nat → Int32 → Nat → Int32 → Int32 → Mm → Option (Mm)
  | 0 => fun _ _ _ _ _ _ => none
  | n + 1 => fun a0 v1 a2 v3 v4 σ => if (40 : Int32) ≤ v4 then (some (σ)) else (bR (gr σ a0 6) (okA 0) (fun o3 => if v3 ≤ v4 then (f_X6_layRow_42 N (f_X6_layRow_10 N n) a0 v1 a2 v3 v4 (0 : Int32) (((40 : Int32) * v1) + v4) o3 (σ)) else (if inb v4 (arL a2) then (f_X6_layRow_42 N (f_X6_layRow_10 N n) a0 v1 a2 v3 v4 (gi σ a2 (ix v4)) (((40 : Int32) * v1) + v4) o3 (σ)) else none)))
set_option maxRecDepth 20000 in
theorem w_X6_layRow_10 {p : Program} {l : Launch} {e : Env} {s : State} {m : MethodId} {args : Array Value} {below : List Frame} {meth : Method} {c : Code} {E : XE} (N : Nat) (hG : GG E NT 5 RX6 cX6_layRow p s m args c) (hr : meth.sig.returnType = none) (hk : meth.locks = false)  : ∀ (n : Nat) (a0 : Nat) (v1 : Int32) (a2 : Nat) (v3 : Int32) (v4 : Int32) (ha0 : okO 6 a0 = true) (ha2 : okA 0 a2 = true) (σ : Mm), JR E NT 5 p l e rm_X6_layRow s m args below meth c 0 0 (fun r => MQ below (xQv E (NT + 0) r) args s 0 0 (xA E)) 10 [(0, .ref (E.B + a0)), (1, .int v1), (2, .ref (E.B + a2)), (3, .int v3), (4, .int v4)] [] σ (f_X6_layRow_10 N n a0 v1 a2 v3 v4 σ) := by
  intro n
  induction n with
  | zero => intro a0 v1 a2 v3 v4 ha0 ha2 σ r hX; cases hX
  | succ n ih =>
    intro a0 v1 a2 v3 v4 ha0 ha2 σ
    show JR E NT 5 p l e rm_X6_layRow s m args below meth c 0 0 (fun r => MQ below (xQv E (NT + 0) r) args s 0 0 (xA E)) 10 [(0, .ref (E.B + a0)), (1, .int v1), (2, .ref (E.B + a2)), (3, .int v3), (4, .int v4)] [] σ (if (40 : Int32) ≤ v4 then (some (σ)) else (bR (gr σ a0 6) (okA 0) (fun o3 => if v3 ≤ v4 then (f_X6_layRow_42 N (f_X6_layRow_10 N n) a0 v1 a2 v3 v4 (0 : Int32) (((40 : Int32) * v1) + v4) o3 (σ)) else (if inb v4 (arL a2) then (f_X6_layRow_42 N (f_X6_layRow_10 N n) a0 v1 a2 v3 v4 (gi σ a2 (ix v4)) (((40 : Int32) * v1) + v4) o3 (σ)) else none))))
    refine jr_iload hG 4 dX6_layRow_10 rfl ?_
    refine jr_bipush (v := (40 : Int32)) hG dX6_layRow_12 (by decide) ?_
    refine jr_icmp_ge hG 49 dX6_layRow_14 (by decide) (fun _ => ?_) (fun _ => ?_)
    · exact jr_vret hG hr hk dX6_layRow_49
    · refine jr_aload_n hG 0 dX6_layRow_17 rfl rfl ?_
      refine jr_getR hG fi_RX6_20 rfl (okO_s ha0) (okO_l ha0) dX6_layRow_18 (fun o3 ho3 => ?_)
      refine jr_bipush (v := (40 : Int32)) hG dX6_layRow_21 (by decide) ?_
      refine jr_iload_n hG 1 dX6_layRow_23 rfl rfl ?_
      refine jr_imul hG dX6_layRow_24 ?_
      refine jr_iload hG 4 dX6_layRow_25 rfl ?_
      refine jr_iadd hG dX6_layRow_27 ?_
      refine jr_iload hG 4 dX6_layRow_28 rfl ?_
      refine jr_iload_n hG 3 dX6_layRow_30 rfl rfl ?_
      refine jr_icmp_ge hG 41 dX6_layRow_31 (by decide) (fun _ => ?_) (fun _ => ?_)
      · refine jr_iconst (v := (0 : Int32)) hG dX6_layRow_41 (by decide) ?_
        exact w_X6_layRow_42 N hG hr hk ih a0 v1 a2 v3 v4 (0 : Int32) (((40 : Int32) * v1) + v4) o3 ha0 ha2 ho3 (σ)
      · refine jr_aload_n hG 2 dX6_layRow_34 rfl rfl ?_
        refine jr_iload hG 4 dX6_layRow_35 rfl ?_
        refine jr_iald hG (okA_s (by decide) ha2) (okA_l ha2) dX6_layRow_37 ?_
        refine jr_goto hG 42 dX6_layRow_38 (by decide) ?_
        exact w_X6_layRow_42 N hG hr hk ih a0 v1 a2 v3 v4 (gi σ a2 (ix v4)) (((40 : Int32) * v1) + v4) o3 ha0 ha2 ho3 (σ)
def f_X6_layRow (N : Nat) (a0 : Nat) (v1 : Int32) (a2 : Nat) (v3 : Int32) (σ : Mm) : Option (Mm) := if okO 6 a0 then (if okA 0 a2 then (bR (gr σ a0 5) (okA 0) (fun o1 => if inb v1 (arL o1) then (lt (si σ o1 (ix v1) v3) (fun t2 => f_X6_layRow_10 N N a0 v1 a2 v3 (0 : Int32) t2)) else none)) else none) else none
set_option maxRecDepth 20000 in
theorem c_X6_layRow (l : Launch) (E : XE) (N : Nat) (a0 : Nat) (v1 : Int32) (a2 : Nat) (v3 : Int32) (σ : Mm) : ∀ r0, f_X6_layRow N a0 v1 a2 v3 σ = some r0 → Met l yX6_layRow [Cond.code yX6_layRow cX6_layRow 5 none] rm_X6_layRow (xPc E (NT + 0) σ [.ref (E.B + a0), .int v1, .ref (E.B + a2), .int v3]) (xQv E (NT + 0) r0) 0 0 (xA E) := by
  refine met_of (N0 := NT) (by decide +kernel) (Nat.le_of_ble_eq_true rfl) ?_
  intro p e s m args below meth c hG hr hk _
  show JR E NT 5 p l e rm_X6_layRow s m args below meth c 0 0 (fun r => MQ below (xQv E (NT + 0) r) args s 0 0 (xA E)) 0 [(0, .ref (E.B + a0)), (1, .int v1), (2, .ref (E.B + a2)), (3, .int v3)] [] σ (if okO 6 a0 then (if okA 0 a2 then (bR (gr σ a0 5) (okA 0) (fun o1 => if inb v1 (arL o1) then (lt (si σ o1 (ix v1) v3) (fun t2 => f_X6_layRow_10 N N a0 v1 a2 v3 (0 : Int32) t2)) else none)) else none) else none)
  refine jr_guard (fun ha0 => ?_)
  refine jr_guard (fun ha2 => ?_)
  refine jr_aload_n hG 0 dX6_layRow_0 rfl rfl ?_
  refine jr_getR hG fi_RX6_17 rfl (okO_s ha0) (okO_l ha0) dX6_layRow_1 (fun o1 ho1 => ?_)
  refine jr_iload_n hG 1 dX6_layRow_4 rfl rfl ?_
  refine jr_iload_n hG 3 dX6_layRow_5 rfl rfl ?_
  refine jr_iast hG (okA_s (by decide) ho1) (okA_l ho1) dX6_layRow_6 ?_
  refine jr_lets (fun t2 _ => ?_)
  refine jr_iconst (v := (0 : Int32)) hG dX6_layRow_7 (by decide) ?_
  refine jr_istore (lv' := [(4, .int (0 : Int32)), (0, .ref (E.B + a0)), (1, .int v1), (2, .ref (E.B + a2)), (3, .int v3)]) hG dX6_layRow_8 (by decide) rfl ?_
  refine jr_sub (lv' := [(0, .ref (E.B + a0)), (1, .int v1), (2, .ref (E.B + a2)), (3, .int v3), (4, .int (0 : Int32))]) [1, 2, 3, 4, 0] rfl ?_
  exact w_X6_layRow_10 N hG hr hk N a0 v1 a2 v3 (0 : Int32) ha0 ha2 t2
-- TonguesDealtModel.kindOf(I)I
abbrev rm_X6_kindOf : Room := { frames := 0, cells := 0, slots := 0, locals := 0 }
theorem ci_X6_kindOf : CIx yX6_kindOf cX6_kindOf 1 (some .int) 1 := ⟨wd_941, wd_77, by decide +kernel⟩
def f_X6_kindOf_96 (N : Nat)   (σ : Mm) : Option (Int32 × Mm) := some ((-9 : Int32), σ)
set_option maxRecDepth 20000 in
theorem w_X6_kindOf_96 {p : Program} {l : Launch} {e : Env} {s : State} {m : MethodId} {args : Array Value} {below : List Frame} {meth : Method} {c : Code} {E : XE} (N : Nat) (hG : GG E NT 1 RX6 cX6_kindOf p s m args c) (hr : meth.sig.returnType = (some .int)) (hk : meth.locks = false)    (σ : Mm) : JR E NT 1 p l e rm_X6_kindOf s m args below meth c 0 0 (fun r => MQ below (xQi E (NT + 0) r) args s 0 0 (xA E)) 96 [] [] σ (f_X6_kindOf_96 N σ) := by
  show JR E NT 1 p l e rm_X6_kindOf s m args below meth c 0 0 (fun r => MQ below (xQi E (NT + 0) r) args s 0 0 (xA E)) 96 [] [] σ (some ((-9 : Int32), σ))
  refine jr_bipush (v := (-9 : Int32)) hG dX6_kindOf_96 (by decide) ?_
  exact jr_iret hG hr hk dX6_kindOf_98
def f_X6_kindOf (N : Nat) (v0 : Int32) (σ : Mm) : Option (Int32 × Mm) := if v0 = (100 : Int32) then (some ((3 : Int32), σ)) else (if v0 = (101 : Int32) then (f_X6_kindOf_96 N (σ)) else (if v0 = (102 : Int32) then (f_X6_kindOf_96 N (σ)) else (if v0 = (103 : Int32) then (f_X6_kindOf_96 N (σ)) else (if v0 = (104 : Int32) then (f_X6_kindOf_96 N (σ)) else (if v0 = (105 : Int32) then (f_X6_kindOf_96 N (σ)) else (if v0 = (106 : Int32) then (f_X6_kindOf_96 N (σ)) else (if v0 = (107 : Int32) then (f_X6_kindOf_96 N (σ)) else (if v0 = (108 : Int32) then (some ((1 : Int32), σ)) else (if v0 = (109 : Int32) then (some ((2 : Int32), σ)) else (if v0 = (110 : Int32) then (f_X6_kindOf_96 N (σ)) else (if v0 = (111 : Int32) then (f_X6_kindOf_96 N (σ)) else (if v0 = (112 : Int32) then (some ((0 : Int32), σ)) else (if v0 = (113 : Int32) then (f_X6_kindOf_96 N (σ)) else (if v0 = (114 : Int32) then (f_X6_kindOf_96 N (σ)) else (if v0 = (115 : Int32) then (some ((4 : Int32), σ)) else (if v0 = (116 : Int32) then (some ((5 : Int32), σ)) else (f_X6_kindOf_96 N (σ))))))))))))))))))
set_option maxRecDepth 20000 in
theorem c_X6_kindOf (l : Launch) (E : XE) (N : Nat) (v0 : Int32) (σ : Mm) : ∀ r0, f_X6_kindOf N v0 σ = some r0 → Met l yX6_kindOf [Cond.code yX6_kindOf cX6_kindOf 1 (some .int)] rm_X6_kindOf (xPc E (NT + 0) σ [.int v0]) (xQi E (NT + 0) r0) 0 0 (xA E) := by
  refine met_of (N0 := NT) (by decide +kernel) (Nat.le_of_ble_eq_true rfl) ?_
  intro p e s m args below meth c hG hr hk _
  show JR E NT 1 p l e rm_X6_kindOf s m args below meth c 0 0 (fun r => MQ below (xQi E (NT + 0) r) args s 0 0 (xA E)) 0 [(0, .int v0)] [] σ (if v0 = (100 : Int32) then (some ((3 : Int32), σ)) else (if v0 = (101 : Int32) then (f_X6_kindOf_96 N (σ)) else (if v0 = (102 : Int32) then (f_X6_kindOf_96 N (σ)) else (if v0 = (103 : Int32) then (f_X6_kindOf_96 N (σ)) else (if v0 = (104 : Int32) then (f_X6_kindOf_96 N (σ)) else (if v0 = (105 : Int32) then (f_X6_kindOf_96 N (σ)) else (if v0 = (106 : Int32) then (f_X6_kindOf_96 N (σ)) else (if v0 = (107 : Int32) then (f_X6_kindOf_96 N (σ)) else (if v0 = (108 : Int32) then (some ((1 : Int32), σ)) else (if v0 = (109 : Int32) then (some ((2 : Int32), σ)) else (if v0 = (110 : Int32) then (f_X6_kindOf_96 N (σ)) else (if v0 = (111 : Int32) then (f_X6_kindOf_96 N (σ)) else (if v0 = (112 : Int32) then (some ((0 : Int32), σ)) else (if v0 = (113 : Int32) then (f_X6_kindOf_96 N (σ)) else (if v0 = (114 : Int32) then (f_X6_kindOf_96 N (σ)) else (if v0 = (115 : Int32) then (some ((4 : Int32), σ)) else (if v0 = (116 : Int32) then (some ((5 : Int32), σ)) else (f_X6_kindOf_96 N (σ)))))))))))))))))))
  refine jr_iload_n hG 0 dX6_kindOf_0 rfl rfl ?_
  refine jr_ite (fun hs100 => ?_) (fun hs100 => ?_)
  · refine jr_tabIn (off := 89) hG 90 dX6_kindOf_1 (100 : Int32) hs100 (by decide) ?_
    refine jr_iconst (v := (3 : Int32)) hG dX6_kindOf_90 (by decide) ?_
    exact jr_iret hG hr hk dX6_kindOf_91
  refine jr_ite (fun hs101 => ?_) (fun hs101 => ?_)
  · refine jr_tabIn (off := 95) hG 96 dX6_kindOf_1 (101 : Int32) hs101 (by decide) ?_
    refine jr_sub (lv' := []) [] rfl ?_
    exact w_X6_kindOf_96 N hG hr hk (σ)
  refine jr_ite (fun hs102 => ?_) (fun hs102 => ?_)
  · refine jr_tabIn (off := 95) hG 96 dX6_kindOf_1 (102 : Int32) hs102 (by decide) ?_
    refine jr_sub (lv' := []) [] rfl ?_
    exact w_X6_kindOf_96 N hG hr hk (σ)
  refine jr_ite (fun hs103 => ?_) (fun hs103 => ?_)
  · refine jr_tabIn (off := 95) hG 96 dX6_kindOf_1 (103 : Int32) hs103 (by decide) ?_
    refine jr_sub (lv' := []) [] rfl ?_
    exact w_X6_kindOf_96 N hG hr hk (σ)
  refine jr_ite (fun hs104 => ?_) (fun hs104 => ?_)
  · refine jr_tabIn (off := 95) hG 96 dX6_kindOf_1 (104 : Int32) hs104 (by decide) ?_
    refine jr_sub (lv' := []) [] rfl ?_
    exact w_X6_kindOf_96 N hG hr hk (σ)
  refine jr_ite (fun hs105 => ?_) (fun hs105 => ?_)
  · refine jr_tabIn (off := 95) hG 96 dX6_kindOf_1 (105 : Int32) hs105 (by decide) ?_
    refine jr_sub (lv' := []) [] rfl ?_
    exact w_X6_kindOf_96 N hG hr hk (σ)
  refine jr_ite (fun hs106 => ?_) (fun hs106 => ?_)
  · refine jr_tabIn (off := 95) hG 96 dX6_kindOf_1 (106 : Int32) hs106 (by decide) ?_
    refine jr_sub (lv' := []) [] rfl ?_
    exact w_X6_kindOf_96 N hG hr hk (σ)
  refine jr_ite (fun hs107 => ?_) (fun hs107 => ?_)
  · refine jr_tabIn (off := 95) hG 96 dX6_kindOf_1 (107 : Int32) hs107 (by decide) ?_
    refine jr_sub (lv' := []) [] rfl ?_
    exact w_X6_kindOf_96 N hG hr hk (σ)
  refine jr_ite (fun hs108 => ?_) (fun hs108 => ?_)
  · refine jr_tabIn (off := 85) hG 86 dX6_kindOf_1 (108 : Int32) hs108 (by decide) ?_
    refine jr_iconst (v := (1 : Int32)) hG dX6_kindOf_86 (by decide) ?_
    exact jr_iret hG hr hk dX6_kindOf_87
  refine jr_ite (fun hs109 => ?_) (fun hs109 => ?_)
  · refine jr_tabIn (off := 87) hG 88 dX6_kindOf_1 (109 : Int32) hs109 (by decide) ?_
    refine jr_iconst (v := (2 : Int32)) hG dX6_kindOf_88 (by decide) ?_
    exact jr_iret hG hr hk dX6_kindOf_89
  refine jr_ite (fun hs110 => ?_) (fun hs110 => ?_)
  · refine jr_tabIn (off := 95) hG 96 dX6_kindOf_1 (110 : Int32) hs110 (by decide) ?_
    refine jr_sub (lv' := []) [] rfl ?_
    exact w_X6_kindOf_96 N hG hr hk (σ)
  refine jr_ite (fun hs111 => ?_) (fun hs111 => ?_)
  · refine jr_tabIn (off := 95) hG 96 dX6_kindOf_1 (111 : Int32) hs111 (by decide) ?_
    refine jr_sub (lv' := []) [] rfl ?_
    exact w_X6_kindOf_96 N hG hr hk (σ)
  refine jr_ite (fun hs112 => ?_) (fun hs112 => ?_)
  · refine jr_tabIn (off := 83) hG 84 dX6_kindOf_1 (112 : Int32) hs112 (by decide) ?_
    refine jr_iconst (v := (0 : Int32)) hG dX6_kindOf_84 (by decide) ?_
    exact jr_iret hG hr hk dX6_kindOf_85
  refine jr_ite (fun hs113 => ?_) (fun hs113 => ?_)
  · refine jr_tabIn (off := 95) hG 96 dX6_kindOf_1 (113 : Int32) hs113 (by decide) ?_
    refine jr_sub (lv' := []) [] rfl ?_
    exact w_X6_kindOf_96 N hG hr hk (σ)
  refine jr_ite (fun hs114 => ?_) (fun hs114 => ?_)
  · refine jr_tabIn (off := 95) hG 96 dX6_kindOf_1 (114 : Int32) hs114 (by decide) ?_
    refine jr_sub (lv' := []) [] rfl ?_
    exact w_X6_kindOf_96 N hG hr hk (σ)
  refine jr_ite (fun hs115 => ?_) (fun hs115 => ?_)
  · refine jr_tabIn (off := 91) hG 92 dX6_kindOf_1 (115 : Int32) hs115 (by decide) ?_
    refine jr_iconst (v := (4 : Int32)) hG dX6_kindOf_92 (by decide) ?_
    exact jr_iret hG hr hk dX6_kindOf_93
  refine jr_ite (fun hs116 => ?_) (fun hs116 => ?_)
  · refine jr_tabIn (off := 93) hG 94 dX6_kindOf_1 (116 : Int32) hs116 (by decide) ?_
    refine jr_iconst (v := (5 : Int32)) hG dX6_kindOf_94 (by decide) ?_
    exact jr_iret hG hr hk dX6_kindOf_95
  refine jr_tabOut hG 96 dX6_kindOf_1 (tab_out100_116 hs100 hs101 hs102 hs103 hs104 hs105 hs106 hs107 hs108 hs109 hs110 hs111 hs112 hs113 hs114 hs115 hs116) (by decide) ?_
  refine jr_sub (lv' := []) [] rfl ?_
  exact w_X6_kindOf_96 N hG hr hk (σ)
-- TonguesDealtModel.readsPair(I[I)Z
abbrev rm_X6_readsPair : Room := { frames := 1, cells := 0, slots := 0, locals := 22 }
theorem ci_X6_readsPair : CIx yX6_readsPair cX6_readsPair 5 (some .boolean) 2 := ⟨wd_931, wd_77, by decide +kernel⟩
def f_X6_readsPair (N : Nat) (a0 : Nat) (v1 : Int32) (a2 : Nat) (σ : Mm) : Option (Int32 × Mm) := if okO 6 a0 then (if okA 0 a2 then (if (gi σ a0 14) = 0 then (some ((0 : Int32), σ)) else (lt (si σ a0 13 ((gi σ a0 13) + (1 : Int32))) (fun t1 => bI (f_X6_byteAt N a0 v1 (gi t1 a0 13) t1) (fun r3 t2 => lt (r3 - (48 : Int32)) (fun x4 => bI (f_X6_in N x4 (0 : Int32) ((gi t2 a0 14) - (1 : Int32)) t2) (fun r6 t5 => if r6 = 0 then (some ((0 : Int32), t5)) else (lt (si t5 a0 13 ((gi t5 a0 13) + (1 : Int32))) (fun t7 => bI (f_X6_byteAt N a0 v1 (gi t7 a0 13) t7) (fun r9 t8 => lt (r9 - (48 : Int32)) (fun x10 => bI (f_X6_in N x10 (0 : Int32) ((gi t8 a0 14) - (1 : Int32)) t8) (fun r12 t11 => if r12 = 0 then (some ((0 : Int32), t11)) else (if x4 = x10 then (some ((0 : Int32), t11)) else (if inb x4 (arL a2) then (bI (f_X6_has N (gi t11 a2 (ix x4)) x10 t11) (fun r14 t13 => if r14 = 0 then (lt (si t13 a0 13 ((gi t13 a0 13) + (1 : Int32))) (fun t15 => if inb x4 (arL a2) then (if inb x4 (arL a2) then (lt (si t15 a2 (ix x4) ((gi t15 a2 (ix x4)) ||| ((1 : Int32) <<< (x10 &&& 31)))) (fun t16 => if inb x10 (arL a2) then (if inb x10 (arL a2) then (lt (si t16 a2 (ix x10) ((gi t16 a2 (ix x10)) ||| ((1 : Int32) <<< (x4 &&& 31)))) (fun t17 => lt (si t17 a0 15 (1 : Int32)) (fun t18 => some ((1 : Int32), t18)))) else none) else none)) else none) else none)) else (some ((0 : Int32), t13)))) else none))))))))))))) else none) else none
set_option maxRecDepth 20000 in
theorem c_X6_readsPair (l : Launch) (E : XE) (N : Nat) (a0 : Nat) (v1 : Int32) (a2 : Nat) (σ : Mm) : ∀ r0, f_X6_readsPair N a0 v1 a2 σ = some r0 → Met l yX6_readsPair [Cond.code yX6_readsPair cX6_readsPair 5 (some .boolean)] rm_X6_readsPair (xPc E (NT + 0) σ [.ref (E.B + a0), .int v1, .ref (E.B + a2)]) (xQi E (NT + 0) r0) 0 0 (xA E) := by
  refine met_of (N0 := NT) (by decide +kernel) (Nat.le_of_ble_eq_true rfl) ?_
  intro p e s m args below meth c hG hr hk _
  show JR E NT 5 p l e rm_X6_readsPair s m args below meth c 0 0 (fun r => MQ below (xQi E (NT + 0) r) args s 0 0 (xA E)) 0 [(0, .ref (E.B + a0)), (1, .int v1), (2, .ref (E.B + a2))] [] σ (if okO 6 a0 then (if okA 0 a2 then (if (gi σ a0 14) = 0 then (some ((0 : Int32), σ)) else (lt (si σ a0 13 ((gi σ a0 13) + (1 : Int32))) (fun t1 => bI (f_X6_byteAt N a0 v1 (gi t1 a0 13) t1) (fun r3 t2 => lt (r3 - (48 : Int32)) (fun x4 => bI (f_X6_in N x4 (0 : Int32) ((gi t2 a0 14) - (1 : Int32)) t2) (fun r6 t5 => if r6 = 0 then (some ((0 : Int32), t5)) else (lt (si t5 a0 13 ((gi t5 a0 13) + (1 : Int32))) (fun t7 => bI (f_X6_byteAt N a0 v1 (gi t7 a0 13) t7) (fun r9 t8 => lt (r9 - (48 : Int32)) (fun x10 => bI (f_X6_in N x10 (0 : Int32) ((gi t8 a0 14) - (1 : Int32)) t8) (fun r12 t11 => if r12 = 0 then (some ((0 : Int32), t11)) else (if x4 = x10 then (some ((0 : Int32), t11)) else (if inb x4 (arL a2) then (bI (f_X6_has N (gi t11 a2 (ix x4)) x10 t11) (fun r14 t13 => if r14 = 0 then (lt (si t13 a0 13 ((gi t13 a0 13) + (1 : Int32))) (fun t15 => if inb x4 (arL a2) then (if inb x4 (arL a2) then (lt (si t15 a2 (ix x4) ((gi t15 a2 (ix x4)) ||| ((1 : Int32) <<< (x10 &&& 31)))) (fun t16 => if inb x10 (arL a2) then (if inb x10 (arL a2) then (lt (si t16 a2 (ix x10) ((gi t16 a2 (ix x10)) ||| ((1 : Int32) <<< (x4 &&& 31)))) (fun t17 => lt (si t17 a0 15 (1 : Int32)) (fun t18 => some ((1 : Int32), t18)))) else none) else none)) else none) else none)) else (some ((0 : Int32), t13)))) else none))))))))))))) else none) else none)
  refine jr_guard (fun ha0 => ?_)
  refine jr_guard (fun ha2 => ?_)
  refine jr_aload_n hG 0 dX6_readsPair_0 rfl rfl ?_
  refine jr_getI hG fi_RX6_114 rfl (okO_s ha0) (okO_l ha0) dX6_readsPair_1 ?_
  refine jr_if_ne hG 9 dX6_readsPair_4 (by decide) (fun _ => ?_) (fun _ => ?_)
  · refine jr_aload_n hG 0 dX6_readsPair_9 rfl rfl ?_
    refine jr_dup hG dX6_readsPair_10 rfl ?_
    refine jr_getI hG fi_RX6_117 rfl (okO_s ha0) (okO_l ha0) dX6_readsPair_11 ?_
    refine jr_iconst (v := (1 : Int32)) hG dX6_readsPair_14 (by decide) ?_
    refine jr_iadd hG dX6_readsPair_15 ?_
    refine jr_putI hG fi_RX6_117 rfl rfl (okO_s ha0) (okO_l ha0) dX6_readsPair_16 ?_
    refine jr_lets (fun t1 _ => ?_)
    refine jr_aload_n hG 0 dX6_readsPair_19 rfl rfl ?_
    refine jr_iload_n hG 1 dX6_readsPair_20 rfl rfl ?_
    refine jr_aload_n hG 0 dX6_readsPair_21 rfl rfl ?_
    refine jr_getI hG fi_RX6_117 rfl (okO_s ha0) (okO_l ha0) dX6_readsPair_22 ?_
    refine jr_callVi (As := [.int v1, .int (gi t1 a0 13)]) hG (c_X6_byteAt l E N a0 v1 (gi t1 a0 13) t1) ci_X6_byteAt wd_920 ⟨wd_922, wd_25⟩ cl_6 (okO_s ha0) (okO_l ha0) ⟨rfl, rfl, Nat.le_of_ble_eq_true rfl, Nat.le_of_ble_eq_true rfl⟩ rfl rfl (Nat.le_of_ble_eq_true rfl) dX6_readsPair_25 ⟨Nat.le_refl _, Nat.le_refl _⟩ (fun r3 t2 => ?_)
    refine jr_bipush (v := (48 : Int32)) hG dX6_readsPair_28 (by decide) ?_
    refine jr_isub hG dX6_readsPair_30 ?_
    refine jr_leti (fun x4 _ => ?_)
    refine jr_istore_n (lv' := [(3, .int x4), (0, .ref (E.B + a0)), (1, .int v1), (2, .ref (E.B + a2))]) hG dX6_readsPair_31 rfl (by decide) rfl ?_
    refine jr_iload_n hG 0 dX6_readsPair_32 rfl rfl ?_
    refine jr_iconst (v := (0 : Int32)) hG dX6_readsPair_33 (by decide) ?_
    refine jr_aload_n hG 1 dX6_readsPair_34 rfl rfl ?_
    refine jr_getI hG fi_RX6_114 rfl (okO_s ha0) (okO_l ha0) dX6_readsPair_35 ?_
    refine jr_iconst (v := (1 : Int32)) hG dX6_readsPair_38 (by decide) ?_
    refine jr_isub hG dX6_readsPair_39 ?_
    refine jr_callSi (As := [.int x4, .int (0 : Int32), .int ((gi t2 a0 14) - (1 : Int32))]) hG (c_X6_in l E N x4 (0 : Int32) ((gi t2 a0 14) - (1 : Int32)) t2) ci_X6_in wd_847 wd_848 ⟨rfl, rfl, Nat.le_of_ble_eq_true rfl, Nat.le_of_ble_eq_true rfl⟩ rfl rfl (Nat.le_of_ble_eq_true rfl) dX6_readsPair_40 ⟨Nat.le_refl _, Nat.le_refl _⟩ (fun r6 t5 => ?_)
    refine jr_if_ne hG 48 dX6_readsPair_43 (by decide) (fun _ => ?_) (fun _ => ?_)
    · refine jr_aload_n hG 1 dX6_readsPair_48 rfl rfl ?_
      refine jr_dup hG dX6_readsPair_49 rfl ?_
      refine jr_getI hG fi_RX6_117 rfl (okO_s ha0) (okO_l ha0) dX6_readsPair_50 ?_
      refine jr_iconst (v := (1 : Int32)) hG dX6_readsPair_53 (by decide) ?_
      refine jr_iadd hG dX6_readsPair_54 ?_
      refine jr_putI hG fi_RX6_117 rfl rfl (okO_s ha0) (okO_l ha0) dX6_readsPair_55 ?_
      refine jr_lets (fun t7 _ => ?_)
      refine jr_aload_n hG 1 dX6_readsPair_58 rfl rfl ?_
      refine jr_iload_n hG 2 dX6_readsPair_59 rfl rfl ?_
      refine jr_aload_n hG 1 dX6_readsPair_60 rfl rfl ?_
      refine jr_getI hG fi_RX6_117 rfl (okO_s ha0) (okO_l ha0) dX6_readsPair_61 ?_
      refine jr_callVi (As := [.int v1, .int (gi t7 a0 13)]) hG (c_X6_byteAt l E N a0 v1 (gi t7 a0 13) t7) ci_X6_byteAt wd_920 ⟨wd_922, wd_25⟩ cl_6 (okO_s ha0) (okO_l ha0) ⟨rfl, rfl, Nat.le_of_ble_eq_true rfl, Nat.le_of_ble_eq_true rfl⟩ rfl rfl (Nat.le_of_ble_eq_true rfl) dX6_readsPair_64 ⟨Nat.le_refl _, Nat.le_refl _⟩ (fun r9 t8 => ?_)
      refine jr_bipush (v := (48 : Int32)) hG dX6_readsPair_67 (by decide) ?_
      refine jr_isub hG dX6_readsPair_69 ?_
      refine jr_leti (fun x10 _ => ?_)
      refine jr_istore (lv' := [(4, .int x10), (3, .int x4), (0, .ref (E.B + a0)), (1, .int v1), (2, .ref (E.B + a2))]) hG dX6_readsPair_70 (by decide) rfl ?_
      refine jr_iload hG 0 dX6_readsPair_72 rfl ?_
      refine jr_iconst (v := (0 : Int32)) hG dX6_readsPair_74 (by decide) ?_
      refine jr_aload_n hG 2 dX6_readsPair_75 rfl rfl ?_
      refine jr_getI hG fi_RX6_114 rfl (okO_s ha0) (okO_l ha0) dX6_readsPair_76 ?_
      refine jr_iconst (v := (1 : Int32)) hG dX6_readsPair_79 (by decide) ?_
      refine jr_isub hG dX6_readsPair_80 ?_
      refine jr_callSi (As := [.int x10, .int (0 : Int32), .int ((gi t8 a0 14) - (1 : Int32))]) hG (c_X6_in l E N x10 (0 : Int32) ((gi t8 a0 14) - (1 : Int32)) t8) ci_X6_in wd_847 wd_848 ⟨rfl, rfl, Nat.le_of_ble_eq_true rfl, Nat.le_of_ble_eq_true rfl⟩ rfl rfl (Nat.le_of_ble_eq_true rfl) dX6_readsPair_81 ⟨Nat.le_refl _, Nat.le_refl _⟩ (fun r12 t11 => ?_)
      refine jr_if_eq hG 104 dX6_readsPair_84 (by decide) (fun _ => ?_) (fun _ => ?_)
      · refine jr_iconst (v := (0 : Int32)) hG dX6_readsPair_104 (by decide) ?_
        exact jr_zret hG hr hk (by decide) dX6_readsPair_105
      · refine jr_iload_n hG 1 dX6_readsPair_87 rfl rfl ?_
        refine jr_iload hG 0 dX6_readsPair_88 rfl ?_
        refine jr_icmp_eq hG 104 dX6_readsPair_90 (by decide) (fun _ => ?_) (fun _ => ?_)
        · refine jr_iconst (v := (0 : Int32)) hG dX6_readsPair_104 (by decide) ?_
          exact jr_zret hG hr hk (by decide) dX6_readsPair_105
        · refine jr_aload_n hG 4 dX6_readsPair_93 rfl rfl ?_
          refine jr_iload_n hG 1 dX6_readsPair_94 rfl rfl ?_
          refine jr_iald hG (okA_s (by decide) ha2) (okA_l ha2) dX6_readsPair_95 ?_
          refine jr_iload hG 0 dX6_readsPair_96 rfl ?_
          refine jr_callSi (As := [.int (gi t11 a2 (ix x4)), .int x10]) hG (c_X6_has l E N (gi t11 a2 (ix x4)) x10 t11) ci_X6_has wd_932 wd_933 ⟨rfl, rfl, Nat.le_of_ble_eq_true rfl, Nat.le_of_ble_eq_true rfl⟩ rfl rfl (Nat.le_of_ble_eq_true rfl) dX6_readsPair_98 ⟨Nat.le_refl _, Nat.le_refl _⟩ (fun r14 t13 => ?_)
          refine jr_if_eq hG 106 dX6_readsPair_101 (by decide) (fun _ => ?_) (fun _ => ?_)
          · refine jr_aload_n hG 2 dX6_readsPair_106 rfl rfl ?_
            refine jr_dup hG dX6_readsPair_107 rfl ?_
            refine jr_getI hG fi_RX6_117 rfl (okO_s ha0) (okO_l ha0) dX6_readsPair_108 ?_
            refine jr_iconst (v := (1 : Int32)) hG dX6_readsPair_111 (by decide) ?_
            refine jr_iadd hG dX6_readsPair_112 ?_
            refine jr_putI hG fi_RX6_117 rfl rfl (okO_s ha0) (okO_l ha0) dX6_readsPair_113 ?_
            refine jr_lets (fun t15 _ => ?_)
            refine jr_aload_n hG 4 dX6_readsPair_116 rfl rfl ?_
            refine jr_iload_n hG 1 dX6_readsPair_117 rfl rfl ?_
            refine jr_dup2 hG dX6_readsPair_118 rfl rfl ?_
            refine jr_iald hG (okA_s (by decide) ha2) (okA_l ha2) dX6_readsPair_119 ?_
            refine jr_iconst (v := (1 : Int32)) hG dX6_readsPair_120 (by decide) ?_
            refine jr_iload hG 0 dX6_readsPair_121 rfl ?_
            refine jr_ishl hG dX6_readsPair_123 ?_
            refine jr_ior hG dX6_readsPair_124 ?_
            refine jr_iast hG (okA_s (by decide) ha2) (okA_l ha2) dX6_readsPair_125 ?_
            refine jr_lets (fun t16 _ => ?_)
            refine jr_aload_n hG 4 dX6_readsPair_126 rfl rfl ?_
            refine jr_iload hG 0 dX6_readsPair_127 rfl ?_
            refine jr_dup2 hG dX6_readsPair_129 rfl rfl ?_
            refine jr_iald hG (okA_s (by decide) ha2) (okA_l ha2) dX6_readsPair_130 ?_
            refine jr_iconst (v := (1 : Int32)) hG dX6_readsPair_131 (by decide) ?_
            refine jr_iload_n hG 1 dX6_readsPair_132 rfl rfl ?_
            refine jr_ishl hG dX6_readsPair_133 ?_
            refine jr_ior hG dX6_readsPair_134 ?_
            refine jr_iast hG (okA_s (by decide) ha2) (okA_l ha2) dX6_readsPair_135 ?_
            refine jr_lets (fun t17 _ => ?_)
            refine jr_aload_n hG 2 dX6_readsPair_136 rfl rfl ?_
            refine jr_iconst (v := (1 : Int32)) hG dX6_readsPair_137 (by decide) ?_
            refine jr_putZ hG fi_RX6_127 rfl rfl (okO_s ha0) (okO_l ha0) (by decide) dX6_readsPair_138 ?_
            refine jr_lets (fun t18 _ => ?_)
            refine jr_iconst (v := (1 : Int32)) hG dX6_readsPair_141 (by decide) ?_
            exact jr_zret hG hr hk (by decide) dX6_readsPair_142
          · refine jr_iconst (v := (0 : Int32)) hG dX6_readsPair_104 (by decide) ?_
            exact jr_zret hG hr hk (by decide) dX6_readsPair_105
    · refine jr_iconst (v := (0 : Int32)) hG dX6_readsPair_46 (by decide) ?_
      exact jr_zret hG hr hk (by decide) dX6_readsPair_47
  · refine jr_iconst (v := (0 : Int32)) hG dX6_readsPair_7 (by decide) ?_
    exact jr_zret hG hr hk (by decide) dX6_readsPair_8
-- TonguesDealtModel.readsPerson(I)Z
abbrev rm_X6_readsPerson : Room := { frames := 1, cells := 0, slots := 0, locals := 22 }
theorem ci_X6_readsPerson : CIx yX6_readsPerson cX6_readsPerson 3 (some .boolean) 1 := ⟨wd_938, wd_77, by decide +kernel⟩
def f_X6_readsPerson (N : Nat) (a0 : Nat) (v1 : Int32) (σ : Mm) : Option (Int32 × Mm) := if okO 6 a0 then (bI (f_X6_byteAt N a0 v1 (gi σ a0 13) (σ)) (fun r2 t1 => bI (f_X6_kindOf N r2 t1) (fun r4 t3 => if r4 = (-9 : Int32) then (some ((0 : Int32), t3)) else (if (gi t3 a0 15) = 0 then (if (gi t3 a0 14) = (6 : Int32) then (some ((0 : Int32), t3)) else (lt (si t3 a0 13 ((gi t3 a0 13) + (1 : Int32))) (fun t5 => bR (gr t5 a0 16) (okA 0) (fun o6 => if inb (gi t5 a0 14) (arL o6) then (lt (si t5 o6 (ix (gi t5 a0 14)) r4) (fun t7 => lt (si t7 a0 14 ((gi t7 a0 14) + (1 : Int32))) (fun t8 => some ((1 : Int32), t8)))) else none)))) else (some ((0 : Int32), t3)))))) else none
set_option maxRecDepth 20000 in
theorem c_X6_readsPerson (l : Launch) (E : XE) (N : Nat) (a0 : Nat) (v1 : Int32) (σ : Mm) : ∀ r0, f_X6_readsPerson N a0 v1 σ = some r0 → Met l yX6_readsPerson [Cond.code yX6_readsPerson cX6_readsPerson 3 (some .boolean)] rm_X6_readsPerson (xPc E (NT + 0) σ [.ref (E.B + a0), .int v1]) (xQi E (NT + 0) r0) 0 0 (xA E) := by
  refine met_of (N0 := NT) (by decide +kernel) (Nat.le_of_ble_eq_true rfl) ?_
  intro p e s m args below meth c hG hr hk _
  show JR E NT 3 p l e rm_X6_readsPerson s m args below meth c 0 0 (fun r => MQ below (xQi E (NT + 0) r) args s 0 0 (xA E)) 0 [(0, .ref (E.B + a0)), (1, .int v1)] [] σ (if okO 6 a0 then (bI (f_X6_byteAt N a0 v1 (gi σ a0 13) (σ)) (fun r2 t1 => bI (f_X6_kindOf N r2 t1) (fun r4 t3 => if r4 = (-9 : Int32) then (some ((0 : Int32), t3)) else (if (gi t3 a0 15) = 0 then (if (gi t3 a0 14) = (6 : Int32) then (some ((0 : Int32), t3)) else (lt (si t3 a0 13 ((gi t3 a0 13) + (1 : Int32))) (fun t5 => bR (gr t5 a0 16) (okA 0) (fun o6 => if inb (gi t5 a0 14) (arL o6) then (lt (si t5 o6 (ix (gi t5 a0 14)) r4) (fun t7 => lt (si t7 a0 14 ((gi t7 a0 14) + (1 : Int32))) (fun t8 => some ((1 : Int32), t8)))) else none)))) else (some ((0 : Int32), t3)))))) else none)
  refine jr_guard (fun ha0 => ?_)
  refine jr_aload_n hG 0 dX6_readsPerson_0 rfl rfl ?_
  refine jr_iload_n hG 1 dX6_readsPerson_1 rfl rfl ?_
  refine jr_aload_n hG 0 dX6_readsPerson_2 rfl rfl ?_
  refine jr_getI hG fi_RX6_117 rfl (okO_s ha0) (okO_l ha0) dX6_readsPerson_3 ?_
  refine jr_callVi (As := [.int v1, .int (gi σ a0 13)]) hG (c_X6_byteAt l E N a0 v1 (gi σ a0 13) (σ)) ci_X6_byteAt wd_920 ⟨wd_922, wd_25⟩ cl_6 (okO_s ha0) (okO_l ha0) ⟨rfl, rfl, Nat.le_of_ble_eq_true rfl, Nat.le_of_ble_eq_true rfl⟩ rfl rfl (Nat.le_of_ble_eq_true rfl) dX6_readsPerson_6 ⟨Nat.le_refl _, Nat.le_refl _⟩ (fun r2 t1 => ?_)
  refine jr_callSi (As := [.int r2]) hG (c_X6_kindOf l E N r2 t1) ci_X6_kindOf wd_939 wd_940 ⟨rfl, rfl, Nat.le_of_ble_eq_true rfl, Nat.le_of_ble_eq_true rfl⟩ rfl rfl (Nat.le_of_ble_eq_true rfl) dX6_readsPerson_9 ⟨Nat.le_refl _, Nat.le_refl _⟩ (fun r4 t3 => ?_)
  refine jr_istore_n (lv' := [(2, .int r4), (0, .ref (E.B + a0)), (1, .int v1)]) hG dX6_readsPerson_12 rfl (by decide) rfl ?_
  refine jr_iload_n hG 0 dX6_readsPerson_13 rfl rfl ?_
  refine jr_bipush (v := (-9 : Int32)) hG dX6_readsPerson_14 (by decide) ?_
  refine jr_icmp_eq hG 35 dX6_readsPerson_16 (by decide) (fun _ => ?_) (fun _ => ?_)
  · refine jr_iconst (v := (0 : Int32)) hG dX6_readsPerson_35 (by decide) ?_
    exact jr_zret hG hr hk (by decide) dX6_readsPerson_36
  · refine jr_aload_n hG 1 dX6_readsPerson_19 rfl rfl ?_
    refine jr_getZ hG fi_RX6_127 rfl (okO_s ha0) (okO_l ha0) dX6_readsPerson_20 ?_
    refine jr_if_ne hG 35 dX6_readsPerson_23 (by decide) (fun _ => ?_) (fun _ => ?_)
    · refine jr_iconst (v := (0 : Int32)) hG dX6_readsPerson_35 (by decide) ?_
      exact jr_zret hG hr hk (by decide) dX6_readsPerson_36
    · refine jr_aload_n hG 1 dX6_readsPerson_26 rfl rfl ?_
      refine jr_getI hG fi_RX6_114 rfl (okO_s ha0) (okO_l ha0) dX6_readsPerson_27 ?_
      refine jr_bipush (v := (6 : Int32)) hG dX6_readsPerson_30 (by decide) ?_
      refine jr_icmp_ne hG 37 dX6_readsPerson_32 (by decide) (fun _ => ?_) (fun _ => ?_)
      · refine jr_aload_n hG 1 dX6_readsPerson_37 rfl rfl ?_
        refine jr_dup hG dX6_readsPerson_38 rfl ?_
        refine jr_getI hG fi_RX6_117 rfl (okO_s ha0) (okO_l ha0) dX6_readsPerson_39 ?_
        refine jr_iconst (v := (1 : Int32)) hG dX6_readsPerson_42 (by decide) ?_
        refine jr_iadd hG dX6_readsPerson_43 ?_
        refine jr_putI hG fi_RX6_117 rfl rfl (okO_s ha0) (okO_l ha0) dX6_readsPerson_44 ?_
        refine jr_lets (fun t5 _ => ?_)
        refine jr_aload_n hG 1 dX6_readsPerson_47 rfl rfl ?_
        refine jr_getR hG fi_RX6_39 rfl (okO_s ha0) (okO_l ha0) dX6_readsPerson_48 (fun o6 ho6 => ?_)
        refine jr_aload_n hG 1 dX6_readsPerson_51 rfl rfl ?_
        refine jr_getI hG fi_RX6_114 rfl (okO_s ha0) (okO_l ha0) dX6_readsPerson_52 ?_
        refine jr_iload_n hG 0 dX6_readsPerson_55 rfl rfl ?_
        refine jr_iast hG (okA_s (by decide) ho6) (okA_l ho6) dX6_readsPerson_56 ?_
        refine jr_lets (fun t7 _ => ?_)
        refine jr_aload_n hG 1 dX6_readsPerson_57 rfl rfl ?_
        refine jr_dup hG dX6_readsPerson_58 rfl ?_
        refine jr_getI hG fi_RX6_114 rfl (okO_s ha0) (okO_l ha0) dX6_readsPerson_59 ?_
        refine jr_iconst (v := (1 : Int32)) hG dX6_readsPerson_62 (by decide) ?_
        refine jr_iadd hG dX6_readsPerson_63 ?_
        refine jr_putI hG fi_RX6_114 rfl rfl (okO_s ha0) (okO_l ha0) dX6_readsPerson_64 ?_
        refine jr_lets (fun t8 _ => ?_)
        refine jr_iconst (v := (1 : Int32)) hG dX6_readsPerson_67 (by decide) ?_
        exact jr_zret hG hr hk (by decide) dX6_readsPerson_68
      · refine jr_iconst (v := (0 : Int32)) hG dX6_readsPerson_35 (by decide) ?_
        exact jr_zret hG hr hk (by decide) dX6_readsPerson_36
-- TonguesDealtModel.readsItem(I)Z
abbrev rm_X6_readsItem : Room := { frames := 2, cells := 0, slots := 0, locals := 46 }
theorem ci_X6_readsItem : CIx yX6_readsItem cX6_readsItem 3 (some .boolean) 1 := ⟨wd_927, wd_77, by decide +kernel⟩
def f_X6_readsItem (N : Nat) (a0 : Nat) (v1 : Int32) (σ : Mm) : Option (Int32 × Mm) := if okO 6 a0 then (bI (f_X6_byteAt N a0 v1 (gi σ a0 13) (σ)) (fun r2 t1 => if r2 = (97 : Int32) then (bR (gr t1 a0 17) (okA 0) (fun o8 => bI (f_X6_readsPair N a0 v1 o8 t1) (fun r10 t9 => if bz r10 then some (r10, t9) else none))) else (if r2 = (103 : Int32) then (bR (gr t1 a0 18) (okA 0) (fun o5 => bI (f_X6_readsPair N a0 v1 o5 t1) (fun r7 t6 => if bz r7 then some (r7, t6) else none))) else (bI (f_X6_readsPerson N a0 v1 t1) (fun r4 t3 => if bz r4 then some (r4, t3) else none))))) else none
set_option maxRecDepth 20000 in
theorem c_X6_readsItem (l : Launch) (E : XE) (N : Nat) (a0 : Nat) (v1 : Int32) (σ : Mm) : ∀ r0, f_X6_readsItem N a0 v1 σ = some r0 → Met l yX6_readsItem [Cond.code yX6_readsItem cX6_readsItem 3 (some .boolean)] rm_X6_readsItem (xPc E (NT + 0) σ [.ref (E.B + a0), .int v1]) (xQi E (NT + 0) r0) 0 0 (xA E) := by
  refine met_of (N0 := NT) (by decide +kernel) (Nat.le_of_ble_eq_true rfl) ?_
  intro p e s m args below meth c hG hr hk _
  show JR E NT 3 p l e rm_X6_readsItem s m args below meth c 0 0 (fun r => MQ below (xQi E (NT + 0) r) args s 0 0 (xA E)) 0 [(0, .ref (E.B + a0)), (1, .int v1)] [] σ (if okO 6 a0 then (bI (f_X6_byteAt N a0 v1 (gi σ a0 13) (σ)) (fun r2 t1 => if r2 = (97 : Int32) then (bR (gr t1 a0 17) (okA 0) (fun o8 => bI (f_X6_readsPair N a0 v1 o8 t1) (fun r10 t9 => if bz r10 then some (r10, t9) else none))) else (if r2 = (103 : Int32) then (bR (gr t1 a0 18) (okA 0) (fun o5 => bI (f_X6_readsPair N a0 v1 o5 t1) (fun r7 t6 => if bz r7 then some (r7, t6) else none))) else (bI (f_X6_readsPerson N a0 v1 t1) (fun r4 t3 => if bz r4 then some (r4, t3) else none))))) else none)
  refine jr_guard (fun ha0 => ?_)
  refine jr_aload_n hG 0 dX6_readsItem_0 rfl rfl ?_
  refine jr_iload_n hG 1 dX6_readsItem_1 rfl rfl ?_
  refine jr_aload_n hG 0 dX6_readsItem_2 rfl rfl ?_
  refine jr_getI hG fi_RX6_117 rfl (okO_s ha0) (okO_l ha0) dX6_readsItem_3 ?_
  refine jr_callVi (As := [.int v1, .int (gi σ a0 13)]) hG (c_X6_byteAt l E N a0 v1 (gi σ a0 13) (σ)) ci_X6_byteAt wd_920 ⟨wd_922, wd_25⟩ cl_6 (okO_s ha0) (okO_l ha0) ⟨rfl, rfl, Nat.le_of_ble_eq_true rfl, Nat.le_of_ble_eq_true rfl⟩ rfl rfl (Nat.le_of_ble_eq_true rfl) dX6_readsItem_6 ⟨Nat.le_refl _, Nat.le_refl _⟩ (fun r2 t1 => ?_)
  refine jr_istore_n (lv' := [(2, .int r2), (0, .ref (E.B + a0)), (1, .int v1)]) hG dX6_readsItem_9 rfl (by decide) rfl ?_
  refine jr_iload_n hG 0 dX6_readsItem_10 rfl rfl ?_
  refine jr_bipush (v := (97 : Int32)) hG dX6_readsItem_11 (by decide) ?_
  refine jr_icmp_ne hG 28 dX6_readsItem_13 (by decide) (fun _ => ?_) (fun _ => ?_)
  · refine jr_iload_n hG 0 dX6_readsItem_28 rfl rfl ?_
    refine jr_bipush (v := (103 : Int32)) hG dX6_readsItem_29 (by decide) ?_
    refine jr_icmp_ne hG 46 dX6_readsItem_31 (by decide) (fun _ => ?_) (fun _ => ?_)
    · refine jr_aload_n hG 1 dX6_readsItem_46 rfl rfl ?_
      refine jr_iload_n hG 2 dX6_readsItem_47 rfl rfl ?_
      refine jr_callVi (As := [.int v1]) hG (c_X6_readsPerson l E N a0 v1 t1) ci_X6_readsPerson wd_935 ⟨wd_937, wd_28⟩ cl_6 (okO_s ha0) (okO_l ha0) ⟨rfl, rfl, Nat.le_of_ble_eq_true rfl, Nat.le_of_ble_eq_true rfl⟩ rfl rfl (Nat.le_of_ble_eq_true rfl) dX6_readsItem_48 ⟨Nat.le_refl _, Nat.le_refl _⟩ (fun r4 t3 => ?_)
      refine jr_guard (fun hz => ?_)
      exact jr_zret hG hr hk hz dX6_readsItem_51
    · refine jr_aload_n hG 1 dX6_readsItem_34 rfl rfl ?_
      refine jr_iload_n hG 2 dX6_readsItem_35 rfl rfl ?_
      refine jr_aload_n hG 1 dX6_readsItem_36 rfl rfl ?_
      refine jr_getR hG fi_RX6_45 rfl (okO_s ha0) (okO_l ha0) dX6_readsItem_37 (fun o5 ho5 => ?_)
      refine jr_callVi (As := [.int v1, .ref (E.B + o5)]) hG (c_X6_readsPair l E N a0 v1 o5 t1) ci_X6_readsPair wd_928 ⟨wd_930, wd_27⟩ cl_6 (okO_s ha0) (okO_l ha0) ⟨rfl, rfl, Nat.le_of_ble_eq_true rfl, Nat.le_of_ble_eq_true rfl⟩ rfl rfl (Nat.le_of_ble_eq_true rfl) dX6_readsItem_40 ⟨Nat.le_refl _, Nat.le_refl _⟩ (fun r7 t6 => ?_)
      refine jr_goto hG 51 dX6_readsItem_43 (by decide) ?_
      refine jr_guard (fun hz => ?_)
      exact jr_zret hG hr hk hz dX6_readsItem_51
  · refine jr_aload_n hG 1 dX6_readsItem_16 rfl rfl ?_
    refine jr_iload_n hG 2 dX6_readsItem_17 rfl rfl ?_
    refine jr_aload_n hG 1 dX6_readsItem_18 rfl rfl ?_
    refine jr_getR hG fi_RX6_42 rfl (okO_s ha0) (okO_l ha0) dX6_readsItem_19 (fun o8 ho8 => ?_)
    refine jr_callVi (As := [.int v1, .ref (E.B + o8)]) hG (c_X6_readsPair l E N a0 v1 o8 t1) ci_X6_readsPair wd_928 ⟨wd_930, wd_27⟩ cl_6 (okO_s ha0) (okO_l ha0) ⟨rfl, rfl, Nat.le_of_ble_eq_true rfl, Nat.le_of_ble_eq_true rfl⟩ rfl rfl (Nat.le_of_ble_eq_true rfl) dX6_readsItem_22 ⟨Nat.le_refl _, Nat.le_refl _⟩ (fun r10 t9 => ?_)
    refine jr_goto hG 51 dX6_readsItem_25 (by decide) ?_
    refine jr_guard (fun hz => ?_)
    exact jr_zret hG hr hk hz dX6_readsItem_51
-- TonguesDealtModel.faultOf(I)I
abbrev rm_X6_faultOf : Room := { frames := 3, cells := 0, slots := 0, locals := 68 }
theorem ci_X6_faultOf : CIx yX6_faultOf cX6_faultOf 3 (some .int) 1 := ⟨wd_919, wd_77, by decide +kernel⟩
def f_X6_faultOf_43 (N : Nat)  : Nat → Nat → Int32 → Mm → Option (Int32 × Mm)
  | 0 => fun _ _ _ => none
  | n + 1 => fun a0 v1 σ => bR (gr σ a0 8) (okA 0) (fun o8 => if inb v1 (arL o8) then (if (gi σ o8 (ix v1)) ≤ (gi σ a0 13) then (if (gi σ a0 14) = 0 then (bR (gr σ a0 8) (okA 0) (fun o9 => if inb v1 (arL o9) then (some (gi σ o9 (ix v1), σ)) else none)) else (some ((-9 : Int32), σ))) else (bI (f_X6_byteAt N a0 v1 (gi σ a0 13) (σ)) (fun r11 t10 => if r11 = (32 : Int32) then (lt (si t10 a0 13 ((gi t10 a0 13) + (1 : Int32))) (fun t14 => f_X6_faultOf_43 N n a0 v1 t14)) else (bI (f_X6_readsItem N a0 v1 t10) (fun r13 t12 => if r13 = 0 then (some (gi t12 a0 13, t12)) else (f_X6_faultOf_43 N n a0 v1 t12)))))) else none)
set_option maxRecDepth 20000 in
theorem w_X6_faultOf_43 {p : Program} {l : Launch} {e : Env} {s : State} {m : MethodId} {args : Array Value} {below : List Frame} {meth : Method} {c : Code} {E : XE} (N : Nat) (hG : GG E NT 3 RX6 cX6_faultOf p s m args c) (hr : meth.sig.returnType = (some .int)) (hk : meth.locks = false)  : ∀ (n : Nat) (a0 : Nat) (v1 : Int32) (ha0 : okO 6 a0 = true) (σ : Mm), JR E NT 3 p l e rm_X6_faultOf s m args below meth c 0 0 (fun r => MQ below (xQi E (NT + 0) r) args s 0 0 (xA E)) 43 [(0, .ref (E.B + a0)), (1, .int v1)] [] σ (f_X6_faultOf_43 N n a0 v1 σ) := by
  intro n
  induction n with
  | zero => intro a0 v1 ha0 σ r hX; cases hX
  | succ n ih =>
    intro a0 v1 ha0 σ
    show JR E NT 3 p l e rm_X6_faultOf s m args below meth c 0 0 (fun r => MQ below (xQi E (NT + 0) r) args s 0 0 (xA E)) 43 [(0, .ref (E.B + a0)), (1, .int v1)] [] σ (bR (gr σ a0 8) (okA 0) (fun o8 => if inb v1 (arL o8) then (if (gi σ o8 (ix v1)) ≤ (gi σ a0 13) then (if (gi σ a0 14) = 0 then (bR (gr σ a0 8) (okA 0) (fun o9 => if inb v1 (arL o9) then (some (gi σ o9 (ix v1), σ)) else none)) else (some ((-9 : Int32), σ))) else (bI (f_X6_byteAt N a0 v1 (gi σ a0 13) (σ)) (fun r11 t10 => if r11 = (32 : Int32) then (lt (si t10 a0 13 ((gi t10 a0 13) + (1 : Int32))) (fun t14 => f_X6_faultOf_43 N n a0 v1 t14)) else (bI (f_X6_readsItem N a0 v1 t10) (fun r13 t12 => if r13 = 0 then (some (gi t12 a0 13, t12)) else (f_X6_faultOf_43 N n a0 v1 t12)))))) else none))
    refine jr_aload_n hG 0 dX6_faultOf_43 rfl rfl ?_
    refine jr_getI hG fi_RX6_117 rfl (okO_s ha0) (okO_l ha0) dX6_faultOf_44 ?_
    refine jr_aload_n hG 0 dX6_faultOf_47 rfl rfl ?_
    refine jr_getR hG fi_RX6_26 rfl (okO_s ha0) (okO_l ha0) dX6_faultOf_48 (fun o8 ho8 => ?_)
    refine jr_iload_n hG 1 dX6_faultOf_51 rfl rfl ?_
    refine jr_iald hG (okA_s (by decide) ho8) (okA_l ho8) dX6_faultOf_52 ?_
    refine jr_icmp_ge hG 96 dX6_faultOf_53 (by decide) (fun _ => ?_) (fun _ => ?_)
    · refine jr_aload_n hG 0 dX6_faultOf_96 rfl rfl ?_
      refine jr_getI hG fi_RX6_114 rfl (okO_s ha0) (okO_l ha0) dX6_faultOf_97 ?_
      refine jr_if_ne hG 112 dX6_faultOf_100 (by decide) (fun _ => ?_) (fun _ => ?_)
      · refine jr_bipush (v := (-9 : Int32)) hG dX6_faultOf_112 (by decide) ?_
        exact jr_iret hG hr hk dX6_faultOf_114
      · refine jr_aload_n hG 0 dX6_faultOf_103 rfl rfl ?_
        refine jr_getR hG fi_RX6_26 rfl (okO_s ha0) (okO_l ha0) dX6_faultOf_104 (fun o9 ho9 => ?_)
        refine jr_iload_n hG 1 dX6_faultOf_107 rfl rfl ?_
        refine jr_iald hG (okA_s (by decide) ho9) (okA_l ho9) dX6_faultOf_108 ?_
        refine jr_goto hG 114 dX6_faultOf_109 (by decide) ?_
        exact jr_iret hG hr hk dX6_faultOf_114
    · refine jr_aload_n hG 0 dX6_faultOf_56 rfl rfl ?_
      refine jr_iload_n hG 1 dX6_faultOf_57 rfl rfl ?_
      refine jr_aload_n hG 0 dX6_faultOf_58 rfl rfl ?_
      refine jr_getI hG fi_RX6_117 rfl (okO_s ha0) (okO_l ha0) dX6_faultOf_59 ?_
      refine jr_callVi (As := [.int v1, .int (gi σ a0 13)]) hG (c_X6_byteAt l E N a0 v1 (gi σ a0 13) (σ)) ci_X6_byteAt wd_920 ⟨wd_922, wd_25⟩ cl_6 (okO_s ha0) (okO_l ha0) ⟨rfl, rfl, Nat.le_of_ble_eq_true rfl, Nat.le_of_ble_eq_true rfl⟩ rfl rfl (Nat.le_of_ble_eq_true rfl) dX6_faultOf_62 ⟨Nat.le_refl _, Nat.le_refl _⟩ (fun r11 t10 => ?_)
      refine jr_bipush (v := (32 : Int32)) hG dX6_faultOf_65 (by decide) ?_
      refine jr_icmp_ne hG 83 dX6_faultOf_67 (by decide) (fun _ => ?_) (fun _ => ?_)
      · refine jr_aload_n hG 0 dX6_faultOf_83 rfl rfl ?_
        refine jr_iload_n hG 1 dX6_faultOf_84 rfl rfl ?_
        refine jr_callVi (As := [.int v1]) hG (c_X6_readsItem l E N a0 v1 t10) ci_X6_readsItem wd_924 ⟨wd_926, wd_26⟩ cl_6 (okO_s ha0) (okO_l ha0) ⟨rfl, rfl, Nat.le_of_ble_eq_true rfl, Nat.le_of_ble_eq_true rfl⟩ rfl rfl (Nat.le_of_ble_eq_true rfl) dX6_faultOf_85 ⟨Nat.le_refl _, Nat.le_refl _⟩ (fun r13 t12 => ?_)
        refine jr_if_ne hG 43 dX6_faultOf_88 (by decide) (fun _ => ?_) (fun _ => ?_)
        · exact ih a0 v1 ha0 t12
        · refine jr_aload_n hG 0 dX6_faultOf_91 rfl rfl ?_
          refine jr_getI hG fi_RX6_117 rfl (okO_s ha0) (okO_l ha0) dX6_faultOf_92 ?_
          exact jr_iret hG hr hk dX6_faultOf_95
      · refine jr_aload_n hG 0 dX6_faultOf_70 rfl rfl ?_
        refine jr_dup hG dX6_faultOf_71 rfl ?_
        refine jr_getI hG fi_RX6_117 rfl (okO_s ha0) (okO_l ha0) dX6_faultOf_72 ?_
        refine jr_iconst (v := (1 : Int32)) hG dX6_faultOf_75 (by decide) ?_
        refine jr_iadd hG dX6_faultOf_76 ?_
        refine jr_putI hG fi_RX6_117 rfl rfl (okO_s ha0) (okO_l ha0) dX6_faultOf_77 ?_
        refine jr_lets (fun t14 _ => ?_)
        refine jr_goto hG 43 dX6_faultOf_80 (by decide) ?_
        exact ih a0 v1 ha0 t14
def f_X6_faultOf_17 (N : Nat)  : Nat → Nat → Int32 → Int32 → Mm → Option (Int32 × Mm)
  | 0 => fun _ _ _ _ => none
  | n + 1 => fun a0 v1 v2 σ => if (6 : Int32) ≤ v2 then (f_X6_faultOf_43 N N a0 v1 (σ)) else (bR (gr σ a0 17) (okA 0) (fun o4 => if inb v2 (arL o4) then (lt (si σ o4 (ix v2) (0 : Int32)) (fun t5 => bR (gr t5 a0 18) (okA 0) (fun o6 => if inb v2 (arL o6) then (lt (si t5 o6 (ix v2) (0 : Int32)) (fun t7 => f_X6_faultOf_17 N n a0 v1 (v2 + (1 : Int32)) t7)) else none))) else none))
set_option maxRecDepth 20000 in
theorem w_X6_faultOf_17 {p : Program} {l : Launch} {e : Env} {s : State} {m : MethodId} {args : Array Value} {below : List Frame} {meth : Method} {c : Code} {E : XE} (N : Nat) (hG : GG E NT 3 RX6 cX6_faultOf p s m args c) (hr : meth.sig.returnType = (some .int)) (hk : meth.locks = false)  : ∀ (n : Nat) (a0 : Nat) (v1 : Int32) (v2 : Int32) (ha0 : okO 6 a0 = true) (σ : Mm), JR E NT 3 p l e rm_X6_faultOf s m args below meth c 0 0 (fun r => MQ below (xQi E (NT + 0) r) args s 0 0 (xA E)) 17 [(0, .ref (E.B + a0)), (1, .int v1), (2, .int v2)] [] σ (f_X6_faultOf_17 N n a0 v1 v2 σ) := by
  intro n
  induction n with
  | zero => intro a0 v1 v2 ha0 σ r hX; cases hX
  | succ n ih =>
    intro a0 v1 v2 ha0 σ
    show JR E NT 3 p l e rm_X6_faultOf s m args below meth c 0 0 (fun r => MQ below (xQi E (NT + 0) r) args s 0 0 (xA E)) 17 [(0, .ref (E.B + a0)), (1, .int v1), (2, .int v2)] [] σ (if (6 : Int32) ≤ v2 then (f_X6_faultOf_43 N N a0 v1 (σ)) else (bR (gr σ a0 17) (okA 0) (fun o4 => if inb v2 (arL o4) then (lt (si σ o4 (ix v2) (0 : Int32)) (fun t5 => bR (gr t5 a0 18) (okA 0) (fun o6 => if inb v2 (arL o6) then (lt (si t5 o6 (ix v2) (0 : Int32)) (fun t7 => f_X6_faultOf_17 N n a0 v1 (v2 + (1 : Int32)) t7)) else none))) else none)))
    refine jr_iload_n hG 2 dX6_faultOf_17 rfl rfl ?_
    refine jr_bipush (v := (6 : Int32)) hG dX6_faultOf_18 (by decide) ?_
    refine jr_icmp_ge hG 43 dX6_faultOf_20 (by decide) (fun _ => ?_) (fun _ => ?_)
    · refine jr_sub (lv' := [(0, .ref (E.B + a0)), (1, .int v1)]) [0, 1] rfl ?_
      exact w_X6_faultOf_43 N hG hr hk N a0 v1 ha0 (σ)
    · refine jr_aload_n hG 0 dX6_faultOf_23 rfl rfl ?_
      refine jr_getR hG fi_RX6_42 rfl (okO_s ha0) (okO_l ha0) dX6_faultOf_24 (fun o4 ho4 => ?_)
      refine jr_iload_n hG 2 dX6_faultOf_27 rfl rfl ?_
      refine jr_iconst (v := (0 : Int32)) hG dX6_faultOf_28 (by decide) ?_
      refine jr_iast hG (okA_s (by decide) ho4) (okA_l ho4) dX6_faultOf_29 ?_
      refine jr_lets (fun t5 _ => ?_)
      refine jr_aload_n hG 0 dX6_faultOf_30 rfl rfl ?_
      refine jr_getR hG fi_RX6_45 rfl (okO_s ha0) (okO_l ha0) dX6_faultOf_31 (fun o6 ho6 => ?_)
      refine jr_iload_n hG 2 dX6_faultOf_34 rfl rfl ?_
      refine jr_iconst (v := (0 : Int32)) hG dX6_faultOf_35 (by decide) ?_
      refine jr_iast hG (okA_s (by decide) ho6) (okA_l ho6) dX6_faultOf_36 ?_
      refine jr_lets (fun t7 _ => ?_)
      refine jr_iinc (v := v2 + (1 : Int32)) (lv' := [(2, .int (v2 + (1 : Int32))), (0, .ref (E.B + a0)), (1, .int v1)]) hG 2 dX6_faultOf_37 rfl rfl (by decide) rfl ?_
      refine jr_goto hG 17 dX6_faultOf_40 (by decide) ?_
      refine jr_sub (lv' := [(0, .ref (E.B + a0)), (1, .int v1), (2, .int (v2 + (1 : Int32)))]) [1, 2, 0] rfl ?_
      exact ih a0 v1 (v2 + (1 : Int32)) ha0 t7
def f_X6_faultOf (N : Nat) (a0 : Nat) (v1 : Int32) (σ : Mm) : Option (Int32 × Mm) := if okO 6 a0 then (lt (si σ a0 13 (0 : Int32)) (fun t1 => lt (si t1 a0 14 (0 : Int32)) (fun t2 => lt (si t2 a0 15 (0 : Int32)) (fun t3 => f_X6_faultOf_17 N N a0 v1 (0 : Int32) t3)))) else none
set_option maxRecDepth 20000 in
theorem c_X6_faultOf (l : Launch) (E : XE) (N : Nat) (a0 : Nat) (v1 : Int32) (σ : Mm) : ∀ r0, f_X6_faultOf N a0 v1 σ = some r0 → Met l yX6_faultOf [Cond.code yX6_faultOf cX6_faultOf 3 (some .int)] rm_X6_faultOf (xPc E (NT + 0) σ [.ref (E.B + a0), .int v1]) (xQi E (NT + 0) r0) 0 0 (xA E) := by
  refine met_of (N0 := NT) (by decide +kernel) (Nat.le_of_ble_eq_true rfl) ?_
  intro p e s m args below meth c hG hr hk _
  show JR E NT 3 p l e rm_X6_faultOf s m args below meth c 0 0 (fun r => MQ below (xQi E (NT + 0) r) args s 0 0 (xA E)) 0 [(0, .ref (E.B + a0)), (1, .int v1)] [] σ (if okO 6 a0 then (lt (si σ a0 13 (0 : Int32)) (fun t1 => lt (si t1 a0 14 (0 : Int32)) (fun t2 => lt (si t2 a0 15 (0 : Int32)) (fun t3 => f_X6_faultOf_17 N N a0 v1 (0 : Int32) t3)))) else none)
  refine jr_guard (fun ha0 => ?_)
  refine jr_aload_n hG 0 dX6_faultOf_0 rfl rfl ?_
  refine jr_iconst (v := (0 : Int32)) hG dX6_faultOf_1 (by decide) ?_
  refine jr_putI hG fi_RX6_117 rfl rfl (okO_s ha0) (okO_l ha0) dX6_faultOf_2 ?_
  refine jr_lets (fun t1 _ => ?_)
  refine jr_aload_n hG 0 dX6_faultOf_5 rfl rfl ?_
  refine jr_iconst (v := (0 : Int32)) hG dX6_faultOf_6 (by decide) ?_
  refine jr_putI hG fi_RX6_114 rfl rfl (okO_s ha0) (okO_l ha0) dX6_faultOf_7 ?_
  refine jr_lets (fun t2 _ => ?_)
  refine jr_aload_n hG 0 dX6_faultOf_10 rfl rfl ?_
  refine jr_iconst (v := (0 : Int32)) hG dX6_faultOf_11 (by decide) ?_
  refine jr_putZ hG fi_RX6_127 rfl rfl (okO_s ha0) (okO_l ha0) (by decide) dX6_faultOf_12 ?_
  refine jr_lets (fun t3 _ => ?_)
  refine jr_iconst (v := (0 : Int32)) hG dX6_faultOf_15 (by decide) ?_
  refine jr_istore_n (lv' := [(2, .int (0 : Int32)), (0, .ref (E.B + a0)), (1, .int v1)]) hG dX6_faultOf_16 rfl (by decide) rfl ?_
  refine jr_sub (lv' := [(0, .ref (E.B + a0)), (1, .int v1), (2, .int (0 : Int32))]) [1, 2, 0] rfl ?_
  exact w_X6_faultOf_17 N hG hr hk N a0 v1 (0 : Int32) ha0 t3
-- TonguesDealtModel.fault(I)I
abbrev rm_X6_fault : Room := { frames := 4, cells := 0, slots := 0, locals := 90 }
theorem ci_X6_fault : CIx yX6_fault cX6_fault 2 (some .int) 1 := ⟨wd_915, wd_77, by decide +kernel⟩
def f_X6_fault (N : Nat) (a0 : Nat) (v1 : Int32) (σ : Mm) : Option (Int32 × Mm) := if okO 6 a0 then (bI (f_X6_isText N v1 (σ)) (fun r2 t1 => if r2 = 0 then (some ((-1 : Int32), t1)) else (bR (gr t1 a0 8) (okA 0) (fun o3 => if inb v1 (arL o3) then (if 0 ≤ (gi t1 o3 (ix v1)) then (bI (f_X6_faultOf N a0 v1 t1) (fun r5 t4 => some (r5, t4))) else (bI (f_X6_meets N a0 (1 : Int32) t1) (fun r7 t6 => some (r7, t6)))) else none)))) else none
set_option maxRecDepth 20000 in
theorem c_X6_fault (l : Launch) (E : XE) (N : Nat) (a0 : Nat) (v1 : Int32) (σ : Mm) : ∀ r0, f_X6_fault N a0 v1 σ = some r0 → Met l yX6_fault [Cond.code yX6_fault cX6_fault 2 (some .int)] rm_X6_fault (xPc E (NT + 0) σ [.ref (E.B + a0), .int v1]) (xQi E (NT + 0) r0) 0 0 (xA E) := by
  refine met_of (N0 := NT) (by decide +kernel) (Nat.le_of_ble_eq_true rfl) ?_
  intro p e s m args below meth c hG hr hk _
  show JR E NT 2 p l e rm_X6_fault s m args below meth c 0 0 (fun r => MQ below (xQi E (NT + 0) r) args s 0 0 (xA E)) 0 [(0, .ref (E.B + a0)), (1, .int v1)] [] σ (if okO 6 a0 then (bI (f_X6_isText N v1 (σ)) (fun r2 t1 => if r2 = 0 then (some ((-1 : Int32), t1)) else (bR (gr t1 a0 8) (okA 0) (fun o3 => if inb v1 (arL o3) then (if 0 ≤ (gi t1 o3 (ix v1)) then (bI (f_X6_faultOf N a0 v1 t1) (fun r5 t4 => some (r5, t4))) else (bI (f_X6_meets N a0 (1 : Int32) t1) (fun r7 t6 => some (r7, t6)))) else none)))) else none)
  refine jr_guard (fun ha0 => ?_)
  refine jr_iload_n hG 1 dX6_fault_0 rfl rfl ?_
  refine jr_callSi (As := [.int v1]) hG (c_X6_isText l E N v1 (σ)) ci_X6_isText wd_905 wd_906 ⟨rfl, rfl, Nat.le_of_ble_eq_true rfl, Nat.le_of_ble_eq_true rfl⟩ rfl rfl (Nat.le_of_ble_eq_true rfl) dX6_fault_1 ⟨Nat.le_refl _, Nat.le_refl _⟩ (fun r2 t1 => ?_)
  refine jr_if_ne hG 9 dX6_fault_4 (by decide) (fun _ => ?_) (fun _ => ?_)
  · refine jr_aload_n hG 0 dX6_fault_9 rfl rfl ?_
    refine jr_getR hG fi_RX6_26 rfl (okO_s ha0) (okO_l ha0) dX6_fault_10 (fun o3 ho3 => ?_)
    refine jr_iload_n hG 1 dX6_fault_13 rfl rfl ?_
    refine jr_iald hG (okA_s (by decide) ho3) (okA_l ho3) dX6_fault_14 ?_
    refine jr_if_ge hG 26 dX6_fault_15 (by decide) (fun _ => ?_) (fun _ => ?_)
    · refine jr_aload_n hG 0 dX6_fault_26 rfl rfl ?_
      refine jr_iload_n hG 1 dX6_fault_27 rfl rfl ?_
      refine jr_callVi (As := [.int v1]) hG (c_X6_faultOf l E N a0 v1 t1) ci_X6_faultOf wd_916 ⟨wd_918, wd_24⟩ cl_6 (okO_s ha0) (okO_l ha0) ⟨rfl, rfl, Nat.le_of_ble_eq_true rfl, Nat.le_of_ble_eq_true rfl⟩ rfl rfl (Nat.le_of_ble_eq_true rfl) dX6_fault_28 ⟨Nat.le_refl _, Nat.le_refl _⟩ (fun r5 t4 => ?_)
      exact jr_iret hG hr hk dX6_fault_31
    · refine jr_aload_n hG 0 dX6_fault_18 rfl rfl ?_
      refine jr_iconst (v := (1 : Int32)) hG dX6_fault_19 (by decide) ?_
      refine jr_callVi (As := [.int (1 : Int32)]) hG (c_X6_meets l E N a0 (1 : Int32) t1) ci_X6_meets wd_869 ⟨wd_871, wd_21⟩ cl_6 (okO_s ha0) (okO_l ha0) ⟨rfl, rfl, Nat.le_of_ble_eq_true rfl, Nat.le_of_ble_eq_true rfl⟩ rfl rfl (Nat.le_of_ble_eq_true rfl) dX6_fault_20 ⟨Nat.le_refl _, Nat.le_refl _⟩ (fun r7 t6 => ?_)
      refine jr_goto hG 31 dX6_fault_23 (by decide) ?_
      exact jr_iret hG hr hk dX6_fault_31
  · refine jr_iconst (v := (-1 : Int32)) hG dX6_fault_7 (by decide) ?_
    exact jr_iret hG hr hk dX6_fault_8
-- TonguesDealtModel.town(I)I
abbrev rm_X6_town : Room := { frames := 4, cells := 0, slots := 0, locals := 90 }
theorem ci_X6_town : CIx yX6_town cX6_town 5 (some .int) 1 := ⟨wd_945, wd_77, by decide +kernel⟩
def f_X6_town_248 (N : Nat)  : Nat → Nat → Int32 → Mm → Option (Int32 × Mm)
  | 0 => fun _ _ _ => none
  | n + 1 => fun a0 v2 σ => if (3 : Int32) ≤ v2 then (some (gi σ a0 10, σ)) else (bR (gr σ a0 24) (okA 2) (fun o27 => if inb v2 (arL o27) then (lt (si σ o27 (ix v2) ((0 : Int32) &&& 1)) (fun t28 => f_X6_town_248 N n a0 (v2 + (1 : Int32)) t28)) else none))
set_option maxRecDepth 20000 in
theorem w_X6_town_248 {p : Program} {l : Launch} {e : Env} {s : State} {m : MethodId} {args : Array Value} {below : List Frame} {meth : Method} {c : Code} {E : XE} (N : Nat) (hG : GG E NT 5 RX6 cX6_town p s m args c) (hr : meth.sig.returnType = (some .int)) (hk : meth.locks = false)  : ∀ (n : Nat) (a0 : Nat) (v2 : Int32) (ha0 : okO 6 a0 = true) (σ : Mm), JR E NT 5 p l e rm_X6_town s m args below meth c 0 0 (fun r => MQ below (xQi E (NT + 0) r) args s 0 0 (xA E)) 248 [(0, .ref (E.B + a0)), (2, .int v2)] [] σ (f_X6_town_248 N n a0 v2 σ) := by
  intro n
  induction n with
  | zero => intro a0 v2 ha0 σ r hX; cases hX
  | succ n ih =>
    intro a0 v2 ha0 σ
    show JR E NT 5 p l e rm_X6_town s m args below meth c 0 0 (fun r => MQ below (xQi E (NT + 0) r) args s 0 0 (xA E)) 248 [(0, .ref (E.B + a0)), (2, .int v2)] [] σ (if (3 : Int32) ≤ v2 then (some (gi σ a0 10, σ)) else (bR (gr σ a0 24) (okA 2) (fun o27 => if inb v2 (arL o27) then (lt (si σ o27 (ix v2) ((0 : Int32) &&& 1)) (fun t28 => f_X6_town_248 N n a0 (v2 + (1 : Int32)) t28)) else none)))
    refine jr_iload_n hG 1 dX6_town_248 rfl rfl ?_
    refine jr_iconst (v := (3 : Int32)) hG dX6_town_249 (by decide) ?_
    refine jr_icmp_ge hG 266 dX6_town_250 (by decide) (fun _ => ?_) (fun _ => ?_)
    · refine jr_aload_n hG 0 dX6_town_266 rfl rfl ?_
      refine jr_getI hG fi_RX6_147 rfl (okO_s ha0) (okO_l ha0) dX6_town_267 ?_
      exact jr_iret hG hr hk dX6_town_270
    · refine jr_aload_n hG 0 dX6_town_253 rfl rfl ?_
      refine jr_getR hG fi_RX6_60 rfl (okO_s ha0) (okO_l ha0) dX6_town_254 (fun o27 ho27 => ?_)
      refine jr_iload_n hG 1 dX6_town_257 rfl rfl ?_
      refine jr_iconst (v := (0 : Int32)) hG dX6_town_258 (by decide) ?_
      refine jr_zast hG (okA_s (by decide) ho27) (okA_l ho27) dX6_town_259 ?_
      refine jr_lets (fun t28 _ => ?_)
      refine jr_iinc (v := v2 + (1 : Int32)) (lv' := [(2, .int (v2 + (1 : Int32))), (0, .ref (E.B + a0))]) hG 1 dX6_town_260 rfl rfl (by decide) rfl ?_
      refine jr_goto hG 248 dX6_town_263 (by decide) ?_
      refine jr_sub (lv' := [(0, .ref (E.B + a0)), (2, .int (v2 + (1 : Int32)))]) [1, 0] rfl ?_
      exact ih a0 (v2 + (1 : Int32)) ha0 t28
def f_X6_town_221 (N : Nat) (K161 : Nat → Int32 → Mm → Option (Int32 × Mm)) (K169 : Nat → Int32 → Int32 → Mm → Option (Int32 × Mm)) (K180 : Nat → Int32 → Int32 → Int32 → Mm → Option (Int32 × Mm)) (a0 : Nat) (v2 : Int32) (v3 : Int32) (v4 : Int32) (s0 : Int32) (s1 : Int32) (s2 : Int32) (b3 : Nat) (σ : Mm) : Option (Int32 × Mm) := if inb s2 (arL b3) then (lt (si σ b3 (ix s2) (s1 ||| s0)) (fun t26 => K180 a0 v2 v3 (v4 + (1 : Int32)) t26)) else none
set_option maxRecDepth 20000 in
theorem w_X6_town_221 {p : Program} {l : Launch} {e : Env} {s : State} {m : MethodId} {args : Array Value} {below : List Frame} {meth : Method} {c : Code} {E : XE} (N : Nat) (hG : GG E NT 5 RX6 cX6_town p s m args c) (hr : meth.sig.returnType = (some .int)) (hk : meth.locks = false) {K161 : Nat → Int32 → Mm → Option (Int32 × Mm)} (hK161 : ∀ (a0 : Nat) (v2 : Int32) (ha0 : okO 6 a0 = true) (σ : Mm), JR E NT 5 p l e rm_X6_town s m args below meth c 0 0 (fun r => MQ below (xQi E (NT + 0) r) args s 0 0 (xA E)) 161 [(0, .ref (E.B + a0)), (2, .int v2)] [] σ (K161 a0 v2 σ)) {K169 : Nat → Int32 → Int32 → Mm → Option (Int32 × Mm)} (hK169 : ∀ (a0 : Nat) (v2 : Int32) (v3 : Int32) (ha0 : okO 6 a0 = true) (σ : Mm), JR E NT 5 p l e rm_X6_town s m args below meth c 0 0 (fun r => MQ below (xQi E (NT + 0) r) args s 0 0 (xA E)) 169 [(0, .ref (E.B + a0)), (2, .int v2), (3, .int v3)] [] σ (K169 a0 v2 v3 σ)) {K180 : Nat → Int32 → Int32 → Int32 → Mm → Option (Int32 × Mm)} (hK180 : ∀ (a0 : Nat) (v2 : Int32) (v3 : Int32) (v4 : Int32) (ha0 : okO 6 a0 = true) (σ : Mm), JR E NT 5 p l e rm_X6_town s m args below meth c 0 0 (fun r => MQ below (xQi E (NT + 0) r) args s 0 0 (xA E)) 180 [(0, .ref (E.B + a0)), (2, .int v2), (3, .int v3), (4, .int v4)] [] σ (K180 a0 v2 v3 v4 σ)) (a0 : Nat) (v2 : Int32) (v3 : Int32) (v4 : Int32) (s0 : Int32) (s1 : Int32) (s2 : Int32) (b3 : Nat) (ha0 : okO 6 a0 = true) (hb3 : okA 0 b3 = true) (σ : Mm) : JR E NT 5 p l e rm_X6_town s m args below meth c 0 0 (fun r => MQ below (xQi E (NT + 0) r) args s 0 0 (xA E)) 221 [(0, .ref (E.B + a0)), (2, .int v2), (3, .int v3), (4, .int v4)] [.int s0, .int s1, .int s2, .ref (E.B + b3)] σ (f_X6_town_221 N K161 K169 K180 a0 v2 v3 v4 s0 s1 s2 b3 σ) := by
  show JR E NT 5 p l e rm_X6_town s m args below meth c 0 0 (fun r => MQ below (xQi E (NT + 0) r) args s 0 0 (xA E)) 221 [(0, .ref (E.B + a0)), (2, .int v2), (3, .int v3), (4, .int v4)] [.int s0, .int s1, .int s2, .ref (E.B + b3)] σ (if inb s2 (arL b3) then (lt (si σ b3 (ix s2) (s1 ||| s0)) (fun t26 => K180 a0 v2 v3 (v4 + (1 : Int32)) t26)) else none)
  refine jr_ior hG dX6_town_221 ?_
  refine jr_iast hG (okA_s (by decide) hb3) (okA_l hb3) dX6_town_222 ?_
  refine jr_lets (fun t26 _ => ?_)
  refine jr_iinc (v := v4 + (1 : Int32)) (lv' := [(4, .int (v4 + (1 : Int32))), (0, .ref (E.B + a0)), (2, .int v2), (3, .int v3)]) hG 3 dX6_town_223 rfl rfl (by decide) rfl ?_
  refine jr_goto hG 180 dX6_town_226 (by decide) ?_
  refine jr_sub (lv' := [(0, .ref (E.B + a0)), (2, .int v2), (3, .int v3), (4, .int (v4 + (1 : Int32)))]) [1, 2, 3, 0] rfl ?_
  exact hK180 a0 v2 v3 (v4 + (1 : Int32)) ha0 t26
def f_X6_town_180 (N : Nat) (K161 : Nat → Int32 → Mm → Option (Int32 × Mm)) (K169 : Nat → Int32 → Int32 → Mm → Option (Int32 × Mm)) : Nat → Nat → Int32 → Int32 → Int32 → Mm → Option (Int32 × Mm)
  | 0 => fun _ _ _ _ _ => none
  | n + 1 => fun a0 v2 v3 v4 σ => if (gi σ a0 10) ≤ v4 then (K169 a0 v2 (v3 + (1 : Int32)) (σ)) else (bR (gr σ a0 12) (okA 0) (fun o21 => if inb v3 (arL o21) then (bR (gr σ a0 12) (okA 0) (fun o22 => if inb v3 (arL o22) then (bI (f_X6_has N (gi σ o22 (ix v3)) v4 (σ)) (fun r24 t23 => if r24 = 0 then (f_X6_town_221 N K161 K169 (f_X6_town_180 N K161 K169 n) a0 v2 v3 v4 (0 : Int32) (gi σ o21 (ix v3)) v3 o21 t23) else (bR (gr t23 a0 12) (okA 0) (fun o25 => if inb v4 (arL o25) then (f_X6_town_221 N K161 K169 (f_X6_town_180 N K161 K169 n) a0 v2 v3 v4 (gi t23 o25 (ix v4)) (gi σ o21 (ix v3)) v3 o21 t23) else none)))) else none)) else none))
set_option maxRecDepth 20000 in
theorem w_X6_town_180 {p : Program} {l : Launch} {e : Env} {s : State} {m : MethodId} {args : Array Value} {below : List Frame} {meth : Method} {c : Code} {E : XE} (N : Nat) (hG : GG E NT 5 RX6 cX6_town p s m args c) (hr : meth.sig.returnType = (some .int)) (hk : meth.locks = false) {K161 : Nat → Int32 → Mm → Option (Int32 × Mm)} (hK161 : ∀ (a0 : Nat) (v2 : Int32) (ha0 : okO 6 a0 = true) (σ : Mm), JR E NT 5 p l e rm_X6_town s m args below meth c 0 0 (fun r => MQ below (xQi E (NT + 0) r) args s 0 0 (xA E)) 161 [(0, .ref (E.B + a0)), (2, .int v2)] [] σ (K161 a0 v2 σ)) {K169 : Nat → Int32 → Int32 → Mm → Option (Int32 × Mm)} (hK169 : ∀ (a0 : Nat) (v2 : Int32) (v3 : Int32) (ha0 : okO 6 a0 = true) (σ : Mm), JR E NT 5 p l e rm_X6_town s m args below meth c 0 0 (fun r => MQ below (xQi E (NT + 0) r) args s 0 0 (xA E)) 169 [(0, .ref (E.B + a0)), (2, .int v2), (3, .int v3)] [] σ (K169 a0 v2 v3 σ)) : ∀ (n : Nat) (a0 : Nat) (v2 : Int32) (v3 : Int32) (v4 : Int32) (ha0 : okO 6 a0 = true) (σ : Mm), JR E NT 5 p l e rm_X6_town s m args below meth c 0 0 (fun r => MQ below (xQi E (NT + 0) r) args s 0 0 (xA E)) 180 [(0, .ref (E.B + a0)), (2, .int v2), (3, .int v3), (4, .int v4)] [] σ (f_X6_town_180 N K161 K169 n a0 v2 v3 v4 σ) := by
  intro n
  induction n with
  | zero => intro a0 v2 v3 v4 ha0 σ r hX; cases hX
  | succ n ih =>
    intro a0 v2 v3 v4 ha0 σ
    show JR E NT 5 p l e rm_X6_town s m args below meth c 0 0 (fun r => MQ below (xQi E (NT + 0) r) args s 0 0 (xA E)) 180 [(0, .ref (E.B + a0)), (2, .int v2), (3, .int v3), (4, .int v4)] [] σ (if (gi σ a0 10) ≤ v4 then (K169 a0 v2 (v3 + (1 : Int32)) (σ)) else (bR (gr σ a0 12) (okA 0) (fun o21 => if inb v3 (arL o21) then (bR (gr σ a0 12) (okA 0) (fun o22 => if inb v3 (arL o22) then (bI (f_X6_has N (gi σ o22 (ix v3)) v4 (σ)) (fun r24 t23 => if r24 = 0 then (f_X6_town_221 N K161 K169 (f_X6_town_180 N K161 K169 n) a0 v2 v3 v4 (0 : Int32) (gi σ o21 (ix v3)) v3 o21 t23) else (bR (gr t23 a0 12) (okA 0) (fun o25 => if inb v4 (arL o25) then (f_X6_town_221 N K161 K169 (f_X6_town_180 N K161 K169 n) a0 v2 v3 v4 (gi t23 o25 (ix v4)) (gi σ o21 (ix v3)) v3 o21 t23) else none)))) else none)) else none)))
    refine jr_iload hG 3 dX6_town_180 rfl ?_
    refine jr_aload_n hG 0 dX6_town_182 rfl rfl ?_
    refine jr_getI hG fi_RX6_147 rfl (okO_s ha0) (okO_l ha0) dX6_town_183 ?_
    refine jr_icmp_ge hG 229 dX6_town_186 (by decide) (fun _ => ?_) (fun _ => ?_)
    · refine jr_iinc (v := v3 + (1 : Int32)) (lv' := [(3, .int (v3 + (1 : Int32))), (0, .ref (E.B + a0)), (2, .int v2), (4, .int v4)]) hG 2 dX6_town_229 rfl rfl (by decide) rfl ?_
      refine jr_goto hG 169 dX6_town_232 (by decide) ?_
      refine jr_sub (lv' := [(0, .ref (E.B + a0)), (2, .int v2), (3, .int (v3 + (1 : Int32)))]) [1, 2, 0] rfl ?_
      exact hK169 a0 v2 (v3 + (1 : Int32)) ha0 (σ)
    · refine jr_aload_n hG 0 dX6_town_189 rfl rfl ?_
      refine jr_getR hG fi_RX6_36 rfl (okO_s ha0) (okO_l ha0) dX6_town_190 (fun o21 ho21 => ?_)
      refine jr_iload_n hG 2 dX6_town_193 rfl rfl ?_
      refine jr_dup2 hG dX6_town_194 rfl rfl ?_
      refine jr_iald hG (okA_s (by decide) ho21) (okA_l ho21) dX6_town_195 ?_
      refine jr_aload_n hG 0 dX6_town_196 rfl rfl ?_
      refine jr_getR hG fi_RX6_36 rfl (okO_s ha0) (okO_l ha0) dX6_town_197 (fun o22 ho22 => ?_)
      refine jr_iload_n hG 2 dX6_town_200 rfl rfl ?_
      refine jr_iald hG (okA_s (by decide) ho22) (okA_l ho22) dX6_town_201 ?_
      refine jr_iload hG 3 dX6_town_202 rfl ?_
      refine jr_callSi (As := [.int (gi σ o22 (ix v3)), .int v4]) hG (c_X6_has l E N (gi σ o22 (ix v3)) v4 (σ)) ci_X6_has wd_932 wd_933 ⟨rfl, rfl, Nat.le_of_ble_eq_true rfl, Nat.le_of_ble_eq_true rfl⟩ rfl rfl (Nat.le_of_ble_eq_true rfl) dX6_town_204 ⟨Nat.le_refl _, Nat.le_refl _⟩ (fun r24 t23 => ?_)
      refine jr_if_eq hG 220 dX6_town_207 (by decide) (fun _ => ?_) (fun _ => ?_)
      · refine jr_iconst (v := (0 : Int32)) hG dX6_town_220 (by decide) ?_
        exact w_X6_town_221 N hG hr hk hK161 hK169 ih a0 v2 v3 v4 (0 : Int32) (gi σ o21 (ix v3)) v3 o21 ha0 ho21 t23
      · refine jr_aload_n hG 0 dX6_town_210 rfl rfl ?_
        refine jr_getR hG fi_RX6_36 rfl (okO_s ha0) (okO_l ha0) dX6_town_211 (fun o25 ho25 => ?_)
        refine jr_iload hG 3 dX6_town_214 rfl ?_
        refine jr_iald hG (okA_s (by decide) ho25) (okA_l ho25) dX6_town_216 ?_
        refine jr_goto hG 221 dX6_town_217 (by decide) ?_
        exact w_X6_town_221 N hG hr hk hK161 hK169 ih a0 v2 v3 v4 (gi t23 o25 (ix v4)) (gi σ o21 (ix v3)) v3 o21 ha0 ho21 t23
def f_X6_town_169 (N : Nat) (K161 : Nat → Int32 → Mm → Option (Int32 × Mm)) : Nat → Nat → Int32 → Int32 → Mm → Option (Int32 × Mm)
  | 0 => fun _ _ _ _ => none
  | n + 1 => fun a0 v2 v3 σ => if (gi σ a0 10) ≤ v3 then (K161 a0 (v2 + (1 : Int32)) (σ)) else (f_X6_town_180 N K161 (f_X6_town_169 N K161 n) N a0 v2 v3 (0 : Int32) (σ))
set_option maxRecDepth 20000 in
theorem w_X6_town_169 {p : Program} {l : Launch} {e : Env} {s : State} {m : MethodId} {args : Array Value} {below : List Frame} {meth : Method} {c : Code} {E : XE} (N : Nat) (hG : GG E NT 5 RX6 cX6_town p s m args c) (hr : meth.sig.returnType = (some .int)) (hk : meth.locks = false) {K161 : Nat → Int32 → Mm → Option (Int32 × Mm)} (hK161 : ∀ (a0 : Nat) (v2 : Int32) (ha0 : okO 6 a0 = true) (σ : Mm), JR E NT 5 p l e rm_X6_town s m args below meth c 0 0 (fun r => MQ below (xQi E (NT + 0) r) args s 0 0 (xA E)) 161 [(0, .ref (E.B + a0)), (2, .int v2)] [] σ (K161 a0 v2 σ)) : ∀ (n : Nat) (a0 : Nat) (v2 : Int32) (v3 : Int32) (ha0 : okO 6 a0 = true) (σ : Mm), JR E NT 5 p l e rm_X6_town s m args below meth c 0 0 (fun r => MQ below (xQi E (NT + 0) r) args s 0 0 (xA E)) 169 [(0, .ref (E.B + a0)), (2, .int v2), (3, .int v3)] [] σ (f_X6_town_169 N K161 n a0 v2 v3 σ) := by
  intro n
  induction n with
  | zero => intro a0 v2 v3 ha0 σ r hX; cases hX
  | succ n ih =>
    intro a0 v2 v3 ha0 σ
    show JR E NT 5 p l e rm_X6_town s m args below meth c 0 0 (fun r => MQ below (xQi E (NT + 0) r) args s 0 0 (xA E)) 169 [(0, .ref (E.B + a0)), (2, .int v2), (3, .int v3)] [] σ (if (gi σ a0 10) ≤ v3 then (K161 a0 (v2 + (1 : Int32)) (σ)) else (f_X6_town_180 N K161 (f_X6_town_169 N K161 n) N a0 v2 v3 (0 : Int32) (σ)))
    refine jr_iload_n hG 2 dX6_town_169 rfl rfl ?_
    refine jr_aload_n hG 0 dX6_town_170 rfl rfl ?_
    refine jr_getI hG fi_RX6_147 rfl (okO_s ha0) (okO_l ha0) dX6_town_171 ?_
    refine jr_icmp_ge hG 235 dX6_town_174 (by decide) (fun _ => ?_) (fun _ => ?_)
    · refine jr_iinc (v := v2 + (1 : Int32)) (lv' := [(2, .int (v2 + (1 : Int32))), (0, .ref (E.B + a0)), (3, .int v3)]) hG 1 dX6_town_235 rfl rfl (by decide) rfl ?_
      refine jr_goto hG 161 dX6_town_238 (by decide) ?_
      refine jr_sub (lv' := [(0, .ref (E.B + a0)), (2, .int (v2 + (1 : Int32)))]) [1, 0] rfl ?_
      exact hK161 a0 (v2 + (1 : Int32)) ha0 (σ)
    · refine jr_iconst (v := (0 : Int32)) hG dX6_town_177 (by decide) ?_
      refine jr_istore (lv' := [(4, .int (0 : Int32)), (0, .ref (E.B + a0)), (2, .int v2), (3, .int v3)]) hG dX6_town_178 (by decide) rfl ?_
      refine jr_sub (lv' := [(0, .ref (E.B + a0)), (2, .int v2), (3, .int v3), (4, .int (0 : Int32))]) [1, 2, 3, 0] rfl ?_
      exact w_X6_town_180 N hG hr hk hK161 ih N a0 v2 v3 (0 : Int32) ha0 (σ)
def f_X6_town_161 (N : Nat)  : Nat → Nat → Int32 → Mm → Option (Int32 × Mm)
  | 0 => fun _ _ _ => none
  | n + 1 => fun a0 v2 σ => if (6 : Int32) ≤ v2 then (lt (si σ a0 22 (0 : Int32)) (fun t20 => f_X6_town_248 N N a0 (0 : Int32) t20)) else (f_X6_town_169 N (f_X6_town_161 N n) N a0 v2 (0 : Int32) (σ))
set_option maxRecDepth 20000 in
theorem w_X6_town_161 {p : Program} {l : Launch} {e : Env} {s : State} {m : MethodId} {args : Array Value} {below : List Frame} {meth : Method} {c : Code} {E : XE} (N : Nat) (hG : GG E NT 5 RX6 cX6_town p s m args c) (hr : meth.sig.returnType = (some .int)) (hk : meth.locks = false)  : ∀ (n : Nat) (a0 : Nat) (v2 : Int32) (ha0 : okO 6 a0 = true) (σ : Mm), JR E NT 5 p l e rm_X6_town s m args below meth c 0 0 (fun r => MQ below (xQi E (NT + 0) r) args s 0 0 (xA E)) 161 [(0, .ref (E.B + a0)), (2, .int v2)] [] σ (f_X6_town_161 N n a0 v2 σ) := by
  intro n
  induction n with
  | zero => intro a0 v2 ha0 σ r hX; cases hX
  | succ n ih =>
    intro a0 v2 ha0 σ
    show JR E NT 5 p l e rm_X6_town s m args below meth c 0 0 (fun r => MQ below (xQi E (NT + 0) r) args s 0 0 (xA E)) 161 [(0, .ref (E.B + a0)), (2, .int v2)] [] σ (if (6 : Int32) ≤ v2 then (lt (si σ a0 22 (0 : Int32)) (fun t20 => f_X6_town_248 N N a0 (0 : Int32) t20)) else (f_X6_town_169 N (f_X6_town_161 N n) N a0 v2 (0 : Int32) (σ)))
    refine jr_iload_n hG 1 dX6_town_161 rfl rfl ?_
    refine jr_bipush (v := (6 : Int32)) hG dX6_town_162 (by decide) ?_
    refine jr_icmp_ge hG 241 dX6_town_164 (by decide) (fun _ => ?_) (fun _ => ?_)
    · refine jr_aload_n hG 0 dX6_town_241 rfl rfl ?_
      refine jr_iconst (v := (0 : Int32)) hG dX6_town_242 (by decide) ?_
      refine jr_putI hG fi_RX6_150 rfl rfl (okO_s ha0) (okO_l ha0) dX6_town_243 ?_
      refine jr_lets (fun t20 _ => ?_)
      refine jr_iconst (v := (0 : Int32)) hG dX6_town_246 (by decide) ?_
      refine jr_istore_n (lv' := [(2, .int (0 : Int32)), (0, .ref (E.B + a0))]) hG dX6_town_247 rfl (by decide) rfl ?_
      refine jr_sub (lv' := [(0, .ref (E.B + a0)), (2, .int (0 : Int32))]) [1, 0] rfl ?_
      exact w_X6_town_248 N hG hr hk N a0 (0 : Int32) ha0 t20
    · refine jr_iconst (v := (0 : Int32)) hG dX6_town_167 (by decide) ?_
      refine jr_istore_n (lv' := [(3, .int (0 : Int32)), (0, .ref (E.B + a0)), (2, .int v2)]) hG dX6_town_168 rfl (by decide) rfl ?_
      refine jr_sub (lv' := [(0, .ref (E.B + a0)), (2, .int v2), (3, .int (0 : Int32))]) [1, 2, 0] rfl ?_
      exact w_X6_town_169 N hG hr hk ih N a0 v2 (0 : Int32) ha0 (σ)
def f_X6_town_152 (N : Nat) (K68 : Nat → Int32 → Mm → Option (Int32 × Mm)) (a0 : Nat) (v2 : Int32) (s0 : Int32) (s1 : Int32) (b2 : Nat) (σ : Mm) : Option (Int32 × Mm) := if inb s1 (arL b2) then (lt (si σ b2 (ix s1) s0) (fun t19 => K68 a0 (v2 + (1 : Int32)) t19)) else none
set_option maxRecDepth 20000 in
theorem w_X6_town_152 {p : Program} {l : Launch} {e : Env} {s : State} {m : MethodId} {args : Array Value} {below : List Frame} {meth : Method} {c : Code} {E : XE} (N : Nat) (hG : GG E NT 5 RX6 cX6_town p s m args c) (hr : meth.sig.returnType = (some .int)) (hk : meth.locks = false) {K68 : Nat → Int32 → Mm → Option (Int32 × Mm)} (hK68 : ∀ (a0 : Nat) (v2 : Int32) (ha0 : okO 6 a0 = true) (σ : Mm), JR E NT 5 p l e rm_X6_town s m args below meth c 0 0 (fun r => MQ below (xQi E (NT + 0) r) args s 0 0 (xA E)) 68 [(0, .ref (E.B + a0)), (2, .int v2)] [] σ (K68 a0 v2 σ)) (a0 : Nat) (v2 : Int32) (s0 : Int32) (s1 : Int32) (b2 : Nat) (ha0 : okO 6 a0 = true) (hb2 : okA 0 b2 = true) (σ : Mm) : JR E NT 5 p l e rm_X6_town s m args below meth c 0 0 (fun r => MQ below (xQi E (NT + 0) r) args s 0 0 (xA E)) 152 [(0, .ref (E.B + a0)), (2, .int v2)] [.int s0, .int s1, .ref (E.B + b2)] σ (f_X6_town_152 N K68 a0 v2 s0 s1 b2 σ) := by
  show JR E NT 5 p l e rm_X6_town s m args below meth c 0 0 (fun r => MQ below (xQi E (NT + 0) r) args s 0 0 (xA E)) 152 [(0, .ref (E.B + a0)), (2, .int v2)] [.int s0, .int s1, .ref (E.B + b2)] σ (if inb s1 (arL b2) then (lt (si σ b2 (ix s1) s0) (fun t19 => K68 a0 (v2 + (1 : Int32)) t19)) else none)
  refine jr_iast hG (okA_s (by decide) hb2) (okA_l hb2) dX6_town_152 ?_
  refine jr_lets (fun t19 _ => ?_)
  refine jr_iinc (v := v2 + (1 : Int32)) (lv' := [(2, .int (v2 + (1 : Int32))), (0, .ref (E.B + a0))]) hG 1 dX6_town_153 rfl rfl (by decide) rfl ?_
  refine jr_goto hG 68 dX6_town_156 (by decide) ?_
  refine jr_sub (lv' := [(0, .ref (E.B + a0)), (2, .int (v2 + (1 : Int32)))]) [1, 0] rfl ?_
  exact hK68 a0 (v2 + (1 : Int32)) ha0 t19
def f_X6_town_125 (N : Nat) (K68 : Nat → Int32 → Mm → Option (Int32 × Mm)) (a0 : Nat) (v2 : Int32) (s0 : Int32) (s1 : Int32) (b2 : Nat) (σ : Mm) : Option (Int32 × Mm) := if inb s1 (arL b2) then (lt (si σ b2 (ix s1) s0) (fun t16 => bR (gr t16 a0 19) (okA 0) (fun o17 => if (gi t16 a0 10) ≤ v2 then (f_X6_town_152 N K68 a0 v2 (0 : Int32) ((6 : Int32) + v2) o17 t16) else (bR (gr t16 a0 18) (okA 0) (fun o18 => if inb v2 (arL o18) then (f_X6_town_152 N K68 a0 v2 (gi t16 o18 (ix v2)) ((6 : Int32) + v2) o17 t16) else none))))) else none
set_option maxRecDepth 20000 in
theorem w_X6_town_125 {p : Program} {l : Launch} {e : Env} {s : State} {m : MethodId} {args : Array Value} {below : List Frame} {meth : Method} {c : Code} {E : XE} (N : Nat) (hG : GG E NT 5 RX6 cX6_town p s m args c) (hr : meth.sig.returnType = (some .int)) (hk : meth.locks = false) {K68 : Nat → Int32 → Mm → Option (Int32 × Mm)} (hK68 : ∀ (a0 : Nat) (v2 : Int32) (ha0 : okO 6 a0 = true) (σ : Mm), JR E NT 5 p l e rm_X6_town s m args below meth c 0 0 (fun r => MQ below (xQi E (NT + 0) r) args s 0 0 (xA E)) 68 [(0, .ref (E.B + a0)), (2, .int v2)] [] σ (K68 a0 v2 σ)) (a0 : Nat) (v2 : Int32) (s0 : Int32) (s1 : Int32) (b2 : Nat) (ha0 : okO 6 a0 = true) (hb2 : okA 0 b2 = true) (σ : Mm) : JR E NT 5 p l e rm_X6_town s m args below meth c 0 0 (fun r => MQ below (xQi E (NT + 0) r) args s 0 0 (xA E)) 125 [(0, .ref (E.B + a0)), (2, .int v2)] [.int s0, .int s1, .ref (E.B + b2)] σ (f_X6_town_125 N K68 a0 v2 s0 s1 b2 σ) := by
  show JR E NT 5 p l e rm_X6_town s m args below meth c 0 0 (fun r => MQ below (xQi E (NT + 0) r) args s 0 0 (xA E)) 125 [(0, .ref (E.B + a0)), (2, .int v2)] [.int s0, .int s1, .ref (E.B + b2)] σ (if inb s1 (arL b2) then (lt (si σ b2 (ix s1) s0) (fun t16 => bR (gr t16 a0 19) (okA 0) (fun o17 => if (gi t16 a0 10) ≤ v2 then (f_X6_town_152 N K68 a0 v2 (0 : Int32) ((6 : Int32) + v2) o17 t16) else (bR (gr t16 a0 18) (okA 0) (fun o18 => if inb v2 (arL o18) then (f_X6_town_152 N K68 a0 v2 (gi t16 o18 (ix v2)) ((6 : Int32) + v2) o17 t16) else none))))) else none)
  refine jr_iast hG (okA_s (by decide) hb2) (okA_l hb2) dX6_town_125 ?_
  refine jr_lets (fun t16 _ => ?_)
  refine jr_aload_n hG 0 dX6_town_126 rfl rfl ?_
  refine jr_getR hG fi_RX6_48 rfl (okO_s ha0) (okO_l ha0) dX6_town_127 (fun o17 ho17 => ?_)
  refine jr_bipush (v := (6 : Int32)) hG dX6_town_130 (by decide) ?_
  refine jr_iload_n hG 1 dX6_town_132 rfl rfl ?_
  refine jr_iadd hG dX6_town_133 ?_
  refine jr_iload_n hG 1 dX6_town_134 rfl rfl ?_
  refine jr_aload_n hG 0 dX6_town_135 rfl rfl ?_
  refine jr_getI hG fi_RX6_147 rfl (okO_s ha0) (okO_l ha0) dX6_town_136 ?_
  refine jr_icmp_ge hG 151 dX6_town_139 (by decide) (fun _ => ?_) (fun _ => ?_)
  · refine jr_iconst (v := (0 : Int32)) hG dX6_town_151 (by decide) ?_
    exact w_X6_town_152 N hG hr hk hK68 a0 v2 (0 : Int32) ((6 : Int32) + v2) o17 ha0 ho17 t16
  · refine jr_aload_n hG 0 dX6_town_142 rfl rfl ?_
    refine jr_getR hG fi_RX6_45 rfl (okO_s ha0) (okO_l ha0) dX6_town_143 (fun o18 ho18 => ?_)
    refine jr_iload_n hG 1 dX6_town_146 rfl rfl ?_
    refine jr_iald hG (okA_s (by decide) ho18) (okA_l ho18) dX6_town_147 ?_
    refine jr_goto hG 152 dX6_town_148 (by decide) ?_
    exact w_X6_town_152 N hG hr hk hK68 a0 v2 (gi t16 o18 (ix v2)) ((6 : Int32) + v2) o17 ha0 ho17 t16
def f_X6_town_97 (N : Nat) (K68 : Nat → Int32 → Mm → Option (Int32 × Mm)) (a0 : Nat) (v2 : Int32) (s0 : Int32) (s1 : Int32) (b2 : Nat) (σ : Mm) : Option (Int32 × Mm) := if inb s1 (arL b2) then (lt (si σ b2 (ix s1) s0) (fun t13 => bR (gr t13 a0 12) (okA 0) (fun o14 => if (gi t13 a0 10) ≤ v2 then (f_X6_town_125 N K68 a0 v2 (0 : Int32) v2 o14 t13) else (bR (gr t13 a0 17) (okA 0) (fun o15 => if inb v2 (arL o15) then (f_X6_town_125 N K68 a0 v2 ((gi t13 o15 (ix v2)) ||| ((1 : Int32) <<< (v2 &&& 31))) v2 o14 t13) else none))))) else none
set_option maxRecDepth 20000 in
theorem w_X6_town_97 {p : Program} {l : Launch} {e : Env} {s : State} {m : MethodId} {args : Array Value} {below : List Frame} {meth : Method} {c : Code} {E : XE} (N : Nat) (hG : GG E NT 5 RX6 cX6_town p s m args c) (hr : meth.sig.returnType = (some .int)) (hk : meth.locks = false) {K68 : Nat → Int32 → Mm → Option (Int32 × Mm)} (hK68 : ∀ (a0 : Nat) (v2 : Int32) (ha0 : okO 6 a0 = true) (σ : Mm), JR E NT 5 p l e rm_X6_town s m args below meth c 0 0 (fun r => MQ below (xQi E (NT + 0) r) args s 0 0 (xA E)) 68 [(0, .ref (E.B + a0)), (2, .int v2)] [] σ (K68 a0 v2 σ)) (a0 : Nat) (v2 : Int32) (s0 : Int32) (s1 : Int32) (b2 : Nat) (ha0 : okO 6 a0 = true) (hb2 : okA 0 b2 = true) (σ : Mm) : JR E NT 5 p l e rm_X6_town s m args below meth c 0 0 (fun r => MQ below (xQi E (NT + 0) r) args s 0 0 (xA E)) 97 [(0, .ref (E.B + a0)), (2, .int v2)] [.int s0, .int s1, .ref (E.B + b2)] σ (f_X6_town_97 N K68 a0 v2 s0 s1 b2 σ) := by
  show JR E NT 5 p l e rm_X6_town s m args below meth c 0 0 (fun r => MQ below (xQi E (NT + 0) r) args s 0 0 (xA E)) 97 [(0, .ref (E.B + a0)), (2, .int v2)] [.int s0, .int s1, .ref (E.B + b2)] σ (if inb s1 (arL b2) then (lt (si σ b2 (ix s1) s0) (fun t13 => bR (gr t13 a0 12) (okA 0) (fun o14 => if (gi t13 a0 10) ≤ v2 then (f_X6_town_125 N K68 a0 v2 (0 : Int32) v2 o14 t13) else (bR (gr t13 a0 17) (okA 0) (fun o15 => if inb v2 (arL o15) then (f_X6_town_125 N K68 a0 v2 ((gi t13 o15 (ix v2)) ||| ((1 : Int32) <<< (v2 &&& 31))) v2 o14 t13) else none))))) else none)
  refine jr_iast hG (okA_s (by decide) hb2) (okA_l hb2) dX6_town_97 ?_
  refine jr_lets (fun t13 _ => ?_)
  refine jr_aload_n hG 0 dX6_town_98 rfl rfl ?_
  refine jr_getR hG fi_RX6_36 rfl (okO_s ha0) (okO_l ha0) dX6_town_99 (fun o14 ho14 => ?_)
  refine jr_iload_n hG 1 dX6_town_102 rfl rfl ?_
  refine jr_iload_n hG 1 dX6_town_103 rfl rfl ?_
  refine jr_aload_n hG 0 dX6_town_104 rfl rfl ?_
  refine jr_getI hG fi_RX6_147 rfl (okO_s ha0) (okO_l ha0) dX6_town_105 ?_
  refine jr_icmp_ge hG 124 dX6_town_108 (by decide) (fun _ => ?_) (fun _ => ?_)
  · refine jr_iconst (v := (0 : Int32)) hG dX6_town_124 (by decide) ?_
    exact w_X6_town_125 N hG hr hk hK68 a0 v2 (0 : Int32) v2 o14 ha0 ho14 t13
  · refine jr_aload_n hG 0 dX6_town_111 rfl rfl ?_
    refine jr_getR hG fi_RX6_42 rfl (okO_s ha0) (okO_l ha0) dX6_town_112 (fun o15 ho15 => ?_)
    refine jr_iload_n hG 1 dX6_town_115 rfl rfl ?_
    refine jr_iald hG (okA_s (by decide) ho15) (okA_l ho15) dX6_town_116 ?_
    refine jr_iconst (v := (1 : Int32)) hG dX6_town_117 (by decide) ?_
    refine jr_iload_n hG 1 dX6_town_118 rfl rfl ?_
    refine jr_ishl hG dX6_town_119 ?_
    refine jr_ior hG dX6_town_120 ?_
    refine jr_goto hG 125 dX6_town_121 (by decide) ?_
    exact w_X6_town_125 N hG hr hk hK68 a0 v2 ((gi t13 o15 (ix v2)) ||| ((1 : Int32) <<< (v2 &&& 31))) v2 o14 ha0 ho14 t13
def f_X6_town_68 (N : Nat)  : Nat → Nat → Int32 → Mm → Option (Int32 × Mm)
  | 0 => fun _ _ _ => none
  | n + 1 => fun a0 v2 σ => if (6 : Int32) ≤ v2 then (f_X6_town_161 N N a0 (0 : Int32) (σ)) else (bR (gr σ a0 11) (okA 0) (fun o11 => if (gi σ a0 10) ≤ v2 then (f_X6_town_97 N (f_X6_town_68 N n) a0 v2 (0 : Int32) v2 o11 (σ)) else (bR (gr σ a0 16) (okA 0) (fun o12 => if inb v2 (arL o12) then (f_X6_town_97 N (f_X6_town_68 N n) a0 v2 (gi σ o12 (ix v2)) v2 o11 (σ)) else none))))
set_option maxRecDepth 20000 in
theorem w_X6_town_68 {p : Program} {l : Launch} {e : Env} {s : State} {m : MethodId} {args : Array Value} {below : List Frame} {meth : Method} {c : Code} {E : XE} (N : Nat) (hG : GG E NT 5 RX6 cX6_town p s m args c) (hr : meth.sig.returnType = (some .int)) (hk : meth.locks = false)  : ∀ (n : Nat) (a0 : Nat) (v2 : Int32) (ha0 : okO 6 a0 = true) (σ : Mm), JR E NT 5 p l e rm_X6_town s m args below meth c 0 0 (fun r => MQ below (xQi E (NT + 0) r) args s 0 0 (xA E)) 68 [(0, .ref (E.B + a0)), (2, .int v2)] [] σ (f_X6_town_68 N n a0 v2 σ) := by
  intro n
  induction n with
  | zero => intro a0 v2 ha0 σ r hX; cases hX
  | succ n ih =>
    intro a0 v2 ha0 σ
    show JR E NT 5 p l e rm_X6_town s m args below meth c 0 0 (fun r => MQ below (xQi E (NT + 0) r) args s 0 0 (xA E)) 68 [(0, .ref (E.B + a0)), (2, .int v2)] [] σ (if (6 : Int32) ≤ v2 then (f_X6_town_161 N N a0 (0 : Int32) (σ)) else (bR (gr σ a0 11) (okA 0) (fun o11 => if (gi σ a0 10) ≤ v2 then (f_X6_town_97 N (f_X6_town_68 N n) a0 v2 (0 : Int32) v2 o11 (σ)) else (bR (gr σ a0 16) (okA 0) (fun o12 => if inb v2 (arL o12) then (f_X6_town_97 N (f_X6_town_68 N n) a0 v2 (gi σ o12 (ix v2)) v2 o11 (σ)) else none)))))
    refine jr_iload_n hG 1 dX6_town_68 rfl rfl ?_
    refine jr_bipush (v := (6 : Int32)) hG dX6_town_69 (by decide) ?_
    refine jr_icmp_ge hG 159 dX6_town_71 (by decide) (fun _ => ?_) (fun _ => ?_)
    · refine jr_iconst (v := (0 : Int32)) hG dX6_town_159 (by decide) ?_
      refine jr_istore_n (lv' := [(2, .int (0 : Int32)), (0, .ref (E.B + a0))]) hG dX6_town_160 rfl (by decide) rfl ?_
      refine jr_sub (lv' := [(0, .ref (E.B + a0)), (2, .int (0 : Int32))]) [1, 0] rfl ?_
      exact w_X6_town_161 N hG hr hk N a0 (0 : Int32) ha0 (σ)
    · refine jr_aload_n hG 0 dX6_town_74 rfl rfl ?_
      refine jr_getR hG fi_RX6_33 rfl (okO_s ha0) (okO_l ha0) dX6_town_75 (fun o11 ho11 => ?_)
      refine jr_iload_n hG 1 dX6_town_78 rfl rfl ?_
      refine jr_iload_n hG 1 dX6_town_79 rfl rfl ?_
      refine jr_aload_n hG 0 dX6_town_80 rfl rfl ?_
      refine jr_getI hG fi_RX6_147 rfl (okO_s ha0) (okO_l ha0) dX6_town_81 ?_
      refine jr_icmp_ge hG 96 dX6_town_84 (by decide) (fun _ => ?_) (fun _ => ?_)
      · refine jr_iconst (v := (0 : Int32)) hG dX6_town_96 (by decide) ?_
        exact w_X6_town_97 N hG hr hk ih a0 v2 (0 : Int32) v2 o11 ha0 ho11 (σ)
      · refine jr_aload_n hG 0 dX6_town_87 rfl rfl ?_
        refine jr_getR hG fi_RX6_39 rfl (okO_s ha0) (okO_l ha0) dX6_town_88 (fun o12 ho12 => ?_)
        refine jr_iload_n hG 1 dX6_town_91 rfl rfl ?_
        refine jr_iald hG (okA_s (by decide) ho12) (okA_l ho12) dX6_town_92 ?_
        refine jr_goto hG 97 dX6_town_93 (by decide) ?_
        exact w_X6_town_97 N hG hr hk ih a0 v2 (gi σ o12 (ix v2)) v2 o11 ha0 ho11 (σ)
def f_X6_town_47 (N : Nat)  : Nat → Nat → Int32 → Mm → Option (Int32 × Mm)
  | 0 => fun _ _ _ => none
  | n + 1 => fun a0 v2 σ => if (14 : Int32) ≤ v2 then (f_X6_town_68 N N a0 (0 : Int32) (σ)) else (bR (gr σ a0 19) (okA 0) (fun o9 => if inb v2 (arL o9) then (lt (si σ o9 (ix v2) (0 : Int32)) (fun t10 => f_X6_town_47 N n a0 (v2 + (1 : Int32)) t10)) else none))
set_option maxRecDepth 20000 in
theorem w_X6_town_47 {p : Program} {l : Launch} {e : Env} {s : State} {m : MethodId} {args : Array Value} {below : List Frame} {meth : Method} {c : Code} {E : XE} (N : Nat) (hG : GG E NT 5 RX6 cX6_town p s m args c) (hr : meth.sig.returnType = (some .int)) (hk : meth.locks = false)  : ∀ (n : Nat) (a0 : Nat) (v2 : Int32) (ha0 : okO 6 a0 = true) (σ : Mm), JR E NT 5 p l e rm_X6_town s m args below meth c 0 0 (fun r => MQ below (xQi E (NT + 0) r) args s 0 0 (xA E)) 47 [(0, .ref (E.B + a0)), (2, .int v2)] [] σ (f_X6_town_47 N n a0 v2 σ) := by
  intro n
  induction n with
  | zero => intro a0 v2 ha0 σ r hX; cases hX
  | succ n ih =>
    intro a0 v2 ha0 σ
    show JR E NT 5 p l e rm_X6_town s m args below meth c 0 0 (fun r => MQ below (xQi E (NT + 0) r) args s 0 0 (xA E)) 47 [(0, .ref (E.B + a0)), (2, .int v2)] [] σ (if (14 : Int32) ≤ v2 then (f_X6_town_68 N N a0 (0 : Int32) (σ)) else (bR (gr σ a0 19) (okA 0) (fun o9 => if inb v2 (arL o9) then (lt (si σ o9 (ix v2) (0 : Int32)) (fun t10 => f_X6_town_47 N n a0 (v2 + (1 : Int32)) t10)) else none)))
    refine jr_iload_n hG 1 dX6_town_47 rfl rfl ?_
    refine jr_bipush (v := (14 : Int32)) hG dX6_town_48 (by decide) ?_
    refine jr_icmp_ge hG 66 dX6_town_50 (by decide) (fun _ => ?_) (fun _ => ?_)
    · refine jr_iconst (v := (0 : Int32)) hG dX6_town_66 (by decide) ?_
      refine jr_istore_n (lv' := [(2, .int (0 : Int32)), (0, .ref (E.B + a0))]) hG dX6_town_67 rfl (by decide) rfl ?_
      refine jr_sub (lv' := [(0, .ref (E.B + a0)), (2, .int (0 : Int32))]) [1, 0] rfl ?_
      exact w_X6_town_68 N hG hr hk N a0 (0 : Int32) ha0 (σ)
    · refine jr_aload_n hG 0 dX6_town_53 rfl rfl ?_
      refine jr_getR hG fi_RX6_48 rfl (okO_s ha0) (okO_l ha0) dX6_town_54 (fun o9 ho9 => ?_)
      refine jr_iload_n hG 1 dX6_town_57 rfl rfl ?_
      refine jr_iconst (v := (0 : Int32)) hG dX6_town_58 (by decide) ?_
      refine jr_iast hG (okA_s (by decide) ho9) (okA_l ho9) dX6_town_59 ?_
      refine jr_lets (fun t10 _ => ?_)
      refine jr_iinc (v := v2 + (1 : Int32)) (lv' := [(2, .int (v2 + (1 : Int32))), (0, .ref (E.B + a0))]) hG 1 dX6_town_60 rfl rfl (by decide) rfl ?_
      refine jr_goto hG 47 dX6_town_63 (by decide) ?_
      refine jr_sub (lv' := [(0, .ref (E.B + a0)), (2, .int (v2 + (1 : Int32)))]) [1, 0] rfl ?_
      exact ih a0 (v2 + (1 : Int32)) ha0 t10
def f_X6_town (N : Nat) (a0 : Nat) (v1 : Int32) (σ : Mm) : Option (Int32 × Mm) := if okO 6 a0 then (bI (f_X6_isText N v1 (σ)) (fun r2 t1 => if r2 = 0 then (some ((-1 : Int32), t1)) else (bR (gr t1 a0 8) (okA 0) (fun o3 => if inb v1 (arL o3) then (if 0 ≤ (gi t1 o3 (ix v1)) then (bI (f_X6_faultOf N a0 v1 t1) (fun r5 t4 => if r5 = (-9 : Int32) then (lt (si t4 a0 10 (gi t4 a0 14)) (fun t6 => f_X6_town_47 N N a0 (0 : Int32) t6)) else (some ((-4 : Int32), t4)))) else (bI (f_X6_meets N a0 (1 : Int32) t1) (fun r8 t7 => some (r8, t7)))) else none)))) else none
set_option maxRecDepth 20000 in
theorem c_X6_town (l : Launch) (E : XE) (N : Nat) (a0 : Nat) (v1 : Int32) (σ : Mm) : ∀ r0, f_X6_town N a0 v1 σ = some r0 → Met l yX6_town [Cond.code yX6_town cX6_town 5 (some .int)] rm_X6_town (xPc E (NT + 0) σ [.ref (E.B + a0), .int v1]) (xQi E (NT + 0) r0) 0 0 (xA E) := by
  refine met_of (N0 := NT) (by decide +kernel) (Nat.le_of_ble_eq_true rfl) ?_
  intro p e s m args below meth c hG hr hk _
  show JR E NT 5 p l e rm_X6_town s m args below meth c 0 0 (fun r => MQ below (xQi E (NT + 0) r) args s 0 0 (xA E)) 0 [(0, .ref (E.B + a0)), (1, .int v1)] [] σ (if okO 6 a0 then (bI (f_X6_isText N v1 (σ)) (fun r2 t1 => if r2 = 0 then (some ((-1 : Int32), t1)) else (bR (gr t1 a0 8) (okA 0) (fun o3 => if inb v1 (arL o3) then (if 0 ≤ (gi t1 o3 (ix v1)) then (bI (f_X6_faultOf N a0 v1 t1) (fun r5 t4 => if r5 = (-9 : Int32) then (lt (si t4 a0 10 (gi t4 a0 14)) (fun t6 => f_X6_town_47 N N a0 (0 : Int32) t6)) else (some ((-4 : Int32), t4)))) else (bI (f_X6_meets N a0 (1 : Int32) t1) (fun r8 t7 => some (r8, t7)))) else none)))) else none)
  refine jr_guard (fun ha0 => ?_)
  refine jr_iload_n hG 1 dX6_town_0 rfl rfl ?_
  refine jr_callSi (As := [.int v1]) hG (c_X6_isText l E N v1 (σ)) ci_X6_isText wd_905 wd_906 ⟨rfl, rfl, Nat.le_of_ble_eq_true rfl, Nat.le_of_ble_eq_true rfl⟩ rfl rfl (Nat.le_of_ble_eq_true rfl) dX6_town_1 ⟨Nat.le_refl _, Nat.le_refl _⟩ (fun r2 t1 => ?_)
  refine jr_if_ne hG 9 dX6_town_4 (by decide) (fun _ => ?_) (fun _ => ?_)
  · refine jr_aload_n hG 0 dX6_town_9 rfl rfl ?_
    refine jr_getR hG fi_RX6_26 rfl (okO_s ha0) (okO_l ha0) dX6_town_10 (fun o3 ho3 => ?_)
    refine jr_iload_n hG 1 dX6_town_13 rfl rfl ?_
    refine jr_iald hG (okA_s (by decide) ho3) (okA_l ho3) dX6_town_14 ?_
    refine jr_if_ge hG 24 dX6_town_15 (by decide) (fun _ => ?_) (fun _ => ?_)
    · refine jr_aload_n hG 0 dX6_town_24 rfl rfl ?_
      refine jr_iload_n hG 1 dX6_town_25 rfl rfl ?_
      refine jr_callVi (As := [.int v1]) hG (c_X6_faultOf l E N a0 v1 t1) ci_X6_faultOf wd_916 ⟨wd_918, wd_24⟩ cl_6 (okO_s ha0) (okO_l ha0) ⟨rfl, rfl, Nat.le_of_ble_eq_true rfl, Nat.le_of_ble_eq_true rfl⟩ rfl rfl (Nat.le_of_ble_eq_true rfl) dX6_town_26 ⟨Nat.le_refl _, Nat.le_refl _⟩ (fun r5 t4 => ?_)
      refine jr_bipush (v := (-9 : Int32)) hG dX6_town_29 (by decide) ?_
      refine jr_icmp_eq hG 37 dX6_town_31 (by decide) (fun _ => ?_) (fun _ => ?_)
      · refine jr_aload_n hG 0 dX6_town_37 rfl rfl ?_
        refine jr_aload_n hG 0 dX6_town_38 rfl rfl ?_
        refine jr_getI hG fi_RX6_114 rfl (okO_s ha0) (okO_l ha0) dX6_town_39 ?_
        refine jr_putI hG fi_RX6_147 rfl rfl (okO_s ha0) (okO_l ha0) dX6_town_42 ?_
        refine jr_lets (fun t6 _ => ?_)
        refine jr_iconst (v := (0 : Int32)) hG dX6_town_45 (by decide) ?_
        refine jr_istore_n (lv' := [(2, .int (0 : Int32)), (0, .ref (E.B + a0)), (1, .int v1)]) hG dX6_town_46 rfl (by decide) rfl ?_
        refine jr_sub (lv' := [(0, .ref (E.B + a0)), (2, .int (0 : Int32))]) [1, 0] rfl ?_
        exact w_X6_town_47 N hG hr hk N a0 (0 : Int32) ha0 t6
      · refine jr_bipush (v := (-4 : Int32)) hG dX6_town_34 (by decide) ?_
        exact jr_iret hG hr hk dX6_town_36
    · refine jr_aload_n hG 0 dX6_town_18 rfl rfl ?_
      refine jr_iconst (v := (1 : Int32)) hG dX6_town_19 (by decide) ?_
      refine jr_callVi (As := [.int (1 : Int32)]) hG (c_X6_meets l E N a0 (1 : Int32) t1) ci_X6_meets wd_869 ⟨wd_871, wd_21⟩ cl_6 (okO_s ha0) (okO_l ha0) ⟨rfl, rfl, Nat.le_of_ble_eq_true rfl, Nat.le_of_ble_eq_true rfl⟩ rfl rfl (Nat.le_of_ble_eq_true rfl) dX6_town_20 ⟨Nat.le_refl _, Nat.le_refl _⟩ (fun r8 t7 => ?_)
      exact jr_iret hG hr hk dX6_town_23
  · refine jr_iconst (v := (-1 : Int32)) hG dX6_town_7 (by decide) ?_
    exact jr_iret hG hr hk dX6_town_8
