-- TonguesDealt$Row.mixInto(J)J
abbrev rm_X3_mixInto : Room := { frames := 0, cells := 0, slots := 0, locals := 0 }
theorem ci_X3_mixInto : CIx yX3_mixInto cX3_mixInto 4 (some .long) 1 := ⟨wd_722, wd_75, by decide +kernel⟩
def f_X3_mixInto_14 (N : Nat)  : Nat → Nat → Int64 → Int32 → Mm → Option (Int64 × Mm)
  | 0 => fun _ _ _ _ => none
  | n + 1 => fun a0 v1 v3 σ => if (gi σ a0 1) ≤ v3 then (some (v1, σ)) else (bR (gr σ a0 0) (okA 0) (fun o2 => if inb v3 (arL o2) then (lt (((31 : Int64) * v1) + ((gi σ o2 (ix v3)).toInt64)) (fun x3 => f_X3_mixInto_14 N n a0 x3 (v3 + (1 : Int32)) (σ))) else none))
set_option maxRecDepth 20000 in
theorem w_X3_mixInto_14 {p : Program} {l : Launch} {e : Env} {s : State} {m : MethodId} {args : Array Value} {below : List Frame} {meth : Method} {c : Code} {E : XE} (N : Nat) (hG : GG E NT 4 RX3 cX3_mixInto p s m args c) (hr : meth.sig.returnType = (some .long)) (hk : meth.locks = false)  : ∀ (n : Nat) (a0 : Nat) (v1 : Int64) (v3 : Int32) (ha0 : okO 3 a0 = true) (σ : Mm), JR E NT 4 p l e rm_X3_mixInto s m args below meth c 0 0 (fun r => MQ below (xQl E (NT + 0) r) args s 0 0 (xA E)) 14 [(0, .ref (E.B + a0)), (1, .long v1), (3, .int v3)] [] σ (f_X3_mixInto_14 N n a0 v1 v3 σ) := by
  intro n
  induction n with
  | zero => intro a0 v1 v3 ha0 σ r hX; cases hX
  | succ n ih =>
    intro a0 v1 v3 ha0 σ
    show JR E NT 4 p l e rm_X3_mixInto s m args below meth c 0 0 (fun r => MQ below (xQl E (NT + 0) r) args s 0 0 (xA E)) 14 [(0, .ref (E.B + a0)), (1, .long v1), (3, .int v3)] [] σ (if (gi σ a0 1) ≤ v3 then (some (v1, σ)) else (bR (gr σ a0 0) (okA 0) (fun o2 => if inb v3 (arL o2) then (lt (((31 : Int64) * v1) + ((gi σ o2 (ix v3)).toInt64)) (fun x3 => f_X3_mixInto_14 N n a0 x3 (v3 + (1 : Int32)) (σ))) else none)))
    refine jr_iload_n hG 2 dX3_mixInto_14 rfl rfl ?_
    refine jr_aload_n hG 0 dX3_mixInto_15 rfl rfl ?_
    refine jr_getI hG fi_RX3_15 rfl (okO_s ha0) (okO_l ha0) dX3_mixInto_16 ?_
    refine jr_icmp_ge hG 42 dX3_mixInto_19 (by decide) (fun _ => ?_) (fun _ => ?_)
    · refine jr_lload_n hG 1 dX3_mixInto_42 rfl rfl ?_
      exact jr_lret hG hr hk dX3_mixInto_43
    · refine jr_ldc2 (v := (31 : Int64)) hG wd_723 dX3_mixInto_22 ?_
      refine jr_lload_n hG 1 dX3_mixInto_25 rfl rfl ?_
      refine jr_lmul hG dX3_mixInto_26 ?_
      refine jr_aload_n hG 0 dX3_mixInto_27 rfl rfl ?_
      refine jr_getR hG fi_RX3_9 rfl (okO_s ha0) (okO_l ha0) dX3_mixInto_28 (fun o2 ho2 => ?_)
      refine jr_iload_n hG 2 dX3_mixInto_31 rfl rfl ?_
      refine jr_iald hG (okA_s (by decide) ho2) (okA_l ho2) dX3_mixInto_32 ?_
      refine jr_i2l hG dX3_mixInto_33 ?_
      refine jr_ladd hG dX3_mixInto_34 ?_
      refine jr_letl (fun x3 _ => ?_)
      refine jr_lstore_n (lv' := [(1, .long x3), (0, .ref (E.B + a0)), (3, .int v3)]) hG dX3_mixInto_35 rfl (by decide) rfl ?_
      refine jr_iinc (v := v3 + (1 : Int32)) (lv' := [(3, .int (v3 + (1 : Int32))), (1, .long x3), (0, .ref (E.B + a0))]) hG 2 dX3_mixInto_36 rfl rfl (by decide) rfl ?_
      refine jr_goto hG 14 dX3_mixInto_39 (by decide) ?_
      refine jr_sub (lv' := [(0, .ref (E.B + a0)), (1, .long x3), (3, .int (v3 + (1 : Int32)))]) [2, 1, 0] rfl ?_
      exact ih a0 x3 (v3 + (1 : Int32)) ha0 (σ)
def f_X3_mixInto (N : Nat) (a0 : Nat) (v1 : Int64) (σ : Mm) : Option (Int64 × Mm) := if okO 3 a0 then (lt (((31 : Int64) * v1) + ((gi σ a0 1).toInt64)) (fun x1 => f_X3_mixInto_14 N N a0 x1 (0 : Int32) (σ))) else none
set_option maxRecDepth 20000 in
theorem c_X3_mixInto (l : Launch) (E : XE) (N : Nat) (a0 : Nat) (v1 : Int64) (σ : Mm) : ∀ r0, f_X3_mixInto N a0 v1 σ = some r0 → Met l yX3_mixInto [Cond.code yX3_mixInto cX3_mixInto 4 (some .long)] rm_X3_mixInto (xPc E (NT + 0) σ [.ref (E.B + a0), .long v1]) (xQl E (NT + 0) r0) 0 0 (xA E) := by
  refine met_of (N0 := NT) (by decide +kernel) (Nat.le_of_ble_eq_true rfl) ?_
  intro p e s m args below meth c hG hr hk _
  show JR E NT 4 p l e rm_X3_mixInto s m args below meth c 0 0 (fun r => MQ below (xQl E (NT + 0) r) args s 0 0 (xA E)) 0 [(0, .ref (E.B + a0)), (1, .long v1)] [] σ (if okO 3 a0 then (lt (((31 : Int64) * v1) + ((gi σ a0 1).toInt64)) (fun x1 => f_X3_mixInto_14 N N a0 x1 (0 : Int32) (σ))) else none)
  refine jr_guard (fun ha0 => ?_)
  refine jr_ldc2 (v := (31 : Int64)) hG wd_723 dX3_mixInto_0 ?_
  refine jr_lload_n hG 1 dX3_mixInto_3 rfl rfl ?_
  refine jr_lmul hG dX3_mixInto_4 ?_
  refine jr_aload_n hG 0 dX3_mixInto_5 rfl rfl ?_
  refine jr_getI hG fi_RX3_15 rfl (okO_s ha0) (okO_l ha0) dX3_mixInto_6 ?_
  refine jr_i2l hG dX3_mixInto_9 ?_
  refine jr_ladd hG dX3_mixInto_10 ?_
  refine jr_letl (fun x1 _ => ?_)
  refine jr_lstore_n (lv' := [(1, .long x1), (0, .ref (E.B + a0))]) hG dX3_mixInto_11 rfl (by decide) rfl ?_
  refine jr_iconst (v := (0 : Int32)) hG dX3_mixInto_12 (by decide) ?_
  refine jr_istore_n (lv' := [(3, .int (0 : Int32)), (1, .long x1), (0, .ref (E.B + a0))]) hG dX3_mixInto_13 rfl (by decide) rfl ?_
  refine jr_sub (lv' := [(0, .ref (E.B + a0)), (1, .long x1), (3, .int (0 : Int32))]) [2, 1, 0] rfl ?_
  exact w_X3_mixInto_14 N hG hr hk N a0 x1 (0 : Int32) ha0 (σ)
-- TonguesDealt$Text.begin(I)V
abbrev rm_X4_begin : Room := { frames := 0, cells := 0, slots := 0, locals := 0 }
theorem ci_X4_begin : CIx yX4_begin cX4_begin 3 none 1 := ⟨wd_329, wd_76, by decide +kernel⟩
def f_X4_begin_7 (N : Nat)  : Nat → Nat → Int32 → Int32 → Mm → Option (Mm)
  | 0 => fun _ _ _ _ => none
  | n + 1 => fun a0 v1 v2 σ => if v1 ≤ v2 then (some (σ)) else (bR (gr σ a0 0) (okA 1) (fun o2 => if inb v2 (arL o2) then (lt (si σ o2 (ix v2) ((32 : Int32).toInt8.toInt32)) (fun t3 => f_X4_begin_7 N n a0 v1 (v2 + (1 : Int32)) t3)) else none))
set_option maxRecDepth 20000 in
theorem w_X4_begin_7 {p : Program} {l : Launch} {e : Env} {s : State} {m : MethodId} {args : Array Value} {below : List Frame} {meth : Method} {c : Code} {E : XE} (N : Nat) (hG : GG E NT 3 RX4 cX4_begin p s m args c) (hr : meth.sig.returnType = none) (hk : meth.locks = false)  : ∀ (n : Nat) (a0 : Nat) (v1 : Int32) (v2 : Int32) (ha0 : okO 4 a0 = true) (σ : Mm), JR E NT 3 p l e rm_X4_begin s m args below meth c 0 0 (fun r => MQ below (xQv E (NT + 0) r) args s 0 0 (xA E)) 7 [(0, .ref (E.B + a0)), (1, .int v1), (2, .int v2)] [] σ (f_X4_begin_7 N n a0 v1 v2 σ) := by
  intro n
  induction n with
  | zero => intro a0 v1 v2 ha0 σ r hX; cases hX
  | succ n ih =>
    intro a0 v1 v2 ha0 σ
    show JR E NT 3 p l e rm_X4_begin s m args below meth c 0 0 (fun r => MQ below (xQv E (NT + 0) r) args s 0 0 (xA E)) 7 [(0, .ref (E.B + a0)), (1, .int v1), (2, .int v2)] [] σ (if v1 ≤ v2 then (some (σ)) else (bR (gr σ a0 0) (okA 1) (fun o2 => if inb v2 (arL o2) then (lt (si σ o2 (ix v2) ((32 : Int32).toInt8.toInt32)) (fun t3 => f_X4_begin_7 N n a0 v1 (v2 + (1 : Int32)) t3)) else none)))
    refine jr_iload_n hG 2 dX4_begin_7 rfl rfl ?_
    refine jr_iload_n hG 1 dX4_begin_8 rfl rfl ?_
    refine jr_icmp_ge hG 26 dX4_begin_9 (by decide) (fun _ => ?_) (fun _ => ?_)
    · exact jr_vret hG hr hk dX4_begin_26
    · refine jr_aload_n hG 0 dX4_begin_12 rfl rfl ?_
      refine jr_getR hG fi_RX4_9 rfl (okO_s ha0) (okO_l ha0) dX4_begin_13 (fun o2 ho2 => ?_)
      refine jr_iload_n hG 2 dX4_begin_16 rfl rfl ?_
      refine jr_bipush (v := (32 : Int32)) hG dX4_begin_17 (by decide) ?_
      refine jr_bast hG (okA_s (by decide) ho2) (okA_l ho2) dX4_begin_19 ?_
      refine jr_lets (fun t3 _ => ?_)
      refine jr_iinc (v := v2 + (1 : Int32)) (lv' := [(2, .int (v2 + (1 : Int32))), (0, .ref (E.B + a0)), (1, .int v1)]) hG 2 dX4_begin_20 rfl rfl (by decide) rfl ?_
      refine jr_goto hG 7 dX4_begin_23 (by decide) ?_
      refine jr_sub (lv' := [(0, .ref (E.B + a0)), (1, .int v1), (2, .int (v2 + (1 : Int32)))]) [1, 2, 0] rfl ?_
      exact ih a0 v1 (v2 + (1 : Int32)) ha0 t3
def f_X4_begin (N : Nat) (a0 : Nat) (v1 : Int32) (σ : Mm) : Option (Mm) := if okO 4 a0 then (lt (si σ a0 1 v1) (fun t1 => f_X4_begin_7 N N a0 v1 (0 : Int32) t1)) else none
set_option maxRecDepth 20000 in
theorem c_X4_begin (l : Launch) (E : XE) (N : Nat) (a0 : Nat) (v1 : Int32) (σ : Mm) : ∀ r0, f_X4_begin N a0 v1 σ = some r0 → Met l yX4_begin [Cond.code yX4_begin cX4_begin 3 none] rm_X4_begin (xPc E (NT + 0) σ [.ref (E.B + a0), .int v1]) (xQv E (NT + 0) r0) 0 0 (xA E) := by
  refine met_of (N0 := NT) (by decide +kernel) (Nat.le_of_ble_eq_true rfl) ?_
  intro p e s m args below meth c hG hr hk _
  show JR E NT 3 p l e rm_X4_begin s m args below meth c 0 0 (fun r => MQ below (xQv E (NT + 0) r) args s 0 0 (xA E)) 0 [(0, .ref (E.B + a0)), (1, .int v1)] [] σ (if okO 4 a0 then (lt (si σ a0 1 v1) (fun t1 => f_X4_begin_7 N N a0 v1 (0 : Int32) t1)) else none)
  refine jr_guard (fun ha0 => ?_)
  refine jr_aload_n hG 0 dX4_begin_0 rfl rfl ?_
  refine jr_iload_n hG 1 dX4_begin_1 rfl rfl ?_
  refine jr_putI hG fi_RX4_15 rfl rfl (okO_s ha0) (okO_l ha0) dX4_begin_2 ?_
  refine jr_lets (fun t1 _ => ?_)
  refine jr_iconst (v := (0 : Int32)) hG dX4_begin_5 (by decide) ?_
  refine jr_istore_n (lv' := [(2, .int (0 : Int32)), (0, .ref (E.B + a0)), (1, .int v1)]) hG dX4_begin_6 rfl (by decide) rfl ?_
  refine jr_sub (lv' := [(0, .ref (E.B + a0)), (1, .int v1), (2, .int (0 : Int32))]) [1, 2, 0] rfl ?_
  exact w_X4_begin_7 N hG hr hk N a0 v1 (0 : Int32) ha0 t1
-- TonguesDealt$Text.mixInto(J)J
abbrev rm_X4_mixInto : Room := { frames := 0, cells := 0, slots := 0, locals := 0 }
theorem ci_X4_mixInto : CIx yX4_mixInto cX4_mixInto 4 (some .long) 1 := ⟨wd_727, wd_76, by decide +kernel⟩
def f_X4_mixInto_14 (N : Nat)  : Nat → Nat → Int64 → Int32 → Mm → Option (Int64 × Mm)
  | 0 => fun _ _ _ _ => none
  | n + 1 => fun a0 v1 v3 σ => if (gi σ a0 1) ≤ v3 then (some (v1, σ)) else (bR (gr σ a0 0) (okA 1) (fun o2 => if inb v3 (arL o2) then (lt (((31 : Int64) * v1) + ((gi σ o2 (ix v3)).toInt64)) (fun x3 => f_X4_mixInto_14 N n a0 x3 (v3 + (1 : Int32)) (σ))) else none))
set_option maxRecDepth 20000 in
theorem w_X4_mixInto_14 {p : Program} {l : Launch} {e : Env} {s : State} {m : MethodId} {args : Array Value} {below : List Frame} {meth : Method} {c : Code} {E : XE} (N : Nat) (hG : GG E NT 4 RX4 cX4_mixInto p s m args c) (hr : meth.sig.returnType = (some .long)) (hk : meth.locks = false)  : ∀ (n : Nat) (a0 : Nat) (v1 : Int64) (v3 : Int32) (ha0 : okO 4 a0 = true) (σ : Mm), JR E NT 4 p l e rm_X4_mixInto s m args below meth c 0 0 (fun r => MQ below (xQl E (NT + 0) r) args s 0 0 (xA E)) 14 [(0, .ref (E.B + a0)), (1, .long v1), (3, .int v3)] [] σ (f_X4_mixInto_14 N n a0 v1 v3 σ) := by
  intro n
  induction n with
  | zero => intro a0 v1 v3 ha0 σ r hX; cases hX
  | succ n ih =>
    intro a0 v1 v3 ha0 σ
    show JR E NT 4 p l e rm_X4_mixInto s m args below meth c 0 0 (fun r => MQ below (xQl E (NT + 0) r) args s 0 0 (xA E)) 14 [(0, .ref (E.B + a0)), (1, .long v1), (3, .int v3)] [] σ (if (gi σ a0 1) ≤ v3 then (some (v1, σ)) else (bR (gr σ a0 0) (okA 1) (fun o2 => if inb v3 (arL o2) then (lt (((31 : Int64) * v1) + ((gi σ o2 (ix v3)).toInt64)) (fun x3 => f_X4_mixInto_14 N n a0 x3 (v3 + (1 : Int32)) (σ))) else none)))
    refine jr_iload_n hG 2 dX4_mixInto_14 rfl rfl ?_
    refine jr_aload_n hG 0 dX4_mixInto_15 rfl rfl ?_
    refine jr_getI hG fi_RX4_15 rfl (okO_s ha0) (okO_l ha0) dX4_mixInto_16 ?_
    refine jr_icmp_ge hG 42 dX4_mixInto_19 (by decide) (fun _ => ?_) (fun _ => ?_)
    · refine jr_lload_n hG 1 dX4_mixInto_42 rfl rfl ?_
      exact jr_lret hG hr hk dX4_mixInto_43
    · refine jr_ldc2 (v := (31 : Int64)) hG wd_728 dX4_mixInto_22 ?_
      refine jr_lload_n hG 1 dX4_mixInto_25 rfl rfl ?_
      refine jr_lmul hG dX4_mixInto_26 ?_
      refine jr_aload_n hG 0 dX4_mixInto_27 rfl rfl ?_
      refine jr_getR hG fi_RX4_9 rfl (okO_s ha0) (okO_l ha0) dX4_mixInto_28 (fun o2 ho2 => ?_)
      refine jr_iload_n hG 2 dX4_mixInto_31 rfl rfl ?_
      refine jr_bald hG (okA_s (by decide) ho2) (okA_l ho2) dX4_mixInto_32 ?_
      refine jr_i2l hG dX4_mixInto_33 ?_
      refine jr_ladd hG dX4_mixInto_34 ?_
      refine jr_letl (fun x3 _ => ?_)
      refine jr_lstore_n (lv' := [(1, .long x3), (0, .ref (E.B + a0)), (3, .int v3)]) hG dX4_mixInto_35 rfl (by decide) rfl ?_
      refine jr_iinc (v := v3 + (1 : Int32)) (lv' := [(3, .int (v3 + (1 : Int32))), (1, .long x3), (0, .ref (E.B + a0))]) hG 2 dX4_mixInto_36 rfl rfl (by decide) rfl ?_
      refine jr_goto hG 14 dX4_mixInto_39 (by decide) ?_
      refine jr_sub (lv' := [(0, .ref (E.B + a0)), (1, .long x3), (3, .int (v3 + (1 : Int32)))]) [2, 1, 0] rfl ?_
      exact ih a0 x3 (v3 + (1 : Int32)) ha0 (σ)
def f_X4_mixInto (N : Nat) (a0 : Nat) (v1 : Int64) (σ : Mm) : Option (Int64 × Mm) := if okO 4 a0 then (lt (((31 : Int64) * v1) + ((gi σ a0 1).toInt64)) (fun x1 => f_X4_mixInto_14 N N a0 x1 (0 : Int32) (σ))) else none
set_option maxRecDepth 20000 in
theorem c_X4_mixInto (l : Launch) (E : XE) (N : Nat) (a0 : Nat) (v1 : Int64) (σ : Mm) : ∀ r0, f_X4_mixInto N a0 v1 σ = some r0 → Met l yX4_mixInto [Cond.code yX4_mixInto cX4_mixInto 4 (some .long)] rm_X4_mixInto (xPc E (NT + 0) σ [.ref (E.B + a0), .long v1]) (xQl E (NT + 0) r0) 0 0 (xA E) := by
  refine met_of (N0 := NT) (by decide +kernel) (Nat.le_of_ble_eq_true rfl) ?_
  intro p e s m args below meth c hG hr hk _
  show JR E NT 4 p l e rm_X4_mixInto s m args below meth c 0 0 (fun r => MQ below (xQl E (NT + 0) r) args s 0 0 (xA E)) 0 [(0, .ref (E.B + a0)), (1, .long v1)] [] σ (if okO 4 a0 then (lt (((31 : Int64) * v1) + ((gi σ a0 1).toInt64)) (fun x1 => f_X4_mixInto_14 N N a0 x1 (0 : Int32) (σ))) else none)
  refine jr_guard (fun ha0 => ?_)
  refine jr_ldc2 (v := (31 : Int64)) hG wd_728 dX4_mixInto_0 ?_
  refine jr_lload_n hG 1 dX4_mixInto_3 rfl rfl ?_
  refine jr_lmul hG dX4_mixInto_4 ?_
  refine jr_aload_n hG 0 dX4_mixInto_5 rfl rfl ?_
  refine jr_getI hG fi_RX4_15 rfl (okO_s ha0) (okO_l ha0) dX4_mixInto_6 ?_
  refine jr_i2l hG dX4_mixInto_9 ?_
  refine jr_ladd hG dX4_mixInto_10 ?_
  refine jr_letl (fun x1 _ => ?_)
  refine jr_lstore_n (lv' := [(1, .long x1), (0, .ref (E.B + a0))]) hG dX4_mixInto_11 rfl (by decide) rfl ?_
  refine jr_iconst (v := (0 : Int32)) hG dX4_mixInto_12 (by decide) ?_
  refine jr_istore_n (lv' := [(3, .int (0 : Int32)), (1, .long x1), (0, .ref (E.B + a0))]) hG dX4_mixInto_13 rfl (by decide) rfl ?_
  refine jr_sub (lv' := [(0, .ref (E.B + a0)), (1, .long x1), (3, .int (0 : Int32))]) [2, 1, 0] rfl ?_
  exact w_X4_mixInto_14 N hG hr hk N a0 x1 (0 : Int32) ha0 (σ)
-- TonguesDealt.isRow(I)Z
abbrev rm_X5_isRow : Room := { frames := 0, cells := 0, slots := 0, locals := 0 }
theorem ci_X5_isRow : CIx yX5_isRow cX5_isRow 1 (some .boolean) 1 := ⟨wd_275, wd_71, by decide +kernel⟩
def f_X5_isRow (N : Nat) (v0 : Int32) (σ : Mm) : Option (Int32 × Mm) := if v0 < 0 then (some ((0 : Int32), σ)) else (if (6 : Int32) ≤ v0 then (some ((0 : Int32), σ)) else (some ((1 : Int32), σ)))
set_option maxRecDepth 20000 in
theorem c_X5_isRow (l : Launch) (E : XE) (N : Nat) (v0 : Int32) (σ : Mm) : ∀ r0, f_X5_isRow N v0 σ = some r0 → Met l yX5_isRow [Cond.code yX5_isRow cX5_isRow 1 (some .boolean)] rm_X5_isRow (xPc E (NT + 0) σ [.int v0]) (xQi E (NT + 0) r0) 0 0 (xA E) := by
  refine met_of (N0 := NT) (by decide +kernel) (Nat.le_of_ble_eq_true rfl) ?_
  intro p e s m args below meth c hG hr hk _
  show JR E NT 1 p l e rm_X5_isRow s m args below meth c 0 0 (fun r => MQ below (xQi E (NT + 0) r) args s 0 0 (xA E)) 0 [(0, .int v0)] [] σ (if v0 < 0 then (some ((0 : Int32), σ)) else (if (6 : Int32) ≤ v0 then (some ((0 : Int32), σ)) else (some ((1 : Int32), σ))))
  refine jr_iload_n hG 0 dX5_isRow_0 rfl rfl ?_
  refine jr_if_lt hG 14 dX5_isRow_1 (by decide) (fun _ => ?_) (fun _ => ?_)
  · refine jr_iconst (v := (0 : Int32)) hG dX5_isRow_14 (by decide) ?_
    exact jr_zret hG hr hk (by decide) dX5_isRow_15
  · refine jr_iload_n hG 0 dX5_isRow_4 rfl rfl ?_
    refine jr_bipush (v := (6 : Int32)) hG dX5_isRow_5 (by decide) ?_
    refine jr_icmp_ge hG 14 dX5_isRow_7 (by decide) (fun _ => ?_) (fun _ => ?_)
    · refine jr_iconst (v := (0 : Int32)) hG dX5_isRow_14 (by decide) ?_
      exact jr_zret hG hr hk (by decide) dX5_isRow_15
    · refine jr_iconst (v := (1 : Int32)) hG dX5_isRow_10 (by decide) ?_
      refine jr_goto hG 15 dX5_isRow_11 (by decide) ?_
      exact jr_zret hG hr hk (by decide) dX5_isRow_15
-- TonguesDealt.found(I)I
abbrev rm_X5_found : Room := { frames := 0, cells := 0, slots := 0, locals := 0 }
theorem ci_X5_found : CIx yX5_found cX5_found 2 (some .int) 1 := ⟨wd_279, wd_71, by decide +kernel⟩
def f_X5_found (N : Nat) (a0 : Nat) (v1 : Int32) (σ : Mm) : Option (Int32 × Mm) := if okO 5 a0 then (lt (si σ a0 10 v1) (fun t1 => bR (gr t1 a0 9) (okA 0) (fun o2 => if inb v1 (arL o2) then (if inb v1 (arL o2) then (lt (si t1 o2 (ix v1) ((gi t1 o2 (ix v1)) + (1 : Int32))) (fun t3 => some ((-3 : Int32), t3))) else none) else none))) else none
set_option maxRecDepth 20000 in
theorem c_X5_found (l : Launch) (E : XE) (N : Nat) (a0 : Nat) (v1 : Int32) (σ : Mm) : ∀ r0, f_X5_found N a0 v1 σ = some r0 → Met l yX5_found [Cond.code yX5_found cX5_found 2 (some .int)] rm_X5_found (xPc E (NT + 0) σ [.ref (E.B + a0), .int v1]) (xQi E (NT + 0) r0) 0 0 (xA E) := by
  refine met_of (N0 := NT) (by decide +kernel) (Nat.le_of_ble_eq_true rfl) ?_
  intro p e s m args below meth c hG hr hk _
  show JR E NT 2 p l e rm_X5_found s m args below meth c 0 0 (fun r => MQ below (xQi E (NT + 0) r) args s 0 0 (xA E)) 0 [(0, .ref (E.B + a0)), (1, .int v1)] [] σ (if okO 5 a0 then (lt (si σ a0 10 v1) (fun t1 => bR (gr t1 a0 9) (okA 0) (fun o2 => if inb v1 (arL o2) then (if inb v1 (arL o2) then (lt (si t1 o2 (ix v1) ((gi t1 o2 (ix v1)) + (1 : Int32))) (fun t3 => some ((-3 : Int32), t3))) else none) else none))) else none)
  refine jr_guard (fun ha0 => ?_)
  refine jr_aload_n hG 0 dX5_found_0 rfl rfl ?_
  refine jr_iload_n hG 1 dX5_found_1 rfl rfl ?_
  refine jr_putI hG fi_RX5_59 rfl rfl (okO_s ha0) (okO_l ha0) dX5_found_2 ?_
  refine jr_lets (fun t1 _ => ?_)
  refine jr_aload_n hG 0 dX5_found_5 rfl rfl ?_
  refine jr_getR hG fi_RX5_56 rfl (okO_s ha0) (okO_l ha0) dX5_found_6 (fun o2 ho2 => ?_)
  refine jr_iload_n hG 1 dX5_found_9 rfl rfl ?_
  refine jr_dup2 hG dX5_found_10 rfl rfl ?_
  refine jr_iald hG (okA_s (by decide) ho2) (okA_l ho2) dX5_found_11 ?_
  refine jr_iconst (v := (1 : Int32)) hG dX5_found_12 (by decide) ?_
  refine jr_iadd hG dX5_found_13 ?_
  refine jr_iast hG (okA_s (by decide) ho2) (okA_l ho2) dX5_found_14 ?_
  refine jr_lets (fun t3 _ => ?_)
  refine jr_bipush (v := (-3 : Int32)) hG dX5_found_15 (by decide) ?_
  exact jr_iret hG hr hk dX5_found_17
-- TonguesDealt.row(II)I
abbrev rm_X5_row : Room := { frames := 1, cells := 0, slots := 0, locals := 22 }
theorem ci_X5_row : CIx yX5_row cX5_row 3 (some .int) 2 := ⟨wd_272, wd_71, by decide +kernel⟩
def f_X5_row (N : Nat) (a0 : Nat) (v1 : Int32) (v2 : Int32) (σ : Mm) : Option (Int32 × Mm) := if okO 5 a0 then (bI (f_X5_isRow N v1 (σ)) (fun r2 t1 => if r2 = 0 then (some ((-1 : Int32), t1)) else (if v2 ≤ (40 : Int32) then (if 0 ≤ v2 then (bR (gr t1 a0 0) (okA 3) (fun o3 => if inb v1 (arL o3) then (bR (gr t1 o3 (ix v1)) (okO 3) (fun o4 => bV (f_X3_begin N o4 v2 t1) (fun t5 => some (v2, t5)))) else none)) else (bI (f_X5_found N a0 (5 : Int32) t1) (fun r7 t6 => some (r7, t6)))) else (some ((-1 : Int32), t1))))) else none
set_option maxRecDepth 20000 in
theorem c_X5_row (l : Launch) (E : XE) (N : Nat) (a0 : Nat) (v1 : Int32) (v2 : Int32) (σ : Mm) : ∀ r0, f_X5_row N a0 v1 v2 σ = some r0 → Met l yX5_row [Cond.code yX5_row cX5_row 3 (some .int)] rm_X5_row (xPc E (NT + 0) σ [.ref (E.B + a0), .int v1, .int v2]) (xQi E (NT + 0) r0) 0 0 (xA E) := by
  refine met_of (N0 := NT) (by decide +kernel) (Nat.le_of_ble_eq_true rfl) ?_
  intro p e s m args below meth c hG hr hk _
  show JR E NT 3 p l e rm_X5_row s m args below meth c 0 0 (fun r => MQ below (xQi E (NT + 0) r) args s 0 0 (xA E)) 0 [(0, .ref (E.B + a0)), (1, .int v1), (2, .int v2)] [] σ (if okO 5 a0 then (bI (f_X5_isRow N v1 (σ)) (fun r2 t1 => if r2 = 0 then (some ((-1 : Int32), t1)) else (if v2 ≤ (40 : Int32) then (if 0 ≤ v2 then (bR (gr t1 a0 0) (okA 3) (fun o3 => if inb v1 (arL o3) then (bR (gr t1 o3 (ix v1)) (okO 3) (fun o4 => bV (f_X3_begin N o4 v2 t1) (fun t5 => some (v2, t5)))) else none)) else (bI (f_X5_found N a0 (5 : Int32) t1) (fun r7 t6 => some (r7, t6)))) else (some ((-1 : Int32), t1))))) else none)
  refine jr_guard (fun ha0 => ?_)
  refine jr_iload_n hG 1 dX5_row_0 rfl rfl ?_
  refine jr_callSi (As := [.int v1]) hG (c_X5_isRow l E N v1 (σ)) ci_X5_isRow wd_273 wd_274 ⟨rfl, rfl, Nat.le_of_ble_eq_true rfl, Nat.le_of_ble_eq_true rfl⟩ rfl rfl (Nat.le_of_ble_eq_true rfl) dX5_row_1 ⟨Nat.le_refl _, Nat.le_refl _⟩ (fun r2 t1 => ?_)
  refine jr_if_eq hG 13 dX5_row_4 (by decide) (fun _ => ?_) (fun _ => ?_)
  · refine jr_iconst (v := (-1 : Int32)) hG dX5_row_13 (by decide) ?_
    exact jr_iret hG hr hk dX5_row_14
  · refine jr_iload_n hG 2 dX5_row_7 rfl rfl ?_
    refine jr_bipush (v := (40 : Int32)) hG dX5_row_8 (by decide) ?_
    refine jr_icmp_le hG 15 dX5_row_10 (by decide) (fun _ => ?_) (fun _ => ?_)
    · refine jr_iload_n hG 2 dX5_row_15 rfl rfl ?_
      refine jr_if_ge hG 25 dX5_row_16 (by decide) (fun _ => ?_) (fun _ => ?_)
      · refine jr_aload_n hG 0 dX5_row_25 rfl rfl ?_
        refine jr_getR hG fi_RX5_11 rfl (okO_s ha0) (okO_l ha0) dX5_row_26 (fun o3 ho3 => ?_)
        refine jr_iload_n hG 1 dX5_row_29 rfl rfl ?_
        refine jr_aald hG (okA_s (by decide) ho3) (by decide) rfl (okA_l ho3) dX5_row_30 (fun o4 ho4 => ?_)
        refine jr_iload_n hG 2 dX5_row_31 rfl rfl ?_
        refine jr_callVv (As := [.int v2]) hG (c_X3_begin l E N o4 v2 t1) ci_X3_begin wd_280 ⟨wd_281, wd_282⟩ cl_3 (okO_s ho4) (okO_l ho4) ⟨rfl, rfl, Nat.le_of_ble_eq_true rfl, Nat.le_of_ble_eq_true rfl⟩ rfl rfl (Nat.le_of_ble_eq_true rfl) dX5_row_32 ⟨Nat.le_refl _, Nat.le_refl _⟩ (fun t5 => ?_)
        refine jr_iload_n hG 2 dX5_row_35 rfl rfl ?_
        exact jr_iret hG hr hk dX5_row_36
      · refine jr_aload_n hG 0 dX5_row_19 rfl rfl ?_
        refine jr_iconst (v := (5 : Int32)) hG dX5_row_20 (by decide) ?_
        refine jr_callVi (As := [.int (5 : Int32)]) hG (c_X5_found l E N a0 (5 : Int32) t1) ci_X5_found wd_276 ⟨wd_278, wd_0⟩ cl_5 (okO_s ha0) (okO_l ha0) ⟨rfl, rfl, Nat.le_of_ble_eq_true rfl, Nat.le_of_ble_eq_true rfl⟩ rfl rfl (Nat.le_of_ble_eq_true rfl) dX5_row_21 ⟨Nat.le_refl _, Nat.le_refl _⟩ (fun r7 t6 => ?_)
        exact jr_iret hG hr hk dX5_row_24
    · refine jr_iconst (v := (-1 : Int32)) hG dX5_row_13 (by decide) ?_
      exact jr_iret hG hr hk dX5_row_14
-- TonguesDealt.lay(III)I
abbrev rm_X5_lay : Room := { frames := 1, cells := 0, slots := 0, locals := 21 }
theorem ci_X5_lay : CIx yX5_lay cX5_lay 5 (some .int) 3 := ⟨wd_287, wd_71, by decide +kernel⟩
def f_X5_lay (N : Nat) (a0 : Nat) (v1 : Int32) (v2 : Int32) (v3 : Int32) (σ : Mm) : Option (Int32 × Mm) := if okO 5 a0 then (bI (f_X5_isRow N v1 (σ)) (fun r2 t1 => if r2 = 0 then (some ((-1 : Int32), t1)) else (bR (gr t1 a0 0) (okA 3) (fun o3 => if inb v1 (arL o3) then (bR (gr t1 o3 (ix v1)) (okO 3) (fun o4 => if (gi t1 o4 1) = (-1 : Int32) then (bI (f_X5_found N a0 (1 : Int32) t1) (fun r14 t13 => some (r14, t13))) else (bI (f_X3_has N o4 v2 t1) (fun r6 t5 => if r6 = 0 then (bI (f_X5_found N a0 (2 : Int32) t5) (fun r12 t11 => some (r12, t11))) else (bR (gr t5 o4 0) (okA 0) (fun o7 => if inb v2 (arL o7) then (lt (si t5 a0 11 (gi t5 o7 (ix v2))) (fun t8 => bR (gr t8 o4 0) (okA 0) (fun o9 => if inb v2 (arL o9) then (lt (si t8 o9 (ix v2) v3) (fun t10 => some ((1 : Int32), t10))) else none))) else none)))))) else none)))) else none
set_option maxRecDepth 20000 in
theorem c_X5_lay (l : Launch) (E : XE) (N : Nat) (a0 : Nat) (v1 : Int32) (v2 : Int32) (v3 : Int32) (σ : Mm) : ∀ r0, f_X5_lay N a0 v1 v2 v3 σ = some r0 → Met l yX5_lay [Cond.code yX5_lay cX5_lay 5 (some .int)] rm_X5_lay (xPc E (NT + 0) σ [.ref (E.B + a0), .int v1, .int v2, .int v3]) (xQi E (NT + 0) r0) 0 0 (xA E) := by
  refine met_of (N0 := NT) (by decide +kernel) (Nat.le_of_ble_eq_true rfl) ?_
  intro p e s m args below meth c hG hr hk _
  show JR E NT 5 p l e rm_X5_lay s m args below meth c 0 0 (fun r => MQ below (xQi E (NT + 0) r) args s 0 0 (xA E)) 0 [(0, .ref (E.B + a0)), (1, .int v1), (2, .int v2), (3, .int v3)] [] σ (if okO 5 a0 then (bI (f_X5_isRow N v1 (σ)) (fun r2 t1 => if r2 = 0 then (some ((-1 : Int32), t1)) else (bR (gr t1 a0 0) (okA 3) (fun o3 => if inb v1 (arL o3) then (bR (gr t1 o3 (ix v1)) (okO 3) (fun o4 => if (gi t1 o4 1) = (-1 : Int32) then (bI (f_X5_found N a0 (1 : Int32) t1) (fun r14 t13 => some (r14, t13))) else (bI (f_X3_has N o4 v2 t1) (fun r6 t5 => if r6 = 0 then (bI (f_X5_found N a0 (2 : Int32) t5) (fun r12 t11 => some (r12, t11))) else (bR (gr t5 o4 0) (okA 0) (fun o7 => if inb v2 (arL o7) then (lt (si t5 a0 11 (gi t5 o7 (ix v2))) (fun t8 => bR (gr t8 o4 0) (okA 0) (fun o9 => if inb v2 (arL o9) then (lt (si t8 o9 (ix v2) v3) (fun t10 => some ((1 : Int32), t10))) else none))) else none)))))) else none)))) else none)
  refine jr_guard (fun ha0 => ?_)
  refine jr_iload_n hG 1 dX5_lay_0 rfl rfl ?_
  refine jr_callSi (As := [.int v1]) hG (c_X5_isRow l E N v1 (σ)) ci_X5_isRow wd_273 wd_274 ⟨rfl, rfl, Nat.le_of_ble_eq_true rfl, Nat.le_of_ble_eq_true rfl⟩ rfl rfl (Nat.le_of_ble_eq_true rfl) dX5_lay_1 ⟨Nat.le_refl _, Nat.le_refl _⟩ (fun r2 t1 => ?_)
  refine jr_if_ne hG 9 dX5_lay_4 (by decide) (fun _ => ?_) (fun _ => ?_)
  · refine jr_aload_n hG 0 dX5_lay_9 rfl rfl ?_
    refine jr_getR hG fi_RX5_11 rfl (okO_s ha0) (okO_l ha0) dX5_lay_10 (fun o3 ho3 => ?_)
    refine jr_iload_n hG 1 dX5_lay_13 rfl rfl ?_
    refine jr_aald hG (okA_s (by decide) ho3) (by decide) rfl (okA_l ho3) dX5_lay_14 (fun o4 ho4 => ?_)
    refine jr_astore (lv' := [(4, .ref (E.B + o4)), (0, .ref (E.B + a0)), (1, .int v1), (2, .int v2), (3, .int v3)]) hG dX5_lay_15 (by decide) rfl ?_
    refine jr_aload hG 0 dX5_lay_17 rfl ?_
    refine jr_getI hG fi_RX5_90 rfl (okO_s ho4) (okO_l ho4) dX5_lay_19 ?_
    refine jr_iconst (v := (-1 : Int32)) hG dX5_lay_22 (by decide) ?_
    refine jr_icmp_ne hG 32 dX5_lay_23 (by decide) (fun _ => ?_) (fun _ => ?_)
    · refine jr_aload hG 0 dX5_lay_32 rfl ?_
      refine jr_iload_n hG 3 dX5_lay_34 rfl rfl ?_
      refine jr_callVi (As := [.int v2]) hG (c_X3_has l E N o4 v2 t1) ci_X3_has wd_288 ⟨wd_289, wd_290⟩ cl_3 (okO_s ho4) (okO_l ho4) ⟨rfl, rfl, Nat.le_of_ble_eq_true rfl, Nat.le_of_ble_eq_true rfl⟩ rfl rfl (Nat.le_of_ble_eq_true rfl) dX5_lay_35 ⟨Nat.le_refl _, Nat.le_refl _⟩ (fun r6 t5 => ?_)
      refine jr_if_ne hG 47 dX5_lay_38 (by decide) (fun _ => ?_) (fun _ => ?_)
      · refine jr_aload_n hG 1 dX5_lay_47 rfl rfl ?_
        refine jr_aload hG 0 dX5_lay_48 rfl ?_
        refine jr_getR hG fi_RX5_94 rfl (okO_s ho4) (okO_l ho4) dX5_lay_50 (fun o7 ho7 => ?_)
        refine jr_iload_n hG 3 dX5_lay_53 rfl rfl ?_
        refine jr_iald hG (okA_s (by decide) ho7) (okA_l ho7) dX5_lay_54 ?_
        refine jr_putI hG fi_RX5_63 rfl rfl (okO_s ha0) (okO_l ha0) dX5_lay_55 ?_
        refine jr_lets (fun t8 _ => ?_)
        refine jr_aload hG 0 dX5_lay_58 rfl ?_
        refine jr_getR hG fi_RX5_94 rfl (okO_s ho4) (okO_l ho4) dX5_lay_60 (fun o9 ho9 => ?_)
        refine jr_iload_n hG 3 dX5_lay_63 rfl rfl ?_
        refine jr_iload_n hG 4 dX5_lay_64 rfl rfl ?_
        refine jr_iast hG (okA_s (by decide) ho9) (okA_l ho9) dX5_lay_65 ?_
        refine jr_lets (fun t10 _ => ?_)
        refine jr_iconst (v := (1 : Int32)) hG dX5_lay_66 (by decide) ?_
        exact jr_iret hG hr hk dX5_lay_67
      · refine jr_aload_n hG 1 dX5_lay_41 rfl rfl ?_
        refine jr_iconst (v := (2 : Int32)) hG dX5_lay_42 (by decide) ?_
        refine jr_callVi (As := [.int (2 : Int32)]) hG (c_X5_found l E N a0 (2 : Int32) t5) ci_X5_found wd_276 ⟨wd_278, wd_0⟩ cl_5 (okO_s ha0) (okO_l ha0) ⟨rfl, rfl, Nat.le_of_ble_eq_true rfl, Nat.le_of_ble_eq_true rfl⟩ rfl rfl (Nat.le_of_ble_eq_true rfl) dX5_lay_43 ⟨Nat.le_refl _, Nat.le_refl _⟩ (fun r12 t11 => ?_)
        exact jr_iret hG hr hk dX5_lay_46
    · refine jr_aload_n hG 1 dX5_lay_26 rfl rfl ?_
      refine jr_iconst (v := (1 : Int32)) hG dX5_lay_27 (by decide) ?_
      refine jr_callVi (As := [.int (1 : Int32)]) hG (c_X5_found l E N a0 (1 : Int32) t1) ci_X5_found wd_276 ⟨wd_278, wd_0⟩ cl_5 (okO_s ha0) (okO_l ha0) ⟨rfl, rfl, Nat.le_of_ble_eq_true rfl, Nat.le_of_ble_eq_true rfl⟩ rfl rfl (Nat.le_of_ble_eq_true rfl) dX5_lay_28 ⟨Nat.le_refl _, Nat.le_refl _⟩ (fun r14 t13 => ?_)
      exact jr_iret hG hr hk dX5_lay_31
  · refine jr_iconst (v := (-1 : Int32)) hG dX5_lay_7 (by decide) ?_
    exact jr_iret hG hr hk dX5_lay_8
-- TonguesDealt.at(II)I
abbrev rm_X5_at : Room := { frames := 1, cells := 0, slots := 0, locals := 21 }
theorem ci_X5_at : CIx yX5_at cX5_at 4 (some .int) 2 := ⟨wd_295, wd_71, by decide +kernel⟩
def f_X5_at (N : Nat) (a0 : Nat) (v1 : Int32) (v2 : Int32) (σ : Mm) : Option (Int32 × Mm) := if okO 5 a0 then (bI (f_X5_isRow N v1 (σ)) (fun r2 t1 => if r2 = 0 then (some ((-1 : Int32), t1)) else (bR (gr t1 a0 0) (okA 3) (fun o3 => if inb v1 (arL o3) then (bR (gr t1 o3 (ix v1)) (okO 3) (fun o4 => if (gi t1 o4 1) = (-1 : Int32) then (bI (f_X5_found N a0 (1 : Int32) t1) (fun r12 t11 => some (r12, t11))) else (bI (f_X3_has N o4 v2 t1) (fun r6 t5 => if r6 = 0 then (bI (f_X5_found N a0 (2 : Int32) t5) (fun r10 t9 => some (r10, t9))) else (bR (gr t5 o4 0) (okA 0) (fun o7 => if inb v2 (arL o7) then (lt (si t5 a0 11 (gi t5 o7 (ix v2))) (fun t8 => some ((1 : Int32), t8))) else none)))))) else none)))) else none
set_option maxRecDepth 20000 in
theorem c_X5_at (l : Launch) (E : XE) (N : Nat) (a0 : Nat) (v1 : Int32) (v2 : Int32) (σ : Mm) : ∀ r0, f_X5_at N a0 v1 v2 σ = some r0 → Met l yX5_at [Cond.code yX5_at cX5_at 4 (some .int)] rm_X5_at (xPc E (NT + 0) σ [.ref (E.B + a0), .int v1, .int v2]) (xQi E (NT + 0) r0) 0 0 (xA E) := by
  refine met_of (N0 := NT) (by decide +kernel) (Nat.le_of_ble_eq_true rfl) ?_
  intro p e s m args below meth c hG hr hk _
  show JR E NT 4 p l e rm_X5_at s m args below meth c 0 0 (fun r => MQ below (xQi E (NT + 0) r) args s 0 0 (xA E)) 0 [(0, .ref (E.B + a0)), (1, .int v1), (2, .int v2)] [] σ (if okO 5 a0 then (bI (f_X5_isRow N v1 (σ)) (fun r2 t1 => if r2 = 0 then (some ((-1 : Int32), t1)) else (bR (gr t1 a0 0) (okA 3) (fun o3 => if inb v1 (arL o3) then (bR (gr t1 o3 (ix v1)) (okO 3) (fun o4 => if (gi t1 o4 1) = (-1 : Int32) then (bI (f_X5_found N a0 (1 : Int32) t1) (fun r12 t11 => some (r12, t11))) else (bI (f_X3_has N o4 v2 t1) (fun r6 t5 => if r6 = 0 then (bI (f_X5_found N a0 (2 : Int32) t5) (fun r10 t9 => some (r10, t9))) else (bR (gr t5 o4 0) (okA 0) (fun o7 => if inb v2 (arL o7) then (lt (si t5 a0 11 (gi t5 o7 (ix v2))) (fun t8 => some ((1 : Int32), t8))) else none)))))) else none)))) else none)
  refine jr_guard (fun ha0 => ?_)
  refine jr_iload_n hG 1 dX5_at_0 rfl rfl ?_
  refine jr_callSi (As := [.int v1]) hG (c_X5_isRow l E N v1 (σ)) ci_X5_isRow wd_273 wd_274 ⟨rfl, rfl, Nat.le_of_ble_eq_true rfl, Nat.le_of_ble_eq_true rfl⟩ rfl rfl (Nat.le_of_ble_eq_true rfl) dX5_at_1 ⟨Nat.le_refl _, Nat.le_refl _⟩ (fun r2 t1 => ?_)
  refine jr_if_ne hG 9 dX5_at_4 (by decide) (fun _ => ?_) (fun _ => ?_)
  · refine jr_aload_n hG 0 dX5_at_9 rfl rfl ?_
    refine jr_getR hG fi_RX5_11 rfl (okO_s ha0) (okO_l ha0) dX5_at_10 (fun o3 ho3 => ?_)
    refine jr_iload_n hG 1 dX5_at_13 rfl rfl ?_
    refine jr_aald hG (okA_s (by decide) ho3) (by decide) rfl (okA_l ho3) dX5_at_14 (fun o4 ho4 => ?_)
    refine jr_astore_n (lv' := [(3, .ref (E.B + o4)), (0, .ref (E.B + a0)), (1, .int v1), (2, .int v2)]) hG dX5_at_15 rfl (by decide) rfl ?_
    refine jr_aload_n hG 0 dX5_at_16 rfl rfl ?_
    refine jr_getI hG fi_RX5_90 rfl (okO_s ho4) (okO_l ho4) dX5_at_17 ?_
    refine jr_iconst (v := (-1 : Int32)) hG dX5_at_20 (by decide) ?_
    refine jr_icmp_ne hG 30 dX5_at_21 (by decide) (fun _ => ?_) (fun _ => ?_)
    · refine jr_aload_n hG 0 dX5_at_30 rfl rfl ?_
      refine jr_iload_n hG 3 dX5_at_31 rfl rfl ?_
      refine jr_callVi (As := [.int v2]) hG (c_X3_has l E N o4 v2 t1) ci_X3_has wd_288 ⟨wd_289, wd_290⟩ cl_3 (okO_s ho4) (okO_l ho4) ⟨rfl, rfl, Nat.le_of_ble_eq_true rfl, Nat.le_of_ble_eq_true rfl⟩ rfl rfl (Nat.le_of_ble_eq_true rfl) dX5_at_32 ⟨Nat.le_refl _, Nat.le_refl _⟩ (fun r6 t5 => ?_)
      refine jr_if_ne hG 44 dX5_at_35 (by decide) (fun _ => ?_) (fun _ => ?_)
      · refine jr_aload_n hG 1 dX5_at_44 rfl rfl ?_
        refine jr_aload_n hG 0 dX5_at_45 rfl rfl ?_
        refine jr_getR hG fi_RX5_94 rfl (okO_s ho4) (okO_l ho4) dX5_at_46 (fun o7 ho7 => ?_)
        refine jr_iload_n hG 3 dX5_at_49 rfl rfl ?_
        refine jr_iald hG (okA_s (by decide) ho7) (okA_l ho7) dX5_at_50 ?_
        refine jr_putI hG fi_RX5_63 rfl rfl (okO_s ha0) (okO_l ha0) dX5_at_51 ?_
        refine jr_lets (fun t8 _ => ?_)
        refine jr_iconst (v := (1 : Int32)) hG dX5_at_54 (by decide) ?_
        exact jr_iret hG hr hk dX5_at_55
      · refine jr_aload_n hG 1 dX5_at_38 rfl rfl ?_
        refine jr_iconst (v := (2 : Int32)) hG dX5_at_39 (by decide) ?_
        refine jr_callVi (As := [.int (2 : Int32)]) hG (c_X5_found l E N a0 (2 : Int32) t5) ci_X5_found wd_276 ⟨wd_278, wd_0⟩ cl_5 (okO_s ha0) (okO_l ha0) ⟨rfl, rfl, Nat.le_of_ble_eq_true rfl, Nat.le_of_ble_eq_true rfl⟩ rfl rfl (Nat.le_of_ble_eq_true rfl) dX5_at_40 ⟨Nat.le_refl _, Nat.le_refl _⟩ (fun r10 t9 => ?_)
        exact jr_iret hG hr hk dX5_at_43
    · refine jr_aload_n hG 1 dX5_at_24 rfl rfl ?_
      refine jr_iconst (v := (1 : Int32)) hG dX5_at_25 (by decide) ?_
      refine jr_callVi (As := [.int (1 : Int32)]) hG (c_X5_found l E N a0 (1 : Int32) t1) ci_X5_found wd_276 ⟨wd_278, wd_0⟩ cl_5 (okO_s ha0) (okO_l ha0) ⟨rfl, rfl, Nat.le_of_ble_eq_true rfl, Nat.le_of_ble_eq_true rfl⟩ rfl rfl (Nat.le_of_ble_eq_true rfl) dX5_at_26 ⟨Nat.le_refl _, Nat.le_refl _⟩ (fun r12 t11 => ?_)
      exact jr_iret hG hr hk dX5_at_29
  · refine jr_iconst (v := (-1 : Int32)) hG dX5_at_7 (by decide) ?_
    exact jr_iret hG hr hk dX5_at_8
-- TonguesDealt.tear(I)I
abbrev rm_X5_tear : Room := { frames := 1, cells := 0, slots := 0, locals := 21 }
theorem ci_X5_tear : CIx yX5_tear cX5_tear 2 (some .int) 1 := ⟨wd_299, wd_71, by decide +kernel⟩
def f_X5_tear (N : Nat) (a0 : Nat) (v1 : Int32) (σ : Mm) : Option (Int32 × Mm) := if okO 5 a0 then (bI (f_X5_isRow N v1 (σ)) (fun r2 t1 => if r2 = 0 then (some ((-1 : Int32), t1)) else (bR (gr t1 a0 0) (okA 3) (fun o3 => if inb v1 (arL o3) then (bR (gr t1 o3 (ix v1)) (okO 3) (fun o4 => if (gi t1 o4 1) = (-1 : Int32) then (bI (f_X5_found N a0 (1 : Int32) t1) (fun r9 t8 => some (r9, t8))) else (bR (gr t1 a0 0) (okA 3) (fun o5 => if inb v1 (arL o5) then (bR (gr t1 o5 (ix v1)) (okO 3) (fun o6 => lt (si t1 o6 1 (-1 : Int32)) (fun t7 => some ((1 : Int32), t7)))) else none)))) else none)))) else none
set_option maxRecDepth 20000 in
theorem c_X5_tear (l : Launch) (E : XE) (N : Nat) (a0 : Nat) (v1 : Int32) (σ : Mm) : ∀ r0, f_X5_tear N a0 v1 σ = some r0 → Met l yX5_tear [Cond.code yX5_tear cX5_tear 2 (some .int)] rm_X5_tear (xPc E (NT + 0) σ [.ref (E.B + a0), .int v1]) (xQi E (NT + 0) r0) 0 0 (xA E) := by
  refine met_of (N0 := NT) (by decide +kernel) (Nat.le_of_ble_eq_true rfl) ?_
  intro p e s m args below meth c hG hr hk _
  show JR E NT 2 p l e rm_X5_tear s m args below meth c 0 0 (fun r => MQ below (xQi E (NT + 0) r) args s 0 0 (xA E)) 0 [(0, .ref (E.B + a0)), (1, .int v1)] [] σ (if okO 5 a0 then (bI (f_X5_isRow N v1 (σ)) (fun r2 t1 => if r2 = 0 then (some ((-1 : Int32), t1)) else (bR (gr t1 a0 0) (okA 3) (fun o3 => if inb v1 (arL o3) then (bR (gr t1 o3 (ix v1)) (okO 3) (fun o4 => if (gi t1 o4 1) = (-1 : Int32) then (bI (f_X5_found N a0 (1 : Int32) t1) (fun r9 t8 => some (r9, t8))) else (bR (gr t1 a0 0) (okA 3) (fun o5 => if inb v1 (arL o5) then (bR (gr t1 o5 (ix v1)) (okO 3) (fun o6 => lt (si t1 o6 1 (-1 : Int32)) (fun t7 => some ((1 : Int32), t7)))) else none)))) else none)))) else none)
  refine jr_guard (fun ha0 => ?_)
  refine jr_iload_n hG 1 dX5_tear_0 rfl rfl ?_
  refine jr_callSi (As := [.int v1]) hG (c_X5_isRow l E N v1 (σ)) ci_X5_isRow wd_273 wd_274 ⟨rfl, rfl, Nat.le_of_ble_eq_true rfl, Nat.le_of_ble_eq_true rfl⟩ rfl rfl (Nat.le_of_ble_eq_true rfl) dX5_tear_1 ⟨Nat.le_refl _, Nat.le_refl _⟩ (fun r2 t1 => ?_)
  refine jr_if_ne hG 9 dX5_tear_4 (by decide) (fun _ => ?_) (fun _ => ?_)
  · refine jr_aload_n hG 0 dX5_tear_9 rfl rfl ?_
    refine jr_getR hG fi_RX5_11 rfl (okO_s ha0) (okO_l ha0) dX5_tear_10 (fun o3 ho3 => ?_)
    refine jr_iload_n hG 1 dX5_tear_13 rfl rfl ?_
    refine jr_aald hG (okA_s (by decide) ho3) (by decide) rfl (okA_l ho3) dX5_tear_14 (fun o4 ho4 => ?_)
    refine jr_getI hG fi_RX5_90 rfl (okO_s ho4) (okO_l ho4) dX5_tear_15 ?_
    refine jr_iconst (v := (-1 : Int32)) hG dX5_tear_18 (by decide) ?_
    refine jr_icmp_ne hG 28 dX5_tear_19 (by decide) (fun _ => ?_) (fun _ => ?_)
    · refine jr_aload_n hG 0 dX5_tear_28 rfl rfl ?_
      refine jr_getR hG fi_RX5_11 rfl (okO_s ha0) (okO_l ha0) dX5_tear_29 (fun o5 ho5 => ?_)
      refine jr_iload_n hG 1 dX5_tear_32 rfl rfl ?_
      refine jr_aald hG (okA_s (by decide) ho5) (by decide) rfl (okA_l ho5) dX5_tear_33 (fun o6 ho6 => ?_)
      refine jr_iconst (v := (-1 : Int32)) hG dX5_tear_34 (by decide) ?_
      refine jr_putI hG fi_RX5_90 rfl rfl (okO_s ho6) (okO_l ho6) dX5_tear_35 ?_
      refine jr_lets (fun t7 _ => ?_)
      refine jr_iconst (v := (1 : Int32)) hG dX5_tear_38 (by decide) ?_
      exact jr_iret hG hr hk dX5_tear_39
    · refine jr_aload_n hG 0 dX5_tear_22 rfl rfl ?_
      refine jr_iconst (v := (1 : Int32)) hG dX5_tear_23 (by decide) ?_
      refine jr_callVi (As := [.int (1 : Int32)]) hG (c_X5_found l E N a0 (1 : Int32) t1) ci_X5_found wd_276 ⟨wd_278, wd_0⟩ cl_5 (okO_s ha0) (okO_l ha0) ⟨rfl, rfl, Nat.le_of_ble_eq_true rfl, Nat.le_of_ble_eq_true rfl⟩ rfl rfl (Nat.le_of_ble_eq_true rfl) dX5_tear_24 ⟨Nat.le_refl _, Nat.le_refl _⟩ (fun r9 t8 => ?_)
      exact jr_iret hG hr hk dX5_tear_27
  · refine jr_iconst (v := (-1 : Int32)) hG dX5_tear_7 (by decide) ?_
    exact jr_iret hG hr hk dX5_tear_8
-- TonguesDealt.copy(IIIII)I
abbrev rm_X5_copy : Room := { frames := 1, cells := 0, slots := 0, locals := 80 }
theorem ci_X5_copy : CIx yX5_copy cX5_copy 8 (some .int) 5 := ⟨wd_303, wd_71, by decide +kernel⟩
def f_X5_copy_90 (N : Nat)  (a0 : Nat) (σ : Mm) : Option (Int32 × Mm) := bI (f_X5_found N a0 (2 : Int32) (σ)) (fun r19 t18 => some (r19, t18))
set_option maxRecDepth 20000 in
theorem w_X5_copy_90 {p : Program} {l : Launch} {e : Env} {s : State} {m : MethodId} {args : Array Value} {below : List Frame} {meth : Method} {c : Code} {E : XE} (N : Nat) (hG : GG E NT 8 RX5 cX5_copy p s m args c) (hr : meth.sig.returnType = (some .int)) (hk : meth.locks = false)  (a0 : Nat) (ha0 : okO 5 a0 = true) (σ : Mm) : JR E NT 8 p l e rm_X5_copy s m args below meth c 0 0 (fun r => MQ below (xQi E (NT + 0) r) args s 0 0 (xA E)) 90 [(0, .ref (E.B + a0))] [] σ (f_X5_copy_90 N a0 σ) := by
  show JR E NT 8 p l e rm_X5_copy s m args below meth c 0 0 (fun r => MQ below (xQi E (NT + 0) r) args s 0 0 (xA E)) 90 [(0, .ref (E.B + a0))] [] σ (bI (f_X5_found N a0 (2 : Int32) (σ)) (fun r19 t18 => some (r19, t18)))
  refine jr_aload_n hG 0 dX5_copy_90 rfl rfl ?_
  refine jr_iconst (v := (2 : Int32)) hG dX5_copy_91 (by decide) ?_
  refine jr_callVi (As := [.int (2 : Int32)]) hG (c_X5_found l E N a0 (2 : Int32) (σ)) ci_X5_found wd_276 ⟨wd_278, wd_0⟩ cl_5 (okO_s ha0) (okO_l ha0) ⟨rfl, rfl, Nat.le_of_ble_eq_true rfl, Nat.le_of_ble_eq_true rfl⟩ rfl rfl (Nat.le_of_ble_eq_true rfl) dX5_copy_92 ⟨Nat.le_refl _, Nat.le_refl _⟩ (fun r19 t18 => ?_)
  exact jr_iret hG hr hk dX5_copy_95
def f_X5_copy_61 (N : Nat)  (a0 : Nat) (σ : Mm) : Option (Int32 × Mm) := bI (f_X5_found N a0 (1 : Int32) (σ)) (fun r21 t20 => some (r21, t20))
set_option maxRecDepth 20000 in
theorem w_X5_copy_61 {p : Program} {l : Launch} {e : Env} {s : State} {m : MethodId} {args : Array Value} {below : List Frame} {meth : Method} {c : Code} {E : XE} (N : Nat) (hG : GG E NT 8 RX5 cX5_copy p s m args c) (hr : meth.sig.returnType = (some .int)) (hk : meth.locks = false)  (a0 : Nat) (ha0 : okO 5 a0 = true) (σ : Mm) : JR E NT 8 p l e rm_X5_copy s m args below meth c 0 0 (fun r => MQ below (xQi E (NT + 0) r) args s 0 0 (xA E)) 61 [(0, .ref (E.B + a0))] [] σ (f_X5_copy_61 N a0 σ) := by
  show JR E NT 8 p l e rm_X5_copy s m args below meth c 0 0 (fun r => MQ below (xQi E (NT + 0) r) args s 0 0 (xA E)) 61 [(0, .ref (E.B + a0))] [] σ (bI (f_X5_found N a0 (1 : Int32) (σ)) (fun r21 t20 => some (r21, t20)))
  refine jr_aload_n hG 0 dX5_copy_61 rfl rfl ?_
  refine jr_iconst (v := (1 : Int32)) hG dX5_copy_62 (by decide) ?_
  refine jr_callVi (As := [.int (1 : Int32)]) hG (c_X5_found l E N a0 (1 : Int32) (σ)) ci_X5_found wd_276 ⟨wd_278, wd_0⟩ cl_5 (okO_s ha0) (okO_l ha0) ⟨rfl, rfl, Nat.le_of_ble_eq_true rfl, Nat.le_of_ble_eq_true rfl⟩ rfl rfl (Nat.le_of_ble_eq_true rfl) dX5_copy_63 ⟨Nat.le_refl _, Nat.le_refl _⟩ (fun r21 t20 => ?_)
  exact jr_iret hG hr hk dX5_copy_66
def f_X5_copy (N : Nat) (a0 : Nat) (v1 : Int32) (v2 : Int32) (v3 : Int32) (v4 : Int32) (v5 : Int32) (σ : Mm) : Option (Int32 × Mm) := if okO 5 a0 then (bI (f_X5_isRow N v1 (σ)) (fun r2 t1 => if r2 = 0 then (some ((-1 : Int32), t1)) else (bI (f_X5_isRow N v3 t1) (fun r4 t3 => if r4 = 0 then (some ((-1 : Int32), t3)) else (if 0 ≤ v5 then (bR (gr t3 a0 0) (okA 3) (fun o5 => if inb v1 (arL o5) then (bR (gr t3 o5 (ix v1)) (okO 3) (fun o6 => bR (gr t3 a0 0) (okA 3) (fun o7 => if inb v3 (arL o7) then (bR (gr t3 o7 (ix v3)) (okO 3) (fun o8 => if (gi t3 o6 1) = (-1 : Int32) then (f_X5_copy_61 N a0 t3) else (if (gi t3 o8 1) = (-1 : Int32) then (f_X5_copy_61 N a0 t3) else (bI (f_X3_hasFrom N o6 v2 v5 t3) (fun r10 t9 => if r10 = 0 then (f_X5_copy_90 N a0 t9) else (bI (f_X3_hasFrom N o8 v4 v5 t9) (fun r12 t11 => if r12 = 0 then (f_X5_copy_90 N a0 t11) else (bR (gr t11 o6 0) (okA 0) (fun o13 => bR (gr t11 o8 0) (okA 0) (fun o14 => if acOK v2 v4 v5 (arL o13) (arL o14) then (lt (cpI t11 o13 o14 (ix v2) (ix v4) (ix v5)) (fun t15 => some ((1 : Int32), t15))) else none)))))))))) else none))) else none)) else (bI (f_X5_found N a0 (5 : Int32) t3) (fun r17 t16 => some (r17, t16)))))))) else none
set_option maxRecDepth 20000 in
theorem c_X5_copy (l : Launch) (E : XE) (N : Nat) (a0 : Nat) (v1 : Int32) (v2 : Int32) (v3 : Int32) (v4 : Int32) (v5 : Int32) (σ : Mm) : ∀ r0, f_X5_copy N a0 v1 v2 v3 v4 v5 σ = some r0 → Met l yX5_copy [Cond.code yX5_copy cX5_copy 8 (some .int)] rm_X5_copy (xPc E (NT + 0) σ [.ref (E.B + a0), .int v1, .int v2, .int v3, .int v4, .int v5]) (xQi E (NT + 0) r0) 0 0 (xA E) := by
  refine met_of (N0 := NT) (by decide +kernel) (Nat.le_of_ble_eq_true rfl) ?_
  intro p e s m args below meth c hG hr hk _
  show JR E NT 8 p l e rm_X5_copy s m args below meth c 0 0 (fun r => MQ below (xQi E (NT + 0) r) args s 0 0 (xA E)) 0 [(0, .ref (E.B + a0)), (1, .int v1), (2, .int v2), (3, .int v3), (4, .int v4), (5, .int v5)] [] σ (if okO 5 a0 then (bI (f_X5_isRow N v1 (σ)) (fun r2 t1 => if r2 = 0 then (some ((-1 : Int32), t1)) else (bI (f_X5_isRow N v3 t1) (fun r4 t3 => if r4 = 0 then (some ((-1 : Int32), t3)) else (if 0 ≤ v5 then (bR (gr t3 a0 0) (okA 3) (fun o5 => if inb v1 (arL o5) then (bR (gr t3 o5 (ix v1)) (okO 3) (fun o6 => bR (gr t3 a0 0) (okA 3) (fun o7 => if inb v3 (arL o7) then (bR (gr t3 o7 (ix v3)) (okO 3) (fun o8 => if (gi t3 o6 1) = (-1 : Int32) then (f_X5_copy_61 N a0 t3) else (if (gi t3 o8 1) = (-1 : Int32) then (f_X5_copy_61 N a0 t3) else (bI (f_X3_hasFrom N o6 v2 v5 t3) (fun r10 t9 => if r10 = 0 then (f_X5_copy_90 N a0 t9) else (bI (f_X3_hasFrom N o8 v4 v5 t9) (fun r12 t11 => if r12 = 0 then (f_X5_copy_90 N a0 t11) else (bR (gr t11 o6 0) (okA 0) (fun o13 => bR (gr t11 o8 0) (okA 0) (fun o14 => if acOK v2 v4 v5 (arL o13) (arL o14) then (lt (cpI t11 o13 o14 (ix v2) (ix v4) (ix v5)) (fun t15 => some ((1 : Int32), t15))) else none)))))))))) else none))) else none)) else (bI (f_X5_found N a0 (5 : Int32) t3) (fun r17 t16 => some (r17, t16)))))))) else none)
  refine jr_guard (fun ha0 => ?_)
  refine jr_iload_n hG 1 dX5_copy_0 rfl rfl ?_
  refine jr_callSi (As := [.int v1]) hG (c_X5_isRow l E N v1 (σ)) ci_X5_isRow wd_273 wd_274 ⟨rfl, rfl, Nat.le_of_ble_eq_true rfl, Nat.le_of_ble_eq_true rfl⟩ rfl rfl (Nat.le_of_ble_eq_true rfl) dX5_copy_1 ⟨Nat.le_refl _, Nat.le_refl _⟩ (fun r2 t1 => ?_)
  refine jr_if_eq hG 14 dX5_copy_4 (by decide) (fun _ => ?_) (fun _ => ?_)
  · refine jr_iconst (v := (-1 : Int32)) hG dX5_copy_14 (by decide) ?_
    exact jr_iret hG hr hk dX5_copy_15
  · refine jr_iload_n hG 3 dX5_copy_7 rfl rfl ?_
    refine jr_callSi (As := [.int v3]) hG (c_X5_isRow l E N v3 t1) ci_X5_isRow wd_273 wd_274 ⟨rfl, rfl, Nat.le_of_ble_eq_true rfl, Nat.le_of_ble_eq_true rfl⟩ rfl rfl (Nat.le_of_ble_eq_true rfl) dX5_copy_8 ⟨Nat.le_refl _, Nat.le_refl _⟩ (fun r4 t3 => ?_)
    refine jr_if_ne hG 16 dX5_copy_11 (by decide) (fun _ => ?_) (fun _ => ?_)
    · refine jr_iload hG 5 dX5_copy_16 rfl ?_
      refine jr_if_ge hG 27 dX5_copy_18 (by decide) (fun _ => ?_) (fun _ => ?_)
      · refine jr_aload_n hG 0 dX5_copy_27 rfl rfl ?_
        refine jr_getR hG fi_RX5_11 rfl (okO_s ha0) (okO_l ha0) dX5_copy_28 (fun o5 ho5 => ?_)
        refine jr_iload_n hG 1 dX5_copy_31 rfl rfl ?_
        refine jr_aald hG (okA_s (by decide) ho5) (by decide) rfl (okA_l ho5) dX5_copy_32 (fun o6 ho6 => ?_)
        refine jr_astore (lv' := [(6, .ref (E.B + o6)), (0, .ref (E.B + a0)), (1, .int v1), (2, .int v2), (3, .int v3), (4, .int v4), (5, .int v5)]) hG dX5_copy_33 (by decide) rfl ?_
        refine jr_aload_n hG 1 dX5_copy_35 rfl rfl ?_
        refine jr_getR hG fi_RX5_11 rfl (okO_s ha0) (okO_l ha0) dX5_copy_36 (fun o7 ho7 => ?_)
        refine jr_iload_n hG 4 dX5_copy_39 rfl rfl ?_
        refine jr_aald hG (okA_s (by decide) ho7) (by decide) rfl (okA_l ho7) dX5_copy_40 (fun o8 ho8 => ?_)
        refine jr_astore (lv' := [(7, .ref (E.B + o8)), (6, .ref (E.B + o6)), (0, .ref (E.B + a0)), (1, .int v1), (2, .int v2), (3, .int v3), (4, .int v4), (5, .int v5)]) hG dX5_copy_41 (by decide) rfl ?_
        refine jr_aload hG 1 dX5_copy_43 rfl ?_
        refine jr_getI hG fi_RX5_90 rfl (okO_s ho6) (okO_l ho6) dX5_copy_45 ?_
        refine jr_iconst (v := (-1 : Int32)) hG dX5_copy_48 (by decide) ?_
        refine jr_icmp_eq hG 61 dX5_copy_49 (by decide) (fun _ => ?_) (fun _ => ?_)
        · refine jr_sub (lv' := [(0, .ref (E.B + a0))]) [2] rfl ?_
          exact w_X5_copy_61 N hG hr hk a0 ha0 t3
        · refine jr_aload hG 0 dX5_copy_52 rfl ?_
          refine jr_getI hG fi_RX5_90 rfl (okO_s ho8) (okO_l ho8) dX5_copy_54 ?_
          refine jr_iconst (v := (-1 : Int32)) hG dX5_copy_57 (by decide) ?_
          refine jr_icmp_ne hG 67 dX5_copy_58 (by decide) (fun _ => ?_) (fun _ => ?_)
          · refine jr_aload hG 1 dX5_copy_67 rfl ?_
            refine jr_iload_n hG 4 dX5_copy_69 rfl rfl ?_
            refine jr_iload hG 7 dX5_copy_70 rfl ?_
            refine jr_callVi (As := [.int v2, .int v5]) hG (c_X3_hasFrom l E N o6 v2 v5 t3) ci_X3_hasFrom wd_304 ⟨wd_305, wd_306⟩ cl_3 (okO_s ho6) (okO_l ho6) ⟨rfl, rfl, Nat.le_of_ble_eq_true rfl, Nat.le_of_ble_eq_true rfl⟩ rfl rfl (Nat.le_of_ble_eq_true rfl) dX5_copy_72 ⟨Nat.le_refl _, Nat.le_refl _⟩ (fun r10 t9 => ?_)
            refine jr_if_eq hG 90 dX5_copy_75 (by decide) (fun _ => ?_) (fun _ => ?_)
            · refine jr_sub (lv' := [(0, .ref (E.B + a0))]) [2] rfl ?_
              exact w_X5_copy_90 N hG hr hk a0 ha0 t9
            · refine jr_aload hG 0 dX5_copy_78 rfl ?_
              refine jr_iload hG 6 dX5_copy_80 rfl ?_
              refine jr_iload hG 7 dX5_copy_82 rfl ?_
              refine jr_callVi (As := [.int v4, .int v5]) hG (c_X3_hasFrom l E N o8 v4 v5 t9) ci_X3_hasFrom wd_304 ⟨wd_305, wd_306⟩ cl_3 (okO_s ho8) (okO_l ho8) ⟨rfl, rfl, Nat.le_of_ble_eq_true rfl, Nat.le_of_ble_eq_true rfl⟩ rfl rfl (Nat.le_of_ble_eq_true rfl) dX5_copy_84 ⟨Nat.le_refl _, Nat.le_refl _⟩ (fun r12 t11 => ?_)
              refine jr_if_ne hG 96 dX5_copy_87 (by decide) (fun _ => ?_) (fun _ => ?_)
              · refine jr_aload hG 1 dX5_copy_96 rfl ?_
                refine jr_getR hG fi_RX5_94 rfl (okO_s ho6) (okO_l ho6) dX5_copy_98 (fun o13 ho13 => ?_)
                refine jr_iload_n hG 4 dX5_copy_101 rfl rfl ?_
                refine jr_aload hG 0 dX5_copy_102 rfl ?_
                refine jr_getR hG fi_RX5_94 rfl (okO_s ho8) (okO_l ho8) dX5_copy_104 (fun o14 ho14 => ?_)
                refine jr_iload hG 6 dX5_copy_107 rfl ?_
                refine jr_iload hG 7 dX5_copy_109 rfl ?_
                refine jr_acopy hG wd_308 (okA_s (by decide) ho13) (okA_s (by decide) ho14) (okA_l ho13) (okA_l ho14) wd_310 wd_309 wd_78 (by decide) (by decide) dX5_copy_111 ?_
                refine jr_lets (fun t15 _ => ?_)
                refine jr_iconst (v := (1 : Int32)) hG dX5_copy_114 (by decide) ?_
                exact jr_iret hG hr hk dX5_copy_115
              · refine jr_sub (lv' := [(0, .ref (E.B + a0))]) [2] rfl ?_
                exact w_X5_copy_90 N hG hr hk a0 ha0 t11
          · refine jr_sub (lv' := [(0, .ref (E.B + a0))]) [2] rfl ?_
            exact w_X5_copy_61 N hG hr hk a0 ha0 t3
      · refine jr_aload_n hG 0 dX5_copy_21 rfl rfl ?_
        refine jr_iconst (v := (5 : Int32)) hG dX5_copy_22 (by decide) ?_
        refine jr_callVi (As := [.int (5 : Int32)]) hG (c_X5_found l E N a0 (5 : Int32) t3) ci_X5_found wd_276 ⟨wd_278, wd_0⟩ cl_5 (okO_s ha0) (okO_l ha0) ⟨rfl, rfl, Nat.le_of_ble_eq_true rfl, Nat.le_of_ble_eq_true rfl⟩ rfl rfl (Nat.le_of_ble_eq_true rfl) dX5_copy_23 ⟨Nat.le_refl _, Nat.le_refl _⟩ (fun r17 t16 => ?_)
        exact jr_iret hG hr hk dX5_copy_26
    · refine jr_iconst (v := (-1 : Int32)) hG dX5_copy_14 (by decide) ?_
      exact jr_iret hG hr hk dX5_copy_15
-- TonguesDealt.mean(I)I
abbrev rm_X5_mean : Room := { frames := 1, cells := 0, slots := 0, locals := 23 }
theorem ci_X5_mean : CIx yX5_mean cX5_mean 3 (some .int) 1 := ⟨wd_314, wd_71, by decide +kernel⟩
def f_X5_mean (N : Nat) (a0 : Nat) (v1 : Int32) (σ : Mm) : Option (Int32 × Mm) := if okO 5 a0 then (bI (f_X5_isRow N v1 (σ)) (fun r2 t1 => if r2 = 0 then (some ((-1 : Int32), t1)) else (bR (gr t1 a0 0) (okA 3) (fun o3 => if inb v1 (arL o3) then (bR (gr t1 o3 (ix v1)) (okO 3) (fun o4 => if (gi t1 o4 1) = (-1 : Int32) then (bI (f_X5_found N a0 (1 : Int32) t1) (fun r11 t10 => some (r11, t10))) else (if (gi t1 o4 1) = 0 then (bI (f_X5_found N a0 (4 : Int32) t1) (fun r9 t8 => some (r9, t8))) else (bL (f_X3_sum N o4 t1) (fun r6 t5 => if ((gi t5 o4 1).toInt64) = 0 then none else lt (si t5 a0 11 ((r6 / ((gi t5 o4 1).toInt64)).toInt32)) (fun t7 => some ((1 : Int32), t7))))))) else none)))) else none
set_option maxRecDepth 20000 in
theorem c_X5_mean (l : Launch) (E : XE) (N : Nat) (a0 : Nat) (v1 : Int32) (σ : Mm) : ∀ r0, f_X5_mean N a0 v1 σ = some r0 → Met l yX5_mean [Cond.code yX5_mean cX5_mean 3 (some .int)] rm_X5_mean (xPc E (NT + 0) σ [.ref (E.B + a0), .int v1]) (xQi E (NT + 0) r0) 0 0 (xA E) := by
  refine met_of (N0 := NT) (by decide +kernel) (Nat.le_of_ble_eq_true rfl) ?_
  intro p e s m args below meth c hG hr hk _
  show JR E NT 3 p l e rm_X5_mean s m args below meth c 0 0 (fun r => MQ below (xQi E (NT + 0) r) args s 0 0 (xA E)) 0 [(0, .ref (E.B + a0)), (1, .int v1)] [] σ (if okO 5 a0 then (bI (f_X5_isRow N v1 (σ)) (fun r2 t1 => if r2 = 0 then (some ((-1 : Int32), t1)) else (bR (gr t1 a0 0) (okA 3) (fun o3 => if inb v1 (arL o3) then (bR (gr t1 o3 (ix v1)) (okO 3) (fun o4 => if (gi t1 o4 1) = (-1 : Int32) then (bI (f_X5_found N a0 (1 : Int32) t1) (fun r11 t10 => some (r11, t10))) else (if (gi t1 o4 1) = 0 then (bI (f_X5_found N a0 (4 : Int32) t1) (fun r9 t8 => some (r9, t8))) else (bL (f_X3_sum N o4 t1) (fun r6 t5 => if ((gi t5 o4 1).toInt64) = 0 then none else lt (si t5 a0 11 ((r6 / ((gi t5 o4 1).toInt64)).toInt32)) (fun t7 => some ((1 : Int32), t7))))))) else none)))) else none)
  refine jr_guard (fun ha0 => ?_)
  refine jr_iload_n hG 1 dX5_mean_0 rfl rfl ?_
  refine jr_callSi (As := [.int v1]) hG (c_X5_isRow l E N v1 (σ)) ci_X5_isRow wd_273 wd_274 ⟨rfl, rfl, Nat.le_of_ble_eq_true rfl, Nat.le_of_ble_eq_true rfl⟩ rfl rfl (Nat.le_of_ble_eq_true rfl) dX5_mean_1 ⟨Nat.le_refl _, Nat.le_refl _⟩ (fun r2 t1 => ?_)
  refine jr_if_ne hG 9 dX5_mean_4 (by decide) (fun _ => ?_) (fun _ => ?_)
  · refine jr_aload_n hG 0 dX5_mean_9 rfl rfl ?_
    refine jr_getR hG fi_RX5_11 rfl (okO_s ha0) (okO_l ha0) dX5_mean_10 (fun o3 ho3 => ?_)
    refine jr_iload_n hG 1 dX5_mean_13 rfl rfl ?_
    refine jr_aald hG (okA_s (by decide) ho3) (by decide) rfl (okA_l ho3) dX5_mean_14 (fun o4 ho4 => ?_)
    refine jr_astore_n (lv' := [(2, .ref (E.B + o4)), (0, .ref (E.B + a0)), (1, .int v1)]) hG dX5_mean_15 rfl (by decide) rfl ?_
    refine jr_aload_n hG 0 dX5_mean_16 rfl rfl ?_
    refine jr_getI hG fi_RX5_90 rfl (okO_s ho4) (okO_l ho4) dX5_mean_17 ?_
    refine jr_iconst (v := (-1 : Int32)) hG dX5_mean_20 (by decide) ?_
    refine jr_icmp_ne hG 30 dX5_mean_21 (by decide) (fun _ => ?_) (fun _ => ?_)
    · refine jr_aload_n hG 0 dX5_mean_30 rfl rfl ?_
      refine jr_getI hG fi_RX5_90 rfl (okO_s ho4) (okO_l ho4) dX5_mean_31 ?_
      refine jr_if_ne hG 43 dX5_mean_34 (by decide) (fun _ => ?_) (fun _ => ?_)
      · refine jr_aload_n hG 1 dX5_mean_43 rfl rfl ?_
        refine jr_aload_n hG 0 dX5_mean_44 rfl rfl ?_
        refine jr_callVl (As := []) hG (c_X3_sum l E N o4 t1) ci_X3_sum wd_315 ⟨wd_316, wd_317⟩ cl_3 (okO_s ho4) (okO_l ho4) ⟨rfl, rfl, Nat.le_of_ble_eq_true rfl, Nat.le_of_ble_eq_true rfl⟩ rfl rfl (Nat.le_of_ble_eq_true rfl) dX5_mean_45 ⟨Nat.le_refl _, Nat.le_refl _⟩ (fun r6 t5 => ?_)
        refine jr_aload_n hG 0 dX5_mean_48 rfl rfl ?_
        refine jr_getI hG fi_RX5_90 rfl (okO_s ho4) (okO_l ho4) dX5_mean_49 ?_
        refine jr_i2l hG dX5_mean_52 ?_
        refine jr_ldiv hG dX5_mean_53 ?_
        refine jr_l2i hG dX5_mean_54 ?_
        refine jr_putI hG fi_RX5_63 rfl rfl (okO_s ha0) (okO_l ha0) dX5_mean_55 ?_
        refine jr_lets (fun t7 _ => ?_)
        refine jr_iconst (v := (1 : Int32)) hG dX5_mean_58 (by decide) ?_
        exact jr_iret hG hr hk dX5_mean_59
      · refine jr_aload_n hG 1 dX5_mean_37 rfl rfl ?_
        refine jr_iconst (v := (4 : Int32)) hG dX5_mean_38 (by decide) ?_
        refine jr_callVi (As := [.int (4 : Int32)]) hG (c_X5_found l E N a0 (4 : Int32) t1) ci_X5_found wd_276 ⟨wd_278, wd_0⟩ cl_5 (okO_s ha0) (okO_l ha0) ⟨rfl, rfl, Nat.le_of_ble_eq_true rfl, Nat.le_of_ble_eq_true rfl⟩ rfl rfl (Nat.le_of_ble_eq_true rfl) dX5_mean_39 ⟨Nat.le_refl _, Nat.le_refl _⟩ (fun r9 t8 => ?_)
        exact jr_iret hG hr hk dX5_mean_42
    · refine jr_aload_n hG 1 dX5_mean_24 rfl rfl ?_
      refine jr_iconst (v := (1 : Int32)) hG dX5_mean_25 (by decide) ?_
      refine jr_callVi (As := [.int (1 : Int32)]) hG (c_X5_found l E N a0 (1 : Int32) t1) ci_X5_found wd_276 ⟨wd_278, wd_0⟩ cl_5 (okO_s ha0) (okO_l ha0) ⟨rfl, rfl, Nat.le_of_ble_eq_true rfl, Nat.le_of_ble_eq_true rfl⟩ rfl rfl (Nat.le_of_ble_eq_true rfl) dX5_mean_26 ⟨Nat.le_refl _, Nat.le_refl _⟩ (fun r11 t10 => ?_)
      exact jr_iret hG hr hk dX5_mean_29
  · refine jr_iconst (v := (-1 : Int32)) hG dX5_mean_7 (by decide) ?_
    exact jr_iret hG hr hk dX5_mean_8
-- TonguesDealt.isText(I)Z
abbrev rm_X5_isText : Room := { frames := 0, cells := 0, slots := 0, locals := 0 }
theorem ci_X5_isText : CIx yX5_isText cX5_isText 1 (some .boolean) 1 := ⟨wd_325, wd_71, by decide +kernel⟩
def f_X5_isText (N : Nat) (v0 : Int32) (σ : Mm) : Option (Int32 × Mm) := if v0 < 0 then (some ((0 : Int32), σ)) else (if (4 : Int32) ≤ v0 then (some ((0 : Int32), σ)) else (some ((1 : Int32), σ)))
set_option maxRecDepth 20000 in
theorem c_X5_isText (l : Launch) (E : XE) (N : Nat) (v0 : Int32) (σ : Mm) : ∀ r0, f_X5_isText N v0 σ = some r0 → Met l yX5_isText [Cond.code yX5_isText cX5_isText 1 (some .boolean)] rm_X5_isText (xPc E (NT + 0) σ [.int v0]) (xQi E (NT + 0) r0) 0 0 (xA E) := by
  refine met_of (N0 := NT) (by decide +kernel) (Nat.le_of_ble_eq_true rfl) ?_
  intro p e s m args below meth c hG hr hk _
  show JR E NT 1 p l e rm_X5_isText s m args below meth c 0 0 (fun r => MQ below (xQi E (NT + 0) r) args s 0 0 (xA E)) 0 [(0, .int v0)] [] σ (if v0 < 0 then (some ((0 : Int32), σ)) else (if (4 : Int32) ≤ v0 then (some ((0 : Int32), σ)) else (some ((1 : Int32), σ))))
  refine jr_iload_n hG 0 dX5_isText_0 rfl rfl ?_
  refine jr_if_lt hG 13 dX5_isText_1 (by decide) (fun _ => ?_) (fun _ => ?_)
  · refine jr_iconst (v := (0 : Int32)) hG dX5_isText_13 (by decide) ?_
    exact jr_zret hG hr hk (by decide) dX5_isText_14
  · refine jr_iload_n hG 0 dX5_isText_4 rfl rfl ?_
    refine jr_iconst (v := (4 : Int32)) hG dX5_isText_5 (by decide) ?_
    refine jr_icmp_ge hG 13 dX5_isText_6 (by decide) (fun _ => ?_) (fun _ => ?_)
    · refine jr_iconst (v := (0 : Int32)) hG dX5_isText_13 (by decide) ?_
      exact jr_zret hG hr hk (by decide) dX5_isText_14
    · refine jr_iconst (v := (1 : Int32)) hG dX5_isText_9 (by decide) ?_
      refine jr_goto hG 14 dX5_isText_10 (by decide) ?_
      exact jr_zret hG hr hk (by decide) dX5_isText_14
-- TonguesDealt.text(II)I
abbrev rm_X5_text : Room := { frames := 1, cells := 0, slots := 0, locals := 22 }
theorem ci_X5_text : CIx yX5_text cX5_text 3 (some .int) 2 := ⟨wd_322, wd_71, by decide +kernel⟩
def f_X5_text (N : Nat) (a0 : Nat) (v1 : Int32) (v2 : Int32) (σ : Mm) : Option (Int32 × Mm) := if okO 5 a0 then (bI (f_X5_isText N v1 (σ)) (fun r2 t1 => if r2 = 0 then (some ((-1 : Int32), t1)) else (if v2 ≤ (60 : Int32) then (if 0 ≤ v2 then (bR (gr t1 a0 1) (okA 4) (fun o3 => if inb v1 (arL o3) then (bR (gr t1 o3 (ix v1)) (okO 4) (fun o4 => bV (f_X4_begin N o4 v2 t1) (fun t5 => some (v2, t5)))) else none)) else (bI (f_X5_found N a0 (5 : Int32) t1) (fun r7 t6 => some (r7, t6)))) else (some ((-1 : Int32), t1))))) else none
set_option maxRecDepth 20000 in
theorem c_X5_text (l : Launch) (E : XE) (N : Nat) (a0 : Nat) (v1 : Int32) (v2 : Int32) (σ : Mm) : ∀ r0, f_X5_text N a0 v1 v2 σ = some r0 → Met l yX5_text [Cond.code yX5_text cX5_text 3 (some .int)] rm_X5_text (xPc E (NT + 0) σ [.ref (E.B + a0), .int v1, .int v2]) (xQi E (NT + 0) r0) 0 0 (xA E) := by
  refine met_of (N0 := NT) (by decide +kernel) (Nat.le_of_ble_eq_true rfl) ?_
  intro p e s m args below meth c hG hr hk _
  show JR E NT 3 p l e rm_X5_text s m args below meth c 0 0 (fun r => MQ below (xQi E (NT + 0) r) args s 0 0 (xA E)) 0 [(0, .ref (E.B + a0)), (1, .int v1), (2, .int v2)] [] σ (if okO 5 a0 then (bI (f_X5_isText N v1 (σ)) (fun r2 t1 => if r2 = 0 then (some ((-1 : Int32), t1)) else (if v2 ≤ (60 : Int32) then (if 0 ≤ v2 then (bR (gr t1 a0 1) (okA 4) (fun o3 => if inb v1 (arL o3) then (bR (gr t1 o3 (ix v1)) (okO 4) (fun o4 => bV (f_X4_begin N o4 v2 t1) (fun t5 => some (v2, t5)))) else none)) else (bI (f_X5_found N a0 (5 : Int32) t1) (fun r7 t6 => some (r7, t6)))) else (some ((-1 : Int32), t1))))) else none)
  refine jr_guard (fun ha0 => ?_)
  refine jr_iload_n hG 1 dX5_text_0 rfl rfl ?_
  refine jr_callSi (As := [.int v1]) hG (c_X5_isText l E N v1 (σ)) ci_X5_isText wd_323 wd_324 ⟨rfl, rfl, Nat.le_of_ble_eq_true rfl, Nat.le_of_ble_eq_true rfl⟩ rfl rfl (Nat.le_of_ble_eq_true rfl) dX5_text_1 ⟨Nat.le_refl _, Nat.le_refl _⟩ (fun r2 t1 => ?_)
  refine jr_if_eq hG 13 dX5_text_4 (by decide) (fun _ => ?_) (fun _ => ?_)
  · refine jr_iconst (v := (-1 : Int32)) hG dX5_text_13 (by decide) ?_
    exact jr_iret hG hr hk dX5_text_14
  · refine jr_iload_n hG 2 dX5_text_7 rfl rfl ?_
    refine jr_bipush (v := (60 : Int32)) hG dX5_text_8 (by decide) ?_
    refine jr_icmp_le hG 15 dX5_text_10 (by decide) (fun _ => ?_) (fun _ => ?_)
    · refine jr_iload_n hG 2 dX5_text_15 rfl rfl ?_
      refine jr_if_ge hG 25 dX5_text_16 (by decide) (fun _ => ?_) (fun _ => ?_)
      · refine jr_aload_n hG 0 dX5_text_25 rfl rfl ?_
        refine jr_getR hG fi_RX5_17 rfl (okO_s ha0) (okO_l ha0) dX5_text_26 (fun o3 ho3 => ?_)
        refine jr_iload_n hG 1 dX5_text_29 rfl rfl ?_
        refine jr_aald hG (okA_s (by decide) ho3) (by decide) rfl (okA_l ho3) dX5_text_30 (fun o4 ho4 => ?_)
        refine jr_iload_n hG 2 dX5_text_31 rfl rfl ?_
        refine jr_callVv (As := [.int v2]) hG (c_X4_begin l E N o4 v2 t1) ci_X4_begin wd_326 ⟨wd_327, wd_328⟩ cl_4 (okO_s ho4) (okO_l ho4) ⟨rfl, rfl, Nat.le_of_ble_eq_true rfl, Nat.le_of_ble_eq_true rfl⟩ rfl rfl (Nat.le_of_ble_eq_true rfl) dX5_text_32 ⟨Nat.le_refl _, Nat.le_refl _⟩ (fun t5 => ?_)
        refine jr_iload_n hG 2 dX5_text_35 rfl rfl ?_
        exact jr_iret hG hr hk dX5_text_36
      · refine jr_aload_n hG 0 dX5_text_19 rfl rfl ?_
        refine jr_iconst (v := (5 : Int32)) hG dX5_text_20 (by decide) ?_
        refine jr_callVi (As := [.int (5 : Int32)]) hG (c_X5_found l E N a0 (5 : Int32) t1) ci_X5_found wd_276 ⟨wd_278, wd_0⟩ cl_5 (okO_s ha0) (okO_l ha0) ⟨rfl, rfl, Nat.le_of_ble_eq_true rfl, Nat.le_of_ble_eq_true rfl⟩ rfl rfl (Nat.le_of_ble_eq_true rfl) dX5_text_21 ⟨Nat.le_refl _, Nat.le_refl _⟩ (fun r7 t6 => ?_)
        exact jr_iret hG hr hk dX5_text_24
    · refine jr_iconst (v := (-1 : Int32)) hG dX5_text_13 (by decide) ?_
      exact jr_iret hG hr hk dX5_text_14
-- TonguesDealt.put(III)I
abbrev rm_X5_put : Room := { frames := 1, cells := 0, slots := 0, locals := 21 }
theorem ci_X5_put : CIx yX5_put cX5_put 6 (some .int) 3 := ⟨wd_333, wd_71, by decide +kernel⟩
def f_X5_put_45 (N : Nat)  (a0 : Nat) (σ : Mm) : Option (Int32 × Mm) := bI (f_X5_found N a0 (2 : Int32) (σ)) (fun r12 t11 => some (r12, t11))
set_option maxRecDepth 20000 in
theorem w_X5_put_45 {p : Program} {l : Launch} {e : Env} {s : State} {m : MethodId} {args : Array Value} {below : List Frame} {meth : Method} {c : Code} {E : XE} (N : Nat) (hG : GG E NT 6 RX5 cX5_put p s m args c) (hr : meth.sig.returnType = (some .int)) (hk : meth.locks = false)  (a0 : Nat) (ha0 : okO 5 a0 = true) (σ : Mm) : JR E NT 6 p l e rm_X5_put s m args below meth c 0 0 (fun r => MQ below (xQi E (NT + 0) r) args s 0 0 (xA E)) 45 [(0, .ref (E.B + a0))] [] σ (f_X5_put_45 N a0 σ) := by
  show JR E NT 6 p l e rm_X5_put s m args below meth c 0 0 (fun r => MQ below (xQi E (NT + 0) r) args s 0 0 (xA E)) 45 [(0, .ref (E.B + a0))] [] σ (bI (f_X5_found N a0 (2 : Int32) (σ)) (fun r12 t11 => some (r12, t11)))
  refine jr_aload_n hG 0 dX5_put_45 rfl rfl ?_
  refine jr_iconst (v := (2 : Int32)) hG dX5_put_46 (by decide) ?_
  refine jr_callVi (As := [.int (2 : Int32)]) hG (c_X5_found l E N a0 (2 : Int32) (σ)) ci_X5_found wd_276 ⟨wd_278, wd_0⟩ cl_5 (okO_s ha0) (okO_l ha0) ⟨rfl, rfl, Nat.le_of_ble_eq_true rfl, Nat.le_of_ble_eq_true rfl⟩ rfl rfl (Nat.le_of_ble_eq_true rfl) dX5_put_47 ⟨Nat.le_refl _, Nat.le_refl _⟩ (fun r12 t11 => ?_)
  exact jr_iret hG hr hk dX5_put_50
def f_X5_put (N : Nat) (a0 : Nat) (v1 : Int32) (v2 : Int32) (v3 : Int32) (σ : Mm) : Option (Int32 × Mm) := if okO 5 a0 then (bI (f_X5_isText N v1 (σ)) (fun r2 t1 => if r2 = 0 then (some ((-1 : Int32), t1)) else (bR (gr t1 a0 1) (okA 4) (fun o3 => if inb v1 (arL o3) then (bR (gr t1 o3 (ix v1)) (okO 4) (fun o4 => if (gi t1 o4 1) = (-1 : Int32) then (bI (f_X5_found N a0 (1 : Int32) t1) (fun r10 t9 => some (r10, t9))) else (if v2 < 0 then (f_X5_put_45 N a0 t1) else (if v2 < (gi t1 o4 1) then (bR (gr t1 o4 0) (okA 1) (fun o5 => if inb v2 (arL o5) then (lt (gi t1 o5 (ix v2)) (fun x6 => bR (gr t1 o4 0) (okA 1) (fun o7 => if inb v2 (arL o7) then (lt (si t1 o7 (ix v2) ((v3.toInt8.toInt32).toInt8.toInt32)) (fun t8 => some (x6 + (1000 : Int32), t8))) else none))) else none)) else (f_X5_put_45 N a0 t1))))) else none)))) else none
set_option maxRecDepth 20000 in
theorem c_X5_put (l : Launch) (E : XE) (N : Nat) (a0 : Nat) (v1 : Int32) (v2 : Int32) (v3 : Int32) (σ : Mm) : ∀ r0, f_X5_put N a0 v1 v2 v3 σ = some r0 → Met l yX5_put [Cond.code yX5_put cX5_put 6 (some .int)] rm_X5_put (xPc E (NT + 0) σ [.ref (E.B + a0), .int v1, .int v2, .int v3]) (xQi E (NT + 0) r0) 0 0 (xA E) := by
  refine met_of (N0 := NT) (by decide +kernel) (Nat.le_of_ble_eq_true rfl) ?_
  intro p e s m args below meth c hG hr hk _
  show JR E NT 6 p l e rm_X5_put s m args below meth c 0 0 (fun r => MQ below (xQi E (NT + 0) r) args s 0 0 (xA E)) 0 [(0, .ref (E.B + a0)), (1, .int v1), (2, .int v2), (3, .int v3)] [] σ (if okO 5 a0 then (bI (f_X5_isText N v1 (σ)) (fun r2 t1 => if r2 = 0 then (some ((-1 : Int32), t1)) else (bR (gr t1 a0 1) (okA 4) (fun o3 => if inb v1 (arL o3) then (bR (gr t1 o3 (ix v1)) (okO 4) (fun o4 => if (gi t1 o4 1) = (-1 : Int32) then (bI (f_X5_found N a0 (1 : Int32) t1) (fun r10 t9 => some (r10, t9))) else (if v2 < 0 then (f_X5_put_45 N a0 t1) else (if v2 < (gi t1 o4 1) then (bR (gr t1 o4 0) (okA 1) (fun o5 => if inb v2 (arL o5) then (lt (gi t1 o5 (ix v2)) (fun x6 => bR (gr t1 o4 0) (okA 1) (fun o7 => if inb v2 (arL o7) then (lt (si t1 o7 (ix v2) ((v3.toInt8.toInt32).toInt8.toInt32)) (fun t8 => some (x6 + (1000 : Int32), t8))) else none))) else none)) else (f_X5_put_45 N a0 t1))))) else none)))) else none)
  refine jr_guard (fun ha0 => ?_)
  refine jr_iload_n hG 1 dX5_put_0 rfl rfl ?_
  refine jr_callSi (As := [.int v1]) hG (c_X5_isText l E N v1 (σ)) ci_X5_isText wd_323 wd_324 ⟨rfl, rfl, Nat.le_of_ble_eq_true rfl, Nat.le_of_ble_eq_true rfl⟩ rfl rfl (Nat.le_of_ble_eq_true rfl) dX5_put_1 ⟨Nat.le_refl _, Nat.le_refl _⟩ (fun r2 t1 => ?_)
  refine jr_if_ne hG 9 dX5_put_4 (by decide) (fun _ => ?_) (fun _ => ?_)
  · refine jr_aload_n hG 0 dX5_put_9 rfl rfl ?_
    refine jr_getR hG fi_RX5_17 rfl (okO_s ha0) (okO_l ha0) dX5_put_10 (fun o3 ho3 => ?_)
    refine jr_iload_n hG 1 dX5_put_13 rfl rfl ?_
    refine jr_aald hG (okA_s (by decide) ho3) (by decide) rfl (okA_l ho3) dX5_put_14 (fun o4 ho4 => ?_)
    refine jr_astore (lv' := [(4, .ref (E.B + o4)), (0, .ref (E.B + a0)), (1, .int v1), (2, .int v2), (3, .int v3)]) hG dX5_put_15 (by decide) rfl ?_
    refine jr_aload hG 0 dX5_put_17 rfl ?_
    refine jr_getI hG fi_RX5_115 rfl (okO_s ho4) (okO_l ho4) dX5_put_19 ?_
    refine jr_iconst (v := (-1 : Int32)) hG dX5_put_22 (by decide) ?_
    refine jr_icmp_ne hG 32 dX5_put_23 (by decide) (fun _ => ?_) (fun _ => ?_)
    · refine jr_iload_n hG 3 dX5_put_32 rfl rfl ?_
      refine jr_if_lt hG 45 dX5_put_33 (by decide) (fun _ => ?_) (fun _ => ?_)
      · refine jr_sub (lv' := [(0, .ref (E.B + a0))]) [1] rfl ?_
        exact w_X5_put_45 N hG hr hk a0 ha0 t1
      · refine jr_iload_n hG 3 dX5_put_36 rfl rfl ?_
        refine jr_aload hG 0 dX5_put_37 rfl ?_
        refine jr_getI hG fi_RX5_115 rfl (okO_s ho4) (okO_l ho4) dX5_put_39 ?_
        refine jr_icmp_lt hG 51 dX5_put_42 (by decide) (fun _ => ?_) (fun _ => ?_)
        · refine jr_aload hG 0 dX5_put_51 rfl ?_
          refine jr_getR hG fi_RX5_116 rfl (okO_s ho4) (okO_l ho4) dX5_put_53 (fun o5 ho5 => ?_)
          refine jr_iload_n hG 3 dX5_put_56 rfl rfl ?_
          refine jr_bald hG (okA_s (by decide) ho5) (okA_l ho5) dX5_put_57 ?_
          refine jr_leti (fun x6 _ => ?_)
          refine jr_istore (lv' := [(5, .int x6), (4, .ref (E.B + o4)), (0, .ref (E.B + a0)), (1, .int v1), (2, .int v2), (3, .int v3)]) hG dX5_put_58 (by decide) rfl ?_
          refine jr_aload hG 1 dX5_put_60 rfl ?_
          refine jr_getR hG fi_RX5_116 rfl (okO_s ho4) (okO_l ho4) dX5_put_62 (fun o7 ho7 => ?_)
          refine jr_iload_n hG 4 dX5_put_65 rfl rfl ?_
          refine jr_iload_n hG 5 dX5_put_66 rfl rfl ?_
          refine jr_i2b hG dX5_put_67 ?_
          refine jr_bast hG (okA_s (by decide) ho7) (okA_l ho7) dX5_put_68 ?_
          refine jr_lets (fun t8 _ => ?_)
          refine jr_iload hG 0 dX5_put_69 rfl ?_
          refine jr_sipush (v := (1000 : Int32)) hG dX5_put_71 (by decide) ?_
          refine jr_iadd hG dX5_put_74 ?_
          exact jr_iret hG hr hk dX5_put_75
        · refine jr_sub (lv' := [(0, .ref (E.B + a0))]) [1] rfl ?_
          exact w_X5_put_45 N hG hr hk a0 ha0 t1
    · refine jr_aload_n hG 1 dX5_put_26 rfl rfl ?_
      refine jr_iconst (v := (1 : Int32)) hG dX5_put_27 (by decide) ?_
      refine jr_callVi (As := [.int (1 : Int32)]) hG (c_X5_found l E N a0 (1 : Int32) t1) ci_X5_found wd_276 ⟨wd_278, wd_0⟩ cl_5 (okO_s ha0) (okO_l ha0) ⟨rfl, rfl, Nat.le_of_ble_eq_true rfl, Nat.le_of_ble_eq_true rfl⟩ rfl rfl (Nat.le_of_ble_eq_true rfl) dX5_put_28 ⟨Nat.le_refl _, Nat.le_refl _⟩ (fun r10 t9 => ?_)
      exact jr_iret hG hr hk dX5_put_31
  · refine jr_iconst (v := (-1 : Int32)) hG dX5_put_7 (by decide) ?_
    exact jr_iret hG hr hk dX5_put_8
-- TonguesDealt.fault(I)I
abbrev rm_X5_fault : Room := { frames := 4, cells := 0, slots := 0, locals := 92 }
theorem ci_X5_fault : CIx yX5_fault cX5_fault 2 (some .int) 1 := ⟨wd_337, wd_71, by decide +kernel⟩
def f_X5_fault (N : Nat) (a0 : Nat) (v1 : Int32) (σ : Mm) : Option (Int32 × Mm) := if okO 5 a0 then (bI (f_X5_isText N v1 (σ)) (fun r2 t1 => if r2 = 0 then (some ((-1 : Int32), t1)) else (bR (gr t1 a0 1) (okA 4) (fun o3 => if inb v1 (arL o3) then (bR (gr t1 o3 (ix v1)) (okO 4) (fun o4 => if (gi t1 o4 1) = (-1 : Int32) then (bI (f_X5_found N a0 (1 : Int32) t1) (fun r11 t10 => some (r11, t10))) else (bR (gr t1 a0 7) (okO 2) (fun o5 => bR (gr t1 a0 1) (okA 4) (fun o6 => if inb v1 (arL o6) then (bR (gr t1 o6 (ix v1)) (okO 4) (fun o7 => bI (f_X2_read N o5 o7 t1) (fun r9 t8 => some (r9, t8)))) else none))))) else none)))) else none
set_option maxRecDepth 20000 in
theorem c_X5_fault (l : Launch) (E : XE) (N : Nat) (a0 : Nat) (v1 : Int32) (σ : Mm) : ∀ r0, f_X5_fault N a0 v1 σ = some r0 → Met l yX5_fault [Cond.code yX5_fault cX5_fault 2 (some .int)] rm_X5_fault (xPc E (NT + 0) σ [.ref (E.B + a0), .int v1]) (xQi E (NT + 0) r0) 0 0 (xA E) := by
  refine met_of (N0 := NT) (by decide +kernel) (Nat.le_of_ble_eq_true rfl) ?_
  intro p e s m args below meth c hG hr hk _
  show JR E NT 2 p l e rm_X5_fault s m args below meth c 0 0 (fun r => MQ below (xQi E (NT + 0) r) args s 0 0 (xA E)) 0 [(0, .ref (E.B + a0)), (1, .int v1)] [] σ (if okO 5 a0 then (bI (f_X5_isText N v1 (σ)) (fun r2 t1 => if r2 = 0 then (some ((-1 : Int32), t1)) else (bR (gr t1 a0 1) (okA 4) (fun o3 => if inb v1 (arL o3) then (bR (gr t1 o3 (ix v1)) (okO 4) (fun o4 => if (gi t1 o4 1) = (-1 : Int32) then (bI (f_X5_found N a0 (1 : Int32) t1) (fun r11 t10 => some (r11, t10))) else (bR (gr t1 a0 7) (okO 2) (fun o5 => bR (gr t1 a0 1) (okA 4) (fun o6 => if inb v1 (arL o6) then (bR (gr t1 o6 (ix v1)) (okO 4) (fun o7 => bI (f_X2_read N o5 o7 t1) (fun r9 t8 => some (r9, t8)))) else none))))) else none)))) else none)
  refine jr_guard (fun ha0 => ?_)
  refine jr_iload_n hG 1 dX5_fault_0 rfl rfl ?_
  refine jr_callSi (As := [.int v1]) hG (c_X5_isText l E N v1 (σ)) ci_X5_isText wd_323 wd_324 ⟨rfl, rfl, Nat.le_of_ble_eq_true rfl, Nat.le_of_ble_eq_true rfl⟩ rfl rfl (Nat.le_of_ble_eq_true rfl) dX5_fault_1 ⟨Nat.le_refl _, Nat.le_refl _⟩ (fun r2 t1 => ?_)
  refine jr_if_ne hG 9 dX5_fault_4 (by decide) (fun _ => ?_) (fun _ => ?_)
  · refine jr_aload_n hG 0 dX5_fault_9 rfl rfl ?_
    refine jr_getR hG fi_RX5_17 rfl (okO_s ha0) (okO_l ha0) dX5_fault_10 (fun o3 ho3 => ?_)
    refine jr_iload_n hG 1 dX5_fault_13 rfl rfl ?_
    refine jr_aald hG (okA_s (by decide) ho3) (by decide) rfl (okA_l ho3) dX5_fault_14 (fun o4 ho4 => ?_)
    refine jr_getI hG fi_RX5_115 rfl (okO_s ho4) (okO_l ho4) dX5_fault_15 ?_
    refine jr_iconst (v := (-1 : Int32)) hG dX5_fault_18 (by decide) ?_
    refine jr_icmp_ne hG 28 dX5_fault_19 (by decide) (fun _ => ?_) (fun _ => ?_)
    · refine jr_aload_n hG 0 dX5_fault_28 rfl rfl ?_
      refine jr_getR hG fi_RX5_49 rfl (okO_s ha0) (okO_l ha0) dX5_fault_29 (fun o5 ho5 => ?_)
      refine jr_aload_n hG 0 dX5_fault_32 rfl rfl ?_
      refine jr_getR hG fi_RX5_17 rfl (okO_s ha0) (okO_l ha0) dX5_fault_33 (fun o6 ho6 => ?_)
      refine jr_iload_n hG 1 dX5_fault_36 rfl rfl ?_
      refine jr_aald hG (okA_s (by decide) ho6) (by decide) rfl (okA_l ho6) dX5_fault_37 (fun o7 ho7 => ?_)
      refine jr_callVi (As := [.ref (E.B + o7)]) hG (c_X2_read l E N o5 o7 t1) ci_X2_read wd_338 ⟨wd_339, wd_340⟩ cl_2 (okO_s ho5) (okO_l ho5) ⟨rfl, rfl, Nat.le_of_ble_eq_true rfl, Nat.le_of_ble_eq_true rfl⟩ rfl rfl (Nat.le_of_ble_eq_true rfl) dX5_fault_38 ⟨Nat.le_refl _, Nat.le_refl _⟩ (fun r9 t8 => ?_)
      exact jr_iret hG hr hk dX5_fault_41
    · refine jr_aload_n hG 0 dX5_fault_22 rfl rfl ?_
      refine jr_iconst (v := (1 : Int32)) hG dX5_fault_23 (by decide) ?_
      refine jr_callVi (As := [.int (1 : Int32)]) hG (c_X5_found l E N a0 (1 : Int32) t1) ci_X5_found wd_276 ⟨wd_278, wd_0⟩ cl_5 (okO_s ha0) (okO_l ha0) ⟨rfl, rfl, Nat.le_of_ble_eq_true rfl, Nat.le_of_ble_eq_true rfl⟩ rfl rfl (Nat.le_of_ble_eq_true rfl) dX5_fault_24 ⟨Nat.le_refl _, Nat.le_refl _⟩ (fun r11 t10 => ?_)
      exact jr_iret hG hr hk dX5_fault_27
  · refine jr_iconst (v := (-1 : Int32)) hG dX5_fault_7 (by decide) ?_
    exact jr_iret hG hr hk dX5_fault_8
-- TonguesDealt.liveAgain()V
abbrev rm_X5_liveAgain : Room := { frames := 5, cells := 0, slots := 0, locals := 113 }
theorem ci_X5_liveAgain : CIx yX5_liveAgain cX5_liveAgain 2 none 0 := ⟨wd_382, wd_71, by decide +kernel⟩
def f_X5_liveAgain_13 (N : Nat)  : Nat → Nat → Int32 → Mm → Option (Mm)
  | 0 => fun _ _ _ => none
  | n + 1 => fun a0 v1 σ => bR (gr σ a0 3) (okO 1) (fun o4 => if (gi σ o4 2) ≤ v1 then (bR (gr σ a0 4) (okO 0) (fun o5 => bR (gr σ a0 6) (okO 2) (fun o6 => bV (f_X0_settle N o5 o6 (σ)) (fun t7 => some t7)))) else (bR (gr σ a0 4) (okO 0) (fun o8 => bR (gr σ a0 3) (okO 1) (fun o9 => bR (gr σ o9 0) (okA 0) (fun o10 => if inb v1 (arL o10) then (bR (gr σ a0 3) (okO 1) (fun o11 => bR (gr σ o11 1) (okA 0) (fun o12 => if inb v1 (arL o12) then (bR (gr σ a0 6) (okO 2) (fun o13 => bV (f_X0_live N o8 (gi σ o10 (ix v1)) (gi σ o12 (ix v1)) o13 (σ)) (fun t14 => f_X5_liveAgain_13 N n a0 (v1 + (1 : Int32)) t14))) else none))) else none)))))
set_option maxRecDepth 20000 in
theorem w_X5_liveAgain_13 {p : Program} {l : Launch} {e : Env} {s : State} {m : MethodId} {args : Array Value} {below : List Frame} {meth : Method} {c : Code} {E : XE} (N : Nat) (hG : GG E NT 2 RX5 cX5_liveAgain p s m args c) (hr : meth.sig.returnType = none) (hk : meth.locks = false)  : ∀ (n : Nat) (a0 : Nat) (v1 : Int32) (ha0 : okO 5 a0 = true) (σ : Mm), JR E NT 2 p l e rm_X5_liveAgain s m args below meth c 0 0 (fun r => MQ below (xQv E (NT + 0) r) args s 0 0 (xA E)) 13 [(0, .ref (E.B + a0)), (1, .int v1)] [] σ (f_X5_liveAgain_13 N n a0 v1 σ) := by
  intro n
  induction n with
  | zero => intro a0 v1 ha0 σ r hX; cases hX
  | succ n ih =>
    intro a0 v1 ha0 σ
    show JR E NT 2 p l e rm_X5_liveAgain s m args below meth c 0 0 (fun r => MQ below (xQv E (NT + 0) r) args s 0 0 (xA E)) 13 [(0, .ref (E.B + a0)), (1, .int v1)] [] σ (bR (gr σ a0 3) (okO 1) (fun o4 => if (gi σ o4 2) ≤ v1 then (bR (gr σ a0 4) (okO 0) (fun o5 => bR (gr σ a0 6) (okO 2) (fun o6 => bV (f_X0_settle N o5 o6 (σ)) (fun t7 => some t7)))) else (bR (gr σ a0 4) (okO 0) (fun o8 => bR (gr σ a0 3) (okO 1) (fun o9 => bR (gr σ o9 0) (okA 0) (fun o10 => if inb v1 (arL o10) then (bR (gr σ a0 3) (okO 1) (fun o11 => bR (gr σ o11 1) (okA 0) (fun o12 => if inb v1 (arL o12) then (bR (gr σ a0 6) (okO 2) (fun o13 => bV (f_X0_live N o8 (gi σ o10 (ix v1)) (gi σ o12 (ix v1)) o13 (σ)) (fun t14 => f_X5_liveAgain_13 N n a0 (v1 + (1 : Int32)) t14))) else none))) else none))))))
    refine jr_iload_n hG 1 dX5_liveAgain_13 rfl rfl ?_
    refine jr_aload_n hG 0 dX5_liveAgain_14 rfl rfl ?_
    refine jr_getR hG fi_RX5_28 rfl (okO_s ha0) (okO_l ha0) dX5_liveAgain_15 (fun o4 ho4 => ?_)
    refine jr_getI hG fi_RX5_75 rfl (okO_s ho4) (okO_l ho4) dX5_liveAgain_18 ?_
    refine jr_icmp_ge hG 59 dX5_liveAgain_21 (by decide) (fun _ => ?_) (fun _ => ?_)
    · refine jr_aload_n hG 0 dX5_liveAgain_59 rfl rfl ?_
      refine jr_getR hG fi_RX5_35 rfl (okO_s ha0) (okO_l ha0) dX5_liveAgain_60 (fun o5 ho5 => ?_)
      refine jr_aload_n hG 0 dX5_liveAgain_63 rfl rfl ?_
      refine jr_getR hG fi_RX5_45 rfl (okO_s ha0) (okO_l ha0) dX5_liveAgain_64 (fun o6 ho6 => ?_)
      refine jr_callVv (As := [.ref (E.B + o6)]) hG (c_X0_settle l E N o5 o6 (σ)) ci_X0_settle wd_395 ⟨wd_396, wd_397⟩ cl_0 (okO_s ho5) (okO_l ho5) ⟨rfl, rfl, Nat.le_of_ble_eq_true rfl, Nat.le_of_ble_eq_true rfl⟩ rfl rfl (Nat.le_of_ble_eq_true rfl) dX5_liveAgain_67 ⟨Nat.le_refl _, Nat.le_refl _⟩ (fun t7 => ?_)
      exact jr_vret hG hr hk dX5_liveAgain_70
    · refine jr_aload_n hG 0 dX5_liveAgain_24 rfl rfl ?_
      refine jr_getR hG fi_RX5_35 rfl (okO_s ha0) (okO_l ha0) dX5_liveAgain_25 (fun o8 ho8 => ?_)
      refine jr_aload_n hG 0 dX5_liveAgain_28 rfl rfl ?_
      refine jr_getR hG fi_RX5_28 rfl (okO_s ha0) (okO_l ha0) dX5_liveAgain_29 (fun o9 ho9 => ?_)
      refine jr_getR hG fi_RX5_342 rfl (okO_s ho9) (okO_l ho9) dX5_liveAgain_32 (fun o10 ho10 => ?_)
      refine jr_iload_n hG 1 dX5_liveAgain_35 rfl rfl ?_
      refine jr_iald hG (okA_s (by decide) ho10) (okA_l ho10) dX5_liveAgain_36 ?_
      refine jr_aload_n hG 0 dX5_liveAgain_37 rfl rfl ?_
      refine jr_getR hG fi_RX5_28 rfl (okO_s ha0) (okO_l ha0) dX5_liveAgain_38 (fun o11 ho11 => ?_)
      refine jr_getR hG fi_RX5_345 rfl (okO_s ho11) (okO_l ho11) dX5_liveAgain_41 (fun o12 ho12 => ?_)
      refine jr_iload_n hG 1 dX5_liveAgain_44 rfl rfl ?_
      refine jr_iald hG (okA_s (by decide) ho12) (okA_l ho12) dX5_liveAgain_45 ?_
      refine jr_aload_n hG 0 dX5_liveAgain_46 rfl rfl ?_
      refine jr_getR hG fi_RX5_45 rfl (okO_s ha0) (okO_l ha0) dX5_liveAgain_47 (fun o13 ho13 => ?_)
      refine jr_callVv (As := [.int (gi σ o10 (ix v1)), .int (gi σ o12 (ix v1)), .ref (E.B + o13)]) hG (c_X0_live l E N o8 (gi σ o10 (ix v1)) (gi σ o12 (ix v1)) o13 (σ)) ci_X0_live wd_387 ⟨wd_388, wd_389⟩ cl_0 (okO_s ho8) (okO_l ho8) ⟨rfl, rfl, Nat.le_of_ble_eq_true rfl, Nat.le_of_ble_eq_true rfl⟩ rfl rfl (Nat.le_of_ble_eq_true rfl) dX5_liveAgain_50 ⟨Nat.le_refl _, Nat.le_refl _⟩ (fun t14 => ?_)
      refine jr_iinc (v := v1 + (1 : Int32)) (lv' := [(1, .int (v1 + (1 : Int32))), (0, .ref (E.B + a0))]) hG 1 dX5_liveAgain_53 rfl rfl (by decide) rfl ?_
      refine jr_goto hG 13 dX5_liveAgain_56 (by decide) ?_
      refine jr_sub (lv' := [(0, .ref (E.B + a0)), (1, .int (v1 + (1 : Int32)))]) [1, 0] rfl ?_
      exact ih a0 (v1 + (1 : Int32)) ha0 t14
def f_X5_liveAgain (N : Nat) (a0 : Nat) (σ : Mm) : Option (Mm) := if okO 5 a0 then (bR (gr σ a0 4) (okO 0) (fun o1 => bR (gr σ a0 6) (okO 2) (fun o2 => bV (f_X0_begin N o1 o2 (σ)) (fun t3 => f_X5_liveAgain_13 N N a0 (0 : Int32) t3)))) else none
set_option maxRecDepth 20000 in
theorem c_X5_liveAgain (l : Launch) (E : XE) (N : Nat) (a0 : Nat) (σ : Mm) : ∀ r0, f_X5_liveAgain N a0 σ = some r0 → Met l yX5_liveAgain [Cond.code yX5_liveAgain cX5_liveAgain 2 none] rm_X5_liveAgain (xPc E (NT + 0) σ [.ref (E.B + a0)]) (xQv E (NT + 0) r0) 0 0 (xA E) := by
  refine met_of (N0 := NT) (by decide +kernel) (Nat.le_of_ble_eq_true rfl) ?_
  intro p e s m args below meth c hG hr hk _
  show JR E NT 2 p l e rm_X5_liveAgain s m args below meth c 0 0 (fun r => MQ below (xQv E (NT + 0) r) args s 0 0 (xA E)) 0 [(0, .ref (E.B + a0))] [] σ (if okO 5 a0 then (bR (gr σ a0 4) (okO 0) (fun o1 => bR (gr σ a0 6) (okO 2) (fun o2 => bV (f_X0_begin N o1 o2 (σ)) (fun t3 => f_X5_liveAgain_13 N N a0 (0 : Int32) t3)))) else none)
  refine jr_guard (fun ha0 => ?_)
  refine jr_aload_n hG 0 dX5_liveAgain_0 rfl rfl ?_
  refine jr_getR hG fi_RX5_35 rfl (okO_s ha0) (okO_l ha0) dX5_liveAgain_1 (fun o1 ho1 => ?_)
  refine jr_aload_n hG 0 dX5_liveAgain_4 rfl rfl ?_
  refine jr_getR hG fi_RX5_45 rfl (okO_s ha0) (okO_l ha0) dX5_liveAgain_5 (fun o2 ho2 => ?_)
  refine jr_callVv (As := [.ref (E.B + o2)]) hG (c_X0_begin l E N o1 o2 (σ)) ci_X0_begin wd_383 ⟨wd_384, wd_385⟩ cl_0 (okO_s ho1) (okO_l ho1) ⟨rfl, rfl, Nat.le_of_ble_eq_true rfl, Nat.le_of_ble_eq_true rfl⟩ rfl rfl (Nat.le_of_ble_eq_true rfl) dX5_liveAgain_8 ⟨Nat.le_refl _, Nat.le_refl _⟩ (fun t3 => ?_)
  refine jr_iconst (v := (0 : Int32)) hG dX5_liveAgain_11 (by decide) ?_
  refine jr_istore_n (lv' := [(1, .int (0 : Int32)), (0, .ref (E.B + a0))]) hG dX5_liveAgain_12 rfl (by decide) rfl ?_
  refine jr_sub (lv' := [(0, .ref (E.B + a0)), (1, .int (0 : Int32))]) [1, 0] rfl ?_
  exact w_X5_liveAgain_13 N hG hr hk N a0 (0 : Int32) ha0 t3
-- TonguesDealt.town(I)I
abbrev rm_X5_town : Room := { frames := 6, cells := 0, slots := 0, locals := 134 }
theorem ci_X5_town : CIx yX5_town cX5_town 4 (some .int) 1 := ⟨wd_378, wd_71, by decide +kernel⟩
def f_X5_town_69 (N : Nat)  : Nat → Nat → Int32 → Mm → Option (Int32 × Mm)
  | 0 => fun _ _ _ => none
  | n + 1 => fun a0 v3 σ => if (3 : Int32) ≤ v3 then (bR (gr σ a0 3) (okO 1) (fun o16 => lt (si σ o16 2 (0 : Int32)) (fun t17 => bV (f_X5_liveAgain N a0 t17) (fun t18 => bR (gr t18 a0 6) (okO 2) (fun o19 => some (gi t18 o19 8, t18)))))) else (bR (gr σ a0 2) (okA 5) (fun o20 => if inb v3 (arL o20) then (bR (gr σ o20 (ix v3)) (okO 1) (fun o21 => lt (si σ o21 2 (-1 : Int32)) (fun t22 => f_X5_town_69 N n a0 (v3 + (1 : Int32)) t22))) else none))
set_option maxRecDepth 20000 in
theorem w_X5_town_69 {p : Program} {l : Launch} {e : Env} {s : State} {m : MethodId} {args : Array Value} {below : List Frame} {meth : Method} {c : Code} {E : XE} (N : Nat) (hG : GG E NT 4 RX5 cX5_town p s m args c) (hr : meth.sig.returnType = (some .int)) (hk : meth.locks = false)  : ∀ (n : Nat) (a0 : Nat) (v3 : Int32) (ha0 : okO 5 a0 = true) (σ : Mm), JR E NT 4 p l e rm_X5_town s m args below meth c 0 0 (fun r => MQ below (xQi E (NT + 0) r) args s 0 0 (xA E)) 69 [(0, .ref (E.B + a0)), (3, .int v3)] [] σ (f_X5_town_69 N n a0 v3 σ) := by
  intro n
  induction n with
  | zero => intro a0 v3 ha0 σ r hX; cases hX
  | succ n ih =>
    intro a0 v3 ha0 σ
    show JR E NT 4 p l e rm_X5_town s m args below meth c 0 0 (fun r => MQ below (xQi E (NT + 0) r) args s 0 0 (xA E)) 69 [(0, .ref (E.B + a0)), (3, .int v3)] [] σ (if (3 : Int32) ≤ v3 then (bR (gr σ a0 3) (okO 1) (fun o16 => lt (si σ o16 2 (0 : Int32)) (fun t17 => bV (f_X5_liveAgain N a0 t17) (fun t18 => bR (gr t18 a0 6) (okO 2) (fun o19 => some (gi t18 o19 8, t18)))))) else (bR (gr σ a0 2) (okA 5) (fun o20 => if inb v3 (arL o20) then (bR (gr σ o20 (ix v3)) (okO 1) (fun o21 => lt (si σ o21 2 (-1 : Int32)) (fun t22 => f_X5_town_69 N n a0 (v3 + (1 : Int32)) t22))) else none)))
    refine jr_iload_n hG 1 dX5_town_69 rfl rfl ?_
    refine jr_iconst (v := (3 : Int32)) hG dX5_town_70 (by decide) ?_
    refine jr_icmp_ge hG 90 dX5_town_71 (by decide) (fun _ => ?_) (fun _ => ?_)
    · refine jr_aload_n hG 0 dX5_town_90 rfl rfl ?_
      refine jr_getR hG fi_RX5_28 rfl (okO_s ha0) (okO_l ha0) dX5_town_91 (fun o16 ho16 => ?_)
      refine jr_iconst (v := (0 : Int32)) hG dX5_town_94 (by decide) ?_
      refine jr_putI hG fi_RX5_75 rfl rfl (okO_s ho16) (okO_l ho16) dX5_town_95 ?_
      refine jr_lets (fun t17 _ => ?_)
      refine jr_aload_n hG 0 dX5_town_98 rfl rfl ?_
      refine jr_callVv (As := []) hG (c_X5_liveAgain l E N a0 t17) ci_X5_liveAgain wd_379 ⟨wd_381, wd_5⟩ cl_5 (okO_s ha0) (okO_l ha0) ⟨rfl, rfl, Nat.le_of_ble_eq_true rfl, Nat.le_of_ble_eq_true rfl⟩ rfl rfl (Nat.le_of_ble_eq_true rfl) dX5_town_99 ⟨Nat.le_refl _, Nat.le_refl _⟩ (fun t18 => ?_)
      refine jr_aload_n hG 0 dX5_town_102 rfl rfl ?_
      refine jr_getR hG fi_RX5_45 rfl (okO_s ha0) (okO_l ha0) dX5_town_103 (fun o19 ho19 => ?_)
      refine jr_getI hG fi_RX5_127 rfl (okO_s ho19) (okO_l ho19) dX5_town_106 ?_
      exact jr_iret hG hr hk dX5_town_109
    · refine jr_aload_n hG 0 dX5_town_74 rfl rfl ?_
      refine jr_getR hG fi_RX5_23 rfl (okO_s ha0) (okO_l ha0) dX5_town_75 (fun o20 ho20 => ?_)
      refine jr_iload_n hG 1 dX5_town_78 rfl rfl ?_
      refine jr_aald hG (okA_s (by decide) ho20) (by decide) rfl (okA_l ho20) dX5_town_79 (fun o21 ho21 => ?_)
      refine jr_iconst (v := (-1 : Int32)) hG dX5_town_80 (by decide) ?_
      refine jr_putI hG fi_RX5_75 rfl rfl (okO_s ho21) (okO_l ho21) dX5_town_81 ?_
      refine jr_lets (fun t22 _ => ?_)
      refine jr_iinc (v := v3 + (1 : Int32)) (lv' := [(3, .int (v3 + (1 : Int32))), (0, .ref (E.B + a0))]) hG 1 dX5_town_84 rfl rfl (by decide) rfl ?_
      refine jr_goto hG 69 dX5_town_87 (by decide) ?_
      refine jr_sub (lv' := [(0, .ref (E.B + a0)), (3, .int (v3 + (1 : Int32)))]) [1, 0] rfl ?_
      exact ih a0 (v3 + (1 : Int32)) ha0 t22
def f_X5_town (N : Nat) (a0 : Nat) (v1 : Int32) (σ : Mm) : Option (Int32 × Mm) := if okO 5 a0 then (bI (f_X5_isText N v1 (σ)) (fun r2 t1 => if r2 = 0 then (some ((-1 : Int32), t1)) else (bR (gr t1 a0 1) (okA 4) (fun o3 => if inb v1 (arL o3) then (bR (gr t1 o3 (ix v1)) (okO 4) (fun o4 => if (gi t1 o4 1) = (-1 : Int32) then (bI (f_X5_found N a0 (1 : Int32) t1) (fun r15 t14 => some (r15, t14))) else (bR (gr t1 a0 7) (okO 2) (fun o5 => bR (gr t1 a0 1) (okA 4) (fun o6 => if inb v1 (arL o6) then (bR (gr t1 o6 (ix v1)) (okO 4) (fun o7 => bI (f_X2_read N o5 o7 t1) (fun r9 t8 => if r9 = (-9 : Int32) then (bR (gr t8 a0 6) (okO 2) (fun o10 => bR (gr t8 a0 7) (okO 2) (fun o11 => lt (sr t8 a0 6 (some o11)) (fun t12 => lt (sr t12 a0 7 (some o10)) (fun t13 => f_X5_town_69 N N a0 (0 : Int32) t13))))) else (some ((-4 : Int32), t8))))) else none))))) else none)))) else none
set_option maxRecDepth 20000 in
theorem c_X5_town (l : Launch) (E : XE) (N : Nat) (a0 : Nat) (v1 : Int32) (σ : Mm) : ∀ r0, f_X5_town N a0 v1 σ = some r0 → Met l yX5_town [Cond.code yX5_town cX5_town 4 (some .int)] rm_X5_town (xPc E (NT + 0) σ [.ref (E.B + a0), .int v1]) (xQi E (NT + 0) r0) 0 0 (xA E) := by
  refine met_of (N0 := NT) (by decide +kernel) (Nat.le_of_ble_eq_true rfl) ?_
  intro p e s m args below meth c hG hr hk _
  show JR E NT 4 p l e rm_X5_town s m args below meth c 0 0 (fun r => MQ below (xQi E (NT + 0) r) args s 0 0 (xA E)) 0 [(0, .ref (E.B + a0)), (1, .int v1)] [] σ (if okO 5 a0 then (bI (f_X5_isText N v1 (σ)) (fun r2 t1 => if r2 = 0 then (some ((-1 : Int32), t1)) else (bR (gr t1 a0 1) (okA 4) (fun o3 => if inb v1 (arL o3) then (bR (gr t1 o3 (ix v1)) (okO 4) (fun o4 => if (gi t1 o4 1) = (-1 : Int32) then (bI (f_X5_found N a0 (1 : Int32) t1) (fun r15 t14 => some (r15, t14))) else (bR (gr t1 a0 7) (okO 2) (fun o5 => bR (gr t1 a0 1) (okA 4) (fun o6 => if inb v1 (arL o6) then (bR (gr t1 o6 (ix v1)) (okO 4) (fun o7 => bI (f_X2_read N o5 o7 t1) (fun r9 t8 => if r9 = (-9 : Int32) then (bR (gr t8 a0 6) (okO 2) (fun o10 => bR (gr t8 a0 7) (okO 2) (fun o11 => lt (sr t8 a0 6 (some o11)) (fun t12 => lt (sr t12 a0 7 (some o10)) (fun t13 => f_X5_town_69 N N a0 (0 : Int32) t13))))) else (some ((-4 : Int32), t8))))) else none))))) else none)))) else none)
  refine jr_guard (fun ha0 => ?_)
  refine jr_iload_n hG 1 dX5_town_0 rfl rfl ?_
  refine jr_callSi (As := [.int v1]) hG (c_X5_isText l E N v1 (σ)) ci_X5_isText wd_323 wd_324 ⟨rfl, rfl, Nat.le_of_ble_eq_true rfl, Nat.le_of_ble_eq_true rfl⟩ rfl rfl (Nat.le_of_ble_eq_true rfl) dX5_town_1 ⟨Nat.le_refl _, Nat.le_refl _⟩ (fun r2 t1 => ?_)
  refine jr_if_ne hG 9 dX5_town_4 (by decide) (fun _ => ?_) (fun _ => ?_)
  · refine jr_aload_n hG 0 dX5_town_9 rfl rfl ?_
    refine jr_getR hG fi_RX5_17 rfl (okO_s ha0) (okO_l ha0) dX5_town_10 (fun o3 ho3 => ?_)
    refine jr_iload_n hG 1 dX5_town_13 rfl rfl ?_
    refine jr_aald hG (okA_s (by decide) ho3) (by decide) rfl (okA_l ho3) dX5_town_14 (fun o4 ho4 => ?_)
    refine jr_getI hG fi_RX5_115 rfl (okO_s ho4) (okO_l ho4) dX5_town_15 ?_
    refine jr_iconst (v := (-1 : Int32)) hG dX5_town_18 (by decide) ?_
    refine jr_icmp_ne hG 28 dX5_town_19 (by decide) (fun _ => ?_) (fun _ => ?_)
    · refine jr_aload_n hG 0 dX5_town_28 rfl rfl ?_
      refine jr_getR hG fi_RX5_49 rfl (okO_s ha0) (okO_l ha0) dX5_town_29 (fun o5 ho5 => ?_)
      refine jr_aload_n hG 0 dX5_town_32 rfl rfl ?_
      refine jr_getR hG fi_RX5_17 rfl (okO_s ha0) (okO_l ha0) dX5_town_33 (fun o6 ho6 => ?_)
      refine jr_iload_n hG 1 dX5_town_36 rfl rfl ?_
      refine jr_aald hG (okA_s (by decide) ho6) (by decide) rfl (okA_l ho6) dX5_town_37 (fun o7 ho7 => ?_)
      refine jr_callVi (As := [.ref (E.B + o7)]) hG (c_X2_read l E N o5 o7 t1) ci_X2_read wd_338 ⟨wd_339, wd_340⟩ cl_2 (okO_s ho5) (okO_l ho5) ⟨rfl, rfl, Nat.le_of_ble_eq_true rfl, Nat.le_of_ble_eq_true rfl⟩ rfl rfl (Nat.le_of_ble_eq_true rfl) dX5_town_38 ⟨Nat.le_refl _, Nat.le_refl _⟩ (fun r9 t8 => ?_)
      refine jr_bipush (v := (-9 : Int32)) hG dX5_town_41 (by decide) ?_
      refine jr_icmp_eq hG 49 dX5_town_43 (by decide) (fun _ => ?_) (fun _ => ?_)
      · refine jr_aload_n hG 0 dX5_town_49 rfl rfl ?_
        refine jr_getR hG fi_RX5_45 rfl (okO_s ha0) (okO_l ha0) dX5_town_50 (fun o10 ho10 => ?_)
        refine jr_astore_n (lv' := [(2, .ref (E.B + o10)), (0, .ref (E.B + a0)), (1, .int v1)]) hG dX5_town_53 rfl (by decide) rfl ?_
        refine jr_aload_n hG 1 dX5_town_54 rfl rfl ?_
        refine jr_aload_n hG 1 dX5_town_55 rfl rfl ?_
        refine jr_getR hG fi_RX5_49 rfl (okO_s ha0) (okO_l ha0) dX5_town_56 (fun o11 ho11 => ?_)
        refine jr_putR hG fi_RX5_45 rfl rfl (okO_s ha0) (okO_l ha0) dX5_town_59 ?_
        refine jr_lets (fun t12 _ => ?_)
        refine jr_aload_n hG 1 dX5_town_62 rfl rfl ?_
        refine jr_aload_n hG 0 dX5_town_63 rfl rfl ?_
        refine jr_putR hG fi_RX5_49 rfl rfl (okO_s ha0) (okO_l ha0) dX5_town_64 ?_
        refine jr_lets (fun t13 _ => ?_)
        refine jr_iconst (v := (0 : Int32)) hG dX5_town_67 (by decide) ?_
        refine jr_istore_n (lv' := [(3, .int (0 : Int32)), (2, .ref (E.B + o10)), (0, .ref (E.B + a0)), (1, .int v1)]) hG dX5_town_68 rfl (by decide) rfl ?_
        refine jr_sub (lv' := [(0, .ref (E.B + a0)), (3, .int (0 : Int32))]) [2, 0] rfl ?_
        exact w_X5_town_69 N hG hr hk N a0 (0 : Int32) ha0 t13
      · refine jr_bipush (v := (-4 : Int32)) hG dX5_town_46 (by decide) ?_
        exact jr_iret hG hr hk dX5_town_48
    · refine jr_aload_n hG 0 dX5_town_22 rfl rfl ?_
      refine jr_iconst (v := (1 : Int32)) hG dX5_town_23 (by decide) ?_
      refine jr_callVi (As := [.int (1 : Int32)]) hG (c_X5_found l E N a0 (1 : Int32) t1) ci_X5_found wd_276 ⟨wd_278, wd_0⟩ cl_5 (okO_s ha0) (okO_l ha0) ⟨rfl, rfl, Nat.le_of_ble_eq_true rfl, Nat.le_of_ble_eq_true rfl⟩ rfl rfl (Nat.le_of_ble_eq_true rfl) dX5_town_24 ⟨Nat.le_refl _, Nat.le_refl _⟩ (fun r15 t14 => ?_)
      exact jr_iret hG hr hk dX5_town_27
  · refine jr_iconst (v := (-1 : Int32)) hG dX5_town_7 (by decide) ?_
    exact jr_iret hG hr hk dX5_town_8
-- TonguesDealt.toldOf(II)I
abbrev rm_X5_toldOf : Room := { frames := 0, cells := 0, slots := 0, locals := 0 }
theorem ci_X5_toldOf : CIx yX5_toldOf cX5_toldOf 3 (some .int) 2 := ⟨wd_425, wd_71, by decide +kernel⟩
def f_X5_toldOf (N : Nat) (a0 : Nat) (v1 : Int32) (v2 : Int32) (σ : Mm) : Option (Int32 × Mm) := if okO 5 a0 then (if v2 = (0 : Int32) then (bR (gr σ a0 6) (okO 2) (fun o1 => bR (gr σ o1 0) (okA 0) (fun o2 => if inb v1 (arL o2) then (some (gi σ o2 (ix v1), σ)) else none))) else (if v2 = (1 : Int32) then (bR (gr σ a0 4) (okO 0) (fun o3 => bR (gr σ o3 0) (okA 0) (fun o4 => if inb v1 (arL o4) then (some (gi σ o4 (ix v1), σ)) else none))) else (if v2 = (2 : Int32) then (bR (gr σ a0 4) (okO 0) (fun o5 => bR (gr σ o5 2) (okA 0) (fun o6 => if inb v1 (arL o6) then (some (gi σ o6 (ix v1), σ)) else none))) else (if v2 = (3 : Int32) then (bR (gr σ a0 6) (okO 2) (fun o7 => bR (gr σ o7 4) (okA 0) (fun o8 => if inb v1 (arL o8) then (some (gi σ o8 (ix v1), σ)) else none))) else (bR (gr σ a0 4) (okO 0) (fun o9 => bR (gr σ o9 1) (okA 0) (fun o10 => if inb v1 (arL o10) then (some (gi σ o10 (ix v1), σ)) else none))))))) else none
set_option maxRecDepth 20000 in
theorem c_X5_toldOf (l : Launch) (E : XE) (N : Nat) (a0 : Nat) (v1 : Int32) (v2 : Int32) (σ : Mm) : ∀ r0, f_X5_toldOf N a0 v1 v2 σ = some r0 → Met l yX5_toldOf [Cond.code yX5_toldOf cX5_toldOf 3 (some .int)] rm_X5_toldOf (xPc E (NT + 0) σ [.ref (E.B + a0), .int v1, .int v2]) (xQi E (NT + 0) r0) 0 0 (xA E) := by
  refine met_of (N0 := NT) (by decide +kernel) (Nat.le_of_ble_eq_true rfl) ?_
  intro p e s m args below meth c hG hr hk _
  show JR E NT 3 p l e rm_X5_toldOf s m args below meth c 0 0 (fun r => MQ below (xQi E (NT + 0) r) args s 0 0 (xA E)) 0 [(0, .ref (E.B + a0)), (1, .int v1), (2, .int v2)] [] σ (if okO 5 a0 then (if v2 = (0 : Int32) then (bR (gr σ a0 6) (okO 2) (fun o1 => bR (gr σ o1 0) (okA 0) (fun o2 => if inb v1 (arL o2) then (some (gi σ o2 (ix v1), σ)) else none))) else (if v2 = (1 : Int32) then (bR (gr σ a0 4) (okO 0) (fun o3 => bR (gr σ o3 0) (okA 0) (fun o4 => if inb v1 (arL o4) then (some (gi σ o4 (ix v1), σ)) else none))) else (if v2 = (2 : Int32) then (bR (gr σ a0 4) (okO 0) (fun o5 => bR (gr σ o5 2) (okA 0) (fun o6 => if inb v1 (arL o6) then (some (gi σ o6 (ix v1), σ)) else none))) else (if v2 = (3 : Int32) then (bR (gr σ a0 6) (okO 2) (fun o7 => bR (gr σ o7 4) (okA 0) (fun o8 => if inb v1 (arL o8) then (some (gi σ o8 (ix v1), σ)) else none))) else (bR (gr σ a0 4) (okO 0) (fun o9 => bR (gr σ o9 1) (okA 0) (fun o10 => if inb v1 (arL o10) then (some (gi σ o10 (ix v1), σ)) else none))))))) else none)
  refine jr_guard (fun ha0 => ?_)
  refine jr_iload_n hG 2 dX5_toldOf_0 rfl rfl ?_
  refine jr_ite (fun hs0 => ?_) (fun hs0 => ?_)
  · refine jr_tabIn (off := 31) hG 32 dX5_toldOf_1 (0 : Int32) hs0 (by decide) ?_
    refine jr_aload_n hG 0 dX5_toldOf_32 rfl rfl ?_
    refine jr_getR hG fi_RX5_45 rfl (okO_s ha0) (okO_l ha0) dX5_toldOf_33 (fun o1 ho1 => ?_)
    refine jr_getR hG fi_RX5_312 rfl (okO_s ho1) (okO_l ho1) dX5_toldOf_36 (fun o2 ho2 => ?_)
    refine jr_iload_n hG 1 dX5_toldOf_39 rfl rfl ?_
    refine jr_iald hG (okA_s (by decide) ho2) (okA_l ho2) dX5_toldOf_40 ?_
    exact jr_iret hG hr hk dX5_toldOf_41
  refine jr_ite (fun hs1 => ?_) (fun hs1 => ?_)
  · refine jr_tabIn (off := 41) hG 42 dX5_toldOf_1 (1 : Int32) hs1 (by decide) ?_
    refine jr_aload_n hG 0 dX5_toldOf_42 rfl rfl ?_
    refine jr_getR hG fi_RX5_35 rfl (okO_s ha0) (okO_l ha0) dX5_toldOf_43 (fun o3 ho3 => ?_)
    refine jr_getR hG fi_RX5_138 rfl (okO_s ho3) (okO_l ho3) dX5_toldOf_46 (fun o4 ho4 => ?_)
    refine jr_iload_n hG 1 dX5_toldOf_49 rfl rfl ?_
    refine jr_iald hG (okA_s (by decide) ho4) (okA_l ho4) dX5_toldOf_50 ?_
    exact jr_iret hG hr hk dX5_toldOf_51
  refine jr_ite (fun hs2 => ?_) (fun hs2 => ?_)
  · refine jr_tabIn (off := 51) hG 52 dX5_toldOf_1 (2 : Int32) hs2 (by decide) ?_
    refine jr_aload_n hG 0 dX5_toldOf_52 rfl rfl ?_
    refine jr_getR hG fi_RX5_35 rfl (okO_s ha0) (okO_l ha0) dX5_toldOf_53 (fun o5 ho5 => ?_)
    refine jr_getR hG fi_RX5_151 rfl (okO_s ho5) (okO_l ho5) dX5_toldOf_56 (fun o6 ho6 => ?_)
    refine jr_iload_n hG 1 dX5_toldOf_59 rfl rfl ?_
    refine jr_iald hG (okA_s (by decide) ho6) (okA_l ho6) dX5_toldOf_60 ?_
    exact jr_iret hG hr hk dX5_toldOf_61
  refine jr_ite (fun hs3 => ?_) (fun hs3 => ?_)
  · refine jr_tabIn (off := 61) hG 62 dX5_toldOf_1 (3 : Int32) hs3 (by decide) ?_
    refine jr_aload_n hG 0 dX5_toldOf_62 rfl rfl ?_
    refine jr_getR hG fi_RX5_45 rfl (okO_s ha0) (okO_l ha0) dX5_toldOf_63 (fun o7 ho7 => ?_)
    refine jr_getR hG fi_RX5_315 rfl (okO_s ho7) (okO_l ho7) dX5_toldOf_66 (fun o8 ho8 => ?_)
    refine jr_iload_n hG 1 dX5_toldOf_69 rfl rfl ?_
    refine jr_iald hG (okA_s (by decide) ho8) (okA_l ho8) dX5_toldOf_70 ?_
    exact jr_iret hG hr hk dX5_toldOf_71
  refine jr_tabOut hG 72 dX5_toldOf_1 (tab_out0_3 hs0 hs1 hs2 hs3) (by decide) ?_
  refine jr_aload_n hG 0 dX5_toldOf_72 rfl rfl ?_
  refine jr_getR hG fi_RX5_35 rfl (okO_s ha0) (okO_l ha0) dX5_toldOf_73 (fun o9 ho9 => ?_)
  refine jr_getR hG fi_RX5_184 rfl (okO_s ho9) (okO_l ho9) dX5_toldOf_76 (fun o10 ho10 => ?_)
  refine jr_iload_n hG 1 dX5_toldOf_79 rfl rfl ?_
  refine jr_iald hG (okA_s (by decide) ho10) (okA_l ho10) dX5_toldOf_80 ?_
  exact jr_iret hG hr hk dX5_toldOf_81
-- TonguesDealt.person(II)I
abbrev rm_X5_person : Room := { frames := 1, cells := 0, slots := 0, locals := 22 }
theorem ci_X5_person : CIx yX5_person cX5_person 3 (some .int) 2 := ⟨wd_420, wd_71, by decide +kernel⟩
def f_X5_person (N : Nat) (a0 : Nat) (v1 : Int32) (v2 : Int32) (σ : Mm) : Option (Int32 × Mm) := if okO 5 a0 then (bR (gr σ a0 6) (okO 2) (fun o1 => bI (f_X2_has N o1 v1 (σ)) (fun r3 t2 => if r3 = 0 then (some ((-1 : Int32), t2)) else (if v2 < 0 then (some ((-1 : Int32), t2)) else (if v2 < (5 : Int32) then (bI (f_X5_toldOf N a0 v1 v2 t2) (fun r5 t4 => lt (si t4 a0 11 r5) (fun t6 => some ((1 : Int32), t6)))) else (some ((-1 : Int32), t2))))))) else none
set_option maxRecDepth 20000 in
theorem c_X5_person (l : Launch) (E : XE) (N : Nat) (a0 : Nat) (v1 : Int32) (v2 : Int32) (σ : Mm) : ∀ r0, f_X5_person N a0 v1 v2 σ = some r0 → Met l yX5_person [Cond.code yX5_person cX5_person 3 (some .int)] rm_X5_person (xPc E (NT + 0) σ [.ref (E.B + a0), .int v1, .int v2]) (xQi E (NT + 0) r0) 0 0 (xA E) := by
  refine met_of (N0 := NT) (by decide +kernel) (Nat.le_of_ble_eq_true rfl) ?_
  intro p e s m args below meth c hG hr hk _
  show JR E NT 3 p l e rm_X5_person s m args below meth c 0 0 (fun r => MQ below (xQi E (NT + 0) r) args s 0 0 (xA E)) 0 [(0, .ref (E.B + a0)), (1, .int v1), (2, .int v2)] [] σ (if okO 5 a0 then (bR (gr σ a0 6) (okO 2) (fun o1 => bI (f_X2_has N o1 v1 (σ)) (fun r3 t2 => if r3 = 0 then (some ((-1 : Int32), t2)) else (if v2 < 0 then (some ((-1 : Int32), t2)) else (if v2 < (5 : Int32) then (bI (f_X5_toldOf N a0 v1 v2 t2) (fun r5 t4 => lt (si t4 a0 11 r5) (fun t6 => some ((1 : Int32), t6)))) else (some ((-1 : Int32), t2))))))) else none)
  refine jr_guard (fun ha0 => ?_)
  refine jr_aload_n hG 0 dX5_person_0 rfl rfl ?_
  refine jr_getR hG fi_RX5_45 rfl (okO_s ha0) (okO_l ha0) dX5_person_1 (fun o1 ho1 => ?_)
  refine jr_iload_n hG 1 dX5_person_4 rfl rfl ?_
  refine jr_callVi (As := [.int v1]) hG (c_X2_has l E N o1 v1 (σ)) ci_X2_has wd_421 ⟨wd_362, wd_363⟩ cl_2 (okO_s ho1) (okO_l ho1) ⟨rfl, rfl, Nat.le_of_ble_eq_true rfl, Nat.le_of_ble_eq_true rfl⟩ rfl rfl (Nat.le_of_ble_eq_true rfl) dX5_person_5 ⟨Nat.le_refl _, Nat.le_refl _⟩ (fun r3 t2 => ?_)
  refine jr_if_eq hG 20 dX5_person_8 (by decide) (fun _ => ?_) (fun _ => ?_)
  · refine jr_iconst (v := (-1 : Int32)) hG dX5_person_20 (by decide) ?_
    exact jr_iret hG hr hk dX5_person_21
  · refine jr_iload_n hG 2 dX5_person_11 rfl rfl ?_
    refine jr_if_lt hG 20 dX5_person_12 (by decide) (fun _ => ?_) (fun _ => ?_)
    · refine jr_iconst (v := (-1 : Int32)) hG dX5_person_20 (by decide) ?_
      exact jr_iret hG hr hk dX5_person_21
    · refine jr_iload_n hG 2 dX5_person_15 rfl rfl ?_
      refine jr_iconst (v := (5 : Int32)) hG dX5_person_16 (by decide) ?_
      refine jr_icmp_lt hG 22 dX5_person_17 (by decide) (fun _ => ?_) (fun _ => ?_)
      · refine jr_aload_n hG 0 dX5_person_22 rfl rfl ?_
        refine jr_aload_n hG 0 dX5_person_23 rfl rfl ?_
        refine jr_iload_n hG 1 dX5_person_24 rfl rfl ?_
        refine jr_iload_n hG 2 dX5_person_25 rfl rfl ?_
        refine jr_callVi (As := [.int v1, .int v2]) hG (c_X5_toldOf l E N a0 v1 v2 t2) ci_X5_toldOf wd_422 ⟨wd_424, wd_7⟩ cl_5 (okO_s ha0) (okO_l ha0) ⟨rfl, rfl, Nat.le_of_ble_eq_true rfl, Nat.le_of_ble_eq_true rfl⟩ rfl rfl (Nat.le_of_ble_eq_true rfl) dX5_person_26 ⟨Nat.le_refl _, Nat.le_refl _⟩ (fun r5 t4 => ?_)
        refine jr_putI hG fi_RX5_63 rfl rfl (okO_s ha0) (okO_l ha0) dX5_person_29 ?_
        refine jr_lets (fun t6 _ => ?_)
        refine jr_iconst (v := (1 : Int32)) hG dX5_person_32 (by decide) ?_
        exact jr_iret hG hr hk dX5_person_33
      · refine jr_iconst (v := (-1 : Int32)) hG dX5_person_20 (by decide) ?_
        exact jr_iret hG hr hk dX5_person_21
-- TonguesDealt.mark(II)I
abbrev rm_X5_mark : Room := { frames := 4, cells := 0, slots := 0, locals := 90 }
theorem ci_X5_mark : CIx yX5_mark cX5_mark 3 (some .int) 2 := ⟨wd_429, wd_71, by decide +kernel⟩
def f_X5_mark (N : Nat) (a0 : Nat) (v1 : Int32) (v2 : Int32) (σ : Mm) : Option (Int32 × Mm) := if okO 5 a0 then (bR (gr σ a0 6) (okO 2) (fun o1 => bI (f_X2_has N o1 v1 (σ)) (fun r3 t2 => if r3 = 0 then (some ((-1 : Int32), t2)) else (if v2 < (1 : Int32) then (some ((-1 : Int32), t2)) else (if v2 < (6 : Int32) then (bR (gr t2 a0 6) (okO 2) (fun o4 => bI (f_X2_is N o4 v1 v2 t2) (fun r6 t5 => if r6 = 0 then (bI (f_X5_found N a0 (3 : Int32) t5) (fun r30 t29 => some (r30, t29))) else (if v2 = (1 : Int32) then (bR (gr t5 a0 6) (okO 2) (fun o7 => bR (gr t5 a0 4) (okO 0) (fun o8 => bR (gr t5 o8 0) (okA 0) (fun o9 => bI (f_X2_gainOf N o7 v1 o9 t5) (fun r11 t10 => some (r11, t10)))))) else (if v2 = (2 : Int32) then (bR (gr t5 a0 4) (okO 0) (fun o12 => bI (f_X0_tellersOf N o12 v1 t5) (fun r14 t13 => some (r14, t13)))) else (if v2 = (3 : Int32) then (bR (gr t5 a0 4) (okO 0) (fun o15 => bR (gr t5 a0 4) (okO 0) (fun o16 => bR (gr t5 o16 0) (okA 0) (fun o17 => if inb v1 (arL o17) then (bI (f_X0_othersWhoKnow N o15 v1 ((1 : Int32) <<< ((((gi t5 o17 (ix v1)) + (1 : Int32)) - ((gi t5 o17 (ix v1)) + (1 : Int32)) / (4 : Int32) * (4 : Int32)) &&& 31)) t5) (fun r19 t18 => some (r19, t18))) else none)))) else (if v2 = (4 : Int32) then (bR (gr t5 a0 4) (okO 0) (fun o20 => bR (gr t5 a0 4) (okO 0) (fun o21 => bR (gr t5 o21 2) (okA 0) (fun o22 => if inb v1 (arL o22) then (bI (f_X0_othersWhoKnow N o20 v1 (gi t5 o22 (ix v1)) t5) (fun r24 t23 => some (r24, t23))) else none)))) else (bR (gr t5 a0 4) (okO 0) (fun o25 => bR (gr t5 o25 2) (okA 0) (fun o26 => if inb v1 (arL o26) then (bI (f_J6_bitCount_0f7a4 N (gi t5 o26 (ix v1)) t5) (fun r28 t27 => some (r28, t27))) else none)))))))))) else (some ((-1 : Int32), t2))))))) else none
set_option maxRecDepth 20000 in
theorem c_X5_mark (l : Launch) (E : XE) (N : Nat) (a0 : Nat) (v1 : Int32) (v2 : Int32) (σ : Mm) : ∀ r0, f_X5_mark N a0 v1 v2 σ = some r0 → Met l yX5_mark [Cond.code yX5_mark cX5_mark 3 (some .int)] rm_X5_mark (xPc E (NT + 0) σ [.ref (E.B + a0), .int v1, .int v2]) (xQi E (NT + 0) r0) 0 0 (xA E) := by
  refine met_of (N0 := NT) (by decide +kernel) (Nat.le_of_ble_eq_true rfl) ?_
  intro p e s m args below meth c hG hr hk _
  show JR E NT 3 p l e rm_X5_mark s m args below meth c 0 0 (fun r => MQ below (xQi E (NT + 0) r) args s 0 0 (xA E)) 0 [(0, .ref (E.B + a0)), (1, .int v1), (2, .int v2)] [] σ (if okO 5 a0 then (bR (gr σ a0 6) (okO 2) (fun o1 => bI (f_X2_has N o1 v1 (σ)) (fun r3 t2 => if r3 = 0 then (some ((-1 : Int32), t2)) else (if v2 < (1 : Int32) then (some ((-1 : Int32), t2)) else (if v2 < (6 : Int32) then (bR (gr t2 a0 6) (okO 2) (fun o4 => bI (f_X2_is N o4 v1 v2 t2) (fun r6 t5 => if r6 = 0 then (bI (f_X5_found N a0 (3 : Int32) t5) (fun r30 t29 => some (r30, t29))) else (if v2 = (1 : Int32) then (bR (gr t5 a0 6) (okO 2) (fun o7 => bR (gr t5 a0 4) (okO 0) (fun o8 => bR (gr t5 o8 0) (okA 0) (fun o9 => bI (f_X2_gainOf N o7 v1 o9 t5) (fun r11 t10 => some (r11, t10)))))) else (if v2 = (2 : Int32) then (bR (gr t5 a0 4) (okO 0) (fun o12 => bI (f_X0_tellersOf N o12 v1 t5) (fun r14 t13 => some (r14, t13)))) else (if v2 = (3 : Int32) then (bR (gr t5 a0 4) (okO 0) (fun o15 => bR (gr t5 a0 4) (okO 0) (fun o16 => bR (gr t5 o16 0) (okA 0) (fun o17 => if inb v1 (arL o17) then (bI (f_X0_othersWhoKnow N o15 v1 ((1 : Int32) <<< ((((gi t5 o17 (ix v1)) + (1 : Int32)) - ((gi t5 o17 (ix v1)) + (1 : Int32)) / (4 : Int32) * (4 : Int32)) &&& 31)) t5) (fun r19 t18 => some (r19, t18))) else none)))) else (if v2 = (4 : Int32) then (bR (gr t5 a0 4) (okO 0) (fun o20 => bR (gr t5 a0 4) (okO 0) (fun o21 => bR (gr t5 o21 2) (okA 0) (fun o22 => if inb v1 (arL o22) then (bI (f_X0_othersWhoKnow N o20 v1 (gi t5 o22 (ix v1)) t5) (fun r24 t23 => some (r24, t23))) else none)))) else (bR (gr t5 a0 4) (okO 0) (fun o25 => bR (gr t5 o25 2) (okA 0) (fun o26 => if inb v1 (arL o26) then (bI (f_J6_bitCount_0f7a4 N (gi t5 o26 (ix v1)) t5) (fun r28 t27 => some (r28, t27))) else none)))))))))) else (some ((-1 : Int32), t2))))))) else none)
  refine jr_guard (fun ha0 => ?_)
  refine jr_aload_n hG 0 dX5_mark_0 rfl rfl ?_
  refine jr_getR hG fi_RX5_45 rfl (okO_s ha0) (okO_l ha0) dX5_mark_1 (fun o1 ho1 => ?_)
  refine jr_iload_n hG 1 dX5_mark_4 rfl rfl ?_
  refine jr_callVi (As := [.int v1]) hG (c_X2_has l E N o1 v1 (σ)) ci_X2_has wd_421 ⟨wd_362, wd_363⟩ cl_2 (okO_s ho1) (okO_l ho1) ⟨rfl, rfl, Nat.le_of_ble_eq_true rfl, Nat.le_of_ble_eq_true rfl⟩ rfl rfl (Nat.le_of_ble_eq_true rfl) dX5_mark_5 ⟨Nat.le_refl _, Nat.le_refl _⟩ (fun r3 t2 => ?_)
  refine jr_if_eq hG 22 dX5_mark_8 (by decide) (fun _ => ?_) (fun _ => ?_)
  · refine jr_iconst (v := (-1 : Int32)) hG dX5_mark_22 (by decide) ?_
    exact jr_iret hG hr hk dX5_mark_23
  · refine jr_iload_n hG 2 dX5_mark_11 rfl rfl ?_
    refine jr_iconst (v := (1 : Int32)) hG dX5_mark_12 (by decide) ?_
    refine jr_icmp_lt hG 22 dX5_mark_13 (by decide) (fun _ => ?_) (fun _ => ?_)
    · refine jr_iconst (v := (-1 : Int32)) hG dX5_mark_22 (by decide) ?_
      exact jr_iret hG hr hk dX5_mark_23
    · refine jr_iload_n hG 2 dX5_mark_16 rfl rfl ?_
      refine jr_bipush (v := (6 : Int32)) hG dX5_mark_17 (by decide) ?_
      refine jr_icmp_lt hG 24 dX5_mark_19 (by decide) (fun _ => ?_) (fun _ => ?_)
      · refine jr_aload_n hG 0 dX5_mark_24 rfl rfl ?_
        refine jr_getR hG fi_RX5_45 rfl (okO_s ha0) (okO_l ha0) dX5_mark_25 (fun o4 ho4 => ?_)
        refine jr_iload_n hG 1 dX5_mark_28 rfl rfl ?_
        refine jr_iload_n hG 2 dX5_mark_29 rfl rfl ?_
        refine jr_callVi (As := [.int v1, .int v2]) hG (c_X2_is l E N o4 v1 v2 t2) ci_X2_is wd_430 ⟨wd_408, wd_409⟩ cl_2 (okO_s ho4) (okO_l ho4) ⟨rfl, rfl, Nat.le_of_ble_eq_true rfl, Nat.le_of_ble_eq_true rfl⟩ rfl rfl (Nat.le_of_ble_eq_true rfl) dX5_mark_30 ⟨Nat.le_refl _, Nat.le_refl _⟩ (fun r6 t5 => ?_)
        refine jr_if_ne hG 42 dX5_mark_33 (by decide) (fun _ => ?_) (fun _ => ?_)
        · refine jr_iload_n hG 2 dX5_mark_42 rfl rfl ?_
          refine jr_ite (fun hs1 => ?_) (fun hs1 => ?_)
          · refine jr_tabIn (off := 29) hG 72 dX5_mark_43 (1 : Int32) hs1 (by decide) ?_
            refine jr_aload_n hG 0 dX5_mark_72 rfl rfl ?_
            refine jr_getR hG fi_RX5_45 rfl (okO_s ha0) (okO_l ha0) dX5_mark_73 (fun o7 ho7 => ?_)
            refine jr_iload_n hG 1 dX5_mark_76 rfl rfl ?_
            refine jr_aload_n hG 0 dX5_mark_77 rfl rfl ?_
            refine jr_getR hG fi_RX5_35 rfl (okO_s ha0) (okO_l ha0) dX5_mark_78 (fun o8 ho8 => ?_)
            refine jr_getR hG fi_RX5_138 rfl (okO_s ho8) (okO_l ho8) dX5_mark_81 (fun o9 ho9 => ?_)
            refine jr_callVi (As := [.int v1, .ref (E.B + o9)]) hG (c_X2_gainOf l E N o7 v1 o9 t5) ci_X2_gainOf wd_431 ⟨wd_432, wd_433⟩ cl_2 (okO_s ho7) (okO_l ho7) ⟨rfl, rfl, Nat.le_of_ble_eq_true rfl, Nat.le_of_ble_eq_true rfl⟩ rfl rfl (Nat.le_of_ble_eq_true rfl) dX5_mark_84 ⟨Nat.le_refl _, Nat.le_refl _⟩ (fun r11 t10 => ?_)
            exact jr_iret hG hr hk dX5_mark_87
          refine jr_ite (fun hs2 => ?_) (fun hs2 => ?_)
          · refine jr_tabIn (off := 45) hG 88 dX5_mark_43 (2 : Int32) hs2 (by decide) ?_
            refine jr_aload_n hG 0 dX5_mark_88 rfl rfl ?_
            refine jr_getR hG fi_RX5_35 rfl (okO_s ha0) (okO_l ha0) dX5_mark_89 (fun o12 ho12 => ?_)
            refine jr_iload_n hG 1 dX5_mark_92 rfl rfl ?_
            refine jr_callVi (As := [.int v1]) hG (c_X0_tellersOf l E N o12 v1 t5) ci_X0_tellersOf wd_442 ⟨wd_443, wd_444⟩ cl_0 (okO_s ho12) (okO_l ho12) ⟨rfl, rfl, Nat.le_of_ble_eq_true rfl, Nat.le_of_ble_eq_true rfl⟩ rfl rfl (Nat.le_of_ble_eq_true rfl) dX5_mark_93 ⟨Nat.le_refl _, Nat.le_refl _⟩ (fun r14 t13 => ?_)
            exact jr_iret hG hr hk dX5_mark_96
          refine jr_ite (fun hs3 => ?_) (fun hs3 => ?_)
          · refine jr_tabIn (off := 54) hG 97 dX5_mark_43 (3 : Int32) hs3 (by decide) ?_
            refine jr_aload_n hG 0 dX5_mark_97 rfl rfl ?_
            refine jr_getR hG fi_RX5_35 rfl (okO_s ha0) (okO_l ha0) dX5_mark_98 (fun o15 ho15 => ?_)
            refine jr_iload_n hG 1 dX5_mark_101 rfl rfl ?_
            refine jr_iconst (v := (1 : Int32)) hG dX5_mark_102 (by decide) ?_
            refine jr_aload_n hG 0 dX5_mark_103 rfl rfl ?_
            refine jr_getR hG fi_RX5_35 rfl (okO_s ha0) (okO_l ha0) dX5_mark_104 (fun o16 ho16 => ?_)
            refine jr_getR hG fi_RX5_138 rfl (okO_s ho16) (okO_l ho16) dX5_mark_107 (fun o17 ho17 => ?_)
            refine jr_iload_n hG 1 dX5_mark_110 rfl rfl ?_
            refine jr_iald hG (okA_s (by decide) ho17) (okA_l ho17) dX5_mark_111 ?_
            refine jr_iconst (v := (1 : Int32)) hG dX5_mark_112 (by decide) ?_
            refine jr_iadd hG dX5_mark_113 ?_
            refine jr_iconst (v := (4 : Int32)) hG dX5_mark_114 (by decide) ?_
            refine jr_iremc hG dX5_mark_115 (by decide) ?_
            refine jr_ishl hG dX5_mark_116 ?_
            refine jr_callVi (As := [.int v1, .int ((1 : Int32) <<< ((((gi t5 o17 (ix v1)) + (1 : Int32)) - ((gi t5 o17 (ix v1)) + (1 : Int32)) / (4 : Int32) * (4 : Int32)) &&& 31))]) hG (c_X0_othersWhoKnow l E N o15 v1 ((1 : Int32) <<< ((((gi t5 o17 (ix v1)) + (1 : Int32)) - ((gi t5 o17 (ix v1)) + (1 : Int32)) / (4 : Int32) * (4 : Int32)) &&& 31)) t5) ci_X0_othersWhoKnow wd_446 ⟨wd_447, wd_448⟩ cl_0 (okO_s ho15) (okO_l ho15) ⟨rfl, rfl, Nat.le_of_ble_eq_true rfl, Nat.le_of_ble_eq_true rfl⟩ rfl rfl (Nat.le_of_ble_eq_true rfl) dX5_mark_117 ⟨Nat.le_refl _, Nat.le_refl _⟩ (fun r19 t18 => ?_)
            exact jr_iret hG hr hk dX5_mark_120
          refine jr_ite (fun hs4 => ?_) (fun hs4 => ?_)
          · refine jr_tabIn (off := 78) hG 121 dX5_mark_43 (4 : Int32) hs4 (by decide) ?_
            refine jr_aload_n hG 0 dX5_mark_121 rfl rfl ?_
            refine jr_getR hG fi_RX5_35 rfl (okO_s ha0) (okO_l ha0) dX5_mark_122 (fun o20 ho20 => ?_)
            refine jr_iload_n hG 1 dX5_mark_125 rfl rfl ?_
            refine jr_aload_n hG 0 dX5_mark_126 rfl rfl ?_
            refine jr_getR hG fi_RX5_35 rfl (okO_s ha0) (okO_l ha0) dX5_mark_127 (fun o21 ho21 => ?_)
            refine jr_getR hG fi_RX5_151 rfl (okO_s ho21) (okO_l ho21) dX5_mark_130 (fun o22 ho22 => ?_)
            refine jr_iload_n hG 1 dX5_mark_133 rfl rfl ?_
            refine jr_iald hG (okA_s (by decide) ho22) (okA_l ho22) dX5_mark_134 ?_
            refine jr_callVi (As := [.int v1, .int (gi t5 o22 (ix v1))]) hG (c_X0_othersWhoKnow l E N o20 v1 (gi t5 o22 (ix v1)) t5) ci_X0_othersWhoKnow wd_446 ⟨wd_447, wd_448⟩ cl_0 (okO_s ho20) (okO_l ho20) ⟨rfl, rfl, Nat.le_of_ble_eq_true rfl, Nat.le_of_ble_eq_true rfl⟩ rfl rfl (Nat.le_of_ble_eq_true rfl) dX5_mark_135 ⟨Nat.le_refl _, Nat.le_refl _⟩ (fun r24 t23 => ?_)
            exact jr_iret hG hr hk dX5_mark_138
          refine jr_tabOut hG 139 dX5_mark_43 (tab_out1_4 hs1 hs2 hs3 hs4) (by decide) ?_
          refine jr_aload_n hG 0 dX5_mark_139 rfl rfl ?_
          refine jr_getR hG fi_RX5_35 rfl (okO_s ha0) (okO_l ha0) dX5_mark_140 (fun o25 ho25 => ?_)
          refine jr_getR hG fi_RX5_151 rfl (okO_s ho25) (okO_l ho25) dX5_mark_143 (fun o26 ho26 => ?_)
          refine jr_iload_n hG 1 dX5_mark_146 rfl rfl ?_
          refine jr_iald hG (okA_s (by decide) ho26) (okA_l ho26) dX5_mark_147 ?_
          refine jr_callSi (As := [.int (gi t5 o26 (ix v1))]) hG (c_J6_bitCount_0f7a4 l E N (gi t5 o26 (ix v1)) t5) ci_J6_bitCount_0f7a4 wd_450 wd_437 ⟨rfl, rfl, Nat.le_of_ble_eq_true rfl, Nat.le_of_ble_eq_true rfl⟩ rfl rfl (Nat.le_of_ble_eq_true rfl) dX5_mark_148 ⟨Nat.le_refl _, Nat.le_refl _⟩ (fun r28 t27 => ?_)
          exact jr_iret hG hr hk dX5_mark_151
        · refine jr_aload_n hG 0 dX5_mark_36 rfl rfl ?_
          refine jr_iconst (v := (3 : Int32)) hG dX5_mark_37 (by decide) ?_
          refine jr_callVi (As := [.int (3 : Int32)]) hG (c_X5_found l E N a0 (3 : Int32) t5) ci_X5_found wd_276 ⟨wd_278, wd_0⟩ cl_5 (okO_s ha0) (okO_l ha0) ⟨rfl, rfl, Nat.le_of_ble_eq_true rfl, Nat.le_of_ble_eq_true rfl⟩ rfl rfl (Nat.le_of_ble_eq_true rfl) dX5_mark_38 ⟨Nat.le_refl _, Nat.le_refl _⟩ (fun r30 t29 => ?_)
          exact jr_iret hG hr hk dX5_mark_41
      · refine jr_iconst (v := (-1 : Int32)) hG dX5_mark_22 (by decide) ?_
        exact jr_iret hG hr hk dX5_mark_23
-- TonguesDealt.act(II)V
abbrev rm_X5_act : Room := { frames := 5, cells := 0, slots := 0, locals := 113 }
theorem ci_X5_act : CIx yX5_act cX5_act 3 none 2 := ⟨wd_470, wd_71, by decide +kernel⟩
def f_X5_act (N : Nat) (a0 : Nat) (v1 : Int32) (v2 : Int32) (σ : Mm) : Option (Mm) := if okO 5 a0 then (bR (gr σ a0 3) (okO 1) (fun o1 => bV (f_X1_add N o1 v1 v2 (σ)) (fun t2 => bR (gr t2 a0 4) (okO 0) (fun o3 => bR (gr t2 a0 6) (okO 2) (fun o4 => bV (f_X0_live N o3 v1 v2 o4 t2) (fun t5 => bR (gr t5 a0 4) (okO 0) (fun o6 => bR (gr t5 a0 6) (okO 2) (fun o7 => bV (f_X0_settle N o6 o7 t5) (fun t8 => some t8))))))))) else none
set_option maxRecDepth 20000 in
theorem c_X5_act (l : Launch) (E : XE) (N : Nat) (a0 : Nat) (v1 : Int32) (v2 : Int32) (σ : Mm) : ∀ r0, f_X5_act N a0 v1 v2 σ = some r0 → Met l yX5_act [Cond.code yX5_act cX5_act 3 none] rm_X5_act (xPc E (NT + 0) σ [.ref (E.B + a0), .int v1, .int v2]) (xQv E (NT + 0) r0) 0 0 (xA E) := by
  refine met_of (N0 := NT) (by decide +kernel) (Nat.le_of_ble_eq_true rfl) ?_
  intro p e s m args below meth c hG hr hk _
  show JR E NT 3 p l e rm_X5_act s m args below meth c 0 0 (fun r => MQ below (xQv E (NT + 0) r) args s 0 0 (xA E)) 0 [(0, .ref (E.B + a0)), (1, .int v1), (2, .int v2)] [] σ (if okO 5 a0 then (bR (gr σ a0 3) (okO 1) (fun o1 => bV (f_X1_add N o1 v1 v2 (σ)) (fun t2 => bR (gr t2 a0 4) (okO 0) (fun o3 => bR (gr t2 a0 6) (okO 2) (fun o4 => bV (f_X0_live N o3 v1 v2 o4 t2) (fun t5 => bR (gr t5 a0 4) (okO 0) (fun o6 => bR (gr t5 a0 6) (okO 2) (fun o7 => bV (f_X0_settle N o6 o7 t5) (fun t8 => some t8))))))))) else none)
  refine jr_guard (fun ha0 => ?_)
  refine jr_aload_n hG 0 dX5_act_0 rfl rfl ?_
  refine jr_getR hG fi_RX5_28 rfl (okO_s ha0) (okO_l ha0) dX5_act_1 (fun o1 ho1 => ?_)
  refine jr_iload_n hG 1 dX5_act_4 rfl rfl ?_
  refine jr_iload_n hG 2 dX5_act_5 rfl rfl ?_
  refine jr_callVv (As := [.int v1, .int v2]) hG (c_X1_add l E N o1 v1 v2 (σ)) ci_X1_add wd_471 ⟨wd_472, wd_473⟩ cl_1 (okO_s ho1) (okO_l ho1) ⟨rfl, rfl, Nat.le_of_ble_eq_true rfl, Nat.le_of_ble_eq_true rfl⟩ rfl rfl (Nat.le_of_ble_eq_true rfl) dX5_act_6 ⟨Nat.le_refl _, Nat.le_refl _⟩ (fun t2 => ?_)
  refine jr_aload_n hG 0 dX5_act_9 rfl rfl ?_
  refine jr_getR hG fi_RX5_35 rfl (okO_s ha0) (okO_l ha0) dX5_act_10 (fun o3 ho3 => ?_)
  refine jr_iload_n hG 1 dX5_act_13 rfl rfl ?_
  refine jr_iload_n hG 2 dX5_act_14 rfl rfl ?_
  refine jr_aload_n hG 0 dX5_act_15 rfl rfl ?_
  refine jr_getR hG fi_RX5_45 rfl (okO_s ha0) (okO_l ha0) dX5_act_16 (fun o4 ho4 => ?_)
  refine jr_callVv (As := [.int v1, .int v2, .ref (E.B + o4)]) hG (c_X0_live l E N o3 v1 v2 o4 t2) ci_X0_live wd_387 ⟨wd_388, wd_389⟩ cl_0 (okO_s ho3) (okO_l ho3) ⟨rfl, rfl, Nat.le_of_ble_eq_true rfl, Nat.le_of_ble_eq_true rfl⟩ rfl rfl (Nat.le_of_ble_eq_true rfl) dX5_act_19 ⟨Nat.le_refl _, Nat.le_refl _⟩ (fun t5 => ?_)
  refine jr_aload_n hG 0 dX5_act_22 rfl rfl ?_
  refine jr_getR hG fi_RX5_35 rfl (okO_s ha0) (okO_l ha0) dX5_act_23 (fun o6 ho6 => ?_)
  refine jr_aload_n hG 0 dX5_act_26 rfl rfl ?_
  refine jr_getR hG fi_RX5_45 rfl (okO_s ha0) (okO_l ha0) dX5_act_27 (fun o7 ho7 => ?_)
  refine jr_callVv (As := [.ref (E.B + o7)]) hG (c_X0_settle l E N o6 o7 t5) ci_X0_settle wd_395 ⟨wd_396, wd_397⟩ cl_0 (okO_s ho6) (okO_l ho6) ⟨rfl, rfl, Nat.le_of_ble_eq_true rfl, Nat.le_of_ble_eq_true rfl⟩ rfl rfl (Nat.le_of_ble_eq_true rfl) dX5_act_30 ⟨Nat.le_refl _, Nat.le_refl _⟩ (fun t8 => ?_)
  exact jr_vret hG hr hk dX5_act_33
-- TonguesDealt.deal(I)I
abbrev rm_X5_deal : Room := { frames := 6, cells := 0, slots := 0, locals := 135 }
theorem ci_X5_deal : CIx yX5_deal cX5_deal 3 (some .int) 1 := ⟨wd_454, wd_71, by decide +kernel⟩
def f_X5_deal_86 (N : Nat)  (a0 : Nat) (σ : Mm) : Option (Int32 × Mm) := bI (f_X5_found N a0 (3 : Int32) (σ)) (fun r25 t24 => some (r25, t24))
set_option maxRecDepth 20000 in
theorem w_X5_deal_86 {p : Program} {l : Launch} {e : Env} {s : State} {m : MethodId} {args : Array Value} {below : List Frame} {meth : Method} {c : Code} {E : XE} (N : Nat) (hG : GG E NT 3 RX5 cX5_deal p s m args c) (hr : meth.sig.returnType = (some .int)) (hk : meth.locks = false)  (a0 : Nat) (ha0 : okO 5 a0 = true) (σ : Mm) : JR E NT 3 p l e rm_X5_deal s m args below meth c 0 0 (fun r => MQ below (xQi E (NT + 0) r) args s 0 0 (xA E)) 86 [(0, .ref (E.B + a0))] [] σ (f_X5_deal_86 N a0 σ) := by
  show JR E NT 3 p l e rm_X5_deal s m args below meth c 0 0 (fun r => MQ below (xQi E (NT + 0) r) args s 0 0 (xA E)) 86 [(0, .ref (E.B + a0))] [] σ (bI (f_X5_found N a0 (3 : Int32) (σ)) (fun r25 t24 => some (r25, t24)))
  refine jr_aload_n hG 0 dX5_deal_86 rfl rfl ?_
  refine jr_iconst (v := (3 : Int32)) hG dX5_deal_87 (by decide) ?_
  refine jr_callVi (As := [.int (3 : Int32)]) hG (c_X5_found l E N a0 (3 : Int32) (σ)) ci_X5_found wd_276 ⟨wd_278, wd_0⟩ cl_5 (okO_s ha0) (okO_l ha0) ⟨rfl, rfl, Nat.le_of_ble_eq_true rfl, Nat.le_of_ble_eq_true rfl⟩ rfl rfl (Nat.le_of_ble_eq_true rfl) dX5_deal_88 ⟨Nat.le_refl _, Nat.le_refl _⟩ (fun r25 t24 => ?_)
  exact jr_iret hG hr hk dX5_deal_91
def f_X5_deal (N : Nat) (a0 : Nat) (v1 : Int32) (σ : Mm) : Option (Int32 × Mm) := if okO 5 a0 then (bI (f_X5_isRow N v1 (σ)) (fun r2 t1 => if r2 = 0 then (some ((-1 : Int32), t1)) else (bR (gr t1 a0 6) (okO 2) (fun o3 => if (gi t1 o3 8) = 0 then (some ((-4 : Int32), t1)) else (bR (gr t1 a0 0) (okA 3) (fun o4 => if inb v1 (arL o4) then (bR (gr t1 o4 (ix v1)) (okO 3) (fun o5 => if (gi t1 o5 1) = (-1 : Int32) then (bI (f_X5_found N a0 (1 : Int32) t1) (fun r23 t22 => some (r23, t22))) else (bR (gr t1 a0 6) (okO 2) (fun o6 => if (gi t1 o5 1) = (gi t1 o6 8) then (bI (f_X3_allBelow N o5 (4 : Int32) t1) (fun r8 t7 => if r8 = 0 then (f_X5_deal_86 N a0 t7) else (bR (gr t7 a0 6) (okO 2) (fun o9 => bR (gr t7 o5 0) (okA 0) (fun o10 => bI (f_X2_agrees N o9 o10 (0 : Int32) t7) (fun r12 t11 => if r12 = 0 then (f_X5_deal_86 N a0 t11) else (bR (gr t11 a0 3) (okO 1) (fun o13 => if (gi t11 o13 2) < (40 : Int32) then (bR (gr t11 a0 6) (okO 2) (fun o14 => bR (gr t11 o5 0) (okA 0) (fun o15 => bI (f_X2_dealNumber N o14 o15 t11) (fun r17 t16 => bV (f_X5_act N a0 (0 : Int32) r17 t16) (fun t18 => bR (gr t18 a0 4) (okO 0) (fun o19 => some (gi t18 o19 6, t18))))))) else (some ((-2 : Int32), t11)))))))))) else (bI (f_X5_found N a0 (5 : Int32) t1) (fun r21 t20 => some (r21, t20))))))) else none)))))) else none
set_option maxRecDepth 20000 in
theorem c_X5_deal (l : Launch) (E : XE) (N : Nat) (a0 : Nat) (v1 : Int32) (σ : Mm) : ∀ r0, f_X5_deal N a0 v1 σ = some r0 → Met l yX5_deal [Cond.code yX5_deal cX5_deal 3 (some .int)] rm_X5_deal (xPc E (NT + 0) σ [.ref (E.B + a0), .int v1]) (xQi E (NT + 0) r0) 0 0 (xA E) := by
  refine met_of (N0 := NT) (by decide +kernel) (Nat.le_of_ble_eq_true rfl) ?_
  intro p e s m args below meth c hG hr hk _
  show JR E NT 3 p l e rm_X5_deal s m args below meth c 0 0 (fun r => MQ below (xQi E (NT + 0) r) args s 0 0 (xA E)) 0 [(0, .ref (E.B + a0)), (1, .int v1)] [] σ (if okO 5 a0 then (bI (f_X5_isRow N v1 (σ)) (fun r2 t1 => if r2 = 0 then (some ((-1 : Int32), t1)) else (bR (gr t1 a0 6) (okO 2) (fun o3 => if (gi t1 o3 8) = 0 then (some ((-4 : Int32), t1)) else (bR (gr t1 a0 0) (okA 3) (fun o4 => if inb v1 (arL o4) then (bR (gr t1 o4 (ix v1)) (okO 3) (fun o5 => if (gi t1 o5 1) = (-1 : Int32) then (bI (f_X5_found N a0 (1 : Int32) t1) (fun r23 t22 => some (r23, t22))) else (bR (gr t1 a0 6) (okO 2) (fun o6 => if (gi t1 o5 1) = (gi t1 o6 8) then (bI (f_X3_allBelow N o5 (4 : Int32) t1) (fun r8 t7 => if r8 = 0 then (f_X5_deal_86 N a0 t7) else (bR (gr t7 a0 6) (okO 2) (fun o9 => bR (gr t7 o5 0) (okA 0) (fun o10 => bI (f_X2_agrees N o9 o10 (0 : Int32) t7) (fun r12 t11 => if r12 = 0 then (f_X5_deal_86 N a0 t11) else (bR (gr t11 a0 3) (okO 1) (fun o13 => if (gi t11 o13 2) < (40 : Int32) then (bR (gr t11 a0 6) (okO 2) (fun o14 => bR (gr t11 o5 0) (okA 0) (fun o15 => bI (f_X2_dealNumber N o14 o15 t11) (fun r17 t16 => bV (f_X5_act N a0 (0 : Int32) r17 t16) (fun t18 => bR (gr t18 a0 4) (okO 0) (fun o19 => some (gi t18 o19 6, t18))))))) else (some ((-2 : Int32), t11)))))))))) else (bI (f_X5_found N a0 (5 : Int32) t1) (fun r21 t20 => some (r21, t20))))))) else none)))))) else none)
  refine jr_guard (fun ha0 => ?_)
  refine jr_iload_n hG 1 dX5_deal_0 rfl rfl ?_
  refine jr_callSi (As := [.int v1]) hG (c_X5_isRow l E N v1 (σ)) ci_X5_isRow wd_273 wd_274 ⟨rfl, rfl, Nat.le_of_ble_eq_true rfl, Nat.le_of_ble_eq_true rfl⟩ rfl rfl (Nat.le_of_ble_eq_true rfl) dX5_deal_1 ⟨Nat.le_refl _, Nat.le_refl _⟩ (fun r2 t1 => ?_)
  refine jr_if_ne hG 9 dX5_deal_4 (by decide) (fun _ => ?_) (fun _ => ?_)
  · refine jr_aload_n hG 0 dX5_deal_9 rfl rfl ?_
    refine jr_getR hG fi_RX5_45 rfl (okO_s ha0) (okO_l ha0) dX5_deal_10 (fun o3 ho3 => ?_)
    refine jr_getI hG fi_RX5_127 rfl (okO_s ho3) (okO_l ho3) dX5_deal_13 ?_
    refine jr_if_ne hG 22 dX5_deal_16 (by decide) (fun _ => ?_) (fun _ => ?_)
    · refine jr_aload_n hG 0 dX5_deal_22 rfl rfl ?_
      refine jr_getR hG fi_RX5_11 rfl (okO_s ha0) (okO_l ha0) dX5_deal_23 (fun o4 ho4 => ?_)
      refine jr_iload_n hG 1 dX5_deal_26 rfl rfl ?_
      refine jr_aald hG (okA_s (by decide) ho4) (by decide) rfl (okA_l ho4) dX5_deal_27 (fun o5 ho5 => ?_)
      refine jr_astore_n (lv' := [(2, .ref (E.B + o5)), (0, .ref (E.B + a0)), (1, .int v1)]) hG dX5_deal_28 rfl (by decide) rfl ?_
      refine jr_aload_n hG 0 dX5_deal_29 rfl rfl ?_
      refine jr_getI hG fi_RX5_90 rfl (okO_s ho5) (okO_l ho5) dX5_deal_30 ?_
      refine jr_iconst (v := (-1 : Int32)) hG dX5_deal_33 (by decide) ?_
      refine jr_icmp_ne hG 43 dX5_deal_34 (by decide) (fun _ => ?_) (fun _ => ?_)
      · refine jr_aload_n hG 0 dX5_deal_43 rfl rfl ?_
        refine jr_getI hG fi_RX5_90 rfl (okO_s ho5) (okO_l ho5) dX5_deal_44 ?_
        refine jr_aload_n hG 1 dX5_deal_47 rfl rfl ?_
        refine jr_getR hG fi_RX5_45 rfl (okO_s ha0) (okO_l ha0) dX5_deal_48 (fun o6 ho6 => ?_)
        refine jr_getI hG fi_RX5_127 rfl (okO_s ho6) (okO_l ho6) dX5_deal_51 ?_
        refine jr_icmp_eq hG 63 dX5_deal_54 (by decide) (fun _ => ?_) (fun _ => ?_)
        · refine jr_aload_n hG 0 dX5_deal_63 rfl rfl ?_
          refine jr_iconst (v := (4 : Int32)) hG dX5_deal_64 (by decide) ?_
          refine jr_callVi (As := [.int (4 : Int32)]) hG (c_X3_allBelow l E N o5 (4 : Int32) t1) ci_X3_allBelow wd_455 ⟨wd_456, wd_457⟩ cl_3 (okO_s ho5) (okO_l ho5) ⟨rfl, rfl, Nat.le_of_ble_eq_true rfl, Nat.le_of_ble_eq_true rfl⟩ rfl rfl (Nat.le_of_ble_eq_true rfl) dX5_deal_65 ⟨Nat.le_refl _, Nat.le_refl _⟩ (fun r8 t7 => ?_)
          refine jr_if_eq hG 86 dX5_deal_68 (by decide) (fun _ => ?_) (fun _ => ?_)
          · refine jr_sub (lv' := [(0, .ref (E.B + a0))]) [1] rfl ?_
            exact w_X5_deal_86 N hG hr hk a0 ha0 t7
          · refine jr_aload_n hG 1 dX5_deal_71 rfl rfl ?_
            refine jr_getR hG fi_RX5_45 rfl (okO_s ha0) (okO_l ha0) dX5_deal_72 (fun o9 ho9 => ?_)
            refine jr_aload_n hG 0 dX5_deal_75 rfl rfl ?_
            refine jr_getR hG fi_RX5_94 rfl (okO_s ho5) (okO_l ho5) dX5_deal_76 (fun o10 ho10 => ?_)
            refine jr_iconst (v := (0 : Int32)) hG dX5_deal_79 (by decide) ?_
            refine jr_callVi (As := [.ref (E.B + o10), .int (0 : Int32)]) hG (c_X2_agrees l E N o9 o10 (0 : Int32) t7) ci_X2_agrees wd_459 ⟨wd_460, wd_461⟩ cl_2 (okO_s ho9) (okO_l ho9) ⟨rfl, rfl, Nat.le_of_ble_eq_true rfl, Nat.le_of_ble_eq_true rfl⟩ rfl rfl (Nat.le_of_ble_eq_true rfl) dX5_deal_80 ⟨Nat.le_refl _, Nat.le_refl _⟩ (fun r12 t11 => ?_)
            refine jr_if_ne hG 92 dX5_deal_83 (by decide) (fun _ => ?_) (fun _ => ?_)
            · refine jr_aload_n hG 1 dX5_deal_92 rfl rfl ?_
              refine jr_getR hG fi_RX5_28 rfl (okO_s ha0) (okO_l ha0) dX5_deal_93 (fun o13 ho13 => ?_)
              refine jr_getI hG fi_RX5_75 rfl (okO_s ho13) (okO_l ho13) dX5_deal_96 ?_
              refine jr_bipush (v := (40 : Int32)) hG dX5_deal_99 (by decide) ?_
              refine jr_icmp_lt hG 107 dX5_deal_101 (by decide) (fun _ => ?_) (fun _ => ?_)
              · refine jr_aload_n hG 1 dX5_deal_107 rfl rfl ?_
                refine jr_iconst (v := (0 : Int32)) hG dX5_deal_108 (by decide) ?_
                refine jr_aload_n hG 1 dX5_deal_109 rfl rfl ?_
                refine jr_getR hG fi_RX5_45 rfl (okO_s ha0) (okO_l ha0) dX5_deal_110 (fun o14 ho14 => ?_)
                refine jr_aload_n hG 0 dX5_deal_113 rfl rfl ?_
                refine jr_getR hG fi_RX5_94 rfl (okO_s ho5) (okO_l ho5) dX5_deal_114 (fun o15 ho15 => ?_)
                refine jr_callVi (As := [.ref (E.B + o15)]) hG (c_X2_dealNumber l E N o14 o15 t11) ci_X2_dealNumber wd_463 ⟨wd_464, wd_465⟩ cl_2 (okO_s ho14) (okO_l ho14) ⟨rfl, rfl, Nat.le_of_ble_eq_true rfl, Nat.le_of_ble_eq_true rfl⟩ rfl rfl (Nat.le_of_ble_eq_true rfl) dX5_deal_117 ⟨Nat.le_refl _, Nat.le_refl _⟩ (fun r17 t16 => ?_)
                refine jr_callVv (As := [.int (0 : Int32), .int r17]) hG (c_X5_act l E N a0 (0 : Int32) r17 t16) ci_X5_act wd_467 ⟨wd_469, wd_8⟩ cl_5 (okO_s ha0) (okO_l ha0) ⟨rfl, rfl, Nat.le_of_ble_eq_true rfl, Nat.le_of_ble_eq_true rfl⟩ rfl rfl (Nat.le_of_ble_eq_true rfl) dX5_deal_120 ⟨Nat.le_refl _, Nat.le_refl _⟩ (fun t18 => ?_)
                refine jr_aload_n hG 1 dX5_deal_123 rfl rfl ?_
                refine jr_getR hG fi_RX5_35 rfl (okO_s ha0) (okO_l ha0) dX5_deal_124 (fun o19 ho19 => ?_)
                refine jr_getI hG fi_RX5_174 rfl (okO_s ho19) (okO_l ho19) dX5_deal_127 ?_
                exact jr_iret hG hr hk dX5_deal_130
              · refine jr_bipush (v := (-2 : Int32)) hG dX5_deal_104 (by decide) ?_
                exact jr_iret hG hr hk dX5_deal_106
            · refine jr_sub (lv' := [(0, .ref (E.B + a0))]) [1] rfl ?_
              exact w_X5_deal_86 N hG hr hk a0 ha0 t11
        · refine jr_aload_n hG 1 dX5_deal_57 rfl rfl ?_
          refine jr_iconst (v := (5 : Int32)) hG dX5_deal_58 (by decide) ?_
          refine jr_callVi (As := [.int (5 : Int32)]) hG (c_X5_found l E N a0 (5 : Int32) t1) ci_X5_found wd_276 ⟨wd_278, wd_0⟩ cl_5 (okO_s ha0) (okO_l ha0) ⟨rfl, rfl, Nat.le_of_ble_eq_true rfl, Nat.le_of_ble_eq_true rfl⟩ rfl rfl (Nat.le_of_ble_eq_true rfl) dX5_deal_59 ⟨Nat.le_refl _, Nat.le_refl _⟩ (fun r21 t20 => ?_)
          exact jr_iret hG hr hk dX5_deal_62
      · refine jr_aload_n hG 1 dX5_deal_37 rfl rfl ?_
        refine jr_iconst (v := (1 : Int32)) hG dX5_deal_38 (by decide) ?_
        refine jr_callVi (As := [.int (1 : Int32)]) hG (c_X5_found l E N a0 (1 : Int32) t1) ci_X5_found wd_276 ⟨wd_278, wd_0⟩ cl_5 (okO_s ha0) (okO_l ha0) ⟨rfl, rfl, Nat.le_of_ble_eq_true rfl, Nat.le_of_ble_eq_true rfl⟩ rfl rfl (Nat.le_of_ble_eq_true rfl) dX5_deal_39 ⟨Nat.le_refl _, Nat.le_refl _⟩ (fun r23 t22 => ?_)
        exact jr_iret hG hr hk dX5_deal_42
    · refine jr_bipush (v := (-4 : Int32)) hG dX5_deal_19 (by decide) ?_
      exact jr_iret hG hr hk dX5_deal_21
  · refine jr_iconst (v := (-1 : Int32)) hG dX5_deal_7 (by decide) ?_
    exact jr_iret hG hr hk dX5_deal_8
-- TonguesDealt.noon()I
abbrev rm_X5_noon : Room := { frames := 6, cells := 0, slots := 0, locals := 135 }
theorem ci_X5_noon : CIx yX5_noon cX5_noon 3 (some .int) 0 := ⟨wd_478, wd_71, by decide +kernel⟩
def f_X5_noon_80 (N : Nat) (K48 : Nat → Int32 → Int32 → Mm → Option (Int32 × Mm)) (a0 : Nat) (v1 : Int32) (v2 : Int32) (σ : Mm) : Option (Int32 × Mm) := K48 a0 v1 (v2 + (1 : Int32)) (σ)
set_option maxRecDepth 20000 in
theorem w_X5_noon_80 {p : Program} {l : Launch} {e : Env} {s : State} {m : MethodId} {args : Array Value} {below : List Frame} {meth : Method} {c : Code} {E : XE} (N : Nat) (hG : GG E NT 3 RX5 cX5_noon p s m args c) (hr : meth.sig.returnType = (some .int)) (hk : meth.locks = false) {K48 : Nat → Int32 → Int32 → Mm → Option (Int32 × Mm)} (hK48 : ∀ (a0 : Nat) (v1 : Int32) (v2 : Int32) (ha0 : okO 5 a0 = true) (σ : Mm), JR E NT 3 p l e rm_X5_noon s m args below meth c 0 0 (fun r => MQ below (xQi E (NT + 0) r) args s 0 0 (xA E)) 48 [(0, .ref (E.B + a0)), (1, .int v1), (2, .int v2)] [] σ (K48 a0 v1 v2 σ)) (a0 : Nat) (v1 : Int32) (v2 : Int32) (ha0 : okO 5 a0 = true) (σ : Mm) : JR E NT 3 p l e rm_X5_noon s m args below meth c 0 0 (fun r => MQ below (xQi E (NT + 0) r) args s 0 0 (xA E)) 80 [(0, .ref (E.B + a0)), (1, .int v1), (2, .int v2)] [] σ (f_X5_noon_80 N K48 a0 v1 v2 σ) := by
  show JR E NT 3 p l e rm_X5_noon s m args below meth c 0 0 (fun r => MQ below (xQi E (NT + 0) r) args s 0 0 (xA E)) 80 [(0, .ref (E.B + a0)), (1, .int v1), (2, .int v2)] [] σ (K48 a0 v1 (v2 + (1 : Int32)) (σ))
  refine jr_iinc (v := v2 + (1 : Int32)) (lv' := [(2, .int (v2 + (1 : Int32))), (0, .ref (E.B + a0)), (1, .int v1)]) hG 2 dX5_noon_80 rfl rfl (by decide) rfl ?_
  refine jr_goto hG 48 dX5_noon_83 (by decide) ?_
  refine jr_sub (lv' := [(0, .ref (E.B + a0)), (1, .int v1), (2, .int (v2 + (1 : Int32)))]) [1, 2, 0] rfl ?_
  exact hK48 a0 v1 (v2 + (1 : Int32)) ha0 (σ)
def f_X5_noon_48 (N : Nat)  : Nat → Nat → Int32 → Int32 → Mm → Option (Int32 × Mm)
  | 0 => fun _ _ _ _ => none
  | n + 1 => fun a0 v1 v2 σ => bR (gr σ a0 6) (okO 2) (fun o5 => if (gi σ o5 8) ≤ v2 then (some (v1, σ)) else (bR (gr σ a0 6) (okO 2) (fun o6 => bR (gr σ a0 4) (okO 0) (fun o7 => bR (gr σ o7 0) (okA 0) (fun o8 => bI (f_X2_gainOf N o6 v2 o8 (σ)) (fun r10 t9 => if r10 ≤ 0 then (f_X5_noon_80 N (f_X5_noon_48 N n) a0 v1 v2 t9) else (f_X5_noon_80 N (f_X5_noon_48 N n) a0 (v1 + (1 : Int32)) v2 t9)))))))
set_option maxRecDepth 20000 in
theorem w_X5_noon_48 {p : Program} {l : Launch} {e : Env} {s : State} {m : MethodId} {args : Array Value} {below : List Frame} {meth : Method} {c : Code} {E : XE} (N : Nat) (hG : GG E NT 3 RX5 cX5_noon p s m args c) (hr : meth.sig.returnType = (some .int)) (hk : meth.locks = false)  : ∀ (n : Nat) (a0 : Nat) (v1 : Int32) (v2 : Int32) (ha0 : okO 5 a0 = true) (σ : Mm), JR E NT 3 p l e rm_X5_noon s m args below meth c 0 0 (fun r => MQ below (xQi E (NT + 0) r) args s 0 0 (xA E)) 48 [(0, .ref (E.B + a0)), (1, .int v1), (2, .int v2)] [] σ (f_X5_noon_48 N n a0 v1 v2 σ) := by
  intro n
  induction n with
  | zero => intro a0 v1 v2 ha0 σ r hX; cases hX
  | succ n ih =>
    intro a0 v1 v2 ha0 σ
    show JR E NT 3 p l e rm_X5_noon s m args below meth c 0 0 (fun r => MQ below (xQi E (NT + 0) r) args s 0 0 (xA E)) 48 [(0, .ref (E.B + a0)), (1, .int v1), (2, .int v2)] [] σ (bR (gr σ a0 6) (okO 2) (fun o5 => if (gi σ o5 8) ≤ v2 then (some (v1, σ)) else (bR (gr σ a0 6) (okO 2) (fun o6 => bR (gr σ a0 4) (okO 0) (fun o7 => bR (gr σ o7 0) (okA 0) (fun o8 => bI (f_X2_gainOf N o6 v2 o8 (σ)) (fun r10 t9 => if r10 ≤ 0 then (f_X5_noon_80 N (f_X5_noon_48 N n) a0 v1 v2 t9) else (f_X5_noon_80 N (f_X5_noon_48 N n) a0 (v1 + (1 : Int32)) v2 t9))))))))
    refine jr_iload_n hG 2 dX5_noon_48 rfl rfl ?_
    refine jr_aload_n hG 0 dX5_noon_49 rfl rfl ?_
    refine jr_getR hG fi_RX5_45 rfl (okO_s ha0) (okO_l ha0) dX5_noon_50 (fun o5 ho5 => ?_)
    refine jr_getI hG fi_RX5_127 rfl (okO_s ho5) (okO_l ho5) dX5_noon_53 ?_
    refine jr_icmp_ge hG 86 dX5_noon_56 (by decide) (fun _ => ?_) (fun _ => ?_)
    · refine jr_iload_n hG 1 dX5_noon_86 rfl rfl ?_
      exact jr_iret hG hr hk dX5_noon_87
    · refine jr_aload_n hG 0 dX5_noon_59 rfl rfl ?_
      refine jr_getR hG fi_RX5_45 rfl (okO_s ha0) (okO_l ha0) dX5_noon_60 (fun o6 ho6 => ?_)
      refine jr_iload_n hG 2 dX5_noon_63 rfl rfl ?_
      refine jr_aload_n hG 0 dX5_noon_64 rfl rfl ?_
      refine jr_getR hG fi_RX5_35 rfl (okO_s ha0) (okO_l ha0) dX5_noon_65 (fun o7 ho7 => ?_)
      refine jr_getR hG fi_RX5_138 rfl (okO_s ho7) (okO_l ho7) dX5_noon_68 (fun o8 ho8 => ?_)
      refine jr_callVi (As := [.int v2, .ref (E.B + o8)]) hG (c_X2_gainOf l E N o6 v2 o8 (σ)) ci_X2_gainOf wd_431 ⟨wd_432, wd_433⟩ cl_2 (okO_s ho6) (okO_l ho6) ⟨rfl, rfl, Nat.le_of_ble_eq_true rfl, Nat.le_of_ble_eq_true rfl⟩ rfl rfl (Nat.le_of_ble_eq_true rfl) dX5_noon_71 ⟨Nat.le_refl _, Nat.le_refl _⟩ (fun r10 t9 => ?_)
      refine jr_if_le hG 80 dX5_noon_74 (by decide) (fun _ => ?_) (fun _ => ?_)
      · exact w_X5_noon_80 N hG hr hk ih a0 v1 v2 ha0 t9
      · refine jr_iinc (v := v1 + (1 : Int32)) (lv' := [(1, .int (v1 + (1 : Int32))), (0, .ref (E.B + a0)), (2, .int v2)]) hG 1 dX5_noon_77 rfl rfl (by decide) rfl ?_
        refine jr_sub (lv' := [(0, .ref (E.B + a0)), (1, .int (v1 + (1 : Int32))), (2, .int v2)]) [1, 0, 2] rfl ?_
        exact w_X5_noon_80 N hG hr hk ih a0 (v1 + (1 : Int32)) v2 ha0 t9
def f_X5_noon_20 (N : Nat)   (σ : Mm) : Option (Int32 × Mm) := some ((-4 : Int32), σ)
set_option maxRecDepth 20000 in
theorem w_X5_noon_20 {p : Program} {l : Launch} {e : Env} {s : State} {m : MethodId} {args : Array Value} {below : List Frame} {meth : Method} {c : Code} {E : XE} (N : Nat) (hG : GG E NT 3 RX5 cX5_noon p s m args c) (hr : meth.sig.returnType = (some .int)) (hk : meth.locks = false)    (σ : Mm) : JR E NT 3 p l e rm_X5_noon s m args below meth c 0 0 (fun r => MQ below (xQi E (NT + 0) r) args s 0 0 (xA E)) 20 [] [] σ (f_X5_noon_20 N σ) := by
  show JR E NT 3 p l e rm_X5_noon s m args below meth c 0 0 (fun r => MQ below (xQi E (NT + 0) r) args s 0 0 (xA E)) 20 [] [] σ (some ((-4 : Int32), σ))
  refine jr_bipush (v := (-4 : Int32)) hG dX5_noon_20 (by decide) ?_
  exact jr_iret hG hr hk dX5_noon_22
def f_X5_noon (N : Nat) (a0 : Nat) (σ : Mm) : Option (Int32 × Mm) := if okO 5 a0 then (bR (gr σ a0 6) (okO 2) (fun o1 => if (gi σ o1 8) = 0 then (f_X5_noon_20 N (σ)) else (bR (gr σ a0 4) (okO 0) (fun o2 => if (gi σ o2 7) = 0 then (bR (gr σ a0 3) (okO 1) (fun o3 => if (gi σ o3 2) < (40 : Int32) then (bV (f_X5_act N a0 (1 : Int32) (0 : Int32) (σ)) (fun t4 => f_X5_noon_48 N N a0 (0 : Int32) (0 : Int32) t4)) else (some ((-2 : Int32), σ)))) else (f_X5_noon_20 N (σ)))))) else none
set_option maxRecDepth 20000 in
theorem c_X5_noon (l : Launch) (E : XE) (N : Nat) (a0 : Nat) (σ : Mm) : ∀ r0, f_X5_noon N a0 σ = some r0 → Met l yX5_noon [Cond.code yX5_noon cX5_noon 3 (some .int)] rm_X5_noon (xPc E (NT + 0) σ [.ref (E.B + a0)]) (xQi E (NT + 0) r0) 0 0 (xA E) := by
  refine met_of (N0 := NT) (by decide +kernel) (Nat.le_of_ble_eq_true rfl) ?_
  intro p e s m args below meth c hG hr hk _
  show JR E NT 3 p l e rm_X5_noon s m args below meth c 0 0 (fun r => MQ below (xQi E (NT + 0) r) args s 0 0 (xA E)) 0 [(0, .ref (E.B + a0))] [] σ (if okO 5 a0 then (bR (gr σ a0 6) (okO 2) (fun o1 => if (gi σ o1 8) = 0 then (f_X5_noon_20 N (σ)) else (bR (gr σ a0 4) (okO 0) (fun o2 => if (gi σ o2 7) = 0 then (bR (gr σ a0 3) (okO 1) (fun o3 => if (gi σ o3 2) < (40 : Int32) then (bV (f_X5_act N a0 (1 : Int32) (0 : Int32) (σ)) (fun t4 => f_X5_noon_48 N N a0 (0 : Int32) (0 : Int32) t4)) else (some ((-2 : Int32), σ)))) else (f_X5_noon_20 N (σ)))))) else none)
  refine jr_guard (fun ha0 => ?_)
  refine jr_aload_n hG 0 dX5_noon_0 rfl rfl ?_
  refine jr_getR hG fi_RX5_45 rfl (okO_s ha0) (okO_l ha0) dX5_noon_1 (fun o1 ho1 => ?_)
  refine jr_getI hG fi_RX5_127 rfl (okO_s ho1) (okO_l ho1) dX5_noon_4 ?_
  refine jr_if_eq hG 20 dX5_noon_7 (by decide) (fun _ => ?_) (fun _ => ?_)
  · refine jr_sub (lv' := []) [] rfl ?_
    exact w_X5_noon_20 N hG hr hk (σ)
  · refine jr_aload_n hG 0 dX5_noon_10 rfl rfl ?_
    refine jr_getR hG fi_RX5_35 rfl (okO_s ha0) (okO_l ha0) dX5_noon_11 (fun o2 ho2 => ?_)
    refine jr_getZ hG fi_RX5_177 rfl (okO_s ho2) (okO_l ho2) dX5_noon_14 ?_
    refine jr_if_eq hG 23 dX5_noon_17 (by decide) (fun _ => ?_) (fun _ => ?_)
    · refine jr_aload_n hG 0 dX5_noon_23 rfl rfl ?_
      refine jr_getR hG fi_RX5_28 rfl (okO_s ha0) (okO_l ha0) dX5_noon_24 (fun o3 ho3 => ?_)
      refine jr_getI hG fi_RX5_75 rfl (okO_s ho3) (okO_l ho3) dX5_noon_27 ?_
      refine jr_bipush (v := (40 : Int32)) hG dX5_noon_30 (by decide) ?_
      refine jr_icmp_lt hG 38 dX5_noon_32 (by decide) (fun _ => ?_) (fun _ => ?_)
      · refine jr_aload_n hG 0 dX5_noon_38 rfl rfl ?_
        refine jr_iconst (v := (1 : Int32)) hG dX5_noon_39 (by decide) ?_
        refine jr_iconst (v := (0 : Int32)) hG dX5_noon_40 (by decide) ?_
        refine jr_callVv (As := [.int (1 : Int32), .int (0 : Int32)]) hG (c_X5_act l E N a0 (1 : Int32) (0 : Int32) (σ)) ci_X5_act wd_467 ⟨wd_469, wd_8⟩ cl_5 (okO_s ha0) (okO_l ha0) ⟨rfl, rfl, Nat.le_of_ble_eq_true rfl, Nat.le_of_ble_eq_true rfl⟩ rfl rfl (Nat.le_of_ble_eq_true rfl) dX5_noon_41 ⟨Nat.le_refl _, Nat.le_refl _⟩ (fun t4 => ?_)
        refine jr_iconst (v := (0 : Int32)) hG dX5_noon_44 (by decide) ?_
        refine jr_istore_n (lv' := [(1, .int (0 : Int32)), (0, .ref (E.B + a0))]) hG dX5_noon_45 rfl (by decide) rfl ?_
        refine jr_iconst (v := (0 : Int32)) hG dX5_noon_46 (by decide) ?_
        refine jr_istore_n (lv' := [(2, .int (0 : Int32)), (1, .int (0 : Int32)), (0, .ref (E.B + a0))]) hG dX5_noon_47 rfl (by decide) rfl ?_
        refine jr_sub (lv' := [(0, .ref (E.B + a0)), (1, .int (0 : Int32)), (2, .int (0 : Int32))]) [2, 1, 0] rfl ?_
        exact w_X5_noon_48 N hG hr hk N a0 (0 : Int32) (0 : Int32) ha0 t4
      · refine jr_bipush (v := (-2 : Int32)) hG dX5_noon_35 (by decide) ?_
        exact jr_iret hG hr hk dX5_noon_37
    · refine jr_sub (lv' := []) [] rfl ?_
      exact w_X5_noon_20 N hG hr hk (σ)
-- TonguesDealt.areTwo(II)Z
abbrev rm_X5_areTwo : Room := { frames := 1, cells := 0, slots := 0, locals := 21 }
theorem ci_X5_areTwo : CIx yX5_areTwo cX5_areTwo 3 (some .boolean) 2 := ⟨wd_486, wd_71, by decide +kernel⟩
def f_X5_areTwo (N : Nat) (a0 : Nat) (v1 : Int32) (v2 : Int32) (σ : Mm) : Option (Int32 × Mm) := if okO 5 a0 then (bR (gr σ a0 6) (okO 2) (fun o1 => bI (f_X2_has N o1 v1 (σ)) (fun r3 t2 => if r3 = 0 then (some ((0 : Int32), t2)) else (bR (gr t2 a0 6) (okO 2) (fun o4 => bI (f_X2_has N o4 v2 t2) (fun r6 t5 => if r6 = 0 then (some ((0 : Int32), t5)) else (if v1 = v2 then (some ((0 : Int32), t5)) else (some ((1 : Int32), t5))))))))) else none
set_option maxRecDepth 20000 in
theorem c_X5_areTwo (l : Launch) (E : XE) (N : Nat) (a0 : Nat) (v1 : Int32) (v2 : Int32) (σ : Mm) : ∀ r0, f_X5_areTwo N a0 v1 v2 σ = some r0 → Met l yX5_areTwo [Cond.code yX5_areTwo cX5_areTwo 3 (some .boolean)] rm_X5_areTwo (xPc E (NT + 0) σ [.ref (E.B + a0), .int v1, .int v2]) (xQi E (NT + 0) r0) 0 0 (xA E) := by
  refine met_of (N0 := NT) (by decide +kernel) (Nat.le_of_ble_eq_true rfl) ?_
  intro p e s m args below meth c hG hr hk _
  show JR E NT 3 p l e rm_X5_areTwo s m args below meth c 0 0 (fun r => MQ below (xQi E (NT + 0) r) args s 0 0 (xA E)) 0 [(0, .ref (E.B + a0)), (1, .int v1), (2, .int v2)] [] σ (if okO 5 a0 then (bR (gr σ a0 6) (okO 2) (fun o1 => bI (f_X2_has N o1 v1 (σ)) (fun r3 t2 => if r3 = 0 then (some ((0 : Int32), t2)) else (bR (gr t2 a0 6) (okO 2) (fun o4 => bI (f_X2_has N o4 v2 t2) (fun r6 t5 => if r6 = 0 then (some ((0 : Int32), t5)) else (if v1 = v2 then (some ((0 : Int32), t5)) else (some ((1 : Int32), t5))))))))) else none)
  refine jr_guard (fun ha0 => ?_)
  refine jr_aload_n hG 0 dX5_areTwo_0 rfl rfl ?_
  refine jr_getR hG fi_RX5_45 rfl (okO_s ha0) (okO_l ha0) dX5_areTwo_1 (fun o1 ho1 => ?_)
  refine jr_iload_n hG 1 dX5_areTwo_4 rfl rfl ?_
  refine jr_callVi (As := [.int v1]) hG (c_X2_has l E N o1 v1 (σ)) ci_X2_has wd_421 ⟨wd_362, wd_363⟩ cl_2 (okO_s ho1) (okO_l ho1) ⟨rfl, rfl, Nat.le_of_ble_eq_true rfl, Nat.le_of_ble_eq_true rfl⟩ rfl rfl (Nat.le_of_ble_eq_true rfl) dX5_areTwo_5 ⟨Nat.le_refl _, Nat.le_refl _⟩ (fun r3 t2 => ?_)
  refine jr_if_eq hG 31 dX5_areTwo_8 (by decide) (fun _ => ?_) (fun _ => ?_)
  · refine jr_iconst (v := (0 : Int32)) hG dX5_areTwo_31 (by decide) ?_
    exact jr_zret hG hr hk (by decide) dX5_areTwo_32
  · refine jr_aload_n hG 0 dX5_areTwo_11 rfl rfl ?_
    refine jr_getR hG fi_RX5_45 rfl (okO_s ha0) (okO_l ha0) dX5_areTwo_12 (fun o4 ho4 => ?_)
    refine jr_iload_n hG 2 dX5_areTwo_15 rfl rfl ?_
    refine jr_callVi (As := [.int v2]) hG (c_X2_has l E N o4 v2 t2) ci_X2_has wd_421 ⟨wd_362, wd_363⟩ cl_2 (okO_s ho4) (okO_l ho4) ⟨rfl, rfl, Nat.le_of_ble_eq_true rfl, Nat.le_of_ble_eq_true rfl⟩ rfl rfl (Nat.le_of_ble_eq_true rfl) dX5_areTwo_16 ⟨Nat.le_refl _, Nat.le_refl _⟩ (fun r6 t5 => ?_)
    refine jr_if_eq hG 31 dX5_areTwo_19 (by decide) (fun _ => ?_) (fun _ => ?_)
    · refine jr_iconst (v := (0 : Int32)) hG dX5_areTwo_31 (by decide) ?_
      exact jr_zret hG hr hk (by decide) dX5_areTwo_32
    · refine jr_iload_n hG 1 dX5_areTwo_22 rfl rfl ?_
      refine jr_iload_n hG 2 dX5_areTwo_23 rfl rfl ?_
      refine jr_icmp_eq hG 31 dX5_areTwo_24 (by decide) (fun _ => ?_) (fun _ => ?_)
      · refine jr_iconst (v := (0 : Int32)) hG dX5_areTwo_31 (by decide) ?_
        exact jr_zret hG hr hk (by decide) dX5_areTwo_32
      · refine jr_iconst (v := (1 : Int32)) hG dX5_areTwo_27 (by decide) ?_
        refine jr_goto hG 32 dX5_areTwo_28 (by decide) ?_
        exact jr_zret hG hr hk (by decide) dX5_areTwo_32
-- TonguesDealt.sign(II)I
abbrev rm_X5_sign : Room := { frames := 6, cells := 0, slots := 0, locals := 135 }
theorem ci_X5_sign : CIx yX5_sign cX5_sign 3 (some .int) 2 := ⟨wd_482, wd_71, by decide +kernel⟩
def f_X5_sign (N : Nat) (a0 : Nat) (v1 : Int32) (v2 : Int32) (σ : Mm) : Option (Int32 × Mm) := if okO 5 a0 then (bI (f_X5_areTwo N a0 v1 v2 (σ)) (fun r2 t1 => if r2 = 0 then (some ((-1 : Int32), t1)) else (bR (gr t1 a0 4) (okO 0) (fun o3 => bR (gr t1 o3 1) (okA 0) (fun o4 => if inb v1 (arL o4) then (bI (f_X5_holds N (gi t1 o4 (ix v1)) v2 t1) (fun r6 t5 => if r6 = 0 then (bR (gr t5 a0 3) (okO 1) (fun o7 => if (gi t5 o7 2) < (40 : Int32) then (bV (f_X5_act N a0 (2 : Int32) ((v1 * (6 : Int32)) + v2) t5) (fun t8 => bR (gr t8 a0 4) (okO 0) (fun o9 => bI (f_X0_signCount N o9 t8) (fun r11 t10 => some (r11, t10))))) else (some ((-2 : Int32), t5)))) else (some ((-4 : Int32), t5)))) else none))))) else none
set_option maxRecDepth 20000 in
theorem c_X5_sign (l : Launch) (E : XE) (N : Nat) (a0 : Nat) (v1 : Int32) (v2 : Int32) (σ : Mm) : ∀ r0, f_X5_sign N a0 v1 v2 σ = some r0 → Met l yX5_sign [Cond.code yX5_sign cX5_sign 3 (some .int)] rm_X5_sign (xPc E (NT + 0) σ [.ref (E.B + a0), .int v1, .int v2]) (xQi E (NT + 0) r0) 0 0 (xA E) := by
  refine met_of (N0 := NT) (by decide +kernel) (Nat.le_of_ble_eq_true rfl) ?_
  intro p e s m args below meth c hG hr hk _
  show JR E NT 3 p l e rm_X5_sign s m args below meth c 0 0 (fun r => MQ below (xQi E (NT + 0) r) args s 0 0 (xA E)) 0 [(0, .ref (E.B + a0)), (1, .int v1), (2, .int v2)] [] σ (if okO 5 a0 then (bI (f_X5_areTwo N a0 v1 v2 (σ)) (fun r2 t1 => if r2 = 0 then (some ((-1 : Int32), t1)) else (bR (gr t1 a0 4) (okO 0) (fun o3 => bR (gr t1 o3 1) (okA 0) (fun o4 => if inb v1 (arL o4) then (bI (f_X5_holds N (gi t1 o4 (ix v1)) v2 t1) (fun r6 t5 => if r6 = 0 then (bR (gr t5 a0 3) (okO 1) (fun o7 => if (gi t5 o7 2) < (40 : Int32) then (bV (f_X5_act N a0 (2 : Int32) ((v1 * (6 : Int32)) + v2) t5) (fun t8 => bR (gr t8 a0 4) (okO 0) (fun o9 => bI (f_X0_signCount N o9 t8) (fun r11 t10 => some (r11, t10))))) else (some ((-2 : Int32), t5)))) else (some ((-4 : Int32), t5)))) else none))))) else none)
  refine jr_guard (fun ha0 => ?_)
  refine jr_aload_n hG 0 dX5_sign_0 rfl rfl ?_
  refine jr_iload_n hG 1 dX5_sign_1 rfl rfl ?_
  refine jr_iload_n hG 2 dX5_sign_2 rfl rfl ?_
  refine jr_callVi (As := [.int v1, .int v2]) hG (c_X5_areTwo l E N a0 v1 v2 (σ)) ci_X5_areTwo wd_483 ⟨wd_485, wd_9⟩ cl_5 (okO_s ha0) (okO_l ha0) ⟨rfl, rfl, Nat.le_of_ble_eq_true rfl, Nat.le_of_ble_eq_true rfl⟩ rfl rfl (Nat.le_of_ble_eq_true rfl) dX5_sign_3 ⟨Nat.le_refl _, Nat.le_refl _⟩ (fun r2 t1 => ?_)
  refine jr_if_ne hG 11 dX5_sign_6 (by decide) (fun _ => ?_) (fun _ => ?_)
  · refine jr_aload_n hG 0 dX5_sign_11 rfl rfl ?_
    refine jr_getR hG fi_RX5_35 rfl (okO_s ha0) (okO_l ha0) dX5_sign_12 (fun o3 ho3 => ?_)
    refine jr_getR hG fi_RX5_184 rfl (okO_s ho3) (okO_l ho3) dX5_sign_15 (fun o4 ho4 => ?_)
    refine jr_iload_n hG 1 dX5_sign_18 rfl rfl ?_
    refine jr_iald hG (okA_s (by decide) ho4) (okA_l ho4) dX5_sign_19 ?_
    refine jr_iload_n hG 2 dX5_sign_20 rfl rfl ?_
    refine jr_callSi (As := [.int (gi t1 o4 (ix v1)), .int v2]) hG (c_X5_holds l E N (gi t1 o4 (ix v1)) v2 t1) ci_X5_holds wd_487 wd_366 ⟨rfl, rfl, Nat.le_of_ble_eq_true rfl, Nat.le_of_ble_eq_true rfl⟩ rfl rfl (Nat.le_of_ble_eq_true rfl) dX5_sign_21 ⟨Nat.le_refl _, Nat.le_refl _⟩ (fun r6 t5 => ?_)
    refine jr_if_eq hG 30 dX5_sign_24 (by decide) (fun _ => ?_) (fun _ => ?_)
    · refine jr_aload_n hG 0 dX5_sign_30 rfl rfl ?_
      refine jr_getR hG fi_RX5_28 rfl (okO_s ha0) (okO_l ha0) dX5_sign_31 (fun o7 ho7 => ?_)
      refine jr_getI hG fi_RX5_75 rfl (okO_s ho7) (okO_l ho7) dX5_sign_34 ?_
      refine jr_bipush (v := (40 : Int32)) hG dX5_sign_37 (by decide) ?_
      refine jr_icmp_lt hG 45 dX5_sign_39 (by decide) (fun _ => ?_) (fun _ => ?_)
      · refine jr_aload_n hG 0 dX5_sign_45 rfl rfl ?_
        refine jr_iconst (v := (2 : Int32)) hG dX5_sign_46 (by decide) ?_
        refine jr_iload_n hG 1 dX5_sign_47 rfl rfl ?_
        refine jr_bipush (v := (6 : Int32)) hG dX5_sign_48 (by decide) ?_
        refine jr_imul hG dX5_sign_50 ?_
        refine jr_iload_n hG 2 dX5_sign_51 rfl rfl ?_
        refine jr_iadd hG dX5_sign_52 ?_
        refine jr_callVv (As := [.int (2 : Int32), .int ((v1 * (6 : Int32)) + v2)]) hG (c_X5_act l E N a0 (2 : Int32) ((v1 * (6 : Int32)) + v2) t5) ci_X5_act wd_467 ⟨wd_469, wd_8⟩ cl_5 (okO_s ha0) (okO_l ha0) ⟨rfl, rfl, Nat.le_of_ble_eq_true rfl, Nat.le_of_ble_eq_true rfl⟩ rfl rfl (Nat.le_of_ble_eq_true rfl) dX5_sign_53 ⟨Nat.le_refl _, Nat.le_refl _⟩ (fun t8 => ?_)
        refine jr_aload_n hG 0 dX5_sign_56 rfl rfl ?_
        refine jr_getR hG fi_RX5_35 rfl (okO_s ha0) (okO_l ha0) dX5_sign_57 (fun o9 ho9 => ?_)
        refine jr_callVi (As := []) hG (c_X0_signCount l E N o9 t8) ci_X0_signCount wd_488 ⟨wd_489, wd_490⟩ cl_0 (okO_s ho9) (okO_l ho9) ⟨rfl, rfl, Nat.le_of_ble_eq_true rfl, Nat.le_of_ble_eq_true rfl⟩ rfl rfl (Nat.le_of_ble_eq_true rfl) dX5_sign_60 ⟨Nat.le_refl _, Nat.le_refl _⟩ (fun r11 t10 => ?_)
        exact jr_iret hG hr hk dX5_sign_63
      · refine jr_bipush (v := (-2 : Int32)) hG dX5_sign_42 (by decide) ?_
        exact jr_iret hG hr hk dX5_sign_44
    · refine jr_bipush (v := (-4 : Int32)) hG dX5_sign_27 (by decide) ?_
      exact jr_iret hG hr hk dX5_sign_29
  · refine jr_iconst (v := (-1 : Int32)) hG dX5_sign_9 (by decide) ?_
    exact jr_iret hG hr hk dX5_sign_10
-- TonguesDealt.undo(I)I
abbrev rm_X5_undo : Room := { frames := 6, cells := 0, slots := 0, locals := 134 }
theorem ci_X5_undo : CIx yX5_undo cX5_undo 3 (some .int) 1 := ⟨wd_496, wd_71, by decide +kernel⟩
def f_X5_undo (N : Nat) (a0 : Nat) (v1 : Int32) (σ : Mm) : Option (Int32 × Mm) := if okO 5 a0 then (if v1 < 0 then (some ((-1 : Int32), σ)) else (bR (gr σ a0 3) (okO 1) (fun o1 => if v1 ≤ (gi σ o1 2) then (bR (gr σ a0 3) (okO 1) (fun o2 => lt ((gi σ o2 2) - v1) (fun x3 => bR (gr σ a0 3) (okO 1) (fun o4 => lt (si σ o4 2 v1) (fun t5 => bV (f_X5_liveAgain N a0 t5) (fun t6 => some (x3, t6))))))) else (some ((-1 : Int32), σ))))) else none
set_option maxRecDepth 20000 in
theorem c_X5_undo (l : Launch) (E : XE) (N : Nat) (a0 : Nat) (v1 : Int32) (σ : Mm) : ∀ r0, f_X5_undo N a0 v1 σ = some r0 → Met l yX5_undo [Cond.code yX5_undo cX5_undo 3 (some .int)] rm_X5_undo (xPc E (NT + 0) σ [.ref (E.B + a0), .int v1]) (xQi E (NT + 0) r0) 0 0 (xA E) := by
  refine met_of (N0 := NT) (by decide +kernel) (Nat.le_of_ble_eq_true rfl) ?_
  intro p e s m args below meth c hG hr hk _
  show JR E NT 3 p l e rm_X5_undo s m args below meth c 0 0 (fun r => MQ below (xQi E (NT + 0) r) args s 0 0 (xA E)) 0 [(0, .ref (E.B + a0)), (1, .int v1)] [] σ (if okO 5 a0 then (if v1 < 0 then (some ((-1 : Int32), σ)) else (bR (gr σ a0 3) (okO 1) (fun o1 => if v1 ≤ (gi σ o1 2) then (bR (gr σ a0 3) (okO 1) (fun o2 => lt ((gi σ o2 2) - v1) (fun x3 => bR (gr σ a0 3) (okO 1) (fun o4 => lt (si σ o4 2 v1) (fun t5 => bV (f_X5_liveAgain N a0 t5) (fun t6 => some (x3, t6))))))) else (some ((-1 : Int32), σ))))) else none)
  refine jr_guard (fun ha0 => ?_)
  refine jr_iload_n hG 1 dX5_undo_0 rfl rfl ?_
  refine jr_if_lt hG 15 dX5_undo_1 (by decide) (fun _ => ?_) (fun _ => ?_)
  · refine jr_iconst (v := (-1 : Int32)) hG dX5_undo_15 (by decide) ?_
    exact jr_iret hG hr hk dX5_undo_16
  · refine jr_iload_n hG 1 dX5_undo_4 rfl rfl ?_
    refine jr_aload_n hG 0 dX5_undo_5 rfl rfl ?_
    refine jr_getR hG fi_RX5_28 rfl (okO_s ha0) (okO_l ha0) dX5_undo_6 (fun o1 ho1 => ?_)
    refine jr_getI hG fi_RX5_75 rfl (okO_s ho1) (okO_l ho1) dX5_undo_9 ?_
    refine jr_icmp_le hG 17 dX5_undo_12 (by decide) (fun _ => ?_) (fun _ => ?_)
    · refine jr_aload_n hG 0 dX5_undo_17 rfl rfl ?_
      refine jr_getR hG fi_RX5_28 rfl (okO_s ha0) (okO_l ha0) dX5_undo_18 (fun o2 ho2 => ?_)
      refine jr_getI hG fi_RX5_75 rfl (okO_s ho2) (okO_l ho2) dX5_undo_21 ?_
      refine jr_iload_n hG 1 dX5_undo_24 rfl rfl ?_
      refine jr_isub hG dX5_undo_25 ?_
      refine jr_leti (fun x3 _ => ?_)
      refine jr_istore_n (lv' := [(2, .int x3), (0, .ref (E.B + a0)), (1, .int v1)]) hG dX5_undo_26 rfl (by decide) rfl ?_
      refine jr_aload_n hG 1 dX5_undo_27 rfl rfl ?_
      refine jr_getR hG fi_RX5_28 rfl (okO_s ha0) (okO_l ha0) dX5_undo_28 (fun o4 ho4 => ?_)
      refine jr_iload_n hG 2 dX5_undo_31 rfl rfl ?_
      refine jr_putI hG fi_RX5_75 rfl rfl (okO_s ho4) (okO_l ho4) dX5_undo_32 ?_
      refine jr_lets (fun t5 _ => ?_)
      refine jr_aload_n hG 1 dX5_undo_35 rfl rfl ?_
      refine jr_callVv (As := []) hG (c_X5_liveAgain l E N a0 t5) ci_X5_liveAgain wd_379 ⟨wd_381, wd_5⟩ cl_5 (okO_s ha0) (okO_l ha0) ⟨rfl, rfl, Nat.le_of_ble_eq_true rfl, Nat.le_of_ble_eq_true rfl⟩ rfl rfl (Nat.le_of_ble_eq_true rfl) dX5_undo_36 ⟨Nat.le_refl _, Nat.le_refl _⟩ (fun t6 => ?_)
      refine jr_iload_n hG 0 dX5_undo_39 rfl rfl ?_
      exact jr_iret hG hr hk dX5_undo_40
    · refine jr_iconst (v := (-1 : Int32)) hG dX5_undo_15 (by decide) ?_
      exact jr_iret hG hr hk dX5_undo_16
-- TonguesDealt.keep(I)I
abbrev rm_X5_keep : Room := { frames := 1, cells := 0, slots := 0, locals := 22 }
theorem ci_X5_keep : CIx yX5_keep cX5_keep 2 (some .int) 1 := ⟨wd_500, wd_71, by decide +kernel⟩
def f_X5_keep (N : Nat) (a0 : Nat) (v1 : Int32) (σ : Mm) : Option (Int32 × Mm) := if okO 5 a0 then (if v1 < 0 then (some ((-1 : Int32), σ)) else (if v1 < (3 : Int32) then (bR (gr σ a0 6) (okO 2) (fun o1 => if (gi σ o1 8) = 0 then (some ((-4 : Int32), σ)) else (bR (gr σ a0 2) (okA 5) (fun o2 => if inb v1 (arL o2) then (bR (gr σ o2 (ix v1)) (okO 1) (fun o3 => bR (gr σ a0 3) (okO 1) (fun o4 => bV (f_X1_takeFrom N o3 o4 (σ)) (fun t5 => bR (gr t5 a0 3) (okO 1) (fun o6 => some (gi t5 o6 2, t5)))))) else none)))) else (some ((-1 : Int32), σ)))) else none
set_option maxRecDepth 20000 in
theorem c_X5_keep (l : Launch) (E : XE) (N : Nat) (a0 : Nat) (v1 : Int32) (σ : Mm) : ∀ r0, f_X5_keep N a0 v1 σ = some r0 → Met l yX5_keep [Cond.code yX5_keep cX5_keep 2 (some .int)] rm_X5_keep (xPc E (NT + 0) σ [.ref (E.B + a0), .int v1]) (xQi E (NT + 0) r0) 0 0 (xA E) := by
  refine met_of (N0 := NT) (by decide +kernel) (Nat.le_of_ble_eq_true rfl) ?_
  intro p e s m args below meth c hG hr hk _
  show JR E NT 2 p l e rm_X5_keep s m args below meth c 0 0 (fun r => MQ below (xQi E (NT + 0) r) args s 0 0 (xA E)) 0 [(0, .ref (E.B + a0)), (1, .int v1)] [] σ (if okO 5 a0 then (if v1 < 0 then (some ((-1 : Int32), σ)) else (if v1 < (3 : Int32) then (bR (gr σ a0 6) (okO 2) (fun o1 => if (gi σ o1 8) = 0 then (some ((-4 : Int32), σ)) else (bR (gr σ a0 2) (okA 5) (fun o2 => if inb v1 (arL o2) then (bR (gr σ o2 (ix v1)) (okO 1) (fun o3 => bR (gr σ a0 3) (okO 1) (fun o4 => bV (f_X1_takeFrom N o3 o4 (σ)) (fun t5 => bR (gr t5 a0 3) (okO 1) (fun o6 => some (gi t5 o6 2, t5)))))) else none)))) else (some ((-1 : Int32), σ)))) else none)
  refine jr_guard (fun ha0 => ?_)
  refine jr_iload_n hG 1 dX5_keep_0 rfl rfl ?_
  refine jr_if_lt hG 9 dX5_keep_1 (by decide) (fun _ => ?_) (fun _ => ?_)
  · refine jr_iconst (v := (-1 : Int32)) hG dX5_keep_9 (by decide) ?_
    exact jr_iret hG hr hk dX5_keep_10
  · refine jr_iload_n hG 1 dX5_keep_4 rfl rfl ?_
    refine jr_iconst (v := (3 : Int32)) hG dX5_keep_5 (by decide) ?_
    refine jr_icmp_lt hG 11 dX5_keep_6 (by decide) (fun _ => ?_) (fun _ => ?_)
    · refine jr_aload_n hG 0 dX5_keep_11 rfl rfl ?_
      refine jr_getR hG fi_RX5_45 rfl (okO_s ha0) (okO_l ha0) dX5_keep_12 (fun o1 ho1 => ?_)
      refine jr_getI hG fi_RX5_127 rfl (okO_s ho1) (okO_l ho1) dX5_keep_15 ?_
      refine jr_if_ne hG 24 dX5_keep_18 (by decide) (fun _ => ?_) (fun _ => ?_)
      · refine jr_aload_n hG 0 dX5_keep_24 rfl rfl ?_
        refine jr_getR hG fi_RX5_23 rfl (okO_s ha0) (okO_l ha0) dX5_keep_25 (fun o2 ho2 => ?_)
        refine jr_iload_n hG 1 dX5_keep_28 rfl rfl ?_
        refine jr_aald hG (okA_s (by decide) ho2) (by decide) rfl (okA_l ho2) dX5_keep_29 (fun o3 ho3 => ?_)
        refine jr_aload_n hG 0 dX5_keep_30 rfl rfl ?_
        refine jr_getR hG fi_RX5_28 rfl (okO_s ha0) (okO_l ha0) dX5_keep_31 (fun o4 ho4 => ?_)
        refine jr_callVv (As := [.ref (E.B + o4)]) hG (c_X1_takeFrom l E N o3 o4 (σ)) ci_X1_takeFrom wd_501 ⟨wd_502, wd_503⟩ cl_1 (okO_s ho3) (okO_l ho3) ⟨rfl, rfl, Nat.le_of_ble_eq_true rfl, Nat.le_of_ble_eq_true rfl⟩ rfl rfl (Nat.le_of_ble_eq_true rfl) dX5_keep_34 ⟨Nat.le_refl _, Nat.le_refl _⟩ (fun t5 => ?_)
        refine jr_aload_n hG 0 dX5_keep_37 rfl rfl ?_
        refine jr_getR hG fi_RX5_28 rfl (okO_s ha0) (okO_l ha0) dX5_keep_38 (fun o6 ho6 => ?_)
        refine jr_getI hG fi_RX5_75 rfl (okO_s ho6) (okO_l ho6) dX5_keep_41 ?_
        exact jr_iret hG hr hk dX5_keep_44
      · refine jr_bipush (v := (-4 : Int32)) hG dX5_keep_21 (by decide) ?_
        exact jr_iret hG hr hk dX5_keep_23
    · refine jr_iconst (v := (-1 : Int32)) hG dX5_keep_9 (by decide) ?_
      exact jr_iret hG hr hk dX5_keep_10
