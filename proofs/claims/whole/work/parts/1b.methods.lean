-- TonguesDealt$Deeds.takeFrom(LTonguesDealt$Deeds;)V
abbrev rm_X1_takeFrom : Room := { frames := 0, cells := 0, slots := 0, locals := 0 }
theorem ci_X1_takeFrom : CIx yX1_takeFrom cX1_takeFrom 3 none 1 := ⟨wd_504, wd_72, by decide +kernel⟩
def f_X1_takeFrom_2 (N : Nat)  : Nat → Nat → Nat → Int32 → Mm → Option (Mm)
  | 0 => fun _ _ _ _ => none
  | n + 1 => fun a0 a1 v2 σ => if (gi σ a1 2) ≤ v2 then (lt (si σ a0 2 (gi σ a1 2)) (fun t1 => some t1)) else (bR (gr σ a0 0) (okA 0) (fun o2 => bR (gr σ a1 0) (okA 0) (fun o3 => if inb v2 (arL o3) then (if inb v2 (arL o2) then (lt (si σ o2 (ix v2) (gi σ o3 (ix v2))) (fun t4 => bR (gr t4 a0 1) (okA 0) (fun o5 => bR (gr t4 a1 1) (okA 0) (fun o6 => if inb v2 (arL o6) then (if inb v2 (arL o5) then (lt (si t4 o5 (ix v2) (gi t4 o6 (ix v2))) (fun t7 => f_X1_takeFrom_2 N n a0 a1 (v2 + (1 : Int32)) t7)) else none) else none)))) else none) else none)))
set_option maxRecDepth 20000 in
theorem w_X1_takeFrom_2 {p : Program} {l : Launch} {e : Env} {s : State} {m : MethodId} {args : Array Value} {below : List Frame} {meth : Method} {c : Code} {E : XE} (N : Nat) (hG : GG E NT 3 RX1 cX1_takeFrom p s m args c) (hr : meth.sig.returnType = none) (hk : meth.locks = false)  : ∀ (n : Nat) (a0 : Nat) (a1 : Nat) (v2 : Int32) (ha0 : okO 1 a0 = true) (ha1 : okO 1 a1 = true) (σ : Mm), JR E NT 3 p l e rm_X1_takeFrom s m args below meth c 0 0 (fun r => MQ below (xQv E (NT + 0) r) args s 0 0 (xA E)) 2 [(0, .ref (E.B + a0)), (1, .ref (E.B + a1)), (2, .int v2)] [] σ (f_X1_takeFrom_2 N n a0 a1 v2 σ) := by
  intro n
  induction n with
  | zero => intro a0 a1 v2 ha0 ha1 σ r hX; cases hX
  | succ n ih =>
    intro a0 a1 v2 ha0 ha1 σ
    show JR E NT 3 p l e rm_X1_takeFrom s m args below meth c 0 0 (fun r => MQ below (xQv E (NT + 0) r) args s 0 0 (xA E)) 2 [(0, .ref (E.B + a0)), (1, .ref (E.B + a1)), (2, .int v2)] [] σ (if (gi σ a1 2) ≤ v2 then (lt (si σ a0 2 (gi σ a1 2)) (fun t1 => some t1)) else (bR (gr σ a0 0) (okA 0) (fun o2 => bR (gr σ a1 0) (okA 0) (fun o3 => if inb v2 (arL o3) then (if inb v2 (arL o2) then (lt (si σ o2 (ix v2) (gi σ o3 (ix v2))) (fun t4 => bR (gr t4 a0 1) (okA 0) (fun o5 => bR (gr t4 a1 1) (okA 0) (fun o6 => if inb v2 (arL o6) then (if inb v2 (arL o5) then (lt (si t4 o5 (ix v2) (gi t4 o6 (ix v2))) (fun t7 => f_X1_takeFrom_2 N n a0 a1 (v2 + (1 : Int32)) t7)) else none) else none)))) else none) else none))))
    refine jr_iload_n hG 2 dX1_takeFrom_2 rfl rfl ?_
    refine jr_aload_n hG 1 dX1_takeFrom_3 rfl rfl ?_
    refine jr_getI hG fi_RX1_18 rfl (okO_s ha1) (okO_l ha1) dX1_takeFrom_4 ?_
    refine jr_icmp_ge hG 40 dX1_takeFrom_7 (by decide) (fun _ => ?_) (fun _ => ?_)
    · refine jr_aload_n hG 0 dX1_takeFrom_40 rfl rfl ?_
      refine jr_aload_n hG 1 dX1_takeFrom_41 rfl rfl ?_
      refine jr_getI hG fi_RX1_18 rfl (okO_s ha1) (okO_l ha1) dX1_takeFrom_42 ?_
      refine jr_putI hG fi_RX1_18 rfl rfl (okO_s ha0) (okO_l ha0) dX1_takeFrom_45 ?_
      refine jr_lets (fun t1 _ => ?_)
      exact jr_vret hG hr hk dX1_takeFrom_48
    · refine jr_aload_n hG 0 dX1_takeFrom_10 rfl rfl ?_
      refine jr_getR hG fi_RX1_9 rfl (okO_s ha0) (okO_l ha0) dX1_takeFrom_11 (fun o2 ho2 => ?_)
      refine jr_iload_n hG 2 dX1_takeFrom_14 rfl rfl ?_
      refine jr_aload_n hG 1 dX1_takeFrom_15 rfl rfl ?_
      refine jr_getR hG fi_RX1_9 rfl (okO_s ha1) (okO_l ha1) dX1_takeFrom_16 (fun o3 ho3 => ?_)
      refine jr_iload_n hG 2 dX1_takeFrom_19 rfl rfl ?_
      refine jr_iald hG (okA_s (by decide) ho3) (okA_l ho3) dX1_takeFrom_20 ?_
      refine jr_iast hG (okA_s (by decide) ho2) (okA_l ho2) dX1_takeFrom_21 ?_
      refine jr_lets (fun t4 _ => ?_)
      refine jr_aload_n hG 0 dX1_takeFrom_22 rfl rfl ?_
      refine jr_getR hG fi_RX1_15 rfl (okO_s ha0) (okO_l ha0) dX1_takeFrom_23 (fun o5 ho5 => ?_)
      refine jr_iload_n hG 2 dX1_takeFrom_26 rfl rfl ?_
      refine jr_aload_n hG 1 dX1_takeFrom_27 rfl rfl ?_
      refine jr_getR hG fi_RX1_15 rfl (okO_s ha1) (okO_l ha1) dX1_takeFrom_28 (fun o6 ho6 => ?_)
      refine jr_iload_n hG 2 dX1_takeFrom_31 rfl rfl ?_
      refine jr_iald hG (okA_s (by decide) ho6) (okA_l ho6) dX1_takeFrom_32 ?_
      refine jr_iast hG (okA_s (by decide) ho5) (okA_l ho5) dX1_takeFrom_33 ?_
      refine jr_lets (fun t7 _ => ?_)
      refine jr_iinc (v := v2 + (1 : Int32)) (lv' := [(2, .int (v2 + (1 : Int32))), (0, .ref (E.B + a0)), (1, .ref (E.B + a1))]) hG 2 dX1_takeFrom_34 rfl rfl (by decide) rfl ?_
      refine jr_goto hG 2 dX1_takeFrom_37 (by decide) ?_
      refine jr_sub (lv' := [(0, .ref (E.B + a0)), (1, .ref (E.B + a1)), (2, .int (v2 + (1 : Int32)))]) [1, 2, 0] rfl ?_
      exact ih a0 a1 (v2 + (1 : Int32)) ha0 ha1 t7
def f_X1_takeFrom (N : Nat) (a0 : Nat) (a1 : Nat) (σ : Mm) : Option (Mm) := if okO 1 a0 then (if okO 1 a1 then (f_X1_takeFrom_2 N N a0 a1 (0 : Int32) (σ)) else none) else none
set_option maxRecDepth 20000 in
theorem c_X1_takeFrom (l : Launch) (E : XE) (N : Nat) (a0 : Nat) (a1 : Nat) (σ : Mm) : ∀ r0, f_X1_takeFrom N a0 a1 σ = some r0 → Met l yX1_takeFrom [Cond.code yX1_takeFrom cX1_takeFrom 3 none] rm_X1_takeFrom (xPc E (NT + 0) σ [.ref (E.B + a0), .ref (E.B + a1)]) (xQv E (NT + 0) r0) 0 0 (xA E) := by
  refine met_of (N0 := NT) (by decide +kernel) (Nat.le_of_ble_eq_true rfl) ?_
  intro p e s m args below meth c hG hr hk _
  show JR E NT 3 p l e rm_X1_takeFrom s m args below meth c 0 0 (fun r => MQ below (xQv E (NT + 0) r) args s 0 0 (xA E)) 0 [(0, .ref (E.B + a0)), (1, .ref (E.B + a1))] [] σ (if okO 1 a0 then (if okO 1 a1 then (f_X1_takeFrom_2 N N a0 a1 (0 : Int32) (σ)) else none) else none)
  refine jr_guard (fun ha0 => ?_)
  refine jr_guard (fun ha1 => ?_)
  refine jr_iconst (v := (0 : Int32)) hG dX1_takeFrom_0 (by decide) ?_
  refine jr_istore_n (lv' := [(2, .int (0 : Int32)), (0, .ref (E.B + a0)), (1, .ref (E.B + a1))]) hG dX1_takeFrom_1 rfl (by decide) rfl ?_
  refine jr_sub (lv' := [(0, .ref (E.B + a0)), (1, .ref (E.B + a1)), (2, .int (0 : Int32))]) [1, 2, 0] rfl ?_
  exact w_X1_takeFrom_2 N hG hr hk N a0 a1 (0 : Int32) ha0 ha1 (σ)
-- TonguesDealt$Plan.begin()V
abbrev rm_X2_begin : Room := { frames := 0, cells := 0, slots := 0, locals := 0 }
theorem ci_X2_begin : CIx yX2_begin cX2_begin 2 none 0 := ⟨wd_345, wd_74, by decide +kernel⟩
def f_X2_begin_28 (N : Nat)  : Nat → Nat → Int32 → Mm → Option (Mm)
  | 0 => fun _ _ _ => none
  | n + 1 => fun a0 v1 σ => if (6 : Int32) ≤ v1 then (some (σ)) else (bR (gr σ a0 2) (okA 0) (fun o4 => if inb v1 (arL o4) then (lt (si σ o4 (ix v1) (0 : Int32)) (fun t5 => bR (gr t5 a0 3) (okA 0) (fun o6 => if inb v1 (arL o6) then (lt (si t5 o6 (ix v1) (0 : Int32)) (fun t7 => f_X2_begin_28 N n a0 (v1 + (1 : Int32)) t7)) else none))) else none))
set_option maxRecDepth 20000 in
theorem w_X2_begin_28 {p : Program} {l : Launch} {e : Env} {s : State} {m : MethodId} {args : Array Value} {below : List Frame} {meth : Method} {c : Code} {E : XE} (N : Nat) (hG : GG E NT 2 RX2 cX2_begin p s m args c) (hr : meth.sig.returnType = none) (hk : meth.locks = false)  : ∀ (n : Nat) (a0 : Nat) (v1 : Int32) (ha0 : okO 2 a0 = true) (σ : Mm), JR E NT 2 p l e rm_X2_begin s m args below meth c 0 0 (fun r => MQ below (xQv E (NT + 0) r) args s 0 0 (xA E)) 28 [(0, .ref (E.B + a0)), (1, .int v1)] [] σ (f_X2_begin_28 N n a0 v1 σ) := by
  intro n
  induction n with
  | zero => intro a0 v1 ha0 σ r hX; cases hX
  | succ n ih =>
    intro a0 v1 ha0 σ
    show JR E NT 2 p l e rm_X2_begin s m args below meth c 0 0 (fun r => MQ below (xQv E (NT + 0) r) args s 0 0 (xA E)) 28 [(0, .ref (E.B + a0)), (1, .int v1)] [] σ (if (6 : Int32) ≤ v1 then (some (σ)) else (bR (gr σ a0 2) (okA 0) (fun o4 => if inb v1 (arL o4) then (lt (si σ o4 (ix v1) (0 : Int32)) (fun t5 => bR (gr t5 a0 3) (okA 0) (fun o6 => if inb v1 (arL o6) then (lt (si t5 o6 (ix v1) (0 : Int32)) (fun t7 => f_X2_begin_28 N n a0 (v1 + (1 : Int32)) t7)) else none))) else none)))
    refine jr_iload_n hG 1 dX2_begin_28 rfl rfl ?_
    refine jr_bipush (v := (6 : Int32)) hG dX2_begin_29 (by decide) ?_
    refine jr_icmp_ge hG 54 dX2_begin_31 (by decide) (fun _ => ?_) (fun _ => ?_)
    · exact jr_vret hG hr hk dX2_begin_54
    · refine jr_aload_n hG 0 dX2_begin_34 rfl rfl ?_
      refine jr_getR hG fi_RX2_18 rfl (okO_s ha0) (okO_l ha0) dX2_begin_35 (fun o4 ho4 => ?_)
      refine jr_iload_n hG 1 dX2_begin_38 rfl rfl ?_
      refine jr_iconst (v := (0 : Int32)) hG dX2_begin_39 (by decide) ?_
      refine jr_iast hG (okA_s (by decide) ho4) (okA_l ho4) dX2_begin_40 ?_
      refine jr_lets (fun t5 _ => ?_)
      refine jr_aload_n hG 0 dX2_begin_41 rfl rfl ?_
      refine jr_getR hG fi_RX2_21 rfl (okO_s ha0) (okO_l ha0) dX2_begin_42 (fun o6 ho6 => ?_)
      refine jr_iload_n hG 1 dX2_begin_45 rfl rfl ?_
      refine jr_iconst (v := (0 : Int32)) hG dX2_begin_46 (by decide) ?_
      refine jr_iast hG (okA_s (by decide) ho6) (okA_l ho6) dX2_begin_47 ?_
      refine jr_lets (fun t7 _ => ?_)
      refine jr_iinc (v := v1 + (1 : Int32)) (lv' := [(1, .int (v1 + (1 : Int32))), (0, .ref (E.B + a0))]) hG 1 dX2_begin_48 rfl rfl (by decide) rfl ?_
      refine jr_goto hG 28 dX2_begin_51 (by decide) ?_
      refine jr_sub (lv' := [(0, .ref (E.B + a0)), (1, .int (v1 + (1 : Int32)))]) [1, 0] rfl ?_
      exact ih a0 (v1 + (1 : Int32)) ha0 t7
def f_X2_begin_7 (N : Nat)  : Nat → Nat → Int32 → Mm → Option (Mm)
  | 0 => fun _ _ _ => none
  | n + 1 => fun a0 v1 σ => if (6 : Int32) ≤ v1 then (f_X2_begin_28 N N a0 (0 : Int32) (σ)) else (bR (gr σ a0 1) (okA 0) (fun o2 => if inb v1 (arL o2) then (lt (si σ o2 (ix v1) (0 : Int32)) (fun t3 => f_X2_begin_7 N n a0 (v1 + (1 : Int32)) t3)) else none))
set_option maxRecDepth 20000 in
theorem w_X2_begin_7 {p : Program} {l : Launch} {e : Env} {s : State} {m : MethodId} {args : Array Value} {below : List Frame} {meth : Method} {c : Code} {E : XE} (N : Nat) (hG : GG E NT 2 RX2 cX2_begin p s m args c) (hr : meth.sig.returnType = none) (hk : meth.locks = false)  : ∀ (n : Nat) (a0 : Nat) (v1 : Int32) (ha0 : okO 2 a0 = true) (σ : Mm), JR E NT 2 p l e rm_X2_begin s m args below meth c 0 0 (fun r => MQ below (xQv E (NT + 0) r) args s 0 0 (xA E)) 7 [(0, .ref (E.B + a0)), (1, .int v1)] [] σ (f_X2_begin_7 N n a0 v1 σ) := by
  intro n
  induction n with
  | zero => intro a0 v1 ha0 σ r hX; cases hX
  | succ n ih =>
    intro a0 v1 ha0 σ
    show JR E NT 2 p l e rm_X2_begin s m args below meth c 0 0 (fun r => MQ below (xQv E (NT + 0) r) args s 0 0 (xA E)) 7 [(0, .ref (E.B + a0)), (1, .int v1)] [] σ (if (6 : Int32) ≤ v1 then (f_X2_begin_28 N N a0 (0 : Int32) (σ)) else (bR (gr σ a0 1) (okA 0) (fun o2 => if inb v1 (arL o2) then (lt (si σ o2 (ix v1) (0 : Int32)) (fun t3 => f_X2_begin_7 N n a0 (v1 + (1 : Int32)) t3)) else none)))
    refine jr_iload_n hG 1 dX2_begin_7 rfl rfl ?_
    refine jr_bipush (v := (6 : Int32)) hG dX2_begin_8 (by decide) ?_
    refine jr_icmp_ge hG 26 dX2_begin_10 (by decide) (fun _ => ?_) (fun _ => ?_)
    · refine jr_iconst (v := (0 : Int32)) hG dX2_begin_26 (by decide) ?_
      refine jr_istore_n (lv' := [(1, .int (0 : Int32)), (0, .ref (E.B + a0))]) hG dX2_begin_27 rfl (by decide) rfl ?_
      refine jr_sub (lv' := [(0, .ref (E.B + a0)), (1, .int (0 : Int32))]) [1, 0] rfl ?_
      exact w_X2_begin_28 N hG hr hk N a0 (0 : Int32) ha0 (σ)
    · refine jr_aload_n hG 0 dX2_begin_13 rfl rfl ?_
      refine jr_getR hG fi_RX2_15 rfl (okO_s ha0) (okO_l ha0) dX2_begin_14 (fun o2 ho2 => ?_)
      refine jr_iload_n hG 1 dX2_begin_17 rfl rfl ?_
      refine jr_iconst (v := (0 : Int32)) hG dX2_begin_18 (by decide) ?_
      refine jr_iast hG (okA_s (by decide) ho2) (okA_l ho2) dX2_begin_19 ?_
      refine jr_lets (fun t3 _ => ?_)
      refine jr_iinc (v := v1 + (1 : Int32)) (lv' := [(1, .int (v1 + (1 : Int32))), (0, .ref (E.B + a0))]) hG 1 dX2_begin_20 rfl rfl (by decide) rfl ?_
      refine jr_goto hG 7 dX2_begin_23 (by decide) ?_
      refine jr_sub (lv' := [(0, .ref (E.B + a0)), (1, .int (v1 + (1 : Int32)))]) [1, 0] rfl ?_
      exact ih a0 (v1 + (1 : Int32)) ha0 t3
def f_X2_begin (N : Nat) (a0 : Nat) (σ : Mm) : Option (Mm) := if okO 2 a0 then (lt (si σ a0 8 (0 : Int32)) (fun t1 => f_X2_begin_7 N N a0 (0 : Int32) t1)) else none
set_option maxRecDepth 20000 in
theorem c_X2_begin (l : Launch) (E : XE) (N : Nat) (a0 : Nat) (σ : Mm) : ∀ r0, f_X2_begin N a0 σ = some r0 → Met l yX2_begin [Cond.code yX2_begin cX2_begin 2 none] rm_X2_begin (xPc E (NT + 0) σ [.ref (E.B + a0)]) (xQv E (NT + 0) r0) 0 0 (xA E) := by
  refine met_of (N0 := NT) (by decide +kernel) (Nat.le_of_ble_eq_true rfl) ?_
  intro p e s m args below meth c hG hr hk _
  show JR E NT 2 p l e rm_X2_begin s m args below meth c 0 0 (fun r => MQ below (xQv E (NT + 0) r) args s 0 0 (xA E)) 0 [(0, .ref (E.B + a0))] [] σ (if okO 2 a0 then (lt (si σ a0 8 (0 : Int32)) (fun t1 => f_X2_begin_7 N N a0 (0 : Int32) t1)) else none)
  refine jr_guard (fun ha0 => ?_)
  refine jr_aload_n hG 0 dX2_begin_0 rfl rfl ?_
  refine jr_iconst (v := (0 : Int32)) hG dX2_begin_1 (by decide) ?_
  refine jr_putI hG fi_RX2_37 rfl rfl (okO_s ha0) (okO_l ha0) dX2_begin_2 ?_
  refine jr_lets (fun t1 _ => ?_)
  refine jr_iconst (v := (0 : Int32)) hG dX2_begin_5 (by decide) ?_
  refine jr_istore_n (lv' := [(1, .int (0 : Int32)), (0, .ref (E.B + a0))]) hG dX2_begin_6 rfl (by decide) rfl ?_
  refine jr_sub (lv' := [(0, .ref (E.B + a0)), (1, .int (0 : Int32))]) [1, 0] rfl ?_
  exact w_X2_begin_7 N hG hr hk N a0 (0 : Int32) ha0 t1
-- TonguesDealt$Plan.kindOf(I)I
abbrev rm_X2_kindOf : Room := { frames := 0, cells := 0, slots := 0, locals := 0 }
theorem ci_X2_kindOf : CIx yX2_kindOf cX2_kindOf 2 (some .int) 1 := ⟨wd_348, wd_74, by decide +kernel⟩
def f_X2_kindOf_2 (N : Nat)  : Nat → Int32 → Int32 → Mm → Option (Int32 × Mm)
  | 0 => fun _ _ _ => none
  | n + 1 => fun v0 v1 σ => if (6 : Int32) ≤ v1 then (some ((-9 : Int32), σ)) else (if inb v1 6 then (if (letC (ix v1)) = v0 then (some (v1, σ)) else (f_X2_kindOf_2 N n v0 (v1 + (1 : Int32)) (σ))) else none)
set_option maxRecDepth 20000 in
theorem w_X2_kindOf_2 {p : Program} {l : Launch} {e : Env} {s : State} {m : MethodId} {args : Array Value} {below : List Frame} {meth : Method} {c : Code} {E : XE} (N : Nat) (hG : GG E NT 2 RX2 cX2_kindOf p s m args c) (hr : meth.sig.returnType = (some .int)) (hk : meth.locks = false)  : ∀ (n : Nat) (v0 : Int32) (v1 : Int32)  (σ : Mm), JR E NT 2 p l e rm_X2_kindOf s m args below meth c 0 0 (fun r => MQ below (xQi E (NT + 0) r) args s 0 0 (xA E)) 2 [(0, .int v0), (1, .int v1)] [] σ (f_X2_kindOf_2 N n v0 v1 σ) := by
  intro n
  induction n with
  | zero => intro v0 v1 σ r hX; cases hX
  | succ n ih =>
    intro v0 v1 σ
    show JR E NT 2 p l e rm_X2_kindOf s m args below meth c 0 0 (fun r => MQ below (xQi E (NT + 0) r) args s 0 0 (xA E)) 2 [(0, .int v0), (1, .int v1)] [] σ (if (6 : Int32) ≤ v1 then (some ((-9 : Int32), σ)) else (if inb v1 6 then (if (letC (ix v1)) = v0 then (some (v1, σ)) else (f_X2_kindOf_2 N n v0 (v1 + (1 : Int32)) (σ))) else none))
    refine jr_iload_n hG 1 dX2_kindOf_2 rfl rfl ?_
    refine jr_bipush (v := (6 : Int32)) hG dX2_kindOf_3 (by decide) ?_
    refine jr_icmp_ge hG 25 dX2_kindOf_5 (by decide) (fun _ => ?_) (fun _ => ?_)
    · refine jr_bipush (v := (-9 : Int32)) hG dX2_kindOf_25 (by decide) ?_
      exact jr_iret hG hr hk dX2_kindOf_27
    · refine jr_getsL hG dX2_kindOf_8 ?_
      refine jr_iload_n hG 1 dX2_kindOf_11 rfl rfl ?_
      refine jr_tL hG dX2_kindOf_12 ?_
      refine jr_iload_n hG 0 dX2_kindOf_13 rfl rfl ?_
      refine jr_icmp_ne hG 19 dX2_kindOf_14 (by decide) (fun _ => ?_) (fun _ => ?_)
      · refine jr_iinc (v := v1 + (1 : Int32)) (lv' := [(1, .int (v1 + (1 : Int32))), (0, .int v0)]) hG 1 dX2_kindOf_19 rfl rfl (by decide) rfl ?_
        refine jr_goto hG 2 dX2_kindOf_22 (by decide) ?_
        refine jr_sub (lv' := [(0, .int v0), (1, .int (v1 + (1 : Int32)))]) [1, 0] rfl ?_
        exact ih v0 (v1 + (1 : Int32)) (σ)
      · refine jr_iload_n hG 1 dX2_kindOf_17 rfl rfl ?_
        exact jr_iret hG hr hk dX2_kindOf_18
def f_X2_kindOf (N : Nat) (v0 : Int32) (σ : Mm) : Option (Int32 × Mm) := f_X2_kindOf_2 N N v0 (0 : Int32) (σ)
set_option maxRecDepth 20000 in
theorem c_X2_kindOf (l : Launch) (E : XE) (N : Nat) (v0 : Int32) (σ : Mm) : ∀ r0, f_X2_kindOf N v0 σ = some r0 → Met l yX2_kindOf [Cond.code yX2_kindOf cX2_kindOf 2 (some .int)] rm_X2_kindOf (xPc E (NT + 0) σ [.int v0]) (xQi E (NT + 0) r0) 0 0 (xA E) := by
  refine met_of (N0 := NT) (by decide +kernel) (Nat.le_of_ble_eq_true rfl) ?_
  intro p e s m args below meth c hG hr hk _
  show JR E NT 2 p l e rm_X2_kindOf s m args below meth c 0 0 (fun r => MQ below (xQi E (NT + 0) r) args s 0 0 (xA E)) 0 [(0, .int v0)] [] σ (f_X2_kindOf_2 N N v0 (0 : Int32) (σ))
  refine jr_iconst (v := (0 : Int32)) hG dX2_kindOf_0 (by decide) ?_
  refine jr_istore_n (lv' := [(1, .int (0 : Int32)), (0, .int v0)]) hG dX2_kindOf_1 rfl (by decide) rfl ?_
  refine jr_sub (lv' := [(0, .int v0), (1, .int (0 : Int32))]) [1, 0] rfl ?_
  exact w_X2_kindOf_2 N hG hr hk N v0 (0 : Int32) (σ)
-- TonguesDealt$Plan.addPerson(I)V
abbrev rm_X2_addPerson : Room := { frames := 0, cells := 0, slots := 0, locals := 0 }
theorem ci_X2_addPerson : CIx yX2_addPerson cX2_addPerson 4 none 1 := ⟨wd_354, wd_74, by decide +kernel⟩
def f_X2_addPerson_51 (N : Nat)  (a0 : Nat) (σ : Mm) : Option (Mm) := lt (si σ a0 8 ((gi σ a0 8) + (1 : Int32))) (fun t6 => some t6)
set_option maxRecDepth 20000 in
theorem w_X2_addPerson_51 {p : Program} {l : Launch} {e : Env} {s : State} {m : MethodId} {args : Array Value} {below : List Frame} {meth : Method} {c : Code} {E : XE} (N : Nat) (hG : GG E NT 4 RX2 cX2_addPerson p s m args c) (hr : meth.sig.returnType = none) (hk : meth.locks = false)  (a0 : Nat) (ha0 : okO 2 a0 = true) (σ : Mm) : JR E NT 4 p l e rm_X2_addPerson s m args below meth c 0 0 (fun r => MQ below (xQv E (NT + 0) r) args s 0 0 (xA E)) 51 [(0, .ref (E.B + a0))] [] σ (f_X2_addPerson_51 N a0 σ) := by
  show JR E NT 4 p l e rm_X2_addPerson s m args below meth c 0 0 (fun r => MQ below (xQv E (NT + 0) r) args s 0 0 (xA E)) 51 [(0, .ref (E.B + a0))] [] σ (lt (si σ a0 8 ((gi σ a0 8) + (1 : Int32))) (fun t6 => some t6))
  refine jr_aload_n hG 0 dX2_addPerson_51 rfl rfl ?_
  refine jr_dup hG dX2_addPerson_52 rfl ?_
  refine jr_getI hG fi_RX2_37 rfl (okO_s ha0) (okO_l ha0) dX2_addPerson_53 ?_
  refine jr_iconst (v := (1 : Int32)) hG dX2_addPerson_56 (by decide) ?_
  refine jr_iadd hG dX2_addPerson_57 ?_
  refine jr_putI hG fi_RX2_37 rfl rfl (okO_s ha0) (okO_l ha0) dX2_addPerson_58 ?_
  refine jr_lets (fun t6 _ => ?_)
  exact jr_vret hG hr hk dX2_addPerson_61
def f_X2_addPerson_14 (N : Nat)  : Nat → Nat → Int32 → Int32 → Mm → Option (Mm)
  | 0 => fun _ _ _ _ => none
  | n + 1 => fun a0 v2 v3 σ => if (6 : Int32) ≤ v3 then (f_X2_addPerson_51 N a0 (σ)) else (if v2 < 0 then (f_X2_addPerson_51 N a0 (σ)) else (bR (gr σ a0 1) (okA 0) (fun o3 => if inb v2 (arL o3) then (if inb v2 (arL o3) then (lt (si σ o3 (ix v2) ((gi σ o3 (ix v2)) ||| ((1 : Int32) <<< ((gi σ a0 8) &&& 31)))) (fun t4 => if inb v2 6 then (lt (besC (ix v2)) (fun x5 => f_X2_addPerson_14 N n a0 x5 (v3 + (1 : Int32)) t4)) else none)) else none) else none)))
set_option maxRecDepth 20000 in
theorem w_X2_addPerson_14 {p : Program} {l : Launch} {e : Env} {s : State} {m : MethodId} {args : Array Value} {below : List Frame} {meth : Method} {c : Code} {E : XE} (N : Nat) (hG : GG E NT 4 RX2 cX2_addPerson p s m args c) (hr : meth.sig.returnType = none) (hk : meth.locks = false)  : ∀ (n : Nat) (a0 : Nat) (v2 : Int32) (v3 : Int32) (ha0 : okO 2 a0 = true) (σ : Mm), JR E NT 4 p l e rm_X2_addPerson s m args below meth c 0 0 (fun r => MQ below (xQv E (NT + 0) r) args s 0 0 (xA E)) 14 [(0, .ref (E.B + a0)), (2, .int v2), (3, .int v3)] [] σ (f_X2_addPerson_14 N n a0 v2 v3 σ) := by
  intro n
  induction n with
  | zero => intro a0 v2 v3 ha0 σ r hX; cases hX
  | succ n ih =>
    intro a0 v2 v3 ha0 σ
    show JR E NT 4 p l e rm_X2_addPerson s m args below meth c 0 0 (fun r => MQ below (xQv E (NT + 0) r) args s 0 0 (xA E)) 14 [(0, .ref (E.B + a0)), (2, .int v2), (3, .int v3)] [] σ (if (6 : Int32) ≤ v3 then (f_X2_addPerson_51 N a0 (σ)) else (if v2 < 0 then (f_X2_addPerson_51 N a0 (σ)) else (bR (gr σ a0 1) (okA 0) (fun o3 => if inb v2 (arL o3) then (if inb v2 (arL o3) then (lt (si σ o3 (ix v2) ((gi σ o3 (ix v2)) ||| ((1 : Int32) <<< ((gi σ a0 8) &&& 31)))) (fun t4 => if inb v2 6 then (lt (besC (ix v2)) (fun x5 => f_X2_addPerson_14 N n a0 x5 (v3 + (1 : Int32)) t4)) else none)) else none) else none))))
    refine jr_iload_n hG 2 dX2_addPerson_14 rfl rfl ?_
    refine jr_bipush (v := (6 : Int32)) hG dX2_addPerson_15 (by decide) ?_
    refine jr_icmp_ge hG 51 dX2_addPerson_17 (by decide) (fun _ => ?_) (fun _ => ?_)
    · refine jr_sub (lv' := [(0, .ref (E.B + a0))]) [0] rfl ?_
      exact w_X2_addPerson_51 N hG hr hk a0 ha0 (σ)
    · refine jr_iload_n hG 1 dX2_addPerson_20 rfl rfl ?_
      refine jr_if_lt hG 51 dX2_addPerson_21 (by decide) (fun _ => ?_) (fun _ => ?_)
      · refine jr_sub (lv' := [(0, .ref (E.B + a0))]) [0] rfl ?_
        exact w_X2_addPerson_51 N hG hr hk a0 ha0 (σ)
      · refine jr_aload_n hG 0 dX2_addPerson_24 rfl rfl ?_
        refine jr_getR hG fi_RX2_15 rfl (okO_s ha0) (okO_l ha0) dX2_addPerson_25 (fun o3 ho3 => ?_)
        refine jr_iload_n hG 1 dX2_addPerson_28 rfl rfl ?_
        refine jr_dup2 hG dX2_addPerson_29 rfl rfl ?_
        refine jr_iald hG (okA_s (by decide) ho3) (okA_l ho3) dX2_addPerson_30 ?_
        refine jr_iconst (v := (1 : Int32)) hG dX2_addPerson_31 (by decide) ?_
        refine jr_aload_n hG 0 dX2_addPerson_32 rfl rfl ?_
        refine jr_getI hG fi_RX2_37 rfl (okO_s ha0) (okO_l ha0) dX2_addPerson_33 ?_
        refine jr_ishl hG dX2_addPerson_36 ?_
        refine jr_ior hG dX2_addPerson_37 ?_
        refine jr_iast hG (okA_s (by decide) ho3) (okA_l ho3) dX2_addPerson_38 ?_
        refine jr_lets (fun t4 _ => ?_)
        refine jr_getsB hG dX2_addPerson_39 ?_
        refine jr_iload_n hG 1 dX2_addPerson_42 rfl rfl ?_
        refine jr_tB hG dX2_addPerson_43 ?_
        refine jr_leti (fun x5 _ => ?_)
        refine jr_istore_n (lv' := [(2, .int x5), (0, .ref (E.B + a0)), (3, .int v3)]) hG dX2_addPerson_44 rfl (by decide) rfl ?_
        refine jr_iinc (v := v3 + (1 : Int32)) (lv' := [(3, .int (v3 + (1 : Int32))), (2, .int x5), (0, .ref (E.B + a0))]) hG 2 dX2_addPerson_45 rfl rfl (by decide) rfl ?_
        refine jr_goto hG 14 dX2_addPerson_48 (by decide) ?_
        refine jr_sub (lv' := [(0, .ref (E.B + a0)), (2, .int x5), (3, .int (v3 + (1 : Int32)))]) [2, 1, 0] rfl ?_
        exact ih a0 x5 (v3 + (1 : Int32)) ha0 t4
def f_X2_addPerson (N : Nat) (a0 : Nat) (v1 : Int32) (σ : Mm) : Option (Mm) := if okO 2 a0 then (bR (gr σ a0 0) (okA 0) (fun o1 => if inb (gi σ a0 8) (arL o1) then (lt (si σ o1 (ix (gi σ a0 8)) v1) (fun t2 => f_X2_addPerson_14 N N a0 v1 (0 : Int32) t2)) else none)) else none
set_option maxRecDepth 20000 in
theorem c_X2_addPerson (l : Launch) (E : XE) (N : Nat) (a0 : Nat) (v1 : Int32) (σ : Mm) : ∀ r0, f_X2_addPerson N a0 v1 σ = some r0 → Met l yX2_addPerson [Cond.code yX2_addPerson cX2_addPerson 4 none] rm_X2_addPerson (xPc E (NT + 0) σ [.ref (E.B + a0), .int v1]) (xQv E (NT + 0) r0) 0 0 (xA E) := by
  refine met_of (N0 := NT) (by decide +kernel) (Nat.le_of_ble_eq_true rfl) ?_
  intro p e s m args below meth c hG hr hk _
  show JR E NT 4 p l e rm_X2_addPerson s m args below meth c 0 0 (fun r => MQ below (xQv E (NT + 0) r) args s 0 0 (xA E)) 0 [(0, .ref (E.B + a0)), (1, .int v1)] [] σ (if okO 2 a0 then (bR (gr σ a0 0) (okA 0) (fun o1 => if inb (gi σ a0 8) (arL o1) then (lt (si σ o1 (ix (gi σ a0 8)) v1) (fun t2 => f_X2_addPerson_14 N N a0 v1 (0 : Int32) t2)) else none)) else none)
  refine jr_guard (fun ha0 => ?_)
  refine jr_aload_n hG 0 dX2_addPerson_0 rfl rfl ?_
  refine jr_getR hG fi_RX2_9 rfl (okO_s ha0) (okO_l ha0) dX2_addPerson_1 (fun o1 ho1 => ?_)
  refine jr_aload_n hG 0 dX2_addPerson_4 rfl rfl ?_
  refine jr_getI hG fi_RX2_37 rfl (okO_s ha0) (okO_l ha0) dX2_addPerson_5 ?_
  refine jr_iload_n hG 1 dX2_addPerson_8 rfl rfl ?_
  refine jr_iast hG (okA_s (by decide) ho1) (okA_l ho1) dX2_addPerson_9 ?_
  refine jr_lets (fun t2 _ => ?_)
  refine jr_iload_n hG 1 dX2_addPerson_10 rfl rfl ?_
  refine jr_istore_n (lv' := [(2, .int v1), (0, .ref (E.B + a0)), (1, .int v1)]) hG dX2_addPerson_11 rfl (by decide) rfl ?_
  refine jr_iconst (v := (0 : Int32)) hG dX2_addPerson_12 (by decide) ?_
  refine jr_istore_n (lv' := [(3, .int (0 : Int32)), (2, .int v1), (0, .ref (E.B + a0)), (1, .int v1)]) hG dX2_addPerson_13 rfl (by decide) rfl ?_
  refine jr_sub (lv' := [(0, .ref (E.B + a0)), (2, .int v1), (3, .int (0 : Int32))]) [2, 1, 0] rfl ?_
  exact w_X2_addPerson_14 N hG hr hk N a0 v1 (0 : Int32) ha0 t2
-- TonguesDealt$Plan.has(I)Z
abbrev rm_X2_has : Room := { frames := 0, cells := 0, slots := 0, locals := 0 }
theorem ci_X2_has : CIx yX2_has cX2_has 2 (some .boolean) 1 := ⟨wd_364, wd_74, by decide +kernel⟩
def f_X2_has (N : Nat) (a0 : Nat) (v1 : Int32) (σ : Mm) : Option (Int32 × Mm) := if okO 2 a0 then (if v1 < 0 then (some ((0 : Int32), σ)) else (if (gi σ a0 8) ≤ v1 then (some ((0 : Int32), σ)) else (some ((1 : Int32), σ)))) else none
set_option maxRecDepth 20000 in
theorem c_X2_has (l : Launch) (E : XE) (N : Nat) (a0 : Nat) (v1 : Int32) (σ : Mm) : ∀ r0, f_X2_has N a0 v1 σ = some r0 → Met l yX2_has [Cond.code yX2_has cX2_has 2 (some .boolean)] rm_X2_has (xPc E (NT + 0) σ [.ref (E.B + a0), .int v1]) (xQi E (NT + 0) r0) 0 0 (xA E) := by
  refine met_of (N0 := NT) (by decide +kernel) (Nat.le_of_ble_eq_true rfl) ?_
  intro p e s m args below meth c hG hr hk _
  show JR E NT 2 p l e rm_X2_has s m args below meth c 0 0 (fun r => MQ below (xQi E (NT + 0) r) args s 0 0 (xA E)) 0 [(0, .ref (E.B + a0)), (1, .int v1)] [] σ (if okO 2 a0 then (if v1 < 0 then (some ((0 : Int32), σ)) else (if (gi σ a0 8) ≤ v1 then (some ((0 : Int32), σ)) else (some ((1 : Int32), σ)))) else none)
  refine jr_guard (fun ha0 => ?_)
  refine jr_iload_n hG 1 dX2_has_0 rfl rfl ?_
  refine jr_if_lt hG 16 dX2_has_1 (by decide) (fun _ => ?_) (fun _ => ?_)
  · refine jr_iconst (v := (0 : Int32)) hG dX2_has_16 (by decide) ?_
    exact jr_zret hG hr hk (by decide) dX2_has_17
  · refine jr_iload_n hG 1 dX2_has_4 rfl rfl ?_
    refine jr_aload_n hG 0 dX2_has_5 rfl rfl ?_
    refine jr_getI hG fi_RX2_37 rfl (okO_s ha0) (okO_l ha0) dX2_has_6 ?_
    refine jr_icmp_ge hG 16 dX2_has_9 (by decide) (fun _ => ?_) (fun _ => ?_)
    · refine jr_iconst (v := (0 : Int32)) hG dX2_has_16 (by decide) ?_
      exact jr_zret hG hr hk (by decide) dX2_has_17
    · refine jr_iconst (v := (1 : Int32)) hG dX2_has_12 (by decide) ?_
      refine jr_goto hG 17 dX2_has_13 (by decide) ?_
      exact jr_zret hG hr hk (by decide) dX2_has_17
-- TonguesDealt$Plan.readTie(LTonguesDealt$Text;I[I)I
abbrev rm_X2_readTie : Room := { frames := 1, cells := 0, slots := 0, locals := 21 }
theorem ci_X2_readTie : CIx yX2_readTie cX2_readTie 6 (some .int) 3 := ⟨wd_360, wd_74, by decide +kernel⟩
def f_X2_readTie_97 (N : Nat)  (v2 : Int32) (σ : Mm) : Option (Int32 × Mm) := some (v2 + (2 : Int32), σ)
set_option maxRecDepth 20000 in
theorem w_X2_readTie_97 {p : Program} {l : Launch} {e : Env} {s : State} {m : MethodId} {args : Array Value} {below : List Frame} {meth : Method} {c : Code} {E : XE} (N : Nat) (hG : GG E NT 6 RX2 cX2_readTie p s m args c) (hr : meth.sig.returnType = (some .int)) (hk : meth.locks = false)  (v2 : Int32)  (σ : Mm) : JR E NT 6 p l e rm_X2_readTie s m args below meth c 0 0 (fun r => MQ below (xQi E (NT + 0) r) args s 0 0 (xA E)) 97 [(2, .int v2)] [] σ (f_X2_readTie_97 N v2 σ) := by
  show JR E NT 6 p l e rm_X2_readTie s m args below meth c 0 0 (fun r => MQ below (xQi E (NT + 0) r) args s 0 0 (xA E)) 97 [(2, .int v2)] [] σ (some (v2 + (2 : Int32), σ))
  refine jr_iload_n hG 0 dX2_readTie_97 rfl rfl ?_
  refine jr_iconst (v := (2 : Int32)) hG dX2_readTie_98 (by decide) ?_
  refine jr_iadd hG dX2_readTie_99 ?_
  exact jr_iret hG hr hk dX2_readTie_100
def f_X2_readTie (N : Nat) (a0 : Nat) (a1 : Nat) (v2 : Int32) (a3 : Nat) (σ : Mm) : Option (Int32 × Mm) := if okO 2 a0 then (if okO 4 a1 then (if okA 0 a3 then (if (v2 + (1 : Int32)) < (gi σ a1 1) then (bR (gr σ a1 0) (okA 1) (fun o1 => if inb (v2 + (1 : Int32)) (arL o1) then (lt ((gi σ o1 (ix (v2 + (1 : Int32)))) - (48 : Int32)) (fun x2 => bI (f_X2_has N a0 x2 (σ)) (fun r4 t3 => if r4 = 0 then (some (v2 + (1 : Int32), t3)) else (if (v2 + (2 : Int32)) < (gi t3 a1 1) then (bR (gr t3 a1 0) (okA 1) (fun o5 => if inb (v2 + (2 : Int32)) (arL o5) then (lt ((gi t3 o5 (ix (v2 + (2 : Int32)))) - (48 : Int32)) (fun x6 => bI (f_X2_has N a0 x6 t3) (fun r8 t7 => if r8 = 0 then (f_X2_readTie_97 N v2 t7) else (if x6 = x2 then (f_X2_readTie_97 N v2 t7) else (if inb x2 (arL a3) then (bI (f_X5_holds N (gi t7 a3 (ix x2)) x6 t7) (fun r10 t9 => if r10 = 0 then (if inb x2 (arL a3) then (if inb x2 (arL a3) then (lt (si t9 a3 (ix x2) ((gi t9 a3 (ix x2)) ||| ((1 : Int32) <<< (x6 &&& 31)))) (fun t11 => if inb x6 (arL a3) then (if inb x6 (arL a3) then (lt (si t11 a3 (ix x6) ((gi t11 a3 (ix x6)) ||| ((1 : Int32) <<< (x2 &&& 31)))) (fun t12 => some ((-9 : Int32), t12))) else none) else none)) else none) else none) else (f_X2_readTie_97 N v2 t9))) else none))))) else none)) else (some (gi t3 a1 1, t3)))))) else none)) else (some (gi σ a1 1, σ))) else none) else none) else none
set_option maxRecDepth 20000 in
theorem c_X2_readTie (l : Launch) (E : XE) (N : Nat) (a0 : Nat) (a1 : Nat) (v2 : Int32) (a3 : Nat) (σ : Mm) : ∀ r0, f_X2_readTie N a0 a1 v2 a3 σ = some r0 → Met l yX2_readTie [Cond.code yX2_readTie cX2_readTie 6 (some .int)] rm_X2_readTie (xPc E (NT + 0) σ [.ref (E.B + a0), .ref (E.B + a1), .int v2, .ref (E.B + a3)]) (xQi E (NT + 0) r0) 0 0 (xA E) := by
  refine met_of (N0 := NT) (by decide +kernel) (Nat.le_of_ble_eq_true rfl) ?_
  intro p e s m args below meth c hG hr hk _
  show JR E NT 6 p l e rm_X2_readTie s m args below meth c 0 0 (fun r => MQ below (xQi E (NT + 0) r) args s 0 0 (xA E)) 0 [(0, .ref (E.B + a0)), (1, .ref (E.B + a1)), (2, .int v2), (3, .ref (E.B + a3))] [] σ (if okO 2 a0 then (if okO 4 a1 then (if okA 0 a3 then (if (v2 + (1 : Int32)) < (gi σ a1 1) then (bR (gr σ a1 0) (okA 1) (fun o1 => if inb (v2 + (1 : Int32)) (arL o1) then (lt ((gi σ o1 (ix (v2 + (1 : Int32)))) - (48 : Int32)) (fun x2 => bI (f_X2_has N a0 x2 (σ)) (fun r4 t3 => if r4 = 0 then (some (v2 + (1 : Int32), t3)) else (if (v2 + (2 : Int32)) < (gi t3 a1 1) then (bR (gr t3 a1 0) (okA 1) (fun o5 => if inb (v2 + (2 : Int32)) (arL o5) then (lt ((gi t3 o5 (ix (v2 + (2 : Int32)))) - (48 : Int32)) (fun x6 => bI (f_X2_has N a0 x6 t3) (fun r8 t7 => if r8 = 0 then (f_X2_readTie_97 N v2 t7) else (if x6 = x2 then (f_X2_readTie_97 N v2 t7) else (if inb x2 (arL a3) then (bI (f_X5_holds N (gi t7 a3 (ix x2)) x6 t7) (fun r10 t9 => if r10 = 0 then (if inb x2 (arL a3) then (if inb x2 (arL a3) then (lt (si t9 a3 (ix x2) ((gi t9 a3 (ix x2)) ||| ((1 : Int32) <<< (x6 &&& 31)))) (fun t11 => if inb x6 (arL a3) then (if inb x6 (arL a3) then (lt (si t11 a3 (ix x6) ((gi t11 a3 (ix x6)) ||| ((1 : Int32) <<< (x2 &&& 31)))) (fun t12 => some ((-9 : Int32), t12))) else none) else none)) else none) else none) else (f_X2_readTie_97 N v2 t9))) else none))))) else none)) else (some (gi t3 a1 1, t3)))))) else none)) else (some (gi σ a1 1, σ))) else none) else none) else none)
  refine jr_guard (fun ha0 => ?_)
  refine jr_guard (fun ha1 => ?_)
  refine jr_guard (fun ha3 => ?_)
  refine jr_iload_n hG 2 dX2_readTie_0 rfl rfl ?_
  refine jr_iconst (v := (1 : Int32)) hG dX2_readTie_1 (by decide) ?_
  refine jr_iadd hG dX2_readTie_2 ?_
  refine jr_aload_n hG 1 dX2_readTie_3 rfl rfl ?_
  refine jr_getI hG fi_RX2_43 rfl (okO_s ha1) (okO_l ha1) dX2_readTie_4 ?_
  refine jr_icmp_lt hG 15 dX2_readTie_7 (by decide) (fun _ => ?_) (fun _ => ?_)
  · refine jr_aload_n hG 1 dX2_readTie_15 rfl rfl ?_
    refine jr_getR hG fi_RX2_48 rfl (okO_s ha1) (okO_l ha1) dX2_readTie_16 (fun o1 ho1 => ?_)
    refine jr_iload_n hG 2 dX2_readTie_19 rfl rfl ?_
    refine jr_iconst (v := (1 : Int32)) hG dX2_readTie_20 (by decide) ?_
    refine jr_iadd hG dX2_readTie_21 ?_
    refine jr_bald hG (okA_s (by decide) ho1) (okA_l ho1) dX2_readTie_22 ?_
    refine jr_bipush (v := (48 : Int32)) hG dX2_readTie_23 (by decide) ?_
    refine jr_isub hG dX2_readTie_25 ?_
    refine jr_leti (fun x2 _ => ?_)
    refine jr_istore (lv' := [(4, .int x2), (0, .ref (E.B + a0)), (1, .ref (E.B + a1)), (2, .int v2), (3, .ref (E.B + a3))]) hG dX2_readTie_26 (by decide) rfl ?_
    refine jr_aload_n hG 1 dX2_readTie_28 rfl rfl ?_
    refine jr_iload hG 0 dX2_readTie_29 rfl ?_
    refine jr_callVi (As := [.int x2]) hG (c_X2_has l E N a0 x2 (σ)) ci_X2_has wd_361 ⟨wd_362, wd_363⟩ cl_2 (okO_s ha0) (okO_l ha0) ⟨rfl, rfl, Nat.le_of_ble_eq_true rfl, Nat.le_of_ble_eq_true rfl⟩ rfl rfl (Nat.le_of_ble_eq_true rfl) dX2_readTie_31 ⟨Nat.le_refl _, Nat.le_refl _⟩ (fun r4 t3 => ?_)
    refine jr_if_ne hG 41 dX2_readTie_34 (by decide) (fun _ => ?_) (fun _ => ?_)
    · refine jr_iload_n hG 3 dX2_readTie_41 rfl rfl ?_
      refine jr_iconst (v := (2 : Int32)) hG dX2_readTie_42 (by decide) ?_
      refine jr_iadd hG dX2_readTie_43 ?_
      refine jr_aload_n hG 2 dX2_readTie_44 rfl rfl ?_
      refine jr_getI hG fi_RX2_43 rfl (okO_s ha1) (okO_l ha1) dX2_readTie_45 ?_
      refine jr_icmp_lt hG 56 dX2_readTie_48 (by decide) (fun _ => ?_) (fun _ => ?_)
      · refine jr_aload_n hG 2 dX2_readTie_56 rfl rfl ?_
        refine jr_getR hG fi_RX2_48 rfl (okO_s ha1) (okO_l ha1) dX2_readTie_57 (fun o5 ho5 => ?_)
        refine jr_iload_n hG 3 dX2_readTie_60 rfl rfl ?_
        refine jr_iconst (v := (2 : Int32)) hG dX2_readTie_61 (by decide) ?_
        refine jr_iadd hG dX2_readTie_62 ?_
        refine jr_bald hG (okA_s (by decide) ho5) (okA_l ho5) dX2_readTie_63 ?_
        refine jr_bipush (v := (48 : Int32)) hG dX2_readTie_64 (by decide) ?_
        refine jr_isub hG dX2_readTie_66 ?_
        refine jr_leti (fun x6 _ => ?_)
        refine jr_istore (lv' := [(5, .int x6), (4, .int x2), (0, .ref (E.B + a0)), (1, .ref (E.B + a1)), (2, .int v2), (3, .ref (E.B + a3))]) hG dX2_readTie_67 (by decide) rfl ?_
        refine jr_aload_n hG 2 dX2_readTie_69 rfl rfl ?_
        refine jr_iload hG 0 dX2_readTie_70 rfl ?_
        refine jr_callVi (As := [.int x6]) hG (c_X2_has l E N a0 x6 t3) ci_X2_has wd_361 ⟨wd_362, wd_363⟩ cl_2 (okO_s ha0) (okO_l ha0) ⟨rfl, rfl, Nat.le_of_ble_eq_true rfl, Nat.le_of_ble_eq_true rfl⟩ rfl rfl (Nat.le_of_ble_eq_true rfl) dX2_readTie_72 ⟨Nat.le_refl _, Nat.le_refl _⟩ (fun r8 t7 => ?_)
        refine jr_if_eq hG 97 dX2_readTie_75 (by decide) (fun _ => ?_) (fun _ => ?_)
        · refine jr_sub (lv' := [(2, .int v2)]) [4] rfl ?_
          exact w_X2_readTie_97 N hG hr hk v2 t7
        · refine jr_iload hG 0 dX2_readTie_78 rfl ?_
          refine jr_iload hG 1 dX2_readTie_80 rfl ?_
          refine jr_icmp_eq hG 97 dX2_readTie_82 (by decide) (fun _ => ?_) (fun _ => ?_)
          · refine jr_sub (lv' := [(2, .int v2)]) [4] rfl ?_
            exact w_X2_readTie_97 N hG hr hk v2 t7
          · refine jr_aload_n hG 5 dX2_readTie_85 rfl rfl ?_
            refine jr_iload hG 1 dX2_readTie_86 rfl ?_
            refine jr_iald hG (okA_s (by decide) ha3) (okA_l ha3) dX2_readTie_88 ?_
            refine jr_iload hG 0 dX2_readTie_89 rfl ?_
            refine jr_callNi (As := [.int (gi t7 a3 (ix x2)), .int x6]) hG (c_X5_holds l E N (gi t7 a3 (ix x2)) x6 t7) ci_X5_holds (List.mem_of_getElem? (i := 6) rfl) wd_366 ⟨rfl, rfl, Nat.le_of_ble_eq_true rfl, Nat.le_of_ble_eq_true rfl⟩ rfl rfl (Nat.le_of_ble_eq_true rfl) dX2_readTie_91 ⟨Nat.le_refl _, Nat.le_refl _⟩ (fun r10 t9 => ?_)
            refine jr_if_eq hG 101 dX2_readTie_94 (by decide) (fun _ => ?_) (fun _ => ?_)
            · refine jr_aload_n hG 5 dX2_readTie_101 rfl rfl ?_
              refine jr_iload hG 1 dX2_readTie_102 rfl ?_
              refine jr_dup2 hG dX2_readTie_104 rfl rfl ?_
              refine jr_iald hG (okA_s (by decide) ha3) (okA_l ha3) dX2_readTie_105 ?_
              refine jr_iconst (v := (1 : Int32)) hG dX2_readTie_106 (by decide) ?_
              refine jr_iload hG 0 dX2_readTie_107 rfl ?_
              refine jr_ishl hG dX2_readTie_109 ?_
              refine jr_ior hG dX2_readTie_110 ?_
              refine jr_iast hG (okA_s (by decide) ha3) (okA_l ha3) dX2_readTie_111 ?_
              refine jr_lets (fun t11 _ => ?_)
              refine jr_aload_n hG 5 dX2_readTie_112 rfl rfl ?_
              refine jr_iload hG 0 dX2_readTie_113 rfl ?_
              refine jr_dup2 hG dX2_readTie_115 rfl rfl ?_
              refine jr_iald hG (okA_s (by decide) ha3) (okA_l ha3) dX2_readTie_116 ?_
              refine jr_iconst (v := (1 : Int32)) hG dX2_readTie_117 (by decide) ?_
              refine jr_iload hG 1 dX2_readTie_118 rfl ?_
              refine jr_ishl hG dX2_readTie_120 ?_
              refine jr_ior hG dX2_readTie_121 ?_
              refine jr_iast hG (okA_s (by decide) ha3) (okA_l ha3) dX2_readTie_122 ?_
              refine jr_lets (fun t12 _ => ?_)
              refine jr_bipush (v := (-9 : Int32)) hG dX2_readTie_123 (by decide) ?_
              exact jr_iret hG hr hk dX2_readTie_125
            · refine jr_sub (lv' := [(2, .int v2)]) [4] rfl ?_
              exact w_X2_readTie_97 N hG hr hk v2 t9
      · refine jr_aload_n hG 2 dX2_readTie_51 rfl rfl ?_
        refine jr_getI hG fi_RX2_43 rfl (okO_s ha1) (okO_l ha1) dX2_readTie_52 ?_
        exact jr_iret hG hr hk dX2_readTie_55
    · refine jr_iload_n hG 3 dX2_readTie_37 rfl rfl ?_
      refine jr_iconst (v := (1 : Int32)) hG dX2_readTie_38 (by decide) ?_
      refine jr_iadd hG dX2_readTie_39 ?_
      exact jr_iret hG hr hk dX2_readTie_40
  · refine jr_aload_n hG 1 dX2_readTie_10 rfl rfl ?_
    refine jr_getI hG fi_RX2_43 rfl (okO_s ha1) (okO_l ha1) dX2_readTie_11 ?_
    exact jr_iret hG hr hk dX2_readTie_14
-- TonguesDealt$Plan.leastOf(II)I
abbrev rm_X2_leastOf : Room := { frames := 1, cells := 0, slots := 0, locals := 21 }
theorem ci_X2_leastOf : CIx yX2_leastOf cX2_leastOf 3 (some .int) 2 := ⟨wd_374, wd_74, by decide +kernel⟩
def f_X2_leastOf_2 (N : Nat)  : Nat → Int32 → Int32 → Int32 → Mm → Option (Int32 × Mm)
  | 0 => fun _ _ _ _ => none
  | n + 1 => fun v0 v1 v2 σ => if v1 ≤ v2 then (some (v1, σ)) else (bI (f_X5_holds N v0 v2 (σ)) (fun r2 t1 => if r2 = 0 then (f_X2_leastOf_2 N n v0 v1 (v2 + (1 : Int32)) t1) else (some (v2, t1))))
set_option maxRecDepth 20000 in
theorem w_X2_leastOf_2 {p : Program} {l : Launch} {e : Env} {s : State} {m : MethodId} {args : Array Value} {below : List Frame} {meth : Method} {c : Code} {E : XE} (N : Nat) (hG : GG E NT 3 RX2 cX2_leastOf p s m args c) (hr : meth.sig.returnType = (some .int)) (hk : meth.locks = false)  : ∀ (n : Nat) (v0 : Int32) (v1 : Int32) (v2 : Int32)  (σ : Mm), JR E NT 3 p l e rm_X2_leastOf s m args below meth c 0 0 (fun r => MQ below (xQi E (NT + 0) r) args s 0 0 (xA E)) 2 [(0, .int v0), (1, .int v1), (2, .int v2)] [] σ (f_X2_leastOf_2 N n v0 v1 v2 σ) := by
  intro n
  induction n with
  | zero => intro v0 v1 v2 σ r hX; cases hX
  | succ n ih =>
    intro v0 v1 v2 σ
    show JR E NT 3 p l e rm_X2_leastOf s m args below meth c 0 0 (fun r => MQ below (xQi E (NT + 0) r) args s 0 0 (xA E)) 2 [(0, .int v0), (1, .int v1), (2, .int v2)] [] σ (if v1 ≤ v2 then (some (v1, σ)) else (bI (f_X5_holds N v0 v2 (σ)) (fun r2 t1 => if r2 = 0 then (f_X2_leastOf_2 N n v0 v1 (v2 + (1 : Int32)) t1) else (some (v2, t1)))))
    refine jr_iload_n hG 2 dX2_leastOf_2 rfl rfl ?_
    refine jr_iload_n hG 1 dX2_leastOf_3 rfl rfl ?_
    refine jr_icmp_ge hG 23 dX2_leastOf_4 (by decide) (fun _ => ?_) (fun _ => ?_)
    · refine jr_iload_n hG 1 dX2_leastOf_23 rfl rfl ?_
      exact jr_iret hG hr hk dX2_leastOf_24
    · refine jr_iload_n hG 0 dX2_leastOf_7 rfl rfl ?_
      refine jr_iload_n hG 2 dX2_leastOf_8 rfl rfl ?_
      refine jr_callNi (As := [.int v0, .int v2]) hG (c_X5_holds l E N v0 v2 (σ)) ci_X5_holds (List.mem_of_getElem? (i := 6) rfl) wd_366 ⟨rfl, rfl, Nat.le_of_ble_eq_true rfl, Nat.le_of_ble_eq_true rfl⟩ rfl rfl (Nat.le_of_ble_eq_true rfl) dX2_leastOf_9 ⟨Nat.le_refl _, Nat.le_refl _⟩ (fun r2 t1 => ?_)
      refine jr_if_eq hG 17 dX2_leastOf_12 (by decide) (fun _ => ?_) (fun _ => ?_)
      · refine jr_iinc (v := v2 + (1 : Int32)) (lv' := [(2, .int (v2 + (1 : Int32))), (0, .int v0), (1, .int v1)]) hG 2 dX2_leastOf_17 rfl rfl (by decide) rfl ?_
        refine jr_goto hG 2 dX2_leastOf_20 (by decide) ?_
        refine jr_sub (lv' := [(0, .int v0), (1, .int v1), (2, .int (v2 + (1 : Int32)))]) [1, 2, 0] rfl ?_
        exact ih v0 v1 (v2 + (1 : Int32)) t1
      · refine jr_iload_n hG 2 dX2_leastOf_15 rfl rfl ?_
        exact jr_iret hG hr hk dX2_leastOf_16
def f_X2_leastOf (N : Nat) (v0 : Int32) (v1 : Int32) (σ : Mm) : Option (Int32 × Mm) := f_X2_leastOf_2 N N v0 v1 (0 : Int32) (σ)
set_option maxRecDepth 20000 in
theorem c_X2_leastOf (l : Launch) (E : XE) (N : Nat) (v0 : Int32) (v1 : Int32) (σ : Mm) : ∀ r0, f_X2_leastOf N v0 v1 σ = some r0 → Met l yX2_leastOf [Cond.code yX2_leastOf cX2_leastOf 3 (some .int)] rm_X2_leastOf (xPc E (NT + 0) σ [.int v0, .int v1]) (xQi E (NT + 0) r0) 0 0 (xA E) := by
  refine met_of (N0 := NT) (by decide +kernel) (Nat.le_of_ble_eq_true rfl) ?_
  intro p e s m args below meth c hG hr hk _
  show JR E NT 3 p l e rm_X2_leastOf s m args below meth c 0 0 (fun r => MQ below (xQi E (NT + 0) r) args s 0 0 (xA E)) 0 [(0, .int v0), (1, .int v1)] [] σ (f_X2_leastOf_2 N N v0 v1 (0 : Int32) (σ))
  refine jr_iconst (v := (0 : Int32)) hG dX2_leastOf_0 (by decide) ?_
  refine jr_istore_n (lv' := [(2, .int (0 : Int32)), (0, .int v0), (1, .int v1)]) hG dX2_leastOf_1 rfl (by decide) rfl ?_
  refine jr_sub (lv' := [(0, .int v0), (1, .int v1), (2, .int (0 : Int32))]) [1, 2, 0] rfl ?_
  exact w_X2_leastOf_2 N hG hr hk N v0 v1 (0 : Int32) (σ)
-- TonguesDealt$Plan.joinHouses()V
abbrev rm_X2_joinHouses : Room := { frames := 2, cells := 0, slots := 0, locals := 43 }
theorem ci_X2_joinHouses : CIx yX2_joinHouses cX2_joinHouses 4 none 0 := ⟨wd_371, wd_74, by decide +kernel⟩
def f_X2_joinHouses_179 (N : Nat) (K115 : Nat → Int32 → Mm → Option (Mm)) (a0 : Nat) (v1 : Int32) (s0 : Int32) (s1 : Int32) (b2 : Nat) (σ : Mm) : Option (Mm) := if inb s1 (arL b2) then (lt (si σ b2 (ix s1) s0) (fun t21 => K115 a0 (v1 + (1 : Int32)) t21)) else none
set_option maxRecDepth 20000 in
theorem w_X2_joinHouses_179 {p : Program} {l : Launch} {e : Env} {s : State} {m : MethodId} {args : Array Value} {below : List Frame} {meth : Method} {c : Code} {E : XE} (N : Nat) (hG : GG E NT 4 RX2 cX2_joinHouses p s m args c) (hr : meth.sig.returnType = none) (hk : meth.locks = false) {K115 : Nat → Int32 → Mm → Option (Mm)} (hK115 : ∀ (a0 : Nat) (v1 : Int32) (ha0 : okO 2 a0 = true) (σ : Mm), JR E NT 4 p l e rm_X2_joinHouses s m args below meth c 0 0 (fun r => MQ below (xQv E (NT + 0) r) args s 0 0 (xA E)) 115 [(0, .ref (E.B + a0)), (1, .int v1)] [] σ (K115 a0 v1 σ)) (a0 : Nat) (v1 : Int32) (s0 : Int32) (s1 : Int32) (b2 : Nat) (ha0 : okO 2 a0 = true) (hb2 : okA 0 b2 = true) (σ : Mm) : JR E NT 4 p l e rm_X2_joinHouses s m args below meth c 0 0 (fun r => MQ below (xQv E (NT + 0) r) args s 0 0 (xA E)) 179 [(0, .ref (E.B + a0)), (1, .int v1)] [.int s0, .int s1, .ref (E.B + b2)] σ (f_X2_joinHouses_179 N K115 a0 v1 s0 s1 b2 σ) := by
  show JR E NT 4 p l e rm_X2_joinHouses s m args below meth c 0 0 (fun r => MQ below (xQv E (NT + 0) r) args s 0 0 (xA E)) 179 [(0, .ref (E.B + a0)), (1, .int v1)] [.int s0, .int s1, .ref (E.B + b2)] σ (if inb s1 (arL b2) then (lt (si σ b2 (ix s1) s0) (fun t21 => K115 a0 (v1 + (1 : Int32)) t21)) else none)
  refine jr_iast hG (okA_s (by decide) hb2) (okA_l hb2) dX2_joinHouses_179 ?_
  refine jr_lets (fun t21 _ => ?_)
  refine jr_iinc (v := v1 + (1 : Int32)) (lv' := [(1, .int (v1 + (1 : Int32))), (0, .ref (E.B + a0))]) hG 1 dX2_joinHouses_180 rfl rfl (by decide) rfl ?_
  refine jr_goto hG 115 dX2_joinHouses_183 (by decide) ?_
  refine jr_sub (lv' := [(0, .ref (E.B + a0)), (1, .int (v1 + (1 : Int32)))]) [1, 0] rfl ?_
  exact hK115 a0 (v1 + (1 : Int32)) ha0 t21
def f_X2_joinHouses_115 (N : Nat)  : Nat → Nat → Int32 → Mm → Option (Mm)
  | 0 => fun _ _ _ => none
  | n + 1 => fun a0 v1 σ => if (gi σ a0 8) ≤ v1 then (some (σ)) else (bR (gr σ a0 5) (okA 0) (fun o11 => bR (gr σ a0 4) (okA 0) (fun o12 => if inb v1 (arL o12) then (bI (f_X2_leastOf N (gi σ o12 (ix v1)) v1 (σ)) (fun r14 t13 => if inb v1 (arL o11) then (lt (si t13 o11 (ix v1) r14) (fun t15 => bR (gr t15 a0 6) (okA 0) (fun o16 => bR (gr t15 a0 5) (okA 0) (fun o17 => if inb v1 (arL o17) then (if (gi t15 o17 (ix v1)) = v1 then (lt (si t15 a0 7 ((gi t15 a0 7) + (1 : Int32))) (fun t20 => f_X2_joinHouses_179 N (f_X2_joinHouses_115 N n) a0 v1 (gi t15 a0 7) v1 o16 t20)) else (bR (gr t15 a0 6) (okA 0) (fun o18 => bR (gr t15 a0 5) (okA 0) (fun o19 => if inb v1 (arL o19) then (if inb (gi t15 o19 (ix v1)) (arL o18) then (f_X2_joinHouses_179 N (f_X2_joinHouses_115 N n) a0 v1 (gi t15 o18 (ix (gi t15 o19 (ix v1)))) v1 o16 t15) else none) else none)))) else none)))) else none)) else none)))
set_option maxRecDepth 20000 in
theorem w_X2_joinHouses_115 {p : Program} {l : Launch} {e : Env} {s : State} {m : MethodId} {args : Array Value} {below : List Frame} {meth : Method} {c : Code} {E : XE} (N : Nat) (hG : GG E NT 4 RX2 cX2_joinHouses p s m args c) (hr : meth.sig.returnType = none) (hk : meth.locks = false)  : ∀ (n : Nat) (a0 : Nat) (v1 : Int32) (ha0 : okO 2 a0 = true) (σ : Mm), JR E NT 4 p l e rm_X2_joinHouses s m args below meth c 0 0 (fun r => MQ below (xQv E (NT + 0) r) args s 0 0 (xA E)) 115 [(0, .ref (E.B + a0)), (1, .int v1)] [] σ (f_X2_joinHouses_115 N n a0 v1 σ) := by
  intro n
  induction n with
  | zero => intro a0 v1 ha0 σ r hX; cases hX
  | succ n ih =>
    intro a0 v1 ha0 σ
    show JR E NT 4 p l e rm_X2_joinHouses s m args below meth c 0 0 (fun r => MQ below (xQv E (NT + 0) r) args s 0 0 (xA E)) 115 [(0, .ref (E.B + a0)), (1, .int v1)] [] σ (if (gi σ a0 8) ≤ v1 then (some (σ)) else (bR (gr σ a0 5) (okA 0) (fun o11 => bR (gr σ a0 4) (okA 0) (fun o12 => if inb v1 (arL o12) then (bI (f_X2_leastOf N (gi σ o12 (ix v1)) v1 (σ)) (fun r14 t13 => if inb v1 (arL o11) then (lt (si t13 o11 (ix v1) r14) (fun t15 => bR (gr t15 a0 6) (okA 0) (fun o16 => bR (gr t15 a0 5) (okA 0) (fun o17 => if inb v1 (arL o17) then (if (gi t15 o17 (ix v1)) = v1 then (lt (si t15 a0 7 ((gi t15 a0 7) + (1 : Int32))) (fun t20 => f_X2_joinHouses_179 N (f_X2_joinHouses_115 N n) a0 v1 (gi t15 a0 7) v1 o16 t20)) else (bR (gr t15 a0 6) (okA 0) (fun o18 => bR (gr t15 a0 5) (okA 0) (fun o19 => if inb v1 (arL o19) then (if inb (gi t15 o19 (ix v1)) (arL o18) then (f_X2_joinHouses_179 N (f_X2_joinHouses_115 N n) a0 v1 (gi t15 o18 (ix (gi t15 o19 (ix v1)))) v1 o16 t15) else none) else none)))) else none)))) else none)) else none))))
    refine jr_iload_n hG 1 dX2_joinHouses_115 rfl rfl ?_
    refine jr_aload_n hG 0 dX2_joinHouses_116 rfl rfl ?_
    refine jr_getI hG fi_RX2_37 rfl (okO_s ha0) (okO_l ha0) dX2_joinHouses_117 ?_
    refine jr_icmp_ge hG 186 dX2_joinHouses_120 (by decide) (fun _ => ?_) (fun _ => ?_)
    · exact jr_vret hG hr hk dX2_joinHouses_186
    · refine jr_aload_n hG 0 dX2_joinHouses_123 rfl rfl ?_
      refine jr_getR hG fi_RX2_27 rfl (okO_s ha0) (okO_l ha0) dX2_joinHouses_124 (fun o11 ho11 => ?_)
      refine jr_iload_n hG 1 dX2_joinHouses_127 rfl rfl ?_
      refine jr_aload_n hG 0 dX2_joinHouses_128 rfl rfl ?_
      refine jr_getR hG fi_RX2_24 rfl (okO_s ha0) (okO_l ha0) dX2_joinHouses_129 (fun o12 ho12 => ?_)
      refine jr_iload_n hG 1 dX2_joinHouses_132 rfl rfl ?_
      refine jr_iald hG (okA_s (by decide) ho12) (okA_l ho12) dX2_joinHouses_133 ?_
      refine jr_iload_n hG 1 dX2_joinHouses_134 rfl rfl ?_
      refine jr_callSi (As := [.int (gi σ o12 (ix v1)), .int v1]) hG (c_X2_leastOf l E N (gi σ o12 (ix v1)) v1 (σ)) ci_X2_leastOf wd_372 wd_373 ⟨rfl, rfl, Nat.le_of_ble_eq_true rfl, Nat.le_of_ble_eq_true rfl⟩ rfl rfl (Nat.le_of_ble_eq_true rfl) dX2_joinHouses_135 ⟨Nat.le_refl _, Nat.le_refl _⟩ (fun r14 t13 => ?_)
      refine jr_iast hG (okA_s (by decide) ho11) (okA_l ho11) dX2_joinHouses_138 ?_
      refine jr_lets (fun t15 _ => ?_)
      refine jr_aload_n hG 0 dX2_joinHouses_139 rfl rfl ?_
      refine jr_getR hG fi_RX2_30 rfl (okO_s ha0) (okO_l ha0) dX2_joinHouses_140 (fun o16 ho16 => ?_)
      refine jr_iload_n hG 1 dX2_joinHouses_143 rfl rfl ?_
      refine jr_aload_n hG 0 dX2_joinHouses_144 rfl rfl ?_
      refine jr_getR hG fi_RX2_27 rfl (okO_s ha0) (okO_l ha0) dX2_joinHouses_145 (fun o17 ho17 => ?_)
      refine jr_iload_n hG 1 dX2_joinHouses_148 rfl rfl ?_
      refine jr_iald hG (okA_s (by decide) ho17) (okA_l ho17) dX2_joinHouses_149 ?_
      refine jr_iload_n hG 1 dX2_joinHouses_150 rfl rfl ?_
      refine jr_icmp_ne hG 168 dX2_joinHouses_151 (by decide) (fun _ => ?_) (fun _ => ?_)
      · refine jr_aload_n hG 0 dX2_joinHouses_168 rfl rfl ?_
        refine jr_getR hG fi_RX2_30 rfl (okO_s ha0) (okO_l ha0) dX2_joinHouses_169 (fun o18 ho18 => ?_)
        refine jr_aload_n hG 0 dX2_joinHouses_172 rfl rfl ?_
        refine jr_getR hG fi_RX2_27 rfl (okO_s ha0) (okO_l ha0) dX2_joinHouses_173 (fun o19 ho19 => ?_)
        refine jr_iload_n hG 1 dX2_joinHouses_176 rfl rfl ?_
        refine jr_iald hG (okA_s (by decide) ho19) (okA_l ho19) dX2_joinHouses_177 ?_
        refine jr_iald hG (okA_s (by decide) ho18) (okA_l ho18) dX2_joinHouses_178 ?_
        exact w_X2_joinHouses_179 N hG hr hk ih a0 v1 (gi t15 o18 (ix (gi t15 o19 (ix v1)))) v1 o16 ha0 ho16 t15
      · refine jr_aload_n hG 0 dX2_joinHouses_154 rfl rfl ?_
        refine jr_dup hG dX2_joinHouses_155 rfl ?_
        refine jr_getI hG fi_RX2_33 rfl (okO_s ha0) (okO_l ha0) dX2_joinHouses_156 ?_
        refine jr_dup_x1 hG dX2_joinHouses_159 rfl rfl ?_
        refine jr_iconst (v := (1 : Int32)) hG dX2_joinHouses_160 (by decide) ?_
        refine jr_iadd hG dX2_joinHouses_161 ?_
        refine jr_putI hG fi_RX2_33 rfl rfl (okO_s ha0) (okO_l ha0) dX2_joinHouses_162 ?_
        refine jr_lets (fun t20 _ => ?_)
        refine jr_goto hG 179 dX2_joinHouses_165 (by decide) ?_
        exact w_X2_joinHouses_179 N hG hr hk ih a0 v1 (gi t15 a0 7) v1 o16 ha0 ho16 t20
def f_X2_joinHouses_90 (N : Nat) (K34 : Nat → Int32 → Mm → Option (Mm)) (K44 : Nat → Int32 → Int32 → Mm → Option (Mm)) (K54 : Nat → Int32 → Int32 → Int32 → Mm → Option (Mm)) (a0 : Nat) (v1 : Int32) (v2 : Int32) (v3 : Int32) (σ : Mm) : Option (Mm) := K54 a0 v1 v2 (v3 + (1 : Int32)) (σ)
set_option maxRecDepth 20000 in
theorem w_X2_joinHouses_90 {p : Program} {l : Launch} {e : Env} {s : State} {m : MethodId} {args : Array Value} {below : List Frame} {meth : Method} {c : Code} {E : XE} (N : Nat) (hG : GG E NT 4 RX2 cX2_joinHouses p s m args c) (hr : meth.sig.returnType = none) (hk : meth.locks = false) {K34 : Nat → Int32 → Mm → Option (Mm)} (hK34 : ∀ (a0 : Nat) (v1 : Int32) (ha0 : okO 2 a0 = true) (σ : Mm), JR E NT 4 p l e rm_X2_joinHouses s m args below meth c 0 0 (fun r => MQ below (xQv E (NT + 0) r) args s 0 0 (xA E)) 34 [(0, .ref (E.B + a0)), (1, .int v1)] [] σ (K34 a0 v1 σ)) {K44 : Nat → Int32 → Int32 → Mm → Option (Mm)} (hK44 : ∀ (a0 : Nat) (v1 : Int32) (v2 : Int32) (ha0 : okO 2 a0 = true) (σ : Mm), JR E NT 4 p l e rm_X2_joinHouses s m args below meth c 0 0 (fun r => MQ below (xQv E (NT + 0) r) args s 0 0 (xA E)) 44 [(0, .ref (E.B + a0)), (1, .int v1), (2, .int v2)] [] σ (K44 a0 v1 v2 σ)) {K54 : Nat → Int32 → Int32 → Int32 → Mm → Option (Mm)} (hK54 : ∀ (a0 : Nat) (v1 : Int32) (v2 : Int32) (v3 : Int32) (ha0 : okO 2 a0 = true) (σ : Mm), JR E NT 4 p l e rm_X2_joinHouses s m args below meth c 0 0 (fun r => MQ below (xQv E (NT + 0) r) args s 0 0 (xA E)) 54 [(0, .ref (E.B + a0)), (1, .int v1), (2, .int v2), (3, .int v3)] [] σ (K54 a0 v1 v2 v3 σ)) (a0 : Nat) (v1 : Int32) (v2 : Int32) (v3 : Int32) (ha0 : okO 2 a0 = true) (σ : Mm) : JR E NT 4 p l e rm_X2_joinHouses s m args below meth c 0 0 (fun r => MQ below (xQv E (NT + 0) r) args s 0 0 (xA E)) 90 [(0, .ref (E.B + a0)), (1, .int v1), (2, .int v2), (3, .int v3)] [] σ (f_X2_joinHouses_90 N K34 K44 K54 a0 v1 v2 v3 σ) := by
  show JR E NT 4 p l e rm_X2_joinHouses s m args below meth c 0 0 (fun r => MQ below (xQv E (NT + 0) r) args s 0 0 (xA E)) 90 [(0, .ref (E.B + a0)), (1, .int v1), (2, .int v2), (3, .int v3)] [] σ (K54 a0 v1 v2 (v3 + (1 : Int32)) (σ))
  refine jr_iinc (v := v3 + (1 : Int32)) (lv' := [(3, .int (v3 + (1 : Int32))), (0, .ref (E.B + a0)), (1, .int v1), (2, .int v2)]) hG 3 dX2_joinHouses_90 rfl rfl (by decide) rfl ?_
  refine jr_goto hG 54 dX2_joinHouses_93 (by decide) ?_
  refine jr_sub (lv' := [(0, .ref (E.B + a0)), (1, .int v1), (2, .int v2), (3, .int (v3 + (1 : Int32)))]) [1, 2, 3, 0] rfl ?_
  exact hK54 a0 v1 v2 (v3 + (1 : Int32)) ha0 (σ)
def f_X2_joinHouses_54 (N : Nat) (K34 : Nat → Int32 → Mm → Option (Mm)) (K44 : Nat → Int32 → Int32 → Mm → Option (Mm)) : Nat → Nat → Int32 → Int32 → Int32 → Mm → Option (Mm)
  | 0 => fun _ _ _ _ _ => none
  | n + 1 => fun a0 v1 v2 v3 σ => if (gi σ a0 8) ≤ v3 then (K44 a0 v1 (v2 + (1 : Int32)) (σ)) else (bR (gr σ a0 4) (okA 0) (fun o5 => if inb v2 (arL o5) then (bI (f_X5_holds N (gi σ o5 (ix v2)) v3 (σ)) (fun r7 t6 => if r7 = 0 then (f_X2_joinHouses_90 N K34 K44 (f_X2_joinHouses_54 N K34 K44 n) a0 v1 v2 v3 t6) else (bR (gr t6 a0 4) (okA 0) (fun o8 => if inb v2 (arL o8) then (bR (gr t6 a0 4) (okA 0) (fun o9 => if inb v3 (arL o9) then (if inb v2 (arL o8) then (lt (si t6 o8 (ix v2) ((gi t6 o8 (ix v2)) ||| (gi t6 o9 (ix v3)))) (fun t10 => f_X2_joinHouses_90 N K34 K44 (f_X2_joinHouses_54 N K34 K44 n) a0 v1 v2 v3 t10)) else none) else none)) else none)))) else none))
set_option maxRecDepth 20000 in
theorem w_X2_joinHouses_54 {p : Program} {l : Launch} {e : Env} {s : State} {m : MethodId} {args : Array Value} {below : List Frame} {meth : Method} {c : Code} {E : XE} (N : Nat) (hG : GG E NT 4 RX2 cX2_joinHouses p s m args c) (hr : meth.sig.returnType = none) (hk : meth.locks = false) {K34 : Nat → Int32 → Mm → Option (Mm)} (hK34 : ∀ (a0 : Nat) (v1 : Int32) (ha0 : okO 2 a0 = true) (σ : Mm), JR E NT 4 p l e rm_X2_joinHouses s m args below meth c 0 0 (fun r => MQ below (xQv E (NT + 0) r) args s 0 0 (xA E)) 34 [(0, .ref (E.B + a0)), (1, .int v1)] [] σ (K34 a0 v1 σ)) {K44 : Nat → Int32 → Int32 → Mm → Option (Mm)} (hK44 : ∀ (a0 : Nat) (v1 : Int32) (v2 : Int32) (ha0 : okO 2 a0 = true) (σ : Mm), JR E NT 4 p l e rm_X2_joinHouses s m args below meth c 0 0 (fun r => MQ below (xQv E (NT + 0) r) args s 0 0 (xA E)) 44 [(0, .ref (E.B + a0)), (1, .int v1), (2, .int v2)] [] σ (K44 a0 v1 v2 σ)) : ∀ (n : Nat) (a0 : Nat) (v1 : Int32) (v2 : Int32) (v3 : Int32) (ha0 : okO 2 a0 = true) (σ : Mm), JR E NT 4 p l e rm_X2_joinHouses s m args below meth c 0 0 (fun r => MQ below (xQv E (NT + 0) r) args s 0 0 (xA E)) 54 [(0, .ref (E.B + a0)), (1, .int v1), (2, .int v2), (3, .int v3)] [] σ (f_X2_joinHouses_54 N K34 K44 n a0 v1 v2 v3 σ) := by
  intro n
  induction n with
  | zero => intro a0 v1 v2 v3 ha0 σ r hX; cases hX
  | succ n ih =>
    intro a0 v1 v2 v3 ha0 σ
    show JR E NT 4 p l e rm_X2_joinHouses s m args below meth c 0 0 (fun r => MQ below (xQv E (NT + 0) r) args s 0 0 (xA E)) 54 [(0, .ref (E.B + a0)), (1, .int v1), (2, .int v2), (3, .int v3)] [] σ (if (gi σ a0 8) ≤ v3 then (K44 a0 v1 (v2 + (1 : Int32)) (σ)) else (bR (gr σ a0 4) (okA 0) (fun o5 => if inb v2 (arL o5) then (bI (f_X5_holds N (gi σ o5 (ix v2)) v3 (σ)) (fun r7 t6 => if r7 = 0 then (f_X2_joinHouses_90 N K34 K44 (f_X2_joinHouses_54 N K34 K44 n) a0 v1 v2 v3 t6) else (bR (gr t6 a0 4) (okA 0) (fun o8 => if inb v2 (arL o8) then (bR (gr t6 a0 4) (okA 0) (fun o9 => if inb v3 (arL o9) then (if inb v2 (arL o8) then (lt (si t6 o8 (ix v2) ((gi t6 o8 (ix v2)) ||| (gi t6 o9 (ix v3)))) (fun t10 => f_X2_joinHouses_90 N K34 K44 (f_X2_joinHouses_54 N K34 K44 n) a0 v1 v2 v3 t10)) else none) else none)) else none)))) else none)))
    refine jr_iload_n hG 3 dX2_joinHouses_54 rfl rfl ?_
    refine jr_aload_n hG 0 dX2_joinHouses_55 rfl rfl ?_
    refine jr_getI hG fi_RX2_37 rfl (okO_s ha0) (okO_l ha0) dX2_joinHouses_56 ?_
    refine jr_icmp_ge hG 96 dX2_joinHouses_59 (by decide) (fun _ => ?_) (fun _ => ?_)
    · refine jr_iinc (v := v2 + (1 : Int32)) (lv' := [(2, .int (v2 + (1 : Int32))), (0, .ref (E.B + a0)), (1, .int v1), (3, .int v3)]) hG 2 dX2_joinHouses_96 rfl rfl (by decide) rfl ?_
      refine jr_goto hG 44 dX2_joinHouses_99 (by decide) ?_
      refine jr_sub (lv' := [(0, .ref (E.B + a0)), (1, .int v1), (2, .int (v2 + (1 : Int32)))]) [1, 2, 0] rfl ?_
      exact hK44 a0 v1 (v2 + (1 : Int32)) ha0 (σ)
    · refine jr_aload_n hG 0 dX2_joinHouses_62 rfl rfl ?_
      refine jr_getR hG fi_RX2_24 rfl (okO_s ha0) (okO_l ha0) dX2_joinHouses_63 (fun o5 ho5 => ?_)
      refine jr_iload_n hG 2 dX2_joinHouses_66 rfl rfl ?_
      refine jr_iald hG (okA_s (by decide) ho5) (okA_l ho5) dX2_joinHouses_67 ?_
      refine jr_iload_n hG 3 dX2_joinHouses_68 rfl rfl ?_
      refine jr_callNi (As := [.int (gi σ o5 (ix v2)), .int v3]) hG (c_X5_holds l E N (gi σ o5 (ix v2)) v3 (σ)) ci_X5_holds (List.mem_of_getElem? (i := 6) rfl) wd_366 ⟨rfl, rfl, Nat.le_of_ble_eq_true rfl, Nat.le_of_ble_eq_true rfl⟩ rfl rfl (Nat.le_of_ble_eq_true rfl) dX2_joinHouses_69 ⟨Nat.le_refl _, Nat.le_refl _⟩ (fun r7 t6 => ?_)
      refine jr_if_eq hG 90 dX2_joinHouses_72 (by decide) (fun _ => ?_) (fun _ => ?_)
      · exact w_X2_joinHouses_90 N hG hr hk hK34 hK44 ih a0 v1 v2 v3 ha0 t6
      · refine jr_aload_n hG 0 dX2_joinHouses_75 rfl rfl ?_
        refine jr_getR hG fi_RX2_24 rfl (okO_s ha0) (okO_l ha0) dX2_joinHouses_76 (fun o8 ho8 => ?_)
        refine jr_iload_n hG 2 dX2_joinHouses_79 rfl rfl ?_
        refine jr_dup2 hG dX2_joinHouses_80 rfl rfl ?_
        refine jr_iald hG (okA_s (by decide) ho8) (okA_l ho8) dX2_joinHouses_81 ?_
        refine jr_aload_n hG 0 dX2_joinHouses_82 rfl rfl ?_
        refine jr_getR hG fi_RX2_24 rfl (okO_s ha0) (okO_l ha0) dX2_joinHouses_83 (fun o9 ho9 => ?_)
        refine jr_iload_n hG 3 dX2_joinHouses_86 rfl rfl ?_
        refine jr_iald hG (okA_s (by decide) ho9) (okA_l ho9) dX2_joinHouses_87 ?_
        refine jr_ior hG dX2_joinHouses_88 ?_
        refine jr_iast hG (okA_s (by decide) ho8) (okA_l ho8) dX2_joinHouses_89 ?_
        refine jr_lets (fun t10 _ => ?_)
        exact w_X2_joinHouses_90 N hG hr hk hK34 hK44 ih a0 v1 v2 v3 ha0 t10
def f_X2_joinHouses_44 (N : Nat) (K34 : Nat → Int32 → Mm → Option (Mm)) : Nat → Nat → Int32 → Int32 → Mm → Option (Mm)
  | 0 => fun _ _ _ _ => none
  | n + 1 => fun a0 v1 v2 σ => if (gi σ a0 8) ≤ v2 then (K34 a0 (v1 + (1 : Int32)) (σ)) else (f_X2_joinHouses_54 N K34 (f_X2_joinHouses_44 N K34 n) N a0 v1 v2 (0 : Int32) (σ))
set_option maxRecDepth 20000 in
theorem w_X2_joinHouses_44 {p : Program} {l : Launch} {e : Env} {s : State} {m : MethodId} {args : Array Value} {below : List Frame} {meth : Method} {c : Code} {E : XE} (N : Nat) (hG : GG E NT 4 RX2 cX2_joinHouses p s m args c) (hr : meth.sig.returnType = none) (hk : meth.locks = false) {K34 : Nat → Int32 → Mm → Option (Mm)} (hK34 : ∀ (a0 : Nat) (v1 : Int32) (ha0 : okO 2 a0 = true) (σ : Mm), JR E NT 4 p l e rm_X2_joinHouses s m args below meth c 0 0 (fun r => MQ below (xQv E (NT + 0) r) args s 0 0 (xA E)) 34 [(0, .ref (E.B + a0)), (1, .int v1)] [] σ (K34 a0 v1 σ)) : ∀ (n : Nat) (a0 : Nat) (v1 : Int32) (v2 : Int32) (ha0 : okO 2 a0 = true) (σ : Mm), JR E NT 4 p l e rm_X2_joinHouses s m args below meth c 0 0 (fun r => MQ below (xQv E (NT + 0) r) args s 0 0 (xA E)) 44 [(0, .ref (E.B + a0)), (1, .int v1), (2, .int v2)] [] σ (f_X2_joinHouses_44 N K34 n a0 v1 v2 σ) := by
  intro n
  induction n with
  | zero => intro a0 v1 v2 ha0 σ r hX; cases hX
  | succ n ih =>
    intro a0 v1 v2 ha0 σ
    show JR E NT 4 p l e rm_X2_joinHouses s m args below meth c 0 0 (fun r => MQ below (xQv E (NT + 0) r) args s 0 0 (xA E)) 44 [(0, .ref (E.B + a0)), (1, .int v1), (2, .int v2)] [] σ (if (gi σ a0 8) ≤ v2 then (K34 a0 (v1 + (1 : Int32)) (σ)) else (f_X2_joinHouses_54 N K34 (f_X2_joinHouses_44 N K34 n) N a0 v1 v2 (0 : Int32) (σ)))
    refine jr_iload_n hG 2 dX2_joinHouses_44 rfl rfl ?_
    refine jr_aload_n hG 0 dX2_joinHouses_45 rfl rfl ?_
    refine jr_getI hG fi_RX2_37 rfl (okO_s ha0) (okO_l ha0) dX2_joinHouses_46 ?_
    refine jr_icmp_ge hG 102 dX2_joinHouses_49 (by decide) (fun _ => ?_) (fun _ => ?_)
    · refine jr_iinc (v := v1 + (1 : Int32)) (lv' := [(1, .int (v1 + (1 : Int32))), (0, .ref (E.B + a0)), (2, .int v2)]) hG 1 dX2_joinHouses_102 rfl rfl (by decide) rfl ?_
      refine jr_goto hG 34 dX2_joinHouses_105 (by decide) ?_
      refine jr_sub (lv' := [(0, .ref (E.B + a0)), (1, .int (v1 + (1 : Int32)))]) [1, 0] rfl ?_
      exact hK34 a0 (v1 + (1 : Int32)) ha0 (σ)
    · refine jr_iconst (v := (0 : Int32)) hG dX2_joinHouses_52 (by decide) ?_
      refine jr_istore_n (lv' := [(3, .int (0 : Int32)), (0, .ref (E.B + a0)), (1, .int v1), (2, .int v2)]) hG dX2_joinHouses_53 rfl (by decide) rfl ?_
      refine jr_sub (lv' := [(0, .ref (E.B + a0)), (1, .int v1), (2, .int v2), (3, .int (0 : Int32))]) [1, 2, 3, 0] rfl ?_
      exact w_X2_joinHouses_54 N hG hr hk hK34 ih N a0 v1 v2 (0 : Int32) ha0 (σ)
def f_X2_joinHouses_34 (N : Nat)  : Nat → Nat → Int32 → Mm → Option (Mm)
  | 0 => fun _ _ _ => none
  | n + 1 => fun a0 v1 σ => if (gi σ a0 8) ≤ v1 then (lt (si σ a0 7 (0 : Int32)) (fun t4 => f_X2_joinHouses_115 N N a0 (0 : Int32) t4)) else (f_X2_joinHouses_44 N (f_X2_joinHouses_34 N n) N a0 v1 (0 : Int32) (σ))
set_option maxRecDepth 20000 in
theorem w_X2_joinHouses_34 {p : Program} {l : Launch} {e : Env} {s : State} {m : MethodId} {args : Array Value} {below : List Frame} {meth : Method} {c : Code} {E : XE} (N : Nat) (hG : GG E NT 4 RX2 cX2_joinHouses p s m args c) (hr : meth.sig.returnType = none) (hk : meth.locks = false)  : ∀ (n : Nat) (a0 : Nat) (v1 : Int32) (ha0 : okO 2 a0 = true) (σ : Mm), JR E NT 4 p l e rm_X2_joinHouses s m args below meth c 0 0 (fun r => MQ below (xQv E (NT + 0) r) args s 0 0 (xA E)) 34 [(0, .ref (E.B + a0)), (1, .int v1)] [] σ (f_X2_joinHouses_34 N n a0 v1 σ) := by
  intro n
  induction n with
  | zero => intro a0 v1 ha0 σ r hX; cases hX
  | succ n ih =>
    intro a0 v1 ha0 σ
    show JR E NT 4 p l e rm_X2_joinHouses s m args below meth c 0 0 (fun r => MQ below (xQv E (NT + 0) r) args s 0 0 (xA E)) 34 [(0, .ref (E.B + a0)), (1, .int v1)] [] σ (if (gi σ a0 8) ≤ v1 then (lt (si σ a0 7 (0 : Int32)) (fun t4 => f_X2_joinHouses_115 N N a0 (0 : Int32) t4)) else (f_X2_joinHouses_44 N (f_X2_joinHouses_34 N n) N a0 v1 (0 : Int32) (σ)))
    refine jr_iload_n hG 1 dX2_joinHouses_34 rfl rfl ?_
    refine jr_aload_n hG 0 dX2_joinHouses_35 rfl rfl ?_
    refine jr_getI hG fi_RX2_37 rfl (okO_s ha0) (okO_l ha0) dX2_joinHouses_36 ?_
    refine jr_icmp_ge hG 108 dX2_joinHouses_39 (by decide) (fun _ => ?_) (fun _ => ?_)
    · refine jr_aload_n hG 0 dX2_joinHouses_108 rfl rfl ?_
      refine jr_iconst (v := (0 : Int32)) hG dX2_joinHouses_109 (by decide) ?_
      refine jr_putI hG fi_RX2_33 rfl rfl (okO_s ha0) (okO_l ha0) dX2_joinHouses_110 ?_
      refine jr_lets (fun t4 _ => ?_)
      refine jr_iconst (v := (0 : Int32)) hG dX2_joinHouses_113 (by decide) ?_
      refine jr_istore_n (lv' := [(1, .int (0 : Int32)), (0, .ref (E.B + a0))]) hG dX2_joinHouses_114 rfl (by decide) rfl ?_
      refine jr_sub (lv' := [(0, .ref (E.B + a0)), (1, .int (0 : Int32))]) [1, 0] rfl ?_
      exact w_X2_joinHouses_115 N hG hr hk N a0 (0 : Int32) ha0 t4
    · refine jr_iconst (v := (0 : Int32)) hG dX2_joinHouses_42 (by decide) ?_
      refine jr_istore_n (lv' := [(2, .int (0 : Int32)), (0, .ref (E.B + a0)), (1, .int v1)]) hG dX2_joinHouses_43 rfl (by decide) rfl ?_
      refine jr_sub (lv' := [(0, .ref (E.B + a0)), (1, .int v1), (2, .int (0 : Int32))]) [1, 2, 0] rfl ?_
      exact w_X2_joinHouses_44 N hG hr hk ih N a0 v1 (0 : Int32) ha0 (σ)
def f_X2_joinHouses_2 (N : Nat)  : Nat → Nat → Int32 → Mm → Option (Mm)
  | 0 => fun _ _ _ => none
  | n + 1 => fun a0 v1 σ => if (gi σ a0 8) ≤ v1 then (f_X2_joinHouses_34 N N a0 (0 : Int32) (σ)) else (bR (gr σ a0 4) (okA 0) (fun o1 => bR (gr σ a0 2) (okA 0) (fun o2 => if inb v1 (arL o2) then (if inb v1 (arL o1) then (lt (si σ o1 (ix v1) ((gi σ o2 (ix v1)) ||| ((1 : Int32) <<< (v1 &&& 31)))) (fun t3 => f_X2_joinHouses_2 N n a0 (v1 + (1 : Int32)) t3)) else none) else none)))
set_option maxRecDepth 20000 in
theorem w_X2_joinHouses_2 {p : Program} {l : Launch} {e : Env} {s : State} {m : MethodId} {args : Array Value} {below : List Frame} {meth : Method} {c : Code} {E : XE} (N : Nat) (hG : GG E NT 4 RX2 cX2_joinHouses p s m args c) (hr : meth.sig.returnType = none) (hk : meth.locks = false)  : ∀ (n : Nat) (a0 : Nat) (v1 : Int32) (ha0 : okO 2 a0 = true) (σ : Mm), JR E NT 4 p l e rm_X2_joinHouses s m args below meth c 0 0 (fun r => MQ below (xQv E (NT + 0) r) args s 0 0 (xA E)) 2 [(0, .ref (E.B + a0)), (1, .int v1)] [] σ (f_X2_joinHouses_2 N n a0 v1 σ) := by
  intro n
  induction n with
  | zero => intro a0 v1 ha0 σ r hX; cases hX
  | succ n ih =>
    intro a0 v1 ha0 σ
    show JR E NT 4 p l e rm_X2_joinHouses s m args below meth c 0 0 (fun r => MQ below (xQv E (NT + 0) r) args s 0 0 (xA E)) 2 [(0, .ref (E.B + a0)), (1, .int v1)] [] σ (if (gi σ a0 8) ≤ v1 then (f_X2_joinHouses_34 N N a0 (0 : Int32) (σ)) else (bR (gr σ a0 4) (okA 0) (fun o1 => bR (gr σ a0 2) (okA 0) (fun o2 => if inb v1 (arL o2) then (if inb v1 (arL o1) then (lt (si σ o1 (ix v1) ((gi σ o2 (ix v1)) ||| ((1 : Int32) <<< (v1 &&& 31)))) (fun t3 => f_X2_joinHouses_2 N n a0 (v1 + (1 : Int32)) t3)) else none) else none))))
    refine jr_iload_n hG 1 dX2_joinHouses_2 rfl rfl ?_
    refine jr_aload_n hG 0 dX2_joinHouses_3 rfl rfl ?_
    refine jr_getI hG fi_RX2_37 rfl (okO_s ha0) (okO_l ha0) dX2_joinHouses_4 ?_
    refine jr_icmp_ge hG 32 dX2_joinHouses_7 (by decide) (fun _ => ?_) (fun _ => ?_)
    · refine jr_iconst (v := (0 : Int32)) hG dX2_joinHouses_32 (by decide) ?_
      refine jr_istore_n (lv' := [(1, .int (0 : Int32)), (0, .ref (E.B + a0))]) hG dX2_joinHouses_33 rfl (by decide) rfl ?_
      refine jr_sub (lv' := [(0, .ref (E.B + a0)), (1, .int (0 : Int32))]) [1, 0] rfl ?_
      exact w_X2_joinHouses_34 N hG hr hk N a0 (0 : Int32) ha0 (σ)
    · refine jr_aload_n hG 0 dX2_joinHouses_10 rfl rfl ?_
      refine jr_getR hG fi_RX2_24 rfl (okO_s ha0) (okO_l ha0) dX2_joinHouses_11 (fun o1 ho1 => ?_)
      refine jr_iload_n hG 1 dX2_joinHouses_14 rfl rfl ?_
      refine jr_aload_n hG 0 dX2_joinHouses_15 rfl rfl ?_
      refine jr_getR hG fi_RX2_18 rfl (okO_s ha0) (okO_l ha0) dX2_joinHouses_16 (fun o2 ho2 => ?_)
      refine jr_iload_n hG 1 dX2_joinHouses_19 rfl rfl ?_
      refine jr_iald hG (okA_s (by decide) ho2) (okA_l ho2) dX2_joinHouses_20 ?_
      refine jr_iconst (v := (1 : Int32)) hG dX2_joinHouses_21 (by decide) ?_
      refine jr_iload_n hG 1 dX2_joinHouses_22 rfl rfl ?_
      refine jr_ishl hG dX2_joinHouses_23 ?_
      refine jr_ior hG dX2_joinHouses_24 ?_
      refine jr_iast hG (okA_s (by decide) ho1) (okA_l ho1) dX2_joinHouses_25 ?_
      refine jr_lets (fun t3 _ => ?_)
      refine jr_iinc (v := v1 + (1 : Int32)) (lv' := [(1, .int (v1 + (1 : Int32))), (0, .ref (E.B + a0))]) hG 1 dX2_joinHouses_26 rfl rfl (by decide) rfl ?_
      refine jr_goto hG 2 dX2_joinHouses_29 (by decide) ?_
      refine jr_sub (lv' := [(0, .ref (E.B + a0)), (1, .int (v1 + (1 : Int32)))]) [1, 0] rfl ?_
      exact ih a0 (v1 + (1 : Int32)) ha0 t3
def f_X2_joinHouses (N : Nat) (a0 : Nat) (σ : Mm) : Option (Mm) := if okO 2 a0 then (f_X2_joinHouses_2 N N a0 (0 : Int32) (σ)) else none
set_option maxRecDepth 20000 in
theorem c_X2_joinHouses (l : Launch) (E : XE) (N : Nat) (a0 : Nat) (σ : Mm) : ∀ r0, f_X2_joinHouses N a0 σ = some r0 → Met l yX2_joinHouses [Cond.code yX2_joinHouses cX2_joinHouses 4 none] rm_X2_joinHouses (xPc E (NT + 0) σ [.ref (E.B + a0)]) (xQv E (NT + 0) r0) 0 0 (xA E) := by
  refine met_of (N0 := NT) (by decide +kernel) (Nat.le_of_ble_eq_true rfl) ?_
  intro p e s m args below meth c hG hr hk _
  show JR E NT 4 p l e rm_X2_joinHouses s m args below meth c 0 0 (fun r => MQ below (xQv E (NT + 0) r) args s 0 0 (xA E)) 0 [(0, .ref (E.B + a0))] [] σ (if okO 2 a0 then (f_X2_joinHouses_2 N N a0 (0 : Int32) (σ)) else none)
  refine jr_guard (fun ha0 => ?_)
  refine jr_iconst (v := (0 : Int32)) hG dX2_joinHouses_0 (by decide) ?_
  refine jr_istore_n (lv' := [(1, .int (0 : Int32)), (0, .ref (E.B + a0))]) hG dX2_joinHouses_1 rfl (by decide) rfl ?_
  refine jr_sub (lv' := [(0, .ref (E.B + a0)), (1, .int (0 : Int32))]) [1, 0] rfl ?_
  exact w_X2_joinHouses_2 N hG hr hk N a0 (0 : Int32) ha0 (σ)
-- TonguesDealt$Plan.read(LTonguesDealt$Text;)I
abbrev rm_X2_read : Room := { frames := 3, cells := 0, slots := 0, locals := 66 }
theorem ci_X2_read : CIx yX2_read cX2_read 7 (some .int) 1 := ⟨wd_341, wd_74, by decide +kernel⟩
def f_X2_read_136 (N : Nat) (K8 : Nat → Nat → Int32 → Int32 → Mm → Option (Int32 × Mm)) (a0 : Nat) (a1 : Nat) (v2 : Int32) (v3 : Int32) (σ : Mm) : Option (Int32 × Mm) := K8 a0 a1 v2 (v3 + (1 : Int32)) (σ)
set_option maxRecDepth 20000 in
theorem w_X2_read_136 {p : Program} {l : Launch} {e : Env} {s : State} {m : MethodId} {args : Array Value} {below : List Frame} {meth : Method} {c : Code} {E : XE} (N : Nat) (hG : GG E NT 7 RX2 cX2_read p s m args c) (hr : meth.sig.returnType = (some .int)) (hk : meth.locks = false) {K8 : Nat → Nat → Int32 → Int32 → Mm → Option (Int32 × Mm)} (hK8 : ∀ (a0 : Nat) (a1 : Nat) (v2 : Int32) (v3 : Int32) (ha0 : okO 2 a0 = true) (ha1 : okO 4 a1 = true) (σ : Mm), JR E NT 7 p l e rm_X2_read s m args below meth c 0 0 (fun r => MQ below (xQi E (NT + 0) r) args s 0 0 (xA E)) 8 [(0, .ref (E.B + a0)), (1, .ref (E.B + a1)), (2, .int v2), (3, .int v3)] [] σ (K8 a0 a1 v2 v3 σ)) (a0 : Nat) (a1 : Nat) (v2 : Int32) (v3 : Int32) (ha0 : okO 2 a0 = true) (ha1 : okO 4 a1 = true) (σ : Mm) : JR E NT 7 p l e rm_X2_read s m args below meth c 0 0 (fun r => MQ below (xQi E (NT + 0) r) args s 0 0 (xA E)) 136 [(0, .ref (E.B + a0)), (1, .ref (E.B + a1)), (2, .int v2), (3, .int v3)] [] σ (f_X2_read_136 N K8 a0 a1 v2 v3 σ) := by
  show JR E NT 7 p l e rm_X2_read s m args below meth c 0 0 (fun r => MQ below (xQi E (NT + 0) r) args s 0 0 (xA E)) 136 [(0, .ref (E.B + a0)), (1, .ref (E.B + a1)), (2, .int v2), (3, .int v3)] [] σ (K8 a0 a1 v2 (v3 + (1 : Int32)) (σ))
  refine jr_iinc (v := v3 + (1 : Int32)) (lv' := [(3, .int (v3 + (1 : Int32))), (0, .ref (E.B + a0)), (1, .ref (E.B + a1)), (2, .int v2)]) hG 3 dX2_read_136 rfl rfl (by decide) rfl ?_
  refine jr_goto hG 8 dX2_read_139 (by decide) ?_
  refine jr_sub (lv' := [(0, .ref (E.B + a0)), (1, .ref (E.B + a1)), (2, .int v2), (3, .int (v3 + (1 : Int32)))]) [1, 2, 3, 0] rfl ?_
  exact hK8 a0 a1 v2 (v3 + (1 : Int32)) ha0 ha1 (σ)
def f_X2_read_116 (N : Nat) (K8 : Nat → Nat → Int32 → Int32 → Mm → Option (Int32 × Mm)) (a0 : Nat) (a1 : Nat) (v3 : Int32) (b0 : Nat) (s1 : Int32) (b2 : Nat) (b3 : Nat) (σ : Mm) : Option (Int32 × Mm) := bI (f_X2_readTie N b3 b2 s1 b0 (σ)) (fun r11 t10 => if r11 = (-9 : Int32) then (f_X2_read_136 N K8 a0 a1 (1 : Int32) (v3 + (2 : Int32)) t10) else (some (r11, t10)))
set_option maxRecDepth 20000 in
theorem w_X2_read_116 {p : Program} {l : Launch} {e : Env} {s : State} {m : MethodId} {args : Array Value} {below : List Frame} {meth : Method} {c : Code} {E : XE} (N : Nat) (hG : GG E NT 7 RX2 cX2_read p s m args c) (hr : meth.sig.returnType = (some .int)) (hk : meth.locks = false) {K8 : Nat → Nat → Int32 → Int32 → Mm → Option (Int32 × Mm)} (hK8 : ∀ (a0 : Nat) (a1 : Nat) (v2 : Int32) (v3 : Int32) (ha0 : okO 2 a0 = true) (ha1 : okO 4 a1 = true) (σ : Mm), JR E NT 7 p l e rm_X2_read s m args below meth c 0 0 (fun r => MQ below (xQi E (NT + 0) r) args s 0 0 (xA E)) 8 [(0, .ref (E.B + a0)), (1, .ref (E.B + a1)), (2, .int v2), (3, .int v3)] [] σ (K8 a0 a1 v2 v3 σ)) (a0 : Nat) (a1 : Nat) (v3 : Int32) (b0 : Nat) (s1 : Int32) (b2 : Nat) (b3 : Nat) (ha0 : okO 2 a0 = true) (ha1 : okO 4 a1 = true) (hb0 : okA 0 b0 = true) (hb2 : okO 4 b2 = true) (hb3 : okO 2 b3 = true) (σ : Mm) : JR E NT 7 p l e rm_X2_read s m args below meth c 0 0 (fun r => MQ below (xQi E (NT + 0) r) args s 0 0 (xA E)) 116 [(0, .ref (E.B + a0)), (1, .ref (E.B + a1)), (3, .int v3)] [.ref (E.B + b0), .int s1, .ref (E.B + b2), .ref (E.B + b3)] σ (f_X2_read_116 N K8 a0 a1 v3 b0 s1 b2 b3 σ) := by
  show JR E NT 7 p l e rm_X2_read s m args below meth c 0 0 (fun r => MQ below (xQi E (NT + 0) r) args s 0 0 (xA E)) 116 [(0, .ref (E.B + a0)), (1, .ref (E.B + a1)), (3, .int v3)] [.ref (E.B + b0), .int s1, .ref (E.B + b2), .ref (E.B + b3)] σ (bI (f_X2_readTie N b3 b2 s1 b0 (σ)) (fun r11 t10 => if r11 = (-9 : Int32) then (f_X2_read_136 N K8 a0 a1 (1 : Int32) (v3 + (2 : Int32)) t10) else (some (r11, t10))))
  refine jr_callVi (As := [.ref (E.B + b2), .int s1, .ref (E.B + b0)]) hG (c_X2_readTie l E N b3 b2 s1 b0 (σ)) ci_X2_readTie wd_357 ⟨wd_359, wd_3⟩ cl_2 (okO_s hb3) (okO_l hb3) ⟨rfl, rfl, Nat.le_of_ble_eq_true rfl, Nat.le_of_ble_eq_true rfl⟩ rfl rfl (Nat.le_of_ble_eq_true rfl) dX2_read_116 ⟨Nat.le_refl _, Nat.le_refl _⟩ (fun r11 t10 => ?_)
  refine jr_istore (lv' := [(6, .int r11), (0, .ref (E.B + a0)), (1, .ref (E.B + a1)), (3, .int v3)]) hG dX2_read_119 (by decide) rfl ?_
  refine jr_iload hG 0 dX2_read_121 rfl ?_
  refine jr_bipush (v := (-9 : Int32)) hG dX2_read_123 (by decide) ?_
  refine jr_icmp_eq hG 131 dX2_read_125 (by decide) (fun _ => ?_) (fun _ => ?_)
  · refine jr_iconst (v := (1 : Int32)) hG dX2_read_131 (by decide) ?_
    refine jr_istore_n (lv' := [(2, .int (1 : Int32)), (6, .int r11), (0, .ref (E.B + a0)), (1, .ref (E.B + a1)), (3, .int v3)]) hG dX2_read_132 rfl (by decide) rfl ?_
    refine jr_iinc (v := v3 + (2 : Int32)) (lv' := [(3, .int (v3 + (2 : Int32))), (2, .int (1 : Int32)), (6, .int r11), (0, .ref (E.B + a0)), (1, .ref (E.B + a1))]) hG 4 dX2_read_133 rfl rfl (by decide) rfl ?_
    refine jr_sub (lv' := [(0, .ref (E.B + a0)), (1, .ref (E.B + a1)), (2, .int (1 : Int32)), (3, .int (v3 + (2 : Int32)))]) [3, 4, 1, 0] rfl ?_
    exact w_X2_read_136 N hG hr hk hK8 a0 a1 (1 : Int32) (v3 + (2 : Int32)) ha0 ha1 t10
  · refine jr_iload hG 0 dX2_read_128 rfl ?_
    exact jr_iret hG hr hk dX2_read_130
def f_X2_read_86 (N : Nat) (K8 : Nat → Nat → Int32 → Int32 → Mm → Option (Int32 × Mm)) (a0 : Nat) (a1 : Nat) (v3 : Int32) (v4 : Int32) (σ : Mm) : Option (Int32 × Mm) := if (gi σ a0 8) = 0 then (some (v3, σ)) else (if v4 = (97 : Int32) then (bR (gr σ a0 2) (okA 0) (fun o9 => f_X2_read_116 N K8 a0 a1 v3 o9 v3 a1 a0 (σ))) else (bR (gr σ a0 3) (okA 0) (fun o8 => f_X2_read_116 N K8 a0 a1 v3 o8 v3 a1 a0 (σ))))
set_option maxRecDepth 20000 in
theorem w_X2_read_86 {p : Program} {l : Launch} {e : Env} {s : State} {m : MethodId} {args : Array Value} {below : List Frame} {meth : Method} {c : Code} {E : XE} (N : Nat) (hG : GG E NT 7 RX2 cX2_read p s m args c) (hr : meth.sig.returnType = (some .int)) (hk : meth.locks = false) {K8 : Nat → Nat → Int32 → Int32 → Mm → Option (Int32 × Mm)} (hK8 : ∀ (a0 : Nat) (a1 : Nat) (v2 : Int32) (v3 : Int32) (ha0 : okO 2 a0 = true) (ha1 : okO 4 a1 = true) (σ : Mm), JR E NT 7 p l e rm_X2_read s m args below meth c 0 0 (fun r => MQ below (xQi E (NT + 0) r) args s 0 0 (xA E)) 8 [(0, .ref (E.B + a0)), (1, .ref (E.B + a1)), (2, .int v2), (3, .int v3)] [] σ (K8 a0 a1 v2 v3 σ)) (a0 : Nat) (a1 : Nat) (v3 : Int32) (v4 : Int32) (ha0 : okO 2 a0 = true) (ha1 : okO 4 a1 = true) (σ : Mm) : JR E NT 7 p l e rm_X2_read s m args below meth c 0 0 (fun r => MQ below (xQi E (NT + 0) r) args s 0 0 (xA E)) 86 [(0, .ref (E.B + a0)), (1, .ref (E.B + a1)), (3, .int v3), (4, .int v4)] [] σ (f_X2_read_86 N K8 a0 a1 v3 v4 σ) := by
  show JR E NT 7 p l e rm_X2_read s m args below meth c 0 0 (fun r => MQ below (xQi E (NT + 0) r) args s 0 0 (xA E)) 86 [(0, .ref (E.B + a0)), (1, .ref (E.B + a1)), (3, .int v3), (4, .int v4)] [] σ (if (gi σ a0 8) = 0 then (some (v3, σ)) else (if v4 = (97 : Int32) then (bR (gr σ a0 2) (okA 0) (fun o9 => f_X2_read_116 N K8 a0 a1 v3 o9 v3 a1 a0 (σ))) else (bR (gr σ a0 3) (okA 0) (fun o8 => f_X2_read_116 N K8 a0 a1 v3 o8 v3 a1 a0 (σ)))))
  refine jr_aload_n hG 0 dX2_read_86 rfl rfl ?_
  refine jr_getI hG fi_RX2_37 rfl (okO_s ha0) (okO_l ha0) dX2_read_87 ?_
  refine jr_if_ne hG 95 dX2_read_90 (by decide) (fun _ => ?_) (fun _ => ?_)
  · refine jr_aload_n hG 0 dX2_read_95 rfl rfl ?_
    refine jr_aload_n hG 1 dX2_read_96 rfl rfl ?_
    refine jr_iload_n hG 2 dX2_read_97 rfl rfl ?_
    refine jr_iload hG 3 dX2_read_98 rfl ?_
    refine jr_bipush (v := (97 : Int32)) hG dX2_read_100 (by decide) ?_
    refine jr_icmp_ne hG 112 dX2_read_102 (by decide) (fun _ => ?_) (fun _ => ?_)
    · refine jr_aload_n hG 0 dX2_read_112 rfl rfl ?_
      refine jr_getR hG fi_RX2_21 rfl (okO_s ha0) (okO_l ha0) dX2_read_113 (fun o8 ho8 => ?_)
      refine jr_sub (lv' := [(0, .ref (E.B + a0)), (1, .ref (E.B + a1)), (3, .int v3)]) [0, 1, 2] rfl ?_
      exact w_X2_read_116 N hG hr hk hK8 a0 a1 v3 o8 v3 a1 a0 ha0 ha1 ho8 ha1 ha0 (σ)
    · refine jr_aload_n hG 0 dX2_read_105 rfl rfl ?_
      refine jr_getR hG fi_RX2_18 rfl (okO_s ha0) (okO_l ha0) dX2_read_106 (fun o9 ho9 => ?_)
      refine jr_goto hG 116 dX2_read_109 (by decide) ?_
      refine jr_sub (lv' := [(0, .ref (E.B + a0)), (1, .ref (E.B + a1)), (3, .int v3)]) [0, 1, 2] rfl ?_
      exact w_X2_read_116 N hG hr hk hK8 a0 a1 v3 o9 v3 a1 a0 ha0 ha1 ho9 ha1 ha0 (σ)
  · refine jr_iload_n hG 2 dX2_read_93 rfl rfl ?_
    exact jr_iret hG hr hk dX2_read_94
def f_X2_read_8 (N : Nat)  : Nat → Nat → Nat → Int32 → Int32 → Mm → Option (Int32 × Mm)
  | 0 => fun _ _ _ _ _ => none
  | n + 1 => fun a0 a1 v2 v3 σ => if (gi σ a1 1) ≤ v3 then (if (gi σ a0 8) = 0 then (some (gi σ a1 1, σ)) else (bV (f_X2_joinHouses N a0 (σ)) (fun t2 => some ((-9 : Int32), t2)))) else (bR (gr σ a1 0) (okA 1) (fun o3 => if inb v3 (arL o3) then (lt (gi σ o3 (ix v3)) (fun x4 => if x4 = (32 : Int32) then (f_X2_read_136 N (f_X2_read_8 N n) a0 a1 v2 v3 (σ)) else (bI (f_X2_kindOf N x4 (σ)) (fun r6 t5 => if r6 = (-9 : Int32) then (if x4 = (97 : Int32) then (f_X2_read_86 N (f_X2_read_8 N n) a0 a1 v3 x4 t5) else (if x4 = (103 : Int32) then (f_X2_read_86 N (f_X2_read_8 N n) a0 a1 v3 x4 t5) else (some (v3, t5)))) else (if v2 = 0 then (if (gi t5 a0 8) < (6 : Int32) then (bV (f_X2_addPerson N a0 r6 t5) (fun t7 => f_X2_read_136 N (f_X2_read_8 N n) a0 a1 v2 v3 t7)) else (some (v3, t5))) else (some (v3, t5))))))) else none))
set_option maxRecDepth 20000 in
theorem w_X2_read_8 {p : Program} {l : Launch} {e : Env} {s : State} {m : MethodId} {args : Array Value} {below : List Frame} {meth : Method} {c : Code} {E : XE} (N : Nat) (hG : GG E NT 7 RX2 cX2_read p s m args c) (hr : meth.sig.returnType = (some .int)) (hk : meth.locks = false)  : ∀ (n : Nat) (a0 : Nat) (a1 : Nat) (v2 : Int32) (v3 : Int32) (ha0 : okO 2 a0 = true) (ha1 : okO 4 a1 = true) (σ : Mm), JR E NT 7 p l e rm_X2_read s m args below meth c 0 0 (fun r => MQ below (xQi E (NT + 0) r) args s 0 0 (xA E)) 8 [(0, .ref (E.B + a0)), (1, .ref (E.B + a1)), (2, .int v2), (3, .int v3)] [] σ (f_X2_read_8 N n a0 a1 v2 v3 σ) := by
  intro n
  induction n with
  | zero => intro a0 a1 v2 v3 ha0 ha1 σ r hX; cases hX
  | succ n ih =>
    intro a0 a1 v2 v3 ha0 ha1 σ
    show JR E NT 7 p l e rm_X2_read s m args below meth c 0 0 (fun r => MQ below (xQi E (NT + 0) r) args s 0 0 (xA E)) 8 [(0, .ref (E.B + a0)), (1, .ref (E.B + a1)), (2, .int v2), (3, .int v3)] [] σ (if (gi σ a1 1) ≤ v3 then (if (gi σ a0 8) = 0 then (some (gi σ a1 1, σ)) else (bV (f_X2_joinHouses N a0 (σ)) (fun t2 => some ((-9 : Int32), t2)))) else (bR (gr σ a1 0) (okA 1) (fun o3 => if inb v3 (arL o3) then (lt (gi σ o3 (ix v3)) (fun x4 => if x4 = (32 : Int32) then (f_X2_read_136 N (f_X2_read_8 N n) a0 a1 v2 v3 (σ)) else (bI (f_X2_kindOf N x4 (σ)) (fun r6 t5 => if r6 = (-9 : Int32) then (if x4 = (97 : Int32) then (f_X2_read_86 N (f_X2_read_8 N n) a0 a1 v3 x4 t5) else (if x4 = (103 : Int32) then (f_X2_read_86 N (f_X2_read_8 N n) a0 a1 v3 x4 t5) else (some (v3, t5)))) else (if v2 = 0 then (if (gi t5 a0 8) < (6 : Int32) then (bV (f_X2_addPerson N a0 r6 t5) (fun t7 => f_X2_read_136 N (f_X2_read_8 N n) a0 a1 v2 v3 t7)) else (some (v3, t5))) else (some (v3, t5))))))) else none)))
    refine jr_iload_n hG 3 dX2_read_8 rfl rfl ?_
    refine jr_aload_n hG 1 dX2_read_9 rfl rfl ?_
    refine jr_getI hG fi_RX2_43 rfl (okO_s ha1) (okO_l ha1) dX2_read_10 ?_
    refine jr_icmp_ge hG 142 dX2_read_13 (by decide) (fun _ => ?_) (fun _ => ?_)
    · refine jr_aload_n hG 0 dX2_read_142 rfl rfl ?_
      refine jr_getI hG fi_RX2_37 rfl (okO_s ha0) (okO_l ha0) dX2_read_143 ?_
      refine jr_if_ne hG 154 dX2_read_146 (by decide) (fun _ => ?_) (fun _ => ?_)
      · refine jr_aload_n hG 0 dX2_read_154 rfl rfl ?_
        refine jr_callVv (As := []) hG (c_X2_joinHouses l E N a0 (σ)) ci_X2_joinHouses wd_368 ⟨wd_370, wd_4⟩ cl_2 (okO_s ha0) (okO_l ha0) ⟨rfl, rfl, Nat.le_of_ble_eq_true rfl, Nat.le_of_ble_eq_true rfl⟩ rfl rfl (Nat.le_of_ble_eq_true rfl) dX2_read_155 ⟨Nat.le_refl _, Nat.le_refl _⟩ (fun t2 => ?_)
        refine jr_bipush (v := (-9 : Int32)) hG dX2_read_158 (by decide) ?_
        exact jr_iret hG hr hk dX2_read_160
      · refine jr_aload_n hG 1 dX2_read_149 rfl rfl ?_
        refine jr_getI hG fi_RX2_43 rfl (okO_s ha1) (okO_l ha1) dX2_read_150 ?_
        exact jr_iret hG hr hk dX2_read_153
    · refine jr_aload_n hG 1 dX2_read_16 rfl rfl ?_
      refine jr_getR hG fi_RX2_48 rfl (okO_s ha1) (okO_l ha1) dX2_read_17 (fun o3 ho3 => ?_)
      refine jr_iload_n hG 3 dX2_read_20 rfl rfl ?_
      refine jr_bald hG (okA_s (by decide) ho3) (okA_l ho3) dX2_read_21 ?_
      refine jr_leti (fun x4 _ => ?_)
      refine jr_istore (lv' := [(4, .int x4), (0, .ref (E.B + a0)), (1, .ref (E.B + a1)), (2, .int v2), (3, .int v3)]) hG dX2_read_22 (by decide) rfl ?_
      refine jr_iload hG 0 dX2_read_24 rfl ?_
      refine jr_bipush (v := (32 : Int32)) hG dX2_read_26 (by decide) ?_
      refine jr_icmp_ne hG 34 dX2_read_28 (by decide) (fun _ => ?_) (fun _ => ?_)
      · refine jr_iload hG 0 dX2_read_34 rfl ?_
        refine jr_callSi (As := [.int x4]) hG (c_X2_kindOf l E N x4 (σ)) ci_X2_kindOf wd_346 wd_347 ⟨rfl, rfl, Nat.le_of_ble_eq_true rfl, Nat.le_of_ble_eq_true rfl⟩ rfl rfl (Nat.le_of_ble_eq_true rfl) dX2_read_36 ⟨Nat.le_refl _, Nat.le_refl _⟩ (fun r6 t5 => ?_)
        refine jr_istore (lv' := [(5, .int r6), (4, .int x4), (0, .ref (E.B + a0)), (1, .ref (E.B + a1)), (2, .int v2), (3, .int v3)]) hG dX2_read_39 (by decide) rfl ?_
        refine jr_iload hG 0 dX2_read_41 rfl ?_
        refine jr_bipush (v := (-9 : Int32)) hG dX2_read_43 (by decide) ?_
        refine jr_icmp_eq hG 72 dX2_read_45 (by decide) (fun _ => ?_) (fun _ => ?_)
        · refine jr_iload hG 1 dX2_read_72 rfl ?_
          refine jr_bipush (v := (97 : Int32)) hG dX2_read_74 (by decide) ?_
          refine jr_icmp_eq hG 86 dX2_read_76 (by decide) (fun _ => ?_) (fun _ => ?_)
          · refine jr_sub (lv' := [(0, .ref (E.B + a0)), (1, .ref (E.B + a1)), (3, .int v3), (4, .int x4)]) [2, 3, 5, 1] rfl ?_
            exact w_X2_read_86 N hG hr hk ih a0 a1 v3 x4 ha0 ha1 t5
          · refine jr_iload hG 1 dX2_read_79 rfl ?_
            refine jr_bipush (v := (103 : Int32)) hG dX2_read_81 (by decide) ?_
            refine jr_icmp_ne hG 93 dX2_read_83 (by decide) (fun _ => ?_) (fun _ => ?_)
            · refine jr_iload_n hG 5 dX2_read_93 rfl rfl ?_
              exact jr_iret hG hr hk dX2_read_94
            · refine jr_sub (lv' := [(0, .ref (E.B + a0)), (1, .ref (E.B + a1)), (3, .int v3), (4, .int x4)]) [2, 3, 5, 1] rfl ?_
              exact w_X2_read_86 N hG hr hk ih a0 a1 v3 x4 ha0 ha1 t5
        · refine jr_iload_n hG 4 dX2_read_48 rfl rfl ?_
          refine jr_if_ne hG 61 dX2_read_49 (by decide) (fun _ => ?_) (fun _ => ?_)
          · refine jr_iload_n hG 5 dX2_read_61 rfl rfl ?_
            exact jr_iret hG hr hk dX2_read_62
          · refine jr_aload_n hG 2 dX2_read_52 rfl rfl ?_
            refine jr_getI hG fi_RX2_37 rfl (okO_s ha0) (okO_l ha0) dX2_read_53 ?_
            refine jr_bipush (v := (6 : Int32)) hG dX2_read_56 (by decide) ?_
            refine jr_icmp_lt hG 63 dX2_read_58 (by decide) (fun _ => ?_) (fun _ => ?_)
            · refine jr_aload_n hG 2 dX2_read_63 rfl rfl ?_
              refine jr_iload hG 0 dX2_read_64 rfl ?_
              refine jr_callVv (As := [.int r6]) hG (c_X2_addPerson l E N a0 r6 t5) ci_X2_addPerson wd_351 ⟨wd_353, wd_2⟩ cl_2 (okO_s ha0) (okO_l ha0) ⟨rfl, rfl, Nat.le_of_ble_eq_true rfl, Nat.le_of_ble_eq_true rfl⟩ rfl rfl (Nat.le_of_ble_eq_true rfl) dX2_read_66 ⟨Nat.le_refl _, Nat.le_refl _⟩ (fun t7 => ?_)
              refine jr_goto hG 136 dX2_read_69 (by decide) ?_
              refine jr_sub (lv' := [(0, .ref (E.B + a0)), (1, .ref (E.B + a1)), (2, .int v2), (3, .int v3)]) [2, 3, 4, 5] rfl ?_
              exact w_X2_read_136 N hG hr hk ih a0 a1 v2 v3 ha0 ha1 t7
            · refine jr_iload_n hG 5 dX2_read_61 rfl rfl ?_
              exact jr_iret hG hr hk dX2_read_62
      · refine jr_goto hG 136 dX2_read_31 (by decide) ?_
        refine jr_sub (lv' := [(0, .ref (E.B + a0)), (1, .ref (E.B + a1)), (2, .int v2), (3, .int v3)]) [1, 2, 3, 4] rfl ?_
        exact w_X2_read_136 N hG hr hk ih a0 a1 v2 v3 ha0 ha1 (σ)
def f_X2_read (N : Nat) (a0 : Nat) (a1 : Nat) (σ : Mm) : Option (Int32 × Mm) := if okO 2 a0 then (if okO 4 a1 then (bV (f_X2_begin N a0 (σ)) (fun t1 => f_X2_read_8 N N a0 a1 (0 : Int32) (0 : Int32) t1)) else none) else none
set_option maxRecDepth 20000 in
theorem c_X2_read (l : Launch) (E : XE) (N : Nat) (a0 : Nat) (a1 : Nat) (σ : Mm) : ∀ r0, f_X2_read N a0 a1 σ = some r0 → Met l yX2_read [Cond.code yX2_read cX2_read 7 (some .int)] rm_X2_read (xPc E (NT + 0) σ [.ref (E.B + a0), .ref (E.B + a1)]) (xQi E (NT + 0) r0) 0 0 (xA E) := by
  refine met_of (N0 := NT) (by decide +kernel) (Nat.le_of_ble_eq_true rfl) ?_
  intro p e s m args below meth c hG hr hk _
  show JR E NT 7 p l e rm_X2_read s m args below meth c 0 0 (fun r => MQ below (xQi E (NT + 0) r) args s 0 0 (xA E)) 0 [(0, .ref (E.B + a0)), (1, .ref (E.B + a1))] [] σ (if okO 2 a0 then (if okO 4 a1 then (bV (f_X2_begin N a0 (σ)) (fun t1 => f_X2_read_8 N N a0 a1 (0 : Int32) (0 : Int32) t1)) else none) else none)
  refine jr_guard (fun ha0 => ?_)
  refine jr_guard (fun ha1 => ?_)
  refine jr_aload_n hG 0 dX2_read_0 rfl rfl ?_
  refine jr_callVv (As := []) hG (c_X2_begin l E N a0 (σ)) ci_X2_begin wd_342 ⟨wd_344, wd_1⟩ cl_2 (okO_s ha0) (okO_l ha0) ⟨rfl, rfl, Nat.le_of_ble_eq_true rfl, Nat.le_of_ble_eq_true rfl⟩ rfl rfl (Nat.le_of_ble_eq_true rfl) dX2_read_1 ⟨Nat.le_refl _, Nat.le_refl _⟩ (fun t1 => ?_)
  refine jr_iconst (v := (0 : Int32)) hG dX2_read_4 (by decide) ?_
  refine jr_istore_n (lv' := [(2, .int (0 : Int32)), (0, .ref (E.B + a0)), (1, .ref (E.B + a1))]) hG dX2_read_5 rfl (by decide) rfl ?_
  refine jr_iconst (v := (0 : Int32)) hG dX2_read_6 (by decide) ?_
  refine jr_istore_n (lv' := [(3, .int (0 : Int32)), (2, .int (0 : Int32)), (0, .ref (E.B + a0)), (1, .ref (E.B + a1))]) hG dX2_read_7 rfl (by decide) rfl ?_
  refine jr_sub (lv' := [(0, .ref (E.B + a0)), (1, .ref (E.B + a1)), (2, .int (0 : Int32)), (3, .int (0 : Int32))]) [2, 3, 1, 0] rfl ?_
  exact w_X2_read_8 N hG hr hk N a0 a1 (0 : Int32) (0 : Int32) ha0 ha1 t1
-- TonguesDealt$Plan.everybody()I
abbrev rm_X2_everybody : Room := { frames := 0, cells := 0, slots := 0, locals := 0 }
theorem ci_X2_everybody : CIx yX2_everybody cX2_everybody 1 (some .int) 0 := ⟨wd_536, wd_74, by decide +kernel⟩
def f_X2_everybody (N : Nat) (a0 : Nat) (σ : Mm) : Option (Int32 × Mm) := if okO 2 a0 then (some (((1 : Int32) <<< ((gi σ a0 8) &&& 31)) - (1 : Int32), σ)) else none
set_option maxRecDepth 20000 in
theorem c_X2_everybody (l : Launch) (E : XE) (N : Nat) (a0 : Nat) (σ : Mm) : ∀ r0, f_X2_everybody N a0 σ = some r0 → Met l yX2_everybody [Cond.code yX2_everybody cX2_everybody 1 (some .int)] rm_X2_everybody (xPc E (NT + 0) σ [.ref (E.B + a0)]) (xQi E (NT + 0) r0) 0 0 (xA E) := by
  refine met_of (N0 := NT) (by decide +kernel) (Nat.le_of_ble_eq_true rfl) ?_
  intro p e s m args below meth c hG hr hk _
  show JR E NT 1 p l e rm_X2_everybody s m args below meth c 0 0 (fun r => MQ below (xQi E (NT + 0) r) args s 0 0 (xA E)) 0 [(0, .ref (E.B + a0))] [] σ (if okO 2 a0 then (some (((1 : Int32) <<< ((gi σ a0 8) &&& 31)) - (1 : Int32), σ)) else none)
  refine jr_guard (fun ha0 => ?_)
  refine jr_iconst (v := (1 : Int32)) hG dX2_everybody_0 (by decide) ?_
  refine jr_aload_n hG 0 dX2_everybody_1 rfl rfl ?_
  refine jr_getI hG fi_RX2_37 rfl (okO_s ha0) (okO_l ha0) dX2_everybody_2 ?_
  refine jr_ishl hG dX2_everybody_5 ?_
  refine jr_iconst (v := (1 : Int32)) hG dX2_everybody_6 (by decide) ?_
  refine jr_isub hG dX2_everybody_7 ?_
  exact jr_iret hG hr hk dX2_everybody_8
-- TonguesDealt$Plan.isSet(I)Z
abbrev rm_X2_isSet : Room := { frames := 1, cells := 0, slots := 0, locals := 20 }
theorem ci_X2_isSet : CIx yX2_isSet cX2_isSet 2 (some .boolean) 1 := ⟨wd_652, wd_74, by decide +kernel⟩
def f_X2_isSet (N : Nat) (a0 : Nat) (v1 : Int32) (σ : Mm) : Option (Int32 × Mm) := if okO 2 a0 then (if v1 < 0 then (some ((0 : Int32), σ)) else (bI (f_X2_everybody N a0 (σ)) (fun r2 t1 => if r2 < v1 then (some ((0 : Int32), t1)) else (some ((1 : Int32), t1))))) else none
set_option maxRecDepth 20000 in
theorem c_X2_isSet (l : Launch) (E : XE) (N : Nat) (a0 : Nat) (v1 : Int32) (σ : Mm) : ∀ r0, f_X2_isSet N a0 v1 σ = some r0 → Met l yX2_isSet [Cond.code yX2_isSet cX2_isSet 2 (some .boolean)] rm_X2_isSet (xPc E (NT + 0) σ [.ref (E.B + a0), .int v1]) (xQi E (NT + 0) r0) 0 0 (xA E) := by
  refine met_of (N0 := NT) (by decide +kernel) (Nat.le_of_ble_eq_true rfl) ?_
  intro p e s m args below meth c hG hr hk _
  show JR E NT 2 p l e rm_X2_isSet s m args below meth c 0 0 (fun r => MQ below (xQi E (NT + 0) r) args s 0 0 (xA E)) 0 [(0, .ref (E.B + a0)), (1, .int v1)] [] σ (if okO 2 a0 then (if v1 < 0 then (some ((0 : Int32), σ)) else (bI (f_X2_everybody N a0 (σ)) (fun r2 t1 => if r2 < v1 then (some ((0 : Int32), t1)) else (some ((1 : Int32), t1))))) else none)
  refine jr_guard (fun ha0 => ?_)
  refine jr_iload_n hG 1 dX2_isSet_0 rfl rfl ?_
  refine jr_if_lt hG 16 dX2_isSet_1 (by decide) (fun _ => ?_) (fun _ => ?_)
  · refine jr_iconst (v := (0 : Int32)) hG dX2_isSet_16 (by decide) ?_
    exact jr_zret hG hr hk (by decide) dX2_isSet_17
  · refine jr_iload_n hG 1 dX2_isSet_4 rfl rfl ?_
    refine jr_aload_n hG 0 dX2_isSet_5 rfl rfl ?_
    refine jr_callVi (As := []) hG (c_X2_everybody l E N a0 (σ)) ci_X2_everybody wd_653 ⟨wd_534, wd_535⟩ cl_2 (okO_s ha0) (okO_l ha0) ⟨rfl, rfl, Nat.le_of_ble_eq_true rfl, Nat.le_of_ble_eq_true rfl⟩ rfl rfl (Nat.le_of_ble_eq_true rfl) dX2_isSet_6 ⟨Nat.le_refl _, Nat.le_refl _⟩ (fun r2 t1 => ?_)
    refine jr_icmp_gt hG 16 dX2_isSet_9 (by decide) (fun _ => ?_) (fun _ => ?_)
    · refine jr_iconst (v := (0 : Int32)) hG dX2_isSet_16 (by decide) ?_
      exact jr_zret hG hr hk (by decide) dX2_isSet_17
    · refine jr_iconst (v := (1 : Int32)) hG dX2_isSet_12 (by decide) ?_
      refine jr_goto hG 17 dX2_isSet_13 (by decide) ?_
      exact jr_zret hG hr hk (by decide) dX2_isSet_17
-- TonguesDealt$Plan.agrees([II)Z
abbrev rm_X2_agrees : Room := { frames := 0, cells := 0, slots := 0, locals := 0 }
theorem ci_X2_agrees : CIx yX2_agrees cX2_agrees 4 (some .boolean) 2 := ⟨wd_462, wd_74, by decide +kernel⟩
def f_X2_agrees_2 (N : Nat)  : Nat → Nat → Nat → Int32 → Int32 → Mm → Option (Int32 × Mm)
  | 0 => fun _ _ _ _ _ => none
  | n + 1 => fun a0 a1 v2 v3 σ => if (gi σ a0 8) ≤ v3 then (some ((1 : Int32), σ)) else (if inb (v2 + v3) (arL a1) then (bR (gr σ a0 5) (okA 0) (fun o1 => if inb v3 (arL o1) then (if inb (v2 + (gi σ o1 (ix v3))) (arL a1) then (if (gi σ a1 (ix (v2 + v3))) = (gi σ a1 (ix (v2 + (gi σ o1 (ix v3))))) then (f_X2_agrees_2 N n a0 a1 v2 (v3 + (1 : Int32)) (σ)) else (some ((0 : Int32), σ))) else none) else none)) else none)
set_option maxRecDepth 20000 in
theorem w_X2_agrees_2 {p : Program} {l : Launch} {e : Env} {s : State} {m : MethodId} {args : Array Value} {below : List Frame} {meth : Method} {c : Code} {E : XE} (N : Nat) (hG : GG E NT 4 RX2 cX2_agrees p s m args c) (hr : meth.sig.returnType = (some .boolean)) (hk : meth.locks = false)  : ∀ (n : Nat) (a0 : Nat) (a1 : Nat) (v2 : Int32) (v3 : Int32) (ha0 : okO 2 a0 = true) (ha1 : okA 0 a1 = true) (σ : Mm), JR E NT 4 p l e rm_X2_agrees s m args below meth c 0 0 (fun r => MQ below (xQi E (NT + 0) r) args s 0 0 (xA E)) 2 [(0, .ref (E.B + a0)), (1, .ref (E.B + a1)), (2, .int v2), (3, .int v3)] [] σ (f_X2_agrees_2 N n a0 a1 v2 v3 σ) := by
  intro n
  induction n with
  | zero => intro a0 a1 v2 v3 ha0 ha1 σ r hX; cases hX
  | succ n ih =>
    intro a0 a1 v2 v3 ha0 ha1 σ
    show JR E NT 4 p l e rm_X2_agrees s m args below meth c 0 0 (fun r => MQ below (xQi E (NT + 0) r) args s 0 0 (xA E)) 2 [(0, .ref (E.B + a0)), (1, .ref (E.B + a1)), (2, .int v2), (3, .int v3)] [] σ (if (gi σ a0 8) ≤ v3 then (some ((1 : Int32), σ)) else (if inb (v2 + v3) (arL a1) then (bR (gr σ a0 5) (okA 0) (fun o1 => if inb v3 (arL o1) then (if inb (v2 + (gi σ o1 (ix v3))) (arL a1) then (if (gi σ a1 (ix (v2 + v3))) = (gi σ a1 (ix (v2 + (gi σ o1 (ix v3))))) then (f_X2_agrees_2 N n a0 a1 v2 (v3 + (1 : Int32)) (σ)) else (some ((0 : Int32), σ))) else none) else none)) else none))
    refine jr_iload_n hG 3 dX2_agrees_2 rfl rfl ?_
    refine jr_aload_n hG 0 dX2_agrees_3 rfl rfl ?_
    refine jr_getI hG fi_RX2_37 rfl (okO_s ha0) (okO_l ha0) dX2_agrees_4 ?_
    refine jr_icmp_ge hG 36 dX2_agrees_7 (by decide) (fun _ => ?_) (fun _ => ?_)
    · refine jr_iconst (v := (1 : Int32)) hG dX2_agrees_36 (by decide) ?_
      exact jr_zret hG hr hk (by decide) dX2_agrees_37
    · refine jr_aload_n hG 1 dX2_agrees_10 rfl rfl ?_
      refine jr_iload_n hG 2 dX2_agrees_11 rfl rfl ?_
      refine jr_iload_n hG 3 dX2_agrees_12 rfl rfl ?_
      refine jr_iadd hG dX2_agrees_13 ?_
      refine jr_iald hG (okA_s (by decide) ha1) (okA_l ha1) dX2_agrees_14 ?_
      refine jr_aload_n hG 1 dX2_agrees_15 rfl rfl ?_
      refine jr_iload_n hG 2 dX2_agrees_16 rfl rfl ?_
      refine jr_aload_n hG 0 dX2_agrees_17 rfl rfl ?_
      refine jr_getR hG fi_RX2_27 rfl (okO_s ha0) (okO_l ha0) dX2_agrees_18 (fun o1 ho1 => ?_)
      refine jr_iload_n hG 3 dX2_agrees_21 rfl rfl ?_
      refine jr_iald hG (okA_s (by decide) ho1) (okA_l ho1) dX2_agrees_22 ?_
      refine jr_iadd hG dX2_agrees_23 ?_
      refine jr_iald hG (okA_s (by decide) ha1) (okA_l ha1) dX2_agrees_24 ?_
      refine jr_icmp_eq hG 30 dX2_agrees_25 (by decide) (fun _ => ?_) (fun _ => ?_)
      · refine jr_iinc (v := v3 + (1 : Int32)) (lv' := [(3, .int (v3 + (1 : Int32))), (0, .ref (E.B + a0)), (1, .ref (E.B + a1)), (2, .int v2)]) hG 3 dX2_agrees_30 rfl rfl (by decide) rfl ?_
        refine jr_goto hG 2 dX2_agrees_33 (by decide) ?_
        refine jr_sub (lv' := [(0, .ref (E.B + a0)), (1, .ref (E.B + a1)), (2, .int v2), (3, .int (v3 + (1 : Int32)))]) [1, 2, 3, 0] rfl ?_
        exact ih a0 a1 v2 (v3 + (1 : Int32)) ha0 ha1 (σ)
      · refine jr_iconst (v := (0 : Int32)) hG dX2_agrees_28 (by decide) ?_
        exact jr_zret hG hr hk (by decide) dX2_agrees_29
def f_X2_agrees (N : Nat) (a0 : Nat) (a1 : Nat) (v2 : Int32) (σ : Mm) : Option (Int32 × Mm) := if okO 2 a0 then (if okA 0 a1 then (f_X2_agrees_2 N N a0 a1 v2 (0 : Int32) (σ)) else none) else none
set_option maxRecDepth 20000 in
theorem c_X2_agrees (l : Launch) (E : XE) (N : Nat) (a0 : Nat) (a1 : Nat) (v2 : Int32) (σ : Mm) : ∀ r0, f_X2_agrees N a0 a1 v2 σ = some r0 → Met l yX2_agrees [Cond.code yX2_agrees cX2_agrees 4 (some .boolean)] rm_X2_agrees (xPc E (NT + 0) σ [.ref (E.B + a0), .ref (E.B + a1), .int v2]) (xQi E (NT + 0) r0) 0 0 (xA E) := by
  refine met_of (N0 := NT) (by decide +kernel) (Nat.le_of_ble_eq_true rfl) ?_
  intro p e s m args below meth c hG hr hk _
  show JR E NT 4 p l e rm_X2_agrees s m args below meth c 0 0 (fun r => MQ below (xQi E (NT + 0) r) args s 0 0 (xA E)) 0 [(0, .ref (E.B + a0)), (1, .ref (E.B + a1)), (2, .int v2)] [] σ (if okO 2 a0 then (if okA 0 a1 then (f_X2_agrees_2 N N a0 a1 v2 (0 : Int32) (σ)) else none) else none)
  refine jr_guard (fun ha0 => ?_)
  refine jr_guard (fun ha1 => ?_)
  refine jr_iconst (v := (0 : Int32)) hG dX2_agrees_0 (by decide) ?_
  refine jr_istore_n (lv' := [(3, .int (0 : Int32)), (0, .ref (E.B + a0)), (1, .ref (E.B + a1)), (2, .int v2)]) hG dX2_agrees_1 rfl (by decide) rfl ?_
  refine jr_sub (lv' := [(0, .ref (E.B + a0)), (1, .ref (E.B + a1)), (2, .int v2), (3, .int (0 : Int32))]) [1, 2, 3, 0] rfl ?_
  exact w_X2_agrees_2 N hG hr hk N a0 a1 v2 (0 : Int32) ha0 ha1 (σ)
-- TonguesDealt$Plan.dealNumber([I)I
abbrev rm_X2_dealNumber : Room := { frames := 0, cells := 0, slots := 0, locals := 0 }
theorem ci_X2_dealNumber : CIx yX2_dealNumber cX2_dealNumber 4 (some .int) 1 := ⟨wd_466, wd_74, by decide +kernel⟩
def f_X2_dealNumber_4 (N : Nat)  : Nat → Nat → Nat → Int32 → Int32 → Mm → Option (Int32 × Mm)
  | 0 => fun _ _ _ _ _ => none
  | n + 1 => fun a0 a1 v2 v3 σ => if (gi σ a0 8) ≤ v3 then (some (v2, σ)) else (if inb v3 (arL a1) then (bR (gr σ a0 6) (okA 0) (fun o1 => if inb v3 (arL o1) then (lt (v2 ||| ((gi σ a1 (ix v3)) <<< (((2 : Int32) * (gi σ o1 (ix v3))) &&& 31))) (fun x2 => f_X2_dealNumber_4 N n a0 a1 x2 (v3 + (1 : Int32)) (σ))) else none)) else none)
set_option maxRecDepth 20000 in
theorem w_X2_dealNumber_4 {p : Program} {l : Launch} {e : Env} {s : State} {m : MethodId} {args : Array Value} {below : List Frame} {meth : Method} {c : Code} {E : XE} (N : Nat) (hG : GG E NT 4 RX2 cX2_dealNumber p s m args c) (hr : meth.sig.returnType = (some .int)) (hk : meth.locks = false)  : ∀ (n : Nat) (a0 : Nat) (a1 : Nat) (v2 : Int32) (v3 : Int32) (ha0 : okO 2 a0 = true) (ha1 : okA 0 a1 = true) (σ : Mm), JR E NT 4 p l e rm_X2_dealNumber s m args below meth c 0 0 (fun r => MQ below (xQi E (NT + 0) r) args s 0 0 (xA E)) 4 [(0, .ref (E.B + a0)), (1, .ref (E.B + a1)), (2, .int v2), (3, .int v3)] [] σ (f_X2_dealNumber_4 N n a0 a1 v2 v3 σ) := by
  intro n
  induction n with
  | zero => intro a0 a1 v2 v3 ha0 ha1 σ r hX; cases hX
  | succ n ih =>
    intro a0 a1 v2 v3 ha0 ha1 σ
    show JR E NT 4 p l e rm_X2_dealNumber s m args below meth c 0 0 (fun r => MQ below (xQi E (NT + 0) r) args s 0 0 (xA E)) 4 [(0, .ref (E.B + a0)), (1, .ref (E.B + a1)), (2, .int v2), (3, .int v3)] [] σ (if (gi σ a0 8) ≤ v3 then (some (v2, σ)) else (if inb v3 (arL a1) then (bR (gr σ a0 6) (okA 0) (fun o1 => if inb v3 (arL o1) then (lt (v2 ||| ((gi σ a1 (ix v3)) <<< (((2 : Int32) * (gi σ o1 (ix v3))) &&& 31))) (fun x2 => f_X2_dealNumber_4 N n a0 a1 x2 (v3 + (1 : Int32)) (σ))) else none)) else none))
    refine jr_iload_n hG 3 dX2_dealNumber_4 rfl rfl ?_
    refine jr_aload_n hG 0 dX2_dealNumber_5 rfl rfl ?_
    refine jr_getI hG fi_RX2_37 rfl (okO_s ha0) (okO_l ha0) dX2_dealNumber_6 ?_
    refine jr_icmp_ge hG 33 dX2_dealNumber_9 (by decide) (fun _ => ?_) (fun _ => ?_)
    · refine jr_iload_n hG 2 dX2_dealNumber_33 rfl rfl ?_
      exact jr_iret hG hr hk dX2_dealNumber_34
    · refine jr_iload_n hG 2 dX2_dealNumber_12 rfl rfl ?_
      refine jr_aload_n hG 1 dX2_dealNumber_13 rfl rfl ?_
      refine jr_iload_n hG 3 dX2_dealNumber_14 rfl rfl ?_
      refine jr_iald hG (okA_s (by decide) ha1) (okA_l ha1) dX2_dealNumber_15 ?_
      refine jr_iconst (v := (2 : Int32)) hG dX2_dealNumber_16 (by decide) ?_
      refine jr_aload_n hG 0 dX2_dealNumber_17 rfl rfl ?_
      refine jr_getR hG fi_RX2_30 rfl (okO_s ha0) (okO_l ha0) dX2_dealNumber_18 (fun o1 ho1 => ?_)
      refine jr_iload_n hG 3 dX2_dealNumber_21 rfl rfl ?_
      refine jr_iald hG (okA_s (by decide) ho1) (okA_l ho1) dX2_dealNumber_22 ?_
      refine jr_imul hG dX2_dealNumber_23 ?_
      refine jr_ishl hG dX2_dealNumber_24 ?_
      refine jr_ior hG dX2_dealNumber_25 ?_
      refine jr_leti (fun x2 _ => ?_)
      refine jr_istore_n (lv' := [(2, .int x2), (0, .ref (E.B + a0)), (1, .ref (E.B + a1)), (3, .int v3)]) hG dX2_dealNumber_26 rfl (by decide) rfl ?_
      refine jr_iinc (v := v3 + (1 : Int32)) (lv' := [(3, .int (v3 + (1 : Int32))), (2, .int x2), (0, .ref (E.B + a0)), (1, .ref (E.B + a1))]) hG 3 dX2_dealNumber_27 rfl rfl (by decide) rfl ?_
      refine jr_goto hG 4 dX2_dealNumber_30 (by decide) ?_
      refine jr_sub (lv' := [(0, .ref (E.B + a0)), (1, .ref (E.B + a1)), (2, .int x2), (3, .int (v3 + (1 : Int32)))]) [2, 3, 1, 0] rfl ?_
      exact ih a0 a1 x2 (v3 + (1 : Int32)) ha0 ha1 (σ)
def f_X2_dealNumber (N : Nat) (a0 : Nat) (a1 : Nat) (σ : Mm) : Option (Int32 × Mm) := if okO 2 a0 then (if okA 0 a1 then (f_X2_dealNumber_4 N N a0 a1 (0 : Int32) (0 : Int32) (σ)) else none) else none
set_option maxRecDepth 20000 in
theorem c_X2_dealNumber (l : Launch) (E : XE) (N : Nat) (a0 : Nat) (a1 : Nat) (σ : Mm) : ∀ r0, f_X2_dealNumber N a0 a1 σ = some r0 → Met l yX2_dealNumber [Cond.code yX2_dealNumber cX2_dealNumber 4 (some .int)] rm_X2_dealNumber (xPc E (NT + 0) σ [.ref (E.B + a0), .ref (E.B + a1)]) (xQi E (NT + 0) r0) 0 0 (xA E) := by
  refine met_of (N0 := NT) (by decide +kernel) (Nat.le_of_ble_eq_true rfl) ?_
  intro p e s m args below meth c hG hr hk _
  show JR E NT 4 p l e rm_X2_dealNumber s m args below meth c 0 0 (fun r => MQ below (xQi E (NT + 0) r) args s 0 0 (xA E)) 0 [(0, .ref (E.B + a0)), (1, .ref (E.B + a1))] [] σ (if okO 2 a0 then (if okA 0 a1 then (f_X2_dealNumber_4 N N a0 a1 (0 : Int32) (0 : Int32) (σ)) else none) else none)
  refine jr_guard (fun ha0 => ?_)
  refine jr_guard (fun ha1 => ?_)
  refine jr_iconst (v := (0 : Int32)) hG dX2_dealNumber_0 (by decide) ?_
  refine jr_istore_n (lv' := [(2, .int (0 : Int32)), (0, .ref (E.B + a0)), (1, .ref (E.B + a1))]) hG dX2_dealNumber_1 rfl (by decide) rfl ?_
  refine jr_iconst (v := (0 : Int32)) hG dX2_dealNumber_2 (by decide) ?_
  refine jr_istore_n (lv' := [(3, .int (0 : Int32)), (2, .int (0 : Int32)), (0, .ref (E.B + a0)), (1, .ref (E.B + a1))]) hG dX2_dealNumber_3 rfl (by decide) rfl ?_
  refine jr_sub (lv' := [(0, .ref (E.B + a0)), (1, .ref (E.B + a1)), (2, .int (0 : Int32)), (3, .int (0 : Int32))]) [2, 3, 1, 0] rfl ?_
  exact w_X2_dealNumber_4 N hG hr hk N a0 a1 (0 : Int32) (0 : Int32) ha0 ha1 (σ)
-- TonguesDealt$Plan.deals()I
abbrev rm_X2_deals : Room := { frames := 0, cells := 0, slots := 0, locals := 0 }
theorem ci_X2_deals : CIx yX2_deals cX2_deals 1 (some .int) 0 := ⟨wd_577, wd_74, by decide +kernel⟩
def f_X2_deals (N : Nat) (a0 : Nat) (σ : Mm) : Option (Int32 × Mm) := if okO 2 a0 then (some ((1 : Int32) <<< (((2 : Int32) * (gi σ a0 7)) &&& 31), σ)) else none
set_option maxRecDepth 20000 in
theorem c_X2_deals (l : Launch) (E : XE) (N : Nat) (a0 : Nat) (σ : Mm) : ∀ r0, f_X2_deals N a0 σ = some r0 → Met l yX2_deals [Cond.code yX2_deals cX2_deals 1 (some .int)] rm_X2_deals (xPc E (NT + 0) σ [.ref (E.B + a0)]) (xQi E (NT + 0) r0) 0 0 (xA E) := by
  refine met_of (N0 := NT) (by decide +kernel) (Nat.le_of_ble_eq_true rfl) ?_
  intro p e s m args below meth c hG hr hk _
  show JR E NT 1 p l e rm_X2_deals s m args below meth c 0 0 (fun r => MQ below (xQi E (NT + 0) r) args s 0 0 (xA E)) 0 [(0, .ref (E.B + a0))] [] σ (if okO 2 a0 then (some ((1 : Int32) <<< (((2 : Int32) * (gi σ a0 7)) &&& 31), σ)) else none)
  refine jr_guard (fun ha0 => ?_)
  refine jr_iconst (v := (1 : Int32)) hG dX2_deals_0 (by decide) ?_
  refine jr_iconst (v := (2 : Int32)) hG dX2_deals_1 (by decide) ?_
  refine jr_aload_n hG 0 dX2_deals_2 rfl rfl ?_
  refine jr_getI hG fi_RX2_33 rfl (okO_s ha0) (okO_l ha0) dX2_deals_3 ?_
  refine jr_imul hG dX2_deals_6 ?_
  refine jr_ishl hG dX2_deals_7 ?_
  exact jr_iret hG hr hk dX2_deals_8
-- TonguesDealt$Plan.dealsUpToTurning()I
abbrev rm_X2_dealsUpToTurning : Room := { frames := 1, cells := 0, slots := 0, locals := 20 }
theorem ci_X2_dealsUpToTurning : CIx yX2_dealsUpToTurning cX2_dealsUpToTurning 1 (some .int) 0 := ⟨wd_573, wd_74, by decide +kernel⟩
def f_X2_dealsUpToTurning (N : Nat) (a0 : Nat) (σ : Mm) : Option (Int32 × Mm) := if okO 2 a0 then (bI (f_X2_deals N a0 (σ)) (fun r2 t1 => some (r2 / (4 : Int32), t1))) else none
set_option maxRecDepth 20000 in
theorem c_X2_dealsUpToTurning (l : Launch) (E : XE) (N : Nat) (a0 : Nat) (σ : Mm) : ∀ r0, f_X2_dealsUpToTurning N a0 σ = some r0 → Met l yX2_dealsUpToTurning [Cond.code yX2_dealsUpToTurning cX2_dealsUpToTurning 1 (some .int)] rm_X2_dealsUpToTurning (xPc E (NT + 0) σ [.ref (E.B + a0)]) (xQi E (NT + 0) r0) 0 0 (xA E) := by
  refine met_of (N0 := NT) (by decide +kernel) (Nat.le_of_ble_eq_true rfl) ?_
  intro p e s m args below meth c hG hr hk _
  show JR E NT 1 p l e rm_X2_dealsUpToTurning s m args below meth c 0 0 (fun r => MQ below (xQi E (NT + 0) r) args s 0 0 (xA E)) 0 [(0, .ref (E.B + a0))] [] σ (if okO 2 a0 then (bI (f_X2_deals N a0 (σ)) (fun r2 t1 => some (r2 / (4 : Int32), t1))) else none)
  refine jr_guard (fun ha0 => ?_)
  refine jr_aload_n hG 0 dX2_dealsUpToTurning_0 rfl rfl ?_
  refine jr_callVi (As := []) hG (c_X2_deals l E N a0 (σ)) ci_X2_deals wd_574 ⟨wd_575, wd_576⟩ cl_2 (okO_s ha0) (okO_l ha0) ⟨rfl, rfl, Nat.le_of_ble_eq_true rfl, Nat.le_of_ble_eq_true rfl⟩ rfl rfl (Nat.le_of_ble_eq_true rfl) dX2_dealsUpToTurning_1 ⟨Nat.le_refl _, Nat.le_refl _⟩ (fun r2 t1 => ?_)
  refine jr_iconst (v := (4 : Int32)) hG dX2_dealsUpToTurning_4 (by decide) ?_
  refine jr_idivc hG dX2_dealsUpToTurning_5 (by decide) ?_
  exact jr_iret hG hr hk dX2_dealsUpToTurning_6
-- TonguesDealt$Plan.gainOf(I[I)I
abbrev rm_X2_gainOf : Room := { frames := 3, cells := 0, slots := 0, locals := 67 }
theorem ci_X2_gainOf : CIx yX2_gainOf cX2_gainOf 4 (some .int) 2 := ⟨wd_434, wd_74, by decide +kernel⟩
def f_X2_gainOf (N : Nat) (a0 : Nat) (v1 : Int32) (a2 : Nat) (σ : Mm) : Option (Int32 × Mm) := if okO 2 a0 then (if okA 0 a2 then (bI (f_X2_knownBy N a0 v1 a2 (1 : Int32) (σ)) (fun r2 t1 => bI (f_J6_bitCount_0f7a4 N r2 t1) (fun r4 t3 => bI (f_X2_knownBy N a0 v1 a2 (0 : Int32) t3) (fun r6 t5 => bI (f_J6_bitCount_0f7a4 N r6 t5) (fun r8 t7 => some (r4 - r8, t7)))))) else none) else none
set_option maxRecDepth 20000 in
theorem c_X2_gainOf (l : Launch) (E : XE) (N : Nat) (a0 : Nat) (v1 : Int32) (a2 : Nat) (σ : Mm) : ∀ r0, f_X2_gainOf N a0 v1 a2 σ = some r0 → Met l yX2_gainOf [Cond.code yX2_gainOf cX2_gainOf 4 (some .int)] rm_X2_gainOf (xPc E (NT + 0) σ [.ref (E.B + a0), .int v1, .ref (E.B + a2)]) (xQi E (NT + 0) r0) 0 0 (xA E) := by
  refine met_of (N0 := NT) (by decide +kernel) (Nat.le_of_ble_eq_true rfl) ?_
  intro p e s m args below meth c hG hr hk _
  show JR E NT 4 p l e rm_X2_gainOf s m args below meth c 0 0 (fun r => MQ below (xQi E (NT + 0) r) args s 0 0 (xA E)) 0 [(0, .ref (E.B + a0)), (1, .int v1), (2, .ref (E.B + a2))] [] σ (if okO 2 a0 then (if okA 0 a2 then (bI (f_X2_knownBy N a0 v1 a2 (1 : Int32) (σ)) (fun r2 t1 => bI (f_J6_bitCount_0f7a4 N r2 t1) (fun r4 t3 => bI (f_X2_knownBy N a0 v1 a2 (0 : Int32) t3) (fun r6 t5 => bI (f_J6_bitCount_0f7a4 N r6 t5) (fun r8 t7 => some (r4 - r8, t7)))))) else none) else none)
  refine jr_guard (fun ha0 => ?_)
  refine jr_guard (fun ha2 => ?_)
  refine jr_aload_n hG 0 dX2_gainOf_0 rfl rfl ?_
  refine jr_iload_n hG 1 dX2_gainOf_1 rfl rfl ?_
  refine jr_aload_n hG 2 dX2_gainOf_2 rfl rfl ?_
  refine jr_iconst (v := (1 : Int32)) hG dX2_gainOf_3 (by decide) ?_
  refine jr_callVi (As := [.int v1, .ref (E.B + a2), .int (1 : Int32)]) hG (c_X2_knownBy l E N a0 v1 a2 (1 : Int32) (σ)) ci_X2_knownBy wd_435 ⟨wd_404, wd_405⟩ cl_2 (okO_s ha0) (okO_l ha0) ⟨rfl, rfl, Nat.le_of_ble_eq_true rfl, Nat.le_of_ble_eq_true rfl⟩ rfl rfl (Nat.le_of_ble_eq_true rfl) dX2_gainOf_4 ⟨Nat.le_refl _, Nat.le_refl _⟩ (fun r2 t1 => ?_)
  refine jr_callSi (As := [.int r2]) hG (c_J6_bitCount_0f7a4 l E N r2 t1) ci_J6_bitCount_0f7a4 wd_436 wd_437 ⟨rfl, rfl, Nat.le_of_ble_eq_true rfl, Nat.le_of_ble_eq_true rfl⟩ rfl rfl (Nat.le_of_ble_eq_true rfl) dX2_gainOf_7 ⟨Nat.le_refl _, Nat.le_refl _⟩ (fun r4 t3 => ?_)
  refine jr_istore_n (lv' := [(3, .int r4), (0, .ref (E.B + a0)), (1, .int v1), (2, .ref (E.B + a2))]) hG dX2_gainOf_10 rfl (by decide) rfl ?_
  refine jr_iload_n hG 0 dX2_gainOf_11 rfl rfl ?_
  refine jr_aload_n hG 1 dX2_gainOf_12 rfl rfl ?_
  refine jr_iload_n hG 2 dX2_gainOf_13 rfl rfl ?_
  refine jr_aload_n hG 3 dX2_gainOf_14 rfl rfl ?_
  refine jr_iconst (v := (0 : Int32)) hG dX2_gainOf_15 (by decide) ?_
  refine jr_callVi (As := [.int v1, .ref (E.B + a2), .int (0 : Int32)]) hG (c_X2_knownBy l E N a0 v1 a2 (0 : Int32) t3) ci_X2_knownBy wd_435 ⟨wd_404, wd_405⟩ cl_2 (okO_s ha0) (okO_l ha0) ⟨rfl, rfl, Nat.le_of_ble_eq_true rfl, Nat.le_of_ble_eq_true rfl⟩ rfl rfl (Nat.le_of_ble_eq_true rfl) dX2_gainOf_16 ⟨Nat.le_refl _, Nat.le_refl _⟩ (fun r6 t5 => ?_)
  refine jr_callSi (As := [.int r6]) hG (c_J6_bitCount_0f7a4 l E N r6 t5) ci_J6_bitCount_0f7a4 wd_436 wd_437 ⟨rfl, rfl, Nat.le_of_ble_eq_true rfl, Nat.le_of_ble_eq_true rfl⟩ rfl rfl (Nat.le_of_ble_eq_true rfl) dX2_gainOf_19 ⟨Nat.le_refl _, Nat.le_refl _⟩ (fun r8 t7 => ?_)
  refine jr_isub hG dX2_gainOf_22 ?_
  exact jr_iret hG hr hk dX2_gainOf_23
-- TonguesDealt$Row.begin(I)V
abbrev rm_X3_begin : Room := { frames := 0, cells := 0, slots := 0, locals := 0 }
theorem ci_X3_begin : CIx yX3_begin cX3_begin 3 none 1 := ⟨wd_283, wd_75, by decide +kernel⟩
def f_X3_begin_7 (N : Nat)  : Nat → Nat → Int32 → Int32 → Mm → Option (Mm)
  | 0 => fun _ _ _ _ => none
  | n + 1 => fun a0 v1 v2 σ => if v1 ≤ v2 then (some (σ)) else (bR (gr σ a0 0) (okA 0) (fun o2 => if inb v2 (arL o2) then (lt (si σ o2 (ix v2) (0 : Int32)) (fun t3 => f_X3_begin_7 N n a0 v1 (v2 + (1 : Int32)) t3)) else none))
set_option maxRecDepth 20000 in
theorem w_X3_begin_7 {p : Program} {l : Launch} {e : Env} {s : State} {m : MethodId} {args : Array Value} {below : List Frame} {meth : Method} {c : Code} {E : XE} (N : Nat) (hG : GG E NT 3 RX3 cX3_begin p s m args c) (hr : meth.sig.returnType = none) (hk : meth.locks = false)  : ∀ (n : Nat) (a0 : Nat) (v1 : Int32) (v2 : Int32) (ha0 : okO 3 a0 = true) (σ : Mm), JR E NT 3 p l e rm_X3_begin s m args below meth c 0 0 (fun r => MQ below (xQv E (NT + 0) r) args s 0 0 (xA E)) 7 [(0, .ref (E.B + a0)), (1, .int v1), (2, .int v2)] [] σ (f_X3_begin_7 N n a0 v1 v2 σ) := by
  intro n
  induction n with
  | zero => intro a0 v1 v2 ha0 σ r hX; cases hX
  | succ n ih =>
    intro a0 v1 v2 ha0 σ
    show JR E NT 3 p l e rm_X3_begin s m args below meth c 0 0 (fun r => MQ below (xQv E (NT + 0) r) args s 0 0 (xA E)) 7 [(0, .ref (E.B + a0)), (1, .int v1), (2, .int v2)] [] σ (if v1 ≤ v2 then (some (σ)) else (bR (gr σ a0 0) (okA 0) (fun o2 => if inb v2 (arL o2) then (lt (si σ o2 (ix v2) (0 : Int32)) (fun t3 => f_X3_begin_7 N n a0 v1 (v2 + (1 : Int32)) t3)) else none)))
    refine jr_iload_n hG 2 dX3_begin_7 rfl rfl ?_
    refine jr_iload_n hG 1 dX3_begin_8 rfl rfl ?_
    refine jr_icmp_ge hG 25 dX3_begin_9 (by decide) (fun _ => ?_) (fun _ => ?_)
    · exact jr_vret hG hr hk dX3_begin_25
    · refine jr_aload_n hG 0 dX3_begin_12 rfl rfl ?_
      refine jr_getR hG fi_RX3_9 rfl (okO_s ha0) (okO_l ha0) dX3_begin_13 (fun o2 ho2 => ?_)
      refine jr_iload_n hG 2 dX3_begin_16 rfl rfl ?_
      refine jr_iconst (v := (0 : Int32)) hG dX3_begin_17 (by decide) ?_
      refine jr_iast hG (okA_s (by decide) ho2) (okA_l ho2) dX3_begin_18 ?_
      refine jr_lets (fun t3 _ => ?_)
      refine jr_iinc (v := v2 + (1 : Int32)) (lv' := [(2, .int (v2 + (1 : Int32))), (0, .ref (E.B + a0)), (1, .int v1)]) hG 2 dX3_begin_19 rfl rfl (by decide) rfl ?_
      refine jr_goto hG 7 dX3_begin_22 (by decide) ?_
      refine jr_sub (lv' := [(0, .ref (E.B + a0)), (1, .int v1), (2, .int (v2 + (1 : Int32)))]) [1, 2, 0] rfl ?_
      exact ih a0 v1 (v2 + (1 : Int32)) ha0 t3
def f_X3_begin (N : Nat) (a0 : Nat) (v1 : Int32) (σ : Mm) : Option (Mm) := if okO 3 a0 then (lt (si σ a0 1 v1) (fun t1 => f_X3_begin_7 N N a0 v1 (0 : Int32) t1)) else none
set_option maxRecDepth 20000 in
theorem c_X3_begin (l : Launch) (E : XE) (N : Nat) (a0 : Nat) (v1 : Int32) (σ : Mm) : ∀ r0, f_X3_begin N a0 v1 σ = some r0 → Met l yX3_begin [Cond.code yX3_begin cX3_begin 3 none] rm_X3_begin (xPc E (NT + 0) σ [.ref (E.B + a0), .int v1]) (xQv E (NT + 0) r0) 0 0 (xA E) := by
  refine met_of (N0 := NT) (by decide +kernel) (Nat.le_of_ble_eq_true rfl) ?_
  intro p e s m args below meth c hG hr hk _
  show JR E NT 3 p l e rm_X3_begin s m args below meth c 0 0 (fun r => MQ below (xQv E (NT + 0) r) args s 0 0 (xA E)) 0 [(0, .ref (E.B + a0)), (1, .int v1)] [] σ (if okO 3 a0 then (lt (si σ a0 1 v1) (fun t1 => f_X3_begin_7 N N a0 v1 (0 : Int32) t1)) else none)
  refine jr_guard (fun ha0 => ?_)
  refine jr_aload_n hG 0 dX3_begin_0 rfl rfl ?_
  refine jr_iload_n hG 1 dX3_begin_1 rfl rfl ?_
  refine jr_putI hG fi_RX3_15 rfl rfl (okO_s ha0) (okO_l ha0) dX3_begin_2 ?_
  refine jr_lets (fun t1 _ => ?_)
  refine jr_iconst (v := (0 : Int32)) hG dX3_begin_5 (by decide) ?_
  refine jr_istore_n (lv' := [(2, .int (0 : Int32)), (0, .ref (E.B + a0)), (1, .int v1)]) hG dX3_begin_6 rfl (by decide) rfl ?_
  refine jr_sub (lv' := [(0, .ref (E.B + a0)), (1, .int v1), (2, .int (0 : Int32))]) [1, 2, 0] rfl ?_
  exact w_X3_begin_7 N hG hr hk N a0 v1 (0 : Int32) ha0 t1
-- TonguesDealt$Row.has(I)Z
abbrev rm_X3_has : Room := { frames := 0, cells := 0, slots := 0, locals := 0 }
theorem ci_X3_has : CIx yX3_has cX3_has 2 (some .boolean) 1 := ⟨wd_291, wd_75, by decide +kernel⟩
def f_X3_has (N : Nat) (a0 : Nat) (v1 : Int32) (σ : Mm) : Option (Int32 × Mm) := if okO 3 a0 then (if v1 < 0 then (some ((0 : Int32), σ)) else (if (gi σ a0 1) ≤ v1 then (some ((0 : Int32), σ)) else (some ((1 : Int32), σ)))) else none
set_option maxRecDepth 20000 in
theorem c_X3_has (l : Launch) (E : XE) (N : Nat) (a0 : Nat) (v1 : Int32) (σ : Mm) : ∀ r0, f_X3_has N a0 v1 σ = some r0 → Met l yX3_has [Cond.code yX3_has cX3_has 2 (some .boolean)] rm_X3_has (xPc E (NT + 0) σ [.ref (E.B + a0), .int v1]) (xQi E (NT + 0) r0) 0 0 (xA E) := by
  refine met_of (N0 := NT) (by decide +kernel) (Nat.le_of_ble_eq_true rfl) ?_
  intro p e s m args below meth c hG hr hk _
  show JR E NT 2 p l e rm_X3_has s m args below meth c 0 0 (fun r => MQ below (xQi E (NT + 0) r) args s 0 0 (xA E)) 0 [(0, .ref (E.B + a0)), (1, .int v1)] [] σ (if okO 3 a0 then (if v1 < 0 then (some ((0 : Int32), σ)) else (if (gi σ a0 1) ≤ v1 then (some ((0 : Int32), σ)) else (some ((1 : Int32), σ)))) else none)
  refine jr_guard (fun ha0 => ?_)
  refine jr_iload_n hG 1 dX3_has_0 rfl rfl ?_
  refine jr_if_lt hG 16 dX3_has_1 (by decide) (fun _ => ?_) (fun _ => ?_)
  · refine jr_iconst (v := (0 : Int32)) hG dX3_has_16 (by decide) ?_
    exact jr_zret hG hr hk (by decide) dX3_has_17
  · refine jr_iload_n hG 1 dX3_has_4 rfl rfl ?_
    refine jr_aload_n hG 0 dX3_has_5 rfl rfl ?_
    refine jr_getI hG fi_RX3_15 rfl (okO_s ha0) (okO_l ha0) dX3_has_6 ?_
    refine jr_icmp_ge hG 16 dX3_has_9 (by decide) (fun _ => ?_) (fun _ => ?_)
    · refine jr_iconst (v := (0 : Int32)) hG dX3_has_16 (by decide) ?_
      exact jr_zret hG hr hk (by decide) dX3_has_17
    · refine jr_iconst (v := (1 : Int32)) hG dX3_has_12 (by decide) ?_
      refine jr_goto hG 17 dX3_has_13 (by decide) ?_
      exact jr_zret hG hr hk (by decide) dX3_has_17
-- TonguesDealt$Row.hasFrom(II)Z
abbrev rm_X3_hasFrom : Room := { frames := 0, cells := 0, slots := 0, locals := 0 }
theorem ci_X3_hasFrom : CIx yX3_hasFrom cX3_hasFrom 3 (some .boolean) 2 := ⟨wd_307, wd_75, by decide +kernel⟩
def f_X3_hasFrom (N : Nat) (a0 : Nat) (v1 : Int32) (v2 : Int32) (σ : Mm) : Option (Int32 × Mm) := if okO 3 a0 then (if v1 < 0 then (some ((0 : Int32), σ)) else (if ((gi σ a0 1) - v2) < v1 then (some ((0 : Int32), σ)) else (some ((1 : Int32), σ)))) else none
set_option maxRecDepth 20000 in
theorem c_X3_hasFrom (l : Launch) (E : XE) (N : Nat) (a0 : Nat) (v1 : Int32) (v2 : Int32) (σ : Mm) : ∀ r0, f_X3_hasFrom N a0 v1 v2 σ = some r0 → Met l yX3_hasFrom [Cond.code yX3_hasFrom cX3_hasFrom 3 (some .boolean)] rm_X3_hasFrom (xPc E (NT + 0) σ [.ref (E.B + a0), .int v1, .int v2]) (xQi E (NT + 0) r0) 0 0 (xA E) := by
  refine met_of (N0 := NT) (by decide +kernel) (Nat.le_of_ble_eq_true rfl) ?_
  intro p e s m args below meth c hG hr hk _
  show JR E NT 3 p l e rm_X3_hasFrom s m args below meth c 0 0 (fun r => MQ below (xQi E (NT + 0) r) args s 0 0 (xA E)) 0 [(0, .ref (E.B + a0)), (1, .int v1), (2, .int v2)] [] σ (if okO 3 a0 then (if v1 < 0 then (some ((0 : Int32), σ)) else (if ((gi σ a0 1) - v2) < v1 then (some ((0 : Int32), σ)) else (some ((1 : Int32), σ)))) else none)
  refine jr_guard (fun ha0 => ?_)
  refine jr_iload_n hG 1 dX3_hasFrom_0 rfl rfl ?_
  refine jr_if_lt hG 18 dX3_hasFrom_1 (by decide) (fun _ => ?_) (fun _ => ?_)
  · refine jr_iconst (v := (0 : Int32)) hG dX3_hasFrom_18 (by decide) ?_
    exact jr_zret hG hr hk (by decide) dX3_hasFrom_19
  · refine jr_iload_n hG 1 dX3_hasFrom_4 rfl rfl ?_
    refine jr_aload_n hG 0 dX3_hasFrom_5 rfl rfl ?_
    refine jr_getI hG fi_RX3_15 rfl (okO_s ha0) (okO_l ha0) dX3_hasFrom_6 ?_
    refine jr_iload_n hG 2 dX3_hasFrom_9 rfl rfl ?_
    refine jr_isub hG dX3_hasFrom_10 ?_
    refine jr_icmp_gt hG 18 dX3_hasFrom_11 (by decide) (fun _ => ?_) (fun _ => ?_)
    · refine jr_iconst (v := (0 : Int32)) hG dX3_hasFrom_18 (by decide) ?_
      exact jr_zret hG hr hk (by decide) dX3_hasFrom_19
    · refine jr_iconst (v := (1 : Int32)) hG dX3_hasFrom_14 (by decide) ?_
      refine jr_goto hG 19 dX3_hasFrom_15 (by decide) ?_
      exact jr_zret hG hr hk (by decide) dX3_hasFrom_19
-- TonguesDealt$Row.sum()J
abbrev rm_X3_sum : Room := { frames := 0, cells := 0, slots := 0, locals := 0 }
theorem ci_X3_sum : CIx yX3_sum cX3_sum 4 (some .long) 0 := ⟨wd_318, wd_75, by decide +kernel⟩
def f_X3_sum_4 (N : Nat)  : Nat → Nat → Int64 → Int32 → Mm → Option (Int64 × Mm)
  | 0 => fun _ _ _ _ => none
  | n + 1 => fun a0 v1 v3 σ => if (gi σ a0 1) ≤ v3 then (some (v1, σ)) else (bR (gr σ a0 0) (okA 0) (fun o1 => if inb v3 (arL o1) then (lt (v1 + ((gi σ o1 (ix v3)).toInt64)) (fun x2 => f_X3_sum_4 N n a0 x2 (v3 + (1 : Int32)) (σ))) else none))
set_option maxRecDepth 20000 in
theorem w_X3_sum_4 {p : Program} {l : Launch} {e : Env} {s : State} {m : MethodId} {args : Array Value} {below : List Frame} {meth : Method} {c : Code} {E : XE} (N : Nat) (hG : GG E NT 4 RX3 cX3_sum p s m args c) (hr : meth.sig.returnType = (some .long)) (hk : meth.locks = false)  : ∀ (n : Nat) (a0 : Nat) (v1 : Int64) (v3 : Int32) (ha0 : okO 3 a0 = true) (σ : Mm), JR E NT 4 p l e rm_X3_sum s m args below meth c 0 0 (fun r => MQ below (xQl E (NT + 0) r) args s 0 0 (xA E)) 4 [(0, .ref (E.B + a0)), (1, .long v1), (3, .int v3)] [] σ (f_X3_sum_4 N n a0 v1 v3 σ) := by
  intro n
  induction n with
  | zero => intro a0 v1 v3 ha0 σ r hX; cases hX
  | succ n ih =>
    intro a0 v1 v3 ha0 σ
    show JR E NT 4 p l e rm_X3_sum s m args below meth c 0 0 (fun r => MQ below (xQl E (NT + 0) r) args s 0 0 (xA E)) 4 [(0, .ref (E.B + a0)), (1, .long v1), (3, .int v3)] [] σ (if (gi σ a0 1) ≤ v3 then (some (v1, σ)) else (bR (gr σ a0 0) (okA 0) (fun o1 => if inb v3 (arL o1) then (lt (v1 + ((gi σ o1 (ix v3)).toInt64)) (fun x2 => f_X3_sum_4 N n a0 x2 (v3 + (1 : Int32)) (σ))) else none)))
    refine jr_iload_n hG 2 dX3_sum_4 rfl rfl ?_
    refine jr_aload_n hG 0 dX3_sum_5 rfl rfl ?_
    refine jr_getI hG fi_RX3_15 rfl (okO_s ha0) (okO_l ha0) dX3_sum_6 ?_
    refine jr_icmp_ge hG 28 dX3_sum_9 (by decide) (fun _ => ?_) (fun _ => ?_)
    · refine jr_lload_n hG 1 dX3_sum_28 rfl rfl ?_
      exact jr_lret hG hr hk dX3_sum_29
    · refine jr_lload_n hG 1 dX3_sum_12 rfl rfl ?_
      refine jr_aload_n hG 0 dX3_sum_13 rfl rfl ?_
      refine jr_getR hG fi_RX3_9 rfl (okO_s ha0) (okO_l ha0) dX3_sum_14 (fun o1 ho1 => ?_)
      refine jr_iload_n hG 2 dX3_sum_17 rfl rfl ?_
      refine jr_iald hG (okA_s (by decide) ho1) (okA_l ho1) dX3_sum_18 ?_
      refine jr_i2l hG dX3_sum_19 ?_
      refine jr_ladd hG dX3_sum_20 ?_
      refine jr_letl (fun x2 _ => ?_)
      refine jr_lstore_n (lv' := [(1, .long x2), (0, .ref (E.B + a0)), (3, .int v3)]) hG dX3_sum_21 rfl (by decide) rfl ?_
      refine jr_iinc (v := v3 + (1 : Int32)) (lv' := [(3, .int (v3 + (1 : Int32))), (1, .long x2), (0, .ref (E.B + a0))]) hG 2 dX3_sum_22 rfl rfl (by decide) rfl ?_
      refine jr_goto hG 4 dX3_sum_25 (by decide) ?_
      refine jr_sub (lv' := [(0, .ref (E.B + a0)), (1, .long x2), (3, .int (v3 + (1 : Int32)))]) [2, 1, 0] rfl ?_
      exact ih a0 x2 (v3 + (1 : Int32)) ha0 (σ)
def f_X3_sum (N : Nat) (a0 : Nat) (σ : Mm) : Option (Int64 × Mm) := if okO 3 a0 then (f_X3_sum_4 N N a0 (0 : Int64) (0 : Int32) (σ)) else none
set_option maxRecDepth 20000 in
theorem c_X3_sum (l : Launch) (E : XE) (N : Nat) (a0 : Nat) (σ : Mm) : ∀ r0, f_X3_sum N a0 σ = some r0 → Met l yX3_sum [Cond.code yX3_sum cX3_sum 4 (some .long)] rm_X3_sum (xPc E (NT + 0) σ [.ref (E.B + a0)]) (xQl E (NT + 0) r0) 0 0 (xA E) := by
  refine met_of (N0 := NT) (by decide +kernel) (Nat.le_of_ble_eq_true rfl) ?_
  intro p e s m args below meth c hG hr hk _
  show JR E NT 4 p l e rm_X3_sum s m args below meth c 0 0 (fun r => MQ below (xQl E (NT + 0) r) args s 0 0 (xA E)) 0 [(0, .ref (E.B + a0))] [] σ (if okO 3 a0 then (f_X3_sum_4 N N a0 (0 : Int64) (0 : Int32) (σ)) else none)
  refine jr_guard (fun ha0 => ?_)
  refine jr_lconst (v := (0 : Int64)) hG dX3_sum_0 (by decide) ?_
  refine jr_lstore_n (lv' := [(1, .long (0 : Int64)), (0, .ref (E.B + a0))]) hG dX3_sum_1 rfl (by decide) rfl ?_
  refine jr_iconst (v := (0 : Int32)) hG dX3_sum_2 (by decide) ?_
  refine jr_istore_n (lv' := [(3, .int (0 : Int32)), (1, .long (0 : Int64)), (0, .ref (E.B + a0))]) hG dX3_sum_3 rfl (by decide) rfl ?_
  refine jr_sub (lv' := [(0, .ref (E.B + a0)), (1, .long (0 : Int64)), (3, .int (0 : Int32))]) [2, 1, 0] rfl ?_
  exact w_X3_sum_4 N hG hr hk N a0 (0 : Int64) (0 : Int32) ha0 (σ)
-- TonguesDealt$Row.allBelow(I)Z
abbrev rm_X3_allBelow : Room := { frames := 0, cells := 0, slots := 0, locals := 0 }
theorem ci_X3_allBelow : CIx yX3_allBelow cX3_allBelow 3 (some .boolean) 1 := ⟨wd_458, wd_75, by decide +kernel⟩
def f_X3_allBelow_2 (N : Nat)  : Nat → Nat → Int32 → Int32 → Mm → Option (Int32 × Mm)
  | 0 => fun _ _ _ _ => none
  | n + 1 => fun a0 v1 v2 σ => if (gi σ a0 1) ≤ v2 then (some ((1 : Int32), σ)) else (bR (gr σ a0 0) (okA 0) (fun o1 => if inb v2 (arL o1) then (if (gi σ o1 (ix v2)) < 0 then (some ((0 : Int32), σ)) else (bR (gr σ a0 0) (okA 0) (fun o2 => if inb v2 (arL o2) then (if (gi σ o2 (ix v2)) < v1 then (f_X3_allBelow_2 N n a0 v1 (v2 + (1 : Int32)) (σ)) else (some ((0 : Int32), σ))) else none))) else none))
set_option maxRecDepth 20000 in
theorem w_X3_allBelow_2 {p : Program} {l : Launch} {e : Env} {s : State} {m : MethodId} {args : Array Value} {below : List Frame} {meth : Method} {c : Code} {E : XE} (N : Nat) (hG : GG E NT 3 RX3 cX3_allBelow p s m args c) (hr : meth.sig.returnType = (some .boolean)) (hk : meth.locks = false)  : ∀ (n : Nat) (a0 : Nat) (v1 : Int32) (v2 : Int32) (ha0 : okO 3 a0 = true) (σ : Mm), JR E NT 3 p l e rm_X3_allBelow s m args below meth c 0 0 (fun r => MQ below (xQi E (NT + 0) r) args s 0 0 (xA E)) 2 [(0, .ref (E.B + a0)), (1, .int v1), (2, .int v2)] [] σ (f_X3_allBelow_2 N n a0 v1 v2 σ) := by
  intro n
  induction n with
  | zero => intro a0 v1 v2 ha0 σ r hX; cases hX
  | succ n ih =>
    intro a0 v1 v2 ha0 σ
    show JR E NT 3 p l e rm_X3_allBelow s m args below meth c 0 0 (fun r => MQ below (xQi E (NT + 0) r) args s 0 0 (xA E)) 2 [(0, .ref (E.B + a0)), (1, .int v1), (2, .int v2)] [] σ (if (gi σ a0 1) ≤ v2 then (some ((1 : Int32), σ)) else (bR (gr σ a0 0) (okA 0) (fun o1 => if inb v2 (arL o1) then (if (gi σ o1 (ix v2)) < 0 then (some ((0 : Int32), σ)) else (bR (gr σ a0 0) (okA 0) (fun o2 => if inb v2 (arL o2) then (if (gi σ o2 (ix v2)) < v1 then (f_X3_allBelow_2 N n a0 v1 (v2 + (1 : Int32)) (σ)) else (some ((0 : Int32), σ))) else none))) else none)))
    refine jr_iload_n hG 2 dX3_allBelow_2 rfl rfl ?_
    refine jr_aload_n hG 0 dX3_allBelow_3 rfl rfl ?_
    refine jr_getI hG fi_RX3_15 rfl (okO_s ha0) (okO_l ha0) dX3_allBelow_4 ?_
    refine jr_icmp_ge hG 37 dX3_allBelow_7 (by decide) (fun _ => ?_) (fun _ => ?_)
    · refine jr_iconst (v := (1 : Int32)) hG dX3_allBelow_37 (by decide) ?_
      exact jr_zret hG hr hk (by decide) dX3_allBelow_38
    · refine jr_aload_n hG 0 dX3_allBelow_10 rfl rfl ?_
      refine jr_getR hG fi_RX3_9 rfl (okO_s ha0) (okO_l ha0) dX3_allBelow_11 (fun o1 ho1 => ?_)
      refine jr_iload_n hG 2 dX3_allBelow_14 rfl rfl ?_
      refine jr_iald hG (okA_s (by decide) ho1) (okA_l ho1) dX3_allBelow_15 ?_
      refine jr_if_lt hG 29 dX3_allBelow_16 (by decide) (fun _ => ?_) (fun _ => ?_)
      · refine jr_iconst (v := (0 : Int32)) hG dX3_allBelow_29 (by decide) ?_
        exact jr_zret hG hr hk (by decide) dX3_allBelow_30
      · refine jr_aload_n hG 0 dX3_allBelow_19 rfl rfl ?_
        refine jr_getR hG fi_RX3_9 rfl (okO_s ha0) (okO_l ha0) dX3_allBelow_20 (fun o2 ho2 => ?_)
        refine jr_iload_n hG 2 dX3_allBelow_23 rfl rfl ?_
        refine jr_iald hG (okA_s (by decide) ho2) (okA_l ho2) dX3_allBelow_24 ?_
        refine jr_iload_n hG 1 dX3_allBelow_25 rfl rfl ?_
        refine jr_icmp_lt hG 31 dX3_allBelow_26 (by decide) (fun _ => ?_) (fun _ => ?_)
        · refine jr_iinc (v := v2 + (1 : Int32)) (lv' := [(2, .int (v2 + (1 : Int32))), (0, .ref (E.B + a0)), (1, .int v1)]) hG 2 dX3_allBelow_31 rfl rfl (by decide) rfl ?_
          refine jr_goto hG 2 dX3_allBelow_34 (by decide) ?_
          refine jr_sub (lv' := [(0, .ref (E.B + a0)), (1, .int v1), (2, .int (v2 + (1 : Int32)))]) [1, 2, 0] rfl ?_
          exact ih a0 v1 (v2 + (1 : Int32)) ha0 (σ)
        · refine jr_iconst (v := (0 : Int32)) hG dX3_allBelow_29 (by decide) ?_
          exact jr_zret hG hr hk (by decide) dX3_allBelow_30
def f_X3_allBelow (N : Nat) (a0 : Nat) (v1 : Int32) (σ : Mm) : Option (Int32 × Mm) := if okO 3 a0 then (f_X3_allBelow_2 N N a0 v1 (0 : Int32) (σ)) else none
set_option maxRecDepth 20000 in
theorem c_X3_allBelow (l : Launch) (E : XE) (N : Nat) (a0 : Nat) (v1 : Int32) (σ : Mm) : ∀ r0, f_X3_allBelow N a0 v1 σ = some r0 → Met l yX3_allBelow [Cond.code yX3_allBelow cX3_allBelow 3 (some .boolean)] rm_X3_allBelow (xPc E (NT + 0) σ [.ref (E.B + a0), .int v1]) (xQi E (NT + 0) r0) 0 0 (xA E) := by
  refine met_of (N0 := NT) (by decide +kernel) (Nat.le_of_ble_eq_true rfl) ?_
  intro p e s m args below meth c hG hr hk _
  show JR E NT 3 p l e rm_X3_allBelow s m args below meth c 0 0 (fun r => MQ below (xQi E (NT + 0) r) args s 0 0 (xA E)) 0 [(0, .ref (E.B + a0)), (1, .int v1)] [] σ (if okO 3 a0 then (f_X3_allBelow_2 N N a0 v1 (0 : Int32) (σ)) else none)
  refine jr_guard (fun ha0 => ?_)
  refine jr_iconst (v := (0 : Int32)) hG dX3_allBelow_0 (by decide) ?_
  refine jr_istore_n (lv' := [(2, .int (0 : Int32)), (0, .ref (E.B + a0)), (1, .int v1)]) hG dX3_allBelow_1 rfl (by decide) rfl ?_
  refine jr_sub (lv' := [(0, .ref (E.B + a0)), (1, .int v1), (2, .int (0 : Int32))]) [1, 2, 0] rfl ?_
  exact w_X3_allBelow_2 N hG hr hk N a0 v1 (0 : Int32) ha0 (σ)
-- TonguesDealt$Row.alwaysAlike(IIII)Z
abbrev rm_X3_alwaysAlike : Room := { frames := 0, cells := 0, slots := 0, locals := 0 }
theorem ci_X3_alwaysAlike : CIx yX3_alwaysAlike cX3_alwaysAlike 6 (some .boolean) 4 := ⟨wd_628, wd_75, by decide +kernel⟩
def f_X3_alwaysAlike_3 (N : Nat)  : Nat → Nat → Int32 → Int32 → Int32 → Int32 → Int32 → Mm → Option (Int32 × Mm)
  | 0 => fun _ _ _ _ _ _ _ => none
  | n + 1 => fun a0 v1 v2 v3 v4 v5 σ => if v4 ≤ v5 then (some ((1 : Int32), σ)) else (bR (gr σ a0 0) (okA 0) (fun o1 => if inb ((v5 * v3) + v1) (arL o1) then (bR (gr σ a0 0) (okA 0) (fun o2 => if inb ((v5 * v3) + v2) (arL o2) then (if (gi σ o1 (ix ((v5 * v3) + v1))) = (gi σ o2 (ix ((v5 * v3) + v2))) then (f_X3_alwaysAlike_3 N n a0 v1 v2 v3 v4 (v5 + (1 : Int32)) (σ)) else (some ((0 : Int32), σ))) else none)) else none))
set_option maxRecDepth 20000 in
theorem w_X3_alwaysAlike_3 {p : Program} {l : Launch} {e : Env} {s : State} {m : MethodId} {args : Array Value} {below : List Frame} {meth : Method} {c : Code} {E : XE} (N : Nat) (hG : GG E NT 6 RX3 cX3_alwaysAlike p s m args c) (hr : meth.sig.returnType = (some .boolean)) (hk : meth.locks = false)  : ∀ (n : Nat) (a0 : Nat) (v1 : Int32) (v2 : Int32) (v3 : Int32) (v4 : Int32) (v5 : Int32) (ha0 : okO 3 a0 = true) (σ : Mm), JR E NT 6 p l e rm_X3_alwaysAlike s m args below meth c 0 0 (fun r => MQ below (xQi E (NT + 0) r) args s 0 0 (xA E)) 3 [(0, .ref (E.B + a0)), (1, .int v1), (2, .int v2), (3, .int v3), (4, .int v4), (5, .int v5)] [] σ (f_X3_alwaysAlike_3 N n a0 v1 v2 v3 v4 v5 σ) := by
  intro n
  induction n with
  | zero => intro a0 v1 v2 v3 v4 v5 ha0 σ r hX; cases hX
  | succ n ih =>
    intro a0 v1 v2 v3 v4 v5 ha0 σ
    show JR E NT 6 p l e rm_X3_alwaysAlike s m args below meth c 0 0 (fun r => MQ below (xQi E (NT + 0) r) args s 0 0 (xA E)) 3 [(0, .ref (E.B + a0)), (1, .int v1), (2, .int v2), (3, .int v3), (4, .int v4), (5, .int v5)] [] σ (if v4 ≤ v5 then (some ((1 : Int32), σ)) else (bR (gr σ a0 0) (okA 0) (fun o1 => if inb ((v5 * v3) + v1) (arL o1) then (bR (gr σ a0 0) (okA 0) (fun o2 => if inb ((v5 * v3) + v2) (arL o2) then (if (gi σ o1 (ix ((v5 * v3) + v1))) = (gi σ o2 (ix ((v5 * v3) + v2))) then (f_X3_alwaysAlike_3 N n a0 v1 v2 v3 v4 (v5 + (1 : Int32)) (σ)) else (some ((0 : Int32), σ))) else none)) else none)))
    refine jr_iload hG 5 dX3_alwaysAlike_3 rfl ?_
    refine jr_iload hG 4 dX3_alwaysAlike_5 rfl ?_
    refine jr_icmp_ge hG 43 dX3_alwaysAlike_7 (by decide) (fun _ => ?_) (fun _ => ?_)
    · refine jr_iconst (v := (1 : Int32)) hG dX3_alwaysAlike_43 (by decide) ?_
      exact jr_zret hG hr hk (by decide) dX3_alwaysAlike_44
    · refine jr_aload_n hG 0 dX3_alwaysAlike_10 rfl rfl ?_
      refine jr_getR hG fi_RX3_9 rfl (okO_s ha0) (okO_l ha0) dX3_alwaysAlike_11 (fun o1 ho1 => ?_)
      refine jr_iload hG 5 dX3_alwaysAlike_14 rfl ?_
      refine jr_iload_n hG 3 dX3_alwaysAlike_16 rfl rfl ?_
      refine jr_imul hG dX3_alwaysAlike_17 ?_
      refine jr_iload_n hG 1 dX3_alwaysAlike_18 rfl rfl ?_
      refine jr_iadd hG dX3_alwaysAlike_19 ?_
      refine jr_iald hG (okA_s (by decide) ho1) (okA_l ho1) dX3_alwaysAlike_20 ?_
      refine jr_aload_n hG 0 dX3_alwaysAlike_21 rfl rfl ?_
      refine jr_getR hG fi_RX3_9 rfl (okO_s ha0) (okO_l ha0) dX3_alwaysAlike_22 (fun o2 ho2 => ?_)
      refine jr_iload hG 5 dX3_alwaysAlike_25 rfl ?_
      refine jr_iload_n hG 3 dX3_alwaysAlike_27 rfl rfl ?_
      refine jr_imul hG dX3_alwaysAlike_28 ?_
      refine jr_iload_n hG 2 dX3_alwaysAlike_29 rfl rfl ?_
      refine jr_iadd hG dX3_alwaysAlike_30 ?_
      refine jr_iald hG (okA_s (by decide) ho2) (okA_l ho2) dX3_alwaysAlike_31 ?_
      refine jr_icmp_eq hG 37 dX3_alwaysAlike_32 (by decide) (fun _ => ?_) (fun _ => ?_)
      · refine jr_iinc (v := v5 + (1 : Int32)) (lv' := [(5, .int (v5 + (1 : Int32))), (0, .ref (E.B + a0)), (1, .int v1), (2, .int v2), (3, .int v3), (4, .int v4)]) hG 5 dX3_alwaysAlike_37 rfl rfl (by decide) rfl ?_
        refine jr_goto hG 3 dX3_alwaysAlike_40 (by decide) ?_
        refine jr_sub (lv' := [(0, .ref (E.B + a0)), (1, .int v1), (2, .int v2), (3, .int v3), (4, .int v4), (5, .int (v5 + (1 : Int32)))]) [1, 2, 3, 4, 5, 0] rfl ?_
        exact ih a0 v1 v2 v3 v4 (v5 + (1 : Int32)) ha0 (σ)
      · refine jr_iconst (v := (0 : Int32)) hG dX3_alwaysAlike_35 (by decide) ?_
        exact jr_zret hG hr hk (by decide) dX3_alwaysAlike_36
def f_X3_alwaysAlike (N : Nat) (a0 : Nat) (v1 : Int32) (v2 : Int32) (v3 : Int32) (v4 : Int32) (σ : Mm) : Option (Int32 × Mm) := if okO 3 a0 then (f_X3_alwaysAlike_3 N N a0 v1 v2 v3 v4 (0 : Int32) (σ)) else none
set_option maxRecDepth 20000 in
theorem c_X3_alwaysAlike (l : Launch) (E : XE) (N : Nat) (a0 : Nat) (v1 : Int32) (v2 : Int32) (v3 : Int32) (v4 : Int32) (σ : Mm) : ∀ r0, f_X3_alwaysAlike N a0 v1 v2 v3 v4 σ = some r0 → Met l yX3_alwaysAlike [Cond.code yX3_alwaysAlike cX3_alwaysAlike 6 (some .boolean)] rm_X3_alwaysAlike (xPc E (NT + 0) σ [.ref (E.B + a0), .int v1, .int v2, .int v3, .int v4]) (xQi E (NT + 0) r0) 0 0 (xA E) := by
  refine met_of (N0 := NT) (by decide +kernel) (Nat.le_of_ble_eq_true rfl) ?_
  intro p e s m args below meth c hG hr hk _
  show JR E NT 6 p l e rm_X3_alwaysAlike s m args below meth c 0 0 (fun r => MQ below (xQi E (NT + 0) r) args s 0 0 (xA E)) 0 [(0, .ref (E.B + a0)), (1, .int v1), (2, .int v2), (3, .int v3), (4, .int v4)] [] σ (if okO 3 a0 then (f_X3_alwaysAlike_3 N N a0 v1 v2 v3 v4 (0 : Int32) (σ)) else none)
  refine jr_guard (fun ha0 => ?_)
  refine jr_iconst (v := (0 : Int32)) hG dX3_alwaysAlike_0 (by decide) ?_
  refine jr_istore (lv' := [(5, .int (0 : Int32)), (0, .ref (E.B + a0)), (1, .int v1), (2, .int v2), (3, .int v3), (4, .int v4)]) hG dX3_alwaysAlike_1 (by decide) rfl ?_
  refine jr_sub (lv' := [(0, .ref (E.B + a0)), (1, .int v1), (2, .int v2), (3, .int v3), (4, .int v4), (5, .int (0 : Int32))]) [1, 2, 3, 4, 5, 0] rfl ?_
  exact w_X3_alwaysAlike_3 N hG hr hk N a0 v1 v2 v3 v4 (0 : Int32) ha0 (σ)
-- TonguesDealt$Row.follows(IIII)Z
abbrev rm_X3_follows : Room := { frames := 1, cells := 0, slots := 0, locals := 21 }
theorem ci_X3_follows : CIx yX3_follows cX3_follows 4 (some .boolean) 4 := ⟨wd_639, wd_75, by decide +kernel⟩
def f_X3_follows (N : Nat) (v0 : Int32) (v1 : Int32) (v2 : Int32) (v3 : Int32) (σ : Mm) : Option (Int32 × Mm) := if v3 = (0 : Int32) then (if v1 = v0 then (some ((1 : Int32), σ)) else (some ((0 : Int32), σ))) else (if v3 = (1 : Int32) then (if v1 = ((v0 + (1 : Int32)) - (v0 + (1 : Int32)) / (4 : Int32) * (4 : Int32)) then (some ((1 : Int32), σ)) else (some ((0 : Int32), σ))) else (if v3 = (2 : Int32) then (if v1 = v0 then (some ((0 : Int32), σ)) else (some ((1 : Int32), σ))) else (bI (f_X5_holds N v2 v1 (σ)) (fun r2 t1 => if r2 = 0 then (some ((1 : Int32), t1)) else (some ((0 : Int32), t1))))))
set_option maxRecDepth 20000 in
theorem c_X3_follows (l : Launch) (E : XE) (N : Nat) (v0 : Int32) (v1 : Int32) (v2 : Int32) (v3 : Int32) (σ : Mm) : ∀ r0, f_X3_follows N v0 v1 v2 v3 σ = some r0 → Met l yX3_follows [Cond.code yX3_follows cX3_follows 4 (some .boolean)] rm_X3_follows (xPc E (NT + 0) σ [.int v0, .int v1, .int v2, .int v3]) (xQi E (NT + 0) r0) 0 0 (xA E) := by
  refine met_of (N0 := NT) (by decide +kernel) (Nat.le_of_ble_eq_true rfl) ?_
  intro p e s m args below meth c hG hr hk _
  show JR E NT 4 p l e rm_X3_follows s m args below meth c 0 0 (fun r => MQ below (xQi E (NT + 0) r) args s 0 0 (xA E)) 0 [(0, .int v0), (1, .int v1), (2, .int v2), (3, .int v3)] [] σ (if v3 = (0 : Int32) then (if v1 = v0 then (some ((1 : Int32), σ)) else (some ((0 : Int32), σ))) else (if v3 = (1 : Int32) then (if v1 = ((v0 + (1 : Int32)) - (v0 + (1 : Int32)) / (4 : Int32) * (4 : Int32)) then (some ((1 : Int32), σ)) else (some ((0 : Int32), σ))) else (if v3 = (2 : Int32) then (if v1 = v0 then (some ((0 : Int32), σ)) else (some ((1 : Int32), σ))) else (bI (f_X5_holds N v2 v1 (σ)) (fun r2 t1 => if r2 = 0 then (some ((1 : Int32), t1)) else (some ((0 : Int32), t1)))))))
  refine jr_iload_n hG 3 dX3_follows_0 rfl rfl ?_
  refine jr_ite (fun hs0 => ?_) (fun hs0 => ?_)
  · refine jr_tabIn (off := 27) hG 28 dX3_follows_1 (0 : Int32) hs0 (by decide) ?_
    refine jr_iload_n hG 1 dX3_follows_28 rfl rfl ?_
    refine jr_iload_n hG 0 dX3_follows_29 rfl rfl ?_
    refine jr_icmp_ne hG 37 dX3_follows_30 (by decide) (fun _ => ?_) (fun _ => ?_)
    · refine jr_iconst (v := (0 : Int32)) hG dX3_follows_37 (by decide) ?_
      exact jr_zret hG hr hk (by decide) dX3_follows_38
    · refine jr_iconst (v := (1 : Int32)) hG dX3_follows_33 (by decide) ?_
      refine jr_goto hG 38 dX3_follows_34 (by decide) ?_
      exact jr_zret hG hr hk (by decide) dX3_follows_38
  refine jr_ite (fun hs1 => ?_) (fun hs1 => ?_)
  · refine jr_tabIn (off := 38) hG 39 dX3_follows_1 (1 : Int32) hs1 (by decide) ?_
    refine jr_iload_n hG 1 dX3_follows_39 rfl rfl ?_
    refine jr_iload_n hG 0 dX3_follows_40 rfl rfl ?_
    refine jr_iconst (v := (1 : Int32)) hG dX3_follows_41 (by decide) ?_
    refine jr_iadd hG dX3_follows_42 ?_
    refine jr_iconst (v := (4 : Int32)) hG dX3_follows_43 (by decide) ?_
    refine jr_iremc hG dX3_follows_44 (by decide) ?_
    refine jr_icmp_ne hG 52 dX3_follows_45 (by decide) (fun _ => ?_) (fun _ => ?_)
    · refine jr_iconst (v := (0 : Int32)) hG dX3_follows_52 (by decide) ?_
      exact jr_zret hG hr hk (by decide) dX3_follows_53
    · refine jr_iconst (v := (1 : Int32)) hG dX3_follows_48 (by decide) ?_
      refine jr_goto hG 53 dX3_follows_49 (by decide) ?_
      exact jr_zret hG hr hk (by decide) dX3_follows_53
  refine jr_ite (fun hs2 => ?_) (fun hs2 => ?_)
  · refine jr_tabIn (off := 53) hG 54 dX3_follows_1 (2 : Int32) hs2 (by decide) ?_
    refine jr_iload_n hG 1 dX3_follows_54 rfl rfl ?_
    refine jr_iload_n hG 0 dX3_follows_55 rfl rfl ?_
    refine jr_icmp_eq hG 63 dX3_follows_56 (by decide) (fun _ => ?_) (fun _ => ?_)
    · refine jr_iconst (v := (0 : Int32)) hG dX3_follows_63 (by decide) ?_
      exact jr_zret hG hr hk (by decide) dX3_follows_64
    · refine jr_iconst (v := (1 : Int32)) hG dX3_follows_59 (by decide) ?_
      refine jr_goto hG 64 dX3_follows_60 (by decide) ?_
      exact jr_zret hG hr hk (by decide) dX3_follows_64
  refine jr_tabOut hG 65 dX3_follows_1 (tab_out0_2 hs0 hs1 hs2) (by decide) ?_
  refine jr_iload_n hG 2 dX3_follows_65 rfl rfl ?_
  refine jr_iload_n hG 1 dX3_follows_66 rfl rfl ?_
  refine jr_callNi (As := [.int v2, .int v1]) hG (c_X5_holds l E N v2 v1 (σ)) ci_X5_holds (List.mem_of_getElem? (i := 7) rfl) wd_366 ⟨rfl, rfl, Nat.le_of_ble_eq_true rfl, Nat.le_of_ble_eq_true rfl⟩ rfl rfl (Nat.le_of_ble_eq_true rfl) dX3_follows_67 ⟨Nat.le_refl _, Nat.le_refl _⟩ (fun r2 t1 => ?_)
  refine jr_if_ne hG 77 dX3_follows_70 (by decide) (fun _ => ?_) (fun _ => ?_)
  · refine jr_iconst (v := (0 : Int32)) hG dX3_follows_77 (by decide) ?_
    exact jr_zret hG hr hk (by decide) dX3_follows_78
  · refine jr_iconst (v := (1 : Int32)) hG dX3_follows_73 (by decide) ?_
    refine jr_goto hG 78 dX3_follows_74 (by decide) ?_
    exact jr_zret hG hr hk (by decide) dX3_follows_78
-- TonguesDealt$Row.obeys(IIII)Z
abbrev rm_X3_obeys : Room := { frames := 2, cells := 0, slots := 0, locals := 44 }
theorem ci_X3_obeys : CIx yX3_obeys cX3_obeys 8 (some .boolean) 4 := ⟨wd_636, wd_75, by decide +kernel⟩
def f_X3_obeys_53 (N : Nat) (K6 : Nat → Int32 → Int32 → Int32 → Int32 → Int32 → Int32 → Mm → Option (Int32 × Mm)) (a0 : Nat) (v1 : Int32) (v2 : Int32) (v3 : Int32) (v4 : Int32) (v5 : Int32) (v6 : Int32) (v7 : Int32) (σ : Mm) : Option (Int32 × Mm) := bR (gr σ a0 0) (okA 0) (fun o6 => if inb v7 (arL o6) then (lt (v5 ||| ((1 : Int32) <<< ((gi σ o6 (ix v7)) &&& 31))) (fun x7 => K6 a0 v1 v2 v3 v4 x7 (v6 + (1 : Int32)) (σ))) else none)
set_option maxRecDepth 20000 in
theorem w_X3_obeys_53 {p : Program} {l : Launch} {e : Env} {s : State} {m : MethodId} {args : Array Value} {below : List Frame} {meth : Method} {c : Code} {E : XE} (N : Nat) (hG : GG E NT 8 RX3 cX3_obeys p s m args c) (hr : meth.sig.returnType = (some .boolean)) (hk : meth.locks = false) {K6 : Nat → Int32 → Int32 → Int32 → Int32 → Int32 → Int32 → Mm → Option (Int32 × Mm)} (hK6 : ∀ (a0 : Nat) (v1 : Int32) (v2 : Int32) (v3 : Int32) (v4 : Int32) (v5 : Int32) (v6 : Int32) (ha0 : okO 3 a0 = true) (σ : Mm), JR E NT 8 p l e rm_X3_obeys s m args below meth c 0 0 (fun r => MQ below (xQi E (NT + 0) r) args s 0 0 (xA E)) 6 [(0, .ref (E.B + a0)), (1, .int v1), (2, .int v2), (3, .int v3), (4, .int v4), (5, .int v5), (6, .int v6)] [] σ (K6 a0 v1 v2 v3 v4 v5 v6 σ)) (a0 : Nat) (v1 : Int32) (v2 : Int32) (v3 : Int32) (v4 : Int32) (v5 : Int32) (v6 : Int32) (v7 : Int32) (ha0 : okO 3 a0 = true) (σ : Mm) : JR E NT 8 p l e rm_X3_obeys s m args below meth c 0 0 (fun r => MQ below (xQi E (NT + 0) r) args s 0 0 (xA E)) 53 [(0, .ref (E.B + a0)), (1, .int v1), (2, .int v2), (3, .int v3), (4, .int v4), (5, .int v5), (6, .int v6), (7, .int v7)] [] σ (f_X3_obeys_53 N K6 a0 v1 v2 v3 v4 v5 v6 v7 σ) := by
  show JR E NT 8 p l e rm_X3_obeys s m args below meth c 0 0 (fun r => MQ below (xQi E (NT + 0) r) args s 0 0 (xA E)) 53 [(0, .ref (E.B + a0)), (1, .int v1), (2, .int v2), (3, .int v3), (4, .int v4), (5, .int v5), (6, .int v6), (7, .int v7)] [] σ (bR (gr σ a0 0) (okA 0) (fun o6 => if inb v7 (arL o6) then (lt (v5 ||| ((1 : Int32) <<< ((gi σ o6 (ix v7)) &&& 31))) (fun x7 => K6 a0 v1 v2 v3 v4 x7 (v6 + (1 : Int32)) (σ))) else none))
  refine jr_iload hG 5 dX3_obeys_53 rfl ?_
  refine jr_iconst (v := (1 : Int32)) hG dX3_obeys_55 (by decide) ?_
  refine jr_aload_n hG 0 dX3_obeys_56 rfl rfl ?_
  refine jr_getR hG fi_RX3_9 rfl (okO_s ha0) (okO_l ha0) dX3_obeys_57 (fun o6 ho6 => ?_)
  refine jr_iload hG 7 dX3_obeys_60 rfl ?_
  refine jr_iald hG (okA_s (by decide) ho6) (okA_l ho6) dX3_obeys_62 ?_
  refine jr_ishl hG dX3_obeys_63 ?_
  refine jr_ior hG dX3_obeys_64 ?_
  refine jr_leti (fun x7 _ => ?_)
  refine jr_istore (lv' := [(5, .int x7), (0, .ref (E.B + a0)), (1, .int v1), (2, .int v2), (3, .int v3), (4, .int v4), (6, .int v6), (7, .int v7)]) hG dX3_obeys_65 (by decide) rfl ?_
  refine jr_iinc (v := v6 + (1 : Int32)) (lv' := [(6, .int (v6 + (1 : Int32))), (5, .int x7), (0, .ref (E.B + a0)), (1, .int v1), (2, .int v2), (3, .int v3), (4, .int v4), (7, .int v7)]) hG 6 dX3_obeys_67 rfl rfl (by decide) rfl ?_
  refine jr_goto hG 6 dX3_obeys_70 (by decide) ?_
  refine jr_sub (lv' := [(0, .ref (E.B + a0)), (1, .int v1), (2, .int v2), (3, .int v3), (4, .int v4), (5, .int x7), (6, .int (v6 + (1 : Int32)))]) [2, 3, 4, 5, 6, 1, 0] rfl ?_
  exact hK6 a0 v1 v2 v3 v4 x7 (v6 + (1 : Int32)) ha0 (σ)
def f_X3_obeys_6 (N : Nat)  : Nat → Nat → Int32 → Int32 → Int32 → Int32 → Int32 → Int32 → Mm → Option (Int32 × Mm)
  | 0 => fun _ _ _ _ _ _ _ _ => none
  | n + 1 => fun a0 v1 v2 v3 v4 v5 v6 σ => if v3 ≤ v6 then (some ((1 : Int32), σ)) else (lt ((v6 * v2) + v1) (fun x1 => if v6 ≤ 0 then (f_X3_obeys_53 N (f_X3_obeys_6 N n) a0 v1 v2 v3 v4 v5 v6 x1 (σ)) else (bR (gr σ a0 0) (okA 0) (fun o2 => if inb (x1 - v2) (arL o2) then (bR (gr σ a0 0) (okA 0) (fun o3 => if inb x1 (arL o3) then (bI (f_X3_follows N (gi σ o2 (ix (x1 - v2))) (gi σ o3 (ix x1)) v5 v4 (σ)) (fun r5 t4 => if r5 = 0 then (some ((0 : Int32), t4)) else (f_X3_obeys_53 N (f_X3_obeys_6 N n) a0 v1 v2 v3 v4 v5 v6 x1 t4))) else none)) else none))))
set_option maxRecDepth 20000 in
theorem w_X3_obeys_6 {p : Program} {l : Launch} {e : Env} {s : State} {m : MethodId} {args : Array Value} {below : List Frame} {meth : Method} {c : Code} {E : XE} (N : Nat) (hG : GG E NT 8 RX3 cX3_obeys p s m args c) (hr : meth.sig.returnType = (some .boolean)) (hk : meth.locks = false)  : ∀ (n : Nat) (a0 : Nat) (v1 : Int32) (v2 : Int32) (v3 : Int32) (v4 : Int32) (v5 : Int32) (v6 : Int32) (ha0 : okO 3 a0 = true) (σ : Mm), JR E NT 8 p l e rm_X3_obeys s m args below meth c 0 0 (fun r => MQ below (xQi E (NT + 0) r) args s 0 0 (xA E)) 6 [(0, .ref (E.B + a0)), (1, .int v1), (2, .int v2), (3, .int v3), (4, .int v4), (5, .int v5), (6, .int v6)] [] σ (f_X3_obeys_6 N n a0 v1 v2 v3 v4 v5 v6 σ) := by
  intro n
  induction n with
  | zero => intro a0 v1 v2 v3 v4 v5 v6 ha0 σ r hX; cases hX
  | succ n ih =>
    intro a0 v1 v2 v3 v4 v5 v6 ha0 σ
    show JR E NT 8 p l e rm_X3_obeys s m args below meth c 0 0 (fun r => MQ below (xQi E (NT + 0) r) args s 0 0 (xA E)) 6 [(0, .ref (E.B + a0)), (1, .int v1), (2, .int v2), (3, .int v3), (4, .int v4), (5, .int v5), (6, .int v6)] [] σ (if v3 ≤ v6 then (some ((1 : Int32), σ)) else (lt ((v6 * v2) + v1) (fun x1 => if v6 ≤ 0 then (f_X3_obeys_53 N (f_X3_obeys_6 N n) a0 v1 v2 v3 v4 v5 v6 x1 (σ)) else (bR (gr σ a0 0) (okA 0) (fun o2 => if inb (x1 - v2) (arL o2) then (bR (gr σ a0 0) (okA 0) (fun o3 => if inb x1 (arL o3) then (bI (f_X3_follows N (gi σ o2 (ix (x1 - v2))) (gi σ o3 (ix x1)) v5 v4 (σ)) (fun r5 t4 => if r5 = 0 then (some ((0 : Int32), t4)) else (f_X3_obeys_53 N (f_X3_obeys_6 N n) a0 v1 v2 v3 v4 v5 v6 x1 t4))) else none)) else none)))))
    refine jr_iload hG 6 dX3_obeys_6 rfl ?_
    refine jr_iload_n hG 3 dX3_obeys_8 rfl rfl ?_
    refine jr_icmp_ge hG 73 dX3_obeys_9 (by decide) (fun _ => ?_) (fun _ => ?_)
    · refine jr_iconst (v := (1 : Int32)) hG dX3_obeys_73 (by decide) ?_
      exact jr_zret hG hr hk (by decide) dX3_obeys_74
    · refine jr_iload hG 6 dX3_obeys_12 rfl ?_
      refine jr_iload_n hG 2 dX3_obeys_14 rfl rfl ?_
      refine jr_imul hG dX3_obeys_15 ?_
      refine jr_iload_n hG 1 dX3_obeys_16 rfl rfl ?_
      refine jr_iadd hG dX3_obeys_17 ?_
      refine jr_leti (fun x1 _ => ?_)
      refine jr_istore (lv' := [(7, .int x1), (0, .ref (E.B + a0)), (1, .int v1), (2, .int v2), (3, .int v3), (4, .int v4), (5, .int v5), (6, .int v6)]) hG dX3_obeys_18 (by decide) rfl ?_
      refine jr_iload hG 7 dX3_obeys_20 rfl ?_
      refine jr_if_le hG 53 dX3_obeys_22 (by decide) (fun _ => ?_) (fun _ => ?_)
      · refine jr_sub (lv' := [(0, .ref (E.B + a0)), (1, .int v1), (2, .int v2), (3, .int v3), (4, .int v4), (5, .int v5), (6, .int v6), (7, .int x1)]) [1, 2, 3, 4, 5, 6, 7, 0] rfl ?_
        exact w_X3_obeys_53 N hG hr hk ih a0 v1 v2 v3 v4 v5 v6 x1 ha0 (σ)
      · refine jr_aload_n hG 1 dX3_obeys_25 rfl rfl ?_
        refine jr_getR hG fi_RX3_9 rfl (okO_s ha0) (okO_l ha0) dX3_obeys_26 (fun o2 ho2 => ?_)
        refine jr_iload hG 0 dX3_obeys_29 rfl ?_
        refine jr_iload_n hG 3 dX3_obeys_31 rfl rfl ?_
        refine jr_isub hG dX3_obeys_32 ?_
        refine jr_iald hG (okA_s (by decide) ho2) (okA_l ho2) dX3_obeys_33 ?_
        refine jr_aload_n hG 1 dX3_obeys_34 rfl rfl ?_
        refine jr_getR hG fi_RX3_9 rfl (okO_s ha0) (okO_l ha0) dX3_obeys_35 (fun o3 ho3 => ?_)
        refine jr_iload hG 0 dX3_obeys_38 rfl ?_
        refine jr_iald hG (okA_s (by decide) ho3) (okA_l ho3) dX3_obeys_40 ?_
        refine jr_iload hG 6 dX3_obeys_41 rfl ?_
        refine jr_iload hG 5 dX3_obeys_43 rfl ?_
        refine jr_callSi (As := [.int (gi σ o2 (ix (x1 - v2))), .int (gi σ o3 (ix x1)), .int v5, .int v4]) hG (c_X3_follows l E N (gi σ o2 (ix (x1 - v2))) (gi σ o3 (ix x1)) v5 v4 (σ)) ci_X3_follows wd_637 wd_638 ⟨rfl, rfl, Nat.le_of_ble_eq_true rfl, Nat.le_of_ble_eq_true rfl⟩ rfl rfl (Nat.le_of_ble_eq_true rfl) dX3_obeys_45 ⟨Nat.le_refl _, Nat.le_refl _⟩ (fun r5 t4 => ?_)
        refine jr_if_ne hG 53 dX3_obeys_48 (by decide) (fun _ => ?_) (fun _ => ?_)
        · refine jr_sub (lv' := [(0, .ref (E.B + a0)), (1, .int v1), (2, .int v2), (3, .int v3), (4, .int v4), (5, .int v5), (6, .int v6), (7, .int x1)]) [1, 2, 3, 4, 5, 6, 7, 0] rfl ?_
          exact w_X3_obeys_53 N hG hr hk ih a0 v1 v2 v3 v4 v5 v6 x1 ha0 t4
        · refine jr_iconst (v := (0 : Int32)) hG dX3_obeys_51 (by decide) ?_
          exact jr_zret hG hr hk (by decide) dX3_obeys_52
def f_X3_obeys (N : Nat) (a0 : Nat) (v1 : Int32) (v2 : Int32) (v3 : Int32) (v4 : Int32) (σ : Mm) : Option (Int32 × Mm) := if okO 3 a0 then (f_X3_obeys_6 N N a0 v1 v2 v3 v4 (0 : Int32) (0 : Int32) (σ)) else none
set_option maxRecDepth 20000 in
theorem c_X3_obeys (l : Launch) (E : XE) (N : Nat) (a0 : Nat) (v1 : Int32) (v2 : Int32) (v3 : Int32) (v4 : Int32) (σ : Mm) : ∀ r0, f_X3_obeys N a0 v1 v2 v3 v4 σ = some r0 → Met l yX3_obeys [Cond.code yX3_obeys cX3_obeys 8 (some .boolean)] rm_X3_obeys (xPc E (NT + 0) σ [.ref (E.B + a0), .int v1, .int v2, .int v3, .int v4]) (xQi E (NT + 0) r0) 0 0 (xA E) := by
  refine met_of (N0 := NT) (by decide +kernel) (Nat.le_of_ble_eq_true rfl) ?_
  intro p e s m args below meth c hG hr hk _
  show JR E NT 8 p l e rm_X3_obeys s m args below meth c 0 0 (fun r => MQ below (xQi E (NT + 0) r) args s 0 0 (xA E)) 0 [(0, .ref (E.B + a0)), (1, .int v1), (2, .int v2), (3, .int v3), (4, .int v4)] [] σ (if okO 3 a0 then (f_X3_obeys_6 N N a0 v1 v2 v3 v4 (0 : Int32) (0 : Int32) (σ)) else none)
  refine jr_guard (fun ha0 => ?_)
  refine jr_iconst (v := (0 : Int32)) hG dX3_obeys_0 (by decide) ?_
  refine jr_istore (lv' := [(5, .int (0 : Int32)), (0, .ref (E.B + a0)), (1, .int v1), (2, .int v2), (3, .int v3), (4, .int v4)]) hG dX3_obeys_1 (by decide) rfl ?_
  refine jr_iconst (v := (0 : Int32)) hG dX3_obeys_3 (by decide) ?_
  refine jr_istore (lv' := [(6, .int (0 : Int32)), (5, .int (0 : Int32)), (0, .ref (E.B + a0)), (1, .int v1), (2, .int v2), (3, .int v3), (4, .int v4)]) hG dX3_obeys_4 (by decide) rfl ?_
  refine jr_sub (lv' := [(0, .ref (E.B + a0)), (1, .int v1), (2, .int v2), (3, .int v3), (4, .int v4), (5, .int (0 : Int32)), (6, .int (0 : Int32))]) [2, 3, 4, 5, 6, 1, 0] rfl ?_
  exact w_X3_obeys_6 N hG hr hk N a0 v1 v2 v3 v4 (0 : Int32) (0 : Int32) ha0 (σ)
