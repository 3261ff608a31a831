-- TonguesDealt$Day.begin(LTonguesDealt$Plan;)V
abbrev rm_X0_begin : Room := { frames := 0, cells := 0, slots := 0, locals := 0 }
theorem ci_X0_begin : CIx yX0_begin cX0_begin 3 none 1 := ⟨wd_386, wd_73, by decide +kernel⟩
def f_X0_begin_20 (N : Nat)  : Nat → Nat → Nat → Int32 → Mm → Option (Mm)
  | 0 => fun _ _ _ _ => none
  | n + 1 => fun a0 a1 v2 σ => if (gi σ a0 5) ≤ v2 then (some (σ)) else (bR (gr σ a0 0) (okA 0) (fun o4 => if inb v2 (arL o4) then (lt (si σ o4 (ix v2) (0 : Int32)) (fun t5 => bR (gr t5 a0 1) (okA 0) (fun o6 => bR (gr t5 a1 3) (okA 0) (fun o7 => if inb v2 (arL o7) then (if inb v2 (arL o6) then (lt (si t5 o6 (ix v2) (gi t5 o7 (ix v2))) (fun t8 => f_X0_begin_20 N n a0 a1 (v2 + (1 : Int32)) t8)) else none) else none)))) else none))
set_option maxRecDepth 20000 in
theorem w_X0_begin_20 {p : Program} {l : Launch} {e : Env} {s : State} {m : MethodId} {args : Array Value} {below : List Frame} {meth : Method} {c : Code} {E : XE} (N : Nat) (hG : GG E NT 3 RX0 cX0_begin p s m args c) (hr : meth.sig.returnType = none) (hk : meth.locks = false)  : ∀ (n : Nat) (a0 : Nat) (a1 : Nat) (v2 : Int32) (ha0 : okO 0 a0 = true) (ha1 : okO 2 a1 = true) (σ : Mm), JR E NT 3 p l e rm_X0_begin s m args below meth c 0 0 (fun r => MQ below (xQv E (NT + 0) r) args s 0 0 (xA E)) 20 [(0, .ref (E.B + a0)), (1, .ref (E.B + a1)), (2, .int v2)] [] σ (f_X0_begin_20 N n a0 a1 v2 σ) := by
  intro n
  induction n with
  | zero => intro a0 a1 v2 ha0 ha1 σ r hX; cases hX
  | succ n ih =>
    intro a0 a1 v2 ha0 ha1 σ
    show JR E NT 3 p l e rm_X0_begin s m args below meth c 0 0 (fun r => MQ below (xQv E (NT + 0) r) args s 0 0 (xA E)) 20 [(0, .ref (E.B + a0)), (1, .ref (E.B + a1)), (2, .int v2)] [] σ (if (gi σ a0 5) ≤ v2 then (some (σ)) else (bR (gr σ a0 0) (okA 0) (fun o4 => if inb v2 (arL o4) then (lt (si σ o4 (ix v2) (0 : Int32)) (fun t5 => bR (gr t5 a0 1) (okA 0) (fun o6 => bR (gr t5 a1 3) (okA 0) (fun o7 => if inb v2 (arL o7) then (if inb v2 (arL o6) then (lt (si t5 o6 (ix v2) (gi t5 o7 (ix v2))) (fun t8 => f_X0_begin_20 N n a0 a1 (v2 + (1 : Int32)) t8)) else none) else none)))) else none)))
    refine jr_iload_n hG 2 dX0_begin_20 rfl rfl ?_
    refine jr_aload_n hG 0 dX0_begin_21 rfl rfl ?_
    refine jr_getI hG fi_RX0_27 rfl (okO_s ha0) (okO_l ha0) dX0_begin_22 ?_
    refine jr_icmp_ge hG 53 dX0_begin_25 (by decide) (fun _ => ?_) (fun _ => ?_)
    · exact jr_vret hG hr hk dX0_begin_53
    · refine jr_aload_n hG 0 dX0_begin_28 rfl rfl ?_
      refine jr_getR hG fi_RX0_9 rfl (okO_s ha0) (okO_l ha0) dX0_begin_29 (fun o4 ho4 => ?_)
      refine jr_iload_n hG 2 dX0_begin_32 rfl rfl ?_
      refine jr_iconst (v := (0 : Int32)) hG dX0_begin_33 (by decide) ?_
      refine jr_iast hG (okA_s (by decide) ho4) (okA_l ho4) dX0_begin_34 ?_
      refine jr_lets (fun t5 _ => ?_)
      refine jr_aload_n hG 0 dX0_begin_35 rfl rfl ?_
      refine jr_getR hG fi_RX0_15 rfl (okO_s ha0) (okO_l ha0) dX0_begin_36 (fun o6 ho6 => ?_)
      refine jr_iload_n hG 2 dX0_begin_39 rfl rfl ?_
      refine jr_aload_n hG 1 dX0_begin_40 rfl rfl ?_
      refine jr_getR hG fi_RX0_41 rfl (okO_s ha1) (okO_l ha1) dX0_begin_41 (fun o7 ho7 => ?_)
      refine jr_iload_n hG 2 dX0_begin_44 rfl rfl ?_
      refine jr_iald hG (okA_s (by decide) ho7) (okA_l ho7) dX0_begin_45 ?_
      refine jr_iast hG (okA_s (by decide) ho6) (okA_l ho6) dX0_begin_46 ?_
      refine jr_lets (fun t8 _ => ?_)
      refine jr_iinc (v := v2 + (1 : Int32)) (lv' := [(2, .int (v2 + (1 : Int32))), (0, .ref (E.B + a0)), (1, .ref (E.B + a1))]) hG 2 dX0_begin_47 rfl rfl (by decide) rfl ?_
      refine jr_goto hG 20 dX0_begin_50 (by decide) ?_
      refine jr_sub (lv' := [(0, .ref (E.B + a0)), (1, .ref (E.B + a1)), (2, .int (v2 + (1 : Int32)))]) [1, 2, 0] rfl ?_
      exact ih a0 a1 (v2 + (1 : Int32)) ha0 ha1 t8
def f_X0_begin (N : Nat) (a0 : Nat) (a1 : Nat) (σ : Mm) : Option (Mm) := if okO 0 a0 then (if okO 2 a1 then (lt (si σ a0 5 (gi σ a1 8)) (fun t1 => lt (si t1 a0 6 (0 : Int32)) (fun t2 => lt (si t2 a0 7 (0 : Int32)) (fun t3 => f_X0_begin_20 N N a0 a1 (0 : Int32) t3)))) else none) else none
set_option maxRecDepth 20000 in
theorem c_X0_begin (l : Launch) (E : XE) (N : Nat) (a0 : Nat) (a1 : Nat) (σ : Mm) : ∀ r0, f_X0_begin N a0 a1 σ = some r0 → Met l yX0_begin [Cond.code yX0_begin cX0_begin 3 none] rm_X0_begin (xPc E (NT + 0) σ [.ref (E.B + a0), .ref (E.B + a1)]) (xQv E (NT + 0) r0) 0 0 (xA E) := by
  refine met_of (N0 := NT) (by decide +kernel) (Nat.le_of_ble_eq_true rfl) ?_
  intro p e s m args below meth c hG hr hk _
  show JR E NT 3 p l e rm_X0_begin s m args below meth c 0 0 (fun r => MQ below (xQv E (NT + 0) r) args s 0 0 (xA E)) 0 [(0, .ref (E.B + a0)), (1, .ref (E.B + a1))] [] σ (if okO 0 a0 then (if okO 2 a1 then (lt (si σ a0 5 (gi σ a1 8)) (fun t1 => lt (si t1 a0 6 (0 : Int32)) (fun t2 => lt (si t2 a0 7 (0 : Int32)) (fun t3 => f_X0_begin_20 N N a0 a1 (0 : Int32) t3)))) else none) else none)
  refine jr_guard (fun ha0 => ?_)
  refine jr_guard (fun ha1 => ?_)
  refine jr_aload_n hG 0 dX0_begin_0 rfl rfl ?_
  refine jr_aload_n hG 1 dX0_begin_1 rfl rfl ?_
  refine jr_getI hG fi_RX0_38 rfl (okO_s ha1) (okO_l ha1) dX0_begin_2 ?_
  refine jr_putI hG fi_RX0_27 rfl rfl (okO_s ha0) (okO_l ha0) dX0_begin_5 ?_
  refine jr_lets (fun t1 _ => ?_)
  refine jr_aload_n hG 0 dX0_begin_8 rfl rfl ?_
  refine jr_iconst (v := (0 : Int32)) hG dX0_begin_9 (by decide) ?_
  refine jr_putI hG fi_RX0_31 rfl rfl (okO_s ha0) (okO_l ha0) dX0_begin_10 ?_
  refine jr_lets (fun t2 _ => ?_)
  refine jr_aload_n hG 0 dX0_begin_13 rfl rfl ?_
  refine jr_iconst (v := (0 : Int32)) hG dX0_begin_14 (by decide) ?_
  refine jr_putZ hG fi_RX0_34 rfl rfl (okO_s ha0) (okO_l ha0) (by decide) dX0_begin_15 ?_
  refine jr_lets (fun t3 _ => ?_)
  refine jr_iconst (v := (0 : Int32)) hG dX0_begin_18 (by decide) ?_
  refine jr_istore_n (lv' := [(2, .int (0 : Int32)), (0, .ref (E.B + a0)), (1, .ref (E.B + a1))]) hG dX0_begin_19 rfl (by decide) rfl ?_
  refine jr_sub (lv' := [(0, .ref (E.B + a0)), (1, .ref (E.B + a1)), (2, .int (0 : Int32))]) [1, 2, 0] rfl ?_
  exact w_X0_begin_20 N hG hr hk N a0 a1 (0 : Int32) ha0 ha1 t3
-- TonguesDealt$Day.takeTermsFrom(LTonguesDealt$Day;)V
abbrev rm_X0_takeTermsFrom : Room := { frames := 0, cells := 0, slots := 0, locals := 0 }
theorem ci_X0_takeTermsFrom : CIx yX0_takeTermsFrom cX0_takeTermsFrom 3 none 1 := ⟨wd_565, wd_73, by decide +kernel⟩
def f_X0_takeTermsFrom_18 (N : Nat)  : Nat → Nat → Nat → Int32 → Mm → Option (Mm)
  | 0 => fun _ _ _ _ => none
  | n + 1 => fun a0 a1 v2 σ => if (gi σ a0 5) ≤ v2 then (some (σ)) else (bR (gr σ a0 1) (okA 0) (fun o3 => bR (gr σ a1 1) (okA 0) (fun o4 => if inb v2 (arL o4) then (if inb v2 (arL o3) then (lt (si σ o3 (ix v2) (gi σ o4 (ix v2))) (fun t5 => f_X0_takeTermsFrom_18 N n a0 a1 (v2 + (1 : Int32)) t5)) else none) else none)))
set_option maxRecDepth 20000 in
theorem w_X0_takeTermsFrom_18 {p : Program} {l : Launch} {e : Env} {s : State} {m : MethodId} {args : Array Value} {below : List Frame} {meth : Method} {c : Code} {E : XE} (N : Nat) (hG : GG E NT 3 RX0 cX0_takeTermsFrom p s m args c) (hr : meth.sig.returnType = none) (hk : meth.locks = false)  : ∀ (n : Nat) (a0 : Nat) (a1 : Nat) (v2 : Int32) (ha0 : okO 0 a0 = true) (ha1 : okO 0 a1 = true) (σ : Mm), JR E NT 3 p l e rm_X0_takeTermsFrom s m args below meth c 0 0 (fun r => MQ below (xQv E (NT + 0) r) args s 0 0 (xA E)) 18 [(0, .ref (E.B + a0)), (1, .ref (E.B + a1)), (2, .int v2)] [] σ (f_X0_takeTermsFrom_18 N n a0 a1 v2 σ) := by
  intro n
  induction n with
  | zero => intro a0 a1 v2 ha0 ha1 σ r hX; cases hX
  | succ n ih =>
    intro a0 a1 v2 ha0 ha1 σ
    show JR E NT 3 p l e rm_X0_takeTermsFrom s m args below meth c 0 0 (fun r => MQ below (xQv E (NT + 0) r) args s 0 0 (xA E)) 18 [(0, .ref (E.B + a0)), (1, .ref (E.B + a1)), (2, .int v2)] [] σ (if (gi σ a0 5) ≤ v2 then (some (σ)) else (bR (gr σ a0 1) (okA 0) (fun o3 => bR (gr σ a1 1) (okA 0) (fun o4 => if inb v2 (arL o4) then (if inb v2 (arL o3) then (lt (si σ o3 (ix v2) (gi σ o4 (ix v2))) (fun t5 => f_X0_takeTermsFrom_18 N n a0 a1 (v2 + (1 : Int32)) t5)) else none) else none))))
    refine jr_iload_n hG 2 dX0_takeTermsFrom_18 rfl rfl ?_
    refine jr_aload_n hG 0 dX0_takeTermsFrom_19 rfl rfl ?_
    refine jr_getI hG fi_RX0_27 rfl (okO_s ha0) (okO_l ha0) dX0_takeTermsFrom_20 ?_
    refine jr_icmp_ge hG 44 dX0_takeTermsFrom_23 (by decide) (fun _ => ?_) (fun _ => ?_)
    · exact jr_vret hG hr hk dX0_takeTermsFrom_44
    · refine jr_aload_n hG 0 dX0_takeTermsFrom_26 rfl rfl ?_
      refine jr_getR hG fi_RX0_15 rfl (okO_s ha0) (okO_l ha0) dX0_takeTermsFrom_27 (fun o3 ho3 => ?_)
      refine jr_iload_n hG 2 dX0_takeTermsFrom_30 rfl rfl ?_
      refine jr_aload_n hG 1 dX0_takeTermsFrom_31 rfl rfl ?_
      refine jr_getR hG fi_RX0_15 rfl (okO_s ha1) (okO_l ha1) dX0_takeTermsFrom_32 (fun o4 ho4 => ?_)
      refine jr_iload_n hG 2 dX0_takeTermsFrom_35 rfl rfl ?_
      refine jr_iald hG (okA_s (by decide) ho4) (okA_l ho4) dX0_takeTermsFrom_36 ?_
      refine jr_iast hG (okA_s (by decide) ho3) (okA_l ho3) dX0_takeTermsFrom_37 ?_
      refine jr_lets (fun t5 _ => ?_)
      refine jr_iinc (v := v2 + (1 : Int32)) (lv' := [(2, .int (v2 + (1 : Int32))), (0, .ref (E.B + a0)), (1, .ref (E.B + a1))]) hG 2 dX0_takeTermsFrom_38 rfl rfl (by decide) rfl ?_
      refine jr_goto hG 18 dX0_takeTermsFrom_41 (by decide) ?_
      refine jr_sub (lv' := [(0, .ref (E.B + a0)), (1, .ref (E.B + a1)), (2, .int (v2 + (1 : Int32)))]) [1, 2, 0] rfl ?_
      exact ih a0 a1 (v2 + (1 : Int32)) ha0 ha1 t5
def f_X0_takeTermsFrom (N : Nat) (a0 : Nat) (a1 : Nat) (σ : Mm) : Option (Mm) := if okO 0 a0 then (if okO 0 a1 then (lt (si σ a0 5 (gi σ a1 5)) (fun t1 => if bz (gi t1 a1 7) then (lt (si t1 a0 7 (gi t1 a1 7)) (fun t2 => f_X0_takeTermsFrom_18 N N a0 a1 (0 : Int32) t2)) else none)) else none) else none
set_option maxRecDepth 20000 in
theorem c_X0_takeTermsFrom (l : Launch) (E : XE) (N : Nat) (a0 : Nat) (a1 : Nat) (σ : Mm) : ∀ r0, f_X0_takeTermsFrom N a0 a1 σ = some r0 → Met l yX0_takeTermsFrom [Cond.code yX0_takeTermsFrom cX0_takeTermsFrom 3 none] rm_X0_takeTermsFrom (xPc E (NT + 0) σ [.ref (E.B + a0), .ref (E.B + a1)]) (xQv E (NT + 0) r0) 0 0 (xA E) := by
  refine met_of (N0 := NT) (by decide +kernel) (Nat.le_of_ble_eq_true rfl) ?_
  intro p e s m args below meth c hG hr hk _
  show JR E NT 3 p l e rm_X0_takeTermsFrom s m args below meth c 0 0 (fun r => MQ below (xQv E (NT + 0) r) args s 0 0 (xA E)) 0 [(0, .ref (E.B + a0)), (1, .ref (E.B + a1))] [] σ (if okO 0 a0 then (if okO 0 a1 then (lt (si σ a0 5 (gi σ a1 5)) (fun t1 => if bz (gi t1 a1 7) then (lt (si t1 a0 7 (gi t1 a1 7)) (fun t2 => f_X0_takeTermsFrom_18 N N a0 a1 (0 : Int32) t2)) else none)) else none) else none)
  refine jr_guard (fun ha0 => ?_)
  refine jr_guard (fun ha1 => ?_)
  refine jr_aload_n hG 0 dX0_takeTermsFrom_0 rfl rfl ?_
  refine jr_aload_n hG 1 dX0_takeTermsFrom_1 rfl rfl ?_
  refine jr_getI hG fi_RX0_27 rfl (okO_s ha1) (okO_l ha1) dX0_takeTermsFrom_2 ?_
  refine jr_putI hG fi_RX0_27 rfl rfl (okO_s ha0) (okO_l ha0) dX0_takeTermsFrom_5 ?_
  refine jr_lets (fun t1 _ => ?_)
  refine jr_aload_n hG 0 dX0_takeTermsFrom_8 rfl rfl ?_
  refine jr_aload_n hG 1 dX0_takeTermsFrom_9 rfl rfl ?_
  refine jr_getZ hG fi_RX0_34 rfl (okO_s ha1) (okO_l ha1) dX0_takeTermsFrom_10 ?_
  refine jr_guard (fun hz => ?_)
  refine jr_putZ hG fi_RX0_34 rfl rfl (okO_s ha0) (okO_l ha0) hz dX0_takeTermsFrom_13 ?_
  refine jr_lets (fun t2 _ => ?_)
  refine jr_iconst (v := (0 : Int32)) hG dX0_takeTermsFrom_16 (by decide) ?_
  refine jr_istore_n (lv' := [(2, .int (0 : Int32)), (0, .ref (E.B + a0)), (1, .ref (E.B + a1))]) hG dX0_takeTermsFrom_17 rfl (by decide) rfl ?_
  refine jr_sub (lv' := [(0, .ref (E.B + a0)), (1, .ref (E.B + a1)), (2, .int (0 : Int32))]) [1, 2, 0] rfl ?_
  exact w_X0_takeTermsFrom_18 N hG hr hk N a0 a1 (0 : Int32) ha0 ha1 t2
-- TonguesDealt$Day.dealOut(LTonguesDealt$Plan;I)V
abbrev rm_X0_dealOut : Room := { frames := 0, cells := 0, slots := 0, locals := 0 }
theorem ci_X0_dealOut : CIx yX0_dealOut cX0_dealOut 4 none 2 := ⟨wd_394, wd_73, by decide +kernel⟩
def f_X0_dealOut_2 (N : Nat)  : Nat → Nat → Nat → Int32 → Int32 → Mm → Option (Mm)
  | 0 => fun _ _ _ _ _ => none
  | n + 1 => fun a0 a1 v2 v3 σ => if (gi σ a1 8) ≤ v3 then (some (σ)) else (bR (gr σ a0 0) (okA 0) (fun o1 => bR (gr σ a1 6) (okA 0) (fun o2 => if inb v3 (arL o2) then (if inb v3 (arL o1) then (lt (si σ o1 (ix v3) ((v2 >>> (((2 : Int32) * (gi σ o2 (ix v3))) &&& 31)) - (v2 >>> (((2 : Int32) * (gi σ o2 (ix v3))) &&& 31)) / (4 : Int32) * (4 : Int32))) (fun t3 => f_X0_dealOut_2 N n a0 a1 v2 (v3 + (1 : Int32)) t3)) else none) else none)))
set_option maxRecDepth 20000 in
theorem w_X0_dealOut_2 {p : Program} {l : Launch} {e : Env} {s : State} {m : MethodId} {args : Array Value} {below : List Frame} {meth : Method} {c : Code} {E : XE} (N : Nat) (hG : GG E NT 4 RX0 cX0_dealOut p s m args c) (hr : meth.sig.returnType = none) (hk : meth.locks = false)  : ∀ (n : Nat) (a0 : Nat) (a1 : Nat) (v2 : Int32) (v3 : Int32) (ha0 : okO 0 a0 = true) (ha1 : okO 2 a1 = true) (σ : Mm), JR E NT 4 p l e rm_X0_dealOut s m args below meth c 0 0 (fun r => MQ below (xQv E (NT + 0) r) args s 0 0 (xA E)) 2 [(0, .ref (E.B + a0)), (1, .ref (E.B + a1)), (2, .int v2), (3, .int v3)] [] σ (f_X0_dealOut_2 N n a0 a1 v2 v3 σ) := by
  intro n
  induction n with
  | zero => intro a0 a1 v2 v3 ha0 ha1 σ r hX; cases hX
  | succ n ih =>
    intro a0 a1 v2 v3 ha0 ha1 σ
    show JR E NT 4 p l e rm_X0_dealOut s m args below meth c 0 0 (fun r => MQ below (xQv E (NT + 0) r) args s 0 0 (xA E)) 2 [(0, .ref (E.B + a0)), (1, .ref (E.B + a1)), (2, .int v2), (3, .int v3)] [] σ (if (gi σ a1 8) ≤ v3 then (some (σ)) else (bR (gr σ a0 0) (okA 0) (fun o1 => bR (gr σ a1 6) (okA 0) (fun o2 => if inb v3 (arL o2) then (if inb v3 (arL o1) then (lt (si σ o1 (ix v3) ((v2 >>> (((2 : Int32) * (gi σ o2 (ix v3))) &&& 31)) - (v2 >>> (((2 : Int32) * (gi σ o2 (ix v3))) &&& 31)) / (4 : Int32) * (4 : Int32))) (fun t3 => f_X0_dealOut_2 N n a0 a1 v2 (v3 + (1 : Int32)) t3)) else none) else none))))
    refine jr_iload_n hG 3 dX0_dealOut_2 rfl rfl ?_
    refine jr_aload_n hG 1 dX0_dealOut_3 rfl rfl ?_
    refine jr_getI hG fi_RX0_38 rfl (okO_s ha1) (okO_l ha1) dX0_dealOut_4 ?_
    refine jr_icmp_ge hG 34 dX0_dealOut_7 (by decide) (fun _ => ?_) (fun _ => ?_)
    · exact jr_vret hG hr hk dX0_dealOut_34
    · refine jr_aload_n hG 0 dX0_dealOut_10 rfl rfl ?_
      refine jr_getR hG fi_RX0_9 rfl (okO_s ha0) (okO_l ha0) dX0_dealOut_11 (fun o1 ho1 => ?_)
      refine jr_iload_n hG 3 dX0_dealOut_14 rfl rfl ?_
      refine jr_iload_n hG 2 dX0_dealOut_15 rfl rfl ?_
      refine jr_iconst (v := (2 : Int32)) hG dX0_dealOut_16 (by decide) ?_
      refine jr_aload_n hG 1 dX0_dealOut_17 rfl rfl ?_
      refine jr_getR hG fi_RX0_46 rfl (okO_s ha1) (okO_l ha1) dX0_dealOut_18 (fun o2 ho2 => ?_)
      refine jr_iload_n hG 3 dX0_dealOut_21 rfl rfl ?_
      refine jr_iald hG (okA_s (by decide) ho2) (okA_l ho2) dX0_dealOut_22 ?_
      refine jr_imul hG dX0_dealOut_23 ?_
      refine jr_ishr hG dX0_dealOut_24 ?_
      refine jr_iconst (v := (4 : Int32)) hG dX0_dealOut_25 (by decide) ?_
      refine jr_iremc hG dX0_dealOut_26 (by decide) ?_
      refine jr_iast hG (okA_s (by decide) ho1) (okA_l ho1) dX0_dealOut_27 ?_
      refine jr_lets (fun t3 _ => ?_)
      refine jr_iinc (v := v3 + (1 : Int32)) (lv' := [(3, .int (v3 + (1 : Int32))), (0, .ref (E.B + a0)), (1, .ref (E.B + a1)), (2, .int v2)]) hG 3 dX0_dealOut_28 rfl rfl (by decide) rfl ?_
      refine jr_goto hG 2 dX0_dealOut_31 (by decide) ?_
      refine jr_sub (lv' := [(0, .ref (E.B + a0)), (1, .ref (E.B + a1)), (2, .int v2), (3, .int (v3 + (1 : Int32)))]) [1, 2, 3, 0] rfl ?_
      exact ih a0 a1 v2 (v3 + (1 : Int32)) ha0 ha1 t3
def f_X0_dealOut (N : Nat) (a0 : Nat) (a1 : Nat) (v2 : Int32) (σ : Mm) : Option (Mm) := if okO 0 a0 then (if okO 2 a1 then (f_X0_dealOut_2 N N a0 a1 v2 (0 : Int32) (σ)) else none) else none
set_option maxRecDepth 20000 in
theorem c_X0_dealOut (l : Launch) (E : XE) (N : Nat) (a0 : Nat) (a1 : Nat) (v2 : Int32) (σ : Mm) : ∀ r0, f_X0_dealOut N a0 a1 v2 σ = some r0 → Met l yX0_dealOut [Cond.code yX0_dealOut cX0_dealOut 4 none] rm_X0_dealOut (xPc E (NT + 0) σ [.ref (E.B + a0), .ref (E.B + a1), .int v2]) (xQv E (NT + 0) r0) 0 0 (xA E) := by
  refine met_of (N0 := NT) (by decide +kernel) (Nat.le_of_ble_eq_true rfl) ?_
  intro p e s m args below meth c hG hr hk _
  show JR E NT 4 p l e rm_X0_dealOut s m args below meth c 0 0 (fun r => MQ below (xQv E (NT + 0) r) args s 0 0 (xA E)) 0 [(0, .ref (E.B + a0)), (1, .ref (E.B + a1)), (2, .int v2)] [] σ (if okO 0 a0 then (if okO 2 a1 then (f_X0_dealOut_2 N N a0 a1 v2 (0 : Int32) (σ)) else none) else none)
  refine jr_guard (fun ha0 => ?_)
  refine jr_guard (fun ha1 => ?_)
  refine jr_iconst (v := (0 : Int32)) hG dX0_dealOut_0 (by decide) ?_
  refine jr_istore_n (lv' := [(3, .int (0 : Int32)), (0, .ref (E.B + a0)), (1, .ref (E.B + a1)), (2, .int v2)]) hG dX0_dealOut_1 rfl (by decide) rfl ?_
  refine jr_sub (lv' := [(0, .ref (E.B + a0)), (1, .ref (E.B + a1)), (2, .int v2), (3, .int (0 : Int32))]) [1, 2, 3, 0] rfl ?_
  exact w_X0_dealOut_2 N hG hr hk N a0 a1 v2 (0 : Int32) ha0 ha1 (σ)
-- TonguesDealt$Day.live(IILTonguesDealt$Plan;)V
abbrev rm_X0_live : Room := { frames := 1, cells := 0, slots := 0, locals := 23 }
theorem ci_X0_live : CIx yX0_live cX0_live 6 none 3 := ⟨wd_390, wd_73, by decide +kernel⟩
def f_X0_live (N : Nat) (a0 : Nat) (v1 : Int32) (v2 : Int32) (a3 : Nat) (σ : Mm) : Option (Mm) := if okO 0 a0 then (if okO 2 a3 then (if v1 = 0 then (lt (si σ a0 6 ((gi σ a0 6) + (1 : Int32))) (fun t8 => lt (si t8 a0 7 (0 : Int32)) (fun t9 => bV (f_X0_dealOut N a0 a3 v2 t9) (fun t10 => some t10)))) else (if v1 = (1 : Int32) then (lt (si σ a0 7 (1 : Int32)) (fun t7 => some t7)) else (lt (v2 / (6 : Int32)) (fun x1 => lt (v2 - v2 / (6 : Int32) * (6 : Int32)) (fun x2 => bR (gr σ a0 1) (okA 0) (fun o3 => if inb x1 (arL o3) then (if inb x1 (arL o3) then (lt (si σ o3 (ix x1) ((gi σ o3 (ix x1)) ||| ((1 : Int32) <<< (x2 &&& 31)))) (fun t4 => bR (gr t4 a0 1) (okA 0) (fun o5 => if inb x2 (arL o5) then (if inb x2 (arL o5) then (lt (si t4 o5 (ix x2) ((gi t4 o5 (ix x2)) ||| ((1 : Int32) <<< (x1 &&& 31)))) (fun t6 => some t6)) else none) else none))) else none) else none)))))) else none) else none
set_option maxRecDepth 20000 in
theorem c_X0_live (l : Launch) (E : XE) (N : Nat) (a0 : Nat) (v1 : Int32) (v2 : Int32) (a3 : Nat) (σ : Mm) : ∀ r0, f_X0_live N a0 v1 v2 a3 σ = some r0 → Met l yX0_live [Cond.code yX0_live cX0_live 6 none] rm_X0_live (xPc E (NT + 0) σ [.ref (E.B + a0), .int v1, .int v2, .ref (E.B + a3)]) (xQv E (NT + 0) r0) 0 0 (xA E) := by
  refine met_of (N0 := NT) (by decide +kernel) (Nat.le_of_ble_eq_true rfl) ?_
  intro p e s m args below meth c hG hr hk _
  show JR E NT 6 p l e rm_X0_live s m args below meth c 0 0 (fun r => MQ below (xQv E (NT + 0) r) args s 0 0 (xA E)) 0 [(0, .ref (E.B + a0)), (1, .int v1), (2, .int v2), (3, .ref (E.B + a3))] [] σ (if okO 0 a0 then (if okO 2 a3 then (if v1 = 0 then (lt (si σ a0 6 ((gi σ a0 6) + (1 : Int32))) (fun t8 => lt (si t8 a0 7 (0 : Int32)) (fun t9 => bV (f_X0_dealOut N a0 a3 v2 t9) (fun t10 => some t10)))) else (if v1 = (1 : Int32) then (lt (si σ a0 7 (1 : Int32)) (fun t7 => some t7)) else (lt (v2 / (6 : Int32)) (fun x1 => lt (v2 - v2 / (6 : Int32) * (6 : Int32)) (fun x2 => bR (gr σ a0 1) (okA 0) (fun o3 => if inb x1 (arL o3) then (if inb x1 (arL o3) then (lt (si σ o3 (ix x1) ((gi σ o3 (ix x1)) ||| ((1 : Int32) <<< (x2 &&& 31)))) (fun t4 => bR (gr t4 a0 1) (okA 0) (fun o5 => if inb x2 (arL o5) then (if inb x2 (arL o5) then (lt (si t4 o5 (ix x2) ((gi t4 o5 (ix x2)) ||| ((1 : Int32) <<< (x1 &&& 31)))) (fun t6 => some t6)) else none) else none))) else none) else none)))))) else none) else none)
  refine jr_guard (fun ha0 => ?_)
  refine jr_guard (fun ha3 => ?_)
  refine jr_iload_n hG 1 dX0_live_0 rfl rfl ?_
  refine jr_if_ne hG 28 dX0_live_1 (by decide) (fun _ => ?_) (fun _ => ?_)
  · refine jr_iload_n hG 1 dX0_live_28 rfl rfl ?_
    refine jr_iconst (v := (1 : Int32)) hG dX0_live_29 (by decide) ?_
    refine jr_icmp_ne hG 41 dX0_live_30 (by decide) (fun _ => ?_) (fun _ => ?_)
    · refine jr_iload_n hG 2 dX0_live_41 rfl rfl ?_
      refine jr_bipush (v := (6 : Int32)) hG dX0_live_42 (by decide) ?_
      refine jr_idivc hG dX0_live_44 (by decide) ?_
      refine jr_leti (fun x1 _ => ?_)
      refine jr_istore (lv' := [(4, .int x1), (0, .ref (E.B + a0)), (1, .int v1), (2, .int v2), (3, .ref (E.B + a3))]) hG dX0_live_45 (by decide) rfl ?_
      refine jr_iload_n hG 3 dX0_live_47 rfl rfl ?_
      refine jr_bipush (v := (6 : Int32)) hG dX0_live_48 (by decide) ?_
      refine jr_iremc hG dX0_live_50 (by decide) ?_
      refine jr_leti (fun x2 _ => ?_)
      refine jr_istore (lv' := [(5, .int x2), (4, .int x1), (0, .ref (E.B + a0)), (1, .int v1), (2, .int v2), (3, .ref (E.B + a3))]) hG dX0_live_51 (by decide) rfl ?_
      refine jr_aload_n hG 2 dX0_live_53 rfl rfl ?_
      refine jr_getR hG fi_RX0_15 rfl (okO_s ha0) (okO_l ha0) dX0_live_54 (fun o3 ho3 => ?_)
      refine jr_iload hG 1 dX0_live_57 rfl ?_
      refine jr_dup2 hG dX0_live_59 rfl rfl ?_
      refine jr_iald hG (okA_s (by decide) ho3) (okA_l ho3) dX0_live_60 ?_
      refine jr_iconst (v := (1 : Int32)) hG dX0_live_61 (by decide) ?_
      refine jr_iload hG 0 dX0_live_62 rfl ?_
      refine jr_ishl hG dX0_live_64 ?_
      refine jr_ior hG dX0_live_65 ?_
      refine jr_iast hG (okA_s (by decide) ho3) (okA_l ho3) dX0_live_66 ?_
      refine jr_lets (fun t4 _ => ?_)
      refine jr_aload_n hG 2 dX0_live_67 rfl rfl ?_
      refine jr_getR hG fi_RX0_15 rfl (okO_s ha0) (okO_l ha0) dX0_live_68 (fun o5 ho5 => ?_)
      refine jr_iload hG 0 dX0_live_71 rfl ?_
      refine jr_dup2 hG dX0_live_73 rfl rfl ?_
      refine jr_iald hG (okA_s (by decide) ho5) (okA_l ho5) dX0_live_74 ?_
      refine jr_iconst (v := (1 : Int32)) hG dX0_live_75 (by decide) ?_
      refine jr_iload hG 1 dX0_live_76 rfl ?_
      refine jr_ishl hG dX0_live_78 ?_
      refine jr_ior hG dX0_live_79 ?_
      refine jr_iast hG (okA_s (by decide) ho5) (okA_l ho5) dX0_live_80 ?_
      refine jr_lets (fun t6 _ => ?_)
      exact jr_vret hG hr hk dX0_live_81
    · refine jr_aload_n hG 0 dX0_live_33 rfl rfl ?_
      refine jr_iconst (v := (1 : Int32)) hG dX0_live_34 (by decide) ?_
      refine jr_putZ hG fi_RX0_34 rfl rfl (okO_s ha0) (okO_l ha0) (by decide) dX0_live_35 ?_
      refine jr_lets (fun t7 _ => ?_)
      refine jr_goto hG 81 dX0_live_38 (by decide) ?_
      exact jr_vret hG hr hk dX0_live_81
  · refine jr_aload_n hG 0 dX0_live_4 rfl rfl ?_
    refine jr_dup hG dX0_live_5 rfl ?_
    refine jr_getI hG fi_RX0_31 rfl (okO_s ha0) (okO_l ha0) dX0_live_6 ?_
    refine jr_iconst (v := (1 : Int32)) hG dX0_live_9 (by decide) ?_
    refine jr_iadd hG dX0_live_10 ?_
    refine jr_putI hG fi_RX0_31 rfl rfl (okO_s ha0) (okO_l ha0) dX0_live_11 ?_
    refine jr_lets (fun t8 _ => ?_)
    refine jr_aload_n hG 0 dX0_live_14 rfl rfl ?_
    refine jr_iconst (v := (0 : Int32)) hG dX0_live_15 (by decide) ?_
    refine jr_putZ hG fi_RX0_34 rfl rfl (okO_s ha0) (okO_l ha0) (by decide) dX0_live_16 ?_
    refine jr_lets (fun t9 _ => ?_)
    refine jr_aload_n hG 0 dX0_live_19 rfl rfl ?_
    refine jr_aload_n hG 3 dX0_live_20 rfl rfl ?_
    refine jr_iload_n hG 2 dX0_live_21 rfl rfl ?_
    refine jr_callVv (As := [.ref (E.B + a3), .int v2]) hG (c_X0_dealOut l E N a0 a3 v2 t9) ci_X0_dealOut wd_391 ⟨wd_392, wd_393⟩ cl_0 (okO_s ha0) (okO_l ha0) ⟨rfl, rfl, Nat.le_of_ble_eq_true rfl, Nat.le_of_ble_eq_true rfl⟩ rfl rfl (Nat.le_of_ble_eq_true rfl) dX0_live_22 ⟨Nat.le_refl _, Nat.le_refl _⟩ (fun t10 => ?_)
    refine jr_goto hG 81 dX0_live_25 (by decide) ?_
    exact jr_vret hG hr hk dX0_live_81
-- TonguesDealt.holds(II)Z
abbrev rm_X5_holds : Room := { frames := 0, cells := 0, slots := 0, locals := 0 }
theorem ci_X5_holds : CIx yX5_holds cX5_holds 2 (some .boolean) 2 := ⟨wd_367, wd_71, by decide +kernel⟩
def f_X5_holds (N : Nat) (v0 : Int32) (v1 : Int32) (σ : Mm) : Option (Int32 × Mm) := if ((v0 >>> (v1 &&& 31)) &&& (1 : Int32)) = 0 then (some ((0 : Int32), σ)) else (some ((1 : Int32), σ))
set_option maxRecDepth 20000 in
theorem c_X5_holds (l : Launch) (E : XE) (N : Nat) (v0 : Int32) (v1 : Int32) (σ : Mm) : ∀ r0, f_X5_holds N v0 v1 σ = some r0 → Met l yX5_holds [Cond.code yX5_holds cX5_holds 2 (some .boolean)] rm_X5_holds (xPc E (NT + 0) σ [.int v0, .int v1]) (xQi E (NT + 0) r0) 0 0 (xA E) := by
  refine met_of (N0 := NT) (by decide +kernel) (Nat.le_of_ble_eq_true rfl) ?_
  intro p e s m args below meth c hG hr hk _
  show JR E NT 2 p l e rm_X5_holds s m args below meth c 0 0 (fun r => MQ below (xQi E (NT + 0) r) args s 0 0 (xA E)) 0 [(0, .int v0), (1, .int v1)] [] σ (if ((v0 >>> (v1 &&& 31)) &&& (1 : Int32)) = 0 then (some ((0 : Int32), σ)) else (some ((1 : Int32), σ)))
  refine jr_iload_n hG 0 dX5_holds_0 rfl rfl ?_
  refine jr_iload_n hG 1 dX5_holds_1 rfl rfl ?_
  refine jr_ishr hG dX5_holds_2 ?_
  refine jr_iconst (v := (1 : Int32)) hG dX5_holds_3 (by decide) ?_
  refine jr_iand hG dX5_holds_4 ?_
  refine jr_if_eq hG 12 dX5_holds_5 (by decide) (fun _ => ?_) (fun _ => ?_)
  · refine jr_iconst (v := (0 : Int32)) hG dX5_holds_12 (by decide) ?_
    exact jr_zret hG hr hk (by decide) dX5_holds_13
  · refine jr_iconst (v := (1 : Int32)) hG dX5_holds_8 (by decide) ?_
    refine jr_goto hG 13 dX5_holds_9 (by decide) ?_
    exact jr_zret hG hr hk (by decide) dX5_holds_13
-- TonguesDealt$Plan.is(II)Z
abbrev rm_X2_is : Room := { frames := 1, cells := 0, slots := 0, locals := 21 }
theorem ci_X2_is : CIx yX2_is cX2_is 3 (some .boolean) 2 := ⟨wd_410, wd_74, by decide +kernel⟩
def f_X2_is (N : Nat) (a0 : Nat) (v1 : Int32) (v2 : Int32) (σ : Mm) : Option (Int32 × Mm) := if okO 2 a0 then (bR (gr σ a0 1) (okA 0) (fun o1 => if inb v2 (arL o1) then (bI (f_X5_holds N (gi σ o1 (ix v2)) v1 (σ)) (fun r3 t2 => if bz r3 then some (r3, t2) else none)) else none)) else none
set_option maxRecDepth 20000 in
theorem c_X2_is (l : Launch) (E : XE) (N : Nat) (a0 : Nat) (v1 : Int32) (v2 : Int32) (σ : Mm) : ∀ r0, f_X2_is N a0 v1 v2 σ = some r0 → Met l yX2_is [Cond.code yX2_is cX2_is 3 (some .boolean)] rm_X2_is (xPc E (NT + 0) σ [.ref (E.B + a0), .int v1, .int v2]) (xQi E (NT + 0) r0) 0 0 (xA E) := by
  refine met_of (N0 := NT) (by decide +kernel) (Nat.le_of_ble_eq_true rfl) ?_
  intro p e s m args below meth c hG hr hk _
  show JR E NT 3 p l e rm_X2_is s m args below meth c 0 0 (fun r => MQ below (xQi E (NT + 0) r) args s 0 0 (xA E)) 0 [(0, .ref (E.B + a0)), (1, .int v1), (2, .int v2)] [] σ (if okO 2 a0 then (bR (gr σ a0 1) (okA 0) (fun o1 => if inb v2 (arL o1) then (bI (f_X5_holds N (gi σ o1 (ix v2)) v1 (σ)) (fun r3 t2 => if bz r3 then some (r3, t2) else none)) else none)) else none)
  refine jr_guard (fun ha0 => ?_)
  refine jr_aload_n hG 0 dX2_is_0 rfl rfl ?_
  refine jr_getR hG fi_RX2_15 rfl (okO_s ha0) (okO_l ha0) dX2_is_1 (fun o1 ho1 => ?_)
  refine jr_iload_n hG 2 dX2_is_4 rfl rfl ?_
  refine jr_iald hG (okA_s (by decide) ho1) (okA_l ho1) dX2_is_5 ?_
  refine jr_iload_n hG 1 dX2_is_6 rfl rfl ?_
  refine jr_callNi (As := [.int (gi σ o1 (ix v2)), .int v1]) hG (c_X5_holds l E N (gi σ o1 (ix v2)) v1 (σ)) ci_X5_holds (List.mem_of_getElem? (i := 6) rfl) wd_366 ⟨rfl, rfl, Nat.le_of_ble_eq_true rfl, Nat.le_of_ble_eq_true rfl⟩ rfl rfl (Nat.le_of_ble_eq_true rfl) dX2_is_7 ⟨Nat.le_refl _, Nat.le_refl _⟩ (fun r3 t2 => ?_)
  refine jr_guard (fun hz => ?_)
  exact jr_zret hG hr hk hz dX2_is_10
-- TonguesDealt$Plan.knownBy(I[IZ)I
abbrev rm_X2_knownBy : Room := { frames := 2, cells := 0, slots := 0, locals := 43 }
theorem ci_X2_knownBy : CIx yX2_knownBy cX2_knownBy 5 (some .int) 3 := ⟨wd_406, wd_74, by decide +kernel⟩
def f_X2_knownBy_98 (N : Nat)  (s0 : Int32) (b1 : Nat) (s2 : Int32) (s3 : Int32) (σ : Mm) : Option (Int32 × Mm) := if inb s0 (arL b1) then (lt (s3 ||| (s2 <<< ((gi σ b1 (ix s0)) &&& 31))) (fun x10 => some (x10, σ))) else none
set_option maxRecDepth 20000 in
theorem w_X2_knownBy_98 {p : Program} {l : Launch} {e : Env} {s : State} {m : MethodId} {args : Array Value} {below : List Frame} {meth : Method} {c : Code} {E : XE} (N : Nat) (hG : GG E NT 5 RX2 cX2_knownBy p s m args c) (hr : meth.sig.returnType = (some .int)) (hk : meth.locks = false)  (s0 : Int32) (b1 : Nat) (s2 : Int32) (s3 : Int32) (hb1 : okA 0 b1 = true) (σ : Mm) : JR E NT 5 p l e rm_X2_knownBy s m args below meth c 0 0 (fun r => MQ below (xQi E (NT + 0) r) args s 0 0 (xA E)) 98 [] [.int s0, .ref (E.B + b1), .int s2, .int s3] σ (f_X2_knownBy_98 N s0 b1 s2 s3 σ) := by
  show JR E NT 5 p l e rm_X2_knownBy s m args below meth c 0 0 (fun r => MQ below (xQi E (NT + 0) r) args s 0 0 (xA E)) 98 [] [.int s0, .ref (E.B + b1), .int s2, .int s3] σ (if inb s0 (arL b1) then (lt (s3 ||| (s2 <<< ((gi σ b1 (ix s0)) &&& 31))) (fun x10 => some (x10, σ))) else none)
  refine jr_iald hG (okA_s (by decide) hb1) (okA_l hb1) dX2_knownBy_98 ?_
  refine jr_ishl hG dX2_knownBy_99 ?_
  refine jr_ior hG dX2_knownBy_100 ?_
  refine jr_leti (fun x10 _ => ?_)
  refine jr_istore (lv' := [(4, .int x10)]) hG dX2_knownBy_101 (by decide) rfl ?_
  refine jr_iload hG 0 dX2_knownBy_103 rfl ?_
  exact jr_iret hG hr hk dX2_knownBy_105
def f_X2_knownBy_69 (N : Nat)  (a0 : Nat) (v1 : Int32) (a2 : Nat) (v4 : Int32) (σ : Mm) : Option (Int32 × Mm) := bI (f_X2_is N a0 v1 (5 : Int32) (σ)) (fun r9 t8 => if r9 = 0 then (some (v4, t8)) else (if v1 ≤ 0 then (f_X2_knownBy_98 N ((gi t8 a0 8) - (1 : Int32)) a2 (1 : Int32) v4 t8) else (f_X2_knownBy_98 N (v1 - (1 : Int32)) a2 (1 : Int32) v4 t8)))
set_option maxRecDepth 20000 in
theorem w_X2_knownBy_69 {p : Program} {l : Launch} {e : Env} {s : State} {m : MethodId} {args : Array Value} {below : List Frame} {meth : Method} {c : Code} {E : XE} (N : Nat) (hG : GG E NT 5 RX2 cX2_knownBy p s m args c) (hr : meth.sig.returnType = (some .int)) (hk : meth.locks = false)  (a0 : Nat) (v1 : Int32) (a2 : Nat) (v4 : Int32) (ha0 : okO 2 a0 = true) (ha2 : okA 0 a2 = true) (σ : Mm) : JR E NT 5 p l e rm_X2_knownBy s m args below meth c 0 0 (fun r => MQ below (xQi E (NT + 0) r) args s 0 0 (xA E)) 69 [(0, .ref (E.B + a0)), (1, .int v1), (2, .ref (E.B + a2)), (4, .int v4)] [] σ (f_X2_knownBy_69 N a0 v1 a2 v4 σ) := by
  show JR E NT 5 p l e rm_X2_knownBy s m args below meth c 0 0 (fun r => MQ below (xQi E (NT + 0) r) args s 0 0 (xA E)) 69 [(0, .ref (E.B + a0)), (1, .int v1), (2, .ref (E.B + a2)), (4, .int v4)] [] σ (bI (f_X2_is N a0 v1 (5 : Int32) (σ)) (fun r9 t8 => if r9 = 0 then (some (v4, t8)) else (if v1 ≤ 0 then (f_X2_knownBy_98 N ((gi t8 a0 8) - (1 : Int32)) a2 (1 : Int32) v4 t8) else (f_X2_knownBy_98 N (v1 - (1 : Int32)) a2 (1 : Int32) v4 t8))))
  refine jr_aload_n hG 0 dX2_knownBy_69 rfl rfl ?_
  refine jr_iload_n hG 1 dX2_knownBy_70 rfl rfl ?_
  refine jr_iconst (v := (5 : Int32)) hG dX2_knownBy_71 (by decide) ?_
  refine jr_callVi (As := [.int v1, .int (5 : Int32)]) hG (c_X2_is l E N a0 v1 (5 : Int32) (σ)) ci_X2_is wd_407 ⟨wd_408, wd_409⟩ cl_2 (okO_s ha0) (okO_l ha0) ⟨rfl, rfl, Nat.le_of_ble_eq_true rfl, Nat.le_of_ble_eq_true rfl⟩ rfl rfl (Nat.le_of_ble_eq_true rfl) dX2_knownBy_72 ⟨Nat.le_refl _, Nat.le_refl _⟩ (fun r9 t8 => ?_)
  refine jr_if_eq hG 103 dX2_knownBy_75 (by decide) (fun _ => ?_) (fun _ => ?_)
  · refine jr_iload hG 3 dX2_knownBy_103 rfl ?_
    exact jr_iret hG hr hk dX2_knownBy_105
  · refine jr_iload hG 3 dX2_knownBy_78 rfl ?_
    refine jr_iconst (v := (1 : Int32)) hG dX2_knownBy_80 (by decide) ?_
    refine jr_aload_n hG 2 dX2_knownBy_81 rfl rfl ?_
    refine jr_iload_n hG 1 dX2_knownBy_82 rfl rfl ?_
    refine jr_if_le hG 92 dX2_knownBy_83 (by decide) (fun _ => ?_) (fun _ => ?_)
    · refine jr_aload_n hG 0 dX2_knownBy_92 rfl rfl ?_
      refine jr_getI hG fi_RX2_37 rfl (okO_s ha0) (okO_l ha0) dX2_knownBy_93 ?_
      refine jr_iconst (v := (1 : Int32)) hG dX2_knownBy_96 (by decide) ?_
      refine jr_isub hG dX2_knownBy_97 ?_
      refine jr_sub (lv' := []) [] rfl ?_
      exact w_X2_knownBy_98 N hG hr hk ((gi t8 a0 8) - (1 : Int32)) a2 (1 : Int32) v4 ha2 t8
    · refine jr_iload_n hG 1 dX2_knownBy_86 rfl rfl ?_
      refine jr_iconst (v := (1 : Int32)) hG dX2_knownBy_87 (by decide) ?_
      refine jr_isub hG dX2_knownBy_88 ?_
      refine jr_goto hG 98 dX2_knownBy_89 (by decide) ?_
      refine jr_sub (lv' := []) [] rfl ?_
      exact w_X2_knownBy_98 N hG hr hk (v1 - (1 : Int32)) a2 (1 : Int32) v4 ha2 t8
def f_X2_knownBy_46 (N : Nat)  (a0 : Nat) (v1 : Int32) (a2 : Nat) (v4 : Int32) (σ : Mm) : Option (Int32 × Mm) := bI (f_X2_is N a0 v1 (3 : Int32) (σ)) (fun r6 t5 => if r6 = 0 then (f_X2_knownBy_69 N a0 v1 a2 v4 t5) else (if inb v1 (arL a2) then (lt (v4 ||| ((1 : Int32) <<< ((((gi t5 a2 (ix v1)) + (1 : Int32)) - ((gi t5 a2 (ix v1)) + (1 : Int32)) / (4 : Int32) * (4 : Int32)) &&& 31))) (fun x7 => f_X2_knownBy_69 N a0 v1 a2 x7 t5)) else none))
set_option maxRecDepth 20000 in
theorem w_X2_knownBy_46 {p : Program} {l : Launch} {e : Env} {s : State} {m : MethodId} {args : Array Value} {below : List Frame} {meth : Method} {c : Code} {E : XE} (N : Nat) (hG : GG E NT 5 RX2 cX2_knownBy p s m args c) (hr : meth.sig.returnType = (some .int)) (hk : meth.locks = false)  (a0 : Nat) (v1 : Int32) (a2 : Nat) (v4 : Int32) (ha0 : okO 2 a0 = true) (ha2 : okA 0 a2 = true) (σ : Mm) : JR E NT 5 p l e rm_X2_knownBy s m args below meth c 0 0 (fun r => MQ below (xQi E (NT + 0) r) args s 0 0 (xA E)) 46 [(0, .ref (E.B + a0)), (1, .int v1), (2, .ref (E.B + a2)), (4, .int v4)] [] σ (f_X2_knownBy_46 N a0 v1 a2 v4 σ) := by
  show JR E NT 5 p l e rm_X2_knownBy s m args below meth c 0 0 (fun r => MQ below (xQi E (NT + 0) r) args s 0 0 (xA E)) 46 [(0, .ref (E.B + a0)), (1, .int v1), (2, .ref (E.B + a2)), (4, .int v4)] [] σ (bI (f_X2_is N a0 v1 (3 : Int32) (σ)) (fun r6 t5 => if r6 = 0 then (f_X2_knownBy_69 N a0 v1 a2 v4 t5) else (if inb v1 (arL a2) then (lt (v4 ||| ((1 : Int32) <<< ((((gi t5 a2 (ix v1)) + (1 : Int32)) - ((gi t5 a2 (ix v1)) + (1 : Int32)) / (4 : Int32) * (4 : Int32)) &&& 31))) (fun x7 => f_X2_knownBy_69 N a0 v1 a2 x7 t5)) else none)))
  refine jr_aload_n hG 0 dX2_knownBy_46 rfl rfl ?_
  refine jr_iload_n hG 1 dX2_knownBy_47 rfl rfl ?_
  refine jr_iconst (v := (3 : Int32)) hG dX2_knownBy_48 (by decide) ?_
  refine jr_callVi (As := [.int v1, .int (3 : Int32)]) hG (c_X2_is l E N a0 v1 (3 : Int32) (σ)) ci_X2_is wd_407 ⟨wd_408, wd_409⟩ cl_2 (okO_s ha0) (okO_l ha0) ⟨rfl, rfl, Nat.le_of_ble_eq_true rfl, Nat.le_of_ble_eq_true rfl⟩ rfl rfl (Nat.le_of_ble_eq_true rfl) dX2_knownBy_49 ⟨Nat.le_refl _, Nat.le_refl _⟩ (fun r6 t5 => ?_)
  refine jr_if_eq hG 69 dX2_knownBy_52 (by decide) (fun _ => ?_) (fun _ => ?_)
  · exact w_X2_knownBy_69 N hG hr hk a0 v1 a2 v4 ha0 ha2 t5
  · refine jr_iload hG 3 dX2_knownBy_55 rfl ?_
    refine jr_iconst (v := (1 : Int32)) hG dX2_knownBy_57 (by decide) ?_
    refine jr_aload_n hG 2 dX2_knownBy_58 rfl rfl ?_
    refine jr_iload_n hG 1 dX2_knownBy_59 rfl rfl ?_
    refine jr_iald hG (okA_s (by decide) ha2) (okA_l ha2) dX2_knownBy_60 ?_
    refine jr_iconst (v := (1 : Int32)) hG dX2_knownBy_61 (by decide) ?_
    refine jr_iadd hG dX2_knownBy_62 ?_
    refine jr_iconst (v := (4 : Int32)) hG dX2_knownBy_63 (by decide) ?_
    refine jr_iremc hG dX2_knownBy_64 (by decide) ?_
    refine jr_ishl hG dX2_knownBy_65 ?_
    refine jr_ior hG dX2_knownBy_66 ?_
    refine jr_leti (fun x7 _ => ?_)
    refine jr_istore (lv' := [(4, .int x7), (0, .ref (E.B + a0)), (1, .int v1), (2, .ref (E.B + a2))]) hG dX2_knownBy_67 (by decide) rfl ?_
    refine jr_sub (lv' := [(0, .ref (E.B + a0)), (1, .int v1), (2, .ref (E.B + a2)), (4, .int x7)]) [1, 2, 3, 0] rfl ?_
    exact w_X2_knownBy_69 N hG hr hk a0 v1 a2 x7 ha0 ha2 t5
def f_X2_knownBy_41 (N : Nat)  (a0 : Nat) (v1 : Int32) (a2 : Nat) (s0 : Int32) (b1 : Nat) (s2 : Int32) (s3 : Int32) (σ : Mm) : Option (Int32 × Mm) := if inb s0 (arL b1) then (lt (s3 ||| (s2 <<< ((gi σ b1 (ix s0)) &&& 31))) (fun x4 => f_X2_knownBy_46 N a0 v1 a2 x4 (σ))) else none
set_option maxRecDepth 20000 in
theorem w_X2_knownBy_41 {p : Program} {l : Launch} {e : Env} {s : State} {m : MethodId} {args : Array Value} {below : List Frame} {meth : Method} {c : Code} {E : XE} (N : Nat) (hG : GG E NT 5 RX2 cX2_knownBy p s m args c) (hr : meth.sig.returnType = (some .int)) (hk : meth.locks = false)  (a0 : Nat) (v1 : Int32) (a2 : Nat) (s0 : Int32) (b1 : Nat) (s2 : Int32) (s3 : Int32) (ha0 : okO 2 a0 = true) (ha2 : okA 0 a2 = true) (hb1 : okA 0 b1 = true) (σ : Mm) : JR E NT 5 p l e rm_X2_knownBy s m args below meth c 0 0 (fun r => MQ below (xQi E (NT + 0) r) args s 0 0 (xA E)) 41 [(0, .ref (E.B + a0)), (1, .int v1), (2, .ref (E.B + a2))] [.int s0, .ref (E.B + b1), .int s2, .int s3] σ (f_X2_knownBy_41 N a0 v1 a2 s0 b1 s2 s3 σ) := by
  show JR E NT 5 p l e rm_X2_knownBy s m args below meth c 0 0 (fun r => MQ below (xQi E (NT + 0) r) args s 0 0 (xA E)) 41 [(0, .ref (E.B + a0)), (1, .int v1), (2, .ref (E.B + a2))] [.int s0, .ref (E.B + b1), .int s2, .int s3] σ (if inb s0 (arL b1) then (lt (s3 ||| (s2 <<< ((gi σ b1 (ix s0)) &&& 31))) (fun x4 => f_X2_knownBy_46 N a0 v1 a2 x4 (σ))) else none)
  refine jr_iald hG (okA_s (by decide) hb1) (okA_l hb1) dX2_knownBy_41 ?_
  refine jr_ishl hG dX2_knownBy_42 ?_
  refine jr_ior hG dX2_knownBy_43 ?_
  refine jr_leti (fun x4 _ => ?_)
  refine jr_istore (lv' := [(4, .int x4), (0, .ref (E.B + a0)), (1, .int v1), (2, .ref (E.B + a2))]) hG dX2_knownBy_44 (by decide) rfl ?_
  refine jr_sub (lv' := [(0, .ref (E.B + a0)), (1, .int v1), (2, .ref (E.B + a2)), (4, .int x4)]) [1, 2, 3, 0] rfl ?_
  exact w_X2_knownBy_46 N hG hr hk a0 v1 a2 x4 ha0 ha2 (σ)
def f_X2_knownBy (N : Nat) (a0 : Nat) (v1 : Int32) (a2 : Nat) (v3 : Int32) (σ : Mm) : Option (Int32 × Mm) := if okO 2 a0 then (if okA 0 a2 then (if inb v1 (arL a2) then (lt ((1 : Int32) <<< ((gi σ a2 (ix v1)) &&& 31)) (fun x1 => if v3 = 0 then (f_X2_knownBy_46 N a0 v1 a2 x1 (σ)) else (bI (f_X2_is N a0 v1 (1 : Int32) (σ)) (fun r3 t2 => if r3 = 0 then (f_X2_knownBy_46 N a0 v1 a2 x1 t2) else (if (gi t2 a0 8) ≤ (v1 + (1 : Int32)) then (f_X2_knownBy_41 N a0 v1 a2 (0 : Int32) a2 (1 : Int32) x1 t2) else (f_X2_knownBy_41 N a0 v1 a2 (v1 + (1 : Int32)) a2 (1 : Int32) x1 t2)))))) else none) else none) else none
set_option maxRecDepth 20000 in
theorem c_X2_knownBy (l : Launch) (E : XE) (N : Nat) (a0 : Nat) (v1 : Int32) (a2 : Nat) (v3 : Int32) (σ : Mm) : ∀ r0, f_X2_knownBy N a0 v1 a2 v3 σ = some r0 → Met l yX2_knownBy [Cond.code yX2_knownBy cX2_knownBy 5 (some .int)] rm_X2_knownBy (xPc E (NT + 0) σ [.ref (E.B + a0), .int v1, .ref (E.B + a2), .int v3]) (xQi E (NT + 0) r0) 0 0 (xA E) := by
  refine met_of (N0 := NT) (by decide +kernel) (Nat.le_of_ble_eq_true rfl) ?_
  intro p e s m args below meth c hG hr hk _
  show JR E NT 5 p l e rm_X2_knownBy s m args below meth c 0 0 (fun r => MQ below (xQi E (NT + 0) r) args s 0 0 (xA E)) 0 [(0, .ref (E.B + a0)), (1, .int v1), (2, .ref (E.B + a2)), (3, .int v3)] [] σ (if okO 2 a0 then (if okA 0 a2 then (if inb v1 (arL a2) then (lt ((1 : Int32) <<< ((gi σ a2 (ix v1)) &&& 31)) (fun x1 => if v3 = 0 then (f_X2_knownBy_46 N a0 v1 a2 x1 (σ)) else (bI (f_X2_is N a0 v1 (1 : Int32) (σ)) (fun r3 t2 => if r3 = 0 then (f_X2_knownBy_46 N a0 v1 a2 x1 t2) else (if (gi t2 a0 8) ≤ (v1 + (1 : Int32)) then (f_X2_knownBy_41 N a0 v1 a2 (0 : Int32) a2 (1 : Int32) x1 t2) else (f_X2_knownBy_41 N a0 v1 a2 (v1 + (1 : Int32)) a2 (1 : Int32) x1 t2)))))) else none) else none) else none)
  refine jr_guard (fun ha0 => ?_)
  refine jr_guard (fun ha2 => ?_)
  refine jr_iconst (v := (1 : Int32)) hG dX2_knownBy_0 (by decide) ?_
  refine jr_aload_n hG 2 dX2_knownBy_1 rfl rfl ?_
  refine jr_iload_n hG 1 dX2_knownBy_2 rfl rfl ?_
  refine jr_iald hG (okA_s (by decide) ha2) (okA_l ha2) dX2_knownBy_3 ?_
  refine jr_ishl hG dX2_knownBy_4 ?_
  refine jr_leti (fun x1 _ => ?_)
  refine jr_istore (lv' := [(4, .int x1), (0, .ref (E.B + a0)), (1, .int v1), (2, .ref (E.B + a2)), (3, .int v3)]) hG dX2_knownBy_5 (by decide) rfl ?_
  refine jr_iload_n hG 4 dX2_knownBy_7 rfl rfl ?_
  refine jr_if_eq hG 46 dX2_knownBy_8 (by decide) (fun _ => ?_) (fun _ => ?_)
  · refine jr_sub (lv' := [(0, .ref (E.B + a0)), (1, .int v1), (2, .ref (E.B + a2)), (4, .int x1)]) [1, 2, 3, 0] rfl ?_
    exact w_X2_knownBy_46 N hG hr hk a0 v1 a2 x1 ha0 ha2 (σ)
  · refine jr_aload_n hG 1 dX2_knownBy_11 rfl rfl ?_
    refine jr_iload_n hG 2 dX2_knownBy_12 rfl rfl ?_
    refine jr_iconst (v := (1 : Int32)) hG dX2_knownBy_13 (by decide) ?_
    refine jr_callVi (As := [.int v1, .int (1 : Int32)]) hG (c_X2_is l E N a0 v1 (1 : Int32) (σ)) ci_X2_is wd_407 ⟨wd_408, wd_409⟩ cl_2 (okO_s ha0) (okO_l ha0) ⟨rfl, rfl, Nat.le_of_ble_eq_true rfl, Nat.le_of_ble_eq_true rfl⟩ rfl rfl (Nat.le_of_ble_eq_true rfl) dX2_knownBy_14 ⟨Nat.le_refl _, Nat.le_refl _⟩ (fun r3 t2 => ?_)
    refine jr_if_eq hG 46 dX2_knownBy_17 (by decide) (fun _ => ?_) (fun _ => ?_)
    · refine jr_sub (lv' := [(0, .ref (E.B + a0)), (1, .int v1), (2, .ref (E.B + a2)), (4, .int x1)]) [1, 2, 3, 0] rfl ?_
      exact w_X2_knownBy_46 N hG hr hk a0 v1 a2 x1 ha0 ha2 t2
    · refine jr_iload hG 0 dX2_knownBy_20 rfl ?_
      refine jr_iconst (v := (1 : Int32)) hG dX2_knownBy_22 (by decide) ?_
      refine jr_aload_n hG 3 dX2_knownBy_23 rfl rfl ?_
      refine jr_iload_n hG 2 dX2_knownBy_24 rfl rfl ?_
      refine jr_iconst (v := (1 : Int32)) hG dX2_knownBy_25 (by decide) ?_
      refine jr_iadd hG dX2_knownBy_26 ?_
      refine jr_aload_n hG 1 dX2_knownBy_27 rfl rfl ?_
      refine jr_getI hG fi_RX2_37 rfl (okO_s ha0) (okO_l ha0) dX2_knownBy_28 ?_
      refine jr_icmp_ge hG 40 dX2_knownBy_31 (by decide) (fun _ => ?_) (fun _ => ?_)
      · refine jr_iconst (v := (0 : Int32)) hG dX2_knownBy_40 (by decide) ?_
        refine jr_sub (lv' := [(0, .ref (E.B + a0)), (1, .int v1), (2, .ref (E.B + a2))]) [1, 2, 3] rfl ?_
        exact w_X2_knownBy_41 N hG hr hk a0 v1 a2 (0 : Int32) a2 (1 : Int32) x1 ha0 ha2 ha2 t2
      · refine jr_iload_n hG 2 dX2_knownBy_34 rfl rfl ?_
        refine jr_iconst (v := (1 : Int32)) hG dX2_knownBy_35 (by decide) ?_
        refine jr_iadd hG dX2_knownBy_36 ?_
        refine jr_goto hG 41 dX2_knownBy_37 (by decide) ?_
        refine jr_sub (lv' := [(0, .ref (E.B + a0)), (1, .int v1), (2, .ref (E.B + a2))]) [1, 2, 3] rfl ?_
        exact w_X2_knownBy_41 N hG hr hk a0 v1 a2 (v1 + (1 : Int32)) a2 (1 : Int32) x1 ha0 ha2 ha2 t2
-- TonguesDealt$Day.learn(LTonguesDealt$Plan;)V
abbrev rm_X0_learn : Room := { frames := 3, cells := 0, slots := 0, locals := 67 }
theorem ci_X0_learn : CIx yX0_learn cX0_learn 4 none 1 := ⟨wd_402, wd_73, by decide +kernel⟩
def f_X0_learn_106 (N : Nat) (K22 : Nat → Nat → Int32 → Mm → Option (Mm)) (a0 : Nat) (a1 : Nat) (v2 : Int32) (σ : Mm) : Option (Mm) := K22 a0 a1 (v2 + (1 : Int32)) (σ)
set_option maxRecDepth 20000 in
theorem w_X0_learn_106 {p : Program} {l : Launch} {e : Env} {s : State} {m : MethodId} {args : Array Value} {below : List Frame} {meth : Method} {c : Code} {E : XE} (N : Nat) (hG : GG E NT 4 RX0 cX0_learn p s m args c) (hr : meth.sig.returnType = none) (hk : meth.locks = false) {K22 : Nat → Nat → Int32 → Mm → Option (Mm)} (hK22 : ∀ (a0 : Nat) (a1 : Nat) (v2 : Int32) (ha0 : okO 0 a0 = true) (ha1 : okO 2 a1 = true) (σ : Mm), JR E NT 4 p l e rm_X0_learn s m args below meth c 0 0 (fun r => MQ below (xQv E (NT + 0) r) args s 0 0 (xA E)) 22 [(0, .ref (E.B + a0)), (1, .ref (E.B + a1)), (2, .int v2)] [] σ (K22 a0 a1 v2 σ)) (a0 : Nat) (a1 : Nat) (v2 : Int32) (ha0 : okO 0 a0 = true) (ha1 : okO 2 a1 = true) (σ : Mm) : JR E NT 4 p l e rm_X0_learn s m args below meth c 0 0 (fun r => MQ below (xQv E (NT + 0) r) args s 0 0 (xA E)) 106 [(0, .ref (E.B + a0)), (1, .ref (E.B + a1)), (2, .int v2)] [] σ (f_X0_learn_106 N K22 a0 a1 v2 σ) := by
  show JR E NT 4 p l e rm_X0_learn s m args below meth c 0 0 (fun r => MQ below (xQv E (NT + 0) r) args s 0 0 (xA E)) 106 [(0, .ref (E.B + a0)), (1, .ref (E.B + a1)), (2, .int v2)] [] σ (K22 a0 a1 (v2 + (1 : Int32)) (σ))
  refine jr_iinc (v := v2 + (1 : Int32)) (lv' := [(2, .int (v2 + (1 : Int32))), (0, .ref (E.B + a0)), (1, .ref (E.B + a1))]) hG 2 dX0_learn_106 rfl rfl (by decide) rfl ?_
  refine jr_goto hG 22 dX0_learn_109 (by decide) ?_
  refine jr_sub (lv' := [(0, .ref (E.B + a0)), (1, .ref (E.B + a1)), (2, .int (v2 + (1 : Int32)))]) [1, 2, 0] rfl ?_
  exact hK22 a0 a1 (v2 + (1 : Int32)) ha0 ha1 (σ)
def f_X0_learn_100 (N : Nat) (K22 : Nat → Nat → Int32 → Mm → Option (Mm)) (K70 : Nat → Nat → Int32 → Int32 → Mm → Option (Mm)) (a0 : Nat) (a1 : Nat) (v2 : Int32) (v3 : Int32) (σ : Mm) : Option (Mm) := K70 a0 a1 v2 (v3 + (1 : Int32)) (σ)
set_option maxRecDepth 20000 in
theorem w_X0_learn_100 {p : Program} {l : Launch} {e : Env} {s : State} {m : MethodId} {args : Array Value} {below : List Frame} {meth : Method} {c : Code} {E : XE} (N : Nat) (hG : GG E NT 4 RX0 cX0_learn p s m args c) (hr : meth.sig.returnType = none) (hk : meth.locks = false) {K22 : Nat → Nat → Int32 → Mm → Option (Mm)} (hK22 : ∀ (a0 : Nat) (a1 : Nat) (v2 : Int32) (ha0 : okO 0 a0 = true) (ha1 : okO 2 a1 = true) (σ : Mm), JR E NT 4 p l e rm_X0_learn s m args below meth c 0 0 (fun r => MQ below (xQv E (NT + 0) r) args s 0 0 (xA E)) 22 [(0, .ref (E.B + a0)), (1, .ref (E.B + a1)), (2, .int v2)] [] σ (K22 a0 a1 v2 σ)) {K70 : Nat → Nat → Int32 → Int32 → Mm → Option (Mm)} (hK70 : ∀ (a0 : Nat) (a1 : Nat) (v2 : Int32) (v3 : Int32) (ha0 : okO 0 a0 = true) (ha1 : okO 2 a1 = true) (σ : Mm), JR E NT 4 p l e rm_X0_learn s m args below meth c 0 0 (fun r => MQ below (xQv E (NT + 0) r) args s 0 0 (xA E)) 70 [(0, .ref (E.B + a0)), (1, .ref (E.B + a1)), (2, .int v2), (3, .int v3)] [] σ (K70 a0 a1 v2 v3 σ)) (a0 : Nat) (a1 : Nat) (v2 : Int32) (v3 : Int32) (ha0 : okO 0 a0 = true) (ha1 : okO 2 a1 = true) (σ : Mm) : JR E NT 4 p l e rm_X0_learn s m args below meth c 0 0 (fun r => MQ below (xQv E (NT + 0) r) args s 0 0 (xA E)) 100 [(0, .ref (E.B + a0)), (1, .ref (E.B + a1)), (2, .int v2), (3, .int v3)] [] σ (f_X0_learn_100 N K22 K70 a0 a1 v2 v3 σ) := by
  show JR E NT 4 p l e rm_X0_learn s m args below meth c 0 0 (fun r => MQ below (xQv E (NT + 0) r) args s 0 0 (xA E)) 100 [(0, .ref (E.B + a0)), (1, .ref (E.B + a1)), (2, .int v2), (3, .int v3)] [] σ (K70 a0 a1 v2 (v3 + (1 : Int32)) (σ))
  refine jr_iinc (v := v3 + (1 : Int32)) (lv' := [(3, .int (v3 + (1 : Int32))), (0, .ref (E.B + a0)), (1, .ref (E.B + a1)), (2, .int v2)]) hG 3 dX0_learn_100 rfl rfl (by decide) rfl ?_
  refine jr_goto hG 70 dX0_learn_103 (by decide) ?_
  refine jr_sub (lv' := [(0, .ref (E.B + a0)), (1, .ref (E.B + a1)), (2, .int v2), (3, .int (v3 + (1 : Int32)))]) [1, 2, 3, 0] rfl ?_
  exact hK70 a0 a1 v2 (v3 + (1 : Int32)) ha0 ha1 (σ)
def f_X0_learn_70 (N : Nat) (K22 : Nat → Nat → Int32 → Mm → Option (Mm)) : Nat → Nat → Nat → Int32 → Int32 → Mm → Option (Mm)
  | 0 => fun _ _ _ _ _ => none
  | n + 1 => fun a0 a1 v2 v3 σ => if (4 : Int32) ≤ v3 then (f_X0_learn_106 N K22 a0 a1 v2 (σ)) else (bR (gr σ a0 2) (okA 0) (fun o10 => if inb v2 (arL o10) then (bI (f_X5_holds N (gi σ o10 (ix v2)) v3 (σ)) (fun r12 t11 => if r12 = 0 then (f_X0_learn_100 N K22 (f_X0_learn_70 N K22 n) a0 a1 v2 v3 t11) else (bR (gr t11 a0 3) (okA 0) (fun o13 => if inb v3 (arL o13) then (if inb v3 (arL o13) then (lt (si t11 o13 (ix v3) ((gi t11 o13 (ix v3)) ||| ((1 : Int32) <<< (v2 &&& 31)))) (fun t14 => f_X0_learn_100 N K22 (f_X0_learn_70 N K22 n) a0 a1 v2 v3 t14)) else none) else none)))) else none))
set_option maxRecDepth 20000 in
theorem w_X0_learn_70 {p : Program} {l : Launch} {e : Env} {s : State} {m : MethodId} {args : Array Value} {below : List Frame} {meth : Method} {c : Code} {E : XE} (N : Nat) (hG : GG E NT 4 RX0 cX0_learn p s m args c) (hr : meth.sig.returnType = none) (hk : meth.locks = false) {K22 : Nat → Nat → Int32 → Mm → Option (Mm)} (hK22 : ∀ (a0 : Nat) (a1 : Nat) (v2 : Int32) (ha0 : okO 0 a0 = true) (ha1 : okO 2 a1 = true) (σ : Mm), JR E NT 4 p l e rm_X0_learn s m args below meth c 0 0 (fun r => MQ below (xQv E (NT + 0) r) args s 0 0 (xA E)) 22 [(0, .ref (E.B + a0)), (1, .ref (E.B + a1)), (2, .int v2)] [] σ (K22 a0 a1 v2 σ)) : ∀ (n : Nat) (a0 : Nat) (a1 : Nat) (v2 : Int32) (v3 : Int32) (ha0 : okO 0 a0 = true) (ha1 : okO 2 a1 = true) (σ : Mm), JR E NT 4 p l e rm_X0_learn s m args below meth c 0 0 (fun r => MQ below (xQv E (NT + 0) r) args s 0 0 (xA E)) 70 [(0, .ref (E.B + a0)), (1, .ref (E.B + a1)), (2, .int v2), (3, .int v3)] [] σ (f_X0_learn_70 N K22 n a0 a1 v2 v3 σ) := by
  intro n
  induction n with
  | zero => intro a0 a1 v2 v3 ha0 ha1 σ r hX; cases hX
  | succ n ih =>
    intro a0 a1 v2 v3 ha0 ha1 σ
    show JR E NT 4 p l e rm_X0_learn s m args below meth c 0 0 (fun r => MQ below (xQv E (NT + 0) r) args s 0 0 (xA E)) 70 [(0, .ref (E.B + a0)), (1, .ref (E.B + a1)), (2, .int v2), (3, .int v3)] [] σ (if (4 : Int32) ≤ v3 then (f_X0_learn_106 N K22 a0 a1 v2 (σ)) else (bR (gr σ a0 2) (okA 0) (fun o10 => if inb v2 (arL o10) then (bI (f_X5_holds N (gi σ o10 (ix v2)) v3 (σ)) (fun r12 t11 => if r12 = 0 then (f_X0_learn_100 N K22 (f_X0_learn_70 N K22 n) a0 a1 v2 v3 t11) else (bR (gr t11 a0 3) (okA 0) (fun o13 => if inb v3 (arL o13) then (if inb v3 (arL o13) then (lt (si t11 o13 (ix v3) ((gi t11 o13 (ix v3)) ||| ((1 : Int32) <<< (v2 &&& 31)))) (fun t14 => f_X0_learn_100 N K22 (f_X0_learn_70 N K22 n) a0 a1 v2 v3 t14)) else none) else none)))) else none)))
    refine jr_iload_n hG 3 dX0_learn_70 rfl rfl ?_
    refine jr_iconst (v := (4 : Int32)) hG dX0_learn_71 (by decide) ?_
    refine jr_icmp_ge hG 106 dX0_learn_72 (by decide) (fun _ => ?_) (fun _ => ?_)
    · refine jr_sub (lv' := [(0, .ref (E.B + a0)), (1, .ref (E.B + a1)), (2, .int v2)]) [0, 1, 2] rfl ?_
      exact w_X0_learn_106 N hG hr hk hK22 a0 a1 v2 ha0 ha1 (σ)
    · refine jr_aload_n hG 0 dX0_learn_75 rfl rfl ?_
      refine jr_getR hG fi_RX0_18 rfl (okO_s ha0) (okO_l ha0) dX0_learn_76 (fun o10 ho10 => ?_)
      refine jr_iload_n hG 2 dX0_learn_79 rfl rfl ?_
      refine jr_iald hG (okA_s (by decide) ho10) (okA_l ho10) dX0_learn_80 ?_
      refine jr_iload_n hG 3 dX0_learn_81 rfl rfl ?_
      refine jr_callNi (As := [.int (gi σ o10 (ix v2)), .int v3]) hG (c_X5_holds l E N (gi σ o10 (ix v2)) v3 (σ)) ci_X5_holds (List.mem_of_getElem? (i := 5) rfl) wd_366 ⟨rfl, rfl, Nat.le_of_ble_eq_true rfl, Nat.le_of_ble_eq_true rfl⟩ rfl rfl (Nat.le_of_ble_eq_true rfl) dX0_learn_82 ⟨Nat.le_refl _, Nat.le_refl _⟩ (fun r12 t11 => ?_)
      refine jr_if_eq hG 100 dX0_learn_85 (by decide) (fun _ => ?_) (fun _ => ?_)
      · exact w_X0_learn_100 N hG hr hk hK22 ih a0 a1 v2 v3 ha0 ha1 t11
      · refine jr_aload_n hG 0 dX0_learn_88 rfl rfl ?_
        refine jr_getR hG fi_RX0_21 rfl (okO_s ha0) (okO_l ha0) dX0_learn_89 (fun o13 ho13 => ?_)
        refine jr_iload_n hG 3 dX0_learn_92 rfl rfl ?_
        refine jr_dup2 hG dX0_learn_93 rfl rfl ?_
        refine jr_iald hG (okA_s (by decide) ho13) (okA_l ho13) dX0_learn_94 ?_
        refine jr_iconst (v := (1 : Int32)) hG dX0_learn_95 (by decide) ?_
        refine jr_iload_n hG 2 dX0_learn_96 rfl rfl ?_
        refine jr_ishl hG dX0_learn_97 ?_
        refine jr_ior hG dX0_learn_98 ?_
        refine jr_iast hG (okA_s (by decide) ho13) (okA_l ho13) dX0_learn_99 ?_
        refine jr_lets (fun t14 _ => ?_)
        exact w_X0_learn_100 N hG hr hk hK22 ih a0 a1 v2 v3 ha0 ha1 t14
def f_X0_learn_68 (N : Nat) (K22 : Nat → Nat → Int32 → Mm → Option (Mm)) (a0 : Nat) (a1 : Nat) (v2 : Int32) (σ : Mm) : Option (Mm) := f_X0_learn_70 N K22 N a0 a1 v2 (0 : Int32) (σ)
set_option maxRecDepth 20000 in
theorem w_X0_learn_68 {p : Program} {l : Launch} {e : Env} {s : State} {m : MethodId} {args : Array Value} {below : List Frame} {meth : Method} {c : Code} {E : XE} (N : Nat) (hG : GG E NT 4 RX0 cX0_learn p s m args c) (hr : meth.sig.returnType = none) (hk : meth.locks = false) {K22 : Nat → Nat → Int32 → Mm → Option (Mm)} (hK22 : ∀ (a0 : Nat) (a1 : Nat) (v2 : Int32) (ha0 : okO 0 a0 = true) (ha1 : okO 2 a1 = true) (σ : Mm), JR E NT 4 p l e rm_X0_learn s m args below meth c 0 0 (fun r => MQ below (xQv E (NT + 0) r) args s 0 0 (xA E)) 22 [(0, .ref (E.B + a0)), (1, .ref (E.B + a1)), (2, .int v2)] [] σ (K22 a0 a1 v2 σ)) (a0 : Nat) (a1 : Nat) (v2 : Int32) (ha0 : okO 0 a0 = true) (ha1 : okO 2 a1 = true) (σ : Mm) : JR E NT 4 p l e rm_X0_learn s m args below meth c 0 0 (fun r => MQ below (xQv E (NT + 0) r) args s 0 0 (xA E)) 68 [(0, .ref (E.B + a0)), (1, .ref (E.B + a1)), (2, .int v2)] [] σ (f_X0_learn_68 N K22 a0 a1 v2 σ) := by
  show JR E NT 4 p l e rm_X0_learn s m args below meth c 0 0 (fun r => MQ below (xQv E (NT + 0) r) args s 0 0 (xA E)) 68 [(0, .ref (E.B + a0)), (1, .ref (E.B + a1)), (2, .int v2)] [] σ (f_X0_learn_70 N K22 N a0 a1 v2 (0 : Int32) (σ))
  refine jr_iconst (v := (0 : Int32)) hG dX0_learn_68 (by decide) ?_
  refine jr_istore_n (lv' := [(3, .int (0 : Int32)), (0, .ref (E.B + a0)), (1, .ref (E.B + a1)), (2, .int v2)]) hG dX0_learn_69 rfl (by decide) rfl ?_
  refine jr_sub (lv' := [(0, .ref (E.B + a0)), (1, .ref (E.B + a1)), (2, .int v2), (3, .int (0 : Int32))]) [1, 2, 3, 0] rfl ?_
  exact w_X0_learn_70 N hG hr hk hK22 N a0 a1 v2 (0 : Int32) ha0 ha1 (σ)
def f_X0_learn_22 (N : Nat)  : Nat → Nat → Nat → Int32 → Mm → Option (Mm)
  | 0 => fun _ _ _ _ => none
  | n + 1 => fun a0 a1 v2 σ => if (gi σ a1 8) ≤ v2 then (some (σ)) else (bR (gr σ a0 2) (okA 0) (fun o3 => bR (gr σ a0 0) (okA 0) (fun o4 => bI (f_X2_knownBy N a1 v2 o4 (gi σ a0 7) (σ)) (fun r6 t5 => if inb v2 (arL o3) then (lt (si t5 o3 (ix v2) r6) (fun t7 => if (gi t7 a0 7) = 0 then (bI (f_X2_is N a1 v2 (4 : Int32) t7) (fun r9 t8 => if r9 = 0 then (f_X0_learn_68 N (f_X0_learn_22 N n) a0 a1 v2 t8) else (f_X0_learn_106 N (f_X0_learn_22 N n) a0 a1 v2 t8))) else (f_X0_learn_68 N (f_X0_learn_22 N n) a0 a1 v2 t7))) else none))))
set_option maxRecDepth 20000 in
theorem w_X0_learn_22 {p : Program} {l : Launch} {e : Env} {s : State} {m : MethodId} {args : Array Value} {below : List Frame} {meth : Method} {c : Code} {E : XE} (N : Nat) (hG : GG E NT 4 RX0 cX0_learn p s m args c) (hr : meth.sig.returnType = none) (hk : meth.locks = false)  : ∀ (n : Nat) (a0 : Nat) (a1 : Nat) (v2 : Int32) (ha0 : okO 0 a0 = true) (ha1 : okO 2 a1 = true) (σ : Mm), JR E NT 4 p l e rm_X0_learn s m args below meth c 0 0 (fun r => MQ below (xQv E (NT + 0) r) args s 0 0 (xA E)) 22 [(0, .ref (E.B + a0)), (1, .ref (E.B + a1)), (2, .int v2)] [] σ (f_X0_learn_22 N n a0 a1 v2 σ) := by
  intro n
  induction n with
  | zero => intro a0 a1 v2 ha0 ha1 σ r hX; cases hX
  | succ n ih =>
    intro a0 a1 v2 ha0 ha1 σ
    show JR E NT 4 p l e rm_X0_learn s m args below meth c 0 0 (fun r => MQ below (xQv E (NT + 0) r) args s 0 0 (xA E)) 22 [(0, .ref (E.B + a0)), (1, .ref (E.B + a1)), (2, .int v2)] [] σ (if (gi σ a1 8) ≤ v2 then (some (σ)) else (bR (gr σ a0 2) (okA 0) (fun o3 => bR (gr σ a0 0) (okA 0) (fun o4 => bI (f_X2_knownBy N a1 v2 o4 (gi σ a0 7) (σ)) (fun r6 t5 => if inb v2 (arL o3) then (lt (si t5 o3 (ix v2) r6) (fun t7 => if (gi t7 a0 7) = 0 then (bI (f_X2_is N a1 v2 (4 : Int32) t7) (fun r9 t8 => if r9 = 0 then (f_X0_learn_68 N (f_X0_learn_22 N n) a0 a1 v2 t8) else (f_X0_learn_106 N (f_X0_learn_22 N n) a0 a1 v2 t8))) else (f_X0_learn_68 N (f_X0_learn_22 N n) a0 a1 v2 t7))) else none)))))
    refine jr_iload_n hG 2 dX0_learn_22 rfl rfl ?_
    refine jr_aload_n hG 1 dX0_learn_23 rfl rfl ?_
    refine jr_getI hG fi_RX0_38 rfl (okO_s ha1) (okO_l ha1) dX0_learn_24 ?_
    refine jr_icmp_ge hG 112 dX0_learn_27 (by decide) (fun _ => ?_) (fun _ => ?_)
    · exact jr_vret hG hr hk dX0_learn_112
    · refine jr_aload_n hG 0 dX0_learn_30 rfl rfl ?_
      refine jr_getR hG fi_RX0_18 rfl (okO_s ha0) (okO_l ha0) dX0_learn_31 (fun o3 ho3 => ?_)
      refine jr_iload_n hG 2 dX0_learn_34 rfl rfl ?_
      refine jr_aload_n hG 1 dX0_learn_35 rfl rfl ?_
      refine jr_iload_n hG 2 dX0_learn_36 rfl rfl ?_
      refine jr_aload_n hG 0 dX0_learn_37 rfl rfl ?_
      refine jr_getR hG fi_RX0_9 rfl (okO_s ha0) (okO_l ha0) dX0_learn_38 (fun o4 ho4 => ?_)
      refine jr_aload_n hG 0 dX0_learn_41 rfl rfl ?_
      refine jr_getZ hG fi_RX0_34 rfl (okO_s ha0) (okO_l ha0) dX0_learn_42 ?_
      refine jr_callVi (As := [.int v2, .ref (E.B + o4), .int (gi σ a0 7)]) hG (c_X2_knownBy l E N a1 v2 o4 (gi σ a0 7) (σ)) ci_X2_knownBy wd_403 ⟨wd_404, wd_405⟩ cl_2 (okO_s ha1) (okO_l ha1) ⟨rfl, rfl, Nat.le_of_ble_eq_true rfl, Nat.le_of_ble_eq_true rfl⟩ rfl rfl (Nat.le_of_ble_eq_true rfl) dX0_learn_45 ⟨Nat.le_refl _, Nat.le_refl _⟩ (fun r6 t5 => ?_)
      refine jr_iast hG (okA_s (by decide) ho3) (okA_l ho3) dX0_learn_48 ?_
      refine jr_lets (fun t7 _ => ?_)
      refine jr_aload_n hG 0 dX0_learn_49 rfl rfl ?_
      refine jr_getZ hG fi_RX0_34 rfl (okO_s ha0) (okO_l ha0) dX0_learn_50 ?_
      refine jr_if_ne hG 68 dX0_learn_53 (by decide) (fun _ => ?_) (fun _ => ?_)
      · exact w_X0_learn_68 N hG hr hk ih a0 a1 v2 ha0 ha1 t7
      · refine jr_aload_n hG 1 dX0_learn_56 rfl rfl ?_
        refine jr_iload_n hG 2 dX0_learn_57 rfl rfl ?_
        refine jr_iconst (v := (4 : Int32)) hG dX0_learn_58 (by decide) ?_
        refine jr_callVi (As := [.int v2, .int (4 : Int32)]) hG (c_X2_is l E N a1 v2 (4 : Int32) t7) ci_X2_is wd_411 ⟨wd_408, wd_409⟩ cl_2 (okO_s ha1) (okO_l ha1) ⟨rfl, rfl, Nat.le_of_ble_eq_true rfl, Nat.le_of_ble_eq_true rfl⟩ rfl rfl (Nat.le_of_ble_eq_true rfl) dX0_learn_59 ⟨Nat.le_refl _, Nat.le_refl _⟩ (fun r9 t8 => ?_)
        refine jr_if_eq hG 68 dX0_learn_62 (by decide) (fun _ => ?_) (fun _ => ?_)
        · exact w_X0_learn_68 N hG hr hk ih a0 a1 v2 ha0 ha1 t8
        · refine jr_goto hG 106 dX0_learn_65 (by decide) ?_
          exact w_X0_learn_106 N hG hr hk ih a0 a1 v2 ha0 ha1 t8
def f_X0_learn_2 (N : Nat)  : Nat → Nat → Nat → Int32 → Mm → Option (Mm)
  | 0 => fun _ _ _ _ => none
  | n + 1 => fun a0 a1 v2 σ => if (4 : Int32) ≤ v2 then (f_X0_learn_22 N N a0 a1 (0 : Int32) (σ)) else (bR (gr σ a0 3) (okA 0) (fun o1 => if inb v2 (arL o1) then (lt (si σ o1 (ix v2) (0 : Int32)) (fun t2 => f_X0_learn_2 N n a0 a1 (v2 + (1 : Int32)) t2)) else none))
set_option maxRecDepth 20000 in
theorem w_X0_learn_2 {p : Program} {l : Launch} {e : Env} {s : State} {m : MethodId} {args : Array Value} {below : List Frame} {meth : Method} {c : Code} {E : XE} (N : Nat) (hG : GG E NT 4 RX0 cX0_learn p s m args c) (hr : meth.sig.returnType = none) (hk : meth.locks = false)  : ∀ (n : Nat) (a0 : Nat) (a1 : Nat) (v2 : Int32) (ha0 : okO 0 a0 = true) (ha1 : okO 2 a1 = true) (σ : Mm), JR E NT 4 p l e rm_X0_learn s m args below meth c 0 0 (fun r => MQ below (xQv E (NT + 0) r) args s 0 0 (xA E)) 2 [(0, .ref (E.B + a0)), (1, .ref (E.B + a1)), (2, .int v2)] [] σ (f_X0_learn_2 N n a0 a1 v2 σ) := by
  intro n
  induction n with
  | zero => intro a0 a1 v2 ha0 ha1 σ r hX; cases hX
  | succ n ih =>
    intro a0 a1 v2 ha0 ha1 σ
    show JR E NT 4 p l e rm_X0_learn s m args below meth c 0 0 (fun r => MQ below (xQv E (NT + 0) r) args s 0 0 (xA E)) 2 [(0, .ref (E.B + a0)), (1, .ref (E.B + a1)), (2, .int v2)] [] σ (if (4 : Int32) ≤ v2 then (f_X0_learn_22 N N a0 a1 (0 : Int32) (σ)) else (bR (gr σ a0 3) (okA 0) (fun o1 => if inb v2 (arL o1) then (lt (si σ o1 (ix v2) (0 : Int32)) (fun t2 => f_X0_learn_2 N n a0 a1 (v2 + (1 : Int32)) t2)) else none)))
    refine jr_iload_n hG 2 dX0_learn_2 rfl rfl ?_
    refine jr_iconst (v := (4 : Int32)) hG dX0_learn_3 (by decide) ?_
    refine jr_icmp_ge hG 20 dX0_learn_4 (by decide) (fun _ => ?_) (fun _ => ?_)
    · refine jr_iconst (v := (0 : Int32)) hG dX0_learn_20 (by decide) ?_
      refine jr_istore_n (lv' := [(2, .int (0 : Int32)), (0, .ref (E.B + a0)), (1, .ref (E.B + a1))]) hG dX0_learn_21 rfl (by decide) rfl ?_
      refine jr_sub (lv' := [(0, .ref (E.B + a0)), (1, .ref (E.B + a1)), (2, .int (0 : Int32))]) [1, 2, 0] rfl ?_
      exact w_X0_learn_22 N hG hr hk N a0 a1 (0 : Int32) ha0 ha1 (σ)
    · refine jr_aload_n hG 0 dX0_learn_7 rfl rfl ?_
      refine jr_getR hG fi_RX0_21 rfl (okO_s ha0) (okO_l ha0) dX0_learn_8 (fun o1 ho1 => ?_)
      refine jr_iload_n hG 2 dX0_learn_11 rfl rfl ?_
      refine jr_iconst (v := (0 : Int32)) hG dX0_learn_12 (by decide) ?_
      refine jr_iast hG (okA_s (by decide) ho1) (okA_l ho1) dX0_learn_13 ?_
      refine jr_lets (fun t2 _ => ?_)
      refine jr_iinc (v := v2 + (1 : Int32)) (lv' := [(2, .int (v2 + (1 : Int32))), (0, .ref (E.B + a0)), (1, .ref (E.B + a1))]) hG 2 dX0_learn_14 rfl rfl (by decide) rfl ?_
      refine jr_goto hG 2 dX0_learn_17 (by decide) ?_
      refine jr_sub (lv' := [(0, .ref (E.B + a0)), (1, .ref (E.B + a1)), (2, .int (v2 + (1 : Int32)))]) [1, 2, 0] rfl ?_
      exact ih a0 a1 (v2 + (1 : Int32)) ha0 ha1 t2
def f_X0_learn (N : Nat) (a0 : Nat) (a1 : Nat) (σ : Mm) : Option (Mm) := if okO 0 a0 then (if okO 2 a1 then (f_X0_learn_2 N N a0 a1 (0 : Int32) (σ)) else none) else none
set_option maxRecDepth 20000 in
theorem c_X0_learn (l : Launch) (E : XE) (N : Nat) (a0 : Nat) (a1 : Nat) (σ : Mm) : ∀ r0, f_X0_learn N a0 a1 σ = some r0 → Met l yX0_learn [Cond.code yX0_learn cX0_learn 4 none] rm_X0_learn (xPc E (NT + 0) σ [.ref (E.B + a0), .ref (E.B + a1)]) (xQv E (NT + 0) r0) 0 0 (xA E) := by
  refine met_of (N0 := NT) (by decide +kernel) (Nat.le_of_ble_eq_true rfl) ?_
  intro p e s m args below meth c hG hr hk _
  show JR E NT 4 p l e rm_X0_learn s m args below meth c 0 0 (fun r => MQ below (xQv E (NT + 0) r) args s 0 0 (xA E)) 0 [(0, .ref (E.B + a0)), (1, .ref (E.B + a1))] [] σ (if okO 0 a0 then (if okO 2 a1 then (f_X0_learn_2 N N a0 a1 (0 : Int32) (σ)) else none) else none)
  refine jr_guard (fun ha0 => ?_)
  refine jr_guard (fun ha1 => ?_)
  refine jr_iconst (v := (0 : Int32)) hG dX0_learn_0 (by decide) ?_
  refine jr_istore_n (lv' := [(2, .int (0 : Int32)), (0, .ref (E.B + a0)), (1, .ref (E.B + a1))]) hG dX0_learn_1 rfl (by decide) rfl ?_
  refine jr_sub (lv' := [(0, .ref (E.B + a0)), (1, .ref (E.B + a1)), (2, .int (0 : Int32))]) [1, 2, 0] rfl ?_
  exact w_X0_learn_2 N hG hr hk N a0 a1 (0 : Int32) ha0 ha1 (σ)
-- TonguesDealt$Day.hearersOfAny(I)I
abbrev rm_X0_hearersOfAny : Room := { frames := 1, cells := 0, slots := 0, locals := 21 }
theorem ci_X0_hearersOfAny : CIx yX0_hearersOfAny cX0_hearersOfAny 4 (some .int) 1 := ⟨wd_416, wd_73, by decide +kernel⟩
def f_X0_hearersOfAny_26 (N : Nat) (K4 : Nat → Int32 → Int32 → Int32 → Mm → Option (Int32 × Mm)) (a0 : Nat) (v1 : Int32) (v2 : Int32) (v3 : Int32) (σ : Mm) : Option (Int32 × Mm) := K4 a0 v1 v2 (v3 + (1 : Int32)) (σ)
set_option maxRecDepth 20000 in
theorem w_X0_hearersOfAny_26 {p : Program} {l : Launch} {e : Env} {s : State} {m : MethodId} {args : Array Value} {below : List Frame} {meth : Method} {c : Code} {E : XE} (N : Nat) (hG : GG E NT 4 RX0 cX0_hearersOfAny p s m args c) (hr : meth.sig.returnType = (some .int)) (hk : meth.locks = false) {K4 : Nat → Int32 → Int32 → Int32 → Mm → Option (Int32 × Mm)} (hK4 : ∀ (a0 : Nat) (v1 : Int32) (v2 : Int32) (v3 : Int32) (ha0 : okO 0 a0 = true) (σ : Mm), JR E NT 4 p l e rm_X0_hearersOfAny s m args below meth c 0 0 (fun r => MQ below (xQi E (NT + 0) r) args s 0 0 (xA E)) 4 [(0, .ref (E.B + a0)), (1, .int v1), (2, .int v2), (3, .int v3)] [] σ (K4 a0 v1 v2 v3 σ)) (a0 : Nat) (v1 : Int32) (v2 : Int32) (v3 : Int32) (ha0 : okO 0 a0 = true) (σ : Mm) : JR E NT 4 p l e rm_X0_hearersOfAny s m args below meth c 0 0 (fun r => MQ below (xQi E (NT + 0) r) args s 0 0 (xA E)) 26 [(0, .ref (E.B + a0)), (1, .int v1), (2, .int v2), (3, .int v3)] [] σ (f_X0_hearersOfAny_26 N K4 a0 v1 v2 v3 σ) := by
  show JR E NT 4 p l e rm_X0_hearersOfAny s m args below meth c 0 0 (fun r => MQ below (xQi E (NT + 0) r) args s 0 0 (xA E)) 26 [(0, .ref (E.B + a0)), (1, .int v1), (2, .int v2), (3, .int v3)] [] σ (K4 a0 v1 v2 (v3 + (1 : Int32)) (σ))
  refine jr_iinc (v := v3 + (1 : Int32)) (lv' := [(3, .int (v3 + (1 : Int32))), (0, .ref (E.B + a0)), (1, .int v1), (2, .int v2)]) hG 3 dX0_hearersOfAny_26 rfl rfl (by decide) rfl ?_
  refine jr_goto hG 4 dX0_hearersOfAny_29 (by decide) ?_
  refine jr_sub (lv' := [(0, .ref (E.B + a0)), (1, .int v1), (2, .int v2), (3, .int (v3 + (1 : Int32)))]) [1, 2, 3, 0] rfl ?_
  exact hK4 a0 v1 v2 (v3 + (1 : Int32)) ha0 (σ)
def f_X0_hearersOfAny_4 (N : Nat)  : Nat → Nat → Int32 → Int32 → Int32 → Mm → Option (Int32 × Mm)
  | 0 => fun _ _ _ _ _ => none
  | n + 1 => fun a0 v1 v2 v3 σ => if (4 : Int32) ≤ v3 then (some (v2, σ)) else (bI (f_X5_holds N v1 v3 (σ)) (fun r2 t1 => if r2 = 0 then (f_X0_hearersOfAny_26 N (f_X0_hearersOfAny_4 N n) a0 v1 v2 v3 t1) else (bR (gr t1 a0 3) (okA 0) (fun o3 => if inb v3 (arL o3) then (lt (v2 ||| (gi t1 o3 (ix v3))) (fun x4 => f_X0_hearersOfAny_26 N (f_X0_hearersOfAny_4 N n) a0 v1 x4 v3 t1)) else none))))
set_option maxRecDepth 20000 in
theorem w_X0_hearersOfAny_4 {p : Program} {l : Launch} {e : Env} {s : State} {m : MethodId} {args : Array Value} {below : List Frame} {meth : Method} {c : Code} {E : XE} (N : Nat) (hG : GG E NT 4 RX0 cX0_hearersOfAny p s m args c) (hr : meth.sig.returnType = (some .int)) (hk : meth.locks = false)  : ∀ (n : Nat) (a0 : Nat) (v1 : Int32) (v2 : Int32) (v3 : Int32) (ha0 : okO 0 a0 = true) (σ : Mm), JR E NT 4 p l e rm_X0_hearersOfAny s m args below meth c 0 0 (fun r => MQ below (xQi E (NT + 0) r) args s 0 0 (xA E)) 4 [(0, .ref (E.B + a0)), (1, .int v1), (2, .int v2), (3, .int v3)] [] σ (f_X0_hearersOfAny_4 N n a0 v1 v2 v3 σ) := by
  intro n
  induction n with
  | zero => intro a0 v1 v2 v3 ha0 σ r hX; cases hX
  | succ n ih =>
    intro a0 v1 v2 v3 ha0 σ
    show JR E NT 4 p l e rm_X0_hearersOfAny s m args below meth c 0 0 (fun r => MQ below (xQi E (NT + 0) r) args s 0 0 (xA E)) 4 [(0, .ref (E.B + a0)), (1, .int v1), (2, .int v2), (3, .int v3)] [] σ (if (4 : Int32) ≤ v3 then (some (v2, σ)) else (bI (f_X5_holds N v1 v3 (σ)) (fun r2 t1 => if r2 = 0 then (f_X0_hearersOfAny_26 N (f_X0_hearersOfAny_4 N n) a0 v1 v2 v3 t1) else (bR (gr t1 a0 3) (okA 0) (fun o3 => if inb v3 (arL o3) then (lt (v2 ||| (gi t1 o3 (ix v3))) (fun x4 => f_X0_hearersOfAny_26 N (f_X0_hearersOfAny_4 N n) a0 v1 x4 v3 t1)) else none)))))
    refine jr_iload_n hG 3 dX0_hearersOfAny_4 rfl rfl ?_
    refine jr_iconst (v := (4 : Int32)) hG dX0_hearersOfAny_5 (by decide) ?_
    refine jr_icmp_ge hG 32 dX0_hearersOfAny_6 (by decide) (fun _ => ?_) (fun _ => ?_)
    · refine jr_iload_n hG 2 dX0_hearersOfAny_32 rfl rfl ?_
      exact jr_iret hG hr hk dX0_hearersOfAny_33
    · refine jr_iload_n hG 1 dX0_hearersOfAny_9 rfl rfl ?_
      refine jr_iload_n hG 3 dX0_hearersOfAny_10 rfl rfl ?_
      refine jr_callNi (As := [.int v1, .int v3]) hG (c_X5_holds l E N v1 v3 (σ)) ci_X5_holds (List.mem_of_getElem? (i := 5) rfl) wd_366 ⟨rfl, rfl, Nat.le_of_ble_eq_true rfl, Nat.le_of_ble_eq_true rfl⟩ rfl rfl (Nat.le_of_ble_eq_true rfl) dX0_hearersOfAny_11 ⟨Nat.le_refl _, Nat.le_refl _⟩ (fun r2 t1 => ?_)
      refine jr_if_eq hG 26 dX0_hearersOfAny_14 (by decide) (fun _ => ?_) (fun _ => ?_)
      · exact w_X0_hearersOfAny_26 N hG hr hk ih a0 v1 v2 v3 ha0 t1
      · refine jr_iload_n hG 2 dX0_hearersOfAny_17 rfl rfl ?_
        refine jr_aload_n hG 0 dX0_hearersOfAny_18 rfl rfl ?_
        refine jr_getR hG fi_RX0_21 rfl (okO_s ha0) (okO_l ha0) dX0_hearersOfAny_19 (fun o3 ho3 => ?_)
        refine jr_iload_n hG 3 dX0_hearersOfAny_22 rfl rfl ?_
        refine jr_iald hG (okA_s (by decide) ho3) (okA_l ho3) dX0_hearersOfAny_23 ?_
        refine jr_ior hG dX0_hearersOfAny_24 ?_
        refine jr_leti (fun x4 _ => ?_)
        refine jr_istore_n (lv' := [(2, .int x4), (0, .ref (E.B + a0)), (1, .int v1), (3, .int v3)]) hG dX0_hearersOfAny_25 rfl (by decide) rfl ?_
        refine jr_sub (lv' := [(0, .ref (E.B + a0)), (1, .int v1), (2, .int x4), (3, .int v3)]) [1, 2, 0, 3] rfl ?_
        exact w_X0_hearersOfAny_26 N hG hr hk ih a0 v1 x4 v3 ha0 t1
def f_X0_hearersOfAny (N : Nat) (a0 : Nat) (v1 : Int32) (σ : Mm) : Option (Int32 × Mm) := if okO 0 a0 then (f_X0_hearersOfAny_4 N N a0 v1 (0 : Int32) (0 : Int32) (σ)) else none
set_option maxRecDepth 20000 in
theorem c_X0_hearersOfAny (l : Launch) (E : XE) (N : Nat) (a0 : Nat) (v1 : Int32) (σ : Mm) : ∀ r0, f_X0_hearersOfAny N a0 v1 σ = some r0 → Met l yX0_hearersOfAny [Cond.code yX0_hearersOfAny cX0_hearersOfAny 4 (some .int)] rm_X0_hearersOfAny (xPc E (NT + 0) σ [.ref (E.B + a0), .int v1]) (xQi E (NT + 0) r0) 0 0 (xA E) := by
  refine met_of (N0 := NT) (by decide +kernel) (Nat.le_of_ble_eq_true rfl) ?_
  intro p e s m args below meth c hG hr hk _
  show JR E NT 4 p l e rm_X0_hearersOfAny s m args below meth c 0 0 (fun r => MQ below (xQi E (NT + 0) r) args s 0 0 (xA E)) 0 [(0, .ref (E.B + a0)), (1, .int v1)] [] σ (if okO 0 a0 then (f_X0_hearersOfAny_4 N N a0 v1 (0 : Int32) (0 : Int32) (σ)) else none)
  refine jr_guard (fun ha0 => ?_)
  refine jr_iconst (v := (0 : Int32)) hG dX0_hearersOfAny_0 (by decide) ?_
  refine jr_istore_n (lv' := [(2, .int (0 : Int32)), (0, .ref (E.B + a0)), (1, .int v1)]) hG dX0_hearersOfAny_1 rfl (by decide) rfl ?_
  refine jr_iconst (v := (0 : Int32)) hG dX0_hearersOfAny_2 (by decide) ?_
  refine jr_istore_n (lv' := [(3, .int (0 : Int32)), (2, .int (0 : Int32)), (0, .ref (E.B + a0)), (1, .int v1)]) hG dX0_hearersOfAny_3 rfl (by decide) rfl ?_
  refine jr_sub (lv' := [(0, .ref (E.B + a0)), (1, .int v1), (2, .int (0 : Int32)), (3, .int (0 : Int32))]) [2, 3, 1, 0] rfl ?_
  exact w_X0_hearersOfAny_4 N hG hr hk N a0 v1 (0 : Int32) (0 : Int32) ha0 (σ)
-- TonguesDealt$Day.settle(LTonguesDealt$Plan;)V
abbrev rm_X0_settle : Room := { frames := 4, cells := 0, slots := 0, locals := 90 }
theorem ci_X0_settle : CIx yX0_settle cX0_settle 4 none 1 := ⟨wd_398, wd_73, by decide +kernel⟩
def f_X0_settle_44 (N : Nat) (K7 : Nat → Nat → Int32 → Mm → Option (Mm)) (a0 : Nat) (a1 : Nat) (v2 : Int32) (v3 : Int32) (σ : Mm) : Option (Mm) := bR (gr σ a0 4) (okA 0) (fun o10 => if inb v2 (arL o10) then (lt (si σ o10 (ix v2) (v3 &&& (((1 : Int32) <<< (v2 &&& 31)) ^^^ (-1 : Int32)))) (fun t11 => K7 a0 a1 (v2 + (1 : Int32)) t11)) else none)
set_option maxRecDepth 20000 in
theorem w_X0_settle_44 {p : Program} {l : Launch} {e : Env} {s : State} {m : MethodId} {args : Array Value} {below : List Frame} {meth : Method} {c : Code} {E : XE} (N : Nat) (hG : GG E NT 4 RX0 cX0_settle p s m args c) (hr : meth.sig.returnType = none) (hk : meth.locks = false) {K7 : Nat → Nat → Int32 → Mm → Option (Mm)} (hK7 : ∀ (a0 : Nat) (a1 : Nat) (v2 : Int32) (ha0 : okO 0 a0 = true) (ha1 : okO 2 a1 = true) (σ : Mm), JR E NT 4 p l e rm_X0_settle s m args below meth c 0 0 (fun r => MQ below (xQv E (NT + 0) r) args s 0 0 (xA E)) 7 [(0, .ref (E.B + a0)), (1, .ref (E.B + a1)), (2, .int v2)] [] σ (K7 a0 a1 v2 σ)) (a0 : Nat) (a1 : Nat) (v2 : Int32) (v3 : Int32) (ha0 : okO 0 a0 = true) (ha1 : okO 2 a1 = true) (σ : Mm) : JR E NT 4 p l e rm_X0_settle s m args below meth c 0 0 (fun r => MQ below (xQv E (NT + 0) r) args s 0 0 (xA E)) 44 [(0, .ref (E.B + a0)), (1, .ref (E.B + a1)), (2, .int v2), (3, .int v3)] [] σ (f_X0_settle_44 N K7 a0 a1 v2 v3 σ) := by
  show JR E NT 4 p l e rm_X0_settle s m args below meth c 0 0 (fun r => MQ below (xQv E (NT + 0) r) args s 0 0 (xA E)) 44 [(0, .ref (E.B + a0)), (1, .ref (E.B + a1)), (2, .int v2), (3, .int v3)] [] σ (bR (gr σ a0 4) (okA 0) (fun o10 => if inb v2 (arL o10) then (lt (si σ o10 (ix v2) (v3 &&& (((1 : Int32) <<< (v2 &&& 31)) ^^^ (-1 : Int32)))) (fun t11 => K7 a0 a1 (v2 + (1 : Int32)) t11)) else none))
  refine jr_aload_n hG 0 dX0_settle_44 rfl rfl ?_
  refine jr_getR hG fi_RX0_24 rfl (okO_s ha0) (okO_l ha0) dX0_settle_45 (fun o10 ho10 => ?_)
  refine jr_iload_n hG 2 dX0_settle_48 rfl rfl ?_
  refine jr_iload_n hG 3 dX0_settle_49 rfl rfl ?_
  refine jr_iconst (v := (1 : Int32)) hG dX0_settle_50 (by decide) ?_
  refine jr_iload_n hG 2 dX0_settle_51 rfl rfl ?_
  refine jr_ishl hG dX0_settle_52 ?_
  refine jr_iconst (v := (-1 : Int32)) hG dX0_settle_53 (by decide) ?_
  refine jr_ixor hG dX0_settle_54 ?_
  refine jr_iand hG dX0_settle_55 ?_
  refine jr_iast hG (okA_s (by decide) ho10) (okA_l ho10) dX0_settle_56 ?_
  refine jr_lets (fun t11 _ => ?_)
  refine jr_iinc (v := v2 + (1 : Int32)) (lv' := [(2, .int (v2 + (1 : Int32))), (0, .ref (E.B + a0)), (1, .ref (E.B + a1)), (3, .int v3)]) hG 2 dX0_settle_57 rfl rfl (by decide) rfl ?_
  refine jr_goto hG 7 dX0_settle_60 (by decide) ?_
  refine jr_sub (lv' := [(0, .ref (E.B + a0)), (1, .ref (E.B + a1)), (2, .int (v2 + (1 : Int32)))]) [1, 2, 0] rfl ?_
  exact hK7 a0 a1 (v2 + (1 : Int32)) ha0 ha1 t11
def f_X0_settle_7 (N : Nat)  : Nat → Nat → Nat → Int32 → Mm → Option (Mm)
  | 0 => fun _ _ _ _ => none
  | n + 1 => fun a0 a1 v2 σ => if (gi σ a1 8) ≤ v2 then (some (σ)) else (bR (gr σ a0 1) (okA 0) (fun o2 => if inb v2 (arL o2) then (lt (gi σ o2 (ix v2)) (fun x3 => bI (f_X2_is N a1 v2 (2 : Int32) (σ)) (fun r5 t4 => if r5 = 0 then (bR (gr t4 a0 2) (okA 0) (fun o6 => if inb v2 (arL o6) then (bI (f_X0_hearersOfAny N a0 (gi t4 o6 (ix v2)) t4) (fun r8 t7 => lt (x3 ||| r8) (fun x9 => f_X0_settle_44 N (f_X0_settle_7 N n) a0 a1 v2 x9 t7))) else none)) else (f_X0_settle_44 N (f_X0_settle_7 N n) a0 a1 v2 x3 t4)))) else none))
set_option maxRecDepth 20000 in
theorem w_X0_settle_7 {p : Program} {l : Launch} {e : Env} {s : State} {m : MethodId} {args : Array Value} {below : List Frame} {meth : Method} {c : Code} {E : XE} (N : Nat) (hG : GG E NT 4 RX0 cX0_settle p s m args c) (hr : meth.sig.returnType = none) (hk : meth.locks = false)  : ∀ (n : Nat) (a0 : Nat) (a1 : Nat) (v2 : Int32) (ha0 : okO 0 a0 = true) (ha1 : okO 2 a1 = true) (σ : Mm), JR E NT 4 p l e rm_X0_settle s m args below meth c 0 0 (fun r => MQ below (xQv E (NT + 0) r) args s 0 0 (xA E)) 7 [(0, .ref (E.B + a0)), (1, .ref (E.B + a1)), (2, .int v2)] [] σ (f_X0_settle_7 N n a0 a1 v2 σ) := by
  intro n
  induction n with
  | zero => intro a0 a1 v2 ha0 ha1 σ r hX; cases hX
  | succ n ih =>
    intro a0 a1 v2 ha0 ha1 σ
    show JR E NT 4 p l e rm_X0_settle s m args below meth c 0 0 (fun r => MQ below (xQv E (NT + 0) r) args s 0 0 (xA E)) 7 [(0, .ref (E.B + a0)), (1, .ref (E.B + a1)), (2, .int v2)] [] σ (if (gi σ a1 8) ≤ v2 then (some (σ)) else (bR (gr σ a0 1) (okA 0) (fun o2 => if inb v2 (arL o2) then (lt (gi σ o2 (ix v2)) (fun x3 => bI (f_X2_is N a1 v2 (2 : Int32) (σ)) (fun r5 t4 => if r5 = 0 then (bR (gr t4 a0 2) (okA 0) (fun o6 => if inb v2 (arL o6) then (bI (f_X0_hearersOfAny N a0 (gi t4 o6 (ix v2)) t4) (fun r8 t7 => lt (x3 ||| r8) (fun x9 => f_X0_settle_44 N (f_X0_settle_7 N n) a0 a1 v2 x9 t7))) else none)) else (f_X0_settle_44 N (f_X0_settle_7 N n) a0 a1 v2 x3 t4)))) else none)))
    refine jr_iload_n hG 2 dX0_settle_7 rfl rfl ?_
    refine jr_aload_n hG 1 dX0_settle_8 rfl rfl ?_
    refine jr_getI hG fi_RX0_38 rfl (okO_s ha1) (okO_l ha1) dX0_settle_9 ?_
    refine jr_icmp_ge hG 63 dX0_settle_12 (by decide) (fun _ => ?_) (fun _ => ?_)
    · exact jr_vret hG hr hk dX0_settle_63
    · refine jr_aload_n hG 0 dX0_settle_15 rfl rfl ?_
      refine jr_getR hG fi_RX0_15 rfl (okO_s ha0) (okO_l ha0) dX0_settle_16 (fun o2 ho2 => ?_)
      refine jr_iload_n hG 2 dX0_settle_19 rfl rfl ?_
      refine jr_iald hG (okA_s (by decide) ho2) (okA_l ho2) dX0_settle_20 ?_
      refine jr_leti (fun x3 _ => ?_)
      refine jr_istore_n (lv' := [(3, .int x3), (0, .ref (E.B + a0)), (1, .ref (E.B + a1)), (2, .int v2)]) hG dX0_settle_21 rfl (by decide) rfl ?_
      refine jr_aload_n hG 2 dX0_settle_22 rfl rfl ?_
      refine jr_iload_n hG 3 dX0_settle_23 rfl rfl ?_
      refine jr_iconst (v := (2 : Int32)) hG dX0_settle_24 (by decide) ?_
      refine jr_callVi (As := [.int v2, .int (2 : Int32)]) hG (c_X2_is l E N a1 v2 (2 : Int32) (σ)) ci_X2_is wd_411 ⟨wd_408, wd_409⟩ cl_2 (okO_s ha1) (okO_l ha1) ⟨rfl, rfl, Nat.le_of_ble_eq_true rfl, Nat.le_of_ble_eq_true rfl⟩ rfl rfl (Nat.le_of_ble_eq_true rfl) dX0_settle_25 ⟨Nat.le_refl _, Nat.le_refl _⟩ (fun r5 t4 => ?_)
      refine jr_if_ne hG 44 dX0_settle_28 (by decide) (fun _ => ?_) (fun _ => ?_)
      · refine jr_sub (lv' := [(0, .ref (E.B + a0)), (1, .ref (E.B + a1)), (2, .int v2), (3, .int x3)]) [1, 2, 3, 0] rfl ?_
        exact w_X0_settle_44 N hG hr hk ih a0 a1 v2 x3 ha0 ha1 t4
      · refine jr_iload_n hG 0 dX0_settle_31 rfl rfl ?_
        refine jr_aload_n hG 1 dX0_settle_32 rfl rfl ?_
        refine jr_aload_n hG 1 dX0_settle_33 rfl rfl ?_
        refine jr_getR hG fi_RX0_18 rfl (okO_s ha0) (okO_l ha0) dX0_settle_34 (fun o6 ho6 => ?_)
        refine jr_iload_n hG 3 dX0_settle_37 rfl rfl ?_
        refine jr_iald hG (okA_s (by decide) ho6) (okA_l ho6) dX0_settle_38 ?_
        refine jr_callVi (As := [.int (gi t4 o6 (ix v2))]) hG (c_X0_hearersOfAny l E N a0 (gi t4 o6 (ix v2)) t4) ci_X0_hearersOfAny wd_413 ⟨wd_415, wd_6⟩ cl_0 (okO_s ha0) (okO_l ha0) ⟨rfl, rfl, Nat.le_of_ble_eq_true rfl, Nat.le_of_ble_eq_true rfl⟩ rfl rfl (Nat.le_of_ble_eq_true rfl) dX0_settle_39 ⟨Nat.le_refl _, Nat.le_refl _⟩ (fun r8 t7 => ?_)
        refine jr_ior hG dX0_settle_42 ?_
        refine jr_leti (fun x9 _ => ?_)
        refine jr_istore_n (lv' := [(3, .int x9), (0, .ref (E.B + a0)), (1, .ref (E.B + a1)), (2, .int v2)]) hG dX0_settle_43 rfl (by decide) rfl ?_
        refine jr_sub (lv' := [(0, .ref (E.B + a0)), (1, .ref (E.B + a1)), (2, .int v2), (3, .int x9)]) [1, 2, 3, 0] rfl ?_
        exact w_X0_settle_44 N hG hr hk ih a0 a1 v2 x9 ha0 ha1 t7
def f_X0_settle (N : Nat) (a0 : Nat) (a1 : Nat) (σ : Mm) : Option (Mm) := if okO 0 a0 then (if okO 2 a1 then (bV (f_X0_learn N a0 a1 (σ)) (fun t1 => f_X0_settle_7 N N a0 a1 (0 : Int32) t1)) else none) else none
set_option maxRecDepth 20000 in
theorem c_X0_settle (l : Launch) (E : XE) (N : Nat) (a0 : Nat) (a1 : Nat) (σ : Mm) : ∀ r0, f_X0_settle N a0 a1 σ = some r0 → Met l yX0_settle [Cond.code yX0_settle cX0_settle 4 none] rm_X0_settle (xPc E (NT + 0) σ [.ref (E.B + a0), .ref (E.B + a1)]) (xQv E (NT + 0) r0) 0 0 (xA E) := by
  refine met_of (N0 := NT) (by decide +kernel) (Nat.le_of_ble_eq_true rfl) ?_
  intro p e s m args below meth c hG hr hk _
  show JR E NT 4 p l e rm_X0_settle s m args below meth c 0 0 (fun r => MQ below (xQv E (NT + 0) r) args s 0 0 (xA E)) 0 [(0, .ref (E.B + a0)), (1, .ref (E.B + a1))] [] σ (if okO 0 a0 then (if okO 2 a1 then (bV (f_X0_learn N a0 a1 (σ)) (fun t1 => f_X0_settle_7 N N a0 a1 (0 : Int32) t1)) else none) else none)
  refine jr_guard (fun ha0 => ?_)
  refine jr_guard (fun ha1 => ?_)
  refine jr_aload_n hG 0 dX0_settle_0 rfl rfl ?_
  refine jr_aload_n hG 1 dX0_settle_1 rfl rfl ?_
  refine jr_callVv (As := [.ref (E.B + a1)]) hG (c_X0_learn l E N a0 a1 (σ)) ci_X0_learn wd_399 ⟨wd_400, wd_401⟩ cl_0 (okO_s ha0) (okO_l ha0) ⟨rfl, rfl, Nat.le_of_ble_eq_true rfl, Nat.le_of_ble_eq_true rfl⟩ rfl rfl (Nat.le_of_ble_eq_true rfl) dX0_settle_2 ⟨Nat.le_refl _, Nat.le_refl _⟩ (fun t1 => ?_)
  refine jr_iconst (v := (0 : Int32)) hG dX0_settle_5 (by decide) ?_
  refine jr_istore_n (lv' := [(2, .int (0 : Int32)), (0, .ref (E.B + a0)), (1, .ref (E.B + a1))]) hG dX0_settle_6 rfl (by decide) rfl ?_
  refine jr_sub (lv' := [(0, .ref (E.B + a0)), (1, .ref (E.B + a1)), (2, .int (0 : Int32))]) [1, 2, 0] rfl ?_
  exact w_X0_settle_7 N hG hr hk N a0 a1 (0 : Int32) ha0 ha1 t1
-- TonguesDealt$Day.thinkOf(LTonguesDealt$Plan;I)V
abbrev rm_X0_thinkOf : Room := { frames := 5, cells := 0, slots := 0, locals := 113 }
theorem ci_X0_thinkOf : CIx yX0_thinkOf cX0_thinkOf 3 none 2 := ⟨wd_581, wd_73, by decide +kernel⟩
def f_X0_thinkOf (N : Nat) (a0 : Nat) (a1 : Nat) (v2 : Int32) (σ : Mm) : Option (Mm) := if okO 0 a0 then (if okO 2 a1 then (bV (f_X0_dealOut N a0 a1 v2 (σ)) (fun t1 => bV (f_X0_settle N a0 a1 t1) (fun t2 => some t2))) else none) else none
set_option maxRecDepth 20000 in
theorem c_X0_thinkOf (l : Launch) (E : XE) (N : Nat) (a0 : Nat) (a1 : Nat) (v2 : Int32) (σ : Mm) : ∀ r0, f_X0_thinkOf N a0 a1 v2 σ = some r0 → Met l yX0_thinkOf [Cond.code yX0_thinkOf cX0_thinkOf 3 none] rm_X0_thinkOf (xPc E (NT + 0) σ [.ref (E.B + a0), .ref (E.B + a1), .int v2]) (xQv E (NT + 0) r0) 0 0 (xA E) := by
  refine met_of (N0 := NT) (by decide +kernel) (Nat.le_of_ble_eq_true rfl) ?_
  intro p e s m args below meth c hG hr hk _
  show JR E NT 3 p l e rm_X0_thinkOf s m args below meth c 0 0 (fun r => MQ below (xQv E (NT + 0) r) args s 0 0 (xA E)) 0 [(0, .ref (E.B + a0)), (1, .ref (E.B + a1)), (2, .int v2)] [] σ (if okO 0 a0 then (if okO 2 a1 then (bV (f_X0_dealOut N a0 a1 v2 (σ)) (fun t1 => bV (f_X0_settle N a0 a1 t1) (fun t2 => some t2))) else none) else none)
  refine jr_guard (fun ha0 => ?_)
  refine jr_guard (fun ha1 => ?_)
  refine jr_aload_n hG 0 dX0_thinkOf_0 rfl rfl ?_
  refine jr_aload_n hG 1 dX0_thinkOf_1 rfl rfl ?_
  refine jr_iload_n hG 2 dX0_thinkOf_2 rfl rfl ?_
  refine jr_callVv (As := [.ref (E.B + a1), .int v2]) hG (c_X0_dealOut l E N a0 a1 v2 (σ)) ci_X0_dealOut wd_391 ⟨wd_392, wd_393⟩ cl_0 (okO_s ha0) (okO_l ha0) ⟨rfl, rfl, Nat.le_of_ble_eq_true rfl, Nat.le_of_ble_eq_true rfl⟩ rfl rfl (Nat.le_of_ble_eq_true rfl) dX0_thinkOf_3 ⟨Nat.le_refl _, Nat.le_refl _⟩ (fun t1 => ?_)
  refine jr_aload_n hG 0 dX0_thinkOf_6 rfl rfl ?_
  refine jr_aload_n hG 1 dX0_thinkOf_7 rfl rfl ?_
  refine jr_callVv (As := [.ref (E.B + a1)]) hG (c_X0_settle l E N a0 a1 t1) ci_X0_settle wd_582 ⟨wd_396, wd_397⟩ cl_0 (okO_s ha0) (okO_l ha0) ⟨rfl, rfl, Nat.le_of_ble_eq_true rfl, Nat.le_of_ble_eq_true rfl⟩ rfl rfl (Nat.le_of_ble_eq_true rfl) dX0_thinkOf_8 ⟨Nat.le_refl _, Nat.le_refl _⟩ (fun t2 => ?_)
  exact jr_vret hG hr hk dX0_thinkOf_11
-- TonguesDealt$Day.isHeardAs(LTonguesDealt$Row;)Z
abbrev rm_X0_isHeardAs : Room := { frames := 0, cells := 0, slots := 0, locals := 0 }
theorem ci_X0_isHeardAs : CIx yX0_isHeardAs cX0_isHeardAs 3 (some .boolean) 1 := ⟨wd_664, wd_73, by decide +kernel⟩
def f_X0_isHeardAs_2 (N : Nat)  : Nat → Nat → Nat → Int32 → Mm → Option (Int32 × Mm)
  | 0 => fun _ _ _ _ => none
  | n + 1 => fun a0 a1 v2 σ => if (gi σ a1 1) ≤ v2 then (some ((1 : Int32), σ)) else (if (4 : Int32) ≤ v2 then (some ((1 : Int32), σ)) else (bR (gr σ a0 3) (okA 0) (fun o1 => if inb v2 (arL o1) then (bR (gr σ a1 0) (okA 0) (fun o2 => if inb v2 (arL o2) then (if (gi σ o1 (ix v2)) = (gi σ o2 (ix v2)) then (f_X0_isHeardAs_2 N n a0 a1 (v2 + (1 : Int32)) (σ)) else (some ((0 : Int32), σ))) else none)) else none)))
set_option maxRecDepth 20000 in
theorem w_X0_isHeardAs_2 {p : Program} {l : Launch} {e : Env} {s : State} {m : MethodId} {args : Array Value} {below : List Frame} {meth : Method} {c : Code} {E : XE} (N : Nat) (hG : GG E NT 3 RX0 cX0_isHeardAs p s m args c) (hr : meth.sig.returnType = (some .boolean)) (hk : meth.locks = false)  : ∀ (n : Nat) (a0 : Nat) (a1 : Nat) (v2 : Int32) (ha0 : okO 0 a0 = true) (ha1 : okO 3 a1 = true) (σ : Mm), JR E NT 3 p l e rm_X0_isHeardAs s m args below meth c 0 0 (fun r => MQ below (xQi E (NT + 0) r) args s 0 0 (xA E)) 2 [(0, .ref (E.B + a0)), (1, .ref (E.B + a1)), (2, .int v2)] [] σ (f_X0_isHeardAs_2 N n a0 a1 v2 σ) := by
  intro n
  induction n with
  | zero => intro a0 a1 v2 ha0 ha1 σ r hX; cases hX
  | succ n ih =>
    intro a0 a1 v2 ha0 ha1 σ
    show JR E NT 3 p l e rm_X0_isHeardAs s m args below meth c 0 0 (fun r => MQ below (xQi E (NT + 0) r) args s 0 0 (xA E)) 2 [(0, .ref (E.B + a0)), (1, .ref (E.B + a1)), (2, .int v2)] [] σ (if (gi σ a1 1) ≤ v2 then (some ((1 : Int32), σ)) else (if (4 : Int32) ≤ v2 then (some ((1 : Int32), σ)) else (bR (gr σ a0 3) (okA 0) (fun o1 => if inb v2 (arL o1) then (bR (gr σ a1 0) (okA 0) (fun o2 => if inb v2 (arL o2) then (if (gi σ o1 (ix v2)) = (gi σ o2 (ix v2)) then (f_X0_isHeardAs_2 N n a0 a1 (v2 + (1 : Int32)) (σ)) else (some ((0 : Int32), σ))) else none)) else none))))
    refine jr_iload_n hG 2 dX0_isHeardAs_2 rfl rfl ?_
    refine jr_aload_n hG 1 dX0_isHeardAs_3 rfl rfl ?_
    refine jr_getI hG fi_RX0_71 rfl (okO_s ha1) (okO_l ha1) dX0_isHeardAs_4 ?_
    refine jr_icmp_ge hG 38 dX0_isHeardAs_7 (by decide) (fun _ => ?_) (fun _ => ?_)
    · refine jr_iconst (v := (1 : Int32)) hG dX0_isHeardAs_38 (by decide) ?_
      exact jr_zret hG hr hk (by decide) dX0_isHeardAs_39
    · refine jr_iload_n hG 2 dX0_isHeardAs_10 rfl rfl ?_
      refine jr_iconst (v := (4 : Int32)) hG dX0_isHeardAs_11 (by decide) ?_
      refine jr_icmp_ge hG 38 dX0_isHeardAs_12 (by decide) (fun _ => ?_) (fun _ => ?_)
      · refine jr_iconst (v := (1 : Int32)) hG dX0_isHeardAs_38 (by decide) ?_
        exact jr_zret hG hr hk (by decide) dX0_isHeardAs_39
      · refine jr_aload_n hG 0 dX0_isHeardAs_15 rfl rfl ?_
        refine jr_getR hG fi_RX0_21 rfl (okO_s ha0) (okO_l ha0) dX0_isHeardAs_16 (fun o1 ho1 => ?_)
        refine jr_iload_n hG 2 dX0_isHeardAs_19 rfl rfl ?_
        refine jr_iald hG (okA_s (by decide) ho1) (okA_l ho1) dX0_isHeardAs_20 ?_
        refine jr_aload_n hG 1 dX0_isHeardAs_21 rfl rfl ?_
        refine jr_getR hG fi_RX0_76 rfl (okO_s ha1) (okO_l ha1) dX0_isHeardAs_22 (fun o2 ho2 => ?_)
        refine jr_iload_n hG 2 dX0_isHeardAs_25 rfl rfl ?_
        refine jr_iald hG (okA_s (by decide) ho2) (okA_l ho2) dX0_isHeardAs_26 ?_
        refine jr_icmp_eq hG 32 dX0_isHeardAs_27 (by decide) (fun _ => ?_) (fun _ => ?_)
        · refine jr_iinc (v := v2 + (1 : Int32)) (lv' := [(2, .int (v2 + (1 : Int32))), (0, .ref (E.B + a0)), (1, .ref (E.B + a1))]) hG 2 dX0_isHeardAs_32 rfl rfl (by decide) rfl ?_
          refine jr_goto hG 2 dX0_isHeardAs_35 (by decide) ?_
          refine jr_sub (lv' := [(0, .ref (E.B + a0)), (1, .ref (E.B + a1)), (2, .int (v2 + (1 : Int32)))]) [1, 2, 0] rfl ?_
          exact ih a0 a1 (v2 + (1 : Int32)) ha0 ha1 (σ)
        · refine jr_iconst (v := (0 : Int32)) hG dX0_isHeardAs_30 (by decide) ?_
          exact jr_zret hG hr hk (by decide) dX0_isHeardAs_31
def f_X0_isHeardAs (N : Nat) (a0 : Nat) (a1 : Nat) (σ : Mm) : Option (Int32 × Mm) := if okO 0 a0 then (if okO 3 a1 then (f_X0_isHeardAs_2 N N a0 a1 (0 : Int32) (σ)) else none) else none
set_option maxRecDepth 20000 in
theorem c_X0_isHeardAs (l : Launch) (E : XE) (N : Nat) (a0 : Nat) (a1 : Nat) (σ : Mm) : ∀ r0, f_X0_isHeardAs N a0 a1 σ = some r0 → Met l yX0_isHeardAs [Cond.code yX0_isHeardAs cX0_isHeardAs 3 (some .boolean)] rm_X0_isHeardAs (xPc E (NT + 0) σ [.ref (E.B + a0), .ref (E.B + a1)]) (xQi E (NT + 0) r0) 0 0 (xA E) := by
  refine met_of (N0 := NT) (by decide +kernel) (Nat.le_of_ble_eq_true rfl) ?_
  intro p e s m args below meth c hG hr hk _
  show JR E NT 3 p l e rm_X0_isHeardAs s m args below meth c 0 0 (fun r => MQ below (xQi E (NT + 0) r) args s 0 0 (xA E)) 0 [(0, .ref (E.B + a0)), (1, .ref (E.B + a1))] [] σ (if okO 0 a0 then (if okO 3 a1 then (f_X0_isHeardAs_2 N N a0 a1 (0 : Int32) (σ)) else none) else none)
  refine jr_guard (fun ha0 => ?_)
  refine jr_guard (fun ha1 => ?_)
  refine jr_iconst (v := (0 : Int32)) hG dX0_isHeardAs_0 (by decide) ?_
  refine jr_istore_n (lv' := [(2, .int (0 : Int32)), (0, .ref (E.B + a0)), (1, .ref (E.B + a1))]) hG dX0_isHeardAs_1 rfl (by decide) rfl ?_
  refine jr_sub (lv' := [(0, .ref (E.B + a0)), (1, .ref (E.B + a1)), (2, .int (0 : Int32))]) [1, 2, 0] rfl ?_
  exact w_X0_isHeardAs_2 N hG hr hk N a0 a1 (0 : Int32) ha0 ha1 (σ)
-- java/lang/Integer.bitCount(I)I
abbrev rm_J6_bitCount_0f7a4 : Room := { frames := 0, cells := 0, slots := 0, locals := 0 }
theorem ci_J6_bitCount_0f7a4 : CIx yJ6_bitCount_0f7a4 cJ6_bitCount_0f7a4 1 (some .int) 1 := ⟨wd_438, wd_79, by decide +kernel⟩
def f_J6_bitCount_0f7a4 (N : Nat) (v0 : Int32) (σ : Mm) : Option (Int32 × Mm) := lt (v0 - (((v0.toUInt32 >>> ((1 : Int32).toUInt32 &&& Int32.toUInt32 31)).toInt32) &&& (1431655765 : Int32))) (fun x1 => lt ((x1 &&& (858993459 : Int32)) + (((x1.toUInt32 >>> ((2 : Int32).toUInt32 &&& Int32.toUInt32 31)).toInt32) &&& (858993459 : Int32))) (fun x2 => lt ((x2 + ((x2.toUInt32 >>> ((4 : Int32).toUInt32 &&& Int32.toUInt32 31)).toInt32)) &&& (252645135 : Int32)) (fun x3 => lt (x3 + ((x3.toUInt32 >>> ((8 : Int32).toUInt32 &&& Int32.toUInt32 31)).toInt32)) (fun x4 => lt (x4 + ((x4.toUInt32 >>> ((16 : Int32).toUInt32 &&& Int32.toUInt32 31)).toInt32)) (fun x5 => some (x5 &&& (63 : Int32), σ))))))
set_option maxRecDepth 20000 in
theorem c_J6_bitCount_0f7a4 (l : Launch) (E : XE) (N : Nat) (v0 : Int32) (σ : Mm) : ∀ r0, f_J6_bitCount_0f7a4 N v0 σ = some r0 → Met l yJ6_bitCount_0f7a4 [Cond.code yJ6_bitCount_0f7a4 cJ6_bitCount_0f7a4 1 (some .int)] rm_J6_bitCount_0f7a4 (xPc E (NT + 0) σ [.int v0]) (xQi E (NT + 0) r0) 0 0 (xA E) := by
  refine met_of (N0 := NT) (by decide +kernel) (Nat.le_of_ble_eq_true rfl) ?_
  intro p e s m args below meth c hG hr hk _
  show JR E NT 1 p l e rm_J6_bitCount_0f7a4 s m args below meth c 0 0 (fun r => MQ below (xQi E (NT + 0) r) args s 0 0 (xA E)) 0 [(0, .int v0)] [] σ (lt (v0 - (((v0.toUInt32 >>> ((1 : Int32).toUInt32 &&& Int32.toUInt32 31)).toInt32) &&& (1431655765 : Int32))) (fun x1 => lt ((x1 &&& (858993459 : Int32)) + (((x1.toUInt32 >>> ((2 : Int32).toUInt32 &&& Int32.toUInt32 31)).toInt32) &&& (858993459 : Int32))) (fun x2 => lt ((x2 + ((x2.toUInt32 >>> ((4 : Int32).toUInt32 &&& Int32.toUInt32 31)).toInt32)) &&& (252645135 : Int32)) (fun x3 => lt (x3 + ((x3.toUInt32 >>> ((8 : Int32).toUInt32 &&& Int32.toUInt32 31)).toInt32)) (fun x4 => lt (x4 + ((x4.toUInt32 >>> ((16 : Int32).toUInt32 &&& Int32.toUInt32 31)).toInt32)) (fun x5 => some (x5 &&& (63 : Int32), σ)))))))
  refine jr_iload_n hG 0 dJ6_bitCount_0f7a4_0 rfl rfl ?_
  refine jr_iload_n hG 0 dJ6_bitCount_0f7a4_1 rfl rfl ?_
  refine jr_iconst (v := (1 : Int32)) hG dJ6_bitCount_0f7a4_2 (by decide) ?_
  refine jr_iushr hG dJ6_bitCount_0f7a4_3 ?_
  refine jr_ldcw (v := (1431655765 : Int32)) hG wd_439 dJ6_bitCount_0f7a4_4 ?_
  refine jr_iand hG dJ6_bitCount_0f7a4_7 ?_
  refine jr_isub hG dJ6_bitCount_0f7a4_8 ?_
  refine jr_leti (fun x1 _ => ?_)
  refine jr_istore_n (lv' := [(0, .int x1)]) hG dJ6_bitCount_0f7a4_9 rfl (by decide) rfl ?_
  refine jr_iload_n hG 0 dJ6_bitCount_0f7a4_10 rfl rfl ?_
  refine jr_ldcw (v := (858993459 : Int32)) hG wd_440 dJ6_bitCount_0f7a4_11 ?_
  refine jr_iand hG dJ6_bitCount_0f7a4_14 ?_
  refine jr_iload_n hG 0 dJ6_bitCount_0f7a4_15 rfl rfl ?_
  refine jr_iconst (v := (2 : Int32)) hG dJ6_bitCount_0f7a4_16 (by decide) ?_
  refine jr_iushr hG dJ6_bitCount_0f7a4_17 ?_
  refine jr_ldcw (v := (858993459 : Int32)) hG wd_440 dJ6_bitCount_0f7a4_18 ?_
  refine jr_iand hG dJ6_bitCount_0f7a4_21 ?_
  refine jr_iadd hG dJ6_bitCount_0f7a4_22 ?_
  refine jr_leti (fun x2 _ => ?_)
  refine jr_istore_n (lv' := [(0, .int x2)]) hG dJ6_bitCount_0f7a4_23 rfl (by decide) rfl ?_
  refine jr_iload_n hG 0 dJ6_bitCount_0f7a4_24 rfl rfl ?_
  refine jr_iload_n hG 0 dJ6_bitCount_0f7a4_25 rfl rfl ?_
  refine jr_iconst (v := (4 : Int32)) hG dJ6_bitCount_0f7a4_26 (by decide) ?_
  refine jr_iushr hG dJ6_bitCount_0f7a4_27 ?_
  refine jr_iadd hG dJ6_bitCount_0f7a4_28 ?_
  refine jr_ldcw (v := (252645135 : Int32)) hG wd_441 dJ6_bitCount_0f7a4_29 ?_
  refine jr_iand hG dJ6_bitCount_0f7a4_32 ?_
  refine jr_leti (fun x3 _ => ?_)
  refine jr_istore_n (lv' := [(0, .int x3)]) hG dJ6_bitCount_0f7a4_33 rfl (by decide) rfl ?_
  refine jr_iload_n hG 0 dJ6_bitCount_0f7a4_34 rfl rfl ?_
  refine jr_iload_n hG 0 dJ6_bitCount_0f7a4_35 rfl rfl ?_
  refine jr_bipush (v := (8 : Int32)) hG dJ6_bitCount_0f7a4_36 (by decide) ?_
  refine jr_iushr hG dJ6_bitCount_0f7a4_38 ?_
  refine jr_iadd hG dJ6_bitCount_0f7a4_39 ?_
  refine jr_leti (fun x4 _ => ?_)
  refine jr_istore_n (lv' := [(0, .int x4)]) hG dJ6_bitCount_0f7a4_40 rfl (by decide) rfl ?_
  refine jr_iload_n hG 0 dJ6_bitCount_0f7a4_41 rfl rfl ?_
  refine jr_iload_n hG 0 dJ6_bitCount_0f7a4_42 rfl rfl ?_
  refine jr_bipush (v := (16 : Int32)) hG dJ6_bitCount_0f7a4_43 (by decide) ?_
  refine jr_iushr hG dJ6_bitCount_0f7a4_45 ?_
  refine jr_iadd hG dJ6_bitCount_0f7a4_46 ?_
  refine jr_leti (fun x5 _ => ?_)
  refine jr_istore_n (lv' := [(0, .int x5)]) hG dJ6_bitCount_0f7a4_47 rfl (by decide) rfl ?_
  refine jr_iload_n hG 0 dJ6_bitCount_0f7a4_48 rfl rfl ?_
  refine jr_bipush (v := (63 : Int32)) hG dJ6_bitCount_0f7a4_49 (by decide) ?_
  refine jr_iand hG dJ6_bitCount_0f7a4_51 ?_
  exact jr_iret hG hr hk dJ6_bitCount_0f7a4_52
-- TonguesDealt$Day.signCount()I
abbrev rm_X0_signCount : Room := { frames := 1, cells := 0, slots := 0, locals := 20 }
theorem ci_X0_signCount : CIx yX0_signCount cX0_signCount 3 (some .int) 0 := ⟨wd_491, wd_73, by decide +kernel⟩
def f_X0_signCount_4 (N : Nat)  : Nat → Nat → Int32 → Int32 → Mm → Option (Int32 × Mm)
  | 0 => fun _ _ _ _ => none
  | n + 1 => fun a0 v1 v2 σ => if (gi σ a0 5) ≤ v2 then (some (v1 / (2 : Int32), σ)) else (bR (gr σ a0 1) (okA 0) (fun o1 => if inb v2 (arL o1) then (bI (f_J6_bitCount_0f7a4 N (gi σ o1 (ix v2)) (σ)) (fun r3 t2 => lt (v1 + r3) (fun x4 => f_X0_signCount_4 N n a0 x4 (v2 + (1 : Int32)) t2))) else none))
set_option maxRecDepth 20000 in
theorem w_X0_signCount_4 {p : Program} {l : Launch} {e : Env} {s : State} {m : MethodId} {args : Array Value} {below : List Frame} {meth : Method} {c : Code} {E : XE} (N : Nat) (hG : GG E NT 3 RX0 cX0_signCount p s m args c) (hr : meth.sig.returnType = (some .int)) (hk : meth.locks = false)  : ∀ (n : Nat) (a0 : Nat) (v1 : Int32) (v2 : Int32) (ha0 : okO 0 a0 = true) (σ : Mm), JR E NT 3 p l e rm_X0_signCount s m args below meth c 0 0 (fun r => MQ below (xQi E (NT + 0) r) args s 0 0 (xA E)) 4 [(0, .ref (E.B + a0)), (1, .int v1), (2, .int v2)] [] σ (f_X0_signCount_4 N n a0 v1 v2 σ) := by
  intro n
  induction n with
  | zero => intro a0 v1 v2 ha0 σ r hX; cases hX
  | succ n ih =>
    intro a0 v1 v2 ha0 σ
    show JR E NT 3 p l e rm_X0_signCount s m args below meth c 0 0 (fun r => MQ below (xQi E (NT + 0) r) args s 0 0 (xA E)) 4 [(0, .ref (E.B + a0)), (1, .int v1), (2, .int v2)] [] σ (if (gi σ a0 5) ≤ v2 then (some (v1 / (2 : Int32), σ)) else (bR (gr σ a0 1) (okA 0) (fun o1 => if inb v2 (arL o1) then (bI (f_J6_bitCount_0f7a4 N (gi σ o1 (ix v2)) (σ)) (fun r3 t2 => lt (v1 + r3) (fun x4 => f_X0_signCount_4 N n a0 x4 (v2 + (1 : Int32)) t2))) else none)))
    refine jr_iload_n hG 2 dX0_signCount_4 rfl rfl ?_
    refine jr_aload_n hG 0 dX0_signCount_5 rfl rfl ?_
    refine jr_getI hG fi_RX0_27 rfl (okO_s ha0) (okO_l ha0) dX0_signCount_6 ?_
    refine jr_icmp_ge hG 30 dX0_signCount_9 (by decide) (fun _ => ?_) (fun _ => ?_)
    · refine jr_iload_n hG 1 dX0_signCount_30 rfl rfl ?_
      refine jr_iconst (v := (2 : Int32)) hG dX0_signCount_31 (by decide) ?_
      refine jr_idivc hG dX0_signCount_32 (by decide) ?_
      exact jr_iret hG hr hk dX0_signCount_33
    · refine jr_iload_n hG 1 dX0_signCount_12 rfl rfl ?_
      refine jr_aload_n hG 0 dX0_signCount_13 rfl rfl ?_
      refine jr_getR hG fi_RX0_15 rfl (okO_s ha0) (okO_l ha0) dX0_signCount_14 (fun o1 ho1 => ?_)
      refine jr_iload_n hG 2 dX0_signCount_17 rfl rfl ?_
      refine jr_iald hG (okA_s (by decide) ho1) (okA_l ho1) dX0_signCount_18 ?_
      refine jr_callSi (As := [.int (gi σ o1 (ix v2))]) hG (c_J6_bitCount_0f7a4 l E N (gi σ o1 (ix v2)) (σ)) ci_J6_bitCount_0f7a4 wd_492 wd_437 ⟨rfl, rfl, Nat.le_of_ble_eq_true rfl, Nat.le_of_ble_eq_true rfl⟩ rfl rfl (Nat.le_of_ble_eq_true rfl) dX0_signCount_19 ⟨Nat.le_refl _, Nat.le_refl _⟩ (fun r3 t2 => ?_)
      refine jr_iadd hG dX0_signCount_22 ?_
      refine jr_leti (fun x4 _ => ?_)
      refine jr_istore_n (lv' := [(1, .int x4), (0, .ref (E.B + a0)), (2, .int v2)]) hG dX0_signCount_23 rfl (by decide) rfl ?_
      refine jr_iinc (v := v2 + (1 : Int32)) (lv' := [(2, .int (v2 + (1 : Int32))), (1, .int x4), (0, .ref (E.B + a0))]) hG 2 dX0_signCount_24 rfl rfl (by decide) rfl ?_
      refine jr_goto hG 4 dX0_signCount_27 (by decide) ?_
      refine jr_sub (lv' := [(0, .ref (E.B + a0)), (1, .int x4), (2, .int (v2 + (1 : Int32)))]) [2, 1, 0] rfl ?_
      exact ih a0 x4 (v2 + (1 : Int32)) ha0 t2
def f_X0_signCount (N : Nat) (a0 : Nat) (σ : Mm) : Option (Int32 × Mm) := if okO 0 a0 then (f_X0_signCount_4 N N a0 (0 : Int32) (0 : Int32) (σ)) else none
set_option maxRecDepth 20000 in
theorem c_X0_signCount (l : Launch) (E : XE) (N : Nat) (a0 : Nat) (σ : Mm) : ∀ r0, f_X0_signCount N a0 σ = some r0 → Met l yX0_signCount [Cond.code yX0_signCount cX0_signCount 3 (some .int)] rm_X0_signCount (xPc E (NT + 0) σ [.ref (E.B + a0)]) (xQi E (NT + 0) r0) 0 0 (xA E) := by
  refine met_of (N0 := NT) (by decide +kernel) (Nat.le_of_ble_eq_true rfl) ?_
  intro p e s m args below meth c hG hr hk _
  show JR E NT 3 p l e rm_X0_signCount s m args below meth c 0 0 (fun r => MQ below (xQi E (NT + 0) r) args s 0 0 (xA E)) 0 [(0, .ref (E.B + a0))] [] σ (if okO 0 a0 then (f_X0_signCount_4 N N a0 (0 : Int32) (0 : Int32) (σ)) else none)
  refine jr_guard (fun ha0 => ?_)
  refine jr_iconst (v := (0 : Int32)) hG dX0_signCount_0 (by decide) ?_
  refine jr_istore_n (lv' := [(1, .int (0 : Int32)), (0, .ref (E.B + a0))]) hG dX0_signCount_1 rfl (by decide) rfl ?_
  refine jr_iconst (v := (0 : Int32)) hG dX0_signCount_2 (by decide) ?_
  refine jr_istore_n (lv' := [(2, .int (0 : Int32)), (1, .int (0 : Int32)), (0, .ref (E.B + a0))]) hG dX0_signCount_3 rfl (by decide) rfl ?_
  refine jr_sub (lv' := [(0, .ref (E.B + a0)), (1, .int (0 : Int32)), (2, .int (0 : Int32))]) [2, 1, 0] rfl ?_
  exact w_X0_signCount_4 N hG hr hk N a0 (0 : Int32) (0 : Int32) ha0 (σ)
-- TonguesDealt$Day.tellersOf(I)I
abbrev rm_X0_tellersOf : Room := { frames := 1, cells := 0, slots := 0, locals := 21 }
theorem ci_X0_tellersOf : CIx yX0_tellersOf cX0_tellersOf 4 (some .int) 1 := ⟨wd_445, wd_73, by decide +kernel⟩
def f_X0_tellersOf_28 (N : Nat) (K4 : Nat → Int32 → Int32 → Int32 → Mm → Option (Int32 × Mm)) (a0 : Nat) (v1 : Int32) (v2 : Int32) (v3 : Int32) (σ : Mm) : Option (Int32 × Mm) := K4 a0 v1 v2 (v3 + (1 : Int32)) (σ)
set_option maxRecDepth 20000 in
theorem w_X0_tellersOf_28 {p : Program} {l : Launch} {e : Env} {s : State} {m : MethodId} {args : Array Value} {below : List Frame} {meth : Method} {c : Code} {E : XE} (N : Nat) (hG : GG E NT 4 RX0 cX0_tellersOf p s m args c) (hr : meth.sig.returnType = (some .int)) (hk : meth.locks = false) {K4 : Nat → Int32 → Int32 → Int32 → Mm → Option (Int32 × Mm)} (hK4 : ∀ (a0 : Nat) (v1 : Int32) (v2 : Int32) (v3 : Int32) (ha0 : okO 0 a0 = true) (σ : Mm), JR E NT 4 p l e rm_X0_tellersOf s m args below meth c 0 0 (fun r => MQ below (xQi E (NT + 0) r) args s 0 0 (xA E)) 4 [(0, .ref (E.B + a0)), (1, .int v1), (2, .int v2), (3, .int v3)] [] σ (K4 a0 v1 v2 v3 σ)) (a0 : Nat) (v1 : Int32) (v2 : Int32) (v3 : Int32) (ha0 : okO 0 a0 = true) (σ : Mm) : JR E NT 4 p l e rm_X0_tellersOf s m args below meth c 0 0 (fun r => MQ below (xQi E (NT + 0) r) args s 0 0 (xA E)) 28 [(0, .ref (E.B + a0)), (1, .int v1), (2, .int v2), (3, .int v3)] [] σ (f_X0_tellersOf_28 N K4 a0 v1 v2 v3 σ) := by
  show JR E NT 4 p l e rm_X0_tellersOf s m args below meth c 0 0 (fun r => MQ below (xQi E (NT + 0) r) args s 0 0 (xA E)) 28 [(0, .ref (E.B + a0)), (1, .int v1), (2, .int v2), (3, .int v3)] [] σ (K4 a0 v1 v2 (v3 + (1 : Int32)) (σ))
  refine jr_iinc (v := v3 + (1 : Int32)) (lv' := [(3, .int (v3 + (1 : Int32))), (0, .ref (E.B + a0)), (1, .int v1), (2, .int v2)]) hG 3 dX0_tellersOf_28 rfl rfl (by decide) rfl ?_
  refine jr_goto hG 4 dX0_tellersOf_31 (by decide) ?_
  refine jr_sub (lv' := [(0, .ref (E.B + a0)), (1, .int v1), (2, .int v2), (3, .int (v3 + (1 : Int32)))]) [1, 2, 3, 0] rfl ?_
  exact hK4 a0 v1 v2 (v3 + (1 : Int32)) ha0 (σ)
def f_X0_tellersOf_4 (N : Nat)  : Nat → Nat → Int32 → Int32 → Int32 → Mm → Option (Int32 × Mm)
  | 0 => fun _ _ _ _ _ => none
  | n + 1 => fun a0 v1 v2 v3 σ => if (gi σ a0 5) ≤ v3 then (some (v2, σ)) else (bR (gr σ a0 4) (okA 0) (fun o1 => if inb v3 (arL o1) then (bI (f_X5_holds N (gi σ o1 (ix v3)) v1 (σ)) (fun r3 t2 => if r3 = 0 then (f_X0_tellersOf_28 N (f_X0_tellersOf_4 N n) a0 v1 v2 v3 t2) else (f_X0_tellersOf_28 N (f_X0_tellersOf_4 N n) a0 v1 (v2 + (1 : Int32)) v3 t2))) else none))
set_option maxRecDepth 20000 in
theorem w_X0_tellersOf_4 {p : Program} {l : Launch} {e : Env} {s : State} {m : MethodId} {args : Array Value} {below : List Frame} {meth : Method} {c : Code} {E : XE} (N : Nat) (hG : GG E NT 4 RX0 cX0_tellersOf p s m args c) (hr : meth.sig.returnType = (some .int)) (hk : meth.locks = false)  : ∀ (n : Nat) (a0 : Nat) (v1 : Int32) (v2 : Int32) (v3 : Int32) (ha0 : okO 0 a0 = true) (σ : Mm), JR E NT 4 p l e rm_X0_tellersOf s m args below meth c 0 0 (fun r => MQ below (xQi E (NT + 0) r) args s 0 0 (xA E)) 4 [(0, .ref (E.B + a0)), (1, .int v1), (2, .int v2), (3, .int v3)] [] σ (f_X0_tellersOf_4 N n a0 v1 v2 v3 σ) := by
  intro n
  induction n with
  | zero => intro a0 v1 v2 v3 ha0 σ r hX; cases hX
  | succ n ih =>
    intro a0 v1 v2 v3 ha0 σ
    show JR E NT 4 p l e rm_X0_tellersOf s m args below meth c 0 0 (fun r => MQ below (xQi E (NT + 0) r) args s 0 0 (xA E)) 4 [(0, .ref (E.B + a0)), (1, .int v1), (2, .int v2), (3, .int v3)] [] σ (if (gi σ a0 5) ≤ v3 then (some (v2, σ)) else (bR (gr σ a0 4) (okA 0) (fun o1 => if inb v3 (arL o1) then (bI (f_X5_holds N (gi σ o1 (ix v3)) v1 (σ)) (fun r3 t2 => if r3 = 0 then (f_X0_tellersOf_28 N (f_X0_tellersOf_4 N n) a0 v1 v2 v3 t2) else (f_X0_tellersOf_28 N (f_X0_tellersOf_4 N n) a0 v1 (v2 + (1 : Int32)) v3 t2))) else none)))
    refine jr_iload_n hG 3 dX0_tellersOf_4 rfl rfl ?_
    refine jr_aload_n hG 0 dX0_tellersOf_5 rfl rfl ?_
    refine jr_getI hG fi_RX0_27 rfl (okO_s ha0) (okO_l ha0) dX0_tellersOf_6 ?_
    refine jr_icmp_ge hG 34 dX0_tellersOf_9 (by decide) (fun _ => ?_) (fun _ => ?_)
    · refine jr_iload_n hG 2 dX0_tellersOf_34 rfl rfl ?_
      exact jr_iret hG hr hk dX0_tellersOf_35
    · refine jr_aload_n hG 0 dX0_tellersOf_12 rfl rfl ?_
      refine jr_getR hG fi_RX0_24 rfl (okO_s ha0) (okO_l ha0) dX0_tellersOf_13 (fun o1 ho1 => ?_)
      refine jr_iload_n hG 3 dX0_tellersOf_16 rfl rfl ?_
      refine jr_iald hG (okA_s (by decide) ho1) (okA_l ho1) dX0_tellersOf_17 ?_
      refine jr_iload_n hG 1 dX0_tellersOf_18 rfl rfl ?_
      refine jr_callNi (As := [.int (gi σ o1 (ix v3)), .int v1]) hG (c_X5_holds l E N (gi σ o1 (ix v3)) v1 (σ)) ci_X5_holds (List.mem_of_getElem? (i := 5) rfl) wd_366 ⟨rfl, rfl, Nat.le_of_ble_eq_true rfl, Nat.le_of_ble_eq_true rfl⟩ rfl rfl (Nat.le_of_ble_eq_true rfl) dX0_tellersOf_19 ⟨Nat.le_refl _, Nat.le_refl _⟩ (fun r3 t2 => ?_)
      refine jr_if_eq hG 28 dX0_tellersOf_22 (by decide) (fun _ => ?_) (fun _ => ?_)
      · exact w_X0_tellersOf_28 N hG hr hk ih a0 v1 v2 v3 ha0 t2
      · refine jr_iinc (v := v2 + (1 : Int32)) (lv' := [(2, .int (v2 + (1 : Int32))), (0, .ref (E.B + a0)), (1, .int v1), (3, .int v3)]) hG 2 dX0_tellersOf_25 rfl rfl (by decide) rfl ?_
        refine jr_sub (lv' := [(0, .ref (E.B + a0)), (1, .int v1), (2, .int (v2 + (1 : Int32))), (3, .int v3)]) [1, 2, 0, 3] rfl ?_
        exact w_X0_tellersOf_28 N hG hr hk ih a0 v1 (v2 + (1 : Int32)) v3 ha0 t2
def f_X0_tellersOf (N : Nat) (a0 : Nat) (v1 : Int32) (σ : Mm) : Option (Int32 × Mm) := if okO 0 a0 then (f_X0_tellersOf_4 N N a0 v1 (0 : Int32) (0 : Int32) (σ)) else none
set_option maxRecDepth 20000 in
theorem c_X0_tellersOf (l : Launch) (E : XE) (N : Nat) (a0 : Nat) (v1 : Int32) (σ : Mm) : ∀ r0, f_X0_tellersOf N a0 v1 σ = some r0 → Met l yX0_tellersOf [Cond.code yX0_tellersOf cX0_tellersOf 4 (some .int)] rm_X0_tellersOf (xPc E (NT + 0) σ [.ref (E.B + a0), .int v1]) (xQi E (NT + 0) r0) 0 0 (xA E) := by
  refine met_of (N0 := NT) (by decide +kernel) (Nat.le_of_ble_eq_true rfl) ?_
  intro p e s m args below meth c hG hr hk _
  show JR E NT 4 p l e rm_X0_tellersOf s m args below meth c 0 0 (fun r => MQ below (xQi E (NT + 0) r) args s 0 0 (xA E)) 0 [(0, .ref (E.B + a0)), (1, .int v1)] [] σ (if okO 0 a0 then (f_X0_tellersOf_4 N N a0 v1 (0 : Int32) (0 : Int32) (σ)) else none)
  refine jr_guard (fun ha0 => ?_)
  refine jr_iconst (v := (0 : Int32)) hG dX0_tellersOf_0 (by decide) ?_
  refine jr_istore_n (lv' := [(2, .int (0 : Int32)), (0, .ref (E.B + a0)), (1, .int v1)]) hG dX0_tellersOf_1 rfl (by decide) rfl ?_
  refine jr_iconst (v := (0 : Int32)) hG dX0_tellersOf_2 (by decide) ?_
  refine jr_istore_n (lv' := [(3, .int (0 : Int32)), (2, .int (0 : Int32)), (0, .ref (E.B + a0)), (1, .int v1)]) hG dX0_tellersOf_3 rfl (by decide) rfl ?_
  refine jr_sub (lv' := [(0, .ref (E.B + a0)), (1, .int v1), (2, .int (0 : Int32)), (3, .int (0 : Int32))]) [2, 3, 1, 0] rfl ?_
  exact w_X0_tellersOf_4 N hG hr hk N a0 v1 (0 : Int32) (0 : Int32) ha0 (σ)
-- TonguesDealt$Day.othersWhoKnow(II)I
abbrev rm_X0_othersWhoKnow : Room := { frames := 0, cells := 0, slots := 0, locals := 0 }
theorem ci_X0_othersWhoKnow : CIx yX0_othersWhoKnow cX0_othersWhoKnow 5 (some .int) 2 := ⟨wd_449, wd_73, by decide +kernel⟩
def f_X0_othersWhoKnow_35 (N : Nat) (K5 : Nat → Int32 → Int32 → Int32 → Int32 → Mm → Option (Int32 × Mm)) (a0 : Nat) (v1 : Int32) (v2 : Int32) (v3 : Int32) (v4 : Int32) (σ : Mm) : Option (Int32 × Mm) := K5 a0 v1 v2 v3 (v4 + (1 : Int32)) (σ)
set_option maxRecDepth 20000 in
theorem w_X0_othersWhoKnow_35 {p : Program} {l : Launch} {e : Env} {s : State} {m : MethodId} {args : Array Value} {below : List Frame} {meth : Method} {c : Code} {E : XE} (N : Nat) (hG : GG E NT 5 RX0 cX0_othersWhoKnow p s m args c) (hr : meth.sig.returnType = (some .int)) (hk : meth.locks = false) {K5 : Nat → Int32 → Int32 → Int32 → Int32 → Mm → Option (Int32 × Mm)} (hK5 : ∀ (a0 : Nat) (v1 : Int32) (v2 : Int32) (v3 : Int32) (v4 : Int32) (ha0 : okO 0 a0 = true) (σ : Mm), JR E NT 5 p l e rm_X0_othersWhoKnow s m args below meth c 0 0 (fun r => MQ below (xQi E (NT + 0) r) args s 0 0 (xA E)) 5 [(0, .ref (E.B + a0)), (1, .int v1), (2, .int v2), (3, .int v3), (4, .int v4)] [] σ (K5 a0 v1 v2 v3 v4 σ)) (a0 : Nat) (v1 : Int32) (v2 : Int32) (v3 : Int32) (v4 : Int32) (ha0 : okO 0 a0 = true) (σ : Mm) : JR E NT 5 p l e rm_X0_othersWhoKnow s m args below meth c 0 0 (fun r => MQ below (xQi E (NT + 0) r) args s 0 0 (xA E)) 35 [(0, .ref (E.B + a0)), (1, .int v1), (2, .int v2), (3, .int v3), (4, .int v4)] [] σ (f_X0_othersWhoKnow_35 N K5 a0 v1 v2 v3 v4 σ) := by
  show JR E NT 5 p l e rm_X0_othersWhoKnow s m args below meth c 0 0 (fun r => MQ below (xQi E (NT + 0) r) args s 0 0 (xA E)) 35 [(0, .ref (E.B + a0)), (1, .int v1), (2, .int v2), (3, .int v3), (4, .int v4)] [] σ (K5 a0 v1 v2 v3 (v4 + (1 : Int32)) (σ))
  refine jr_iinc (v := v4 + (1 : Int32)) (lv' := [(4, .int (v4 + (1 : Int32))), (0, .ref (E.B + a0)), (1, .int v1), (2, .int v2), (3, .int v3)]) hG 4 dX0_othersWhoKnow_35 rfl rfl (by decide) rfl ?_
  refine jr_goto hG 5 dX0_othersWhoKnow_38 (by decide) ?_
  refine jr_sub (lv' := [(0, .ref (E.B + a0)), (1, .int v1), (2, .int v2), (3, .int v3), (4, .int (v4 + (1 : Int32)))]) [1, 2, 3, 4, 0] rfl ?_
  exact hK5 a0 v1 v2 v3 (v4 + (1 : Int32)) ha0 (σ)
def f_X0_othersWhoKnow_5 (N : Nat)  : Nat → Nat → Int32 → Int32 → Int32 → Int32 → Mm → Option (Int32 × Mm)
  | 0 => fun _ _ _ _ _ _ => none
  | n + 1 => fun a0 v1 v2 v3 v4 σ => if (gi σ a0 5) ≤ v4 then (some (v3, σ)) else (if v4 = v1 then (f_X0_othersWhoKnow_35 N (f_X0_othersWhoKnow_5 N n) a0 v1 v2 v3 v4 (σ)) else (bR (gr σ a0 2) (okA 0) (fun o1 => if inb v4 (arL o1) then (if ((gi σ o1 (ix v4)) &&& v2) = 0 then (f_X0_othersWhoKnow_35 N (f_X0_othersWhoKnow_5 N n) a0 v1 v2 v3 v4 (σ)) else (f_X0_othersWhoKnow_35 N (f_X0_othersWhoKnow_5 N n) a0 v1 v2 (v3 + (1 : Int32)) v4 (σ))) else none)))
set_option maxRecDepth 20000 in
theorem w_X0_othersWhoKnow_5 {p : Program} {l : Launch} {e : Env} {s : State} {m : MethodId} {args : Array Value} {below : List Frame} {meth : Method} {c : Code} {E : XE} (N : Nat) (hG : GG E NT 5 RX0 cX0_othersWhoKnow p s m args c) (hr : meth.sig.returnType = (some .int)) (hk : meth.locks = false)  : ∀ (n : Nat) (a0 : Nat) (v1 : Int32) (v2 : Int32) (v3 : Int32) (v4 : Int32) (ha0 : okO 0 a0 = true) (σ : Mm), JR E NT 5 p l e rm_X0_othersWhoKnow s m args below meth c 0 0 (fun r => MQ below (xQi E (NT + 0) r) args s 0 0 (xA E)) 5 [(0, .ref (E.B + a0)), (1, .int v1), (2, .int v2), (3, .int v3), (4, .int v4)] [] σ (f_X0_othersWhoKnow_5 N n a0 v1 v2 v3 v4 σ) := by
  intro n
  induction n with
  | zero => intro a0 v1 v2 v3 v4 ha0 σ r hX; cases hX
  | succ n ih =>
    intro a0 v1 v2 v3 v4 ha0 σ
    show JR E NT 5 p l e rm_X0_othersWhoKnow s m args below meth c 0 0 (fun r => MQ below (xQi E (NT + 0) r) args s 0 0 (xA E)) 5 [(0, .ref (E.B + a0)), (1, .int v1), (2, .int v2), (3, .int v3), (4, .int v4)] [] σ (if (gi σ a0 5) ≤ v4 then (some (v3, σ)) else (if v4 = v1 then (f_X0_othersWhoKnow_35 N (f_X0_othersWhoKnow_5 N n) a0 v1 v2 v3 v4 (σ)) else (bR (gr σ a0 2) (okA 0) (fun o1 => if inb v4 (arL o1) then (if ((gi σ o1 (ix v4)) &&& v2) = 0 then (f_X0_othersWhoKnow_35 N (f_X0_othersWhoKnow_5 N n) a0 v1 v2 v3 v4 (σ)) else (f_X0_othersWhoKnow_35 N (f_X0_othersWhoKnow_5 N n) a0 v1 v2 (v3 + (1 : Int32)) v4 (σ))) else none))))
    refine jr_iload hG 4 dX0_othersWhoKnow_5 rfl ?_
    refine jr_aload_n hG 0 dX0_othersWhoKnow_7 rfl rfl ?_
    refine jr_getI hG fi_RX0_27 rfl (okO_s ha0) (okO_l ha0) dX0_othersWhoKnow_8 ?_
    refine jr_icmp_ge hG 41 dX0_othersWhoKnow_11 (by decide) (fun _ => ?_) (fun _ => ?_)
    · refine jr_iload_n hG 3 dX0_othersWhoKnow_41 rfl rfl ?_
      exact jr_iret hG hr hk dX0_othersWhoKnow_42
    · refine jr_iload hG 4 dX0_othersWhoKnow_14 rfl ?_
      refine jr_iload_n hG 1 dX0_othersWhoKnow_16 rfl rfl ?_
      refine jr_icmp_eq hG 35 dX0_othersWhoKnow_17 (by decide) (fun _ => ?_) (fun _ => ?_)
      · exact w_X0_othersWhoKnow_35 N hG hr hk ih a0 v1 v2 v3 v4 ha0 (σ)
      · refine jr_aload_n hG 0 dX0_othersWhoKnow_20 rfl rfl ?_
        refine jr_getR hG fi_RX0_18 rfl (okO_s ha0) (okO_l ha0) dX0_othersWhoKnow_21 (fun o1 ho1 => ?_)
        refine jr_iload hG 4 dX0_othersWhoKnow_24 rfl ?_
        refine jr_iald hG (okA_s (by decide) ho1) (okA_l ho1) dX0_othersWhoKnow_26 ?_
        refine jr_iload_n hG 2 dX0_othersWhoKnow_27 rfl rfl ?_
        refine jr_iand hG dX0_othersWhoKnow_28 ?_
        refine jr_if_eq hG 35 dX0_othersWhoKnow_29 (by decide) (fun _ => ?_) (fun _ => ?_)
        · exact w_X0_othersWhoKnow_35 N hG hr hk ih a0 v1 v2 v3 v4 ha0 (σ)
        · refine jr_iinc (v := v3 + (1 : Int32)) (lv' := [(3, .int (v3 + (1 : Int32))), (0, .ref (E.B + a0)), (1, .int v1), (2, .int v2), (4, .int v4)]) hG 3 dX0_othersWhoKnow_32 rfl rfl (by decide) rfl ?_
          refine jr_sub (lv' := [(0, .ref (E.B + a0)), (1, .int v1), (2, .int v2), (3, .int (v3 + (1 : Int32))), (4, .int v4)]) [1, 2, 3, 0, 4] rfl ?_
          exact w_X0_othersWhoKnow_35 N hG hr hk ih a0 v1 v2 (v3 + (1 : Int32)) v4 ha0 (σ)
def f_X0_othersWhoKnow (N : Nat) (a0 : Nat) (v1 : Int32) (v2 : Int32) (σ : Mm) : Option (Int32 × Mm) := if okO 0 a0 then (f_X0_othersWhoKnow_5 N N a0 v1 v2 (0 : Int32) (0 : Int32) (σ)) else none
set_option maxRecDepth 20000 in
theorem c_X0_othersWhoKnow (l : Launch) (E : XE) (N : Nat) (a0 : Nat) (v1 : Int32) (v2 : Int32) (σ : Mm) : ∀ r0, f_X0_othersWhoKnow N a0 v1 v2 σ = some r0 → Met l yX0_othersWhoKnow [Cond.code yX0_othersWhoKnow cX0_othersWhoKnow 5 (some .int)] rm_X0_othersWhoKnow (xPc E (NT + 0) σ [.ref (E.B + a0), .int v1, .int v2]) (xQi E (NT + 0) r0) 0 0 (xA E) := by
  refine met_of (N0 := NT) (by decide +kernel) (Nat.le_of_ble_eq_true rfl) ?_
  intro p e s m args below meth c hG hr hk _
  show JR E NT 5 p l e rm_X0_othersWhoKnow s m args below meth c 0 0 (fun r => MQ below (xQi E (NT + 0) r) args s 0 0 (xA E)) 0 [(0, .ref (E.B + a0)), (1, .int v1), (2, .int v2)] [] σ (if okO 0 a0 then (f_X0_othersWhoKnow_5 N N a0 v1 v2 (0 : Int32) (0 : Int32) (σ)) else none)
  refine jr_guard (fun ha0 => ?_)
  refine jr_iconst (v := (0 : Int32)) hG dX0_othersWhoKnow_0 (by decide) ?_
  refine jr_istore_n (lv' := [(3, .int (0 : Int32)), (0, .ref (E.B + a0)), (1, .int v1), (2, .int v2)]) hG dX0_othersWhoKnow_1 rfl (by decide) rfl ?_
  refine jr_iconst (v := (0 : Int32)) hG dX0_othersWhoKnow_2 (by decide) ?_
  refine jr_istore (lv' := [(4, .int (0 : Int32)), (3, .int (0 : Int32)), (0, .ref (E.B + a0)), (1, .int v1), (2, .int v2)]) hG dX0_othersWhoKnow_3 (by decide) rfl ?_
  refine jr_sub (lv' := [(0, .ref (E.B + a0)), (1, .int v1), (2, .int v2), (3, .int (0 : Int32)), (4, .int (0 : Int32))]) [2, 3, 4, 1, 0] rfl ?_
  exact w_X0_othersWhoKnow_5 N hG hr hk N a0 v1 v2 (0 : Int32) (0 : Int32) ha0 (σ)
-- TonguesDealt$Day.isCrew(I)Z
abbrev rm_X0_isCrew : Room := { frames := 1, cells := 0, slots := 0, locals := 21 }
theorem ci_X0_isCrew : CIx yX0_isCrew cX0_isCrew 3 (some .boolean) 1 := ⟨wd_548, wd_73, by decide +kernel⟩
def f_X0_isCrew_39 (N : Nat) (K2 : Nat → Int32 → Int32 → Mm → Option (Int32 × Mm)) (a0 : Nat) (v1 : Int32) (v2 : Int32) (σ : Mm) : Option (Int32 × Mm) := K2 a0 v1 (v2 + (1 : Int32)) (σ)
set_option maxRecDepth 20000 in
theorem w_X0_isCrew_39 {p : Program} {l : Launch} {e : Env} {s : State} {m : MethodId} {args : Array Value} {below : List Frame} {meth : Method} {c : Code} {E : XE} (N : Nat) (hG : GG E NT 3 RX0 cX0_isCrew p s m args c) (hr : meth.sig.returnType = (some .boolean)) (hk : meth.locks = false) {K2 : Nat → Int32 → Int32 → Mm → Option (Int32 × Mm)} (hK2 : ∀ (a0 : Nat) (v1 : Int32) (v2 : Int32) (ha0 : okO 0 a0 = true) (σ : Mm), JR E NT 3 p l e rm_X0_isCrew s m args below meth c 0 0 (fun r => MQ below (xQi E (NT + 0) r) args s 0 0 (xA E)) 2 [(0, .ref (E.B + a0)), (1, .int v1), (2, .int v2)] [] σ (K2 a0 v1 v2 σ)) (a0 : Nat) (v1 : Int32) (v2 : Int32) (ha0 : okO 0 a0 = true) (σ : Mm) : JR E NT 3 p l e rm_X0_isCrew s m args below meth c 0 0 (fun r => MQ below (xQi E (NT + 0) r) args s 0 0 (xA E)) 39 [(0, .ref (E.B + a0)), (1, .int v1), (2, .int v2)] [] σ (f_X0_isCrew_39 N K2 a0 v1 v2 σ) := by
  show JR E NT 3 p l e rm_X0_isCrew s m args below meth c 0 0 (fun r => MQ below (xQi E (NT + 0) r) args s 0 0 (xA E)) 39 [(0, .ref (E.B + a0)), (1, .int v1), (2, .int v2)] [] σ (K2 a0 v1 (v2 + (1 : Int32)) (σ))
  refine jr_iinc (v := v2 + (1 : Int32)) (lv' := [(2, .int (v2 + (1 : Int32))), (0, .ref (E.B + a0)), (1, .int v1)]) hG 2 dX0_isCrew_39 rfl rfl (by decide) rfl ?_
  refine jr_goto hG 2 dX0_isCrew_42 (by decide) ?_
  refine jr_sub (lv' := [(0, .ref (E.B + a0)), (1, .int v1), (2, .int (v2 + (1 : Int32)))]) [1, 2, 0] rfl ?_
  exact hK2 a0 v1 (v2 + (1 : Int32)) ha0 (σ)
def f_X0_isCrew_2 (N : Nat)  : Nat → Nat → Int32 → Int32 → Mm → Option (Int32 × Mm)
  | 0 => fun _ _ _ _ => none
  | n + 1 => fun a0 v1 v2 σ => if (gi σ a0 5) ≤ v2 then (some ((1 : Int32), σ)) else (bI (f_X5_holds N v1 v2 (σ)) (fun r2 t1 => if r2 = 0 then (f_X0_isCrew_39 N (f_X0_isCrew_2 N n) a0 v1 v2 t1) else (bR (gr t1 a0 4) (okA 0) (fun o3 => if inb v2 (arL o3) then (if ((v1 &&& (((1 : Int32) <<< (v2 &&& 31)) ^^^ (-1 : Int32))) &&& ((gi t1 o3 (ix v2)) ^^^ (-1 : Int32))) = 0 then (f_X0_isCrew_39 N (f_X0_isCrew_2 N n) a0 v1 v2 t1) else (some ((0 : Int32), t1))) else none))))
set_option maxRecDepth 20000 in
theorem w_X0_isCrew_2 {p : Program} {l : Launch} {e : Env} {s : State} {m : MethodId} {args : Array Value} {below : List Frame} {meth : Method} {c : Code} {E : XE} (N : Nat) (hG : GG E NT 3 RX0 cX0_isCrew p s m args c) (hr : meth.sig.returnType = (some .boolean)) (hk : meth.locks = false)  : ∀ (n : Nat) (a0 : Nat) (v1 : Int32) (v2 : Int32) (ha0 : okO 0 a0 = true) (σ : Mm), JR E NT 3 p l e rm_X0_isCrew s m args below meth c 0 0 (fun r => MQ below (xQi E (NT + 0) r) args s 0 0 (xA E)) 2 [(0, .ref (E.B + a0)), (1, .int v1), (2, .int v2)] [] σ (f_X0_isCrew_2 N n a0 v1 v2 σ) := by
  intro n
  induction n with
  | zero => intro a0 v1 v2 ha0 σ r hX; cases hX
  | succ n ih =>
    intro a0 v1 v2 ha0 σ
    show JR E NT 3 p l e rm_X0_isCrew s m args below meth c 0 0 (fun r => MQ below (xQi E (NT + 0) r) args s 0 0 (xA E)) 2 [(0, .ref (E.B + a0)), (1, .int v1), (2, .int v2)] [] σ (if (gi σ a0 5) ≤ v2 then (some ((1 : Int32), σ)) else (bI (f_X5_holds N v1 v2 (σ)) (fun r2 t1 => if r2 = 0 then (f_X0_isCrew_39 N (f_X0_isCrew_2 N n) a0 v1 v2 t1) else (bR (gr t1 a0 4) (okA 0) (fun o3 => if inb v2 (arL o3) then (if ((v1 &&& (((1 : Int32) <<< (v2 &&& 31)) ^^^ (-1 : Int32))) &&& ((gi t1 o3 (ix v2)) ^^^ (-1 : Int32))) = 0 then (f_X0_isCrew_39 N (f_X0_isCrew_2 N n) a0 v1 v2 t1) else (some ((0 : Int32), t1))) else none)))))
    refine jr_iload_n hG 2 dX0_isCrew_2 rfl rfl ?_
    refine jr_aload_n hG 0 dX0_isCrew_3 rfl rfl ?_
    refine jr_getI hG fi_RX0_27 rfl (okO_s ha0) (okO_l ha0) dX0_isCrew_4 ?_
    refine jr_icmp_ge hG 45 dX0_isCrew_7 (by decide) (fun _ => ?_) (fun _ => ?_)
    · refine jr_iconst (v := (1 : Int32)) hG dX0_isCrew_45 (by decide) ?_
      exact jr_zret hG hr hk (by decide) dX0_isCrew_46
    · refine jr_iload_n hG 1 dX0_isCrew_10 rfl rfl ?_
      refine jr_iload_n hG 2 dX0_isCrew_11 rfl rfl ?_
      refine jr_callNi (As := [.int v1, .int v2]) hG (c_X5_holds l E N v1 v2 (σ)) ci_X5_holds (List.mem_of_getElem? (i := 5) rfl) wd_366 ⟨rfl, rfl, Nat.le_of_ble_eq_true rfl, Nat.le_of_ble_eq_true rfl⟩ rfl rfl (Nat.le_of_ble_eq_true rfl) dX0_isCrew_12 ⟨Nat.le_refl _, Nat.le_refl _⟩ (fun r2 t1 => ?_)
      refine jr_if_eq hG 39 dX0_isCrew_15 (by decide) (fun _ => ?_) (fun _ => ?_)
      · exact w_X0_isCrew_39 N hG hr hk ih a0 v1 v2 ha0 t1
      · refine jr_iload_n hG 1 dX0_isCrew_18 rfl rfl ?_
        refine jr_iconst (v := (1 : Int32)) hG dX0_isCrew_19 (by decide) ?_
        refine jr_iload_n hG 2 dX0_isCrew_20 rfl rfl ?_
        refine jr_ishl hG dX0_isCrew_21 ?_
        refine jr_iconst (v := (-1 : Int32)) hG dX0_isCrew_22 (by decide) ?_
        refine jr_ixor hG dX0_isCrew_23 ?_
        refine jr_iand hG dX0_isCrew_24 ?_
        refine jr_aload_n hG 0 dX0_isCrew_25 rfl rfl ?_
        refine jr_getR hG fi_RX0_24 rfl (okO_s ha0) (okO_l ha0) dX0_isCrew_26 (fun o3 ho3 => ?_)
        refine jr_iload_n hG 2 dX0_isCrew_29 rfl rfl ?_
        refine jr_iald hG (okA_s (by decide) ho3) (okA_l ho3) dX0_isCrew_30 ?_
        refine jr_iconst (v := (-1 : Int32)) hG dX0_isCrew_31 (by decide) ?_
        refine jr_ixor hG dX0_isCrew_32 ?_
        refine jr_iand hG dX0_isCrew_33 ?_
        refine jr_if_eq hG 39 dX0_isCrew_34 (by decide) (fun _ => ?_) (fun _ => ?_)
        · exact w_X0_isCrew_39 N hG hr hk ih a0 v1 v2 ha0 t1
        · refine jr_iconst (v := (0 : Int32)) hG dX0_isCrew_37 (by decide) ?_
          exact jr_zret hG hr hk (by decide) dX0_isCrew_38
def f_X0_isCrew (N : Nat) (a0 : Nat) (v1 : Int32) (σ : Mm) : Option (Int32 × Mm) := if okO 0 a0 then (f_X0_isCrew_2 N N a0 v1 (0 : Int32) (σ)) else none
set_option maxRecDepth 20000 in
theorem c_X0_isCrew (l : Launch) (E : XE) (N : Nat) (a0 : Nat) (v1 : Int32) (σ : Mm) : ∀ r0, f_X0_isCrew N a0 v1 σ = some r0 → Met l yX0_isCrew [Cond.code yX0_isCrew cX0_isCrew 3 (some .boolean)] rm_X0_isCrew (xPc E (NT + 0) σ [.ref (E.B + a0), .int v1]) (xQi E (NT + 0) r0) 0 0 (xA E) := by
  refine met_of (N0 := NT) (by decide +kernel) (Nat.le_of_ble_eq_true rfl) ?_
  intro p e s m args below meth c hG hr hk _
  show JR E NT 3 p l e rm_X0_isCrew s m args below meth c 0 0 (fun r => MQ below (xQi E (NT + 0) r) args s 0 0 (xA E)) 0 [(0, .ref (E.B + a0)), (1, .int v1)] [] σ (if okO 0 a0 then (f_X0_isCrew_2 N N a0 v1 (0 : Int32) (σ)) else none)
  refine jr_guard (fun ha0 => ?_)
  refine jr_iconst (v := (0 : Int32)) hG dX0_isCrew_0 (by decide) ?_
  refine jr_istore_n (lv' := [(2, .int (0 : Int32)), (0, .ref (E.B + a0)), (1, .int v1)]) hG dX0_isCrew_1 rfl (by decide) rfl ?_
  refine jr_sub (lv' := [(0, .ref (E.B + a0)), (1, .int v1), (2, .int (0 : Int32))]) [1, 2, 0] rfl ?_
  exact w_X0_isCrew_2 N hG hr hk N a0 v1 (0 : Int32) ha0 (σ)
-- TonguesDealt$Day.reached(III)I
abbrev rm_X0_reached : Room := { frames := 1, cells := 0, slots := 0, locals := 21 }
theorem ci_X0_reached : CIx yX0_reached cX0_reached 9 (some .int) 3 := ⟨wd_524, wd_73, by decide +kernel⟩
def f_X0_reached_60 (N : Nat) (K12 : Nat → Int32 → Int32 → Int32 → Int32 → Int32 → Mm → Option (Int32 × Mm)) (K29 : Nat → Int32 → Int32 → Int32 → Int32 → Int32 → Int32 → Int32 → Mm → Option (Int32 × Mm)) (a0 : Nat) (v2 : Int32) (v3 : Int32) (v4 : Int32) (v5 : Int32) (v6 : Int32) (v7 : Int32) (v8 : Int32) (σ : Mm) : Option (Int32 × Mm) := K29 a0 v2 v3 v4 v5 v6 v7 (v8 + (1 : Int32)) (σ)
set_option maxRecDepth 20000 in
theorem w_X0_reached_60 {p : Program} {l : Launch} {e : Env} {s : State} {m : MethodId} {args : Array Value} {below : List Frame} {meth : Method} {c : Code} {E : XE} (N : Nat) (hG : GG E NT 9 RX0 cX0_reached p s m args c) (hr : meth.sig.returnType = (some .int)) (hk : meth.locks = false) {K12 : Nat → Int32 → Int32 → Int32 → Int32 → Int32 → Mm → Option (Int32 × Mm)} (hK12 : ∀ (a0 : Nat) (v2 : Int32) (v3 : Int32) (v4 : Int32) (v5 : Int32) (v6 : Int32) (ha0 : okO 0 a0 = true) (σ : Mm), JR E NT 9 p l e rm_X0_reached s m args below meth c 0 0 (fun r => MQ below (xQi E (NT + 0) r) args s 0 0 (xA E)) 12 [(0, .ref (E.B + a0)), (2, .int v2), (3, .int v3), (4, .int v4), (5, .int v5), (6, .int v6)] [] σ (K12 a0 v2 v3 v4 v5 v6 σ)) {K29 : Nat → Int32 → Int32 → Int32 → Int32 → Int32 → Int32 → Int32 → Mm → Option (Int32 × Mm)} (hK29 : ∀ (a0 : Nat) (v2 : Int32) (v3 : Int32) (v4 : Int32) (v5 : Int32) (v6 : Int32) (v7 : Int32) (v8 : Int32) (ha0 : okO 0 a0 = true) (σ : Mm), JR E NT 9 p l e rm_X0_reached s m args below meth c 0 0 (fun r => MQ below (xQi E (NT + 0) r) args s 0 0 (xA E)) 29 [(0, .ref (E.B + a0)), (2, .int v2), (3, .int v3), (4, .int v4), (5, .int v5), (6, .int v6), (7, .int v7), (8, .int v8)] [] σ (K29 a0 v2 v3 v4 v5 v6 v7 v8 σ)) (a0 : Nat) (v2 : Int32) (v3 : Int32) (v4 : Int32) (v5 : Int32) (v6 : Int32) (v7 : Int32) (v8 : Int32) (ha0 : okO 0 a0 = true) (σ : Mm) : JR E NT 9 p l e rm_X0_reached s m args below meth c 0 0 (fun r => MQ below (xQi E (NT + 0) r) args s 0 0 (xA E)) 60 [(0, .ref (E.B + a0)), (2, .int v2), (3, .int v3), (4, .int v4), (5, .int v5), (6, .int v6), (7, .int v7), (8, .int v8)] [] σ (f_X0_reached_60 N K12 K29 a0 v2 v3 v4 v5 v6 v7 v8 σ) := by
  show JR E NT 9 p l e rm_X0_reached s m args below meth c 0 0 (fun r => MQ below (xQi E (NT + 0) r) args s 0 0 (xA E)) 60 [(0, .ref (E.B + a0)), (2, .int v2), (3, .int v3), (4, .int v4), (5, .int v5), (6, .int v6), (7, .int v7), (8, .int v8)] [] σ (K29 a0 v2 v3 v4 v5 v6 v7 (v8 + (1 : Int32)) (σ))
  refine jr_iinc (v := v8 + (1 : Int32)) (lv' := [(8, .int (v8 + (1 : Int32))), (0, .ref (E.B + a0)), (2, .int v2), (3, .int v3), (4, .int v4), (5, .int v5), (6, .int v6), (7, .int v7)]) hG 7 dX0_reached_60 rfl rfl (by decide) rfl ?_
  refine jr_goto hG 29 dX0_reached_63 (by decide) ?_
  refine jr_sub (lv' := [(0, .ref (E.B + a0)), (2, .int v2), (3, .int v3), (4, .int v4), (5, .int v5), (6, .int v6), (7, .int v7), (8, .int (v8 + (1 : Int32)))]) [1, 2, 3, 4, 5, 6, 7, 0] rfl ?_
  exact hK29 a0 v2 v3 v4 v5 v6 v7 (v8 + (1 : Int32)) ha0 (σ)
def f_X0_reached_29 (N : Nat) (K12 : Nat → Int32 → Int32 → Int32 → Int32 → Int32 → Mm → Option (Int32 × Mm)) : Nat → Nat → Int32 → Int32 → Int32 → Int32 → Int32 → Int32 → Int32 → Mm → Option (Int32 × Mm)
  | 0 => fun _ _ _ _ _ _ _ _ _ => none
  | n + 1 => fun a0 v2 v3 v4 v5 v6 v7 v8 σ => if (gi σ a0 5) ≤ v8 then (lt ((v7 &&& (v4 ^^^ (-1 : Int32))) &&& v2) (fun x2 => lt (v4 ||| v7) (fun x3 => K12 a0 v2 v3 x3 x2 (v6 + (1 : Int32)) (σ)))) else (bI (f_X5_holds N v5 v8 (σ)) (fun r5 t4 => if r5 = 0 then (f_X0_reached_60 N K12 (f_X0_reached_29 N K12 n) a0 v2 v3 v4 v5 v6 v7 v8 t4) else (bR (gr t4 a0 4) (okA 0) (fun o6 => if inb v8 (arL o6) then (lt (v7 ||| (gi t4 o6 (ix v8))) (fun x7 => f_X0_reached_60 N K12 (f_X0_reached_29 N K12 n) a0 v2 v3 v4 v5 v6 x7 v8 t4)) else none))))
set_option maxRecDepth 20000 in
theorem w_X0_reached_29 {p : Program} {l : Launch} {e : Env} {s : State} {m : MethodId} {args : Array Value} {below : List Frame} {meth : Method} {c : Code} {E : XE} (N : Nat) (hG : GG E NT 9 RX0 cX0_reached p s m args c) (hr : meth.sig.returnType = (some .int)) (hk : meth.locks = false) {K12 : Nat → Int32 → Int32 → Int32 → Int32 → Int32 → Mm → Option (Int32 × Mm)} (hK12 : ∀ (a0 : Nat) (v2 : Int32) (v3 : Int32) (v4 : Int32) (v5 : Int32) (v6 : Int32) (ha0 : okO 0 a0 = true) (σ : Mm), JR E NT 9 p l e rm_X0_reached s m args below meth c 0 0 (fun r => MQ below (xQi E (NT + 0) r) args s 0 0 (xA E)) 12 [(0, .ref (E.B + a0)), (2, .int v2), (3, .int v3), (4, .int v4), (5, .int v5), (6, .int v6)] [] σ (K12 a0 v2 v3 v4 v5 v6 σ)) : ∀ (n : Nat) (a0 : Nat) (v2 : Int32) (v3 : Int32) (v4 : Int32) (v5 : Int32) (v6 : Int32) (v7 : Int32) (v8 : Int32) (ha0 : okO 0 a0 = true) (σ : Mm), JR E NT 9 p l e rm_X0_reached s m args below meth c 0 0 (fun r => MQ below (xQi E (NT + 0) r) args s 0 0 (xA E)) 29 [(0, .ref (E.B + a0)), (2, .int v2), (3, .int v3), (4, .int v4), (5, .int v5), (6, .int v6), (7, .int v7), (8, .int v8)] [] σ (f_X0_reached_29 N K12 n a0 v2 v3 v4 v5 v6 v7 v8 σ) := by
  intro n
  induction n with
  | zero => intro a0 v2 v3 v4 v5 v6 v7 v8 ha0 σ r hX; cases hX
  | succ n ih =>
    intro a0 v2 v3 v4 v5 v6 v7 v8 ha0 σ
    show JR E NT 9 p l e rm_X0_reached s m args below meth c 0 0 (fun r => MQ below (xQi E (NT + 0) r) args s 0 0 (xA E)) 29 [(0, .ref (E.B + a0)), (2, .int v2), (3, .int v3), (4, .int v4), (5, .int v5), (6, .int v6), (7, .int v7), (8, .int v8)] [] σ (if (gi σ a0 5) ≤ v8 then (lt ((v7 &&& (v4 ^^^ (-1 : Int32))) &&& v2) (fun x2 => lt (v4 ||| v7) (fun x3 => K12 a0 v2 v3 x3 x2 (v6 + (1 : Int32)) (σ)))) else (bI (f_X5_holds N v5 v8 (σ)) (fun r5 t4 => if r5 = 0 then (f_X0_reached_60 N K12 (f_X0_reached_29 N K12 n) a0 v2 v3 v4 v5 v6 v7 v8 t4) else (bR (gr t4 a0 4) (okA 0) (fun o6 => if inb v8 (arL o6) then (lt (v7 ||| (gi t4 o6 (ix v8))) (fun x7 => f_X0_reached_60 N K12 (f_X0_reached_29 N K12 n) a0 v2 v3 v4 v5 v6 x7 v8 t4)) else none)))))
    refine jr_iload hG 7 dX0_reached_29 rfl ?_
    refine jr_aload_n hG 0 dX0_reached_31 rfl rfl ?_
    refine jr_getI hG fi_RX0_27 rfl (okO_s ha0) (okO_l ha0) dX0_reached_32 ?_
    refine jr_icmp_ge hG 66 dX0_reached_35 (by decide) (fun _ => ?_) (fun _ => ?_)
    · refine jr_iload hG 6 dX0_reached_66 rfl ?_
      refine jr_iload hG 3 dX0_reached_68 rfl ?_
      refine jr_iconst (v := (-1 : Int32)) hG dX0_reached_70 (by decide) ?_
      refine jr_ixor hG dX0_reached_71 ?_
      refine jr_iand hG dX0_reached_72 ?_
      refine jr_iload_n hG 1 dX0_reached_73 rfl rfl ?_
      refine jr_iand hG dX0_reached_74 ?_
      refine jr_leti (fun x2 _ => ?_)
      refine jr_istore (lv' := [(5, .int x2), (0, .ref (E.B + a0)), (2, .int v2), (3, .int v3), (4, .int v4), (6, .int v6), (7, .int v7), (8, .int v8)]) hG dX0_reached_75 (by decide) rfl ?_
      refine jr_iload hG 4 dX0_reached_77 rfl ?_
      refine jr_iload hG 6 dX0_reached_79 rfl ?_
      refine jr_ior hG dX0_reached_81 ?_
      refine jr_leti (fun x3 _ => ?_)
      refine jr_istore (lv' := [(4, .int x3), (5, .int x2), (0, .ref (E.B + a0)), (2, .int v2), (3, .int v3), (6, .int v6), (7, .int v7), (8, .int v8)]) hG dX0_reached_82 (by decide) rfl ?_
      refine jr_iinc (v := v6 + (1 : Int32)) (lv' := [(6, .int (v6 + (1 : Int32))), (4, .int x3), (5, .int x2), (0, .ref (E.B + a0)), (2, .int v2), (3, .int v3), (7, .int v7), (8, .int v8)]) hG 5 dX0_reached_84 rfl rfl (by decide) rfl ?_
      refine jr_goto hG 12 dX0_reached_87 (by decide) ?_
      refine jr_sub (lv' := [(0, .ref (E.B + a0)), (2, .int v2), (3, .int v3), (4, .int x3), (5, .int x2), (6, .int (v6 + (1 : Int32)))]) [3, 4, 5, 1, 2, 0] rfl ?_
      exact hK12 a0 v2 v3 x3 x2 (v6 + (1 : Int32)) ha0 (σ)
    · refine jr_iload hG 4 dX0_reached_38 rfl ?_
      refine jr_iload hG 7 dX0_reached_40 rfl ?_
      refine jr_callNi (As := [.int v5, .int v8]) hG (c_X5_holds l E N v5 v8 (σ)) ci_X5_holds (List.mem_of_getElem? (i := 5) rfl) wd_366 ⟨rfl, rfl, Nat.le_of_ble_eq_true rfl, Nat.le_of_ble_eq_true rfl⟩ rfl rfl (Nat.le_of_ble_eq_true rfl) dX0_reached_42 ⟨Nat.le_refl _, Nat.le_refl _⟩ (fun r5 t4 => ?_)
      refine jr_if_eq hG 60 dX0_reached_45 (by decide) (fun _ => ?_) (fun _ => ?_)
      · exact w_X0_reached_60 N hG hr hk hK12 ih a0 v2 v3 v4 v5 v6 v7 v8 ha0 t4
      · refine jr_iload hG 6 dX0_reached_48 rfl ?_
        refine jr_aload_n hG 0 dX0_reached_50 rfl rfl ?_
        refine jr_getR hG fi_RX0_24 rfl (okO_s ha0) (okO_l ha0) dX0_reached_51 (fun o6 ho6 => ?_)
        refine jr_iload hG 7 dX0_reached_54 rfl ?_
        refine jr_iald hG (okA_s (by decide) ho6) (okA_l ho6) dX0_reached_56 ?_
        refine jr_ior hG dX0_reached_57 ?_
        refine jr_leti (fun x7 _ => ?_)
        refine jr_istore (lv' := [(7, .int x7), (0, .ref (E.B + a0)), (2, .int v2), (3, .int v3), (4, .int v4), (5, .int v5), (6, .int v6), (8, .int v8)]) hG dX0_reached_58 (by decide) rfl ?_
        refine jr_sub (lv' := [(0, .ref (E.B + a0)), (2, .int v2), (3, .int v3), (4, .int v4), (5, .int v5), (6, .int v6), (7, .int x7), (8, .int v8)]) [1, 2, 3, 4, 5, 6, 0, 7] rfl ?_
        exact w_X0_reached_60 N hG hr hk hK12 ih a0 v2 v3 v4 v5 v6 x7 v8 ha0 t4
def f_X0_reached_12 (N : Nat)  : Nat → Nat → Int32 → Int32 → Int32 → Int32 → Int32 → Mm → Option (Int32 × Mm)
  | 0 => fun _ _ _ _ _ _ _ => none
  | n + 1 => fun a0 v2 v3 v4 v5 v6 σ => if v3 ≤ v6 then (some (v4, σ)) else (if v5 = 0 then (some (v4, σ)) else (f_X0_reached_29 N (f_X0_reached_12 N n) N a0 v2 v3 v4 v5 v6 (0 : Int32) (0 : Int32) (σ)))
set_option maxRecDepth 20000 in
theorem w_X0_reached_12 {p : Program} {l : Launch} {e : Env} {s : State} {m : MethodId} {args : Array Value} {below : List Frame} {meth : Method} {c : Code} {E : XE} (N : Nat) (hG : GG E NT 9 RX0 cX0_reached p s m args c) (hr : meth.sig.returnType = (some .int)) (hk : meth.locks = false)  : ∀ (n : Nat) (a0 : Nat) (v2 : Int32) (v3 : Int32) (v4 : Int32) (v5 : Int32) (v6 : Int32) (ha0 : okO 0 a0 = true) (σ : Mm), JR E NT 9 p l e rm_X0_reached s m args below meth c 0 0 (fun r => MQ below (xQi E (NT + 0) r) args s 0 0 (xA E)) 12 [(0, .ref (E.B + a0)), (2, .int v2), (3, .int v3), (4, .int v4), (5, .int v5), (6, .int v6)] [] σ (f_X0_reached_12 N n a0 v2 v3 v4 v5 v6 σ) := by
  intro n
  induction n with
  | zero => intro a0 v2 v3 v4 v5 v6 ha0 σ r hX; cases hX
  | succ n ih =>
    intro a0 v2 v3 v4 v5 v6 ha0 σ
    show JR E NT 9 p l e rm_X0_reached s m args below meth c 0 0 (fun r => MQ below (xQi E (NT + 0) r) args s 0 0 (xA E)) 12 [(0, .ref (E.B + a0)), (2, .int v2), (3, .int v3), (4, .int v4), (5, .int v5), (6, .int v6)] [] σ (if v3 ≤ v6 then (some (v4, σ)) else (if v5 = 0 then (some (v4, σ)) else (f_X0_reached_29 N (f_X0_reached_12 N n) N a0 v2 v3 v4 v5 v6 (0 : Int32) (0 : Int32) (σ))))
    refine jr_iload hG 5 dX0_reached_12 rfl ?_
    refine jr_iload_n hG 2 dX0_reached_14 rfl rfl ?_
    refine jr_icmp_ge hG 90 dX0_reached_15 (by decide) (fun _ => ?_) (fun _ => ?_)
    · refine jr_iload hG 3 dX0_reached_90 rfl ?_
      exact jr_iret hG hr hk dX0_reached_92
    · refine jr_iload hG 4 dX0_reached_18 rfl ?_
      refine jr_if_eq hG 90 dX0_reached_20 (by decide) (fun _ => ?_) (fun _ => ?_)
      · refine jr_iload hG 3 dX0_reached_90 rfl ?_
        exact jr_iret hG hr hk dX0_reached_92
      · refine jr_iconst (v := (0 : Int32)) hG dX0_reached_23 (by decide) ?_
        refine jr_istore (lv' := [(7, .int (0 : Int32)), (0, .ref (E.B + a0)), (2, .int v2), (3, .int v3), (4, .int v4), (5, .int v5), (6, .int v6)]) hG dX0_reached_24 (by decide) rfl ?_
        refine jr_iconst (v := (0 : Int32)) hG dX0_reached_26 (by decide) ?_
        refine jr_istore (lv' := [(8, .int (0 : Int32)), (7, .int (0 : Int32)), (0, .ref (E.B + a0)), (2, .int v2), (3, .int v3), (4, .int v4), (5, .int v5), (6, .int v6)]) hG dX0_reached_27 (by decide) rfl ?_
        refine jr_sub (lv' := [(0, .ref (E.B + a0)), (2, .int v2), (3, .int v3), (4, .int v4), (5, .int v5), (6, .int v6), (7, .int (0 : Int32)), (8, .int (0 : Int32))]) [2, 3, 4, 5, 6, 7, 1, 0] rfl ?_
        exact w_X0_reached_29 N hG hr hk ih N a0 v2 v3 v4 v5 v6 (0 : Int32) (0 : Int32) ha0 (σ)
def f_X0_reached (N : Nat) (a0 : Nat) (v1 : Int32) (v2 : Int32) (v3 : Int32) (σ : Mm) : Option (Int32 × Mm) := if okO 0 a0 then (lt ((1 : Int32) <<< (v1 &&& 31)) (fun x1 => f_X0_reached_12 N N a0 v2 v3 x1 x1 (0 : Int32) (σ))) else none
set_option maxRecDepth 20000 in
theorem c_X0_reached (l : Launch) (E : XE) (N : Nat) (a0 : Nat) (v1 : Int32) (v2 : Int32) (v3 : Int32) (σ : Mm) : ∀ r0, f_X0_reached N a0 v1 v2 v3 σ = some r0 → Met l yX0_reached [Cond.code yX0_reached cX0_reached 9 (some .int)] rm_X0_reached (xPc E (NT + 0) σ [.ref (E.B + a0), .int v1, .int v2, .int v3]) (xQi E (NT + 0) r0) 0 0 (xA E) := by
  refine met_of (N0 := NT) (by decide +kernel) (Nat.le_of_ble_eq_true rfl) ?_
  intro p e s m args below meth c hG hr hk _
  show JR E NT 9 p l e rm_X0_reached s m args below meth c 0 0 (fun r => MQ below (xQi E (NT + 0) r) args s 0 0 (xA E)) 0 [(0, .ref (E.B + a0)), (1, .int v1), (2, .int v2), (3, .int v3)] [] σ (if okO 0 a0 then (lt ((1 : Int32) <<< (v1 &&& 31)) (fun x1 => f_X0_reached_12 N N a0 v2 v3 x1 x1 (0 : Int32) (σ))) else none)
  refine jr_guard (fun ha0 => ?_)
  refine jr_iconst (v := (1 : Int32)) hG dX0_reached_0 (by decide) ?_
  refine jr_iload_n hG 1 dX0_reached_1 rfl rfl ?_
  refine jr_ishl hG dX0_reached_2 ?_
  refine jr_leti (fun x1 _ => ?_)
  refine jr_istore (lv' := [(4, .int x1), (0, .ref (E.B + a0)), (1, .int v1), (2, .int v2), (3, .int v3)]) hG dX0_reached_3 (by decide) rfl ?_
  refine jr_iload hG 0 dX0_reached_5 rfl ?_
  refine jr_istore (lv' := [(5, .int x1), (4, .int x1), (0, .ref (E.B + a0)), (1, .int v1), (2, .int v2), (3, .int v3)]) hG dX0_reached_7 (by decide) rfl ?_
  refine jr_iconst (v := (0 : Int32)) hG dX0_reached_9 (by decide) ?_
  refine jr_istore (lv' := [(6, .int (0 : Int32)), (5, .int x1), (4, .int x1), (0, .ref (E.B + a0)), (1, .int v1), (2, .int v2), (3, .int v3)]) hG dX0_reached_10 (by decide) rfl ?_
  refine jr_sub (lv' := [(0, .ref (E.B + a0)), (2, .int v2), (3, .int v3), (4, .int x1), (5, .int x1), (6, .int (0 : Int32))]) [3, 5, 6, 2, 1, 0] rfl ?_
  exact w_X0_reached_12 N hG hr hk N a0 v2 v3 x1 x1 (0 : Int32) ha0 (σ)
-- TonguesDealt$Day.reaching(I)I
abbrev rm_X0_reaching : Room := { frames := 0, cells := 0, slots := 0, locals := 0 }
theorem ci_X0_reaching : CIx yX0_reaching cX0_reaching 5 (some .int) 1 := ⟨wd_586, wd_73, by decide +kernel⟩
def f_X0_reaching_45 (N : Nat) (K6 : Nat → Int32 → Int32 → Mm → Option (Int32 × Mm)) (K17 : Nat → Int32 → Int32 → Int32 → Mm → Option (Int32 × Mm)) (a0 : Nat) (v2 : Int32) (v3 : Int32) (v4 : Int32) (σ : Mm) : Option (Int32 × Mm) := K17 a0 v2 v3 (v4 + (1 : Int32)) (σ)
set_option maxRecDepth 20000 in
theorem w_X0_reaching_45 {p : Program} {l : Launch} {e : Env} {s : State} {m : MethodId} {args : Array Value} {below : List Frame} {meth : Method} {c : Code} {E : XE} (N : Nat) (hG : GG E NT 5 RX0 cX0_reaching p s m args c) (hr : meth.sig.returnType = (some .int)) (hk : meth.locks = false) {K6 : Nat → Int32 → Int32 → Mm → Option (Int32 × Mm)} (hK6 : ∀ (a0 : Nat) (v2 : Int32) (v3 : Int32) (ha0 : okO 0 a0 = true) (σ : Mm), JR E NT 5 p l e rm_X0_reaching s m args below meth c 0 0 (fun r => MQ below (xQi E (NT + 0) r) args s 0 0 (xA E)) 6 [(0, .ref (E.B + a0)), (2, .int v2), (3, .int v3)] [] σ (K6 a0 v2 v3 σ)) {K17 : Nat → Int32 → Int32 → Int32 → Mm → Option (Int32 × Mm)} (hK17 : ∀ (a0 : Nat) (v2 : Int32) (v3 : Int32) (v4 : Int32) (ha0 : okO 0 a0 = true) (σ : Mm), JR E NT 5 p l e rm_X0_reaching s m args below meth c 0 0 (fun r => MQ below (xQi E (NT + 0) r) args s 0 0 (xA E)) 17 [(0, .ref (E.B + a0)), (2, .int v2), (3, .int v3), (4, .int v4)] [] σ (K17 a0 v2 v3 v4 σ)) (a0 : Nat) (v2 : Int32) (v3 : Int32) (v4 : Int32) (ha0 : okO 0 a0 = true) (σ : Mm) : JR E NT 5 p l e rm_X0_reaching s m args below meth c 0 0 (fun r => MQ below (xQi E (NT + 0) r) args s 0 0 (xA E)) 45 [(0, .ref (E.B + a0)), (2, .int v2), (3, .int v3), (4, .int v4)] [] σ (f_X0_reaching_45 N K6 K17 a0 v2 v3 v4 σ) := by
  show JR E NT 5 p l e rm_X0_reaching s m args below meth c 0 0 (fun r => MQ below (xQi E (NT + 0) r) args s 0 0 (xA E)) 45 [(0, .ref (E.B + a0)), (2, .int v2), (3, .int v3), (4, .int v4)] [] σ (K17 a0 v2 v3 (v4 + (1 : Int32)) (σ))
  refine jr_iinc (v := v4 + (1 : Int32)) (lv' := [(4, .int (v4 + (1 : Int32))), (0, .ref (E.B + a0)), (2, .int v2), (3, .int v3)]) hG 3 dX0_reaching_45 rfl rfl (by decide) rfl ?_
  refine jr_goto hG 17 dX0_reaching_48 (by decide) ?_
  refine jr_sub (lv' := [(0, .ref (E.B + a0)), (2, .int v2), (3, .int v3), (4, .int (v4 + (1 : Int32)))]) [1, 2, 3, 0] rfl ?_
  exact hK17 a0 v2 v3 (v4 + (1 : Int32)) ha0 (σ)
def f_X0_reaching_17 (N : Nat) (K6 : Nat → Int32 → Int32 → Mm → Option (Int32 × Mm)) : Nat → Nat → Int32 → Int32 → Int32 → Mm → Option (Int32 × Mm)
  | 0 => fun _ _ _ _ _ => none
  | n + 1 => fun a0 v2 v3 v4 σ => if (gi σ a0 5) ≤ v4 then (K6 a0 v2 (v3 + (1 : Int32)) (σ)) else (bR (gr σ a0 4) (okA 0) (fun o2 => if inb v4 (arL o2) then (if ((gi σ o2 (ix v4)) &&& v2) = 0 then (f_X0_reaching_45 N K6 (f_X0_reaching_17 N K6 n) a0 v2 v3 v4 (σ)) else (lt (v2 ||| ((1 : Int32) <<< (v4 &&& 31))) (fun x3 => f_X0_reaching_45 N K6 (f_X0_reaching_17 N K6 n) a0 x3 v3 v4 (σ)))) else none))
set_option maxRecDepth 20000 in
theorem w_X0_reaching_17 {p : Program} {l : Launch} {e : Env} {s : State} {m : MethodId} {args : Array Value} {below : List Frame} {meth : Method} {c : Code} {E : XE} (N : Nat) (hG : GG E NT 5 RX0 cX0_reaching p s m args c) (hr : meth.sig.returnType = (some .int)) (hk : meth.locks = false) {K6 : Nat → Int32 → Int32 → Mm → Option (Int32 × Mm)} (hK6 : ∀ (a0 : Nat) (v2 : Int32) (v3 : Int32) (ha0 : okO 0 a0 = true) (σ : Mm), JR E NT 5 p l e rm_X0_reaching s m args below meth c 0 0 (fun r => MQ below (xQi E (NT + 0) r) args s 0 0 (xA E)) 6 [(0, .ref (E.B + a0)), (2, .int v2), (3, .int v3)] [] σ (K6 a0 v2 v3 σ)) : ∀ (n : Nat) (a0 : Nat) (v2 : Int32) (v3 : Int32) (v4 : Int32) (ha0 : okO 0 a0 = true) (σ : Mm), JR E NT 5 p l e rm_X0_reaching s m args below meth c 0 0 (fun r => MQ below (xQi E (NT + 0) r) args s 0 0 (xA E)) 17 [(0, .ref (E.B + a0)), (2, .int v2), (3, .int v3), (4, .int v4)] [] σ (f_X0_reaching_17 N K6 n a0 v2 v3 v4 σ) := by
  intro n
  induction n with
  | zero => intro a0 v2 v3 v4 ha0 σ r hX; cases hX
  | succ n ih =>
    intro a0 v2 v3 v4 ha0 σ
    show JR E NT 5 p l e rm_X0_reaching s m args below meth c 0 0 (fun r => MQ below (xQi E (NT + 0) r) args s 0 0 (xA E)) 17 [(0, .ref (E.B + a0)), (2, .int v2), (3, .int v3), (4, .int v4)] [] σ (if (gi σ a0 5) ≤ v4 then (K6 a0 v2 (v3 + (1 : Int32)) (σ)) else (bR (gr σ a0 4) (okA 0) (fun o2 => if inb v4 (arL o2) then (if ((gi σ o2 (ix v4)) &&& v2) = 0 then (f_X0_reaching_45 N K6 (f_X0_reaching_17 N K6 n) a0 v2 v3 v4 (σ)) else (lt (v2 ||| ((1 : Int32) <<< (v4 &&& 31))) (fun x3 => f_X0_reaching_45 N K6 (f_X0_reaching_17 N K6 n) a0 x3 v3 v4 (σ)))) else none)))
    refine jr_iload hG 3 dX0_reaching_17 rfl ?_
    refine jr_aload_n hG 0 dX0_reaching_19 rfl rfl ?_
    refine jr_getI hG fi_RX0_27 rfl (okO_s ha0) (okO_l ha0) dX0_reaching_20 ?_
    refine jr_icmp_ge hG 51 dX0_reaching_23 (by decide) (fun _ => ?_) (fun _ => ?_)
    · refine jr_iinc (v := v3 + (1 : Int32)) (lv' := [(3, .int (v3 + (1 : Int32))), (0, .ref (E.B + a0)), (2, .int v2), (4, .int v4)]) hG 2 dX0_reaching_51 rfl rfl (by decide) rfl ?_
      refine jr_goto hG 6 dX0_reaching_54 (by decide) ?_
      refine jr_sub (lv' := [(0, .ref (E.B + a0)), (2, .int v2), (3, .int (v3 + (1 : Int32)))]) [1, 2, 0] rfl ?_
      exact hK6 a0 v2 (v3 + (1 : Int32)) ha0 (σ)
    · refine jr_aload_n hG 0 dX0_reaching_26 rfl rfl ?_
      refine jr_getR hG fi_RX0_24 rfl (okO_s ha0) (okO_l ha0) dX0_reaching_27 (fun o2 ho2 => ?_)
      refine jr_iload hG 3 dX0_reaching_30 rfl ?_
      refine jr_iald hG (okA_s (by decide) ho2) (okA_l ho2) dX0_reaching_32 ?_
      refine jr_iload_n hG 1 dX0_reaching_33 rfl rfl ?_
      refine jr_iand hG dX0_reaching_34 ?_
      refine jr_if_eq hG 45 dX0_reaching_35 (by decide) (fun _ => ?_) (fun _ => ?_)
      · exact w_X0_reaching_45 N hG hr hk hK6 ih a0 v2 v3 v4 ha0 (σ)
      · refine jr_iload_n hG 1 dX0_reaching_38 rfl rfl ?_
        refine jr_iconst (v := (1 : Int32)) hG dX0_reaching_39 (by decide) ?_
        refine jr_iload hG 3 dX0_reaching_40 rfl ?_
        refine jr_ishl hG dX0_reaching_42 ?_
        refine jr_ior hG dX0_reaching_43 ?_
        refine jr_leti (fun x3 _ => ?_)
        refine jr_istore_n (lv' := [(2, .int x3), (0, .ref (E.B + a0)), (3, .int v3), (4, .int v4)]) hG dX0_reaching_44 rfl (by decide) rfl ?_
        refine jr_sub (lv' := [(0, .ref (E.B + a0)), (2, .int x3), (3, .int v3), (4, .int v4)]) [1, 0, 2, 3] rfl ?_
        exact w_X0_reaching_45 N hG hr hk hK6 ih a0 x3 v3 v4 ha0 (σ)
def f_X0_reaching_6 (N : Nat)  : Nat → Nat → Int32 → Int32 → Mm → Option (Int32 × Mm)
  | 0 => fun _ _ _ _ => none
  | n + 1 => fun a0 v2 v3 σ => if (gi σ a0 5) ≤ v3 then (some (v2, σ)) else (f_X0_reaching_17 N (f_X0_reaching_6 N n) N a0 v2 v3 (0 : Int32) (σ))
set_option maxRecDepth 20000 in
theorem w_X0_reaching_6 {p : Program} {l : Launch} {e : Env} {s : State} {m : MethodId} {args : Array Value} {below : List Frame} {meth : Method} {c : Code} {E : XE} (N : Nat) (hG : GG E NT 5 RX0 cX0_reaching p s m args c) (hr : meth.sig.returnType = (some .int)) (hk : meth.locks = false)  : ∀ (n : Nat) (a0 : Nat) (v2 : Int32) (v3 : Int32) (ha0 : okO 0 a0 = true) (σ : Mm), JR E NT 5 p l e rm_X0_reaching s m args below meth c 0 0 (fun r => MQ below (xQi E (NT + 0) r) args s 0 0 (xA E)) 6 [(0, .ref (E.B + a0)), (2, .int v2), (3, .int v3)] [] σ (f_X0_reaching_6 N n a0 v2 v3 σ) := by
  intro n
  induction n with
  | zero => intro a0 v2 v3 ha0 σ r hX; cases hX
  | succ n ih =>
    intro a0 v2 v3 ha0 σ
    show JR E NT 5 p l e rm_X0_reaching s m args below meth c 0 0 (fun r => MQ below (xQi E (NT + 0) r) args s 0 0 (xA E)) 6 [(0, .ref (E.B + a0)), (2, .int v2), (3, .int v3)] [] σ (if (gi σ a0 5) ≤ v3 then (some (v2, σ)) else (f_X0_reaching_17 N (f_X0_reaching_6 N n) N a0 v2 v3 (0 : Int32) (σ)))
    refine jr_iload_n hG 2 dX0_reaching_6 rfl rfl ?_
    refine jr_aload_n hG 0 dX0_reaching_7 rfl rfl ?_
    refine jr_getI hG fi_RX0_27 rfl (okO_s ha0) (okO_l ha0) dX0_reaching_8 ?_
    refine jr_icmp_ge hG 57 dX0_reaching_11 (by decide) (fun _ => ?_) (fun _ => ?_)
    · refine jr_iload_n hG 1 dX0_reaching_57 rfl rfl ?_
      exact jr_iret hG hr hk dX0_reaching_58
    · refine jr_iconst (v := (0 : Int32)) hG dX0_reaching_14 (by decide) ?_
      refine jr_istore (lv' := [(4, .int (0 : Int32)), (0, .ref (E.B + a0)), (2, .int v2), (3, .int v3)]) hG dX0_reaching_15 (by decide) rfl ?_
      refine jr_sub (lv' := [(0, .ref (E.B + a0)), (2, .int v2), (3, .int v3), (4, .int (0 : Int32))]) [1, 2, 3, 0] rfl ?_
      exact w_X0_reaching_17 N hG hr hk ih N a0 v2 v3 (0 : Int32) ha0 (σ)
def f_X0_reaching (N : Nat) (a0 : Nat) (v1 : Int32) (σ : Mm) : Option (Int32 × Mm) := if okO 0 a0 then (lt ((1 : Int32) <<< (v1 &&& 31)) (fun x1 => f_X0_reaching_6 N N a0 x1 (0 : Int32) (σ))) else none
set_option maxRecDepth 20000 in
theorem c_X0_reaching (l : Launch) (E : XE) (N : Nat) (a0 : Nat) (v1 : Int32) (σ : Mm) : ∀ r0, f_X0_reaching N a0 v1 σ = some r0 → Met l yX0_reaching [Cond.code yX0_reaching cX0_reaching 5 (some .int)] rm_X0_reaching (xPc E (NT + 0) σ [.ref (E.B + a0), .int v1]) (xQi E (NT + 0) r0) 0 0 (xA E) := by
  refine met_of (N0 := NT) (by decide +kernel) (Nat.le_of_ble_eq_true rfl) ?_
  intro p e s m args below meth c hG hr hk _
  show JR E NT 5 p l e rm_X0_reaching s m args below meth c 0 0 (fun r => MQ below (xQi E (NT + 0) r) args s 0 0 (xA E)) 0 [(0, .ref (E.B + a0)), (1, .int v1)] [] σ (if okO 0 a0 then (lt ((1 : Int32) <<< (v1 &&& 31)) (fun x1 => f_X0_reaching_6 N N a0 x1 (0 : Int32) (σ))) else none)
  refine jr_guard (fun ha0 => ?_)
  refine jr_iconst (v := (1 : Int32)) hG dX0_reaching_0 (by decide) ?_
  refine jr_iload_n hG 1 dX0_reaching_1 rfl rfl ?_
  refine jr_ishl hG dX0_reaching_2 ?_
  refine jr_leti (fun x1 _ => ?_)
  refine jr_istore_n (lv' := [(2, .int x1), (0, .ref (E.B + a0)), (1, .int v1)]) hG dX0_reaching_3 rfl (by decide) rfl ?_
  refine jr_iconst (v := (0 : Int32)) hG dX0_reaching_4 (by decide) ?_
  refine jr_istore_n (lv' := [(3, .int (0 : Int32)), (2, .int x1), (0, .ref (E.B + a0)), (1, .int v1)]) hG dX0_reaching_5 rfl (by decide) rfl ?_
  refine jr_sub (lv' := [(0, .ref (E.B + a0)), (2, .int x1), (3, .int (0 : Int32))]) [2, 1, 0] rfl ?_
  exact w_X0_reaching_6 N hG hr hk N a0 x1 (0 : Int32) ha0 (σ)
-- TonguesDealt$Day.goes(III)Z
abbrev rm_X0_goes : Room := { frames := 2, cells := 0, slots := 0, locals := 49 }
theorem ci_X0_goes : CIx yX0_goes cX0_goes 4 (some .boolean) 3 := ⟨wd_540, wd_73, by decide +kernel⟩
def f_X0_goes (N : Nat) (a0 : Nat) (v1 : Int32) (v2 : Int32) (v3 : Int32) (σ : Mm) : Option (Int32 × Mm) := if okO 0 a0 then (bI (f_X0_reached N a0 v1 v3 (6 : Int32) (σ)) (fun r2 t1 => bI (f_X5_holds N r2 v2 t1) (fun r4 t3 => if bz r4 then some (r4, t3) else none))) else none
set_option maxRecDepth 20000 in
theorem c_X0_goes (l : Launch) (E : XE) (N : Nat) (a0 : Nat) (v1 : Int32) (v2 : Int32) (v3 : Int32) (σ : Mm) : ∀ r0, f_X0_goes N a0 v1 v2 v3 σ = some r0 → Met l yX0_goes [Cond.code yX0_goes cX0_goes 4 (some .boolean)] rm_X0_goes (xPc E (NT + 0) σ [.ref (E.B + a0), .int v1, .int v2, .int v3]) (xQi E (NT + 0) r0) 0 0 (xA E) := by
  refine met_of (N0 := NT) (by decide +kernel) (Nat.le_of_ble_eq_true rfl) ?_
  intro p e s m args below meth c hG hr hk _
  show JR E NT 4 p l e rm_X0_goes s m args below meth c 0 0 (fun r => MQ below (xQi E (NT + 0) r) args s 0 0 (xA E)) 0 [(0, .ref (E.B + a0)), (1, .int v1), (2, .int v2), (3, .int v3)] [] σ (if okO 0 a0 then (bI (f_X0_reached N a0 v1 v3 (6 : Int32) (σ)) (fun r2 t1 => bI (f_X5_holds N r2 v2 t1) (fun r4 t3 => if bz r4 then some (r4, t3) else none))) else none)
  refine jr_guard (fun ha0 => ?_)
  refine jr_aload_n hG 0 dX0_goes_0 rfl rfl ?_
  refine jr_iload_n hG 1 dX0_goes_1 rfl rfl ?_
  refine jr_iload_n hG 3 dX0_goes_2 rfl rfl ?_
  refine jr_bipush (v := (6 : Int32)) hG dX0_goes_3 (by decide) ?_
  refine jr_callVi (As := [.int v1, .int v3, .int (6 : Int32)]) hG (c_X0_reached l E N a0 v1 v3 (6 : Int32) (σ)) ci_X0_reached wd_521 ⟨wd_522, wd_523⟩ cl_0 (okO_s ha0) (okO_l ha0) ⟨rfl, rfl, Nat.le_of_ble_eq_true rfl, Nat.le_of_ble_eq_true rfl⟩ rfl rfl (Nat.le_of_ble_eq_true rfl) dX0_goes_5 ⟨Nat.le_refl _, Nat.le_refl _⟩ (fun r2 t1 => ?_)
  refine jr_iload_n hG 2 dX0_goes_8 rfl rfl ?_
  refine jr_callNi (As := [.int r2, .int v2]) hG (c_X5_holds l E N r2 v2 t1) ci_X5_holds (List.mem_of_getElem? (i := 5) rfl) wd_366 ⟨rfl, rfl, Nat.le_of_ble_eq_true rfl, Nat.le_of_ble_eq_true rfl⟩ rfl rfl (Nat.le_of_ble_eq_true rfl) dX0_goes_9 ⟨Nat.le_refl _, Nat.le_refl _⟩ (fun r4 t3 => ?_)
  refine jr_guard (fun hz => ?_)
  exact jr_zret hG hr hk hz dX0_goes_12
-- TonguesDealt$Day.fewestMouths(II)I
abbrev rm_X0_fewestMouths : Room := { frames := 2, cells := 0, slots := 0, locals := 49 }
theorem ci_X0_fewestMouths : CIx yX0_fewestMouths cX0_fewestMouths 4 (some .int) 2 := ⟨wd_520, wd_73, by decide +kernel⟩
def f_X0_fewestMouths_2 (N : Nat)  : Nat → Nat → Int32 → Int32 → Int32 → Mm → Option (Int32 × Mm)
  | 0 => fun _ _ _ _ _ => none
  | n + 1 => fun a0 v1 v2 v3 σ => if (4 : Int32) < v3 then (some ((-9 : Int32), σ)) else (bI (f_X0_reached N a0 v1 (63 : Int32) (v3 + (1 : Int32)) (σ)) (fun r2 t1 => bI (f_X5_holds N r2 v2 t1) (fun r4 t3 => if r4 = 0 then (f_X0_fewestMouths_2 N n a0 v1 v2 (v3 + (1 : Int32)) t3) else (some (v3, t3)))))
set_option maxRecDepth 20000 in
theorem w_X0_fewestMouths_2 {p : Program} {l : Launch} {e : Env} {s : State} {m : MethodId} {args : Array Value} {below : List Frame} {meth : Method} {c : Code} {E : XE} (N : Nat) (hG : GG E NT 4 RX0 cX0_fewestMouths p s m args c) (hr : meth.sig.returnType = (some .int)) (hk : meth.locks = false)  : ∀ (n : Nat) (a0 : Nat) (v1 : Int32) (v2 : Int32) (v3 : Int32) (ha0 : okO 0 a0 = true) (σ : Mm), JR E NT 4 p l e rm_X0_fewestMouths s m args below meth c 0 0 (fun r => MQ below (xQi E (NT + 0) r) args s 0 0 (xA E)) 2 [(0, .ref (E.B + a0)), (1, .int v1), (2, .int v2), (3, .int v3)] [] σ (f_X0_fewestMouths_2 N n a0 v1 v2 v3 σ) := by
  intro n
  induction n with
  | zero => intro a0 v1 v2 v3 ha0 σ r hX; cases hX
  | succ n ih =>
    intro a0 v1 v2 v3 ha0 σ
    show JR E NT 4 p l e rm_X0_fewestMouths s m args below meth c 0 0 (fun r => MQ below (xQi E (NT + 0) r) args s 0 0 (xA E)) 2 [(0, .ref (E.B + a0)), (1, .int v1), (2, .int v2), (3, .int v3)] [] σ (if (4 : Int32) < v3 then (some ((-9 : Int32), σ)) else (bI (f_X0_reached N a0 v1 (63 : Int32) (v3 + (1 : Int32)) (σ)) (fun r2 t1 => bI (f_X5_holds N r2 v2 t1) (fun r4 t3 => if r4 = 0 then (f_X0_fewestMouths_2 N n a0 v1 v2 (v3 + (1 : Int32)) t3) else (some (v3, t3))))))
    refine jr_iload_n hG 3 dX0_fewestMouths_2 rfl rfl ?_
    refine jr_iconst (v := (4 : Int32)) hG dX0_fewestMouths_3 (by decide) ?_
    refine jr_icmp_gt hG 32 dX0_fewestMouths_4 (by decide) (fun _ => ?_) (fun _ => ?_)
    · refine jr_bipush (v := (-9 : Int32)) hG dX0_fewestMouths_32 (by decide) ?_
      exact jr_iret hG hr hk dX0_fewestMouths_34
    · refine jr_aload_n hG 0 dX0_fewestMouths_7 rfl rfl ?_
      refine jr_iload_n hG 1 dX0_fewestMouths_8 rfl rfl ?_
      refine jr_bipush (v := (63 : Int32)) hG dX0_fewestMouths_9 (by decide) ?_
      refine jr_iload_n hG 3 dX0_fewestMouths_11 rfl rfl ?_
      refine jr_iconst (v := (1 : Int32)) hG dX0_fewestMouths_12 (by decide) ?_
      refine jr_iadd hG dX0_fewestMouths_13 ?_
      refine jr_callVi (As := [.int v1, .int (63 : Int32), .int (v3 + (1 : Int32))]) hG (c_X0_reached l E N a0 v1 (63 : Int32) (v3 + (1 : Int32)) (σ)) ci_X0_reached wd_521 ⟨wd_522, wd_523⟩ cl_0 (okO_s ha0) (okO_l ha0) ⟨rfl, rfl, Nat.le_of_ble_eq_true rfl, Nat.le_of_ble_eq_true rfl⟩ rfl rfl (Nat.le_of_ble_eq_true rfl) dX0_fewestMouths_14 ⟨Nat.le_refl _, Nat.le_refl _⟩ (fun r2 t1 => ?_)
      refine jr_iload_n hG 2 dX0_fewestMouths_17 rfl rfl ?_
      refine jr_callNi (As := [.int r2, .int v2]) hG (c_X5_holds l E N r2 v2 t1) ci_X5_holds (List.mem_of_getElem? (i := 5) rfl) wd_366 ⟨rfl, rfl, Nat.le_of_ble_eq_true rfl, Nat.le_of_ble_eq_true rfl⟩ rfl rfl (Nat.le_of_ble_eq_true rfl) dX0_fewestMouths_18 ⟨Nat.le_refl _, Nat.le_refl _⟩ (fun r4 t3 => ?_)
      refine jr_if_eq hG 26 dX0_fewestMouths_21 (by decide) (fun _ => ?_) (fun _ => ?_)
      · refine jr_iinc (v := v3 + (1 : Int32)) (lv' := [(3, .int (v3 + (1 : Int32))), (0, .ref (E.B + a0)), (1, .int v1), (2, .int v2)]) hG 3 dX0_fewestMouths_26 rfl rfl (by decide) rfl ?_
        refine jr_goto hG 2 dX0_fewestMouths_29 (by decide) ?_
        refine jr_sub (lv' := [(0, .ref (E.B + a0)), (1, .int v1), (2, .int v2), (3, .int (v3 + (1 : Int32)))]) [1, 2, 3, 0] rfl ?_
        exact ih a0 v1 v2 (v3 + (1 : Int32)) ha0 t3
      · refine jr_iload_n hG 3 dX0_fewestMouths_24 rfl rfl ?_
        exact jr_iret hG hr hk dX0_fewestMouths_25
def f_X0_fewestMouths (N : Nat) (a0 : Nat) (v1 : Int32) (v2 : Int32) (σ : Mm) : Option (Int32 × Mm) := if okO 0 a0 then (f_X0_fewestMouths_2 N N a0 v1 v2 (0 : Int32) (σ)) else none
set_option maxRecDepth 20000 in
theorem c_X0_fewestMouths (l : Launch) (E : XE) (N : Nat) (a0 : Nat) (v1 : Int32) (v2 : Int32) (σ : Mm) : ∀ r0, f_X0_fewestMouths N a0 v1 v2 σ = some r0 → Met l yX0_fewestMouths [Cond.code yX0_fewestMouths cX0_fewestMouths 4 (some .int)] rm_X0_fewestMouths (xPc E (NT + 0) σ [.ref (E.B + a0), .int v1, .int v2]) (xQi E (NT + 0) r0) 0 0 (xA E) := by
  refine met_of (N0 := NT) (by decide +kernel) (Nat.le_of_ble_eq_true rfl) ?_
  intro p e s m args below meth c hG hr hk _
  show JR E NT 4 p l e rm_X0_fewestMouths s m args below meth c 0 0 (fun r => MQ below (xQi E (NT + 0) r) args s 0 0 (xA E)) 0 [(0, .ref (E.B + a0)), (1, .int v1), (2, .int v2)] [] σ (if okO 0 a0 then (f_X0_fewestMouths_2 N N a0 v1 v2 (0 : Int32) (σ)) else none)
  refine jr_guard (fun ha0 => ?_)
  refine jr_iconst (v := (0 : Int32)) hG dX0_fewestMouths_0 (by decide) ?_
  refine jr_istore_n (lv' := [(3, .int (0 : Int32)), (0, .ref (E.B + a0)), (1, .int v1), (2, .int v2)]) hG dX0_fewestMouths_1 rfl (by decide) rfl ?_
  refine jr_sub (lv' := [(0, .ref (E.B + a0)), (1, .int v1), (2, .int v2), (3, .int (0 : Int32))]) [1, 2, 3, 0] rfl ?_
  exact w_X0_fewestMouths_2 N hG hr hk N a0 v1 v2 (0 : Int32) ha0 (σ)
-- TonguesDealt$Deeds.add(II)V
abbrev rm_X1_add : Room := { frames := 0, cells := 0, slots := 0, locals := 0 }
theorem ci_X1_add : CIx yX1_add cX1_add 3 none 2 := ⟨wd_474, wd_72, by decide +kernel⟩
def f_X1_add (N : Nat) (a0 : Nat) (v1 : Int32) (v2 : Int32) (σ : Mm) : Option (Mm) := if okO 1 a0 then (if (gi σ a0 2) < (40 : Int32) then (bR (gr σ a0 0) (okA 0) (fun o1 => if inb (gi σ a0 2) (arL o1) then (lt (si σ o1 (ix (gi σ a0 2)) v1) (fun t2 => bR (gr t2 a0 1) (okA 0) (fun o3 => if inb (gi t2 a0 2) (arL o3) then (lt (si t2 o3 (ix (gi t2 a0 2)) v2) (fun t4 => lt (si t4 a0 2 ((gi t4 a0 2) + (1 : Int32))) (fun t5 => some t5))) else none))) else none)) else (some (σ))) else none
set_option maxRecDepth 20000 in
theorem c_X1_add (l : Launch) (E : XE) (N : Nat) (a0 : Nat) (v1 : Int32) (v2 : Int32) (σ : Mm) : ∀ r0, f_X1_add N a0 v1 v2 σ = some r0 → Met l yX1_add [Cond.code yX1_add cX1_add 3 none] rm_X1_add (xPc E (NT + 0) σ [.ref (E.B + a0), .int v1, .int v2]) (xQv E (NT + 0) r0) 0 0 (xA E) := by
  refine met_of (N0 := NT) (by decide +kernel) (Nat.le_of_ble_eq_true rfl) ?_
  intro p e s m args below meth c hG hr hk _
  show JR E NT 3 p l e rm_X1_add s m args below meth c 0 0 (fun r => MQ below (xQv E (NT + 0) r) args s 0 0 (xA E)) 0 [(0, .ref (E.B + a0)), (1, .int v1), (2, .int v2)] [] σ (if okO 1 a0 then (if (gi σ a0 2) < (40 : Int32) then (bR (gr σ a0 0) (okA 0) (fun o1 => if inb (gi σ a0 2) (arL o1) then (lt (si σ o1 (ix (gi σ a0 2)) v1) (fun t2 => bR (gr t2 a0 1) (okA 0) (fun o3 => if inb (gi t2 a0 2) (arL o3) then (lt (si t2 o3 (ix (gi t2 a0 2)) v2) (fun t4 => lt (si t4 a0 2 ((gi t4 a0 2) + (1 : Int32))) (fun t5 => some t5))) else none))) else none)) else (some (σ))) else none)
  refine jr_guard (fun ha0 => ?_)
  refine jr_aload_n hG 0 dX1_add_0 rfl rfl ?_
  refine jr_getI hG fi_RX1_18 rfl (okO_s ha0) (okO_l ha0) dX1_add_1 ?_
  refine jr_bipush (v := (40 : Int32)) hG dX1_add_4 (by decide) ?_
  refine jr_icmp_lt hG 10 dX1_add_6 (by decide) (fun _ => ?_) (fun _ => ?_)
  · refine jr_aload_n hG 0 dX1_add_10 rfl rfl ?_
    refine jr_getR hG fi_RX1_9 rfl (okO_s ha0) (okO_l ha0) dX1_add_11 (fun o1 ho1 => ?_)
    refine jr_aload_n hG 0 dX1_add_14 rfl rfl ?_
    refine jr_getI hG fi_RX1_18 rfl (okO_s ha0) (okO_l ha0) dX1_add_15 ?_
    refine jr_iload_n hG 1 dX1_add_18 rfl rfl ?_
    refine jr_iast hG (okA_s (by decide) ho1) (okA_l ho1) dX1_add_19 ?_
    refine jr_lets (fun t2 _ => ?_)
    refine jr_aload_n hG 0 dX1_add_20 rfl rfl ?_
    refine jr_getR hG fi_RX1_15 rfl (okO_s ha0) (okO_l ha0) dX1_add_21 (fun o3 ho3 => ?_)
    refine jr_aload_n hG 0 dX1_add_24 rfl rfl ?_
    refine jr_getI hG fi_RX1_18 rfl (okO_s ha0) (okO_l ha0) dX1_add_25 ?_
    refine jr_iload_n hG 2 dX1_add_28 rfl rfl ?_
    refine jr_iast hG (okA_s (by decide) ho3) (okA_l ho3) dX1_add_29 ?_
    refine jr_lets (fun t4 _ => ?_)
    refine jr_aload_n hG 0 dX1_add_30 rfl rfl ?_
    refine jr_dup hG dX1_add_31 rfl ?_
    refine jr_getI hG fi_RX1_18 rfl (okO_s ha0) (okO_l ha0) dX1_add_32 ?_
    refine jr_iconst (v := (1 : Int32)) hG dX1_add_35 (by decide) ?_
    refine jr_iadd hG dX1_add_36 ?_
    refine jr_putI hG fi_RX1_18 rfl rfl (okO_s ha0) (okO_l ha0) dX1_add_37 ?_
    refine jr_lets (fun t5 _ => ?_)
    exact jr_vret hG hr hk dX1_add_40
  · exact jr_vret hG hr hk dX1_add_9
