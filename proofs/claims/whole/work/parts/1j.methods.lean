-- TonguesDealtModel.broken(I)I
abbrev rm_X6_broken : Room := { frames := 3, cells := 0, slots := 0, locals := 67 }
theorem ci_X6_broken : CIx yX6_broken cX6_broken 4 (some .int) 1 := ⟨wd_1178, wd_77, by decide +kernel⟩
def f_X6_broken_15 (N : Nat)  : Nat → Nat → Int32 → Int32 → Mm → Option (Int32 × Mm)
  | 0 => fun _ _ _ _ => none
  | n + 1 => fun a0 v1 v3 σ => bR (gr σ a0 5) (okA 0) (fun o3 => if inb v1 (arL o3) then (if (gi σ o3 (ix v1)) ≤ v3 then (some ((-9 : Int32), σ)) else (bI (f_X6_agrees N a0 v1 v3 (σ)) (fun r5 t4 => if r5 = 0 then (if (gi t4 a0 10) = 0 then none else some (v3 / (gi t4 a0 10), t4)) else (lt (v3 + (gi t4 a0 10)) (fun x6 => f_X6_broken_15 N n a0 v1 x6 t4))))) else none)
set_option maxRecDepth 20000 in
theorem w_X6_broken_15 {p : Program} {l : Launch} {e : Env} {s : State} {m : MethodId} {args : Array Value} {below : List Frame} {meth : Method} {c : Code} {E : XE} (N : Nat) (hG : GG E NT 4 RX6 cX6_broken p s m args c) (hr : meth.sig.returnType = (some .int)) (hk : meth.locks = false)  : ∀ (n : Nat) (a0 : Nat) (v1 : Int32) (v3 : Int32) (ha0 : okO 6 a0 = true) (σ : Mm), JR E NT 4 p l e rm_X6_broken s m args below meth c 0 0 (fun r => MQ below (xQi E (NT + 0) r) args s 0 0 (xA E)) 15 [(0, .ref (E.B + a0)), (1, .int v1), (3, .int v3)] [] σ (f_X6_broken_15 N n a0 v1 v3 σ) := by
  intro n
  induction n with
  | zero => intro a0 v1 v3 ha0 σ r hX; cases hX
  | succ n ih =>
    intro a0 v1 v3 ha0 σ
    show JR E NT 4 p l e rm_X6_broken s m args below meth c 0 0 (fun r => MQ below (xQi E (NT + 0) r) args s 0 0 (xA E)) 15 [(0, .ref (E.B + a0)), (1, .int v1), (3, .int v3)] [] σ (bR (gr σ a0 5) (okA 0) (fun o3 => if inb v1 (arL o3) then (if (gi σ o3 (ix v1)) ≤ v3 then (some ((-9 : Int32), σ)) else (bI (f_X6_agrees N a0 v1 v3 (σ)) (fun r5 t4 => if r5 = 0 then (if (gi t4 a0 10) = 0 then none else some (v3 / (gi t4 a0 10), t4)) else (lt (v3 + (gi t4 a0 10)) (fun x6 => f_X6_broken_15 N n a0 v1 x6 t4))))) else none))
    refine jr_iload_n hG 2 dX6_broken_15 rfl rfl ?_
    refine jr_aload_n hG 0 dX6_broken_16 rfl rfl ?_
    refine jr_getR hG fi_RX6_17 rfl (okO_s ha0) (okO_l ha0) dX6_broken_17 (fun o3 ho3 => ?_)
    refine jr_iload_n hG 1 dX6_broken_20 rfl rfl ?_
    refine jr_iald hG (okA_s (by decide) ho3) (okA_l ho3) dX6_broken_21 ?_
    refine jr_icmp_ge hG 51 dX6_broken_22 (by decide) (fun _ => ?_) (fun _ => ?_)
    · refine jr_bipush (v := (-9 : Int32)) hG dX6_broken_51 (by decide) ?_
      exact jr_iret hG hr hk dX6_broken_53
    · refine jr_aload_n hG 0 dX6_broken_25 rfl rfl ?_
      refine jr_iload_n hG 1 dX6_broken_26 rfl rfl ?_
      refine jr_iload_n hG 2 dX6_broken_27 rfl rfl ?_
      refine jr_callVi (As := [.int v1, .int v3]) hG (c_X6_agrees l E N a0 v1 v3 (σ)) ci_X6_agrees wd_1004 ⟨wd_1006, wd_39⟩ cl_6 (okO_s ha0) (okO_l ha0) ⟨rfl, rfl, Nat.le_of_ble_eq_true rfl, Nat.le_of_ble_eq_true rfl⟩ rfl rfl (Nat.le_of_ble_eq_true rfl) dX6_broken_28 ⟨Nat.le_refl _, Nat.le_refl _⟩ (fun r5 t4 => ?_)
      refine jr_if_ne hG 41 dX6_broken_31 (by decide) (fun _ => ?_) (fun _ => ?_)
      · refine jr_iload_n hG 2 dX6_broken_41 rfl rfl ?_
        refine jr_aload_n hG 0 dX6_broken_42 rfl rfl ?_
        refine jr_getI hG fi_RX6_147 rfl (okO_s ha0) (okO_l ha0) dX6_broken_43 ?_
        refine jr_iadd hG dX6_broken_46 ?_
        refine jr_leti (fun x6 _ => ?_)
        refine jr_istore_n (lv' := [(3, .int x6), (0, .ref (E.B + a0)), (1, .int v1)]) hG dX6_broken_47 rfl (by decide) rfl ?_
        refine jr_goto hG 15 dX6_broken_48 (by decide) ?_
        refine jr_sub (lv' := [(0, .ref (E.B + a0)), (1, .int v1), (3, .int x6)]) [1, 2, 0] rfl ?_
        exact ih a0 v1 x6 ha0 t4
      · refine jr_iload_n hG 2 dX6_broken_34 rfl rfl ?_
        refine jr_aload_n hG 0 dX6_broken_35 rfl rfl ?_
        refine jr_getI hG fi_RX6_147 rfl (okO_s ha0) (okO_l ha0) dX6_broken_36 ?_
        refine jr_idiv hG dX6_broken_39 ?_
        exact jr_iret hG hr hk dX6_broken_40
def f_X6_broken (N : Nat) (a0 : Nat) (v1 : Int32) (σ : Mm) : Option (Int32 × Mm) := if okO 6 a0 then (bI (f_X6_needMornings N a0 v1 (1 : Int32) (σ)) (fun r2 t1 => if 0 ≤ r2 then (f_X6_broken_15 N N a0 v1 (0 : Int32) t1) else (some (r2, t1)))) else none
set_option maxRecDepth 20000 in
theorem c_X6_broken (l : Launch) (E : XE) (N : Nat) (a0 : Nat) (v1 : Int32) (σ : Mm) : ∀ r0, f_X6_broken N a0 v1 σ = some r0 → Met l yX6_broken [Cond.code yX6_broken cX6_broken 4 (some .int)] rm_X6_broken (xPc E (NT + 0) σ [.ref (E.B + a0), .int v1]) (xQi E (NT + 0) r0) 0 0 (xA E) := by
  refine met_of (N0 := NT) (by decide +kernel) (Nat.le_of_ble_eq_true rfl) ?_
  intro p e s m args below meth c hG hr hk _
  show JR E NT 4 p l e rm_X6_broken s m args below meth c 0 0 (fun r => MQ below (xQi E (NT + 0) r) args s 0 0 (xA E)) 0 [(0, .ref (E.B + a0)), (1, .int v1)] [] σ (if okO 6 a0 then (bI (f_X6_needMornings N a0 v1 (1 : Int32) (σ)) (fun r2 t1 => if 0 ≤ r2 then (f_X6_broken_15 N N a0 v1 (0 : Int32) t1) else (some (r2, t1)))) else none)
  refine jr_guard (fun ha0 => ?_)
  refine jr_aload_n hG 0 dX6_broken_0 rfl rfl ?_
  refine jr_iload_n hG 1 dX6_broken_1 rfl rfl ?_
  refine jr_iconst (v := (1 : Int32)) hG dX6_broken_2 (by decide) ?_
  refine jr_callVi (As := [.int v1, .int (1 : Int32)]) hG (c_X6_needMornings l E N a0 v1 (1 : Int32) (σ)) ci_X6_needMornings wd_1159 ⟨wd_1161, wd_62⟩ cl_6 (okO_s ha0) (okO_l ha0) ⟨rfl, rfl, Nat.le_of_ble_eq_true rfl, Nat.le_of_ble_eq_true rfl⟩ rfl rfl (Nat.le_of_ble_eq_true rfl) dX6_broken_3 ⟨Nat.le_refl _, Nat.le_refl _⟩ (fun r2 t1 => ?_)
  refine jr_istore_n (lv' := [(2, .int r2), (0, .ref (E.B + a0)), (1, .int v1)]) hG dX6_broken_6 rfl (by decide) rfl ?_
  refine jr_iload_n hG 0 dX6_broken_7 rfl rfl ?_
  refine jr_if_ge hG 13 dX6_broken_8 (by decide) (fun _ => ?_) (fun _ => ?_)
  · refine jr_iconst (v := (0 : Int32)) hG dX6_broken_13 (by decide) ?_
    refine jr_istore_n (lv' := [(3, .int (0 : Int32)), (2, .int r2), (0, .ref (E.B + a0)), (1, .int v1)]) hG dX6_broken_14 rfl (by decide) rfl ?_
    refine jr_sub (lv' := [(0, .ref (E.B + a0)), (1, .int v1), (3, .int (0 : Int32))]) [2, 3, 0] rfl ?_
    exact w_X6_broken_15 N hG hr hk N a0 v1 (0 : Int32) ha0 t1
  · refine jr_iload_n hG 0 dX6_broken_11 rfl rfl ?_
    exact jr_iret hG hr hk dX6_broken_12
-- TonguesDealtModel.understand([II)I
abbrev rm_X6_understand : Room := { frames := 3, cells := 0, slots := 0, locals := 66 }
theorem ci_X6_understand : CIx yX6_understand cX6_understand 5 (some .int) 2 := ⟨wd_1190, wd_77, by decide +kernel⟩
def f_X6_understand_47 (N : Nat) (K5 : Nat → Nat → Int32 → Int32 → Int32 → Mm → Option (Int32 × Mm)) (a0 : Nat) (a1 : Nat) (v2 : Int32) (v4 : Int32) (s0 : Int32) (s1 : Int32) (σ : Mm) : Option (Int32 × Mm) := lt (s1 ||| s0) (fun x7 => K5 a0 a1 v2 x7 (v4 + (1 : Int32)) (σ))
set_option maxRecDepth 20000 in
theorem w_X6_understand_47 {p : Program} {l : Launch} {e : Env} {s : State} {m : MethodId} {args : Array Value} {below : List Frame} {meth : Method} {c : Code} {E : XE} (N : Nat) (hG : GG E NT 5 RX6 cX6_understand p s m args c) (hr : meth.sig.returnType = (some .int)) (hk : meth.locks = false) {K5 : Nat → Nat → Int32 → Int32 → Int32 → Mm → Option (Int32 × Mm)} (hK5 : ∀ (a0 : Nat) (a1 : Nat) (v2 : Int32) (v3 : Int32) (v4 : Int32) (ha0 : okO 6 a0 = true) (ha1 : okA 0 a1 = true) (σ : Mm), JR E NT 5 p l e rm_X6_understand s m args below meth c 0 0 (fun r => MQ below (xQi E (NT + 0) r) args s 0 0 (xA E)) 5 [(0, .ref (E.B + a0)), (1, .ref (E.B + a1)), (2, .int v2), (3, .int v3), (4, .int v4)] [] σ (K5 a0 a1 v2 v3 v4 σ)) (a0 : Nat) (a1 : Nat) (v2 : Int32) (v4 : Int32) (s0 : Int32) (s1 : Int32) (ha0 : okO 6 a0 = true) (ha1 : okA 0 a1 = true) (σ : Mm) : JR E NT 5 p l e rm_X6_understand s m args below meth c 0 0 (fun r => MQ below (xQi E (NT + 0) r) args s 0 0 (xA E)) 47 [(0, .ref (E.B + a0)), (1, .ref (E.B + a1)), (2, .int v2), (4, .int v4)] [.int s0, .int s1] σ (f_X6_understand_47 N K5 a0 a1 v2 v4 s0 s1 σ) := by
  show JR E NT 5 p l e rm_X6_understand s m args below meth c 0 0 (fun r => MQ below (xQi E (NT + 0) r) args s 0 0 (xA E)) 47 [(0, .ref (E.B + a0)), (1, .ref (E.B + a1)), (2, .int v2), (4, .int v4)] [.int s0, .int s1] σ (lt (s1 ||| s0) (fun x7 => K5 a0 a1 v2 x7 (v4 + (1 : Int32)) (σ)))
  refine jr_ior hG dX6_understand_47 ?_
  refine jr_leti (fun x7 _ => ?_)
  refine jr_istore_n (lv' := [(3, .int x7), (0, .ref (E.B + a0)), (1, .ref (E.B + a1)), (2, .int v2), (4, .int v4)]) hG dX6_understand_48 rfl (by decide) rfl ?_
  refine jr_iinc (v := v4 + (1 : Int32)) (lv' := [(4, .int (v4 + (1 : Int32))), (3, .int x7), (0, .ref (E.B + a0)), (1, .ref (E.B + a1)), (2, .int v2)]) hG 4 dX6_understand_49 rfl rfl (by decide) rfl ?_
  refine jr_goto hG 5 dX6_understand_52 (by decide) ?_
  refine jr_sub (lv' := [(0, .ref (E.B + a0)), (1, .ref (E.B + a1)), (2, .int v2), (3, .int x7), (4, .int (v4 + (1 : Int32)))]) [2, 3, 4, 1, 0] rfl ?_
  exact hK5 a0 a1 v2 x7 (v4 + (1 : Int32)) ha0 ha1 (σ)
def f_X6_understand_46 (N : Nat) (K5 : Nat → Nat → Int32 → Int32 → Int32 → Mm → Option (Int32 × Mm)) (a0 : Nat) (a1 : Nat) (v2 : Int32) (v4 : Int32) (s0 : Int32) (σ : Mm) : Option (Int32 × Mm) := f_X6_understand_47 N K5 a0 a1 v2 v4 (0 : Int32) s0 (σ)
set_option maxRecDepth 20000 in
theorem w_X6_understand_46 {p : Program} {l : Launch} {e : Env} {s : State} {m : MethodId} {args : Array Value} {below : List Frame} {meth : Method} {c : Code} {E : XE} (N : Nat) (hG : GG E NT 5 RX6 cX6_understand p s m args c) (hr : meth.sig.returnType = (some .int)) (hk : meth.locks = false) {K5 : Nat → Nat → Int32 → Int32 → Int32 → Mm → Option (Int32 × Mm)} (hK5 : ∀ (a0 : Nat) (a1 : Nat) (v2 : Int32) (v3 : Int32) (v4 : Int32) (ha0 : okO 6 a0 = true) (ha1 : okA 0 a1 = true) (σ : Mm), JR E NT 5 p l e rm_X6_understand s m args below meth c 0 0 (fun r => MQ below (xQi E (NT + 0) r) args s 0 0 (xA E)) 5 [(0, .ref (E.B + a0)), (1, .ref (E.B + a1)), (2, .int v2), (3, .int v3), (4, .int v4)] [] σ (K5 a0 a1 v2 v3 v4 σ)) (a0 : Nat) (a1 : Nat) (v2 : Int32) (v4 : Int32) (s0 : Int32) (ha0 : okO 6 a0 = true) (ha1 : okA 0 a1 = true) (σ : Mm) : JR E NT 5 p l e rm_X6_understand s m args below meth c 0 0 (fun r => MQ below (xQi E (NT + 0) r) args s 0 0 (xA E)) 46 [(0, .ref (E.B + a0)), (1, .ref (E.B + a1)), (2, .int v2), (4, .int v4)] [.int s0] σ (f_X6_understand_46 N K5 a0 a1 v2 v4 s0 σ) := by
  show JR E NT 5 p l e rm_X6_understand s m args below meth c 0 0 (fun r => MQ below (xQi E (NT + 0) r) args s 0 0 (xA E)) 46 [(0, .ref (E.B + a0)), (1, .ref (E.B + a1)), (2, .int v2), (4, .int v4)] [.int s0] σ (f_X6_understand_47 N K5 a0 a1 v2 v4 (0 : Int32) s0 (σ))
  refine jr_iconst (v := (0 : Int32)) hG dX6_understand_46 (by decide) ?_
  exact w_X6_understand_47 N hG hr hk hK5 a0 a1 v2 v4 (0 : Int32) s0 ha0 ha1 (σ)
def f_X6_understand_5 (N : Nat)  : Nat → Nat → Nat → Int32 → Int32 → Int32 → Mm → Option (Int32 × Mm)
  | 0 => fun _ _ _ _ _ _ => none
  | n + 1 => fun a0 a1 v2 v3 v4 σ => if (gi σ a0 10) ≤ v4 then (some (v3, σ)) else (bI (f_X6_isShut N a0 a1 v4 (σ)) (fun r2 t1 => if r2 = 0 then (bI (f_X6_knowsIn N a0 a1 v4 t1) (fun r4 t3 => bI (f_X6_has N r4 v2 t3) (fun r6 t5 => if r6 = 0 then (f_X6_understand_46 N (f_X6_understand_5 N n) a0 a1 v2 v4 v3 t5) else (f_X6_understand_47 N (f_X6_understand_5 N n) a0 a1 v2 v4 ((1 : Int32) <<< (v4 &&& 31)) v3 t5)))) else (f_X6_understand_46 N (f_X6_understand_5 N n) a0 a1 v2 v4 v3 t1)))
set_option maxRecDepth 20000 in
theorem w_X6_understand_5 {p : Program} {l : Launch} {e : Env} {s : State} {m : MethodId} {args : Array Value} {below : List Frame} {meth : Method} {c : Code} {E : XE} (N : Nat) (hG : GG E NT 5 RX6 cX6_understand p s m args c) (hr : meth.sig.returnType = (some .int)) (hk : meth.locks = false)  : ∀ (n : Nat) (a0 : Nat) (a1 : Nat) (v2 : Int32) (v3 : Int32) (v4 : Int32) (ha0 : okO 6 a0 = true) (ha1 : okA 0 a1 = true) (σ : Mm), JR E NT 5 p l e rm_X6_understand s m args below meth c 0 0 (fun r => MQ below (xQi E (NT + 0) r) args s 0 0 (xA E)) 5 [(0, .ref (E.B + a0)), (1, .ref (E.B + a1)), (2, .int v2), (3, .int v3), (4, .int v4)] [] σ (f_X6_understand_5 N n a0 a1 v2 v3 v4 σ) := by
  intro n
  induction n with
  | zero => intro a0 a1 v2 v3 v4 ha0 ha1 σ r hX; cases hX
  | succ n ih =>
    intro a0 a1 v2 v3 v4 ha0 ha1 σ
    show JR E NT 5 p l e rm_X6_understand s m args below meth c 0 0 (fun r => MQ below (xQi E (NT + 0) r) args s 0 0 (xA E)) 5 [(0, .ref (E.B + a0)), (1, .ref (E.B + a1)), (2, .int v2), (3, .int v3), (4, .int v4)] [] σ (if (gi σ a0 10) ≤ v4 then (some (v3, σ)) else (bI (f_X6_isShut N a0 a1 v4 (σ)) (fun r2 t1 => if r2 = 0 then (bI (f_X6_knowsIn N a0 a1 v4 t1) (fun r4 t3 => bI (f_X6_has N r4 v2 t3) (fun r6 t5 => if r6 = 0 then (f_X6_understand_46 N (f_X6_understand_5 N n) a0 a1 v2 v4 v3 t5) else (f_X6_understand_47 N (f_X6_understand_5 N n) a0 a1 v2 v4 ((1 : Int32) <<< (v4 &&& 31)) v3 t5)))) else (f_X6_understand_46 N (f_X6_understand_5 N n) a0 a1 v2 v4 v3 t1))))
    refine jr_iload hG 4 dX6_understand_5 rfl ?_
    refine jr_aload_n hG 0 dX6_understand_7 rfl rfl ?_
    refine jr_getI hG fi_RX6_147 rfl (okO_s ha0) (okO_l ha0) dX6_understand_8 ?_
    refine jr_icmp_ge hG 55 dX6_understand_11 (by decide) (fun _ => ?_) (fun _ => ?_)
    · refine jr_iload_n hG 3 dX6_understand_55 rfl rfl ?_
      exact jr_iret hG hr hk dX6_understand_56
    · refine jr_iload_n hG 3 dX6_understand_14 rfl rfl ?_
      refine jr_aload_n hG 0 dX6_understand_15 rfl rfl ?_
      refine jr_aload_n hG 1 dX6_understand_16 rfl rfl ?_
      refine jr_iload hG 4 dX6_understand_17 rfl ?_
      refine jr_callVi (As := [.ref (E.B + a1), .int v4]) hG (c_X6_isShut l E N a0 a1 v4 (σ)) ci_X6_isShut wd_988 ⟨wd_990, wd_36⟩ cl_6 (okO_s ha0) (okO_l ha0) ⟨rfl, rfl, Nat.le_of_ble_eq_true rfl, Nat.le_of_ble_eq_true rfl⟩ rfl rfl (Nat.le_of_ble_eq_true rfl) dX6_understand_19 ⟨Nat.le_refl _, Nat.le_refl _⟩ (fun r2 t1 => ?_)
      refine jr_if_ne hG 46 dX6_understand_22 (by decide) (fun _ => ?_) (fun _ => ?_)
      · refine jr_sub (lv' := [(0, .ref (E.B + a0)), (1, .ref (E.B + a1)), (2, .int v2), (4, .int v4)]) [0, 1, 2, 4] rfl ?_
        exact w_X6_understand_46 N hG hr hk ih a0 a1 v2 v4 v3 ha0 ha1 t1
      · refine jr_aload_n hG 0 dX6_understand_25 rfl rfl ?_
        refine jr_aload_n hG 1 dX6_understand_26 rfl rfl ?_
        refine jr_iload hG 4 dX6_understand_27 rfl ?_
        refine jr_callVi (As := [.ref (E.B + a1), .int v4]) hG (c_X6_knowsIn l E N a0 a1 v4 t1) ci_X6_knowsIn wd_958 ⟨wd_960, wd_31⟩ cl_6 (okO_s ha0) (okO_l ha0) ⟨rfl, rfl, Nat.le_of_ble_eq_true rfl, Nat.le_of_ble_eq_true rfl⟩ rfl rfl (Nat.le_of_ble_eq_true rfl) dX6_understand_29 ⟨Nat.le_refl _, Nat.le_refl _⟩ (fun r4 t3 => ?_)
        refine jr_iload_n hG 2 dX6_understand_32 rfl rfl ?_
        refine jr_callSi (As := [.int r4, .int v2]) hG (c_X6_has l E N r4 v2 t3) ci_X6_has wd_932 wd_933 ⟨rfl, rfl, Nat.le_of_ble_eq_true rfl, Nat.le_of_ble_eq_true rfl⟩ rfl rfl (Nat.le_of_ble_eq_true rfl) dX6_understand_33 ⟨Nat.le_refl _, Nat.le_refl _⟩ (fun r6 t5 => ?_)
        refine jr_if_eq hG 46 dX6_understand_36 (by decide) (fun _ => ?_) (fun _ => ?_)
        · refine jr_sub (lv' := [(0, .ref (E.B + a0)), (1, .ref (E.B + a1)), (2, .int v2), (4, .int v4)]) [0, 1, 2, 4] rfl ?_
          exact w_X6_understand_46 N hG hr hk ih a0 a1 v2 v4 v3 ha0 ha1 t5
        · refine jr_iconst (v := (1 : Int32)) hG dX6_understand_39 (by decide) ?_
          refine jr_iload hG 4 dX6_understand_40 rfl ?_
          refine jr_ishl hG dX6_understand_42 ?_
          refine jr_goto hG 47 dX6_understand_43 (by decide) ?_
          refine jr_sub (lv' := [(0, .ref (E.B + a0)), (1, .ref (E.B + a1)), (2, .int v2), (4, .int v4)]) [0, 1, 2, 4] rfl ?_
          exact w_X6_understand_47 N hG hr hk ih a0 a1 v2 v4 ((1 : Int32) <<< (v4 &&& 31)) v3 ha0 ha1 t5
def f_X6_understand (N : Nat) (a0 : Nat) (a1 : Nat) (v2 : Int32) (σ : Mm) : Option (Int32 × Mm) := if okO 6 a0 then (if okA 0 a1 then (f_X6_understand_5 N N a0 a1 v2 (0 : Int32) (0 : Int32) (σ)) else none) else none
set_option maxRecDepth 20000 in
theorem c_X6_understand (l : Launch) (E : XE) (N : Nat) (a0 : Nat) (a1 : Nat) (v2 : Int32) (σ : Mm) : ∀ r0, f_X6_understand N a0 a1 v2 σ = some r0 → Met l yX6_understand [Cond.code yX6_understand cX6_understand 5 (some .int)] rm_X6_understand (xPc E (NT + 0) σ [.ref (E.B + a0), .ref (E.B + a1), .int v2]) (xQi E (NT + 0) r0) 0 0 (xA E) := by
  refine met_of (N0 := NT) (by decide +kernel) (Nat.le_of_ble_eq_true rfl) ?_
  intro p e s m args below meth c hG hr hk _
  show JR E NT 5 p l e rm_X6_understand s m args below meth c 0 0 (fun r => MQ below (xQi E (NT + 0) r) args s 0 0 (xA E)) 0 [(0, .ref (E.B + a0)), (1, .ref (E.B + a1)), (2, .int v2)] [] σ (if okO 6 a0 then (if okA 0 a1 then (f_X6_understand_5 N N a0 a1 v2 (0 : Int32) (0 : Int32) (σ)) else none) else none)
  refine jr_guard (fun ha0 => ?_)
  refine jr_guard (fun ha1 => ?_)
  refine jr_iconst (v := (0 : Int32)) hG dX6_understand_0 (by decide) ?_
  refine jr_istore_n (lv' := [(3, .int (0 : Int32)), (0, .ref (E.B + a0)), (1, .ref (E.B + a1)), (2, .int v2)]) hG dX6_understand_1 rfl (by decide) rfl ?_
  refine jr_iconst (v := (0 : Int32)) hG dX6_understand_2 (by decide) ?_
  refine jr_istore (lv' := [(4, .int (0 : Int32)), (3, .int (0 : Int32)), (0, .ref (E.B + a0)), (1, .ref (E.B + a1)), (2, .int v2)]) hG dX6_understand_3 (by decide) rfl ?_
  refine jr_sub (lv' := [(0, .ref (E.B + a0)), (1, .ref (E.B + a1)), (2, .int v2), (3, .int (0 : Int32)), (4, .int (0 : Int32))]) [2, 3, 4, 1, 0] rfl ?_
  exact w_X6_understand_5 N hG hr hk N a0 a1 v2 (0 : Int32) (0 : Int32) ha0 ha1 (σ)
-- TonguesDealtModel.isSet(I)Z
abbrev rm_X6_isSet : Room := { frames := 1, cells := 0, slots := 0, locals := 22 }
theorem ci_X6_isSet : CIx yX6_isSet cX6_isSet 2 (some .boolean) 1 := ⟨wd_1186, wd_77, by decide +kernel⟩
def f_X6_isSet (N : Nat) (a0 : Nat) (v1 : Int32) (σ : Mm) : Option (Int32 × Mm) := if okO 6 a0 then (bI (f_X6_everybody N a0 (σ)) (fun r2 t1 => bI (f_X6_in N v1 (0 : Int32) r2 t1) (fun r4 t3 => if bz r4 then some (r4, t3) else none))) else none
set_option maxRecDepth 20000 in
theorem c_X6_isSet (l : Launch) (E : XE) (N : Nat) (a0 : Nat) (v1 : Int32) (σ : Mm) : ∀ r0, f_X6_isSet N a0 v1 σ = some r0 → Met l yX6_isSet [Cond.code yX6_isSet cX6_isSet 2 (some .boolean)] rm_X6_isSet (xPc E (NT + 0) σ [.ref (E.B + a0), .int v1]) (xQi E (NT + 0) r0) 0 0 (xA E) := by
  refine met_of (N0 := NT) (by decide +kernel) (Nat.le_of_ble_eq_true rfl) ?_
  intro p e s m args below meth c hG hr hk _
  show JR E NT 2 p l e rm_X6_isSet s m args below meth c 0 0 (fun r => MQ below (xQi E (NT + 0) r) args s 0 0 (xA E)) 0 [(0, .ref (E.B + a0)), (1, .int v1)] [] σ (if okO 6 a0 then (bI (f_X6_everybody N a0 (σ)) (fun r2 t1 => bI (f_X6_in N v1 (0 : Int32) r2 t1) (fun r4 t3 => if bz r4 then some (r4, t3) else none))) else none)
  refine jr_guard (fun ha0 => ?_)
  refine jr_iload_n hG 1 dX6_isSet_0 rfl rfl ?_
  refine jr_iconst (v := (0 : Int32)) hG dX6_isSet_1 (by decide) ?_
  refine jr_aload_n hG 0 dX6_isSet_2 rfl rfl ?_
  refine jr_callVi (As := []) hG (c_X6_everybody l E N a0 (σ)) ci_X6_everybody wd_1064 ⟨wd_1066, wd_46⟩ cl_6 (okO_s ha0) (okO_l ha0) ⟨rfl, rfl, Nat.le_of_ble_eq_true rfl, Nat.le_of_ble_eq_true rfl⟩ rfl rfl (Nat.le_of_ble_eq_true rfl) dX6_isSet_3 ⟨Nat.le_refl _, Nat.le_refl _⟩ (fun r2 t1 => ?_)
  refine jr_callSi (As := [.int v1, .int (0 : Int32), .int r2]) hG (c_X6_in l E N v1 (0 : Int32) r2 t1) ci_X6_in wd_847 wd_848 ⟨rfl, rfl, Nat.le_of_ble_eq_true rfl, Nat.le_of_ble_eq_true rfl⟩ rfl rfl (Nat.le_of_ble_eq_true rfl) dX6_isSet_6 ⟨Nat.le_refl _, Nat.le_refl _⟩ (fun r4 t3 => ?_)
  refine jr_guard (fun hz => ?_)
  exact jr_zret hG hr hk hz dX6_isSet_9
-- TonguesDealtModel.shouted(I)I
abbrev rm_X6_shouted : Room := { frames := 4, cells := 0, slots := 0, locals := 90 }
theorem ci_X6_shouted : CIx yX6_shouted cX6_shouted 4 (some .int) 1 := ⟨wd_1182, wd_77, by decide +kernel⟩
def f_X6_shouted_40 (N : Nat) (K14 : Nat → Int32 → Int32 → Int32 → Mm → Option (Int32 × Mm)) (a0 : Nat) (v1 : Int32) (v3 : Int32) (s0 : Int32) (s1 : Int32) (σ : Mm) : Option (Int32 × Mm) := lt (s1 ||| s0) (fun x6 => K14 a0 v1 x6 (v3 + (1 : Int32)) (σ))
set_option maxRecDepth 20000 in
theorem w_X6_shouted_40 {p : Program} {l : Launch} {e : Env} {s : State} {m : MethodId} {args : Array Value} {below : List Frame} {meth : Method} {c : Code} {E : XE} (N : Nat) (hG : GG E NT 4 RX6 cX6_shouted p s m args c) (hr : meth.sig.returnType = (some .int)) (hk : meth.locks = false) {K14 : Nat → Int32 → Int32 → Int32 → Mm → Option (Int32 × Mm)} (hK14 : ∀ (a0 : Nat) (v1 : Int32) (v2 : Int32) (v3 : Int32) (ha0 : okO 6 a0 = true) (σ : Mm), JR E NT 4 p l e rm_X6_shouted s m args below meth c 0 0 (fun r => MQ below (xQi E (NT + 0) r) args s 0 0 (xA E)) 14 [(0, .ref (E.B + a0)), (1, .int v1), (2, .int v2), (3, .int v3)] [] σ (K14 a0 v1 v2 v3 σ)) (a0 : Nat) (v1 : Int32) (v3 : Int32) (s0 : Int32) (s1 : Int32) (ha0 : okO 6 a0 = true) (σ : Mm) : JR E NT 4 p l e rm_X6_shouted s m args below meth c 0 0 (fun r => MQ below (xQi E (NT + 0) r) args s 0 0 (xA E)) 40 [(0, .ref (E.B + a0)), (1, .int v1), (3, .int v3)] [.int s0, .int s1] σ (f_X6_shouted_40 N K14 a0 v1 v3 s0 s1 σ) := by
  show JR E NT 4 p l e rm_X6_shouted s m args below meth c 0 0 (fun r => MQ below (xQi E (NT + 0) r) args s 0 0 (xA E)) 40 [(0, .ref (E.B + a0)), (1, .int v1), (3, .int v3)] [.int s0, .int s1] σ (lt (s1 ||| s0) (fun x6 => K14 a0 v1 x6 (v3 + (1 : Int32)) (σ)))
  refine jr_ior hG dX6_shouted_40 ?_
  refine jr_leti (fun x6 _ => ?_)
  refine jr_istore_n (lv' := [(2, .int x6), (0, .ref (E.B + a0)), (1, .int v1), (3, .int v3)]) hG dX6_shouted_41 rfl (by decide) rfl ?_
  refine jr_iinc (v := v3 + (1 : Int32)) (lv' := [(3, .int (v3 + (1 : Int32))), (2, .int x6), (0, .ref (E.B + a0)), (1, .int v1)]) hG 3 dX6_shouted_42 rfl rfl (by decide) rfl ?_
  refine jr_goto hG 14 dX6_shouted_45 (by decide) ?_
  refine jr_sub (lv' := [(0, .ref (E.B + a0)), (1, .int v1), (2, .int x6), (3, .int (v3 + (1 : Int32)))]) [2, 3, 1, 0] rfl ?_
  exact hK14 a0 v1 x6 (v3 + (1 : Int32)) ha0 (σ)
def f_X6_shouted_14 (N : Nat)  : Nat → Nat → Int32 → Int32 → Int32 → Mm → Option (Int32 × Mm)
  | 0 => fun _ _ _ _ _ => none
  | n + 1 => fun a0 v1 v2 v3 σ => if (4 : Int32) ≤ v3 then (some (v2, σ)) else (bR (gr σ a0 19) (okA 0) (fun o3 => bI (f_X6_understand N a0 o3 v3 (σ)) (fun r5 t4 => if r5 = v1 then (f_X6_shouted_40 N (f_X6_shouted_14 N n) a0 v1 v3 ((1 : Int32) <<< (v3 &&& 31)) v2 t4) else (f_X6_shouted_40 N (f_X6_shouted_14 N n) a0 v1 v3 (0 : Int32) v2 t4))))
set_option maxRecDepth 20000 in
theorem w_X6_shouted_14 {p : Program} {l : Launch} {e : Env} {s : State} {m : MethodId} {args : Array Value} {below : List Frame} {meth : Method} {c : Code} {E : XE} (N : Nat) (hG : GG E NT 4 RX6 cX6_shouted p s m args c) (hr : meth.sig.returnType = (some .int)) (hk : meth.locks = false)  : ∀ (n : Nat) (a0 : Nat) (v1 : Int32) (v2 : Int32) (v3 : Int32) (ha0 : okO 6 a0 = true) (σ : Mm), JR E NT 4 p l e rm_X6_shouted s m args below meth c 0 0 (fun r => MQ below (xQi E (NT + 0) r) args s 0 0 (xA E)) 14 [(0, .ref (E.B + a0)), (1, .int v1), (2, .int v2), (3, .int v3)] [] σ (f_X6_shouted_14 N n a0 v1 v2 v3 σ) := by
  intro n
  induction n with
  | zero => intro a0 v1 v2 v3 ha0 σ r hX; cases hX
  | succ n ih =>
    intro a0 v1 v2 v3 ha0 σ
    show JR E NT 4 p l e rm_X6_shouted s m args below meth c 0 0 (fun r => MQ below (xQi E (NT + 0) r) args s 0 0 (xA E)) 14 [(0, .ref (E.B + a0)), (1, .int v1), (2, .int v2), (3, .int v3)] [] σ (if (4 : Int32) ≤ v3 then (some (v2, σ)) else (bR (gr σ a0 19) (okA 0) (fun o3 => bI (f_X6_understand N a0 o3 v3 (σ)) (fun r5 t4 => if r5 = v1 then (f_X6_shouted_40 N (f_X6_shouted_14 N n) a0 v1 v3 ((1 : Int32) <<< (v3 &&& 31)) v2 t4) else (f_X6_shouted_40 N (f_X6_shouted_14 N n) a0 v1 v3 (0 : Int32) v2 t4)))))
    refine jr_iload_n hG 3 dX6_shouted_14 rfl rfl ?_
    refine jr_iconst (v := (4 : Int32)) hG dX6_shouted_15 (by decide) ?_
    refine jr_icmp_ge hG 48 dX6_shouted_16 (by decide) (fun _ => ?_) (fun _ => ?_)
    · refine jr_iload_n hG 2 dX6_shouted_48 rfl rfl ?_
      exact jr_iret hG hr hk dX6_shouted_49
    · refine jr_iload_n hG 2 dX6_shouted_19 rfl rfl ?_
      refine jr_aload_n hG 0 dX6_shouted_20 rfl rfl ?_
      refine jr_aload_n hG 0 dX6_shouted_21 rfl rfl ?_
      refine jr_getR hG fi_RX6_48 rfl (okO_s ha0) (okO_l ha0) dX6_shouted_22 (fun o3 ho3 => ?_)
      refine jr_iload_n hG 3 dX6_shouted_25 rfl rfl ?_
      refine jr_callVi (As := [.ref (E.B + o3), .int v3]) hG (c_X6_understand l E N a0 o3 v3 (σ)) ci_X6_understand wd_1187 ⟨wd_1189, wd_66⟩ cl_6 (okO_s ha0) (okO_l ha0) ⟨rfl, rfl, Nat.le_of_ble_eq_true rfl, Nat.le_of_ble_eq_true rfl⟩ rfl rfl (Nat.le_of_ble_eq_true rfl) dX6_shouted_26 ⟨Nat.le_refl _, Nat.le_refl _⟩ (fun r5 t4 => ?_)
      refine jr_iload_n hG 1 dX6_shouted_29 rfl rfl ?_
      refine jr_icmp_ne hG 39 dX6_shouted_30 (by decide) (fun _ => ?_) (fun _ => ?_)
      · refine jr_iconst (v := (0 : Int32)) hG dX6_shouted_39 (by decide) ?_
        refine jr_sub (lv' := [(0, .ref (E.B + a0)), (1, .int v1), (3, .int v3)]) [0, 1, 3] rfl ?_
        exact w_X6_shouted_40 N hG hr hk ih a0 v1 v3 (0 : Int32) v2 ha0 t4
      · refine jr_iconst (v := (1 : Int32)) hG dX6_shouted_33 (by decide) ?_
        refine jr_iload_n hG 3 dX6_shouted_34 rfl rfl ?_
        refine jr_ishl hG dX6_shouted_35 ?_
        refine jr_goto hG 40 dX6_shouted_36 (by decide) ?_
        refine jr_sub (lv' := [(0, .ref (E.B + a0)), (1, .int v1), (3, .int v3)]) [0, 1, 3] rfl ?_
        exact w_X6_shouted_40 N hG hr hk ih a0 v1 v3 ((1 : Int32) <<< (v3 &&& 31)) v2 ha0 t4
def f_X6_shouted (N : Nat) (a0 : Nat) (v1 : Int32) (σ : Mm) : Option (Int32 × Mm) := if okO 6 a0 then (bI (f_X6_isSet N a0 v1 (σ)) (fun r2 t1 => if r2 = 0 then (some ((-1 : Int32), t1)) else (f_X6_shouted_14 N N a0 v1 (0 : Int32) (0 : Int32) t1))) else none
set_option maxRecDepth 20000 in
theorem c_X6_shouted (l : Launch) (E : XE) (N : Nat) (a0 : Nat) (v1 : Int32) (σ : Mm) : ∀ r0, f_X6_shouted N a0 v1 σ = some r0 → Met l yX6_shouted [Cond.code yX6_shouted cX6_shouted 4 (some .int)] rm_X6_shouted (xPc E (NT + 0) σ [.ref (E.B + a0), .int v1]) (xQi E (NT + 0) r0) 0 0 (xA E) := by
  refine met_of (N0 := NT) (by decide +kernel) (Nat.le_of_ble_eq_true rfl) ?_
  intro p e s m args below meth c hG hr hk _
  show JR E NT 4 p l e rm_X6_shouted s m args below meth c 0 0 (fun r => MQ below (xQi E (NT + 0) r) args s 0 0 (xA E)) 0 [(0, .ref (E.B + a0)), (1, .int v1)] [] σ (if okO 6 a0 then (bI (f_X6_isSet N a0 v1 (σ)) (fun r2 t1 => if r2 = 0 then (some ((-1 : Int32), t1)) else (f_X6_shouted_14 N N a0 v1 (0 : Int32) (0 : Int32) t1))) else none)
  refine jr_guard (fun ha0 => ?_)
  refine jr_aload_n hG 0 dX6_shouted_0 rfl rfl ?_
  refine jr_iload_n hG 1 dX6_shouted_1 rfl rfl ?_
  refine jr_callVi (As := [.int v1]) hG (c_X6_isSet l E N a0 v1 (σ)) ci_X6_isSet wd_1183 ⟨wd_1185, wd_65⟩ cl_6 (okO_s ha0) (okO_l ha0) ⟨rfl, rfl, Nat.le_of_ble_eq_true rfl, Nat.le_of_ble_eq_true rfl⟩ rfl rfl (Nat.le_of_ble_eq_true rfl) dX6_shouted_2 ⟨Nat.le_refl _, Nat.le_refl _⟩ (fun r2 t1 => ?_)
  refine jr_if_ne hG 10 dX6_shouted_5 (by decide) (fun _ => ?_) (fun _ => ?_)
  · refine jr_iconst (v := (0 : Int32)) hG dX6_shouted_10 (by decide) ?_
    refine jr_istore_n (lv' := [(2, .int (0 : Int32)), (0, .ref (E.B + a0)), (1, .int v1)]) hG dX6_shouted_11 rfl (by decide) rfl ?_
    refine jr_iconst (v := (0 : Int32)) hG dX6_shouted_12 (by decide) ?_
    refine jr_istore_n (lv' := [(3, .int (0 : Int32)), (2, .int (0 : Int32)), (0, .ref (E.B + a0)), (1, .int v1)]) hG dX6_shouted_13 rfl (by decide) rfl ?_
    refine jr_sub (lv' := [(0, .ref (E.B + a0)), (1, .int v1), (2, .int (0 : Int32)), (3, .int (0 : Int32))]) [2, 3, 1, 0] rfl ?_
    exact w_X6_shouted_14 N hG hr hk N a0 v1 (0 : Int32) (0 : Int32) ha0 t1
  · refine jr_iconst (v := (-1 : Int32)) hG dX6_shouted_8 (by decide) ?_
    exact jr_iret hG hr hk dX6_shouted_9
-- TonguesDealtModel.calls(I)I
abbrev rm_X6_calls : Room := { frames := 4, cells := 0, slots := 0, locals := 90 }
theorem ci_X6_calls : CIx yX6_calls cX6_calls 7 (some .int) 1 := ⟨wd_1194, wd_77, by decide +kernel⟩
def f_X6_calls_197 (N : Nat) (K108 : Nat → Int32 → Int32 → Int32 → Mm → Option (Int32 × Mm)) (a0 : Nat) (v1 : Int32) (v4 : Int32) (s0 : Int32) (s1 : Int32) (σ : Mm) : Option (Int32 × Mm) := lt (s1 + s0) (fun x29 => K108 a0 v1 x29 (v4 + (1 : Int32)) (σ))
set_option maxRecDepth 20000 in
theorem w_X6_calls_197 {p : Program} {l : Launch} {e : Env} {s : State} {m : MethodId} {args : Array Value} {below : List Frame} {meth : Method} {c : Code} {E : XE} (N : Nat) (hG : GG E NT 7 RX6 cX6_calls p s m args c) (hr : meth.sig.returnType = (some .int)) (hk : meth.locks = false) {K108 : Nat → Int32 → Int32 → Int32 → Mm → Option (Int32 × Mm)} (hK108 : ∀ (a0 : Nat) (v1 : Int32) (v3 : Int32) (v4 : Int32) (ha0 : okO 6 a0 = true) (σ : Mm), JR E NT 7 p l e rm_X6_calls s m args below meth c 0 0 (fun r => MQ below (xQi E (NT + 0) r) args s 0 0 (xA E)) 108 [(0, .ref (E.B + a0)), (1, .int v1), (3, .int v3), (4, .int v4)] [] σ (K108 a0 v1 v3 v4 σ)) (a0 : Nat) (v1 : Int32) (v4 : Int32) (s0 : Int32) (s1 : Int32) (ha0 : okO 6 a0 = true) (σ : Mm) : JR E NT 7 p l e rm_X6_calls s m args below meth c 0 0 (fun r => MQ below (xQi E (NT + 0) r) args s 0 0 (xA E)) 197 [(0, .ref (E.B + a0)), (1, .int v1), (4, .int v4)] [.int s0, .int s1] σ (f_X6_calls_197 N K108 a0 v1 v4 s0 s1 σ) := by
  show JR E NT 7 p l e rm_X6_calls s m args below meth c 0 0 (fun r => MQ below (xQi E (NT + 0) r) args s 0 0 (xA E)) 197 [(0, .ref (E.B + a0)), (1, .int v1), (4, .int v4)] [.int s0, .int s1] σ (lt (s1 + s0) (fun x29 => K108 a0 v1 x29 (v4 + (1 : Int32)) (σ)))
  refine jr_iadd hG dX6_calls_197 ?_
  refine jr_leti (fun x29 _ => ?_)
  refine jr_istore_n (lv' := [(3, .int x29), (0, .ref (E.B + a0)), (1, .int v1), (4, .int v4)]) hG dX6_calls_198 rfl (by decide) rfl ?_
  refine jr_iinc (v := v4 + (1 : Int32)) (lv' := [(4, .int (v4 + (1 : Int32))), (3, .int x29), (0, .ref (E.B + a0)), (1, .int v1)]) hG 3 dX6_calls_199 rfl rfl (by decide) rfl ?_
  refine jr_goto hG 108 dX6_calls_202 (by decide) ?_
  refine jr_sub (lv' := [(0, .ref (E.B + a0)), (1, .int v1), (3, .int x29), (4, .int (v4 + (1 : Int32)))]) [2, 3, 1, 0] rfl ?_
  exact hK108 a0 v1 x29 (v4 + (1 : Int32)) ha0 (σ)
def f_X6_calls_178 (N : Nat) (K108 : Nat → Int32 → Int32 → Int32 → Mm → Option (Int32 × Mm)) (K137 : Nat → Int32 → Int32 → Int32 → Int32 → Int32 → Mm → Option (Int32 × Mm)) (a0 : Nat) (v1 : Int32) (v3 : Int32) (v4 : Int32) (v6 : Int32) (s0 : Int32) (σ : Mm) : Option (Int32 × Mm) := K137 a0 v1 v3 v4 s0 (v6 + (1 : Int32)) (σ)
set_option maxRecDepth 20000 in
theorem w_X6_calls_178 {p : Program} {l : Launch} {e : Env} {s : State} {m : MethodId} {args : Array Value} {below : List Frame} {meth : Method} {c : Code} {E : XE} (N : Nat) (hG : GG E NT 7 RX6 cX6_calls p s m args c) (hr : meth.sig.returnType = (some .int)) (hk : meth.locks = false) {K108 : Nat → Int32 → Int32 → Int32 → Mm → Option (Int32 × Mm)} (hK108 : ∀ (a0 : Nat) (v1 : Int32) (v3 : Int32) (v4 : Int32) (ha0 : okO 6 a0 = true) (σ : Mm), JR E NT 7 p l e rm_X6_calls s m args below meth c 0 0 (fun r => MQ below (xQi E (NT + 0) r) args s 0 0 (xA E)) 108 [(0, .ref (E.B + a0)), (1, .int v1), (3, .int v3), (4, .int v4)] [] σ (K108 a0 v1 v3 v4 σ)) {K137 : Nat → Int32 → Int32 → Int32 → Int32 → Int32 → Mm → Option (Int32 × Mm)} (hK137 : ∀ (a0 : Nat) (v1 : Int32) (v3 : Int32) (v4 : Int32) (v5 : Int32) (v6 : Int32) (ha0 : okO 6 a0 = true) (σ : Mm), JR E NT 7 p l e rm_X6_calls s m args below meth c 0 0 (fun r => MQ below (xQi E (NT + 0) r) args s 0 0 (xA E)) 137 [(0, .ref (E.B + a0)), (1, .int v1), (3, .int v3), (4, .int v4), (5, .int v5), (6, .int v6)] [] σ (K137 a0 v1 v3 v4 v5 v6 σ)) (a0 : Nat) (v1 : Int32) (v3 : Int32) (v4 : Int32) (v6 : Int32) (s0 : Int32) (ha0 : okO 6 a0 = true) (σ : Mm) : JR E NT 7 p l e rm_X6_calls s m args below meth c 0 0 (fun r => MQ below (xQi E (NT + 0) r) args s 0 0 (xA E)) 178 [(0, .ref (E.B + a0)), (1, .int v1), (3, .int v3), (4, .int v4), (6, .int v6)] [.int s0] σ (f_X6_calls_178 N K108 K137 a0 v1 v3 v4 v6 s0 σ) := by
  show JR E NT 7 p l e rm_X6_calls s m args below meth c 0 0 (fun r => MQ below (xQi E (NT + 0) r) args s 0 0 (xA E)) 178 [(0, .ref (E.B + a0)), (1, .int v1), (3, .int v3), (4, .int v4), (6, .int v6)] [.int s0] σ (K137 a0 v1 v3 v4 s0 (v6 + (1 : Int32)) (σ))
  refine jr_istore (lv' := [(5, .int s0), (0, .ref (E.B + a0)), (1, .int v1), (3, .int v3), (4, .int v4), (6, .int v6)]) hG dX6_calls_178 (by decide) rfl ?_
  refine jr_iinc (v := v6 + (1 : Int32)) (lv' := [(6, .int (v6 + (1 : Int32))), (5, .int s0), (0, .ref (E.B + a0)), (1, .int v1), (3, .int v3), (4, .int v4)]) hG 5 dX6_calls_180 rfl rfl (by decide) rfl ?_
  refine jr_goto hG 137 dX6_calls_183 (by decide) ?_
  refine jr_sub (lv' := [(0, .ref (E.B + a0)), (1, .int v1), (3, .int v3), (4, .int v4), (5, .int s0), (6, .int (v6 + (1 : Int32)))]) [2, 3, 4, 5, 1, 0] rfl ?_
  exact hK137 a0 v1 v3 v4 s0 (v6 + (1 : Int32)) ha0 (σ)
def f_X6_calls_177 (N : Nat) (K108 : Nat → Int32 → Int32 → Int32 → Mm → Option (Int32 × Mm)) (K137 : Nat → Int32 → Int32 → Int32 → Int32 → Int32 → Mm → Option (Int32 × Mm)) (a0 : Nat) (v1 : Int32) (v3 : Int32) (v4 : Int32) (v6 : Int32) (σ : Mm) : Option (Int32 × Mm) := f_X6_calls_178 N K108 K137 a0 v1 v3 v4 v6 (0 : Int32) (σ)
set_option maxRecDepth 20000 in
theorem w_X6_calls_177 {p : Program} {l : Launch} {e : Env} {s : State} {m : MethodId} {args : Array Value} {below : List Frame} {meth : Method} {c : Code} {E : XE} (N : Nat) (hG : GG E NT 7 RX6 cX6_calls p s m args c) (hr : meth.sig.returnType = (some .int)) (hk : meth.locks = false) {K108 : Nat → Int32 → Int32 → Int32 → Mm → Option (Int32 × Mm)} (hK108 : ∀ (a0 : Nat) (v1 : Int32) (v3 : Int32) (v4 : Int32) (ha0 : okO 6 a0 = true) (σ : Mm), JR E NT 7 p l e rm_X6_calls s m args below meth c 0 0 (fun r => MQ below (xQi E (NT + 0) r) args s 0 0 (xA E)) 108 [(0, .ref (E.B + a0)), (1, .int v1), (3, .int v3), (4, .int v4)] [] σ (K108 a0 v1 v3 v4 σ)) {K137 : Nat → Int32 → Int32 → Int32 → Int32 → Int32 → Mm → Option (Int32 × Mm)} (hK137 : ∀ (a0 : Nat) (v1 : Int32) (v3 : Int32) (v4 : Int32) (v5 : Int32) (v6 : Int32) (ha0 : okO 6 a0 = true) (σ : Mm), JR E NT 7 p l e rm_X6_calls s m args below meth c 0 0 (fun r => MQ below (xQi E (NT + 0) r) args s 0 0 (xA E)) 137 [(0, .ref (E.B + a0)), (1, .int v1), (3, .int v3), (4, .int v4), (5, .int v5), (6, .int v6)] [] σ (K137 a0 v1 v3 v4 v5 v6 σ)) (a0 : Nat) (v1 : Int32) (v3 : Int32) (v4 : Int32) (v6 : Int32) (ha0 : okO 6 a0 = true) (σ : Mm) : JR E NT 7 p l e rm_X6_calls s m args below meth c 0 0 (fun r => MQ below (xQi E (NT + 0) r) args s 0 0 (xA E)) 177 [(0, .ref (E.B + a0)), (1, .int v1), (3, .int v3), (4, .int v4), (6, .int v6)] [] σ (f_X6_calls_177 N K108 K137 a0 v1 v3 v4 v6 σ) := by
  show JR E NT 7 p l e rm_X6_calls s m args below meth c 0 0 (fun r => MQ below (xQi E (NT + 0) r) args s 0 0 (xA E)) 177 [(0, .ref (E.B + a0)), (1, .int v1), (3, .int v3), (4, .int v4), (6, .int v6)] [] σ (f_X6_calls_178 N K108 K137 a0 v1 v3 v4 v6 (0 : Int32) (σ))
  refine jr_iconst (v := (0 : Int32)) hG dX6_calls_177 (by decide) ?_
  exact w_X6_calls_178 N hG hr hk hK108 hK137 a0 v1 v3 v4 v6 (0 : Int32) ha0 (σ)
def f_X6_calls_137 (N : Nat) (K108 : Nat → Int32 → Int32 → Int32 → Mm → Option (Int32 × Mm)) : Nat → Nat → Int32 → Int32 → Int32 → Int32 → Int32 → Mm → Option (Int32 × Mm)
  | 0 => fun _ _ _ _ _ _ _ => none
  | n + 1 => fun a0 v1 v3 v4 v5 v6 σ => bR (gr σ a0 5) (okA 0) (fun o23 => if inb v1 (arL o23) then (if (gi σ o23 (ix v1)) ≤ v6 then (if v5 = 0 then (f_X6_calls_197 N K108 a0 v1 v4 (0 : Int32) v3 (σ)) else (f_X6_calls_197 N K108 a0 v1 v4 (1 : Int32) v3 (σ))) else (if v5 = 0 then (f_X6_calls_177 N K108 (f_X6_calls_137 N K108 n) a0 v1 v3 v4 v6 (σ)) else (bR (gr σ a0 20) (okA 0) (fun o24 => bI (f_X6_understand N a0 o24 v6 (σ)) (fun r26 t25 => bI (f_X6_rowAt N a0 v1 v6 t25) (fun r28 t27 => if r26 = r28 then (f_X6_calls_178 N K108 (f_X6_calls_137 N K108 n) a0 v1 v3 v4 v6 (1 : Int32) t27) else (f_X6_calls_177 N K108 (f_X6_calls_137 N K108 n) a0 v1 v3 v4 v6 t27))))))) else none)
set_option maxRecDepth 20000 in
theorem w_X6_calls_137 {p : Program} {l : Launch} {e : Env} {s : State} {m : MethodId} {args : Array Value} {below : List Frame} {meth : Method} {c : Code} {E : XE} (N : Nat) (hG : GG E NT 7 RX6 cX6_calls p s m args c) (hr : meth.sig.returnType = (some .int)) (hk : meth.locks = false) {K108 : Nat → Int32 → Int32 → Int32 → Mm → Option (Int32 × Mm)} (hK108 : ∀ (a0 : Nat) (v1 : Int32) (v3 : Int32) (v4 : Int32) (ha0 : okO 6 a0 = true) (σ : Mm), JR E NT 7 p l e rm_X6_calls s m args below meth c 0 0 (fun r => MQ below (xQi E (NT + 0) r) args s 0 0 (xA E)) 108 [(0, .ref (E.B + a0)), (1, .int v1), (3, .int v3), (4, .int v4)] [] σ (K108 a0 v1 v3 v4 σ)) : ∀ (n : Nat) (a0 : Nat) (v1 : Int32) (v3 : Int32) (v4 : Int32) (v5 : Int32) (v6 : Int32) (ha0 : okO 6 a0 = true) (σ : Mm), JR E NT 7 p l e rm_X6_calls s m args below meth c 0 0 (fun r => MQ below (xQi E (NT + 0) r) args s 0 0 (xA E)) 137 [(0, .ref (E.B + a0)), (1, .int v1), (3, .int v3), (4, .int v4), (5, .int v5), (6, .int v6)] [] σ (f_X6_calls_137 N K108 n a0 v1 v3 v4 v5 v6 σ) := by
  intro n
  induction n with
  | zero => intro a0 v1 v3 v4 v5 v6 ha0 σ r hX; cases hX
  | succ n ih =>
    intro a0 v1 v3 v4 v5 v6 ha0 σ
    show JR E NT 7 p l e rm_X6_calls s m args below meth c 0 0 (fun r => MQ below (xQi E (NT + 0) r) args s 0 0 (xA E)) 137 [(0, .ref (E.B + a0)), (1, .int v1), (3, .int v3), (4, .int v4), (5, .int v5), (6, .int v6)] [] σ (bR (gr σ a0 5) (okA 0) (fun o23 => if inb v1 (arL o23) then (if (gi σ o23 (ix v1)) ≤ v6 then (if v5 = 0 then (f_X6_calls_197 N K108 a0 v1 v4 (0 : Int32) v3 (σ)) else (f_X6_calls_197 N K108 a0 v1 v4 (1 : Int32) v3 (σ))) else (if v5 = 0 then (f_X6_calls_177 N K108 (f_X6_calls_137 N K108 n) a0 v1 v3 v4 v6 (σ)) else (bR (gr σ a0 20) (okA 0) (fun o24 => bI (f_X6_understand N a0 o24 v6 (σ)) (fun r26 t25 => bI (f_X6_rowAt N a0 v1 v6 t25) (fun r28 t27 => if r26 = r28 then (f_X6_calls_178 N K108 (f_X6_calls_137 N K108 n) a0 v1 v3 v4 v6 (1 : Int32) t27) else (f_X6_calls_177 N K108 (f_X6_calls_137 N K108 n) a0 v1 v3 v4 v6 t27))))))) else none))
    refine jr_iload hG 5 dX6_calls_137 rfl ?_
    refine jr_aload_n hG 0 dX6_calls_139 rfl rfl ?_
    refine jr_getR hG fi_RX6_17 rfl (okO_s ha0) (okO_l ha0) dX6_calls_140 (fun o23 ho23 => ?_)
    refine jr_iload_n hG 1 dX6_calls_143 rfl rfl ?_
    refine jr_iald hG (okA_s (by decide) ho23) (okA_l ho23) dX6_calls_144 ?_
    refine jr_icmp_ge hG 186 dX6_calls_145 (by decide) (fun _ => ?_) (fun _ => ?_)
    · refine jr_iload_n hG 2 dX6_calls_186 rfl rfl ?_
      refine jr_iload hG 4 dX6_calls_187 rfl ?_
      refine jr_if_eq hG 196 dX6_calls_189 (by decide) (fun _ => ?_) (fun _ => ?_)
      · refine jr_iconst (v := (0 : Int32)) hG dX6_calls_196 (by decide) ?_
        refine jr_sub (lv' := [(0, .ref (E.B + a0)), (1, .int v1), (4, .int v4)]) [0, 1, 3] rfl ?_
        exact w_X6_calls_197 N hG hr hk hK108 a0 v1 v4 (0 : Int32) v3 ha0 (σ)
      · refine jr_iconst (v := (1 : Int32)) hG dX6_calls_192 (by decide) ?_
        refine jr_goto hG 197 dX6_calls_193 (by decide) ?_
        refine jr_sub (lv' := [(0, .ref (E.B + a0)), (1, .int v1), (4, .int v4)]) [0, 1, 3] rfl ?_
        exact w_X6_calls_197 N hG hr hk hK108 a0 v1 v4 (1 : Int32) v3 ha0 (σ)
    · refine jr_iload hG 4 dX6_calls_148 rfl ?_
      refine jr_if_eq hG 177 dX6_calls_150 (by decide) (fun _ => ?_) (fun _ => ?_)
      · refine jr_sub (lv' := [(0, .ref (E.B + a0)), (1, .int v1), (3, .int v3), (4, .int v4), (6, .int v6)]) [0, 1, 2, 3, 5] rfl ?_
        exact w_X6_calls_177 N hG hr hk hK108 ih a0 v1 v3 v4 v6 ha0 (σ)
      · refine jr_aload_n hG 0 dX6_calls_153 rfl rfl ?_
        refine jr_aload_n hG 0 dX6_calls_154 rfl rfl ?_
        refine jr_getR hG fi_RX6_51 rfl (okO_s ha0) (okO_l ha0) dX6_calls_155 (fun o24 ho24 => ?_)
        refine jr_iload hG 5 dX6_calls_158 rfl ?_
        refine jr_callVi (As := [.ref (E.B + o24), .int v6]) hG (c_X6_understand l E N a0 o24 v6 (σ)) ci_X6_understand wd_1187 ⟨wd_1189, wd_66⟩ cl_6 (okO_s ha0) (okO_l ha0) ⟨rfl, rfl, Nat.le_of_ble_eq_true rfl, Nat.le_of_ble_eq_true rfl⟩ rfl rfl (Nat.le_of_ble_eq_true rfl) dX6_calls_160 ⟨Nat.le_refl _, Nat.le_refl _⟩ (fun r26 t25 => ?_)
        refine jr_aload_n hG 0 dX6_calls_163 rfl rfl ?_
        refine jr_iload_n hG 1 dX6_calls_164 rfl rfl ?_
        refine jr_iload hG 5 dX6_calls_165 rfl ?_
        refine jr_callVi (As := [.int v1, .int v6]) hG (c_X6_rowAt l E N a0 v1 v6 t25) ci_X6_rowAt wd_877 ⟨wd_879, wd_22⟩ cl_6 (okO_s ha0) (okO_l ha0) ⟨rfl, rfl, Nat.le_of_ble_eq_true rfl, Nat.le_of_ble_eq_true rfl⟩ rfl rfl (Nat.le_of_ble_eq_true rfl) dX6_calls_167 ⟨Nat.le_refl _, Nat.le_refl _⟩ (fun r28 t27 => ?_)
        refine jr_icmp_ne hG 177 dX6_calls_170 (by decide) (fun _ => ?_) (fun _ => ?_)
        · refine jr_sub (lv' := [(0, .ref (E.B + a0)), (1, .int v1), (3, .int v3), (4, .int v4), (6, .int v6)]) [0, 1, 2, 3, 5] rfl ?_
          exact w_X6_calls_177 N hG hr hk hK108 ih a0 v1 v3 v4 v6 ha0 t27
        · refine jr_iconst (v := (1 : Int32)) hG dX6_calls_173 (by decide) ?_
          refine jr_goto hG 178 dX6_calls_174 (by decide) ?_
          refine jr_sub (lv' := [(0, .ref (E.B + a0)), (1, .int v1), (3, .int v3), (4, .int v4), (6, .int v6)]) [0, 1, 2, 3, 5] rfl ?_
          exact w_X6_calls_178 N hG hr hk hK108 ih a0 v1 v3 v4 v6 (1 : Int32) ha0 t27
def f_X6_calls_108 (N : Nat)  : Nat → Nat → Int32 → Int32 → Int32 → Mm → Option (Int32 × Mm)
  | 0 => fun _ _ _ _ _ => none
  | n + 1 => fun a0 v1 v3 v4 σ => bI (f_X6_dealMany N a0 (σ)) (fun r17 t16 => if r17 ≤ v4 then (bI (f_X6_fraction N a0 v3 (1 : Int32) t16) (fun r19 t18 => some (r19, t18))) else (bV (f_X6_deals N a0 v4 t16) (fun t20 => bR (gr t20 a0 20) (okA 0) (fun o21 => if inb (13 : Int32) (arL o21) then (lt (si t20 o21 (ix (13 : Int32)) (0 : Int32)) (fun t22 => f_X6_calls_137 N (f_X6_calls_108 N n) N a0 v1 v3 v4 (1 : Int32) (0 : Int32) t22)) else none))))
set_option maxRecDepth 20000 in
theorem w_X6_calls_108 {p : Program} {l : Launch} {e : Env} {s : State} {m : MethodId} {args : Array Value} {below : List Frame} {meth : Method} {c : Code} {E : XE} (N : Nat) (hG : GG E NT 7 RX6 cX6_calls p s m args c) (hr : meth.sig.returnType = (some .int)) (hk : meth.locks = false)  : ∀ (n : Nat) (a0 : Nat) (v1 : Int32) (v3 : Int32) (v4 : Int32) (ha0 : okO 6 a0 = true) (σ : Mm), JR E NT 7 p l e rm_X6_calls s m args below meth c 0 0 (fun r => MQ below (xQi E (NT + 0) r) args s 0 0 (xA E)) 108 [(0, .ref (E.B + a0)), (1, .int v1), (3, .int v3), (4, .int v4)] [] σ (f_X6_calls_108 N n a0 v1 v3 v4 σ) := by
  intro n
  induction n with
  | zero => intro a0 v1 v3 v4 ha0 σ r hX; cases hX
  | succ n ih =>
    intro a0 v1 v3 v4 ha0 σ
    show JR E NT 7 p l e rm_X6_calls s m args below meth c 0 0 (fun r => MQ below (xQi E (NT + 0) r) args s 0 0 (xA E)) 108 [(0, .ref (E.B + a0)), (1, .int v1), (3, .int v3), (4, .int v4)] [] σ (bI (f_X6_dealMany N a0 (σ)) (fun r17 t16 => if r17 ≤ v4 then (bI (f_X6_fraction N a0 v3 (1 : Int32) t16) (fun r19 t18 => some (r19, t18))) else (bV (f_X6_deals N a0 v4 t16) (fun t20 => bR (gr t20 a0 20) (okA 0) (fun o21 => if inb (13 : Int32) (arL o21) then (lt (si t20 o21 (ix (13 : Int32)) (0 : Int32)) (fun t22 => f_X6_calls_137 N (f_X6_calls_108 N n) N a0 v1 v3 v4 (1 : Int32) (0 : Int32) t22)) else none)))))
    refine jr_iload hG 3 dX6_calls_108 rfl ?_
    refine jr_aload_n hG 0 dX6_calls_110 rfl rfl ?_
    refine jr_callVi (As := []) hG (c_X6_dealMany l E N a0 (σ)) ci_X6_dealMany wd_1096 ⟨wd_1098, wd_50⟩ cl_6 (okO_s ha0) (okO_l ha0) ⟨rfl, rfl, Nat.le_of_ble_eq_true rfl, Nat.le_of_ble_eq_true rfl⟩ rfl rfl (Nat.le_of_ble_eq_true rfl) dX6_calls_111 ⟨Nat.le_refl _, Nat.le_refl _⟩ (fun r17 t16 => ?_)
    refine jr_icmp_ge hG 205 dX6_calls_114 (by decide) (fun _ => ?_) (fun _ => ?_)
    · refine jr_aload_n hG 0 dX6_calls_205 rfl rfl ?_
      refine jr_iload_n hG 2 dX6_calls_206 rfl rfl ?_
      refine jr_iconst (v := (1 : Int32)) hG dX6_calls_207 (by decide) ?_
      refine jr_callVi (As := [.int v3, .int (1 : Int32)]) hG (c_X6_fraction l E N a0 v3 (1 : Int32) t16) ci_X6_fraction wd_1144 ⟨wd_1146, wd_61⟩ cl_6 (okO_s ha0) (okO_l ha0) ⟨rfl, rfl, Nat.le_of_ble_eq_true rfl, Nat.le_of_ble_eq_true rfl⟩ rfl rfl (Nat.le_of_ble_eq_true rfl) dX6_calls_208 ⟨Nat.le_refl _, Nat.le_refl _⟩ (fun r19 t18 => ?_)
      exact jr_iret hG hr hk dX6_calls_211
    · refine jr_aload_n hG 0 dX6_calls_117 rfl rfl ?_
      refine jr_iload hG 3 dX6_calls_118 rfl ?_
      refine jr_callVv (As := [.int v4]) hG (c_X6_deals l E N a0 v4 t16) ci_X6_deals wd_1104 ⟨wd_1106, wd_52⟩ cl_6 (okO_s ha0) (okO_l ha0) ⟨rfl, rfl, Nat.le_of_ble_eq_true rfl, Nat.le_of_ble_eq_true rfl⟩ rfl rfl (Nat.le_of_ble_eq_true rfl) dX6_calls_120 ⟨Nat.le_refl _, Nat.le_refl _⟩ (fun t20 => ?_)
      refine jr_aload_n hG 0 dX6_calls_123 rfl rfl ?_
      refine jr_getR hG fi_RX6_51 rfl (okO_s ha0) (okO_l ha0) dX6_calls_124 (fun o21 ho21 => ?_)
      refine jr_bipush (v := (13 : Int32)) hG dX6_calls_127 (by decide) ?_
      refine jr_iconst (v := (0 : Int32)) hG dX6_calls_129 (by decide) ?_
      refine jr_iast hG (okA_s (by decide) ho21) (okA_l ho21) dX6_calls_130 ?_
      refine jr_lets (fun t22 _ => ?_)
      refine jr_iconst (v := (1 : Int32)) hG dX6_calls_131 (by decide) ?_
      refine jr_istore (lv' := [(5, .int (1 : Int32)), (0, .ref (E.B + a0)), (1, .int v1), (3, .int v3), (4, .int v4)]) hG dX6_calls_132 (by decide) rfl ?_
      refine jr_iconst (v := (0 : Int32)) hG dX6_calls_134 (by decide) ?_
      refine jr_istore (lv' := [(6, .int (0 : Int32)), (5, .int (1 : Int32)), (0, .ref (E.B + a0)), (1, .int v1), (3, .int v3), (4, .int v4)]) hG dX6_calls_135 (by decide) rfl ?_
      refine jr_sub (lv' := [(0, .ref (E.B + a0)), (1, .int v1), (3, .int v3), (4, .int v4), (5, .int (1 : Int32)), (6, .int (0 : Int32))]) [2, 3, 4, 5, 1, 0] rfl ?_
      exact w_X6_calls_137 N hG hr hk ih N a0 v1 v3 v4 (1 : Int32) (0 : Int32) ha0 t22
def f_X6_calls_86 (N : Nat) (K54 : Nat → Int32 → Int32 → Int32 → Mm → Option (Int32 × Mm)) (a0 : Nat) (v1 : Int32) (v3 : Int32) (s0 : Int32) (σ : Mm) : Option (Int32 × Mm) := K54 a0 v1 s0 (v3 + (1 : Int32)) (σ)
set_option maxRecDepth 20000 in
theorem w_X6_calls_86 {p : Program} {l : Launch} {e : Env} {s : State} {m : MethodId} {args : Array Value} {below : List Frame} {meth : Method} {c : Code} {E : XE} (N : Nat) (hG : GG E NT 7 RX6 cX6_calls p s m args c) (hr : meth.sig.returnType = (some .int)) (hk : meth.locks = false) {K54 : Nat → Int32 → Int32 → Int32 → Mm → Option (Int32 × Mm)} (hK54 : ∀ (a0 : Nat) (v1 : Int32) (v2 : Int32) (v3 : Int32) (ha0 : okO 6 a0 = true) (σ : Mm), JR E NT 7 p l e rm_X6_calls s m args below meth c 0 0 (fun r => MQ below (xQi E (NT + 0) r) args s 0 0 (xA E)) 54 [(0, .ref (E.B + a0)), (1, .int v1), (2, .int v2), (3, .int v3)] [] σ (K54 a0 v1 v2 v3 σ)) (a0 : Nat) (v1 : Int32) (v3 : Int32) (s0 : Int32) (ha0 : okO 6 a0 = true) (σ : Mm) : JR E NT 7 p l e rm_X6_calls s m args below meth c 0 0 (fun r => MQ below (xQi E (NT + 0) r) args s 0 0 (xA E)) 86 [(0, .ref (E.B + a0)), (1, .int v1), (3, .int v3)] [.int s0] σ (f_X6_calls_86 N K54 a0 v1 v3 s0 σ) := by
  show JR E NT 7 p l e rm_X6_calls s m args below meth c 0 0 (fun r => MQ below (xQi E (NT + 0) r) args s 0 0 (xA E)) 86 [(0, .ref (E.B + a0)), (1, .int v1), (3, .int v3)] [.int s0] σ (K54 a0 v1 s0 (v3 + (1 : Int32)) (σ))
  refine jr_istore_n (lv' := [(2, .int s0), (0, .ref (E.B + a0)), (1, .int v1), (3, .int v3)]) hG dX6_calls_86 rfl (by decide) rfl ?_
  refine jr_iinc (v := v3 + (1 : Int32)) (lv' := [(3, .int (v3 + (1 : Int32))), (2, .int s0), (0, .ref (E.B + a0)), (1, .int v1)]) hG 3 dX6_calls_87 rfl rfl (by decide) rfl ?_
  refine jr_goto hG 54 dX6_calls_90 (by decide) ?_
  refine jr_sub (lv' := [(0, .ref (E.B + a0)), (1, .int v1), (2, .int s0), (3, .int (v3 + (1 : Int32)))]) [2, 3, 1, 0] rfl ?_
  exact hK54 a0 v1 s0 (v3 + (1 : Int32)) ha0 (σ)
def f_X6_calls_85 (N : Nat) (K54 : Nat → Int32 → Int32 → Int32 → Mm → Option (Int32 × Mm)) (a0 : Nat) (v1 : Int32) (v3 : Int32) (σ : Mm) : Option (Int32 × Mm) := f_X6_calls_86 N K54 a0 v1 v3 (0 : Int32) (σ)
set_option maxRecDepth 20000 in
theorem w_X6_calls_85 {p : Program} {l : Launch} {e : Env} {s : State} {m : MethodId} {args : Array Value} {below : List Frame} {meth : Method} {c : Code} {E : XE} (N : Nat) (hG : GG E NT 7 RX6 cX6_calls p s m args c) (hr : meth.sig.returnType = (some .int)) (hk : meth.locks = false) {K54 : Nat → Int32 → Int32 → Int32 → Mm → Option (Int32 × Mm)} (hK54 : ∀ (a0 : Nat) (v1 : Int32) (v2 : Int32) (v3 : Int32) (ha0 : okO 6 a0 = true) (σ : Mm), JR E NT 7 p l e rm_X6_calls s m args below meth c 0 0 (fun r => MQ below (xQi E (NT + 0) r) args s 0 0 (xA E)) 54 [(0, .ref (E.B + a0)), (1, .int v1), (2, .int v2), (3, .int v3)] [] σ (K54 a0 v1 v2 v3 σ)) (a0 : Nat) (v1 : Int32) (v3 : Int32) (ha0 : okO 6 a0 = true) (σ : Mm) : JR E NT 7 p l e rm_X6_calls s m args below meth c 0 0 (fun r => MQ below (xQi E (NT + 0) r) args s 0 0 (xA E)) 85 [(0, .ref (E.B + a0)), (1, .int v1), (3, .int v3)] [] σ (f_X6_calls_85 N K54 a0 v1 v3 σ) := by
  show JR E NT 7 p l e rm_X6_calls s m args below meth c 0 0 (fun r => MQ below (xQi E (NT + 0) r) args s 0 0 (xA E)) 85 [(0, .ref (E.B + a0)), (1, .int v1), (3, .int v3)] [] σ (f_X6_calls_86 N K54 a0 v1 v3 (0 : Int32) (σ))
  refine jr_iconst (v := (0 : Int32)) hG dX6_calls_85 (by decide) ?_
  exact w_X6_calls_86 N hG hr hk hK54 a0 v1 v3 (0 : Int32) ha0 (σ)
def f_X6_calls_54 (N : Nat)  : Nat → Nat → Int32 → Int32 → Int32 → Mm → Option (Int32 × Mm)
  | 0 => fun _ _ _ _ _ => none
  | n + 1 => fun a0 v1 v2 v3 σ => bR (gr σ a0 5) (okA 0) (fun o9 => if inb v1 (arL o9) then (if (gi σ o9 (ix v1)) ≤ v3 then (if v2 = 0 then (bI (f_X6_meets N a0 (3 : Int32) (σ)) (fun r11 t10 => some (r11, t10))) else (f_X6_calls_108 N N a0 v1 (0 : Int32) (0 : Int32) (σ))) else (if v2 = 0 then (f_X6_calls_85 N (f_X6_calls_54 N n) a0 v1 v3 (σ)) else (bI (f_X6_rowAt N a0 v1 v3 (σ)) (fun r13 t12 => bI (f_X6_isSet N a0 r13 t12) (fun r15 t14 => if r15 = 0 then (f_X6_calls_85 N (f_X6_calls_54 N n) a0 v1 v3 t14) else (f_X6_calls_86 N (f_X6_calls_54 N n) a0 v1 v3 (1 : Int32) t14)))))) else none)
set_option maxRecDepth 20000 in
theorem w_X6_calls_54 {p : Program} {l : Launch} {e : Env} {s : State} {m : MethodId} {args : Array Value} {below : List Frame} {meth : Method} {c : Code} {E : XE} (N : Nat) (hG : GG E NT 7 RX6 cX6_calls p s m args c) (hr : meth.sig.returnType = (some .int)) (hk : meth.locks = false)  : ∀ (n : Nat) (a0 : Nat) (v1 : Int32) (v2 : Int32) (v3 : Int32) (ha0 : okO 6 a0 = true) (σ : Mm), JR E NT 7 p l e rm_X6_calls s m args below meth c 0 0 (fun r => MQ below (xQi E (NT + 0) r) args s 0 0 (xA E)) 54 [(0, .ref (E.B + a0)), (1, .int v1), (2, .int v2), (3, .int v3)] [] σ (f_X6_calls_54 N n a0 v1 v2 v3 σ) := by
  intro n
  induction n with
  | zero => intro a0 v1 v2 v3 ha0 σ r hX; cases hX
  | succ n ih =>
    intro a0 v1 v2 v3 ha0 σ
    show JR E NT 7 p l e rm_X6_calls s m args below meth c 0 0 (fun r => MQ below (xQi E (NT + 0) r) args s 0 0 (xA E)) 54 [(0, .ref (E.B + a0)), (1, .int v1), (2, .int v2), (3, .int v3)] [] σ (bR (gr σ a0 5) (okA 0) (fun o9 => if inb v1 (arL o9) then (if (gi σ o9 (ix v1)) ≤ v3 then (if v2 = 0 then (bI (f_X6_meets N a0 (3 : Int32) (σ)) (fun r11 t10 => some (r11, t10))) else (f_X6_calls_108 N N a0 v1 (0 : Int32) (0 : Int32) (σ))) else (if v2 = 0 then (f_X6_calls_85 N (f_X6_calls_54 N n) a0 v1 v3 (σ)) else (bI (f_X6_rowAt N a0 v1 v3 (σ)) (fun r13 t12 => bI (f_X6_isSet N a0 r13 t12) (fun r15 t14 => if r15 = 0 then (f_X6_calls_85 N (f_X6_calls_54 N n) a0 v1 v3 t14) else (f_X6_calls_86 N (f_X6_calls_54 N n) a0 v1 v3 (1 : Int32) t14)))))) else none))
    refine jr_iload_n hG 3 dX6_calls_54 rfl rfl ?_
    refine jr_aload_n hG 0 dX6_calls_55 rfl rfl ?_
    refine jr_getR hG fi_RX6_17 rfl (okO_s ha0) (okO_l ha0) dX6_calls_56 (fun o9 ho9 => ?_)
    refine jr_iload_n hG 1 dX6_calls_59 rfl rfl ?_
    refine jr_iald hG (okA_s (by decide) ho9) (okA_l ho9) dX6_calls_60 ?_
    refine jr_icmp_ge hG 93 dX6_calls_61 (by decide) (fun _ => ?_) (fun _ => ?_)
    · refine jr_iload_n hG 2 dX6_calls_93 rfl rfl ?_
      refine jr_if_ne hG 103 dX6_calls_94 (by decide) (fun _ => ?_) (fun _ => ?_)
      · refine jr_iconst (v := (0 : Int32)) hG dX6_calls_103 (by decide) ?_
        refine jr_istore_n (lv' := [(3, .int (0 : Int32)), (0, .ref (E.B + a0)), (1, .int v1), (2, .int v2)]) hG dX6_calls_104 rfl (by decide) rfl ?_
        refine jr_iconst (v := (0 : Int32)) hG dX6_calls_105 (by decide) ?_
        refine jr_istore (lv' := [(4, .int (0 : Int32)), (3, .int (0 : Int32)), (0, .ref (E.B + a0)), (1, .int v1), (2, .int v2)]) hG dX6_calls_106 (by decide) rfl ?_
        refine jr_sub (lv' := [(0, .ref (E.B + a0)), (1, .int v1), (3, .int (0 : Int32)), (4, .int (0 : Int32))]) [2, 3, 1, 0] rfl ?_
        exact w_X6_calls_108 N hG hr hk N a0 v1 (0 : Int32) (0 : Int32) ha0 (σ)
      · refine jr_aload_n hG 0 dX6_calls_97 rfl rfl ?_
        refine jr_iconst (v := (3 : Int32)) hG dX6_calls_98 (by decide) ?_
        refine jr_callVi (As := [.int (3 : Int32)]) hG (c_X6_meets l E N a0 (3 : Int32) (σ)) ci_X6_meets wd_869 ⟨wd_871, wd_21⟩ cl_6 (okO_s ha0) (okO_l ha0) ⟨rfl, rfl, Nat.le_of_ble_eq_true rfl, Nat.le_of_ble_eq_true rfl⟩ rfl rfl (Nat.le_of_ble_eq_true rfl) dX6_calls_99 ⟨Nat.le_refl _, Nat.le_refl _⟩ (fun r11 t10 => ?_)
        exact jr_iret hG hr hk dX6_calls_102
    · refine jr_iload_n hG 2 dX6_calls_64 rfl rfl ?_
      refine jr_if_eq hG 85 dX6_calls_65 (by decide) (fun _ => ?_) (fun _ => ?_)
      · refine jr_sub (lv' := [(0, .ref (E.B + a0)), (1, .int v1), (3, .int v3)]) [0, 1, 3] rfl ?_
        exact w_X6_calls_85 N hG hr hk ih a0 v1 v3 ha0 (σ)
      · refine jr_aload_n hG 0 dX6_calls_68 rfl rfl ?_
        refine jr_aload_n hG 0 dX6_calls_69 rfl rfl ?_
        refine jr_iload_n hG 1 dX6_calls_70 rfl rfl ?_
        refine jr_iload_n hG 3 dX6_calls_71 rfl rfl ?_
        refine jr_callVi (As := [.int v1, .int v3]) hG (c_X6_rowAt l E N a0 v1 v3 (σ)) ci_X6_rowAt wd_877 ⟨wd_879, wd_22⟩ cl_6 (okO_s ha0) (okO_l ha0) ⟨rfl, rfl, Nat.le_of_ble_eq_true rfl, Nat.le_of_ble_eq_true rfl⟩ rfl rfl (Nat.le_of_ble_eq_true rfl) dX6_calls_72 ⟨Nat.le_refl _, Nat.le_refl _⟩ (fun r13 t12 => ?_)
        refine jr_callVi (As := [.int r13]) hG (c_X6_isSet l E N a0 r13 t12) ci_X6_isSet wd_1183 ⟨wd_1185, wd_65⟩ cl_6 (okO_s ha0) (okO_l ha0) ⟨rfl, rfl, Nat.le_of_ble_eq_true rfl, Nat.le_of_ble_eq_true rfl⟩ rfl rfl (Nat.le_of_ble_eq_true rfl) dX6_calls_75 ⟨Nat.le_refl _, Nat.le_refl _⟩ (fun r15 t14 => ?_)
        refine jr_if_eq hG 85 dX6_calls_78 (by decide) (fun _ => ?_) (fun _ => ?_)
        · refine jr_sub (lv' := [(0, .ref (E.B + a0)), (1, .int v1), (3, .int v3)]) [0, 1, 3] rfl ?_
          exact w_X6_calls_85 N hG hr hk ih a0 v1 v3 ha0 t14
        · refine jr_iconst (v := (1 : Int32)) hG dX6_calls_81 (by decide) ?_
          refine jr_goto hG 86 dX6_calls_82 (by decide) ?_
          refine jr_sub (lv' := [(0, .ref (E.B + a0)), (1, .int v1), (3, .int v3)]) [0, 1, 3] rfl ?_
          exact w_X6_calls_86 N hG hr hk ih a0 v1 v3 (1 : Int32) ha0 t14
def f_X6_calls (N : Nat) (a0 : Nat) (v1 : Int32) (σ : Mm) : Option (Int32 × Mm) := if okO 6 a0 then (bI (f_X6_isRow N v1 (σ)) (fun r2 t1 => if r2 = 0 then (some ((-1 : Int32), t1)) else (if (gi t1 a0 10) = 0 then (some ((-4 : Int32), t1)) else (bR (gr t1 a0 5) (okA 0) (fun o3 => if inb v1 (arL o3) then (if 0 ≤ (gi t1 o3 (ix v1)) then (bR (gr t1 a0 5) (okA 0) (fun o4 => if inb v1 (arL o4) then (if (gi t1 o4 (ix v1)) ≤ (4 : Int32) then (f_X6_calls_54 N N a0 v1 (1 : Int32) (0 : Int32) t1) else (bI (f_X6_meets N a0 (5 : Int32) t1) (fun r6 t5 => some (r6, t5)))) else none)) else (bI (f_X6_meets N a0 (1 : Int32) t1) (fun r8 t7 => some (r8, t7)))) else none))))) else none
set_option maxRecDepth 20000 in
theorem c_X6_calls (l : Launch) (E : XE) (N : Nat) (a0 : Nat) (v1 : Int32) (σ : Mm) : ∀ r0, f_X6_calls N a0 v1 σ = some r0 → Met l yX6_calls [Cond.code yX6_calls cX6_calls 7 (some .int)] rm_X6_calls (xPc E (NT + 0) σ [.ref (E.B + a0), .int v1]) (xQi E (NT + 0) r0) 0 0 (xA E) := by
  refine met_of (N0 := NT) (by decide +kernel) (Nat.le_of_ble_eq_true rfl) ?_
  intro p e s m args below meth c hG hr hk _
  show JR E NT 7 p l e rm_X6_calls s m args below meth c 0 0 (fun r => MQ below (xQi E (NT + 0) r) args s 0 0 (xA E)) 0 [(0, .ref (E.B + a0)), (1, .int v1)] [] σ (if okO 6 a0 then (bI (f_X6_isRow N v1 (σ)) (fun r2 t1 => if r2 = 0 then (some ((-1 : Int32), t1)) else (if (gi t1 a0 10) = 0 then (some ((-4 : Int32), t1)) else (bR (gr t1 a0 5) (okA 0) (fun o3 => if inb v1 (arL o3) then (if 0 ≤ (gi t1 o3 (ix v1)) then (bR (gr t1 a0 5) (okA 0) (fun o4 => if inb v1 (arL o4) then (if (gi t1 o4 (ix v1)) ≤ (4 : Int32) then (f_X6_calls_54 N N a0 v1 (1 : Int32) (0 : Int32) t1) else (bI (f_X6_meets N a0 (5 : Int32) t1) (fun r6 t5 => some (r6, t5)))) else none)) else (bI (f_X6_meets N a0 (1 : Int32) t1) (fun r8 t7 => some (r8, t7)))) else none))))) else none)
  refine jr_guard (fun ha0 => ?_)
  refine jr_iload_n hG 1 dX6_calls_0 rfl rfl ?_
  refine jr_callSi (As := [.int v1]) hG (c_X6_isRow l E N v1 (σ)) ci_X6_isRow wd_866 wd_867 ⟨rfl, rfl, Nat.le_of_ble_eq_true rfl, Nat.le_of_ble_eq_true rfl⟩ rfl rfl (Nat.le_of_ble_eq_true rfl) dX6_calls_1 ⟨Nat.le_refl _, Nat.le_refl _⟩ (fun r2 t1 => ?_)
  refine jr_if_ne hG 9 dX6_calls_4 (by decide) (fun _ => ?_) (fun _ => ?_)
  · refine jr_aload_n hG 0 dX6_calls_9 rfl rfl ?_
    refine jr_getI hG fi_RX6_147 rfl (okO_s ha0) (okO_l ha0) dX6_calls_10 ?_
    refine jr_if_ne hG 19 dX6_calls_13 (by decide) (fun _ => ?_) (fun _ => ?_)
    · refine jr_aload_n hG 0 dX6_calls_19 rfl rfl ?_
      refine jr_getR hG fi_RX6_17 rfl (okO_s ha0) (okO_l ha0) dX6_calls_20 (fun o3 ho3 => ?_)
      refine jr_iload_n hG 1 dX6_calls_23 rfl rfl ?_
      refine jr_iald hG (okA_s (by decide) ho3) (okA_l ho3) dX6_calls_24 ?_
      refine jr_if_ge hG 34 dX6_calls_25 (by decide) (fun _ => ?_) (fun _ => ?_)
      · refine jr_aload_n hG 0 dX6_calls_34 rfl rfl ?_
        refine jr_getR hG fi_RX6_17 rfl (okO_s ha0) (okO_l ha0) dX6_calls_35 (fun o4 ho4 => ?_)
        refine jr_iload_n hG 1 dX6_calls_38 rfl rfl ?_
        refine jr_iald hG (okA_s (by decide) ho4) (okA_l ho4) dX6_calls_39 ?_
        refine jr_iconst (v := (4 : Int32)) hG dX6_calls_40 (by decide) ?_
        refine jr_icmp_le hG 50 dX6_calls_41 (by decide) (fun _ => ?_) (fun _ => ?_)
        · refine jr_iconst (v := (1 : Int32)) hG dX6_calls_50 (by decide) ?_
          refine jr_istore_n (lv' := [(2, .int (1 : Int32)), (0, .ref (E.B + a0)), (1, .int v1)]) hG dX6_calls_51 rfl (by decide) rfl ?_
          refine jr_iconst (v := (0 : Int32)) hG dX6_calls_52 (by decide) ?_
          refine jr_istore_n (lv' := [(3, .int (0 : Int32)), (2, .int (1 : Int32)), (0, .ref (E.B + a0)), (1, .int v1)]) hG dX6_calls_53 rfl (by decide) rfl ?_
          refine jr_sub (lv' := [(0, .ref (E.B + a0)), (1, .int v1), (2, .int (1 : Int32)), (3, .int (0 : Int32))]) [2, 3, 1, 0] rfl ?_
          exact w_X6_calls_54 N hG hr hk N a0 v1 (1 : Int32) (0 : Int32) ha0 t1
        · refine jr_aload_n hG 0 dX6_calls_44 rfl rfl ?_
          refine jr_iconst (v := (5 : Int32)) hG dX6_calls_45 (by decide) ?_
          refine jr_callVi (As := [.int (5 : Int32)]) hG (c_X6_meets l E N a0 (5 : Int32) t1) ci_X6_meets wd_869 ⟨wd_871, wd_21⟩ cl_6 (okO_s ha0) (okO_l ha0) ⟨rfl, rfl, Nat.le_of_ble_eq_true rfl, Nat.le_of_ble_eq_true rfl⟩ rfl rfl (Nat.le_of_ble_eq_true rfl) dX6_calls_46 ⟨Nat.le_refl _, Nat.le_refl _⟩ (fun r6 t5 => ?_)
          exact jr_iret hG hr hk dX6_calls_49
      · refine jr_aload_n hG 0 dX6_calls_28 rfl rfl ?_
        refine jr_iconst (v := (1 : Int32)) hG dX6_calls_29 (by decide) ?_
        refine jr_callVi (As := [.int (1 : Int32)]) hG (c_X6_meets l E N a0 (1 : Int32) t1) ci_X6_meets wd_869 ⟨wd_871, wd_21⟩ cl_6 (okO_s ha0) (okO_l ha0) ⟨rfl, rfl, Nat.le_of_ble_eq_true rfl, Nat.le_of_ble_eq_true rfl⟩ rfl rfl (Nat.le_of_ble_eq_true rfl) dX6_calls_30 ⟨Nat.le_refl _, Nat.le_refl _⟩ (fun r8 t7 => ?_)
        exact jr_iret hG hr hk dX6_calls_33
    · refine jr_bipush (v := (-4 : Int32)) hG dX6_calls_16 (by decide) ?_
      exact jr_iret hG hr hk dX6_calls_18
  · refine jr_iconst (v := (-1 : Int32)) hG dX6_calls_7 (by decide) ?_
    exact jr_iret hG hr hk dX6_calls_8
-- TonguesDealtModel.lots(II)I
abbrev rm_X6_lots : Room := { frames := 5, cells := 0, slots := 0, locals := 112 }
theorem ci_X6_lots : CIx yX6_lots cX6_lots 8 (some .int) 2 := ⟨wd_1198, wd_77, by decide +kernel⟩
def f_X6_lots_202 (N : Nat) (K57 : Nat → Int32 → Int64 → Int32 → Int32 → Mm → Option (Int32 × Mm)) (a0 : Nat) (v1 : Int32) (v3 : Int64) (v6 : Int32) (s0 : Int32) (s1 : Int32) (σ : Mm) : Option (Int32 × Mm) := lt (s1 + s0) (fun x30 => K57 a0 v1 v3 x30 (v6 + (1 : Int32)) (σ))
set_option maxRecDepth 20000 in
theorem w_X6_lots_202 {p : Program} {l : Launch} {e : Env} {s : State} {m : MethodId} {args : Array Value} {below : List Frame} {meth : Method} {c : Code} {E : XE} (N : Nat) (hG : GG E NT 8 RX6 cX6_lots p s m args c) (hr : meth.sig.returnType = (some .int)) (hk : meth.locks = false) {K57 : Nat → Int32 → Int64 → Int32 → Int32 → Mm → Option (Int32 × Mm)} (hK57 : ∀ (a0 : Nat) (v1 : Int32) (v3 : Int64) (v5 : Int32) (v6 : Int32) (ha0 : okO 6 a0 = true) (σ : Mm), JR E NT 8 p l e rm_X6_lots s m args below meth c 0 0 (fun r => MQ below (xQi E (NT + 0) r) args s 0 0 (xA E)) 57 [(0, .ref (E.B + a0)), (1, .int v1), (3, .long v3), (5, .int v5), (6, .int v6)] [] σ (K57 a0 v1 v3 v5 v6 σ)) (a0 : Nat) (v1 : Int32) (v3 : Int64) (v6 : Int32) (s0 : Int32) (s1 : Int32) (ha0 : okO 6 a0 = true) (σ : Mm) : JR E NT 8 p l e rm_X6_lots s m args below meth c 0 0 (fun r => MQ below (xQi E (NT + 0) r) args s 0 0 (xA E)) 202 [(0, .ref (E.B + a0)), (1, .int v1), (3, .long v3), (6, .int v6)] [.int s0, .int s1] σ (f_X6_lots_202 N K57 a0 v1 v3 v6 s0 s1 σ) := by
  show JR E NT 8 p l e rm_X6_lots s m args below meth c 0 0 (fun r => MQ below (xQi E (NT + 0) r) args s 0 0 (xA E)) 202 [(0, .ref (E.B + a0)), (1, .int v1), (3, .long v3), (6, .int v6)] [.int s0, .int s1] σ (lt (s1 + s0) (fun x30 => K57 a0 v1 v3 x30 (v6 + (1 : Int32)) (σ)))
  refine jr_iadd hG dX6_lots_202 ?_
  refine jr_leti (fun x30 _ => ?_)
  refine jr_istore (lv' := [(5, .int x30), (0, .ref (E.B + a0)), (1, .int v1), (3, .long v3), (6, .int v6)]) hG dX6_lots_203 (by decide) rfl ?_
  refine jr_iinc (v := v6 + (1 : Int32)) (lv' := [(6, .int (v6 + (1 : Int32))), (5, .int x30), (0, .ref (E.B + a0)), (1, .int v1), (3, .long v3)]) hG 4 dX6_lots_205 rfl rfl (by decide) rfl ?_
  refine jr_goto hG 57 dX6_lots_208 (by decide) ?_
  refine jr_sub (lv' := [(0, .ref (E.B + a0)), (1, .int v1), (3, .long v3), (5, .int x30), (6, .int (v6 + (1 : Int32)))]) [2, 3, 4, 1, 0] rfl ?_
  exact hK57 a0 v1 v3 x30 (v6 + (1 : Int32)) ha0 (σ)
def f_X6_lots_141 (N : Nat) (K57 : Nat → Int32 → Int64 → Int32 → Int32 → Mm → Option (Int32 × Mm)) (K70 : Nat → Int32 → Int64 → Int32 → Int32 → Int32 → Mm → Option (Int32 × Mm)) (a0 : Nat) (v1 : Int32) (v3 : Int64) (v5 : Int32) (v6 : Int32) (v7 : Int32) (σ : Mm) : Option (Int32 × Mm) := K70 a0 v1 v3 v5 v6 (v7 + (1 : Int32)) (σ)
set_option maxRecDepth 20000 in
theorem w_X6_lots_141 {p : Program} {l : Launch} {e : Env} {s : State} {m : MethodId} {args : Array Value} {below : List Frame} {meth : Method} {c : Code} {E : XE} (N : Nat) (hG : GG E NT 8 RX6 cX6_lots p s m args c) (hr : meth.sig.returnType = (some .int)) (hk : meth.locks = false) {K57 : Nat → Int32 → Int64 → Int32 → Int32 → Mm → Option (Int32 × Mm)} (hK57 : ∀ (a0 : Nat) (v1 : Int32) (v3 : Int64) (v5 : Int32) (v6 : Int32) (ha0 : okO 6 a0 = true) (σ : Mm), JR E NT 8 p l e rm_X6_lots s m args below meth c 0 0 (fun r => MQ below (xQi E (NT + 0) r) args s 0 0 (xA E)) 57 [(0, .ref (E.B + a0)), (1, .int v1), (3, .long v3), (5, .int v5), (6, .int v6)] [] σ (K57 a0 v1 v3 v5 v6 σ)) {K70 : Nat → Int32 → Int64 → Int32 → Int32 → Int32 → Mm → Option (Int32 × Mm)} (hK70 : ∀ (a0 : Nat) (v1 : Int32) (v3 : Int64) (v5 : Int32) (v6 : Int32) (v7 : Int32) (ha0 : okO 6 a0 = true) (σ : Mm), JR E NT 8 p l e rm_X6_lots s m args below meth c 0 0 (fun r => MQ below (xQi E (NT + 0) r) args s 0 0 (xA E)) 70 [(0, .ref (E.B + a0)), (1, .int v1), (3, .long v3), (5, .int v5), (6, .int v6), (7, .int v7)] [] σ (K70 a0 v1 v3 v5 v6 v7 σ)) (a0 : Nat) (v1 : Int32) (v3 : Int64) (v5 : Int32) (v6 : Int32) (v7 : Int32) (ha0 : okO 6 a0 = true) (σ : Mm) : JR E NT 8 p l e rm_X6_lots s m args below meth c 0 0 (fun r => MQ below (xQi E (NT + 0) r) args s 0 0 (xA E)) 141 [(0, .ref (E.B + a0)), (1, .int v1), (3, .long v3), (5, .int v5), (6, .int v6), (7, .int v7)] [] σ (f_X6_lots_141 N K57 K70 a0 v1 v3 v5 v6 v7 σ) := by
  show JR E NT 8 p l e rm_X6_lots s m args below meth c 0 0 (fun r => MQ below (xQi E (NT + 0) r) args s 0 0 (xA E)) 141 [(0, .ref (E.B + a0)), (1, .int v1), (3, .long v3), (5, .int v5), (6, .int v6), (7, .int v7)] [] σ (K70 a0 v1 v3 v5 v6 (v7 + (1 : Int32)) (σ))
  refine jr_iinc (v := v7 + (1 : Int32)) (lv' := [(7, .int (v7 + (1 : Int32))), (0, .ref (E.B + a0)), (1, .int v1), (3, .long v3), (5, .int v5), (6, .int v6)]) hG 5 dX6_lots_141 rfl rfl (by decide) rfl ?_
  refine jr_goto hG 70 dX6_lots_144 (by decide) ?_
  refine jr_sub (lv' := [(0, .ref (E.B + a0)), (1, .int v1), (3, .long v3), (5, .int v5), (6, .int v6), (7, .int (v7 + (1 : Int32)))]) [1, 2, 3, 4, 5, 0] rfl ?_
  exact hK70 a0 v1 v3 v5 v6 (v7 + (1 : Int32)) ha0 (σ)
def f_X6_lots_70 (N : Nat) (K57 : Nat → Int32 → Int64 → Int32 → Int32 → Mm → Option (Int32 × Mm)) : Nat → Nat → Int32 → Int64 → Int32 → Int32 → Int32 → Mm → Option (Int32 × Mm)
  | 0 => fun _ _ _ _ _ _ _ => none
  | n + 1 => fun a0 v1 v3 v5 v6 v7 σ => if (gi σ a0 10) ≤ v7 then (bR (gr σ a0 19) (okA 0) (fun o7 => if inb (12 : Int32) (arL o7) then (if inb (12 : Int32) (arL o7) then (lt (si σ o7 (ix (12 : Int32)) ((gi σ o7 (ix (12 : Int32))) + (1 : Int32))) (fun t8 => bR (gr t8 a0 19) (okA 0) (fun o9 => if inb (13 : Int32) (arL o9) then (lt (si t8 o9 (ix (13 : Int32)) (0 : Int32)) (fun t10 => bR (gr t10 a0 19) (okA 0) (fun o11 => bV (f_X6_layTells N a0 o11 t10) (fun t12 => bI (f_X6_everybody N a0 t12) (fun r14 t13 => bI (f_X6_reaches N a0 (0 : Int32) r14 t13) (fun r16 t15 => bI (f_X6_has N r16 ((gi t15 a0 10) - (1 : Int32)) t15) (fun r18 t17 => if r18 = 0 then (f_X6_lots_202 N K57 a0 v1 v3 v6 (0 : Int32) v5 t17) else (f_X6_lots_202 N K57 a0 v1 v3 v6 (1 : Int32) v5 t17)))))))) else none))) else none) else none)) else (bI (f_X6_isDealtAs N a0 v7 (σ)) (fun r20 t19 => if r20 = 0 then (lt (((48271 : Int64) * v3) - ((48271 : Int64) * v3) / (2147483647 : Int64) * (2147483647 : Int64)) (fun x21 => bR (gr t19 a0 19) (okA 0) (fun o22 => if inb v7 (arL o22) then (lt (si t19 o22 (ix v7) (((x21 / (8 : Int64)) - (x21 / (8 : Int64)) / (4 : Int64) * (4 : Int64)).toInt32)) (fun t23 => f_X6_lots_141 N K57 (f_X6_lots_70 N K57 n) a0 v1 x21 v5 v6 v7 t23)) else none))) else (bR (gr t19 a0 19) (okA 0) (fun o24 => bR (gr t19 a0 19) (okA 0) (fun o25 => bR (gr t19 a0 12) (okA 0) (fun o26 => if inb v7 (arL o26) then (bI (f_X6_firstOf N a0 (gi t19 o26 (ix v7)) t19) (fun r28 t27 => if inb r28 (arL o25) then (if inb v7 (arL o24) then (lt (si t27 o24 (ix v7) (gi t27 o25 (ix r28))) (fun t29 => f_X6_lots_141 N K57 (f_X6_lots_70 N K57 n) a0 v1 v3 v5 v6 v7 t29)) else none) else none)) else none))))))
set_option maxRecDepth 20000 in
theorem w_X6_lots_70 {p : Program} {l : Launch} {e : Env} {s : State} {m : MethodId} {args : Array Value} {below : List Frame} {meth : Method} {c : Code} {E : XE} (N : Nat) (hG : GG E NT 8 RX6 cX6_lots p s m args c) (hr : meth.sig.returnType = (some .int)) (hk : meth.locks = false) {K57 : Nat → Int32 → Int64 → Int32 → Int32 → Mm → Option (Int32 × Mm)} (hK57 : ∀ (a0 : Nat) (v1 : Int32) (v3 : Int64) (v5 : Int32) (v6 : Int32) (ha0 : okO 6 a0 = true) (σ : Mm), JR E NT 8 p l e rm_X6_lots s m args below meth c 0 0 (fun r => MQ below (xQi E (NT + 0) r) args s 0 0 (xA E)) 57 [(0, .ref (E.B + a0)), (1, .int v1), (3, .long v3), (5, .int v5), (6, .int v6)] [] σ (K57 a0 v1 v3 v5 v6 σ)) : ∀ (n : Nat) (a0 : Nat) (v1 : Int32) (v3 : Int64) (v5 : Int32) (v6 : Int32) (v7 : Int32) (ha0 : okO 6 a0 = true) (σ : Mm), JR E NT 8 p l e rm_X6_lots s m args below meth c 0 0 (fun r => MQ below (xQi E (NT + 0) r) args s 0 0 (xA E)) 70 [(0, .ref (E.B + a0)), (1, .int v1), (3, .long v3), (5, .int v5), (6, .int v6), (7, .int v7)] [] σ (f_X6_lots_70 N K57 n a0 v1 v3 v5 v6 v7 σ) := by
  intro n
  induction n with
  | zero => intro a0 v1 v3 v5 v6 v7 ha0 σ r hX; cases hX
  | succ n ih =>
    intro a0 v1 v3 v5 v6 v7 ha0 σ
    show JR E NT 8 p l e rm_X6_lots s m args below meth c 0 0 (fun r => MQ below (xQi E (NT + 0) r) args s 0 0 (xA E)) 70 [(0, .ref (E.B + a0)), (1, .int v1), (3, .long v3), (5, .int v5), (6, .int v6), (7, .int v7)] [] σ (if (gi σ a0 10) ≤ v7 then (bR (gr σ a0 19) (okA 0) (fun o7 => if inb (12 : Int32) (arL o7) then (if inb (12 : Int32) (arL o7) then (lt (si σ o7 (ix (12 : Int32)) ((gi σ o7 (ix (12 : Int32))) + (1 : Int32))) (fun t8 => bR (gr t8 a0 19) (okA 0) (fun o9 => if inb (13 : Int32) (arL o9) then (lt (si t8 o9 (ix (13 : Int32)) (0 : Int32)) (fun t10 => bR (gr t10 a0 19) (okA 0) (fun o11 => bV (f_X6_layTells N a0 o11 t10) (fun t12 => bI (f_X6_everybody N a0 t12) (fun r14 t13 => bI (f_X6_reaches N a0 (0 : Int32) r14 t13) (fun r16 t15 => bI (f_X6_has N r16 ((gi t15 a0 10) - (1 : Int32)) t15) (fun r18 t17 => if r18 = 0 then (f_X6_lots_202 N K57 a0 v1 v3 v6 (0 : Int32) v5 t17) else (f_X6_lots_202 N K57 a0 v1 v3 v6 (1 : Int32) v5 t17)))))))) else none))) else none) else none)) else (bI (f_X6_isDealtAs N a0 v7 (σ)) (fun r20 t19 => if r20 = 0 then (lt (((48271 : Int64) * v3) - ((48271 : Int64) * v3) / (2147483647 : Int64) * (2147483647 : Int64)) (fun x21 => bR (gr t19 a0 19) (okA 0) (fun o22 => if inb v7 (arL o22) then (lt (si t19 o22 (ix v7) (((x21 / (8 : Int64)) - (x21 / (8 : Int64)) / (4 : Int64) * (4 : Int64)).toInt32)) (fun t23 => f_X6_lots_141 N K57 (f_X6_lots_70 N K57 n) a0 v1 x21 v5 v6 v7 t23)) else none))) else (bR (gr t19 a0 19) (okA 0) (fun o24 => bR (gr t19 a0 19) (okA 0) (fun o25 => bR (gr t19 a0 12) (okA 0) (fun o26 => if inb v7 (arL o26) then (bI (f_X6_firstOf N a0 (gi t19 o26 (ix v7)) t19) (fun r28 t27 => if inb r28 (arL o25) then (if inb v7 (arL o24) then (lt (si t27 o24 (ix v7) (gi t27 o25 (ix r28))) (fun t29 => f_X6_lots_141 N K57 (f_X6_lots_70 N K57 n) a0 v1 v3 v5 v6 v7 t29)) else none) else none)) else none)))))))
    refine jr_iload hG 5 dX6_lots_70 rfl ?_
    refine jr_aload_n hG 0 dX6_lots_72 rfl rfl ?_
    refine jr_getI hG fi_RX6_147 rfl (okO_s ha0) (okO_l ha0) dX6_lots_73 ?_
    refine jr_icmp_ge hG 147 dX6_lots_76 (by decide) (fun _ => ?_) (fun _ => ?_)
    · refine jr_aload_n hG 0 dX6_lots_147 rfl rfl ?_
      refine jr_getR hG fi_RX6_48 rfl (okO_s ha0) (okO_l ha0) dX6_lots_148 (fun o7 ho7 => ?_)
      refine jr_bipush (v := (12 : Int32)) hG dX6_lots_151 (by decide) ?_
      refine jr_dup2 hG dX6_lots_153 rfl rfl ?_
      refine jr_iald hG (okA_s (by decide) ho7) (okA_l ho7) dX6_lots_154 ?_
      refine jr_iconst (v := (1 : Int32)) hG dX6_lots_155 (by decide) ?_
      refine jr_iadd hG dX6_lots_156 ?_
      refine jr_iast hG (okA_s (by decide) ho7) (okA_l ho7) dX6_lots_157 ?_
      refine jr_lets (fun t8 _ => ?_)
      refine jr_aload_n hG 0 dX6_lots_158 rfl rfl ?_
      refine jr_getR hG fi_RX6_48 rfl (okO_s ha0) (okO_l ha0) dX6_lots_159 (fun o9 ho9 => ?_)
      refine jr_bipush (v := (13 : Int32)) hG dX6_lots_162 (by decide) ?_
      refine jr_iconst (v := (0 : Int32)) hG dX6_lots_164 (by decide) ?_
      refine jr_iast hG (okA_s (by decide) ho9) (okA_l ho9) dX6_lots_165 ?_
      refine jr_lets (fun t10 _ => ?_)
      refine jr_aload_n hG 0 dX6_lots_166 rfl rfl ?_
      refine jr_aload_n hG 0 dX6_lots_167 rfl rfl ?_
      refine jr_getR hG fi_RX6_48 rfl (okO_s ha0) (okO_l ha0) dX6_lots_168 (fun o11 ho11 => ?_)
      refine jr_callVv (As := [.ref (E.B + o11)]) hG (c_X6_layTells l E N a0 o11 t10) ci_X6_layTells wd_1048 ⟨wd_1050, wd_43⟩ cl_6 (okO_s ha0) (okO_l ha0) ⟨rfl, rfl, Nat.le_of_ble_eq_true rfl, Nat.le_of_ble_eq_true rfl⟩ rfl rfl (Nat.le_of_ble_eq_true rfl) dX6_lots_171 ⟨Nat.le_refl _, Nat.le_refl _⟩ (fun t12 => ?_)
      refine jr_iload hG 3 dX6_lots_174 rfl ?_
      refine jr_aload_n hG 0 dX6_lots_176 rfl rfl ?_
      refine jr_iconst (v := (0 : Int32)) hG dX6_lots_177 (by decide) ?_
      refine jr_aload_n hG 0 dX6_lots_178 rfl rfl ?_
      refine jr_callVi (As := []) hG (c_X6_everybody l E N a0 t12) ci_X6_everybody wd_1064 ⟨wd_1066, wd_46⟩ cl_6 (okO_s ha0) (okO_l ha0) ⟨rfl, rfl, Nat.le_of_ble_eq_true rfl, Nat.le_of_ble_eq_true rfl⟩ rfl rfl (Nat.le_of_ble_eq_true rfl) dX6_lots_179 ⟨Nat.le_refl _, Nat.le_refl _⟩ (fun r14 t13 => ?_)
      refine jr_callVi (As := [.int (0 : Int32), .int r14]) hG (c_X6_reaches l E N a0 (0 : Int32) r14 t13) ci_X6_reaches wd_1068 ⟨wd_1070, wd_47⟩ cl_6 (okO_s ha0) (okO_l ha0) ⟨rfl, rfl, Nat.le_of_ble_eq_true rfl, Nat.le_of_ble_eq_true rfl⟩ rfl rfl (Nat.le_of_ble_eq_true rfl) dX6_lots_182 ⟨Nat.le_refl _, Nat.le_refl _⟩ (fun r16 t15 => ?_)
      refine jr_aload_n hG 0 dX6_lots_185 rfl rfl ?_
      refine jr_getI hG fi_RX6_147 rfl (okO_s ha0) (okO_l ha0) dX6_lots_186 ?_
      refine jr_iconst (v := (1 : Int32)) hG dX6_lots_189 (by decide) ?_
      refine jr_isub hG dX6_lots_190 ?_
      refine jr_callSi (As := [.int r16, .int ((gi t15 a0 10) - (1 : Int32))]) hG (c_X6_has l E N r16 ((gi t15 a0 10) - (1 : Int32)) t15) ci_X6_has wd_932 wd_933 ⟨rfl, rfl, Nat.le_of_ble_eq_true rfl, Nat.le_of_ble_eq_true rfl⟩ rfl rfl (Nat.le_of_ble_eq_true rfl) dX6_lots_191 ⟨Nat.le_refl _, Nat.le_refl _⟩ (fun r18 t17 => ?_)
      refine jr_if_eq hG 201 dX6_lots_194 (by decide) (fun _ => ?_) (fun _ => ?_)
      · refine jr_iconst (v := (0 : Int32)) hG dX6_lots_201 (by decide) ?_
        refine jr_sub (lv' := [(0, .ref (E.B + a0)), (1, .int v1), (3, .long v3), (6, .int v6)]) [0, 1, 2, 4] rfl ?_
        exact w_X6_lots_202 N hG hr hk hK57 a0 v1 v3 v6 (0 : Int32) v5 ha0 t17
      · refine jr_iconst (v := (1 : Int32)) hG dX6_lots_197 (by decide) ?_
        refine jr_goto hG 202 dX6_lots_198 (by decide) ?_
        refine jr_sub (lv' := [(0, .ref (E.B + a0)), (1, .int v1), (3, .long v3), (6, .int v6)]) [0, 1, 2, 4] rfl ?_
        exact w_X6_lots_202 N hG hr hk hK57 a0 v1 v3 v6 (1 : Int32) v5 ha0 t17
    · refine jr_aload_n hG 0 dX6_lots_79 rfl rfl ?_
      refine jr_iload hG 5 dX6_lots_80 rfl ?_
      refine jr_callVi (As := [.int v7]) hG (c_X6_isDealtAs l E N a0 v7 (σ)) ci_X6_isDealtAs wd_1100 ⟨wd_1102, wd_51⟩ cl_6 (okO_s ha0) (okO_l ha0) ⟨rfl, rfl, Nat.le_of_ble_eq_true rfl, Nat.le_of_ble_eq_true rfl⟩ rfl rfl (Nat.le_of_ble_eq_true rfl) dX6_lots_82 ⟨Nat.le_refl _, Nat.le_refl _⟩ (fun r20 t19 => ?_)
      refine jr_if_eq hG 114 dX6_lots_85 (by decide) (fun _ => ?_) (fun _ => ?_)
      · refine jr_ldc2 (v := (48271 : Int64)) hG wd_1200 dX6_lots_114 ?_
        refine jr_lload_n hG 2 dX6_lots_117 rfl rfl ?_
        refine jr_lmul hG dX6_lots_118 ?_
        refine jr_ldc2 (v := (2147483647 : Int64)) hG wd_1201 dX6_lots_119 ?_
        refine jr_lremc hG dX6_lots_122 (by decide) ?_
        refine jr_letl (fun x21 _ => ?_)
        refine jr_lstore_n (lv' := [(3, .long x21), (0, .ref (E.B + a0)), (1, .int v1), (5, .int v5), (6, .int v6), (7, .int v7)]) hG dX6_lots_123 rfl (by decide) rfl ?_
        refine jr_aload_n hG 1 dX6_lots_124 rfl rfl ?_
        refine jr_getR hG fi_RX6_48 rfl (okO_s ha0) (okO_l ha0) dX6_lots_125 (fun o22 ho22 => ?_)
        refine jr_iload hG 5 dX6_lots_128 rfl ?_
        refine jr_lload_n hG 0 dX6_lots_130 rfl rfl ?_
        refine jr_ldc2 (v := (8 : Int64)) hG wd_1202 dX6_lots_131 ?_
        refine jr_ldivc hG dX6_lots_134 (by decide) ?_
        refine jr_ldc2 (v := (4 : Int64)) hG wd_1203 dX6_lots_135 ?_
        refine jr_lremc hG dX6_lots_138 (by decide) ?_
        refine jr_l2i hG dX6_lots_139 ?_
        refine jr_iast hG (okA_s (by decide) ho22) (okA_l ho22) dX6_lots_140 ?_
        refine jr_lets (fun t23 _ => ?_)
        refine jr_sub (lv' := [(0, .ref (E.B + a0)), (1, .int v1), (3, .long x21), (5, .int v5), (6, .int v6), (7, .int v7)]) [1, 2, 0, 3, 4, 5] rfl ?_
        exact w_X6_lots_141 N hG hr hk hK57 ih a0 v1 x21 v5 v6 v7 ha0 t23
      · refine jr_aload_n hG 0 dX6_lots_88 rfl rfl ?_
        refine jr_getR hG fi_RX6_48 rfl (okO_s ha0) (okO_l ha0) dX6_lots_89 (fun o24 ho24 => ?_)
        refine jr_iload hG 5 dX6_lots_92 rfl ?_
        refine jr_aload_n hG 0 dX6_lots_94 rfl rfl ?_
        refine jr_getR hG fi_RX6_48 rfl (okO_s ha0) (okO_l ha0) dX6_lots_95 (fun o25 ho25 => ?_)
        refine jr_aload_n hG 0 dX6_lots_98 rfl rfl ?_
        refine jr_aload_n hG 0 dX6_lots_99 rfl rfl ?_
        refine jr_getR hG fi_RX6_36 rfl (okO_s ha0) (okO_l ha0) dX6_lots_100 (fun o26 ho26 => ?_)
        refine jr_iload hG 5 dX6_lots_103 rfl ?_
        refine jr_iald hG (okA_s (by decide) ho26) (okA_l ho26) dX6_lots_105 ?_
        refine jr_callVi (As := [.int (gi t19 o26 (ix v7))]) hG (c_X6_firstOf l E N a0 (gi t19 o26 (ix v7)) t19) ci_X6_firstOf wd_1108 ⟨wd_1110, wd_53⟩ cl_6 (okO_s ha0) (okO_l ha0) ⟨rfl, rfl, Nat.le_of_ble_eq_true rfl, Nat.le_of_ble_eq_true rfl⟩ rfl rfl (Nat.le_of_ble_eq_true rfl) dX6_lots_106 ⟨Nat.le_refl _, Nat.le_refl _⟩ (fun r28 t27 => ?_)
        refine jr_iald hG (okA_s (by decide) ho25) (okA_l ho25) dX6_lots_109 ?_
        refine jr_iast hG (okA_s (by decide) ho24) (okA_l ho24) dX6_lots_110 ?_
        refine jr_lets (fun t29 _ => ?_)
        refine jr_goto hG 141 dX6_lots_111 (by decide) ?_
        exact w_X6_lots_141 N hG hr hk hK57 ih a0 v1 v3 v5 v6 v7 ha0 t29
def f_X6_lots_57 (N : Nat)  : Nat → Nat → Int32 → Int64 → Int32 → Int32 → Mm → Option (Int32 × Mm)
  | 0 => fun _ _ _ _ _ _ => none
  | n + 1 => fun a0 v1 v3 v5 v6 σ => if v1 ≤ v6 then (some (v5, σ)) else (bV (f_X6_remember N a0 (σ)) (fun t6 => f_X6_lots_70 N (f_X6_lots_57 N n) N a0 v1 v3 v5 v6 (0 : Int32) t6))
set_option maxRecDepth 20000 in
theorem w_X6_lots_57 {p : Program} {l : Launch} {e : Env} {s : State} {m : MethodId} {args : Array Value} {below : List Frame} {meth : Method} {c : Code} {E : XE} (N : Nat) (hG : GG E NT 8 RX6 cX6_lots p s m args c) (hr : meth.sig.returnType = (some .int)) (hk : meth.locks = false)  : ∀ (n : Nat) (a0 : Nat) (v1 : Int32) (v3 : Int64) (v5 : Int32) (v6 : Int32) (ha0 : okO 6 a0 = true) (σ : Mm), JR E NT 8 p l e rm_X6_lots s m args below meth c 0 0 (fun r => MQ below (xQi E (NT + 0) r) args s 0 0 (xA E)) 57 [(0, .ref (E.B + a0)), (1, .int v1), (3, .long v3), (5, .int v5), (6, .int v6)] [] σ (f_X6_lots_57 N n a0 v1 v3 v5 v6 σ) := by
  intro n
  induction n with
  | zero => intro a0 v1 v3 v5 v6 ha0 σ r hX; cases hX
  | succ n ih =>
    intro a0 v1 v3 v5 v6 ha0 σ
    show JR E NT 8 p l e rm_X6_lots s m args below meth c 0 0 (fun r => MQ below (xQi E (NT + 0) r) args s 0 0 (xA E)) 57 [(0, .ref (E.B + a0)), (1, .int v1), (3, .long v3), (5, .int v5), (6, .int v6)] [] σ (if v1 ≤ v6 then (some (v5, σ)) else (bV (f_X6_remember N a0 (σ)) (fun t6 => f_X6_lots_70 N (f_X6_lots_57 N n) N a0 v1 v3 v5 v6 (0 : Int32) t6)))
    refine jr_iload hG 4 dX6_lots_57 rfl ?_
    refine jr_iload_n hG 1 dX6_lots_59 rfl rfl ?_
    refine jr_icmp_ge hG 211 dX6_lots_60 (by decide) (fun _ => ?_) (fun _ => ?_)
    · refine jr_iload hG 3 dX6_lots_211 rfl ?_
      exact jr_iret hG hr hk dX6_lots_213
    · refine jr_aload_n hG 0 dX6_lots_63 rfl rfl ?_
      refine jr_callVv (As := []) hG (c_X6_remember l E N a0 (σ)) ci_X6_remember wd_1008 ⟨wd_1010, wd_40⟩ cl_6 (okO_s ha0) (okO_l ha0) ⟨rfl, rfl, Nat.le_of_ble_eq_true rfl, Nat.le_of_ble_eq_true rfl⟩ rfl rfl (Nat.le_of_ble_eq_true rfl) dX6_lots_64 ⟨Nat.le_refl _, Nat.le_refl _⟩ (fun t6 => ?_)
      refine jr_iconst (v := (0 : Int32)) hG dX6_lots_67 (by decide) ?_
      refine jr_istore (lv' := [(7, .int (0 : Int32)), (0, .ref (E.B + a0)), (1, .int v1), (3, .long v3), (5, .int v5), (6, .int v6)]) hG dX6_lots_68 (by decide) rfl ?_
      refine jr_sub (lv' := [(0, .ref (E.B + a0)), (1, .int v1), (3, .long v3), (5, .int v5), (6, .int v6), (7, .int (0 : Int32))]) [1, 2, 3, 4, 5, 0] rfl ?_
      exact w_X6_lots_70 N hG hr hk ih N a0 v1 v3 v5 v6 (0 : Int32) ha0 t6
def f_X6_lots (N : Nat) (a0 : Nat) (v1 : Int32) (v2 : Int32) (σ : Mm) : Option (Int32 × Mm) := if okO 6 a0 then (bI (f_X6_in N v1 (1 : Int32) (20 : Int32) (σ)) (fun r2 t1 => if r2 = 0 then (some ((-1 : Int32), t1)) else (bI (f_X6_in N v2 (1 : Int32) (2147483646 : Int32) t1) (fun r4 t3 => if r4 = 0 then (some ((-1 : Int32), t3)) else (if (2 : Int32) ≤ (gi t3 a0 10) then (if ((gi t3 a0 22) + v1) ≤ (40 : Int32) then (lt (v2.toInt64) (fun x5 => f_X6_lots_57 N N a0 v1 x5 (0 : Int32) (0 : Int32) t3)) else (some ((-2 : Int32), t3))) else (some ((-4 : Int32), t3))))))) else none
set_option maxRecDepth 20000 in
theorem c_X6_lots (l : Launch) (E : XE) (N : Nat) (a0 : Nat) (v1 : Int32) (v2 : Int32) (σ : Mm) : ∀ r0, f_X6_lots N a0 v1 v2 σ = some r0 → Met l yX6_lots [Cond.code yX6_lots cX6_lots 8 (some .int)] rm_X6_lots (xPc E (NT + 0) σ [.ref (E.B + a0), .int v1, .int v2]) (xQi E (NT + 0) r0) 0 0 (xA E) := by
  refine met_of (N0 := NT) (by decide +kernel) (Nat.le_of_ble_eq_true rfl) ?_
  intro p e s m args below meth c hG hr hk _
  show JR E NT 8 p l e rm_X6_lots s m args below meth c 0 0 (fun r => MQ below (xQi E (NT + 0) r) args s 0 0 (xA E)) 0 [(0, .ref (E.B + a0)), (1, .int v1), (2, .int v2)] [] σ (if okO 6 a0 then (bI (f_X6_in N v1 (1 : Int32) (20 : Int32) (σ)) (fun r2 t1 => if r2 = 0 then (some ((-1 : Int32), t1)) else (bI (f_X6_in N v2 (1 : Int32) (2147483646 : Int32) t1) (fun r4 t3 => if r4 = 0 then (some ((-1 : Int32), t3)) else (if (2 : Int32) ≤ (gi t3 a0 10) then (if ((gi t3 a0 22) + v1) ≤ (40 : Int32) then (lt (v2.toInt64) (fun x5 => f_X6_lots_57 N N a0 v1 x5 (0 : Int32) (0 : Int32) t3)) else (some ((-2 : Int32), t3))) else (some ((-4 : Int32), t3))))))) else none)
  refine jr_guard (fun ha0 => ?_)
  refine jr_iload_n hG 1 dX6_lots_0 rfl rfl ?_
  refine jr_iconst (v := (1 : Int32)) hG dX6_lots_1 (by decide) ?_
  refine jr_bipush (v := (20 : Int32)) hG dX6_lots_2 (by decide) ?_
  refine jr_callSi (As := [.int v1, .int (1 : Int32), .int (20 : Int32)]) hG (c_X6_in l E N v1 (1 : Int32) (20 : Int32) (σ)) ci_X6_in wd_847 wd_848 ⟨rfl, rfl, Nat.le_of_ble_eq_true rfl, Nat.le_of_ble_eq_true rfl⟩ rfl rfl (Nat.le_of_ble_eq_true rfl) dX6_lots_4 ⟨Nat.le_refl _, Nat.le_refl _⟩ (fun r2 t1 => ?_)
  refine jr_if_eq hG 21 dX6_lots_7 (by decide) (fun _ => ?_) (fun _ => ?_)
  · refine jr_iconst (v := (-1 : Int32)) hG dX6_lots_21 (by decide) ?_
    exact jr_iret hG hr hk dX6_lots_22
  · refine jr_iload_n hG 2 dX6_lots_10 rfl rfl ?_
    refine jr_iconst (v := (1 : Int32)) hG dX6_lots_11 (by decide) ?_
    refine jr_ldcw (v := (2147483646 : Int32)) hG wd_1199 dX6_lots_12 ?_
    refine jr_callSi (As := [.int v2, .int (1 : Int32), .int (2147483646 : Int32)]) hG (c_X6_in l E N v2 (1 : Int32) (2147483646 : Int32) t1) ci_X6_in wd_847 wd_848 ⟨rfl, rfl, Nat.le_of_ble_eq_true rfl, Nat.le_of_ble_eq_true rfl⟩ rfl rfl (Nat.le_of_ble_eq_true rfl) dX6_lots_15 ⟨Nat.le_refl _, Nat.le_refl _⟩ (fun r4 t3 => ?_)
    refine jr_if_ne hG 23 dX6_lots_18 (by decide) (fun _ => ?_) (fun _ => ?_)
    · refine jr_aload_n hG 0 dX6_lots_23 rfl rfl ?_
      refine jr_getI hG fi_RX6_147 rfl (okO_s ha0) (okO_l ha0) dX6_lots_24 ?_
      refine jr_iconst (v := (2 : Int32)) hG dX6_lots_27 (by decide) ?_
      refine jr_icmp_ge hG 34 dX6_lots_28 (by decide) (fun _ => ?_) (fun _ => ?_)
      · refine jr_aload_n hG 0 dX6_lots_34 rfl rfl ?_
        refine jr_getI hG fi_RX6_150 rfl (okO_s ha0) (okO_l ha0) dX6_lots_35 ?_
        refine jr_iload_n hG 1 dX6_lots_38 rfl rfl ?_
        refine jr_iadd hG dX6_lots_39 ?_
        refine jr_bipush (v := (40 : Int32)) hG dX6_lots_40 (by decide) ?_
        refine jr_icmp_le hG 48 dX6_lots_42 (by decide) (fun _ => ?_) (fun _ => ?_)
        · refine jr_iload_n hG 2 dX6_lots_48 rfl rfl ?_
          refine jr_i2l hG dX6_lots_49 ?_
          refine jr_letl (fun x5 _ => ?_)
          refine jr_lstore_n (lv' := [(3, .long x5), (0, .ref (E.B + a0)), (1, .int v1), (2, .int v2)]) hG dX6_lots_50 rfl (by decide) rfl ?_
          refine jr_iconst (v := (0 : Int32)) hG dX6_lots_51 (by decide) ?_
          refine jr_istore (lv' := [(5, .int (0 : Int32)), (3, .long x5), (0, .ref (E.B + a0)), (1, .int v1), (2, .int v2)]) hG dX6_lots_52 (by decide) rfl ?_
          refine jr_iconst (v := (0 : Int32)) hG dX6_lots_54 (by decide) ?_
          refine jr_istore (lv' := [(6, .int (0 : Int32)), (5, .int (0 : Int32)), (3, .long x5), (0, .ref (E.B + a0)), (1, .int v1), (2, .int v2)]) hG dX6_lots_55 (by decide) rfl ?_
          refine jr_sub (lv' := [(0, .ref (E.B + a0)), (1, .int v1), (3, .long x5), (5, .int (0 : Int32)), (6, .int (0 : Int32))]) [3, 4, 2, 1, 0] rfl ?_
          exact w_X6_lots_57 N hG hr hk N a0 v1 x5 (0 : Int32) (0 : Int32) ha0 t3
        · refine jr_bipush (v := (-2 : Int32)) hG dX6_lots_45 (by decide) ?_
          exact jr_iret hG hr hk dX6_lots_47
      · refine jr_bipush (v := (-4 : Int32)) hG dX6_lots_31 (by decide) ?_
        exact jr_iret hG hr hk dX6_lots_33
    · refine jr_iconst (v := (-1 : Int32)) hG dX6_lots_21 (by decide) ?_
      exact jr_iret hG hr hk dX6_lots_22
-- TonguesDealtModel.counted(I)I
abbrev rm_X6_counted : Room := { frames := 2, cells := 0, slots := 0, locals := 44 }
theorem ci_X6_counted : CIx yX6_counted cX6_counted 4 (some .int) 1 := ⟨wd_1211, wd_77, by decide +kernel⟩
def f_X6_counted_144 (N : Nat) (K118 : Nat → Int32 → Int32 → Int32 → Mm → Option (Int32 × Mm)) (a0 : Nat) (v1 : Int32) (v3 : Int32) (s0 : Int32) (s1 : Int32) (σ : Mm) : Option (Int32 × Mm) := lt (s1 + s0) (fun x14 => K118 a0 v1 x14 (v3 + (1 : Int32)) (σ))
set_option maxRecDepth 20000 in
theorem w_X6_counted_144 {p : Program} {l : Launch} {e : Env} {s : State} {m : MethodId} {args : Array Value} {below : List Frame} {meth : Method} {c : Code} {E : XE} (N : Nat) (hG : GG E NT 4 RX6 cX6_counted p s m args c) (hr : meth.sig.returnType = (some .int)) (hk : meth.locks = false) {K118 : Nat → Int32 → Int32 → Int32 → Mm → Option (Int32 × Mm)} (hK118 : ∀ (a0 : Nat) (v1 : Int32) (v2 : Int32) (v3 : Int32) (ha0 : okO 6 a0 = true) (σ : Mm), JR E NT 4 p l e rm_X6_counted s m args below meth c 0 0 (fun r => MQ below (xQi E (NT + 0) r) args s 0 0 (xA E)) 118 [(0, .ref (E.B + a0)), (1, .int v1), (2, .int v2), (3, .int v3)] [] σ (K118 a0 v1 v2 v3 σ)) (a0 : Nat) (v1 : Int32) (v3 : Int32) (s0 : Int32) (s1 : Int32) (ha0 : okO 6 a0 = true) (σ : Mm) : JR E NT 4 p l e rm_X6_counted s m args below meth c 0 0 (fun r => MQ below (xQi E (NT + 0) r) args s 0 0 (xA E)) 144 [(0, .ref (E.B + a0)), (1, .int v1), (3, .int v3)] [.int s0, .int s1] σ (f_X6_counted_144 N K118 a0 v1 v3 s0 s1 σ) := by
  show JR E NT 4 p l e rm_X6_counted s m args below meth c 0 0 (fun r => MQ below (xQi E (NT + 0) r) args s 0 0 (xA E)) 144 [(0, .ref (E.B + a0)), (1, .int v1), (3, .int v3)] [.int s0, .int s1] σ (lt (s1 + s0) (fun x14 => K118 a0 v1 x14 (v3 + (1 : Int32)) (σ)))
  refine jr_iadd hG dX6_counted_144 ?_
  refine jr_leti (fun x14 _ => ?_)
  refine jr_istore_n (lv' := [(2, .int x14), (0, .ref (E.B + a0)), (1, .int v1), (3, .int v3)]) hG dX6_counted_145 rfl (by decide) rfl ?_
  refine jr_iinc (v := v3 + (1 : Int32)) (lv' := [(3, .int (v3 + (1 : Int32))), (2, .int x14), (0, .ref (E.B + a0)), (1, .int v1)]) hG 3 dX6_counted_146 rfl rfl (by decide) rfl ?_
  refine jr_goto hG 118 dX6_counted_149 (by decide) ?_
  refine jr_sub (lv' := [(0, .ref (E.B + a0)), (1, .int v1), (2, .int x14), (3, .int (v3 + (1 : Int32)))]) [2, 3, 1, 0] rfl ?_
  exact hK118 a0 v1 x14 (v3 + (1 : Int32)) ha0 (σ)
def f_X6_counted_143 (N : Nat) (K118 : Nat → Int32 → Int32 → Int32 → Mm → Option (Int32 × Mm)) (a0 : Nat) (v1 : Int32) (v3 : Int32) (s0 : Int32) (σ : Mm) : Option (Int32 × Mm) := f_X6_counted_144 N K118 a0 v1 v3 (0 : Int32) s0 (σ)
set_option maxRecDepth 20000 in
theorem w_X6_counted_143 {p : Program} {l : Launch} {e : Env} {s : State} {m : MethodId} {args : Array Value} {below : List Frame} {meth : Method} {c : Code} {E : XE} (N : Nat) (hG : GG E NT 4 RX6 cX6_counted p s m args c) (hr : meth.sig.returnType = (some .int)) (hk : meth.locks = false) {K118 : Nat → Int32 → Int32 → Int32 → Mm → Option (Int32 × Mm)} (hK118 : ∀ (a0 : Nat) (v1 : Int32) (v2 : Int32) (v3 : Int32) (ha0 : okO 6 a0 = true) (σ : Mm), JR E NT 4 p l e rm_X6_counted s m args below meth c 0 0 (fun r => MQ below (xQi E (NT + 0) r) args s 0 0 (xA E)) 118 [(0, .ref (E.B + a0)), (1, .int v1), (2, .int v2), (3, .int v3)] [] σ (K118 a0 v1 v2 v3 σ)) (a0 : Nat) (v1 : Int32) (v3 : Int32) (s0 : Int32) (ha0 : okO 6 a0 = true) (σ : Mm) : JR E NT 4 p l e rm_X6_counted s m args below meth c 0 0 (fun r => MQ below (xQi E (NT + 0) r) args s 0 0 (xA E)) 143 [(0, .ref (E.B + a0)), (1, .int v1), (3, .int v3)] [.int s0] σ (f_X6_counted_143 N K118 a0 v1 v3 s0 σ) := by
  show JR E NT 4 p l e rm_X6_counted s m args below meth c 0 0 (fun r => MQ below (xQi E (NT + 0) r) args s 0 0 (xA E)) 143 [(0, .ref (E.B + a0)), (1, .int v1), (3, .int v3)] [.int s0] σ (f_X6_counted_144 N K118 a0 v1 v3 (0 : Int32) s0 (σ))
  refine jr_iconst (v := (0 : Int32)) hG dX6_counted_143 (by decide) ?_
  exact w_X6_counted_144 N hG hr hk hK118 a0 v1 v3 (0 : Int32) s0 ha0 (σ)
def f_X6_counted_118 (N : Nat)  : Nat → Nat → Int32 → Int32 → Int32 → Mm → Option (Int32 × Mm)
  | 0 => fun _ _ _ _ _ => none
  | n + 1 => fun a0 v1 v2 v3 σ => if (3 : Int32) ≤ v3 then (if v1 = (0 : Int32) then (some (gi σ a0 10, σ)) else (if v1 = (1 : Int32) then (bR (gr σ a0 19) (okA 0) (fun o9 => if inb (12 : Int32) (arL o9) then (some (gi σ o9 (ix (12 : Int32)), σ)) else none)) else (if v1 = (2 : Int32) then (bR (gr σ a0 19) (okA 0) (fun o10 => if inb (13 : Int32) (arL o10) then (some (gi σ o10 (ix (13 : Int32)), σ)) else none)) else (if v1 = (3 : Int32) then (bI (f_X6_signMany N a0 (σ)) (fun r12 t11 => some (r12, t11))) else (if v1 = (4 : Int32) then (some (gi σ a0 22, σ)) else (some (v2, σ))))))) else (if v1 = (8 : Int32) then (bR (gr σ a0 24) (okA 2) (fun o13 => if inb v3 (arL o13) then (if (gi σ o13 (ix v3)) = 0 then (f_X6_counted_143 N (f_X6_counted_118 N n) a0 v1 v3 v2 (σ)) else (f_X6_counted_144 N (f_X6_counted_118 N n) a0 v1 v3 (1 : Int32) v2 (σ))) else none)) else (f_X6_counted_143 N (f_X6_counted_118 N n) a0 v1 v3 v2 (σ)))
set_option maxRecDepth 20000 in
theorem w_X6_counted_118 {p : Program} {l : Launch} {e : Env} {s : State} {m : MethodId} {args : Array Value} {below : List Frame} {meth : Method} {c : Code} {E : XE} (N : Nat) (hG : GG E NT 4 RX6 cX6_counted p s m args c) (hr : meth.sig.returnType = (some .int)) (hk : meth.locks = false)  : ∀ (n : Nat) (a0 : Nat) (v1 : Int32) (v2 : Int32) (v3 : Int32) (ha0 : okO 6 a0 = true) (σ : Mm), JR E NT 4 p l e rm_X6_counted s m args below meth c 0 0 (fun r => MQ below (xQi E (NT + 0) r) args s 0 0 (xA E)) 118 [(0, .ref (E.B + a0)), (1, .int v1), (2, .int v2), (3, .int v3)] [] σ (f_X6_counted_118 N n a0 v1 v2 v3 σ) := by
  intro n
  induction n with
  | zero => intro a0 v1 v2 v3 ha0 σ r hX; cases hX
  | succ n ih =>
    intro a0 v1 v2 v3 ha0 σ
    show JR E NT 4 p l e rm_X6_counted s m args below meth c 0 0 (fun r => MQ below (xQi E (NT + 0) r) args s 0 0 (xA E)) 118 [(0, .ref (E.B + a0)), (1, .int v1), (2, .int v2), (3, .int v3)] [] σ (if (3 : Int32) ≤ v3 then (if v1 = (0 : Int32) then (some (gi σ a0 10, σ)) else (if v1 = (1 : Int32) then (bR (gr σ a0 19) (okA 0) (fun o9 => if inb (12 : Int32) (arL o9) then (some (gi σ o9 (ix (12 : Int32)), σ)) else none)) else (if v1 = (2 : Int32) then (bR (gr σ a0 19) (okA 0) (fun o10 => if inb (13 : Int32) (arL o10) then (some (gi σ o10 (ix (13 : Int32)), σ)) else none)) else (if v1 = (3 : Int32) then (bI (f_X6_signMany N a0 (σ)) (fun r12 t11 => some (r12, t11))) else (if v1 = (4 : Int32) then (some (gi σ a0 22, σ)) else (some (v2, σ))))))) else (if v1 = (8 : Int32) then (bR (gr σ a0 24) (okA 2) (fun o13 => if inb v3 (arL o13) then (if (gi σ o13 (ix v3)) = 0 then (f_X6_counted_143 N (f_X6_counted_118 N n) a0 v1 v3 v2 (σ)) else (f_X6_counted_144 N (f_X6_counted_118 N n) a0 v1 v3 (1 : Int32) v2 (σ))) else none)) else (f_X6_counted_143 N (f_X6_counted_118 N n) a0 v1 v3 v2 (σ))))
    refine jr_iload_n hG 3 dX6_counted_118 rfl rfl ?_
    refine jr_iconst (v := (3 : Int32)) hG dX6_counted_119 (by decide) ?_
    refine jr_icmp_ge hG 152 dX6_counted_120 (by decide) (fun _ => ?_) (fun _ => ?_)
    · refine jr_iload_n hG 1 dX6_counted_152 rfl rfl ?_
      refine jr_ite (fun hs0 => ?_) (fun hs0 => ?_)
      · refine jr_tabIn (off := 35) hG 188 dX6_counted_153 (0 : Int32) hs0 (by decide) ?_
        refine jr_aload_n hG 0 dX6_counted_188 rfl rfl ?_
        refine jr_getI hG fi_RX6_147 rfl (okO_s ha0) (okO_l ha0) dX6_counted_189 ?_
        exact jr_iret hG hr hk dX6_counted_192
      refine jr_ite (fun hs1 => ?_) (fun hs1 => ?_)
      · refine jr_tabIn (off := 40) hG 193 dX6_counted_153 (1 : Int32) hs1 (by decide) ?_
        refine jr_aload_n hG 0 dX6_counted_193 rfl rfl ?_
        refine jr_getR hG fi_RX6_48 rfl (okO_s ha0) (okO_l ha0) dX6_counted_194 (fun o9 ho9 => ?_)
        refine jr_bipush (v := (12 : Int32)) hG dX6_counted_197 (by decide) ?_
        refine jr_iald hG (okA_s (by decide) ho9) (okA_l ho9) dX6_counted_199 ?_
        exact jr_iret hG hr hk dX6_counted_200
      refine jr_ite (fun hs2 => ?_) (fun hs2 => ?_)
      · refine jr_tabIn (off := 48) hG 201 dX6_counted_153 (2 : Int32) hs2 (by decide) ?_
        refine jr_aload_n hG 0 dX6_counted_201 rfl rfl ?_
        refine jr_getR hG fi_RX6_48 rfl (okO_s ha0) (okO_l ha0) dX6_counted_202 (fun o10 ho10 => ?_)
        refine jr_bipush (v := (13 : Int32)) hG dX6_counted_205 (by decide) ?_
        refine jr_iald hG (okA_s (by decide) ho10) (okA_l ho10) dX6_counted_207 ?_
        exact jr_iret hG hr hk dX6_counted_208
      refine jr_ite (fun hs3 => ?_) (fun hs3 => ?_)
      · refine jr_tabIn (off := 56) hG 209 dX6_counted_153 (3 : Int32) hs3 (by decide) ?_
        refine jr_aload_n hG 0 dX6_counted_209 rfl rfl ?_
        refine jr_callVi (As := []) hG (c_X6_signMany l E N a0 (σ)) ci_X6_signMany wd_1024 ⟨wd_1026, wd_42⟩ cl_6 (okO_s ha0) (okO_l ha0) ⟨rfl, rfl, Nat.le_of_ble_eq_true rfl, Nat.le_of_ble_eq_true rfl⟩ rfl rfl (Nat.le_of_ble_eq_true rfl) dX6_counted_210 ⟨Nat.le_refl _, Nat.le_refl _⟩ (fun r12 t11 => ?_)
        exact jr_iret hG hr hk dX6_counted_213
      refine jr_ite (fun hs4 => ?_) (fun hs4 => ?_)
      · refine jr_tabIn (off := 61) hG 214 dX6_counted_153 (4 : Int32) hs4 (by decide) ?_
        refine jr_aload_n hG 0 dX6_counted_214 rfl rfl ?_
        refine jr_getI hG fi_RX6_150 rfl (okO_s ha0) (okO_l ha0) dX6_counted_215 ?_
        exact jr_iret hG hr hk dX6_counted_218
      refine jr_tabOut hG 219 dX6_counted_153 (tab_out0_4 hs0 hs1 hs2 hs3 hs4) (by decide) ?_
      refine jr_iload_n hG 2 dX6_counted_219 rfl rfl ?_
      exact jr_iret hG hr hk dX6_counted_220
    · refine jr_iload_n hG 2 dX6_counted_123 rfl rfl ?_
      refine jr_iload_n hG 1 dX6_counted_124 rfl rfl ?_
      refine jr_bipush (v := (8 : Int32)) hG dX6_counted_125 (by decide) ?_
      refine jr_icmp_ne hG 143 dX6_counted_127 (by decide) (fun _ => ?_) (fun _ => ?_)
      · refine jr_sub (lv' := [(0, .ref (E.B + a0)), (1, .int v1), (3, .int v3)]) [0, 1, 3] rfl ?_
        exact w_X6_counted_143 N hG hr hk ih a0 v1 v3 v2 ha0 (σ)
      · refine jr_aload_n hG 0 dX6_counted_130 rfl rfl ?_
        refine jr_getR hG fi_RX6_60 rfl (okO_s ha0) (okO_l ha0) dX6_counted_131 (fun o13 ho13 => ?_)
        refine jr_iload_n hG 3 dX6_counted_134 rfl rfl ?_
        refine jr_zald hG (okA_s (by decide) ho13) (okA_l ho13) dX6_counted_135 ?_
        refine jr_if_eq hG 143 dX6_counted_136 (by decide) (fun _ => ?_) (fun _ => ?_)
        · refine jr_sub (lv' := [(0, .ref (E.B + a0)), (1, .int v1), (3, .int v3)]) [0, 1, 3] rfl ?_
          exact w_X6_counted_143 N hG hr hk ih a0 v1 v3 v2 ha0 (σ)
        · refine jr_iconst (v := (1 : Int32)) hG dX6_counted_139 (by decide) ?_
          refine jr_goto hG 144 dX6_counted_140 (by decide) ?_
          refine jr_sub (lv' := [(0, .ref (E.B + a0)), (1, .int v1), (3, .int v3)]) [0, 1, 3] rfl ?_
          exact w_X6_counted_144 N hG hr hk ih a0 v1 v3 (1 : Int32) v2 ha0 (σ)
def f_X6_counted_108 (N : Nat) (K82 : Nat → Int32 → Int32 → Int32 → Mm → Option (Int32 × Mm)) (a0 : Nat) (v1 : Int32) (v3 : Int32) (s0 : Int32) (s1 : Int32) (σ : Mm) : Option (Int32 × Mm) := lt (s1 + s0) (fun x8 => K82 a0 v1 x8 (v3 + (1 : Int32)) (σ))
set_option maxRecDepth 20000 in
theorem w_X6_counted_108 {p : Program} {l : Launch} {e : Env} {s : State} {m : MethodId} {args : Array Value} {below : List Frame} {meth : Method} {c : Code} {E : XE} (N : Nat) (hG : GG E NT 4 RX6 cX6_counted p s m args c) (hr : meth.sig.returnType = (some .int)) (hk : meth.locks = false) {K82 : Nat → Int32 → Int32 → Int32 → Mm → Option (Int32 × Mm)} (hK82 : ∀ (a0 : Nat) (v1 : Int32) (v2 : Int32) (v3 : Int32) (ha0 : okO 6 a0 = true) (σ : Mm), JR E NT 4 p l e rm_X6_counted s m args below meth c 0 0 (fun r => MQ below (xQi E (NT + 0) r) args s 0 0 (xA E)) 82 [(0, .ref (E.B + a0)), (1, .int v1), (2, .int v2), (3, .int v3)] [] σ (K82 a0 v1 v2 v3 σ)) (a0 : Nat) (v1 : Int32) (v3 : Int32) (s0 : Int32) (s1 : Int32) (ha0 : okO 6 a0 = true) (σ : Mm) : JR E NT 4 p l e rm_X6_counted s m args below meth c 0 0 (fun r => MQ below (xQi E (NT + 0) r) args s 0 0 (xA E)) 108 [(0, .ref (E.B + a0)), (1, .int v1), (3, .int v3)] [.int s0, .int s1] σ (f_X6_counted_108 N K82 a0 v1 v3 s0 s1 σ) := by
  show JR E NT 4 p l e rm_X6_counted s m args below meth c 0 0 (fun r => MQ below (xQi E (NT + 0) r) args s 0 0 (xA E)) 108 [(0, .ref (E.B + a0)), (1, .int v1), (3, .int v3)] [.int s0, .int s1] σ (lt (s1 + s0) (fun x8 => K82 a0 v1 x8 (v3 + (1 : Int32)) (σ)))
  refine jr_iadd hG dX6_counted_108 ?_
  refine jr_leti (fun x8 _ => ?_)
  refine jr_istore_n (lv' := [(2, .int x8), (0, .ref (E.B + a0)), (1, .int v1), (3, .int v3)]) hG dX6_counted_109 rfl (by decide) rfl ?_
  refine jr_iinc (v := v3 + (1 : Int32)) (lv' := [(3, .int (v3 + (1 : Int32))), (2, .int x8), (0, .ref (E.B + a0)), (1, .int v1)]) hG 3 dX6_counted_110 rfl rfl (by decide) rfl ?_
  refine jr_goto hG 82 dX6_counted_113 (by decide) ?_
  refine jr_sub (lv' := [(0, .ref (E.B + a0)), (1, .int v1), (2, .int x8), (3, .int (v3 + (1 : Int32)))]) [2, 3, 1, 0] rfl ?_
  exact hK82 a0 v1 x8 (v3 + (1 : Int32)) ha0 (σ)
def f_X6_counted_107 (N : Nat) (K82 : Nat → Int32 → Int32 → Int32 → Mm → Option (Int32 × Mm)) (a0 : Nat) (v1 : Int32) (v3 : Int32) (s0 : Int32) (σ : Mm) : Option (Int32 × Mm) := f_X6_counted_108 N K82 a0 v1 v3 (0 : Int32) s0 (σ)
set_option maxRecDepth 20000 in
theorem w_X6_counted_107 {p : Program} {l : Launch} {e : Env} {s : State} {m : MethodId} {args : Array Value} {below : List Frame} {meth : Method} {c : Code} {E : XE} (N : Nat) (hG : GG E NT 4 RX6 cX6_counted p s m args c) (hr : meth.sig.returnType = (some .int)) (hk : meth.locks = false) {K82 : Nat → Int32 → Int32 → Int32 → Mm → Option (Int32 × Mm)} (hK82 : ∀ (a0 : Nat) (v1 : Int32) (v2 : Int32) (v3 : Int32) (ha0 : okO 6 a0 = true) (σ : Mm), JR E NT 4 p l e rm_X6_counted s m args below meth c 0 0 (fun r => MQ below (xQi E (NT + 0) r) args s 0 0 (xA E)) 82 [(0, .ref (E.B + a0)), (1, .int v1), (2, .int v2), (3, .int v3)] [] σ (K82 a0 v1 v2 v3 σ)) (a0 : Nat) (v1 : Int32) (v3 : Int32) (s0 : Int32) (ha0 : okO 6 a0 = true) (σ : Mm) : JR E NT 4 p l e rm_X6_counted s m args below meth c 0 0 (fun r => MQ below (xQi E (NT + 0) r) args s 0 0 (xA E)) 107 [(0, .ref (E.B + a0)), (1, .int v1), (3, .int v3)] [.int s0] σ (f_X6_counted_107 N K82 a0 v1 v3 s0 σ) := by
  show JR E NT 4 p l e rm_X6_counted s m args below meth c 0 0 (fun r => MQ below (xQi E (NT + 0) r) args s 0 0 (xA E)) 107 [(0, .ref (E.B + a0)), (1, .int v1), (3, .int v3)] [.int s0] σ (f_X6_counted_108 N K82 a0 v1 v3 (0 : Int32) s0 (σ))
  refine jr_iconst (v := (0 : Int32)) hG dX6_counted_107 (by decide) ?_
  exact w_X6_counted_108 N hG hr hk hK82 a0 v1 v3 (0 : Int32) s0 ha0 (σ)
def f_X6_counted_82 (N : Nat)  : Nat → Nat → Int32 → Int32 → Int32 → Mm → Option (Int32 × Mm)
  | 0 => fun _ _ _ _ _ => none
  | n + 1 => fun a0 v1 v2 v3 σ => if (4 : Int32) ≤ v3 then (f_X6_counted_118 N N a0 v1 v2 (0 : Int32) (σ)) else (if v1 = (7 : Int32) then (bR (gr σ a0 8) (okA 0) (fun o7 => if inb v3 (arL o7) then (if (gi σ o7 (ix v3)) < 0 then (f_X6_counted_107 N (f_X6_counted_82 N n) a0 v1 v3 v2 (σ)) else (f_X6_counted_108 N (f_X6_counted_82 N n) a0 v1 v3 (1 : Int32) v2 (σ))) else none)) else (f_X6_counted_107 N (f_X6_counted_82 N n) a0 v1 v3 v2 (σ)))
set_option maxRecDepth 20000 in
theorem w_X6_counted_82 {p : Program} {l : Launch} {e : Env} {s : State} {m : MethodId} {args : Array Value} {below : List Frame} {meth : Method} {c : Code} {E : XE} (N : Nat) (hG : GG E NT 4 RX6 cX6_counted p s m args c) (hr : meth.sig.returnType = (some .int)) (hk : meth.locks = false)  : ∀ (n : Nat) (a0 : Nat) (v1 : Int32) (v2 : Int32) (v3 : Int32) (ha0 : okO 6 a0 = true) (σ : Mm), JR E NT 4 p l e rm_X6_counted s m args below meth c 0 0 (fun r => MQ below (xQi E (NT + 0) r) args s 0 0 (xA E)) 82 [(0, .ref (E.B + a0)), (1, .int v1), (2, .int v2), (3, .int v3)] [] σ (f_X6_counted_82 N n a0 v1 v2 v3 σ) := by
  intro n
  induction n with
  | zero => intro a0 v1 v2 v3 ha0 σ r hX; cases hX
  | succ n ih =>
    intro a0 v1 v2 v3 ha0 σ
    show JR E NT 4 p l e rm_X6_counted s m args below meth c 0 0 (fun r => MQ below (xQi E (NT + 0) r) args s 0 0 (xA E)) 82 [(0, .ref (E.B + a0)), (1, .int v1), (2, .int v2), (3, .int v3)] [] σ (if (4 : Int32) ≤ v3 then (f_X6_counted_118 N N a0 v1 v2 (0 : Int32) (σ)) else (if v1 = (7 : Int32) then (bR (gr σ a0 8) (okA 0) (fun o7 => if inb v3 (arL o7) then (if (gi σ o7 (ix v3)) < 0 then (f_X6_counted_107 N (f_X6_counted_82 N n) a0 v1 v3 v2 (σ)) else (f_X6_counted_108 N (f_X6_counted_82 N n) a0 v1 v3 (1 : Int32) v2 (σ))) else none)) else (f_X6_counted_107 N (f_X6_counted_82 N n) a0 v1 v3 v2 (σ))))
    refine jr_iload_n hG 3 dX6_counted_82 rfl rfl ?_
    refine jr_iconst (v := (4 : Int32)) hG dX6_counted_83 (by decide) ?_
    refine jr_icmp_ge hG 116 dX6_counted_84 (by decide) (fun _ => ?_) (fun _ => ?_)
    · refine jr_iconst (v := (0 : Int32)) hG dX6_counted_116 (by decide) ?_
      refine jr_istore_n (lv' := [(3, .int (0 : Int32)), (0, .ref (E.B + a0)), (1, .int v1), (2, .int v2)]) hG dX6_counted_117 rfl (by decide) rfl ?_
      refine jr_sub (lv' := [(0, .ref (E.B + a0)), (1, .int v1), (2, .int v2), (3, .int (0 : Int32))]) [1, 2, 3, 0] rfl ?_
      exact w_X6_counted_118 N hG hr hk N a0 v1 v2 (0 : Int32) ha0 (σ)
    · refine jr_iload_n hG 2 dX6_counted_87 rfl rfl ?_
      refine jr_iload_n hG 1 dX6_counted_88 rfl rfl ?_
      refine jr_bipush (v := (7 : Int32)) hG dX6_counted_89 (by decide) ?_
      refine jr_icmp_ne hG 107 dX6_counted_91 (by decide) (fun _ => ?_) (fun _ => ?_)
      · refine jr_sub (lv' := [(0, .ref (E.B + a0)), (1, .int v1), (3, .int v3)]) [0, 1, 3] rfl ?_
        exact w_X6_counted_107 N hG hr hk ih a0 v1 v3 v2 ha0 (σ)
      · refine jr_aload_n hG 0 dX6_counted_94 rfl rfl ?_
        refine jr_getR hG fi_RX6_26 rfl (okO_s ha0) (okO_l ha0) dX6_counted_95 (fun o7 ho7 => ?_)
        refine jr_iload_n hG 3 dX6_counted_98 rfl rfl ?_
        refine jr_iald hG (okA_s (by decide) ho7) (okA_l ho7) dX6_counted_99 ?_
        refine jr_if_lt hG 107 dX6_counted_100 (by decide) (fun _ => ?_) (fun _ => ?_)
        · refine jr_sub (lv' := [(0, .ref (E.B + a0)), (1, .int v1), (3, .int v3)]) [0, 1, 3] rfl ?_
          exact w_X6_counted_107 N hG hr hk ih a0 v1 v3 v2 ha0 (σ)
        · refine jr_iconst (v := (1 : Int32)) hG dX6_counted_103 (by decide) ?_
          refine jr_goto hG 108 dX6_counted_104 (by decide) ?_
          refine jr_sub (lv' := [(0, .ref (E.B + a0)), (1, .int v1), (3, .int v3)]) [0, 1, 3] rfl ?_
          exact w_X6_counted_108 N hG hr hk ih a0 v1 v3 (1 : Int32) v2 ha0 (σ)
def f_X6_counted_72 (N : Nat) (K45 : Nat → Int32 → Int32 → Int32 → Mm → Option (Int32 × Mm)) (a0 : Nat) (v1 : Int32) (v3 : Int32) (s0 : Int32) (s1 : Int32) (σ : Mm) : Option (Int32 × Mm) := lt (s1 + s0) (fun x6 => K45 a0 v1 x6 (v3 + (1 : Int32)) (σ))
set_option maxRecDepth 20000 in
theorem w_X6_counted_72 {p : Program} {l : Launch} {e : Env} {s : State} {m : MethodId} {args : Array Value} {below : List Frame} {meth : Method} {c : Code} {E : XE} (N : Nat) (hG : GG E NT 4 RX6 cX6_counted p s m args c) (hr : meth.sig.returnType = (some .int)) (hk : meth.locks = false) {K45 : Nat → Int32 → Int32 → Int32 → Mm → Option (Int32 × Mm)} (hK45 : ∀ (a0 : Nat) (v1 : Int32) (v2 : Int32) (v3 : Int32) (ha0 : okO 6 a0 = true) (σ : Mm), JR E NT 4 p l e rm_X6_counted s m args below meth c 0 0 (fun r => MQ below (xQi E (NT + 0) r) args s 0 0 (xA E)) 45 [(0, .ref (E.B + a0)), (1, .int v1), (2, .int v2), (3, .int v3)] [] σ (K45 a0 v1 v2 v3 σ)) (a0 : Nat) (v1 : Int32) (v3 : Int32) (s0 : Int32) (s1 : Int32) (ha0 : okO 6 a0 = true) (σ : Mm) : JR E NT 4 p l e rm_X6_counted s m args below meth c 0 0 (fun r => MQ below (xQi E (NT + 0) r) args s 0 0 (xA E)) 72 [(0, .ref (E.B + a0)), (1, .int v1), (3, .int v3)] [.int s0, .int s1] σ (f_X6_counted_72 N K45 a0 v1 v3 s0 s1 σ) := by
  show JR E NT 4 p l e rm_X6_counted s m args below meth c 0 0 (fun r => MQ below (xQi E (NT + 0) r) args s 0 0 (xA E)) 72 [(0, .ref (E.B + a0)), (1, .int v1), (3, .int v3)] [.int s0, .int s1] σ (lt (s1 + s0) (fun x6 => K45 a0 v1 x6 (v3 + (1 : Int32)) (σ)))
  refine jr_iadd hG dX6_counted_72 ?_
  refine jr_leti (fun x6 _ => ?_)
  refine jr_istore_n (lv' := [(2, .int x6), (0, .ref (E.B + a0)), (1, .int v1), (3, .int v3)]) hG dX6_counted_73 rfl (by decide) rfl ?_
  refine jr_iinc (v := v3 + (1 : Int32)) (lv' := [(3, .int (v3 + (1 : Int32))), (2, .int x6), (0, .ref (E.B + a0)), (1, .int v1)]) hG 3 dX6_counted_74 rfl rfl (by decide) rfl ?_
  refine jr_goto hG 45 dX6_counted_77 (by decide) ?_
  refine jr_sub (lv' := [(0, .ref (E.B + a0)), (1, .int v1), (2, .int x6), (3, .int (v3 + (1 : Int32)))]) [2, 3, 1, 0] rfl ?_
  exact hK45 a0 v1 x6 (v3 + (1 : Int32)) ha0 (σ)
def f_X6_counted_71 (N : Nat) (K45 : Nat → Int32 → Int32 → Int32 → Mm → Option (Int32 × Mm)) (a0 : Nat) (v1 : Int32) (v3 : Int32) (s0 : Int32) (σ : Mm) : Option (Int32 × Mm) := f_X6_counted_72 N K45 a0 v1 v3 (0 : Int32) s0 (σ)
set_option maxRecDepth 20000 in
theorem w_X6_counted_71 {p : Program} {l : Launch} {e : Env} {s : State} {m : MethodId} {args : Array Value} {below : List Frame} {meth : Method} {c : Code} {E : XE} (N : Nat) (hG : GG E NT 4 RX6 cX6_counted p s m args c) (hr : meth.sig.returnType = (some .int)) (hk : meth.locks = false) {K45 : Nat → Int32 → Int32 → Int32 → Mm → Option (Int32 × Mm)} (hK45 : ∀ (a0 : Nat) (v1 : Int32) (v2 : Int32) (v3 : Int32) (ha0 : okO 6 a0 = true) (σ : Mm), JR E NT 4 p l e rm_X6_counted s m args below meth c 0 0 (fun r => MQ below (xQi E (NT + 0) r) args s 0 0 (xA E)) 45 [(0, .ref (E.B + a0)), (1, .int v1), (2, .int v2), (3, .int v3)] [] σ (K45 a0 v1 v2 v3 σ)) (a0 : Nat) (v1 : Int32) (v3 : Int32) (s0 : Int32) (ha0 : okO 6 a0 = true) (σ : Mm) : JR E NT 4 p l e rm_X6_counted s m args below meth c 0 0 (fun r => MQ below (xQi E (NT + 0) r) args s 0 0 (xA E)) 71 [(0, .ref (E.B + a0)), (1, .int v1), (3, .int v3)] [.int s0] σ (f_X6_counted_71 N K45 a0 v1 v3 s0 σ) := by
  show JR E NT 4 p l e rm_X6_counted s m args below meth c 0 0 (fun r => MQ below (xQi E (NT + 0) r) args s 0 0 (xA E)) 71 [(0, .ref (E.B + a0)), (1, .int v1), (3, .int v3)] [.int s0] σ (f_X6_counted_72 N K45 a0 v1 v3 (0 : Int32) s0 (σ))
  refine jr_iconst (v := (0 : Int32)) hG dX6_counted_71 (by decide) ?_
  exact w_X6_counted_72 N hG hr hk hK45 a0 v1 v3 (0 : Int32) s0 ha0 (σ)
def f_X6_counted_45 (N : Nat)  : Nat → Nat → Int32 → Int32 → Int32 → Mm → Option (Int32 × Mm)
  | 0 => fun _ _ _ _ _ => none
  | n + 1 => fun a0 v1 v2 v3 σ => if (6 : Int32) ≤ v3 then (f_X6_counted_82 N N a0 v1 v2 (0 : Int32) (σ)) else (if v1 = (6 : Int32) then (bR (gr σ a0 5) (okA 0) (fun o5 => if inb v3 (arL o5) then (if (gi σ o5 (ix v3)) < 0 then (f_X6_counted_71 N (f_X6_counted_45 N n) a0 v1 v3 v2 (σ)) else (f_X6_counted_72 N (f_X6_counted_45 N n) a0 v1 v3 (1 : Int32) v2 (σ))) else none)) else (f_X6_counted_71 N (f_X6_counted_45 N n) a0 v1 v3 v2 (σ)))
set_option maxRecDepth 20000 in
theorem w_X6_counted_45 {p : Program} {l : Launch} {e : Env} {s : State} {m : MethodId} {args : Array Value} {below : List Frame} {meth : Method} {c : Code} {E : XE} (N : Nat) (hG : GG E NT 4 RX6 cX6_counted p s m args c) (hr : meth.sig.returnType = (some .int)) (hk : meth.locks = false)  : ∀ (n : Nat) (a0 : Nat) (v1 : Int32) (v2 : Int32) (v3 : Int32) (ha0 : okO 6 a0 = true) (σ : Mm), JR E NT 4 p l e rm_X6_counted s m args below meth c 0 0 (fun r => MQ below (xQi E (NT + 0) r) args s 0 0 (xA E)) 45 [(0, .ref (E.B + a0)), (1, .int v1), (2, .int v2), (3, .int v3)] [] σ (f_X6_counted_45 N n a0 v1 v2 v3 σ) := by
  intro n
  induction n with
  | zero => intro a0 v1 v2 v3 ha0 σ r hX; cases hX
  | succ n ih =>
    intro a0 v1 v2 v3 ha0 σ
    show JR E NT 4 p l e rm_X6_counted s m args below meth c 0 0 (fun r => MQ below (xQi E (NT + 0) r) args s 0 0 (xA E)) 45 [(0, .ref (E.B + a0)), (1, .int v1), (2, .int v2), (3, .int v3)] [] σ (if (6 : Int32) ≤ v3 then (f_X6_counted_82 N N a0 v1 v2 (0 : Int32) (σ)) else (if v1 = (6 : Int32) then (bR (gr σ a0 5) (okA 0) (fun o5 => if inb v3 (arL o5) then (if (gi σ o5 (ix v3)) < 0 then (f_X6_counted_71 N (f_X6_counted_45 N n) a0 v1 v3 v2 (σ)) else (f_X6_counted_72 N (f_X6_counted_45 N n) a0 v1 v3 (1 : Int32) v2 (σ))) else none)) else (f_X6_counted_71 N (f_X6_counted_45 N n) a0 v1 v3 v2 (σ))))
    refine jr_iload_n hG 3 dX6_counted_45 rfl rfl ?_
    refine jr_bipush (v := (6 : Int32)) hG dX6_counted_46 (by decide) ?_
    refine jr_icmp_ge hG 80 dX6_counted_48 (by decide) (fun _ => ?_) (fun _ => ?_)
    · refine jr_iconst (v := (0 : Int32)) hG dX6_counted_80 (by decide) ?_
      refine jr_istore_n (lv' := [(3, .int (0 : Int32)), (0, .ref (E.B + a0)), (1, .int v1), (2, .int v2)]) hG dX6_counted_81 rfl (by decide) rfl ?_
      refine jr_sub (lv' := [(0, .ref (E.B + a0)), (1, .int v1), (2, .int v2), (3, .int (0 : Int32))]) [1, 2, 3, 0] rfl ?_
      exact w_X6_counted_82 N hG hr hk N a0 v1 v2 (0 : Int32) ha0 (σ)
    · refine jr_iload_n hG 2 dX6_counted_51 rfl rfl ?_
      refine jr_iload_n hG 1 dX6_counted_52 rfl rfl ?_
      refine jr_bipush (v := (6 : Int32)) hG dX6_counted_53 (by decide) ?_
      refine jr_icmp_ne hG 71 dX6_counted_55 (by decide) (fun _ => ?_) (fun _ => ?_)
      · refine jr_sub (lv' := [(0, .ref (E.B + a0)), (1, .int v1), (3, .int v3)]) [0, 1, 3] rfl ?_
        exact w_X6_counted_71 N hG hr hk ih a0 v1 v3 v2 ha0 (σ)
      · refine jr_aload_n hG 0 dX6_counted_58 rfl rfl ?_
        refine jr_getR hG fi_RX6_17 rfl (okO_s ha0) (okO_l ha0) dX6_counted_59 (fun o5 ho5 => ?_)
        refine jr_iload_n hG 3 dX6_counted_62 rfl rfl ?_
        refine jr_iald hG (okA_s (by decide) ho5) (okA_l ho5) dX6_counted_63 ?_
        refine jr_if_lt hG 71 dX6_counted_64 (by decide) (fun _ => ?_) (fun _ => ?_)
        · refine jr_sub (lv' := [(0, .ref (E.B + a0)), (1, .int v1), (3, .int v3)]) [0, 1, 3] rfl ?_
          exact w_X6_counted_71 N hG hr hk ih a0 v1 v3 v2 ha0 (σ)
        · refine jr_iconst (v := (1 : Int32)) hG dX6_counted_67 (by decide) ?_
          refine jr_goto hG 72 dX6_counted_68 (by decide) ?_
          refine jr_sub (lv' := [(0, .ref (E.B + a0)), (1, .int v1), (3, .int v3)]) [0, 1, 3] rfl ?_
          exact w_X6_counted_72 N hG hr hk ih a0 v1 v3 (1 : Int32) v2 ha0 (σ)
def f_X6_counted_35 (N : Nat) (K4 : Nat → Int32 → Int32 → Int32 → Mm → Option (Int32 × Mm)) (a0 : Nat) (v1 : Int32) (v3 : Int32) (s0 : Int32) (s1 : Int32) (σ : Mm) : Option (Int32 × Mm) := lt (s1 + s0) (fun x4 => K4 a0 v1 x4 (v3 + (1 : Int32)) (σ))
set_option maxRecDepth 20000 in
theorem w_X6_counted_35 {p : Program} {l : Launch} {e : Env} {s : State} {m : MethodId} {args : Array Value} {below : List Frame} {meth : Method} {c : Code} {E : XE} (N : Nat) (hG : GG E NT 4 RX6 cX6_counted p s m args c) (hr : meth.sig.returnType = (some .int)) (hk : meth.locks = false) {K4 : Nat → Int32 → Int32 → Int32 → Mm → Option (Int32 × Mm)} (hK4 : ∀ (a0 : Nat) (v1 : Int32) (v2 : Int32) (v3 : Int32) (ha0 : okO 6 a0 = true) (σ : Mm), JR E NT 4 p l e rm_X6_counted s m args below meth c 0 0 (fun r => MQ below (xQi E (NT + 0) r) args s 0 0 (xA E)) 4 [(0, .ref (E.B + a0)), (1, .int v1), (2, .int v2), (3, .int v3)] [] σ (K4 a0 v1 v2 v3 σ)) (a0 : Nat) (v1 : Int32) (v3 : Int32) (s0 : Int32) (s1 : Int32) (ha0 : okO 6 a0 = true) (σ : Mm) : JR E NT 4 p l e rm_X6_counted s m args below meth c 0 0 (fun r => MQ below (xQi E (NT + 0) r) args s 0 0 (xA E)) 35 [(0, .ref (E.B + a0)), (1, .int v1), (3, .int v3)] [.int s0, .int s1] σ (f_X6_counted_35 N K4 a0 v1 v3 s0 s1 σ) := by
  show JR E NT 4 p l e rm_X6_counted s m args below meth c 0 0 (fun r => MQ below (xQi E (NT + 0) r) args s 0 0 (xA E)) 35 [(0, .ref (E.B + a0)), (1, .int v1), (3, .int v3)] [.int s0, .int s1] σ (lt (s1 + s0) (fun x4 => K4 a0 v1 x4 (v3 + (1 : Int32)) (σ)))
  refine jr_iadd hG dX6_counted_35 ?_
  refine jr_leti (fun x4 _ => ?_)
  refine jr_istore_n (lv' := [(2, .int x4), (0, .ref (E.B + a0)), (1, .int v1), (3, .int v3)]) hG dX6_counted_36 rfl (by decide) rfl ?_
  refine jr_iinc (v := v3 + (1 : Int32)) (lv' := [(3, .int (v3 + (1 : Int32))), (2, .int x4), (0, .ref (E.B + a0)), (1, .int v1)]) hG 3 dX6_counted_37 rfl rfl (by decide) rfl ?_
  refine jr_goto hG 4 dX6_counted_40 (by decide) ?_
  refine jr_sub (lv' := [(0, .ref (E.B + a0)), (1, .int v1), (2, .int x4), (3, .int (v3 + (1 : Int32)))]) [2, 3, 1, 0] rfl ?_
  exact hK4 a0 v1 x4 (v3 + (1 : Int32)) ha0 (σ)
def f_X6_counted_34 (N : Nat) (K4 : Nat → Int32 → Int32 → Int32 → Mm → Option (Int32 × Mm)) (a0 : Nat) (v1 : Int32) (v3 : Int32) (s0 : Int32) (σ : Mm) : Option (Int32 × Mm) := f_X6_counted_35 N K4 a0 v1 v3 (0 : Int32) s0 (σ)
set_option maxRecDepth 20000 in
theorem w_X6_counted_34 {p : Program} {l : Launch} {e : Env} {s : State} {m : MethodId} {args : Array Value} {below : List Frame} {meth : Method} {c : Code} {E : XE} (N : Nat) (hG : GG E NT 4 RX6 cX6_counted p s m args c) (hr : meth.sig.returnType = (some .int)) (hk : meth.locks = false) {K4 : Nat → Int32 → Int32 → Int32 → Mm → Option (Int32 × Mm)} (hK4 : ∀ (a0 : Nat) (v1 : Int32) (v2 : Int32) (v3 : Int32) (ha0 : okO 6 a0 = true) (σ : Mm), JR E NT 4 p l e rm_X6_counted s m args below meth c 0 0 (fun r => MQ below (xQi E (NT + 0) r) args s 0 0 (xA E)) 4 [(0, .ref (E.B + a0)), (1, .int v1), (2, .int v2), (3, .int v3)] [] σ (K4 a0 v1 v2 v3 σ)) (a0 : Nat) (v1 : Int32) (v3 : Int32) (s0 : Int32) (ha0 : okO 6 a0 = true) (σ : Mm) : JR E NT 4 p l e rm_X6_counted s m args below meth c 0 0 (fun r => MQ below (xQi E (NT + 0) r) args s 0 0 (xA E)) 34 [(0, .ref (E.B + a0)), (1, .int v1), (3, .int v3)] [.int s0] σ (f_X6_counted_34 N K4 a0 v1 v3 s0 σ) := by
  show JR E NT 4 p l e rm_X6_counted s m args below meth c 0 0 (fun r => MQ below (xQi E (NT + 0) r) args s 0 0 (xA E)) 34 [(0, .ref (E.B + a0)), (1, .int v1), (3, .int v3)] [.int s0] σ (f_X6_counted_35 N K4 a0 v1 v3 (0 : Int32) s0 (σ))
  refine jr_iconst (v := (0 : Int32)) hG dX6_counted_34 (by decide) ?_
  exact w_X6_counted_35 N hG hr hk hK4 a0 v1 v3 (0 : Int32) s0 ha0 (σ)
def f_X6_counted_4 (N : Nat)  : Nat → Nat → Int32 → Int32 → Int32 → Mm → Option (Int32 × Mm)
  | 0 => fun _ _ _ _ _ => none
  | n + 1 => fun a0 v1 v2 v3 σ => if (gi σ a0 10) ≤ v3 then (f_X6_counted_45 N N a0 v1 v2 (0 : Int32) (σ)) else (if v1 = (5 : Int32) then (bR (gr σ a0 11) (okA 0) (fun o1 => if inb v3 (arL o1) then (bI (f_X6_isLearner N (gi σ o1 (ix v3)) (σ)) (fun r3 t2 => if r3 = 0 then (f_X6_counted_34 N (f_X6_counted_4 N n) a0 v1 v3 v2 t2) else (f_X6_counted_35 N (f_X6_counted_4 N n) a0 v1 v3 (1 : Int32) v2 t2))) else none)) else (f_X6_counted_34 N (f_X6_counted_4 N n) a0 v1 v3 v2 (σ)))
set_option maxRecDepth 20000 in
theorem w_X6_counted_4 {p : Program} {l : Launch} {e : Env} {s : State} {m : MethodId} {args : Array Value} {below : List Frame} {meth : Method} {c : Code} {E : XE} (N : Nat) (hG : GG E NT 4 RX6 cX6_counted p s m args c) (hr : meth.sig.returnType = (some .int)) (hk : meth.locks = false)  : ∀ (n : Nat) (a0 : Nat) (v1 : Int32) (v2 : Int32) (v3 : Int32) (ha0 : okO 6 a0 = true) (σ : Mm), JR E NT 4 p l e rm_X6_counted s m args below meth c 0 0 (fun r => MQ below (xQi E (NT + 0) r) args s 0 0 (xA E)) 4 [(0, .ref (E.B + a0)), (1, .int v1), (2, .int v2), (3, .int v3)] [] σ (f_X6_counted_4 N n a0 v1 v2 v3 σ) := by
  intro n
  induction n with
  | zero => intro a0 v1 v2 v3 ha0 σ r hX; cases hX
  | succ n ih =>
    intro a0 v1 v2 v3 ha0 σ
    show JR E NT 4 p l e rm_X6_counted s m args below meth c 0 0 (fun r => MQ below (xQi E (NT + 0) r) args s 0 0 (xA E)) 4 [(0, .ref (E.B + a0)), (1, .int v1), (2, .int v2), (3, .int v3)] [] σ (if (gi σ a0 10) ≤ v3 then (f_X6_counted_45 N N a0 v1 v2 (0 : Int32) (σ)) else (if v1 = (5 : Int32) then (bR (gr σ a0 11) (okA 0) (fun o1 => if inb v3 (arL o1) then (bI (f_X6_isLearner N (gi σ o1 (ix v3)) (σ)) (fun r3 t2 => if r3 = 0 then (f_X6_counted_34 N (f_X6_counted_4 N n) a0 v1 v3 v2 t2) else (f_X6_counted_35 N (f_X6_counted_4 N n) a0 v1 v3 (1 : Int32) v2 t2))) else none)) else (f_X6_counted_34 N (f_X6_counted_4 N n) a0 v1 v3 v2 (σ))))
    refine jr_iload_n hG 3 dX6_counted_4 rfl rfl ?_
    refine jr_aload_n hG 0 dX6_counted_5 rfl rfl ?_
    refine jr_getI hG fi_RX6_147 rfl (okO_s ha0) (okO_l ha0) dX6_counted_6 ?_
    refine jr_icmp_ge hG 43 dX6_counted_9 (by decide) (fun _ => ?_) (fun _ => ?_)
    · refine jr_iconst (v := (0 : Int32)) hG dX6_counted_43 (by decide) ?_
      refine jr_istore_n (lv' := [(3, .int (0 : Int32)), (0, .ref (E.B + a0)), (1, .int v1), (2, .int v2)]) hG dX6_counted_44 rfl (by decide) rfl ?_
      refine jr_sub (lv' := [(0, .ref (E.B + a0)), (1, .int v1), (2, .int v2), (3, .int (0 : Int32))]) [1, 2, 3, 0] rfl ?_
      exact w_X6_counted_45 N hG hr hk N a0 v1 v2 (0 : Int32) ha0 (σ)
    · refine jr_iload_n hG 2 dX6_counted_12 rfl rfl ?_
      refine jr_iload_n hG 1 dX6_counted_13 rfl rfl ?_
      refine jr_iconst (v := (5 : Int32)) hG dX6_counted_14 (by decide) ?_
      refine jr_icmp_ne hG 34 dX6_counted_15 (by decide) (fun _ => ?_) (fun _ => ?_)
      · refine jr_sub (lv' := [(0, .ref (E.B + a0)), (1, .int v1), (3, .int v3)]) [0, 1, 3] rfl ?_
        exact w_X6_counted_34 N hG hr hk ih a0 v1 v3 v2 ha0 (σ)
      · refine jr_aload_n hG 0 dX6_counted_18 rfl rfl ?_
        refine jr_getR hG fi_RX6_33 rfl (okO_s ha0) (okO_l ha0) dX6_counted_19 (fun o1 ho1 => ?_)
        refine jr_iload_n hG 3 dX6_counted_22 rfl rfl ?_
        refine jr_iald hG (okA_s (by decide) ho1) (okA_l ho1) dX6_counted_23 ?_
        refine jr_callSi (As := [.int (gi σ o1 (ix v3))]) hG (c_X6_isLearner l E N (gi σ o1 (ix v3)) (σ)) ci_X6_isLearner wd_966 wd_967 ⟨rfl, rfl, Nat.le_of_ble_eq_true rfl, Nat.le_of_ble_eq_true rfl⟩ rfl rfl (Nat.le_of_ble_eq_true rfl) dX6_counted_24 ⟨Nat.le_refl _, Nat.le_refl _⟩ (fun r3 t2 => ?_)
        refine jr_if_eq hG 34 dX6_counted_27 (by decide) (fun _ => ?_) (fun _ => ?_)
        · refine jr_sub (lv' := [(0, .ref (E.B + a0)), (1, .int v1), (3, .int v3)]) [0, 1, 3] rfl ?_
          exact w_X6_counted_34 N hG hr hk ih a0 v1 v3 v2 ha0 t2
        · refine jr_iconst (v := (1 : Int32)) hG dX6_counted_30 (by decide) ?_
          refine jr_goto hG 35 dX6_counted_31 (by decide) ?_
          refine jr_sub (lv' := [(0, .ref (E.B + a0)), (1, .int v1), (3, .int v3)]) [0, 1, 3] rfl ?_
          exact w_X6_counted_35 N hG hr hk ih a0 v1 v3 (1 : Int32) v2 ha0 t2
def f_X6_counted (N : Nat) (a0 : Nat) (v1 : Int32) (σ : Mm) : Option (Int32 × Mm) := if okO 6 a0 then (f_X6_counted_4 N N a0 v1 (0 : Int32) (0 : Int32) (σ)) else none
set_option maxRecDepth 20000 in
theorem c_X6_counted (l : Launch) (E : XE) (N : Nat) (a0 : Nat) (v1 : Int32) (σ : Mm) : ∀ r0, f_X6_counted N a0 v1 σ = some r0 → Met l yX6_counted [Cond.code yX6_counted cX6_counted 4 (some .int)] rm_X6_counted (xPc E (NT + 0) σ [.ref (E.B + a0), .int v1]) (xQi E (NT + 0) r0) 0 0 (xA E) := by
  refine met_of (N0 := NT) (by decide +kernel) (Nat.le_of_ble_eq_true rfl) ?_
  intro p e s m args below meth c hG hr hk _
  show JR E NT 4 p l e rm_X6_counted s m args below meth c 0 0 (fun r => MQ below (xQi E (NT + 0) r) args s 0 0 (xA E)) 0 [(0, .ref (E.B + a0)), (1, .int v1)] [] σ (if okO 6 a0 then (f_X6_counted_4 N N a0 v1 (0 : Int32) (0 : Int32) (σ)) else none)
  refine jr_guard (fun ha0 => ?_)
  refine jr_iconst (v := (0 : Int32)) hG dX6_counted_0 (by decide) ?_
  refine jr_istore_n (lv' := [(2, .int (0 : Int32)), (0, .ref (E.B + a0)), (1, .int v1)]) hG dX6_counted_1 rfl (by decide) rfl ?_
  refine jr_iconst (v := (0 : Int32)) hG dX6_counted_2 (by decide) ?_
  refine jr_istore_n (lv' := [(3, .int (0 : Int32)), (2, .int (0 : Int32)), (0, .ref (E.B + a0)), (1, .int v1)]) hG dX6_counted_3 rfl (by decide) rfl ?_
  refine jr_sub (lv' := [(0, .ref (E.B + a0)), (1, .int v1), (2, .int (0 : Int32)), (3, .int (0 : Int32))]) [2, 3, 1, 0] rfl ?_
  exact w_X6_counted_4 N hG hr hk N a0 v1 (0 : Int32) (0 : Int32) ha0 (σ)
-- TonguesDealtModel.count(I)I
abbrev rm_X6_count : Room := { frames := 3, cells := 0, slots := 0, locals := 67 }
theorem ci_X6_count : CIx yX6_count cX6_count 2 (some .int) 1 := ⟨wd_1207, wd_77, by decide +kernel⟩
def f_X6_count (N : Nat) (a0 : Nat) (v1 : Int32) (σ : Mm) : Option (Int32 × Mm) := if okO 6 a0 then (bI (f_X6_in N v1 (0 : Int32) (8 : Int32) (σ)) (fun r2 t1 => if r2 = 0 then (some ((-1 : Int32), t1)) else (bI (f_X6_counted N a0 v1 t1) (fun r4 t3 => some (r4, t3))))) else none
set_option maxRecDepth 20000 in
theorem c_X6_count (l : Launch) (E : XE) (N : Nat) (a0 : Nat) (v1 : Int32) (σ : Mm) : ∀ r0, f_X6_count N a0 v1 σ = some r0 → Met l yX6_count [Cond.code yX6_count cX6_count 2 (some .int)] rm_X6_count (xPc E (NT + 0) σ [.ref (E.B + a0), .int v1]) (xQi E (NT + 0) r0) 0 0 (xA E) := by
  refine met_of (N0 := NT) (by decide +kernel) (Nat.le_of_ble_eq_true rfl) ?_
  intro p e s m args below meth c hG hr hk _
  show JR E NT 2 p l e rm_X6_count s m args below meth c 0 0 (fun r => MQ below (xQi E (NT + 0) r) args s 0 0 (xA E)) 0 [(0, .ref (E.B + a0)), (1, .int v1)] [] σ (if okO 6 a0 then (bI (f_X6_in N v1 (0 : Int32) (8 : Int32) (σ)) (fun r2 t1 => if r2 = 0 then (some ((-1 : Int32), t1)) else (bI (f_X6_counted N a0 v1 t1) (fun r4 t3 => some (r4, t3))))) else none)
  refine jr_guard (fun ha0 => ?_)
  refine jr_iload_n hG 1 dX6_count_0 rfl rfl ?_
  refine jr_iconst (v := (0 : Int32)) hG dX6_count_1 (by decide) ?_
  refine jr_bipush (v := (8 : Int32)) hG dX6_count_2 (by decide) ?_
  refine jr_callSi (As := [.int v1, .int (0 : Int32), .int (8 : Int32)]) hG (c_X6_in l E N v1 (0 : Int32) (8 : Int32) (σ)) ci_X6_in wd_847 wd_848 ⟨rfl, rfl, Nat.le_of_ble_eq_true rfl, Nat.le_of_ble_eq_true rfl⟩ rfl rfl (Nat.le_of_ble_eq_true rfl) dX6_count_4 ⟨Nat.le_refl _, Nat.le_refl _⟩ (fun r2 t1 => ?_)
  refine jr_if_eq hG 18 dX6_count_7 (by decide) (fun _ => ?_) (fun _ => ?_)
  · refine jr_iconst (v := (-1 : Int32)) hG dX6_count_18 (by decide) ?_
    exact jr_iret hG hr hk dX6_count_19
  · refine jr_aload_n hG 0 dX6_count_10 rfl rfl ?_
    refine jr_iload_n hG 1 dX6_count_11 rfl rfl ?_
    refine jr_callVi (As := [.int v1]) hG (c_X6_counted l E N a0 v1 t1) ci_X6_counted wd_1208 ⟨wd_1210, wd_67⟩ cl_6 (okO_s ha0) (okO_l ha0) ⟨rfl, rfl, Nat.le_of_ble_eq_true rfl, Nat.le_of_ble_eq_true rfl⟩ rfl rfl (Nat.le_of_ble_eq_true rfl) dX6_count_12 ⟨Nat.le_refl _, Nat.le_refl _⟩ (fun r4 t3 => ?_)
    refine jr_goto hG 19 dX6_count_15 (by decide) ?_
    exact jr_iret hG hr hk dX6_count_19
-- TonguesDealtModel.mix(J)V
abbrev rm_X6_mix : Room := { frames := 0, cells := 0, slots := 0, locals := 0 }
theorem ci_X6_mix : CIx yX6_mix cX6_mix 3 none 1 := ⟨wd_1220, wd_77, by decide +kernel⟩
def f_X6_mix (N : Nat) (a0 : Nat) (v1 : Int64) (σ : Mm) : Option (Mm) := if okO 6 a0 then (lt (sl σ a0 33 (((31 : Int64) * (gl σ a0 33)) + v1)) (fun t1 => some t1)) else none
set_option maxRecDepth 20000 in
theorem c_X6_mix (l : Launch) (E : XE) (N : Nat) (a0 : Nat) (v1 : Int64) (σ : Mm) : ∀ r0, f_X6_mix N a0 v1 σ = some r0 → Met l yX6_mix [Cond.code yX6_mix cX6_mix 3 none] rm_X6_mix (xPc E (NT + 0) σ [.ref (E.B + a0), .long v1]) (xQv E (NT + 0) r0) 0 0 (xA E) := by
  refine met_of (N0 := NT) (by decide +kernel) (Nat.le_of_ble_eq_true rfl) ?_
  intro p e s m args below meth c hG hr hk _
  show JR E NT 3 p l e rm_X6_mix s m args below meth c 0 0 (fun r => MQ below (xQv E (NT + 0) r) args s 0 0 (xA E)) 0 [(0, .ref (E.B + a0)), (1, .long v1)] [] σ (if okO 6 a0 then (lt (sl σ a0 33 (((31 : Int64) * (gl σ a0 33)) + v1)) (fun t1 => some t1)) else none)
  refine jr_guard (fun ha0 => ?_)
  refine jr_aload_n hG 0 dX6_mix_0 rfl rfl ?_
  refine jr_ldc2 (v := (31 : Int64)) hG wd_1221 dX6_mix_1 ?_
  refine jr_aload_n hG 0 dX6_mix_4 rfl rfl ?_
  refine jr_getL hG fi_RX6_306 rfl (okO_s ha0) (okO_l ha0) dX6_mix_5 ?_
  refine jr_lmul hG dX6_mix_8 ?_
  refine jr_lload_n hG 1 dX6_mix_9 rfl rfl ?_
  refine jr_ladd hG dX6_mix_10 ?_
  refine jr_putL hG fi_RX6_306 rfl rfl (okO_s ha0) (okO_l ha0) dX6_mix_11 ?_
  refine jr_lets (fun t1 _ => ?_)
  exact jr_vret hG hr hk dX6_mix_14
-- TonguesDealtModel.mixTown()V
abbrev rm_X6_mixTown : Room := { frames := 4, cells := 0, slots := 0, locals := 88 }
theorem ci_X6_mixTown : CIx yX6_mixTown cX6_mixTown 3 none 0 := ⟨wd_1225, wd_77, by decide +kernel⟩
def f_X6_mixTown_70 (N : Nat) (K42 : Nat → Int32 → Mm → Option (Mm)) (a0 : Nat) (v1 : Int32) (s0 : Int64) (b1 : Nat) (σ : Mm) : Option (Mm) := bV (f_X6_mix N b1 s0 (σ)) (fun t6 => K42 a0 (v1 + (1 : Int32)) t6)
set_option maxRecDepth 20000 in
theorem w_X6_mixTown_70 {p : Program} {l : Launch} {e : Env} {s : State} {m : MethodId} {args : Array Value} {below : List Frame} {meth : Method} {c : Code} {E : XE} (N : Nat) (hG : GG E NT 3 RX6 cX6_mixTown p s m args c) (hr : meth.sig.returnType = none) (hk : meth.locks = false) {K42 : Nat → Int32 → Mm → Option (Mm)} (hK42 : ∀ (a0 : Nat) (v1 : Int32) (ha0 : okO 6 a0 = true) (σ : Mm), JR E NT 3 p l e rm_X6_mixTown s m args below meth c 0 0 (fun r => MQ below (xQv E (NT + 0) r) args s 0 0 (xA E)) 42 [(0, .ref (E.B + a0)), (1, .int v1)] [] σ (K42 a0 v1 σ)) (a0 : Nat) (v1 : Int32) (s0 : Int64) (b1 : Nat) (ha0 : okO 6 a0 = true) (hb1 : okO 6 b1 = true) (σ : Mm) : JR E NT 3 p l e rm_X6_mixTown s m args below meth c 0 0 (fun r => MQ below (xQv E (NT + 0) r) args s 0 0 (xA E)) 70 [(0, .ref (E.B + a0)), (1, .int v1)] [.long s0, .ref (E.B + b1)] σ (f_X6_mixTown_70 N K42 a0 v1 s0 b1 σ) := by
  show JR E NT 3 p l e rm_X6_mixTown s m args below meth c 0 0 (fun r => MQ below (xQv E (NT + 0) r) args s 0 0 (xA E)) 70 [(0, .ref (E.B + a0)), (1, .int v1)] [.long s0, .ref (E.B + b1)] σ (bV (f_X6_mix N b1 s0 (σ)) (fun t6 => K42 a0 (v1 + (1 : Int32)) t6))
  refine jr_callVv (As := [.long s0]) hG (c_X6_mix l E N b1 s0 (σ)) ci_X6_mix wd_1217 ⟨wd_1219, wd_68⟩ cl_6 (okO_s hb1) (okO_l hb1) ⟨rfl, rfl, Nat.le_of_ble_eq_true rfl, Nat.le_of_ble_eq_true rfl⟩ rfl rfl (Nat.le_of_ble_eq_true rfl) dX6_mixTown_70 ⟨Nat.le_refl _, Nat.le_refl _⟩ (fun t6 => ?_)
  refine jr_iinc (v := v1 + (1 : Int32)) (lv' := [(1, .int (v1 + (1 : Int32))), (0, .ref (E.B + a0))]) hG 1 dX6_mixTown_73 rfl rfl (by decide) rfl ?_
  refine jr_goto hG 42 dX6_mixTown_76 (by decide) ?_
  refine jr_sub (lv' := [(0, .ref (E.B + a0)), (1, .int (v1 + (1 : Int32)))]) [1, 0] rfl ?_
  exact hK42 a0 (v1 + (1 : Int32)) ha0 t6
def f_X6_mixTown_42 (N : Nat)  : Nat → Nat → Int32 → Mm → Option (Mm)
  | 0 => fun _ _ _ => none
  | n + 1 => fun a0 v1 σ => if (3 : Int32) ≤ v1 then (some (σ)) else (bR (gr σ a0 24) (okA 2) (fun o4 => if inb v1 (arL o4) then (if (gi σ o4 (ix v1)) = 0 then (f_X6_mixTown_70 N (f_X6_mixTown_42 N n) a0 v1 (-1 : Int64) a0 (σ)) else (bR (gr σ a0 25) (okA 0) (fun o5 => if inb v1 (arL o5) then (f_X6_mixTown_70 N (f_X6_mixTown_42 N n) a0 v1 ((gi σ o5 (ix v1)).toInt64) a0 (σ)) else none))) else none))
set_option maxRecDepth 20000 in
theorem w_X6_mixTown_42 {p : Program} {l : Launch} {e : Env} {s : State} {m : MethodId} {args : Array Value} {below : List Frame} {meth : Method} {c : Code} {E : XE} (N : Nat) (hG : GG E NT 3 RX6 cX6_mixTown p s m args c) (hr : meth.sig.returnType = none) (hk : meth.locks = false)  : ∀ (n : Nat) (a0 : Nat) (v1 : Int32) (ha0 : okO 6 a0 = true) (σ : Mm), JR E NT 3 p l e rm_X6_mixTown s m args below meth c 0 0 (fun r => MQ below (xQv E (NT + 0) r) args s 0 0 (xA E)) 42 [(0, .ref (E.B + a0)), (1, .int v1)] [] σ (f_X6_mixTown_42 N n a0 v1 σ) := by
  intro n
  induction n with
  | zero => intro a0 v1 ha0 σ r hX; cases hX
  | succ n ih =>
    intro a0 v1 ha0 σ
    show JR E NT 3 p l e rm_X6_mixTown s m args below meth c 0 0 (fun r => MQ below (xQv E (NT + 0) r) args s 0 0 (xA E)) 42 [(0, .ref (E.B + a0)), (1, .int v1)] [] σ (if (3 : Int32) ≤ v1 then (some (σ)) else (bR (gr σ a0 24) (okA 2) (fun o4 => if inb v1 (arL o4) then (if (gi σ o4 (ix v1)) = 0 then (f_X6_mixTown_70 N (f_X6_mixTown_42 N n) a0 v1 (-1 : Int64) a0 (σ)) else (bR (gr σ a0 25) (okA 0) (fun o5 => if inb v1 (arL o5) then (f_X6_mixTown_70 N (f_X6_mixTown_42 N n) a0 v1 ((gi σ o5 (ix v1)).toInt64) a0 (σ)) else none))) else none)))
    refine jr_iload_n hG 1 dX6_mixTown_42 rfl rfl ?_
    refine jr_iconst (v := (3 : Int32)) hG dX6_mixTown_43 (by decide) ?_
    refine jr_icmp_ge hG 79 dX6_mixTown_44 (by decide) (fun _ => ?_) (fun _ => ?_)
    · exact jr_vret hG hr hk dX6_mixTown_79
    · refine jr_aload_n hG 0 dX6_mixTown_47 rfl rfl ?_
      refine jr_aload_n hG 0 dX6_mixTown_48 rfl rfl ?_
      refine jr_getR hG fi_RX6_60 rfl (okO_s ha0) (okO_l ha0) dX6_mixTown_49 (fun o4 ho4 => ?_)
      refine jr_iload_n hG 1 dX6_mixTown_52 rfl rfl ?_
      refine jr_zald hG (okA_s (by decide) ho4) (okA_l ho4) dX6_mixTown_53 ?_
      refine jr_if_eq hG 67 dX6_mixTown_54 (by decide) (fun _ => ?_) (fun _ => ?_)
      · refine jr_ldc2 (v := (-1 : Int64)) hG wd_1226 dX6_mixTown_67 ?_
        exact w_X6_mixTown_70 N hG hr hk ih a0 v1 (-1 : Int64) a0 ha0 ha0 (σ)
      · refine jr_aload_n hG 0 dX6_mixTown_57 rfl rfl ?_
        refine jr_getR hG fi_RX6_64 rfl (okO_s ha0) (okO_l ha0) dX6_mixTown_58 (fun o5 ho5 => ?_)
        refine jr_iload_n hG 1 dX6_mixTown_61 rfl rfl ?_
        refine jr_iald hG (okA_s (by decide) ho5) (okA_l ho5) dX6_mixTown_62 ?_
        refine jr_i2l hG dX6_mixTown_63 ?_
        refine jr_goto hG 70 dX6_mixTown_64 (by decide) ?_
        exact w_X6_mixTown_70 N hG hr hk ih a0 v1 ((gi σ o5 (ix v1)).toInt64) a0 ha0 ha0 (σ)
def f_X6_mixTown_12 (N : Nat) (K2 : Nat → Int32 → Mm → Option (Mm)) : Nat → Nat → Int32 → Int32 → Mm → Option (Mm)
  | 0 => fun _ _ _ _ => none
  | n + 1 => fun a0 v1 v2 σ => if (5 : Int32) ≤ v2 then (K2 a0 (v1 + (1 : Int32)) (σ)) else (bI (f_X6_personTells N a0 v1 v2 (σ)) (fun r2 t1 => bV (f_X6_mix N a0 (r2.toInt64) t1) (fun t3 => f_X6_mixTown_12 N K2 n a0 v1 (v2 + (1 : Int32)) t3)))
set_option maxRecDepth 20000 in
theorem w_X6_mixTown_12 {p : Program} {l : Launch} {e : Env} {s : State} {m : MethodId} {args : Array Value} {below : List Frame} {meth : Method} {c : Code} {E : XE} (N : Nat) (hG : GG E NT 3 RX6 cX6_mixTown p s m args c) (hr : meth.sig.returnType = none) (hk : meth.locks = false) {K2 : Nat → Int32 → Mm → Option (Mm)} (hK2 : ∀ (a0 : Nat) (v1 : Int32) (ha0 : okO 6 a0 = true) (σ : Mm), JR E NT 3 p l e rm_X6_mixTown s m args below meth c 0 0 (fun r => MQ below (xQv E (NT + 0) r) args s 0 0 (xA E)) 2 [(0, .ref (E.B + a0)), (1, .int v1)] [] σ (K2 a0 v1 σ)) : ∀ (n : Nat) (a0 : Nat) (v1 : Int32) (v2 : Int32) (ha0 : okO 6 a0 = true) (σ : Mm), JR E NT 3 p l e rm_X6_mixTown s m args below meth c 0 0 (fun r => MQ below (xQv E (NT + 0) r) args s 0 0 (xA E)) 12 [(0, .ref (E.B + a0)), (1, .int v1), (2, .int v2)] [] σ (f_X6_mixTown_12 N K2 n a0 v1 v2 σ) := by
  intro n
  induction n with
  | zero => intro a0 v1 v2 ha0 σ r hX; cases hX
  | succ n ih =>
    intro a0 v1 v2 ha0 σ
    show JR E NT 3 p l e rm_X6_mixTown s m args below meth c 0 0 (fun r => MQ below (xQv E (NT + 0) r) args s 0 0 (xA E)) 12 [(0, .ref (E.B + a0)), (1, .int v1), (2, .int v2)] [] σ (if (5 : Int32) ≤ v2 then (K2 a0 (v1 + (1 : Int32)) (σ)) else (bI (f_X6_personTells N a0 v1 v2 (σ)) (fun r2 t1 => bV (f_X6_mix N a0 (r2.toInt64) t1) (fun t3 => f_X6_mixTown_12 N K2 n a0 v1 (v2 + (1 : Int32)) t3))))
    refine jr_iload_n hG 2 dX6_mixTown_12 rfl rfl ?_
    refine jr_iconst (v := (5 : Int32)) hG dX6_mixTown_13 (by decide) ?_
    refine jr_icmp_ge hG 34 dX6_mixTown_14 (by decide) (fun _ => ?_) (fun _ => ?_)
    · refine jr_iinc (v := v1 + (1 : Int32)) (lv' := [(1, .int (v1 + (1 : Int32))), (0, .ref (E.B + a0)), (2, .int v2)]) hG 1 dX6_mixTown_34 rfl rfl (by decide) rfl ?_
      refine jr_goto hG 2 dX6_mixTown_37 (by decide) ?_
      refine jr_sub (lv' := [(0, .ref (E.B + a0)), (1, .int (v1 + (1 : Int32)))]) [1, 0] rfl ?_
      exact hK2 a0 (v1 + (1 : Int32)) ha0 (σ)
    · refine jr_aload_n hG 0 dX6_mixTown_17 rfl rfl ?_
      refine jr_aload_n hG 0 dX6_mixTown_18 rfl rfl ?_
      refine jr_iload_n hG 1 dX6_mixTown_19 rfl rfl ?_
      refine jr_iload_n hG 2 dX6_mixTown_20 rfl rfl ?_
      refine jr_callVi (As := [.int v1, .int v2]) hG (c_X6_personTells l E N a0 v1 v2 (σ)) ci_X6_personTells wd_954 ⟨wd_956, wd_30⟩ cl_6 (okO_s ha0) (okO_l ha0) ⟨rfl, rfl, Nat.le_of_ble_eq_true rfl, Nat.le_of_ble_eq_true rfl⟩ rfl rfl (Nat.le_of_ble_eq_true rfl) dX6_mixTown_21 ⟨Nat.le_refl _, Nat.le_refl _⟩ (fun r2 t1 => ?_)
      refine jr_i2l hG dX6_mixTown_24 ?_
      refine jr_callVv (As := [.long (r2.toInt64)]) hG (c_X6_mix l E N a0 (r2.toInt64) t1) ci_X6_mix wd_1217 ⟨wd_1219, wd_68⟩ cl_6 (okO_s ha0) (okO_l ha0) ⟨rfl, rfl, Nat.le_of_ble_eq_true rfl, Nat.le_of_ble_eq_true rfl⟩ rfl rfl (Nat.le_of_ble_eq_true rfl) dX6_mixTown_25 ⟨Nat.le_refl _, Nat.le_refl _⟩ (fun t3 => ?_)
      refine jr_iinc (v := v2 + (1 : Int32)) (lv' := [(2, .int (v2 + (1 : Int32))), (0, .ref (E.B + a0)), (1, .int v1)]) hG 2 dX6_mixTown_28 rfl rfl (by decide) rfl ?_
      refine jr_goto hG 12 dX6_mixTown_31 (by decide) ?_
      refine jr_sub (lv' := [(0, .ref (E.B + a0)), (1, .int v1), (2, .int (v2 + (1 : Int32)))]) [1, 2, 0] rfl ?_
      exact ih a0 v1 (v2 + (1 : Int32)) ha0 t3
def f_X6_mixTown_2 (N : Nat)  : Nat → Nat → Int32 → Mm → Option (Mm)
  | 0 => fun _ _ _ => none
  | n + 1 => fun a0 v1 σ => if (gi σ a0 10) ≤ v1 then (f_X6_mixTown_42 N N a0 (0 : Int32) (σ)) else (f_X6_mixTown_12 N (f_X6_mixTown_2 N n) N a0 v1 (0 : Int32) (σ))
set_option maxRecDepth 20000 in
theorem w_X6_mixTown_2 {p : Program} {l : Launch} {e : Env} {s : State} {m : MethodId} {args : Array Value} {below : List Frame} {meth : Method} {c : Code} {E : XE} (N : Nat) (hG : GG E NT 3 RX6 cX6_mixTown p s m args c) (hr : meth.sig.returnType = none) (hk : meth.locks = false)  : ∀ (n : Nat) (a0 : Nat) (v1 : Int32) (ha0 : okO 6 a0 = true) (σ : Mm), JR E NT 3 p l e rm_X6_mixTown s m args below meth c 0 0 (fun r => MQ below (xQv E (NT + 0) r) args s 0 0 (xA E)) 2 [(0, .ref (E.B + a0)), (1, .int v1)] [] σ (f_X6_mixTown_2 N n a0 v1 σ) := by
  intro n
  induction n with
  | zero => intro a0 v1 ha0 σ r hX; cases hX
  | succ n ih =>
    intro a0 v1 ha0 σ
    show JR E NT 3 p l e rm_X6_mixTown s m args below meth c 0 0 (fun r => MQ below (xQv E (NT + 0) r) args s 0 0 (xA E)) 2 [(0, .ref (E.B + a0)), (1, .int v1)] [] σ (if (gi σ a0 10) ≤ v1 then (f_X6_mixTown_42 N N a0 (0 : Int32) (σ)) else (f_X6_mixTown_12 N (f_X6_mixTown_2 N n) N a0 v1 (0 : Int32) (σ)))
    refine jr_iload_n hG 1 dX6_mixTown_2 rfl rfl ?_
    refine jr_aload_n hG 0 dX6_mixTown_3 rfl rfl ?_
    refine jr_getI hG fi_RX6_147 rfl (okO_s ha0) (okO_l ha0) dX6_mixTown_4 ?_
    refine jr_icmp_ge hG 40 dX6_mixTown_7 (by decide) (fun _ => ?_) (fun _ => ?_)
    · refine jr_iconst (v := (0 : Int32)) hG dX6_mixTown_40 (by decide) ?_
      refine jr_istore_n (lv' := [(1, .int (0 : Int32)), (0, .ref (E.B + a0))]) hG dX6_mixTown_41 rfl (by decide) rfl ?_
      refine jr_sub (lv' := [(0, .ref (E.B + a0)), (1, .int (0 : Int32))]) [1, 0] rfl ?_
      exact w_X6_mixTown_42 N hG hr hk N a0 (0 : Int32) ha0 (σ)
    · refine jr_iconst (v := (0 : Int32)) hG dX6_mixTown_10 (by decide) ?_
      refine jr_istore_n (lv' := [(2, .int (0 : Int32)), (0, .ref (E.B + a0)), (1, .int v1)]) hG dX6_mixTown_11 rfl (by decide) rfl ?_
      refine jr_sub (lv' := [(0, .ref (E.B + a0)), (1, .int v1), (2, .int (0 : Int32))]) [1, 2, 0] rfl ?_
      exact w_X6_mixTown_12 N hG hr hk ih N a0 v1 (0 : Int32) ha0 (σ)
def f_X6_mixTown (N : Nat) (a0 : Nat) (σ : Mm) : Option (Mm) := if okO 6 a0 then (f_X6_mixTown_2 N N a0 (0 : Int32) (σ)) else none
set_option maxRecDepth 20000 in
theorem c_X6_mixTown (l : Launch) (E : XE) (N : Nat) (a0 : Nat) (σ : Mm) : ∀ r0, f_X6_mixTown N a0 σ = some r0 → Met l yX6_mixTown [Cond.code yX6_mixTown cX6_mixTown 3 none] rm_X6_mixTown (xPc E (NT + 0) σ [.ref (E.B + a0)]) (xQv E (NT + 0) r0) 0 0 (xA E) := by
  refine met_of (N0 := NT) (by decide +kernel) (Nat.le_of_ble_eq_true rfl) ?_
  intro p e s m args below meth c hG hr hk _
  show JR E NT 3 p l e rm_X6_mixTown s m args below meth c 0 0 (fun r => MQ below (xQv E (NT + 0) r) args s 0 0 (xA E)) 0 [(0, .ref (E.B + a0))] [] σ (if okO 6 a0 then (f_X6_mixTown_2 N N a0 (0 : Int32) (σ)) else none)
  refine jr_guard (fun ha0 => ?_)
  refine jr_iconst (v := (0 : Int32)) hG dX6_mixTown_0 (by decide) ?_
  refine jr_istore_n (lv' := [(1, .int (0 : Int32)), (0, .ref (E.B + a0))]) hG dX6_mixTown_1 rfl (by decide) rfl ?_
  refine jr_sub (lv' := [(0, .ref (E.B + a0)), (1, .int (0 : Int32))]) [1, 0] rfl ?_
  exact w_X6_mixTown_2 N hG hr hk N a0 (0 : Int32) ha0 (σ)
-- TonguesDealtModel.digest()J
abbrev rm_X6_digest : Room := { frames := 5, cells := 0, slots := 0, locals := 110 }
theorem ci_X6_digest : CIx yX6_digest cX6_digest 3 (some .long) 0 := ⟨wd_1215, wd_77, by decide +kernel⟩
def f_X6_digest_109 (N : Nat) (K91 : Nat → Int32 → Mm → Option (Int64 × Mm)) : Nat → Nat → Int32 → Int32 → Mm → Option (Int64 × Mm)
  | 0 => fun _ _ _ _ => none
  | n + 1 => fun a0 v1 v2 σ => bR (gr σ a0 8) (okA 0) (fun o14 => if inb v1 (arL o14) then (if (gi σ o14 (ix v1)) ≤ v2 then (K91 a0 (v1 + (1 : Int32)) (σ)) else (bI (f_X6_byteAt N a0 v1 v2 (σ)) (fun r16 t15 => bV (f_X6_mix N a0 (r16.toInt64) t15) (fun t17 => f_X6_digest_109 N K91 n a0 v1 (v2 + (1 : Int32)) t17)))) else none)
set_option maxRecDepth 20000 in
theorem w_X6_digest_109 {p : Program} {l : Launch} {e : Env} {s : State} {m : MethodId} {args : Array Value} {below : List Frame} {meth : Method} {c : Code} {E : XE} (N : Nat) (hG : GG E NT 3 RX6 cX6_digest p s m args c) (hr : meth.sig.returnType = (some .long)) (hk : meth.locks = false) {K91 : Nat → Int32 → Mm → Option (Int64 × Mm)} (hK91 : ∀ (a0 : Nat) (v1 : Int32) (ha0 : okO 6 a0 = true) (σ : Mm), JR E NT 3 p l e rm_X6_digest s m args below meth c 0 0 (fun r => MQ below (xQl E (NT + 0) r) args s 0 0 (xA E)) 91 [(0, .ref (E.B + a0)), (1, .int v1)] [] σ (K91 a0 v1 σ)) : ∀ (n : Nat) (a0 : Nat) (v1 : Int32) (v2 : Int32) (ha0 : okO 6 a0 = true) (σ : Mm), JR E NT 3 p l e rm_X6_digest s m args below meth c 0 0 (fun r => MQ below (xQl E (NT + 0) r) args s 0 0 (xA E)) 109 [(0, .ref (E.B + a0)), (1, .int v1), (2, .int v2)] [] σ (f_X6_digest_109 N K91 n a0 v1 v2 σ) := by
  intro n
  induction n with
  | zero => intro a0 v1 v2 ha0 σ r hX; cases hX
  | succ n ih =>
    intro a0 v1 v2 ha0 σ
    show JR E NT 3 p l e rm_X6_digest s m args below meth c 0 0 (fun r => MQ below (xQl E (NT + 0) r) args s 0 0 (xA E)) 109 [(0, .ref (E.B + a0)), (1, .int v1), (2, .int v2)] [] σ (bR (gr σ a0 8) (okA 0) (fun o14 => if inb v1 (arL o14) then (if (gi σ o14 (ix v1)) ≤ v2 then (K91 a0 (v1 + (1 : Int32)) (σ)) else (bI (f_X6_byteAt N a0 v1 v2 (σ)) (fun r16 t15 => bV (f_X6_mix N a0 (r16.toInt64) t15) (fun t17 => f_X6_digest_109 N K91 n a0 v1 (v2 + (1 : Int32)) t17)))) else none))
    refine jr_iload_n hG 2 dX6_digest_109 rfl rfl ?_
    refine jr_aload_n hG 0 dX6_digest_110 rfl rfl ?_
    refine jr_getR hG fi_RX6_26 rfl (okO_s ha0) (okO_l ha0) dX6_digest_111 (fun o14 ho14 => ?_)
    refine jr_iload_n hG 1 dX6_digest_114 rfl rfl ?_
    refine jr_iald hG (okA_s (by decide) ho14) (okA_l ho14) dX6_digest_115 ?_
    refine jr_icmp_ge hG 136 dX6_digest_116 (by decide) (fun _ => ?_) (fun _ => ?_)
    · refine jr_iinc (v := v1 + (1 : Int32)) (lv' := [(1, .int (v1 + (1 : Int32))), (0, .ref (E.B + a0)), (2, .int v2)]) hG 1 dX6_digest_136 rfl rfl (by decide) rfl ?_
      refine jr_goto hG 91 dX6_digest_139 (by decide) ?_
      refine jr_sub (lv' := [(0, .ref (E.B + a0)), (1, .int (v1 + (1 : Int32)))]) [1, 0] rfl ?_
      exact hK91 a0 (v1 + (1 : Int32)) ha0 (σ)
    · refine jr_aload_n hG 0 dX6_digest_119 rfl rfl ?_
      refine jr_aload_n hG 0 dX6_digest_120 rfl rfl ?_
      refine jr_iload_n hG 1 dX6_digest_121 rfl rfl ?_
      refine jr_iload_n hG 2 dX6_digest_122 rfl rfl ?_
      refine jr_callVi (As := [.int v1, .int v2]) hG (c_X6_byteAt l E N a0 v1 v2 (σ)) ci_X6_byteAt wd_920 ⟨wd_922, wd_25⟩ cl_6 (okO_s ha0) (okO_l ha0) ⟨rfl, rfl, Nat.le_of_ble_eq_true rfl, Nat.le_of_ble_eq_true rfl⟩ rfl rfl (Nat.le_of_ble_eq_true rfl) dX6_digest_123 ⟨Nat.le_refl _, Nat.le_refl _⟩ (fun r16 t15 => ?_)
      refine jr_i2l hG dX6_digest_126 ?_
      refine jr_callVv (As := [.long (r16.toInt64)]) hG (c_X6_mix l E N a0 (r16.toInt64) t15) ci_X6_mix wd_1217 ⟨wd_1219, wd_68⟩ cl_6 (okO_s ha0) (okO_l ha0) ⟨rfl, rfl, Nat.le_of_ble_eq_true rfl, Nat.le_of_ble_eq_true rfl⟩ rfl rfl (Nat.le_of_ble_eq_true rfl) dX6_digest_127 ⟨Nat.le_refl _, Nat.le_refl _⟩ (fun t17 => ?_)
      refine jr_iinc (v := v2 + (1 : Int32)) (lv' := [(2, .int (v2 + (1 : Int32))), (0, .ref (E.B + a0)), (1, .int v1)]) hG 2 dX6_digest_130 rfl rfl (by decide) rfl ?_
      refine jr_goto hG 109 dX6_digest_133 (by decide) ?_
      refine jr_sub (lv' := [(0, .ref (E.B + a0)), (1, .int v1), (2, .int (v2 + (1 : Int32)))]) [1, 2, 0] rfl ?_
      exact ih a0 v1 (v2 + (1 : Int32)) ha0 t17
def f_X6_digest_91 (N : Nat)  : Nat → Nat → Int32 → Mm → Option (Int64 × Mm)
  | 0 => fun _ _ _ => none
  | n + 1 => fun a0 v1 σ => if (4 : Int32) ≤ v1 then (some (gl σ a0 33, σ)) else (bR (gr σ a0 8) (okA 0) (fun o12 => if inb v1 (arL o12) then (bV (f_X6_mix N a0 ((gi σ o12 (ix v1)).toInt64) (σ)) (fun t13 => f_X6_digest_109 N (f_X6_digest_91 N n) N a0 v1 (0 : Int32) t13)) else none))
set_option maxRecDepth 20000 in
theorem w_X6_digest_91 {p : Program} {l : Launch} {e : Env} {s : State} {m : MethodId} {args : Array Value} {below : List Frame} {meth : Method} {c : Code} {E : XE} (N : Nat) (hG : GG E NT 3 RX6 cX6_digest p s m args c) (hr : meth.sig.returnType = (some .long)) (hk : meth.locks = false)  : ∀ (n : Nat) (a0 : Nat) (v1 : Int32) (ha0 : okO 6 a0 = true) (σ : Mm), JR E NT 3 p l e rm_X6_digest s m args below meth c 0 0 (fun r => MQ below (xQl E (NT + 0) r) args s 0 0 (xA E)) 91 [(0, .ref (E.B + a0)), (1, .int v1)] [] σ (f_X6_digest_91 N n a0 v1 σ) := by
  intro n
  induction n with
  | zero => intro a0 v1 ha0 σ r hX; cases hX
  | succ n ih =>
    intro a0 v1 ha0 σ
    show JR E NT 3 p l e rm_X6_digest s m args below meth c 0 0 (fun r => MQ below (xQl E (NT + 0) r) args s 0 0 (xA E)) 91 [(0, .ref (E.B + a0)), (1, .int v1)] [] σ (if (4 : Int32) ≤ v1 then (some (gl σ a0 33, σ)) else (bR (gr σ a0 8) (okA 0) (fun o12 => if inb v1 (arL o12) then (bV (f_X6_mix N a0 ((gi σ o12 (ix v1)).toInt64) (σ)) (fun t13 => f_X6_digest_109 N (f_X6_digest_91 N n) N a0 v1 (0 : Int32) t13)) else none)))
    refine jr_iload_n hG 1 dX6_digest_91 rfl rfl ?_
    refine jr_iconst (v := (4 : Int32)) hG dX6_digest_92 (by decide) ?_
    refine jr_icmp_ge hG 142 dX6_digest_93 (by decide) (fun _ => ?_) (fun _ => ?_)
    · refine jr_aload_n hG 0 dX6_digest_142 rfl rfl ?_
      refine jr_getL hG fi_RX6_306 rfl (okO_s ha0) (okO_l ha0) dX6_digest_143 ?_
      exact jr_lret hG hr hk dX6_digest_146
    · refine jr_aload_n hG 0 dX6_digest_96 rfl rfl ?_
      refine jr_aload_n hG 0 dX6_digest_97 rfl rfl ?_
      refine jr_getR hG fi_RX6_26 rfl (okO_s ha0) (okO_l ha0) dX6_digest_98 (fun o12 ho12 => ?_)
      refine jr_iload_n hG 1 dX6_digest_101 rfl rfl ?_
      refine jr_iald hG (okA_s (by decide) ho12) (okA_l ho12) dX6_digest_102 ?_
      refine jr_i2l hG dX6_digest_103 ?_
      refine jr_callVv (As := [.long ((gi σ o12 (ix v1)).toInt64)]) hG (c_X6_mix l E N a0 ((gi σ o12 (ix v1)).toInt64) (σ)) ci_X6_mix wd_1217 ⟨wd_1219, wd_68⟩ cl_6 (okO_s ha0) (okO_l ha0) ⟨rfl, rfl, Nat.le_of_ble_eq_true rfl, Nat.le_of_ble_eq_true rfl⟩ rfl rfl (Nat.le_of_ble_eq_true rfl) dX6_digest_104 ⟨Nat.le_refl _, Nat.le_refl _⟩ (fun t13 => ?_)
      refine jr_iconst (v := (0 : Int32)) hG dX6_digest_107 (by decide) ?_
      refine jr_istore_n (lv' := [(2, .int (0 : Int32)), (0, .ref (E.B + a0)), (1, .int v1)]) hG dX6_digest_108 rfl (by decide) rfl ?_
      refine jr_sub (lv' := [(0, .ref (E.B + a0)), (1, .int v1), (2, .int (0 : Int32))]) [1, 2, 0] rfl ?_
      exact w_X6_digest_109 N hG hr hk ih N a0 v1 (0 : Int32) ha0 t13
def f_X6_digest_56 (N : Nat) (K37 : Nat → Int32 → Mm → Option (Int64 × Mm)) : Nat → Nat → Int32 → Int32 → Mm → Option (Int64 × Mm)
  | 0 => fun _ _ _ _ => none
  | n + 1 => fun a0 v1 v2 σ => bR (gr σ a0 5) (okA 0) (fun o8 => if inb v1 (arL o8) then (if (gi σ o8 (ix v1)) ≤ v2 then (K37 a0 (v1 + (1 : Int32)) (σ)) else (bI (f_X6_rowAt N a0 v1 v2 (σ)) (fun r10 t9 => bV (f_X6_mix N a0 (r10.toInt64) t9) (fun t11 => f_X6_digest_56 N K37 n a0 v1 (v2 + (1 : Int32)) t11)))) else none)
set_option maxRecDepth 20000 in
theorem w_X6_digest_56 {p : Program} {l : Launch} {e : Env} {s : State} {m : MethodId} {args : Array Value} {below : List Frame} {meth : Method} {c : Code} {E : XE} (N : Nat) (hG : GG E NT 3 RX6 cX6_digest p s m args c) (hr : meth.sig.returnType = (some .long)) (hk : meth.locks = false) {K37 : Nat → Int32 → Mm → Option (Int64 × Mm)} (hK37 : ∀ (a0 : Nat) (v1 : Int32) (ha0 : okO 6 a0 = true) (σ : Mm), JR E NT 3 p l e rm_X6_digest s m args below meth c 0 0 (fun r => MQ below (xQl E (NT + 0) r) args s 0 0 (xA E)) 37 [(0, .ref (E.B + a0)), (1, .int v1)] [] σ (K37 a0 v1 σ)) : ∀ (n : Nat) (a0 : Nat) (v1 : Int32) (v2 : Int32) (ha0 : okO 6 a0 = true) (σ : Mm), JR E NT 3 p l e rm_X6_digest s m args below meth c 0 0 (fun r => MQ below (xQl E (NT + 0) r) args s 0 0 (xA E)) 56 [(0, .ref (E.B + a0)), (1, .int v1), (2, .int v2)] [] σ (f_X6_digest_56 N K37 n a0 v1 v2 σ) := by
  intro n
  induction n with
  | zero => intro a0 v1 v2 ha0 σ r hX; cases hX
  | succ n ih =>
    intro a0 v1 v2 ha0 σ
    show JR E NT 3 p l e rm_X6_digest s m args below meth c 0 0 (fun r => MQ below (xQl E (NT + 0) r) args s 0 0 (xA E)) 56 [(0, .ref (E.B + a0)), (1, .int v1), (2, .int v2)] [] σ (bR (gr σ a0 5) (okA 0) (fun o8 => if inb v1 (arL o8) then (if (gi σ o8 (ix v1)) ≤ v2 then (K37 a0 (v1 + (1 : Int32)) (σ)) else (bI (f_X6_rowAt N a0 v1 v2 (σ)) (fun r10 t9 => bV (f_X6_mix N a0 (r10.toInt64) t9) (fun t11 => f_X6_digest_56 N K37 n a0 v1 (v2 + (1 : Int32)) t11)))) else none))
    refine jr_iload_n hG 2 dX6_digest_56 rfl rfl ?_
    refine jr_aload_n hG 0 dX6_digest_57 rfl rfl ?_
    refine jr_getR hG fi_RX6_17 rfl (okO_s ha0) (okO_l ha0) dX6_digest_58 (fun o8 ho8 => ?_)
    refine jr_iload_n hG 1 dX6_digest_61 rfl rfl ?_
    refine jr_iald hG (okA_s (by decide) ho8) (okA_l ho8) dX6_digest_62 ?_
    refine jr_icmp_ge hG 83 dX6_digest_63 (by decide) (fun _ => ?_) (fun _ => ?_)
    · refine jr_iinc (v := v1 + (1 : Int32)) (lv' := [(1, .int (v1 + (1 : Int32))), (0, .ref (E.B + a0)), (2, .int v2)]) hG 1 dX6_digest_83 rfl rfl (by decide) rfl ?_
      refine jr_goto hG 37 dX6_digest_86 (by decide) ?_
      refine jr_sub (lv' := [(0, .ref (E.B + a0)), (1, .int (v1 + (1 : Int32)))]) [1, 0] rfl ?_
      exact hK37 a0 (v1 + (1 : Int32)) ha0 (σ)
    · refine jr_aload_n hG 0 dX6_digest_66 rfl rfl ?_
      refine jr_aload_n hG 0 dX6_digest_67 rfl rfl ?_
      refine jr_iload_n hG 1 dX6_digest_68 rfl rfl ?_
      refine jr_iload_n hG 2 dX6_digest_69 rfl rfl ?_
      refine jr_callVi (As := [.int v1, .int v2]) hG (c_X6_rowAt l E N a0 v1 v2 (σ)) ci_X6_rowAt wd_877 ⟨wd_879, wd_22⟩ cl_6 (okO_s ha0) (okO_l ha0) ⟨rfl, rfl, Nat.le_of_ble_eq_true rfl, Nat.le_of_ble_eq_true rfl⟩ rfl rfl (Nat.le_of_ble_eq_true rfl) dX6_digest_70 ⟨Nat.le_refl _, Nat.le_refl _⟩ (fun r10 t9 => ?_)
      refine jr_i2l hG dX6_digest_73 ?_
      refine jr_callVv (As := [.long (r10.toInt64)]) hG (c_X6_mix l E N a0 (r10.toInt64) t9) ci_X6_mix wd_1217 ⟨wd_1219, wd_68⟩ cl_6 (okO_s ha0) (okO_l ha0) ⟨rfl, rfl, Nat.le_of_ble_eq_true rfl, Nat.le_of_ble_eq_true rfl⟩ rfl rfl (Nat.le_of_ble_eq_true rfl) dX6_digest_74 ⟨Nat.le_refl _, Nat.le_refl _⟩ (fun t11 => ?_)
      refine jr_iinc (v := v2 + (1 : Int32)) (lv' := [(2, .int (v2 + (1 : Int32))), (0, .ref (E.B + a0)), (1, .int v1)]) hG 2 dX6_digest_77 rfl rfl (by decide) rfl ?_
      refine jr_goto hG 56 dX6_digest_80 (by decide) ?_
      refine jr_sub (lv' := [(0, .ref (E.B + a0)), (1, .int v1), (2, .int (v2 + (1 : Int32)))]) [1, 2, 0] rfl ?_
      exact ih a0 v1 (v2 + (1 : Int32)) ha0 t11
def f_X6_digest_37 (N : Nat)  : Nat → Nat → Int32 → Mm → Option (Int64 × Mm)
  | 0 => fun _ _ _ => none
  | n + 1 => fun a0 v1 σ => if (6 : Int32) ≤ v1 then (f_X6_digest_91 N N a0 (0 : Int32) (σ)) else (bR (gr σ a0 5) (okA 0) (fun o6 => if inb v1 (arL o6) then (bV (f_X6_mix N a0 ((gi σ o6 (ix v1)).toInt64) (σ)) (fun t7 => f_X6_digest_56 N (f_X6_digest_37 N n) N a0 v1 (0 : Int32) t7)) else none))
set_option maxRecDepth 20000 in
theorem w_X6_digest_37 {p : Program} {l : Launch} {e : Env} {s : State} {m : MethodId} {args : Array Value} {below : List Frame} {meth : Method} {c : Code} {E : XE} (N : Nat) (hG : GG E NT 3 RX6 cX6_digest p s m args c) (hr : meth.sig.returnType = (some .long)) (hk : meth.locks = false)  : ∀ (n : Nat) (a0 : Nat) (v1 : Int32) (ha0 : okO 6 a0 = true) (σ : Mm), JR E NT 3 p l e rm_X6_digest s m args below meth c 0 0 (fun r => MQ below (xQl E (NT + 0) r) args s 0 0 (xA E)) 37 [(0, .ref (E.B + a0)), (1, .int v1)] [] σ (f_X6_digest_37 N n a0 v1 σ) := by
  intro n
  induction n with
  | zero => intro a0 v1 ha0 σ r hX; cases hX
  | succ n ih =>
    intro a0 v1 ha0 σ
    show JR E NT 3 p l e rm_X6_digest s m args below meth c 0 0 (fun r => MQ below (xQl E (NT + 0) r) args s 0 0 (xA E)) 37 [(0, .ref (E.B + a0)), (1, .int v1)] [] σ (if (6 : Int32) ≤ v1 then (f_X6_digest_91 N N a0 (0 : Int32) (σ)) else (bR (gr σ a0 5) (okA 0) (fun o6 => if inb v1 (arL o6) then (bV (f_X6_mix N a0 ((gi σ o6 (ix v1)).toInt64) (σ)) (fun t7 => f_X6_digest_56 N (f_X6_digest_37 N n) N a0 v1 (0 : Int32) t7)) else none)))
    refine jr_iload_n hG 1 dX6_digest_37 rfl rfl ?_
    refine jr_bipush (v := (6 : Int32)) hG dX6_digest_38 (by decide) ?_
    refine jr_icmp_ge hG 89 dX6_digest_40 (by decide) (fun _ => ?_) (fun _ => ?_)
    · refine jr_iconst (v := (0 : Int32)) hG dX6_digest_89 (by decide) ?_
      refine jr_istore_n (lv' := [(1, .int (0 : Int32)), (0, .ref (E.B + a0))]) hG dX6_digest_90 rfl (by decide) rfl ?_
      refine jr_sub (lv' := [(0, .ref (E.B + a0)), (1, .int (0 : Int32))]) [1, 0] rfl ?_
      exact w_X6_digest_91 N hG hr hk N a0 (0 : Int32) ha0 (σ)
    · refine jr_aload_n hG 0 dX6_digest_43 rfl rfl ?_
      refine jr_aload_n hG 0 dX6_digest_44 rfl rfl ?_
      refine jr_getR hG fi_RX6_17 rfl (okO_s ha0) (okO_l ha0) dX6_digest_45 (fun o6 ho6 => ?_)
      refine jr_iload_n hG 1 dX6_digest_48 rfl rfl ?_
      refine jr_iald hG (okA_s (by decide) ho6) (okA_l ho6) dX6_digest_49 ?_
      refine jr_i2l hG dX6_digest_50 ?_
      refine jr_callVv (As := [.long ((gi σ o6 (ix v1)).toInt64)]) hG (c_X6_mix l E N a0 ((gi σ o6 (ix v1)).toInt64) (σ)) ci_X6_mix wd_1217 ⟨wd_1219, wd_68⟩ cl_6 (okO_s ha0) (okO_l ha0) ⟨rfl, rfl, Nat.le_of_ble_eq_true rfl, Nat.le_of_ble_eq_true rfl⟩ rfl rfl (Nat.le_of_ble_eq_true rfl) dX6_digest_51 ⟨Nat.le_refl _, Nat.le_refl _⟩ (fun t7 => ?_)
      refine jr_iconst (v := (0 : Int32)) hG dX6_digest_54 (by decide) ?_
      refine jr_istore_n (lv' := [(2, .int (0 : Int32)), (0, .ref (E.B + a0)), (1, .int v1)]) hG dX6_digest_55 rfl (by decide) rfl ?_
      refine jr_sub (lv' := [(0, .ref (E.B + a0)), (1, .int v1), (2, .int (0 : Int32))]) [1, 2, 0] rfl ?_
      exact w_X6_digest_56 N hG hr hk ih N a0 v1 (0 : Int32) ha0 t7
def f_X6_digest_9 (N : Nat)  : Nat → Nat → Int32 → Mm → Option (Int64 × Mm)
  | 0 => fun _ _ _ => none
  | n + 1 => fun a0 v1 σ => if (9 : Int32) ≤ v1 then (bV (f_X6_mixTown N a0 (σ)) (fun t2 => f_X6_digest_37 N N a0 (0 : Int32) t2)) else (bI (f_X6_counted N a0 v1 (σ)) (fun r4 t3 => bV (f_X6_mix N a0 (r4.toInt64) t3) (fun t5 => f_X6_digest_9 N n a0 (v1 + (1 : Int32)) t5)))
set_option maxRecDepth 20000 in
theorem w_X6_digest_9 {p : Program} {l : Launch} {e : Env} {s : State} {m : MethodId} {args : Array Value} {below : List Frame} {meth : Method} {c : Code} {E : XE} (N : Nat) (hG : GG E NT 3 RX6 cX6_digest p s m args c) (hr : meth.sig.returnType = (some .long)) (hk : meth.locks = false)  : ∀ (n : Nat) (a0 : Nat) (v1 : Int32) (ha0 : okO 6 a0 = true) (σ : Mm), JR E NT 3 p l e rm_X6_digest s m args below meth c 0 0 (fun r => MQ below (xQl E (NT + 0) r) args s 0 0 (xA E)) 9 [(0, .ref (E.B + a0)), (1, .int v1)] [] σ (f_X6_digest_9 N n a0 v1 σ) := by
  intro n
  induction n with
  | zero => intro a0 v1 ha0 σ r hX; cases hX
  | succ n ih =>
    intro a0 v1 ha0 σ
    show JR E NT 3 p l e rm_X6_digest s m args below meth c 0 0 (fun r => MQ below (xQl E (NT + 0) r) args s 0 0 (xA E)) 9 [(0, .ref (E.B + a0)), (1, .int v1)] [] σ (if (9 : Int32) ≤ v1 then (bV (f_X6_mixTown N a0 (σ)) (fun t2 => f_X6_digest_37 N N a0 (0 : Int32) t2)) else (bI (f_X6_counted N a0 v1 (σ)) (fun r4 t3 => bV (f_X6_mix N a0 (r4.toInt64) t3) (fun t5 => f_X6_digest_9 N n a0 (v1 + (1 : Int32)) t5))))
    refine jr_iload_n hG 1 dX6_digest_9 rfl rfl ?_
    refine jr_bipush (v := (9 : Int32)) hG dX6_digest_10 (by decide) ?_
    refine jr_icmp_ge hG 31 dX6_digest_12 (by decide) (fun _ => ?_) (fun _ => ?_)
    · refine jr_aload_n hG 0 dX6_digest_31 rfl rfl ?_
      refine jr_callVv (As := []) hG (c_X6_mixTown l E N a0 (σ)) ci_X6_mixTown wd_1222 ⟨wd_1224, wd_69⟩ cl_6 (okO_s ha0) (okO_l ha0) ⟨rfl, rfl, Nat.le_of_ble_eq_true rfl, Nat.le_of_ble_eq_true rfl⟩ rfl rfl (Nat.le_of_ble_eq_true rfl) dX6_digest_32 ⟨Nat.le_refl _, Nat.le_refl _⟩ (fun t2 => ?_)
      refine jr_iconst (v := (0 : Int32)) hG dX6_digest_35 (by decide) ?_
      refine jr_istore_n (lv' := [(1, .int (0 : Int32)), (0, .ref (E.B + a0))]) hG dX6_digest_36 rfl (by decide) rfl ?_
      refine jr_sub (lv' := [(0, .ref (E.B + a0)), (1, .int (0 : Int32))]) [1, 0] rfl ?_
      exact w_X6_digest_37 N hG hr hk N a0 (0 : Int32) ha0 t2
    · refine jr_aload_n hG 0 dX6_digest_15 rfl rfl ?_
      refine jr_aload_n hG 0 dX6_digest_16 rfl rfl ?_
      refine jr_iload_n hG 1 dX6_digest_17 rfl rfl ?_
      refine jr_callVi (As := [.int v1]) hG (c_X6_counted l E N a0 v1 (σ)) ci_X6_counted wd_1208 ⟨wd_1210, wd_67⟩ cl_6 (okO_s ha0) (okO_l ha0) ⟨rfl, rfl, Nat.le_of_ble_eq_true rfl, Nat.le_of_ble_eq_true rfl⟩ rfl rfl (Nat.le_of_ble_eq_true rfl) dX6_digest_18 ⟨Nat.le_refl _, Nat.le_refl _⟩ (fun r4 t3 => ?_)
      refine jr_i2l hG dX6_digest_21 ?_
      refine jr_callVv (As := [.long (r4.toInt64)]) hG (c_X6_mix l E N a0 (r4.toInt64) t3) ci_X6_mix wd_1217 ⟨wd_1219, wd_68⟩ cl_6 (okO_s ha0) (okO_l ha0) ⟨rfl, rfl, Nat.le_of_ble_eq_true rfl, Nat.le_of_ble_eq_true rfl⟩ rfl rfl (Nat.le_of_ble_eq_true rfl) dX6_digest_22 ⟨Nat.le_refl _, Nat.le_refl _⟩ (fun t5 => ?_)
      refine jr_iinc (v := v1 + (1 : Int32)) (lv' := [(1, .int (v1 + (1 : Int32))), (0, .ref (E.B + a0))]) hG 1 dX6_digest_25 rfl rfl (by decide) rfl ?_
      refine jr_goto hG 9 dX6_digest_28 (by decide) ?_
      refine jr_sub (lv' := [(0, .ref (E.B + a0)), (1, .int (v1 + (1 : Int32)))]) [1, 0] rfl ?_
      exact ih a0 (v1 + (1 : Int32)) ha0 t5
def f_X6_digest (N : Nat) (a0 : Nat) (σ : Mm) : Option (Int64 × Mm) := if okO 6 a0 then (lt (sl σ a0 33 (17 : Int64)) (fun t1 => f_X6_digest_9 N N a0 (0 : Int32) t1)) else none
set_option maxRecDepth 20000 in
theorem c_X6_digest (l : Launch) (E : XE) (N : Nat) (a0 : Nat) (σ : Mm) : ∀ r0, f_X6_digest N a0 σ = some r0 → Met l yX6_digest [Cond.code yX6_digest cX6_digest 3 (some .long)] rm_X6_digest (xPc E (NT + 0) σ [.ref (E.B + a0)]) (xQl E (NT + 0) r0) 0 0 (xA E) := by
  refine met_of (N0 := NT) (by decide +kernel) (Nat.le_of_ble_eq_true rfl) ?_
  intro p e s m args below meth c hG hr hk _
  show JR E NT 3 p l e rm_X6_digest s m args below meth c 0 0 (fun r => MQ below (xQl E (NT + 0) r) args s 0 0 (xA E)) 0 [(0, .ref (E.B + a0))] [] σ (if okO 6 a0 then (lt (sl σ a0 33 (17 : Int64)) (fun t1 => f_X6_digest_9 N N a0 (0 : Int32) t1)) else none)
  refine jr_guard (fun ha0 => ?_)
  refine jr_aload_n hG 0 dX6_digest_0 rfl rfl ?_
  refine jr_ldc2 (v := (17 : Int64)) hG wd_1216 dX6_digest_1 ?_
  refine jr_putL hG fi_RX6_306 rfl rfl (okO_s ha0) (okO_l ha0) dX6_digest_4 ?_
  refine jr_lets (fun t1 _ => ?_)
  refine jr_iconst (v := (0 : Int32)) hG dX6_digest_7 (by decide) ?_
  refine jr_istore_n (lv' := [(1, .int (0 : Int32)), (0, .ref (E.B + a0))]) hG dX6_digest_8 rfl (by decide) rfl ?_
  refine jr_sub (lv' := [(0, .ref (E.B + a0)), (1, .int (0 : Int32))]) [1, 0] rfl ?_
  exact w_X6_digest_9 N hG hr hk N a0 (0 : Int32) ha0 t1
