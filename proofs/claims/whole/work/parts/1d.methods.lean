-- TonguesDealt.on(I)I
abbrev rm_X5_on : Room := { frames := 6, cells := 0, slots := 0, locals := 134 }
theorem ci_X5_on : CIx yX5_on cX5_on 2 (some .int) 1 := ⟨wd_508, wd_71, by decide +kernel⟩
def f_X5_on (N : Nat) (a0 : Nat) (v1 : Int32) (σ : Mm) : Option (Int32 × Mm) := if okO 5 a0 then (if v1 < 0 then (some ((-1 : Int32), σ)) else (if v1 < (3 : Int32) then (bR (gr σ a0 2) (okA 5) (fun o1 => if inb v1 (arL o1) then (bR (gr σ o1 (ix v1)) (okO 1) (fun o2 => if (gi σ o2 2) = (-1 : Int32) then (bI (f_X5_found N a0 (1 : Int32) (σ)) (fun r10 t9 => some (r10, t9))) else (bR (gr σ a0 3) (okO 1) (fun o3 => bR (gr σ a0 2) (okA 5) (fun o4 => if inb v1 (arL o4) then (bR (gr σ o4 (ix v1)) (okO 1) (fun o5 => bV (f_X1_takeFrom N o3 o5 (σ)) (fun t6 => bV (f_X5_liveAgain N a0 t6) (fun t7 => bR (gr t7 a0 3) (okO 1) (fun o8 => some (gi t7 o8 2, t7)))))) else none))))) else none)) else (some ((-1 : Int32), σ)))) else none
set_option maxRecDepth 20000 in
theorem c_X5_on (l : Launch) (E : XE) (N : Nat) (a0 : Nat) (v1 : Int32) (σ : Mm) : ∀ r0, f_X5_on N a0 v1 σ = some r0 → Met l yX5_on [Cond.code yX5_on cX5_on 2 (some .int)] rm_X5_on (xPc E (NT + 0) σ [.ref (E.B + a0), .int v1]) (xQi E (NT + 0) r0) 0 0 (xA E) := by
  refine met_of (N0 := NT) (by decide +kernel) (Nat.le_of_ble_eq_true rfl) ?_
  intro p e s m args below meth c hG hr hk _
  show JR E NT 2 p l e rm_X5_on s m args below meth c 0 0 (fun r => MQ below (xQi E (NT + 0) r) args s 0 0 (xA E)) 0 [(0, .ref (E.B + a0)), (1, .int v1)] [] σ (if okO 5 a0 then (if v1 < 0 then (some ((-1 : Int32), σ)) else (if v1 < (3 : Int32) then (bR (gr σ a0 2) (okA 5) (fun o1 => if inb v1 (arL o1) then (bR (gr σ o1 (ix v1)) (okO 1) (fun o2 => if (gi σ o2 2) = (-1 : Int32) then (bI (f_X5_found N a0 (1 : Int32) (σ)) (fun r10 t9 => some (r10, t9))) else (bR (gr σ a0 3) (okO 1) (fun o3 => bR (gr σ a0 2) (okA 5) (fun o4 => if inb v1 (arL o4) then (bR (gr σ o4 (ix v1)) (okO 1) (fun o5 => bV (f_X1_takeFrom N o3 o5 (σ)) (fun t6 => bV (f_X5_liveAgain N a0 t6) (fun t7 => bR (gr t7 a0 3) (okO 1) (fun o8 => some (gi t7 o8 2, t7)))))) else none))))) else none)) else (some ((-1 : Int32), σ)))) else none)
  refine jr_guard (fun ha0 => ?_)
  refine jr_iload_n hG 1 dX5_on_0 rfl rfl ?_
  refine jr_if_lt hG 9 dX5_on_1 (by decide) (fun _ => ?_) (fun _ => ?_)
  · refine jr_iconst (v := (-1 : Int32)) hG dX5_on_9 (by decide) ?_
    exact jr_iret hG hr hk dX5_on_10
  · refine jr_iload_n hG 1 dX5_on_4 rfl rfl ?_
    refine jr_iconst (v := (3 : Int32)) hG dX5_on_5 (by decide) ?_
    refine jr_icmp_lt hG 11 dX5_on_6 (by decide) (fun _ => ?_) (fun _ => ?_)
    · refine jr_aload_n hG 0 dX5_on_11 rfl rfl ?_
      refine jr_getR hG fi_RX5_23 rfl (okO_s ha0) (okO_l ha0) dX5_on_12 (fun o1 ho1 => ?_)
      refine jr_iload_n hG 1 dX5_on_15 rfl rfl ?_
      refine jr_aald hG (okA_s (by decide) ho1) (by decide) rfl (okA_l ho1) dX5_on_16 (fun o2 ho2 => ?_)
      refine jr_getI hG fi_RX5_75 rfl (okO_s ho2) (okO_l ho2) dX5_on_17 ?_
      refine jr_iconst (v := (-1 : Int32)) hG dX5_on_20 (by decide) ?_
      refine jr_icmp_ne hG 30 dX5_on_21 (by decide) (fun _ => ?_) (fun _ => ?_)
      · refine jr_aload_n hG 0 dX5_on_30 rfl rfl ?_
        refine jr_getR hG fi_RX5_28 rfl (okO_s ha0) (okO_l ha0) dX5_on_31 (fun o3 ho3 => ?_)
        refine jr_aload_n hG 0 dX5_on_34 rfl rfl ?_
        refine jr_getR hG fi_RX5_23 rfl (okO_s ha0) (okO_l ha0) dX5_on_35 (fun o4 ho4 => ?_)
        refine jr_iload_n hG 1 dX5_on_38 rfl rfl ?_
        refine jr_aald hG (okA_s (by decide) ho4) (by decide) rfl (okA_l ho4) dX5_on_39 (fun o5 ho5 => ?_)
        refine jr_callVv (As := [.ref (E.B + o5)]) hG (c_X1_takeFrom l E N o3 o5 (σ)) ci_X1_takeFrom wd_501 ⟨wd_502, wd_503⟩ cl_1 (okO_s ho3) (okO_l ho3) ⟨rfl, rfl, Nat.le_of_ble_eq_true rfl, Nat.le_of_ble_eq_true rfl⟩ rfl rfl (Nat.le_of_ble_eq_true rfl) dX5_on_40 ⟨Nat.le_refl _, Nat.le_refl _⟩ (fun t6 => ?_)
        refine jr_aload_n hG 0 dX5_on_43 rfl rfl ?_
        refine jr_callVv (As := []) hG (c_X5_liveAgain l E N a0 t6) ci_X5_liveAgain wd_379 ⟨wd_381, wd_5⟩ cl_5 (okO_s ha0) (okO_l ha0) ⟨rfl, rfl, Nat.le_of_ble_eq_true rfl, Nat.le_of_ble_eq_true rfl⟩ rfl rfl (Nat.le_of_ble_eq_true rfl) dX5_on_44 ⟨Nat.le_refl _, Nat.le_refl _⟩ (fun t7 => ?_)
        refine jr_aload_n hG 0 dX5_on_47 rfl rfl ?_
        refine jr_getR hG fi_RX5_28 rfl (okO_s ha0) (okO_l ha0) dX5_on_48 (fun o8 ho8 => ?_)
        refine jr_getI hG fi_RX5_75 rfl (okO_s ho8) (okO_l ho8) dX5_on_51 ?_
        exact jr_iret hG hr hk dX5_on_54
      · refine jr_aload_n hG 0 dX5_on_24 rfl rfl ?_
        refine jr_iconst (v := (1 : Int32)) hG dX5_on_25 (by decide) ?_
        refine jr_callVi (As := [.int (1 : Int32)]) hG (c_X5_found l E N a0 (1 : Int32) (σ)) ci_X5_found wd_276 ⟨wd_278, wd_0⟩ cl_5 (okO_s ha0) (okO_l ha0) ⟨rfl, rfl, Nat.le_of_ble_eq_true rfl, Nat.le_of_ble_eq_true rfl⟩ rfl rfl (Nat.le_of_ble_eq_true rfl) dX5_on_26 ⟨Nat.le_refl _, Nat.le_refl _⟩ (fun r10 t9 => ?_)
        exact jr_iret hG hr hk dX5_on_29
    · refine jr_iconst (v := (-1 : Int32)) hG dX5_on_9 (by decide) ?_
      exact jr_iret hG hr hk dX5_on_10
-- TonguesDealt.tells(II)I
abbrev rm_X5_tells : Room := { frames := 2, cells := 0, slots := 0, locals := 43 }
theorem ci_X5_tells : CIx yX5_tells cX5_tells 3 (some .int) 2 := ⟨wd_512, wd_71, by decide +kernel⟩
def f_X5_tells (N : Nat) (a0 : Nat) (v1 : Int32) (v2 : Int32) (σ : Mm) : Option (Int32 × Mm) := if okO 5 a0 then (bI (f_X5_areTwo N a0 v1 v2 (σ)) (fun r2 t1 => if r2 = 0 then (some ((-1 : Int32), t1)) else (bR (gr t1 a0 4) (okO 0) (fun o3 => bR (gr t1 o3 4) (okA 0) (fun o4 => if inb v1 (arL o4) then (bI (f_X5_holds N (gi t1 o4 (ix v1)) v2 t1) (fun r6 t5 => if r6 = 0 then (some ((0 : Int32), t5)) else (some ((1 : Int32), t5)))) else none))))) else none
set_option maxRecDepth 20000 in
theorem c_X5_tells (l : Launch) (E : XE) (N : Nat) (a0 : Nat) (v1 : Int32) (v2 : Int32) (σ : Mm) : ∀ r0, f_X5_tells N a0 v1 v2 σ = some r0 → Met l yX5_tells [Cond.code yX5_tells cX5_tells 3 (some .int)] rm_X5_tells (xPc E (NT + 0) σ [.ref (E.B + a0), .int v1, .int v2]) (xQi E (NT + 0) r0) 0 0 (xA E) := by
  refine met_of (N0 := NT) (by decide +kernel) (Nat.le_of_ble_eq_true rfl) ?_
  intro p e s m args below meth c hG hr hk _
  show JR E NT 3 p l e rm_X5_tells s m args below meth c 0 0 (fun r => MQ below (xQi E (NT + 0) r) args s 0 0 (xA E)) 0 [(0, .ref (E.B + a0)), (1, .int v1), (2, .int v2)] [] σ (if okO 5 a0 then (bI (f_X5_areTwo N a0 v1 v2 (σ)) (fun r2 t1 => if r2 = 0 then (some ((-1 : Int32), t1)) else (bR (gr t1 a0 4) (okO 0) (fun o3 => bR (gr t1 o3 4) (okA 0) (fun o4 => if inb v1 (arL o4) then (bI (f_X5_holds N (gi t1 o4 (ix v1)) v2 t1) (fun r6 t5 => if r6 = 0 then (some ((0 : Int32), t5)) else (some ((1 : Int32), t5)))) else none))))) else none)
  refine jr_guard (fun ha0 => ?_)
  refine jr_aload_n hG 0 dX5_tells_0 rfl rfl ?_
  refine jr_iload_n hG 1 dX5_tells_1 rfl rfl ?_
  refine jr_iload_n hG 2 dX5_tells_2 rfl rfl ?_
  refine jr_callVi (As := [.int v1, .int v2]) hG (c_X5_areTwo l E N a0 v1 v2 (σ)) ci_X5_areTwo wd_483 ⟨wd_485, wd_9⟩ cl_5 (okO_s ha0) (okO_l ha0) ⟨rfl, rfl, Nat.le_of_ble_eq_true rfl, Nat.le_of_ble_eq_true rfl⟩ rfl rfl (Nat.le_of_ble_eq_true rfl) dX5_tells_3 ⟨Nat.le_refl _, Nat.le_refl _⟩ (fun r2 t1 => ?_)
  refine jr_if_ne hG 11 dX5_tells_6 (by decide) (fun _ => ?_) (fun _ => ?_)
  · refine jr_aload_n hG 0 dX5_tells_11 rfl rfl ?_
    refine jr_getR hG fi_RX5_35 rfl (okO_s ha0) (okO_l ha0) dX5_tells_12 (fun o3 ho3 => ?_)
    refine jr_getR hG fi_RX5_198 rfl (okO_s ho3) (okO_l ho3) dX5_tells_15 (fun o4 ho4 => ?_)
    refine jr_iload_n hG 1 dX5_tells_18 rfl rfl ?_
    refine jr_iald hG (okA_s (by decide) ho4) (okA_l ho4) dX5_tells_19 ?_
    refine jr_iload_n hG 2 dX5_tells_20 rfl rfl ?_
    refine jr_callSi (As := [.int (gi t1 o4 (ix v1)), .int v2]) hG (c_X5_holds l E N (gi t1 o4 (ix v1)) v2 t1) ci_X5_holds wd_487 wd_366 ⟨rfl, rfl, Nat.le_of_ble_eq_true rfl, Nat.le_of_ble_eq_true rfl⟩ rfl rfl (Nat.le_of_ble_eq_true rfl) dX5_tells_21 ⟨Nat.le_refl _, Nat.le_refl _⟩ (fun r6 t5 => ?_)
    refine jr_if_eq hG 31 dX5_tells_24 (by decide) (fun _ => ?_) (fun _ => ?_)
    · refine jr_iconst (v := (0 : Int32)) hG dX5_tells_31 (by decide) ?_
      exact jr_iret hG hr hk dX5_tells_32
    · refine jr_iconst (v := (1 : Int32)) hG dX5_tells_27 (by decide) ?_
      refine jr_goto hG 32 dX5_tells_28 (by decide) ?_
      exact jr_iret hG hr hk dX5_tells_32
  · refine jr_iconst (v := (-1 : Int32)) hG dX5_tells_9 (by decide) ?_
    exact jr_iret hG hr hk dX5_tells_10
-- TonguesDealt.writeWay(IIILTonguesDealt$Row;)V
abbrev rm_X5_writeWay : Room := { frames := 3, cells := 0, slots := 0, locals := 72 }
theorem ci_X5_writeWay : CIx yX5_writeWay cX5_writeWay 10 none 4 := ⟨wd_528, wd_71, by decide +kernel⟩
def f_X5_writeWay_114 (N : Nat) (K32 : Nat → Int32 → Int32 → Nat → Int32 → Int32 → Mm → Option (Mm)) (K52 : Nat → Int32 → Int32 → Nat → Int32 → Int32 → Int32 → Int32 → Mm → Option (Mm)) (a0 : Nat) (v2 : Int32) (v3 : Int32) (a4 : Nat) (v5 : Int32) (v6 : Int32) (v7 : Int32) (v8 : Int32) (σ : Mm) : Option (Mm) := K52 a0 v2 v3 a4 v5 v6 v7 (v8 + (-1 : Int32)) (σ)
set_option maxRecDepth 20000 in
theorem w_X5_writeWay_114 {p : Program} {l : Launch} {e : Env} {s : State} {m : MethodId} {args : Array Value} {below : List Frame} {meth : Method} {c : Code} {E : XE} (N : Nat) (hG : GG E NT 10 RX5 cX5_writeWay p s m args c) (hr : meth.sig.returnType = none) (hk : meth.locks = false) {K32 : Nat → Int32 → Int32 → Nat → Int32 → Int32 → Mm → Option (Mm)} (hK32 : ∀ (a0 : Nat) (v2 : Int32) (v3 : Int32) (a4 : Nat) (v5 : Int32) (v6 : Int32) (ha0 : okO 5 a0 = true) (ha4 : okO 3 a4 = true) (σ : Mm), JR E NT 10 p l e rm_X5_writeWay s m args below meth c 0 0 (fun r => MQ below (xQv E (NT + 0) r) args s 0 0 (xA E)) 32 [(0, .ref (E.B + a0)), (2, .int v2), (3, .int v3), (4, .ref (E.B + a4)), (5, .int v5), (6, .int v6)] [] σ (K32 a0 v2 v3 a4 v5 v6 σ)) {K52 : Nat → Int32 → Int32 → Nat → Int32 → Int32 → Int32 → Int32 → Mm → Option (Mm)} (hK52 : ∀ (a0 : Nat) (v2 : Int32) (v3 : Int32) (a4 : Nat) (v5 : Int32) (v6 : Int32) (v7 : Int32) (v8 : Int32) (ha0 : okO 5 a0 = true) (ha4 : okO 3 a4 = true) (σ : Mm), JR E NT 10 p l e rm_X5_writeWay s m args below meth c 0 0 (fun r => MQ below (xQv E (NT + 0) r) args s 0 0 (xA E)) 52 [(0, .ref (E.B + a0)), (2, .int v2), (3, .int v3), (4, .ref (E.B + a4)), (5, .int v5), (6, .int v6), (7, .int v7), (8, .int v8)] [] σ (K52 a0 v2 v3 a4 v5 v6 v7 v8 σ)) (a0 : Nat) (v2 : Int32) (v3 : Int32) (a4 : Nat) (v5 : Int32) (v6 : Int32) (v7 : Int32) (v8 : Int32) (ha0 : okO 5 a0 = true) (ha4 : okO 3 a4 = true) (σ : Mm) : JR E NT 10 p l e rm_X5_writeWay s m args below meth c 0 0 (fun r => MQ below (xQv E (NT + 0) r) args s 0 0 (xA E)) 114 [(0, .ref (E.B + a0)), (2, .int v2), (3, .int v3), (4, .ref (E.B + a4)), (5, .int v5), (6, .int v6), (7, .int v7), (8, .int v8)] [] σ (f_X5_writeWay_114 N K32 K52 a0 v2 v3 a4 v5 v6 v7 v8 σ) := by
  show JR E NT 10 p l e rm_X5_writeWay s m args below meth c 0 0 (fun r => MQ below (xQv E (NT + 0) r) args s 0 0 (xA E)) 114 [(0, .ref (E.B + a0)), (2, .int v2), (3, .int v3), (4, .ref (E.B + a4)), (5, .int v5), (6, .int v6), (7, .int v7), (8, .int v8)] [] σ (K52 a0 v2 v3 a4 v5 v6 v7 (v8 + (-1 : Int32)) (σ))
  refine jr_iinc (v := v8 + (-1 : Int32)) (lv' := [(8, .int (v8 + (-1 : Int32))), (0, .ref (E.B + a0)), (2, .int v2), (3, .int v3), (4, .ref (E.B + a4)), (5, .int v5), (6, .int v6), (7, .int v7)]) hG 7 dX5_writeWay_114 rfl rfl (by decide) rfl ?_
  refine jr_goto hG 52 dX5_writeWay_117 (by decide) ?_
  refine jr_sub (lv' := [(0, .ref (E.B + a0)), (2, .int v2), (3, .int v3), (4, .ref (E.B + a4)), (5, .int v5), (6, .int v6), (7, .int v7), (8, .int (v8 + (-1 : Int32)))]) [1, 2, 3, 4, 5, 6, 7, 0] rfl ?_
  exact hK52 a0 v2 v3 a4 v5 v6 v7 (v8 + (-1 : Int32)) ha0 ha4 (σ)
def f_X5_writeWay_86 (N : Nat) (K32 : Nat → Int32 → Int32 → Nat → Int32 → Int32 → Mm → Option (Mm)) (K52 : Nat → Int32 → Int32 → Nat → Int32 → Int32 → Int32 → Int32 → Mm → Option (Mm)) (a0 : Nat) (v2 : Int32) (v3 : Int32) (a4 : Nat) (v5 : Int32) (v6 : Int32) (v7 : Int32) (v8 : Int32) (s0 : Int32) (σ : Mm) : Option (Mm) := if s0 = 0 then (f_X5_writeWay_114 N K32 K52 a0 v2 v3 a4 v5 v6 v7 v8 (σ)) else (bR (gr σ a0 4) (okO 0) (fun o14 => bI (f_X0_fewestMouths N o14 v8 v2 (σ)) (fun r16 t15 => if r16 = (v3 - v6) then (f_X5_writeWay_114 N K32 K52 a0 v2 v3 a4 v5 v6 v8 v8 t15) else (f_X5_writeWay_114 N K32 K52 a0 v2 v3 a4 v5 v6 v7 v8 t15))))
set_option maxRecDepth 20000 in
theorem w_X5_writeWay_86 {p : Program} {l : Launch} {e : Env} {s : State} {m : MethodId} {args : Array Value} {below : List Frame} {meth : Method} {c : Code} {E : XE} (N : Nat) (hG : GG E NT 10 RX5 cX5_writeWay p s m args c) (hr : meth.sig.returnType = none) (hk : meth.locks = false) {K32 : Nat → Int32 → Int32 → Nat → Int32 → Int32 → Mm → Option (Mm)} (hK32 : ∀ (a0 : Nat) (v2 : Int32) (v3 : Int32) (a4 : Nat) (v5 : Int32) (v6 : Int32) (ha0 : okO 5 a0 = true) (ha4 : okO 3 a4 = true) (σ : Mm), JR E NT 10 p l e rm_X5_writeWay s m args below meth c 0 0 (fun r => MQ below (xQv E (NT + 0) r) args s 0 0 (xA E)) 32 [(0, .ref (E.B + a0)), (2, .int v2), (3, .int v3), (4, .ref (E.B + a4)), (5, .int v5), (6, .int v6)] [] σ (K32 a0 v2 v3 a4 v5 v6 σ)) {K52 : Nat → Int32 → Int32 → Nat → Int32 → Int32 → Int32 → Int32 → Mm → Option (Mm)} (hK52 : ∀ (a0 : Nat) (v2 : Int32) (v3 : Int32) (a4 : Nat) (v5 : Int32) (v6 : Int32) (v7 : Int32) (v8 : Int32) (ha0 : okO 5 a0 = true) (ha4 : okO 3 a4 = true) (σ : Mm), JR E NT 10 p l e rm_X5_writeWay s m args below meth c 0 0 (fun r => MQ below (xQv E (NT + 0) r) args s 0 0 (xA E)) 52 [(0, .ref (E.B + a0)), (2, .int v2), (3, .int v3), (4, .ref (E.B + a4)), (5, .int v5), (6, .int v6), (7, .int v7), (8, .int v8)] [] σ (K52 a0 v2 v3 a4 v5 v6 v7 v8 σ)) (a0 : Nat) (v2 : Int32) (v3 : Int32) (a4 : Nat) (v5 : Int32) (v6 : Int32) (v7 : Int32) (v8 : Int32) (s0 : Int32) (ha0 : okO 5 a0 = true) (ha4 : okO 3 a4 = true) (σ : Mm) : JR E NT 10 p l e rm_X5_writeWay s m args below meth c 0 0 (fun r => MQ below (xQv E (NT + 0) r) args s 0 0 (xA E)) 86 [(0, .ref (E.B + a0)), (2, .int v2), (3, .int v3), (4, .ref (E.B + a4)), (5, .int v5), (6, .int v6), (7, .int v7), (8, .int v8)] [.int s0] σ (f_X5_writeWay_86 N K32 K52 a0 v2 v3 a4 v5 v6 v7 v8 s0 σ) := by
  show JR E NT 10 p l e rm_X5_writeWay s m args below meth c 0 0 (fun r => MQ below (xQv E (NT + 0) r) args s 0 0 (xA E)) 86 [(0, .ref (E.B + a0)), (2, .int v2), (3, .int v3), (4, .ref (E.B + a4)), (5, .int v5), (6, .int v6), (7, .int v7), (8, .int v8)] [.int s0] σ (if s0 = 0 then (f_X5_writeWay_114 N K32 K52 a0 v2 v3 a4 v5 v6 v7 v8 (σ)) else (bR (gr σ a0 4) (okO 0) (fun o14 => bI (f_X0_fewestMouths N o14 v8 v2 (σ)) (fun r16 t15 => if r16 = (v3 - v6) then (f_X5_writeWay_114 N K32 K52 a0 v2 v3 a4 v5 v6 v8 v8 t15) else (f_X5_writeWay_114 N K32 K52 a0 v2 v3 a4 v5 v6 v7 v8 t15)))))
  refine jr_istore (lv' := [(9, .int s0), (0, .ref (E.B + a0)), (2, .int v2), (3, .int v3), (4, .ref (E.B + a4)), (5, .int v5), (6, .int v6), (7, .int v7), (8, .int v8)]) hG dX5_writeWay_86 (by decide) rfl ?_
  refine jr_iload hG 0 dX5_writeWay_88 rfl ?_
  refine jr_if_eq hG 114 dX5_writeWay_90 (by decide) (fun _ => ?_) (fun _ => ?_)
  · refine jr_sub (lv' := [(0, .ref (E.B + a0)), (2, .int v2), (3, .int v3), (4, .ref (E.B + a4)), (5, .int v5), (6, .int v6), (7, .int v7), (8, .int v8)]) [1, 2, 3, 4, 5, 6, 7, 8] rfl ?_
    exact w_X5_writeWay_114 N hG hr hk hK32 hK52 a0 v2 v3 a4 v5 v6 v7 v8 ha0 ha4 (σ)
  · refine jr_aload_n hG 1 dX5_writeWay_93 rfl rfl ?_
    refine jr_getR hG fi_RX5_35 rfl (okO_s ha0) (okO_l ha0) dX5_writeWay_94 (fun o14 ho14 => ?_)
    refine jr_iload hG 8 dX5_writeWay_97 rfl ?_
    refine jr_iload_n hG 2 dX5_writeWay_99 rfl rfl ?_
    refine jr_callVi (As := [.int v8, .int v2]) hG (c_X0_fewestMouths l E N o14 v8 v2 (σ)) ci_X0_fewestMouths wd_517 ⟨wd_518, wd_519⟩ cl_0 (okO_s ho14) (okO_l ho14) ⟨rfl, rfl, Nat.le_of_ble_eq_true rfl, Nat.le_of_ble_eq_true rfl⟩ rfl rfl (Nat.le_of_ble_eq_true rfl) dX5_writeWay_100 ⟨Nat.le_refl _, Nat.le_refl _⟩ (fun r16 t15 => ?_)
    refine jr_iload_n hG 3 dX5_writeWay_103 rfl rfl ?_
    refine jr_iload hG 6 dX5_writeWay_104 rfl ?_
    refine jr_isub hG dX5_writeWay_106 ?_
    refine jr_icmp_ne hG 114 dX5_writeWay_107 (by decide) (fun _ => ?_) (fun _ => ?_)
    · refine jr_sub (lv' := [(0, .ref (E.B + a0)), (2, .int v2), (3, .int v3), (4, .ref (E.B + a4)), (5, .int v5), (6, .int v6), (7, .int v7), (8, .int v8)]) [1, 2, 3, 4, 5, 6, 7, 8] rfl ?_
      exact w_X5_writeWay_114 N hG hr hk hK32 hK52 a0 v2 v3 a4 v5 v6 v7 v8 ha0 ha4 t15
    · refine jr_iload hG 8 dX5_writeWay_110 rfl ?_
      refine jr_istore (lv' := [(7, .int v8), (9, .int s0), (0, .ref (E.B + a0)), (2, .int v2), (3, .int v3), (4, .ref (E.B + a4)), (5, .int v5), (6, .int v6), (8, .int v8)]) hG dX5_writeWay_112 (by decide) rfl ?_
      refine jr_sub (lv' := [(0, .ref (E.B + a0)), (2, .int v2), (3, .int v3), (4, .ref (E.B + a4)), (5, .int v5), (6, .int v6), (7, .int v8), (8, .int v8)]) [2, 3, 4, 5, 6, 7, 0, 8] rfl ?_
      exact w_X5_writeWay_114 N hG hr hk hK32 hK52 a0 v2 v3 a4 v5 v6 v8 v8 ha0 ha4 t15
def f_X5_writeWay_85 (N : Nat) (K32 : Nat → Int32 → Int32 → Nat → Int32 → Int32 → Mm → Option (Mm)) (K52 : Nat → Int32 → Int32 → Nat → Int32 → Int32 → Int32 → Int32 → Mm → Option (Mm)) (a0 : Nat) (v2 : Int32) (v3 : Int32) (a4 : Nat) (v5 : Int32) (v6 : Int32) (v7 : Int32) (v8 : Int32) (σ : Mm) : Option (Mm) := f_X5_writeWay_86 N K32 K52 a0 v2 v3 a4 v5 v6 v7 v8 (0 : Int32) (σ)
set_option maxRecDepth 20000 in
theorem w_X5_writeWay_85 {p : Program} {l : Launch} {e : Env} {s : State} {m : MethodId} {args : Array Value} {below : List Frame} {meth : Method} {c : Code} {E : XE} (N : Nat) (hG : GG E NT 10 RX5 cX5_writeWay p s m args c) (hr : meth.sig.returnType = none) (hk : meth.locks = false) {K32 : Nat → Int32 → Int32 → Nat → Int32 → Int32 → Mm → Option (Mm)} (hK32 : ∀ (a0 : Nat) (v2 : Int32) (v3 : Int32) (a4 : Nat) (v5 : Int32) (v6 : Int32) (ha0 : okO 5 a0 = true) (ha4 : okO 3 a4 = true) (σ : Mm), JR E NT 10 p l e rm_X5_writeWay s m args below meth c 0 0 (fun r => MQ below (xQv E (NT + 0) r) args s 0 0 (xA E)) 32 [(0, .ref (E.B + a0)), (2, .int v2), (3, .int v3), (4, .ref (E.B + a4)), (5, .int v5), (6, .int v6)] [] σ (K32 a0 v2 v3 a4 v5 v6 σ)) {K52 : Nat → Int32 → Int32 → Nat → Int32 → Int32 → Int32 → Int32 → Mm → Option (Mm)} (hK52 : ∀ (a0 : Nat) (v2 : Int32) (v3 : Int32) (a4 : Nat) (v5 : Int32) (v6 : Int32) (v7 : Int32) (v8 : Int32) (ha0 : okO 5 a0 = true) (ha4 : okO 3 a4 = true) (σ : Mm), JR E NT 10 p l e rm_X5_writeWay s m args below meth c 0 0 (fun r => MQ below (xQv E (NT + 0) r) args s 0 0 (xA E)) 52 [(0, .ref (E.B + a0)), (2, .int v2), (3, .int v3), (4, .ref (E.B + a4)), (5, .int v5), (6, .int v6), (7, .int v7), (8, .int v8)] [] σ (K52 a0 v2 v3 a4 v5 v6 v7 v8 σ)) (a0 : Nat) (v2 : Int32) (v3 : Int32) (a4 : Nat) (v5 : Int32) (v6 : Int32) (v7 : Int32) (v8 : Int32) (ha0 : okO 5 a0 = true) (ha4 : okO 3 a4 = true) (σ : Mm) : JR E NT 10 p l e rm_X5_writeWay s m args below meth c 0 0 (fun r => MQ below (xQv E (NT + 0) r) args s 0 0 (xA E)) 85 [(0, .ref (E.B + a0)), (2, .int v2), (3, .int v3), (4, .ref (E.B + a4)), (5, .int v5), (6, .int v6), (7, .int v7), (8, .int v8)] [] σ (f_X5_writeWay_85 N K32 K52 a0 v2 v3 a4 v5 v6 v7 v8 σ) := by
  show JR E NT 10 p l e rm_X5_writeWay s m args below meth c 0 0 (fun r => MQ below (xQv E (NT + 0) r) args s 0 0 (xA E)) 85 [(0, .ref (E.B + a0)), (2, .int v2), (3, .int v3), (4, .ref (E.B + a4)), (5, .int v5), (6, .int v6), (7, .int v7), (8, .int v8)] [] σ (f_X5_writeWay_86 N K32 K52 a0 v2 v3 a4 v5 v6 v7 v8 (0 : Int32) (σ))
  refine jr_iconst (v := (0 : Int32)) hG dX5_writeWay_85 (by decide) ?_
  exact w_X5_writeWay_86 N hG hr hk hK32 hK52 a0 v2 v3 a4 v5 v6 v7 v8 (0 : Int32) ha0 ha4 (σ)
def f_X5_writeWay_52 (N : Nat) (K32 : Nat → Int32 → Int32 → Nat → Int32 → Int32 → Mm → Option (Mm)) : Nat → Nat → Int32 → Int32 → Nat → Int32 → Int32 → Int32 → Int32 → Mm → Option (Mm)
  | 0 => fun _ _ _ _ _ _ _ _ _ => none
  | n + 1 => fun a0 v2 v3 a4 v5 v6 v7 v8 σ => if v8 < 0 then (bR (gr σ a4 0) (okA 0) (fun o8 => if inb v6 (arL o8) then (lt (si σ o8 (ix v6) v7) (fun t9 => K32 a0 v2 v3 a4 v7 (v6 + (1 : Int32)) t9)) else none)) else (if v8 = v2 then (f_X5_writeWay_85 N K32 (f_X5_writeWay_52 N K32 n) a0 v2 v3 a4 v5 v6 v7 v8 (σ)) else (bR (gr σ a0 4) (okO 0) (fun o10 => bR (gr σ o10 4) (okA 0) (fun o11 => if inb v5 (arL o11) then (bI (f_X5_holds N (gi σ o11 (ix v5)) v8 (σ)) (fun r13 t12 => if r13 = 0 then (f_X5_writeWay_85 N K32 (f_X5_writeWay_52 N K32 n) a0 v2 v3 a4 v5 v6 v7 v8 t12) else (f_X5_writeWay_86 N K32 (f_X5_writeWay_52 N K32 n) a0 v2 v3 a4 v5 v6 v7 v8 (1 : Int32) t12))) else none))))
set_option maxRecDepth 20000 in
theorem w_X5_writeWay_52 {p : Program} {l : Launch} {e : Env} {s : State} {m : MethodId} {args : Array Value} {below : List Frame} {meth : Method} {c : Code} {E : XE} (N : Nat) (hG : GG E NT 10 RX5 cX5_writeWay p s m args c) (hr : meth.sig.returnType = none) (hk : meth.locks = false) {K32 : Nat → Int32 → Int32 → Nat → Int32 → Int32 → Mm → Option (Mm)} (hK32 : ∀ (a0 : Nat) (v2 : Int32) (v3 : Int32) (a4 : Nat) (v5 : Int32) (v6 : Int32) (ha0 : okO 5 a0 = true) (ha4 : okO 3 a4 = true) (σ : Mm), JR E NT 10 p l e rm_X5_writeWay s m args below meth c 0 0 (fun r => MQ below (xQv E (NT + 0) r) args s 0 0 (xA E)) 32 [(0, .ref (E.B + a0)), (2, .int v2), (3, .int v3), (4, .ref (E.B + a4)), (5, .int v5), (6, .int v6)] [] σ (K32 a0 v2 v3 a4 v5 v6 σ)) : ∀ (n : Nat) (a0 : Nat) (v2 : Int32) (v3 : Int32) (a4 : Nat) (v5 : Int32) (v6 : Int32) (v7 : Int32) (v8 : Int32) (ha0 : okO 5 a0 = true) (ha4 : okO 3 a4 = true) (σ : Mm), JR E NT 10 p l e rm_X5_writeWay s m args below meth c 0 0 (fun r => MQ below (xQv E (NT + 0) r) args s 0 0 (xA E)) 52 [(0, .ref (E.B + a0)), (2, .int v2), (3, .int v3), (4, .ref (E.B + a4)), (5, .int v5), (6, .int v6), (7, .int v7), (8, .int v8)] [] σ (f_X5_writeWay_52 N K32 n a0 v2 v3 a4 v5 v6 v7 v8 σ) := by
  intro n
  induction n with
  | zero => intro a0 v2 v3 a4 v5 v6 v7 v8 ha0 ha4 σ r hX; cases hX
  | succ n ih =>
    intro a0 v2 v3 a4 v5 v6 v7 v8 ha0 ha4 σ
    show JR E NT 10 p l e rm_X5_writeWay s m args below meth c 0 0 (fun r => MQ below (xQv E (NT + 0) r) args s 0 0 (xA E)) 52 [(0, .ref (E.B + a0)), (2, .int v2), (3, .int v3), (4, .ref (E.B + a4)), (5, .int v5), (6, .int v6), (7, .int v7), (8, .int v8)] [] σ (if v8 < 0 then (bR (gr σ a4 0) (okA 0) (fun o8 => if inb v6 (arL o8) then (lt (si σ o8 (ix v6) v7) (fun t9 => K32 a0 v2 v3 a4 v7 (v6 + (1 : Int32)) t9)) else none)) else (if v8 = v2 then (f_X5_writeWay_85 N K32 (f_X5_writeWay_52 N K32 n) a0 v2 v3 a4 v5 v6 v7 v8 (σ)) else (bR (gr σ a0 4) (okO 0) (fun o10 => bR (gr σ o10 4) (okA 0) (fun o11 => if inb v5 (arL o11) then (bI (f_X5_holds N (gi σ o11 (ix v5)) v8 (σ)) (fun r13 t12 => if r13 = 0 then (f_X5_writeWay_85 N K32 (f_X5_writeWay_52 N K32 n) a0 v2 v3 a4 v5 v6 v7 v8 t12) else (f_X5_writeWay_86 N K32 (f_X5_writeWay_52 N K32 n) a0 v2 v3 a4 v5 v6 v7 v8 (1 : Int32) t12))) else none)))))
    refine jr_iload hG 7 dX5_writeWay_52 rfl ?_
    refine jr_if_lt hG 120 dX5_writeWay_54 (by decide) (fun _ => ?_) (fun _ => ?_)
    · refine jr_aload hG 3 dX5_writeWay_120 rfl ?_
      refine jr_getR hG fi_RX5_94 rfl (okO_s ha4) (okO_l ha4) dX5_writeWay_122 (fun o8 ho8 => ?_)
      refine jr_iload hG 5 dX5_writeWay_125 rfl ?_
      refine jr_iload hG 6 dX5_writeWay_127 rfl ?_
      refine jr_iast hG (okA_s (by decide) ho8) (okA_l ho8) dX5_writeWay_129 ?_
      refine jr_lets (fun t9 _ => ?_)
      refine jr_iload hG 6 dX5_writeWay_130 rfl ?_
      refine jr_istore (lv' := [(5, .int v7), (0, .ref (E.B + a0)), (2, .int v2), (3, .int v3), (4, .ref (E.B + a4)), (6, .int v6), (7, .int v7), (8, .int v8)]) hG dX5_writeWay_132 (by decide) rfl ?_
      refine jr_iinc (v := v6 + (1 : Int32)) (lv' := [(6, .int (v6 + (1 : Int32))), (5, .int v7), (0, .ref (E.B + a0)), (2, .int v2), (3, .int v3), (4, .ref (E.B + a4)), (7, .int v7), (8, .int v8)]) hG 5 dX5_writeWay_134 rfl rfl (by decide) rfl ?_
      refine jr_goto hG 32 dX5_writeWay_137 (by decide) ?_
      refine jr_sub (lv' := [(0, .ref (E.B + a0)), (2, .int v2), (3, .int v3), (4, .ref (E.B + a4)), (5, .int v7), (6, .int (v6 + (1 : Int32)))]) [2, 3, 4, 5, 1, 0] rfl ?_
      exact hK32 a0 v2 v3 a4 v7 (v6 + (1 : Int32)) ha0 ha4 t9
    · refine jr_iload hG 7 dX5_writeWay_57 rfl ?_
      refine jr_iload_n hG 1 dX5_writeWay_59 rfl rfl ?_
      refine jr_icmp_eq hG 85 dX5_writeWay_60 (by decide) (fun _ => ?_) (fun _ => ?_)
      · exact w_X5_writeWay_85 N hG hr hk hK32 ih a0 v2 v3 a4 v5 v6 v7 v8 ha0 ha4 (σ)
      · refine jr_aload_n hG 0 dX5_writeWay_63 rfl rfl ?_
        refine jr_getR hG fi_RX5_35 rfl (okO_s ha0) (okO_l ha0) dX5_writeWay_64 (fun o10 ho10 => ?_)
        refine jr_getR hG fi_RX5_198 rfl (okO_s ho10) (okO_l ho10) dX5_writeWay_67 (fun o11 ho11 => ?_)
        refine jr_iload hG 4 dX5_writeWay_70 rfl ?_
        refine jr_iald hG (okA_s (by decide) ho11) (okA_l ho11) dX5_writeWay_72 ?_
        refine jr_iload hG 7 dX5_writeWay_73 rfl ?_
        refine jr_callSi (As := [.int (gi σ o11 (ix v5)), .int v8]) hG (c_X5_holds l E N (gi σ o11 (ix v5)) v8 (σ)) ci_X5_holds wd_487 wd_366 ⟨rfl, rfl, Nat.le_of_ble_eq_true rfl, Nat.le_of_ble_eq_true rfl⟩ rfl rfl (Nat.le_of_ble_eq_true rfl) dX5_writeWay_75 ⟨Nat.le_refl _, Nat.le_refl _⟩ (fun r13 t12 => ?_)
        refine jr_if_eq hG 85 dX5_writeWay_78 (by decide) (fun _ => ?_) (fun _ => ?_)
        · exact w_X5_writeWay_85 N hG hr hk hK32 ih a0 v2 v3 a4 v5 v6 v7 v8 ha0 ha4 t12
        · refine jr_iconst (v := (1 : Int32)) hG dX5_writeWay_81 (by decide) ?_
          refine jr_goto hG 86 dX5_writeWay_82 (by decide) ?_
          exact w_X5_writeWay_86 N hG hr hk hK32 ih a0 v2 v3 a4 v5 v6 v7 v8 (1 : Int32) ha0 ha4 t12
def f_X5_writeWay_32 (N : Nat)  : Nat → Nat → Int32 → Int32 → Nat → Int32 → Int32 → Mm → Option (Mm)
  | 0 => fun _ _ _ _ _ _ _ => none
  | n + 1 => fun a0 v2 v3 a4 v5 v6 σ => if v3 < v6 then (some (σ)) else (bR (gr σ a0 6) (okO 2) (fun o6 => lt ((gi σ o6 8) - (1 : Int32)) (fun x7 => f_X5_writeWay_52 N (f_X5_writeWay_32 N n) N a0 v2 v3 a4 v5 v6 (0 : Int32) x7 (σ))))
set_option maxRecDepth 20000 in
theorem w_X5_writeWay_32 {p : Program} {l : Launch} {e : Env} {s : State} {m : MethodId} {args : Array Value} {below : List Frame} {meth : Method} {c : Code} {E : XE} (N : Nat) (hG : GG E NT 10 RX5 cX5_writeWay p s m args c) (hr : meth.sig.returnType = none) (hk : meth.locks = false)  : ∀ (n : Nat) (a0 : Nat) (v2 : Int32) (v3 : Int32) (a4 : Nat) (v5 : Int32) (v6 : Int32) (ha0 : okO 5 a0 = true) (ha4 : okO 3 a4 = true) (σ : Mm), JR E NT 10 p l e rm_X5_writeWay s m args below meth c 0 0 (fun r => MQ below (xQv E (NT + 0) r) args s 0 0 (xA E)) 32 [(0, .ref (E.B + a0)), (2, .int v2), (3, .int v3), (4, .ref (E.B + a4)), (5, .int v5), (6, .int v6)] [] σ (f_X5_writeWay_32 N n a0 v2 v3 a4 v5 v6 σ) := by
  intro n
  induction n with
  | zero => intro a0 v2 v3 a4 v5 v6 ha0 ha4 σ r hX; cases hX
  | succ n ih =>
    intro a0 v2 v3 a4 v5 v6 ha0 ha4 σ
    show JR E NT 10 p l e rm_X5_writeWay s m args below meth c 0 0 (fun r => MQ below (xQv E (NT + 0) r) args s 0 0 (xA E)) 32 [(0, .ref (E.B + a0)), (2, .int v2), (3, .int v3), (4, .ref (E.B + a4)), (5, .int v5), (6, .int v6)] [] σ (if v3 < v6 then (some (σ)) else (bR (gr σ a0 6) (okO 2) (fun o6 => lt ((gi σ o6 8) - (1 : Int32)) (fun x7 => f_X5_writeWay_52 N (f_X5_writeWay_32 N n) N a0 v2 v3 a4 v5 v6 (0 : Int32) x7 (σ)))))
    refine jr_iload hG 5 dX5_writeWay_32 rfl ?_
    refine jr_iload_n hG 2 dX5_writeWay_34 rfl rfl ?_
    refine jr_icmp_gt hG 140 dX5_writeWay_35 (by decide) (fun _ => ?_) (fun _ => ?_)
    · exact jr_vret hG hr hk dX5_writeWay_140
    · refine jr_iconst (v := (0 : Int32)) hG dX5_writeWay_38 (by decide) ?_
      refine jr_istore (lv' := [(7, .int (0 : Int32)), (0, .ref (E.B + a0)), (2, .int v2), (3, .int v3), (4, .ref (E.B + a4)), (5, .int v5), (6, .int v6)]) hG dX5_writeWay_39 (by decide) rfl ?_
      refine jr_aload_n hG 1 dX5_writeWay_41 rfl rfl ?_
      refine jr_getR hG fi_RX5_45 rfl (okO_s ha0) (okO_l ha0) dX5_writeWay_42 (fun o6 ho6 => ?_)
      refine jr_getI hG fi_RX5_127 rfl (okO_s ho6) (okO_l ho6) dX5_writeWay_45 ?_
      refine jr_iconst (v := (1 : Int32)) hG dX5_writeWay_48 (by decide) ?_
      refine jr_isub hG dX5_writeWay_49 ?_
      refine jr_leti (fun x7 _ => ?_)
      refine jr_istore (lv' := [(8, .int x7), (7, .int (0 : Int32)), (0, .ref (E.B + a0)), (2, .int v2), (3, .int v3), (4, .ref (E.B + a4)), (5, .int v5), (6, .int v6)]) hG dX5_writeWay_50 (by decide) rfl ?_
      refine jr_sub (lv' := [(0, .ref (E.B + a0)), (2, .int v2), (3, .int v3), (4, .ref (E.B + a4)), (5, .int v5), (6, .int v6), (7, .int (0 : Int32)), (8, .int x7)]) [2, 3, 4, 5, 6, 7, 1, 0] rfl ?_
      exact w_X5_writeWay_52 N hG hr hk ih N a0 v2 v3 a4 v5 v6 (0 : Int32) x7 ha0 ha4 (σ)
def f_X5_writeWay (N : Nat) (a0 : Nat) (v1 : Int32) (v2 : Int32) (v3 : Int32) (a4 : Nat) (σ : Mm) : Option (Mm) := if okO 5 a0 then (if okO 3 a4 then (bV (f_X3_begin N a4 (v3 + (2 : Int32)) (σ)) (fun t1 => bR (gr t1 a4 0) (okA 0) (fun o2 => if inb (0 : Int32) (arL o2) then (lt (si t1 o2 (ix (0 : Int32)) v1) (fun t3 => bR (gr t3 a4 0) (okA 0) (fun o4 => if inb (v3 + (1 : Int32)) (arL o4) then (lt (si t3 o4 (ix (v3 + (1 : Int32))) v2) (fun t5 => f_X5_writeWay_32 N N a0 v2 v3 a4 v1 (1 : Int32) t5)) else none))) else none))) else none) else none
set_option maxRecDepth 20000 in
theorem c_X5_writeWay (l : Launch) (E : XE) (N : Nat) (a0 : Nat) (v1 : Int32) (v2 : Int32) (v3 : Int32) (a4 : Nat) (σ : Mm) : ∀ r0, f_X5_writeWay N a0 v1 v2 v3 a4 σ = some r0 → Met l yX5_writeWay [Cond.code yX5_writeWay cX5_writeWay 10 none] rm_X5_writeWay (xPc E (NT + 0) σ [.ref (E.B + a0), .int v1, .int v2, .int v3, .ref (E.B + a4)]) (xQv E (NT + 0) r0) 0 0 (xA E) := by
  refine met_of (N0 := NT) (by decide +kernel) (Nat.le_of_ble_eq_true rfl) ?_
  intro p e s m args below meth c hG hr hk _
  show JR E NT 10 p l e rm_X5_writeWay s m args below meth c 0 0 (fun r => MQ below (xQv E (NT + 0) r) args s 0 0 (xA E)) 0 [(0, .ref (E.B + a0)), (1, .int v1), (2, .int v2), (3, .int v3), (4, .ref (E.B + a4))] [] σ (if okO 5 a0 then (if okO 3 a4 then (bV (f_X3_begin N a4 (v3 + (2 : Int32)) (σ)) (fun t1 => bR (gr t1 a4 0) (okA 0) (fun o2 => if inb (0 : Int32) (arL o2) then (lt (si t1 o2 (ix (0 : Int32)) v1) (fun t3 => bR (gr t3 a4 0) (okA 0) (fun o4 => if inb (v3 + (1 : Int32)) (arL o4) then (lt (si t3 o4 (ix (v3 + (1 : Int32))) v2) (fun t5 => f_X5_writeWay_32 N N a0 v2 v3 a4 v1 (1 : Int32) t5)) else none))) else none))) else none) else none)
  refine jr_guard (fun ha0 => ?_)
  refine jr_guard (fun ha4 => ?_)
  refine jr_aload hG 4 dX5_writeWay_0 rfl ?_
  refine jr_iload_n hG 3 dX5_writeWay_2 rfl rfl ?_
  refine jr_iconst (v := (2 : Int32)) hG dX5_writeWay_3 (by decide) ?_
  refine jr_iadd hG dX5_writeWay_4 ?_
  refine jr_callVv (As := [.int (v3 + (2 : Int32))]) hG (c_X3_begin l E N a4 (v3 + (2 : Int32)) (σ)) ci_X3_begin wd_280 ⟨wd_281, wd_282⟩ cl_3 (okO_s ha4) (okO_l ha4) ⟨rfl, rfl, Nat.le_of_ble_eq_true rfl, Nat.le_of_ble_eq_true rfl⟩ rfl rfl (Nat.le_of_ble_eq_true rfl) dX5_writeWay_5 ⟨Nat.le_refl _, Nat.le_refl _⟩ (fun t1 => ?_)
  refine jr_aload hG 4 dX5_writeWay_8 rfl ?_
  refine jr_getR hG fi_RX5_94 rfl (okO_s ha4) (okO_l ha4) dX5_writeWay_10 (fun o2 ho2 => ?_)
  refine jr_iconst (v := (0 : Int32)) hG dX5_writeWay_13 (by decide) ?_
  refine jr_iload_n hG 1 dX5_writeWay_14 rfl rfl ?_
  refine jr_iast hG (okA_s (by decide) ho2) (okA_l ho2) dX5_writeWay_15 ?_
  refine jr_lets (fun t3 _ => ?_)
  refine jr_aload hG 4 dX5_writeWay_16 rfl ?_
  refine jr_getR hG fi_RX5_94 rfl (okO_s ha4) (okO_l ha4) dX5_writeWay_18 (fun o4 ho4 => ?_)
  refine jr_iload_n hG 3 dX5_writeWay_21 rfl rfl ?_
  refine jr_iconst (v := (1 : Int32)) hG dX5_writeWay_22 (by decide) ?_
  refine jr_iadd hG dX5_writeWay_23 ?_
  refine jr_iload_n hG 2 dX5_writeWay_24 rfl rfl ?_
  refine jr_iast hG (okA_s (by decide) ho4) (okA_l ho4) dX5_writeWay_25 ?_
  refine jr_lets (fun t5 _ => ?_)
  refine jr_iload_n hG 1 dX5_writeWay_26 rfl rfl ?_
  refine jr_istore (lv' := [(5, .int v1), (0, .ref (E.B + a0)), (1, .int v1), (2, .int v2), (3, .int v3), (4, .ref (E.B + a4))]) hG dX5_writeWay_27 (by decide) rfl ?_
  refine jr_iconst (v := (1 : Int32)) hG dX5_writeWay_29 (by decide) ?_
  refine jr_istore (lv' := [(6, .int (1 : Int32)), (5, .int v1), (0, .ref (E.B + a0)), (1, .int v1), (2, .int v2), (3, .int v3), (4, .ref (E.B + a4))]) hG dX5_writeWay_30 (by decide) rfl ?_
  refine jr_sub (lv' := [(0, .ref (E.B + a0)), (2, .int v2), (3, .int v3), (4, .ref (E.B + a4)), (5, .int v1), (6, .int (1 : Int32))]) [2, 4, 5, 6, 1, 0] rfl ?_
  exact w_X5_writeWay_32 N hG hr hk N a0 v2 v3 a4 v1 (1 : Int32) ha0 ha4 t5
-- TonguesDealt.order(III)I
abbrev rm_X5_order : Room := { frames := 4, cells := 0, slots := 0, locals := 101 }
theorem ci_X5_order : CIx yX5_order cX5_order 5 (some .int) 3 := ⟨wd_516, wd_71, by decide +kernel⟩
def f_X5_order (N : Nat) (a0 : Nat) (v1 : Int32) (v2 : Int32) (v3 : Int32) (σ : Mm) : Option (Int32 × Mm) := if okO 5 a0 then (bI (f_X5_areTwo N a0 v1 v2 (σ)) (fun r2 t1 => if r2 = 0 then (some ((-1 : Int32), t1)) else (bI (f_X5_isRow N v3 t1) (fun r4 t3 => if r4 = 0 then (some ((-1 : Int32), t3)) else (bR (gr t3 a0 4) (okO 0) (fun o5 => bI (f_X0_fewestMouths N o5 v1 v2 t3) (fun r7 t6 => if r7 = (-9 : Int32) then (some ((-9 : Int32), t6)) else (bR (gr t6 a0 0) (okA 3) (fun o8 => if inb v3 (arL o8) then (bR (gr t6 o8 (ix v3)) (okO 3) (fun o9 => bV (f_X5_writeWay N a0 v1 v2 r7 o9 t6) (fun t10 => some (r7, t10)))) else none))))))))) else none
set_option maxRecDepth 20000 in
theorem c_X5_order (l : Launch) (E : XE) (N : Nat) (a0 : Nat) (v1 : Int32) (v2 : Int32) (v3 : Int32) (σ : Mm) : ∀ r0, f_X5_order N a0 v1 v2 v3 σ = some r0 → Met l yX5_order [Cond.code yX5_order cX5_order 5 (some .int)] rm_X5_order (xPc E (NT + 0) σ [.ref (E.B + a0), .int v1, .int v2, .int v3]) (xQi E (NT + 0) r0) 0 0 (xA E) := by
  refine met_of (N0 := NT) (by decide +kernel) (Nat.le_of_ble_eq_true rfl) ?_
  intro p e s m args below meth c hG hr hk _
  show JR E NT 5 p l e rm_X5_order s m args below meth c 0 0 (fun r => MQ below (xQi E (NT + 0) r) args s 0 0 (xA E)) 0 [(0, .ref (E.B + a0)), (1, .int v1), (2, .int v2), (3, .int v3)] [] σ (if okO 5 a0 then (bI (f_X5_areTwo N a0 v1 v2 (σ)) (fun r2 t1 => if r2 = 0 then (some ((-1 : Int32), t1)) else (bI (f_X5_isRow N v3 t1) (fun r4 t3 => if r4 = 0 then (some ((-1 : Int32), t3)) else (bR (gr t3 a0 4) (okO 0) (fun o5 => bI (f_X0_fewestMouths N o5 v1 v2 t3) (fun r7 t6 => if r7 = (-9 : Int32) then (some ((-9 : Int32), t6)) else (bR (gr t6 a0 0) (okA 3) (fun o8 => if inb v3 (arL o8) then (bR (gr t6 o8 (ix v3)) (okO 3) (fun o9 => bV (f_X5_writeWay N a0 v1 v2 r7 o9 t6) (fun t10 => some (r7, t10)))) else none))))))))) else none)
  refine jr_guard (fun ha0 => ?_)
  refine jr_aload_n hG 0 dX5_order_0 rfl rfl ?_
  refine jr_iload_n hG 1 dX5_order_1 rfl rfl ?_
  refine jr_iload_n hG 2 dX5_order_2 rfl rfl ?_
  refine jr_callVi (As := [.int v1, .int v2]) hG (c_X5_areTwo l E N a0 v1 v2 (σ)) ci_X5_areTwo wd_483 ⟨wd_485, wd_9⟩ cl_5 (okO_s ha0) (okO_l ha0) ⟨rfl, rfl, Nat.le_of_ble_eq_true rfl, Nat.le_of_ble_eq_true rfl⟩ rfl rfl (Nat.le_of_ble_eq_true rfl) dX5_order_3 ⟨Nat.le_refl _, Nat.le_refl _⟩ (fun r2 t1 => ?_)
  refine jr_if_eq hG 16 dX5_order_6 (by decide) (fun _ => ?_) (fun _ => ?_)
  · refine jr_iconst (v := (-1 : Int32)) hG dX5_order_16 (by decide) ?_
    exact jr_iret hG hr hk dX5_order_17
  · refine jr_iload_n hG 3 dX5_order_9 rfl rfl ?_
    refine jr_callSi (As := [.int v3]) hG (c_X5_isRow l E N v3 t1) ci_X5_isRow wd_273 wd_274 ⟨rfl, rfl, Nat.le_of_ble_eq_true rfl, Nat.le_of_ble_eq_true rfl⟩ rfl rfl (Nat.le_of_ble_eq_true rfl) dX5_order_10 ⟨Nat.le_refl _, Nat.le_refl _⟩ (fun r4 t3 => ?_)
    refine jr_if_ne hG 18 dX5_order_13 (by decide) (fun _ => ?_) (fun _ => ?_)
    · refine jr_aload_n hG 0 dX5_order_18 rfl rfl ?_
      refine jr_getR hG fi_RX5_35 rfl (okO_s ha0) (okO_l ha0) dX5_order_19 (fun o5 ho5 => ?_)
      refine jr_iload_n hG 1 dX5_order_22 rfl rfl ?_
      refine jr_iload_n hG 2 dX5_order_23 rfl rfl ?_
      refine jr_callVi (As := [.int v1, .int v2]) hG (c_X0_fewestMouths l E N o5 v1 v2 t3) ci_X0_fewestMouths wd_517 ⟨wd_518, wd_519⟩ cl_0 (okO_s ho5) (okO_l ho5) ⟨rfl, rfl, Nat.le_of_ble_eq_true rfl, Nat.le_of_ble_eq_true rfl⟩ rfl rfl (Nat.le_of_ble_eq_true rfl) dX5_order_24 ⟨Nat.le_refl _, Nat.le_refl _⟩ (fun r7 t6 => ?_)
      refine jr_istore (lv' := [(4, .int r7), (0, .ref (E.B + a0)), (1, .int v1), (2, .int v2), (3, .int v3)]) hG dX5_order_27 (by decide) rfl ?_
      refine jr_iload hG 0 dX5_order_29 rfl ?_
      refine jr_bipush (v := (-9 : Int32)) hG dX5_order_31 (by decide) ?_
      refine jr_icmp_ne hG 39 dX5_order_33 (by decide) (fun _ => ?_) (fun _ => ?_)
      · refine jr_aload_n hG 1 dX5_order_39 rfl rfl ?_
        refine jr_iload_n hG 2 dX5_order_40 rfl rfl ?_
        refine jr_iload_n hG 3 dX5_order_41 rfl rfl ?_
        refine jr_iload hG 0 dX5_order_42 rfl ?_
        refine jr_aload_n hG 1 dX5_order_44 rfl rfl ?_
        refine jr_getR hG fi_RX5_11 rfl (okO_s ha0) (okO_l ha0) dX5_order_45 (fun o8 ho8 => ?_)
        refine jr_iload_n hG 4 dX5_order_48 rfl rfl ?_
        refine jr_aald hG (okA_s (by decide) ho8) (by decide) rfl (okA_l ho8) dX5_order_49 (fun o9 ho9 => ?_)
        refine jr_callVv (As := [.int v1, .int v2, .int r7, .ref (E.B + o9)]) hG (c_X5_writeWay l E N a0 v1 v2 r7 o9 t6) ci_X5_writeWay wd_525 ⟨wd_527, wd_10⟩ cl_5 (okO_s ha0) (okO_l ha0) ⟨rfl, rfl, Nat.le_of_ble_eq_true rfl, Nat.le_of_ble_eq_true rfl⟩ rfl rfl (Nat.le_of_ble_eq_true rfl) dX5_order_50 ⟨Nat.le_refl _, Nat.le_refl _⟩ (fun t10 => ?_)
        refine jr_iload hG 0 dX5_order_53 rfl ?_
        exact jr_iret hG hr hk dX5_order_55
      · refine jr_bipush (v := (-9 : Int32)) hG dX5_order_36 (by decide) ?_
        exact jr_iret hG hr hk dX5_order_38
    · refine jr_iconst (v := (-1 : Int32)) hG dX5_order_16 (by decide) ?_
      exact jr_iret hG hr hk dX5_order_17
-- TonguesDealt.needs(II)I
abbrev rm_X5_needs : Room := { frames := 3, cells := 0, slots := 0, locals := 72 }
theorem ci_X5_needs : CIx yX5_needs cX5_needs 6 (some .int) 2 := ⟨wd_532, wd_71, by decide +kernel⟩
def f_X5_needs_110 (N : Nat) (K60 : Nat → Int32 → Int32 → Int32 → Int32 → Int32 → Mm → Option (Int32 × Mm)) (a0 : Nat) (v1 : Int32) (v2 : Int32) (v3 : Int32) (v4 : Int32) (v5 : Int32) (σ : Mm) : Option (Int32 × Mm) := K60 a0 v1 v2 v3 v4 (v5 + (1 : Int32)) (σ)
set_option maxRecDepth 20000 in
theorem w_X5_needs_110 {p : Program} {l : Launch} {e : Env} {s : State} {m : MethodId} {args : Array Value} {below : List Frame} {meth : Method} {c : Code} {E : XE} (N : Nat) (hG : GG E NT 6 RX5 cX5_needs p s m args c) (hr : meth.sig.returnType = (some .int)) (hk : meth.locks = false) {K60 : Nat → Int32 → Int32 → Int32 → Int32 → Int32 → Mm → Option (Int32 × Mm)} (hK60 : ∀ (a0 : Nat) (v1 : Int32) (v2 : Int32) (v3 : Int32) (v4 : Int32) (v5 : Int32) (ha0 : okO 5 a0 = true) (σ : Mm), JR E NT 6 p l e rm_X5_needs s m args below meth c 0 0 (fun r => MQ below (xQi E (NT + 0) r) args s 0 0 (xA E)) 60 [(0, .ref (E.B + a0)), (1, .int v1), (2, .int v2), (3, .int v3), (4, .int v4), (5, .int v5)] [] σ (K60 a0 v1 v2 v3 v4 v5 σ)) (a0 : Nat) (v1 : Int32) (v2 : Int32) (v3 : Int32) (v4 : Int32) (v5 : Int32) (ha0 : okO 5 a0 = true) (σ : Mm) : JR E NT 6 p l e rm_X5_needs s m args below meth c 0 0 (fun r => MQ below (xQi E (NT + 0) r) args s 0 0 (xA E)) 110 [(0, .ref (E.B + a0)), (1, .int v1), (2, .int v2), (3, .int v3), (4, .int v4), (5, .int v5)] [] σ (f_X5_needs_110 N K60 a0 v1 v2 v3 v4 v5 σ) := by
  show JR E NT 6 p l e rm_X5_needs s m args below meth c 0 0 (fun r => MQ below (xQi E (NT + 0) r) args s 0 0 (xA E)) 110 [(0, .ref (E.B + a0)), (1, .int v1), (2, .int v2), (3, .int v3), (4, .int v4), (5, .int v5)] [] σ (K60 a0 v1 v2 v3 v4 (v5 + (1 : Int32)) (σ))
  refine jr_iinc (v := v5 + (1 : Int32)) (lv' := [(5, .int (v5 + (1 : Int32))), (0, .ref (E.B + a0)), (1, .int v1), (2, .int v2), (3, .int v3), (4, .int v4)]) hG 5 dX5_needs_110 rfl rfl (by decide) rfl ?_
  refine jr_goto hG 60 dX5_needs_113 (by decide) ?_
  refine jr_sub (lv' := [(0, .ref (E.B + a0)), (1, .int v1), (2, .int v2), (3, .int v3), (4, .int v4), (5, .int (v5 + (1 : Int32)))]) [1, 2, 3, 4, 5, 0] rfl ?_
  exact hK60 a0 v1 v2 v3 v4 (v5 + (1 : Int32)) ha0 (σ)
def f_X5_needs_60 (N : Nat)  : Nat → Nat → Int32 → Int32 → Int32 → Int32 → Int32 → Mm → Option (Int32 × Mm)
  | 0 => fun _ _ _ _ _ _ _ => none
  | n + 1 => fun a0 v1 v2 v3 v4 v5 σ => bR (gr σ a0 6) (okO 2) (fun o12 => if (gi σ o12 8) ≤ v5 then (some (v4, σ)) else (bI (f_X5_holds N v3 v5 (σ)) (fun r14 t13 => if r14 = 0 then (f_X5_needs_110 N (f_X5_needs_60 N n) a0 v1 v2 v3 v4 v5 t13) else (bR (gr t13 a0 4) (okO 0) (fun o15 => bI (f_X0_goes N o15 v1 v2 (v3 &&& (((1 : Int32) <<< (v5 &&& 31)) ^^^ (-1 : Int32))) t13) (fun r17 t16 => if r17 = 0 then (lt (v4 ||| ((1 : Int32) <<< (v5 &&& 31))) (fun x18 => f_X5_needs_110 N (f_X5_needs_60 N n) a0 v1 v2 v3 x18 v5 t16)) else (f_X5_needs_110 N (f_X5_needs_60 N n) a0 v1 v2 v3 v4 v5 t16)))))))
set_option maxRecDepth 20000 in
theorem w_X5_needs_60 {p : Program} {l : Launch} {e : Env} {s : State} {m : MethodId} {args : Array Value} {below : List Frame} {meth : Method} {c : Code} {E : XE} (N : Nat) (hG : GG E NT 6 RX5 cX5_needs p s m args c) (hr : meth.sig.returnType = (some .int)) (hk : meth.locks = false)  : ∀ (n : Nat) (a0 : Nat) (v1 : Int32) (v2 : Int32) (v3 : Int32) (v4 : Int32) (v5 : Int32) (ha0 : okO 5 a0 = true) (σ : Mm), JR E NT 6 p l e rm_X5_needs s m args below meth c 0 0 (fun r => MQ below (xQi E (NT + 0) r) args s 0 0 (xA E)) 60 [(0, .ref (E.B + a0)), (1, .int v1), (2, .int v2), (3, .int v3), (4, .int v4), (5, .int v5)] [] σ (f_X5_needs_60 N n a0 v1 v2 v3 v4 v5 σ) := by
  intro n
  induction n with
  | zero => intro a0 v1 v2 v3 v4 v5 ha0 σ r hX; cases hX
  | succ n ih =>
    intro a0 v1 v2 v3 v4 v5 ha0 σ
    show JR E NT 6 p l e rm_X5_needs s m args below meth c 0 0 (fun r => MQ below (xQi E (NT + 0) r) args s 0 0 (xA E)) 60 [(0, .ref (E.B + a0)), (1, .int v1), (2, .int v2), (3, .int v3), (4, .int v4), (5, .int v5)] [] σ (bR (gr σ a0 6) (okO 2) (fun o12 => if (gi σ o12 8) ≤ v5 then (some (v4, σ)) else (bI (f_X5_holds N v3 v5 (σ)) (fun r14 t13 => if r14 = 0 then (f_X5_needs_110 N (f_X5_needs_60 N n) a0 v1 v2 v3 v4 v5 t13) else (bR (gr t13 a0 4) (okO 0) (fun o15 => bI (f_X0_goes N o15 v1 v2 (v3 &&& (((1 : Int32) <<< (v5 &&& 31)) ^^^ (-1 : Int32))) t13) (fun r17 t16 => if r17 = 0 then (lt (v4 ||| ((1 : Int32) <<< (v5 &&& 31))) (fun x18 => f_X5_needs_110 N (f_X5_needs_60 N n) a0 v1 v2 v3 x18 v5 t16)) else (f_X5_needs_110 N (f_X5_needs_60 N n) a0 v1 v2 v3 v4 v5 t16))))))))
    refine jr_iload hG 5 dX5_needs_60 rfl ?_
    refine jr_aload_n hG 0 dX5_needs_62 rfl rfl ?_
    refine jr_getR hG fi_RX5_45 rfl (okO_s ha0) (okO_l ha0) dX5_needs_63 (fun o12 ho12 => ?_)
    refine jr_getI hG fi_RX5_127 rfl (okO_s ho12) (okO_l ho12) dX5_needs_66 ?_
    refine jr_icmp_ge hG 116 dX5_needs_69 (by decide) (fun _ => ?_) (fun _ => ?_)
    · refine jr_iload hG 4 dX5_needs_116 rfl ?_
      exact jr_iret hG hr hk dX5_needs_118
    · refine jr_iload_n hG 3 dX5_needs_72 rfl rfl ?_
      refine jr_iload hG 5 dX5_needs_73 rfl ?_
      refine jr_callSi (As := [.int v3, .int v5]) hG (c_X5_holds l E N v3 v5 (σ)) ci_X5_holds wd_487 wd_366 ⟨rfl, rfl, Nat.le_of_ble_eq_true rfl, Nat.le_of_ble_eq_true rfl⟩ rfl rfl (Nat.le_of_ble_eq_true rfl) dX5_needs_75 ⟨Nat.le_refl _, Nat.le_refl _⟩ (fun r14 t13 => ?_)
      refine jr_if_eq hG 110 dX5_needs_78 (by decide) (fun _ => ?_) (fun _ => ?_)
      · exact w_X5_needs_110 N hG hr hk ih a0 v1 v2 v3 v4 v5 ha0 t13
      · refine jr_aload_n hG 0 dX5_needs_81 rfl rfl ?_
        refine jr_getR hG fi_RX5_35 rfl (okO_s ha0) (okO_l ha0) dX5_needs_82 (fun o15 ho15 => ?_)
        refine jr_iload_n hG 1 dX5_needs_85 rfl rfl ?_
        refine jr_iload_n hG 2 dX5_needs_86 rfl rfl ?_
        refine jr_iload_n hG 3 dX5_needs_87 rfl rfl ?_
        refine jr_iconst (v := (1 : Int32)) hG dX5_needs_88 (by decide) ?_
        refine jr_iload hG 5 dX5_needs_89 rfl ?_
        refine jr_ishl hG dX5_needs_91 ?_
        refine jr_iconst (v := (-1 : Int32)) hG dX5_needs_92 (by decide) ?_
        refine jr_ixor hG dX5_needs_93 ?_
        refine jr_iand hG dX5_needs_94 ?_
        refine jr_callVi (As := [.int v1, .int v2, .int (v3 &&& (((1 : Int32) <<< (v5 &&& 31)) ^^^ (-1 : Int32)))]) hG (c_X0_goes l E N o15 v1 v2 (v3 &&& (((1 : Int32) <<< (v5 &&& 31)) ^^^ (-1 : Int32))) t13) ci_X0_goes wd_537 ⟨wd_538, wd_539⟩ cl_0 (okO_s ho15) (okO_l ho15) ⟨rfl, rfl, Nat.le_of_ble_eq_true rfl, Nat.le_of_ble_eq_true rfl⟩ rfl rfl (Nat.le_of_ble_eq_true rfl) dX5_needs_95 ⟨Nat.le_refl _, Nat.le_refl _⟩ (fun r17 t16 => ?_)
        refine jr_if_ne hG 110 dX5_needs_98 (by decide) (fun _ => ?_) (fun _ => ?_)
        · exact w_X5_needs_110 N hG hr hk ih a0 v1 v2 v3 v4 v5 ha0 t16
        · refine jr_iload hG 4 dX5_needs_101 rfl ?_
          refine jr_iconst (v := (1 : Int32)) hG dX5_needs_103 (by decide) ?_
          refine jr_iload hG 5 dX5_needs_104 rfl ?_
          refine jr_ishl hG dX5_needs_106 ?_
          refine jr_ior hG dX5_needs_107 ?_
          refine jr_leti (fun x18 _ => ?_)
          refine jr_istore (lv' := [(4, .int x18), (0, .ref (E.B + a0)), (1, .int v1), (2, .int v2), (3, .int v3), (5, .int v5)]) hG dX5_needs_108 (by decide) rfl ?_
          refine jr_sub (lv' := [(0, .ref (E.B + a0)), (1, .int v1), (2, .int v2), (3, .int v3), (4, .int x18), (5, .int v5)]) [1, 2, 3, 4, 0, 5] rfl ?_
          exact w_X5_needs_110 N hG hr hk ih a0 v1 v2 v3 x18 v5 ha0 t16
def f_X5_needs (N : Nat) (a0 : Nat) (v1 : Int32) (v2 : Int32) (σ : Mm) : Option (Int32 × Mm) := if okO 5 a0 then (bI (f_X5_areTwo N a0 v1 v2 (σ)) (fun r2 t1 => if r2 = 0 then (some ((-1 : Int32), t1)) else (bR (gr t1 a0 6) (okO 2) (fun o3 => bI (f_X2_everybody N o3 t1) (fun r5 t4 => lt (r5 &&& ((((1 : Int32) <<< (v1 &&& 31)) ||| ((1 : Int32) <<< (v2 &&& 31))) ^^^ (-1 : Int32))) (fun x6 => bR (gr t4 a0 4) (okO 0) (fun o7 => bI (f_X0_goes N o7 v1 v2 x6 t4) (fun r9 t8 => if r9 = 0 then (lt (si t8 a0 11 (0 : Int32)) (fun t11 => some (x6, t11))) else (lt (si t8 a0 11 (1 : Int32)) (fun t10 => f_X5_needs_60 N N a0 v1 v2 x6 (0 : Int32) (0 : Int32) t10)))))))))) else none
set_option maxRecDepth 20000 in
theorem c_X5_needs (l : Launch) (E : XE) (N : Nat) (a0 : Nat) (v1 : Int32) (v2 : Int32) (σ : Mm) : ∀ r0, f_X5_needs N a0 v1 v2 σ = some r0 → Met l yX5_needs [Cond.code yX5_needs cX5_needs 6 (some .int)] rm_X5_needs (xPc E (NT + 0) σ [.ref (E.B + a0), .int v1, .int v2]) (xQi E (NT + 0) r0) 0 0 (xA E) := by
  refine met_of (N0 := NT) (by decide +kernel) (Nat.le_of_ble_eq_true rfl) ?_
  intro p e s m args below meth c hG hr hk _
  show JR E NT 6 p l e rm_X5_needs s m args below meth c 0 0 (fun r => MQ below (xQi E (NT + 0) r) args s 0 0 (xA E)) 0 [(0, .ref (E.B + a0)), (1, .int v1), (2, .int v2)] [] σ (if okO 5 a0 then (bI (f_X5_areTwo N a0 v1 v2 (σ)) (fun r2 t1 => if r2 = 0 then (some ((-1 : Int32), t1)) else (bR (gr t1 a0 6) (okO 2) (fun o3 => bI (f_X2_everybody N o3 t1) (fun r5 t4 => lt (r5 &&& ((((1 : Int32) <<< (v1 &&& 31)) ||| ((1 : Int32) <<< (v2 &&& 31))) ^^^ (-1 : Int32))) (fun x6 => bR (gr t4 a0 4) (okO 0) (fun o7 => bI (f_X0_goes N o7 v1 v2 x6 t4) (fun r9 t8 => if r9 = 0 then (lt (si t8 a0 11 (0 : Int32)) (fun t11 => some (x6, t11))) else (lt (si t8 a0 11 (1 : Int32)) (fun t10 => f_X5_needs_60 N N a0 v1 v2 x6 (0 : Int32) (0 : Int32) t10)))))))))) else none)
  refine jr_guard (fun ha0 => ?_)
  refine jr_aload_n hG 0 dX5_needs_0 rfl rfl ?_
  refine jr_iload_n hG 1 dX5_needs_1 rfl rfl ?_
  refine jr_iload_n hG 2 dX5_needs_2 rfl rfl ?_
  refine jr_callVi (As := [.int v1, .int v2]) hG (c_X5_areTwo l E N a0 v1 v2 (σ)) ci_X5_areTwo wd_483 ⟨wd_485, wd_9⟩ cl_5 (okO_s ha0) (okO_l ha0) ⟨rfl, rfl, Nat.le_of_ble_eq_true rfl, Nat.le_of_ble_eq_true rfl⟩ rfl rfl (Nat.le_of_ble_eq_true rfl) dX5_needs_3 ⟨Nat.le_refl _, Nat.le_refl _⟩ (fun r2 t1 => ?_)
  refine jr_if_ne hG 11 dX5_needs_6 (by decide) (fun _ => ?_) (fun _ => ?_)
  · refine jr_aload_n hG 0 dX5_needs_11 rfl rfl ?_
    refine jr_getR hG fi_RX5_45 rfl (okO_s ha0) (okO_l ha0) dX5_needs_12 (fun o3 ho3 => ?_)
    refine jr_callVi (As := []) hG (c_X2_everybody l E N o3 t1) ci_X2_everybody wd_533 ⟨wd_534, wd_535⟩ cl_2 (okO_s ho3) (okO_l ho3) ⟨rfl, rfl, Nat.le_of_ble_eq_true rfl, Nat.le_of_ble_eq_true rfl⟩ rfl rfl (Nat.le_of_ble_eq_true rfl) dX5_needs_15 ⟨Nat.le_refl _, Nat.le_refl _⟩ (fun r5 t4 => ?_)
    refine jr_iconst (v := (1 : Int32)) hG dX5_needs_18 (by decide) ?_
    refine jr_iload_n hG 1 dX5_needs_19 rfl rfl ?_
    refine jr_ishl hG dX5_needs_20 ?_
    refine jr_iconst (v := (1 : Int32)) hG dX5_needs_21 (by decide) ?_
    refine jr_iload_n hG 2 dX5_needs_22 rfl rfl ?_
    refine jr_ishl hG dX5_needs_23 ?_
    refine jr_ior hG dX5_needs_24 ?_
    refine jr_iconst (v := (-1 : Int32)) hG dX5_needs_25 (by decide) ?_
    refine jr_ixor hG dX5_needs_26 ?_
    refine jr_iand hG dX5_needs_27 ?_
    refine jr_leti (fun x6 _ => ?_)
    refine jr_istore_n (lv' := [(3, .int x6), (0, .ref (E.B + a0)), (1, .int v1), (2, .int v2)]) hG dX5_needs_28 rfl (by decide) rfl ?_
    refine jr_aload_n hG 1 dX5_needs_29 rfl rfl ?_
    refine jr_getR hG fi_RX5_35 rfl (okO_s ha0) (okO_l ha0) dX5_needs_30 (fun o7 ho7 => ?_)
    refine jr_iload_n hG 2 dX5_needs_33 rfl rfl ?_
    refine jr_iload_n hG 3 dX5_needs_34 rfl rfl ?_
    refine jr_iload_n hG 0 dX5_needs_35 rfl rfl ?_
    refine jr_callVi (As := [.int v1, .int v2, .int x6]) hG (c_X0_goes l E N o7 v1 v2 x6 t4) ci_X0_goes wd_537 ⟨wd_538, wd_539⟩ cl_0 (okO_s ho7) (okO_l ho7) ⟨rfl, rfl, Nat.le_of_ble_eq_true rfl, Nat.le_of_ble_eq_true rfl⟩ rfl rfl (Nat.le_of_ble_eq_true rfl) dX5_needs_36 ⟨Nat.le_refl _, Nat.le_refl _⟩ (fun r9 t8 => ?_)
    refine jr_if_ne hG 49 dX5_needs_39 (by decide) (fun _ => ?_) (fun _ => ?_)
    · refine jr_aload_n hG 1 dX5_needs_49 rfl rfl ?_
      refine jr_iconst (v := (1 : Int32)) hG dX5_needs_50 (by decide) ?_
      refine jr_putI hG fi_RX5_63 rfl rfl (okO_s ha0) (okO_l ha0) dX5_needs_51 ?_
      refine jr_lets (fun t10 _ => ?_)
      refine jr_iconst (v := (0 : Int32)) hG dX5_needs_54 (by decide) ?_
      refine jr_istore (lv' := [(4, .int (0 : Int32)), (3, .int x6), (0, .ref (E.B + a0)), (1, .int v1), (2, .int v2)]) hG dX5_needs_55 (by decide) rfl ?_
      refine jr_iconst (v := (0 : Int32)) hG dX5_needs_57 (by decide) ?_
      refine jr_istore (lv' := [(5, .int (0 : Int32)), (4, .int (0 : Int32)), (3, .int x6), (0, .ref (E.B + a0)), (1, .int v1), (2, .int v2)]) hG dX5_needs_58 (by decide) rfl ?_
      refine jr_sub (lv' := [(0, .ref (E.B + a0)), (1, .int v1), (2, .int v2), (3, .int x6), (4, .int (0 : Int32)), (5, .int (0 : Int32))]) [3, 4, 5, 2, 1, 0] rfl ?_
      exact w_X5_needs_60 N hG hr hk N a0 v1 v2 x6 (0 : Int32) (0 : Int32) ha0 t10
    · refine jr_aload_n hG 1 dX5_needs_42 rfl rfl ?_
      refine jr_iconst (v := (0 : Int32)) hG dX5_needs_43 (by decide) ?_
      refine jr_putI hG fi_RX5_63 rfl rfl (okO_s ha0) (okO_l ha0) dX5_needs_44 ?_
      refine jr_lets (fun t11 _ => ?_)
      refine jr_iload_n hG 0 dX5_needs_47 rfl rfl ?_
      exact jr_iret hG hr hk dX5_needs_48
  · refine jr_iconst (v := (-1 : Int32)) hG dX5_needs_9 (by decide) ?_
    exact jr_iret hG hr hk dX5_needs_10
-- TonguesDealt.crew()I
abbrev rm_X5_crew : Room := { frames := 2, cells := 0, slots := 0, locals := 43 }
theorem ci_X5_crew : CIx yX5_crew cX5_crew 5 (some .int) 0 := ⟨wd_544, wd_71, by decide +kernel⟩
def f_X5_crew_58 (N : Nat) (K19 : Nat → Int32 → Int32 → Int32 → Mm → Option (Int32 × Mm)) (a0 : Nat) (v1 : Int32) (v2 : Int32) (v3 : Int32) (σ : Mm) : Option (Int32 × Mm) := K19 a0 v1 v2 (v3 + (1 : Int32)) (σ)
set_option maxRecDepth 20000 in
theorem w_X5_crew_58 {p : Program} {l : Launch} {e : Env} {s : State} {m : MethodId} {args : Array Value} {below : List Frame} {meth : Method} {c : Code} {E : XE} (N : Nat) (hG : GG E NT 5 RX5 cX5_crew p s m args c) (hr : meth.sig.returnType = (some .int)) (hk : meth.locks = false) {K19 : Nat → Int32 → Int32 → Int32 → Mm → Option (Int32 × Mm)} (hK19 : ∀ (a0 : Nat) (v1 : Int32) (v2 : Int32) (v3 : Int32) (ha0 : okO 5 a0 = true) (σ : Mm), JR E NT 5 p l e rm_X5_crew s m args below meth c 0 0 (fun r => MQ below (xQi E (NT + 0) r) args s 0 0 (xA E)) 19 [(0, .ref (E.B + a0)), (1, .int v1), (2, .int v2), (3, .int v3)] [] σ (K19 a0 v1 v2 v3 σ)) (a0 : Nat) (v1 : Int32) (v2 : Int32) (v3 : Int32) (ha0 : okO 5 a0 = true) (σ : Mm) : JR E NT 5 p l e rm_X5_crew s m args below meth c 0 0 (fun r => MQ below (xQi E (NT + 0) r) args s 0 0 (xA E)) 58 [(0, .ref (E.B + a0)), (1, .int v1), (2, .int v2), (3, .int v3)] [] σ (f_X5_crew_58 N K19 a0 v1 v2 v3 σ) := by
  show JR E NT 5 p l e rm_X5_crew s m args below meth c 0 0 (fun r => MQ below (xQi E (NT + 0) r) args s 0 0 (xA E)) 58 [(0, .ref (E.B + a0)), (1, .int v1), (2, .int v2), (3, .int v3)] [] σ (K19 a0 v1 v2 (v3 + (1 : Int32)) (σ))
  refine jr_iinc (v := v3 + (1 : Int32)) (lv' := [(3, .int (v3 + (1 : Int32))), (0, .ref (E.B + a0)), (1, .int v1), (2, .int v2)]) hG 3 dX5_crew_58 rfl rfl (by decide) rfl ?_
  refine jr_goto hG 19 dX5_crew_61 (by decide) ?_
  refine jr_sub (lv' := [(0, .ref (E.B + a0)), (1, .int v1), (2, .int v2), (3, .int (v3 + (1 : Int32)))]) [1, 2, 3, 0] rfl ?_
  exact hK19 a0 v1 v2 (v3 + (1 : Int32)) ha0 (σ)
def f_X5_crew_19 (N : Nat)  : Nat → Nat → Int32 → Int32 → Int32 → Mm → Option (Int32 × Mm)
  | 0 => fun _ _ _ _ _ => none
  | n + 1 => fun a0 v1 v2 v3 σ => bR (gr σ a0 6) (okO 2) (fun o2 => bI (f_X2_everybody N o2 (σ)) (fun r4 t3 => if r4 < v3 then (lt (si t3 a0 11 v1) (fun t5 => some (v2, t5))) else (bI (f_J6_bitCount_0f7a4 N v3 t3) (fun r7 t6 => if r7 ≤ v2 then (f_X5_crew_58 N (f_X5_crew_19 N n) a0 v1 v2 v3 t6) else (bR (gr t6 a0 4) (okO 0) (fun o8 => bI (f_X0_isCrew N o8 v3 t6) (fun r10 t9 => if r10 = 0 then (f_X5_crew_58 N (f_X5_crew_19 N n) a0 v1 v2 v3 t9) else (f_X5_crew_58 N (f_X5_crew_19 N n) a0 v3 r7 v3 t9))))))))
set_option maxRecDepth 20000 in
theorem w_X5_crew_19 {p : Program} {l : Launch} {e : Env} {s : State} {m : MethodId} {args : Array Value} {below : List Frame} {meth : Method} {c : Code} {E : XE} (N : Nat) (hG : GG E NT 5 RX5 cX5_crew p s m args c) (hr : meth.sig.returnType = (some .int)) (hk : meth.locks = false)  : ∀ (n : Nat) (a0 : Nat) (v1 : Int32) (v2 : Int32) (v3 : Int32) (ha0 : okO 5 a0 = true) (σ : Mm), JR E NT 5 p l e rm_X5_crew s m args below meth c 0 0 (fun r => MQ below (xQi E (NT + 0) r) args s 0 0 (xA E)) 19 [(0, .ref (E.B + a0)), (1, .int v1), (2, .int v2), (3, .int v3)] [] σ (f_X5_crew_19 N n a0 v1 v2 v3 σ) := by
  intro n
  induction n with
  | zero => intro a0 v1 v2 v3 ha0 σ r hX; cases hX
  | succ n ih =>
    intro a0 v1 v2 v3 ha0 σ
    show JR E NT 5 p l e rm_X5_crew s m args below meth c 0 0 (fun r => MQ below (xQi E (NT + 0) r) args s 0 0 (xA E)) 19 [(0, .ref (E.B + a0)), (1, .int v1), (2, .int v2), (3, .int v3)] [] σ (bR (gr σ a0 6) (okO 2) (fun o2 => bI (f_X2_everybody N o2 (σ)) (fun r4 t3 => if r4 < v3 then (lt (si t3 a0 11 v1) (fun t5 => some (v2, t5))) else (bI (f_J6_bitCount_0f7a4 N v3 t3) (fun r7 t6 => if r7 ≤ v2 then (f_X5_crew_58 N (f_X5_crew_19 N n) a0 v1 v2 v3 t6) else (bR (gr t6 a0 4) (okO 0) (fun o8 => bI (f_X0_isCrew N o8 v3 t6) (fun r10 t9 => if r10 = 0 then (f_X5_crew_58 N (f_X5_crew_19 N n) a0 v1 v2 v3 t9) else (f_X5_crew_58 N (f_X5_crew_19 N n) a0 v3 r7 v3 t9)))))))))
    refine jr_iload_n hG 3 dX5_crew_19 rfl rfl ?_
    refine jr_aload_n hG 0 dX5_crew_20 rfl rfl ?_
    refine jr_getR hG fi_RX5_45 rfl (okO_s ha0) (okO_l ha0) dX5_crew_21 (fun o2 ho2 => ?_)
    refine jr_callVi (As := []) hG (c_X2_everybody l E N o2 (σ)) ci_X2_everybody wd_533 ⟨wd_534, wd_535⟩ cl_2 (okO_s ho2) (okO_l ho2) ⟨rfl, rfl, Nat.le_of_ble_eq_true rfl, Nat.le_of_ble_eq_true rfl⟩ rfl rfl (Nat.le_of_ble_eq_true rfl) dX5_crew_24 ⟨Nat.le_refl _, Nat.le_refl _⟩ (fun r4 t3 => ?_)
    refine jr_icmp_gt hG 64 dX5_crew_27 (by decide) (fun _ => ?_) (fun _ => ?_)
    · refine jr_aload_n hG 0 dX5_crew_64 rfl rfl ?_
      refine jr_iload_n hG 1 dX5_crew_65 rfl rfl ?_
      refine jr_putI hG fi_RX5_63 rfl rfl (okO_s ha0) (okO_l ha0) dX5_crew_66 ?_
      refine jr_lets (fun t5 _ => ?_)
      refine jr_iload_n hG 2 dX5_crew_69 rfl rfl ?_
      exact jr_iret hG hr hk dX5_crew_70
    · refine jr_iload_n hG 3 dX5_crew_30 rfl rfl ?_
      refine jr_callSi (As := [.int v3]) hG (c_J6_bitCount_0f7a4 l E N v3 t3) ci_J6_bitCount_0f7a4 wd_450 wd_437 ⟨rfl, rfl, Nat.le_of_ble_eq_true rfl, Nat.le_of_ble_eq_true rfl⟩ rfl rfl (Nat.le_of_ble_eq_true rfl) dX5_crew_31 ⟨Nat.le_refl _, Nat.le_refl _⟩ (fun r7 t6 => ?_)
      refine jr_istore (lv' := [(4, .int r7), (0, .ref (E.B + a0)), (1, .int v1), (2, .int v2), (3, .int v3)]) hG dX5_crew_34 (by decide) rfl ?_
      refine jr_iload hG 0 dX5_crew_36 rfl ?_
      refine jr_iload_n hG 3 dX5_crew_38 rfl rfl ?_
      refine jr_icmp_le hG 58 dX5_crew_39 (by decide) (fun _ => ?_) (fun _ => ?_)
      · refine jr_sub (lv' := [(0, .ref (E.B + a0)), (1, .int v1), (2, .int v2), (3, .int v3)]) [1, 2, 3, 4] rfl ?_
        exact w_X5_crew_58 N hG hr hk ih a0 v1 v2 v3 ha0 t6
      · refine jr_aload_n hG 1 dX5_crew_42 rfl rfl ?_
        refine jr_getR hG fi_RX5_35 rfl (okO_s ha0) (okO_l ha0) dX5_crew_43 (fun o8 ho8 => ?_)
        refine jr_iload_n hG 4 dX5_crew_46 rfl rfl ?_
        refine jr_callVi (As := [.int v3]) hG (c_X0_isCrew l E N o8 v3 t6) ci_X0_isCrew wd_545 ⟨wd_546, wd_547⟩ cl_0 (okO_s ho8) (okO_l ho8) ⟨rfl, rfl, Nat.le_of_ble_eq_true rfl, Nat.le_of_ble_eq_true rfl⟩ rfl rfl (Nat.le_of_ble_eq_true rfl) dX5_crew_47 ⟨Nat.le_refl _, Nat.le_refl _⟩ (fun r10 t9 => ?_)
        refine jr_if_eq hG 58 dX5_crew_50 (by decide) (fun _ => ?_) (fun _ => ?_)
        · refine jr_sub (lv' := [(0, .ref (E.B + a0)), (1, .int v1), (2, .int v2), (3, .int v3)]) [1, 2, 3, 4] rfl ?_
          exact w_X5_crew_58 N hG hr hk ih a0 v1 v2 v3 ha0 t9
        · refine jr_iload_n hG 4 dX5_crew_53 rfl rfl ?_
          refine jr_istore_n (lv' := [(1, .int v3), (4, .int r7), (0, .ref (E.B + a0)), (2, .int v2), (3, .int v3)]) hG dX5_crew_54 rfl (by decide) rfl ?_
          refine jr_iload hG 1 dX5_crew_55 rfl ?_
          refine jr_istore_n (lv' := [(2, .int r7), (1, .int v3), (4, .int r7), (0, .ref (E.B + a0)), (3, .int v3)]) hG dX5_crew_57 rfl (by decide) rfl ?_
          refine jr_sub (lv' := [(0, .ref (E.B + a0)), (1, .int v3), (2, .int r7), (3, .int v3)]) [3, 1, 0, 4] rfl ?_
          exact w_X5_crew_58 N hG hr hk ih a0 v3 r7 v3 ha0 t9
def f_X5_crew (N : Nat) (a0 : Nat) (σ : Mm) : Option (Int32 × Mm) := if okO 5 a0 then (bR (gr σ a0 6) (okO 2) (fun o1 => if (gi σ o1 8) = 0 then (some ((-4 : Int32), σ)) else (f_X5_crew_19 N N a0 (0 : Int32) (0 : Int32) (1 : Int32) (σ)))) else none
set_option maxRecDepth 20000 in
theorem c_X5_crew (l : Launch) (E : XE) (N : Nat) (a0 : Nat) (σ : Mm) : ∀ r0, f_X5_crew N a0 σ = some r0 → Met l yX5_crew [Cond.code yX5_crew cX5_crew 5 (some .int)] rm_X5_crew (xPc E (NT + 0) σ [.ref (E.B + a0)]) (xQi E (NT + 0) r0) 0 0 (xA E) := by
  refine met_of (N0 := NT) (by decide +kernel) (Nat.le_of_ble_eq_true rfl) ?_
  intro p e s m args below meth c hG hr hk _
  show JR E NT 5 p l e rm_X5_crew s m args below meth c 0 0 (fun r => MQ below (xQi E (NT + 0) r) args s 0 0 (xA E)) 0 [(0, .ref (E.B + a0))] [] σ (if okO 5 a0 then (bR (gr σ a0 6) (okO 2) (fun o1 => if (gi σ o1 8) = 0 then (some ((-4 : Int32), σ)) else (f_X5_crew_19 N N a0 (0 : Int32) (0 : Int32) (1 : Int32) (σ)))) else none)
  refine jr_guard (fun ha0 => ?_)
  refine jr_aload_n hG 0 dX5_crew_0 rfl rfl ?_
  refine jr_getR hG fi_RX5_45 rfl (okO_s ha0) (okO_l ha0) dX5_crew_1 (fun o1 ho1 => ?_)
  refine jr_getI hG fi_RX5_127 rfl (okO_s ho1) (okO_l ho1) dX5_crew_4 ?_
  refine jr_if_ne hG 13 dX5_crew_7 (by decide) (fun _ => ?_) (fun _ => ?_)
  · refine jr_iconst (v := (0 : Int32)) hG dX5_crew_13 (by decide) ?_
    refine jr_istore_n (lv' := [(1, .int (0 : Int32)), (0, .ref (E.B + a0))]) hG dX5_crew_14 rfl (by decide) rfl ?_
    refine jr_iconst (v := (0 : Int32)) hG dX5_crew_15 (by decide) ?_
    refine jr_istore_n (lv' := [(2, .int (0 : Int32)), (1, .int (0 : Int32)), (0, .ref (E.B + a0))]) hG dX5_crew_16 rfl (by decide) rfl ?_
    refine jr_iconst (v := (1 : Int32)) hG dX5_crew_17 (by decide) ?_
    refine jr_istore_n (lv' := [(3, .int (1 : Int32)), (2, .int (0 : Int32)), (1, .int (0 : Int32)), (0, .ref (E.B + a0))]) hG dX5_crew_18 rfl (by decide) rfl ?_
    refine jr_sub (lv' := [(0, .ref (E.B + a0)), (1, .int (0 : Int32)), (2, .int (0 : Int32)), (3, .int (1 : Int32))]) [3, 2, 1, 0] rfl ?_
    exact w_X5_crew_19 N hG hr hk N a0 (0 : Int32) (0 : Int32) (1 : Int32) ha0 (σ)
  · refine jr_bipush (v := (-4 : Int32)) hG dX5_crew_10 (by decide) ?_
    exact jr_iret hG hr hk dX5_crew_12
-- TonguesDealt.reach(I)I
abbrev rm_X5_reach : Room := { frames := 2, cells := 0, slots := 0, locals := 49 }
theorem ci_X5_reach : CIx yX5_reach cX5_reach 2 (some .int) 1 := ⟨wd_552, wd_71, by decide +kernel⟩
def f_X5_reach (N : Nat) (a0 : Nat) (v1 : Int32) (σ : Mm) : Option (Int32 × Mm) := if okO 5 a0 then (bR (gr σ a0 6) (okO 2) (fun o1 => bI (f_X2_has N o1 v1 (σ)) (fun r3 t2 => if r3 = 0 then (some ((-1 : Int32), t2)) else (bR (gr t2 a0 4) (okO 0) (fun o4 => bI (f_X0_reached N o4 v1 (63 : Int32) (6 : Int32) t2) (fun r6 t5 => some (r6, t5))))))) else none
set_option maxRecDepth 20000 in
theorem c_X5_reach (l : Launch) (E : XE) (N : Nat) (a0 : Nat) (v1 : Int32) (σ : Mm) : ∀ r0, f_X5_reach N a0 v1 σ = some r0 → Met l yX5_reach [Cond.code yX5_reach cX5_reach 2 (some .int)] rm_X5_reach (xPc E (NT + 0) σ [.ref (E.B + a0), .int v1]) (xQi E (NT + 0) r0) 0 0 (xA E) := by
  refine met_of (N0 := NT) (by decide +kernel) (Nat.le_of_ble_eq_true rfl) ?_
  intro p e s m args below meth c hG hr hk _
  show JR E NT 2 p l e rm_X5_reach s m args below meth c 0 0 (fun r => MQ below (xQi E (NT + 0) r) args s 0 0 (xA E)) 0 [(0, .ref (E.B + a0)), (1, .int v1)] [] σ (if okO 5 a0 then (bR (gr σ a0 6) (okO 2) (fun o1 => bI (f_X2_has N o1 v1 (σ)) (fun r3 t2 => if r3 = 0 then (some ((-1 : Int32), t2)) else (bR (gr t2 a0 4) (okO 0) (fun o4 => bI (f_X0_reached N o4 v1 (63 : Int32) (6 : Int32) t2) (fun r6 t5 => some (r6, t5))))))) else none)
  refine jr_guard (fun ha0 => ?_)
  refine jr_aload_n hG 0 dX5_reach_0 rfl rfl ?_
  refine jr_getR hG fi_RX5_45 rfl (okO_s ha0) (okO_l ha0) dX5_reach_1 (fun o1 ho1 => ?_)
  refine jr_iload_n hG 1 dX5_reach_4 rfl rfl ?_
  refine jr_callVi (As := [.int v1]) hG (c_X2_has l E N o1 v1 (σ)) ci_X2_has wd_421 ⟨wd_362, wd_363⟩ cl_2 (okO_s ho1) (okO_l ho1) ⟨rfl, rfl, Nat.le_of_ble_eq_true rfl, Nat.le_of_ble_eq_true rfl⟩ rfl rfl (Nat.le_of_ble_eq_true rfl) dX5_reach_5 ⟨Nat.le_refl _, Nat.le_refl _⟩ (fun r3 t2 => ?_)
  refine jr_if_ne hG 13 dX5_reach_8 (by decide) (fun _ => ?_) (fun _ => ?_)
  · refine jr_aload_n hG 0 dX5_reach_13 rfl rfl ?_
    refine jr_getR hG fi_RX5_35 rfl (okO_s ha0) (okO_l ha0) dX5_reach_14 (fun o4 ho4 => ?_)
    refine jr_iload_n hG 1 dX5_reach_17 rfl rfl ?_
    refine jr_bipush (v := (63 : Int32)) hG dX5_reach_18 (by decide) ?_
    refine jr_bipush (v := (6 : Int32)) hG dX5_reach_20 (by decide) ?_
    refine jr_callVi (As := [.int v1, .int (63 : Int32), .int (6 : Int32)]) hG (c_X0_reached l E N o4 v1 (63 : Int32) (6 : Int32) t2) ci_X0_reached wd_553 ⟨wd_522, wd_523⟩ cl_0 (okO_s ho4) (okO_l ho4) ⟨rfl, rfl, Nat.le_of_ble_eq_true rfl, Nat.le_of_ble_eq_true rfl⟩ rfl rfl (Nat.le_of_ble_eq_true rfl) dX5_reach_22 ⟨Nat.le_refl _, Nat.le_refl _⟩ (fun r6 t5 => ?_)
    exact jr_iret hG hr hk dX5_reach_25
  · refine jr_iconst (v := (-1 : Int32)) hG dX5_reach_11 (by decide) ?_
    exact jr_iret hG hr hk dX5_reach_12
-- TonguesDealt.crier()I
abbrev rm_X5_crier : Room := { frames := 2, cells := 0, slots := 0, locals := 49 }
theorem ci_X5_crier : CIx yX5_crier cX5_crier 5 (some .int) 0 := ⟨wd_557, wd_71, by decide +kernel⟩
def f_X5_crier_60 (N : Nat) (K19 : Nat → Int32 → Int32 → Int32 → Mm → Option (Int32 × Mm)) (a0 : Nat) (v1 : Int32) (v2 : Int32) (v3 : Int32) (σ : Mm) : Option (Int32 × Mm) := K19 a0 v1 v2 (v3 + (1 : Int32)) (σ)
set_option maxRecDepth 20000 in
theorem w_X5_crier_60 {p : Program} {l : Launch} {e : Env} {s : State} {m : MethodId} {args : Array Value} {below : List Frame} {meth : Method} {c : Code} {E : XE} (N : Nat) (hG : GG E NT 5 RX5 cX5_crier p s m args c) (hr : meth.sig.returnType = (some .int)) (hk : meth.locks = false) {K19 : Nat → Int32 → Int32 → Int32 → Mm → Option (Int32 × Mm)} (hK19 : ∀ (a0 : Nat) (v1 : Int32) (v2 : Int32) (v3 : Int32) (ha0 : okO 5 a0 = true) (σ : Mm), JR E NT 5 p l e rm_X5_crier s m args below meth c 0 0 (fun r => MQ below (xQi E (NT + 0) r) args s 0 0 (xA E)) 19 [(0, .ref (E.B + a0)), (1, .int v1), (2, .int v2), (3, .int v3)] [] σ (K19 a0 v1 v2 v3 σ)) (a0 : Nat) (v1 : Int32) (v2 : Int32) (v3 : Int32) (ha0 : okO 5 a0 = true) (σ : Mm) : JR E NT 5 p l e rm_X5_crier s m args below meth c 0 0 (fun r => MQ below (xQi E (NT + 0) r) args s 0 0 (xA E)) 60 [(0, .ref (E.B + a0)), (1, .int v1), (2, .int v2), (3, .int v3)] [] σ (f_X5_crier_60 N K19 a0 v1 v2 v3 σ) := by
  show JR E NT 5 p l e rm_X5_crier s m args below meth c 0 0 (fun r => MQ below (xQi E (NT + 0) r) args s 0 0 (xA E)) 60 [(0, .ref (E.B + a0)), (1, .int v1), (2, .int v2), (3, .int v3)] [] σ (K19 a0 v1 v2 (v3 + (1 : Int32)) (σ))
  refine jr_iinc (v := v3 + (1 : Int32)) (lv' := [(3, .int (v3 + (1 : Int32))), (0, .ref (E.B + a0)), (1, .int v1), (2, .int v2)]) hG 3 dX5_crier_60 rfl rfl (by decide) rfl ?_
  refine jr_goto hG 19 dX5_crier_63 (by decide) ?_
  refine jr_sub (lv' := [(0, .ref (E.B + a0)), (1, .int v1), (2, .int v2), (3, .int (v3 + (1 : Int32)))]) [1, 2, 3, 0] rfl ?_
  exact hK19 a0 v1 v2 (v3 + (1 : Int32)) ha0 (σ)
def f_X5_crier_19 (N : Nat)  : Nat → Nat → Int32 → Int32 → Int32 → Mm → Option (Int32 × Mm)
  | 0 => fun _ _ _ _ _ => none
  | n + 1 => fun a0 v1 v2 v3 σ => bR (gr σ a0 6) (okO 2) (fun o2 => if (gi σ o2 8) ≤ v3 then (lt (si σ a0 11 v2) (fun t3 => some (v1, t3))) else (bR (gr σ a0 4) (okO 0) (fun o4 => bI (f_X0_reached N o4 v3 (63 : Int32) (6 : Int32) (σ)) (fun r6 t5 => bI (f_J6_bitCount_0f7a4 N r6 t5) (fun r8 t7 => lt (r8 - (1 : Int32)) (fun x9 => if x9 ≤ v2 then (f_X5_crier_60 N (f_X5_crier_19 N n) a0 v1 v2 v3 t7) else (f_X5_crier_60 N (f_X5_crier_19 N n) a0 v3 x9 v3 t7)))))))
set_option maxRecDepth 20000 in
theorem w_X5_crier_19 {p : Program} {l : Launch} {e : Env} {s : State} {m : MethodId} {args : Array Value} {below : List Frame} {meth : Method} {c : Code} {E : XE} (N : Nat) (hG : GG E NT 5 RX5 cX5_crier p s m args c) (hr : meth.sig.returnType = (some .int)) (hk : meth.locks = false)  : ∀ (n : Nat) (a0 : Nat) (v1 : Int32) (v2 : Int32) (v3 : Int32) (ha0 : okO 5 a0 = true) (σ : Mm), JR E NT 5 p l e rm_X5_crier s m args below meth c 0 0 (fun r => MQ below (xQi E (NT + 0) r) args s 0 0 (xA E)) 19 [(0, .ref (E.B + a0)), (1, .int v1), (2, .int v2), (3, .int v3)] [] σ (f_X5_crier_19 N n a0 v1 v2 v3 σ) := by
  intro n
  induction n with
  | zero => intro a0 v1 v2 v3 ha0 σ r hX; cases hX
  | succ n ih =>
    intro a0 v1 v2 v3 ha0 σ
    show JR E NT 5 p l e rm_X5_crier s m args below meth c 0 0 (fun r => MQ below (xQi E (NT + 0) r) args s 0 0 (xA E)) 19 [(0, .ref (E.B + a0)), (1, .int v1), (2, .int v2), (3, .int v3)] [] σ (bR (gr σ a0 6) (okO 2) (fun o2 => if (gi σ o2 8) ≤ v3 then (lt (si σ a0 11 v2) (fun t3 => some (v1, t3))) else (bR (gr σ a0 4) (okO 0) (fun o4 => bI (f_X0_reached N o4 v3 (63 : Int32) (6 : Int32) (σ)) (fun r6 t5 => bI (f_J6_bitCount_0f7a4 N r6 t5) (fun r8 t7 => lt (r8 - (1 : Int32)) (fun x9 => if x9 ≤ v2 then (f_X5_crier_60 N (f_X5_crier_19 N n) a0 v1 v2 v3 t7) else (f_X5_crier_60 N (f_X5_crier_19 N n) a0 v3 x9 v3 t7))))))))
    refine jr_iload_n hG 3 dX5_crier_19 rfl rfl ?_
    refine jr_aload_n hG 0 dX5_crier_20 rfl rfl ?_
    refine jr_getR hG fi_RX5_45 rfl (okO_s ha0) (okO_l ha0) dX5_crier_21 (fun o2 ho2 => ?_)
    refine jr_getI hG fi_RX5_127 rfl (okO_s ho2) (okO_l ho2) dX5_crier_24 ?_
    refine jr_icmp_ge hG 66 dX5_crier_27 (by decide) (fun _ => ?_) (fun _ => ?_)
    · refine jr_aload_n hG 0 dX5_crier_66 rfl rfl ?_
      refine jr_iload_n hG 2 dX5_crier_67 rfl rfl ?_
      refine jr_putI hG fi_RX5_63 rfl rfl (okO_s ha0) (okO_l ha0) dX5_crier_68 ?_
      refine jr_lets (fun t3 _ => ?_)
      refine jr_iload_n hG 1 dX5_crier_71 rfl rfl ?_
      exact jr_iret hG hr hk dX5_crier_72
    · refine jr_aload_n hG 0 dX5_crier_30 rfl rfl ?_
      refine jr_getR hG fi_RX5_35 rfl (okO_s ha0) (okO_l ha0) dX5_crier_31 (fun o4 ho4 => ?_)
      refine jr_iload_n hG 3 dX5_crier_34 rfl rfl ?_
      refine jr_bipush (v := (63 : Int32)) hG dX5_crier_35 (by decide) ?_
      refine jr_bipush (v := (6 : Int32)) hG dX5_crier_37 (by decide) ?_
      refine jr_callVi (As := [.int v3, .int (63 : Int32), .int (6 : Int32)]) hG (c_X0_reached l E N o4 v3 (63 : Int32) (6 : Int32) (σ)) ci_X0_reached wd_553 ⟨wd_522, wd_523⟩ cl_0 (okO_s ho4) (okO_l ho4) ⟨rfl, rfl, Nat.le_of_ble_eq_true rfl, Nat.le_of_ble_eq_true rfl⟩ rfl rfl (Nat.le_of_ble_eq_true rfl) dX5_crier_39 ⟨Nat.le_refl _, Nat.le_refl _⟩ (fun r6 t5 => ?_)
      refine jr_callSi (As := [.int r6]) hG (c_J6_bitCount_0f7a4 l E N r6 t5) ci_J6_bitCount_0f7a4 wd_450 wd_437 ⟨rfl, rfl, Nat.le_of_ble_eq_true rfl, Nat.le_of_ble_eq_true rfl⟩ rfl rfl (Nat.le_of_ble_eq_true rfl) dX5_crier_42 ⟨Nat.le_refl _, Nat.le_refl _⟩ (fun r8 t7 => ?_)
      refine jr_iconst (v := (1 : Int32)) hG dX5_crier_45 (by decide) ?_
      refine jr_isub hG dX5_crier_46 ?_
      refine jr_leti (fun x9 _ => ?_)
      refine jr_istore (lv' := [(4, .int x9), (0, .ref (E.B + a0)), (1, .int v1), (2, .int v2), (3, .int v3)]) hG dX5_crier_47 (by decide) rfl ?_
      refine jr_iload hG 0 dX5_crier_49 rfl ?_
      refine jr_iload_n hG 3 dX5_crier_51 rfl rfl ?_
      refine jr_icmp_le hG 60 dX5_crier_52 (by decide) (fun _ => ?_) (fun _ => ?_)
      · refine jr_sub (lv' := [(0, .ref (E.B + a0)), (1, .int v1), (2, .int v2), (3, .int v3)]) [1, 2, 3, 4] rfl ?_
        exact w_X5_crier_60 N hG hr hk ih a0 v1 v2 v3 ha0 t7
      · refine jr_iload_n hG 4 dX5_crier_55 rfl rfl ?_
        refine jr_istore_n (lv' := [(1, .int v3), (4, .int x9), (0, .ref (E.B + a0)), (2, .int v2), (3, .int v3)]) hG dX5_crier_56 rfl (by decide) rfl ?_
        refine jr_iload hG 1 dX5_crier_57 rfl ?_
        refine jr_istore_n (lv' := [(2, .int x9), (1, .int v3), (4, .int x9), (0, .ref (E.B + a0)), (3, .int v3)]) hG dX5_crier_59 rfl (by decide) rfl ?_
        refine jr_sub (lv' := [(0, .ref (E.B + a0)), (1, .int v3), (2, .int x9), (3, .int v3)]) [3, 1, 0, 4] rfl ?_
        exact w_X5_crier_60 N hG hr hk ih a0 v3 x9 v3 ha0 t7
def f_X5_crier (N : Nat) (a0 : Nat) (σ : Mm) : Option (Int32 × Mm) := if okO 5 a0 then (bR (gr σ a0 6) (okO 2) (fun o1 => if (gi σ o1 8) = 0 then (some ((-4 : Int32), σ)) else (f_X5_crier_19 N N a0 (0 : Int32) (-1 : Int32) (0 : Int32) (σ)))) else none
set_option maxRecDepth 20000 in
theorem c_X5_crier (l : Launch) (E : XE) (N : Nat) (a0 : Nat) (σ : Mm) : ∀ r0, f_X5_crier N a0 σ = some r0 → Met l yX5_crier [Cond.code yX5_crier cX5_crier 5 (some .int)] rm_X5_crier (xPc E (NT + 0) σ [.ref (E.B + a0)]) (xQi E (NT + 0) r0) 0 0 (xA E) := by
  refine met_of (N0 := NT) (by decide +kernel) (Nat.le_of_ble_eq_true rfl) ?_
  intro p e s m args below meth c hG hr hk _
  show JR E NT 5 p l e rm_X5_crier s m args below meth c 0 0 (fun r => MQ below (xQi E (NT + 0) r) args s 0 0 (xA E)) 0 [(0, .ref (E.B + a0))] [] σ (if okO 5 a0 then (bR (gr σ a0 6) (okO 2) (fun o1 => if (gi σ o1 8) = 0 then (some ((-4 : Int32), σ)) else (f_X5_crier_19 N N a0 (0 : Int32) (-1 : Int32) (0 : Int32) (σ)))) else none)
  refine jr_guard (fun ha0 => ?_)
  refine jr_aload_n hG 0 dX5_crier_0 rfl rfl ?_
  refine jr_getR hG fi_RX5_45 rfl (okO_s ha0) (okO_l ha0) dX5_crier_1 (fun o1 ho1 => ?_)
  refine jr_getI hG fi_RX5_127 rfl (okO_s ho1) (okO_l ho1) dX5_crier_4 ?_
  refine jr_if_ne hG 13 dX5_crier_7 (by decide) (fun _ => ?_) (fun _ => ?_)
  · refine jr_iconst (v := (0 : Int32)) hG dX5_crier_13 (by decide) ?_
    refine jr_istore_n (lv' := [(1, .int (0 : Int32)), (0, .ref (E.B + a0))]) hG dX5_crier_14 rfl (by decide) rfl ?_
    refine jr_iconst (v := (-1 : Int32)) hG dX5_crier_15 (by decide) ?_
    refine jr_istore_n (lv' := [(2, .int (-1 : Int32)), (1, .int (0 : Int32)), (0, .ref (E.B + a0))]) hG dX5_crier_16 rfl (by decide) rfl ?_
    refine jr_iconst (v := (0 : Int32)) hG dX5_crier_17 (by decide) ?_
    refine jr_istore_n (lv' := [(3, .int (0 : Int32)), (2, .int (-1 : Int32)), (1, .int (0 : Int32)), (0, .ref (E.B + a0))]) hG dX5_crier_18 rfl (by decide) rfl ?_
    refine jr_sub (lv' := [(0, .ref (E.B + a0)), (1, .int (0 : Int32)), (2, .int (-1 : Int32)), (3, .int (0 : Int32))]) [3, 2, 1, 0] rfl ?_
    exact w_X5_crier_19 N hG hr hk N a0 (0 : Int32) (-1 : Int32) (0 : Int32) ha0 (σ)
  · refine jr_bipush (v := (-4 : Int32)) hG dX5_crier_10 (by decide) ?_
    exact jr_iret hG hr hk dX5_crier_12
-- TonguesDealt.allowSigns(II)V
abbrev rm_X5_allowSigns : Room := { frames := 1, cells := 0, slots := 0, locals := 20 }
theorem ci_X5_allowSigns : CIx yX5_allowSigns cX5_allowSigns 4 none 2 := ⟨wd_569, wd_71, by decide +kernel⟩
def f_X5_allowSigns_2 (N : Nat)  : Nat → Nat → Int32 → Int32 → Int32 → Mm → Option (Mm)
  | 0 => fun _ _ _ _ _ => none
  | n + 1 => fun a0 v1 v2 v3 σ => bR (gr σ a0 6) (okO 2) (fun o1 => if (gi σ o1 8) ≤ v3 then (bR (gr σ a0 8) (okA 0) (fun o2 => if inb v1 (arL o2) then (if inb v1 (arL o2) then (lt (si σ o2 (ix v1) ((gi σ o2 (ix v1)) &&& (((1 : Int32) <<< (v2 &&& 31)) ^^^ (-1 : Int32)))) (fun t3 => bR (gr t3 a0 8) (okA 0) (fun o4 => if inb v2 (arL o4) then (if inb v2 (arL o4) then (lt (si t3 o4 (ix v2) ((gi t3 o4 (ix v2)) &&& (((1 : Int32) <<< (v1 &&& 31)) ^^^ (-1 : Int32)))) (fun t5 => some t5)) else none) else none))) else none) else none)) else (bR (gr σ a0 8) (okA 0) (fun o6 => bR (gr σ a0 6) (okO 2) (fun o7 => bI (f_X2_everybody N o7 (σ)) (fun r9 t8 => if inb v3 (arL o6) then (lt (si t8 o6 (ix v3) (r9 &&& (((1 : Int32) <<< (v3 &&& 31)) ^^^ (-1 : Int32)))) (fun t10 => f_X5_allowSigns_2 N n a0 v1 v2 (v3 + (1 : Int32)) t10)) else none)))))
set_option maxRecDepth 20000 in
theorem w_X5_allowSigns_2 {p : Program} {l : Launch} {e : Env} {s : State} {m : MethodId} {args : Array Value} {below : List Frame} {meth : Method} {c : Code} {E : XE} (N : Nat) (hG : GG E NT 4 RX5 cX5_allowSigns p s m args c) (hr : meth.sig.returnType = none) (hk : meth.locks = false)  : ∀ (n : Nat) (a0 : Nat) (v1 : Int32) (v2 : Int32) (v3 : Int32) (ha0 : okO 5 a0 = true) (σ : Mm), JR E NT 4 p l e rm_X5_allowSigns s m args below meth c 0 0 (fun r => MQ below (xQv E (NT + 0) r) args s 0 0 (xA E)) 2 [(0, .ref (E.B + a0)), (1, .int v1), (2, .int v2), (3, .int v3)] [] σ (f_X5_allowSigns_2 N n a0 v1 v2 v3 σ) := by
  intro n
  induction n with
  | zero => intro a0 v1 v2 v3 ha0 σ r hX; cases hX
  | succ n ih =>
    intro a0 v1 v2 v3 ha0 σ
    show JR E NT 4 p l e rm_X5_allowSigns s m args below meth c 0 0 (fun r => MQ below (xQv E (NT + 0) r) args s 0 0 (xA E)) 2 [(0, .ref (E.B + a0)), (1, .int v1), (2, .int v2), (3, .int v3)] [] σ (bR (gr σ a0 6) (okO 2) (fun o1 => if (gi σ o1 8) ≤ v3 then (bR (gr σ a0 8) (okA 0) (fun o2 => if inb v1 (arL o2) then (if inb v1 (arL o2) then (lt (si σ o2 (ix v1) ((gi σ o2 (ix v1)) &&& (((1 : Int32) <<< (v2 &&& 31)) ^^^ (-1 : Int32)))) (fun t3 => bR (gr t3 a0 8) (okA 0) (fun o4 => if inb v2 (arL o4) then (if inb v2 (arL o4) then (lt (si t3 o4 (ix v2) ((gi t3 o4 (ix v2)) &&& (((1 : Int32) <<< (v1 &&& 31)) ^^^ (-1 : Int32)))) (fun t5 => some t5)) else none) else none))) else none) else none)) else (bR (gr σ a0 8) (okA 0) (fun o6 => bR (gr σ a0 6) (okO 2) (fun o7 => bI (f_X2_everybody N o7 (σ)) (fun r9 t8 => if inb v3 (arL o6) then (lt (si t8 o6 (ix v3) (r9 &&& (((1 : Int32) <<< (v3 &&& 31)) ^^^ (-1 : Int32)))) (fun t10 => f_X5_allowSigns_2 N n a0 v1 v2 (v3 + (1 : Int32)) t10)) else none))))))
    refine jr_iload_n hG 3 dX5_allowSigns_2 rfl rfl ?_
    refine jr_aload_n hG 0 dX5_allowSigns_3 rfl rfl ?_
    refine jr_getR hG fi_RX5_45 rfl (okO_s ha0) (okO_l ha0) dX5_allowSigns_4 (fun o1 ho1 => ?_)
    refine jr_getI hG fi_RX5_127 rfl (okO_s ho1) (okO_l ho1) dX5_allowSigns_7 ?_
    refine jr_icmp_ge hG 38 dX5_allowSigns_10 (by decide) (fun _ => ?_) (fun _ => ?_)
    · refine jr_aload_n hG 0 dX5_allowSigns_38 rfl rfl ?_
      refine jr_getR hG fi_RX5_52 rfl (okO_s ha0) (okO_l ha0) dX5_allowSigns_39 (fun o2 ho2 => ?_)
      refine jr_iload_n hG 1 dX5_allowSigns_42 rfl rfl ?_
      refine jr_dup2 hG dX5_allowSigns_43 rfl rfl ?_
      refine jr_iald hG (okA_s (by decide) ho2) (okA_l ho2) dX5_allowSigns_44 ?_
      refine jr_iconst (v := (1 : Int32)) hG dX5_allowSigns_45 (by decide) ?_
      refine jr_iload_n hG 2 dX5_allowSigns_46 rfl rfl ?_
      refine jr_ishl hG dX5_allowSigns_47 ?_
      refine jr_iconst (v := (-1 : Int32)) hG dX5_allowSigns_48 (by decide) ?_
      refine jr_ixor hG dX5_allowSigns_49 ?_
      refine jr_iand hG dX5_allowSigns_50 ?_
      refine jr_iast hG (okA_s (by decide) ho2) (okA_l ho2) dX5_allowSigns_51 ?_
      refine jr_lets (fun t3 _ => ?_)
      refine jr_aload_n hG 0 dX5_allowSigns_52 rfl rfl ?_
      refine jr_getR hG fi_RX5_52 rfl (okO_s ha0) (okO_l ha0) dX5_allowSigns_53 (fun o4 ho4 => ?_)
      refine jr_iload_n hG 2 dX5_allowSigns_56 rfl rfl ?_
      refine jr_dup2 hG dX5_allowSigns_57 rfl rfl ?_
      refine jr_iald hG (okA_s (by decide) ho4) (okA_l ho4) dX5_allowSigns_58 ?_
      refine jr_iconst (v := (1 : Int32)) hG dX5_allowSigns_59 (by decide) ?_
      refine jr_iload_n hG 1 dX5_allowSigns_60 rfl rfl ?_
      refine jr_ishl hG dX5_allowSigns_61 ?_
      refine jr_iconst (v := (-1 : Int32)) hG dX5_allowSigns_62 (by decide) ?_
      refine jr_ixor hG dX5_allowSigns_63 ?_
      refine jr_iand hG dX5_allowSigns_64 ?_
      refine jr_iast hG (okA_s (by decide) ho4) (okA_l ho4) dX5_allowSigns_65 ?_
      refine jr_lets (fun t5 _ => ?_)
      exact jr_vret hG hr hk dX5_allowSigns_66
    · refine jr_aload_n hG 0 dX5_allowSigns_13 rfl rfl ?_
      refine jr_getR hG fi_RX5_52 rfl (okO_s ha0) (okO_l ha0) dX5_allowSigns_14 (fun o6 ho6 => ?_)
      refine jr_iload_n hG 3 dX5_allowSigns_17 rfl rfl ?_
      refine jr_aload_n hG 0 dX5_allowSigns_18 rfl rfl ?_
      refine jr_getR hG fi_RX5_45 rfl (okO_s ha0) (okO_l ha0) dX5_allowSigns_19 (fun o7 ho7 => ?_)
      refine jr_callVi (As := []) hG (c_X2_everybody l E N o7 (σ)) ci_X2_everybody wd_533 ⟨wd_534, wd_535⟩ cl_2 (okO_s ho7) (okO_l ho7) ⟨rfl, rfl, Nat.le_of_ble_eq_true rfl, Nat.le_of_ble_eq_true rfl⟩ rfl rfl (Nat.le_of_ble_eq_true rfl) dX5_allowSigns_22 ⟨Nat.le_refl _, Nat.le_refl _⟩ (fun r9 t8 => ?_)
      refine jr_iconst (v := (1 : Int32)) hG dX5_allowSigns_25 (by decide) ?_
      refine jr_iload_n hG 3 dX5_allowSigns_26 rfl rfl ?_
      refine jr_ishl hG dX5_allowSigns_27 ?_
      refine jr_iconst (v := (-1 : Int32)) hG dX5_allowSigns_28 (by decide) ?_
      refine jr_ixor hG dX5_allowSigns_29 ?_
      refine jr_iand hG dX5_allowSigns_30 ?_
      refine jr_iast hG (okA_s (by decide) ho6) (okA_l ho6) dX5_allowSigns_31 ?_
      refine jr_lets (fun t10 _ => ?_)
      refine jr_iinc (v := v3 + (1 : Int32)) (lv' := [(3, .int (v3 + (1 : Int32))), (0, .ref (E.B + a0)), (1, .int v1), (2, .int v2)]) hG 3 dX5_allowSigns_32 rfl rfl (by decide) rfl ?_
      refine jr_goto hG 2 dX5_allowSigns_35 (by decide) ?_
      refine jr_sub (lv' := [(0, .ref (E.B + a0)), (1, .int v1), (2, .int v2), (3, .int (v3 + (1 : Int32)))]) [1, 2, 3, 0] rfl ?_
      exact ih a0 v1 v2 (v3 + (1 : Int32)) ha0 t10
def f_X5_allowSigns (N : Nat) (a0 : Nat) (v1 : Int32) (v2 : Int32) (σ : Mm) : Option (Mm) := if okO 5 a0 then (f_X5_allowSigns_2 N N a0 v1 v2 (0 : Int32) (σ)) else none
set_option maxRecDepth 20000 in
theorem c_X5_allowSigns (l : Launch) (E : XE) (N : Nat) (a0 : Nat) (v1 : Int32) (v2 : Int32) (σ : Mm) : ∀ r0, f_X5_allowSigns N a0 v1 v2 σ = some r0 → Met l yX5_allowSigns [Cond.code yX5_allowSigns cX5_allowSigns 4 none] rm_X5_allowSigns (xPc E (NT + 0) σ [.ref (E.B + a0), .int v1, .int v2]) (xQv E (NT + 0) r0) 0 0 (xA E) := by
  refine met_of (N0 := NT) (by decide +kernel) (Nat.le_of_ble_eq_true rfl) ?_
  intro p e s m args below meth c hG hr hk _
  show JR E NT 4 p l e rm_X5_allowSigns s m args below meth c 0 0 (fun r => MQ below (xQv E (NT + 0) r) args s 0 0 (xA E)) 0 [(0, .ref (E.B + a0)), (1, .int v1), (2, .int v2)] [] σ (if okO 5 a0 then (f_X5_allowSigns_2 N N a0 v1 v2 (0 : Int32) (σ)) else none)
  refine jr_guard (fun ha0 => ?_)
  refine jr_iconst (v := (0 : Int32)) hG dX5_allowSigns_0 (by decide) ?_
  refine jr_istore_n (lv' := [(3, .int (0 : Int32)), (0, .ref (E.B + a0)), (1, .int v1), (2, .int v2)]) hG dX5_allowSigns_1 rfl (by decide) rfl ?_
  refine jr_sub (lv' := [(0, .ref (E.B + a0)), (1, .int v1), (2, .int v2), (3, .int (0 : Int32))]) [1, 2, 3, 0] rfl ?_
  exact w_X5_allowSigns_2 N hG hr hk N a0 v1 v2 (0 : Int32) ha0 (σ)
-- TonguesDealt.dropUselessSigns(II)V
abbrev rm_X5_dropUselessSigns : Room := { frames := 1, cells := 0, slots := 0, locals := 21 }
theorem ci_X5_dropUselessSigns : CIx yX5_dropUselessSigns cX5_dropUselessSigns 5 none 2 := ⟨wd_590, wd_71, by decide +kernel⟩
def f_X5_dropUselessSigns_42 (N : Nat) (K2 : Nat → Int32 → Int32 → Int32 → Mm → Option (Mm)) (a0 : Nat) (v1 : Int32) (v2 : Int32) (v3 : Int32) (v4 : Int32) (σ : Mm) : Option (Mm) := bR (gr σ a0 8) (okA 0) (fun o7 => if inb v3 (arL o7) then (if inb v3 (arL o7) then (lt (si σ o7 (ix v3) ((gi σ o7 (ix v3)) &&& v4)) (fun t8 => K2 a0 v1 v2 (v3 + (1 : Int32)) t8)) else none) else none)
set_option maxRecDepth 20000 in
theorem w_X5_dropUselessSigns_42 {p : Program} {l : Launch} {e : Env} {s : State} {m : MethodId} {args : Array Value} {below : List Frame} {meth : Method} {c : Code} {E : XE} (N : Nat) (hG : GG E NT 5 RX5 cX5_dropUselessSigns p s m args c) (hr : meth.sig.returnType = none) (hk : meth.locks = false) {K2 : Nat → Int32 → Int32 → Int32 → Mm → Option (Mm)} (hK2 : ∀ (a0 : Nat) (v1 : Int32) (v2 : Int32) (v3 : Int32) (ha0 : okO 5 a0 = true) (σ : Mm), JR E NT 5 p l e rm_X5_dropUselessSigns s m args below meth c 0 0 (fun r => MQ below (xQv E (NT + 0) r) args s 0 0 (xA E)) 2 [(0, .ref (E.B + a0)), (1, .int v1), (2, .int v2), (3, .int v3)] [] σ (K2 a0 v1 v2 v3 σ)) (a0 : Nat) (v1 : Int32) (v2 : Int32) (v3 : Int32) (v4 : Int32) (ha0 : okO 5 a0 = true) (σ : Mm) : JR E NT 5 p l e rm_X5_dropUselessSigns s m args below meth c 0 0 (fun r => MQ below (xQv E (NT + 0) r) args s 0 0 (xA E)) 42 [(0, .ref (E.B + a0)), (1, .int v1), (2, .int v2), (3, .int v3), (4, .int v4)] [] σ (f_X5_dropUselessSigns_42 N K2 a0 v1 v2 v3 v4 σ) := by
  show JR E NT 5 p l e rm_X5_dropUselessSigns s m args below meth c 0 0 (fun r => MQ below (xQv E (NT + 0) r) args s 0 0 (xA E)) 42 [(0, .ref (E.B + a0)), (1, .int v1), (2, .int v2), (3, .int v3), (4, .int v4)] [] σ (bR (gr σ a0 8) (okA 0) (fun o7 => if inb v3 (arL o7) then (if inb v3 (arL o7) then (lt (si σ o7 (ix v3) ((gi σ o7 (ix v3)) &&& v4)) (fun t8 => K2 a0 v1 v2 (v3 + (1 : Int32)) t8)) else none) else none))
  refine jr_aload_n hG 0 dX5_dropUselessSigns_42 rfl rfl ?_
  refine jr_getR hG fi_RX5_52 rfl (okO_s ha0) (okO_l ha0) dX5_dropUselessSigns_43 (fun o7 ho7 => ?_)
  refine jr_iload_n hG 3 dX5_dropUselessSigns_46 rfl rfl ?_
  refine jr_dup2 hG dX5_dropUselessSigns_47 rfl rfl ?_
  refine jr_iald hG (okA_s (by decide) ho7) (okA_l ho7) dX5_dropUselessSigns_48 ?_
  refine jr_iload hG 4 dX5_dropUselessSigns_49 rfl ?_
  refine jr_iand hG dX5_dropUselessSigns_51 ?_
  refine jr_iast hG (okA_s (by decide) ho7) (okA_l ho7) dX5_dropUselessSigns_52 ?_
  refine jr_lets (fun t8 _ => ?_)
  refine jr_iinc (v := v3 + (1 : Int32)) (lv' := [(3, .int (v3 + (1 : Int32))), (0, .ref (E.B + a0)), (1, .int v1), (2, .int v2), (4, .int v4)]) hG 3 dX5_dropUselessSigns_53 rfl rfl (by decide) rfl ?_
  refine jr_goto hG 2 dX5_dropUselessSigns_56 (by decide) ?_
  refine jr_sub (lv' := [(0, .ref (E.B + a0)), (1, .int v1), (2, .int v2), (3, .int (v3 + (1 : Int32)))]) [1, 2, 3, 0] rfl ?_
  exact hK2 a0 v1 v2 (v3 + (1 : Int32)) ha0 t8
def f_X5_dropUselessSigns_26 (N : Nat) (K2 : Nat → Int32 → Int32 → Int32 → Mm → Option (Mm)) (a0 : Nat) (v1 : Int32) (v2 : Int32) (v3 : Int32) (s0 : Int32) (σ : Mm) : Option (Mm) := bI (f_X5_holds N v2 v3 (σ)) (fun r5 t4 => if r5 = 0 then (f_X5_dropUselessSigns_42 N K2 a0 v1 v2 v3 s0 t4) else (lt (s0 ||| v1) (fun x6 => f_X5_dropUselessSigns_42 N K2 a0 v1 v2 v3 x6 t4)))
set_option maxRecDepth 20000 in
theorem w_X5_dropUselessSigns_26 {p : Program} {l : Launch} {e : Env} {s : State} {m : MethodId} {args : Array Value} {below : List Frame} {meth : Method} {c : Code} {E : XE} (N : Nat) (hG : GG E NT 5 RX5 cX5_dropUselessSigns p s m args c) (hr : meth.sig.returnType = none) (hk : meth.locks = false) {K2 : Nat → Int32 → Int32 → Int32 → Mm → Option (Mm)} (hK2 : ∀ (a0 : Nat) (v1 : Int32) (v2 : Int32) (v3 : Int32) (ha0 : okO 5 a0 = true) (σ : Mm), JR E NT 5 p l e rm_X5_dropUselessSigns s m args below meth c 0 0 (fun r => MQ below (xQv E (NT + 0) r) args s 0 0 (xA E)) 2 [(0, .ref (E.B + a0)), (1, .int v1), (2, .int v2), (3, .int v3)] [] σ (K2 a0 v1 v2 v3 σ)) (a0 : Nat) (v1 : Int32) (v2 : Int32) (v3 : Int32) (s0 : Int32) (ha0 : okO 5 a0 = true) (σ : Mm) : JR E NT 5 p l e rm_X5_dropUselessSigns s m args below meth c 0 0 (fun r => MQ below (xQv E (NT + 0) r) args s 0 0 (xA E)) 26 [(0, .ref (E.B + a0)), (1, .int v1), (2, .int v2), (3, .int v3)] [.int s0] σ (f_X5_dropUselessSigns_26 N K2 a0 v1 v2 v3 s0 σ) := by
  show JR E NT 5 p l e rm_X5_dropUselessSigns s m args below meth c 0 0 (fun r => MQ below (xQv E (NT + 0) r) args s 0 0 (xA E)) 26 [(0, .ref (E.B + a0)), (1, .int v1), (2, .int v2), (3, .int v3)] [.int s0] σ (bI (f_X5_holds N v2 v3 (σ)) (fun r5 t4 => if r5 = 0 then (f_X5_dropUselessSigns_42 N K2 a0 v1 v2 v3 s0 t4) else (lt (s0 ||| v1) (fun x6 => f_X5_dropUselessSigns_42 N K2 a0 v1 v2 v3 x6 t4))))
  refine jr_istore (lv' := [(4, .int s0), (0, .ref (E.B + a0)), (1, .int v1), (2, .int v2), (3, .int v3)]) hG dX5_dropUselessSigns_26 (by decide) rfl ?_
  refine jr_iload_n hG 3 dX5_dropUselessSigns_28 rfl rfl ?_
  refine jr_iload_n hG 4 dX5_dropUselessSigns_29 rfl rfl ?_
  refine jr_callSi (As := [.int v2, .int v3]) hG (c_X5_holds l E N v2 v3 (σ)) ci_X5_holds wd_487 wd_366 ⟨rfl, rfl, Nat.le_of_ble_eq_true rfl, Nat.le_of_ble_eq_true rfl⟩ rfl rfl (Nat.le_of_ble_eq_true rfl) dX5_dropUselessSigns_30 ⟨Nat.le_refl _, Nat.le_refl _⟩ (fun r5 t4 => ?_)
  refine jr_if_eq hG 42 dX5_dropUselessSigns_33 (by decide) (fun _ => ?_) (fun _ => ?_)
  · refine jr_sub (lv' := [(0, .ref (E.B + a0)), (1, .int v1), (2, .int v2), (3, .int v3), (4, .int s0)]) [1, 2, 3, 4, 0] rfl ?_
    exact w_X5_dropUselessSigns_42 N hG hr hk hK2 a0 v1 v2 v3 s0 ha0 t4
  · refine jr_iload hG 0 dX5_dropUselessSigns_36 rfl ?_
    refine jr_iload_n hG 2 dX5_dropUselessSigns_38 rfl rfl ?_
    refine jr_ior hG dX5_dropUselessSigns_39 ?_
    refine jr_leti (fun x6 _ => ?_)
    refine jr_istore (lv' := [(4, .int x6), (0, .ref (E.B + a0)), (1, .int v1), (2, .int v2), (3, .int v3)]) hG dX5_dropUselessSigns_40 (by decide) rfl ?_
    refine jr_sub (lv' := [(0, .ref (E.B + a0)), (1, .int v1), (2, .int v2), (3, .int v3), (4, .int x6)]) [1, 2, 3, 4, 0] rfl ?_
    exact w_X5_dropUselessSigns_42 N hG hr hk hK2 a0 v1 v2 v3 x6 ha0 t4
def f_X5_dropUselessSigns_2 (N : Nat)  : Nat → Nat → Int32 → Int32 → Int32 → Mm → Option (Mm)
  | 0 => fun _ _ _ _ _ => none
  | n + 1 => fun a0 v1 v2 v3 σ => bR (gr σ a0 6) (okO 2) (fun o1 => if (gi σ o1 8) ≤ v3 then (some (σ)) else (bI (f_X5_holds N v1 v3 (σ)) (fun r3 t2 => if r3 = 0 then (f_X5_dropUselessSigns_26 N (f_X5_dropUselessSigns_2 N n) a0 v1 v2 v3 (0 : Int32) t2) else (f_X5_dropUselessSigns_26 N (f_X5_dropUselessSigns_2 N n) a0 v1 v2 v3 v2 t2))))
set_option maxRecDepth 20000 in
theorem w_X5_dropUselessSigns_2 {p : Program} {l : Launch} {e : Env} {s : State} {m : MethodId} {args : Array Value} {below : List Frame} {meth : Method} {c : Code} {E : XE} (N : Nat) (hG : GG E NT 5 RX5 cX5_dropUselessSigns p s m args c) (hr : meth.sig.returnType = none) (hk : meth.locks = false)  : ∀ (n : Nat) (a0 : Nat) (v1 : Int32) (v2 : Int32) (v3 : Int32) (ha0 : okO 5 a0 = true) (σ : Mm), JR E NT 5 p l e rm_X5_dropUselessSigns s m args below meth c 0 0 (fun r => MQ below (xQv E (NT + 0) r) args s 0 0 (xA E)) 2 [(0, .ref (E.B + a0)), (1, .int v1), (2, .int v2), (3, .int v3)] [] σ (f_X5_dropUselessSigns_2 N n a0 v1 v2 v3 σ) := by
  intro n
  induction n with
  | zero => intro a0 v1 v2 v3 ha0 σ r hX; cases hX
  | succ n ih =>
    intro a0 v1 v2 v3 ha0 σ
    show JR E NT 5 p l e rm_X5_dropUselessSigns s m args below meth c 0 0 (fun r => MQ below (xQv E (NT + 0) r) args s 0 0 (xA E)) 2 [(0, .ref (E.B + a0)), (1, .int v1), (2, .int v2), (3, .int v3)] [] σ (bR (gr σ a0 6) (okO 2) (fun o1 => if (gi σ o1 8) ≤ v3 then (some (σ)) else (bI (f_X5_holds N v1 v3 (σ)) (fun r3 t2 => if r3 = 0 then (f_X5_dropUselessSigns_26 N (f_X5_dropUselessSigns_2 N n) a0 v1 v2 v3 (0 : Int32) t2) else (f_X5_dropUselessSigns_26 N (f_X5_dropUselessSigns_2 N n) a0 v1 v2 v3 v2 t2)))))
    refine jr_iload_n hG 3 dX5_dropUselessSigns_2 rfl rfl ?_
    refine jr_aload_n hG 0 dX5_dropUselessSigns_3 rfl rfl ?_
    refine jr_getR hG fi_RX5_45 rfl (okO_s ha0) (okO_l ha0) dX5_dropUselessSigns_4 (fun o1 ho1 => ?_)
    refine jr_getI hG fi_RX5_127 rfl (okO_s ho1) (okO_l ho1) dX5_dropUselessSigns_7 ?_
    refine jr_icmp_ge hG 59 dX5_dropUselessSigns_10 (by decide) (fun _ => ?_) (fun _ => ?_)
    · exact jr_vret hG hr hk dX5_dropUselessSigns_59
    · refine jr_iload_n hG 1 dX5_dropUselessSigns_13 rfl rfl ?_
      refine jr_iload_n hG 3 dX5_dropUselessSigns_14 rfl rfl ?_
      refine jr_callSi (As := [.int v1, .int v3]) hG (c_X5_holds l E N v1 v3 (σ)) ci_X5_holds wd_487 wd_366 ⟨rfl, rfl, Nat.le_of_ble_eq_true rfl, Nat.le_of_ble_eq_true rfl⟩ rfl rfl (Nat.le_of_ble_eq_true rfl) dX5_dropUselessSigns_15 ⟨Nat.le_refl _, Nat.le_refl _⟩ (fun r3 t2 => ?_)
      refine jr_if_eq hG 25 dX5_dropUselessSigns_18 (by decide) (fun _ => ?_) (fun _ => ?_)
      · refine jr_iconst (v := (0 : Int32)) hG dX5_dropUselessSigns_25 (by decide) ?_
        exact w_X5_dropUselessSigns_26 N hG hr hk ih a0 v1 v2 v3 (0 : Int32) ha0 t2
      · refine jr_iload_n hG 2 dX5_dropUselessSigns_21 rfl rfl ?_
        refine jr_goto hG 26 dX5_dropUselessSigns_22 (by decide) ?_
        exact w_X5_dropUselessSigns_26 N hG hr hk ih a0 v1 v2 v3 v2 ha0 t2
def f_X5_dropUselessSigns (N : Nat) (a0 : Nat) (v1 : Int32) (v2 : Int32) (σ : Mm) : Option (Mm) := if okO 5 a0 then (f_X5_dropUselessSigns_2 N N a0 v1 v2 (0 : Int32) (σ)) else none
set_option maxRecDepth 20000 in
theorem c_X5_dropUselessSigns (l : Launch) (E : XE) (N : Nat) (a0 : Nat) (v1 : Int32) (v2 : Int32) (σ : Mm) : ∀ r0, f_X5_dropUselessSigns N a0 v1 v2 σ = some r0 → Met l yX5_dropUselessSigns [Cond.code yX5_dropUselessSigns cX5_dropUselessSigns 5 none] rm_X5_dropUselessSigns (xPc E (NT + 0) σ [.ref (E.B + a0), .int v1, .int v2]) (xQv E (NT + 0) r0) 0 0 (xA E) := by
  refine met_of (N0 := NT) (by decide +kernel) (Nat.le_of_ble_eq_true rfl) ?_
  intro p e s m args below meth c hG hr hk _
  show JR E NT 5 p l e rm_X5_dropUselessSigns s m args below meth c 0 0 (fun r => MQ below (xQv E (NT + 0) r) args s 0 0 (xA E)) 0 [(0, .ref (E.B + a0)), (1, .int v1), (2, .int v2)] [] σ (if okO 5 a0 then (f_X5_dropUselessSigns_2 N N a0 v1 v2 (0 : Int32) (σ)) else none)
  refine jr_guard (fun ha0 => ?_)
  refine jr_iconst (v := (0 : Int32)) hG dX5_dropUselessSigns_0 (by decide) ?_
  refine jr_istore_n (lv' := [(3, .int (0 : Int32)), (0, .ref (E.B + a0)), (1, .int v1), (2, .int v2)]) hG dX5_dropUselessSigns_1 rfl (by decide) rfl ?_
  refine jr_sub (lv' := [(0, .ref (E.B + a0)), (1, .int v1), (2, .int v2), (3, .int (0 : Int32))]) [1, 2, 3, 0] rfl ?_
  exact w_X5_dropUselessSigns_2 N hG hr hk N a0 v1 v2 (0 : Int32) ha0 (σ)
-- TonguesDealt.isSignLeft()Z
abbrev rm_X5_isSignLeft : Room := { frames := 0, cells := 0, slots := 0, locals := 0 }
theorem ci_X5_isSignLeft : CIx yX5_isSignLeft cX5_isSignLeft 2 (some .boolean) 0 := ⟨wd_594, wd_71, by decide +kernel⟩
def f_X5_isSignLeft_2 (N : Nat)  : Nat → Nat → Int32 → Mm → Option (Int32 × Mm)
  | 0 => fun _ _ _ => none
  | n + 1 => fun a0 v1 σ => bR (gr σ a0 6) (okO 2) (fun o1 => if (gi σ o1 8) ≤ v1 then (some ((0 : Int32), σ)) else (bR (gr σ a0 8) (okA 0) (fun o2 => if inb v1 (arL o2) then (if (gi σ o2 (ix v1)) = 0 then (f_X5_isSignLeft_2 N n a0 (v1 + (1 : Int32)) (σ)) else (some ((1 : Int32), σ))) else none)))
set_option maxRecDepth 20000 in
theorem w_X5_isSignLeft_2 {p : Program} {l : Launch} {e : Env} {s : State} {m : MethodId} {args : Array Value} {below : List Frame} {meth : Method} {c : Code} {E : XE} (N : Nat) (hG : GG E NT 2 RX5 cX5_isSignLeft p s m args c) (hr : meth.sig.returnType = (some .boolean)) (hk : meth.locks = false)  : ∀ (n : Nat) (a0 : Nat) (v1 : Int32) (ha0 : okO 5 a0 = true) (σ : Mm), JR E NT 2 p l e rm_X5_isSignLeft s m args below meth c 0 0 (fun r => MQ below (xQi E (NT + 0) r) args s 0 0 (xA E)) 2 [(0, .ref (E.B + a0)), (1, .int v1)] [] σ (f_X5_isSignLeft_2 N n a0 v1 σ) := by
  intro n
  induction n with
  | zero => intro a0 v1 ha0 σ r hX; cases hX
  | succ n ih =>
    intro a0 v1 ha0 σ
    show JR E NT 2 p l e rm_X5_isSignLeft s m args below meth c 0 0 (fun r => MQ below (xQi E (NT + 0) r) args s 0 0 (xA E)) 2 [(0, .ref (E.B + a0)), (1, .int v1)] [] σ (bR (gr σ a0 6) (okO 2) (fun o1 => if (gi σ o1 8) ≤ v1 then (some ((0 : Int32), σ)) else (bR (gr σ a0 8) (okA 0) (fun o2 => if inb v1 (arL o2) then (if (gi σ o2 (ix v1)) = 0 then (f_X5_isSignLeft_2 N n a0 (v1 + (1 : Int32)) (σ)) else (some ((1 : Int32), σ))) else none))))
    refine jr_iload_n hG 1 dX5_isSignLeft_2 rfl rfl ?_
    refine jr_aload_n hG 0 dX5_isSignLeft_3 rfl rfl ?_
    refine jr_getR hG fi_RX5_45 rfl (okO_s ha0) (okO_l ha0) dX5_isSignLeft_4 (fun o1 ho1 => ?_)
    refine jr_getI hG fi_RX5_127 rfl (okO_s ho1) (okO_l ho1) dX5_isSignLeft_7 ?_
    refine jr_icmp_ge hG 30 dX5_isSignLeft_10 (by decide) (fun _ => ?_) (fun _ => ?_)
    · refine jr_iconst (v := (0 : Int32)) hG dX5_isSignLeft_30 (by decide) ?_
      exact jr_zret hG hr hk (by decide) dX5_isSignLeft_31
    · refine jr_aload_n hG 0 dX5_isSignLeft_13 rfl rfl ?_
      refine jr_getR hG fi_RX5_52 rfl (okO_s ha0) (okO_l ha0) dX5_isSignLeft_14 (fun o2 ho2 => ?_)
      refine jr_iload_n hG 1 dX5_isSignLeft_17 rfl rfl ?_
      refine jr_iald hG (okA_s (by decide) ho2) (okA_l ho2) dX5_isSignLeft_18 ?_
      refine jr_if_eq hG 24 dX5_isSignLeft_19 (by decide) (fun _ => ?_) (fun _ => ?_)
      · refine jr_iinc (v := v1 + (1 : Int32)) (lv' := [(1, .int (v1 + (1 : Int32))), (0, .ref (E.B + a0))]) hG 1 dX5_isSignLeft_24 rfl rfl (by decide) rfl ?_
        refine jr_goto hG 2 dX5_isSignLeft_27 (by decide) ?_
        refine jr_sub (lv' := [(0, .ref (E.B + a0)), (1, .int (v1 + (1 : Int32)))]) [1, 0] rfl ?_
        exact ih a0 (v1 + (1 : Int32)) ha0 (σ)
      · refine jr_iconst (v := (1 : Int32)) hG dX5_isSignLeft_22 (by decide) ?_
        exact jr_zret hG hr hk (by decide) dX5_isSignLeft_23
def f_X5_isSignLeft (N : Nat) (a0 : Nat) (σ : Mm) : Option (Int32 × Mm) := if okO 5 a0 then (f_X5_isSignLeft_2 N N a0 (0 : Int32) (σ)) else none
set_option maxRecDepth 20000 in
theorem c_X5_isSignLeft (l : Launch) (E : XE) (N : Nat) (a0 : Nat) (σ : Mm) : ∀ r0, f_X5_isSignLeft N a0 σ = some r0 → Met l yX5_isSignLeft [Cond.code yX5_isSignLeft cX5_isSignLeft 2 (some .boolean)] rm_X5_isSignLeft (xPc E (NT + 0) σ [.ref (E.B + a0)]) (xQi E (NT + 0) r0) 0 0 (xA E) := by
  refine met_of (N0 := NT) (by decide +kernel) (Nat.le_of_ble_eq_true rfl) ?_
  intro p e s m args below meth c hG hr hk _
  show JR E NT 2 p l e rm_X5_isSignLeft s m args below meth c 0 0 (fun r => MQ below (xQi E (NT + 0) r) args s 0 0 (xA E)) 0 [(0, .ref (E.B + a0))] [] σ (if okO 5 a0 then (f_X5_isSignLeft_2 N N a0 (0 : Int32) (σ)) else none)
  refine jr_guard (fun ha0 => ?_)
  refine jr_iconst (v := (0 : Int32)) hG dX5_isSignLeft_0 (by decide) ?_
  refine jr_istore_n (lv' := [(1, .int (0 : Int32)), (0, .ref (E.B + a0))]) hG dX5_isSignLeft_1 rfl (by decide) rfl ?_
  refine jr_sub (lv' := [(0, .ref (E.B + a0)), (1, .int (0 : Int32))]) [1, 0] rfl ?_
  exact w_X5_isSignLeft_2 N hG hr hk N a0 (0 : Int32) ha0 (σ)
-- TonguesDealt.signs(II)I
abbrev rm_X5_signs : Room := { frames := 6, cells := 0, slots := 0, locals := 135 }
theorem ci_X5_signs : CIx yX5_signs cX5_signs 7 (some .int) 2 := ⟨wd_561, wd_71, by decide +kernel⟩
def f_X5_signs_112 (N : Nat) (K48 : Nat → Int32 → Int32 → Int32 → Int32 → Int32 → Mm → Option (Int32 × Mm)) (a0 : Nat) (v1 : Int32) (v2 : Int32) (v3 : Int32) (v4 : Int32) (v5 : Int32) (σ : Mm) : Option (Int32 × Mm) := K48 a0 v1 v2 v3 v4 (v5 + (1 : Int32)) (σ)
set_option maxRecDepth 20000 in
theorem w_X5_signs_112 {p : Program} {l : Launch} {e : Env} {s : State} {m : MethodId} {args : Array Value} {below : List Frame} {meth : Method} {c : Code} {E : XE} (N : Nat) (hG : GG E NT 7 RX5 cX5_signs p s m args c) (hr : meth.sig.returnType = (some .int)) (hk : meth.locks = false) {K48 : Nat → Int32 → Int32 → Int32 → Int32 → Int32 → Mm → Option (Int32 × Mm)} (hK48 : ∀ (a0 : Nat) (v1 : Int32) (v2 : Int32) (v3 : Int32) (v4 : Int32) (v5 : Int32) (ha0 : okO 5 a0 = true) (σ : Mm), JR E NT 7 p l e rm_X5_signs s m args below meth c 0 0 (fun r => MQ below (xQi E (NT + 0) r) args s 0 0 (xA E)) 48 [(0, .ref (E.B + a0)), (1, .int v1), (2, .int v2), (3, .int v3), (4, .int v4), (5, .int v5)] [] σ (K48 a0 v1 v2 v3 v4 v5 σ)) (a0 : Nat) (v1 : Int32) (v2 : Int32) (v3 : Int32) (v4 : Int32) (v5 : Int32) (ha0 : okO 5 a0 = true) (σ : Mm) : JR E NT 7 p l e rm_X5_signs s m args below meth c 0 0 (fun r => MQ below (xQi E (NT + 0) r) args s 0 0 (xA E)) 112 [(0, .ref (E.B + a0)), (1, .int v1), (2, .int v2), (3, .int v3), (4, .int v4), (5, .int v5)] [] σ (f_X5_signs_112 N K48 a0 v1 v2 v3 v4 v5 σ) := by
  show JR E NT 7 p l e rm_X5_signs s m args below meth c 0 0 (fun r => MQ below (xQi E (NT + 0) r) args s 0 0 (xA E)) 112 [(0, .ref (E.B + a0)), (1, .int v1), (2, .int v2), (3, .int v3), (4, .int v4), (5, .int v5)] [] σ (K48 a0 v1 v2 v3 v4 (v5 + (1 : Int32)) (σ))
  refine jr_iinc (v := v5 + (1 : Int32)) (lv' := [(5, .int (v5 + (1 : Int32))), (0, .ref (E.B + a0)), (1, .int v1), (2, .int v2), (3, .int v3), (4, .int v4)]) hG 5 dX5_signs_112 rfl rfl (by decide) rfl ?_
  refine jr_goto hG 48 dX5_signs_115 (by decide) ?_
  refine jr_sub (lv' := [(0, .ref (E.B + a0)), (1, .int v1), (2, .int v2), (3, .int v3), (4, .int v4), (5, .int (v5 + (1 : Int32)))]) [1, 2, 3, 4, 5, 0] rfl ?_
  exact hK48 a0 v1 v2 v3 v4 (v5 + (1 : Int32)) ha0 (σ)
def f_X5_signs_48 (N : Nat)  : Nat → Nat → Int32 → Int32 → Int32 → Int32 → Int32 → Mm → Option (Int32 × Mm)
  | 0 => fun _ _ _ _ _ _ _ => none
  | n + 1 => fun a0 v1 v2 v3 v4 v5 σ => if v4 ≤ v5 then (bI (f_J6_bitCount_0f7a4 N v3 (σ)) (fun r14 t13 => lt (si t13 a0 11 (r14 - (1 : Int32))) (fun t15 => bI (f_X5_holds N v3 v2 t15) (fun r17 t16 => if r17 = 0 then (bI (f_X5_isSignLeft N a0 t16) (fun r19 t18 => if r19 = 0 then (bR (gr t18 a0 6) (okO 2) (fun o20 => if (gi t18 o20 8) ≤ (2 : Int32) then (some ((-9 : Int32), t18)) else (some ((2 : Int32), t18)))) else (some ((1 : Int32), t18)))) else (some ((0 : Int32), t16)))))) else (bR (gr σ a0 5) (okO 0) (fun o21 => bR (gr σ a0 6) (okO 2) (fun o22 => bV (f_X0_thinkOf N o21 o22 (v5 * (4 : Int32)) (σ)) (fun t23 => bR (gr t23 a0 5) (okO 0) (fun o24 => bI (f_X0_reached N o24 v1 (63 : Int32) (6 : Int32) t23) (fun r26 t25 => lt (v3 &&& r26) (fun x27 => bI (f_X5_holds N r26 v2 t25) (fun r29 t28 => if r29 = 0 then (bR (gr t28 a0 5) (okO 0) (fun o30 => bI (f_X0_reaching N o30 v2 t28) (fun r32 t31 => bV (f_X5_dropUselessSigns N a0 r26 r32 t31) (fun t33 => f_X5_signs_112 N (f_X5_signs_48 N n) a0 v1 v2 x27 v4 v5 t33)))) else (f_X5_signs_112 N (f_X5_signs_48 N n) a0 v1 v2 x27 v4 v5 t28)))))))))
set_option maxRecDepth 20000 in
theorem w_X5_signs_48 {p : Program} {l : Launch} {e : Env} {s : State} {m : MethodId} {args : Array Value} {below : List Frame} {meth : Method} {c : Code} {E : XE} (N : Nat) (hG : GG E NT 7 RX5 cX5_signs p s m args c) (hr : meth.sig.returnType = (some .int)) (hk : meth.locks = false)  : ∀ (n : Nat) (a0 : Nat) (v1 : Int32) (v2 : Int32) (v3 : Int32) (v4 : Int32) (v5 : Int32) (ha0 : okO 5 a0 = true) (σ : Mm), JR E NT 7 p l e rm_X5_signs s m args below meth c 0 0 (fun r => MQ below (xQi E (NT + 0) r) args s 0 0 (xA E)) 48 [(0, .ref (E.B + a0)), (1, .int v1), (2, .int v2), (3, .int v3), (4, .int v4), (5, .int v5)] [] σ (f_X5_signs_48 N n a0 v1 v2 v3 v4 v5 σ) := by
  intro n
  induction n with
  | zero => intro a0 v1 v2 v3 v4 v5 ha0 σ r hX; cases hX
  | succ n ih =>
    intro a0 v1 v2 v3 v4 v5 ha0 σ
    show JR E NT 7 p l e rm_X5_signs s m args below meth c 0 0 (fun r => MQ below (xQi E (NT + 0) r) args s 0 0 (xA E)) 48 [(0, .ref (E.B + a0)), (1, .int v1), (2, .int v2), (3, .int v3), (4, .int v4), (5, .int v5)] [] σ (if v4 ≤ v5 then (bI (f_J6_bitCount_0f7a4 N v3 (σ)) (fun r14 t13 => lt (si t13 a0 11 (r14 - (1 : Int32))) (fun t15 => bI (f_X5_holds N v3 v2 t15) (fun r17 t16 => if r17 = 0 then (bI (f_X5_isSignLeft N a0 t16) (fun r19 t18 => if r19 = 0 then (bR (gr t18 a0 6) (okO 2) (fun o20 => if (gi t18 o20 8) ≤ (2 : Int32) then (some ((-9 : Int32), t18)) else (some ((2 : Int32), t18)))) else (some ((1 : Int32), t18)))) else (some ((0 : Int32), t16)))))) else (bR (gr σ a0 5) (okO 0) (fun o21 => bR (gr σ a0 6) (okO 2) (fun o22 => bV (f_X0_thinkOf N o21 o22 (v5 * (4 : Int32)) (σ)) (fun t23 => bR (gr t23 a0 5) (okO 0) (fun o24 => bI (f_X0_reached N o24 v1 (63 : Int32) (6 : Int32) t23) (fun r26 t25 => lt (v3 &&& r26) (fun x27 => bI (f_X5_holds N r26 v2 t25) (fun r29 t28 => if r29 = 0 then (bR (gr t28 a0 5) (okO 0) (fun o30 => bI (f_X0_reaching N o30 v2 t28) (fun r32 t31 => bV (f_X5_dropUselessSigns N a0 r26 r32 t31) (fun t33 => f_X5_signs_112 N (f_X5_signs_48 N n) a0 v1 v2 x27 v4 v5 t33)))) else (f_X5_signs_112 N (f_X5_signs_48 N n) a0 v1 v2 x27 v4 v5 t28))))))))))
    refine jr_iload hG 5 dX5_signs_48 rfl ?_
    refine jr_iload hG 4 dX5_signs_50 rfl ?_
    refine jr_icmp_ge hG 118 dX5_signs_52 (by decide) (fun _ => ?_) (fun _ => ?_)
    · refine jr_aload_n hG 0 dX5_signs_118 rfl rfl ?_
      refine jr_iload_n hG 3 dX5_signs_119 rfl rfl ?_
      refine jr_callSi (As := [.int v3]) hG (c_J6_bitCount_0f7a4 l E N v3 (σ)) ci_J6_bitCount_0f7a4 wd_450 wd_437 ⟨rfl, rfl, Nat.le_of_ble_eq_true rfl, Nat.le_of_ble_eq_true rfl⟩ rfl rfl (Nat.le_of_ble_eq_true rfl) dX5_signs_120 ⟨Nat.le_refl _, Nat.le_refl _⟩ (fun r14 t13 => ?_)
      refine jr_iconst (v := (1 : Int32)) hG dX5_signs_123 (by decide) ?_
      refine jr_isub hG dX5_signs_124 ?_
      refine jr_putI hG fi_RX5_63 rfl rfl (okO_s ha0) (okO_l ha0) dX5_signs_125 ?_
      refine jr_lets (fun t15 _ => ?_)
      refine jr_iload_n hG 3 dX5_signs_128 rfl rfl ?_
      refine jr_iload_n hG 2 dX5_signs_129 rfl rfl ?_
      refine jr_callSi (As := [.int v3, .int v2]) hG (c_X5_holds l E N v3 v2 t15) ci_X5_holds wd_487 wd_366 ⟨rfl, rfl, Nat.le_of_ble_eq_true rfl, Nat.le_of_ble_eq_true rfl⟩ rfl rfl (Nat.le_of_ble_eq_true rfl) dX5_signs_130 ⟨Nat.le_refl _, Nat.le_refl _⟩ (fun r17 t16 => ?_)
      refine jr_if_eq hG 138 dX5_signs_133 (by decide) (fun _ => ?_) (fun _ => ?_)
      · refine jr_aload_n hG 0 dX5_signs_138 rfl rfl ?_
        refine jr_callVi (As := []) hG (c_X5_isSignLeft l E N a0 t16) ci_X5_isSignLeft wd_591 ⟨wd_593, wd_13⟩ cl_5 (okO_s ha0) (okO_l ha0) ⟨rfl, rfl, Nat.le_of_ble_eq_true rfl, Nat.le_of_ble_eq_true rfl⟩ rfl rfl (Nat.le_of_ble_eq_true rfl) dX5_signs_139 ⟨Nat.le_refl _, Nat.le_refl _⟩ (fun r19 t18 => ?_)
        refine jr_if_eq hG 147 dX5_signs_142 (by decide) (fun _ => ?_) (fun _ => ?_)
        · refine jr_aload_n hG 0 dX5_signs_147 rfl rfl ?_
          refine jr_getR hG fi_RX5_45 rfl (okO_s ha0) (okO_l ha0) dX5_signs_148 (fun o20 ho20 => ?_)
          refine jr_getI hG fi_RX5_127 rfl (okO_s ho20) (okO_l ho20) dX5_signs_151 ?_
          refine jr_iconst (v := (2 : Int32)) hG dX5_signs_154 (by decide) ?_
          refine jr_icmp_le hG 162 dX5_signs_155 (by decide) (fun _ => ?_) (fun _ => ?_)
          · refine jr_bipush (v := (-9 : Int32)) hG dX5_signs_162 (by decide) ?_
            exact jr_iret hG hr hk dX5_signs_164
          · refine jr_iconst (v := (2 : Int32)) hG dX5_signs_158 (by decide) ?_
            refine jr_goto hG 164 dX5_signs_159 (by decide) ?_
            exact jr_iret hG hr hk dX5_signs_164
        · refine jr_iconst (v := (1 : Int32)) hG dX5_signs_145 (by decide) ?_
          exact jr_iret hG hr hk dX5_signs_146
      · refine jr_iconst (v := (0 : Int32)) hG dX5_signs_136 (by decide) ?_
        exact jr_iret hG hr hk dX5_signs_137
    · refine jr_aload_n hG 0 dX5_signs_55 rfl rfl ?_
      refine jr_getR hG fi_RX5_39 rfl (okO_s ha0) (okO_l ha0) dX5_signs_56 (fun o21 ho21 => ?_)
      refine jr_aload_n hG 0 dX5_signs_59 rfl rfl ?_
      refine jr_getR hG fi_RX5_45 rfl (okO_s ha0) (okO_l ha0) dX5_signs_60 (fun o22 ho22 => ?_)
      refine jr_iload hG 5 dX5_signs_63 rfl ?_
      refine jr_iconst (v := (4 : Int32)) hG dX5_signs_65 (by decide) ?_
      refine jr_imul hG dX5_signs_66 ?_
      refine jr_callVv (As := [.ref (E.B + o22), .int (v5 * (4 : Int32))]) hG (c_X0_thinkOf l E N o21 o22 (v5 * (4 : Int32)) (σ)) ci_X0_thinkOf wd_578 ⟨wd_579, wd_580⟩ cl_0 (okO_s ho21) (okO_l ho21) ⟨rfl, rfl, Nat.le_of_ble_eq_true rfl, Nat.le_of_ble_eq_true rfl⟩ rfl rfl (Nat.le_of_ble_eq_true rfl) dX5_signs_67 ⟨Nat.le_refl _, Nat.le_refl _⟩ (fun t23 => ?_)
      refine jr_aload_n hG 0 dX5_signs_70 rfl rfl ?_
      refine jr_getR hG fi_RX5_39 rfl (okO_s ha0) (okO_l ha0) dX5_signs_71 (fun o24 ho24 => ?_)
      refine jr_iload_n hG 1 dX5_signs_74 rfl rfl ?_
      refine jr_bipush (v := (63 : Int32)) hG dX5_signs_75 (by decide) ?_
      refine jr_bipush (v := (6 : Int32)) hG dX5_signs_77 (by decide) ?_
      refine jr_callVi (As := [.int v1, .int (63 : Int32), .int (6 : Int32)]) hG (c_X0_reached l E N o24 v1 (63 : Int32) (6 : Int32) t23) ci_X0_reached wd_553 ⟨wd_522, wd_523⟩ cl_0 (okO_s ho24) (okO_l ho24) ⟨rfl, rfl, Nat.le_of_ble_eq_true rfl, Nat.le_of_ble_eq_true rfl⟩ rfl rfl (Nat.le_of_ble_eq_true rfl) dX5_signs_79 ⟨Nat.le_refl _, Nat.le_refl _⟩ (fun r26 t25 => ?_)
      refine jr_istore (lv' := [(6, .int r26), (0, .ref (E.B + a0)), (1, .int v1), (2, .int v2), (3, .int v3), (4, .int v4), (5, .int v5)]) hG dX5_signs_82 (by decide) rfl ?_
      refine jr_iload_n hG 4 dX5_signs_84 rfl rfl ?_
      refine jr_iload hG 0 dX5_signs_85 rfl ?_
      refine jr_iand hG dX5_signs_87 ?_
      refine jr_leti (fun x27 _ => ?_)
      refine jr_istore_n (lv' := [(3, .int x27), (6, .int r26), (0, .ref (E.B + a0)), (1, .int v1), (2, .int v2), (4, .int v4), (5, .int v5)]) hG dX5_signs_88 rfl (by decide) rfl ?_
      refine jr_iload hG 1 dX5_signs_89 rfl ?_
      refine jr_iload_n hG 4 dX5_signs_91 rfl rfl ?_
      refine jr_callSi (As := [.int r26, .int v2]) hG (c_X5_holds l E N r26 v2 t25) ci_X5_holds wd_487 wd_366 ⟨rfl, rfl, Nat.le_of_ble_eq_true rfl, Nat.le_of_ble_eq_true rfl⟩ rfl rfl (Nat.le_of_ble_eq_true rfl) dX5_signs_92 ⟨Nat.le_refl _, Nat.le_refl _⟩ (fun r29 t28 => ?_)
      refine jr_if_ne hG 112 dX5_signs_95 (by decide) (fun _ => ?_) (fun _ => ?_)
      · refine jr_sub (lv' := [(0, .ref (E.B + a0)), (1, .int v1), (2, .int v2), (3, .int x27), (4, .int v4), (5, .int v5)]) [2, 3, 4, 0, 5, 6] rfl ?_
        exact w_X5_signs_112 N hG hr hk ih a0 v1 v2 x27 v4 v5 ha0 t28
      · refine jr_aload_n hG 2 dX5_signs_98 rfl rfl ?_
        refine jr_iload hG 1 dX5_signs_99 rfl ?_
        refine jr_aload_n hG 2 dX5_signs_101 rfl rfl ?_
        refine jr_getR hG fi_RX5_39 rfl (okO_s ha0) (okO_l ha0) dX5_signs_102 (fun o30 ho30 => ?_)
        refine jr_iload_n hG 4 dX5_signs_105 rfl rfl ?_
        refine jr_callVi (As := [.int v2]) hG (c_X0_reaching l E N o30 v2 t28) ci_X0_reaching wd_583 ⟨wd_584, wd_585⟩ cl_0 (okO_s ho30) (okO_l ho30) ⟨rfl, rfl, Nat.le_of_ble_eq_true rfl, Nat.le_of_ble_eq_true rfl⟩ rfl rfl (Nat.le_of_ble_eq_true rfl) dX5_signs_106 ⟨Nat.le_refl _, Nat.le_refl _⟩ (fun r32 t31 => ?_)
        refine jr_callVv (As := [.int r26, .int r32]) hG (c_X5_dropUselessSigns l E N a0 r26 r32 t31) ci_X5_dropUselessSigns wd_587 ⟨wd_589, wd_12⟩ cl_5 (okO_s ha0) (okO_l ha0) ⟨rfl, rfl, Nat.le_of_ble_eq_true rfl, Nat.le_of_ble_eq_true rfl⟩ rfl rfl (Nat.le_of_ble_eq_true rfl) dX5_signs_109 ⟨Nat.le_refl _, Nat.le_refl _⟩ (fun t33 => ?_)
        refine jr_sub (lv' := [(0, .ref (E.B + a0)), (1, .int v1), (2, .int v2), (3, .int x27), (4, .int v4), (5, .int v5)]) [2, 3, 4, 0, 5, 6] rfl ?_
        exact w_X5_signs_112 N hG hr hk ih a0 v1 v2 x27 v4 v5 ha0 t33
def f_X5_signs (N : Nat) (a0 : Nat) (v1 : Int32) (v2 : Int32) (σ : Mm) : Option (Int32 × Mm) := if okO 5 a0 then (bI (f_X5_areTwo N a0 v1 v2 (σ)) (fun r2 t1 => if r2 = 0 then (some ((-1 : Int32), t1)) else (bR (gr t1 a0 5) (okO 0) (fun o3 => bR (gr t1 a0 4) (okO 0) (fun o4 => bV (f_X0_takeTermsFrom N o3 o4 t1) (fun t5 => bV (f_X5_allowSigns N a0 v1 v2 t5) (fun t6 => bR (gr t6 a0 6) (okO 2) (fun o7 => bI (f_X2_everybody N o7 t6) (fun r9 t8 => bR (gr t8 a0 6) (okO 2) (fun o10 => bI (f_X2_dealsUpToTurning N o10 t8) (fun r12 t11 => f_X5_signs_48 N N a0 v1 v2 r9 r12 (0 : Int32) t11))))))))))) else none
set_option maxRecDepth 20000 in
theorem c_X5_signs (l : Launch) (E : XE) (N : Nat) (a0 : Nat) (v1 : Int32) (v2 : Int32) (σ : Mm) : ∀ r0, f_X5_signs N a0 v1 v2 σ = some r0 → Met l yX5_signs [Cond.code yX5_signs cX5_signs 7 (some .int)] rm_X5_signs (xPc E (NT + 0) σ [.ref (E.B + a0), .int v1, .int v2]) (xQi E (NT + 0) r0) 0 0 (xA E) := by
  refine met_of (N0 := NT) (by decide +kernel) (Nat.le_of_ble_eq_true rfl) ?_
  intro p e s m args below meth c hG hr hk _
  show JR E NT 7 p l e rm_X5_signs s m args below meth c 0 0 (fun r => MQ below (xQi E (NT + 0) r) args s 0 0 (xA E)) 0 [(0, .ref (E.B + a0)), (1, .int v1), (2, .int v2)] [] σ (if okO 5 a0 then (bI (f_X5_areTwo N a0 v1 v2 (σ)) (fun r2 t1 => if r2 = 0 then (some ((-1 : Int32), t1)) else (bR (gr t1 a0 5) (okO 0) (fun o3 => bR (gr t1 a0 4) (okO 0) (fun o4 => bV (f_X0_takeTermsFrom N o3 o4 t1) (fun t5 => bV (f_X5_allowSigns N a0 v1 v2 t5) (fun t6 => bR (gr t6 a0 6) (okO 2) (fun o7 => bI (f_X2_everybody N o7 t6) (fun r9 t8 => bR (gr t8 a0 6) (okO 2) (fun o10 => bI (f_X2_dealsUpToTurning N o10 t8) (fun r12 t11 => f_X5_signs_48 N N a0 v1 v2 r9 r12 (0 : Int32) t11))))))))))) else none)
  refine jr_guard (fun ha0 => ?_)
  refine jr_aload_n hG 0 dX5_signs_0 rfl rfl ?_
  refine jr_iload_n hG 1 dX5_signs_1 rfl rfl ?_
  refine jr_iload_n hG 2 dX5_signs_2 rfl rfl ?_
  refine jr_callVi (As := [.int v1, .int v2]) hG (c_X5_areTwo l E N a0 v1 v2 (σ)) ci_X5_areTwo wd_483 ⟨wd_485, wd_9⟩ cl_5 (okO_s ha0) (okO_l ha0) ⟨rfl, rfl, Nat.le_of_ble_eq_true rfl, Nat.le_of_ble_eq_true rfl⟩ rfl rfl (Nat.le_of_ble_eq_true rfl) dX5_signs_3 ⟨Nat.le_refl _, Nat.le_refl _⟩ (fun r2 t1 => ?_)
  refine jr_if_ne hG 11 dX5_signs_6 (by decide) (fun _ => ?_) (fun _ => ?_)
  · refine jr_aload_n hG 0 dX5_signs_11 rfl rfl ?_
    refine jr_getR hG fi_RX5_39 rfl (okO_s ha0) (okO_l ha0) dX5_signs_12 (fun o3 ho3 => ?_)
    refine jr_aload_n hG 0 dX5_signs_15 rfl rfl ?_
    refine jr_getR hG fi_RX5_35 rfl (okO_s ha0) (okO_l ha0) dX5_signs_16 (fun o4 ho4 => ?_)
    refine jr_callVv (As := [.ref (E.B + o4)]) hG (c_X0_takeTermsFrom l E N o3 o4 t1) ci_X0_takeTermsFrom wd_562 ⟨wd_563, wd_564⟩ cl_0 (okO_s ho3) (okO_l ho3) ⟨rfl, rfl, Nat.le_of_ble_eq_true rfl, Nat.le_of_ble_eq_true rfl⟩ rfl rfl (Nat.le_of_ble_eq_true rfl) dX5_signs_19 ⟨Nat.le_refl _, Nat.le_refl _⟩ (fun t5 => ?_)
    refine jr_aload_n hG 0 dX5_signs_22 rfl rfl ?_
    refine jr_iload_n hG 1 dX5_signs_23 rfl rfl ?_
    refine jr_iload_n hG 2 dX5_signs_24 rfl rfl ?_
    refine jr_callVv (As := [.int v1, .int v2]) hG (c_X5_allowSigns l E N a0 v1 v2 t5) ci_X5_allowSigns wd_566 ⟨wd_568, wd_11⟩ cl_5 (okO_s ha0) (okO_l ha0) ⟨rfl, rfl, Nat.le_of_ble_eq_true rfl, Nat.le_of_ble_eq_true rfl⟩ rfl rfl (Nat.le_of_ble_eq_true rfl) dX5_signs_25 ⟨Nat.le_refl _, Nat.le_refl _⟩ (fun t6 => ?_)
    refine jr_aload_n hG 0 dX5_signs_28 rfl rfl ?_
    refine jr_getR hG fi_RX5_45 rfl (okO_s ha0) (okO_l ha0) dX5_signs_29 (fun o7 ho7 => ?_)
    refine jr_callVi (As := []) hG (c_X2_everybody l E N o7 t6) ci_X2_everybody wd_533 ⟨wd_534, wd_535⟩ cl_2 (okO_s ho7) (okO_l ho7) ⟨rfl, rfl, Nat.le_of_ble_eq_true rfl, Nat.le_of_ble_eq_true rfl⟩ rfl rfl (Nat.le_of_ble_eq_true rfl) dX5_signs_32 ⟨Nat.le_refl _, Nat.le_refl _⟩ (fun r9 t8 => ?_)
    refine jr_istore_n (lv' := [(3, .int r9), (0, .ref (E.B + a0)), (1, .int v1), (2, .int v2)]) hG dX5_signs_35 rfl (by decide) rfl ?_
    refine jr_aload_n hG 1 dX5_signs_36 rfl rfl ?_
    refine jr_getR hG fi_RX5_45 rfl (okO_s ha0) (okO_l ha0) dX5_signs_37 (fun o10 ho10 => ?_)
    refine jr_callVi (As := []) hG (c_X2_dealsUpToTurning l E N o10 t8) ci_X2_dealsUpToTurning wd_570 ⟨wd_571, wd_572⟩ cl_2 (okO_s ho10) (okO_l ho10) ⟨rfl, rfl, Nat.le_of_ble_eq_true rfl, Nat.le_of_ble_eq_true rfl⟩ rfl rfl (Nat.le_of_ble_eq_true rfl) dX5_signs_40 ⟨Nat.le_refl _, Nat.le_refl _⟩ (fun r12 t11 => ?_)
    refine jr_istore (lv' := [(4, .int r12), (3, .int r9), (0, .ref (E.B + a0)), (1, .int v1), (2, .int v2)]) hG dX5_signs_43 (by decide) rfl ?_
    refine jr_iconst (v := (0 : Int32)) hG dX5_signs_45 (by decide) ?_
    refine jr_istore (lv' := [(5, .int (0 : Int32)), (4, .int r12), (3, .int r9), (0, .ref (E.B + a0)), (1, .int v1), (2, .int v2)]) hG dX5_signs_46 (by decide) rfl ?_
    refine jr_sub (lv' := [(0, .ref (E.B + a0)), (1, .int v1), (2, .int v2), (3, .int r9), (4, .int r12), (5, .int (0 : Int32))]) [3, 4, 5, 2, 1, 0] rfl ?_
    exact w_X5_signs_48 N hG hr hk N a0 v1 v2 r9 r12 (0 : Int32) ha0 t11
  · refine jr_iconst (v := (-1 : Int32)) hG dX5_signs_9 (by decide) ?_
    exact jr_iret hG hr hk dX5_signs_10
-- TonguesDealt.commonDivisor(II)I
abbrev rm_X5_commonDivisor : Room := { frames := 0, cells := 0, slots := 0, locals := 0 }
theorem ci_X5_commonDivisor : CIx yX5_commonDivisor cX5_commonDivisor 4 (some .int) 2 := ⟨wd_605, wd_71, by decide +kernel⟩
def f_X5_commonDivisor_2 (N : Nat)  : Nat → Int32 → Int32 → Int32 → Mm → Option (Int32 × Mm)
  | 0 => fun _ _ _ _ => none
  | n + 1 => fun v0 v1 v2 σ => if (1000 : Int32) ≤ v2 then (some (v0, σ)) else (if v1 = 0 then (some (v0, σ)) else (if v1 = 0 then none else lt (v0 - v0 / v1 * v1) (fun x1 => f_X5_commonDivisor_2 N n v1 x1 (v2 + (1 : Int32)) (σ))))
set_option maxRecDepth 20000 in
theorem w_X5_commonDivisor_2 {p : Program} {l : Launch} {e : Env} {s : State} {m : MethodId} {args : Array Value} {below : List Frame} {meth : Method} {c : Code} {E : XE} (N : Nat) (hG : GG E NT 4 RX5 cX5_commonDivisor p s m args c) (hr : meth.sig.returnType = (some .int)) (hk : meth.locks = false)  : ∀ (n : Nat) (v0 : Int32) (v1 : Int32) (v2 : Int32)  (σ : Mm), JR E NT 4 p l e rm_X5_commonDivisor s m args below meth c 0 0 (fun r => MQ below (xQi E (NT + 0) r) args s 0 0 (xA E)) 2 [(0, .int v0), (1, .int v1), (2, .int v2)] [] σ (f_X5_commonDivisor_2 N n v0 v1 v2 σ) := by
  intro n
  induction n with
  | zero => intro v0 v1 v2 σ r hX; cases hX
  | succ n ih =>
    intro v0 v1 v2 σ
    show JR E NT 4 p l e rm_X5_commonDivisor s m args below meth c 0 0 (fun r => MQ below (xQi E (NT + 0) r) args s 0 0 (xA E)) 2 [(0, .int v0), (1, .int v1), (2, .int v2)] [] σ (if (1000 : Int32) ≤ v2 then (some (v0, σ)) else (if v1 = 0 then (some (v0, σ)) else (if v1 = 0 then none else lt (v0 - v0 / v1 * v1) (fun x1 => f_X5_commonDivisor_2 N n v1 x1 (v2 + (1 : Int32)) (σ)))))
    refine jr_iload_n hG 2 dX5_commonDivisor_2 rfl rfl ?_
    refine jr_sipush (v := (1000 : Int32)) hG dX5_commonDivisor_3 (by decide) ?_
    refine jr_icmp_ge hG 27 dX5_commonDivisor_6 (by decide) (fun _ => ?_) (fun _ => ?_)
    · refine jr_iload_n hG 0 dX5_commonDivisor_27 rfl rfl ?_
      exact jr_iret hG hr hk dX5_commonDivisor_28
    · refine jr_iload_n hG 1 dX5_commonDivisor_9 rfl rfl ?_
      refine jr_if_eq hG 27 dX5_commonDivisor_10 (by decide) (fun _ => ?_) (fun _ => ?_)
      · refine jr_iload_n hG 0 dX5_commonDivisor_27 rfl rfl ?_
        exact jr_iret hG hr hk dX5_commonDivisor_28
      · refine jr_iload_n hG 0 dX5_commonDivisor_13 rfl rfl ?_
        refine jr_iload_n hG 1 dX5_commonDivisor_14 rfl rfl ?_
        refine jr_irem hG dX5_commonDivisor_15 ?_
        refine jr_leti (fun x1 _ => ?_)
        refine jr_istore_n (lv' := [(3, .int x1), (0, .int v0), (1, .int v1), (2, .int v2)]) hG dX5_commonDivisor_16 rfl (by decide) rfl ?_
        refine jr_iload_n hG 2 dX5_commonDivisor_17 rfl rfl ?_
        refine jr_istore_n (lv' := [(0, .int v1), (3, .int x1), (1, .int v1), (2, .int v2)]) hG dX5_commonDivisor_18 rfl (by decide) rfl ?_
        refine jr_iload_n hG 1 dX5_commonDivisor_19 rfl rfl ?_
        refine jr_istore_n (lv' := [(1, .int x1), (0, .int v1), (3, .int x1), (2, .int v2)]) hG dX5_commonDivisor_20 rfl (by decide) rfl ?_
        refine jr_iinc (v := v2 + (1 : Int32)) (lv' := [(2, .int (v2 + (1 : Int32))), (1, .int x1), (0, .int v1), (3, .int x1)]) hG 3 dX5_commonDivisor_21 rfl rfl (by decide) rfl ?_
        refine jr_goto hG 2 dX5_commonDivisor_24 (by decide) ?_
        refine jr_sub (lv' := [(0, .int v1), (1, .int x1), (2, .int (v2 + (1 : Int32)))]) [2, 1, 0] rfl ?_
        exact ih v1 x1 (v2 + (1 : Int32)) (σ)
def f_X5_commonDivisor (N : Nat) (v0 : Int32) (v1 : Int32) (σ : Mm) : Option (Int32 × Mm) := f_X5_commonDivisor_2 N N v0 v1 (0 : Int32) (σ)
set_option maxRecDepth 20000 in
theorem c_X5_commonDivisor (l : Launch) (E : XE) (N : Nat) (v0 : Int32) (v1 : Int32) (σ : Mm) : ∀ r0, f_X5_commonDivisor N v0 v1 σ = some r0 → Met l yX5_commonDivisor [Cond.code yX5_commonDivisor cX5_commonDivisor 4 (some .int)] rm_X5_commonDivisor (xPc E (NT + 0) σ [.int v0, .int v1]) (xQi E (NT + 0) r0) 0 0 (xA E) := by
  refine met_of (N0 := NT) (by decide +kernel) (Nat.le_of_ble_eq_true rfl) ?_
  intro p e s m args below meth c hG hr hk _
  show JR E NT 4 p l e rm_X5_commonDivisor s m args below meth c 0 0 (fun r => MQ below (xQi E (NT + 0) r) args s 0 0 (xA E)) 0 [(0, .int v0), (1, .int v1)] [] σ (f_X5_commonDivisor_2 N N v0 v1 (0 : Int32) (σ))
  refine jr_iconst (v := (0 : Int32)) hG dX5_commonDivisor_0 (by decide) ?_
  refine jr_istore_n (lv' := [(2, .int (0 : Int32)), (0, .int v0), (1, .int v1)]) hG dX5_commonDivisor_1 rfl (by decide) rfl ?_
  refine jr_sub (lv' := [(0, .int v0), (1, .int v1), (2, .int (0 : Int32))]) [1, 2, 0] rfl ?_
  exact w_X5_commonDivisor_2 N hG hr hk N v0 v1 (0 : Int32) (σ)
-- TonguesDealt.tellFraction(II)V
abbrev rm_X5_tellFraction : Room := { frames := 1, cells := 0, slots := 0, locals := 23 }
theorem ci_X5_tellFraction : CIx yX5_tellFraction cX5_tellFraction 4 none 2 := ⟨wd_602, wd_71, by decide +kernel⟩
def f_X5_tellFraction (N : Nat) (a0 : Nat) (v1 : Int32) (v2 : Int32) (σ : Mm) : Option (Mm) := if okO 5 a0 then (bI (f_X5_commonDivisor N v1 v2 (σ)) (fun r2 t1 => if r2 = 0 then (some t1) else (if r2 = 0 then none else lt (sl t1 a0 12 ((v1 / r2).toInt64)) (fun t3 => if r2 = 0 then none else lt (sl t3 a0 13 ((v2 / r2).toInt64)) (fun t4 => some t4))))) else none
set_option maxRecDepth 20000 in
theorem c_X5_tellFraction (l : Launch) (E : XE) (N : Nat) (a0 : Nat) (v1 : Int32) (v2 : Int32) (σ : Mm) : ∀ r0, f_X5_tellFraction N a0 v1 v2 σ = some r0 → Met l yX5_tellFraction [Cond.code yX5_tellFraction cX5_tellFraction 4 none] rm_X5_tellFraction (xPc E (NT + 0) σ [.ref (E.B + a0), .int v1, .int v2]) (xQv E (NT + 0) r0) 0 0 (xA E) := by
  refine met_of (N0 := NT) (by decide +kernel) (Nat.le_of_ble_eq_true rfl) ?_
  intro p e s m args below meth c hG hr hk _
  show JR E NT 4 p l e rm_X5_tellFraction s m args below meth c 0 0 (fun r => MQ below (xQv E (NT + 0) r) args s 0 0 (xA E)) 0 [(0, .ref (E.B + a0)), (1, .int v1), (2, .int v2)] [] σ (if okO 5 a0 then (bI (f_X5_commonDivisor N v1 v2 (σ)) (fun r2 t1 => if r2 = 0 then (some t1) else (if r2 = 0 then none else lt (sl t1 a0 12 ((v1 / r2).toInt64)) (fun t3 => if r2 = 0 then none else lt (sl t3 a0 13 ((v2 / r2).toInt64)) (fun t4 => some t4))))) else none)
  refine jr_guard (fun ha0 => ?_)
  refine jr_iload_n hG 1 dX5_tellFraction_0 rfl rfl ?_
  refine jr_iload_n hG 2 dX5_tellFraction_1 rfl rfl ?_
  refine jr_callSi (As := [.int v1, .int v2]) hG (c_X5_commonDivisor l E N v1 v2 (σ)) ci_X5_commonDivisor wd_603 wd_604 ⟨rfl, rfl, Nat.le_of_ble_eq_true rfl, Nat.le_of_ble_eq_true rfl⟩ rfl rfl (Nat.le_of_ble_eq_true rfl) dX5_tellFraction_2 ⟨Nat.le_refl _, Nat.le_refl _⟩ (fun r2 t1 => ?_)
  refine jr_istore_n (lv' := [(3, .int r2), (0, .ref (E.B + a0)), (1, .int v1), (2, .int v2)]) hG dX5_tellFraction_5 rfl (by decide) rfl ?_
  refine jr_iload_n hG 0 dX5_tellFraction_6 rfl rfl ?_
  refine jr_if_ne hG 11 dX5_tellFraction_7 (by decide) (fun _ => ?_) (fun _ => ?_)
  · refine jr_aload_n hG 1 dX5_tellFraction_11 rfl rfl ?_
    refine jr_iload_n hG 2 dX5_tellFraction_12 rfl rfl ?_
    refine jr_iload_n hG 0 dX5_tellFraction_13 rfl rfl ?_
    refine jr_idiv hG dX5_tellFraction_14 ?_
    refine jr_i2l hG dX5_tellFraction_15 ?_
    refine jr_putL hG fi_RX5_66 rfl rfl (okO_s ha0) (okO_l ha0) dX5_tellFraction_16 ?_
    refine jr_lets (fun t3 _ => ?_)
    refine jr_aload_n hG 1 dX5_tellFraction_19 rfl rfl ?_
    refine jr_iload_n hG 3 dX5_tellFraction_20 rfl rfl ?_
    refine jr_iload_n hG 0 dX5_tellFraction_21 rfl rfl ?_
    refine jr_idiv hG dX5_tellFraction_22 ?_
    refine jr_i2l hG dX5_tellFraction_23 ?_
    refine jr_putL hG fi_RX5_70 rfl rfl (okO_s ha0) (okO_l ha0) dX5_tellFraction_24 ?_
    refine jr_lets (fun t4 _ => ?_)
    exact jr_vret hG hr hk dX5_tellFraction_27
  · exact jr_vret hG hr hk dX5_tellFraction_10
-- TonguesDealt.odds(III)I
abbrev rm_X5_odds : Room := { frames := 6, cells := 0, slots := 0, locals := 135 }
theorem ci_X5_odds : CIx yX5_odds cX5_odds 7 (some .int) 3 := ⟨wd_598, wd_71, by decide +kernel⟩
def f_X5_odds_91 (N : Nat) (K46 : Nat → Int32 → Int32 → Int32 → Int32 → Int32 → Int32 → Mm → Option (Int32 × Mm)) (a0 : Nat) (v1 : Int32) (v2 : Int32) (v3 : Int32) (v4 : Int32) (v5 : Int32) (v6 : Int32) (σ : Mm) : Option (Int32 × Mm) := K46 a0 v1 v2 v3 v4 v5 (v6 + (1 : Int32)) (σ)
set_option maxRecDepth 20000 in
theorem w_X5_odds_91 {p : Program} {l : Launch} {e : Env} {s : State} {m : MethodId} {args : Array Value} {below : List Frame} {meth : Method} {c : Code} {E : XE} (N : Nat) (hG : GG E NT 7 RX5 cX5_odds p s m args c) (hr : meth.sig.returnType = (some .int)) (hk : meth.locks = false) {K46 : Nat → Int32 → Int32 → Int32 → Int32 → Int32 → Int32 → Mm → Option (Int32 × Mm)} (hK46 : ∀ (a0 : Nat) (v1 : Int32) (v2 : Int32) (v3 : Int32) (v4 : Int32) (v5 : Int32) (v6 : Int32) (ha0 : okO 5 a0 = true) (σ : Mm), JR E NT 7 p l e rm_X5_odds s m args below meth c 0 0 (fun r => MQ below (xQi E (NT + 0) r) args s 0 0 (xA E)) 46 [(0, .ref (E.B + a0)), (1, .int v1), (2, .int v2), (3, .int v3), (4, .int v4), (5, .int v5), (6, .int v6)] [] σ (K46 a0 v1 v2 v3 v4 v5 v6 σ)) (a0 : Nat) (v1 : Int32) (v2 : Int32) (v3 : Int32) (v4 : Int32) (v5 : Int32) (v6 : Int32) (ha0 : okO 5 a0 = true) (σ : Mm) : JR E NT 7 p l e rm_X5_odds s m args below meth c 0 0 (fun r => MQ below (xQi E (NT + 0) r) args s 0 0 (xA E)) 91 [(0, .ref (E.B + a0)), (1, .int v1), (2, .int v2), (3, .int v3), (4, .int v4), (5, .int v5), (6, .int v6)] [] σ (f_X5_odds_91 N K46 a0 v1 v2 v3 v4 v5 v6 σ) := by
  show JR E NT 7 p l e rm_X5_odds s m args below meth c 0 0 (fun r => MQ below (xQi E (NT + 0) r) args s 0 0 (xA E)) 91 [(0, .ref (E.B + a0)), (1, .int v1), (2, .int v2), (3, .int v3), (4, .int v4), (5, .int v5), (6, .int v6)] [] σ (K46 a0 v1 v2 v3 v4 v5 (v6 + (1 : Int32)) (σ))
  refine jr_iinc (v := v6 + (1 : Int32)) (lv' := [(6, .int (v6 + (1 : Int32))), (0, .ref (E.B + a0)), (1, .int v1), (2, .int v2), (3, .int v3), (4, .int v4), (5, .int v5)]) hG 6 dX5_odds_91 rfl rfl (by decide) rfl ?_
  refine jr_goto hG 46 dX5_odds_94 (by decide) ?_
  refine jr_sub (lv' := [(0, .ref (E.B + a0)), (1, .int v1), (2, .int v2), (3, .int v3), (4, .int v4), (5, .int v5), (6, .int (v6 + (1 : Int32)))]) [1, 2, 3, 4, 5, 6, 0] rfl ?_
  exact hK46 a0 v1 v2 v3 v4 v5 (v6 + (1 : Int32)) ha0 (σ)
def f_X5_odds_46 (N : Nat)  : Nat → Nat → Int32 → Int32 → Int32 → Int32 → Int32 → Int32 → Mm → Option (Int32 × Mm)
  | 0 => fun _ _ _ _ _ _ _ _ => none
  | n + 1 => fun a0 v1 v2 v3 v4 v5 v6 σ => if v4 ≤ v6 then (bV (f_X5_tellFraction N a0 v5 v4 (σ)) (fun t9 => some ((1 : Int32), t9))) else (bR (gr σ a0 5) (okO 0) (fun o10 => bR (gr σ a0 6) (okO 2) (fun o11 => bV (f_X0_thinkOf N o10 o11 (v6 * (4 : Int32)) (σ)) (fun t12 => bR (gr t12 a0 5) (okO 0) (fun o13 => bI (f_X0_reached N o13 v1 (63 : Int32) (v3 + (1 : Int32)) t12) (fun r15 t14 => bI (f_X5_holds N r15 v2 t14) (fun r17 t16 => if r17 = 0 then (f_X5_odds_91 N (f_X5_odds_46 N n) a0 v1 v2 v3 v4 v5 v6 t16) else (f_X5_odds_91 N (f_X5_odds_46 N n) a0 v1 v2 v3 v4 (v5 + (1 : Int32)) v6 t16))))))))
set_option maxRecDepth 20000 in
theorem w_X5_odds_46 {p : Program} {l : Launch} {e : Env} {s : State} {m : MethodId} {args : Array Value} {below : List Frame} {meth : Method} {c : Code} {E : XE} (N : Nat) (hG : GG E NT 7 RX5 cX5_odds p s m args c) (hr : meth.sig.returnType = (some .int)) (hk : meth.locks = false)  : ∀ (n : Nat) (a0 : Nat) (v1 : Int32) (v2 : Int32) (v3 : Int32) (v4 : Int32) (v5 : Int32) (v6 : Int32) (ha0 : okO 5 a0 = true) (σ : Mm), JR E NT 7 p l e rm_X5_odds s m args below meth c 0 0 (fun r => MQ below (xQi E (NT + 0) r) args s 0 0 (xA E)) 46 [(0, .ref (E.B + a0)), (1, .int v1), (2, .int v2), (3, .int v3), (4, .int v4), (5, .int v5), (6, .int v6)] [] σ (f_X5_odds_46 N n a0 v1 v2 v3 v4 v5 v6 σ) := by
  intro n
  induction n with
  | zero => intro a0 v1 v2 v3 v4 v5 v6 ha0 σ r hX; cases hX
  | succ n ih =>
    intro a0 v1 v2 v3 v4 v5 v6 ha0 σ
    show JR E NT 7 p l e rm_X5_odds s m args below meth c 0 0 (fun r => MQ below (xQi E (NT + 0) r) args s 0 0 (xA E)) 46 [(0, .ref (E.B + a0)), (1, .int v1), (2, .int v2), (3, .int v3), (4, .int v4), (5, .int v5), (6, .int v6)] [] σ (if v4 ≤ v6 then (bV (f_X5_tellFraction N a0 v5 v4 (σ)) (fun t9 => some ((1 : Int32), t9))) else (bR (gr σ a0 5) (okO 0) (fun o10 => bR (gr σ a0 6) (okO 2) (fun o11 => bV (f_X0_thinkOf N o10 o11 (v6 * (4 : Int32)) (σ)) (fun t12 => bR (gr t12 a0 5) (okO 0) (fun o13 => bI (f_X0_reached N o13 v1 (63 : Int32) (v3 + (1 : Int32)) t12) (fun r15 t14 => bI (f_X5_holds N r15 v2 t14) (fun r17 t16 => if r17 = 0 then (f_X5_odds_91 N (f_X5_odds_46 N n) a0 v1 v2 v3 v4 v5 v6 t16) else (f_X5_odds_91 N (f_X5_odds_46 N n) a0 v1 v2 v3 v4 (v5 + (1 : Int32)) v6 t16)))))))))
    refine jr_iload hG 6 dX5_odds_46 rfl ?_
    refine jr_iload hG 4 dX5_odds_48 rfl ?_
    refine jr_icmp_ge hG 97 dX5_odds_50 (by decide) (fun _ => ?_) (fun _ => ?_)
    · refine jr_aload_n hG 0 dX5_odds_97 rfl rfl ?_
      refine jr_iload hG 5 dX5_odds_98 rfl ?_
      refine jr_iload hG 4 dX5_odds_100 rfl ?_
      refine jr_callVv (As := [.int v5, .int v4]) hG (c_X5_tellFraction l E N a0 v5 v4 (σ)) ci_X5_tellFraction wd_599 ⟨wd_601, wd_14⟩ cl_5 (okO_s ha0) (okO_l ha0) ⟨rfl, rfl, Nat.le_of_ble_eq_true rfl, Nat.le_of_ble_eq_true rfl⟩ rfl rfl (Nat.le_of_ble_eq_true rfl) dX5_odds_102 ⟨Nat.le_refl _, Nat.le_refl _⟩ (fun t9 => ?_)
      refine jr_iconst (v := (1 : Int32)) hG dX5_odds_105 (by decide) ?_
      exact jr_iret hG hr hk dX5_odds_106
    · refine jr_aload_n hG 0 dX5_odds_53 rfl rfl ?_
      refine jr_getR hG fi_RX5_39 rfl (okO_s ha0) (okO_l ha0) dX5_odds_54 (fun o10 ho10 => ?_)
      refine jr_aload_n hG 0 dX5_odds_57 rfl rfl ?_
      refine jr_getR hG fi_RX5_45 rfl (okO_s ha0) (okO_l ha0) dX5_odds_58 (fun o11 ho11 => ?_)
      refine jr_iload hG 6 dX5_odds_61 rfl ?_
      refine jr_iconst (v := (4 : Int32)) hG dX5_odds_63 (by decide) ?_
      refine jr_imul hG dX5_odds_64 ?_
      refine jr_callVv (As := [.ref (E.B + o11), .int (v6 * (4 : Int32))]) hG (c_X0_thinkOf l E N o10 o11 (v6 * (4 : Int32)) (σ)) ci_X0_thinkOf wd_578 ⟨wd_579, wd_580⟩ cl_0 (okO_s ho10) (okO_l ho10) ⟨rfl, rfl, Nat.le_of_ble_eq_true rfl, Nat.le_of_ble_eq_true rfl⟩ rfl rfl (Nat.le_of_ble_eq_true rfl) dX5_odds_65 ⟨Nat.le_refl _, Nat.le_refl _⟩ (fun t12 => ?_)
      refine jr_aload_n hG 0 dX5_odds_68 rfl rfl ?_
      refine jr_getR hG fi_RX5_39 rfl (okO_s ha0) (okO_l ha0) dX5_odds_69 (fun o13 ho13 => ?_)
      refine jr_iload_n hG 1 dX5_odds_72 rfl rfl ?_
      refine jr_bipush (v := (63 : Int32)) hG dX5_odds_73 (by decide) ?_
      refine jr_iload_n hG 3 dX5_odds_75 rfl rfl ?_
      refine jr_iconst (v := (1 : Int32)) hG dX5_odds_76 (by decide) ?_
      refine jr_iadd hG dX5_odds_77 ?_
      refine jr_callVi (As := [.int v1, .int (63 : Int32), .int (v3 + (1 : Int32))]) hG (c_X0_reached l E N o13 v1 (63 : Int32) (v3 + (1 : Int32)) t12) ci_X0_reached wd_553 ⟨wd_522, wd_523⟩ cl_0 (okO_s ho13) (okO_l ho13) ⟨rfl, rfl, Nat.le_of_ble_eq_true rfl, Nat.le_of_ble_eq_true rfl⟩ rfl rfl (Nat.le_of_ble_eq_true rfl) dX5_odds_78 ⟨Nat.le_refl _, Nat.le_refl _⟩ (fun r15 t14 => ?_)
      refine jr_iload_n hG 2 dX5_odds_81 rfl rfl ?_
      refine jr_callSi (As := [.int r15, .int v2]) hG (c_X5_holds l E N r15 v2 t14) ci_X5_holds wd_487 wd_366 ⟨rfl, rfl, Nat.le_of_ble_eq_true rfl, Nat.le_of_ble_eq_true rfl⟩ rfl rfl (Nat.le_of_ble_eq_true rfl) dX5_odds_82 ⟨Nat.le_refl _, Nat.le_refl _⟩ (fun r17 t16 => ?_)
      refine jr_if_eq hG 91 dX5_odds_85 (by decide) (fun _ => ?_) (fun _ => ?_)
      · exact w_X5_odds_91 N hG hr hk ih a0 v1 v2 v3 v4 v5 v6 ha0 t16
      · refine jr_iinc (v := v5 + (1 : Int32)) (lv' := [(5, .int (v5 + (1 : Int32))), (0, .ref (E.B + a0)), (1, .int v1), (2, .int v2), (3, .int v3), (4, .int v4), (6, .int v6)]) hG 5 dX5_odds_88 rfl rfl (by decide) rfl ?_
        refine jr_sub (lv' := [(0, .ref (E.B + a0)), (1, .int v1), (2, .int v2), (3, .int v3), (4, .int v4), (5, .int (v5 + (1 : Int32))), (6, .int v6)]) [1, 2, 3, 4, 5, 0, 6] rfl ?_
        exact w_X5_odds_91 N hG hr hk ih a0 v1 v2 v3 v4 (v5 + (1 : Int32)) v6 ha0 t16
def f_X5_odds (N : Nat) (a0 : Nat) (v1 : Int32) (v2 : Int32) (v3 : Int32) (σ : Mm) : Option (Int32 × Mm) := if okO 5 a0 then (bI (f_X5_areTwo N a0 v1 v2 (σ)) (fun r2 t1 => if r2 = 0 then (some ((-1 : Int32), t1)) else (if v3 < 0 then (some ((-1 : Int32), t1)) else (if v3 ≤ (4 : Int32) then (bR (gr t1 a0 5) (okO 0) (fun o3 => bR (gr t1 a0 4) (okO 0) (fun o4 => bV (f_X0_takeTermsFrom N o3 o4 t1) (fun t5 => bR (gr t5 a0 6) (okO 2) (fun o6 => bI (f_X2_dealsUpToTurning N o6 t5) (fun r8 t7 => f_X5_odds_46 N N a0 v1 v2 v3 r8 (0 : Int32) (0 : Int32) t7)))))) else (some ((-1 : Int32), t1)))))) else none
set_option maxRecDepth 20000 in
theorem c_X5_odds (l : Launch) (E : XE) (N : Nat) (a0 : Nat) (v1 : Int32) (v2 : Int32) (v3 : Int32) (σ : Mm) : ∀ r0, f_X5_odds N a0 v1 v2 v3 σ = some r0 → Met l yX5_odds [Cond.code yX5_odds cX5_odds 7 (some .int)] rm_X5_odds (xPc E (NT + 0) σ [.ref (E.B + a0), .int v1, .int v2, .int v3]) (xQi E (NT + 0) r0) 0 0 (xA E) := by
  refine met_of (N0 := NT) (by decide +kernel) (Nat.le_of_ble_eq_true rfl) ?_
  intro p e s m args below meth c hG hr hk _
  show JR E NT 7 p l e rm_X5_odds s m args below meth c 0 0 (fun r => MQ below (xQi E (NT + 0) r) args s 0 0 (xA E)) 0 [(0, .ref (E.B + a0)), (1, .int v1), (2, .int v2), (3, .int v3)] [] σ (if okO 5 a0 then (bI (f_X5_areTwo N a0 v1 v2 (σ)) (fun r2 t1 => if r2 = 0 then (some ((-1 : Int32), t1)) else (if v3 < 0 then (some ((-1 : Int32), t1)) else (if v3 ≤ (4 : Int32) then (bR (gr t1 a0 5) (okO 0) (fun o3 => bR (gr t1 a0 4) (okO 0) (fun o4 => bV (f_X0_takeTermsFrom N o3 o4 t1) (fun t5 => bR (gr t5 a0 6) (okO 2) (fun o6 => bI (f_X2_dealsUpToTurning N o6 t5) (fun r8 t7 => f_X5_odds_46 N N a0 v1 v2 v3 r8 (0 : Int32) (0 : Int32) t7)))))) else (some ((-1 : Int32), t1)))))) else none)
  refine jr_guard (fun ha0 => ?_)
  refine jr_aload_n hG 0 dX5_odds_0 rfl rfl ?_
  refine jr_iload_n hG 1 dX5_odds_1 rfl rfl ?_
  refine jr_iload_n hG 2 dX5_odds_2 rfl rfl ?_
  refine jr_callVi (As := [.int v1, .int v2]) hG (c_X5_areTwo l E N a0 v1 v2 (σ)) ci_X5_areTwo wd_483 ⟨wd_485, wd_9⟩ cl_5 (okO_s ha0) (okO_l ha0) ⟨rfl, rfl, Nat.le_of_ble_eq_true rfl, Nat.le_of_ble_eq_true rfl⟩ rfl rfl (Nat.le_of_ble_eq_true rfl) dX5_odds_3 ⟨Nat.le_refl _, Nat.le_refl _⟩ (fun r2 t1 => ?_)
  refine jr_if_eq hG 18 dX5_odds_6 (by decide) (fun _ => ?_) (fun _ => ?_)
  · refine jr_iconst (v := (-1 : Int32)) hG dX5_odds_18 (by decide) ?_
    exact jr_iret hG hr hk dX5_odds_19
  · refine jr_iload_n hG 3 dX5_odds_9 rfl rfl ?_
    refine jr_if_lt hG 18 dX5_odds_10 (by decide) (fun _ => ?_) (fun _ => ?_)
    · refine jr_iconst (v := (-1 : Int32)) hG dX5_odds_18 (by decide) ?_
      exact jr_iret hG hr hk dX5_odds_19
    · refine jr_iload_n hG 3 dX5_odds_13 rfl rfl ?_
      refine jr_iconst (v := (4 : Int32)) hG dX5_odds_14 (by decide) ?_
      refine jr_icmp_le hG 20 dX5_odds_15 (by decide) (fun _ => ?_) (fun _ => ?_)
      · refine jr_aload_n hG 0 dX5_odds_20 rfl rfl ?_
        refine jr_getR hG fi_RX5_39 rfl (okO_s ha0) (okO_l ha0) dX5_odds_21 (fun o3 ho3 => ?_)
        refine jr_aload_n hG 0 dX5_odds_24 rfl rfl ?_
        refine jr_getR hG fi_RX5_35 rfl (okO_s ha0) (okO_l ha0) dX5_odds_25 (fun o4 ho4 => ?_)
        refine jr_callVv (As := [.ref (E.B + o4)]) hG (c_X0_takeTermsFrom l E N o3 o4 t1) ci_X0_takeTermsFrom wd_562 ⟨wd_563, wd_564⟩ cl_0 (okO_s ho3) (okO_l ho3) ⟨rfl, rfl, Nat.le_of_ble_eq_true rfl, Nat.le_of_ble_eq_true rfl⟩ rfl rfl (Nat.le_of_ble_eq_true rfl) dX5_odds_28 ⟨Nat.le_refl _, Nat.le_refl _⟩ (fun t5 => ?_)
        refine jr_aload_n hG 0 dX5_odds_31 rfl rfl ?_
        refine jr_getR hG fi_RX5_45 rfl (okO_s ha0) (okO_l ha0) dX5_odds_32 (fun o6 ho6 => ?_)
        refine jr_callVi (As := []) hG (c_X2_dealsUpToTurning l E N o6 t5) ci_X2_dealsUpToTurning wd_570 ⟨wd_571, wd_572⟩ cl_2 (okO_s ho6) (okO_l ho6) ⟨rfl, rfl, Nat.le_of_ble_eq_true rfl, Nat.le_of_ble_eq_true rfl⟩ rfl rfl (Nat.le_of_ble_eq_true rfl) dX5_odds_35 ⟨Nat.le_refl _, Nat.le_refl _⟩ (fun r8 t7 => ?_)
        refine jr_istore (lv' := [(4, .int r8), (0, .ref (E.B + a0)), (1, .int v1), (2, .int v2), (3, .int v3)]) hG dX5_odds_38 (by decide) rfl ?_
        refine jr_iconst (v := (0 : Int32)) hG dX5_odds_40 (by decide) ?_
        refine jr_istore (lv' := [(5, .int (0 : Int32)), (4, .int r8), (0, .ref (E.B + a0)), (1, .int v1), (2, .int v2), (3, .int v3)]) hG dX5_odds_41 (by decide) rfl ?_
        refine jr_iconst (v := (0 : Int32)) hG dX5_odds_43 (by decide) ?_
        refine jr_istore (lv' := [(6, .int (0 : Int32)), (5, .int (0 : Int32)), (4, .int r8), (0, .ref (E.B + a0)), (1, .int v1), (2, .int v2), (3, .int v3)]) hG dX5_odds_44 (by decide) rfl ?_
        refine jr_sub (lv' := [(0, .ref (E.B + a0)), (1, .int v1), (2, .int v2), (3, .int v3), (4, .int r8), (5, .int (0 : Int32)), (6, .int (0 : Int32))]) [3, 4, 5, 6, 2, 1, 0] rfl ?_
        exact w_X5_odds_46 N hG hr hk N a0 v1 v2 v3 r8 (0 : Int32) (0 : Int32) ha0 t7
      · refine jr_iconst (v := (-1 : Int32)) hG dX5_odds_18 (by decide) ?_
        exact jr_iret hG hr hk dX5_odds_19
-- TonguesDealt.factorial(I)I
abbrev rm_X5_factorial : Room := { frames := 0, cells := 0, slots := 0, locals := 0 }
theorem ci_X5_factorial : CIx yX5_factorial cX5_factorial 3 (some .int) 1 := ⟨wd_612, wd_71, by decide +kernel⟩
def f_X5_factorial_4 (N : Nat)  : Nat → Int32 → Int32 → Int32 → Mm → Option (Int32 × Mm)
  | 0 => fun _ _ _ _ => none
  | n + 1 => fun v0 v1 v2 σ => if v0 < v2 then (some (v1, σ)) else (lt (v1 * v2) (fun x1 => f_X5_factorial_4 N n v0 x1 (v2 + (1 : Int32)) (σ)))
set_option maxRecDepth 20000 in
theorem w_X5_factorial_4 {p : Program} {l : Launch} {e : Env} {s : State} {m : MethodId} {args : Array Value} {below : List Frame} {meth : Method} {c : Code} {E : XE} (N : Nat) (hG : GG E NT 3 RX5 cX5_factorial p s m args c) (hr : meth.sig.returnType = (some .int)) (hk : meth.locks = false)  : ∀ (n : Nat) (v0 : Int32) (v1 : Int32) (v2 : Int32)  (σ : Mm), JR E NT 3 p l e rm_X5_factorial s m args below meth c 0 0 (fun r => MQ below (xQi E (NT + 0) r) args s 0 0 (xA E)) 4 [(0, .int v0), (1, .int v1), (2, .int v2)] [] σ (f_X5_factorial_4 N n v0 v1 v2 σ) := by
  intro n
  induction n with
  | zero => intro v0 v1 v2 σ r hX; cases hX
  | succ n ih =>
    intro v0 v1 v2 σ
    show JR E NT 3 p l e rm_X5_factorial s m args below meth c 0 0 (fun r => MQ below (xQi E (NT + 0) r) args s 0 0 (xA E)) 4 [(0, .int v0), (1, .int v1), (2, .int v2)] [] σ (if v0 < v2 then (some (v1, σ)) else (lt (v1 * v2) (fun x1 => f_X5_factorial_4 N n v0 x1 (v2 + (1 : Int32)) (σ))))
    refine jr_iload_n hG 2 dX5_factorial_4 rfl rfl ?_
    refine jr_iload_n hG 0 dX5_factorial_5 rfl rfl ?_
    refine jr_icmp_gt hG 19 dX5_factorial_6 (by decide) (fun _ => ?_) (fun _ => ?_)
    · refine jr_iload_n hG 1 dX5_factorial_19 rfl rfl ?_
      exact jr_iret hG hr hk dX5_factorial_20
    · refine jr_iload_n hG 1 dX5_factorial_9 rfl rfl ?_
      refine jr_iload_n hG 2 dX5_factorial_10 rfl rfl ?_
      refine jr_imul hG dX5_factorial_11 ?_
      refine jr_leti (fun x1 _ => ?_)
      refine jr_istore_n (lv' := [(1, .int x1), (0, .int v0), (2, .int v2)]) hG dX5_factorial_12 rfl (by decide) rfl ?_
      refine jr_iinc (v := v2 + (1 : Int32)) (lv' := [(2, .int (v2 + (1 : Int32))), (1, .int x1), (0, .int v0)]) hG 2 dX5_factorial_13 rfl rfl (by decide) rfl ?_
      refine jr_goto hG 4 dX5_factorial_16 (by decide) ?_
      refine jr_sub (lv' := [(0, .int v0), (1, .int x1), (2, .int (v2 + (1 : Int32)))]) [2, 1, 0] rfl ?_
      exact ih v0 x1 (v2 + (1 : Int32)) (σ)
def f_X5_factorial (N : Nat) (v0 : Int32) (σ : Mm) : Option (Int32 × Mm) := f_X5_factorial_4 N N v0 (1 : Int32) (2 : Int32) (σ)
set_option maxRecDepth 20000 in
theorem c_X5_factorial (l : Launch) (E : XE) (N : Nat) (v0 : Int32) (σ : Mm) : ∀ r0, f_X5_factorial N v0 σ = some r0 → Met l yX5_factorial [Cond.code yX5_factorial cX5_factorial 3 (some .int)] rm_X5_factorial (xPc E (NT + 0) σ [.int v0]) (xQi E (NT + 0) r0) 0 0 (xA E) := by
  refine met_of (N0 := NT) (by decide +kernel) (Nat.le_of_ble_eq_true rfl) ?_
  intro p e s m args below meth c hG hr hk _
  show JR E NT 3 p l e rm_X5_factorial s m args below meth c 0 0 (fun r => MQ below (xQi E (NT + 0) r) args s 0 0 (xA E)) 0 [(0, .int v0)] [] σ (f_X5_factorial_4 N N v0 (1 : Int32) (2 : Int32) (σ))
  refine jr_iconst (v := (1 : Int32)) hG dX5_factorial_0 (by decide) ?_
  refine jr_istore_n (lv' := [(1, .int (1 : Int32)), (0, .int v0)]) hG dX5_factorial_1 rfl (by decide) rfl ?_
  refine jr_iconst (v := (2 : Int32)) hG dX5_factorial_2 (by decide) ?_
  refine jr_istore_n (lv' := [(2, .int (2 : Int32)), (1, .int (1 : Int32)), (0, .int v0)]) hG dX5_factorial_3 rfl (by decide) rfl ?_
  refine jr_sub (lv' := [(0, .int v0), (1, .int (1 : Int32)), (2, .int (2 : Int32))]) [2, 1, 0] rfl ?_
  exact w_X5_factorial_4 N hG hr hk N v0 (1 : Int32) (2 : Int32) (σ)
-- TonguesDealt.part(III)I
abbrev rm_X5_part : Room := { frames := 3, cells := 0, slots := 0, locals := 72 }
theorem ci_X5_part : CIx yX5_part cX5_part 9 (some .int) 3 := ⟨wd_609, wd_71, by decide +kernel⟩
def f_X5_part_183 (N : Nat) (K102 : Nat → Int32 → Int32 → Int32 → Int32 → Int32 → Int32 → Int32 → Mm → Option (Int32 × Mm)) (a0 : Nat) (v1 : Int32) (v2 : Int32) (v3 : Int32) (v4 : Int32) (v5 : Int32) (v6 : Int32) (v7 : Int32) (σ : Mm) : Option (Int32 × Mm) := K102 a0 v1 v2 v3 v4 v5 v6 (v7 + (1 : Int32)) (σ)
set_option maxRecDepth 20000 in
theorem w_X5_part_183 {p : Program} {l : Launch} {e : Env} {s : State} {m : MethodId} {args : Array Value} {below : List Frame} {meth : Method} {c : Code} {E : XE} (N : Nat) (hG : GG E NT 9 RX5 cX5_part p s m args c) (hr : meth.sig.returnType = (some .int)) (hk : meth.locks = false) {K102 : Nat → Int32 → Int32 → Int32 → Int32 → Int32 → Int32 → Int32 → Mm → Option (Int32 × Mm)} (hK102 : ∀ (a0 : Nat) (v1 : Int32) (v2 : Int32) (v3 : Int32) (v4 : Int32) (v5 : Int32) (v6 : Int32) (v7 : Int32) (ha0 : okO 5 a0 = true) (σ : Mm), JR E NT 9 p l e rm_X5_part s m args below meth c 0 0 (fun r => MQ below (xQi E (NT + 0) r) args s 0 0 (xA E)) 102 [(0, .ref (E.B + a0)), (1, .int v1), (2, .int v2), (3, .int v3), (4, .int v4), (5, .int v5), (6, .int v6), (7, .int v7)] [] σ (K102 a0 v1 v2 v3 v4 v5 v6 v7 σ)) (a0 : Nat) (v1 : Int32) (v2 : Int32) (v3 : Int32) (v4 : Int32) (v5 : Int32) (v6 : Int32) (v7 : Int32) (ha0 : okO 5 a0 = true) (σ : Mm) : JR E NT 9 p l e rm_X5_part s m args below meth c 0 0 (fun r => MQ below (xQi E (NT + 0) r) args s 0 0 (xA E)) 183 [(0, .ref (E.B + a0)), (1, .int v1), (2, .int v2), (3, .int v3), (4, .int v4), (5, .int v5), (6, .int v6), (7, .int v7)] [] σ (f_X5_part_183 N K102 a0 v1 v2 v3 v4 v5 v6 v7 σ) := by
  show JR E NT 9 p l e rm_X5_part s m args below meth c 0 0 (fun r => MQ below (xQi E (NT + 0) r) args s 0 0 (xA E)) 183 [(0, .ref (E.B + a0)), (1, .int v1), (2, .int v2), (3, .int v3), (4, .int v4), (5, .int v5), (6, .int v6), (7, .int v7)] [] σ (K102 a0 v1 v2 v3 v4 v5 v6 (v7 + (1 : Int32)) (σ))
  refine jr_iinc (v := v7 + (1 : Int32)) (lv' := [(7, .int (v7 + (1 : Int32))), (0, .ref (E.B + a0)), (1, .int v1), (2, .int v2), (3, .int v3), (4, .int v4), (5, .int v5), (6, .int v6)]) hG 7 dX5_part_183 rfl rfl (by decide) rfl ?_
  refine jr_goto hG 102 dX5_part_186 (by decide) ?_
  refine jr_sub (lv' := [(0, .ref (E.B + a0)), (1, .int v1), (2, .int v2), (3, .int v3), (4, .int v4), (5, .int v5), (6, .int v6), (7, .int (v7 + (1 : Int32)))]) [1, 2, 3, 4, 5, 6, 7, 0] rfl ?_
  exact hK102 a0 v1 v2 v3 v4 v5 v6 (v7 + (1 : Int32)) ha0 (σ)
def f_X5_part_102 (N : Nat)  : Nat → Nat → Int32 → Int32 → Int32 → Int32 → Int32 → Int32 → Int32 → Mm → Option (Int32 × Mm)
  | 0 => fun _ _ _ _ _ _ _ _ _ => none
  | n + 1 => fun a0 v1 v2 v3 v4 v5 v6 v7 σ => if v4 < v7 then (bI (f_X5_factorial N (v5 + (1 : Int32)) (σ)) (fun r19 t18 => bV (f_X5_tellFraction N a0 v6 r19 t18) (fun t20 => some ((1 : Int32), t20)))) else (if (v7 &&& (v4 ^^^ (-1 : Int32))) = 0 then (bR (gr σ a0 4) (okO 0) (fun o21 => bI (f_X0_goes N o21 v1 v2 v7 (σ)) (fun r23 t22 => if r23 = 0 then (bR (gr t22 a0 4) (okO 0) (fun o24 => bI (f_X0_goes N o24 v1 v2 (v7 ||| ((1 : Int32) <<< (v3 &&& 31))) t22) (fun r26 t25 => if r26 = 0 then (f_X5_part_183 N (f_X5_part_102 N n) a0 v1 v2 v3 v4 v5 v6 v7 t25) else (bI (f_J6_bitCount_0f7a4 N v7 t25) (fun r28 t27 => bI (f_X5_factorial N r28 t27) (fun r30 t29 => bI (f_X5_factorial N (v5 - r28) t29) (fun r32 t31 => lt (v6 + (r30 * r32)) (fun x33 => f_X5_part_183 N (f_X5_part_102 N n) a0 v1 v2 v3 v4 v5 x33 v7 t31)))))))) else (f_X5_part_183 N (f_X5_part_102 N n) a0 v1 v2 v3 v4 v5 v6 v7 t22)))) else (f_X5_part_183 N (f_X5_part_102 N n) a0 v1 v2 v3 v4 v5 v6 v7 (σ)))
set_option maxRecDepth 20000 in
theorem w_X5_part_102 {p : Program} {l : Launch} {e : Env} {s : State} {m : MethodId} {args : Array Value} {below : List Frame} {meth : Method} {c : Code} {E : XE} (N : Nat) (hG : GG E NT 9 RX5 cX5_part p s m args c) (hr : meth.sig.returnType = (some .int)) (hk : meth.locks = false)  : ∀ (n : Nat) (a0 : Nat) (v1 : Int32) (v2 : Int32) (v3 : Int32) (v4 : Int32) (v5 : Int32) (v6 : Int32) (v7 : Int32) (ha0 : okO 5 a0 = true) (σ : Mm), JR E NT 9 p l e rm_X5_part s m args below meth c 0 0 (fun r => MQ below (xQi E (NT + 0) r) args s 0 0 (xA E)) 102 [(0, .ref (E.B + a0)), (1, .int v1), (2, .int v2), (3, .int v3), (4, .int v4), (5, .int v5), (6, .int v6), (7, .int v7)] [] σ (f_X5_part_102 N n a0 v1 v2 v3 v4 v5 v6 v7 σ) := by
  intro n
  induction n with
  | zero => intro a0 v1 v2 v3 v4 v5 v6 v7 ha0 σ r hX; cases hX
  | succ n ih =>
    intro a0 v1 v2 v3 v4 v5 v6 v7 ha0 σ
    show JR E NT 9 p l e rm_X5_part s m args below meth c 0 0 (fun r => MQ below (xQi E (NT + 0) r) args s 0 0 (xA E)) 102 [(0, .ref (E.B + a0)), (1, .int v1), (2, .int v2), (3, .int v3), (4, .int v4), (5, .int v5), (6, .int v6), (7, .int v7)] [] σ (if v4 < v7 then (bI (f_X5_factorial N (v5 + (1 : Int32)) (σ)) (fun r19 t18 => bV (f_X5_tellFraction N a0 v6 r19 t18) (fun t20 => some ((1 : Int32), t20)))) else (if (v7 &&& (v4 ^^^ (-1 : Int32))) = 0 then (bR (gr σ a0 4) (okO 0) (fun o21 => bI (f_X0_goes N o21 v1 v2 v7 (σ)) (fun r23 t22 => if r23 = 0 then (bR (gr t22 a0 4) (okO 0) (fun o24 => bI (f_X0_goes N o24 v1 v2 (v7 ||| ((1 : Int32) <<< (v3 &&& 31))) t22) (fun r26 t25 => if r26 = 0 then (f_X5_part_183 N (f_X5_part_102 N n) a0 v1 v2 v3 v4 v5 v6 v7 t25) else (bI (f_J6_bitCount_0f7a4 N v7 t25) (fun r28 t27 => bI (f_X5_factorial N r28 t27) (fun r30 t29 => bI (f_X5_factorial N (v5 - r28) t29) (fun r32 t31 => lt (v6 + (r30 * r32)) (fun x33 => f_X5_part_183 N (f_X5_part_102 N n) a0 v1 v2 v3 v4 v5 x33 v7 t31)))))))) else (f_X5_part_183 N (f_X5_part_102 N n) a0 v1 v2 v3 v4 v5 v6 v7 t22)))) else (f_X5_part_183 N (f_X5_part_102 N n) a0 v1 v2 v3 v4 v5 v6 v7 (σ))))
    refine jr_iload hG 7 dX5_part_102 rfl ?_
    refine jr_iload hG 4 dX5_part_104 rfl ?_
    refine jr_icmp_gt hG 189 dX5_part_106 (by decide) (fun _ => ?_) (fun _ => ?_)
    · refine jr_aload_n hG 0 dX5_part_189 rfl rfl ?_
      refine jr_iload hG 6 dX5_part_190 rfl ?_
      refine jr_iload hG 5 dX5_part_192 rfl ?_
      refine jr_iconst (v := (1 : Int32)) hG dX5_part_194 (by decide) ?_
      refine jr_iadd hG dX5_part_195 ?_
      refine jr_callSi (As := [.int (v5 + (1 : Int32))]) hG (c_X5_factorial l E N (v5 + (1 : Int32)) (σ)) ci_X5_factorial wd_610 wd_611 ⟨rfl, rfl, Nat.le_of_ble_eq_true rfl, Nat.le_of_ble_eq_true rfl⟩ rfl rfl (Nat.le_of_ble_eq_true rfl) dX5_part_196 ⟨Nat.le_refl _, Nat.le_refl _⟩ (fun r19 t18 => ?_)
      refine jr_callVv (As := [.int v6, .int r19]) hG (c_X5_tellFraction l E N a0 v6 r19 t18) ci_X5_tellFraction wd_599 ⟨wd_601, wd_14⟩ cl_5 (okO_s ha0) (okO_l ha0) ⟨rfl, rfl, Nat.le_of_ble_eq_true rfl, Nat.le_of_ble_eq_true rfl⟩ rfl rfl (Nat.le_of_ble_eq_true rfl) dX5_part_199 ⟨Nat.le_refl _, Nat.le_refl _⟩ (fun t20 => ?_)
      refine jr_iconst (v := (1 : Int32)) hG dX5_part_202 (by decide) ?_
      exact jr_iret hG hr hk dX5_part_203
    · refine jr_iload hG 7 dX5_part_109 rfl ?_
      refine jr_iload hG 4 dX5_part_111 rfl ?_
      refine jr_iconst (v := (-1 : Int32)) hG dX5_part_113 (by decide) ?_
      refine jr_ixor hG dX5_part_114 ?_
      refine jr_iand hG dX5_part_115 ?_
      refine jr_if_ne hG 183 dX5_part_116 (by decide) (fun _ => ?_) (fun _ => ?_)
      · exact w_X5_part_183 N hG hr hk ih a0 v1 v2 v3 v4 v5 v6 v7 ha0 (σ)
      · refine jr_aload_n hG 0 dX5_part_119 rfl rfl ?_
        refine jr_getR hG fi_RX5_35 rfl (okO_s ha0) (okO_l ha0) dX5_part_120 (fun o21 ho21 => ?_)
        refine jr_iload_n hG 1 dX5_part_123 rfl rfl ?_
        refine jr_iload_n hG 2 dX5_part_124 rfl rfl ?_
        refine jr_iload hG 7 dX5_part_125 rfl ?_
        refine jr_callVi (As := [.int v1, .int v2, .int v7]) hG (c_X0_goes l E N o21 v1 v2 v7 (σ)) ci_X0_goes wd_537 ⟨wd_538, wd_539⟩ cl_0 (okO_s ho21) (okO_l ho21) ⟨rfl, rfl, Nat.le_of_ble_eq_true rfl, Nat.le_of_ble_eq_true rfl⟩ rfl rfl (Nat.le_of_ble_eq_true rfl) dX5_part_127 ⟨Nat.le_refl _, Nat.le_refl _⟩ (fun r23 t22 => ?_)
        refine jr_if_eq hG 136 dX5_part_130 (by decide) (fun _ => ?_) (fun _ => ?_)
        · refine jr_aload_n hG 0 dX5_part_136 rfl rfl ?_
          refine jr_getR hG fi_RX5_35 rfl (okO_s ha0) (okO_l ha0) dX5_part_137 (fun o24 ho24 => ?_)
          refine jr_iload_n hG 1 dX5_part_140 rfl rfl ?_
          refine jr_iload_n hG 2 dX5_part_141 rfl rfl ?_
          refine jr_iload hG 7 dX5_part_142 rfl ?_
          refine jr_iconst (v := (1 : Int32)) hG dX5_part_144 (by decide) ?_
          refine jr_iload_n hG 3 dX5_part_145 rfl rfl ?_
          refine jr_ishl hG dX5_part_146 ?_
          refine jr_ior hG dX5_part_147 ?_
          refine jr_callVi (As := [.int v1, .int v2, .int (v7 ||| ((1 : Int32) <<< (v3 &&& 31)))]) hG (c_X0_goes l E N o24 v1 v2 (v7 ||| ((1 : Int32) <<< (v3 &&& 31))) t22) ci_X0_goes wd_537 ⟨wd_538, wd_539⟩ cl_0 (okO_s ho24) (okO_l ho24) ⟨rfl, rfl, Nat.le_of_ble_eq_true rfl, Nat.le_of_ble_eq_true rfl⟩ rfl rfl (Nat.le_of_ble_eq_true rfl) dX5_part_148 ⟨Nat.le_refl _, Nat.le_refl _⟩ (fun r26 t25 => ?_)
          refine jr_if_ne hG 157 dX5_part_151 (by decide) (fun _ => ?_) (fun _ => ?_)
          · refine jr_iload hG 7 dX5_part_157 rfl ?_
            refine jr_callSi (As := [.int v7]) hG (c_J6_bitCount_0f7a4 l E N v7 t25) ci_J6_bitCount_0f7a4 wd_450 wd_437 ⟨rfl, rfl, Nat.le_of_ble_eq_true rfl, Nat.le_of_ble_eq_true rfl⟩ rfl rfl (Nat.le_of_ble_eq_true rfl) dX5_part_159 ⟨Nat.le_refl _, Nat.le_refl _⟩ (fun r28 t27 => ?_)
            refine jr_istore (lv' := [(8, .int r28), (0, .ref (E.B + a0)), (1, .int v1), (2, .int v2), (3, .int v3), (4, .int v4), (5, .int v5), (6, .int v6), (7, .int v7)]) hG dX5_part_162 (by decide) rfl ?_
            refine jr_iload hG 7 dX5_part_164 rfl ?_
            refine jr_iload hG 0 dX5_part_166 rfl ?_
            refine jr_callSi (As := [.int r28]) hG (c_X5_factorial l E N r28 t27) ci_X5_factorial wd_610 wd_611 ⟨rfl, rfl, Nat.le_of_ble_eq_true rfl, Nat.le_of_ble_eq_true rfl⟩ rfl rfl (Nat.le_of_ble_eq_true rfl) dX5_part_168 ⟨Nat.le_refl _, Nat.le_refl _⟩ (fun r30 t29 => ?_)
            refine jr_iload hG 6 dX5_part_171 rfl ?_
            refine jr_iload hG 0 dX5_part_173 rfl ?_
            refine jr_isub hG dX5_part_175 ?_
            refine jr_callSi (As := [.int (v5 - r28)]) hG (c_X5_factorial l E N (v5 - r28) t29) ci_X5_factorial wd_610 wd_611 ⟨rfl, rfl, Nat.le_of_ble_eq_true rfl, Nat.le_of_ble_eq_true rfl⟩ rfl rfl (Nat.le_of_ble_eq_true rfl) dX5_part_176 ⟨Nat.le_refl _, Nat.le_refl _⟩ (fun r32 t31 => ?_)
            refine jr_imul hG dX5_part_179 ?_
            refine jr_iadd hG dX5_part_180 ?_
            refine jr_leti (fun x33 _ => ?_)
            refine jr_istore (lv' := [(6, .int x33), (8, .int r28), (0, .ref (E.B + a0)), (1, .int v1), (2, .int v2), (3, .int v3), (4, .int v4), (5, .int v5), (7, .int v7)]) hG dX5_part_181 (by decide) rfl ?_
            refine jr_sub (lv' := [(0, .ref (E.B + a0)), (1, .int v1), (2, .int v2), (3, .int v3), (4, .int v4), (5, .int v5), (6, .int x33), (7, .int v7)]) [2, 3, 4, 5, 6, 7, 0, 8] rfl ?_
            exact w_X5_part_183 N hG hr hk ih a0 v1 v2 v3 v4 v5 x33 v7 ha0 t31
          · refine jr_goto hG 183 dX5_part_154 (by decide) ?_
            exact w_X5_part_183 N hG hr hk ih a0 v1 v2 v3 v4 v5 v6 v7 ha0 t25
        · refine jr_goto hG 183 dX5_part_133 (by decide) ?_
          exact w_X5_part_183 N hG hr hk ih a0 v1 v2 v3 v4 v5 v6 v7 ha0 t22
def f_X5_part_86 (N : Nat)   (σ : Mm) : Option (Int32 × Mm) := some ((-4 : Int32), σ)
set_option maxRecDepth 20000 in
theorem w_X5_part_86 {p : Program} {l : Launch} {e : Env} {s : State} {m : MethodId} {args : Array Value} {below : List Frame} {meth : Method} {c : Code} {E : XE} (N : Nat) (hG : GG E NT 9 RX5 cX5_part p s m args c) (hr : meth.sig.returnType = (some .int)) (hk : meth.locks = false)    (σ : Mm) : JR E NT 9 p l e rm_X5_part s m args below meth c 0 0 (fun r => MQ below (xQi E (NT + 0) r) args s 0 0 (xA E)) 86 [] [] σ (f_X5_part_86 N σ) := by
  show JR E NT 9 p l e rm_X5_part s m args below meth c 0 0 (fun r => MQ below (xQi E (NT + 0) r) args s 0 0 (xA E)) 86 [] [] σ (some ((-4 : Int32), σ))
  refine jr_bipush (v := (-4 : Int32)) hG dX5_part_86 (by decide) ?_
  exact jr_iret hG hr hk dX5_part_88
def f_X5_part (N : Nat) (a0 : Nat) (v1 : Int32) (v2 : Int32) (v3 : Int32) (σ : Mm) : Option (Int32 × Mm) := if okO 5 a0 then (bI (f_X5_areTwo N a0 v1 v2 (σ)) (fun r2 t1 => if r2 = 0 then (some ((-1 : Int32), t1)) else (bR (gr t1 a0 6) (okO 2) (fun o3 => bI (f_X2_has N o3 v3 t1) (fun r5 t4 => if r5 = 0 then (some ((-1 : Int32), t4)) else (if v3 = v1 then (some ((-1 : Int32), t4)) else (if v3 = v2 then (some ((-1 : Int32), t4)) else (bR (gr t4 a0 6) (okO 2) (fun o6 => bI (f_X2_everybody N o6 t4) (fun r8 t7 => lt (r8 &&& (((((1 : Int32) <<< (v1 &&& 31)) ||| ((1 : Int32) <<< (v2 &&& 31))) ||| ((1 : Int32) <<< (v3 &&& 31))) ^^^ (-1 : Int32))) (fun x9 => bR (gr t7 a0 4) (okO 0) (fun o10 => bI (f_X0_goes N o10 v1 v2 (0 : Int32) t7) (fun r12 t11 => if r12 = 0 then (bR (gr t11 a0 4) (okO 0) (fun o13 => bI (f_X0_goes N o13 v1 v2 (x9 ||| ((1 : Int32) <<< (v3 &&& 31))) t11) (fun r15 t14 => if r15 = 0 then (f_X5_part_86 N t14) else (bI (f_J6_bitCount_0f7a4 N x9 t14) (fun r17 t16 => f_X5_part_102 N N a0 v1 v2 v3 x9 r17 (0 : Int32) (0 : Int32) t16))))) else (f_X5_part_86 N t11)))))))))))))) else none
set_option maxRecDepth 20000 in
theorem c_X5_part (l : Launch) (E : XE) (N : Nat) (a0 : Nat) (v1 : Int32) (v2 : Int32) (v3 : Int32) (σ : Mm) : ∀ r0, f_X5_part N a0 v1 v2 v3 σ = some r0 → Met l yX5_part [Cond.code yX5_part cX5_part 9 (some .int)] rm_X5_part (xPc E (NT + 0) σ [.ref (E.B + a0), .int v1, .int v2, .int v3]) (xQi E (NT + 0) r0) 0 0 (xA E) := by
  refine met_of (N0 := NT) (by decide +kernel) (Nat.le_of_ble_eq_true rfl) ?_
  intro p e s m args below meth c hG hr hk _
  show JR E NT 9 p l e rm_X5_part s m args below meth c 0 0 (fun r => MQ below (xQi E (NT + 0) r) args s 0 0 (xA E)) 0 [(0, .ref (E.B + a0)), (1, .int v1), (2, .int v2), (3, .int v3)] [] σ (if okO 5 a0 then (bI (f_X5_areTwo N a0 v1 v2 (σ)) (fun r2 t1 => if r2 = 0 then (some ((-1 : Int32), t1)) else (bR (gr t1 a0 6) (okO 2) (fun o3 => bI (f_X2_has N o3 v3 t1) (fun r5 t4 => if r5 = 0 then (some ((-1 : Int32), t4)) else (if v3 = v1 then (some ((-1 : Int32), t4)) else (if v3 = v2 then (some ((-1 : Int32), t4)) else (bR (gr t4 a0 6) (okO 2) (fun o6 => bI (f_X2_everybody N o6 t4) (fun r8 t7 => lt (r8 &&& (((((1 : Int32) <<< (v1 &&& 31)) ||| ((1 : Int32) <<< (v2 &&& 31))) ||| ((1 : Int32) <<< (v3 &&& 31))) ^^^ (-1 : Int32))) (fun x9 => bR (gr t7 a0 4) (okO 0) (fun o10 => bI (f_X0_goes N o10 v1 v2 (0 : Int32) t7) (fun r12 t11 => if r12 = 0 then (bR (gr t11 a0 4) (okO 0) (fun o13 => bI (f_X0_goes N o13 v1 v2 (x9 ||| ((1 : Int32) <<< (v3 &&& 31))) t11) (fun r15 t14 => if r15 = 0 then (f_X5_part_86 N t14) else (bI (f_J6_bitCount_0f7a4 N x9 t14) (fun r17 t16 => f_X5_part_102 N N a0 v1 v2 v3 x9 r17 (0 : Int32) (0 : Int32) t16))))) else (f_X5_part_86 N t11)))))))))))))) else none)
  refine jr_guard (fun ha0 => ?_)
  refine jr_aload_n hG 0 dX5_part_0 rfl rfl ?_
  refine jr_iload_n hG 1 dX5_part_1 rfl rfl ?_
  refine jr_iload_n hG 2 dX5_part_2 rfl rfl ?_
  refine jr_callVi (As := [.int v1, .int v2]) hG (c_X5_areTwo l E N a0 v1 v2 (σ)) ci_X5_areTwo wd_483 ⟨wd_485, wd_9⟩ cl_5 (okO_s ha0) (okO_l ha0) ⟨rfl, rfl, Nat.le_of_ble_eq_true rfl, Nat.le_of_ble_eq_true rfl⟩ rfl rfl (Nat.le_of_ble_eq_true rfl) dX5_part_3 ⟨Nat.le_refl _, Nat.le_refl _⟩ (fun r2 t1 => ?_)
  refine jr_if_eq hG 30 dX5_part_6 (by decide) (fun _ => ?_) (fun _ => ?_)
  · refine jr_iconst (v := (-1 : Int32)) hG dX5_part_30 (by decide) ?_
    exact jr_iret hG hr hk dX5_part_31
  · refine jr_aload_n hG 0 dX5_part_9 rfl rfl ?_
    refine jr_getR hG fi_RX5_45 rfl (okO_s ha0) (okO_l ha0) dX5_part_10 (fun o3 ho3 => ?_)
    refine jr_iload_n hG 3 dX5_part_13 rfl rfl ?_
    refine jr_callVi (As := [.int v3]) hG (c_X2_has l E N o3 v3 t1) ci_X2_has wd_421 ⟨wd_362, wd_363⟩ cl_2 (okO_s ho3) (okO_l ho3) ⟨rfl, rfl, Nat.le_of_ble_eq_true rfl, Nat.le_of_ble_eq_true rfl⟩ rfl rfl (Nat.le_of_ble_eq_true rfl) dX5_part_14 ⟨Nat.le_refl _, Nat.le_refl _⟩ (fun r5 t4 => ?_)
    refine jr_if_eq hG 30 dX5_part_17 (by decide) (fun _ => ?_) (fun _ => ?_)
    · refine jr_iconst (v := (-1 : Int32)) hG dX5_part_30 (by decide) ?_
      exact jr_iret hG hr hk dX5_part_31
    · refine jr_iload_n hG 3 dX5_part_20 rfl rfl ?_
      refine jr_iload_n hG 1 dX5_part_21 rfl rfl ?_
      refine jr_icmp_eq hG 30 dX5_part_22 (by decide) (fun _ => ?_) (fun _ => ?_)
      · refine jr_iconst (v := (-1 : Int32)) hG dX5_part_30 (by decide) ?_
        exact jr_iret hG hr hk dX5_part_31
      · refine jr_iload_n hG 3 dX5_part_25 rfl rfl ?_
        refine jr_iload_n hG 2 dX5_part_26 rfl rfl ?_
        refine jr_icmp_ne hG 32 dX5_part_27 (by decide) (fun _ => ?_) (fun _ => ?_)
        · refine jr_aload_n hG 0 dX5_part_32 rfl rfl ?_
          refine jr_getR hG fi_RX5_45 rfl (okO_s ha0) (okO_l ha0) dX5_part_33 (fun o6 ho6 => ?_)
          refine jr_callVi (As := []) hG (c_X2_everybody l E N o6 t4) ci_X2_everybody wd_533 ⟨wd_534, wd_535⟩ cl_2 (okO_s ho6) (okO_l ho6) ⟨rfl, rfl, Nat.le_of_ble_eq_true rfl, Nat.le_of_ble_eq_true rfl⟩ rfl rfl (Nat.le_of_ble_eq_true rfl) dX5_part_36 ⟨Nat.le_refl _, Nat.le_refl _⟩ (fun r8 t7 => ?_)
          refine jr_iconst (v := (1 : Int32)) hG dX5_part_39 (by decide) ?_
          refine jr_iload_n hG 1 dX5_part_40 rfl rfl ?_
          refine jr_ishl hG dX5_part_41 ?_
          refine jr_iconst (v := (1 : Int32)) hG dX5_part_42 (by decide) ?_
          refine jr_iload_n hG 2 dX5_part_43 rfl rfl ?_
          refine jr_ishl hG dX5_part_44 ?_
          refine jr_ior hG dX5_part_45 ?_
          refine jr_iconst (v := (1 : Int32)) hG dX5_part_46 (by decide) ?_
          refine jr_iload_n hG 3 dX5_part_47 rfl rfl ?_
          refine jr_ishl hG dX5_part_48 ?_
          refine jr_ior hG dX5_part_49 ?_
          refine jr_iconst (v := (-1 : Int32)) hG dX5_part_50 (by decide) ?_
          refine jr_ixor hG dX5_part_51 ?_
          refine jr_iand hG dX5_part_52 ?_
          refine jr_leti (fun x9 _ => ?_)
          refine jr_istore (lv' := [(4, .int x9), (0, .ref (E.B + a0)), (1, .int v1), (2, .int v2), (3, .int v3)]) hG dX5_part_53 (by decide) rfl ?_
          refine jr_aload_n hG 1 dX5_part_55 rfl rfl ?_
          refine jr_getR hG fi_RX5_35 rfl (okO_s ha0) (okO_l ha0) dX5_part_56 (fun o10 ho10 => ?_)
          refine jr_iload_n hG 2 dX5_part_59 rfl rfl ?_
          refine jr_iload_n hG 3 dX5_part_60 rfl rfl ?_
          refine jr_iconst (v := (0 : Int32)) hG dX5_part_61 (by decide) ?_
          refine jr_callVi (As := [.int v1, .int v2, .int (0 : Int32)]) hG (c_X0_goes l E N o10 v1 v2 (0 : Int32) t7) ci_X0_goes wd_537 ⟨wd_538, wd_539⟩ cl_0 (okO_s ho10) (okO_l ho10) ⟨rfl, rfl, Nat.le_of_ble_eq_true rfl, Nat.le_of_ble_eq_true rfl⟩ rfl rfl (Nat.le_of_ble_eq_true rfl) dX5_part_62 ⟨Nat.le_refl _, Nat.le_refl _⟩ (fun r12 t11 => ?_)
          refine jr_if_ne hG 86 dX5_part_65 (by decide) (fun _ => ?_) (fun _ => ?_)
          · refine jr_sub (lv' := []) [] rfl ?_
            exact w_X5_part_86 N hG hr hk t11
          · refine jr_aload_n hG 1 dX5_part_68 rfl rfl ?_
            refine jr_getR hG fi_RX5_35 rfl (okO_s ha0) (okO_l ha0) dX5_part_69 (fun o13 ho13 => ?_)
            refine jr_iload_n hG 2 dX5_part_72 rfl rfl ?_
            refine jr_iload_n hG 3 dX5_part_73 rfl rfl ?_
            refine jr_iload hG 0 dX5_part_74 rfl ?_
            refine jr_iconst (v := (1 : Int32)) hG dX5_part_76 (by decide) ?_
            refine jr_iload_n hG 4 dX5_part_77 rfl rfl ?_
            refine jr_ishl hG dX5_part_78 ?_
            refine jr_ior hG dX5_part_79 ?_
            refine jr_callVi (As := [.int v1, .int v2, .int (x9 ||| ((1 : Int32) <<< (v3 &&& 31)))]) hG (c_X0_goes l E N o13 v1 v2 (x9 ||| ((1 : Int32) <<< (v3 &&& 31))) t11) ci_X0_goes wd_537 ⟨wd_538, wd_539⟩ cl_0 (okO_s ho13) (okO_l ho13) ⟨rfl, rfl, Nat.le_of_ble_eq_true rfl, Nat.le_of_ble_eq_true rfl⟩ rfl rfl (Nat.le_of_ble_eq_true rfl) dX5_part_80 ⟨Nat.le_refl _, Nat.le_refl _⟩ (fun r15 t14 => ?_)
            refine jr_if_ne hG 89 dX5_part_83 (by decide) (fun _ => ?_) (fun _ => ?_)
            · refine jr_iload hG 0 dX5_part_89 rfl ?_
              refine jr_callSi (As := [.int x9]) hG (c_J6_bitCount_0f7a4 l E N x9 t14) ci_J6_bitCount_0f7a4 wd_450 wd_437 ⟨rfl, rfl, Nat.le_of_ble_eq_true rfl, Nat.le_of_ble_eq_true rfl⟩ rfl rfl (Nat.le_of_ble_eq_true rfl) dX5_part_91 ⟨Nat.le_refl _, Nat.le_refl _⟩ (fun r17 t16 => ?_)
              refine jr_istore (lv' := [(5, .int r17), (4, .int x9), (0, .ref (E.B + a0)), (1, .int v1), (2, .int v2), (3, .int v3)]) hG dX5_part_94 (by decide) rfl ?_
              refine jr_iconst (v := (0 : Int32)) hG dX5_part_96 (by decide) ?_
              refine jr_istore (lv' := [(6, .int (0 : Int32)), (5, .int r17), (4, .int x9), (0, .ref (E.B + a0)), (1, .int v1), (2, .int v2), (3, .int v3)]) hG dX5_part_97 (by decide) rfl ?_
              refine jr_iconst (v := (0 : Int32)) hG dX5_part_99 (by decide) ?_
              refine jr_istore (lv' := [(7, .int (0 : Int32)), (6, .int (0 : Int32)), (5, .int r17), (4, .int x9), (0, .ref (E.B + a0)), (1, .int v1), (2, .int v2), (3, .int v3)]) hG dX5_part_100 (by decide) rfl ?_
              refine jr_sub (lv' := [(0, .ref (E.B + a0)), (1, .int v1), (2, .int v2), (3, .int v3), (4, .int x9), (5, .int r17), (6, .int (0 : Int32)), (7, .int (0 : Int32))]) [4, 5, 6, 7, 3, 2, 1, 0] rfl ?_
              exact w_X5_part_102 N hG hr hk N a0 v1 v2 v3 x9 r17 (0 : Int32) (0 : Int32) ha0 t16
            · refine jr_sub (lv' := []) [] rfl ?_
              exact w_X5_part_86 N hG hr hk t14
        · refine jr_iconst (v := (-1 : Int32)) hG dX5_part_30 (by decide) ?_
          exact jr_iret hG hr hk dX5_part_31
-- TonguesDealt.refusedMornings(LTonguesDealt$Row;)I
abbrev rm_X5_refusedMornings : Room := { frames := 1, cells := 0, slots := 0, locals := 22 }
theorem ci_X5_refusedMornings : CIx yX5_refusedMornings cX5_refusedMornings 2 (some .int) 1 := ⟨wd_620, wd_71, by decide +kernel⟩
def f_X5_refusedMornings (N : Nat) (a0 : Nat) (a1 : Nat) (σ : Mm) : Option (Int32 × Mm) := if okO 5 a0 then (if okO 3 a1 then (bR (gr σ a0 6) (okO 2) (fun o1 => if (gi σ o1 8) = 0 then (some ((-4 : Int32), σ)) else (if (gi σ a1 1) = (-1 : Int32) then (bI (f_X5_found N a0 (1 : Int32) (σ)) (fun r10 t9 => some (r10, t9))) else (bR (gr σ a0 6) (okO 2) (fun o2 => if (gi σ o2 8) = 0 then none else if ((gi σ a1 1) - (gi σ a1 1) / (gi σ o2 8) * (gi σ o2 8)) = 0 then (bI (f_X3_allBelow N a1 (4 : Int32) (σ)) (fun r4 t3 => if r4 = 0 then (bI (f_X5_found N a0 (3 : Int32) t3) (fun r6 t5 => some (r6, t5))) else (some ((0 : Int32), t3)))) else (bI (f_X5_found N a0 (5 : Int32) (σ)) (fun r8 t7 => some (r8, t7)))))))) else none) else none
set_option maxRecDepth 20000 in
theorem c_X5_refusedMornings (l : Launch) (E : XE) (N : Nat) (a0 : Nat) (a1 : Nat) (σ : Mm) : ∀ r0, f_X5_refusedMornings N a0 a1 σ = some r0 → Met l yX5_refusedMornings [Cond.code yX5_refusedMornings cX5_refusedMornings 2 (some .int)] rm_X5_refusedMornings (xPc E (NT + 0) σ [.ref (E.B + a0), .ref (E.B + a1)]) (xQi E (NT + 0) r0) 0 0 (xA E) := by
  refine met_of (N0 := NT) (by decide +kernel) (Nat.le_of_ble_eq_true rfl) ?_
  intro p e s m args below meth c hG hr hk _
  show JR E NT 2 p l e rm_X5_refusedMornings s m args below meth c 0 0 (fun r => MQ below (xQi E (NT + 0) r) args s 0 0 (xA E)) 0 [(0, .ref (E.B + a0)), (1, .ref (E.B + a1))] [] σ (if okO 5 a0 then (if okO 3 a1 then (bR (gr σ a0 6) (okO 2) (fun o1 => if (gi σ o1 8) = 0 then (some ((-4 : Int32), σ)) else (if (gi σ a1 1) = (-1 : Int32) then (bI (f_X5_found N a0 (1 : Int32) (σ)) (fun r10 t9 => some (r10, t9))) else (bR (gr σ a0 6) (okO 2) (fun o2 => if (gi σ o2 8) = 0 then none else if ((gi σ a1 1) - (gi σ a1 1) / (gi σ o2 8) * (gi σ o2 8)) = 0 then (bI (f_X3_allBelow N a1 (4 : Int32) (σ)) (fun r4 t3 => if r4 = 0 then (bI (f_X5_found N a0 (3 : Int32) t3) (fun r6 t5 => some (r6, t5))) else (some ((0 : Int32), t3)))) else (bI (f_X5_found N a0 (5 : Int32) (σ)) (fun r8 t7 => some (r8, t7)))))))) else none) else none)
  refine jr_guard (fun ha0 => ?_)
  refine jr_guard (fun ha1 => ?_)
  refine jr_aload_n hG 0 dX5_refusedMornings_0 rfl rfl ?_
  refine jr_getR hG fi_RX5_45 rfl (okO_s ha0) (okO_l ha0) dX5_refusedMornings_1 (fun o1 ho1 => ?_)
  refine jr_getI hG fi_RX5_127 rfl (okO_s ho1) (okO_l ho1) dX5_refusedMornings_4 ?_
  refine jr_if_ne hG 13 dX5_refusedMornings_7 (by decide) (fun _ => ?_) (fun _ => ?_)
  · refine jr_aload_n hG 1 dX5_refusedMornings_13 rfl rfl ?_
    refine jr_getI hG fi_RX5_90 rfl (okO_s ha1) (okO_l ha1) dX5_refusedMornings_14 ?_
    refine jr_iconst (v := (-1 : Int32)) hG dX5_refusedMornings_17 (by decide) ?_
    refine jr_icmp_ne hG 27 dX5_refusedMornings_18 (by decide) (fun _ => ?_) (fun _ => ?_)
    · refine jr_aload_n hG 1 dX5_refusedMornings_27 rfl rfl ?_
      refine jr_getI hG fi_RX5_90 rfl (okO_s ha1) (okO_l ha1) dX5_refusedMornings_28 ?_
      refine jr_aload_n hG 0 dX5_refusedMornings_31 rfl rfl ?_
      refine jr_getR hG fi_RX5_45 rfl (okO_s ha0) (okO_l ha0) dX5_refusedMornings_32 (fun o2 ho2 => ?_)
      refine jr_getI hG fi_RX5_127 rfl (okO_s ho2) (okO_l ho2) dX5_refusedMornings_35 ?_
      refine jr_irem hG dX5_refusedMornings_38 ?_
      refine jr_if_eq hG 48 dX5_refusedMornings_39 (by decide) (fun _ => ?_) (fun _ => ?_)
      · refine jr_aload_n hG 1 dX5_refusedMornings_48 rfl rfl ?_
        refine jr_iconst (v := (4 : Int32)) hG dX5_refusedMornings_49 (by decide) ?_
        refine jr_callVi (As := [.int (4 : Int32)]) hG (c_X3_allBelow l E N a1 (4 : Int32) (σ)) ci_X3_allBelow wd_455 ⟨wd_456, wd_457⟩ cl_3 (okO_s ha1) (okO_l ha1) ⟨rfl, rfl, Nat.le_of_ble_eq_true rfl, Nat.le_of_ble_eq_true rfl⟩ rfl rfl (Nat.le_of_ble_eq_true rfl) dX5_refusedMornings_50 ⟨Nat.le_refl _, Nat.le_refl _⟩ (fun r4 t3 => ?_)
        refine jr_if_ne hG 62 dX5_refusedMornings_53 (by decide) (fun _ => ?_) (fun _ => ?_)
        · refine jr_iconst (v := (0 : Int32)) hG dX5_refusedMornings_62 (by decide) ?_
          exact jr_iret hG hr hk dX5_refusedMornings_63
        · refine jr_aload_n hG 0 dX5_refusedMornings_56 rfl rfl ?_
          refine jr_iconst (v := (3 : Int32)) hG dX5_refusedMornings_57 (by decide) ?_
          refine jr_callVi (As := [.int (3 : Int32)]) hG (c_X5_found l E N a0 (3 : Int32) t3) ci_X5_found wd_276 ⟨wd_278, wd_0⟩ cl_5 (okO_s ha0) (okO_l ha0) ⟨rfl, rfl, Nat.le_of_ble_eq_true rfl, Nat.le_of_ble_eq_true rfl⟩ rfl rfl (Nat.le_of_ble_eq_true rfl) dX5_refusedMornings_58 ⟨Nat.le_refl _, Nat.le_refl _⟩ (fun r6 t5 => ?_)
          exact jr_iret hG hr hk dX5_refusedMornings_61
      · refine jr_aload_n hG 0 dX5_refusedMornings_42 rfl rfl ?_
        refine jr_iconst (v := (5 : Int32)) hG dX5_refusedMornings_43 (by decide) ?_
        refine jr_callVi (As := [.int (5 : Int32)]) hG (c_X5_found l E N a0 (5 : Int32) (σ)) ci_X5_found wd_276 ⟨wd_278, wd_0⟩ cl_5 (okO_s ha0) (okO_l ha0) ⟨rfl, rfl, Nat.le_of_ble_eq_true rfl, Nat.le_of_ble_eq_true rfl⟩ rfl rfl (Nat.le_of_ble_eq_true rfl) dX5_refusedMornings_44 ⟨Nat.le_refl _, Nat.le_refl _⟩ (fun r8 t7 => ?_)
        exact jr_iret hG hr hk dX5_refusedMornings_47
    · refine jr_aload_n hG 0 dX5_refusedMornings_21 rfl rfl ?_
      refine jr_iconst (v := (1 : Int32)) hG dX5_refusedMornings_22 (by decide) ?_
      refine jr_callVi (As := [.int (1 : Int32)]) hG (c_X5_found l E N a0 (1 : Int32) (σ)) ci_X5_found wd_276 ⟨wd_278, wd_0⟩ cl_5 (okO_s ha0) (okO_l ha0) ⟨rfl, rfl, Nat.le_of_ble_eq_true rfl, Nat.le_of_ble_eq_true rfl⟩ rfl rfl (Nat.le_of_ble_eq_true rfl) dX5_refusedMornings_23 ⟨Nat.le_refl _, Nat.le_refl _⟩ (fun r10 t9 => ?_)
      exact jr_iret hG hr hk dX5_refusedMornings_26
  · refine jr_bipush (v := (-4 : Int32)) hG dX5_refusedMornings_10 (by decide) ?_
    exact jr_iret hG hr hk dX5_refusedMornings_12
-- TonguesDealt.morningsIn(LTonguesDealt$Row;)I
abbrev rm_X5_morningsIn : Room := { frames := 0, cells := 0, slots := 0, locals := 0 }
theorem ci_X5_morningsIn : CIx yX5_morningsIn cX5_morningsIn 2 (some .int) 1 := ⟨wd_624, wd_71, by decide +kernel⟩
def f_X5_morningsIn (N : Nat) (a0 : Nat) (a1 : Nat) (σ : Mm) : Option (Int32 × Mm) := if okO 5 a0 then (if okO 3 a1 then (bR (gr σ a0 6) (okO 2) (fun o1 => if (gi σ o1 8) ≤ 0 then (some ((0 : Int32), σ)) else (bR (gr σ a0 6) (okO 2) (fun o2 => if (gi σ o2 8) = 0 then none else some ((gi σ a1 1) / (gi σ o2 8), σ))))) else none) else none
set_option maxRecDepth 20000 in
theorem c_X5_morningsIn (l : Launch) (E : XE) (N : Nat) (a0 : Nat) (a1 : Nat) (σ : Mm) : ∀ r0, f_X5_morningsIn N a0 a1 σ = some r0 → Met l yX5_morningsIn [Cond.code yX5_morningsIn cX5_morningsIn 2 (some .int)] rm_X5_morningsIn (xPc E (NT + 0) σ [.ref (E.B + a0), .ref (E.B + a1)]) (xQi E (NT + 0) r0) 0 0 (xA E) := by
  refine met_of (N0 := NT) (by decide +kernel) (Nat.le_of_ble_eq_true rfl) ?_
  intro p e s m args below meth c hG hr hk _
  show JR E NT 2 p l e rm_X5_morningsIn s m args below meth c 0 0 (fun r => MQ below (xQi E (NT + 0) r) args s 0 0 (xA E)) 0 [(0, .ref (E.B + a0)), (1, .ref (E.B + a1))] [] σ (if okO 5 a0 then (if okO 3 a1 then (bR (gr σ a0 6) (okO 2) (fun o1 => if (gi σ o1 8) ≤ 0 then (some ((0 : Int32), σ)) else (bR (gr σ a0 6) (okO 2) (fun o2 => if (gi σ o2 8) = 0 then none else some ((gi σ a1 1) / (gi σ o2 8), σ))))) else none) else none)
  refine jr_guard (fun ha0 => ?_)
  refine jr_guard (fun ha1 => ?_)
  refine jr_aload_n hG 0 dX5_morningsIn_0 rfl rfl ?_
  refine jr_getR hG fi_RX5_45 rfl (okO_s ha0) (okO_l ha0) dX5_morningsIn_1 (fun o1 ho1 => ?_)
  refine jr_getI hG fi_RX5_127 rfl (okO_s ho1) (okO_l ho1) dX5_morningsIn_4 ?_
  refine jr_if_le hG 25 dX5_morningsIn_7 (by decide) (fun _ => ?_) (fun _ => ?_)
  · refine jr_iconst (v := (0 : Int32)) hG dX5_morningsIn_25 (by decide) ?_
    exact jr_iret hG hr hk dX5_morningsIn_26
  · refine jr_aload_n hG 1 dX5_morningsIn_10 rfl rfl ?_
    refine jr_getI hG fi_RX5_90 rfl (okO_s ha1) (okO_l ha1) dX5_morningsIn_11 ?_
    refine jr_aload_n hG 0 dX5_morningsIn_14 rfl rfl ?_
    refine jr_getR hG fi_RX5_45 rfl (okO_s ha0) (okO_l ha0) dX5_morningsIn_15 (fun o2 ho2 => ?_)
    refine jr_getI hG fi_RX5_127 rfl (okO_s ho2) (okO_l ho2) dX5_morningsIn_18 ?_
    refine jr_idiv hG dX5_morningsIn_21 ?_
    refine jr_goto hG 26 dX5_morningsIn_22 (by decide) ?_
    exact jr_iret hG hr hk dX5_morningsIn_26
