-- TonguesDealtModel.laySets(I)V
abbrev rm_X6_laySets : Room := { frames := 0, cells := 0, slots := 0, locals := 0 }
theorem ci_X6_laySets : CIx yX6_laySets cX6_laySets 3 none 1 := ⟨wd_1123, wd_77, by decide +kernel⟩
def f_X6_laySets_2 (N : Nat)  : Nat → Nat → Int32 → Int32 → Mm → Option (Mm)
  | 0 => fun _ _ _ _ => none
  | n + 1 => fun a0 v1 v2 σ => if (gi σ a0 10) ≤ v2 then (some (σ)) else (bR (gr σ a0 21) (okA 0) (fun o1 => bR (gr σ a0 29) (okA 0) (fun o2 => if inb (((6 : Int32) * v1) + v2) (arL o2) then (bR (gr σ a0 30) (okA 0) (fun o3 => if inb v2 (arL o3) then (if inb v2 (arL o1) then (lt (si σ o1 (ix v2) ((gi σ o2 (ix (((6 : Int32) * v1) + v2))) ||| (gi σ o3 (ix v2)))) (fun t4 => f_X6_laySets_2 N n a0 v1 (v2 + (1 : Int32)) t4)) else none) else none)) else none)))
set_option maxRecDepth 20000 in
theorem w_X6_laySets_2 {p : Program} {l : Launch} {e : Env} {s : State} {m : MethodId} {args : Array Value} {below : List Frame} {meth : Method} {c : Code} {E : XE} (N : Nat) (hG : GG E NT 3 RX6 cX6_laySets p s m args c) (hr : meth.sig.returnType = none) (hk : meth.locks = false)  : ∀ (n : Nat) (a0 : Nat) (v1 : Int32) (v2 : Int32) (ha0 : okO 6 a0 = true) (σ : Mm), JR E NT 3 p l e rm_X6_laySets s m args below meth c 0 0 (fun r => MQ below (xQv E (NT + 0) r) args s 0 0 (xA E)) 2 [(0, .ref (E.B + a0)), (1, .int v1), (2, .int v2)] [] σ (f_X6_laySets_2 N n a0 v1 v2 σ) := by
  intro n
  induction n with
  | zero => intro a0 v1 v2 ha0 σ r hX; cases hX
  | succ n ih =>
    intro a0 v1 v2 ha0 σ
    show JR E NT 3 p l e rm_X6_laySets s m args below meth c 0 0 (fun r => MQ below (xQv E (NT + 0) r) args s 0 0 (xA E)) 2 [(0, .ref (E.B + a0)), (1, .int v1), (2, .int v2)] [] σ (if (gi σ a0 10) ≤ v2 then (some (σ)) else (bR (gr σ a0 21) (okA 0) (fun o1 => bR (gr σ a0 29) (okA 0) (fun o2 => if inb (((6 : Int32) * v1) + v2) (arL o2) then (bR (gr σ a0 30) (okA 0) (fun o3 => if inb v2 (arL o3) then (if inb v2 (arL o1) then (lt (si σ o1 (ix v2) ((gi σ o2 (ix (((6 : Int32) * v1) + v2))) ||| (gi σ o3 (ix v2)))) (fun t4 => f_X6_laySets_2 N n a0 v1 (v2 + (1 : Int32)) t4)) else none) else none)) else none))))
    refine jr_iload_n hG 2 dX6_laySets_2 rfl rfl ?_
    refine jr_aload_n hG 0 dX6_laySets_3 rfl rfl ?_
    refine jr_getI hG fi_RX6_147 rfl (okO_s ha0) (okO_l ha0) dX6_laySets_4 ?_
    refine jr_icmp_ge hG 40 dX6_laySets_7 (by decide) (fun _ => ?_) (fun _ => ?_)
    · exact jr_vret hG hr hk dX6_laySets_40
    · refine jr_aload_n hG 0 dX6_laySets_10 rfl rfl ?_
      refine jr_getR hG fi_RX6_54 rfl (okO_s ha0) (okO_l ha0) dX6_laySets_11 (fun o1 ho1 => ?_)
      refine jr_iload_n hG 2 dX6_laySets_14 rfl rfl ?_
      refine jr_aload_n hG 0 dX6_laySets_15 rfl rfl ?_
      refine jr_getR hG fi_RX6_76 rfl (okO_s ha0) (okO_l ha0) dX6_laySets_16 (fun o2 ho2 => ?_)
      refine jr_bipush (v := (6 : Int32)) hG dX6_laySets_19 (by decide) ?_
      refine jr_iload_n hG 1 dX6_laySets_21 rfl rfl ?_
      refine jr_imul hG dX6_laySets_22 ?_
      refine jr_iload_n hG 2 dX6_laySets_23 rfl rfl ?_
      refine jr_iadd hG dX6_laySets_24 ?_
      refine jr_iald hG (okA_s (by decide) ho2) (okA_l ho2) dX6_laySets_25 ?_
      refine jr_aload_n hG 0 dX6_laySets_26 rfl rfl ?_
      refine jr_getR hG fi_RX6_79 rfl (okO_s ha0) (okO_l ha0) dX6_laySets_27 (fun o3 ho3 => ?_)
      refine jr_iload_n hG 2 dX6_laySets_30 rfl rfl ?_
      refine jr_iald hG (okA_s (by decide) ho3) (okA_l ho3) dX6_laySets_31 ?_
      refine jr_ior hG dX6_laySets_32 ?_
      refine jr_iast hG (okA_s (by decide) ho1) (okA_l ho1) dX6_laySets_33 ?_
      refine jr_lets (fun t4 _ => ?_)
      refine jr_iinc (v := v2 + (1 : Int32)) (lv' := [(2, .int (v2 + (1 : Int32))), (0, .ref (E.B + a0)), (1, .int v1)]) hG 2 dX6_laySets_34 rfl rfl (by decide) rfl ?_
      refine jr_goto hG 2 dX6_laySets_37 (by decide) ?_
      refine jr_sub (lv' := [(0, .ref (E.B + a0)), (1, .int v1), (2, .int (v2 + (1 : Int32)))]) [1, 2, 0] rfl ?_
      exact ih a0 v1 (v2 + (1 : Int32)) ha0 t4
def f_X6_laySets (N : Nat) (a0 : Nat) (v1 : Int32) (σ : Mm) : Option (Mm) := if okO 6 a0 then (f_X6_laySets_2 N N a0 v1 (0 : Int32) (σ)) else none
set_option maxRecDepth 20000 in
theorem c_X6_laySets (l : Launch) (E : XE) (N : Nat) (a0 : Nat) (v1 : Int32) (σ : Mm) : ∀ r0, f_X6_laySets N a0 v1 σ = some r0 → Met l yX6_laySets [Cond.code yX6_laySets cX6_laySets 3 none] rm_X6_laySets (xPc E (NT + 0) σ [.ref (E.B + a0), .int v1]) (xQv E (NT + 0) r0) 0 0 (xA E) := by
  refine met_of (N0 := NT) (by decide +kernel) (Nat.le_of_ble_eq_true rfl) ?_
  intro p e s m args below meth c hG hr hk _
  show JR E NT 3 p l e rm_X6_laySets s m args below meth c 0 0 (fun r => MQ below (xQv E (NT + 0) r) args s 0 0 (xA E)) 0 [(0, .ref (E.B + a0)), (1, .int v1)] [] σ (if okO 6 a0 then (f_X6_laySets_2 N N a0 v1 (0 : Int32) (σ)) else none)
  refine jr_guard (fun ha0 => ?_)
  refine jr_iconst (v := (0 : Int32)) hG dX6_laySets_0 (by decide) ?_
  refine jr_istore_n (lv' := [(2, .int (0 : Int32)), (0, .ref (E.B + a0)), (1, .int v1)]) hG dX6_laySets_1 rfl (by decide) rfl ?_
  refine jr_sub (lv' := [(0, .ref (E.B + a0)), (1, .int v1), (2, .int (0 : Int32))]) [1, 2, 0] rfl ?_
  exact w_X6_laySets_2 N hG hr hk N a0 v1 (0 : Int32) ha0 (σ)
-- TonguesDealtModel.goesAlways(II)Z
abbrev rm_X6_goesAlways : Room := { frames := 2, cells := 0, slots := 0, locals := 46 }
theorem ci_X6_goesAlways : CIx yX6_goesAlways cX6_goesAlways 4 (some .boolean) 2 := ⟨wd_1119, wd_77, by decide +kernel⟩
def f_X6_goesAlways_2 (N : Nat)  : Nat → Nat → Int32 → Int32 → Int32 → Mm → Option (Int32 × Mm)
  | 0 => fun _ _ _ _ _ => none
  | n + 1 => fun a0 v1 v2 v3 σ => bI (f_X6_dealMany N a0 (σ)) (fun r2 t1 => if r2 ≤ v3 then (some ((1 : Int32), t1)) else (bV (f_X6_laySets N a0 v3 t1) (fun t3 => bI (f_X6_everybody N a0 t3) (fun r5 t4 => bI (f_X6_reaches N a0 v1 r5 t4) (fun r7 t6 => bI (f_X6_has N r7 v2 t6) (fun r9 t8 => if r9 = 0 then (some ((0 : Int32), t8)) else (f_X6_goesAlways_2 N n a0 v1 v2 (v3 + (1 : Int32)) t8)))))))
set_option maxRecDepth 20000 in
theorem w_X6_goesAlways_2 {p : Program} {l : Launch} {e : Env} {s : State} {m : MethodId} {args : Array Value} {below : List Frame} {meth : Method} {c : Code} {E : XE} (N : Nat) (hG : GG E NT 4 RX6 cX6_goesAlways p s m args c) (hr : meth.sig.returnType = (some .boolean)) (hk : meth.locks = false)  : ∀ (n : Nat) (a0 : Nat) (v1 : Int32) (v2 : Int32) (v3 : Int32) (ha0 : okO 6 a0 = true) (σ : Mm), JR E NT 4 p l e rm_X6_goesAlways s m args below meth c 0 0 (fun r => MQ below (xQi E (NT + 0) r) args s 0 0 (xA E)) 2 [(0, .ref (E.B + a0)), (1, .int v1), (2, .int v2), (3, .int v3)] [] σ (f_X6_goesAlways_2 N n a0 v1 v2 v3 σ) := by
  intro n
  induction n with
  | zero => intro a0 v1 v2 v3 ha0 σ r hX; cases hX
  | succ n ih =>
    intro a0 v1 v2 v3 ha0 σ
    show JR E NT 4 p l e rm_X6_goesAlways s m args below meth c 0 0 (fun r => MQ below (xQi E (NT + 0) r) args s 0 0 (xA E)) 2 [(0, .ref (E.B + a0)), (1, .int v1), (2, .int v2), (3, .int v3)] [] σ (bI (f_X6_dealMany N a0 (σ)) (fun r2 t1 => if r2 ≤ v3 then (some ((1 : Int32), t1)) else (bV (f_X6_laySets N a0 v3 t1) (fun t3 => bI (f_X6_everybody N a0 t3) (fun r5 t4 => bI (f_X6_reaches N a0 v1 r5 t4) (fun r7 t6 => bI (f_X6_has N r7 v2 t6) (fun r9 t8 => if r9 = 0 then (some ((0 : Int32), t8)) else (f_X6_goesAlways_2 N n a0 v1 v2 (v3 + (1 : Int32)) t8))))))))
    refine jr_iload_n hG 3 dX6_goesAlways_2 rfl rfl ?_
    refine jr_aload_n hG 0 dX6_goesAlways_3 rfl rfl ?_
    refine jr_callVi (As := []) hG (c_X6_dealMany l E N a0 (σ)) ci_X6_dealMany wd_1096 ⟨wd_1098, wd_50⟩ cl_6 (okO_s ha0) (okO_l ha0) ⟨rfl, rfl, Nat.le_of_ble_eq_true rfl, Nat.le_of_ble_eq_true rfl⟩ rfl rfl (Nat.le_of_ble_eq_true rfl) dX6_goesAlways_4 ⟨Nat.le_refl _, Nat.le_refl _⟩ (fun r2 t1 => ?_)
    refine jr_icmp_ge hG 39 dX6_goesAlways_7 (by decide) (fun _ => ?_) (fun _ => ?_)
    · refine jr_iconst (v := (1 : Int32)) hG dX6_goesAlways_39 (by decide) ?_
      exact jr_zret hG hr hk (by decide) dX6_goesAlways_40
    · refine jr_aload_n hG 0 dX6_goesAlways_10 rfl rfl ?_
      refine jr_iload_n hG 3 dX6_goesAlways_11 rfl rfl ?_
      refine jr_callVv (As := [.int v3]) hG (c_X6_laySets l E N a0 v3 t1) ci_X6_laySets wd_1120 ⟨wd_1122, wd_56⟩ cl_6 (okO_s ha0) (okO_l ha0) ⟨rfl, rfl, Nat.le_of_ble_eq_true rfl, Nat.le_of_ble_eq_true rfl⟩ rfl rfl (Nat.le_of_ble_eq_true rfl) dX6_goesAlways_12 ⟨Nat.le_refl _, Nat.le_refl _⟩ (fun t3 => ?_)
      refine jr_aload_n hG 0 dX6_goesAlways_15 rfl rfl ?_
      refine jr_iload_n hG 1 dX6_goesAlways_16 rfl rfl ?_
      refine jr_aload_n hG 0 dX6_goesAlways_17 rfl rfl ?_
      refine jr_callVi (As := []) hG (c_X6_everybody l E N a0 t3) ci_X6_everybody wd_1064 ⟨wd_1066, wd_46⟩ cl_6 (okO_s ha0) (okO_l ha0) ⟨rfl, rfl, Nat.le_of_ble_eq_true rfl, Nat.le_of_ble_eq_true rfl⟩ rfl rfl (Nat.le_of_ble_eq_true rfl) dX6_goesAlways_18 ⟨Nat.le_refl _, Nat.le_refl _⟩ (fun r5 t4 => ?_)
      refine jr_callVi (As := [.int v1, .int r5]) hG (c_X6_reaches l E N a0 v1 r5 t4) ci_X6_reaches wd_1068 ⟨wd_1070, wd_47⟩ cl_6 (okO_s ha0) (okO_l ha0) ⟨rfl, rfl, Nat.le_of_ble_eq_true rfl, Nat.le_of_ble_eq_true rfl⟩ rfl rfl (Nat.le_of_ble_eq_true rfl) dX6_goesAlways_21 ⟨Nat.le_refl _, Nat.le_refl _⟩ (fun r7 t6 => ?_)
      refine jr_iload_n hG 2 dX6_goesAlways_24 rfl rfl ?_
      refine jr_callSi (As := [.int r7, .int v2]) hG (c_X6_has l E N r7 v2 t6) ci_X6_has wd_932 wd_933 ⟨rfl, rfl, Nat.le_of_ble_eq_true rfl, Nat.le_of_ble_eq_true rfl⟩ rfl rfl (Nat.le_of_ble_eq_true rfl) dX6_goesAlways_25 ⟨Nat.le_refl _, Nat.le_refl _⟩ (fun r9 t8 => ?_)
      refine jr_if_ne hG 33 dX6_goesAlways_28 (by decide) (fun _ => ?_) (fun _ => ?_)
      · refine jr_iinc (v := v3 + (1 : Int32)) (lv' := [(3, .int (v3 + (1 : Int32))), (0, .ref (E.B + a0)), (1, .int v1), (2, .int v2)]) hG 3 dX6_goesAlways_33 rfl rfl (by decide) rfl ?_
        refine jr_goto hG 2 dX6_goesAlways_36 (by decide) ?_
        refine jr_sub (lv' := [(0, .ref (E.B + a0)), (1, .int v1), (2, .int v2), (3, .int (v3 + (1 : Int32)))]) [1, 2, 3, 0] rfl ?_
        exact ih a0 v1 v2 (v3 + (1 : Int32)) ha0 t8
      · refine jr_iconst (v := (0 : Int32)) hG dX6_goesAlways_31 (by decide) ?_
        exact jr_zret hG hr hk (by decide) dX6_goesAlways_32
def f_X6_goesAlways (N : Nat) (a0 : Nat) (v1 : Int32) (v2 : Int32) (σ : Mm) : Option (Int32 × Mm) := if okO 6 a0 then (f_X6_goesAlways_2 N N a0 v1 v2 (0 : Int32) (σ)) else none
set_option maxRecDepth 20000 in
theorem c_X6_goesAlways (l : Launch) (E : XE) (N : Nat) (a0 : Nat) (v1 : Int32) (v2 : Int32) (σ : Mm) : ∀ r0, f_X6_goesAlways N a0 v1 v2 σ = some r0 → Met l yX6_goesAlways [Cond.code yX6_goesAlways cX6_goesAlways 4 (some .boolean)] rm_X6_goesAlways (xPc E (NT + 0) σ [.ref (E.B + a0), .int v1, .int v2]) (xQi E (NT + 0) r0) 0 0 (xA E) := by
  refine met_of (N0 := NT) (by decide +kernel) (Nat.le_of_ble_eq_true rfl) ?_
  intro p e s m args below meth c hG hr hk _
  show JR E NT 4 p l e rm_X6_goesAlways s m args below meth c 0 0 (fun r => MQ below (xQi E (NT + 0) r) args s 0 0 (xA E)) 0 [(0, .ref (E.B + a0)), (1, .int v1), (2, .int v2)] [] σ (if okO 6 a0 then (f_X6_goesAlways_2 N N a0 v1 v2 (0 : Int32) (σ)) else none)
  refine jr_guard (fun ha0 => ?_)
  refine jr_iconst (v := (0 : Int32)) hG dX6_goesAlways_0 (by decide) ?_
  refine jr_istore_n (lv' := [(3, .int (0 : Int32)), (0, .ref (E.B + a0)), (1, .int v1), (2, .int v2)]) hG dX6_goesAlways_1 rfl (by decide) rfl ?_
  refine jr_sub (lv' := [(0, .ref (E.B + a0)), (1, .int v1), (2, .int v2), (3, .int (0 : Int32))]) [1, 2, 3, 0] rfl ?_
  exact w_X6_goesAlways_2 N hG hr hk N a0 v1 v2 (0 : Int32) ha0 (σ)
-- TonguesDealtModel.adds(I)V
abbrev rm_X6_adds : Room := { frames := 0, cells := 0, slots := 0, locals := 0 }
theorem ci_X6_adds : CIx yX6_adds cX6_adds 2 none 1 := ⟨wd_1135, wd_77, by decide +kernel⟩
def f_X6_adds (N : Nat) (a0 : Nat) (v1 : Int32) (σ : Mm) : Option (Mm) := if okO 6 a0 then (if v1 = (-9 : Int32) then (some (σ)) else (bR (gr σ a0 30) (okA 0) (fun o1 => if inb (v1 / (6 : Int32)) (arL o1) then (if inb (v1 / (6 : Int32)) (arL o1) then (lt (si σ o1 (ix (v1 / (6 : Int32))) ((gi σ o1 (ix (v1 / (6 : Int32)))) ||| ((1 : Int32) <<< ((v1 - v1 / (6 : Int32) * (6 : Int32)) &&& 31)))) (fun t2 => bR (gr t2 a0 30) (okA 0) (fun o3 => if inb (v1 - v1 / (6 : Int32) * (6 : Int32)) (arL o3) then (if inb (v1 - v1 / (6 : Int32) * (6 : Int32)) (arL o3) then (lt (si t2 o3 (ix (v1 - v1 / (6 : Int32) * (6 : Int32))) ((gi t2 o3 (ix (v1 - v1 / (6 : Int32) * (6 : Int32)))) ||| ((1 : Int32) <<< ((v1 / (6 : Int32)) &&& 31)))) (fun t4 => some t4)) else none) else none))) else none) else none))) else none
set_option maxRecDepth 20000 in
theorem c_X6_adds (l : Launch) (E : XE) (N : Nat) (a0 : Nat) (v1 : Int32) (σ : Mm) : ∀ r0, f_X6_adds N a0 v1 σ = some r0 → Met l yX6_adds [Cond.code yX6_adds cX6_adds 2 none] rm_X6_adds (xPc E (NT + 0) σ [.ref (E.B + a0), .int v1]) (xQv E (NT + 0) r0) 0 0 (xA E) := by
  refine met_of (N0 := NT) (by decide +kernel) (Nat.le_of_ble_eq_true rfl) ?_
  intro p e s m args below meth c hG hr hk _
  show JR E NT 2 p l e rm_X6_adds s m args below meth c 0 0 (fun r => MQ below (xQv E (NT + 0) r) args s 0 0 (xA E)) 0 [(0, .ref (E.B + a0)), (1, .int v1)] [] σ (if okO 6 a0 then (if v1 = (-9 : Int32) then (some (σ)) else (bR (gr σ a0 30) (okA 0) (fun o1 => if inb (v1 / (6 : Int32)) (arL o1) then (if inb (v1 / (6 : Int32)) (arL o1) then (lt (si σ o1 (ix (v1 / (6 : Int32))) ((gi σ o1 (ix (v1 / (6 : Int32)))) ||| ((1 : Int32) <<< ((v1 - v1 / (6 : Int32) * (6 : Int32)) &&& 31)))) (fun t2 => bR (gr t2 a0 30) (okA 0) (fun o3 => if inb (v1 - v1 / (6 : Int32) * (6 : Int32)) (arL o3) then (if inb (v1 - v1 / (6 : Int32) * (6 : Int32)) (arL o3) then (lt (si t2 o3 (ix (v1 - v1 / (6 : Int32) * (6 : Int32))) ((gi t2 o3 (ix (v1 - v1 / (6 : Int32) * (6 : Int32)))) ||| ((1 : Int32) <<< ((v1 / (6 : Int32)) &&& 31)))) (fun t4 => some t4)) else none) else none))) else none) else none))) else none)
  refine jr_guard (fun ha0 => ?_)
  refine jr_iload_n hG 1 dX6_adds_0 rfl rfl ?_
  refine jr_bipush (v := (-9 : Int32)) hG dX6_adds_1 (by decide) ?_
  refine jr_icmp_eq hG 42 dX6_adds_3 (by decide) (fun _ => ?_) (fun _ => ?_)
  · exact jr_vret hG hr hk dX6_adds_42
  · refine jr_aload_n hG 0 dX6_adds_6 rfl rfl ?_
    refine jr_getR hG fi_RX6_79 rfl (okO_s ha0) (okO_l ha0) dX6_adds_7 (fun o1 ho1 => ?_)
    refine jr_iload_n hG 1 dX6_adds_10 rfl rfl ?_
    refine jr_bipush (v := (6 : Int32)) hG dX6_adds_11 (by decide) ?_
    refine jr_idivc hG dX6_adds_13 (by decide) ?_
    refine jr_dup2 hG dX6_adds_14 rfl rfl ?_
    refine jr_iald hG (okA_s (by decide) ho1) (okA_l ho1) dX6_adds_15 ?_
    refine jr_iconst (v := (1 : Int32)) hG dX6_adds_16 (by decide) ?_
    refine jr_iload_n hG 1 dX6_adds_17 rfl rfl ?_
    refine jr_bipush (v := (6 : Int32)) hG dX6_adds_18 (by decide) ?_
    refine jr_iremc hG dX6_adds_20 (by decide) ?_
    refine jr_ishl hG dX6_adds_21 ?_
    refine jr_ior hG dX6_adds_22 ?_
    refine jr_iast hG (okA_s (by decide) ho1) (okA_l ho1) dX6_adds_23 ?_
    refine jr_lets (fun t2 _ => ?_)
    refine jr_aload_n hG 0 dX6_adds_24 rfl rfl ?_
    refine jr_getR hG fi_RX6_79 rfl (okO_s ha0) (okO_l ha0) dX6_adds_25 (fun o3 ho3 => ?_)
    refine jr_iload_n hG 1 dX6_adds_28 rfl rfl ?_
    refine jr_bipush (v := (6 : Int32)) hG dX6_adds_29 (by decide) ?_
    refine jr_iremc hG dX6_adds_31 (by decide) ?_
    refine jr_dup2 hG dX6_adds_32 rfl rfl ?_
    refine jr_iald hG (okA_s (by decide) ho3) (okA_l ho3) dX6_adds_33 ?_
    refine jr_iconst (v := (1 : Int32)) hG dX6_adds_34 (by decide) ?_
    refine jr_iload_n hG 1 dX6_adds_35 rfl rfl ?_
    refine jr_bipush (v := (6 : Int32)) hG dX6_adds_36 (by decide) ?_
    refine jr_idivc hG dX6_adds_38 (by decide) ?_
    refine jr_ishl hG dX6_adds_39 ?_
    refine jr_ior hG dX6_adds_40 ?_
    refine jr_iast hG (okA_s (by decide) ho3) (okA_l ho3) dX6_adds_41 ?_
    refine jr_lets (fun t4 _ => ?_)
    exact jr_vret hG hr hk dX6_adds_42
-- TonguesDealtModel.noSigns()V
abbrev rm_X6_noSigns : Room := { frames := 0, cells := 0, slots := 0, locals := 0 }
theorem ci_X6_noSigns : CIx yX6_noSigns cX6_noSigns 2 none 0 := ⟨wd_1115, wd_77, by decide +kernel⟩
def f_X6_noSigns_2 (N : Nat)  : Nat → Nat → Int32 → Mm → Option (Mm)
  | 0 => fun _ _ _ => none
  | n + 1 => fun a0 v1 σ => if (6 : Int32) ≤ v1 then (some (σ)) else (bR (gr σ a0 30) (okA 0) (fun o1 => if inb v1 (arL o1) then (lt (si σ o1 (ix v1) (0 : Int32)) (fun t2 => f_X6_noSigns_2 N n a0 (v1 + (1 : Int32)) t2)) else none))
set_option maxRecDepth 20000 in
theorem w_X6_noSigns_2 {p : Program} {l : Launch} {e : Env} {s : State} {m : MethodId} {args : Array Value} {below : List Frame} {meth : Method} {c : Code} {E : XE} (N : Nat) (hG : GG E NT 2 RX6 cX6_noSigns p s m args c) (hr : meth.sig.returnType = none) (hk : meth.locks = false)  : ∀ (n : Nat) (a0 : Nat) (v1 : Int32) (ha0 : okO 6 a0 = true) (σ : Mm), JR E NT 2 p l e rm_X6_noSigns s m args below meth c 0 0 (fun r => MQ below (xQv E (NT + 0) r) args s 0 0 (xA E)) 2 [(0, .ref (E.B + a0)), (1, .int v1)] [] σ (f_X6_noSigns_2 N n a0 v1 σ) := by
  intro n
  induction n with
  | zero => intro a0 v1 ha0 σ r hX; cases hX
  | succ n ih =>
    intro a0 v1 ha0 σ
    show JR E NT 2 p l e rm_X6_noSigns s m args below meth c 0 0 (fun r => MQ below (xQv E (NT + 0) r) args s 0 0 (xA E)) 2 [(0, .ref (E.B + a0)), (1, .int v1)] [] σ (if (6 : Int32) ≤ v1 then (some (σ)) else (bR (gr σ a0 30) (okA 0) (fun o1 => if inb v1 (arL o1) then (lt (si σ o1 (ix v1) (0 : Int32)) (fun t2 => f_X6_noSigns_2 N n a0 (v1 + (1 : Int32)) t2)) else none)))
    refine jr_iload_n hG 1 dX6_noSigns_2 rfl rfl ?_
    refine jr_bipush (v := (6 : Int32)) hG dX6_noSigns_3 (by decide) ?_
    refine jr_icmp_ge hG 21 dX6_noSigns_5 (by decide) (fun _ => ?_) (fun _ => ?_)
    · exact jr_vret hG hr hk dX6_noSigns_21
    · refine jr_aload_n hG 0 dX6_noSigns_8 rfl rfl ?_
      refine jr_getR hG fi_RX6_79 rfl (okO_s ha0) (okO_l ha0) dX6_noSigns_9 (fun o1 ho1 => ?_)
      refine jr_iload_n hG 1 dX6_noSigns_12 rfl rfl ?_
      refine jr_iconst (v := (0 : Int32)) hG dX6_noSigns_13 (by decide) ?_
      refine jr_iast hG (okA_s (by decide) ho1) (okA_l ho1) dX6_noSigns_14 ?_
      refine jr_lets (fun t2 _ => ?_)
      refine jr_iinc (v := v1 + (1 : Int32)) (lv' := [(1, .int (v1 + (1 : Int32))), (0, .ref (E.B + a0))]) hG 1 dX6_noSigns_15 rfl rfl (by decide) rfl ?_
      refine jr_goto hG 2 dX6_noSigns_18 (by decide) ?_
      refine jr_sub (lv' := [(0, .ref (E.B + a0)), (1, .int (v1 + (1 : Int32)))]) [1, 0] rfl ?_
      exact ih a0 (v1 + (1 : Int32)) ha0 t2
def f_X6_noSigns (N : Nat) (a0 : Nat) (σ : Mm) : Option (Mm) := if okO 6 a0 then (f_X6_noSigns_2 N N a0 (0 : Int32) (σ)) else none
set_option maxRecDepth 20000 in
theorem c_X6_noSigns (l : Launch) (E : XE) (N : Nat) (a0 : Nat) (σ : Mm) : ∀ r0, f_X6_noSigns N a0 σ = some r0 → Met l yX6_noSigns [Cond.code yX6_noSigns cX6_noSigns 2 none] rm_X6_noSigns (xPc E (NT + 0) σ [.ref (E.B + a0)]) (xQv E (NT + 0) r0) 0 0 (xA E) := by
  refine met_of (N0 := NT) (by decide +kernel) (Nat.le_of_ble_eq_true rfl) ?_
  intro p e s m args below meth c hG hr hk _
  show JR E NT 2 p l e rm_X6_noSigns s m args below meth c 0 0 (fun r => MQ below (xQv E (NT + 0) r) args s 0 0 (xA E)) 0 [(0, .ref (E.B + a0))] [] σ (if okO 6 a0 then (f_X6_noSigns_2 N N a0 (0 : Int32) (σ)) else none)
  refine jr_guard (fun ha0 => ?_)
  refine jr_iconst (v := (0 : Int32)) hG dX6_noSigns_0 (by decide) ?_
  refine jr_istore_n (lv' := [(1, .int (0 : Int32)), (0, .ref (E.B + a0))]) hG dX6_noSigns_1 rfl (by decide) rfl ?_
  refine jr_sub (lv' := [(0, .ref (E.B + a0)), (1, .int (0 : Int32))]) [1, 0] rfl ?_
  exact w_X6_noSigns_2 N hG hr hk N a0 (0 : Int32) ha0 (σ)
-- TonguesDealtModel.isMore(III)Z
abbrev rm_X6_isMore : Room := { frames := 0, cells := 0, slots := 0, locals := 0 }
theorem ci_X6_isMore : CIx yX6_isMore cX6_isMore 6 (some .boolean) 3 := ⟨wd_1139, wd_77, by decide +kernel⟩
def f_X6_isMore_52 (N : Nat)   (σ : Mm) : Option (Int32 × Mm) := some ((1 : Int32), σ)
set_option maxRecDepth 20000 in
theorem w_X6_isMore_52 {p : Program} {l : Launch} {e : Env} {s : State} {m : MethodId} {args : Array Value} {below : List Frame} {meth : Method} {c : Code} {E : XE} (N : Nat) (hG : GG E NT 6 RX6 cX6_isMore p s m args c) (hr : meth.sig.returnType = (some .boolean)) (hk : meth.locks = false)    (σ : Mm) : JR E NT 6 p l e rm_X6_isMore s m args below meth c 0 0 (fun r => MQ below (xQi E (NT + 0) r) args s 0 0 (xA E)) 52 [] [] σ (f_X6_isMore_52 N σ) := by
  show JR E NT 6 p l e rm_X6_isMore s m args below meth c 0 0 (fun r => MQ below (xQi E (NT + 0) r) args s 0 0 (xA E)) 52 [] [] σ (some ((1 : Int32), σ))
  refine jr_iconst (v := (1 : Int32)) hG dX6_isMore_52 (by decide) ?_
  refine jr_goto hG 57 dX6_isMore_53 (by decide) ?_
  exact jr_zret hG hr hk (by decide) dX6_isMore_57
def f_X6_isMore_40 (N : Nat)  (v2 : Int32) (v3 : Int32) (v4 : Int32) (v5 : Int32) (σ : Mm) : Option (Int32 × Mm) := if v4 = v3 then (if v5 = v2 then (some ((0 : Int32), σ)) else (f_X6_isMore_52 N (σ))) else (f_X6_isMore_52 N (σ))
set_option maxRecDepth 20000 in
theorem w_X6_isMore_40 {p : Program} {l : Launch} {e : Env} {s : State} {m : MethodId} {args : Array Value} {below : List Frame} {meth : Method} {c : Code} {E : XE} (N : Nat) (hG : GG E NT 6 RX6 cX6_isMore p s m args c) (hr : meth.sig.returnType = (some .boolean)) (hk : meth.locks = false)  (v2 : Int32) (v3 : Int32) (v4 : Int32) (v5 : Int32)  (σ : Mm) : JR E NT 6 p l e rm_X6_isMore s m args below meth c 0 0 (fun r => MQ below (xQi E (NT + 0) r) args s 0 0 (xA E)) 40 [(2, .int v2), (3, .int v3), (4, .int v4), (5, .int v5)] [] σ (f_X6_isMore_40 N v2 v3 v4 v5 σ) := by
  show JR E NT 6 p l e rm_X6_isMore s m args below meth c 0 0 (fun r => MQ below (xQi E (NT + 0) r) args s 0 0 (xA E)) 40 [(2, .int v2), (3, .int v3), (4, .int v4), (5, .int v5)] [] σ (if v4 = v3 then (if v5 = v2 then (some ((0 : Int32), σ)) else (f_X6_isMore_52 N (σ))) else (f_X6_isMore_52 N (σ)))
  refine jr_iload hG 2 dX6_isMore_40 rfl ?_
  refine jr_iload_n hG 1 dX6_isMore_42 rfl rfl ?_
  refine jr_icmp_ne hG 52 dX6_isMore_43 (by decide) (fun _ => ?_) (fun _ => ?_)
  · refine jr_sub (lv' := []) [] rfl ?_
    exact w_X6_isMore_52 N hG hr hk (σ)
  · refine jr_iload hG 3 dX6_isMore_46 rfl ?_
    refine jr_iload_n hG 0 dX6_isMore_48 rfl rfl ?_
    refine jr_icmp_eq hG 56 dX6_isMore_49 (by decide) (fun _ => ?_) (fun _ => ?_)
    · refine jr_iconst (v := (0 : Int32)) hG dX6_isMore_56 (by decide) ?_
      exact jr_zret hG hr hk (by decide) dX6_isMore_57
    · refine jr_sub (lv' := []) [] rfl ?_
      exact w_X6_isMore_52 N hG hr hk (σ)
def f_X6_isMore (N : Nat) (a0 : Nat) (v1 : Int32) (v2 : Int32) (v3 : Int32) (σ : Mm) : Option (Int32 × Mm) := if okO 6 a0 then (lt (v1 / (6 : Int32)) (fun x1 => lt (v1 - v1 / (6 : Int32) * (6 : Int32)) (fun x2 => if x2 ≤ x1 then (some ((0 : Int32), σ)) else (if (gi σ a0 10) ≤ x2 then (some ((0 : Int32), σ)) else (if x1 = v2 then (if x2 = v3 then (some ((0 : Int32), σ)) else (f_X6_isMore_40 N v2 v3 x1 x2 (σ))) else (f_X6_isMore_40 N v2 v3 x1 x2 (σ))))))) else none
set_option maxRecDepth 20000 in
theorem c_X6_isMore (l : Launch) (E : XE) (N : Nat) (a0 : Nat) (v1 : Int32) (v2 : Int32) (v3 : Int32) (σ : Mm) : ∀ r0, f_X6_isMore N a0 v1 v2 v3 σ = some r0 → Met l yX6_isMore [Cond.code yX6_isMore cX6_isMore 6 (some .boolean)] rm_X6_isMore (xPc E (NT + 0) σ [.ref (E.B + a0), .int v1, .int v2, .int v3]) (xQi E (NT + 0) r0) 0 0 (xA E) := by
  refine met_of (N0 := NT) (by decide +kernel) (Nat.le_of_ble_eq_true rfl) ?_
  intro p e s m args below meth c hG hr hk _
  show JR E NT 6 p l e rm_X6_isMore s m args below meth c 0 0 (fun r => MQ below (xQi E (NT + 0) r) args s 0 0 (xA E)) 0 [(0, .ref (E.B + a0)), (1, .int v1), (2, .int v2), (3, .int v3)] [] σ (if okO 6 a0 then (lt (v1 / (6 : Int32)) (fun x1 => lt (v1 - v1 / (6 : Int32) * (6 : Int32)) (fun x2 => if x2 ≤ x1 then (some ((0 : Int32), σ)) else (if (gi σ a0 10) ≤ x2 then (some ((0 : Int32), σ)) else (if x1 = v2 then (if x2 = v3 then (some ((0 : Int32), σ)) else (f_X6_isMore_40 N v2 v3 x1 x2 (σ))) else (f_X6_isMore_40 N v2 v3 x1 x2 (σ))))))) else none)
  refine jr_guard (fun ha0 => ?_)
  refine jr_iload_n hG 1 dX6_isMore_0 rfl rfl ?_
  refine jr_bipush (v := (6 : Int32)) hG dX6_isMore_1 (by decide) ?_
  refine jr_idivc hG dX6_isMore_3 (by decide) ?_
  refine jr_leti (fun x1 _ => ?_)
  refine jr_istore (lv' := [(4, .int x1), (0, .ref (E.B + a0)), (1, .int v1), (2, .int v2), (3, .int v3)]) hG dX6_isMore_4 (by decide) rfl ?_
  refine jr_iload_n hG 2 dX6_isMore_6 rfl rfl ?_
  refine jr_bipush (v := (6 : Int32)) hG dX6_isMore_7 (by decide) ?_
  refine jr_iremc hG dX6_isMore_9 (by decide) ?_
  refine jr_leti (fun x2 _ => ?_)
  refine jr_istore (lv' := [(5, .int x2), (4, .int x1), (0, .ref (E.B + a0)), (1, .int v1), (2, .int v2), (3, .int v3)]) hG dX6_isMore_10 (by decide) rfl ?_
  refine jr_iload hG 1 dX6_isMore_12 rfl ?_
  refine jr_iload hG 0 dX6_isMore_14 rfl ?_
  refine jr_icmp_ge hG 56 dX6_isMore_16 (by decide) (fun _ => ?_) (fun _ => ?_)
  · refine jr_iconst (v := (0 : Int32)) hG dX6_isMore_56 (by decide) ?_
    exact jr_zret hG hr hk (by decide) dX6_isMore_57
  · refine jr_iload hG 0 dX6_isMore_19 rfl ?_
    refine jr_aload_n hG 2 dX6_isMore_21 rfl rfl ?_
    refine jr_getI hG fi_RX6_147 rfl (okO_s ha0) (okO_l ha0) dX6_isMore_22 ?_
    refine jr_icmp_ge hG 56 dX6_isMore_25 (by decide) (fun _ => ?_) (fun _ => ?_)
    · refine jr_iconst (v := (0 : Int32)) hG dX6_isMore_56 (by decide) ?_
      exact jr_zret hG hr hk (by decide) dX6_isMore_57
    · refine jr_iload hG 1 dX6_isMore_28 rfl ?_
      refine jr_iload_n hG 4 dX6_isMore_30 rfl rfl ?_
      refine jr_icmp_ne hG 40 dX6_isMore_31 (by decide) (fun _ => ?_) (fun _ => ?_)
      · refine jr_sub (lv' := [(2, .int v2), (3, .int v3), (4, .int x1), (5, .int x2)]) [4, 5, 1, 0] rfl ?_
        exact w_X6_isMore_40 N hG hr hk v2 v3 x1 x2 (σ)
      · refine jr_iload hG 0 dX6_isMore_34 rfl ?_
        refine jr_iload_n hG 5 dX6_isMore_36 rfl rfl ?_
        refine jr_icmp_eq hG 56 dX6_isMore_37 (by decide) (fun _ => ?_) (fun _ => ?_)
        · refine jr_iconst (v := (0 : Int32)) hG dX6_isMore_56 (by decide) ?_
          exact jr_zret hG hr hk (by decide) dX6_isMore_57
        · refine jr_sub (lv' := [(2, .int v2), (3, .int v3), (4, .int x1), (5, .int x2)]) [4, 5, 1, 0] rfl ?_
          exact w_X6_isMore_40 N hG hr hk v2 v3 x1 x2 (σ)
-- TonguesDealtModel.goesWith(IIII)Z
abbrev rm_X6_goesWith : Room := { frames := 3, cells := 0, slots := 0, locals := 69 }
theorem ci_X6_goesWith : CIx yX6_goesWith cX6_goesWith 5 (some .boolean) 4 := ⟨wd_1131, wd_77, by decide +kernel⟩
def f_X6_goesWith (N : Nat) (a0 : Nat) (v1 : Int32) (v2 : Int32) (v3 : Int32) (v4 : Int32) (σ : Mm) : Option (Int32 × Mm) := if okO 6 a0 then (bV (f_X6_noSigns N a0 (σ)) (fun t1 => bV (f_X6_adds N a0 v1 t1) (fun t2 => bV (f_X6_adds N a0 v2 t2) (fun t3 => bI (f_X6_goesAlways N a0 v3 v4 t3) (fun r5 t4 => if bz r5 then some (r5, t4) else none))))) else none
set_option maxRecDepth 20000 in
theorem c_X6_goesWith (l : Launch) (E : XE) (N : Nat) (a0 : Nat) (v1 : Int32) (v2 : Int32) (v3 : Int32) (v4 : Int32) (σ : Mm) : ∀ r0, f_X6_goesWith N a0 v1 v2 v3 v4 σ = some r0 → Met l yX6_goesWith [Cond.code yX6_goesWith cX6_goesWith 5 (some .boolean)] rm_X6_goesWith (xPc E (NT + 0) σ [.ref (E.B + a0), .int v1, .int v2, .int v3, .int v4]) (xQi E (NT + 0) r0) 0 0 (xA E) := by
  refine met_of (N0 := NT) (by decide +kernel) (Nat.le_of_ble_eq_true rfl) ?_
  intro p e s m args below meth c hG hr hk _
  show JR E NT 5 p l e rm_X6_goesWith s m args below meth c 0 0 (fun r => MQ below (xQi E (NT + 0) r) args s 0 0 (xA E)) 0 [(0, .ref (E.B + a0)), (1, .int v1), (2, .int v2), (3, .int v3), (4, .int v4)] [] σ (if okO 6 a0 then (bV (f_X6_noSigns N a0 (σ)) (fun t1 => bV (f_X6_adds N a0 v1 t1) (fun t2 => bV (f_X6_adds N a0 v2 t2) (fun t3 => bI (f_X6_goesAlways N a0 v3 v4 t3) (fun r5 t4 => if bz r5 then some (r5, t4) else none))))) else none)
  refine jr_guard (fun ha0 => ?_)
  refine jr_aload_n hG 0 dX6_goesWith_0 rfl rfl ?_
  refine jr_callVv (As := []) hG (c_X6_noSigns l E N a0 (σ)) ci_X6_noSigns wd_1112 ⟨wd_1114, wd_54⟩ cl_6 (okO_s ha0) (okO_l ha0) ⟨rfl, rfl, Nat.le_of_ble_eq_true rfl, Nat.le_of_ble_eq_true rfl⟩ rfl rfl (Nat.le_of_ble_eq_true rfl) dX6_goesWith_1 ⟨Nat.le_refl _, Nat.le_refl _⟩ (fun t1 => ?_)
  refine jr_aload_n hG 0 dX6_goesWith_4 rfl rfl ?_
  refine jr_iload_n hG 1 dX6_goesWith_5 rfl rfl ?_
  refine jr_callVv (As := [.int v1]) hG (c_X6_adds l E N a0 v1 t1) ci_X6_adds wd_1132 ⟨wd_1134, wd_59⟩ cl_6 (okO_s ha0) (okO_l ha0) ⟨rfl, rfl, Nat.le_of_ble_eq_true rfl, Nat.le_of_ble_eq_true rfl⟩ rfl rfl (Nat.le_of_ble_eq_true rfl) dX6_goesWith_6 ⟨Nat.le_refl _, Nat.le_refl _⟩ (fun t2 => ?_)
  refine jr_aload_n hG 0 dX6_goesWith_9 rfl rfl ?_
  refine jr_iload_n hG 2 dX6_goesWith_10 rfl rfl ?_
  refine jr_callVv (As := [.int v2]) hG (c_X6_adds l E N a0 v2 t2) ci_X6_adds wd_1132 ⟨wd_1134, wd_59⟩ cl_6 (okO_s ha0) (okO_l ha0) ⟨rfl, rfl, Nat.le_of_ble_eq_true rfl, Nat.le_of_ble_eq_true rfl⟩ rfl rfl (Nat.le_of_ble_eq_true rfl) dX6_goesWith_11 ⟨Nat.le_refl _, Nat.le_refl _⟩ (fun t3 => ?_)
  refine jr_aload_n hG 0 dX6_goesWith_14 rfl rfl ?_
  refine jr_iload_n hG 3 dX6_goesWith_15 rfl rfl ?_
  refine jr_iload hG 4 dX6_goesWith_16 rfl ?_
  refine jr_callVi (As := [.int v3, .int v4]) hG (c_X6_goesAlways l E N a0 v3 v4 t3) ci_X6_goesAlways wd_1116 ⟨wd_1118, wd_55⟩ cl_6 (okO_s ha0) (okO_l ha0) ⟨rfl, rfl, Nat.le_of_ble_eq_true rfl, Nat.le_of_ble_eq_true rfl⟩ rfl rfl (Nat.le_of_ble_eq_true rfl) dX6_goesWith_18 ⟨Nat.le_refl _, Nat.le_refl _⟩ (fun r5 t4 => ?_)
  refine jr_guard (fun hz => ?_)
  exact jr_zret hG hr hk hz dX6_goesWith_21
-- TonguesDealtModel.leastSigns(II)I
abbrev rm_X6_leastSigns : Room := { frames := 4, cells := 0, slots := 0, locals := 93 }
theorem ci_X6_leastSigns : CIx yX6_leastSigns cX6_leastSigns 5 (some .int) 2 := ⟨wd_1127, wd_77, by decide +kernel⟩
def f_X6_leastSigns_108 (N : Nat) (K55 : Nat → Int32 → Int32 → Int32 → Mm → Option (Int32 × Mm)) (K66 : Nat → Int32 → Int32 → Int32 → Int32 → Mm → Option (Int32 × Mm)) (a0 : Nat) (v1 : Int32) (v2 : Int32) (v3 : Int32) (v4 : Int32) (σ : Mm) : Option (Int32 × Mm) := K66 a0 v1 v2 v3 (v4 + (1 : Int32)) (σ)
set_option maxRecDepth 20000 in
theorem w_X6_leastSigns_108 {p : Program} {l : Launch} {e : Env} {s : State} {m : MethodId} {args : Array Value} {below : List Frame} {meth : Method} {c : Code} {E : XE} (N : Nat) (hG : GG E NT 5 RX6 cX6_leastSigns p s m args c) (hr : meth.sig.returnType = (some .int)) (hk : meth.locks = false) {K55 : Nat → Int32 → Int32 → Int32 → Mm → Option (Int32 × Mm)} (hK55 : ∀ (a0 : Nat) (v1 : Int32) (v2 : Int32) (v3 : Int32) (ha0 : okO 6 a0 = true) (σ : Mm), JR E NT 5 p l e rm_X6_leastSigns s m args below meth c 0 0 (fun r => MQ below (xQi E (NT + 0) r) args s 0 0 (xA E)) 55 [(0, .ref (E.B + a0)), (1, .int v1), (2, .int v2), (3, .int v3)] [] σ (K55 a0 v1 v2 v3 σ)) {K66 : Nat → Int32 → Int32 → Int32 → Int32 → Mm → Option (Int32 × Mm)} (hK66 : ∀ (a0 : Nat) (v1 : Int32) (v2 : Int32) (v3 : Int32) (v4 : Int32) (ha0 : okO 6 a0 = true) (σ : Mm), JR E NT 5 p l e rm_X6_leastSigns s m args below meth c 0 0 (fun r => MQ below (xQi E (NT + 0) r) args s 0 0 (xA E)) 66 [(0, .ref (E.B + a0)), (1, .int v1), (2, .int v2), (3, .int v3), (4, .int v4)] [] σ (K66 a0 v1 v2 v3 v4 σ)) (a0 : Nat) (v1 : Int32) (v2 : Int32) (v3 : Int32) (v4 : Int32) (ha0 : okO 6 a0 = true) (σ : Mm) : JR E NT 5 p l e rm_X6_leastSigns s m args below meth c 0 0 (fun r => MQ below (xQi E (NT + 0) r) args s 0 0 (xA E)) 108 [(0, .ref (E.B + a0)), (1, .int v1), (2, .int v2), (3, .int v3), (4, .int v4)] [] σ (f_X6_leastSigns_108 N K55 K66 a0 v1 v2 v3 v4 σ) := by
  show JR E NT 5 p l e rm_X6_leastSigns s m args below meth c 0 0 (fun r => MQ below (xQi E (NT + 0) r) args s 0 0 (xA E)) 108 [(0, .ref (E.B + a0)), (1, .int v1), (2, .int v2), (3, .int v3), (4, .int v4)] [] σ (K66 a0 v1 v2 v3 (v4 + (1 : Int32)) (σ))
  refine jr_iinc (v := v4 + (1 : Int32)) (lv' := [(4, .int (v4 + (1 : Int32))), (0, .ref (E.B + a0)), (1, .int v1), (2, .int v2), (3, .int v3)]) hG 4 dX6_leastSigns_108 rfl rfl (by decide) rfl ?_
  refine jr_goto hG 66 dX6_leastSigns_111 (by decide) ?_
  refine jr_sub (lv' := [(0, .ref (E.B + a0)), (1, .int v1), (2, .int v2), (3, .int v3), (4, .int (v4 + (1 : Int32)))]) [1, 2, 3, 4, 0] rfl ?_
  exact hK66 a0 v1 v2 v3 (v4 + (1 : Int32)) ha0 (σ)
def f_X6_leastSigns_66 (N : Nat) (K55 : Nat → Int32 → Int32 → Int32 → Mm → Option (Int32 × Mm)) : Nat → Nat → Int32 → Int32 → Int32 → Int32 → Mm → Option (Int32 × Mm)
  | 0 => fun _ _ _ _ _ _ => none
  | n + 1 => fun a0 v1 v2 v3 v4 σ => if (36 : Int32) ≤ v4 then (K55 a0 v1 v2 (v3 + (1 : Int32)) (σ)) else (bI (f_X6_isMore N a0 v3 v1 v2 (σ)) (fun r9 t8 => if r9 = 0 then (f_X6_leastSigns_108 N K55 (f_X6_leastSigns_66 N K55 n) a0 v1 v2 v3 v4 t8) else (bI (f_X6_isMore N a0 v4 v1 v2 t8) (fun r11 t10 => if r11 = 0 then (f_X6_leastSigns_108 N K55 (f_X6_leastSigns_66 N K55 n) a0 v1 v2 v3 v4 t10) else (bI (f_X6_goesWith N a0 v3 v4 v1 v2 t10) (fun r13 t12 => if r13 = 0 then (f_X6_leastSigns_108 N K55 (f_X6_leastSigns_66 N K55 n) a0 v1 v2 v3 v4 t12) else (some ((2 : Int32), t12))))))))
set_option maxRecDepth 20000 in
theorem w_X6_leastSigns_66 {p : Program} {l : Launch} {e : Env} {s : State} {m : MethodId} {args : Array Value} {below : List Frame} {meth : Method} {c : Code} {E : XE} (N : Nat) (hG : GG E NT 5 RX6 cX6_leastSigns p s m args c) (hr : meth.sig.returnType = (some .int)) (hk : meth.locks = false) {K55 : Nat → Int32 → Int32 → Int32 → Mm → Option (Int32 × Mm)} (hK55 : ∀ (a0 : Nat) (v1 : Int32) (v2 : Int32) (v3 : Int32) (ha0 : okO 6 a0 = true) (σ : Mm), JR E NT 5 p l e rm_X6_leastSigns s m args below meth c 0 0 (fun r => MQ below (xQi E (NT + 0) r) args s 0 0 (xA E)) 55 [(0, .ref (E.B + a0)), (1, .int v1), (2, .int v2), (3, .int v3)] [] σ (K55 a0 v1 v2 v3 σ)) : ∀ (n : Nat) (a0 : Nat) (v1 : Int32) (v2 : Int32) (v3 : Int32) (v4 : Int32) (ha0 : okO 6 a0 = true) (σ : Mm), JR E NT 5 p l e rm_X6_leastSigns s m args below meth c 0 0 (fun r => MQ below (xQi E (NT + 0) r) args s 0 0 (xA E)) 66 [(0, .ref (E.B + a0)), (1, .int v1), (2, .int v2), (3, .int v3), (4, .int v4)] [] σ (f_X6_leastSigns_66 N K55 n a0 v1 v2 v3 v4 σ) := by
  intro n
  induction n with
  | zero => intro a0 v1 v2 v3 v4 ha0 σ r hX; cases hX
  | succ n ih =>
    intro a0 v1 v2 v3 v4 ha0 σ
    show JR E NT 5 p l e rm_X6_leastSigns s m args below meth c 0 0 (fun r => MQ below (xQi E (NT + 0) r) args s 0 0 (xA E)) 66 [(0, .ref (E.B + a0)), (1, .int v1), (2, .int v2), (3, .int v3), (4, .int v4)] [] σ (if (36 : Int32) ≤ v4 then (K55 a0 v1 v2 (v3 + (1 : Int32)) (σ)) else (bI (f_X6_isMore N a0 v3 v1 v2 (σ)) (fun r9 t8 => if r9 = 0 then (f_X6_leastSigns_108 N K55 (f_X6_leastSigns_66 N K55 n) a0 v1 v2 v3 v4 t8) else (bI (f_X6_isMore N a0 v4 v1 v2 t8) (fun r11 t10 => if r11 = 0 then (f_X6_leastSigns_108 N K55 (f_X6_leastSigns_66 N K55 n) a0 v1 v2 v3 v4 t10) else (bI (f_X6_goesWith N a0 v3 v4 v1 v2 t10) (fun r13 t12 => if r13 = 0 then (f_X6_leastSigns_108 N K55 (f_X6_leastSigns_66 N K55 n) a0 v1 v2 v3 v4 t12) else (some ((2 : Int32), t12)))))))))
    refine jr_iload hG 4 dX6_leastSigns_66 rfl ?_
    refine jr_bipush (v := (36 : Int32)) hG dX6_leastSigns_68 (by decide) ?_
    refine jr_icmp_ge hG 114 dX6_leastSigns_70 (by decide) (fun _ => ?_) (fun _ => ?_)
    · refine jr_iinc (v := v3 + (1 : Int32)) (lv' := [(3, .int (v3 + (1 : Int32))), (0, .ref (E.B + a0)), (1, .int v1), (2, .int v2), (4, .int v4)]) hG 3 dX6_leastSigns_114 rfl rfl (by decide) rfl ?_
      refine jr_goto hG 55 dX6_leastSigns_117 (by decide) ?_
      refine jr_sub (lv' := [(0, .ref (E.B + a0)), (1, .int v1), (2, .int v2), (3, .int (v3 + (1 : Int32)))]) [1, 2, 3, 0] rfl ?_
      exact hK55 a0 v1 v2 (v3 + (1 : Int32)) ha0 (σ)
    · refine jr_aload_n hG 0 dX6_leastSigns_73 rfl rfl ?_
      refine jr_iload_n hG 3 dX6_leastSigns_74 rfl rfl ?_
      refine jr_iload_n hG 1 dX6_leastSigns_75 rfl rfl ?_
      refine jr_iload_n hG 2 dX6_leastSigns_76 rfl rfl ?_
      refine jr_callVi (As := [.int v3, .int v1, .int v2]) hG (c_X6_isMore l E N a0 v3 v1 v2 (σ)) ci_X6_isMore wd_1136 ⟨wd_1138, wd_60⟩ cl_6 (okO_s ha0) (okO_l ha0) ⟨rfl, rfl, Nat.le_of_ble_eq_true rfl, Nat.le_of_ble_eq_true rfl⟩ rfl rfl (Nat.le_of_ble_eq_true rfl) dX6_leastSigns_77 ⟨Nat.le_refl _, Nat.le_refl _⟩ (fun r9 t8 => ?_)
      refine jr_if_eq hG 108 dX6_leastSigns_80 (by decide) (fun _ => ?_) (fun _ => ?_)
      · exact w_X6_leastSigns_108 N hG hr hk hK55 ih a0 v1 v2 v3 v4 ha0 t8
      · refine jr_aload_n hG 0 dX6_leastSigns_83 rfl rfl ?_
        refine jr_iload hG 4 dX6_leastSigns_84 rfl ?_
        refine jr_iload_n hG 1 dX6_leastSigns_86 rfl rfl ?_
        refine jr_iload_n hG 2 dX6_leastSigns_87 rfl rfl ?_
        refine jr_callVi (As := [.int v4, .int v1, .int v2]) hG (c_X6_isMore l E N a0 v4 v1 v2 t8) ci_X6_isMore wd_1136 ⟨wd_1138, wd_60⟩ cl_6 (okO_s ha0) (okO_l ha0) ⟨rfl, rfl, Nat.le_of_ble_eq_true rfl, Nat.le_of_ble_eq_true rfl⟩ rfl rfl (Nat.le_of_ble_eq_true rfl) dX6_leastSigns_88 ⟨Nat.le_refl _, Nat.le_refl _⟩ (fun r11 t10 => ?_)
        refine jr_if_eq hG 108 dX6_leastSigns_91 (by decide) (fun _ => ?_) (fun _ => ?_)
        · exact w_X6_leastSigns_108 N hG hr hk hK55 ih a0 v1 v2 v3 v4 ha0 t10
        · refine jr_aload_n hG 0 dX6_leastSigns_94 rfl rfl ?_
          refine jr_iload_n hG 3 dX6_leastSigns_95 rfl rfl ?_
          refine jr_iload hG 4 dX6_leastSigns_96 rfl ?_
          refine jr_iload_n hG 1 dX6_leastSigns_98 rfl rfl ?_
          refine jr_iload_n hG 2 dX6_leastSigns_99 rfl rfl ?_
          refine jr_callVi (As := [.int v3, .int v4, .int v1, .int v2]) hG (c_X6_goesWith l E N a0 v3 v4 v1 v2 t10) ci_X6_goesWith wd_1128 ⟨wd_1130, wd_58⟩ cl_6 (okO_s ha0) (okO_l ha0) ⟨rfl, rfl, Nat.le_of_ble_eq_true rfl, Nat.le_of_ble_eq_true rfl⟩ rfl rfl (Nat.le_of_ble_eq_true rfl) dX6_leastSigns_100 ⟨Nat.le_refl _, Nat.le_refl _⟩ (fun r13 t12 => ?_)
          refine jr_if_eq hG 108 dX6_leastSigns_103 (by decide) (fun _ => ?_) (fun _ => ?_)
          · exact w_X6_leastSigns_108 N hG hr hk hK55 ih a0 v1 v2 v3 v4 ha0 t12
          · refine jr_iconst (v := (2 : Int32)) hG dX6_leastSigns_106 (by decide) ?_
            exact jr_iret hG hr hk dX6_leastSigns_107
def f_X6_leastSigns_55 (N : Nat)  : Nat → Nat → Int32 → Int32 → Int32 → Mm → Option (Int32 × Mm)
  | 0 => fun _ _ _ _ _ => none
  | n + 1 => fun a0 v1 v2 v3 σ => if (36 : Int32) ≤ v3 then (some ((-9 : Int32), σ)) else (lt (v3 + (1 : Int32)) (fun x7 => f_X6_leastSigns_66 N (f_X6_leastSigns_55 N n) N a0 v1 v2 v3 x7 (σ)))
set_option maxRecDepth 20000 in
theorem w_X6_leastSigns_55 {p : Program} {l : Launch} {e : Env} {s : State} {m : MethodId} {args : Array Value} {below : List Frame} {meth : Method} {c : Code} {E : XE} (N : Nat) (hG : GG E NT 5 RX6 cX6_leastSigns p s m args c) (hr : meth.sig.returnType = (some .int)) (hk : meth.locks = false)  : ∀ (n : Nat) (a0 : Nat) (v1 : Int32) (v2 : Int32) (v3 : Int32) (ha0 : okO 6 a0 = true) (σ : Mm), JR E NT 5 p l e rm_X6_leastSigns s m args below meth c 0 0 (fun r => MQ below (xQi E (NT + 0) r) args s 0 0 (xA E)) 55 [(0, .ref (E.B + a0)), (1, .int v1), (2, .int v2), (3, .int v3)] [] σ (f_X6_leastSigns_55 N n a0 v1 v2 v3 σ) := by
  intro n
  induction n with
  | zero => intro a0 v1 v2 v3 ha0 σ r hX; cases hX
  | succ n ih =>
    intro a0 v1 v2 v3 ha0 σ
    show JR E NT 5 p l e rm_X6_leastSigns s m args below meth c 0 0 (fun r => MQ below (xQi E (NT + 0) r) args s 0 0 (xA E)) 55 [(0, .ref (E.B + a0)), (1, .int v1), (2, .int v2), (3, .int v3)] [] σ (if (36 : Int32) ≤ v3 then (some ((-9 : Int32), σ)) else (lt (v3 + (1 : Int32)) (fun x7 => f_X6_leastSigns_66 N (f_X6_leastSigns_55 N n) N a0 v1 v2 v3 x7 (σ))))
    refine jr_iload_n hG 3 dX6_leastSigns_55 rfl rfl ?_
    refine jr_bipush (v := (36 : Int32)) hG dX6_leastSigns_56 (by decide) ?_
    refine jr_icmp_ge hG 120 dX6_leastSigns_58 (by decide) (fun _ => ?_) (fun _ => ?_)
    · refine jr_bipush (v := (-9 : Int32)) hG dX6_leastSigns_120 (by decide) ?_
      exact jr_iret hG hr hk dX6_leastSigns_122
    · refine jr_iload_n hG 3 dX6_leastSigns_61 rfl rfl ?_
      refine jr_iconst (v := (1 : Int32)) hG dX6_leastSigns_62 (by decide) ?_
      refine jr_iadd hG dX6_leastSigns_63 ?_
      refine jr_leti (fun x7 _ => ?_)
      refine jr_istore (lv' := [(4, .int x7), (0, .ref (E.B + a0)), (1, .int v1), (2, .int v2), (3, .int v3)]) hG dX6_leastSigns_64 (by decide) rfl ?_
      refine jr_sub (lv' := [(0, .ref (E.B + a0)), (1, .int v1), (2, .int v2), (3, .int v3), (4, .int x7)]) [1, 2, 3, 4, 0] rfl ?_
      exact w_X6_leastSigns_66 N hG hr hk ih N a0 v1 v2 v3 x7 ha0 (σ)
def f_X6_leastSigns_47 (N : Nat) (K17 : Nat → Int32 → Int32 → Int32 → Mm → Option (Int32 × Mm)) (a0 : Nat) (v1 : Int32) (v2 : Int32) (v3 : Int32) (σ : Mm) : Option (Int32 × Mm) := K17 a0 v1 v2 (v3 + (1 : Int32)) (σ)
set_option maxRecDepth 20000 in
theorem w_X6_leastSigns_47 {p : Program} {l : Launch} {e : Env} {s : State} {m : MethodId} {args : Array Value} {below : List Frame} {meth : Method} {c : Code} {E : XE} (N : Nat) (hG : GG E NT 5 RX6 cX6_leastSigns p s m args c) (hr : meth.sig.returnType = (some .int)) (hk : meth.locks = false) {K17 : Nat → Int32 → Int32 → Int32 → Mm → Option (Int32 × Mm)} (hK17 : ∀ (a0 : Nat) (v1 : Int32) (v2 : Int32) (v3 : Int32) (ha0 : okO 6 a0 = true) (σ : Mm), JR E NT 5 p l e rm_X6_leastSigns s m args below meth c 0 0 (fun r => MQ below (xQi E (NT + 0) r) args s 0 0 (xA E)) 17 [(0, .ref (E.B + a0)), (1, .int v1), (2, .int v2), (3, .int v3)] [] σ (K17 a0 v1 v2 v3 σ)) (a0 : Nat) (v1 : Int32) (v2 : Int32) (v3 : Int32) (ha0 : okO 6 a0 = true) (σ : Mm) : JR E NT 5 p l e rm_X6_leastSigns s m args below meth c 0 0 (fun r => MQ below (xQi E (NT + 0) r) args s 0 0 (xA E)) 47 [(0, .ref (E.B + a0)), (1, .int v1), (2, .int v2), (3, .int v3)] [] σ (f_X6_leastSigns_47 N K17 a0 v1 v2 v3 σ) := by
  show JR E NT 5 p l e rm_X6_leastSigns s m args below meth c 0 0 (fun r => MQ below (xQi E (NT + 0) r) args s 0 0 (xA E)) 47 [(0, .ref (E.B + a0)), (1, .int v1), (2, .int v2), (3, .int v3)] [] σ (K17 a0 v1 v2 (v3 + (1 : Int32)) (σ))
  refine jr_iinc (v := v3 + (1 : Int32)) (lv' := [(3, .int (v3 + (1 : Int32))), (0, .ref (E.B + a0)), (1, .int v1), (2, .int v2)]) hG 3 dX6_leastSigns_47 rfl rfl (by decide) rfl ?_
  refine jr_goto hG 17 dX6_leastSigns_50 (by decide) ?_
  refine jr_sub (lv' := [(0, .ref (E.B + a0)), (1, .int v1), (2, .int v2), (3, .int (v3 + (1 : Int32)))]) [1, 2, 3, 0] rfl ?_
  exact hK17 a0 v1 v2 (v3 + (1 : Int32)) ha0 (σ)
def f_X6_leastSigns_17 (N : Nat)  : Nat → Nat → Int32 → Int32 → Int32 → Mm → Option (Int32 × Mm)
  | 0 => fun _ _ _ _ _ => none
  | n + 1 => fun a0 v1 v2 v3 σ => if (36 : Int32) ≤ v3 then (f_X6_leastSigns_55 N N a0 v1 v2 (0 : Int32) (σ)) else (bI (f_X6_isMore N a0 v3 v1 v2 (σ)) (fun r4 t3 => if r4 = 0 then (f_X6_leastSigns_47 N (f_X6_leastSigns_17 N n) a0 v1 v2 v3 t3) else (bI (f_X6_goesWith N a0 v3 (-9 : Int32) v1 v2 t3) (fun r6 t5 => if r6 = 0 then (f_X6_leastSigns_47 N (f_X6_leastSigns_17 N n) a0 v1 v2 v3 t5) else (some ((1 : Int32), t5))))))
set_option maxRecDepth 20000 in
theorem w_X6_leastSigns_17 {p : Program} {l : Launch} {e : Env} {s : State} {m : MethodId} {args : Array Value} {below : List Frame} {meth : Method} {c : Code} {E : XE} (N : Nat) (hG : GG E NT 5 RX6 cX6_leastSigns p s m args c) (hr : meth.sig.returnType = (some .int)) (hk : meth.locks = false)  : ∀ (n : Nat) (a0 : Nat) (v1 : Int32) (v2 : Int32) (v3 : Int32) (ha0 : okO 6 a0 = true) (σ : Mm), JR E NT 5 p l e rm_X6_leastSigns s m args below meth c 0 0 (fun r => MQ below (xQi E (NT + 0) r) args s 0 0 (xA E)) 17 [(0, .ref (E.B + a0)), (1, .int v1), (2, .int v2), (3, .int v3)] [] σ (f_X6_leastSigns_17 N n a0 v1 v2 v3 σ) := by
  intro n
  induction n with
  | zero => intro a0 v1 v2 v3 ha0 σ r hX; cases hX
  | succ n ih =>
    intro a0 v1 v2 v3 ha0 σ
    show JR E NT 5 p l e rm_X6_leastSigns s m args below meth c 0 0 (fun r => MQ below (xQi E (NT + 0) r) args s 0 0 (xA E)) 17 [(0, .ref (E.B + a0)), (1, .int v1), (2, .int v2), (3, .int v3)] [] σ (if (36 : Int32) ≤ v3 then (f_X6_leastSigns_55 N N a0 v1 v2 (0 : Int32) (σ)) else (bI (f_X6_isMore N a0 v3 v1 v2 (σ)) (fun r4 t3 => if r4 = 0 then (f_X6_leastSigns_47 N (f_X6_leastSigns_17 N n) a0 v1 v2 v3 t3) else (bI (f_X6_goesWith N a0 v3 (-9 : Int32) v1 v2 t3) (fun r6 t5 => if r6 = 0 then (f_X6_leastSigns_47 N (f_X6_leastSigns_17 N n) a0 v1 v2 v3 t5) else (some ((1 : Int32), t5)))))))
    refine jr_iload_n hG 3 dX6_leastSigns_17 rfl rfl ?_
    refine jr_bipush (v := (36 : Int32)) hG dX6_leastSigns_18 (by decide) ?_
    refine jr_icmp_ge hG 53 dX6_leastSigns_20 (by decide) (fun _ => ?_) (fun _ => ?_)
    · refine jr_iconst (v := (0 : Int32)) hG dX6_leastSigns_53 (by decide) ?_
      refine jr_istore_n (lv' := [(3, .int (0 : Int32)), (0, .ref (E.B + a0)), (1, .int v1), (2, .int v2)]) hG dX6_leastSigns_54 rfl (by decide) rfl ?_
      refine jr_sub (lv' := [(0, .ref (E.B + a0)), (1, .int v1), (2, .int v2), (3, .int (0 : Int32))]) [1, 2, 3, 0] rfl ?_
      exact w_X6_leastSigns_55 N hG hr hk N a0 v1 v2 (0 : Int32) ha0 (σ)
    · refine jr_aload_n hG 0 dX6_leastSigns_23 rfl rfl ?_
      refine jr_iload_n hG 3 dX6_leastSigns_24 rfl rfl ?_
      refine jr_iload_n hG 1 dX6_leastSigns_25 rfl rfl ?_
      refine jr_iload_n hG 2 dX6_leastSigns_26 rfl rfl ?_
      refine jr_callVi (As := [.int v3, .int v1, .int v2]) hG (c_X6_isMore l E N a0 v3 v1 v2 (σ)) ci_X6_isMore wd_1136 ⟨wd_1138, wd_60⟩ cl_6 (okO_s ha0) (okO_l ha0) ⟨rfl, rfl, Nat.le_of_ble_eq_true rfl, Nat.le_of_ble_eq_true rfl⟩ rfl rfl (Nat.le_of_ble_eq_true rfl) dX6_leastSigns_27 ⟨Nat.le_refl _, Nat.le_refl _⟩ (fun r4 t3 => ?_)
      refine jr_if_eq hG 47 dX6_leastSigns_30 (by decide) (fun _ => ?_) (fun _ => ?_)
      · exact w_X6_leastSigns_47 N hG hr hk ih a0 v1 v2 v3 ha0 t3
      · refine jr_aload_n hG 0 dX6_leastSigns_33 rfl rfl ?_
        refine jr_iload_n hG 3 dX6_leastSigns_34 rfl rfl ?_
        refine jr_bipush (v := (-9 : Int32)) hG dX6_leastSigns_35 (by decide) ?_
        refine jr_iload_n hG 1 dX6_leastSigns_37 rfl rfl ?_
        refine jr_iload_n hG 2 dX6_leastSigns_38 rfl rfl ?_
        refine jr_callVi (As := [.int v3, .int (-9 : Int32), .int v1, .int v2]) hG (c_X6_goesWith l E N a0 v3 (-9 : Int32) v1 v2 t3) ci_X6_goesWith wd_1128 ⟨wd_1130, wd_58⟩ cl_6 (okO_s ha0) (okO_l ha0) ⟨rfl, rfl, Nat.le_of_ble_eq_true rfl, Nat.le_of_ble_eq_true rfl⟩ rfl rfl (Nat.le_of_ble_eq_true rfl) dX6_leastSigns_39 ⟨Nat.le_refl _, Nat.le_refl _⟩ (fun r6 t5 => ?_)
        refine jr_if_eq hG 47 dX6_leastSigns_42 (by decide) (fun _ => ?_) (fun _ => ?_)
        · exact w_X6_leastSigns_47 N hG hr hk ih a0 v1 v2 v3 ha0 t5
        · refine jr_iconst (v := (1 : Int32)) hG dX6_leastSigns_45 (by decide) ?_
          exact jr_iret hG hr hk dX6_leastSigns_46
def f_X6_leastSigns (N : Nat) (a0 : Nat) (v1 : Int32) (v2 : Int32) (σ : Mm) : Option (Int32 × Mm) := if okO 6 a0 then (bI (f_X6_goesWith N a0 (-9 : Int32) (-9 : Int32) v1 v2 (σ)) (fun r2 t1 => if r2 = 0 then (f_X6_leastSigns_17 N N a0 v1 v2 (0 : Int32) t1) else (some ((0 : Int32), t1)))) else none
set_option maxRecDepth 20000 in
theorem c_X6_leastSigns (l : Launch) (E : XE) (N : Nat) (a0 : Nat) (v1 : Int32) (v2 : Int32) (σ : Mm) : ∀ r0, f_X6_leastSigns N a0 v1 v2 σ = some r0 → Met l yX6_leastSigns [Cond.code yX6_leastSigns cX6_leastSigns 5 (some .int)] rm_X6_leastSigns (xPc E (NT + 0) σ [.ref (E.B + a0), .int v1, .int v2]) (xQi E (NT + 0) r0) 0 0 (xA E) := by
  refine met_of (N0 := NT) (by decide +kernel) (Nat.le_of_ble_eq_true rfl) ?_
  intro p e s m args below meth c hG hr hk _
  show JR E NT 5 p l e rm_X6_leastSigns s m args below meth c 0 0 (fun r => MQ below (xQi E (NT + 0) r) args s 0 0 (xA E)) 0 [(0, .ref (E.B + a0)), (1, .int v1), (2, .int v2)] [] σ (if okO 6 a0 then (bI (f_X6_goesWith N a0 (-9 : Int32) (-9 : Int32) v1 v2 (σ)) (fun r2 t1 => if r2 = 0 then (f_X6_leastSigns_17 N N a0 v1 v2 (0 : Int32) t1) else (some ((0 : Int32), t1)))) else none)
  refine jr_guard (fun ha0 => ?_)
  refine jr_aload_n hG 0 dX6_leastSigns_0 rfl rfl ?_
  refine jr_bipush (v := (-9 : Int32)) hG dX6_leastSigns_1 (by decide) ?_
  refine jr_bipush (v := (-9 : Int32)) hG dX6_leastSigns_3 (by decide) ?_
  refine jr_iload_n hG 1 dX6_leastSigns_5 rfl rfl ?_
  refine jr_iload_n hG 2 dX6_leastSigns_6 rfl rfl ?_
  refine jr_callVi (As := [.int (-9 : Int32), .int (-9 : Int32), .int v1, .int v2]) hG (c_X6_goesWith l E N a0 (-9 : Int32) (-9 : Int32) v1 v2 (σ)) ci_X6_goesWith wd_1128 ⟨wd_1130, wd_58⟩ cl_6 (okO_s ha0) (okO_l ha0) ⟨rfl, rfl, Nat.le_of_ble_eq_true rfl, Nat.le_of_ble_eq_true rfl⟩ rfl rfl (Nat.le_of_ble_eq_true rfl) dX6_leastSigns_7 ⟨Nat.le_refl _, Nat.le_refl _⟩ (fun r2 t1 => ?_)
  refine jr_if_eq hG 15 dX6_leastSigns_10 (by decide) (fun _ => ?_) (fun _ => ?_)
  · refine jr_iconst (v := (0 : Int32)) hG dX6_leastSigns_15 (by decide) ?_
    refine jr_istore_n (lv' := [(3, .int (0 : Int32)), (0, .ref (E.B + a0)), (1, .int v1), (2, .int v2)]) hG dX6_leastSigns_16 rfl (by decide) rfl ?_
    refine jr_sub (lv' := [(0, .ref (E.B + a0)), (1, .int v1), (2, .int v2), (3, .int (0 : Int32))]) [1, 2, 3, 0] rfl ?_
    exact w_X6_leastSigns_17 N hG hr hk N a0 v1 v2 (0 : Int32) ha0 t1
  · refine jr_iconst (v := (0 : Int32)) hG dX6_leastSigns_13 (by decide) ?_
    exact jr_iret hG hr hk dX6_leastSigns_14
-- TonguesDealtModel.signs(II)I
abbrev rm_X6_signs : Room := { frames := 6, cells := 0, slots := 0, locals := 134 }
theorem ci_X6_signs : CIx yX6_signs cX6_signs 5 (some .int) 2 := ⟨wd_1091, wd_77, by decide +kernel⟩
def f_X6_signs_55 (N : Nat) (K24 : Nat → Int32 → Int32 → Int32 → Int32 → Mm → Option (Int32 × Mm)) (a0 : Nat) (v1 : Int32) (v2 : Int32) (v4 : Int32) (s0 : Int32) (s1 : Int32) (σ : Mm) : Option (Int32 × Mm) := lt (s1 + s0) (fun x11 => K24 a0 v1 v2 x11 (v4 + (1 : Int32)) (σ))
set_option maxRecDepth 20000 in
theorem w_X6_signs_55 {p : Program} {l : Launch} {e : Env} {s : State} {m : MethodId} {args : Array Value} {below : List Frame} {meth : Method} {c : Code} {E : XE} (N : Nat) (hG : GG E NT 5 RX6 cX6_signs p s m args c) (hr : meth.sig.returnType = (some .int)) (hk : meth.locks = false) {K24 : Nat → Int32 → Int32 → Int32 → Int32 → Mm → Option (Int32 × Mm)} (hK24 : ∀ (a0 : Nat) (v1 : Int32) (v2 : Int32) (v3 : Int32) (v4 : Int32) (ha0 : okO 6 a0 = true) (σ : Mm), JR E NT 5 p l e rm_X6_signs s m args below meth c 0 0 (fun r => MQ below (xQi E (NT + 0) r) args s 0 0 (xA E)) 24 [(0, .ref (E.B + a0)), (1, .int v1), (2, .int v2), (3, .int v3), (4, .int v4)] [] σ (K24 a0 v1 v2 v3 v4 σ)) (a0 : Nat) (v1 : Int32) (v2 : Int32) (v4 : Int32) (s0 : Int32) (s1 : Int32) (ha0 : okO 6 a0 = true) (σ : Mm) : JR E NT 5 p l e rm_X6_signs s m args below meth c 0 0 (fun r => MQ below (xQi E (NT + 0) r) args s 0 0 (xA E)) 55 [(0, .ref (E.B + a0)), (1, .int v1), (2, .int v2), (4, .int v4)] [.int s0, .int s1] σ (f_X6_signs_55 N K24 a0 v1 v2 v4 s0 s1 σ) := by
  show JR E NT 5 p l e rm_X6_signs s m args below meth c 0 0 (fun r => MQ below (xQi E (NT + 0) r) args s 0 0 (xA E)) 55 [(0, .ref (E.B + a0)), (1, .int v1), (2, .int v2), (4, .int v4)] [.int s0, .int s1] σ (lt (s1 + s0) (fun x11 => K24 a0 v1 v2 x11 (v4 + (1 : Int32)) (σ)))
  refine jr_iadd hG dX6_signs_55 ?_
  refine jr_leti (fun x11 _ => ?_)
  refine jr_istore_n (lv' := [(3, .int x11), (0, .ref (E.B + a0)), (1, .int v1), (2, .int v2), (4, .int v4)]) hG dX6_signs_56 rfl (by decide) rfl ?_
  refine jr_iinc (v := v4 + (1 : Int32)) (lv' := [(4, .int (v4 + (1 : Int32))), (3, .int x11), (0, .ref (E.B + a0)), (1, .int v1), (2, .int v2)]) hG 4 dX6_signs_57 rfl rfl (by decide) rfl ?_
  refine jr_goto hG 24 dX6_signs_60 (by decide) ?_
  refine jr_sub (lv' := [(0, .ref (E.B + a0)), (1, .int v1), (2, .int v2), (3, .int x11), (4, .int (v4 + (1 : Int32)))]) [2, 3, 4, 1, 0] rfl ?_
  exact hK24 a0 v1 v2 x11 (v4 + (1 : Int32)) ha0 (σ)
def f_X6_signs_54 (N : Nat) (K24 : Nat → Int32 → Int32 → Int32 → Int32 → Mm → Option (Int32 × Mm)) (a0 : Nat) (v1 : Int32) (v2 : Int32) (v4 : Int32) (s0 : Int32) (σ : Mm) : Option (Int32 × Mm) := f_X6_signs_55 N K24 a0 v1 v2 v4 (0 : Int32) s0 (σ)
set_option maxRecDepth 20000 in
theorem w_X6_signs_54 {p : Program} {l : Launch} {e : Env} {s : State} {m : MethodId} {args : Array Value} {below : List Frame} {meth : Method} {c : Code} {E : XE} (N : Nat) (hG : GG E NT 5 RX6 cX6_signs p s m args c) (hr : meth.sig.returnType = (some .int)) (hk : meth.locks = false) {K24 : Nat → Int32 → Int32 → Int32 → Int32 → Mm → Option (Int32 × Mm)} (hK24 : ∀ (a0 : Nat) (v1 : Int32) (v2 : Int32) (v3 : Int32) (v4 : Int32) (ha0 : okO 6 a0 = true) (σ : Mm), JR E NT 5 p l e rm_X6_signs s m args below meth c 0 0 (fun r => MQ below (xQi E (NT + 0) r) args s 0 0 (xA E)) 24 [(0, .ref (E.B + a0)), (1, .int v1), (2, .int v2), (3, .int v3), (4, .int v4)] [] σ (K24 a0 v1 v2 v3 v4 σ)) (a0 : Nat) (v1 : Int32) (v2 : Int32) (v4 : Int32) (s0 : Int32) (ha0 : okO 6 a0 = true) (σ : Mm) : JR E NT 5 p l e rm_X6_signs s m args below meth c 0 0 (fun r => MQ below (xQi E (NT + 0) r) args s 0 0 (xA E)) 54 [(0, .ref (E.B + a0)), (1, .int v1), (2, .int v2), (4, .int v4)] [.int s0] σ (f_X6_signs_54 N K24 a0 v1 v2 v4 s0 σ) := by
  show JR E NT 5 p l e rm_X6_signs s m args below meth c 0 0 (fun r => MQ below (xQi E (NT + 0) r) args s 0 0 (xA E)) 54 [(0, .ref (E.B + a0)), (1, .int v1), (2, .int v2), (4, .int v4)] [.int s0] σ (f_X6_signs_55 N K24 a0 v1 v2 v4 (0 : Int32) s0 (σ))
  refine jr_iconst (v := (0 : Int32)) hG dX6_signs_54 (by decide) ?_
  exact w_X6_signs_55 N hG hr hk hK24 a0 v1 v2 v4 (0 : Int32) s0 ha0 (σ)
def f_X6_signs_24 (N : Nat)  : Nat → Nat → Int32 → Int32 → Int32 → Int32 → Mm → Option (Int32 × Mm)
  | 0 => fun _ _ _ _ _ _ => none
  | n + 1 => fun a0 v1 v2 v3 v4 σ => if (gi σ a0 10) ≤ v4 then (bI (f_X6_leastSigns N a0 v1 v2 (σ)) (fun r6 t5 => bI (f_X6_gives N a0 v3 r6 t5) (fun r8 t7 => some (r8, t7)))) else (if v4 = v1 then (f_X6_signs_54 N (f_X6_signs_24 N n) a0 v1 v2 v4 v3 (σ)) else (bI (f_X6_goesAlways N a0 v1 v4 (σ)) (fun r10 t9 => if r10 = 0 then (f_X6_signs_54 N (f_X6_signs_24 N n) a0 v1 v2 v4 v3 t9) else (f_X6_signs_55 N (f_X6_signs_24 N n) a0 v1 v2 v4 (1 : Int32) v3 t9))))
set_option maxRecDepth 20000 in
theorem w_X6_signs_24 {p : Program} {l : Launch} {e : Env} {s : State} {m : MethodId} {args : Array Value} {below : List Frame} {meth : Method} {c : Code} {E : XE} (N : Nat) (hG : GG E NT 5 RX6 cX6_signs p s m args c) (hr : meth.sig.returnType = (some .int)) (hk : meth.locks = false)  : ∀ (n : Nat) (a0 : Nat) (v1 : Int32) (v2 : Int32) (v3 : Int32) (v4 : Int32) (ha0 : okO 6 a0 = true) (σ : Mm), JR E NT 5 p l e rm_X6_signs s m args below meth c 0 0 (fun r => MQ below (xQi E (NT + 0) r) args s 0 0 (xA E)) 24 [(0, .ref (E.B + a0)), (1, .int v1), (2, .int v2), (3, .int v3), (4, .int v4)] [] σ (f_X6_signs_24 N n a0 v1 v2 v3 v4 σ) := by
  intro n
  induction n with
  | zero => intro a0 v1 v2 v3 v4 ha0 σ r hX; cases hX
  | succ n ih =>
    intro a0 v1 v2 v3 v4 ha0 σ
    show JR E NT 5 p l e rm_X6_signs s m args below meth c 0 0 (fun r => MQ below (xQi E (NT + 0) r) args s 0 0 (xA E)) 24 [(0, .ref (E.B + a0)), (1, .int v1), (2, .int v2), (3, .int v3), (4, .int v4)] [] σ (if (gi σ a0 10) ≤ v4 then (bI (f_X6_leastSigns N a0 v1 v2 (σ)) (fun r6 t5 => bI (f_X6_gives N a0 v3 r6 t5) (fun r8 t7 => some (r8, t7)))) else (if v4 = v1 then (f_X6_signs_54 N (f_X6_signs_24 N n) a0 v1 v2 v4 v3 (σ)) else (bI (f_X6_goesAlways N a0 v1 v4 (σ)) (fun r10 t9 => if r10 = 0 then (f_X6_signs_54 N (f_X6_signs_24 N n) a0 v1 v2 v4 v3 t9) else (f_X6_signs_55 N (f_X6_signs_24 N n) a0 v1 v2 v4 (1 : Int32) v3 t9)))))
    refine jr_iload hG 4 dX6_signs_24 rfl ?_
    refine jr_aload_n hG 0 dX6_signs_26 rfl rfl ?_
    refine jr_getI hG fi_RX6_147 rfl (okO_s ha0) (okO_l ha0) dX6_signs_27 ?_
    refine jr_icmp_ge hG 63 dX6_signs_30 (by decide) (fun _ => ?_) (fun _ => ?_)
    · refine jr_aload_n hG 0 dX6_signs_63 rfl rfl ?_
      refine jr_iload_n hG 3 dX6_signs_64 rfl rfl ?_
      refine jr_aload_n hG 0 dX6_signs_65 rfl rfl ?_
      refine jr_iload_n hG 1 dX6_signs_66 rfl rfl ?_
      refine jr_iload_n hG 2 dX6_signs_67 rfl rfl ?_
      refine jr_callVi (As := [.int v1, .int v2]) hG (c_X6_leastSigns l E N a0 v1 v2 (σ)) ci_X6_leastSigns wd_1124 ⟨wd_1126, wd_57⟩ cl_6 (okO_s ha0) (okO_l ha0) ⟨rfl, rfl, Nat.le_of_ble_eq_true rfl, Nat.le_of_ble_eq_true rfl⟩ rfl rfl (Nat.le_of_ble_eq_true rfl) dX6_signs_68 ⟨Nat.le_refl _, Nat.le_refl _⟩ (fun r6 t5 => ?_)
      refine jr_callVi (As := [.int v3, .int r6]) hG (c_X6_gives l E N a0 v3 r6 t5) ci_X6_gives wd_881 ⟨wd_883, wd_23⟩ cl_6 (okO_s ha0) (okO_l ha0) ⟨rfl, rfl, Nat.le_of_ble_eq_true rfl, Nat.le_of_ble_eq_true rfl⟩ rfl rfl (Nat.le_of_ble_eq_true rfl) dX6_signs_71 ⟨Nat.le_refl _, Nat.le_refl _⟩ (fun r8 t7 => ?_)
      exact jr_iret hG hr hk dX6_signs_74
    · refine jr_iload_n hG 3 dX6_signs_33 rfl rfl ?_
      refine jr_iload hG 4 dX6_signs_34 rfl ?_
      refine jr_iload_n hG 1 dX6_signs_36 rfl rfl ?_
      refine jr_icmp_eq hG 54 dX6_signs_37 (by decide) (fun _ => ?_) (fun _ => ?_)
      · refine jr_sub (lv' := [(0, .ref (E.B + a0)), (1, .int v1), (2, .int v2), (4, .int v4)]) [0, 1, 2, 4] rfl ?_
        exact w_X6_signs_54 N hG hr hk ih a0 v1 v2 v4 v3 ha0 (σ)
      · refine jr_aload_n hG 0 dX6_signs_40 rfl rfl ?_
        refine jr_iload_n hG 1 dX6_signs_41 rfl rfl ?_
        refine jr_iload hG 4 dX6_signs_42 rfl ?_
        refine jr_callVi (As := [.int v1, .int v4]) hG (c_X6_goesAlways l E N a0 v1 v4 (σ)) ci_X6_goesAlways wd_1116 ⟨wd_1118, wd_55⟩ cl_6 (okO_s ha0) (okO_l ha0) ⟨rfl, rfl, Nat.le_of_ble_eq_true rfl, Nat.le_of_ble_eq_true rfl⟩ rfl rfl (Nat.le_of_ble_eq_true rfl) dX6_signs_44 ⟨Nat.le_refl _, Nat.le_refl _⟩ (fun r10 t9 => ?_)
        refine jr_if_eq hG 54 dX6_signs_47 (by decide) (fun _ => ?_) (fun _ => ?_)
        · refine jr_sub (lv' := [(0, .ref (E.B + a0)), (1, .int v1), (2, .int v2), (4, .int v4)]) [0, 1, 2, 4] rfl ?_
          exact w_X6_signs_54 N hG hr hk ih a0 v1 v2 v4 v3 ha0 t9
        · refine jr_iconst (v := (1 : Int32)) hG dX6_signs_50 (by decide) ?_
          refine jr_goto hG 55 dX6_signs_51 (by decide) ?_
          refine jr_sub (lv' := [(0, .ref (E.B + a0)), (1, .int v1), (2, .int v2), (4, .int v4)]) [0, 1, 2, 4] rfl ?_
          exact w_X6_signs_55 N hG hr hk ih a0 v1 v2 v4 (1 : Int32) v3 ha0 t9
def f_X6_signs (N : Nat) (a0 : Nat) (v1 : Int32) (v2 : Int32) (σ : Mm) : Option (Int32 × Mm) := if okO 6 a0 then (bI (f_X6_areTwo N a0 v1 v2 (σ)) (fun r2 t1 => if r2 = 0 then (some ((-1 : Int32), t1)) else (bV (f_X6_layDeals N a0 t1) (fun t3 => bV (f_X6_noSigns N a0 t3) (fun t4 => f_X6_signs_24 N N a0 v1 v2 (0 : Int32) (0 : Int32) t4))))) else none
set_option maxRecDepth 20000 in
theorem c_X6_signs (l : Launch) (E : XE) (N : Nat) (a0 : Nat) (v1 : Int32) (v2 : Int32) (σ : Mm) : ∀ r0, f_X6_signs N a0 v1 v2 σ = some r0 → Met l yX6_signs [Cond.code yX6_signs cX6_signs 5 (some .int)] rm_X6_signs (xPc E (NT + 0) σ [.ref (E.B + a0), .int v1, .int v2]) (xQi E (NT + 0) r0) 0 0 (xA E) := by
  refine met_of (N0 := NT) (by decide +kernel) (Nat.le_of_ble_eq_true rfl) ?_
  intro p e s m args below meth c hG hr hk _
  show JR E NT 5 p l e rm_X6_signs s m args below meth c 0 0 (fun r => MQ below (xQi E (NT + 0) r) args s 0 0 (xA E)) 0 [(0, .ref (E.B + a0)), (1, .int v1), (2, .int v2)] [] σ (if okO 6 a0 then (bI (f_X6_areTwo N a0 v1 v2 (σ)) (fun r2 t1 => if r2 = 0 then (some ((-1 : Int32), t1)) else (bV (f_X6_layDeals N a0 t1) (fun t3 => bV (f_X6_noSigns N a0 t3) (fun t4 => f_X6_signs_24 N N a0 v1 v2 (0 : Int32) (0 : Int32) t4))))) else none)
  refine jr_guard (fun ha0 => ?_)
  refine jr_aload_n hG 0 dX6_signs_0 rfl rfl ?_
  refine jr_iload_n hG 1 dX6_signs_1 rfl rfl ?_
  refine jr_iload_n hG 2 dX6_signs_2 rfl rfl ?_
  refine jr_callVi (As := [.int v1, .int v2]) hG (c_X6_areTwo l E N a0 v1 v2 (σ)) ci_X6_areTwo wd_1020 ⟨wd_1022, wd_41⟩ cl_6 (okO_s ha0) (okO_l ha0) ⟨rfl, rfl, Nat.le_of_ble_eq_true rfl, Nat.le_of_ble_eq_true rfl⟩ rfl rfl (Nat.le_of_ble_eq_true rfl) dX6_signs_3 ⟨Nat.le_refl _, Nat.le_refl _⟩ (fun r2 t1 => ?_)
  refine jr_if_ne hG 11 dX6_signs_6 (by decide) (fun _ => ?_) (fun _ => ?_)
  · refine jr_aload_n hG 0 dX6_signs_11 rfl rfl ?_
    refine jr_callVv (As := []) hG (c_X6_layDeals l E N a0 t1) ci_X6_layDeals wd_1092 ⟨wd_1094, wd_49⟩ cl_6 (okO_s ha0) (okO_l ha0) ⟨rfl, rfl, Nat.le_of_ble_eq_true rfl, Nat.le_of_ble_eq_true rfl⟩ rfl rfl (Nat.le_of_ble_eq_true rfl) dX6_signs_12 ⟨Nat.le_refl _, Nat.le_refl _⟩ (fun t3 => ?_)
    refine jr_aload_n hG 0 dX6_signs_15 rfl rfl ?_
    refine jr_callVv (As := []) hG (c_X6_noSigns l E N a0 t3) ci_X6_noSigns wd_1112 ⟨wd_1114, wd_54⟩ cl_6 (okO_s ha0) (okO_l ha0) ⟨rfl, rfl, Nat.le_of_ble_eq_true rfl, Nat.le_of_ble_eq_true rfl⟩ rfl rfl (Nat.le_of_ble_eq_true rfl) dX6_signs_16 ⟨Nat.le_refl _, Nat.le_refl _⟩ (fun t4 => ?_)
    refine jr_iconst (v := (0 : Int32)) hG dX6_signs_19 (by decide) ?_
    refine jr_istore_n (lv' := [(3, .int (0 : Int32)), (0, .ref (E.B + a0)), (1, .int v1), (2, .int v2)]) hG dX6_signs_20 rfl (by decide) rfl ?_
    refine jr_iconst (v := (0 : Int32)) hG dX6_signs_21 (by decide) ?_
    refine jr_istore (lv' := [(4, .int (0 : Int32)), (3, .int (0 : Int32)), (0, .ref (E.B + a0)), (1, .int v1), (2, .int v2)]) hG dX6_signs_22 (by decide) rfl ?_
    refine jr_sub (lv' := [(0, .ref (E.B + a0)), (1, .int v1), (2, .int v2), (3, .int (0 : Int32)), (4, .int (0 : Int32))]) [2, 3, 4, 1, 0] rfl ?_
    exact w_X6_signs_24 N hG hr hk N a0 v1 v2 (0 : Int32) (0 : Int32) ha0 t4
  · refine jr_iconst (v := (-1 : Int32)) hG dX6_signs_9 (by decide) ?_
    exact jr_iret hG hr hk dX6_signs_10
-- TonguesDealtModel.odds(III)I
abbrev rm_X6_odds : Room := { frames := 5, cells := 0, slots := 0, locals := 112 }
theorem ci_X6_odds : CIx yX6_odds cX6_odds 7 (some .int) 3 := ⟨wd_1143, wd_77, by decide +kernel⟩
def f_X6_odds_79 (N : Nat) (K26 : Nat → Int32 → Int32 → Int32 → Int32 → Int32 → Mm → Option (Int32 × Mm)) (a0 : Nat) (v1 : Int32) (v2 : Int32) (v3 : Int32) (v5 : Int32) (s0 : Int32) (s1 : Int32) (σ : Mm) : Option (Int32 × Mm) := lt (s1 + s0) (fun x16 => K26 a0 v1 v2 v3 x16 (v5 + (1 : Int32)) (σ))
set_option maxRecDepth 20000 in
theorem w_X6_odds_79 {p : Program} {l : Launch} {e : Env} {s : State} {m : MethodId} {args : Array Value} {below : List Frame} {meth : Method} {c : Code} {E : XE} (N : Nat) (hG : GG E NT 7 RX6 cX6_odds p s m args c) (hr : meth.sig.returnType = (some .int)) (hk : meth.locks = false) {K26 : Nat → Int32 → Int32 → Int32 → Int32 → Int32 → Mm → Option (Int32 × Mm)} (hK26 : ∀ (a0 : Nat) (v1 : Int32) (v2 : Int32) (v3 : Int32) (v4 : Int32) (v5 : Int32) (ha0 : okO 6 a0 = true) (σ : Mm), JR E NT 7 p l e rm_X6_odds s m args below meth c 0 0 (fun r => MQ below (xQi E (NT + 0) r) args s 0 0 (xA E)) 26 [(0, .ref (E.B + a0)), (1, .int v1), (2, .int v2), (3, .int v3), (4, .int v4), (5, .int v5)] [] σ (K26 a0 v1 v2 v3 v4 v5 σ)) (a0 : Nat) (v1 : Int32) (v2 : Int32) (v3 : Int32) (v5 : Int32) (s0 : Int32) (s1 : Int32) (ha0 : okO 6 a0 = true) (σ : Mm) : JR E NT 7 p l e rm_X6_odds s m args below meth c 0 0 (fun r => MQ below (xQi E (NT + 0) r) args s 0 0 (xA E)) 79 [(0, .ref (E.B + a0)), (1, .int v1), (2, .int v2), (3, .int v3), (5, .int v5)] [.int s0, .int s1] σ (f_X6_odds_79 N K26 a0 v1 v2 v3 v5 s0 s1 σ) := by
  show JR E NT 7 p l e rm_X6_odds s m args below meth c 0 0 (fun r => MQ below (xQi E (NT + 0) r) args s 0 0 (xA E)) 79 [(0, .ref (E.B + a0)), (1, .int v1), (2, .int v2), (3, .int v3), (5, .int v5)] [.int s0, .int s1] σ (lt (s1 + s0) (fun x16 => K26 a0 v1 v2 v3 x16 (v5 + (1 : Int32)) (σ)))
  refine jr_iadd hG dX6_odds_79 ?_
  refine jr_leti (fun x16 _ => ?_)
  refine jr_istore (lv' := [(4, .int x16), (0, .ref (E.B + a0)), (1, .int v1), (2, .int v2), (3, .int v3), (5, .int v5)]) hG dX6_odds_80 (by decide) rfl ?_
  refine jr_iinc (v := v5 + (1 : Int32)) (lv' := [(5, .int (v5 + (1 : Int32))), (4, .int x16), (0, .ref (E.B + a0)), (1, .int v1), (2, .int v2), (3, .int v3)]) hG 5 dX6_odds_82 rfl rfl (by decide) rfl ?_
  refine jr_goto hG 26 dX6_odds_85 (by decide) ?_
  refine jr_sub (lv' := [(0, .ref (E.B + a0)), (1, .int v1), (2, .int v2), (3, .int v3), (4, .int x16), (5, .int (v5 + (1 : Int32)))]) [2, 3, 4, 5, 1, 0] rfl ?_
  exact hK26 a0 v1 v2 v3 x16 (v5 + (1 : Int32)) ha0 (σ)
def f_X6_odds_78 (N : Nat) (K26 : Nat → Int32 → Int32 → Int32 → Int32 → Int32 → Mm → Option (Int32 × Mm)) (a0 : Nat) (v1 : Int32) (v2 : Int32) (v3 : Int32) (v5 : Int32) (s0 : Int32) (σ : Mm) : Option (Int32 × Mm) := f_X6_odds_79 N K26 a0 v1 v2 v3 v5 (0 : Int32) s0 (σ)
set_option maxRecDepth 20000 in
theorem w_X6_odds_78 {p : Program} {l : Launch} {e : Env} {s : State} {m : MethodId} {args : Array Value} {below : List Frame} {meth : Method} {c : Code} {E : XE} (N : Nat) (hG : GG E NT 7 RX6 cX6_odds p s m args c) (hr : meth.sig.returnType = (some .int)) (hk : meth.locks = false) {K26 : Nat → Int32 → Int32 → Int32 → Int32 → Int32 → Mm → Option (Int32 × Mm)} (hK26 : ∀ (a0 : Nat) (v1 : Int32) (v2 : Int32) (v3 : Int32) (v4 : Int32) (v5 : Int32) (ha0 : okO 6 a0 = true) (σ : Mm), JR E NT 7 p l e rm_X6_odds s m args below meth c 0 0 (fun r => MQ below (xQi E (NT + 0) r) args s 0 0 (xA E)) 26 [(0, .ref (E.B + a0)), (1, .int v1), (2, .int v2), (3, .int v3), (4, .int v4), (5, .int v5)] [] σ (K26 a0 v1 v2 v3 v4 v5 σ)) (a0 : Nat) (v1 : Int32) (v2 : Int32) (v3 : Int32) (v5 : Int32) (s0 : Int32) (ha0 : okO 6 a0 = true) (σ : Mm) : JR E NT 7 p l e rm_X6_odds s m args below meth c 0 0 (fun r => MQ below (xQi E (NT + 0) r) args s 0 0 (xA E)) 78 [(0, .ref (E.B + a0)), (1, .int v1), (2, .int v2), (3, .int v3), (5, .int v5)] [.int s0] σ (f_X6_odds_78 N K26 a0 v1 v2 v3 v5 s0 σ) := by
  show JR E NT 7 p l e rm_X6_odds s m args below meth c 0 0 (fun r => MQ below (xQi E (NT + 0) r) args s 0 0 (xA E)) 78 [(0, .ref (E.B + a0)), (1, .int v1), (2, .int v2), (3, .int v3), (5, .int v5)] [.int s0] σ (f_X6_odds_79 N K26 a0 v1 v2 v3 v5 (0 : Int32) s0 (σ))
  refine jr_iconst (v := (0 : Int32)) hG dX6_odds_78 (by decide) ?_
  exact w_X6_odds_79 N hG hr hk hK26 a0 v1 v2 v3 v5 (0 : Int32) s0 ha0 (σ)
def f_X6_odds_26 (N : Nat)  : Nat → Nat → Int32 → Int32 → Int32 → Int32 → Int32 → Mm → Option (Int32 × Mm)
  | 0 => fun _ _ _ _ _ _ _ => none
  | n + 1 => fun a0 v1 v2 v3 v4 v5 σ => bI (f_X6_dealMany N a0 (σ)) (fun r6 t5 => if r6 ≤ v5 then (bI (f_X6_dealMany N a0 t5) (fun r8 t7 => bI (f_X6_fraction N a0 v4 r8 t7) (fun r10 t9 => some (r10, t9)))) else (bV (f_X6_deals N a0 v5 t5) (fun t11 => bR (gr t11 a0 20) (okA 0) (fun o12 => bV (f_X6_layTells N a0 o12 t11) (fun t13 => bI (f_X6_stepsOf N a0 v1 v2 t13) (fun r15 t14 => if r15 = (-9 : Int32) then (f_X6_odds_78 N (f_X6_odds_26 N n) a0 v1 v2 v3 v5 v4 t14) else (if (v3 + (1 : Int32)) < r15 then (f_X6_odds_78 N (f_X6_odds_26 N n) a0 v1 v2 v3 v5 v4 t14) else (f_X6_odds_79 N (f_X6_odds_26 N n) a0 v1 v2 v3 v5 (1 : Int32) v4 t14))))))))
set_option maxRecDepth 20000 in
theorem w_X6_odds_26 {p : Program} {l : Launch} {e : Env} {s : State} {m : MethodId} {args : Array Value} {below : List Frame} {meth : Method} {c : Code} {E : XE} (N : Nat) (hG : GG E NT 7 RX6 cX6_odds p s m args c) (hr : meth.sig.returnType = (some .int)) (hk : meth.locks = false)  : ∀ (n : Nat) (a0 : Nat) (v1 : Int32) (v2 : Int32) (v3 : Int32) (v4 : Int32) (v5 : Int32) (ha0 : okO 6 a0 = true) (σ : Mm), JR E NT 7 p l e rm_X6_odds s m args below meth c 0 0 (fun r => MQ below (xQi E (NT + 0) r) args s 0 0 (xA E)) 26 [(0, .ref (E.B + a0)), (1, .int v1), (2, .int v2), (3, .int v3), (4, .int v4), (5, .int v5)] [] σ (f_X6_odds_26 N n a0 v1 v2 v3 v4 v5 σ) := by
  intro n
  induction n with
  | zero => intro a0 v1 v2 v3 v4 v5 ha0 σ r hX; cases hX
  | succ n ih =>
    intro a0 v1 v2 v3 v4 v5 ha0 σ
    show JR E NT 7 p l e rm_X6_odds s m args below meth c 0 0 (fun r => MQ below (xQi E (NT + 0) r) args s 0 0 (xA E)) 26 [(0, .ref (E.B + a0)), (1, .int v1), (2, .int v2), (3, .int v3), (4, .int v4), (5, .int v5)] [] σ (bI (f_X6_dealMany N a0 (σ)) (fun r6 t5 => if r6 ≤ v5 then (bI (f_X6_dealMany N a0 t5) (fun r8 t7 => bI (f_X6_fraction N a0 v4 r8 t7) (fun r10 t9 => some (r10, t9)))) else (bV (f_X6_deals N a0 v5 t5) (fun t11 => bR (gr t11 a0 20) (okA 0) (fun o12 => bV (f_X6_layTells N a0 o12 t11) (fun t13 => bI (f_X6_stepsOf N a0 v1 v2 t13) (fun r15 t14 => if r15 = (-9 : Int32) then (f_X6_odds_78 N (f_X6_odds_26 N n) a0 v1 v2 v3 v5 v4 t14) else (if (v3 + (1 : Int32)) < r15 then (f_X6_odds_78 N (f_X6_odds_26 N n) a0 v1 v2 v3 v5 v4 t14) else (f_X6_odds_79 N (f_X6_odds_26 N n) a0 v1 v2 v3 v5 (1 : Int32) v4 t14)))))))))
    refine jr_iload hG 5 dX6_odds_26 rfl ?_
    refine jr_aload_n hG 0 dX6_odds_28 rfl rfl ?_
    refine jr_callVi (As := []) hG (c_X6_dealMany l E N a0 (σ)) ci_X6_dealMany wd_1096 ⟨wd_1098, wd_50⟩ cl_6 (okO_s ha0) (okO_l ha0) ⟨rfl, rfl, Nat.le_of_ble_eq_true rfl, Nat.le_of_ble_eq_true rfl⟩ rfl rfl (Nat.le_of_ble_eq_true rfl) dX6_odds_29 ⟨Nat.le_refl _, Nat.le_refl _⟩ (fun r6 t5 => ?_)
    refine jr_icmp_ge hG 88 dX6_odds_32 (by decide) (fun _ => ?_) (fun _ => ?_)
    · refine jr_aload_n hG 0 dX6_odds_88 rfl rfl ?_
      refine jr_iload hG 4 dX6_odds_89 rfl ?_
      refine jr_aload_n hG 0 dX6_odds_91 rfl rfl ?_
      refine jr_callVi (As := []) hG (c_X6_dealMany l E N a0 t5) ci_X6_dealMany wd_1096 ⟨wd_1098, wd_50⟩ cl_6 (okO_s ha0) (okO_l ha0) ⟨rfl, rfl, Nat.le_of_ble_eq_true rfl, Nat.le_of_ble_eq_true rfl⟩ rfl rfl (Nat.le_of_ble_eq_true rfl) dX6_odds_92 ⟨Nat.le_refl _, Nat.le_refl _⟩ (fun r8 t7 => ?_)
      refine jr_callVi (As := [.int v4, .int r8]) hG (c_X6_fraction l E N a0 v4 r8 t7) ci_X6_fraction wd_1144 ⟨wd_1146, wd_61⟩ cl_6 (okO_s ha0) (okO_l ha0) ⟨rfl, rfl, Nat.le_of_ble_eq_true rfl, Nat.le_of_ble_eq_true rfl⟩ rfl rfl (Nat.le_of_ble_eq_true rfl) dX6_odds_95 ⟨Nat.le_refl _, Nat.le_refl _⟩ (fun r10 t9 => ?_)
      exact jr_iret hG hr hk dX6_odds_98
    · refine jr_aload_n hG 0 dX6_odds_35 rfl rfl ?_
      refine jr_iload hG 5 dX6_odds_36 rfl ?_
      refine jr_callVv (As := [.int v5]) hG (c_X6_deals l E N a0 v5 t5) ci_X6_deals wd_1104 ⟨wd_1106, wd_52⟩ cl_6 (okO_s ha0) (okO_l ha0) ⟨rfl, rfl, Nat.le_of_ble_eq_true rfl, Nat.le_of_ble_eq_true rfl⟩ rfl rfl (Nat.le_of_ble_eq_true rfl) dX6_odds_38 ⟨Nat.le_refl _, Nat.le_refl _⟩ (fun t11 => ?_)
      refine jr_aload_n hG 0 dX6_odds_41 rfl rfl ?_
      refine jr_aload_n hG 0 dX6_odds_42 rfl rfl ?_
      refine jr_getR hG fi_RX6_51 rfl (okO_s ha0) (okO_l ha0) dX6_odds_43 (fun o12 ho12 => ?_)
      refine jr_callVv (As := [.ref (E.B + o12)]) hG (c_X6_layTells l E N a0 o12 t11) ci_X6_layTells wd_1048 ⟨wd_1050, wd_43⟩ cl_6 (okO_s ha0) (okO_l ha0) ⟨rfl, rfl, Nat.le_of_ble_eq_true rfl, Nat.le_of_ble_eq_true rfl⟩ rfl rfl (Nat.le_of_ble_eq_true rfl) dX6_odds_46 ⟨Nat.le_refl _, Nat.le_refl _⟩ (fun t13 => ?_)
      refine jr_aload_n hG 0 dX6_odds_49 rfl rfl ?_
      refine jr_iload_n hG 1 dX6_odds_50 rfl rfl ?_
      refine jr_iload_n hG 2 dX6_odds_51 rfl rfl ?_
      refine jr_callVi (As := [.int v1, .int v2]) hG (c_X6_stepsOf l E N a0 v1 v2 t13) ci_X6_stepsOf wd_1052 ⟨wd_1054, wd_44⟩ cl_6 (okO_s ha0) (okO_l ha0) ⟨rfl, rfl, Nat.le_of_ble_eq_true rfl, Nat.le_of_ble_eq_true rfl⟩ rfl rfl (Nat.le_of_ble_eq_true rfl) dX6_odds_52 ⟨Nat.le_refl _, Nat.le_refl _⟩ (fun r15 t14 => ?_)
      refine jr_istore (lv' := [(6, .int r15), (0, .ref (E.B + a0)), (1, .int v1), (2, .int v2), (3, .int v3), (4, .int v4), (5, .int v5)]) hG dX6_odds_55 (by decide) rfl ?_
      refine jr_iload hG 5 dX6_odds_57 rfl ?_
      refine jr_iload hG 0 dX6_odds_59 rfl ?_
      refine jr_bipush (v := (-9 : Int32)) hG dX6_odds_61 (by decide) ?_
      refine jr_icmp_eq hG 78 dX6_odds_63 (by decide) (fun _ => ?_) (fun _ => ?_)
      · refine jr_sub (lv' := [(0, .ref (E.B + a0)), (1, .int v1), (2, .int v2), (3, .int v3), (5, .int v5)]) [1, 2, 3, 4, 6] rfl ?_
        exact w_X6_odds_78 N hG hr hk ih a0 v1 v2 v3 v5 v4 ha0 t14
      · refine jr_iload hG 0 dX6_odds_66 rfl ?_
        refine jr_iload_n hG 4 dX6_odds_68 rfl rfl ?_
        refine jr_iconst (v := (1 : Int32)) hG dX6_odds_69 (by decide) ?_
        refine jr_iadd hG dX6_odds_70 ?_
        refine jr_icmp_gt hG 78 dX6_odds_71 (by decide) (fun _ => ?_) (fun _ => ?_)
        · refine jr_sub (lv' := [(0, .ref (E.B + a0)), (1, .int v1), (2, .int v2), (3, .int v3), (5, .int v5)]) [1, 2, 3, 4, 6] rfl ?_
          exact w_X6_odds_78 N hG hr hk ih a0 v1 v2 v3 v5 v4 ha0 t14
        · refine jr_iconst (v := (1 : Int32)) hG dX6_odds_74 (by decide) ?_
          refine jr_goto hG 79 dX6_odds_75 (by decide) ?_
          refine jr_sub (lv' := [(0, .ref (E.B + a0)), (1, .int v1), (2, .int v2), (3, .int v3), (5, .int v5)]) [1, 2, 3, 4, 6] rfl ?_
          exact w_X6_odds_79 N hG hr hk ih a0 v1 v2 v3 v5 (1 : Int32) v4 ha0 t14
def f_X6_odds (N : Nat) (a0 : Nat) (v1 : Int32) (v2 : Int32) (v3 : Int32) (σ : Mm) : Option (Int32 × Mm) := if okO 6 a0 then (bI (f_X6_areTwo N a0 v1 v2 (σ)) (fun r2 t1 => if r2 = 0 then (some ((-1 : Int32), t1)) else (bI (f_X6_in N v3 (0 : Int32) (4 : Int32) t1) (fun r4 t3 => if r4 = 0 then (some ((-1 : Int32), t3)) else (f_X6_odds_26 N N a0 v1 v2 v3 (0 : Int32) (0 : Int32) t3))))) else none
set_option maxRecDepth 20000 in
theorem c_X6_odds (l : Launch) (E : XE) (N : Nat) (a0 : Nat) (v1 : Int32) (v2 : Int32) (v3 : Int32) (σ : Mm) : ∀ r0, f_X6_odds N a0 v1 v2 v3 σ = some r0 → Met l yX6_odds [Cond.code yX6_odds cX6_odds 7 (some .int)] rm_X6_odds (xPc E (NT + 0) σ [.ref (E.B + a0), .int v1, .int v2, .int v3]) (xQi E (NT + 0) r0) 0 0 (xA E) := by
  refine met_of (N0 := NT) (by decide +kernel) (Nat.le_of_ble_eq_true rfl) ?_
  intro p e s m args below meth c hG hr hk _
  show JR E NT 7 p l e rm_X6_odds s m args below meth c 0 0 (fun r => MQ below (xQi E (NT + 0) r) args s 0 0 (xA E)) 0 [(0, .ref (E.B + a0)), (1, .int v1), (2, .int v2), (3, .int v3)] [] σ (if okO 6 a0 then (bI (f_X6_areTwo N a0 v1 v2 (σ)) (fun r2 t1 => if r2 = 0 then (some ((-1 : Int32), t1)) else (bI (f_X6_in N v3 (0 : Int32) (4 : Int32) t1) (fun r4 t3 => if r4 = 0 then (some ((-1 : Int32), t3)) else (f_X6_odds_26 N N a0 v1 v2 v3 (0 : Int32) (0 : Int32) t3))))) else none)
  refine jr_guard (fun ha0 => ?_)
  refine jr_aload_n hG 0 dX6_odds_0 rfl rfl ?_
  refine jr_iload_n hG 1 dX6_odds_1 rfl rfl ?_
  refine jr_iload_n hG 2 dX6_odds_2 rfl rfl ?_
  refine jr_callVi (As := [.int v1, .int v2]) hG (c_X6_areTwo l E N a0 v1 v2 (σ)) ci_X6_areTwo wd_1020 ⟨wd_1022, wd_41⟩ cl_6 (okO_s ha0) (okO_l ha0) ⟨rfl, rfl, Nat.le_of_ble_eq_true rfl, Nat.le_of_ble_eq_true rfl⟩ rfl rfl (Nat.le_of_ble_eq_true rfl) dX6_odds_3 ⟨Nat.le_refl _, Nat.le_refl _⟩ (fun r2 t1 => ?_)
  refine jr_if_eq hG 18 dX6_odds_6 (by decide) (fun _ => ?_) (fun _ => ?_)
  · refine jr_iconst (v := (-1 : Int32)) hG dX6_odds_18 (by decide) ?_
    exact jr_iret hG hr hk dX6_odds_19
  · refine jr_iload_n hG 3 dX6_odds_9 rfl rfl ?_
    refine jr_iconst (v := (0 : Int32)) hG dX6_odds_10 (by decide) ?_
    refine jr_iconst (v := (4 : Int32)) hG dX6_odds_11 (by decide) ?_
    refine jr_callSi (As := [.int v3, .int (0 : Int32), .int (4 : Int32)]) hG (c_X6_in l E N v3 (0 : Int32) (4 : Int32) t1) ci_X6_in wd_847 wd_848 ⟨rfl, rfl, Nat.le_of_ble_eq_true rfl, Nat.le_of_ble_eq_true rfl⟩ rfl rfl (Nat.le_of_ble_eq_true rfl) dX6_odds_12 ⟨Nat.le_refl _, Nat.le_refl _⟩ (fun r4 t3 => ?_)
    refine jr_if_ne hG 20 dX6_odds_15 (by decide) (fun _ => ?_) (fun _ => ?_)
    · refine jr_iconst (v := (0 : Int32)) hG dX6_odds_20 (by decide) ?_
      refine jr_istore (lv' := [(4, .int (0 : Int32)), (0, .ref (E.B + a0)), (1, .int v1), (2, .int v2), (3, .int v3)]) hG dX6_odds_21 (by decide) rfl ?_
      refine jr_iconst (v := (0 : Int32)) hG dX6_odds_23 (by decide) ?_
      refine jr_istore (lv' := [(5, .int (0 : Int32)), (4, .int (0 : Int32)), (0, .ref (E.B + a0)), (1, .int v1), (2, .int v2), (3, .int v3)]) hG dX6_odds_24 (by decide) rfl ?_
      refine jr_sub (lv' := [(0, .ref (E.B + a0)), (1, .int v1), (2, .int v2), (3, .int v3), (4, .int (0 : Int32)), (5, .int (0 : Int32))]) [2, 3, 4, 5, 1, 0] rfl ?_
      exact w_X6_odds_26 N hG hr hk N a0 v1 v2 v3 (0 : Int32) (0 : Int32) ha0 t3
    · refine jr_iconst (v := (-1 : Int32)) hG dX6_odds_18 (by decide) ?_
      exact jr_iret hG hr hk dX6_odds_19
-- TonguesDealtModel.times(I)I
abbrev rm_X6_times : Room := { frames := 0, cells := 0, slots := 0, locals := 0 }
theorem ci_X6_times : CIx yX6_times cX6_times 3 (some .int) 1 := ⟨wd_1154, wd_77, by decide +kernel⟩
def f_X6_times_4 (N : Nat)  : Nat → Int32 → Int32 → Int32 → Mm → Option (Int32 × Mm)
  | 0 => fun _ _ _ _ => none
  | n + 1 => fun v0 v1 v2 σ => if v0 < v2 then (some (v1, σ)) else (lt (v1 * v2) (fun x1 => f_X6_times_4 N n v0 x1 (v2 + (1 : Int32)) (σ)))
set_option maxRecDepth 20000 in
theorem w_X6_times_4 {p : Program} {l : Launch} {e : Env} {s : State} {m : MethodId} {args : Array Value} {below : List Frame} {meth : Method} {c : Code} {E : XE} (N : Nat) (hG : GG E NT 3 RX6 cX6_times p s m args c) (hr : meth.sig.returnType = (some .int)) (hk : meth.locks = false)  : ∀ (n : Nat) (v0 : Int32) (v1 : Int32) (v2 : Int32)  (σ : Mm), JR E NT 3 p l e rm_X6_times s m args below meth c 0 0 (fun r => MQ below (xQi E (NT + 0) r) args s 0 0 (xA E)) 4 [(0, .int v0), (1, .int v1), (2, .int v2)] [] σ (f_X6_times_4 N n v0 v1 v2 σ) := by
  intro n
  induction n with
  | zero => intro v0 v1 v2 σ r hX; cases hX
  | succ n ih =>
    intro v0 v1 v2 σ
    show JR E NT 3 p l e rm_X6_times s m args below meth c 0 0 (fun r => MQ below (xQi E (NT + 0) r) args s 0 0 (xA E)) 4 [(0, .int v0), (1, .int v1), (2, .int v2)] [] σ (if v0 < v2 then (some (v1, σ)) else (lt (v1 * v2) (fun x1 => f_X6_times_4 N n v0 x1 (v2 + (1 : Int32)) (σ))))
    refine jr_iload_n hG 2 dX6_times_4 rfl rfl ?_
    refine jr_iload_n hG 0 dX6_times_5 rfl rfl ?_
    refine jr_icmp_gt hG 19 dX6_times_6 (by decide) (fun _ => ?_) (fun _ => ?_)
    · refine jr_iload_n hG 1 dX6_times_19 rfl rfl ?_
      exact jr_iret hG hr hk dX6_times_20
    · refine jr_iload_n hG 1 dX6_times_9 rfl rfl ?_
      refine jr_iload_n hG 2 dX6_times_10 rfl rfl ?_
      refine jr_imul hG dX6_times_11 ?_
      refine jr_leti (fun x1 _ => ?_)
      refine jr_istore_n (lv' := [(1, .int x1), (0, .int v0), (2, .int v2)]) hG dX6_times_12 rfl (by decide) rfl ?_
      refine jr_iinc (v := v2 + (1 : Int32)) (lv' := [(2, .int (v2 + (1 : Int32))), (1, .int x1), (0, .int v0)]) hG 2 dX6_times_13 rfl rfl (by decide) rfl ?_
      refine jr_goto hG 4 dX6_times_16 (by decide) ?_
      refine jr_sub (lv' := [(0, .int v0), (1, .int x1), (2, .int (v2 + (1 : Int32)))]) [2, 1, 0] rfl ?_
      exact ih v0 x1 (v2 + (1 : Int32)) (σ)
def f_X6_times (N : Nat) (v0 : Int32) (σ : Mm) : Option (Int32 × Mm) := f_X6_times_4 N N v0 (1 : Int32) (2 : Int32) (σ)
set_option maxRecDepth 20000 in
theorem c_X6_times (l : Launch) (E : XE) (N : Nat) (v0 : Int32) (σ : Mm) : ∀ r0, f_X6_times N v0 σ = some r0 → Met l yX6_times [Cond.code yX6_times cX6_times 3 (some .int)] rm_X6_times (xPc E (NT + 0) σ [.int v0]) (xQi E (NT + 0) r0) 0 0 (xA E) := by
  refine met_of (N0 := NT) (by decide +kernel) (Nat.le_of_ble_eq_true rfl) ?_
  intro p e s m args below meth c hG hr hk _
  show JR E NT 3 p l e rm_X6_times s m args below meth c 0 0 (fun r => MQ below (xQi E (NT + 0) r) args s 0 0 (xA E)) 0 [(0, .int v0)] [] σ (f_X6_times_4 N N v0 (1 : Int32) (2 : Int32) (σ))
  refine jr_iconst (v := (1 : Int32)) hG dX6_times_0 (by decide) ?_
  refine jr_istore_n (lv' := [(1, .int (1 : Int32)), (0, .int v0)]) hG dX6_times_1 rfl (by decide) rfl ?_
  refine jr_iconst (v := (2 : Int32)) hG dX6_times_2 (by decide) ?_
  refine jr_istore_n (lv' := [(2, .int (2 : Int32)), (1, .int (1 : Int32)), (0, .int v0)]) hG dX6_times_3 rfl (by decide) rfl ?_
  refine jr_sub (lv' := [(0, .int v0), (1, .int (1 : Int32)), (2, .int (2 : Int32))]) [2, 1, 0] rfl ?_
  exact w_X6_times_4 N hG hr hk N v0 (1 : Int32) (2 : Int32) (σ)
-- TonguesDealtModel.part(III)I
abbrev rm_X6_part : Room := { frames := 5, cells := 0, slots := 0, locals := 112 }
theorem ci_X6_part : CIx yX6_part cX6_part 8 (some .int) 3 := ⟨wd_1151, wd_77, by decide +kernel⟩
def f_X6_part_208 (N : Nat) (K94 : Nat → Int32 → Int32 → Int32 → Int32 → Int32 → Mm → Option (Int32 × Mm)) (a0 : Nat) (v1 : Int32) (v2 : Int32) (v3 : Int32) (v4 : Int32) (v5 : Int32) (σ : Mm) : Option (Int32 × Mm) := K94 a0 v1 v2 v3 v4 (v5 + (1 : Int32)) (σ)
set_option maxRecDepth 20000 in
theorem w_X6_part_208 {p : Program} {l : Launch} {e : Env} {s : State} {m : MethodId} {args : Array Value} {below : List Frame} {meth : Method} {c : Code} {E : XE} (N : Nat) (hG : GG E NT 8 RX6 cX6_part p s m args c) (hr : meth.sig.returnType = (some .int)) (hk : meth.locks = false) {K94 : Nat → Int32 → Int32 → Int32 → Int32 → Int32 → Mm → Option (Int32 × Mm)} (hK94 : ∀ (a0 : Nat) (v1 : Int32) (v2 : Int32) (v3 : Int32) (v4 : Int32) (v5 : Int32) (ha0 : okO 6 a0 = true) (σ : Mm), JR E NT 8 p l e rm_X6_part s m args below meth c 0 0 (fun r => MQ below (xQi E (NT + 0) r) args s 0 0 (xA E)) 94 [(0, .ref (E.B + a0)), (1, .int v1), (2, .int v2), (3, .int v3), (4, .int v4), (5, .int v5)] [] σ (K94 a0 v1 v2 v3 v4 v5 σ)) (a0 : Nat) (v1 : Int32) (v2 : Int32) (v3 : Int32) (v4 : Int32) (v5 : Int32) (ha0 : okO 6 a0 = true) (σ : Mm) : JR E NT 8 p l e rm_X6_part s m args below meth c 0 0 (fun r => MQ below (xQi E (NT + 0) r) args s 0 0 (xA E)) 208 [(0, .ref (E.B + a0)), (1, .int v1), (2, .int v2), (3, .int v3), (4, .int v4), (5, .int v5)] [] σ (f_X6_part_208 N K94 a0 v1 v2 v3 v4 v5 σ) := by
  show JR E NT 8 p l e rm_X6_part s m args below meth c 0 0 (fun r => MQ below (xQi E (NT + 0) r) args s 0 0 (xA E)) 208 [(0, .ref (E.B + a0)), (1, .int v1), (2, .int v2), (3, .int v3), (4, .int v4), (5, .int v5)] [] σ (K94 a0 v1 v2 v3 v4 (v5 + (1 : Int32)) (σ))
  refine jr_iinc (v := v5 + (1 : Int32)) (lv' := [(5, .int (v5 + (1 : Int32))), (0, .ref (E.B + a0)), (1, .int v1), (2, .int v2), (3, .int v3), (4, .int v4)]) hG 5 dX6_part_208 rfl rfl (by decide) rfl ?_
  refine jr_goto hG 94 dX6_part_211 (by decide) ?_
  refine jr_sub (lv' := [(0, .ref (E.B + a0)), (1, .int v1), (2, .int v2), (3, .int v3), (4, .int v4), (5, .int (v5 + (1 : Int32)))]) [1, 2, 3, 4, 5, 0] rfl ?_
  exact hK94 a0 v1 v2 v3 v4 (v5 + (1 : Int32)) ha0 (σ)
def f_X6_part_204 (N : Nat) (K94 : Nat → Int32 → Int32 → Int32 → Int32 → Int32 → Mm → Option (Int32 × Mm)) (a0 : Nat) (v1 : Int32) (v2 : Int32) (v3 : Int32) (v4 : Int32) (v5 : Int32) (s0 : Int32) (s1 : Int32) (b2 : Nat) (σ : Mm) : Option (Int32 × Mm) := lt (si σ b2 31 (s1 + s0)) (fun t40 => f_X6_part_208 N K94 a0 v1 v2 v3 v4 v5 t40)
set_option maxRecDepth 20000 in
theorem w_X6_part_204 {p : Program} {l : Launch} {e : Env} {s : State} {m : MethodId} {args : Array Value} {below : List Frame} {meth : Method} {c : Code} {E : XE} (N : Nat) (hG : GG E NT 8 RX6 cX6_part p s m args c) (hr : meth.sig.returnType = (some .int)) (hk : meth.locks = false) {K94 : Nat → Int32 → Int32 → Int32 → Int32 → Int32 → Mm → Option (Int32 × Mm)} (hK94 : ∀ (a0 : Nat) (v1 : Int32) (v2 : Int32) (v3 : Int32) (v4 : Int32) (v5 : Int32) (ha0 : okO 6 a0 = true) (σ : Mm), JR E NT 8 p l e rm_X6_part s m args below meth c 0 0 (fun r => MQ below (xQi E (NT + 0) r) args s 0 0 (xA E)) 94 [(0, .ref (E.B + a0)), (1, .int v1), (2, .int v2), (3, .int v3), (4, .int v4), (5, .int v5)] [] σ (K94 a0 v1 v2 v3 v4 v5 σ)) (a0 : Nat) (v1 : Int32) (v2 : Int32) (v3 : Int32) (v4 : Int32) (v5 : Int32) (s0 : Int32) (s1 : Int32) (b2 : Nat) (ha0 : okO 6 a0 = true) (hb2 : okO 6 b2 = true) (σ : Mm) : JR E NT 8 p l e rm_X6_part s m args below meth c 0 0 (fun r => MQ below (xQi E (NT + 0) r) args s 0 0 (xA E)) 204 [(0, .ref (E.B + a0)), (1, .int v1), (2, .int v2), (3, .int v3), (4, .int v4), (5, .int v5)] [.int s0, .int s1, .ref (E.B + b2)] σ (f_X6_part_204 N K94 a0 v1 v2 v3 v4 v5 s0 s1 b2 σ) := by
  show JR E NT 8 p l e rm_X6_part s m args below meth c 0 0 (fun r => MQ below (xQi E (NT + 0) r) args s 0 0 (xA E)) 204 [(0, .ref (E.B + a0)), (1, .int v1), (2, .int v2), (3, .int v3), (4, .int v4), (5, .int v5)] [.int s0, .int s1, .ref (E.B + b2)] σ (lt (si σ b2 31 (s1 + s0)) (fun t40 => f_X6_part_208 N K94 a0 v1 v2 v3 v4 v5 t40))
  refine jr_iadd hG dX6_part_204 ?_
  refine jr_putI hG fi_RX6_267 rfl rfl (okO_s hb2) (okO_l hb2) dX6_part_205 ?_
  refine jr_lets (fun t40 _ => ?_)
  exact w_X6_part_208 N hG hr hk hK94 a0 v1 v2 v3 v4 v5 ha0 t40
def f_X6_part_175 (N : Nat) (K94 : Nat → Int32 → Int32 → Int32 → Int32 → Int32 → Mm → Option (Int32 × Mm)) (a0 : Nat) (v1 : Int32) (v2 : Int32) (v3 : Int32) (v4 : Int32) (v5 : Int32) (v6 : Int32) (s0 : Int32) (σ : Mm) : Option (Int32 × Mm) := lt (si σ a0 32 ((gi σ a0 32) + v6)) (fun t39 => if s0 = 0 then (f_X6_part_204 N K94 a0 v1 v2 v3 v4 v5 (0 : Int32) (gi t39 a0 31) a0 t39) else (f_X6_part_204 N K94 a0 v1 v2 v3 v4 v5 v6 (gi t39 a0 31) a0 t39))
set_option maxRecDepth 20000 in
theorem w_X6_part_175 {p : Program} {l : Launch} {e : Env} {s : State} {m : MethodId} {args : Array Value} {below : List Frame} {meth : Method} {c : Code} {E : XE} (N : Nat) (hG : GG E NT 8 RX6 cX6_part p s m args c) (hr : meth.sig.returnType = (some .int)) (hk : meth.locks = false) {K94 : Nat → Int32 → Int32 → Int32 → Int32 → Int32 → Mm → Option (Int32 × Mm)} (hK94 : ∀ (a0 : Nat) (v1 : Int32) (v2 : Int32) (v3 : Int32) (v4 : Int32) (v5 : Int32) (ha0 : okO 6 a0 = true) (σ : Mm), JR E NT 8 p l e rm_X6_part s m args below meth c 0 0 (fun r => MQ below (xQi E (NT + 0) r) args s 0 0 (xA E)) 94 [(0, .ref (E.B + a0)), (1, .int v1), (2, .int v2), (3, .int v3), (4, .int v4), (5, .int v5)] [] σ (K94 a0 v1 v2 v3 v4 v5 σ)) (a0 : Nat) (v1 : Int32) (v2 : Int32) (v3 : Int32) (v4 : Int32) (v5 : Int32) (v6 : Int32) (s0 : Int32) (ha0 : okO 6 a0 = true) (σ : Mm) : JR E NT 8 p l e rm_X6_part s m args below meth c 0 0 (fun r => MQ below (xQi E (NT + 0) r) args s 0 0 (xA E)) 175 [(0, .ref (E.B + a0)), (1, .int v1), (2, .int v2), (3, .int v3), (4, .int v4), (5, .int v5), (6, .int v6)] [.int s0] σ (f_X6_part_175 N K94 a0 v1 v2 v3 v4 v5 v6 s0 σ) := by
  show JR E NT 8 p l e rm_X6_part s m args below meth c 0 0 (fun r => MQ below (xQi E (NT + 0) r) args s 0 0 (xA E)) 175 [(0, .ref (E.B + a0)), (1, .int v1), (2, .int v2), (3, .int v3), (4, .int v4), (5, .int v5), (6, .int v6)] [.int s0] σ (lt (si σ a0 32 ((gi σ a0 32) + v6)) (fun t39 => if s0 = 0 then (f_X6_part_204 N K94 a0 v1 v2 v3 v4 v5 (0 : Int32) (gi t39 a0 31) a0 t39) else (f_X6_part_204 N K94 a0 v1 v2 v3 v4 v5 v6 (gi t39 a0 31) a0 t39)))
  refine jr_istore (lv' := [(7, .int s0), (0, .ref (E.B + a0)), (1, .int v1), (2, .int v2), (3, .int v3), (4, .int v4), (5, .int v5), (6, .int v6)]) hG dX6_part_175 (by decide) rfl ?_
  refine jr_aload_n hG 1 dX6_part_177 rfl rfl ?_
  refine jr_dup hG dX6_part_178 rfl ?_
  refine jr_getI hG fi_RX6_270 rfl (okO_s ha0) (okO_l ha0) dX6_part_179 ?_
  refine jr_iload hG 7 dX6_part_182 rfl ?_
  refine jr_iadd hG dX6_part_184 ?_
  refine jr_putI hG fi_RX6_270 rfl rfl (okO_s ha0) (okO_l ha0) dX6_part_185 ?_
  refine jr_lets (fun t39 _ => ?_)
  refine jr_aload_n hG 1 dX6_part_188 rfl rfl ?_
  refine jr_dup hG dX6_part_189 rfl ?_
  refine jr_getI hG fi_RX6_267 rfl (okO_s ha0) (okO_l ha0) dX6_part_190 ?_
  refine jr_iload hG 0 dX6_part_193 rfl ?_
  refine jr_if_eq hG 203 dX6_part_195 (by decide) (fun _ => ?_) (fun _ => ?_)
  · refine jr_iconst (v := (0 : Int32)) hG dX6_part_203 (by decide) ?_
    refine jr_sub (lv' := [(0, .ref (E.B + a0)), (1, .int v1), (2, .int v2), (3, .int v3), (4, .int v4), (5, .int v5)]) [1, 2, 3, 4, 5, 6] rfl ?_
    exact w_X6_part_204 N hG hr hk hK94 a0 v1 v2 v3 v4 v5 (0 : Int32) (gi t39 a0 31) a0 ha0 ha0 t39
  · refine jr_iload hG 7 dX6_part_198 rfl ?_
    refine jr_goto hG 204 dX6_part_200 (by decide) ?_
    refine jr_sub (lv' := [(0, .ref (E.B + a0)), (1, .int v1), (2, .int v2), (3, .int v3), (4, .int v4), (5, .int v5)]) [1, 2, 3, 4, 5, 6] rfl ?_
    exact w_X6_part_204 N hG hr hk hK94 a0 v1 v2 v3 v4 v5 v6 (gi t39 a0 31) a0 ha0 ha0 t39
def f_X6_part_174 (N : Nat) (K94 : Nat → Int32 → Int32 → Int32 → Int32 → Int32 → Mm → Option (Int32 × Mm)) (a0 : Nat) (v1 : Int32) (v2 : Int32) (v3 : Int32) (v4 : Int32) (v5 : Int32) (v6 : Int32) (σ : Mm) : Option (Int32 × Mm) := f_X6_part_175 N K94 a0 v1 v2 v3 v4 v5 v6 (0 : Int32) (σ)
set_option maxRecDepth 20000 in
theorem w_X6_part_174 {p : Program} {l : Launch} {e : Env} {s : State} {m : MethodId} {args : Array Value} {below : List Frame} {meth : Method} {c : Code} {E : XE} (N : Nat) (hG : GG E NT 8 RX6 cX6_part p s m args c) (hr : meth.sig.returnType = (some .int)) (hk : meth.locks = false) {K94 : Nat → Int32 → Int32 → Int32 → Int32 → Int32 → Mm → Option (Int32 × Mm)} (hK94 : ∀ (a0 : Nat) (v1 : Int32) (v2 : Int32) (v3 : Int32) (v4 : Int32) (v5 : Int32) (ha0 : okO 6 a0 = true) (σ : Mm), JR E NT 8 p l e rm_X6_part s m args below meth c 0 0 (fun r => MQ below (xQi E (NT + 0) r) args s 0 0 (xA E)) 94 [(0, .ref (E.B + a0)), (1, .int v1), (2, .int v2), (3, .int v3), (4, .int v4), (5, .int v5)] [] σ (K94 a0 v1 v2 v3 v4 v5 σ)) (a0 : Nat) (v1 : Int32) (v2 : Int32) (v3 : Int32) (v4 : Int32) (v5 : Int32) (v6 : Int32) (ha0 : okO 6 a0 = true) (σ : Mm) : JR E NT 8 p l e rm_X6_part s m args below meth c 0 0 (fun r => MQ below (xQi E (NT + 0) r) args s 0 0 (xA E)) 174 [(0, .ref (E.B + a0)), (1, .int v1), (2, .int v2), (3, .int v3), (4, .int v4), (5, .int v5), (6, .int v6)] [] σ (f_X6_part_174 N K94 a0 v1 v2 v3 v4 v5 v6 σ) := by
  show JR E NT 8 p l e rm_X6_part s m args below meth c 0 0 (fun r => MQ below (xQi E (NT + 0) r) args s 0 0 (xA E)) 174 [(0, .ref (E.B + a0)), (1, .int v1), (2, .int v2), (3, .int v3), (4, .int v4), (5, .int v5), (6, .int v6)] [] σ (f_X6_part_175 N K94 a0 v1 v2 v3 v4 v5 v6 (0 : Int32) (σ))
  refine jr_iconst (v := (0 : Int32)) hG dX6_part_174 (by decide) ?_
  exact w_X6_part_175 N hG hr hk hK94 a0 v1 v2 v3 v4 v5 v6 (0 : Int32) ha0 (σ)
def f_X6_part_94 (N : Nat)  : Nat → Nat → Int32 → Int32 → Int32 → Int32 → Int32 → Mm → Option (Int32 × Mm)
  | 0 => fun _ _ _ _ _ _ _ => none
  | n + 1 => fun a0 v1 v2 v3 v4 v5 σ => bI (f_X6_everybody N a0 (σ)) (fun r17 t16 => if r17 < v5 then (bI (f_X6_fraction N a0 (gi t16 a0 31) (gi t16 a0 32) t16) (fun r19 t18 => some (r19, t18))) else (if (v5 &&& (v4 ^^^ (-1 : Int32))) = 0 then (bI (f_X6_bits N v5 t16) (fun r21 t20 => bI (f_X6_times N r21 t20) (fun r23 t22 => bI (f_X6_bits N v4 t22) (fun r25 t24 => bI (f_X6_bits N v5 t24) (fun r27 t26 => bI (f_X6_times N (r25 - r27) t26) (fun r29 t28 => lt (r23 * r29) (fun x30 => bI (f_X6_reaches N a0 v1 (v5 ||| ((1 : Int32) <<< (v3 &&& 31))) t28) (fun r32 t31 => bI (f_X6_has N r32 v2 t31) (fun r34 t33 => if r34 = 0 then (f_X6_part_174 N (f_X6_part_94 N n) a0 v1 v2 v3 v4 v5 x30 t33) else (bI (f_X6_reaches N a0 v1 v5 t33) (fun r36 t35 => bI (f_X6_has N r36 v2 t35) (fun r38 t37 => if r38 = 0 then (f_X6_part_175 N (f_X6_part_94 N n) a0 v1 v2 v3 v4 v5 x30 (1 : Int32) t37) else (f_X6_part_174 N (f_X6_part_94 N n) a0 v1 v2 v3 v4 v5 x30 t37))))))))))))) else (f_X6_part_208 N (f_X6_part_94 N n) a0 v1 v2 v3 v4 v5 t16)))
set_option maxRecDepth 20000 in
theorem w_X6_part_94 {p : Program} {l : Launch} {e : Env} {s : State} {m : MethodId} {args : Array Value} {below : List Frame} {meth : Method} {c : Code} {E : XE} (N : Nat) (hG : GG E NT 8 RX6 cX6_part p s m args c) (hr : meth.sig.returnType = (some .int)) (hk : meth.locks = false)  : ∀ (n : Nat) (a0 : Nat) (v1 : Int32) (v2 : Int32) (v3 : Int32) (v4 : Int32) (v5 : Int32) (ha0 : okO 6 a0 = true) (σ : Mm), JR E NT 8 p l e rm_X6_part s m args below meth c 0 0 (fun r => MQ below (xQi E (NT + 0) r) args s 0 0 (xA E)) 94 [(0, .ref (E.B + a0)), (1, .int v1), (2, .int v2), (3, .int v3), (4, .int v4), (5, .int v5)] [] σ (f_X6_part_94 N n a0 v1 v2 v3 v4 v5 σ) := by
  intro n
  induction n with
  | zero => intro a0 v1 v2 v3 v4 v5 ha0 σ r hX; cases hX
  | succ n ih =>
    intro a0 v1 v2 v3 v4 v5 ha0 σ
    show JR E NT 8 p l e rm_X6_part s m args below meth c 0 0 (fun r => MQ below (xQi E (NT + 0) r) args s 0 0 (xA E)) 94 [(0, .ref (E.B + a0)), (1, .int v1), (2, .int v2), (3, .int v3), (4, .int v4), (5, .int v5)] [] σ (bI (f_X6_everybody N a0 (σ)) (fun r17 t16 => if r17 < v5 then (bI (f_X6_fraction N a0 (gi t16 a0 31) (gi t16 a0 32) t16) (fun r19 t18 => some (r19, t18))) else (if (v5 &&& (v4 ^^^ (-1 : Int32))) = 0 then (bI (f_X6_bits N v5 t16) (fun r21 t20 => bI (f_X6_times N r21 t20) (fun r23 t22 => bI (f_X6_bits N v4 t22) (fun r25 t24 => bI (f_X6_bits N v5 t24) (fun r27 t26 => bI (f_X6_times N (r25 - r27) t26) (fun r29 t28 => lt (r23 * r29) (fun x30 => bI (f_X6_reaches N a0 v1 (v5 ||| ((1 : Int32) <<< (v3 &&& 31))) t28) (fun r32 t31 => bI (f_X6_has N r32 v2 t31) (fun r34 t33 => if r34 = 0 then (f_X6_part_174 N (f_X6_part_94 N n) a0 v1 v2 v3 v4 v5 x30 t33) else (bI (f_X6_reaches N a0 v1 v5 t33) (fun r36 t35 => bI (f_X6_has N r36 v2 t35) (fun r38 t37 => if r38 = 0 then (f_X6_part_175 N (f_X6_part_94 N n) a0 v1 v2 v3 v4 v5 x30 (1 : Int32) t37) else (f_X6_part_174 N (f_X6_part_94 N n) a0 v1 v2 v3 v4 v5 x30 t37))))))))))))) else (f_X6_part_208 N (f_X6_part_94 N n) a0 v1 v2 v3 v4 v5 t16))))
    refine jr_iload hG 5 dX6_part_94 rfl ?_
    refine jr_aload_n hG 0 dX6_part_96 rfl rfl ?_
    refine jr_callVi (As := []) hG (c_X6_everybody l E N a0 (σ)) ci_X6_everybody wd_1064 ⟨wd_1066, wd_46⟩ cl_6 (okO_s ha0) (okO_l ha0) ⟨rfl, rfl, Nat.le_of_ble_eq_true rfl, Nat.le_of_ble_eq_true rfl⟩ rfl rfl (Nat.le_of_ble_eq_true rfl) dX6_part_97 ⟨Nat.le_refl _, Nat.le_refl _⟩ (fun r17 t16 => ?_)
    refine jr_icmp_gt hG 214 dX6_part_100 (by decide) (fun _ => ?_) (fun _ => ?_)
    · refine jr_aload_n hG 0 dX6_part_214 rfl rfl ?_
      refine jr_aload_n hG 0 dX6_part_215 rfl rfl ?_
      refine jr_getI hG fi_RX6_267 rfl (okO_s ha0) (okO_l ha0) dX6_part_216 ?_
      refine jr_aload_n hG 0 dX6_part_219 rfl rfl ?_
      refine jr_getI hG fi_RX6_270 rfl (okO_s ha0) (okO_l ha0) dX6_part_220 ?_
      refine jr_callVi (As := [.int (gi t16 a0 31), .int (gi t16 a0 32)]) hG (c_X6_fraction l E N a0 (gi t16 a0 31) (gi t16 a0 32) t16) ci_X6_fraction wd_1144 ⟨wd_1146, wd_61⟩ cl_6 (okO_s ha0) (okO_l ha0) ⟨rfl, rfl, Nat.le_of_ble_eq_true rfl, Nat.le_of_ble_eq_true rfl⟩ rfl rfl (Nat.le_of_ble_eq_true rfl) dX6_part_223 ⟨Nat.le_refl _, Nat.le_refl _⟩ (fun r19 t18 => ?_)
      exact jr_iret hG hr hk dX6_part_226
    · refine jr_iload hG 5 dX6_part_103 rfl ?_
      refine jr_iload hG 4 dX6_part_105 rfl ?_
      refine jr_iconst (v := (-1 : Int32)) hG dX6_part_107 (by decide) ?_
      refine jr_ixor hG dX6_part_108 ?_
      refine jr_iand hG dX6_part_109 ?_
      refine jr_if_ne hG 208 dX6_part_110 (by decide) (fun _ => ?_) (fun _ => ?_)
      · exact w_X6_part_208 N hG hr hk ih a0 v1 v2 v3 v4 v5 ha0 t16
      · refine jr_iload hG 5 dX6_part_113 rfl ?_
        refine jr_callSi (As := [.int v5]) hG (c_X6_bits l E N v5 t16) ci_X6_bits wd_973 wd_974 ⟨rfl, rfl, Nat.le_of_ble_eq_true rfl, Nat.le_of_ble_eq_true rfl⟩ rfl rfl (Nat.le_of_ble_eq_true rfl) dX6_part_115 ⟨Nat.le_refl _, Nat.le_refl _⟩ (fun r21 t20 => ?_)
        refine jr_callSi (As := [.int r21]) hG (c_X6_times l E N r21 t20) ci_X6_times wd_1152 wd_1153 ⟨rfl, rfl, Nat.le_of_ble_eq_true rfl, Nat.le_of_ble_eq_true rfl⟩ rfl rfl (Nat.le_of_ble_eq_true rfl) dX6_part_118 ⟨Nat.le_refl _, Nat.le_refl _⟩ (fun r23 t22 => ?_)
        refine jr_iload hG 4 dX6_part_121 rfl ?_
        refine jr_callSi (As := [.int v4]) hG (c_X6_bits l E N v4 t22) ci_X6_bits wd_973 wd_974 ⟨rfl, rfl, Nat.le_of_ble_eq_true rfl, Nat.le_of_ble_eq_true rfl⟩ rfl rfl (Nat.le_of_ble_eq_true rfl) dX6_part_123 ⟨Nat.le_refl _, Nat.le_refl _⟩ (fun r25 t24 => ?_)
        refine jr_iload hG 5 dX6_part_126 rfl ?_
        refine jr_callSi (As := [.int v5]) hG (c_X6_bits l E N v5 t24) ci_X6_bits wd_973 wd_974 ⟨rfl, rfl, Nat.le_of_ble_eq_true rfl, Nat.le_of_ble_eq_true rfl⟩ rfl rfl (Nat.le_of_ble_eq_true rfl) dX6_part_128 ⟨Nat.le_refl _, Nat.le_refl _⟩ (fun r27 t26 => ?_)
        refine jr_isub hG dX6_part_131 ?_
        refine jr_callSi (As := [.int (r25 - r27)]) hG (c_X6_times l E N (r25 - r27) t26) ci_X6_times wd_1152 wd_1153 ⟨rfl, rfl, Nat.le_of_ble_eq_true rfl, Nat.le_of_ble_eq_true rfl⟩ rfl rfl (Nat.le_of_ble_eq_true rfl) dX6_part_132 ⟨Nat.le_refl _, Nat.le_refl _⟩ (fun r29 t28 => ?_)
        refine jr_imul hG dX6_part_135 ?_
        refine jr_leti (fun x30 _ => ?_)
        refine jr_istore (lv' := [(6, .int x30), (0, .ref (E.B + a0)), (1, .int v1), (2, .int v2), (3, .int v3), (4, .int v4), (5, .int v5)]) hG dX6_part_136 (by decide) rfl ?_
        refine jr_aload_n hG 1 dX6_part_138 rfl rfl ?_
        refine jr_iload_n hG 2 dX6_part_139 rfl rfl ?_
        refine jr_iload hG 6 dX6_part_140 rfl ?_
        refine jr_iconst (v := (1 : Int32)) hG dX6_part_142 (by decide) ?_
        refine jr_iload_n hG 4 dX6_part_143 rfl rfl ?_
        refine jr_ishl hG dX6_part_144 ?_
        refine jr_ior hG dX6_part_145 ?_
        refine jr_callVi (As := [.int v1, .int (v5 ||| ((1 : Int32) <<< (v3 &&& 31)))]) hG (c_X6_reaches l E N a0 v1 (v5 ||| ((1 : Int32) <<< (v3 &&& 31))) t28) ci_X6_reaches wd_1068 ⟨wd_1070, wd_47⟩ cl_6 (okO_s ha0) (okO_l ha0) ⟨rfl, rfl, Nat.le_of_ble_eq_true rfl, Nat.le_of_ble_eq_true rfl⟩ rfl rfl (Nat.le_of_ble_eq_true rfl) dX6_part_146 ⟨Nat.le_refl _, Nat.le_refl _⟩ (fun r32 t31 => ?_)
        refine jr_iload_n hG 3 dX6_part_149 rfl rfl ?_
        refine jr_callSi (As := [.int r32, .int v2]) hG (c_X6_has l E N r32 v2 t31) ci_X6_has wd_932 wd_933 ⟨rfl, rfl, Nat.le_of_ble_eq_true rfl, Nat.le_of_ble_eq_true rfl⟩ rfl rfl (Nat.le_of_ble_eq_true rfl) dX6_part_150 ⟨Nat.le_refl _, Nat.le_refl _⟩ (fun r34 t33 => ?_)
        refine jr_if_eq hG 174 dX6_part_153 (by decide) (fun _ => ?_) (fun _ => ?_)
        · refine jr_sub (lv' := [(0, .ref (E.B + a0)), (1, .int v1), (2, .int v2), (3, .int v3), (4, .int v4), (5, .int v5), (6, .int x30)]) [1, 2, 3, 4, 5, 6, 0] rfl ?_
          exact w_X6_part_174 N hG hr hk ih a0 v1 v2 v3 v4 v5 x30 ha0 t33
        · refine jr_aload_n hG 1 dX6_part_156 rfl rfl ?_
          refine jr_iload_n hG 2 dX6_part_157 rfl rfl ?_
          refine jr_iload hG 6 dX6_part_158 rfl ?_
          refine jr_callVi (As := [.int v1, .int v5]) hG (c_X6_reaches l E N a0 v1 v5 t33) ci_X6_reaches wd_1068 ⟨wd_1070, wd_47⟩ cl_6 (okO_s ha0) (okO_l ha0) ⟨rfl, rfl, Nat.le_of_ble_eq_true rfl, Nat.le_of_ble_eq_true rfl⟩ rfl rfl (Nat.le_of_ble_eq_true rfl) dX6_part_160 ⟨Nat.le_refl _, Nat.le_refl _⟩ (fun r36 t35 => ?_)
          refine jr_iload_n hG 3 dX6_part_163 rfl rfl ?_
          refine jr_callSi (As := [.int r36, .int v2]) hG (c_X6_has l E N r36 v2 t35) ci_X6_has wd_932 wd_933 ⟨rfl, rfl, Nat.le_of_ble_eq_true rfl, Nat.le_of_ble_eq_true rfl⟩ rfl rfl (Nat.le_of_ble_eq_true rfl) dX6_part_164 ⟨Nat.le_refl _, Nat.le_refl _⟩ (fun r38 t37 => ?_)
          refine jr_if_ne hG 174 dX6_part_167 (by decide) (fun _ => ?_) (fun _ => ?_)
          · refine jr_sub (lv' := [(0, .ref (E.B + a0)), (1, .int v1), (2, .int v2), (3, .int v3), (4, .int v4), (5, .int v5), (6, .int x30)]) [1, 2, 3, 4, 5, 6, 0] rfl ?_
            exact w_X6_part_174 N hG hr hk ih a0 v1 v2 v3 v4 v5 x30 ha0 t37
          · refine jr_iconst (v := (1 : Int32)) hG dX6_part_170 (by decide) ?_
            refine jr_goto hG 175 dX6_part_171 (by decide) ?_
            refine jr_sub (lv' := [(0, .ref (E.B + a0)), (1, .int v1), (2, .int v2), (3, .int v3), (4, .int v4), (5, .int v5), (6, .int x30)]) [1, 2, 3, 4, 5, 6, 0] rfl ?_
            exact w_X6_part_175 N hG hr hk ih a0 v1 v2 v3 v4 v5 x30 (1 : Int32) ha0 t37
def f_X6_part_58 (N : Nat)   (σ : Mm) : Option (Int32 × Mm) := some ((-4 : Int32), σ)
set_option maxRecDepth 20000 in
theorem w_X6_part_58 {p : Program} {l : Launch} {e : Env} {s : State} {m : MethodId} {args : Array Value} {below : List Frame} {meth : Method} {c : Code} {E : XE} (N : Nat) (hG : GG E NT 8 RX6 cX6_part p s m args c) (hr : meth.sig.returnType = (some .int)) (hk : meth.locks = false)    (σ : Mm) : JR E NT 8 p l e rm_X6_part s m args below meth c 0 0 (fun r => MQ below (xQi E (NT + 0) r) args s 0 0 (xA E)) 58 [] [] σ (f_X6_part_58 N σ) := by
  show JR E NT 8 p l e rm_X6_part s m args below meth c 0 0 (fun r => MQ below (xQi E (NT + 0) r) args s 0 0 (xA E)) 58 [] [] σ (some ((-4 : Int32), σ))
  refine jr_bipush (v := (-4 : Int32)) hG dX6_part_58 (by decide) ?_
  exact jr_iret hG hr hk dX6_part_60
def f_X6_part (N : Nat) (a0 : Nat) (v1 : Int32) (v2 : Int32) (v3 : Int32) (σ : Mm) : Option (Int32 × Mm) := if okO 6 a0 then (bI (f_X6_areTwo N a0 v1 v2 (σ)) (fun r2 t1 => if r2 = 0 then (some ((-1 : Int32), t1)) else (bI (f_X6_isPerson N a0 v3 t1) (fun r4 t3 => if r4 = 0 then (some ((-1 : Int32), t3)) else (if v3 = v1 then (some ((-1 : Int32), t3)) else (if v3 = v2 then (some ((-1 : Int32), t3)) else (bR (gr t3 a0 19) (okA 0) (fun o5 => bV (f_X6_layTells N a0 o5 t3) (fun t6 => bI (f_X6_stepsOf N a0 v1 v2 t6) (fun r8 t7 => if r8 = (-9 : Int32) then (f_X6_part_58 N t7) else (bI (f_X6_stepsOf N a0 v1 v2 t7) (fun r10 t9 => if r10 = (1 : Int32) then (f_X6_part_58 N t9) else (lt (si t9 a0 31 (0 : Int32)) (fun t11 => lt (si t11 a0 32 (0 : Int32)) (fun t12 => bI (f_X6_everybody N a0 t12) (fun r14 t13 => lt (r14 &&& (((((1 : Int32) <<< (v1 &&& 31)) ||| ((1 : Int32) <<< (v2 &&& 31))) ||| ((1 : Int32) <<< (v3 &&& 31))) ^^^ (-1 : Int32))) (fun x15 => f_X6_part_94 N N a0 v1 v2 v3 x15 (0 : Int32) t13))))))))))))))))) else none
set_option maxRecDepth 20000 in
theorem c_X6_part (l : Launch) (E : XE) (N : Nat) (a0 : Nat) (v1 : Int32) (v2 : Int32) (v3 : Int32) (σ : Mm) : ∀ r0, f_X6_part N a0 v1 v2 v3 σ = some r0 → Met l yX6_part [Cond.code yX6_part cX6_part 8 (some .int)] rm_X6_part (xPc E (NT + 0) σ [.ref (E.B + a0), .int v1, .int v2, .int v3]) (xQi E (NT + 0) r0) 0 0 (xA E) := by
  refine met_of (N0 := NT) (by decide +kernel) (Nat.le_of_ble_eq_true rfl) ?_
  intro p e s m args below meth c hG hr hk _
  show JR E NT 8 p l e rm_X6_part s m args below meth c 0 0 (fun r => MQ below (xQi E (NT + 0) r) args s 0 0 (xA E)) 0 [(0, .ref (E.B + a0)), (1, .int v1), (2, .int v2), (3, .int v3)] [] σ (if okO 6 a0 then (bI (f_X6_areTwo N a0 v1 v2 (σ)) (fun r2 t1 => if r2 = 0 then (some ((-1 : Int32), t1)) else (bI (f_X6_isPerson N a0 v3 t1) (fun r4 t3 => if r4 = 0 then (some ((-1 : Int32), t3)) else (if v3 = v1 then (some ((-1 : Int32), t3)) else (if v3 = v2 then (some ((-1 : Int32), t3)) else (bR (gr t3 a0 19) (okA 0) (fun o5 => bV (f_X6_layTells N a0 o5 t3) (fun t6 => bI (f_X6_stepsOf N a0 v1 v2 t6) (fun r8 t7 => if r8 = (-9 : Int32) then (f_X6_part_58 N t7) else (bI (f_X6_stepsOf N a0 v1 v2 t7) (fun r10 t9 => if r10 = (1 : Int32) then (f_X6_part_58 N t9) else (lt (si t9 a0 31 (0 : Int32)) (fun t11 => lt (si t11 a0 32 (0 : Int32)) (fun t12 => bI (f_X6_everybody N a0 t12) (fun r14 t13 => lt (r14 &&& (((((1 : Int32) <<< (v1 &&& 31)) ||| ((1 : Int32) <<< (v2 &&& 31))) ||| ((1 : Int32) <<< (v3 &&& 31))) ^^^ (-1 : Int32))) (fun x15 => f_X6_part_94 N N a0 v1 v2 v3 x15 (0 : Int32) t13))))))))))))))))) else none)
  refine jr_guard (fun ha0 => ?_)
  refine jr_aload_n hG 0 dX6_part_0 rfl rfl ?_
  refine jr_iload_n hG 1 dX6_part_1 rfl rfl ?_
  refine jr_iload_n hG 2 dX6_part_2 rfl rfl ?_
  refine jr_callVi (As := [.int v1, .int v2]) hG (c_X6_areTwo l E N a0 v1 v2 (σ)) ci_X6_areTwo wd_1020 ⟨wd_1022, wd_41⟩ cl_6 (okO_s ha0) (okO_l ha0) ⟨rfl, rfl, Nat.le_of_ble_eq_true rfl, Nat.le_of_ble_eq_true rfl⟩ rfl rfl (Nat.le_of_ble_eq_true rfl) dX6_part_3 ⟨Nat.le_refl _, Nat.le_refl _⟩ (fun r2 t1 => ?_)
  refine jr_if_eq hG 27 dX6_part_6 (by decide) (fun _ => ?_) (fun _ => ?_)
  · refine jr_iconst (v := (-1 : Int32)) hG dX6_part_27 (by decide) ?_
    exact jr_iret hG hr hk dX6_part_28
  · refine jr_aload_n hG 0 dX6_part_9 rfl rfl ?_
    refine jr_iload_n hG 3 dX6_part_10 rfl rfl ?_
    refine jr_callVi (As := [.int v3]) hG (c_X6_isPerson l E N a0 v3 t1) ci_X6_isPerson wd_950 ⟨wd_952, wd_29⟩ cl_6 (okO_s ha0) (okO_l ha0) ⟨rfl, rfl, Nat.le_of_ble_eq_true rfl, Nat.le_of_ble_eq_true rfl⟩ rfl rfl (Nat.le_of_ble_eq_true rfl) dX6_part_11 ⟨Nat.le_refl _, Nat.le_refl _⟩ (fun r4 t3 => ?_)
    refine jr_if_eq hG 27 dX6_part_14 (by decide) (fun _ => ?_) (fun _ => ?_)
    · refine jr_iconst (v := (-1 : Int32)) hG dX6_part_27 (by decide) ?_
      exact jr_iret hG hr hk dX6_part_28
    · refine jr_iload_n hG 3 dX6_part_17 rfl rfl ?_
      refine jr_iload_n hG 1 dX6_part_18 rfl rfl ?_
      refine jr_icmp_eq hG 27 dX6_part_19 (by decide) (fun _ => ?_) (fun _ => ?_)
      · refine jr_iconst (v := (-1 : Int32)) hG dX6_part_27 (by decide) ?_
        exact jr_iret hG hr hk dX6_part_28
      · refine jr_iload_n hG 3 dX6_part_22 rfl rfl ?_
        refine jr_iload_n hG 2 dX6_part_23 rfl rfl ?_
        refine jr_icmp_ne hG 29 dX6_part_24 (by decide) (fun _ => ?_) (fun _ => ?_)
        · refine jr_aload_n hG 0 dX6_part_29 rfl rfl ?_
          refine jr_aload_n hG 0 dX6_part_30 rfl rfl ?_
          refine jr_getR hG fi_RX6_48 rfl (okO_s ha0) (okO_l ha0) dX6_part_31 (fun o5 ho5 => ?_)
          refine jr_callVv (As := [.ref (E.B + o5)]) hG (c_X6_layTells l E N a0 o5 t3) ci_X6_layTells wd_1048 ⟨wd_1050, wd_43⟩ cl_6 (okO_s ha0) (okO_l ha0) ⟨rfl, rfl, Nat.le_of_ble_eq_true rfl, Nat.le_of_ble_eq_true rfl⟩ rfl rfl (Nat.le_of_ble_eq_true rfl) dX6_part_34 ⟨Nat.le_refl _, Nat.le_refl _⟩ (fun t6 => ?_)
          refine jr_aload_n hG 0 dX6_part_37 rfl rfl ?_
          refine jr_iload_n hG 1 dX6_part_38 rfl rfl ?_
          refine jr_iload_n hG 2 dX6_part_39 rfl rfl ?_
          refine jr_callVi (As := [.int v1, .int v2]) hG (c_X6_stepsOf l E N a0 v1 v2 t6) ci_X6_stepsOf wd_1052 ⟨wd_1054, wd_44⟩ cl_6 (okO_s ha0) (okO_l ha0) ⟨rfl, rfl, Nat.le_of_ble_eq_true rfl, Nat.le_of_ble_eq_true rfl⟩ rfl rfl (Nat.le_of_ble_eq_true rfl) dX6_part_40 ⟨Nat.le_refl _, Nat.le_refl _⟩ (fun r8 t7 => ?_)
          refine jr_bipush (v := (-9 : Int32)) hG dX6_part_43 (by decide) ?_
          refine jr_icmp_eq hG 58 dX6_part_45 (by decide) (fun _ => ?_) (fun _ => ?_)
          · refine jr_sub (lv' := []) [] rfl ?_
            exact w_X6_part_58 N hG hr hk t7
          · refine jr_aload_n hG 0 dX6_part_48 rfl rfl ?_
            refine jr_iload_n hG 1 dX6_part_49 rfl rfl ?_
            refine jr_iload_n hG 2 dX6_part_50 rfl rfl ?_
            refine jr_callVi (As := [.int v1, .int v2]) hG (c_X6_stepsOf l E N a0 v1 v2 t7) ci_X6_stepsOf wd_1052 ⟨wd_1054, wd_44⟩ cl_6 (okO_s ha0) (okO_l ha0) ⟨rfl, rfl, Nat.le_of_ble_eq_true rfl, Nat.le_of_ble_eq_true rfl⟩ rfl rfl (Nat.le_of_ble_eq_true rfl) dX6_part_51 ⟨Nat.le_refl _, Nat.le_refl _⟩ (fun r10 t9 => ?_)
            refine jr_iconst (v := (1 : Int32)) hG dX6_part_54 (by decide) ?_
            refine jr_icmp_ne hG 61 dX6_part_55 (by decide) (fun _ => ?_) (fun _ => ?_)
            · refine jr_aload_n hG 0 dX6_part_61 rfl rfl ?_
              refine jr_iconst (v := (0 : Int32)) hG dX6_part_62 (by decide) ?_
              refine jr_putI hG fi_RX6_267 rfl rfl (okO_s ha0) (okO_l ha0) dX6_part_63 ?_
              refine jr_lets (fun t11 _ => ?_)
              refine jr_aload_n hG 0 dX6_part_66 rfl rfl ?_
              refine jr_iconst (v := (0 : Int32)) hG dX6_part_67 (by decide) ?_
              refine jr_putI hG fi_RX6_270 rfl rfl (okO_s ha0) (okO_l ha0) dX6_part_68 ?_
              refine jr_lets (fun t12 _ => ?_)
              refine jr_aload_n hG 0 dX6_part_71 rfl rfl ?_
              refine jr_callVi (As := []) hG (c_X6_everybody l E N a0 t12) ci_X6_everybody wd_1064 ⟨wd_1066, wd_46⟩ cl_6 (okO_s ha0) (okO_l ha0) ⟨rfl, rfl, Nat.le_of_ble_eq_true rfl, Nat.le_of_ble_eq_true rfl⟩ rfl rfl (Nat.le_of_ble_eq_true rfl) dX6_part_72 ⟨Nat.le_refl _, Nat.le_refl _⟩ (fun r14 t13 => ?_)
              refine jr_iconst (v := (1 : Int32)) hG dX6_part_75 (by decide) ?_
              refine jr_iload_n hG 1 dX6_part_76 rfl rfl ?_
              refine jr_ishl hG dX6_part_77 ?_
              refine jr_iconst (v := (1 : Int32)) hG dX6_part_78 (by decide) ?_
              refine jr_iload_n hG 2 dX6_part_79 rfl rfl ?_
              refine jr_ishl hG dX6_part_80 ?_
              refine jr_ior hG dX6_part_81 ?_
              refine jr_iconst (v := (1 : Int32)) hG dX6_part_82 (by decide) ?_
              refine jr_iload_n hG 3 dX6_part_83 rfl rfl ?_
              refine jr_ishl hG dX6_part_84 ?_
              refine jr_ior hG dX6_part_85 ?_
              refine jr_iconst (v := (-1 : Int32)) hG dX6_part_86 (by decide) ?_
              refine jr_ixor hG dX6_part_87 ?_
              refine jr_iand hG dX6_part_88 ?_
              refine jr_leti (fun x15 _ => ?_)
              refine jr_istore (lv' := [(4, .int x15), (0, .ref (E.B + a0)), (1, .int v1), (2, .int v2), (3, .int v3)]) hG dX6_part_89 (by decide) rfl ?_
              refine jr_iconst (v := (0 : Int32)) hG dX6_part_91 (by decide) ?_
              refine jr_istore (lv' := [(5, .int (0 : Int32)), (4, .int x15), (0, .ref (E.B + a0)), (1, .int v1), (2, .int v2), (3, .int v3)]) hG dX6_part_92 (by decide) rfl ?_
              refine jr_sub (lv' := [(0, .ref (E.B + a0)), (1, .int v1), (2, .int v2), (3, .int v3), (4, .int x15), (5, .int (0 : Int32))]) [2, 3, 4, 5, 1, 0] rfl ?_
              exact w_X6_part_94 N hG hr hk N a0 v1 v2 v3 x15 (0 : Int32) ha0 t13
            · refine jr_sub (lv' := []) [] rfl ?_
              exact w_X6_part_58 N hG hr hk t9
        · refine jr_iconst (v := (-1 : Int32)) hG dX6_part_27 (by decide) ?_
          exact jr_iret hG hr hk dX6_part_28
-- TonguesDealtModel.needMornings(IZ)I
abbrev rm_X6_needMornings : Room := { frames := 2, cells := 0, slots := 0, locals := 45 }
theorem ci_X6_needMornings : CIx yX6_needMornings cX6_needMornings 3 (some .int) 2 := ⟨wd_1162, wd_77, by decide +kernel⟩
def f_X6_needMornings (N : Nat) (a0 : Nat) (v1 : Int32) (v2 : Int32) (σ : Mm) : Option (Int32 × Mm) := if okO 6 a0 then (if v2 = 0 then (some ((-1 : Int32), σ)) else (bI (f_X6_isRow N v1 (σ)) (fun r2 t1 => if r2 = 0 then (some ((-1 : Int32), t1)) else (if (gi t1 a0 10) = 0 then (some ((-4 : Int32), t1)) else (bR (gr t1 a0 5) (okA 0) (fun o3 => if inb v1 (arL o3) then (if 0 ≤ (gi t1 o3 (ix v1)) then (bR (gr t1 a0 5) (okA 0) (fun o4 => if inb v1 (arL o4) then (if (gi t1 a0 10) = 0 then none else if ((gi t1 o4 (ix v1)) - (gi t1 o4 (ix v1)) / (gi t1 a0 10) * (gi t1 a0 10)) = 0 then (bI (f_X6_areTongues N a0 v1 t1) (fun r6 t5 => if r6 = 0 then (bI (f_X6_meets N a0 (3 : Int32) t5) (fun r8 t7 => some (r8, t7))) else (some ((0 : Int32), t5)))) else (bI (f_X6_meets N a0 (5 : Int32) t1) (fun r10 t9 => some (r10, t9)))) else none)) else (bI (f_X6_meets N a0 (1 : Int32) t1) (fun r12 t11 => some (r12, t11)))) else none)))))) else none
set_option maxRecDepth 20000 in
theorem c_X6_needMornings (l : Launch) (E : XE) (N : Nat) (a0 : Nat) (v1 : Int32) (v2 : Int32) (σ : Mm) : ∀ r0, f_X6_needMornings N a0 v1 v2 σ = some r0 → Met l yX6_needMornings [Cond.code yX6_needMornings cX6_needMornings 3 (some .int)] rm_X6_needMornings (xPc E (NT + 0) σ [.ref (E.B + a0), .int v1, .int v2]) (xQi E (NT + 0) r0) 0 0 (xA E) := by
  refine met_of (N0 := NT) (by decide +kernel) (Nat.le_of_ble_eq_true rfl) ?_
  intro p e s m args below meth c hG hr hk _
  show JR E NT 3 p l e rm_X6_needMornings s m args below meth c 0 0 (fun r => MQ below (xQi E (NT + 0) r) args s 0 0 (xA E)) 0 [(0, .ref (E.B + a0)), (1, .int v1), (2, .int v2)] [] σ (if okO 6 a0 then (if v2 = 0 then (some ((-1 : Int32), σ)) else (bI (f_X6_isRow N v1 (σ)) (fun r2 t1 => if r2 = 0 then (some ((-1 : Int32), t1)) else (if (gi t1 a0 10) = 0 then (some ((-4 : Int32), t1)) else (bR (gr t1 a0 5) (okA 0) (fun o3 => if inb v1 (arL o3) then (if 0 ≤ (gi t1 o3 (ix v1)) then (bR (gr t1 a0 5) (okA 0) (fun o4 => if inb v1 (arL o4) then (if (gi t1 a0 10) = 0 then none else if ((gi t1 o4 (ix v1)) - (gi t1 o4 (ix v1)) / (gi t1 a0 10) * (gi t1 a0 10)) = 0 then (bI (f_X6_areTongues N a0 v1 t1) (fun r6 t5 => if r6 = 0 then (bI (f_X6_meets N a0 (3 : Int32) t5) (fun r8 t7 => some (r8, t7))) else (some ((0 : Int32), t5)))) else (bI (f_X6_meets N a0 (5 : Int32) t1) (fun r10 t9 => some (r10, t9)))) else none)) else (bI (f_X6_meets N a0 (1 : Int32) t1) (fun r12 t11 => some (r12, t11)))) else none)))))) else none)
  refine jr_guard (fun ha0 => ?_)
  refine jr_iload_n hG 2 dX6_needMornings_0 rfl rfl ?_
  refine jr_if_eq hG 11 dX6_needMornings_1 (by decide) (fun _ => ?_) (fun _ => ?_)
  · refine jr_iconst (v := (-1 : Int32)) hG dX6_needMornings_11 (by decide) ?_
    exact jr_iret hG hr hk dX6_needMornings_12
  · refine jr_iload_n hG 1 dX6_needMornings_4 rfl rfl ?_
    refine jr_callSi (As := [.int v1]) hG (c_X6_isRow l E N v1 (σ)) ci_X6_isRow wd_866 wd_867 ⟨rfl, rfl, Nat.le_of_ble_eq_true rfl, Nat.le_of_ble_eq_true rfl⟩ rfl rfl (Nat.le_of_ble_eq_true rfl) dX6_needMornings_5 ⟨Nat.le_refl _, Nat.le_refl _⟩ (fun r2 t1 => ?_)
    refine jr_if_ne hG 13 dX6_needMornings_8 (by decide) (fun _ => ?_) (fun _ => ?_)
    · refine jr_aload_n hG 0 dX6_needMornings_13 rfl rfl ?_
      refine jr_getI hG fi_RX6_147 rfl (okO_s ha0) (okO_l ha0) dX6_needMornings_14 ?_
      refine jr_if_ne hG 23 dX6_needMornings_17 (by decide) (fun _ => ?_) (fun _ => ?_)
      · refine jr_aload_n hG 0 dX6_needMornings_23 rfl rfl ?_
        refine jr_getR hG fi_RX6_17 rfl (okO_s ha0) (okO_l ha0) dX6_needMornings_24 (fun o3 ho3 => ?_)
        refine jr_iload_n hG 1 dX6_needMornings_27 rfl rfl ?_
        refine jr_iald hG (okA_s (by decide) ho3) (okA_l ho3) dX6_needMornings_28 ?_
        refine jr_if_ge hG 38 dX6_needMornings_29 (by decide) (fun _ => ?_) (fun _ => ?_)
        · refine jr_aload_n hG 0 dX6_needMornings_38 rfl rfl ?_
          refine jr_getR hG fi_RX6_17 rfl (okO_s ha0) (okO_l ha0) dX6_needMornings_39 (fun o4 ho4 => ?_)
          refine jr_iload_n hG 1 dX6_needMornings_42 rfl rfl ?_
          refine jr_iald hG (okA_s (by decide) ho4) (okA_l ho4) dX6_needMornings_43 ?_
          refine jr_aload_n hG 0 dX6_needMornings_44 rfl rfl ?_
          refine jr_getI hG fi_RX6_147 rfl (okO_s ha0) (okO_l ha0) dX6_needMornings_45 ?_
          refine jr_irem hG dX6_needMornings_48 ?_
          refine jr_if_eq hG 58 dX6_needMornings_49 (by decide) (fun _ => ?_) (fun _ => ?_)
          · refine jr_aload_n hG 0 dX6_needMornings_58 rfl rfl ?_
            refine jr_iload_n hG 1 dX6_needMornings_59 rfl rfl ?_
            refine jr_callVi (As := [.int v1]) hG (c_X6_areTongues l E N a0 v1 t1) ci_X6_areTongues wd_1000 ⟨wd_1002, wd_38⟩ cl_6 (okO_s ha0) (okO_l ha0) ⟨rfl, rfl, Nat.le_of_ble_eq_true rfl, Nat.le_of_ble_eq_true rfl⟩ rfl rfl (Nat.le_of_ble_eq_true rfl) dX6_needMornings_60 ⟨Nat.le_refl _, Nat.le_refl _⟩ (fun r6 t5 => ?_)
            refine jr_if_eq hG 70 dX6_needMornings_63 (by decide) (fun _ => ?_) (fun _ => ?_)
            · refine jr_aload_n hG 0 dX6_needMornings_70 rfl rfl ?_
              refine jr_iconst (v := (3 : Int32)) hG dX6_needMornings_71 (by decide) ?_
              refine jr_callVi (As := [.int (3 : Int32)]) hG (c_X6_meets l E N a0 (3 : Int32) t5) ci_X6_meets wd_869 ⟨wd_871, wd_21⟩ cl_6 (okO_s ha0) (okO_l ha0) ⟨rfl, rfl, Nat.le_of_ble_eq_true rfl, Nat.le_of_ble_eq_true rfl⟩ rfl rfl (Nat.le_of_ble_eq_true rfl) dX6_needMornings_72 ⟨Nat.le_refl _, Nat.le_refl _⟩ (fun r8 t7 => ?_)
              exact jr_iret hG hr hk dX6_needMornings_75
            · refine jr_iconst (v := (0 : Int32)) hG dX6_needMornings_66 (by decide) ?_
              refine jr_goto hG 75 dX6_needMornings_67 (by decide) ?_
              exact jr_iret hG hr hk dX6_needMornings_75
          · refine jr_aload_n hG 0 dX6_needMornings_52 rfl rfl ?_
            refine jr_iconst (v := (5 : Int32)) hG dX6_needMornings_53 (by decide) ?_
            refine jr_callVi (As := [.int (5 : Int32)]) hG (c_X6_meets l E N a0 (5 : Int32) t1) ci_X6_meets wd_869 ⟨wd_871, wd_21⟩ cl_6 (okO_s ha0) (okO_l ha0) ⟨rfl, rfl, Nat.le_of_ble_eq_true rfl, Nat.le_of_ble_eq_true rfl⟩ rfl rfl (Nat.le_of_ble_eq_true rfl) dX6_needMornings_54 ⟨Nat.le_refl _, Nat.le_refl _⟩ (fun r10 t9 => ?_)
            exact jr_iret hG hr hk dX6_needMornings_57
        · refine jr_aload_n hG 0 dX6_needMornings_32 rfl rfl ?_
          refine jr_iconst (v := (1 : Int32)) hG dX6_needMornings_33 (by decide) ?_
          refine jr_callVi (As := [.int (1 : Int32)]) hG (c_X6_meets l E N a0 (1 : Int32) t1) ci_X6_meets wd_869 ⟨wd_871, wd_21⟩ cl_6 (okO_s ha0) (okO_l ha0) ⟨rfl, rfl, Nat.le_of_ble_eq_true rfl, Nat.le_of_ble_eq_true rfl⟩ rfl rfl (Nat.le_of_ble_eq_true rfl) dX6_needMornings_34 ⟨Nat.le_refl _, Nat.le_refl _⟩ (fun r12 t11 => ?_)
          exact jr_iret hG hr hk dX6_needMornings_37
      · refine jr_bipush (v := (-4 : Int32)) hG dX6_needMornings_20 (by decide) ?_
        exact jr_iret hG hr hk dX6_needMornings_22
    · refine jr_iconst (v := (-1 : Int32)) hG dX6_needMornings_11 (by decide) ?_
      exact jr_iret hG hr hk dX6_needMornings_12
-- TonguesDealtModel.areAlike(III)Z
abbrev rm_X6_areAlike : Room := { frames := 1, cells := 0, slots := 0, locals := 22 }
theorem ci_X6_areAlike : CIx yX6_areAlike cX6_areAlike 6 (some .boolean) 3 := ⟨wd_1166, wd_77, by decide +kernel⟩
def f_X6_areAlike_48 (N : Nat) (K6 : Nat → Int32 → Int32 → Int32 → Int32 → Int32 → Mm → Option (Int32 × Mm)) (a0 : Nat) (v1 : Int32) (v2 : Int32) (v3 : Int32) (v5 : Int32) (s0 : Int32) (σ : Mm) : Option (Int32 × Mm) := lt (v5 + (gi σ a0 10)) (fun x6 => K6 a0 v1 v2 v3 s0 x6 (σ))
set_option maxRecDepth 20000 in
theorem w_X6_areAlike_48 {p : Program} {l : Launch} {e : Env} {s : State} {m : MethodId} {args : Array Value} {below : List Frame} {meth : Method} {c : Code} {E : XE} (N : Nat) (hG : GG E NT 6 RX6 cX6_areAlike p s m args c) (hr : meth.sig.returnType = (some .boolean)) (hk : meth.locks = false) {K6 : Nat → Int32 → Int32 → Int32 → Int32 → Int32 → Mm → Option (Int32 × Mm)} (hK6 : ∀ (a0 : Nat) (v1 : Int32) (v2 : Int32) (v3 : Int32) (v4 : Int32) (v5 : Int32) (ha0 : okO 6 a0 = true) (σ : Mm), JR E NT 6 p l e rm_X6_areAlike s m args below meth c 0 0 (fun r => MQ below (xQi E (NT + 0) r) args s 0 0 (xA E)) 6 [(0, .ref (E.B + a0)), (1, .int v1), (2, .int v2), (3, .int v3), (4, .int v4), (5, .int v5)] [] σ (K6 a0 v1 v2 v3 v4 v5 σ)) (a0 : Nat) (v1 : Int32) (v2 : Int32) (v3 : Int32) (v5 : Int32) (s0 : Int32) (ha0 : okO 6 a0 = true) (σ : Mm) : JR E NT 6 p l e rm_X6_areAlike s m args below meth c 0 0 (fun r => MQ below (xQi E (NT + 0) r) args s 0 0 (xA E)) 48 [(0, .ref (E.B + a0)), (1, .int v1), (2, .int v2), (3, .int v3), (5, .int v5)] [.int s0] σ (f_X6_areAlike_48 N K6 a0 v1 v2 v3 v5 s0 σ) := by
  show JR E NT 6 p l e rm_X6_areAlike s m args below meth c 0 0 (fun r => MQ below (xQi E (NT + 0) r) args s 0 0 (xA E)) 48 [(0, .ref (E.B + a0)), (1, .int v1), (2, .int v2), (3, .int v3), (5, .int v5)] [.int s0] σ (lt (v5 + (gi σ a0 10)) (fun x6 => K6 a0 v1 v2 v3 s0 x6 (σ)))
  refine jr_istore (lv' := [(4, .int s0), (0, .ref (E.B + a0)), (1, .int v1), (2, .int v2), (3, .int v3), (5, .int v5)]) hG dX6_areAlike_48 (by decide) rfl ?_
  refine jr_iload hG 5 dX6_areAlike_50 rfl ?_
  refine jr_aload_n hG 1 dX6_areAlike_52 rfl rfl ?_
  refine jr_getI hG fi_RX6_147 rfl (okO_s ha0) (okO_l ha0) dX6_areAlike_53 ?_
  refine jr_iadd hG dX6_areAlike_56 ?_
  refine jr_leti (fun x6 _ => ?_)
  refine jr_istore (lv' := [(5, .int x6), (4, .int s0), (0, .ref (E.B + a0)), (1, .int v1), (2, .int v2), (3, .int v3)]) hG dX6_areAlike_57 (by decide) rfl ?_
  refine jr_goto hG 6 dX6_areAlike_59 (by decide) ?_
  refine jr_sub (lv' := [(0, .ref (E.B + a0)), (1, .int v1), (2, .int v2), (3, .int v3), (4, .int s0), (5, .int x6)]) [2, 3, 4, 5, 1, 0] rfl ?_
  exact hK6 a0 v1 v2 v3 s0 x6 ha0 (σ)
def f_X6_areAlike_47 (N : Nat) (K6 : Nat → Int32 → Int32 → Int32 → Int32 → Int32 → Mm → Option (Int32 × Mm)) (a0 : Nat) (v1 : Int32) (v2 : Int32) (v3 : Int32) (v5 : Int32) (σ : Mm) : Option (Int32 × Mm) := f_X6_areAlike_48 N K6 a0 v1 v2 v3 v5 (0 : Int32) (σ)
set_option maxRecDepth 20000 in
theorem w_X6_areAlike_47 {p : Program} {l : Launch} {e : Env} {s : State} {m : MethodId} {args : Array Value} {below : List Frame} {meth : Method} {c : Code} {E : XE} (N : Nat) (hG : GG E NT 6 RX6 cX6_areAlike p s m args c) (hr : meth.sig.returnType = (some .boolean)) (hk : meth.locks = false) {K6 : Nat → Int32 → Int32 → Int32 → Int32 → Int32 → Mm → Option (Int32 × Mm)} (hK6 : ∀ (a0 : Nat) (v1 : Int32) (v2 : Int32) (v3 : Int32) (v4 : Int32) (v5 : Int32) (ha0 : okO 6 a0 = true) (σ : Mm), JR E NT 6 p l e rm_X6_areAlike s m args below meth c 0 0 (fun r => MQ below (xQi E (NT + 0) r) args s 0 0 (xA E)) 6 [(0, .ref (E.B + a0)), (1, .int v1), (2, .int v2), (3, .int v3), (4, .int v4), (5, .int v5)] [] σ (K6 a0 v1 v2 v3 v4 v5 σ)) (a0 : Nat) (v1 : Int32) (v2 : Int32) (v3 : Int32) (v5 : Int32) (ha0 : okO 6 a0 = true) (σ : Mm) : JR E NT 6 p l e rm_X6_areAlike s m args below meth c 0 0 (fun r => MQ below (xQi E (NT + 0) r) args s 0 0 (xA E)) 47 [(0, .ref (E.B + a0)), (1, .int v1), (2, .int v2), (3, .int v3), (5, .int v5)] [] σ (f_X6_areAlike_47 N K6 a0 v1 v2 v3 v5 σ) := by
  show JR E NT 6 p l e rm_X6_areAlike s m args below meth c 0 0 (fun r => MQ below (xQi E (NT + 0) r) args s 0 0 (xA E)) 47 [(0, .ref (E.B + a0)), (1, .int v1), (2, .int v2), (3, .int v3), (5, .int v5)] [] σ (f_X6_areAlike_48 N K6 a0 v1 v2 v3 v5 (0 : Int32) (σ))
  refine jr_iconst (v := (0 : Int32)) hG dX6_areAlike_47 (by decide) ?_
  exact w_X6_areAlike_48 N hG hr hk hK6 a0 v1 v2 v3 v5 (0 : Int32) ha0 (σ)
def f_X6_areAlike_6 (N : Nat)  : Nat → Nat → Int32 → Int32 → Int32 → Int32 → Int32 → Mm → Option (Int32 × Mm)
  | 0 => fun _ _ _ _ _ _ _ => none
  | n + 1 => fun a0 v1 v2 v3 v4 v5 σ => bR (gr σ a0 5) (okA 0) (fun o1 => if inb v1 (arL o1) then (if (gi σ o1 (ix v1)) ≤ v5 then (if bz v4 then some (v4, σ) else none) else (if v4 = 0 then (f_X6_areAlike_47 N (f_X6_areAlike_6 N n) a0 v1 v2 v3 v5 (σ)) else (bI (f_X6_rowAt N a0 v1 (v5 + v2) (σ)) (fun r3 t2 => bI (f_X6_rowAt N a0 v1 (v5 + v3) t2) (fun r5 t4 => if r3 = r5 then (f_X6_areAlike_48 N (f_X6_areAlike_6 N n) a0 v1 v2 v3 v5 (1 : Int32) t4) else (f_X6_areAlike_47 N (f_X6_areAlike_6 N n) a0 v1 v2 v3 v5 t4)))))) else none)
set_option maxRecDepth 20000 in
theorem w_X6_areAlike_6 {p : Program} {l : Launch} {e : Env} {s : State} {m : MethodId} {args : Array Value} {below : List Frame} {meth : Method} {c : Code} {E : XE} (N : Nat) (hG : GG E NT 6 RX6 cX6_areAlike p s m args c) (hr : meth.sig.returnType = (some .boolean)) (hk : meth.locks = false)  : ∀ (n : Nat) (a0 : Nat) (v1 : Int32) (v2 : Int32) (v3 : Int32) (v4 : Int32) (v5 : Int32) (ha0 : okO 6 a0 = true) (σ : Mm), JR E NT 6 p l e rm_X6_areAlike s m args below meth c 0 0 (fun r => MQ below (xQi E (NT + 0) r) args s 0 0 (xA E)) 6 [(0, .ref (E.B + a0)), (1, .int v1), (2, .int v2), (3, .int v3), (4, .int v4), (5, .int v5)] [] σ (f_X6_areAlike_6 N n a0 v1 v2 v3 v4 v5 σ) := by
  intro n
  induction n with
  | zero => intro a0 v1 v2 v3 v4 v5 ha0 σ r hX; cases hX
  | succ n ih =>
    intro a0 v1 v2 v3 v4 v5 ha0 σ
    show JR E NT 6 p l e rm_X6_areAlike s m args below meth c 0 0 (fun r => MQ below (xQi E (NT + 0) r) args s 0 0 (xA E)) 6 [(0, .ref (E.B + a0)), (1, .int v1), (2, .int v2), (3, .int v3), (4, .int v4), (5, .int v5)] [] σ (bR (gr σ a0 5) (okA 0) (fun o1 => if inb v1 (arL o1) then (if (gi σ o1 (ix v1)) ≤ v5 then (if bz v4 then some (v4, σ) else none) else (if v4 = 0 then (f_X6_areAlike_47 N (f_X6_areAlike_6 N n) a0 v1 v2 v3 v5 (σ)) else (bI (f_X6_rowAt N a0 v1 (v5 + v2) (σ)) (fun r3 t2 => bI (f_X6_rowAt N a0 v1 (v5 + v3) t2) (fun r5 t4 => if r3 = r5 then (f_X6_areAlike_48 N (f_X6_areAlike_6 N n) a0 v1 v2 v3 v5 (1 : Int32) t4) else (f_X6_areAlike_47 N (f_X6_areAlike_6 N n) a0 v1 v2 v3 v5 t4)))))) else none))
    refine jr_iload hG 5 dX6_areAlike_6 rfl ?_
    refine jr_aload_n hG 0 dX6_areAlike_8 rfl rfl ?_
    refine jr_getR hG fi_RX6_17 rfl (okO_s ha0) (okO_l ha0) dX6_areAlike_9 (fun o1 ho1 => ?_)
    refine jr_iload_n hG 1 dX6_areAlike_12 rfl rfl ?_
    refine jr_iald hG (okA_s (by decide) ho1) (okA_l ho1) dX6_areAlike_13 ?_
    refine jr_icmp_ge hG 62 dX6_areAlike_14 (by decide) (fun _ => ?_) (fun _ => ?_)
    · refine jr_iload hG 4 dX6_areAlike_62 rfl ?_
      refine jr_guard (fun hz => ?_)
      exact jr_zret hG hr hk hz dX6_areAlike_64
    · refine jr_iload hG 4 dX6_areAlike_17 rfl ?_
      refine jr_if_eq hG 47 dX6_areAlike_19 (by decide) (fun _ => ?_) (fun _ => ?_)
      · refine jr_sub (lv' := [(0, .ref (E.B + a0)), (1, .int v1), (2, .int v2), (3, .int v3), (5, .int v5)]) [0, 1, 2, 3, 5] rfl ?_
        exact w_X6_areAlike_47 N hG hr hk ih a0 v1 v2 v3 v5 ha0 (σ)
      · refine jr_aload_n hG 0 dX6_areAlike_22 rfl rfl ?_
        refine jr_iload_n hG 1 dX6_areAlike_23 rfl rfl ?_
        refine jr_iload hG 5 dX6_areAlike_24 rfl ?_
        refine jr_iload_n hG 2 dX6_areAlike_26 rfl rfl ?_
        refine jr_iadd hG dX6_areAlike_27 ?_
        refine jr_callVi (As := [.int v1, .int (v5 + v2)]) hG (c_X6_rowAt l E N a0 v1 (v5 + v2) (σ)) ci_X6_rowAt wd_877 ⟨wd_879, wd_22⟩ cl_6 (okO_s ha0) (okO_l ha0) ⟨rfl, rfl, Nat.le_of_ble_eq_true rfl, Nat.le_of_ble_eq_true rfl⟩ rfl rfl (Nat.le_of_ble_eq_true rfl) dX6_areAlike_28 ⟨Nat.le_refl _, Nat.le_refl _⟩ (fun r3 t2 => ?_)
        refine jr_aload_n hG 0 dX6_areAlike_31 rfl rfl ?_
        refine jr_iload_n hG 1 dX6_areAlike_32 rfl rfl ?_
        refine jr_iload hG 5 dX6_areAlike_33 rfl ?_
        refine jr_iload_n hG 3 dX6_areAlike_35 rfl rfl ?_
        refine jr_iadd hG dX6_areAlike_36 ?_
        refine jr_callVi (As := [.int v1, .int (v5 + v3)]) hG (c_X6_rowAt l E N a0 v1 (v5 + v3) t2) ci_X6_rowAt wd_877 ⟨wd_879, wd_22⟩ cl_6 (okO_s ha0) (okO_l ha0) ⟨rfl, rfl, Nat.le_of_ble_eq_true rfl, Nat.le_of_ble_eq_true rfl⟩ rfl rfl (Nat.le_of_ble_eq_true rfl) dX6_areAlike_37 ⟨Nat.le_refl _, Nat.le_refl _⟩ (fun r5 t4 => ?_)
        refine jr_icmp_ne hG 47 dX6_areAlike_40 (by decide) (fun _ => ?_) (fun _ => ?_)
        · refine jr_sub (lv' := [(0, .ref (E.B + a0)), (1, .int v1), (2, .int v2), (3, .int v3), (5, .int v5)]) [0, 1, 2, 3, 5] rfl ?_
          exact w_X6_areAlike_47 N hG hr hk ih a0 v1 v2 v3 v5 ha0 t4
        · refine jr_iconst (v := (1 : Int32)) hG dX6_areAlike_43 (by decide) ?_
          refine jr_goto hG 48 dX6_areAlike_44 (by decide) ?_
          refine jr_sub (lv' := [(0, .ref (E.B + a0)), (1, .int v1), (2, .int v2), (3, .int v3), (5, .int v5)]) [0, 1, 2, 3, 5] rfl ?_
          exact w_X6_areAlike_48 N hG hr hk ih a0 v1 v2 v3 v5 (1 : Int32) ha0 t4
def f_X6_areAlike (N : Nat) (a0 : Nat) (v1 : Int32) (v2 : Int32) (v3 : Int32) (σ : Mm) : Option (Int32 × Mm) := if okO 6 a0 then (f_X6_areAlike_6 N N a0 v1 v2 v3 (1 : Int32) (0 : Int32) (σ)) else none
set_option maxRecDepth 20000 in
theorem c_X6_areAlike (l : Launch) (E : XE) (N : Nat) (a0 : Nat) (v1 : Int32) (v2 : Int32) (v3 : Int32) (σ : Mm) : ∀ r0, f_X6_areAlike N a0 v1 v2 v3 σ = some r0 → Met l yX6_areAlike [Cond.code yX6_areAlike cX6_areAlike 6 (some .boolean)] rm_X6_areAlike (xPc E (NT + 0) σ [.ref (E.B + a0), .int v1, .int v2, .int v3]) (xQi E (NT + 0) r0) 0 0 (xA E) := by
  refine met_of (N0 := NT) (by decide +kernel) (Nat.le_of_ble_eq_true rfl) ?_
  intro p e s m args below meth c hG hr hk _
  show JR E NT 6 p l e rm_X6_areAlike s m args below meth c 0 0 (fun r => MQ below (xQi E (NT + 0) r) args s 0 0 (xA E)) 0 [(0, .ref (E.B + a0)), (1, .int v1), (2, .int v2), (3, .int v3)] [] σ (if okO 6 a0 then (f_X6_areAlike_6 N N a0 v1 v2 v3 (1 : Int32) (0 : Int32) (σ)) else none)
  refine jr_guard (fun ha0 => ?_)
  refine jr_iconst (v := (1 : Int32)) hG dX6_areAlike_0 (by decide) ?_
  refine jr_istore (lv' := [(4, .int (1 : Int32)), (0, .ref (E.B + a0)), (1, .int v1), (2, .int v2), (3, .int v3)]) hG dX6_areAlike_1 (by decide) rfl ?_
  refine jr_iconst (v := (0 : Int32)) hG dX6_areAlike_3 (by decide) ?_
  refine jr_istore (lv' := [(5, .int (0 : Int32)), (4, .int (1 : Int32)), (0, .ref (E.B + a0)), (1, .int v1), (2, .int v2), (3, .int v3)]) hG dX6_areAlike_4 (by decide) rfl ?_
  refine jr_sub (lv' := [(0, .ref (E.B + a0)), (1, .int v1), (2, .int v2), (3, .int v3), (4, .int (1 : Int32)), (5, .int (0 : Int32))]) [2, 3, 4, 5, 1, 0] rfl ?_
  exact w_X6_areAlike_6 N hG hr hk N a0 v1 v2 v3 (1 : Int32) (0 : Int32) ha0 (σ)
-- TonguesDealtModel.houses(I)I
abbrev rm_X6_houses : Room := { frames := 3, cells := 0, slots := 0, locals := 67 }
theorem ci_X6_houses : CIx yX6_houses cX6_houses 7 (some .int) 1 := ⟨wd_1158, wd_77, by decide +kernel⟩
def f_X6_houses_69 (N : Nat) (K21 : Nat → Int32 → Int32 → Int32 → Int32 → Mm → Option (Int32 × Mm)) (K33 : Nat → Int32 → Int32 → Int32 → Int32 → Int32 → Mm → Option (Int32 × Mm)) (a0 : Nat) (v1 : Int32) (v3 : Int32) (v4 : Int32) (v5 : Int32) (v6 : Int32) (σ : Mm) : Option (Int32 × Mm) := K33 a0 v1 v3 v4 v5 (v6 + (1 : Int32)) (σ)
set_option maxRecDepth 20000 in
theorem w_X6_houses_69 {p : Program} {l : Launch} {e : Env} {s : State} {m : MethodId} {args : Array Value} {below : List Frame} {meth : Method} {c : Code} {E : XE} (N : Nat) (hG : GG E NT 7 RX6 cX6_houses p s m args c) (hr : meth.sig.returnType = (some .int)) (hk : meth.locks = false) {K21 : Nat → Int32 → Int32 → Int32 → Int32 → Mm → Option (Int32 × Mm)} (hK21 : ∀ (a0 : Nat) (v1 : Int32) (v3 : Int32) (v4 : Int32) (v5 : Int32) (ha0 : okO 6 a0 = true) (σ : Mm), JR E NT 7 p l e rm_X6_houses s m args below meth c 0 0 (fun r => MQ below (xQi E (NT + 0) r) args s 0 0 (xA E)) 21 [(0, .ref (E.B + a0)), (1, .int v1), (3, .int v3), (4, .int v4), (5, .int v5)] [] σ (K21 a0 v1 v3 v4 v5 σ)) {K33 : Nat → Int32 → Int32 → Int32 → Int32 → Int32 → Mm → Option (Int32 × Mm)} (hK33 : ∀ (a0 : Nat) (v1 : Int32) (v3 : Int32) (v4 : Int32) (v5 : Int32) (v6 : Int32) (ha0 : okO 6 a0 = true) (σ : Mm), JR E NT 7 p l e rm_X6_houses s m args below meth c 0 0 (fun r => MQ below (xQi E (NT + 0) r) args s 0 0 (xA E)) 33 [(0, .ref (E.B + a0)), (1, .int v1), (3, .int v3), (4, .int v4), (5, .int v5), (6, .int v6)] [] σ (K33 a0 v1 v3 v4 v5 v6 σ)) (a0 : Nat) (v1 : Int32) (v3 : Int32) (v4 : Int32) (v5 : Int32) (v6 : Int32) (ha0 : okO 6 a0 = true) (σ : Mm) : JR E NT 7 p l e rm_X6_houses s m args below meth c 0 0 (fun r => MQ below (xQi E (NT + 0) r) args s 0 0 (xA E)) 69 [(0, .ref (E.B + a0)), (1, .int v1), (3, .int v3), (4, .int v4), (5, .int v5), (6, .int v6)] [] σ (f_X6_houses_69 N K21 K33 a0 v1 v3 v4 v5 v6 σ) := by
  show JR E NT 7 p l e rm_X6_houses s m args below meth c 0 0 (fun r => MQ below (xQi E (NT + 0) r) args s 0 0 (xA E)) 69 [(0, .ref (E.B + a0)), (1, .int v1), (3, .int v3), (4, .int v4), (5, .int v5), (6, .int v6)] [] σ (K33 a0 v1 v3 v4 v5 (v6 + (1 : Int32)) (σ))
  refine jr_iinc (v := v6 + (1 : Int32)) (lv' := [(6, .int (v6 + (1 : Int32))), (0, .ref (E.B + a0)), (1, .int v1), (3, .int v3), (4, .int v4), (5, .int v5)]) hG 5 dX6_houses_69 rfl rfl (by decide) rfl ?_
  refine jr_goto hG 33 dX6_houses_72 (by decide) ?_
  refine jr_sub (lv' := [(0, .ref (E.B + a0)), (1, .int v1), (3, .int v3), (4, .int v4), (5, .int v5), (6, .int (v6 + (1 : Int32)))]) [1, 2, 3, 4, 5, 0] rfl ?_
  exact hK33 a0 v1 v3 v4 v5 (v6 + (1 : Int32)) ha0 (σ)
def f_X6_houses_33 (N : Nat) (K21 : Nat → Int32 → Int32 → Int32 → Int32 → Mm → Option (Int32 × Mm)) : Nat → Nat → Int32 → Int32 → Int32 → Int32 → Int32 → Mm → Option (Int32 × Mm)
  | 0 => fun _ _ _ _ _ _ _ => none
  | n + 1 => fun a0 v1 v3 v4 v5 v6 σ => if v5 ≤ v6 then (K21 a0 v1 v3 v4 (v5 + (1 : Int32)) (σ)) else (bI (f_X6_areAlike N a0 v1 v5 v6 (σ)) (fun r6 t5 => if r6 = 0 then (f_X6_houses_69 N K21 (f_X6_houses_33 N K21 n) a0 v1 v3 v4 v5 v6 t5) else (lt (v4 ||| (((1 : Int32) <<< (v5 &&& 31)) ||| ((1 : Int32) <<< (v6 &&& 31)))) (fun x7 => f_X6_houses_69 N K21 (f_X6_houses_33 N K21 n) a0 v1 (v3 + (1 : Int32)) x7 v5 v6 t5))))
set_option maxRecDepth 20000 in
theorem w_X6_houses_33 {p : Program} {l : Launch} {e : Env} {s : State} {m : MethodId} {args : Array Value} {below : List Frame} {meth : Method} {c : Code} {E : XE} (N : Nat) (hG : GG E NT 7 RX6 cX6_houses p s m args c) (hr : meth.sig.returnType = (some .int)) (hk : meth.locks = false) {K21 : Nat → Int32 → Int32 → Int32 → Int32 → Mm → Option (Int32 × Mm)} (hK21 : ∀ (a0 : Nat) (v1 : Int32) (v3 : Int32) (v4 : Int32) (v5 : Int32) (ha0 : okO 6 a0 = true) (σ : Mm), JR E NT 7 p l e rm_X6_houses s m args below meth c 0 0 (fun r => MQ below (xQi E (NT + 0) r) args s 0 0 (xA E)) 21 [(0, .ref (E.B + a0)), (1, .int v1), (3, .int v3), (4, .int v4), (5, .int v5)] [] σ (K21 a0 v1 v3 v4 v5 σ)) : ∀ (n : Nat) (a0 : Nat) (v1 : Int32) (v3 : Int32) (v4 : Int32) (v5 : Int32) (v6 : Int32) (ha0 : okO 6 a0 = true) (σ : Mm), JR E NT 7 p l e rm_X6_houses s m args below meth c 0 0 (fun r => MQ below (xQi E (NT + 0) r) args s 0 0 (xA E)) 33 [(0, .ref (E.B + a0)), (1, .int v1), (3, .int v3), (4, .int v4), (5, .int v5), (6, .int v6)] [] σ (f_X6_houses_33 N K21 n a0 v1 v3 v4 v5 v6 σ) := by
  intro n
  induction n with
  | zero => intro a0 v1 v3 v4 v5 v6 ha0 σ r hX; cases hX
  | succ n ih =>
    intro a0 v1 v3 v4 v5 v6 ha0 σ
    show JR E NT 7 p l e rm_X6_houses s m args below meth c 0 0 (fun r => MQ below (xQi E (NT + 0) r) args s 0 0 (xA E)) 33 [(0, .ref (E.B + a0)), (1, .int v1), (3, .int v3), (4, .int v4), (5, .int v5), (6, .int v6)] [] σ (if v5 ≤ v6 then (K21 a0 v1 v3 v4 (v5 + (1 : Int32)) (σ)) else (bI (f_X6_areAlike N a0 v1 v5 v6 (σ)) (fun r6 t5 => if r6 = 0 then (f_X6_houses_69 N K21 (f_X6_houses_33 N K21 n) a0 v1 v3 v4 v5 v6 t5) else (lt (v4 ||| (((1 : Int32) <<< (v5 &&& 31)) ||| ((1 : Int32) <<< (v6 &&& 31)))) (fun x7 => f_X6_houses_69 N K21 (f_X6_houses_33 N K21 n) a0 v1 (v3 + (1 : Int32)) x7 v5 v6 t5)))))
    refine jr_iload hG 5 dX6_houses_33 rfl ?_
    refine jr_iload hG 4 dX6_houses_35 rfl ?_
    refine jr_icmp_ge hG 75 dX6_houses_37 (by decide) (fun _ => ?_) (fun _ => ?_)
    · refine jr_iinc (v := v5 + (1 : Int32)) (lv' := [(5, .int (v5 + (1 : Int32))), (0, .ref (E.B + a0)), (1, .int v1), (3, .int v3), (4, .int v4), (6, .int v6)]) hG 4 dX6_houses_75 rfl rfl (by decide) rfl ?_
      refine jr_goto hG 21 dX6_houses_78 (by decide) ?_
      refine jr_sub (lv' := [(0, .ref (E.B + a0)), (1, .int v1), (3, .int v3), (4, .int v4), (5, .int (v5 + (1 : Int32)))]) [1, 2, 3, 4, 0] rfl ?_
      exact hK21 a0 v1 v3 v4 (v5 + (1 : Int32)) ha0 (σ)
    · refine jr_aload_n hG 0 dX6_houses_40 rfl rfl ?_
      refine jr_iload_n hG 1 dX6_houses_41 rfl rfl ?_
      refine jr_iload hG 4 dX6_houses_42 rfl ?_
      refine jr_iload hG 5 dX6_houses_44 rfl ?_
      refine jr_callVi (As := [.int v1, .int v5, .int v6]) hG (c_X6_areAlike l E N a0 v1 v5 v6 (σ)) ci_X6_areAlike wd_1163 ⟨wd_1165, wd_63⟩ cl_6 (okO_s ha0) (okO_l ha0) ⟨rfl, rfl, Nat.le_of_ble_eq_true rfl, Nat.le_of_ble_eq_true rfl⟩ rfl rfl (Nat.le_of_ble_eq_true rfl) dX6_houses_46 ⟨Nat.le_refl _, Nat.le_refl _⟩ (fun r6 t5 => ?_)
      refine jr_if_eq hG 69 dX6_houses_49 (by decide) (fun _ => ?_) (fun _ => ?_)
      · exact w_X6_houses_69 N hG hr hk hK21 ih a0 v1 v3 v4 v5 v6 ha0 t5
      · refine jr_iinc (v := v3 + (1 : Int32)) (lv' := [(3, .int (v3 + (1 : Int32))), (0, .ref (E.B + a0)), (1, .int v1), (4, .int v4), (5, .int v5), (6, .int v6)]) hG 2 dX6_houses_52 rfl rfl (by decide) rfl ?_
        refine jr_iload hG 3 dX6_houses_55 rfl ?_
        refine jr_iconst (v := (1 : Int32)) hG dX6_houses_57 (by decide) ?_
        refine jr_iload hG 4 dX6_houses_58 rfl ?_
        refine jr_ishl hG dX6_houses_60 ?_
        refine jr_iconst (v := (1 : Int32)) hG dX6_houses_61 (by decide) ?_
        refine jr_iload hG 5 dX6_houses_62 rfl ?_
        refine jr_ishl hG dX6_houses_64 ?_
        refine jr_ior hG dX6_houses_65 ?_
        refine jr_ior hG dX6_houses_66 ?_
        refine jr_leti (fun x7 _ => ?_)
        refine jr_istore (lv' := [(4, .int x7), (3, .int (v3 + (1 : Int32))), (0, .ref (E.B + a0)), (1, .int v1), (5, .int v5), (6, .int v6)]) hG dX6_houses_67 (by decide) rfl ?_
        refine jr_sub (lv' := [(0, .ref (E.B + a0)), (1, .int v1), (3, .int (v3 + (1 : Int32))), (4, .int x7), (5, .int v5), (6, .int v6)]) [2, 3, 1, 0, 4, 5] rfl ?_
        exact w_X6_houses_69 N hG hr hk hK21 ih a0 v1 (v3 + (1 : Int32)) x7 v5 v6 ha0 t5
def f_X6_houses_21 (N : Nat)  : Nat → Nat → Int32 → Int32 → Int32 → Int32 → Mm → Option (Int32 × Mm)
  | 0 => fun _ _ _ _ _ _ => none
  | n + 1 => fun a0 v1 v3 v4 v5 σ => if (gi σ a0 10) ≤ v5 then (bI (f_X6_gives N a0 v4 v3 (σ)) (fun r4 t3 => some (r4, t3))) else (f_X6_houses_33 N (f_X6_houses_21 N n) N a0 v1 v3 v4 v5 (0 : Int32) (σ))
set_option maxRecDepth 20000 in
theorem w_X6_houses_21 {p : Program} {l : Launch} {e : Env} {s : State} {m : MethodId} {args : Array Value} {below : List Frame} {meth : Method} {c : Code} {E : XE} (N : Nat) (hG : GG E NT 7 RX6 cX6_houses p s m args c) (hr : meth.sig.returnType = (some .int)) (hk : meth.locks = false)  : ∀ (n : Nat) (a0 : Nat) (v1 : Int32) (v3 : Int32) (v4 : Int32) (v5 : Int32) (ha0 : okO 6 a0 = true) (σ : Mm), JR E NT 7 p l e rm_X6_houses s m args below meth c 0 0 (fun r => MQ below (xQi E (NT + 0) r) args s 0 0 (xA E)) 21 [(0, .ref (E.B + a0)), (1, .int v1), (3, .int v3), (4, .int v4), (5, .int v5)] [] σ (f_X6_houses_21 N n a0 v1 v3 v4 v5 σ) := by
  intro n
  induction n with
  | zero => intro a0 v1 v3 v4 v5 ha0 σ r hX; cases hX
  | succ n ih =>
    intro a0 v1 v3 v4 v5 ha0 σ
    show JR E NT 7 p l e rm_X6_houses s m args below meth c 0 0 (fun r => MQ below (xQi E (NT + 0) r) args s 0 0 (xA E)) 21 [(0, .ref (E.B + a0)), (1, .int v1), (3, .int v3), (4, .int v4), (5, .int v5)] [] σ (if (gi σ a0 10) ≤ v5 then (bI (f_X6_gives N a0 v4 v3 (σ)) (fun r4 t3 => some (r4, t3))) else (f_X6_houses_33 N (f_X6_houses_21 N n) N a0 v1 v3 v4 v5 (0 : Int32) (σ)))
    refine jr_iload hG 4 dX6_houses_21 rfl ?_
    refine jr_aload_n hG 0 dX6_houses_23 rfl rfl ?_
    refine jr_getI hG fi_RX6_147 rfl (okO_s ha0) (okO_l ha0) dX6_houses_24 ?_
    refine jr_icmp_ge hG 81 dX6_houses_27 (by decide) (fun _ => ?_) (fun _ => ?_)
    · refine jr_aload_n hG 0 dX6_houses_81 rfl rfl ?_
      refine jr_iload hG 3 dX6_houses_82 rfl ?_
      refine jr_iload_n hG 2 dX6_houses_84 rfl rfl ?_
      refine jr_callVi (As := [.int v4, .int v3]) hG (c_X6_gives l E N a0 v4 v3 (σ)) ci_X6_gives wd_881 ⟨wd_883, wd_23⟩ cl_6 (okO_s ha0) (okO_l ha0) ⟨rfl, rfl, Nat.le_of_ble_eq_true rfl, Nat.le_of_ble_eq_true rfl⟩ rfl rfl (Nat.le_of_ble_eq_true rfl) dX6_houses_85 ⟨Nat.le_refl _, Nat.le_refl _⟩ (fun r4 t3 => ?_)
      exact jr_iret hG hr hk dX6_houses_88
    · refine jr_iconst (v := (0 : Int32)) hG dX6_houses_30 (by decide) ?_
      refine jr_istore (lv' := [(6, .int (0 : Int32)), (0, .ref (E.B + a0)), (1, .int v1), (3, .int v3), (4, .int v4), (5, .int v5)]) hG dX6_houses_31 (by decide) rfl ?_
      refine jr_sub (lv' := [(0, .ref (E.B + a0)), (1, .int v1), (3, .int v3), (4, .int v4), (5, .int v5), (6, .int (0 : Int32))]) [1, 2, 3, 4, 5, 0] rfl ?_
      exact w_X6_houses_33 N hG hr hk ih N a0 v1 v3 v4 v5 (0 : Int32) ha0 (σ)
def f_X6_houses (N : Nat) (a0 : Nat) (v1 : Int32) (σ : Mm) : Option (Int32 × Mm) := if okO 6 a0 then (bI (f_X6_needMornings N a0 v1 (1 : Int32) (σ)) (fun r2 t1 => if 0 ≤ r2 then (f_X6_houses_21 N N a0 v1 (0 : Int32) (0 : Int32) (0 : Int32) t1) else (some (r2, t1)))) else none
set_option maxRecDepth 20000 in
theorem c_X6_houses (l : Launch) (E : XE) (N : Nat) (a0 : Nat) (v1 : Int32) (σ : Mm) : ∀ r0, f_X6_houses N a0 v1 σ = some r0 → Met l yX6_houses [Cond.code yX6_houses cX6_houses 7 (some .int)] rm_X6_houses (xPc E (NT + 0) σ [.ref (E.B + a0), .int v1]) (xQi E (NT + 0) r0) 0 0 (xA E) := by
  refine met_of (N0 := NT) (by decide +kernel) (Nat.le_of_ble_eq_true rfl) ?_
  intro p e s m args below meth c hG hr hk _
  show JR E NT 7 p l e rm_X6_houses s m args below meth c 0 0 (fun r => MQ below (xQi E (NT + 0) r) args s 0 0 (xA E)) 0 [(0, .ref (E.B + a0)), (1, .int v1)] [] σ (if okO 6 a0 then (bI (f_X6_needMornings N a0 v1 (1 : Int32) (σ)) (fun r2 t1 => if 0 ≤ r2 then (f_X6_houses_21 N N a0 v1 (0 : Int32) (0 : Int32) (0 : Int32) t1) else (some (r2, t1)))) else none)
  refine jr_guard (fun ha0 => ?_)
  refine jr_aload_n hG 0 dX6_houses_0 rfl rfl ?_
  refine jr_iload_n hG 1 dX6_houses_1 rfl rfl ?_
  refine jr_iconst (v := (1 : Int32)) hG dX6_houses_2 (by decide) ?_
  refine jr_callVi (As := [.int v1, .int (1 : Int32)]) hG (c_X6_needMornings l E N a0 v1 (1 : Int32) (σ)) ci_X6_needMornings wd_1159 ⟨wd_1161, wd_62⟩ cl_6 (okO_s ha0) (okO_l ha0) ⟨rfl, rfl, Nat.le_of_ble_eq_true rfl, Nat.le_of_ble_eq_true rfl⟩ rfl rfl (Nat.le_of_ble_eq_true rfl) dX6_houses_3 ⟨Nat.le_refl _, Nat.le_refl _⟩ (fun r2 t1 => ?_)
  refine jr_istore_n (lv' := [(2, .int r2), (0, .ref (E.B + a0)), (1, .int v1)]) hG dX6_houses_6 rfl (by decide) rfl ?_
  refine jr_iload_n hG 0 dX6_houses_7 rfl rfl ?_
  refine jr_if_ge hG 13 dX6_houses_8 (by decide) (fun _ => ?_) (fun _ => ?_)
  · refine jr_iconst (v := (0 : Int32)) hG dX6_houses_13 (by decide) ?_
    refine jr_istore_n (lv' := [(3, .int (0 : Int32)), (2, .int r2), (0, .ref (E.B + a0)), (1, .int v1)]) hG dX6_houses_14 rfl (by decide) rfl ?_
    refine jr_iconst (v := (0 : Int32)) hG dX6_houses_15 (by decide) ?_
    refine jr_istore (lv' := [(4, .int (0 : Int32)), (3, .int (0 : Int32)), (2, .int r2), (0, .ref (E.B + a0)), (1, .int v1)]) hG dX6_houses_16 (by decide) rfl ?_
    refine jr_iconst (v := (0 : Int32)) hG dX6_houses_18 (by decide) ?_
    refine jr_istore (lv' := [(5, .int (0 : Int32)), (4, .int (0 : Int32)), (3, .int (0 : Int32)), (2, .int r2), (0, .ref (E.B + a0)), (1, .int v1)]) hG dX6_houses_19 (by decide) rfl ?_
    refine jr_sub (lv' := [(0, .ref (E.B + a0)), (1, .int v1), (3, .int (0 : Int32)), (4, .int (0 : Int32)), (5, .int (0 : Int32))]) [4, 5, 2, 1, 0] rfl ?_
    exact w_X6_houses_21 N hG hr hk N a0 v1 (0 : Int32) (0 : Int32) (0 : Int32) ha0 t1
  · refine jr_iload_n hG 0 dX6_houses_11 rfl rfl ?_
    exact jr_iret hG hr hk dX6_houses_12
-- TonguesDealtModel.isBy(IIII)Z
abbrev rm_X6_isBy : Room := { frames := 0, cells := 0, slots := 0, locals := 0 }
theorem ci_X6_isBy : CIx yX6_isBy cX6_isBy 5 (some .boolean) 4 := ⟨wd_1174, wd_77, by decide +kernel⟩
def f_X6_isBy_71 (N : Nat)   (σ : Mm) : Option (Int32 × Mm) := some ((1 : Int32), σ)
set_option maxRecDepth 20000 in
theorem w_X6_isBy_71 {p : Program} {l : Launch} {e : Env} {s : State} {m : MethodId} {args : Array Value} {below : List Frame} {meth : Method} {c : Code} {E : XE} (N : Nat) (hG : GG E NT 5 RX6 cX6_isBy p s m args c) (hr : meth.sig.returnType = (some .boolean)) (hk : meth.locks = false)    (σ : Mm) : JR E NT 5 p l e rm_X6_isBy s m args below meth c 0 0 (fun r => MQ below (xQi E (NT + 0) r) args s 0 0 (xA E)) 71 [] [] σ (f_X6_isBy_71 N σ) := by
  show JR E NT 5 p l e rm_X6_isBy s m args below meth c 0 0 (fun r => MQ below (xQi E (NT + 0) r) args s 0 0 (xA E)) 71 [] [] σ (some ((1 : Int32), σ))
  refine jr_iconst (v := (1 : Int32)) hG dX6_isBy_71 (by decide) ?_
  refine jr_goto hG 76 dX6_isBy_72 (by decide) ?_
  exact jr_zret hG hr hk (by decide) dX6_isBy_76
def f_X6_isBy_54 (N : Nat)   (σ : Mm) : Option (Int32 × Mm) := some ((1 : Int32), σ)
set_option maxRecDepth 20000 in
theorem w_X6_isBy_54 {p : Program} {l : Launch} {e : Env} {s : State} {m : MethodId} {args : Array Value} {below : List Frame} {meth : Method} {c : Code} {E : XE} (N : Nat) (hG : GG E NT 5 RX6 cX6_isBy p s m args c) (hr : meth.sig.returnType = (some .boolean)) (hk : meth.locks = false)    (σ : Mm) : JR E NT 5 p l e rm_X6_isBy s m args below meth c 0 0 (fun r => MQ below (xQi E (NT + 0) r) args s 0 0 (xA E)) 54 [] [] σ (f_X6_isBy_54 N σ) := by
  show JR E NT 5 p l e rm_X6_isBy s m args below meth c 0 0 (fun r => MQ below (xQi E (NT + 0) r) args s 0 0 (xA E)) 54 [] [] σ (some ((1 : Int32), σ))
  refine jr_iconst (v := (1 : Int32)) hG dX6_isBy_54 (by decide) ?_
  refine jr_goto hG 59 dX6_isBy_55 (by decide) ?_
  exact jr_zret hG hr hk (by decide) dX6_isBy_59
def f_X6_isBy (N : Nat) (a0 : Nat) (v1 : Int32) (v2 : Int32) (v3 : Int32) (v4 : Int32) (σ : Mm) : Option (Int32 × Mm) := if okO 6 a0 then (if v1 = (0 : Int32) then (if v2 = v3 then (some ((1 : Int32), σ)) else (some ((0 : Int32), σ))) else (if v1 = (1 : Int32) then (if (1 : Int32) < v4 then (f_X6_isBy_54 N (σ)) else (if v3 = ((v2 + (1 : Int32)) - (v2 + (1 : Int32)) / (4 : Int32) * (4 : Int32)) then (f_X6_isBy_54 N (σ)) else (some ((0 : Int32), σ)))) else (if v1 = (2 : Int32) then (if (1 : Int32) < v4 then (f_X6_isBy_71 N (σ)) else (if v2 = v3 then (some ((0 : Int32), σ)) else (f_X6_isBy_71 N (σ)))) else (if v2 = v3 then (some ((0 : Int32), σ)) else (some ((1 : Int32), σ)))))) else none
set_option maxRecDepth 20000 in
theorem c_X6_isBy (l : Launch) (E : XE) (N : Nat) (a0 : Nat) (v1 : Int32) (v2 : Int32) (v3 : Int32) (v4 : Int32) (σ : Mm) : ∀ r0, f_X6_isBy N a0 v1 v2 v3 v4 σ = some r0 → Met l yX6_isBy [Cond.code yX6_isBy cX6_isBy 5 (some .boolean)] rm_X6_isBy (xPc E (NT + 0) σ [.ref (E.B + a0), .int v1, .int v2, .int v3, .int v4]) (xQi E (NT + 0) r0) 0 0 (xA E) := by
  refine met_of (N0 := NT) (by decide +kernel) (Nat.le_of_ble_eq_true rfl) ?_
  intro p e s m args below meth c hG hr hk _
  show JR E NT 5 p l e rm_X6_isBy s m args below meth c 0 0 (fun r => MQ below (xQi E (NT + 0) r) args s 0 0 (xA E)) 0 [(0, .ref (E.B + a0)), (1, .int v1), (2, .int v2), (3, .int v3), (4, .int v4)] [] σ (if okO 6 a0 then (if v1 = (0 : Int32) then (if v2 = v3 then (some ((1 : Int32), σ)) else (some ((0 : Int32), σ))) else (if v1 = (1 : Int32) then (if (1 : Int32) < v4 then (f_X6_isBy_54 N (σ)) else (if v3 = ((v2 + (1 : Int32)) - (v2 + (1 : Int32)) / (4 : Int32) * (4 : Int32)) then (f_X6_isBy_54 N (σ)) else (some ((0 : Int32), σ)))) else (if v1 = (2 : Int32) then (if (1 : Int32) < v4 then (f_X6_isBy_71 N (σ)) else (if v2 = v3 then (some ((0 : Int32), σ)) else (f_X6_isBy_71 N (σ)))) else (if v2 = v3 then (some ((0 : Int32), σ)) else (some ((1 : Int32), σ)))))) else none)
  refine jr_guard (fun ha0 => ?_)
  refine jr_iload_n hG 1 dX6_isBy_0 rfl rfl ?_
  refine jr_ite (fun hs0 => ?_) (fun hs0 => ?_)
  · refine jr_tabIn (off := 27) hG 28 dX6_isBy_1 (0 : Int32) hs0 (by decide) ?_
    refine jr_iload_n hG 2 dX6_isBy_28 rfl rfl ?_
    refine jr_iload_n hG 3 dX6_isBy_29 rfl rfl ?_
    refine jr_icmp_ne hG 37 dX6_isBy_30 (by decide) (fun _ => ?_) (fun _ => ?_)
    · refine jr_iconst (v := (0 : Int32)) hG dX6_isBy_37 (by decide) ?_
      exact jr_zret hG hr hk (by decide) dX6_isBy_38
    · refine jr_iconst (v := (1 : Int32)) hG dX6_isBy_33 (by decide) ?_
      refine jr_goto hG 38 dX6_isBy_34 (by decide) ?_
      exact jr_zret hG hr hk (by decide) dX6_isBy_38
  refine jr_ite (fun hs1 => ?_) (fun hs1 => ?_)
  · refine jr_tabIn (off := 38) hG 39 dX6_isBy_1 (1 : Int32) hs1 (by decide) ?_
    refine jr_iload hG 4 dX6_isBy_39 rfl ?_
    refine jr_iconst (v := (1 : Int32)) hG dX6_isBy_41 (by decide) ?_
    refine jr_icmp_gt hG 54 dX6_isBy_42 (by decide) (fun _ => ?_) (fun _ => ?_)
    · refine jr_sub (lv' := []) [] rfl ?_
      exact w_X6_isBy_54 N hG hr hk (σ)
    · refine jr_iload_n hG 3 dX6_isBy_45 rfl rfl ?_
      refine jr_iload_n hG 2 dX6_isBy_46 rfl rfl ?_
      refine jr_iconst (v := (1 : Int32)) hG dX6_isBy_47 (by decide) ?_
      refine jr_iadd hG dX6_isBy_48 ?_
      refine jr_iconst (v := (4 : Int32)) hG dX6_isBy_49 (by decide) ?_
      refine jr_iremc hG dX6_isBy_50 (by decide) ?_
      refine jr_icmp_ne hG 58 dX6_isBy_51 (by decide) (fun _ => ?_) (fun _ => ?_)
      · refine jr_iconst (v := (0 : Int32)) hG dX6_isBy_58 (by decide) ?_
        exact jr_zret hG hr hk (by decide) dX6_isBy_59
      · refine jr_sub (lv' := []) [] rfl ?_
        exact w_X6_isBy_54 N hG hr hk (σ)
  refine jr_ite (fun hs2 => ?_) (fun hs2 => ?_)
  · refine jr_tabIn (off := 59) hG 60 dX6_isBy_1 (2 : Int32) hs2 (by decide) ?_
    refine jr_iload hG 4 dX6_isBy_60 rfl ?_
    refine jr_iconst (v := (1 : Int32)) hG dX6_isBy_62 (by decide) ?_
    refine jr_icmp_gt hG 71 dX6_isBy_63 (by decide) (fun _ => ?_) (fun _ => ?_)
    · refine jr_sub (lv' := []) [] rfl ?_
      exact w_X6_isBy_71 N hG hr hk (σ)
    · refine jr_iload_n hG 2 dX6_isBy_66 rfl rfl ?_
      refine jr_iload_n hG 3 dX6_isBy_67 rfl rfl ?_
      refine jr_icmp_eq hG 75 dX6_isBy_68 (by decide) (fun _ => ?_) (fun _ => ?_)
      · refine jr_iconst (v := (0 : Int32)) hG dX6_isBy_75 (by decide) ?_
        exact jr_zret hG hr hk (by decide) dX6_isBy_76
      · refine jr_sub (lv' := []) [] rfl ?_
        exact w_X6_isBy_71 N hG hr hk (σ)
  refine jr_tabOut hG 77 dX6_isBy_1 (tab_out0_2 hs0 hs1 hs2) (by decide) ?_
  refine jr_iload_n hG 2 dX6_isBy_77 rfl rfl ?_
  refine jr_iload_n hG 3 dX6_isBy_78 rfl rfl ?_
  refine jr_icmp_eq hG 86 dX6_isBy_79 (by decide) (fun _ => ?_) (fun _ => ?_)
  · refine jr_iconst (v := (0 : Int32)) hG dX6_isBy_86 (by decide) ?_
    exact jr_zret hG hr hk (by decide) dX6_isBy_87
  · refine jr_iconst (v := (1 : Int32)) hG dX6_isBy_82 (by decide) ?_
    refine jr_goto hG 87 dX6_isBy_83 (by decide) ?_
    exact jr_zret hG hr hk (by decide) dX6_isBy_87
-- TonguesDealtModel.rule(II)I
abbrev rm_X6_rule : Room := { frames := 3, cells := 0, slots := 0, locals := 67 }
theorem ci_X6_rule : CIx yX6_rule cX6_rule 9 (some .int) 2 := ⟨wd_1170, wd_77, by decide +kernel⟩
def f_X6_rule_159 (N : Nat) (K24 : Nat → Int32 → Int32 → Int32 → Int32 → Mm → Option (Int32 × Mm)) (a0 : Nat) (v1 : Int32) (v2 : Int32) (v5 : Int32) (s0 : Int32) (s1 : Int32) (σ : Mm) : Option (Int32 × Mm) := lt (s1 ||| s0) (fun x16 => K24 a0 v1 v2 x16 (v5 + (1 : Int32)) (σ))
set_option maxRecDepth 20000 in
theorem w_X6_rule_159 {p : Program} {l : Launch} {e : Env} {s : State} {m : MethodId} {args : Array Value} {below : List Frame} {meth : Method} {c : Code} {E : XE} (N : Nat) (hG : GG E NT 9 RX6 cX6_rule p s m args c) (hr : meth.sig.returnType = (some .int)) (hk : meth.locks = false) {K24 : Nat → Int32 → Int32 → Int32 → Int32 → Mm → Option (Int32 × Mm)} (hK24 : ∀ (a0 : Nat) (v1 : Int32) (v2 : Int32) (v4 : Int32) (v5 : Int32) (ha0 : okO 6 a0 = true) (σ : Mm), JR E NT 9 p l e rm_X6_rule s m args below meth c 0 0 (fun r => MQ below (xQi E (NT + 0) r) args s 0 0 (xA E)) 24 [(0, .ref (E.B + a0)), (1, .int v1), (2, .int v2), (4, .int v4), (5, .int v5)] [] σ (K24 a0 v1 v2 v4 v5 σ)) (a0 : Nat) (v1 : Int32) (v2 : Int32) (v5 : Int32) (s0 : Int32) (s1 : Int32) (ha0 : okO 6 a0 = true) (σ : Mm) : JR E NT 9 p l e rm_X6_rule s m args below meth c 0 0 (fun r => MQ below (xQi E (NT + 0) r) args s 0 0 (xA E)) 159 [(0, .ref (E.B + a0)), (1, .int v1), (2, .int v2), (5, .int v5)] [.int s0, .int s1] σ (f_X6_rule_159 N K24 a0 v1 v2 v5 s0 s1 σ) := by
  show JR E NT 9 p l e rm_X6_rule s m args below meth c 0 0 (fun r => MQ below (xQi E (NT + 0) r) args s 0 0 (xA E)) 159 [(0, .ref (E.B + a0)), (1, .int v1), (2, .int v2), (5, .int v5)] [.int s0, .int s1] σ (lt (s1 ||| s0) (fun x16 => K24 a0 v1 v2 x16 (v5 + (1 : Int32)) (σ)))
  refine jr_ior hG dX6_rule_159 ?_
  refine jr_leti (fun x16 _ => ?_)
  refine jr_istore (lv' := [(4, .int x16), (0, .ref (E.B + a0)), (1, .int v1), (2, .int v2), (5, .int v5)]) hG dX6_rule_160 (by decide) rfl ?_
  refine jr_iinc (v := v5 + (1 : Int32)) (lv' := [(5, .int (v5 + (1 : Int32))), (4, .int x16), (0, .ref (E.B + a0)), (1, .int v1), (2, .int v2)]) hG 4 dX6_rule_162 rfl rfl (by decide) rfl ?_
  refine jr_goto hG 24 dX6_rule_165 (by decide) ?_
  refine jr_sub (lv' := [(0, .ref (E.B + a0)), (1, .int v1), (2, .int v2), (4, .int x16), (5, .int (v5 + (1 : Int32)))]) [2, 3, 4, 1, 0] rfl ?_
  exact hK24 a0 v1 v2 x16 (v5 + (1 : Int32)) ha0 (σ)
def f_X6_rule_118 (N : Nat) (K24 : Nat → Int32 → Int32 → Int32 → Int32 → Mm → Option (Int32 × Mm)) (K39 : Nat → Int32 → Int32 → Int32 → Int32 → Int32 → Int32 → Mm → Option (Int32 × Mm)) (K59 : Nat → Int32 → Int32 → Int32 → Int32 → Int32 → Int32 → Int32 → Mm → Option (Int32 × Mm)) (a0 : Nat) (v1 : Int32) (v2 : Int32) (v4 : Int32) (v5 : Int32) (v7 : Int32) (v8 : Int32) (s0 : Int32) (σ : Mm) : Option (Int32 × Mm) := lt (v8 + (gi σ a0 10)) (fun x15 => K59 a0 v1 v2 v4 v5 s0 v7 x15 (σ))
set_option maxRecDepth 20000 in
theorem w_X6_rule_118 {p : Program} {l : Launch} {e : Env} {s : State} {m : MethodId} {args : Array Value} {below : List Frame} {meth : Method} {c : Code} {E : XE} (N : Nat) (hG : GG E NT 9 RX6 cX6_rule p s m args c) (hr : meth.sig.returnType = (some .int)) (hk : meth.locks = false) {K24 : Nat → Int32 → Int32 → Int32 → Int32 → Mm → Option (Int32 × Mm)} (hK24 : ∀ (a0 : Nat) (v1 : Int32) (v2 : Int32) (v4 : Int32) (v5 : Int32) (ha0 : okO 6 a0 = true) (σ : Mm), JR E NT 9 p l e rm_X6_rule s m args below meth c 0 0 (fun r => MQ below (xQi E (NT + 0) r) args s 0 0 (xA E)) 24 [(0, .ref (E.B + a0)), (1, .int v1), (2, .int v2), (4, .int v4), (5, .int v5)] [] σ (K24 a0 v1 v2 v4 v5 σ)) {K39 : Nat → Int32 → Int32 → Int32 → Int32 → Int32 → Int32 → Mm → Option (Int32 × Mm)} (hK39 : ∀ (a0 : Nat) (v1 : Int32) (v2 : Int32) (v4 : Int32) (v5 : Int32) (v6 : Int32) (v7 : Int32) (ha0 : okO 6 a0 = true) (σ : Mm), JR E NT 9 p l e rm_X6_rule s m args below meth c 0 0 (fun r => MQ below (xQi E (NT + 0) r) args s 0 0 (xA E)) 39 [(0, .ref (E.B + a0)), (1, .int v1), (2, .int v2), (4, .int v4), (5, .int v5), (6, .int v6), (7, .int v7)] [] σ (K39 a0 v1 v2 v4 v5 v6 v7 σ)) {K59 : Nat → Int32 → Int32 → Int32 → Int32 → Int32 → Int32 → Int32 → Mm → Option (Int32 × Mm)} (hK59 : ∀ (a0 : Nat) (v1 : Int32) (v2 : Int32) (v4 : Int32) (v5 : Int32) (v6 : Int32) (v7 : Int32) (v8 : Int32) (ha0 : okO 6 a0 = true) (σ : Mm), JR E NT 9 p l e rm_X6_rule s m args below meth c 0 0 (fun r => MQ below (xQi E (NT + 0) r) args s 0 0 (xA E)) 59 [(0, .ref (E.B + a0)), (1, .int v1), (2, .int v2), (4, .int v4), (5, .int v5), (6, .int v6), (7, .int v7), (8, .int v8)] [] σ (K59 a0 v1 v2 v4 v5 v6 v7 v8 σ)) (a0 : Nat) (v1 : Int32) (v2 : Int32) (v4 : Int32) (v5 : Int32) (v7 : Int32) (v8 : Int32) (s0 : Int32) (ha0 : okO 6 a0 = true) (σ : Mm) : JR E NT 9 p l e rm_X6_rule s m args below meth c 0 0 (fun r => MQ below (xQi E (NT + 0) r) args s 0 0 (xA E)) 118 [(0, .ref (E.B + a0)), (1, .int v1), (2, .int v2), (4, .int v4), (5, .int v5), (7, .int v7), (8, .int v8)] [.int s0] σ (f_X6_rule_118 N K24 K39 K59 a0 v1 v2 v4 v5 v7 v8 s0 σ) := by
  show JR E NT 9 p l e rm_X6_rule s m args below meth c 0 0 (fun r => MQ below (xQi E (NT + 0) r) args s 0 0 (xA E)) 118 [(0, .ref (E.B + a0)), (1, .int v1), (2, .int v2), (4, .int v4), (5, .int v5), (7, .int v7), (8, .int v8)] [.int s0] σ (lt (v8 + (gi σ a0 10)) (fun x15 => K59 a0 v1 v2 v4 v5 s0 v7 x15 (σ)))
  refine jr_istore (lv' := [(6, .int s0), (0, .ref (E.B + a0)), (1, .int v1), (2, .int v2), (4, .int v4), (5, .int v5), (7, .int v7), (8, .int v8)]) hG dX6_rule_118 (by decide) rfl ?_
  refine jr_iload hG 7 dX6_rule_120 rfl ?_
  refine jr_aload_n hG 1 dX6_rule_122 rfl rfl ?_
  refine jr_getI hG fi_RX6_147 rfl (okO_s ha0) (okO_l ha0) dX6_rule_123 ?_
  refine jr_iadd hG dX6_rule_126 ?_
  refine jr_leti (fun x15 _ => ?_)
  refine jr_istore (lv' := [(8, .int x15), (6, .int s0), (0, .ref (E.B + a0)), (1, .int v1), (2, .int v2), (4, .int v4), (5, .int v5), (7, .int v7)]) hG dX6_rule_127 (by decide) rfl ?_
  refine jr_goto hG 59 dX6_rule_129 (by decide) ?_
  refine jr_sub (lv' := [(0, .ref (E.B + a0)), (1, .int v1), (2, .int v2), (4, .int v4), (5, .int v5), (6, .int s0), (7, .int v7), (8, .int x15)]) [2, 3, 4, 5, 6, 1, 7, 0] rfl ?_
  exact hK59 a0 v1 v2 v4 v5 s0 v7 x15 ha0 (σ)
def f_X6_rule_117 (N : Nat) (K24 : Nat → Int32 → Int32 → Int32 → Int32 → Mm → Option (Int32 × Mm)) (K39 : Nat → Int32 → Int32 → Int32 → Int32 → Int32 → Int32 → Mm → Option (Int32 × Mm)) (K59 : Nat → Int32 → Int32 → Int32 → Int32 → Int32 → Int32 → Int32 → Mm → Option (Int32 × Mm)) (a0 : Nat) (v1 : Int32) (v2 : Int32) (v4 : Int32) (v5 : Int32) (v7 : Int32) (v8 : Int32) (σ : Mm) : Option (Int32 × Mm) := f_X6_rule_118 N K24 K39 K59 a0 v1 v2 v4 v5 v7 v8 (0 : Int32) (σ)
set_option maxRecDepth 20000 in
theorem w_X6_rule_117 {p : Program} {l : Launch} {e : Env} {s : State} {m : MethodId} {args : Array Value} {below : List Frame} {meth : Method} {c : Code} {E : XE} (N : Nat) (hG : GG E NT 9 RX6 cX6_rule p s m args c) (hr : meth.sig.returnType = (some .int)) (hk : meth.locks = false) {K24 : Nat → Int32 → Int32 → Int32 → Int32 → Mm → Option (Int32 × Mm)} (hK24 : ∀ (a0 : Nat) (v1 : Int32) (v2 : Int32) (v4 : Int32) (v5 : Int32) (ha0 : okO 6 a0 = true) (σ : Mm), JR E NT 9 p l e rm_X6_rule s m args below meth c 0 0 (fun r => MQ below (xQi E (NT + 0) r) args s 0 0 (xA E)) 24 [(0, .ref (E.B + a0)), (1, .int v1), (2, .int v2), (4, .int v4), (5, .int v5)] [] σ (K24 a0 v1 v2 v4 v5 σ)) {K39 : Nat → Int32 → Int32 → Int32 → Int32 → Int32 → Int32 → Mm → Option (Int32 × Mm)} (hK39 : ∀ (a0 : Nat) (v1 : Int32) (v2 : Int32) (v4 : Int32) (v5 : Int32) (v6 : Int32) (v7 : Int32) (ha0 : okO 6 a0 = true) (σ : Mm), JR E NT 9 p l e rm_X6_rule s m args below meth c 0 0 (fun r => MQ below (xQi E (NT + 0) r) args s 0 0 (xA E)) 39 [(0, .ref (E.B + a0)), (1, .int v1), (2, .int v2), (4, .int v4), (5, .int v5), (6, .int v6), (7, .int v7)] [] σ (K39 a0 v1 v2 v4 v5 v6 v7 σ)) {K59 : Nat → Int32 → Int32 → Int32 → Int32 → Int32 → Int32 → Int32 → Mm → Option (Int32 × Mm)} (hK59 : ∀ (a0 : Nat) (v1 : Int32) (v2 : Int32) (v4 : Int32) (v5 : Int32) (v6 : Int32) (v7 : Int32) (v8 : Int32) (ha0 : okO 6 a0 = true) (σ : Mm), JR E NT 9 p l e rm_X6_rule s m args below meth c 0 0 (fun r => MQ below (xQi E (NT + 0) r) args s 0 0 (xA E)) 59 [(0, .ref (E.B + a0)), (1, .int v1), (2, .int v2), (4, .int v4), (5, .int v5), (6, .int v6), (7, .int v7), (8, .int v8)] [] σ (K59 a0 v1 v2 v4 v5 v6 v7 v8 σ)) (a0 : Nat) (v1 : Int32) (v2 : Int32) (v4 : Int32) (v5 : Int32) (v7 : Int32) (v8 : Int32) (ha0 : okO 6 a0 = true) (σ : Mm) : JR E NT 9 p l e rm_X6_rule s m args below meth c 0 0 (fun r => MQ below (xQi E (NT + 0) r) args s 0 0 (xA E)) 117 [(0, .ref (E.B + a0)), (1, .int v1), (2, .int v2), (4, .int v4), (5, .int v5), (7, .int v7), (8, .int v8)] [] σ (f_X6_rule_117 N K24 K39 K59 a0 v1 v2 v4 v5 v7 v8 σ) := by
  show JR E NT 9 p l e rm_X6_rule s m args below meth c 0 0 (fun r => MQ below (xQi E (NT + 0) r) args s 0 0 (xA E)) 117 [(0, .ref (E.B + a0)), (1, .int v1), (2, .int v2), (4, .int v4), (5, .int v5), (7, .int v7), (8, .int v8)] [] σ (f_X6_rule_118 N K24 K39 K59 a0 v1 v2 v4 v5 v7 v8 (0 : Int32) (σ))
  refine jr_iconst (v := (0 : Int32)) hG dX6_rule_117 (by decide) ?_
  exact w_X6_rule_118 N hG hr hk hK24 hK39 hK59 a0 v1 v2 v4 v5 v7 v8 (0 : Int32) ha0 (σ)
def f_X6_rule_59 (N : Nat) (K24 : Nat → Int32 → Int32 → Int32 → Int32 → Mm → Option (Int32 × Mm)) (K39 : Nat → Int32 → Int32 → Int32 → Int32 → Int32 → Int32 → Mm → Option (Int32 × Mm)) : Nat → Nat → Int32 → Int32 → Int32 → Int32 → Int32 → Int32 → Int32 → Mm → Option (Int32 × Mm)
  | 0 => fun _ _ _ _ _ _ _ _ _ => none
  | n + 1 => fun a0 v1 v2 v4 v5 v6 v7 v8 σ => bR (gr σ a0 5) (okA 0) (fun o7 => if inb v1 (arL o7) then (if (gi σ o7 (ix v1)) ≤ v8 then (lt (v7 + (gi σ a0 10)) (fun x8 => K39 a0 v1 v2 v4 v5 v6 x8 (σ))) else (if v6 = 0 then (f_X6_rule_117 N K24 K39 (f_X6_rule_59 N K24 K39 n) a0 v1 v2 v4 v5 v7 v8 (σ)) else (bI (f_X6_rowAt N a0 v1 (v7 + v5) (σ)) (fun r10 t9 => bI (f_X6_rowAt N a0 v1 (v8 + v5) t9) (fun r12 t11 => if (gi t11 a0 10) = 0 then none else bI (f_X6_isBy N a0 v2 r10 r12 ((v8 - v7) / (gi t11 a0 10)) t11) (fun r14 t13 => if r14 = 0 then (f_X6_rule_117 N K24 K39 (f_X6_rule_59 N K24 K39 n) a0 v1 v2 v4 v5 v7 v8 t13) else (f_X6_rule_118 N K24 K39 (f_X6_rule_59 N K24 K39 n) a0 v1 v2 v4 v5 v7 v8 (1 : Int32) t13))))))) else none)
set_option maxRecDepth 20000 in
theorem w_X6_rule_59 {p : Program} {l : Launch} {e : Env} {s : State} {m : MethodId} {args : Array Value} {below : List Frame} {meth : Method} {c : Code} {E : XE} (N : Nat) (hG : GG E NT 9 RX6 cX6_rule p s m args c) (hr : meth.sig.returnType = (some .int)) (hk : meth.locks = false) {K24 : Nat → Int32 → Int32 → Int32 → Int32 → Mm → Option (Int32 × Mm)} (hK24 : ∀ (a0 : Nat) (v1 : Int32) (v2 : Int32) (v4 : Int32) (v5 : Int32) (ha0 : okO 6 a0 = true) (σ : Mm), JR E NT 9 p l e rm_X6_rule s m args below meth c 0 0 (fun r => MQ below (xQi E (NT + 0) r) args s 0 0 (xA E)) 24 [(0, .ref (E.B + a0)), (1, .int v1), (2, .int v2), (4, .int v4), (5, .int v5)] [] σ (K24 a0 v1 v2 v4 v5 σ)) {K39 : Nat → Int32 → Int32 → Int32 → Int32 → Int32 → Int32 → Mm → Option (Int32 × Mm)} (hK39 : ∀ (a0 : Nat) (v1 : Int32) (v2 : Int32) (v4 : Int32) (v5 : Int32) (v6 : Int32) (v7 : Int32) (ha0 : okO 6 a0 = true) (σ : Mm), JR E NT 9 p l e rm_X6_rule s m args below meth c 0 0 (fun r => MQ below (xQi E (NT + 0) r) args s 0 0 (xA E)) 39 [(0, .ref (E.B + a0)), (1, .int v1), (2, .int v2), (4, .int v4), (5, .int v5), (6, .int v6), (7, .int v7)] [] σ (K39 a0 v1 v2 v4 v5 v6 v7 σ)) : ∀ (n : Nat) (a0 : Nat) (v1 : Int32) (v2 : Int32) (v4 : Int32) (v5 : Int32) (v6 : Int32) (v7 : Int32) (v8 : Int32) (ha0 : okO 6 a0 = true) (σ : Mm), JR E NT 9 p l e rm_X6_rule s m args below meth c 0 0 (fun r => MQ below (xQi E (NT + 0) r) args s 0 0 (xA E)) 59 [(0, .ref (E.B + a0)), (1, .int v1), (2, .int v2), (4, .int v4), (5, .int v5), (6, .int v6), (7, .int v7), (8, .int v8)] [] σ (f_X6_rule_59 N K24 K39 n a0 v1 v2 v4 v5 v6 v7 v8 σ) := by
  intro n
  induction n with
  | zero => intro a0 v1 v2 v4 v5 v6 v7 v8 ha0 σ r hX; cases hX
  | succ n ih =>
    intro a0 v1 v2 v4 v5 v6 v7 v8 ha0 σ
    show JR E NT 9 p l e rm_X6_rule s m args below meth c 0 0 (fun r => MQ below (xQi E (NT + 0) r) args s 0 0 (xA E)) 59 [(0, .ref (E.B + a0)), (1, .int v1), (2, .int v2), (4, .int v4), (5, .int v5), (6, .int v6), (7, .int v7), (8, .int v8)] [] σ (bR (gr σ a0 5) (okA 0) (fun o7 => if inb v1 (arL o7) then (if (gi σ o7 (ix v1)) ≤ v8 then (lt (v7 + (gi σ a0 10)) (fun x8 => K39 a0 v1 v2 v4 v5 v6 x8 (σ))) else (if v6 = 0 then (f_X6_rule_117 N K24 K39 (f_X6_rule_59 N K24 K39 n) a0 v1 v2 v4 v5 v7 v8 (σ)) else (bI (f_X6_rowAt N a0 v1 (v7 + v5) (σ)) (fun r10 t9 => bI (f_X6_rowAt N a0 v1 (v8 + v5) t9) (fun r12 t11 => if (gi t11 a0 10) = 0 then none else bI (f_X6_isBy N a0 v2 r10 r12 ((v8 - v7) / (gi t11 a0 10)) t11) (fun r14 t13 => if r14 = 0 then (f_X6_rule_117 N K24 K39 (f_X6_rule_59 N K24 K39 n) a0 v1 v2 v4 v5 v7 v8 t13) else (f_X6_rule_118 N K24 K39 (f_X6_rule_59 N K24 K39 n) a0 v1 v2 v4 v5 v7 v8 (1 : Int32) t13))))))) else none))
    refine jr_iload hG 7 dX6_rule_59 rfl ?_
    refine jr_aload_n hG 0 dX6_rule_61 rfl rfl ?_
    refine jr_getR hG fi_RX6_17 rfl (okO_s ha0) (okO_l ha0) dX6_rule_62 (fun o7 ho7 => ?_)
    refine jr_iload_n hG 1 dX6_rule_65 rfl rfl ?_
    refine jr_iald hG (okA_s (by decide) ho7) (okA_l ho7) dX6_rule_66 ?_
    refine jr_icmp_ge hG 132 dX6_rule_67 (by decide) (fun _ => ?_) (fun _ => ?_)
    · refine jr_iload hG 6 dX6_rule_132 rfl ?_
      refine jr_aload_n hG 0 dX6_rule_134 rfl rfl ?_
      refine jr_getI hG fi_RX6_147 rfl (okO_s ha0) (okO_l ha0) dX6_rule_135 ?_
      refine jr_iadd hG dX6_rule_138 ?_
      refine jr_leti (fun x8 _ => ?_)
      refine jr_istore (lv' := [(7, .int x8), (0, .ref (E.B + a0)), (1, .int v1), (2, .int v2), (4, .int v4), (5, .int v5), (6, .int v6), (8, .int v8)]) hG dX6_rule_139 (by decide) rfl ?_
      refine jr_goto hG 39 dX6_rule_141 (by decide) ?_
      refine jr_sub (lv' := [(0, .ref (E.B + a0)), (1, .int v1), (2, .int v2), (4, .int v4), (5, .int v5), (6, .int v6), (7, .int x8)]) [1, 2, 3, 4, 5, 6, 0] rfl ?_
      exact hK39 a0 v1 v2 v4 v5 v6 x8 ha0 (σ)
    · refine jr_iload hG 5 dX6_rule_70 rfl ?_
      refine jr_if_eq hG 117 dX6_rule_72 (by decide) (fun _ => ?_) (fun _ => ?_)
      · refine jr_sub (lv' := [(0, .ref (E.B + a0)), (1, .int v1), (2, .int v2), (4, .int v4), (5, .int v5), (7, .int v7), (8, .int v8)]) [0, 1, 2, 3, 4, 6, 7] rfl ?_
        exact w_X6_rule_117 N hG hr hk hK24 hK39 ih a0 v1 v2 v4 v5 v7 v8 ha0 (σ)
      · refine jr_aload_n hG 0 dX6_rule_75 rfl rfl ?_
        refine jr_iload_n hG 2 dX6_rule_76 rfl rfl ?_
        refine jr_aload_n hG 0 dX6_rule_77 rfl rfl ?_
        refine jr_iload_n hG 1 dX6_rule_78 rfl rfl ?_
        refine jr_iload hG 6 dX6_rule_79 rfl ?_
        refine jr_iload hG 4 dX6_rule_81 rfl ?_
        refine jr_iadd hG dX6_rule_83 ?_
        refine jr_callVi (As := [.int v1, .int (v7 + v5)]) hG (c_X6_rowAt l E N a0 v1 (v7 + v5) (σ)) ci_X6_rowAt wd_877 ⟨wd_879, wd_22⟩ cl_6 (okO_s ha0) (okO_l ha0) ⟨rfl, rfl, Nat.le_of_ble_eq_true rfl, Nat.le_of_ble_eq_true rfl⟩ rfl rfl (Nat.le_of_ble_eq_true rfl) dX6_rule_84 ⟨Nat.le_refl _, Nat.le_refl _⟩ (fun r10 t9 => ?_)
        refine jr_aload_n hG 0 dX6_rule_87 rfl rfl ?_
        refine jr_iload_n hG 1 dX6_rule_88 rfl rfl ?_
        refine jr_iload hG 7 dX6_rule_89 rfl ?_
        refine jr_iload hG 4 dX6_rule_91 rfl ?_
        refine jr_iadd hG dX6_rule_93 ?_
        refine jr_callVi (As := [.int v1, .int (v8 + v5)]) hG (c_X6_rowAt l E N a0 v1 (v8 + v5) t9) ci_X6_rowAt wd_877 ⟨wd_879, wd_22⟩ cl_6 (okO_s ha0) (okO_l ha0) ⟨rfl, rfl, Nat.le_of_ble_eq_true rfl, Nat.le_of_ble_eq_true rfl⟩ rfl rfl (Nat.le_of_ble_eq_true rfl) dX6_rule_94 ⟨Nat.le_refl _, Nat.le_refl _⟩ (fun r12 t11 => ?_)
        refine jr_iload hG 7 dX6_rule_97 rfl ?_
        refine jr_iload hG 6 dX6_rule_99 rfl ?_
        refine jr_isub hG dX6_rule_101 ?_
        refine jr_aload_n hG 0 dX6_rule_102 rfl rfl ?_
        refine jr_getI hG fi_RX6_147 rfl (okO_s ha0) (okO_l ha0) dX6_rule_103 ?_
        refine jr_idiv hG dX6_rule_106 ?_
        refine jr_callVi (As := [.int v2, .int r10, .int r12, .int ((v8 - v7) / (gi t11 a0 10))]) hG (c_X6_isBy l E N a0 v2 r10 r12 ((v8 - v7) / (gi t11 a0 10)) t11) ci_X6_isBy wd_1171 ⟨wd_1173, wd_64⟩ cl_6 (okO_s ha0) (okO_l ha0) ⟨rfl, rfl, Nat.le_of_ble_eq_true rfl, Nat.le_of_ble_eq_true rfl⟩ rfl rfl (Nat.le_of_ble_eq_true rfl) dX6_rule_107 ⟨Nat.le_refl _, Nat.le_refl _⟩ (fun r14 t13 => ?_)
        refine jr_if_eq hG 117 dX6_rule_110 (by decide) (fun _ => ?_) (fun _ => ?_)
        · refine jr_sub (lv' := [(0, .ref (E.B + a0)), (1, .int v1), (2, .int v2), (4, .int v4), (5, .int v5), (7, .int v7), (8, .int v8)]) [0, 1, 2, 3, 4, 6, 7] rfl ?_
          exact w_X6_rule_117 N hG hr hk hK24 hK39 ih a0 v1 v2 v4 v5 v7 v8 ha0 t13
        · refine jr_iconst (v := (1 : Int32)) hG dX6_rule_113 (by decide) ?_
          refine jr_goto hG 118 dX6_rule_114 (by decide) ?_
          refine jr_sub (lv' := [(0, .ref (E.B + a0)), (1, .int v1), (2, .int v2), (4, .int v4), (5, .int v5), (7, .int v7), (8, .int v8)]) [0, 1, 2, 3, 4, 6, 7] rfl ?_
          exact w_X6_rule_118 N hG hr hk hK24 hK39 ih a0 v1 v2 v4 v5 v7 v8 (1 : Int32) ha0 t13
def f_X6_rule_39 (N : Nat) (K24 : Nat → Int32 → Int32 → Int32 → Int32 → Mm → Option (Int32 × Mm)) : Nat → Nat → Int32 → Int32 → Int32 → Int32 → Int32 → Int32 → Mm → Option (Int32 × Mm)
  | 0 => fun _ _ _ _ _ _ _ _ => none
  | n + 1 => fun a0 v1 v2 v4 v5 v6 v7 σ => bR (gr σ a0 5) (okA 0) (fun o5 => if inb v1 (arL o5) then (if (gi σ o5 (ix v1)) ≤ v7 then (if v6 = 0 then (f_X6_rule_159 N K24 a0 v1 v2 v5 (0 : Int32) v4 (σ)) else (f_X6_rule_159 N K24 a0 v1 v2 v5 ((1 : Int32) <<< (v5 &&& 31)) v4 (σ))) else (lt (v7 + (gi σ a0 10)) (fun x6 => f_X6_rule_59 N K24 (f_X6_rule_39 N K24 n) N a0 v1 v2 v4 v5 v6 v7 x6 (σ)))) else none)
set_option maxRecDepth 20000 in
theorem w_X6_rule_39 {p : Program} {l : Launch} {e : Env} {s : State} {m : MethodId} {args : Array Value} {below : List Frame} {meth : Method} {c : Code} {E : XE} (N : Nat) (hG : GG E NT 9 RX6 cX6_rule p s m args c) (hr : meth.sig.returnType = (some .int)) (hk : meth.locks = false) {K24 : Nat → Int32 → Int32 → Int32 → Int32 → Mm → Option (Int32 × Mm)} (hK24 : ∀ (a0 : Nat) (v1 : Int32) (v2 : Int32) (v4 : Int32) (v5 : Int32) (ha0 : okO 6 a0 = true) (σ : Mm), JR E NT 9 p l e rm_X6_rule s m args below meth c 0 0 (fun r => MQ below (xQi E (NT + 0) r) args s 0 0 (xA E)) 24 [(0, .ref (E.B + a0)), (1, .int v1), (2, .int v2), (4, .int v4), (5, .int v5)] [] σ (K24 a0 v1 v2 v4 v5 σ)) : ∀ (n : Nat) (a0 : Nat) (v1 : Int32) (v2 : Int32) (v4 : Int32) (v5 : Int32) (v6 : Int32) (v7 : Int32) (ha0 : okO 6 a0 = true) (σ : Mm), JR E NT 9 p l e rm_X6_rule s m args below meth c 0 0 (fun r => MQ below (xQi E (NT + 0) r) args s 0 0 (xA E)) 39 [(0, .ref (E.B + a0)), (1, .int v1), (2, .int v2), (4, .int v4), (5, .int v5), (6, .int v6), (7, .int v7)] [] σ (f_X6_rule_39 N K24 n a0 v1 v2 v4 v5 v6 v7 σ) := by
  intro n
  induction n with
  | zero => intro a0 v1 v2 v4 v5 v6 v7 ha0 σ r hX; cases hX
  | succ n ih =>
    intro a0 v1 v2 v4 v5 v6 v7 ha0 σ
    show JR E NT 9 p l e rm_X6_rule s m args below meth c 0 0 (fun r => MQ below (xQi E (NT + 0) r) args s 0 0 (xA E)) 39 [(0, .ref (E.B + a0)), (1, .int v1), (2, .int v2), (4, .int v4), (5, .int v5), (6, .int v6), (7, .int v7)] [] σ (bR (gr σ a0 5) (okA 0) (fun o5 => if inb v1 (arL o5) then (if (gi σ o5 (ix v1)) ≤ v7 then (if v6 = 0 then (f_X6_rule_159 N K24 a0 v1 v2 v5 (0 : Int32) v4 (σ)) else (f_X6_rule_159 N K24 a0 v1 v2 v5 ((1 : Int32) <<< (v5 &&& 31)) v4 (σ))) else (lt (v7 + (gi σ a0 10)) (fun x6 => f_X6_rule_59 N K24 (f_X6_rule_39 N K24 n) N a0 v1 v2 v4 v5 v6 v7 x6 (σ)))) else none))
    refine jr_iload hG 6 dX6_rule_39 rfl ?_
    refine jr_aload_n hG 0 dX6_rule_41 rfl rfl ?_
    refine jr_getR hG fi_RX6_17 rfl (okO_s ha0) (okO_l ha0) dX6_rule_42 (fun o5 ho5 => ?_)
    refine jr_iload_n hG 1 dX6_rule_45 rfl rfl ?_
    refine jr_iald hG (okA_s (by decide) ho5) (okA_l ho5) dX6_rule_46 ?_
    refine jr_icmp_ge hG 144 dX6_rule_47 (by decide) (fun _ => ?_) (fun _ => ?_)
    · refine jr_iload hG 3 dX6_rule_144 rfl ?_
      refine jr_iload hG 5 dX6_rule_146 rfl ?_
      refine jr_if_eq hG 158 dX6_rule_148 (by decide) (fun _ => ?_) (fun _ => ?_)
      · refine jr_iconst (v := (0 : Int32)) hG dX6_rule_158 (by decide) ?_
        refine jr_sub (lv' := [(0, .ref (E.B + a0)), (1, .int v1), (2, .int v2), (5, .int v5)]) [0, 1, 2, 4] rfl ?_
        exact w_X6_rule_159 N hG hr hk hK24 a0 v1 v2 v5 (0 : Int32) v4 ha0 (σ)
      · refine jr_iconst (v := (1 : Int32)) hG dX6_rule_151 (by decide) ?_
        refine jr_iload hG 4 dX6_rule_152 rfl ?_
        refine jr_ishl hG dX6_rule_154 ?_
        refine jr_goto hG 159 dX6_rule_155 (by decide) ?_
        refine jr_sub (lv' := [(0, .ref (E.B + a0)), (1, .int v1), (2, .int v2), (5, .int v5)]) [0, 1, 2, 4] rfl ?_
        exact w_X6_rule_159 N hG hr hk hK24 a0 v1 v2 v5 ((1 : Int32) <<< (v5 &&& 31)) v4 ha0 (σ)
    · refine jr_iload hG 6 dX6_rule_50 rfl ?_
      refine jr_aload_n hG 0 dX6_rule_52 rfl rfl ?_
      refine jr_getI hG fi_RX6_147 rfl (okO_s ha0) (okO_l ha0) dX6_rule_53 ?_
      refine jr_iadd hG dX6_rule_56 ?_
      refine jr_leti (fun x6 _ => ?_)
      refine jr_istore (lv' := [(8, .int x6), (0, .ref (E.B + a0)), (1, .int v1), (2, .int v2), (4, .int v4), (5, .int v5), (6, .int v6), (7, .int v7)]) hG dX6_rule_57 (by decide) rfl ?_
      refine jr_sub (lv' := [(0, .ref (E.B + a0)), (1, .int v1), (2, .int v2), (4, .int v4), (5, .int v5), (6, .int v6), (7, .int v7), (8, .int x6)]) [1, 2, 3, 4, 5, 6, 7, 0] rfl ?_
      exact w_X6_rule_59 N hG hr hk hK24 ih N a0 v1 v2 v4 v5 v6 v7 x6 ha0 (σ)
def f_X6_rule_24 (N : Nat)  : Nat → Nat → Int32 → Int32 → Int32 → Int32 → Mm → Option (Int32 × Mm)
  | 0 => fun _ _ _ _ _ _ => none
  | n + 1 => fun a0 v1 v2 v4 v5 σ => if (gi σ a0 10) ≤ v5 then (some (v4, σ)) else (f_X6_rule_39 N (f_X6_rule_24 N n) N a0 v1 v2 v4 v5 (1 : Int32) (0 : Int32) (σ))
set_option maxRecDepth 20000 in
theorem w_X6_rule_24 {p : Program} {l : Launch} {e : Env} {s : State} {m : MethodId} {args : Array Value} {below : List Frame} {meth : Method} {c : Code} {E : XE} (N : Nat) (hG : GG E NT 9 RX6 cX6_rule p s m args c) (hr : meth.sig.returnType = (some .int)) (hk : meth.locks = false)  : ∀ (n : Nat) (a0 : Nat) (v1 : Int32) (v2 : Int32) (v4 : Int32) (v5 : Int32) (ha0 : okO 6 a0 = true) (σ : Mm), JR E NT 9 p l e rm_X6_rule s m args below meth c 0 0 (fun r => MQ below (xQi E (NT + 0) r) args s 0 0 (xA E)) 24 [(0, .ref (E.B + a0)), (1, .int v1), (2, .int v2), (4, .int v4), (5, .int v5)] [] σ (f_X6_rule_24 N n a0 v1 v2 v4 v5 σ) := by
  intro n
  induction n with
  | zero => intro a0 v1 v2 v4 v5 ha0 σ r hX; cases hX
  | succ n ih =>
    intro a0 v1 v2 v4 v5 ha0 σ
    show JR E NT 9 p l e rm_X6_rule s m args below meth c 0 0 (fun r => MQ below (xQi E (NT + 0) r) args s 0 0 (xA E)) 24 [(0, .ref (E.B + a0)), (1, .int v1), (2, .int v2), (4, .int v4), (5, .int v5)] [] σ (if (gi σ a0 10) ≤ v5 then (some (v4, σ)) else (f_X6_rule_39 N (f_X6_rule_24 N n) N a0 v1 v2 v4 v5 (1 : Int32) (0 : Int32) (σ)))
    refine jr_iload hG 4 dX6_rule_24 rfl ?_
    refine jr_aload_n hG 0 dX6_rule_26 rfl rfl ?_
    refine jr_getI hG fi_RX6_147 rfl (okO_s ha0) (okO_l ha0) dX6_rule_27 ?_
    refine jr_icmp_ge hG 168 dX6_rule_30 (by decide) (fun _ => ?_) (fun _ => ?_)
    · refine jr_iload hG 3 dX6_rule_168 rfl ?_
      exact jr_iret hG hr hk dX6_rule_170
    · refine jr_iconst (v := (1 : Int32)) hG dX6_rule_33 (by decide) ?_
      refine jr_istore (lv' := [(6, .int (1 : Int32)), (0, .ref (E.B + a0)), (1, .int v1), (2, .int v2), (4, .int v4), (5, .int v5)]) hG dX6_rule_34 (by decide) rfl ?_
      refine jr_iconst (v := (0 : Int32)) hG dX6_rule_36 (by decide) ?_
      refine jr_istore (lv' := [(7, .int (0 : Int32)), (6, .int (1 : Int32)), (0, .ref (E.B + a0)), (1, .int v1), (2, .int v2), (4, .int v4), (5, .int v5)]) hG dX6_rule_37 (by decide) rfl ?_
      refine jr_sub (lv' := [(0, .ref (E.B + a0)), (1, .int v1), (2, .int v2), (4, .int v4), (5, .int v5), (6, .int (1 : Int32)), (7, .int (0 : Int32))]) [2, 3, 4, 5, 6, 1, 0] rfl ?_
      exact w_X6_rule_39 N hG hr hk ih N a0 v1 v2 v4 v5 (1 : Int32) (0 : Int32) ha0 (σ)
def f_X6_rule (N : Nat) (a0 : Nat) (v1 : Int32) (v2 : Int32) (σ : Mm) : Option (Int32 × Mm) := if okO 6 a0 then (bI (f_X6_in N v2 (0 : Int32) (3 : Int32) (σ)) (fun r2 t1 => bI (f_X6_needMornings N a0 v1 r2 t1) (fun r4 t3 => if 0 ≤ r4 then (f_X6_rule_24 N N a0 v1 v2 (0 : Int32) (0 : Int32) t3) else (some (r4, t3))))) else none
set_option maxRecDepth 20000 in
theorem c_X6_rule (l : Launch) (E : XE) (N : Nat) (a0 : Nat) (v1 : Int32) (v2 : Int32) (σ : Mm) : ∀ r0, f_X6_rule N a0 v1 v2 σ = some r0 → Met l yX6_rule [Cond.code yX6_rule cX6_rule 9 (some .int)] rm_X6_rule (xPc E (NT + 0) σ [.ref (E.B + a0), .int v1, .int v2]) (xQi E (NT + 0) r0) 0 0 (xA E) := by
  refine met_of (N0 := NT) (by decide +kernel) (Nat.le_of_ble_eq_true rfl) ?_
  intro p e s m args below meth c hG hr hk _
  show JR E NT 9 p l e rm_X6_rule s m args below meth c 0 0 (fun r => MQ below (xQi E (NT + 0) r) args s 0 0 (xA E)) 0 [(0, .ref (E.B + a0)), (1, .int v1), (2, .int v2)] [] σ (if okO 6 a0 then (bI (f_X6_in N v2 (0 : Int32) (3 : Int32) (σ)) (fun r2 t1 => bI (f_X6_needMornings N a0 v1 r2 t1) (fun r4 t3 => if 0 ≤ r4 then (f_X6_rule_24 N N a0 v1 v2 (0 : Int32) (0 : Int32) t3) else (some (r4, t3))))) else none)
  refine jr_guard (fun ha0 => ?_)
  refine jr_aload_n hG 0 dX6_rule_0 rfl rfl ?_
  refine jr_iload_n hG 1 dX6_rule_1 rfl rfl ?_
  refine jr_iload_n hG 2 dX6_rule_2 rfl rfl ?_
  refine jr_iconst (v := (0 : Int32)) hG dX6_rule_3 (by decide) ?_
  refine jr_iconst (v := (3 : Int32)) hG dX6_rule_4 (by decide) ?_
  refine jr_callSi (As := [.int v2, .int (0 : Int32), .int (3 : Int32)]) hG (c_X6_in l E N v2 (0 : Int32) (3 : Int32) (σ)) ci_X6_in wd_847 wd_848 ⟨rfl, rfl, Nat.le_of_ble_eq_true rfl, Nat.le_of_ble_eq_true rfl⟩ rfl rfl (Nat.le_of_ble_eq_true rfl) dX6_rule_5 ⟨Nat.le_refl _, Nat.le_refl _⟩ (fun r2 t1 => ?_)
  refine jr_callVi (As := [.int v1, .int r2]) hG (c_X6_needMornings l E N a0 v1 r2 t1) ci_X6_needMornings wd_1159 ⟨wd_1161, wd_62⟩ cl_6 (okO_s ha0) (okO_l ha0) ⟨rfl, rfl, Nat.le_of_ble_eq_true rfl, Nat.le_of_ble_eq_true rfl⟩ rfl rfl (Nat.le_of_ble_eq_true rfl) dX6_rule_8 ⟨Nat.le_refl _, Nat.le_refl _⟩ (fun r4 t3 => ?_)
  refine jr_istore_n (lv' := [(3, .int r4), (0, .ref (E.B + a0)), (1, .int v1), (2, .int v2)]) hG dX6_rule_11 rfl (by decide) rfl ?_
  refine jr_iload_n hG 0 dX6_rule_12 rfl rfl ?_
  refine jr_if_ge hG 18 dX6_rule_13 (by decide) (fun _ => ?_) (fun _ => ?_)
  · refine jr_iconst (v := (0 : Int32)) hG dX6_rule_18 (by decide) ?_
    refine jr_istore (lv' := [(4, .int (0 : Int32)), (3, .int r4), (0, .ref (E.B + a0)), (1, .int v1), (2, .int v2)]) hG dX6_rule_19 (by decide) rfl ?_
    refine jr_iconst (v := (0 : Int32)) hG dX6_rule_21 (by decide) ?_
    refine jr_istore (lv' := [(5, .int (0 : Int32)), (4, .int (0 : Int32)), (3, .int r4), (0, .ref (E.B + a0)), (1, .int v1), (2, .int v2)]) hG dX6_rule_22 (by decide) rfl ?_
    refine jr_sub (lv' := [(0, .ref (E.B + a0)), (1, .int v1), (2, .int v2), (4, .int (0 : Int32)), (5, .int (0 : Int32))]) [3, 4, 5, 1, 0] rfl ?_
    exact w_X6_rule_24 N hG hr hk N a0 v1 v2 (0 : Int32) (0 : Int32) ha0 t3
  · refine jr_iload_n hG 0 dX6_rule_16 rfl rfl ?_
    exact jr_iret hG hr hk dX6_rule_17
