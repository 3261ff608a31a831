-- TonguesDealtModel.noon()I
abbrev rm_X6_noon : Room := { frames := 2, cells := 0, slots := 0, locals := 44 }
theorem ci_X6_noon : CIx yX6_noon cX6_noon 3 (some .int) 0 := ⟨wd_1015, wd_77, by decide +kernel⟩
def f_X6_noon_78 (N : Nat) (K41 : Nat → Int32 → Int32 → Mm → Option (Int32 × Mm)) (a0 : Nat) (v2 : Int32) (s0 : Int32) (s1 : Int32) (σ : Mm) : Option (Int32 × Mm) := lt (s1 + s0) (fun x11 => K41 a0 x11 (v2 + (1 : Int32)) (σ))
set_option maxRecDepth 20000 in
theorem w_X6_noon_78 {p : Program} {l : Launch} {e : Env} {s : State} {m : MethodId} {args : Array Value} {below : List Frame} {meth : Method} {c : Code} {E : XE} (N : Nat) (hG : GG E NT 3 RX6 cX6_noon p s m args c) (hr : meth.sig.returnType = (some .int)) (hk : meth.locks = false) {K41 : Nat → Int32 → Int32 → Mm → Option (Int32 × Mm)} (hK41 : ∀ (a0 : Nat) (v1 : Int32) (v2 : Int32) (ha0 : okO 6 a0 = true) (σ : Mm), JR E NT 3 p l e rm_X6_noon s m args below meth c 0 0 (fun r => MQ below (xQi E (NT + 0) r) args s 0 0 (xA E)) 41 [(0, .ref (E.B + a0)), (1, .int v1), (2, .int v2)] [] σ (K41 a0 v1 v2 σ)) (a0 : Nat) (v2 : Int32) (s0 : Int32) (s1 : Int32) (ha0 : okO 6 a0 = true) (σ : Mm) : JR E NT 3 p l e rm_X6_noon s m args below meth c 0 0 (fun r => MQ below (xQi E (NT + 0) r) args s 0 0 (xA E)) 78 [(0, .ref (E.B + a0)), (2, .int v2)] [.int s0, .int s1] σ (f_X6_noon_78 N K41 a0 v2 s0 s1 σ) := by
  show JR E NT 3 p l e rm_X6_noon s m args below meth c 0 0 (fun r => MQ below (xQi E (NT + 0) r) args s 0 0 (xA E)) 78 [(0, .ref (E.B + a0)), (2, .int v2)] [.int s0, .int s1] σ (lt (s1 + s0) (fun x11 => K41 a0 x11 (v2 + (1 : Int32)) (σ)))
  refine jr_iadd hG dX6_noon_78 ?_
  refine jr_leti (fun x11 _ => ?_)
  refine jr_istore_n (lv' := [(1, .int x11), (0, .ref (E.B + a0)), (2, .int v2)]) hG dX6_noon_79 rfl (by decide) rfl ?_
  refine jr_iinc (v := v2 + (1 : Int32)) (lv' := [(2, .int (v2 + (1 : Int32))), (1, .int x11), (0, .ref (E.B + a0))]) hG 2 dX6_noon_80 rfl rfl (by decide) rfl ?_
  refine jr_goto hG 41 dX6_noon_83 (by decide) ?_
  refine jr_sub (lv' := [(0, .ref (E.B + a0)), (1, .int x11), (2, .int (v2 + (1 : Int32)))]) [2, 1, 0] rfl ?_
  exact hK41 a0 x11 (v2 + (1 : Int32)) ha0 (σ)
def f_X6_noon_41 (N : Nat)  : Nat → Nat → Int32 → Int32 → Mm → Option (Int32 × Mm)
  | 0 => fun _ _ _ _ => none
  | n + 1 => fun a0 v1 v2 σ => if (gi σ a0 10) ≤ v2 then (bR (gr σ a0 19) (okA 0) (fun o3 => if inb (13 : Int32) (arL o3) then (lt (si σ o3 (ix (13 : Int32)) (1 : Int32)) (fun t4 => some (v1, t4))) else none)) else (bR (gr σ a0 19) (okA 0) (fun o5 => bI (f_X6_knows N a0 o5 v2 (1 : Int32) (σ)) (fun r7 t6 => bR (gr t6 a0 19) (okA 0) (fun o8 => bI (f_X6_knows N a0 o8 v2 (0 : Int32) t6) (fun r10 t9 => if r7 = r10 then (f_X6_noon_78 N (f_X6_noon_41 N n) a0 v2 (0 : Int32) v1 t9) else (f_X6_noon_78 N (f_X6_noon_41 N n) a0 v2 (1 : Int32) v1 t9))))))
set_option maxRecDepth 20000 in
theorem w_X6_noon_41 {p : Program} {l : Launch} {e : Env} {s : State} {m : MethodId} {args : Array Value} {below : List Frame} {meth : Method} {c : Code} {E : XE} (N : Nat) (hG : GG E NT 3 RX6 cX6_noon p s m args c) (hr : meth.sig.returnType = (some .int)) (hk : meth.locks = false)  : ∀ (n : Nat) (a0 : Nat) (v1 : Int32) (v2 : Int32) (ha0 : okO 6 a0 = true) (σ : Mm), JR E NT 3 p l e rm_X6_noon s m args below meth c 0 0 (fun r => MQ below (xQi E (NT + 0) r) args s 0 0 (xA E)) 41 [(0, .ref (E.B + a0)), (1, .int v1), (2, .int v2)] [] σ (f_X6_noon_41 N n a0 v1 v2 σ) := by
  intro n
  induction n with
  | zero => intro a0 v1 v2 ha0 σ r hX; cases hX
  | succ n ih =>
    intro a0 v1 v2 ha0 σ
    show JR E NT 3 p l e rm_X6_noon s m args below meth c 0 0 (fun r => MQ below (xQi E (NT + 0) r) args s 0 0 (xA E)) 41 [(0, .ref (E.B + a0)), (1, .int v1), (2, .int v2)] [] σ (if (gi σ a0 10) ≤ v2 then (bR (gr σ a0 19) (okA 0) (fun o3 => if inb (13 : Int32) (arL o3) then (lt (si σ o3 (ix (13 : Int32)) (1 : Int32)) (fun t4 => some (v1, t4))) else none)) else (bR (gr σ a0 19) (okA 0) (fun o5 => bI (f_X6_knows N a0 o5 v2 (1 : Int32) (σ)) (fun r7 t6 => bR (gr t6 a0 19) (okA 0) (fun o8 => bI (f_X6_knows N a0 o8 v2 (0 : Int32) t6) (fun r10 t9 => if r7 = r10 then (f_X6_noon_78 N (f_X6_noon_41 N n) a0 v2 (0 : Int32) v1 t9) else (f_X6_noon_78 N (f_X6_noon_41 N n) a0 v2 (1 : Int32) v1 t9)))))))
    refine jr_iload_n hG 2 dX6_noon_41 rfl rfl ?_
    refine jr_aload_n hG 0 dX6_noon_42 rfl rfl ?_
    refine jr_getI hG fi_RX6_147 rfl (okO_s ha0) (okO_l ha0) dX6_noon_43 ?_
    refine jr_icmp_ge hG 86 dX6_noon_46 (by decide) (fun _ => ?_) (fun _ => ?_)
    · refine jr_aload_n hG 0 dX6_noon_86 rfl rfl ?_
      refine jr_getR hG fi_RX6_48 rfl (okO_s ha0) (okO_l ha0) dX6_noon_87 (fun o3 ho3 => ?_)
      refine jr_bipush (v := (13 : Int32)) hG dX6_noon_90 (by decide) ?_
      refine jr_iconst (v := (1 : Int32)) hG dX6_noon_92 (by decide) ?_
      refine jr_iast hG (okA_s (by decide) ho3) (okA_l ho3) dX6_noon_93 ?_
      refine jr_lets (fun t4 _ => ?_)
      refine jr_iload_n hG 1 dX6_noon_94 rfl rfl ?_
      exact jr_iret hG hr hk dX6_noon_95
    · refine jr_iload_n hG 1 dX6_noon_49 rfl rfl ?_
      refine jr_aload_n hG 0 dX6_noon_50 rfl rfl ?_
      refine jr_aload_n hG 0 dX6_noon_51 rfl rfl ?_
      refine jr_getR hG fi_RX6_48 rfl (okO_s ha0) (okO_l ha0) dX6_noon_52 (fun o5 ho5 => ?_)
      refine jr_iload_n hG 2 dX6_noon_55 rfl rfl ?_
      refine jr_iconst (v := (1 : Int32)) hG dX6_noon_56 (by decide) ?_
      refine jr_callVi (As := [.ref (E.B + o5), .int v2, .int (1 : Int32)]) hG (c_X6_knows l E N a0 o5 v2 (1 : Int32) (σ)) ci_X6_knows wd_962 ⟨wd_964, wd_32⟩ cl_6 (okO_s ha0) (okO_l ha0) ⟨rfl, rfl, Nat.le_of_ble_eq_true rfl, Nat.le_of_ble_eq_true rfl⟩ rfl rfl (Nat.le_of_ble_eq_true rfl) dX6_noon_57 ⟨Nat.le_refl _, Nat.le_refl _⟩ (fun r7 t6 => ?_)
      refine jr_aload_n hG 0 dX6_noon_60 rfl rfl ?_
      refine jr_aload_n hG 0 dX6_noon_61 rfl rfl ?_
      refine jr_getR hG fi_RX6_48 rfl (okO_s ha0) (okO_l ha0) dX6_noon_62 (fun o8 ho8 => ?_)
      refine jr_iload_n hG 2 dX6_noon_65 rfl rfl ?_
      refine jr_iconst (v := (0 : Int32)) hG dX6_noon_66 (by decide) ?_
      refine jr_callVi (As := [.ref (E.B + o8), .int v2, .int (0 : Int32)]) hG (c_X6_knows l E N a0 o8 v2 (0 : Int32) t6) ci_X6_knows wd_962 ⟨wd_964, wd_32⟩ cl_6 (okO_s ha0) (okO_l ha0) ⟨rfl, rfl, Nat.le_of_ble_eq_true rfl, Nat.le_of_ble_eq_true rfl⟩ rfl rfl (Nat.le_of_ble_eq_true rfl) dX6_noon_67 ⟨Nat.le_refl _, Nat.le_refl _⟩ (fun r10 t9 => ?_)
      refine jr_icmp_eq hG 77 dX6_noon_70 (by decide) (fun _ => ?_) (fun _ => ?_)
      · refine jr_iconst (v := (0 : Int32)) hG dX6_noon_77 (by decide) ?_
        refine jr_sub (lv' := [(0, .ref (E.B + a0)), (2, .int v2)]) [0, 2] rfl ?_
        exact w_X6_noon_78 N hG hr hk ih a0 v2 (0 : Int32) v1 ha0 t9
      · refine jr_iconst (v := (1 : Int32)) hG dX6_noon_73 (by decide) ?_
        refine jr_goto hG 78 dX6_noon_74 (by decide) ?_
        refine jr_sub (lv' := [(0, .ref (E.B + a0)), (2, .int v2)]) [0, 2] rfl ?_
        exact w_X6_noon_78 N hG hr hk ih a0 v2 (1 : Int32) v1 ha0 t9
def f_X6_noon_18 (N : Nat)   (σ : Mm) : Option (Int32 × Mm) := some ((-4 : Int32), σ)
set_option maxRecDepth 20000 in
theorem w_X6_noon_18 {p : Program} {l : Launch} {e : Env} {s : State} {m : MethodId} {args : Array Value} {below : List Frame} {meth : Method} {c : Code} {E : XE} (N : Nat) (hG : GG E NT 3 RX6 cX6_noon p s m args c) (hr : meth.sig.returnType = (some .int)) (hk : meth.locks = false)    (σ : Mm) : JR E NT 3 p l e rm_X6_noon s m args below meth c 0 0 (fun r => MQ below (xQi E (NT + 0) r) args s 0 0 (xA E)) 18 [] [] σ (f_X6_noon_18 N σ) := by
  show JR E NT 3 p l e rm_X6_noon s m args below meth c 0 0 (fun r => MQ below (xQi E (NT + 0) r) args s 0 0 (xA E)) 18 [] [] σ (some ((-4 : Int32), σ))
  refine jr_bipush (v := (-4 : Int32)) hG dX6_noon_18 (by decide) ?_
  exact jr_iret hG hr hk dX6_noon_20
def f_X6_noon (N : Nat) (a0 : Nat) (σ : Mm) : Option (Int32 × Mm) := if okO 6 a0 then (if (gi σ a0 10) = 0 then (f_X6_noon_18 N (σ)) else (bR (gr σ a0 19) (okA 0) (fun o1 => if inb (13 : Int32) (arL o1) then (if (gi σ o1 (ix (13 : Int32))) = (1 : Int32) then (f_X6_noon_18 N (σ)) else (if (gi σ a0 22) = (40 : Int32) then (some ((-2 : Int32), σ)) else (bV (f_X6_remember N a0 (σ)) (fun t2 => f_X6_noon_41 N N a0 (0 : Int32) (0 : Int32) t2)))) else none))) else none
set_option maxRecDepth 20000 in
theorem c_X6_noon (l : Launch) (E : XE) (N : Nat) (a0 : Nat) (σ : Mm) : ∀ r0, f_X6_noon N a0 σ = some r0 → Met l yX6_noon [Cond.code yX6_noon cX6_noon 3 (some .int)] rm_X6_noon (xPc E (NT + 0) σ [.ref (E.B + a0)]) (xQi E (NT + 0) r0) 0 0 (xA E) := by
  refine met_of (N0 := NT) (by decide +kernel) (Nat.le_of_ble_eq_true rfl) ?_
  intro p e s m args below meth c hG hr hk _
  show JR E NT 3 p l e rm_X6_noon s m args below meth c 0 0 (fun r => MQ below (xQi E (NT + 0) r) args s 0 0 (xA E)) 0 [(0, .ref (E.B + a0))] [] σ (if okO 6 a0 then (if (gi σ a0 10) = 0 then (f_X6_noon_18 N (σ)) else (bR (gr σ a0 19) (okA 0) (fun o1 => if inb (13 : Int32) (arL o1) then (if (gi σ o1 (ix (13 : Int32))) = (1 : Int32) then (f_X6_noon_18 N (σ)) else (if (gi σ a0 22) = (40 : Int32) then (some ((-2 : Int32), σ)) else (bV (f_X6_remember N a0 (σ)) (fun t2 => f_X6_noon_41 N N a0 (0 : Int32) (0 : Int32) t2)))) else none))) else none)
  refine jr_guard (fun ha0 => ?_)
  refine jr_aload_n hG 0 dX6_noon_0 rfl rfl ?_
  refine jr_getI hG fi_RX6_147 rfl (okO_s ha0) (okO_l ha0) dX6_noon_1 ?_
  refine jr_if_eq hG 18 dX6_noon_4 (by decide) (fun _ => ?_) (fun _ => ?_)
  · refine jr_sub (lv' := []) [] rfl ?_
    exact w_X6_noon_18 N hG hr hk (σ)
  · refine jr_aload_n hG 0 dX6_noon_7 rfl rfl ?_
    refine jr_getR hG fi_RX6_48 rfl (okO_s ha0) (okO_l ha0) dX6_noon_8 (fun o1 ho1 => ?_)
    refine jr_bipush (v := (13 : Int32)) hG dX6_noon_11 (by decide) ?_
    refine jr_iald hG (okA_s (by decide) ho1) (okA_l ho1) dX6_noon_13 ?_
    refine jr_iconst (v := (1 : Int32)) hG dX6_noon_14 (by decide) ?_
    refine jr_icmp_ne hG 21 dX6_noon_15 (by decide) (fun _ => ?_) (fun _ => ?_)
    · refine jr_aload_n hG 0 dX6_noon_21 rfl rfl ?_
      refine jr_getI hG fi_RX6_150 rfl (okO_s ha0) (okO_l ha0) dX6_noon_22 ?_
      refine jr_bipush (v := (40 : Int32)) hG dX6_noon_25 (by decide) ?_
      refine jr_icmp_ne hG 33 dX6_noon_27 (by decide) (fun _ => ?_) (fun _ => ?_)
      · refine jr_aload_n hG 0 dX6_noon_33 rfl rfl ?_
        refine jr_callVv (As := []) hG (c_X6_remember l E N a0 (σ)) ci_X6_remember wd_1008 ⟨wd_1010, wd_40⟩ cl_6 (okO_s ha0) (okO_l ha0) ⟨rfl, rfl, Nat.le_of_ble_eq_true rfl, Nat.le_of_ble_eq_true rfl⟩ rfl rfl (Nat.le_of_ble_eq_true rfl) dX6_noon_34 ⟨Nat.le_refl _, Nat.le_refl _⟩ (fun t2 => ?_)
        refine jr_iconst (v := (0 : Int32)) hG dX6_noon_37 (by decide) ?_
        refine jr_istore_n (lv' := [(1, .int (0 : Int32)), (0, .ref (E.B + a0))]) hG dX6_noon_38 rfl (by decide) rfl ?_
        refine jr_iconst (v := (0 : Int32)) hG dX6_noon_39 (by decide) ?_
        refine jr_istore_n (lv' := [(2, .int (0 : Int32)), (1, .int (0 : Int32)), (0, .ref (E.B + a0))]) hG dX6_noon_40 rfl (by decide) rfl ?_
        refine jr_sub (lv' := [(0, .ref (E.B + a0)), (1, .int (0 : Int32)), (2, .int (0 : Int32))]) [2, 1, 0] rfl ?_
        exact w_X6_noon_41 N hG hr hk N a0 (0 : Int32) (0 : Int32) ha0 t2
      · refine jr_bipush (v := (-2 : Int32)) hG dX6_noon_30 (by decide) ?_
        exact jr_iret hG hr hk dX6_noon_32
    · refine jr_sub (lv' := []) [] rfl ?_
      exact w_X6_noon_18 N hG hr hk (σ)
-- TonguesDealtModel.signMany()I
abbrev rm_X6_signMany : Room := { frames := 1, cells := 0, slots := 0, locals := 22 }
theorem ci_X6_signMany : CIx yX6_signMany cX6_signMany 3 (some .int) 0 := ⟨wd_1027, wd_77, by decide +kernel⟩
def f_X6_signMany_4 (N : Nat)  : Nat → Nat → Int32 → Int32 → Mm → Option (Int32 × Mm)
  | 0 => fun _ _ _ _ => none
  | n + 1 => fun a0 v1 v2 σ => if (gi σ a0 10) ≤ v2 then (some (v1 / (2 : Int32), σ)) else (bR (gr σ a0 19) (okA 0) (fun o1 => if inb ((6 : Int32) + v2) (arL o1) then (bI (f_X6_bits N (gi σ o1 (ix ((6 : Int32) + v2))) (σ)) (fun r3 t2 => lt (v1 + r3) (fun x4 => f_X6_signMany_4 N n a0 x4 (v2 + (1 : Int32)) t2))) else none))
set_option maxRecDepth 20000 in
theorem w_X6_signMany_4 {p : Program} {l : Launch} {e : Env} {s : State} {m : MethodId} {args : Array Value} {below : List Frame} {meth : Method} {c : Code} {E : XE} (N : Nat) (hG : GG E NT 3 RX6 cX6_signMany p s m args c) (hr : meth.sig.returnType = (some .int)) (hk : meth.locks = false)  : ∀ (n : Nat) (a0 : Nat) (v1 : Int32) (v2 : Int32) (ha0 : okO 6 a0 = true) (σ : Mm), JR E NT 3 p l e rm_X6_signMany s m args below meth c 0 0 (fun r => MQ below (xQi E (NT + 0) r) args s 0 0 (xA E)) 4 [(0, .ref (E.B + a0)), (1, .int v1), (2, .int v2)] [] σ (f_X6_signMany_4 N n a0 v1 v2 σ) := by
  intro n
  induction n with
  | zero => intro a0 v1 v2 ha0 σ r hX; cases hX
  | succ n ih =>
    intro a0 v1 v2 ha0 σ
    show JR E NT 3 p l e rm_X6_signMany s m args below meth c 0 0 (fun r => MQ below (xQi E (NT + 0) r) args s 0 0 (xA E)) 4 [(0, .ref (E.B + a0)), (1, .int v1), (2, .int v2)] [] σ (if (gi σ a0 10) ≤ v2 then (some (v1 / (2 : Int32), σ)) else (bR (gr σ a0 19) (okA 0) (fun o1 => if inb ((6 : Int32) + v2) (arL o1) then (bI (f_X6_bits N (gi σ o1 (ix ((6 : Int32) + v2))) (σ)) (fun r3 t2 => lt (v1 + r3) (fun x4 => f_X6_signMany_4 N n a0 x4 (v2 + (1 : Int32)) t2))) else none)))
    refine jr_iload_n hG 2 dX6_signMany_4 rfl rfl ?_
    refine jr_aload_n hG 0 dX6_signMany_5 rfl rfl ?_
    refine jr_getI hG fi_RX6_147 rfl (okO_s ha0) (okO_l ha0) dX6_signMany_6 ?_
    refine jr_icmp_ge hG 33 dX6_signMany_9 (by decide) (fun _ => ?_) (fun _ => ?_)
    · refine jr_iload_n hG 1 dX6_signMany_33 rfl rfl ?_
      refine jr_iconst (v := (2 : Int32)) hG dX6_signMany_34 (by decide) ?_
      refine jr_idivc hG dX6_signMany_35 (by decide) ?_
      exact jr_iret hG hr hk dX6_signMany_36
    · refine jr_iload_n hG 1 dX6_signMany_12 rfl rfl ?_
      refine jr_aload_n hG 0 dX6_signMany_13 rfl rfl ?_
      refine jr_getR hG fi_RX6_48 rfl (okO_s ha0) (okO_l ha0) dX6_signMany_14 (fun o1 ho1 => ?_)
      refine jr_bipush (v := (6 : Int32)) hG dX6_signMany_17 (by decide) ?_
      refine jr_iload_n hG 2 dX6_signMany_19 rfl rfl ?_
      refine jr_iadd hG dX6_signMany_20 ?_
      refine jr_iald hG (okA_s (by decide) ho1) (okA_l ho1) dX6_signMany_21 ?_
      refine jr_callSi (As := [.int (gi σ o1 (ix ((6 : Int32) + v2)))]) hG (c_X6_bits l E N (gi σ o1 (ix ((6 : Int32) + v2))) (σ)) ci_X6_bits wd_973 wd_974 ⟨rfl, rfl, Nat.le_of_ble_eq_true rfl, Nat.le_of_ble_eq_true rfl⟩ rfl rfl (Nat.le_of_ble_eq_true rfl) dX6_signMany_22 ⟨Nat.le_refl _, Nat.le_refl _⟩ (fun r3 t2 => ?_)
      refine jr_iadd hG dX6_signMany_25 ?_
      refine jr_leti (fun x4 _ => ?_)
      refine jr_istore_n (lv' := [(1, .int x4), (0, .ref (E.B + a0)), (2, .int v2)]) hG dX6_signMany_26 rfl (by decide) rfl ?_
      refine jr_iinc (v := v2 + (1 : Int32)) (lv' := [(2, .int (v2 + (1 : Int32))), (1, .int x4), (0, .ref (E.B + a0))]) hG 2 dX6_signMany_27 rfl rfl (by decide) rfl ?_
      refine jr_goto hG 4 dX6_signMany_30 (by decide) ?_
      refine jr_sub (lv' := [(0, .ref (E.B + a0)), (1, .int x4), (2, .int (v2 + (1 : Int32)))]) [2, 1, 0] rfl ?_
      exact ih a0 x4 (v2 + (1 : Int32)) ha0 t2
def f_X6_signMany (N : Nat) (a0 : Nat) (σ : Mm) : Option (Int32 × Mm) := if okO 6 a0 then (f_X6_signMany_4 N N a0 (0 : Int32) (0 : Int32) (σ)) else none
set_option maxRecDepth 20000 in
theorem c_X6_signMany (l : Launch) (E : XE) (N : Nat) (a0 : Nat) (σ : Mm) : ∀ r0, f_X6_signMany N a0 σ = some r0 → Met l yX6_signMany [Cond.code yX6_signMany cX6_signMany 3 (some .int)] rm_X6_signMany (xPc E (NT + 0) σ [.ref (E.B + a0)]) (xQi E (NT + 0) r0) 0 0 (xA E) := by
  refine met_of (N0 := NT) (by decide +kernel) (Nat.le_of_ble_eq_true rfl) ?_
  intro p e s m args below meth c hG hr hk _
  show JR E NT 3 p l e rm_X6_signMany s m args below meth c 0 0 (fun r => MQ below (xQi E (NT + 0) r) args s 0 0 (xA E)) 0 [(0, .ref (E.B + a0))] [] σ (if okO 6 a0 then (f_X6_signMany_4 N N a0 (0 : Int32) (0 : Int32) (σ)) else none)
  refine jr_guard (fun ha0 => ?_)
  refine jr_iconst (v := (0 : Int32)) hG dX6_signMany_0 (by decide) ?_
  refine jr_istore_n (lv' := [(1, .int (0 : Int32)), (0, .ref (E.B + a0))]) hG dX6_signMany_1 rfl (by decide) rfl ?_
  refine jr_iconst (v := (0 : Int32)) hG dX6_signMany_2 (by decide) ?_
  refine jr_istore_n (lv' := [(2, .int (0 : Int32)), (1, .int (0 : Int32)), (0, .ref (E.B + a0))]) hG dX6_signMany_3 rfl (by decide) rfl ?_
  refine jr_sub (lv' := [(0, .ref (E.B + a0)), (1, .int (0 : Int32)), (2, .int (0 : Int32))]) [2, 1, 0] rfl ?_
  exact w_X6_signMany_4 N hG hr hk N a0 (0 : Int32) (0 : Int32) ha0 (σ)
-- TonguesDealtModel.areTwo(II)Z
abbrev rm_X6_areTwo : Room := { frames := 2, cells := 0, slots := 0, locals := 43 }
theorem ci_X6_areTwo : CIx yX6_areTwo cX6_areTwo 3 (some .boolean) 2 := ⟨wd_1023, wd_77, by decide +kernel⟩
def f_X6_areTwo (N : Nat) (a0 : Nat) (v1 : Int32) (v2 : Int32) (σ : Mm) : Option (Int32 × Mm) := if okO 6 a0 then (bI (f_X6_isPerson N a0 v1 (σ)) (fun r2 t1 => if r2 = 0 then (some ((0 : Int32), t1)) else (bI (f_X6_isPerson N a0 v2 t1) (fun r4 t3 => if r4 = 0 then (some ((0 : Int32), t3)) else (if v1 = v2 then (some ((0 : Int32), t3)) else (some ((1 : Int32), t3))))))) else none
set_option maxRecDepth 20000 in
theorem c_X6_areTwo (l : Launch) (E : XE) (N : Nat) (a0 : Nat) (v1 : Int32) (v2 : Int32) (σ : Mm) : ∀ r0, f_X6_areTwo N a0 v1 v2 σ = some r0 → Met l yX6_areTwo [Cond.code yX6_areTwo cX6_areTwo 3 (some .boolean)] rm_X6_areTwo (xPc E (NT + 0) σ [.ref (E.B + a0), .int v1, .int v2]) (xQi E (NT + 0) r0) 0 0 (xA E) := by
  refine met_of (N0 := NT) (by decide +kernel) (Nat.le_of_ble_eq_true rfl) ?_
  intro p e s m args below meth c hG hr hk _
  show JR E NT 3 p l e rm_X6_areTwo s m args below meth c 0 0 (fun r => MQ below (xQi E (NT + 0) r) args s 0 0 (xA E)) 0 [(0, .ref (E.B + a0)), (1, .int v1), (2, .int v2)] [] σ (if okO 6 a0 then (bI (f_X6_isPerson N a0 v1 (σ)) (fun r2 t1 => if r2 = 0 then (some ((0 : Int32), t1)) else (bI (f_X6_isPerson N a0 v2 t1) (fun r4 t3 => if r4 = 0 then (some ((0 : Int32), t3)) else (if v1 = v2 then (some ((0 : Int32), t3)) else (some ((1 : Int32), t3))))))) else none)
  refine jr_guard (fun ha0 => ?_)
  refine jr_aload_n hG 0 dX6_areTwo_0 rfl rfl ?_
  refine jr_iload_n hG 1 dX6_areTwo_1 rfl rfl ?_
  refine jr_callVi (As := [.int v1]) hG (c_X6_isPerson l E N a0 v1 (σ)) ci_X6_isPerson wd_950 ⟨wd_952, wd_29⟩ cl_6 (okO_s ha0) (okO_l ha0) ⟨rfl, rfl, Nat.le_of_ble_eq_true rfl, Nat.le_of_ble_eq_true rfl⟩ rfl rfl (Nat.le_of_ble_eq_true rfl) dX6_areTwo_2 ⟨Nat.le_refl _, Nat.le_refl _⟩ (fun r2 t1 => ?_)
  refine jr_if_eq hG 25 dX6_areTwo_5 (by decide) (fun _ => ?_) (fun _ => ?_)
  · refine jr_iconst (v := (0 : Int32)) hG dX6_areTwo_25 (by decide) ?_
    exact jr_zret hG hr hk (by decide) dX6_areTwo_26
  · refine jr_aload_n hG 0 dX6_areTwo_8 rfl rfl ?_
    refine jr_iload_n hG 2 dX6_areTwo_9 rfl rfl ?_
    refine jr_callVi (As := [.int v2]) hG (c_X6_isPerson l E N a0 v2 t1) ci_X6_isPerson wd_950 ⟨wd_952, wd_29⟩ cl_6 (okO_s ha0) (okO_l ha0) ⟨rfl, rfl, Nat.le_of_ble_eq_true rfl, Nat.le_of_ble_eq_true rfl⟩ rfl rfl (Nat.le_of_ble_eq_true rfl) dX6_areTwo_10 ⟨Nat.le_refl _, Nat.le_refl _⟩ (fun r4 t3 => ?_)
    refine jr_if_eq hG 25 dX6_areTwo_13 (by decide) (fun _ => ?_) (fun _ => ?_)
    · refine jr_iconst (v := (0 : Int32)) hG dX6_areTwo_25 (by decide) ?_
      exact jr_zret hG hr hk (by decide) dX6_areTwo_26
    · refine jr_iload_n hG 1 dX6_areTwo_16 rfl rfl ?_
      refine jr_iload_n hG 2 dX6_areTwo_17 rfl rfl ?_
      refine jr_icmp_eq hG 25 dX6_areTwo_18 (by decide) (fun _ => ?_) (fun _ => ?_)
      · refine jr_iconst (v := (0 : Int32)) hG dX6_areTwo_25 (by decide) ?_
        exact jr_zret hG hr hk (by decide) dX6_areTwo_26
      · refine jr_iconst (v := (1 : Int32)) hG dX6_areTwo_21 (by decide) ?_
        refine jr_goto hG 26 dX6_areTwo_22 (by decide) ?_
        exact jr_zret hG hr hk (by decide) dX6_areTwo_26
-- TonguesDealtModel.sign(II)I
abbrev rm_X6_sign : Room := { frames := 3, cells := 0, slots := 0, locals := 65 }
theorem ci_X6_sign : CIx yX6_sign cX6_sign 3 (some .int) 2 := ⟨wd_1019, wd_77, by decide +kernel⟩
def f_X6_sign (N : Nat) (a0 : Nat) (v1 : Int32) (v2 : Int32) (σ : Mm) : Option (Int32 × Mm) := if okO 6 a0 then (bI (f_X6_areTwo N a0 v1 v2 (σ)) (fun r2 t1 => if r2 = 0 then (some ((-1 : Int32), t1)) else (bR (gr t1 a0 19) (okA 0) (fun o3 => if inb ((6 : Int32) + v1) (arL o3) then (bI (f_X6_has N (gi t1 o3 (ix ((6 : Int32) + v1))) v2 t1) (fun r5 t4 => if r5 = 0 then (if (gi t4 a0 22) = (40 : Int32) then (some ((-2 : Int32), t4)) else (bV (f_X6_remember N a0 t4) (fun t6 => bR (gr t6 a0 19) (okA 0) (fun o7 => if inb ((6 : Int32) + v1) (arL o7) then (if inb ((6 : Int32) + v1) (arL o7) then (lt (si t6 o7 (ix ((6 : Int32) + v1)) ((gi t6 o7 (ix ((6 : Int32) + v1))) ||| ((1 : Int32) <<< (v2 &&& 31)))) (fun t8 => bR (gr t8 a0 19) (okA 0) (fun o9 => if inb ((6 : Int32) + v2) (arL o9) then (if inb ((6 : Int32) + v2) (arL o9) then (lt (si t8 o9 (ix ((6 : Int32) + v2)) ((gi t8 o9 (ix ((6 : Int32) + v2))) ||| ((1 : Int32) <<< (v1 &&& 31)))) (fun t10 => bI (f_X6_signMany N a0 t10) (fun r12 t11 => some (r12, t11)))) else none) else none))) else none) else none)))) else (some ((-4 : Int32), t4)))) else none)))) else none
set_option maxRecDepth 20000 in
theorem c_X6_sign (l : Launch) (E : XE) (N : Nat) (a0 : Nat) (v1 : Int32) (v2 : Int32) (σ : Mm) : ∀ r0, f_X6_sign N a0 v1 v2 σ = some r0 → Met l yX6_sign [Cond.code yX6_sign cX6_sign 3 (some .int)] rm_X6_sign (xPc E (NT + 0) σ [.ref (E.B + a0), .int v1, .int v2]) (xQi E (NT + 0) r0) 0 0 (xA E) := by
  refine met_of (N0 := NT) (by decide +kernel) (Nat.le_of_ble_eq_true rfl) ?_
  intro p e s m args below meth c hG hr hk _
  show JR E NT 3 p l e rm_X6_sign s m args below meth c 0 0 (fun r => MQ below (xQi E (NT + 0) r) args s 0 0 (xA E)) 0 [(0, .ref (E.B + a0)), (1, .int v1), (2, .int v2)] [] σ (if okO 6 a0 then (bI (f_X6_areTwo N a0 v1 v2 (σ)) (fun r2 t1 => if r2 = 0 then (some ((-1 : Int32), t1)) else (bR (gr t1 a0 19) (okA 0) (fun o3 => if inb ((6 : Int32) + v1) (arL o3) then (bI (f_X6_has N (gi t1 o3 (ix ((6 : Int32) + v1))) v2 t1) (fun r5 t4 => if r5 = 0 then (if (gi t4 a0 22) = (40 : Int32) then (some ((-2 : Int32), t4)) else (bV (f_X6_remember N a0 t4) (fun t6 => bR (gr t6 a0 19) (okA 0) (fun o7 => if inb ((6 : Int32) + v1) (arL o7) then (if inb ((6 : Int32) + v1) (arL o7) then (lt (si t6 o7 (ix ((6 : Int32) + v1)) ((gi t6 o7 (ix ((6 : Int32) + v1))) ||| ((1 : Int32) <<< (v2 &&& 31)))) (fun t8 => bR (gr t8 a0 19) (okA 0) (fun o9 => if inb ((6 : Int32) + v2) (arL o9) then (if inb ((6 : Int32) + v2) (arL o9) then (lt (si t8 o9 (ix ((6 : Int32) + v2)) ((gi t8 o9 (ix ((6 : Int32) + v2))) ||| ((1 : Int32) <<< (v1 &&& 31)))) (fun t10 => bI (f_X6_signMany N a0 t10) (fun r12 t11 => some (r12, t11)))) else none) else none))) else none) else none)))) else (some ((-4 : Int32), t4)))) else none)))) else none)
  refine jr_guard (fun ha0 => ?_)
  refine jr_aload_n hG 0 dX6_sign_0 rfl rfl ?_
  refine jr_iload_n hG 1 dX6_sign_1 rfl rfl ?_
  refine jr_iload_n hG 2 dX6_sign_2 rfl rfl ?_
  refine jr_callVi (As := [.int v1, .int v2]) hG (c_X6_areTwo l E N a0 v1 v2 (σ)) ci_X6_areTwo wd_1020 ⟨wd_1022, wd_41⟩ cl_6 (okO_s ha0) (okO_l ha0) ⟨rfl, rfl, Nat.le_of_ble_eq_true rfl, Nat.le_of_ble_eq_true rfl⟩ rfl rfl (Nat.le_of_ble_eq_true rfl) dX6_sign_3 ⟨Nat.le_refl _, Nat.le_refl _⟩ (fun r2 t1 => ?_)
  refine jr_if_ne hG 11 dX6_sign_6 (by decide) (fun _ => ?_) (fun _ => ?_)
  · refine jr_aload_n hG 0 dX6_sign_11 rfl rfl ?_
    refine jr_getR hG fi_RX6_48 rfl (okO_s ha0) (okO_l ha0) dX6_sign_12 (fun o3 ho3 => ?_)
    refine jr_bipush (v := (6 : Int32)) hG dX6_sign_15 (by decide) ?_
    refine jr_iload_n hG 1 dX6_sign_17 rfl rfl ?_
    refine jr_iadd hG dX6_sign_18 ?_
    refine jr_iald hG (okA_s (by decide) ho3) (okA_l ho3) dX6_sign_19 ?_
    refine jr_iload_n hG 2 dX6_sign_20 rfl rfl ?_
    refine jr_callSi (As := [.int (gi t1 o3 (ix ((6 : Int32) + v1))), .int v2]) hG (c_X6_has l E N (gi t1 o3 (ix ((6 : Int32) + v1))) v2 t1) ci_X6_has wd_932 wd_933 ⟨rfl, rfl, Nat.le_of_ble_eq_true rfl, Nat.le_of_ble_eq_true rfl⟩ rfl rfl (Nat.le_of_ble_eq_true rfl) dX6_sign_21 ⟨Nat.le_refl _, Nat.le_refl _⟩ (fun r5 t4 => ?_)
    refine jr_if_eq hG 30 dX6_sign_24 (by decide) (fun _ => ?_) (fun _ => ?_)
    · refine jr_aload_n hG 0 dX6_sign_30 rfl rfl ?_
      refine jr_getI hG fi_RX6_150 rfl (okO_s ha0) (okO_l ha0) dX6_sign_31 ?_
      refine jr_bipush (v := (40 : Int32)) hG dX6_sign_34 (by decide) ?_
      refine jr_icmp_ne hG 42 dX6_sign_36 (by decide) (fun _ => ?_) (fun _ => ?_)
      · refine jr_aload_n hG 0 dX6_sign_42 rfl rfl ?_
        refine jr_callVv (As := []) hG (c_X6_remember l E N a0 t4) ci_X6_remember wd_1008 ⟨wd_1010, wd_40⟩ cl_6 (okO_s ha0) (okO_l ha0) ⟨rfl, rfl, Nat.le_of_ble_eq_true rfl, Nat.le_of_ble_eq_true rfl⟩ rfl rfl (Nat.le_of_ble_eq_true rfl) dX6_sign_43 ⟨Nat.le_refl _, Nat.le_refl _⟩ (fun t6 => ?_)
        refine jr_aload_n hG 0 dX6_sign_46 rfl rfl ?_
        refine jr_getR hG fi_RX6_48 rfl (okO_s ha0) (okO_l ha0) dX6_sign_47 (fun o7 ho7 => ?_)
        refine jr_bipush (v := (6 : Int32)) hG dX6_sign_50 (by decide) ?_
        refine jr_iload_n hG 1 dX6_sign_52 rfl rfl ?_
        refine jr_iadd hG dX6_sign_53 ?_
        refine jr_dup2 hG dX6_sign_54 rfl rfl ?_
        refine jr_iald hG (okA_s (by decide) ho7) (okA_l ho7) dX6_sign_55 ?_
        refine jr_iconst (v := (1 : Int32)) hG dX6_sign_56 (by decide) ?_
        refine jr_iload_n hG 2 dX6_sign_57 rfl rfl ?_
        refine jr_ishl hG dX6_sign_58 ?_
        refine jr_ior hG dX6_sign_59 ?_
        refine jr_iast hG (okA_s (by decide) ho7) (okA_l ho7) dX6_sign_60 ?_
        refine jr_lets (fun t8 _ => ?_)
        refine jr_aload_n hG 0 dX6_sign_61 rfl rfl ?_
        refine jr_getR hG fi_RX6_48 rfl (okO_s ha0) (okO_l ha0) dX6_sign_62 (fun o9 ho9 => ?_)
        refine jr_bipush (v := (6 : Int32)) hG dX6_sign_65 (by decide) ?_
        refine jr_iload_n hG 2 dX6_sign_67 rfl rfl ?_
        refine jr_iadd hG dX6_sign_68 ?_
        refine jr_dup2 hG dX6_sign_69 rfl rfl ?_
        refine jr_iald hG (okA_s (by decide) ho9) (okA_l ho9) dX6_sign_70 ?_
        refine jr_iconst (v := (1 : Int32)) hG dX6_sign_71 (by decide) ?_
        refine jr_iload_n hG 1 dX6_sign_72 rfl rfl ?_
        refine jr_ishl hG dX6_sign_73 ?_
        refine jr_ior hG dX6_sign_74 ?_
        refine jr_iast hG (okA_s (by decide) ho9) (okA_l ho9) dX6_sign_75 ?_
        refine jr_lets (fun t10 _ => ?_)
        refine jr_aload_n hG 0 dX6_sign_76 rfl rfl ?_
        refine jr_callVi (As := []) hG (c_X6_signMany l E N a0 t10) ci_X6_signMany wd_1024 ⟨wd_1026, wd_42⟩ cl_6 (okO_s ha0) (okO_l ha0) ⟨rfl, rfl, Nat.le_of_ble_eq_true rfl, Nat.le_of_ble_eq_true rfl⟩ rfl rfl (Nat.le_of_ble_eq_true rfl) dX6_sign_77 ⟨Nat.le_refl _, Nat.le_refl _⟩ (fun r12 t11 => ?_)
        exact jr_iret hG hr hk dX6_sign_80
      · refine jr_bipush (v := (-2 : Int32)) hG dX6_sign_39 (by decide) ?_
        exact jr_iret hG hr hk dX6_sign_41
    · refine jr_bipush (v := (-4 : Int32)) hG dX6_sign_27 (by decide) ?_
      exact jr_iret hG hr hk dX6_sign_29
  · refine jr_iconst (v := (-1 : Int32)) hG dX6_sign_9 (by decide) ?_
    exact jr_iret hG hr hk dX6_sign_10
-- TonguesDealtModel.undo(I)I
abbrev rm_X6_undo : Room := { frames := 1, cells := 0, slots := 0, locals := 22 }
theorem ci_X6_undo : CIx yX6_undo cX6_undo 4 (some .int) 1 := ⟨wd_1031, wd_77, by decide +kernel⟩
def f_X6_undo_56 (N : Nat)  (a0 : Nat) (v1 : Int32) (v2 : Int32) (σ : Mm) : Option (Int32 × Mm) := lt (si σ a0 22 v1) (fun t7 => some (v2, t7))
set_option maxRecDepth 20000 in
theorem w_X6_undo_56 {p : Program} {l : Launch} {e : Env} {s : State} {m : MethodId} {args : Array Value} {below : List Frame} {meth : Method} {c : Code} {E : XE} (N : Nat) (hG : GG E NT 4 RX6 cX6_undo p s m args c) (hr : meth.sig.returnType = (some .int)) (hk : meth.locks = false)  (a0 : Nat) (v1 : Int32) (v2 : Int32) (ha0 : okO 6 a0 = true) (σ : Mm) : JR E NT 4 p l e rm_X6_undo s m args below meth c 0 0 (fun r => MQ below (xQi E (NT + 0) r) args s 0 0 (xA E)) 56 [(0, .ref (E.B + a0)), (1, .int v1), (2, .int v2)] [] σ (f_X6_undo_56 N a0 v1 v2 σ) := by
  show JR E NT 4 p l e rm_X6_undo s m args below meth c 0 0 (fun r => MQ below (xQi E (NT + 0) r) args s 0 0 (xA E)) 56 [(0, .ref (E.B + a0)), (1, .int v1), (2, .int v2)] [] σ (lt (si σ a0 22 v1) (fun t7 => some (v2, t7)))
  refine jr_aload_n hG 0 dX6_undo_56 rfl rfl ?_
  refine jr_iload_n hG 1 dX6_undo_57 rfl rfl ?_
  refine jr_putI hG fi_RX6_150 rfl rfl (okO_s ha0) (okO_l ha0) dX6_undo_58 ?_
  refine jr_lets (fun t7 _ => ?_)
  refine jr_iload_n hG 2 dX6_undo_61 rfl rfl ?_
  exact jr_iret hG hr hk dX6_undo_62
def f_X6_undo_23 (N : Nat)  : Nat → Nat → Int32 → Int32 → Int32 → Mm → Option (Int32 × Mm)
  | 0 => fun _ _ _ _ _ => none
  | n + 1 => fun a0 v1 v2 v3 σ => if (14 : Int32) ≤ v3 then (f_X6_undo_56 N a0 v1 v2 (σ)) else (if v2 ≤ 0 then (f_X6_undo_56 N a0 v1 v2 (σ)) else (bR (gr σ a0 19) (okA 0) (fun o4 => bR (gr σ a0 23) (okA 0) (fun o5 => if inb (((14 : Int32) * v1) + v3) (arL o5) then (if inb v3 (arL o4) then (lt (si σ o4 (ix v3) (gi σ o5 (ix (((14 : Int32) * v1) + v3)))) (fun t6 => f_X6_undo_23 N n a0 v1 v2 (v3 + (1 : Int32)) t6)) else none) else none))))
set_option maxRecDepth 20000 in
theorem w_X6_undo_23 {p : Program} {l : Launch} {e : Env} {s : State} {m : MethodId} {args : Array Value} {below : List Frame} {meth : Method} {c : Code} {E : XE} (N : Nat) (hG : GG E NT 4 RX6 cX6_undo p s m args c) (hr : meth.sig.returnType = (some .int)) (hk : meth.locks = false)  : ∀ (n : Nat) (a0 : Nat) (v1 : Int32) (v2 : Int32) (v3 : Int32) (ha0 : okO 6 a0 = true) (σ : Mm), JR E NT 4 p l e rm_X6_undo s m args below meth c 0 0 (fun r => MQ below (xQi E (NT + 0) r) args s 0 0 (xA E)) 23 [(0, .ref (E.B + a0)), (1, .int v1), (2, .int v2), (3, .int v3)] [] σ (f_X6_undo_23 N n a0 v1 v2 v3 σ) := by
  intro n
  induction n with
  | zero => intro a0 v1 v2 v3 ha0 σ r hX; cases hX
  | succ n ih =>
    intro a0 v1 v2 v3 ha0 σ
    show JR E NT 4 p l e rm_X6_undo s m args below meth c 0 0 (fun r => MQ below (xQi E (NT + 0) r) args s 0 0 (xA E)) 23 [(0, .ref (E.B + a0)), (1, .int v1), (2, .int v2), (3, .int v3)] [] σ (if (14 : Int32) ≤ v3 then (f_X6_undo_56 N a0 v1 v2 (σ)) else (if v2 ≤ 0 then (f_X6_undo_56 N a0 v1 v2 (σ)) else (bR (gr σ a0 19) (okA 0) (fun o4 => bR (gr σ a0 23) (okA 0) (fun o5 => if inb (((14 : Int32) * v1) + v3) (arL o5) then (if inb v3 (arL o4) then (lt (si σ o4 (ix v3) (gi σ o5 (ix (((14 : Int32) * v1) + v3)))) (fun t6 => f_X6_undo_23 N n a0 v1 v2 (v3 + (1 : Int32)) t6)) else none) else none)))))
    refine jr_iload_n hG 3 dX6_undo_23 rfl rfl ?_
    refine jr_bipush (v := (14 : Int32)) hG dX6_undo_24 (by decide) ?_
    refine jr_icmp_ge hG 56 dX6_undo_26 (by decide) (fun _ => ?_) (fun _ => ?_)
    · refine jr_sub (lv' := [(0, .ref (E.B + a0)), (1, .int v1), (2, .int v2)]) [0, 1, 2] rfl ?_
      exact w_X6_undo_56 N hG hr hk a0 v1 v2 ha0 (σ)
    · refine jr_iload_n hG 2 dX6_undo_29 rfl rfl ?_
      refine jr_if_le hG 56 dX6_undo_30 (by decide) (fun _ => ?_) (fun _ => ?_)
      · refine jr_sub (lv' := [(0, .ref (E.B + a0)), (1, .int v1), (2, .int v2)]) [0, 1, 2] rfl ?_
        exact w_X6_undo_56 N hG hr hk a0 v1 v2 ha0 (σ)
      · refine jr_aload_n hG 0 dX6_undo_33 rfl rfl ?_
        refine jr_getR hG fi_RX6_48 rfl (okO_s ha0) (okO_l ha0) dX6_undo_34 (fun o4 ho4 => ?_)
        refine jr_iload_n hG 3 dX6_undo_37 rfl rfl ?_
        refine jr_aload_n hG 0 dX6_undo_38 rfl rfl ?_
        refine jr_getR hG fi_RX6_57 rfl (okO_s ha0) (okO_l ha0) dX6_undo_39 (fun o5 ho5 => ?_)
        refine jr_bipush (v := (14 : Int32)) hG dX6_undo_42 (by decide) ?_
        refine jr_iload_n hG 1 dX6_undo_44 rfl rfl ?_
        refine jr_imul hG dX6_undo_45 ?_
        refine jr_iload_n hG 3 dX6_undo_46 rfl rfl ?_
        refine jr_iadd hG dX6_undo_47 ?_
        refine jr_iald hG (okA_s (by decide) ho5) (okA_l ho5) dX6_undo_48 ?_
        refine jr_iast hG (okA_s (by decide) ho4) (okA_l ho4) dX6_undo_49 ?_
        refine jr_lets (fun t6 _ => ?_)
        refine jr_iinc (v := v3 + (1 : Int32)) (lv' := [(3, .int (v3 + (1 : Int32))), (0, .ref (E.B + a0)), (1, .int v1), (2, .int v2)]) hG 3 dX6_undo_50 rfl rfl (by decide) rfl ?_
        refine jr_goto hG 23 dX6_undo_53 (by decide) ?_
        refine jr_sub (lv' := [(0, .ref (E.B + a0)), (1, .int v1), (2, .int v2), (3, .int (v3 + (1 : Int32)))]) [1, 2, 3, 0] rfl ?_
        exact ih a0 v1 v2 (v3 + (1 : Int32)) ha0 t6
def f_X6_undo (N : Nat) (a0 : Nat) (v1 : Int32) (σ : Mm) : Option (Int32 × Mm) := if okO 6 a0 then (bI (f_X6_in N v1 (0 : Int32) (gi σ a0 22) (σ)) (fun r2 t1 => if r2 = 0 then (some ((-1 : Int32), t1)) else (lt ((gi t1 a0 22) - v1) (fun x3 => f_X6_undo_23 N N a0 v1 x3 (0 : Int32) t1)))) else none
set_option maxRecDepth 20000 in
theorem c_X6_undo (l : Launch) (E : XE) (N : Nat) (a0 : Nat) (v1 : Int32) (σ : Mm) : ∀ r0, f_X6_undo N a0 v1 σ = some r0 → Met l yX6_undo [Cond.code yX6_undo cX6_undo 4 (some .int)] rm_X6_undo (xPc E (NT + 0) σ [.ref (E.B + a0), .int v1]) (xQi E (NT + 0) r0) 0 0 (xA E) := by
  refine met_of (N0 := NT) (by decide +kernel) (Nat.le_of_ble_eq_true rfl) ?_
  intro p e s m args below meth c hG hr hk _
  show JR E NT 4 p l e rm_X6_undo s m args below meth c 0 0 (fun r => MQ below (xQi E (NT + 0) r) args s 0 0 (xA E)) 0 [(0, .ref (E.B + a0)), (1, .int v1)] [] σ (if okO 6 a0 then (bI (f_X6_in N v1 (0 : Int32) (gi σ a0 22) (σ)) (fun r2 t1 => if r2 = 0 then (some ((-1 : Int32), t1)) else (lt ((gi t1 a0 22) - v1) (fun x3 => f_X6_undo_23 N N a0 v1 x3 (0 : Int32) t1)))) else none)
  refine jr_guard (fun ha0 => ?_)
  refine jr_iload_n hG 1 dX6_undo_0 rfl rfl ?_
  refine jr_iconst (v := (0 : Int32)) hG dX6_undo_1 (by decide) ?_
  refine jr_aload_n hG 0 dX6_undo_2 rfl rfl ?_
  refine jr_getI hG fi_RX6_150 rfl (okO_s ha0) (okO_l ha0) dX6_undo_3 ?_
  refine jr_callSi (As := [.int v1, .int (0 : Int32), .int (gi σ a0 22)]) hG (c_X6_in l E N v1 (0 : Int32) (gi σ a0 22) (σ)) ci_X6_in wd_847 wd_848 ⟨rfl, rfl, Nat.le_of_ble_eq_true rfl, Nat.le_of_ble_eq_true rfl⟩ rfl rfl (Nat.le_of_ble_eq_true rfl) dX6_undo_6 ⟨Nat.le_refl _, Nat.le_refl _⟩ (fun r2 t1 => ?_)
  refine jr_if_ne hG 14 dX6_undo_9 (by decide) (fun _ => ?_) (fun _ => ?_)
  · refine jr_aload_n hG 0 dX6_undo_14 rfl rfl ?_
    refine jr_getI hG fi_RX6_150 rfl (okO_s ha0) (okO_l ha0) dX6_undo_15 ?_
    refine jr_iload_n hG 1 dX6_undo_18 rfl rfl ?_
    refine jr_isub hG dX6_undo_19 ?_
    refine jr_leti (fun x3 _ => ?_)
    refine jr_istore_n (lv' := [(2, .int x3), (0, .ref (E.B + a0)), (1, .int v1)]) hG dX6_undo_20 rfl (by decide) rfl ?_
    refine jr_iconst (v := (0 : Int32)) hG dX6_undo_21 (by decide) ?_
    refine jr_istore_n (lv' := [(3, .int (0 : Int32)), (2, .int x3), (0, .ref (E.B + a0)), (1, .int v1)]) hG dX6_undo_22 rfl (by decide) rfl ?_
    refine jr_sub (lv' := [(0, .ref (E.B + a0)), (1, .int v1), (2, .int x3), (3, .int (0 : Int32))]) [2, 3, 1, 0] rfl ?_
    exact w_X6_undo_23 N hG hr hk N a0 v1 x3 (0 : Int32) ha0 t1
  · refine jr_iconst (v := (-1 : Int32)) hG dX6_undo_12 (by decide) ?_
    exact jr_iret hG hr hk dX6_undo_13
-- TonguesDealtModel.keep(I)I
abbrev rm_X6_keep : Room := { frames := 1, cells := 0, slots := 0, locals := 22 }
theorem ci_X6_keep : CIx yX6_keep cX6_keep 3 (some .int) 1 := ⟨wd_1035, wd_77, by decide +kernel⟩
def f_X6_keep_71 (N : Nat)  : Nat → Nat → Int32 → Int32 → Mm → Option (Int32 × Mm)
  | 0 => fun _ _ _ _ => none
  | n + 1 => fun a0 v1 v2 σ => if ((14 : Int32) * (gi σ a0 22)) ≤ v2 then (some (gi σ a0 22, σ)) else (bR (gr σ a0 27) (okA 0) (fun o10 => bR (gr σ a0 23) (okA 0) (fun o11 => if inb v2 (arL o11) then (if inb (((560 : Int32) * v1) + v2) (arL o10) then (lt (si σ o10 (ix (((560 : Int32) * v1) + v2)) (gi σ o11 (ix v2))) (fun t12 => f_X6_keep_71 N n a0 v1 (v2 + (1 : Int32)) t12)) else none) else none)))
set_option maxRecDepth 20000 in
theorem w_X6_keep_71 {p : Program} {l : Launch} {e : Env} {s : State} {m : MethodId} {args : Array Value} {below : List Frame} {meth : Method} {c : Code} {E : XE} (N : Nat) (hG : GG E NT 3 RX6 cX6_keep p s m args c) (hr : meth.sig.returnType = (some .int)) (hk : meth.locks = false)  : ∀ (n : Nat) (a0 : Nat) (v1 : Int32) (v2 : Int32) (ha0 : okO 6 a0 = true) (σ : Mm), JR E NT 3 p l e rm_X6_keep s m args below meth c 0 0 (fun r => MQ below (xQi E (NT + 0) r) args s 0 0 (xA E)) 71 [(0, .ref (E.B + a0)), (1, .int v1), (2, .int v2)] [] σ (f_X6_keep_71 N n a0 v1 v2 σ) := by
  intro n
  induction n with
  | zero => intro a0 v1 v2 ha0 σ r hX; cases hX
  | succ n ih =>
    intro a0 v1 v2 ha0 σ
    show JR E NT 3 p l e rm_X6_keep s m args below meth c 0 0 (fun r => MQ below (xQi E (NT + 0) r) args s 0 0 (xA E)) 71 [(0, .ref (E.B + a0)), (1, .int v1), (2, .int v2)] [] σ (if ((14 : Int32) * (gi σ a0 22)) ≤ v2 then (some (gi σ a0 22, σ)) else (bR (gr σ a0 27) (okA 0) (fun o10 => bR (gr σ a0 23) (okA 0) (fun o11 => if inb v2 (arL o11) then (if inb (((560 : Int32) * v1) + v2) (arL o10) then (lt (si σ o10 (ix (((560 : Int32) * v1) + v2)) (gi σ o11 (ix v2))) (fun t12 => f_X6_keep_71 N n a0 v1 (v2 + (1 : Int32)) t12)) else none) else none))))
    refine jr_iload_n hG 2 dX6_keep_71 rfl rfl ?_
    refine jr_bipush (v := (14 : Int32)) hG dX6_keep_72 (by decide) ?_
    refine jr_aload_n hG 0 dX6_keep_74 rfl rfl ?_
    refine jr_getI hG fi_RX6_150 rfl (okO_s ha0) (okO_l ha0) dX6_keep_75 ?_
    refine jr_imul hG dX6_keep_78 ?_
    refine jr_icmp_ge hG 106 dX6_keep_79 (by decide) (fun _ => ?_) (fun _ => ?_)
    · refine jr_aload_n hG 0 dX6_keep_106 rfl rfl ?_
      refine jr_getI hG fi_RX6_150 rfl (okO_s ha0) (okO_l ha0) dX6_keep_107 ?_
      exact jr_iret hG hr hk dX6_keep_110
    · refine jr_aload_n hG 0 dX6_keep_82 rfl rfl ?_
      refine jr_getR hG fi_RX6_70 rfl (okO_s ha0) (okO_l ha0) dX6_keep_83 (fun o10 ho10 => ?_)
      refine jr_sipush (v := (560 : Int32)) hG dX6_keep_86 (by decide) ?_
      refine jr_iload_n hG 1 dX6_keep_89 rfl rfl ?_
      refine jr_imul hG dX6_keep_90 ?_
      refine jr_iload_n hG 2 dX6_keep_91 rfl rfl ?_
      refine jr_iadd hG dX6_keep_92 ?_
      refine jr_aload_n hG 0 dX6_keep_93 rfl rfl ?_
      refine jr_getR hG fi_RX6_57 rfl (okO_s ha0) (okO_l ha0) dX6_keep_94 (fun o11 ho11 => ?_)
      refine jr_iload_n hG 2 dX6_keep_97 rfl rfl ?_
      refine jr_iald hG (okA_s (by decide) ho11) (okA_l ho11) dX6_keep_98 ?_
      refine jr_iast hG (okA_s (by decide) ho10) (okA_l ho10) dX6_keep_99 ?_
      refine jr_lets (fun t12 _ => ?_)
      refine jr_iinc (v := v2 + (1 : Int32)) (lv' := [(2, .int (v2 + (1 : Int32))), (0, .ref (E.B + a0)), (1, .int v1)]) hG 2 dX6_keep_100 rfl rfl (by decide) rfl ?_
      refine jr_goto hG 71 dX6_keep_103 (by decide) ?_
      refine jr_sub (lv' := [(0, .ref (E.B + a0)), (1, .int v1), (2, .int (v2 + (1 : Int32)))]) [1, 2, 0] rfl ?_
      exact ih a0 v1 (v2 + (1 : Int32)) ha0 t12
def f_X6_keep_40 (N : Nat)  : Nat → Nat → Int32 → Int32 → Mm → Option (Int32 × Mm)
  | 0 => fun _ _ _ _ => none
  | n + 1 => fun a0 v1 v2 σ => if (14 : Int32) ≤ v2 then (f_X6_keep_71 N N a0 v1 (0 : Int32) (σ)) else (bR (gr σ a0 26) (okA 0) (fun o7 => bR (gr σ a0 19) (okA 0) (fun o8 => if inb v2 (arL o8) then (if inb (((14 : Int32) * v1) + v2) (arL o7) then (lt (si σ o7 (ix (((14 : Int32) * v1) + v2)) (gi σ o8 (ix v2))) (fun t9 => f_X6_keep_40 N n a0 v1 (v2 + (1 : Int32)) t9)) else none) else none)))
set_option maxRecDepth 20000 in
theorem w_X6_keep_40 {p : Program} {l : Launch} {e : Env} {s : State} {m : MethodId} {args : Array Value} {below : List Frame} {meth : Method} {c : Code} {E : XE} (N : Nat) (hG : GG E NT 3 RX6 cX6_keep p s m args c) (hr : meth.sig.returnType = (some .int)) (hk : meth.locks = false)  : ∀ (n : Nat) (a0 : Nat) (v1 : Int32) (v2 : Int32) (ha0 : okO 6 a0 = true) (σ : Mm), JR E NT 3 p l e rm_X6_keep s m args below meth c 0 0 (fun r => MQ below (xQi E (NT + 0) r) args s 0 0 (xA E)) 40 [(0, .ref (E.B + a0)), (1, .int v1), (2, .int v2)] [] σ (f_X6_keep_40 N n a0 v1 v2 σ) := by
  intro n
  induction n with
  | zero => intro a0 v1 v2 ha0 σ r hX; cases hX
  | succ n ih =>
    intro a0 v1 v2 ha0 σ
    show JR E NT 3 p l e rm_X6_keep s m args below meth c 0 0 (fun r => MQ below (xQi E (NT + 0) r) args s 0 0 (xA E)) 40 [(0, .ref (E.B + a0)), (1, .int v1), (2, .int v2)] [] σ (if (14 : Int32) ≤ v2 then (f_X6_keep_71 N N a0 v1 (0 : Int32) (σ)) else (bR (gr σ a0 26) (okA 0) (fun o7 => bR (gr σ a0 19) (okA 0) (fun o8 => if inb v2 (arL o8) then (if inb (((14 : Int32) * v1) + v2) (arL o7) then (lt (si σ o7 (ix (((14 : Int32) * v1) + v2)) (gi σ o8 (ix v2))) (fun t9 => f_X6_keep_40 N n a0 v1 (v2 + (1 : Int32)) t9)) else none) else none))))
    refine jr_iload_n hG 2 dX6_keep_40 rfl rfl ?_
    refine jr_bipush (v := (14 : Int32)) hG dX6_keep_41 (by decide) ?_
    refine jr_icmp_ge hG 69 dX6_keep_43 (by decide) (fun _ => ?_) (fun _ => ?_)
    · refine jr_iconst (v := (0 : Int32)) hG dX6_keep_69 (by decide) ?_
      refine jr_istore_n (lv' := [(2, .int (0 : Int32)), (0, .ref (E.B + a0)), (1, .int v1)]) hG dX6_keep_70 rfl (by decide) rfl ?_
      refine jr_sub (lv' := [(0, .ref (E.B + a0)), (1, .int v1), (2, .int (0 : Int32))]) [1, 2, 0] rfl ?_
      exact w_X6_keep_71 N hG hr hk N a0 v1 (0 : Int32) ha0 (σ)
    · refine jr_aload_n hG 0 dX6_keep_46 rfl rfl ?_
      refine jr_getR hG fi_RX6_67 rfl (okO_s ha0) (okO_l ha0) dX6_keep_47 (fun o7 ho7 => ?_)
      refine jr_bipush (v := (14 : Int32)) hG dX6_keep_50 (by decide) ?_
      refine jr_iload_n hG 1 dX6_keep_52 rfl rfl ?_
      refine jr_imul hG dX6_keep_53 ?_
      refine jr_iload_n hG 2 dX6_keep_54 rfl rfl ?_
      refine jr_iadd hG dX6_keep_55 ?_
      refine jr_aload_n hG 0 dX6_keep_56 rfl rfl ?_
      refine jr_getR hG fi_RX6_48 rfl (okO_s ha0) (okO_l ha0) dX6_keep_57 (fun o8 ho8 => ?_)
      refine jr_iload_n hG 2 dX6_keep_60 rfl rfl ?_
      refine jr_iald hG (okA_s (by decide) ho8) (okA_l ho8) dX6_keep_61 ?_
      refine jr_iast hG (okA_s (by decide) ho7) (okA_l ho7) dX6_keep_62 ?_
      refine jr_lets (fun t9 _ => ?_)
      refine jr_iinc (v := v2 + (1 : Int32)) (lv' := [(2, .int (v2 + (1 : Int32))), (0, .ref (E.B + a0)), (1, .int v1)]) hG 2 dX6_keep_63 rfl rfl (by decide) rfl ?_
      refine jr_goto hG 40 dX6_keep_66 (by decide) ?_
      refine jr_sub (lv' := [(0, .ref (E.B + a0)), (1, .int v1), (2, .int (v2 + (1 : Int32)))]) [1, 2, 0] rfl ?_
      exact ih a0 v1 (v2 + (1 : Int32)) ha0 t9
def f_X6_keep (N : Nat) (a0 : Nat) (v1 : Int32) (σ : Mm) : Option (Int32 × Mm) := if okO 6 a0 then (bI (f_X6_in N v1 (0 : Int32) (2 : Int32) (σ)) (fun r2 t1 => if r2 = 0 then (some ((-1 : Int32), t1)) else (if (gi t1 a0 10) = 0 then (some ((-4 : Int32), t1)) else (bR (gr t1 a0 24) (okA 2) (fun o3 => if inb v1 (arL o3) then (lt (si t1 o3 (ix v1) ((1 : Int32) &&& 1)) (fun t4 => bR (gr t4 a0 25) (okA 0) (fun o5 => if inb v1 (arL o5) then (lt (si t4 o5 (ix v1) (gi t4 a0 22)) (fun t6 => f_X6_keep_40 N N a0 v1 (0 : Int32) t6)) else none))) else none))))) else none
set_option maxRecDepth 20000 in
theorem c_X6_keep (l : Launch) (E : XE) (N : Nat) (a0 : Nat) (v1 : Int32) (σ : Mm) : ∀ r0, f_X6_keep N a0 v1 σ = some r0 → Met l yX6_keep [Cond.code yX6_keep cX6_keep 3 (some .int)] rm_X6_keep (xPc E (NT + 0) σ [.ref (E.B + a0), .int v1]) (xQi E (NT + 0) r0) 0 0 (xA E) := by
  refine met_of (N0 := NT) (by decide +kernel) (Nat.le_of_ble_eq_true rfl) ?_
  intro p e s m args below meth c hG hr hk _
  show JR E NT 3 p l e rm_X6_keep s m args below meth c 0 0 (fun r => MQ below (xQi E (NT + 0) r) args s 0 0 (xA E)) 0 [(0, .ref (E.B + a0)), (1, .int v1)] [] σ (if okO 6 a0 then (bI (f_X6_in N v1 (0 : Int32) (2 : Int32) (σ)) (fun r2 t1 => if r2 = 0 then (some ((-1 : Int32), t1)) else (if (gi t1 a0 10) = 0 then (some ((-4 : Int32), t1)) else (bR (gr t1 a0 24) (okA 2) (fun o3 => if inb v1 (arL o3) then (lt (si t1 o3 (ix v1) ((1 : Int32) &&& 1)) (fun t4 => bR (gr t4 a0 25) (okA 0) (fun o5 => if inb v1 (arL o5) then (lt (si t4 o5 (ix v1) (gi t4 a0 22)) (fun t6 => f_X6_keep_40 N N a0 v1 (0 : Int32) t6)) else none))) else none))))) else none)
  refine jr_guard (fun ha0 => ?_)
  refine jr_iload_n hG 1 dX6_keep_0 rfl rfl ?_
  refine jr_iconst (v := (0 : Int32)) hG dX6_keep_1 (by decide) ?_
  refine jr_iconst (v := (2 : Int32)) hG dX6_keep_2 (by decide) ?_
  refine jr_callSi (As := [.int v1, .int (0 : Int32), .int (2 : Int32)]) hG (c_X6_in l E N v1 (0 : Int32) (2 : Int32) (σ)) ci_X6_in wd_847 wd_848 ⟨rfl, rfl, Nat.le_of_ble_eq_true rfl, Nat.le_of_ble_eq_true rfl⟩ rfl rfl (Nat.le_of_ble_eq_true rfl) dX6_keep_3 ⟨Nat.le_refl _, Nat.le_refl _⟩ (fun r2 t1 => ?_)
  refine jr_if_ne hG 11 dX6_keep_6 (by decide) (fun _ => ?_) (fun _ => ?_)
  · refine jr_aload_n hG 0 dX6_keep_11 rfl rfl ?_
    refine jr_getI hG fi_RX6_147 rfl (okO_s ha0) (okO_l ha0) dX6_keep_12 ?_
    refine jr_if_ne hG 21 dX6_keep_15 (by decide) (fun _ => ?_) (fun _ => ?_)
    · refine jr_aload_n hG 0 dX6_keep_21 rfl rfl ?_
      refine jr_getR hG fi_RX6_60 rfl (okO_s ha0) (okO_l ha0) dX6_keep_22 (fun o3 ho3 => ?_)
      refine jr_iload_n hG 1 dX6_keep_25 rfl rfl ?_
      refine jr_iconst (v := (1 : Int32)) hG dX6_keep_26 (by decide) ?_
      refine jr_zast hG (okA_s (by decide) ho3) (okA_l ho3) dX6_keep_27 ?_
      refine jr_lets (fun t4 _ => ?_)
      refine jr_aload_n hG 0 dX6_keep_28 rfl rfl ?_
      refine jr_getR hG fi_RX6_64 rfl (okO_s ha0) (okO_l ha0) dX6_keep_29 (fun o5 ho5 => ?_)
      refine jr_iload_n hG 1 dX6_keep_32 rfl rfl ?_
      refine jr_aload_n hG 0 dX6_keep_33 rfl rfl ?_
      refine jr_getI hG fi_RX6_150 rfl (okO_s ha0) (okO_l ha0) dX6_keep_34 ?_
      refine jr_iast hG (okA_s (by decide) ho5) (okA_l ho5) dX6_keep_37 ?_
      refine jr_lets (fun t6 _ => ?_)
      refine jr_iconst (v := (0 : Int32)) hG dX6_keep_38 (by decide) ?_
      refine jr_istore_n (lv' := [(2, .int (0 : Int32)), (0, .ref (E.B + a0)), (1, .int v1)]) hG dX6_keep_39 rfl (by decide) rfl ?_
      refine jr_sub (lv' := [(0, .ref (E.B + a0)), (1, .int v1), (2, .int (0 : Int32))]) [1, 2, 0] rfl ?_
      exact w_X6_keep_40 N hG hr hk N a0 v1 (0 : Int32) ha0 t6
    · refine jr_bipush (v := (-4 : Int32)) hG dX6_keep_18 (by decide) ?_
      exact jr_iret hG hr hk dX6_keep_20
  · refine jr_iconst (v := (-1 : Int32)) hG dX6_keep_9 (by decide) ?_
    exact jr_iret hG hr hk dX6_keep_10
-- TonguesDealtModel.on(I)I
abbrev rm_X6_on : Room := { frames := 1, cells := 0, slots := 0, locals := 22 }
theorem ci_X6_on : CIx yX6_on cX6_on 3 (some .int) 1 := ⟨wd_1039, wd_77, by decide +kernel⟩
def f_X6_on_69 (N : Nat)  : Nat → Nat → Int32 → Int32 → Mm → Option (Int32 × Mm)
  | 0 => fun _ _ _ _ => none
  | n + 1 => fun a0 v1 v2 σ => if ((14 : Int32) * (gi σ a0 22)) ≤ v2 then (some (gi σ a0 22, σ)) else (bR (gr σ a0 23) (okA 0) (fun o11 => bR (gr σ a0 27) (okA 0) (fun o12 => if inb (((560 : Int32) * v1) + v2) (arL o12) then (if inb v2 (arL o11) then (lt (si σ o11 (ix v2) (gi σ o12 (ix (((560 : Int32) * v1) + v2)))) (fun t13 => f_X6_on_69 N n a0 v1 (v2 + (1 : Int32)) t13)) else none) else none)))
set_option maxRecDepth 20000 in
theorem w_X6_on_69 {p : Program} {l : Launch} {e : Env} {s : State} {m : MethodId} {args : Array Value} {below : List Frame} {meth : Method} {c : Code} {E : XE} (N : Nat) (hG : GG E NT 3 RX6 cX6_on p s m args c) (hr : meth.sig.returnType = (some .int)) (hk : meth.locks = false)  : ∀ (n : Nat) (a0 : Nat) (v1 : Int32) (v2 : Int32) (ha0 : okO 6 a0 = true) (σ : Mm), JR E NT 3 p l e rm_X6_on s m args below meth c 0 0 (fun r => MQ below (xQi E (NT + 0) r) args s 0 0 (xA E)) 69 [(0, .ref (E.B + a0)), (1, .int v1), (2, .int v2)] [] σ (f_X6_on_69 N n a0 v1 v2 σ) := by
  intro n
  induction n with
  | zero => intro a0 v1 v2 ha0 σ r hX; cases hX
  | succ n ih =>
    intro a0 v1 v2 ha0 σ
    show JR E NT 3 p l e rm_X6_on s m args below meth c 0 0 (fun r => MQ below (xQi E (NT + 0) r) args s 0 0 (xA E)) 69 [(0, .ref (E.B + a0)), (1, .int v1), (2, .int v2)] [] σ (if ((14 : Int32) * (gi σ a0 22)) ≤ v2 then (some (gi σ a0 22, σ)) else (bR (gr σ a0 23) (okA 0) (fun o11 => bR (gr σ a0 27) (okA 0) (fun o12 => if inb (((560 : Int32) * v1) + v2) (arL o12) then (if inb v2 (arL o11) then (lt (si σ o11 (ix v2) (gi σ o12 (ix (((560 : Int32) * v1) + v2)))) (fun t13 => f_X6_on_69 N n a0 v1 (v2 + (1 : Int32)) t13)) else none) else none))))
    refine jr_iload_n hG 2 dX6_on_69 rfl rfl ?_
    refine jr_bipush (v := (14 : Int32)) hG dX6_on_70 (by decide) ?_
    refine jr_aload_n hG 0 dX6_on_72 rfl rfl ?_
    refine jr_getI hG fi_RX6_150 rfl (okO_s ha0) (okO_l ha0) dX6_on_73 ?_
    refine jr_imul hG dX6_on_76 ?_
    refine jr_icmp_ge hG 104 dX6_on_77 (by decide) (fun _ => ?_) (fun _ => ?_)
    · refine jr_aload_n hG 0 dX6_on_104 rfl rfl ?_
      refine jr_getI hG fi_RX6_150 rfl (okO_s ha0) (okO_l ha0) dX6_on_105 ?_
      exact jr_iret hG hr hk dX6_on_108
    · refine jr_aload_n hG 0 dX6_on_80 rfl rfl ?_
      refine jr_getR hG fi_RX6_57 rfl (okO_s ha0) (okO_l ha0) dX6_on_81 (fun o11 ho11 => ?_)
      refine jr_iload_n hG 2 dX6_on_84 rfl rfl ?_
      refine jr_aload_n hG 0 dX6_on_85 rfl rfl ?_
      refine jr_getR hG fi_RX6_70 rfl (okO_s ha0) (okO_l ha0) dX6_on_86 (fun o12 ho12 => ?_)
      refine jr_sipush (v := (560 : Int32)) hG dX6_on_89 (by decide) ?_
      refine jr_iload_n hG 1 dX6_on_92 rfl rfl ?_
      refine jr_imul hG dX6_on_93 ?_
      refine jr_iload_n hG 2 dX6_on_94 rfl rfl ?_
      refine jr_iadd hG dX6_on_95 ?_
      refine jr_iald hG (okA_s (by decide) ho12) (okA_l ho12) dX6_on_96 ?_
      refine jr_iast hG (okA_s (by decide) ho11) (okA_l ho11) dX6_on_97 ?_
      refine jr_lets (fun t13 _ => ?_)
      refine jr_iinc (v := v2 + (1 : Int32)) (lv' := [(2, .int (v2 + (1 : Int32))), (0, .ref (E.B + a0)), (1, .int v1)]) hG 2 dX6_on_98 rfl rfl (by decide) rfl ?_
      refine jr_goto hG 69 dX6_on_101 (by decide) ?_
      refine jr_sub (lv' := [(0, .ref (E.B + a0)), (1, .int v1), (2, .int (v2 + (1 : Int32)))]) [1, 2, 0] rfl ?_
      exact ih a0 v1 (v2 + (1 : Int32)) ha0 t13
def f_X6_on_38 (N : Nat)  : Nat → Nat → Int32 → Int32 → Mm → Option (Int32 × Mm)
  | 0 => fun _ _ _ _ => none
  | n + 1 => fun a0 v1 v2 σ => if (14 : Int32) ≤ v2 then (f_X6_on_69 N N a0 v1 (0 : Int32) (σ)) else (bR (gr σ a0 19) (okA 0) (fun o8 => bR (gr σ a0 26) (okA 0) (fun o9 => if inb (((14 : Int32) * v1) + v2) (arL o9) then (if inb v2 (arL o8) then (lt (si σ o8 (ix v2) (gi σ o9 (ix (((14 : Int32) * v1) + v2)))) (fun t10 => f_X6_on_38 N n a0 v1 (v2 + (1 : Int32)) t10)) else none) else none)))
set_option maxRecDepth 20000 in
theorem w_X6_on_38 {p : Program} {l : Launch} {e : Env} {s : State} {m : MethodId} {args : Array Value} {below : List Frame} {meth : Method} {c : Code} {E : XE} (N : Nat) (hG : GG E NT 3 RX6 cX6_on p s m args c) (hr : meth.sig.returnType = (some .int)) (hk : meth.locks = false)  : ∀ (n : Nat) (a0 : Nat) (v1 : Int32) (v2 : Int32) (ha0 : okO 6 a0 = true) (σ : Mm), JR E NT 3 p l e rm_X6_on s m args below meth c 0 0 (fun r => MQ below (xQi E (NT + 0) r) args s 0 0 (xA E)) 38 [(0, .ref (E.B + a0)), (1, .int v1), (2, .int v2)] [] σ (f_X6_on_38 N n a0 v1 v2 σ) := by
  intro n
  induction n with
  | zero => intro a0 v1 v2 ha0 σ r hX; cases hX
  | succ n ih =>
    intro a0 v1 v2 ha0 σ
    show JR E NT 3 p l e rm_X6_on s m args below meth c 0 0 (fun r => MQ below (xQi E (NT + 0) r) args s 0 0 (xA E)) 38 [(0, .ref (E.B + a0)), (1, .int v1), (2, .int v2)] [] σ (if (14 : Int32) ≤ v2 then (f_X6_on_69 N N a0 v1 (0 : Int32) (σ)) else (bR (gr σ a0 19) (okA 0) (fun o8 => bR (gr σ a0 26) (okA 0) (fun o9 => if inb (((14 : Int32) * v1) + v2) (arL o9) then (if inb v2 (arL o8) then (lt (si σ o8 (ix v2) (gi σ o9 (ix (((14 : Int32) * v1) + v2)))) (fun t10 => f_X6_on_38 N n a0 v1 (v2 + (1 : Int32)) t10)) else none) else none))))
    refine jr_iload_n hG 2 dX6_on_38 rfl rfl ?_
    refine jr_bipush (v := (14 : Int32)) hG dX6_on_39 (by decide) ?_
    refine jr_icmp_ge hG 67 dX6_on_41 (by decide) (fun _ => ?_) (fun _ => ?_)
    · refine jr_iconst (v := (0 : Int32)) hG dX6_on_67 (by decide) ?_
      refine jr_istore_n (lv' := [(2, .int (0 : Int32)), (0, .ref (E.B + a0)), (1, .int v1)]) hG dX6_on_68 rfl (by decide) rfl ?_
      refine jr_sub (lv' := [(0, .ref (E.B + a0)), (1, .int v1), (2, .int (0 : Int32))]) [1, 2, 0] rfl ?_
      exact w_X6_on_69 N hG hr hk N a0 v1 (0 : Int32) ha0 (σ)
    · refine jr_aload_n hG 0 dX6_on_44 rfl rfl ?_
      refine jr_getR hG fi_RX6_48 rfl (okO_s ha0) (okO_l ha0) dX6_on_45 (fun o8 ho8 => ?_)
      refine jr_iload_n hG 2 dX6_on_48 rfl rfl ?_
      refine jr_aload_n hG 0 dX6_on_49 rfl rfl ?_
      refine jr_getR hG fi_RX6_67 rfl (okO_s ha0) (okO_l ha0) dX6_on_50 (fun o9 ho9 => ?_)
      refine jr_bipush (v := (14 : Int32)) hG dX6_on_53 (by decide) ?_
      refine jr_iload_n hG 1 dX6_on_55 rfl rfl ?_
      refine jr_imul hG dX6_on_56 ?_
      refine jr_iload_n hG 2 dX6_on_57 rfl rfl ?_
      refine jr_iadd hG dX6_on_58 ?_
      refine jr_iald hG (okA_s (by decide) ho9) (okA_l ho9) dX6_on_59 ?_
      refine jr_iast hG (okA_s (by decide) ho8) (okA_l ho8) dX6_on_60 ?_
      refine jr_lets (fun t10 _ => ?_)
      refine jr_iinc (v := v2 + (1 : Int32)) (lv' := [(2, .int (v2 + (1 : Int32))), (0, .ref (E.B + a0)), (1, .int v1)]) hG 2 dX6_on_61 rfl rfl (by decide) rfl ?_
      refine jr_goto hG 38 dX6_on_64 (by decide) ?_
      refine jr_sub (lv' := [(0, .ref (E.B + a0)), (1, .int v1), (2, .int (v2 + (1 : Int32)))]) [1, 2, 0] rfl ?_
      exact ih a0 v1 (v2 + (1 : Int32)) ha0 t10
def f_X6_on (N : Nat) (a0 : Nat) (v1 : Int32) (σ : Mm) : Option (Int32 × Mm) := if okO 6 a0 then (bI (f_X6_in N v1 (0 : Int32) (2 : Int32) (σ)) (fun r2 t1 => if r2 = 0 then (some ((-1 : Int32), t1)) else (bR (gr t1 a0 24) (okA 2) (fun o3 => if inb v1 (arL o3) then (if (gi t1 o3 (ix v1)) = 0 then (bI (f_X6_meets N a0 (1 : Int32) t1) (fun r7 t6 => some (r7, t6))) else (bR (gr t1 a0 25) (okA 0) (fun o4 => if inb v1 (arL o4) then (lt (si t1 a0 22 (gi t1 o4 (ix v1))) (fun t5 => f_X6_on_38 N N a0 v1 (0 : Int32) t5)) else none))) else none)))) else none
set_option maxRecDepth 20000 in
theorem c_X6_on (l : Launch) (E : XE) (N : Nat) (a0 : Nat) (v1 : Int32) (σ : Mm) : ∀ r0, f_X6_on N a0 v1 σ = some r0 → Met l yX6_on [Cond.code yX6_on cX6_on 3 (some .int)] rm_X6_on (xPc E (NT + 0) σ [.ref (E.B + a0), .int v1]) (xQi E (NT + 0) r0) 0 0 (xA E) := by
  refine met_of (N0 := NT) (by decide +kernel) (Nat.le_of_ble_eq_true rfl) ?_
  intro p e s m args below meth c hG hr hk _
  show JR E NT 3 p l e rm_X6_on s m args below meth c 0 0 (fun r => MQ below (xQi E (NT + 0) r) args s 0 0 (xA E)) 0 [(0, .ref (E.B + a0)), (1, .int v1)] [] σ (if okO 6 a0 then (bI (f_X6_in N v1 (0 : Int32) (2 : Int32) (σ)) (fun r2 t1 => if r2 = 0 then (some ((-1 : Int32), t1)) else (bR (gr t1 a0 24) (okA 2) (fun o3 => if inb v1 (arL o3) then (if (gi t1 o3 (ix v1)) = 0 then (bI (f_X6_meets N a0 (1 : Int32) t1) (fun r7 t6 => some (r7, t6))) else (bR (gr t1 a0 25) (okA 0) (fun o4 => if inb v1 (arL o4) then (lt (si t1 a0 22 (gi t1 o4 (ix v1))) (fun t5 => f_X6_on_38 N N a0 v1 (0 : Int32) t5)) else none))) else none)))) else none)
  refine jr_guard (fun ha0 => ?_)
  refine jr_iload_n hG 1 dX6_on_0 rfl rfl ?_
  refine jr_iconst (v := (0 : Int32)) hG dX6_on_1 (by decide) ?_
  refine jr_iconst (v := (2 : Int32)) hG dX6_on_2 (by decide) ?_
  refine jr_callSi (As := [.int v1, .int (0 : Int32), .int (2 : Int32)]) hG (c_X6_in l E N v1 (0 : Int32) (2 : Int32) (σ)) ci_X6_in wd_847 wd_848 ⟨rfl, rfl, Nat.le_of_ble_eq_true rfl, Nat.le_of_ble_eq_true rfl⟩ rfl rfl (Nat.le_of_ble_eq_true rfl) dX6_on_3 ⟨Nat.le_refl _, Nat.le_refl _⟩ (fun r2 t1 => ?_)
  refine jr_if_ne hG 11 dX6_on_6 (by decide) (fun _ => ?_) (fun _ => ?_)
  · refine jr_aload_n hG 0 dX6_on_11 rfl rfl ?_
    refine jr_getR hG fi_RX6_60 rfl (okO_s ha0) (okO_l ha0) dX6_on_12 (fun o3 ho3 => ?_)
    refine jr_iload_n hG 1 dX6_on_15 rfl rfl ?_
    refine jr_zald hG (okA_s (by decide) ho3) (okA_l ho3) dX6_on_16 ?_
    refine jr_if_ne hG 26 dX6_on_17 (by decide) (fun _ => ?_) (fun _ => ?_)
    · refine jr_aload_n hG 0 dX6_on_26 rfl rfl ?_
      refine jr_aload_n hG 0 dX6_on_27 rfl rfl ?_
      refine jr_getR hG fi_RX6_64 rfl (okO_s ha0) (okO_l ha0) dX6_on_28 (fun o4 ho4 => ?_)
      refine jr_iload_n hG 1 dX6_on_31 rfl rfl ?_
      refine jr_iald hG (okA_s (by decide) ho4) (okA_l ho4) dX6_on_32 ?_
      refine jr_putI hG fi_RX6_150 rfl rfl (okO_s ha0) (okO_l ha0) dX6_on_33 ?_
      refine jr_lets (fun t5 _ => ?_)
      refine jr_iconst (v := (0 : Int32)) hG dX6_on_36 (by decide) ?_
      refine jr_istore_n (lv' := [(2, .int (0 : Int32)), (0, .ref (E.B + a0)), (1, .int v1)]) hG dX6_on_37 rfl (by decide) rfl ?_
      refine jr_sub (lv' := [(0, .ref (E.B + a0)), (1, .int v1), (2, .int (0 : Int32))]) [1, 2, 0] rfl ?_
      exact w_X6_on_38 N hG hr hk N a0 v1 (0 : Int32) ha0 t5
    · refine jr_aload_n hG 0 dX6_on_20 rfl rfl ?_
      refine jr_iconst (v := (1 : Int32)) hG dX6_on_21 (by decide) ?_
      refine jr_callVi (As := [.int (1 : Int32)]) hG (c_X6_meets l E N a0 (1 : Int32) t1) ci_X6_meets wd_869 ⟨wd_871, wd_21⟩ cl_6 (okO_s ha0) (okO_l ha0) ⟨rfl, rfl, Nat.le_of_ble_eq_true rfl, Nat.le_of_ble_eq_true rfl⟩ rfl rfl (Nat.le_of_ble_eq_true rfl) dX6_on_22 ⟨Nat.le_refl _, Nat.le_refl _⟩ (fun r7 t6 => ?_)
      exact jr_iret hG hr hk dX6_on_25
  · refine jr_iconst (v := (-1 : Int32)) hG dX6_on_9 (by decide) ?_
    exact jr_iret hG hr hk dX6_on_10
-- TonguesDealtModel.tells(II)I
abbrev rm_X6_tells : Room := { frames := 4, cells := 0, slots := 0, locals := 89 }
theorem ci_X6_tells : CIx yX6_tells cX6_tells 3 (some .int) 2 := ⟨wd_1043, wd_77, by decide +kernel⟩
def f_X6_tells (N : Nat) (a0 : Nat) (v1 : Int32) (v2 : Int32) (σ : Mm) : Option (Int32 × Mm) := if okO 6 a0 then (bI (f_X6_areTwo N a0 v1 v2 (σ)) (fun r2 t1 => if r2 = 0 then (some ((-1 : Int32), t1)) else (bR (gr t1 a0 19) (okA 0) (fun o3 => bI (f_X6_isTold N a0 o3 v1 v2 t1) (fun r5 t4 => if r5 = 0 then (some ((0 : Int32), t4)) else (some ((1 : Int32), t4))))))) else none
set_option maxRecDepth 20000 in
theorem c_X6_tells (l : Launch) (E : XE) (N : Nat) (a0 : Nat) (v1 : Int32) (v2 : Int32) (σ : Mm) : ∀ r0, f_X6_tells N a0 v1 v2 σ = some r0 → Met l yX6_tells [Cond.code yX6_tells cX6_tells 3 (some .int)] rm_X6_tells (xPc E (NT + 0) σ [.ref (E.B + a0), .int v1, .int v2]) (xQi E (NT + 0) r0) 0 0 (xA E) := by
  refine met_of (N0 := NT) (by decide +kernel) (Nat.le_of_ble_eq_true rfl) ?_
  intro p e s m args below meth c hG hr hk _
  show JR E NT 3 p l e rm_X6_tells s m args below meth c 0 0 (fun r => MQ below (xQi E (NT + 0) r) args s 0 0 (xA E)) 0 [(0, .ref (E.B + a0)), (1, .int v1), (2, .int v2)] [] σ (if okO 6 a0 then (bI (f_X6_areTwo N a0 v1 v2 (σ)) (fun r2 t1 => if r2 = 0 then (some ((-1 : Int32), t1)) else (bR (gr t1 a0 19) (okA 0) (fun o3 => bI (f_X6_isTold N a0 o3 v1 v2 t1) (fun r5 t4 => if r5 = 0 then (some ((0 : Int32), t4)) else (some ((1 : Int32), t4))))))) else none)
  refine jr_guard (fun ha0 => ?_)
  refine jr_aload_n hG 0 dX6_tells_0 rfl rfl ?_
  refine jr_iload_n hG 1 dX6_tells_1 rfl rfl ?_
  refine jr_iload_n hG 2 dX6_tells_2 rfl rfl ?_
  refine jr_callVi (As := [.int v1, .int v2]) hG (c_X6_areTwo l E N a0 v1 v2 (σ)) ci_X6_areTwo wd_1020 ⟨wd_1022, wd_41⟩ cl_6 (okO_s ha0) (okO_l ha0) ⟨rfl, rfl, Nat.le_of_ble_eq_true rfl, Nat.le_of_ble_eq_true rfl⟩ rfl rfl (Nat.le_of_ble_eq_true rfl) dX6_tells_3 ⟨Nat.le_refl _, Nat.le_refl _⟩ (fun r2 t1 => ?_)
  refine jr_if_ne hG 13 dX6_tells_6 (by decide) (fun _ => ?_) (fun _ => ?_)
  · refine jr_aload_n hG 0 dX6_tells_13 rfl rfl ?_
    refine jr_aload_n hG 0 dX6_tells_14 rfl rfl ?_
    refine jr_getR hG fi_RX6_48 rfl (okO_s ha0) (okO_l ha0) dX6_tells_15 (fun o3 ho3 => ?_)
    refine jr_iload_n hG 1 dX6_tells_18 rfl rfl ?_
    refine jr_iload_n hG 2 dX6_tells_19 rfl rfl ?_
    refine jr_callVi (As := [.ref (E.B + o3), .int v1, .int v2]) hG (c_X6_isTold l E N a0 o3 v1 v2 t1) ci_X6_isTold wd_980 ⟨wd_982, wd_34⟩ cl_6 (okO_s ha0) (okO_l ha0) ⟨rfl, rfl, Nat.le_of_ble_eq_true rfl, Nat.le_of_ble_eq_true rfl⟩ rfl rfl (Nat.le_of_ble_eq_true rfl) dX6_tells_20 ⟨Nat.le_refl _, Nat.le_refl _⟩ (fun r5 t4 => ?_)
    refine jr_if_eq hG 30 dX6_tells_23 (by decide) (fun _ => ?_) (fun _ => ?_)
    · refine jr_iconst (v := (0 : Int32)) hG dX6_tells_30 (by decide) ?_
      exact jr_iret hG hr hk dX6_tells_31
    · refine jr_iconst (v := (1 : Int32)) hG dX6_tells_26 (by decide) ?_
      refine jr_goto hG 31 dX6_tells_27 (by decide) ?_
      exact jr_iret hG hr hk dX6_tells_31
  · refine jr_iconst (v := (-1 : Int32)) hG dX6_tells_9 (by decide) ?_
    refine jr_goto hG 31 dX6_tells_10 (by decide) ?_
    exact jr_iret hG hr hk dX6_tells_31
-- TonguesDealtModel.order(III)I
abbrev rm_X6_order : Room := { frames := 5, cells := 0, slots := 0, locals := 112 }
theorem ci_X6_order : CIx yX6_order cX6_order 7 (some .int) 3 := ⟨wd_1047, wd_77, by decide +kernel⟩
def f_X6_order_101 (N : Nat) (K54 : Nat → Int32 → Int32 → Int32 → Int32 → Mm → Option (Int32 × Mm)) (K64 : Nat → Int32 → Int32 → Int32 → Int32 → Int32 → Mm → Option (Int32 × Mm)) (a0 : Nat) (v2 : Int32) (v3 : Int32) (v4 : Int32) (v5 : Int32) (v6 : Int32) (σ : Mm) : Option (Int32 × Mm) := K64 a0 v2 v3 v4 v5 (v6 + (1 : Int32)) (σ)
set_option maxRecDepth 20000 in
theorem w_X6_order_101 {p : Program} {l : Launch} {e : Env} {s : State} {m : MethodId} {args : Array Value} {below : List Frame} {meth : Method} {c : Code} {E : XE} (N : Nat) (hG : GG E NT 7 RX6 cX6_order p s m args c) (hr : meth.sig.returnType = (some .int)) (hk : meth.locks = false) {K54 : Nat → Int32 → Int32 → Int32 → Int32 → Mm → Option (Int32 × Mm)} (hK54 : ∀ (a0 : Nat) (v2 : Int32) (v3 : Int32) (v4 : Int32) (v5 : Int32) (ha0 : okO 6 a0 = true) (σ : Mm), JR E NT 7 p l e rm_X6_order s m args below meth c 0 0 (fun r => MQ below (xQi E (NT + 0) r) args s 0 0 (xA E)) 54 [(0, .ref (E.B + a0)), (2, .int v2), (3, .int v3), (4, .int v4), (5, .int v5)] [] σ (K54 a0 v2 v3 v4 v5 σ)) {K64 : Nat → Int32 → Int32 → Int32 → Int32 → Int32 → Mm → Option (Int32 × Mm)} (hK64 : ∀ (a0 : Nat) (v2 : Int32) (v3 : Int32) (v4 : Int32) (v5 : Int32) (v6 : Int32) (ha0 : okO 6 a0 = true) (σ : Mm), JR E NT 7 p l e rm_X6_order s m args below meth c 0 0 (fun r => MQ below (xQi E (NT + 0) r) args s 0 0 (xA E)) 64 [(0, .ref (E.B + a0)), (2, .int v2), (3, .int v3), (4, .int v4), (5, .int v5), (6, .int v6)] [] σ (K64 a0 v2 v3 v4 v5 v6 σ)) (a0 : Nat) (v2 : Int32) (v3 : Int32) (v4 : Int32) (v5 : Int32) (v6 : Int32) (ha0 : okO 6 a0 = true) (σ : Mm) : JR E NT 7 p l e rm_X6_order s m args below meth c 0 0 (fun r => MQ below (xQi E (NT + 0) r) args s 0 0 (xA E)) 101 [(0, .ref (E.B + a0)), (2, .int v2), (3, .int v3), (4, .int v4), (5, .int v5), (6, .int v6)] [] σ (f_X6_order_101 N K54 K64 a0 v2 v3 v4 v5 v6 σ) := by
  show JR E NT 7 p l e rm_X6_order s m args below meth c 0 0 (fun r => MQ below (xQi E (NT + 0) r) args s 0 0 (xA E)) 101 [(0, .ref (E.B + a0)), (2, .int v2), (3, .int v3), (4, .int v4), (5, .int v5), (6, .int v6)] [] σ (K64 a0 v2 v3 v4 v5 (v6 + (1 : Int32)) (σ))
  refine jr_iinc (v := v6 + (1 : Int32)) (lv' := [(6, .int (v6 + (1 : Int32))), (0, .ref (E.B + a0)), (2, .int v2), (3, .int v3), (4, .int v4), (5, .int v5)]) hG 5 dX6_order_101 rfl rfl (by decide) rfl ?_
  refine jr_goto hG 64 dX6_order_104 (by decide) ?_
  refine jr_sub (lv' := [(0, .ref (E.B + a0)), (2, .int v2), (3, .int v3), (4, .int v4), (5, .int v5), (6, .int (v6 + (1 : Int32)))]) [1, 2, 3, 4, 5, 0] rfl ?_
  exact hK64 a0 v2 v3 v4 v5 (v6 + (1 : Int32)) ha0 (σ)
def f_X6_order_64 (N : Nat) (K54 : Nat → Int32 → Int32 → Int32 → Int32 → Mm → Option (Int32 × Mm)) : Nat → Nat → Int32 → Int32 → Int32 → Int32 → Int32 → Mm → Option (Int32 × Mm)
  | 0 => fun _ _ _ _ _ _ _ => none
  | n + 1 => fun a0 v2 v3 v4 v5 v6 σ => bR (gr σ a0 21) (okA 0) (fun o13 => bR (gr σ a0 28) (okA 0) (fun o14 => if inb (v5 - (1 : Int32)) (arL o14) then (if inb (gi σ o14 (ix (v5 - (1 : Int32)))) (arL o13) then (bI (f_X6_has N (gi σ o13 (ix (gi σ o14 (ix (v5 - (1 : Int32)))))) v6 (σ)) (fun r16 t15 => if r16 = 0 then (f_X6_order_101 N K54 (f_X6_order_64 N K54 n) a0 v2 v3 v4 v5 v6 t15) else (bI (f_X6_stepsOf N a0 v6 v2 t15) (fun r18 t17 => if r18 = (v4 - v5) then (bR (gr t17 a0 28) (okA 0) (fun o19 => if inb v5 (arL o19) then (lt (si t17 o19 (ix v5) v6) (fun t20 => K54 a0 v2 v3 v4 (v5 + (1 : Int32)) t20)) else none)) else (f_X6_order_101 N K54 (f_X6_order_64 N K54 n) a0 v2 v3 v4 v5 v6 t17))))) else none) else none))
set_option maxRecDepth 20000 in
theorem w_X6_order_64 {p : Program} {l : Launch} {e : Env} {s : State} {m : MethodId} {args : Array Value} {below : List Frame} {meth : Method} {c : Code} {E : XE} (N : Nat) (hG : GG E NT 7 RX6 cX6_order p s m args c) (hr : meth.sig.returnType = (some .int)) (hk : meth.locks = false) {K54 : Nat → Int32 → Int32 → Int32 → Int32 → Mm → Option (Int32 × Mm)} (hK54 : ∀ (a0 : Nat) (v2 : Int32) (v3 : Int32) (v4 : Int32) (v5 : Int32) (ha0 : okO 6 a0 = true) (σ : Mm), JR E NT 7 p l e rm_X6_order s m args below meth c 0 0 (fun r => MQ below (xQi E (NT + 0) r) args s 0 0 (xA E)) 54 [(0, .ref (E.B + a0)), (2, .int v2), (3, .int v3), (4, .int v4), (5, .int v5)] [] σ (K54 a0 v2 v3 v4 v5 σ)) : ∀ (n : Nat) (a0 : Nat) (v2 : Int32) (v3 : Int32) (v4 : Int32) (v5 : Int32) (v6 : Int32) (ha0 : okO 6 a0 = true) (σ : Mm), JR E NT 7 p l e rm_X6_order s m args below meth c 0 0 (fun r => MQ below (xQi E (NT + 0) r) args s 0 0 (xA E)) 64 [(0, .ref (E.B + a0)), (2, .int v2), (3, .int v3), (4, .int v4), (5, .int v5), (6, .int v6)] [] σ (f_X6_order_64 N K54 n a0 v2 v3 v4 v5 v6 σ) := by
  intro n
  induction n with
  | zero => intro a0 v2 v3 v4 v5 v6 ha0 σ r hX; cases hX
  | succ n ih =>
    intro a0 v2 v3 v4 v5 v6 ha0 σ
    show JR E NT 7 p l e rm_X6_order s m args below meth c 0 0 (fun r => MQ below (xQi E (NT + 0) r) args s 0 0 (xA E)) 64 [(0, .ref (E.B + a0)), (2, .int v2), (3, .int v3), (4, .int v4), (5, .int v5), (6, .int v6)] [] σ (bR (gr σ a0 21) (okA 0) (fun o13 => bR (gr σ a0 28) (okA 0) (fun o14 => if inb (v5 - (1 : Int32)) (arL o14) then (if inb (gi σ o14 (ix (v5 - (1 : Int32)))) (arL o13) then (bI (f_X6_has N (gi σ o13 (ix (gi σ o14 (ix (v5 - (1 : Int32)))))) v6 (σ)) (fun r16 t15 => if r16 = 0 then (f_X6_order_101 N K54 (f_X6_order_64 N K54 n) a0 v2 v3 v4 v5 v6 t15) else (bI (f_X6_stepsOf N a0 v6 v2 t15) (fun r18 t17 => if r18 = (v4 - v5) then (bR (gr t17 a0 28) (okA 0) (fun o19 => if inb v5 (arL o19) then (lt (si t17 o19 (ix v5) v6) (fun t20 => K54 a0 v2 v3 v4 (v5 + (1 : Int32)) t20)) else none)) else (f_X6_order_101 N K54 (f_X6_order_64 N K54 n) a0 v2 v3 v4 v5 v6 t17))))) else none) else none)))
    refine jr_aload_n hG 0 dX6_order_64 rfl rfl ?_
    refine jr_getR hG fi_RX6_54 rfl (okO_s ha0) (okO_l ha0) dX6_order_65 (fun o13 ho13 => ?_)
    refine jr_aload_n hG 0 dX6_order_68 rfl rfl ?_
    refine jr_getR hG fi_RX6_73 rfl (okO_s ha0) (okO_l ha0) dX6_order_69 (fun o14 ho14 => ?_)
    refine jr_iload hG 4 dX6_order_72 rfl ?_
    refine jr_iconst (v := (1 : Int32)) hG dX6_order_74 (by decide) ?_
    refine jr_isub hG dX6_order_75 ?_
    refine jr_iald hG (okA_s (by decide) ho14) (okA_l ho14) dX6_order_76 ?_
    refine jr_iald hG (okA_s (by decide) ho13) (okA_l ho13) dX6_order_77 ?_
    refine jr_iload hG 5 dX6_order_78 rfl ?_
    refine jr_callSi (As := [.int (gi σ o13 (ix (gi σ o14 (ix (v5 - (1 : Int32)))))), .int v6]) hG (c_X6_has l E N (gi σ o13 (ix (gi σ o14 (ix (v5 - (1 : Int32)))))) v6 (σ)) ci_X6_has wd_932 wd_933 ⟨rfl, rfl, Nat.le_of_ble_eq_true rfl, Nat.le_of_ble_eq_true rfl⟩ rfl rfl (Nat.le_of_ble_eq_true rfl) dX6_order_80 ⟨Nat.le_refl _, Nat.le_refl _⟩ (fun r16 t15 => ?_)
    refine jr_if_eq hG 101 dX6_order_83 (by decide) (fun _ => ?_) (fun _ => ?_)
    · exact w_X6_order_101 N hG hr hk hK54 ih a0 v2 v3 v4 v5 v6 ha0 t15
    · refine jr_aload_n hG 0 dX6_order_86 rfl rfl ?_
      refine jr_iload hG 5 dX6_order_87 rfl ?_
      refine jr_iload_n hG 1 dX6_order_89 rfl rfl ?_
      refine jr_callVi (As := [.int v6, .int v2]) hG (c_X6_stepsOf l E N a0 v6 v2 t15) ci_X6_stepsOf wd_1052 ⟨wd_1054, wd_44⟩ cl_6 (okO_s ha0) (okO_l ha0) ⟨rfl, rfl, Nat.le_of_ble_eq_true rfl, Nat.le_of_ble_eq_true rfl⟩ rfl rfl (Nat.le_of_ble_eq_true rfl) dX6_order_90 ⟨Nat.le_refl _, Nat.le_refl _⟩ (fun r18 t17 => ?_)
      refine jr_iload hG 3 dX6_order_93 rfl ?_
      refine jr_iload hG 4 dX6_order_95 rfl ?_
      refine jr_isub hG dX6_order_97 ?_
      refine jr_icmp_eq hG 107 dX6_order_98 (by decide) (fun _ => ?_) (fun _ => ?_)
      · refine jr_aload_n hG 0 dX6_order_107 rfl rfl ?_
        refine jr_getR hG fi_RX6_73 rfl (okO_s ha0) (okO_l ha0) dX6_order_108 (fun o19 ho19 => ?_)
        refine jr_iload hG 4 dX6_order_111 rfl ?_
        refine jr_iload hG 5 dX6_order_113 rfl ?_
        refine jr_iast hG (okA_s (by decide) ho19) (okA_l ho19) dX6_order_115 ?_
        refine jr_lets (fun t20 _ => ?_)
        refine jr_iinc (v := v5 + (1 : Int32)) (lv' := [(5, .int (v5 + (1 : Int32))), (0, .ref (E.B + a0)), (2, .int v2), (3, .int v3), (4, .int v4), (6, .int v6)]) hG 4 dX6_order_116 rfl rfl (by decide) rfl ?_
        refine jr_goto hG 54 dX6_order_119 (by decide) ?_
        refine jr_sub (lv' := [(0, .ref (E.B + a0)), (2, .int v2), (3, .int v3), (4, .int v4), (5, .int (v5 + (1 : Int32)))]) [1, 2, 3, 4, 0] rfl ?_
        exact hK54 a0 v2 v3 v4 (v5 + (1 : Int32)) ha0 t20
      · exact w_X6_order_101 N hG hr hk hK54 ih a0 v2 v3 v4 v5 v6 ha0 t17
def f_X6_order_54 (N : Nat)  : Nat → Nat → Int32 → Int32 → Int32 → Int32 → Mm → Option (Int32 × Mm)
  | 0 => fun _ _ _ _ _ _ => none
  | n + 1 => fun a0 v2 v3 v4 v5 σ => if v4 < v5 then (bR (gr σ a0 28) (okA 0) (fun o11 => bV (f_X6_layRow N a0 v3 o11 (v4 + (1 : Int32)) (σ)) (fun t12 => some (v4 - (1 : Int32), t12)))) else (f_X6_order_64 N (f_X6_order_54 N n) N a0 v2 v3 v4 v5 (0 : Int32) (σ))
set_option maxRecDepth 20000 in
theorem w_X6_order_54 {p : Program} {l : Launch} {e : Env} {s : State} {m : MethodId} {args : Array Value} {below : List Frame} {meth : Method} {c : Code} {E : XE} (N : Nat) (hG : GG E NT 7 RX6 cX6_order p s m args c) (hr : meth.sig.returnType = (some .int)) (hk : meth.locks = false)  : ∀ (n : Nat) (a0 : Nat) (v2 : Int32) (v3 : Int32) (v4 : Int32) (v5 : Int32) (ha0 : okO 6 a0 = true) (σ : Mm), JR E NT 7 p l e rm_X6_order s m args below meth c 0 0 (fun r => MQ below (xQi E (NT + 0) r) args s 0 0 (xA E)) 54 [(0, .ref (E.B + a0)), (2, .int v2), (3, .int v3), (4, .int v4), (5, .int v5)] [] σ (f_X6_order_54 N n a0 v2 v3 v4 v5 σ) := by
  intro n
  induction n with
  | zero => intro a0 v2 v3 v4 v5 ha0 σ r hX; cases hX
  | succ n ih =>
    intro a0 v2 v3 v4 v5 ha0 σ
    show JR E NT 7 p l e rm_X6_order s m args below meth c 0 0 (fun r => MQ below (xQi E (NT + 0) r) args s 0 0 (xA E)) 54 [(0, .ref (E.B + a0)), (2, .int v2), (3, .int v3), (4, .int v4), (5, .int v5)] [] σ (if v4 < v5 then (bR (gr σ a0 28) (okA 0) (fun o11 => bV (f_X6_layRow N a0 v3 o11 (v4 + (1 : Int32)) (σ)) (fun t12 => some (v4 - (1 : Int32), t12)))) else (f_X6_order_64 N (f_X6_order_54 N n) N a0 v2 v3 v4 v5 (0 : Int32) (σ)))
    refine jr_iload hG 4 dX6_order_54 rfl ?_
    refine jr_iload hG 3 dX6_order_56 rfl ?_
    refine jr_icmp_gt hG 122 dX6_order_58 (by decide) (fun _ => ?_) (fun _ => ?_)
    · refine jr_aload_n hG 0 dX6_order_122 rfl rfl ?_
      refine jr_iload_n hG 2 dX6_order_123 rfl rfl ?_
      refine jr_aload_n hG 0 dX6_order_124 rfl rfl ?_
      refine jr_getR hG fi_RX6_73 rfl (okO_s ha0) (okO_l ha0) dX6_order_125 (fun o11 ho11 => ?_)
      refine jr_iload hG 3 dX6_order_128 rfl ?_
      refine jr_iconst (v := (1 : Int32)) hG dX6_order_130 (by decide) ?_
      refine jr_iadd hG dX6_order_131 ?_
      refine jr_callVv (As := [.int v3, .ref (E.B + o11), .int (v4 + (1 : Int32))]) hG (c_X6_layRow l E N a0 v3 o11 (v4 + (1 : Int32)) (σ)) ci_X6_layRow wd_1056 ⟨wd_1058, wd_45⟩ cl_6 (okO_s ha0) (okO_l ha0) ⟨rfl, rfl, Nat.le_of_ble_eq_true rfl, Nat.le_of_ble_eq_true rfl⟩ rfl rfl (Nat.le_of_ble_eq_true rfl) dX6_order_132 ⟨Nat.le_refl _, Nat.le_refl _⟩ (fun t12 => ?_)
      refine jr_iload hG 3 dX6_order_135 rfl ?_
      refine jr_iconst (v := (1 : Int32)) hG dX6_order_137 (by decide) ?_
      refine jr_isub hG dX6_order_138 ?_
      exact jr_iret hG hr hk dX6_order_139
    · refine jr_iconst (v := (0 : Int32)) hG dX6_order_61 (by decide) ?_
      refine jr_istore (lv' := [(6, .int (0 : Int32)), (0, .ref (E.B + a0)), (2, .int v2), (3, .int v3), (4, .int v4), (5, .int v5)]) hG dX6_order_62 (by decide) rfl ?_
      refine jr_sub (lv' := [(0, .ref (E.B + a0)), (2, .int v2), (3, .int v3), (4, .int v4), (5, .int v5), (6, .int (0 : Int32))]) [1, 2, 3, 4, 5, 0] rfl ?_
      exact w_X6_order_64 N hG hr hk ih N a0 v2 v3 v4 v5 (0 : Int32) ha0 (σ)
def f_X6_order (N : Nat) (a0 : Nat) (v1 : Int32) (v2 : Int32) (v3 : Int32) (σ : Mm) : Option (Int32 × Mm) := if okO 6 a0 then (bI (f_X6_areTwo N a0 v1 v2 (σ)) (fun r2 t1 => if r2 = 0 then (some ((-1 : Int32), t1)) else (bI (f_X6_isRow N v3 t1) (fun r4 t3 => if r4 = 0 then (some ((-1 : Int32), t3)) else (bR (gr t3 a0 19) (okA 0) (fun o5 => bV (f_X6_layTells N a0 o5 t3) (fun t6 => bI (f_X6_stepsOf N a0 v1 v2 t6) (fun r8 t7 => if r8 = (-9 : Int32) then (some ((-9 : Int32), t7)) else (bR (gr t7 a0 28) (okA 0) (fun o9 => if inb (0 : Int32) (arL o9) then (lt (si t7 o9 (ix (0 : Int32)) v1) (fun t10 => f_X6_order_54 N N a0 v2 v3 r8 (1 : Int32) t10)) else none)))))))))) else none
set_option maxRecDepth 20000 in
theorem c_X6_order (l : Launch) (E : XE) (N : Nat) (a0 : Nat) (v1 : Int32) (v2 : Int32) (v3 : Int32) (σ : Mm) : ∀ r0, f_X6_order N a0 v1 v2 v3 σ = some r0 → Met l yX6_order [Cond.code yX6_order cX6_order 7 (some .int)] rm_X6_order (xPc E (NT + 0) σ [.ref (E.B + a0), .int v1, .int v2, .int v3]) (xQi E (NT + 0) r0) 0 0 (xA E) := by
  refine met_of (N0 := NT) (by decide +kernel) (Nat.le_of_ble_eq_true rfl) ?_
  intro p e s m args below meth c hG hr hk _
  show JR E NT 7 p l e rm_X6_order s m args below meth c 0 0 (fun r => MQ below (xQi E (NT + 0) r) args s 0 0 (xA E)) 0 [(0, .ref (E.B + a0)), (1, .int v1), (2, .int v2), (3, .int v3)] [] σ (if okO 6 a0 then (bI (f_X6_areTwo N a0 v1 v2 (σ)) (fun r2 t1 => if r2 = 0 then (some ((-1 : Int32), t1)) else (bI (f_X6_isRow N v3 t1) (fun r4 t3 => if r4 = 0 then (some ((-1 : Int32), t3)) else (bR (gr t3 a0 19) (okA 0) (fun o5 => bV (f_X6_layTells N a0 o5 t3) (fun t6 => bI (f_X6_stepsOf N a0 v1 v2 t6) (fun r8 t7 => if r8 = (-9 : Int32) then (some ((-9 : Int32), t7)) else (bR (gr t7 a0 28) (okA 0) (fun o9 => if inb (0 : Int32) (arL o9) then (lt (si t7 o9 (ix (0 : Int32)) v1) (fun t10 => f_X6_order_54 N N a0 v2 v3 r8 (1 : Int32) t10)) else none)))))))))) else none)
  refine jr_guard (fun ha0 => ?_)
  refine jr_aload_n hG 0 dX6_order_0 rfl rfl ?_
  refine jr_iload_n hG 1 dX6_order_1 rfl rfl ?_
  refine jr_iload_n hG 2 dX6_order_2 rfl rfl ?_
  refine jr_callVi (As := [.int v1, .int v2]) hG (c_X6_areTwo l E N a0 v1 v2 (σ)) ci_X6_areTwo wd_1020 ⟨wd_1022, wd_41⟩ cl_6 (okO_s ha0) (okO_l ha0) ⟨rfl, rfl, Nat.le_of_ble_eq_true rfl, Nat.le_of_ble_eq_true rfl⟩ rfl rfl (Nat.le_of_ble_eq_true rfl) dX6_order_3 ⟨Nat.le_refl _, Nat.le_refl _⟩ (fun r2 t1 => ?_)
  refine jr_if_eq hG 16 dX6_order_6 (by decide) (fun _ => ?_) (fun _ => ?_)
  · refine jr_iconst (v := (-1 : Int32)) hG dX6_order_16 (by decide) ?_
    exact jr_iret hG hr hk dX6_order_17
  · refine jr_iload_n hG 3 dX6_order_9 rfl rfl ?_
    refine jr_callSi (As := [.int v3]) hG (c_X6_isRow l E N v3 t1) ci_X6_isRow wd_866 wd_867 ⟨rfl, rfl, Nat.le_of_ble_eq_true rfl, Nat.le_of_ble_eq_true rfl⟩ rfl rfl (Nat.le_of_ble_eq_true rfl) dX6_order_10 ⟨Nat.le_refl _, Nat.le_refl _⟩ (fun r4 t3 => ?_)
    refine jr_if_ne hG 18 dX6_order_13 (by decide) (fun _ => ?_) (fun _ => ?_)
    · refine jr_aload_n hG 0 dX6_order_18 rfl rfl ?_
      refine jr_aload_n hG 0 dX6_order_19 rfl rfl ?_
      refine jr_getR hG fi_RX6_48 rfl (okO_s ha0) (okO_l ha0) dX6_order_20 (fun o5 ho5 => ?_)
      refine jr_callVv (As := [.ref (E.B + o5)]) hG (c_X6_layTells l E N a0 o5 t3) ci_X6_layTells wd_1048 ⟨wd_1050, wd_43⟩ cl_6 (okO_s ha0) (okO_l ha0) ⟨rfl, rfl, Nat.le_of_ble_eq_true rfl, Nat.le_of_ble_eq_true rfl⟩ rfl rfl (Nat.le_of_ble_eq_true rfl) dX6_order_23 ⟨Nat.le_refl _, Nat.le_refl _⟩ (fun t6 => ?_)
      refine jr_aload_n hG 0 dX6_order_26 rfl rfl ?_
      refine jr_iload_n hG 1 dX6_order_27 rfl rfl ?_
      refine jr_iload_n hG 2 dX6_order_28 rfl rfl ?_
      refine jr_callVi (As := [.int v1, .int v2]) hG (c_X6_stepsOf l E N a0 v1 v2 t6) ci_X6_stepsOf wd_1052 ⟨wd_1054, wd_44⟩ cl_6 (okO_s ha0) (okO_l ha0) ⟨rfl, rfl, Nat.le_of_ble_eq_true rfl, Nat.le_of_ble_eq_true rfl⟩ rfl rfl (Nat.le_of_ble_eq_true rfl) dX6_order_29 ⟨Nat.le_refl _, Nat.le_refl _⟩ (fun r8 t7 => ?_)
      refine jr_istore (lv' := [(4, .int r8), (0, .ref (E.B + a0)), (1, .int v1), (2, .int v2), (3, .int v3)]) hG dX6_order_32 (by decide) rfl ?_
      refine jr_iload hG 0 dX6_order_34 rfl ?_
      refine jr_bipush (v := (-9 : Int32)) hG dX6_order_36 (by decide) ?_
      refine jr_icmp_ne hG 44 dX6_order_38 (by decide) (fun _ => ?_) (fun _ => ?_)
      · refine jr_aload_n hG 1 dX6_order_44 rfl rfl ?_
        refine jr_getR hG fi_RX6_73 rfl (okO_s ha0) (okO_l ha0) dX6_order_45 (fun o9 ho9 => ?_)
        refine jr_iconst (v := (0 : Int32)) hG dX6_order_48 (by decide) ?_
        refine jr_iload_n hG 2 dX6_order_49 rfl rfl ?_
        refine jr_iast hG (okA_s (by decide) ho9) (okA_l ho9) dX6_order_50 ?_
        refine jr_lets (fun t10 _ => ?_)
        refine jr_iconst (v := (1 : Int32)) hG dX6_order_51 (by decide) ?_
        refine jr_istore (lv' := [(5, .int (1 : Int32)), (4, .int r8), (0, .ref (E.B + a0)), (1, .int v1), (2, .int v2), (3, .int v3)]) hG dX6_order_52 (by decide) rfl ?_
        refine jr_sub (lv' := [(0, .ref (E.B + a0)), (2, .int v2), (3, .int v3), (4, .int r8), (5, .int (1 : Int32))]) [2, 4, 5, 1, 0] rfl ?_
        exact w_X6_order_54 N hG hr hk N a0 v2 v3 r8 (1 : Int32) ha0 t10
      · refine jr_bipush (v := (-9 : Int32)) hG dX6_order_41 (by decide) ?_
        exact jr_iret hG hr hk dX6_order_43
    · refine jr_iconst (v := (-1 : Int32)) hG dX6_order_16 (by decide) ?_
      exact jr_iret hG hr hk dX6_order_17
-- TonguesDealtModel.needs(II)I
abbrev rm_X6_needs : Room := { frames := 5, cells := 0, slots := 0, locals := 112 }
theorem ci_X6_needs : CIx yX6_needs cX6_needs 5 (some .int) 2 := ⟨wd_1063, wd_77, by decide +kernel⟩
def f_X6_needs_107 (N : Nat)  (v3 : Int32) (s0 : Int32) (b1 : Nat) (σ : Mm) : Option (Int32 × Mm) := bI (f_X6_gives N b1 s0 v3 (σ)) (fun r19 t18 => some (r19, t18))
set_option maxRecDepth 20000 in
theorem w_X6_needs_107 {p : Program} {l : Launch} {e : Env} {s : State} {m : MethodId} {args : Array Value} {below : List Frame} {meth : Method} {c : Code} {E : XE} (N : Nat) (hG : GG E NT 5 RX6 cX6_needs p s m args c) (hr : meth.sig.returnType = (some .int)) (hk : meth.locks = false)  (v3 : Int32) (s0 : Int32) (b1 : Nat) (hb1 : okO 6 b1 = true) (σ : Mm) : JR E NT 5 p l e rm_X6_needs s m args below meth c 0 0 (fun r => MQ below (xQi E (NT + 0) r) args s 0 0 (xA E)) 107 [(3, .int v3)] [.int s0, .ref (E.B + b1)] σ (f_X6_needs_107 N v3 s0 b1 σ) := by
  show JR E NT 5 p l e rm_X6_needs s m args below meth c 0 0 (fun r => MQ below (xQi E (NT + 0) r) args s 0 0 (xA E)) 107 [(3, .int v3)] [.int s0, .ref (E.B + b1)] σ (bI (f_X6_gives N b1 s0 v3 (σ)) (fun r19 t18 => some (r19, t18)))
  refine jr_iload_n hG 0 dX6_needs_107 rfl rfl ?_
  refine jr_callVi (As := [.int s0, .int v3]) hG (c_X6_gives l E N b1 s0 v3 (σ)) ci_X6_gives wd_881 ⟨wd_883, wd_23⟩ cl_6 (okO_s hb1) (okO_l hb1) ⟨rfl, rfl, Nat.le_of_ble_eq_true rfl, Nat.le_of_ble_eq_true rfl⟩ rfl rfl (Nat.le_of_ble_eq_true rfl) dX6_needs_108 ⟨Nat.le_refl _, Nat.le_refl _⟩ (fun r19 t18 => ?_)
  exact jr_iret hG hr hk dX6_needs_111
def f_X6_needs_77 (N : Nat) (K24 : Nat → Int32 → Int32 → Int32 → Int32 → Mm → Option (Int32 × Mm)) (a0 : Nat) (v1 : Int32) (v2 : Int32) (v4 : Int32) (s0 : Int32) (s1 : Int32) (σ : Mm) : Option (Int32 × Mm) := lt (s1 ||| s0) (fun x17 => K24 a0 v1 v2 x17 (v4 + (1 : Int32)) (σ))
set_option maxRecDepth 20000 in
theorem w_X6_needs_77 {p : Program} {l : Launch} {e : Env} {s : State} {m : MethodId} {args : Array Value} {below : List Frame} {meth : Method} {c : Code} {E : XE} (N : Nat) (hG : GG E NT 5 RX6 cX6_needs p s m args c) (hr : meth.sig.returnType = (some .int)) (hk : meth.locks = false) {K24 : Nat → Int32 → Int32 → Int32 → Int32 → Mm → Option (Int32 × Mm)} (hK24 : ∀ (a0 : Nat) (v1 : Int32) (v2 : Int32) (v3 : Int32) (v4 : Int32) (ha0 : okO 6 a0 = true) (σ : Mm), JR E NT 5 p l e rm_X6_needs s m args below meth c 0 0 (fun r => MQ below (xQi E (NT + 0) r) args s 0 0 (xA E)) 24 [(0, .ref (E.B + a0)), (1, .int v1), (2, .int v2), (3, .int v3), (4, .int v4)] [] σ (K24 a0 v1 v2 v3 v4 σ)) (a0 : Nat) (v1 : Int32) (v2 : Int32) (v4 : Int32) (s0 : Int32) (s1 : Int32) (ha0 : okO 6 a0 = true) (σ : Mm) : JR E NT 5 p l e rm_X6_needs s m args below meth c 0 0 (fun r => MQ below (xQi E (NT + 0) r) args s 0 0 (xA E)) 77 [(0, .ref (E.B + a0)), (1, .int v1), (2, .int v2), (4, .int v4)] [.int s0, .int s1] σ (f_X6_needs_77 N K24 a0 v1 v2 v4 s0 s1 σ) := by
  show JR E NT 5 p l e rm_X6_needs s m args below meth c 0 0 (fun r => MQ below (xQi E (NT + 0) r) args s 0 0 (xA E)) 77 [(0, .ref (E.B + a0)), (1, .int v1), (2, .int v2), (4, .int v4)] [.int s0, .int s1] σ (lt (s1 ||| s0) (fun x17 => K24 a0 v1 v2 x17 (v4 + (1 : Int32)) (σ)))
  refine jr_ior hG dX6_needs_77 ?_
  refine jr_leti (fun x17 _ => ?_)
  refine jr_istore_n (lv' := [(3, .int x17), (0, .ref (E.B + a0)), (1, .int v1), (2, .int v2), (4, .int v4)]) hG dX6_needs_78 rfl (by decide) rfl ?_
  refine jr_iinc (v := v4 + (1 : Int32)) (lv' := [(4, .int (v4 + (1 : Int32))), (3, .int x17), (0, .ref (E.B + a0)), (1, .int v1), (2, .int v2)]) hG 4 dX6_needs_79 rfl rfl (by decide) rfl ?_
  refine jr_goto hG 24 dX6_needs_82 (by decide) ?_
  refine jr_sub (lv' := [(0, .ref (E.B + a0)), (1, .int v1), (2, .int v2), (3, .int x17), (4, .int (v4 + (1 : Int32)))]) [2, 3, 4, 1, 0] rfl ?_
  exact hK24 a0 v1 v2 x17 (v4 + (1 : Int32)) ha0 (σ)
def f_X6_needs_76 (N : Nat) (K24 : Nat → Int32 → Int32 → Int32 → Int32 → Mm → Option (Int32 × Mm)) (a0 : Nat) (v1 : Int32) (v2 : Int32) (v4 : Int32) (s0 : Int32) (σ : Mm) : Option (Int32 × Mm) := f_X6_needs_77 N K24 a0 v1 v2 v4 (0 : Int32) s0 (σ)
set_option maxRecDepth 20000 in
theorem w_X6_needs_76 {p : Program} {l : Launch} {e : Env} {s : State} {m : MethodId} {args : Array Value} {below : List Frame} {meth : Method} {c : Code} {E : XE} (N : Nat) (hG : GG E NT 5 RX6 cX6_needs p s m args c) (hr : meth.sig.returnType = (some .int)) (hk : meth.locks = false) {K24 : Nat → Int32 → Int32 → Int32 → Int32 → Mm → Option (Int32 × Mm)} (hK24 : ∀ (a0 : Nat) (v1 : Int32) (v2 : Int32) (v3 : Int32) (v4 : Int32) (ha0 : okO 6 a0 = true) (σ : Mm), JR E NT 5 p l e rm_X6_needs s m args below meth c 0 0 (fun r => MQ below (xQi E (NT + 0) r) args s 0 0 (xA E)) 24 [(0, .ref (E.B + a0)), (1, .int v1), (2, .int v2), (3, .int v3), (4, .int v4)] [] σ (K24 a0 v1 v2 v3 v4 σ)) (a0 : Nat) (v1 : Int32) (v2 : Int32) (v4 : Int32) (s0 : Int32) (ha0 : okO 6 a0 = true) (σ : Mm) : JR E NT 5 p l e rm_X6_needs s m args below meth c 0 0 (fun r => MQ below (xQi E (NT + 0) r) args s 0 0 (xA E)) 76 [(0, .ref (E.B + a0)), (1, .int v1), (2, .int v2), (4, .int v4)] [.int s0] σ (f_X6_needs_76 N K24 a0 v1 v2 v4 s0 σ) := by
  show JR E NT 5 p l e rm_X6_needs s m args below meth c 0 0 (fun r => MQ below (xQi E (NT + 0) r) args s 0 0 (xA E)) 76 [(0, .ref (E.B + a0)), (1, .int v1), (2, .int v2), (4, .int v4)] [.int s0] σ (f_X6_needs_77 N K24 a0 v1 v2 v4 (0 : Int32) s0 (σ))
  refine jr_iconst (v := (0 : Int32)) hG dX6_needs_76 (by decide) ?_
  exact w_X6_needs_77 N hG hr hk hK24 a0 v1 v2 v4 (0 : Int32) s0 ha0 (σ)
def f_X6_needs_24 (N : Nat)  : Nat → Nat → Int32 → Int32 → Int32 → Int32 → Mm → Option (Int32 × Mm)
  | 0 => fun _ _ _ _ _ _ => none
  | n + 1 => fun a0 v1 v2 v3 v4 σ => if (gi σ a0 10) ≤ v4 then (bI (f_X6_everybody N a0 (σ)) (fun r6 t5 => bI (f_X6_reaches N a0 v1 r6 t5) (fun r8 t7 => bI (f_X6_has N r8 v2 t7) (fun r10 t9 => if r10 = 0 then (f_X6_needs_107 N v3 (0 : Int32) a0 t9) else (f_X6_needs_107 N v3 (1 : Int32) a0 t9))))) else (if v4 = v1 then (f_X6_needs_76 N (f_X6_needs_24 N n) a0 v1 v2 v4 v3 (σ)) else (if v4 = v2 then (f_X6_needs_76 N (f_X6_needs_24 N n) a0 v1 v2 v4 v3 (σ)) else (bI (f_X6_everybody N a0 (σ)) (fun r12 t11 => bI (f_X6_reaches N a0 v1 (r12 &&& (((1 : Int32) <<< (v4 &&& 31)) ^^^ (-1 : Int32))) t11) (fun r14 t13 => bI (f_X6_has N r14 v2 t13) (fun r16 t15 => if r16 = 0 then (f_X6_needs_77 N (f_X6_needs_24 N n) a0 v1 v2 v4 ((1 : Int32) <<< (v4 &&& 31)) v3 t15) else (f_X6_needs_76 N (f_X6_needs_24 N n) a0 v1 v2 v4 v3 t15)))))))
set_option maxRecDepth 20000 in
theorem w_X6_needs_24 {p : Program} {l : Launch} {e : Env} {s : State} {m : MethodId} {args : Array Value} {below : List Frame} {meth : Method} {c : Code} {E : XE} (N : Nat) (hG : GG E NT 5 RX6 cX6_needs p s m args c) (hr : meth.sig.returnType = (some .int)) (hk : meth.locks = false)  : ∀ (n : Nat) (a0 : Nat) (v1 : Int32) (v2 : Int32) (v3 : Int32) (v4 : Int32) (ha0 : okO 6 a0 = true) (σ : Mm), JR E NT 5 p l e rm_X6_needs s m args below meth c 0 0 (fun r => MQ below (xQi E (NT + 0) r) args s 0 0 (xA E)) 24 [(0, .ref (E.B + a0)), (1, .int v1), (2, .int v2), (3, .int v3), (4, .int v4)] [] σ (f_X6_needs_24 N n a0 v1 v2 v3 v4 σ) := by
  intro n
  induction n with
  | zero => intro a0 v1 v2 v3 v4 ha0 σ r hX; cases hX
  | succ n ih =>
    intro a0 v1 v2 v3 v4 ha0 σ
    show JR E NT 5 p l e rm_X6_needs s m args below meth c 0 0 (fun r => MQ below (xQi E (NT + 0) r) args s 0 0 (xA E)) 24 [(0, .ref (E.B + a0)), (1, .int v1), (2, .int v2), (3, .int v3), (4, .int v4)] [] σ (if (gi σ a0 10) ≤ v4 then (bI (f_X6_everybody N a0 (σ)) (fun r6 t5 => bI (f_X6_reaches N a0 v1 r6 t5) (fun r8 t7 => bI (f_X6_has N r8 v2 t7) (fun r10 t9 => if r10 = 0 then (f_X6_needs_107 N v3 (0 : Int32) a0 t9) else (f_X6_needs_107 N v3 (1 : Int32) a0 t9))))) else (if v4 = v1 then (f_X6_needs_76 N (f_X6_needs_24 N n) a0 v1 v2 v4 v3 (σ)) else (if v4 = v2 then (f_X6_needs_76 N (f_X6_needs_24 N n) a0 v1 v2 v4 v3 (σ)) else (bI (f_X6_everybody N a0 (σ)) (fun r12 t11 => bI (f_X6_reaches N a0 v1 (r12 &&& (((1 : Int32) <<< (v4 &&& 31)) ^^^ (-1 : Int32))) t11) (fun r14 t13 => bI (f_X6_has N r14 v2 t13) (fun r16 t15 => if r16 = 0 then (f_X6_needs_77 N (f_X6_needs_24 N n) a0 v1 v2 v4 ((1 : Int32) <<< (v4 &&& 31)) v3 t15) else (f_X6_needs_76 N (f_X6_needs_24 N n) a0 v1 v2 v4 v3 t15))))))))
    refine jr_iload hG 4 dX6_needs_24 rfl ?_
    refine jr_aload_n hG 0 dX6_needs_26 rfl rfl ?_
    refine jr_getI hG fi_RX6_147 rfl (okO_s ha0) (okO_l ha0) dX6_needs_27 ?_
    refine jr_icmp_ge hG 85 dX6_needs_30 (by decide) (fun _ => ?_) (fun _ => ?_)
    · refine jr_aload_n hG 0 dX6_needs_85 rfl rfl ?_
      refine jr_aload_n hG 0 dX6_needs_86 rfl rfl ?_
      refine jr_iload_n hG 1 dX6_needs_87 rfl rfl ?_
      refine jr_aload_n hG 0 dX6_needs_88 rfl rfl ?_
      refine jr_callVi (As := []) hG (c_X6_everybody l E N a0 (σ)) ci_X6_everybody wd_1064 ⟨wd_1066, wd_46⟩ cl_6 (okO_s ha0) (okO_l ha0) ⟨rfl, rfl, Nat.le_of_ble_eq_true rfl, Nat.le_of_ble_eq_true rfl⟩ rfl rfl (Nat.le_of_ble_eq_true rfl) dX6_needs_89 ⟨Nat.le_refl _, Nat.le_refl _⟩ (fun r6 t5 => ?_)
      refine jr_callVi (As := [.int v1, .int r6]) hG (c_X6_reaches l E N a0 v1 r6 t5) ci_X6_reaches wd_1068 ⟨wd_1070, wd_47⟩ cl_6 (okO_s ha0) (okO_l ha0) ⟨rfl, rfl, Nat.le_of_ble_eq_true rfl, Nat.le_of_ble_eq_true rfl⟩ rfl rfl (Nat.le_of_ble_eq_true rfl) dX6_needs_92 ⟨Nat.le_refl _, Nat.le_refl _⟩ (fun r8 t7 => ?_)
      refine jr_iload_n hG 2 dX6_needs_95 rfl rfl ?_
      refine jr_callSi (As := [.int r8, .int v2]) hG (c_X6_has l E N r8 v2 t7) ci_X6_has wd_932 wd_933 ⟨rfl, rfl, Nat.le_of_ble_eq_true rfl, Nat.le_of_ble_eq_true rfl⟩ rfl rfl (Nat.le_of_ble_eq_true rfl) dX6_needs_96 ⟨Nat.le_refl _, Nat.le_refl _⟩ (fun r10 t9 => ?_)
      refine jr_if_eq hG 106 dX6_needs_99 (by decide) (fun _ => ?_) (fun _ => ?_)
      · refine jr_iconst (v := (0 : Int32)) hG dX6_needs_106 (by decide) ?_
        refine jr_sub (lv' := [(3, .int v3)]) [3] rfl ?_
        exact w_X6_needs_107 N hG hr hk v3 (0 : Int32) a0 ha0 t9
      · refine jr_iconst (v := (1 : Int32)) hG dX6_needs_102 (by decide) ?_
        refine jr_goto hG 107 dX6_needs_103 (by decide) ?_
        refine jr_sub (lv' := [(3, .int v3)]) [3] rfl ?_
        exact w_X6_needs_107 N hG hr hk v3 (1 : Int32) a0 ha0 t9
    · refine jr_iload_n hG 3 dX6_needs_33 rfl rfl ?_
      refine jr_iload hG 4 dX6_needs_34 rfl ?_
      refine jr_iload_n hG 1 dX6_needs_36 rfl rfl ?_
      refine jr_icmp_eq hG 76 dX6_needs_37 (by decide) (fun _ => ?_) (fun _ => ?_)
      · refine jr_sub (lv' := [(0, .ref (E.B + a0)), (1, .int v1), (2, .int v2), (4, .int v4)]) [0, 1, 2, 4] rfl ?_
        exact w_X6_needs_76 N hG hr hk ih a0 v1 v2 v4 v3 ha0 (σ)
      · refine jr_iload hG 4 dX6_needs_40 rfl ?_
        refine jr_iload_n hG 2 dX6_needs_42 rfl rfl ?_
        refine jr_icmp_eq hG 76 dX6_needs_43 (by decide) (fun _ => ?_) (fun _ => ?_)
        · refine jr_sub (lv' := [(0, .ref (E.B + a0)), (1, .int v1), (2, .int v2), (4, .int v4)]) [0, 1, 2, 4] rfl ?_
          exact w_X6_needs_76 N hG hr hk ih a0 v1 v2 v4 v3 ha0 (σ)
        · refine jr_aload_n hG 0 dX6_needs_46 rfl rfl ?_
          refine jr_iload_n hG 1 dX6_needs_47 rfl rfl ?_
          refine jr_aload_n hG 0 dX6_needs_48 rfl rfl ?_
          refine jr_callVi (As := []) hG (c_X6_everybody l E N a0 (σ)) ci_X6_everybody wd_1064 ⟨wd_1066, wd_46⟩ cl_6 (okO_s ha0) (okO_l ha0) ⟨rfl, rfl, Nat.le_of_ble_eq_true rfl, Nat.le_of_ble_eq_true rfl⟩ rfl rfl (Nat.le_of_ble_eq_true rfl) dX6_needs_49 ⟨Nat.le_refl _, Nat.le_refl _⟩ (fun r12 t11 => ?_)
          refine jr_iconst (v := (1 : Int32)) hG dX6_needs_52 (by decide) ?_
          refine jr_iload hG 4 dX6_needs_53 rfl ?_
          refine jr_ishl hG dX6_needs_55 ?_
          refine jr_iconst (v := (-1 : Int32)) hG dX6_needs_56 (by decide) ?_
          refine jr_ixor hG dX6_needs_57 ?_
          refine jr_iand hG dX6_needs_58 ?_
          refine jr_callVi (As := [.int v1, .int (r12 &&& (((1 : Int32) <<< (v4 &&& 31)) ^^^ (-1 : Int32)))]) hG (c_X6_reaches l E N a0 v1 (r12 &&& (((1 : Int32) <<< (v4 &&& 31)) ^^^ (-1 : Int32))) t11) ci_X6_reaches wd_1068 ⟨wd_1070, wd_47⟩ cl_6 (okO_s ha0) (okO_l ha0) ⟨rfl, rfl, Nat.le_of_ble_eq_true rfl, Nat.le_of_ble_eq_true rfl⟩ rfl rfl (Nat.le_of_ble_eq_true rfl) dX6_needs_59 ⟨Nat.le_refl _, Nat.le_refl _⟩ (fun r14 t13 => ?_)
          refine jr_iload_n hG 2 dX6_needs_62 rfl rfl ?_
          refine jr_callSi (As := [.int r14, .int v2]) hG (c_X6_has l E N r14 v2 t13) ci_X6_has wd_932 wd_933 ⟨rfl, rfl, Nat.le_of_ble_eq_true rfl, Nat.le_of_ble_eq_true rfl⟩ rfl rfl (Nat.le_of_ble_eq_true rfl) dX6_needs_63 ⟨Nat.le_refl _, Nat.le_refl _⟩ (fun r16 t15 => ?_)
          refine jr_if_ne hG 76 dX6_needs_66 (by decide) (fun _ => ?_) (fun _ => ?_)
          · refine jr_sub (lv' := [(0, .ref (E.B + a0)), (1, .int v1), (2, .int v2), (4, .int v4)]) [0, 1, 2, 4] rfl ?_
            exact w_X6_needs_76 N hG hr hk ih a0 v1 v2 v4 v3 ha0 t15
          · refine jr_iconst (v := (1 : Int32)) hG dX6_needs_69 (by decide) ?_
            refine jr_iload hG 4 dX6_needs_70 rfl ?_
            refine jr_ishl hG dX6_needs_72 ?_
            refine jr_goto hG 77 dX6_needs_73 (by decide) ?_
            refine jr_sub (lv' := [(0, .ref (E.B + a0)), (1, .int v1), (2, .int v2), (4, .int v4)]) [0, 1, 2, 4] rfl ?_
            exact w_X6_needs_77 N hG hr hk ih a0 v1 v2 v4 ((1 : Int32) <<< (v4 &&& 31)) v3 ha0 t15
def f_X6_needs (N : Nat) (a0 : Nat) (v1 : Int32) (v2 : Int32) (σ : Mm) : Option (Int32 × Mm) := if okO 6 a0 then (bI (f_X6_areTwo N a0 v1 v2 (σ)) (fun r2 t1 => if r2 = 0 then (some ((-1 : Int32), t1)) else (bR (gr t1 a0 19) (okA 0) (fun o3 => bV (f_X6_layTells N a0 o3 t1) (fun t4 => f_X6_needs_24 N N a0 v1 v2 (0 : Int32) (0 : Int32) t4))))) else none
set_option maxRecDepth 20000 in
theorem c_X6_needs (l : Launch) (E : XE) (N : Nat) (a0 : Nat) (v1 : Int32) (v2 : Int32) (σ : Mm) : ∀ r0, f_X6_needs N a0 v1 v2 σ = some r0 → Met l yX6_needs [Cond.code yX6_needs cX6_needs 5 (some .int)] rm_X6_needs (xPc E (NT + 0) σ [.ref (E.B + a0), .int v1, .int v2]) (xQi E (NT + 0) r0) 0 0 (xA E) := by
  refine met_of (N0 := NT) (by decide +kernel) (Nat.le_of_ble_eq_true rfl) ?_
  intro p e s m args below meth c hG hr hk _
  show JR E NT 5 p l e rm_X6_needs s m args below meth c 0 0 (fun r => MQ below (xQi E (NT + 0) r) args s 0 0 (xA E)) 0 [(0, .ref (E.B + a0)), (1, .int v1), (2, .int v2)] [] σ (if okO 6 a0 then (bI (f_X6_areTwo N a0 v1 v2 (σ)) (fun r2 t1 => if r2 = 0 then (some ((-1 : Int32), t1)) else (bR (gr t1 a0 19) (okA 0) (fun o3 => bV (f_X6_layTells N a0 o3 t1) (fun t4 => f_X6_needs_24 N N a0 v1 v2 (0 : Int32) (0 : Int32) t4))))) else none)
  refine jr_guard (fun ha0 => ?_)
  refine jr_aload_n hG 0 dX6_needs_0 rfl rfl ?_
  refine jr_iload_n hG 1 dX6_needs_1 rfl rfl ?_
  refine jr_iload_n hG 2 dX6_needs_2 rfl rfl ?_
  refine jr_callVi (As := [.int v1, .int v2]) hG (c_X6_areTwo l E N a0 v1 v2 (σ)) ci_X6_areTwo wd_1020 ⟨wd_1022, wd_41⟩ cl_6 (okO_s ha0) (okO_l ha0) ⟨rfl, rfl, Nat.le_of_ble_eq_true rfl, Nat.le_of_ble_eq_true rfl⟩ rfl rfl (Nat.le_of_ble_eq_true rfl) dX6_needs_3 ⟨Nat.le_refl _, Nat.le_refl _⟩ (fun r2 t1 => ?_)
  refine jr_if_ne hG 11 dX6_needs_6 (by decide) (fun _ => ?_) (fun _ => ?_)
  · refine jr_aload_n hG 0 dX6_needs_11 rfl rfl ?_
    refine jr_aload_n hG 0 dX6_needs_12 rfl rfl ?_
    refine jr_getR hG fi_RX6_48 rfl (okO_s ha0) (okO_l ha0) dX6_needs_13 (fun o3 ho3 => ?_)
    refine jr_callVv (As := [.ref (E.B + o3)]) hG (c_X6_layTells l E N a0 o3 t1) ci_X6_layTells wd_1048 ⟨wd_1050, wd_43⟩ cl_6 (okO_s ha0) (okO_l ha0) ⟨rfl, rfl, Nat.le_of_ble_eq_true rfl, Nat.le_of_ble_eq_true rfl⟩ rfl rfl (Nat.le_of_ble_eq_true rfl) dX6_needs_16 ⟨Nat.le_refl _, Nat.le_refl _⟩ (fun t4 => ?_)
    refine jr_iconst (v := (0 : Int32)) hG dX6_needs_19 (by decide) ?_
    refine jr_istore_n (lv' := [(3, .int (0 : Int32)), (0, .ref (E.B + a0)), (1, .int v1), (2, .int v2)]) hG dX6_needs_20 rfl (by decide) rfl ?_
    refine jr_iconst (v := (0 : Int32)) hG dX6_needs_21 (by decide) ?_
    refine jr_istore (lv' := [(4, .int (0 : Int32)), (3, .int (0 : Int32)), (0, .ref (E.B + a0)), (1, .int v1), (2, .int v2)]) hG dX6_needs_22 (by decide) rfl ?_
    refine jr_sub (lv' := [(0, .ref (E.B + a0)), (1, .int v1), (2, .int v2), (3, .int (0 : Int32)), (4, .int (0 : Int32))]) [2, 3, 4, 1, 0] rfl ?_
    exact w_X6_needs_24 N hG hr hk N a0 v1 v2 (0 : Int32) (0 : Int32) ha0 t4
  · refine jr_iconst (v := (-1 : Int32)) hG dX6_needs_9 (by decide) ?_
    exact jr_iret hG hr hk dX6_needs_10
-- TonguesDealtModel.isCrew(I)Z
abbrev rm_X6_isCrew : Room := { frames := 1, cells := 0, slots := 0, locals := 21 }
theorem ci_X6_isCrew : CIx yX6_isCrew cX6_isCrew 4 (some .boolean) 1 := ⟨wd_1079, wd_77, by decide +kernel⟩
def f_X6_isCrew_48 (N : Nat) (K4 : Nat → Int32 → Int32 → Int32 → Mm → Option (Int32 × Mm)) (a0 : Nat) (v1 : Int32) (v3 : Int32) (s0 : Int32) (σ : Mm) : Option (Int32 × Mm) := K4 a0 v1 s0 (v3 + (1 : Int32)) (σ)
set_option maxRecDepth 20000 in
theorem w_X6_isCrew_48 {p : Program} {l : Launch} {e : Env} {s : State} {m : MethodId} {args : Array Value} {below : List Frame} {meth : Method} {c : Code} {E : XE} (N : Nat) (hG : GG E NT 4 RX6 cX6_isCrew p s m args c) (hr : meth.sig.returnType = (some .boolean)) (hk : meth.locks = false) {K4 : Nat → Int32 → Int32 → Int32 → Mm → Option (Int32 × Mm)} (hK4 : ∀ (a0 : Nat) (v1 : Int32) (v2 : Int32) (v3 : Int32) (ha0 : okO 6 a0 = true) (σ : Mm), JR E NT 4 p l e rm_X6_isCrew s m args below meth c 0 0 (fun r => MQ below (xQi E (NT + 0) r) args s 0 0 (xA E)) 4 [(0, .ref (E.B + a0)), (1, .int v1), (2, .int v2), (3, .int v3)] [] σ (K4 a0 v1 v2 v3 σ)) (a0 : Nat) (v1 : Int32) (v3 : Int32) (s0 : Int32) (ha0 : okO 6 a0 = true) (σ : Mm) : JR E NT 4 p l e rm_X6_isCrew s m args below meth c 0 0 (fun r => MQ below (xQi E (NT + 0) r) args s 0 0 (xA E)) 48 [(0, .ref (E.B + a0)), (1, .int v1), (3, .int v3)] [.int s0] σ (f_X6_isCrew_48 N K4 a0 v1 v3 s0 σ) := by
  show JR E NT 4 p l e rm_X6_isCrew s m args below meth c 0 0 (fun r => MQ below (xQi E (NT + 0) r) args s 0 0 (xA E)) 48 [(0, .ref (E.B + a0)), (1, .int v1), (3, .int v3)] [.int s0] σ (K4 a0 v1 s0 (v3 + (1 : Int32)) (σ))
  refine jr_istore_n (lv' := [(2, .int s0), (0, .ref (E.B + a0)), (1, .int v1), (3, .int v3)]) hG dX6_isCrew_48 rfl (by decide) rfl ?_
  refine jr_iinc (v := v3 + (1 : Int32)) (lv' := [(3, .int (v3 + (1 : Int32))), (2, .int s0), (0, .ref (E.B + a0)), (1, .int v1)]) hG 3 dX6_isCrew_49 rfl rfl (by decide) rfl ?_
  refine jr_goto hG 4 dX6_isCrew_52 (by decide) ?_
  refine jr_sub (lv' := [(0, .ref (E.B + a0)), (1, .int v1), (2, .int s0), (3, .int (v3 + (1 : Int32)))]) [2, 3, 1, 0] rfl ?_
  exact hK4 a0 v1 s0 (v3 + (1 : Int32)) ha0 (σ)
def f_X6_isCrew_47 (N : Nat) (K4 : Nat → Int32 → Int32 → Int32 → Mm → Option (Int32 × Mm)) (a0 : Nat) (v1 : Int32) (v3 : Int32) (σ : Mm) : Option (Int32 × Mm) := f_X6_isCrew_48 N K4 a0 v1 v3 (0 : Int32) (σ)
set_option maxRecDepth 20000 in
theorem w_X6_isCrew_47 {p : Program} {l : Launch} {e : Env} {s : State} {m : MethodId} {args : Array Value} {below : List Frame} {meth : Method} {c : Code} {E : XE} (N : Nat) (hG : GG E NT 4 RX6 cX6_isCrew p s m args c) (hr : meth.sig.returnType = (some .boolean)) (hk : meth.locks = false) {K4 : Nat → Int32 → Int32 → Int32 → Mm → Option (Int32 × Mm)} (hK4 : ∀ (a0 : Nat) (v1 : Int32) (v2 : Int32) (v3 : Int32) (ha0 : okO 6 a0 = true) (σ : Mm), JR E NT 4 p l e rm_X6_isCrew s m args below meth c 0 0 (fun r => MQ below (xQi E (NT + 0) r) args s 0 0 (xA E)) 4 [(0, .ref (E.B + a0)), (1, .int v1), (2, .int v2), (3, .int v3)] [] σ (K4 a0 v1 v2 v3 σ)) (a0 : Nat) (v1 : Int32) (v3 : Int32) (ha0 : okO 6 a0 = true) (σ : Mm) : JR E NT 4 p l e rm_X6_isCrew s m args below meth c 0 0 (fun r => MQ below (xQi E (NT + 0) r) args s 0 0 (xA E)) 47 [(0, .ref (E.B + a0)), (1, .int v1), (3, .int v3)] [] σ (f_X6_isCrew_47 N K4 a0 v1 v3 σ) := by
  show JR E NT 4 p l e rm_X6_isCrew s m args below meth c 0 0 (fun r => MQ below (xQi E (NT + 0) r) args s 0 0 (xA E)) 47 [(0, .ref (E.B + a0)), (1, .int v1), (3, .int v3)] [] σ (f_X6_isCrew_48 N K4 a0 v1 v3 (0 : Int32) (σ))
  refine jr_iconst (v := (0 : Int32)) hG dX6_isCrew_47 (by decide) ?_
  exact w_X6_isCrew_48 N hG hr hk hK4 a0 v1 v3 (0 : Int32) ha0 (σ)
def f_X6_isCrew_43 (N : Nat) (K4 : Nat → Int32 → Int32 → Int32 → Mm → Option (Int32 × Mm)) (a0 : Nat) (v1 : Int32) (v3 : Int32) (σ : Mm) : Option (Int32 × Mm) := f_X6_isCrew_48 N K4 a0 v1 v3 (1 : Int32) (σ)
set_option maxRecDepth 20000 in
theorem w_X6_isCrew_43 {p : Program} {l : Launch} {e : Env} {s : State} {m : MethodId} {args : Array Value} {below : List Frame} {meth : Method} {c : Code} {E : XE} (N : Nat) (hG : GG E NT 4 RX6 cX6_isCrew p s m args c) (hr : meth.sig.returnType = (some .boolean)) (hk : meth.locks = false) {K4 : Nat → Int32 → Int32 → Int32 → Mm → Option (Int32 × Mm)} (hK4 : ∀ (a0 : Nat) (v1 : Int32) (v2 : Int32) (v3 : Int32) (ha0 : okO 6 a0 = true) (σ : Mm), JR E NT 4 p l e rm_X6_isCrew s m args below meth c 0 0 (fun r => MQ below (xQi E (NT + 0) r) args s 0 0 (xA E)) 4 [(0, .ref (E.B + a0)), (1, .int v1), (2, .int v2), (3, .int v3)] [] σ (K4 a0 v1 v2 v3 σ)) (a0 : Nat) (v1 : Int32) (v3 : Int32) (ha0 : okO 6 a0 = true) (σ : Mm) : JR E NT 4 p l e rm_X6_isCrew s m args below meth c 0 0 (fun r => MQ below (xQi E (NT + 0) r) args s 0 0 (xA E)) 43 [(0, .ref (E.B + a0)), (1, .int v1), (3, .int v3)] [] σ (f_X6_isCrew_43 N K4 a0 v1 v3 σ) := by
  show JR E NT 4 p l e rm_X6_isCrew s m args below meth c 0 0 (fun r => MQ below (xQi E (NT + 0) r) args s 0 0 (xA E)) 43 [(0, .ref (E.B + a0)), (1, .int v1), (3, .int v3)] [] σ (f_X6_isCrew_48 N K4 a0 v1 v3 (1 : Int32) (σ))
  refine jr_iconst (v := (1 : Int32)) hG dX6_isCrew_43 (by decide) ?_
  refine jr_goto hG 48 dX6_isCrew_44 (by decide) ?_
  exact w_X6_isCrew_48 N hG hr hk hK4 a0 v1 v3 (1 : Int32) ha0 (σ)
def f_X6_isCrew_4 (N : Nat)  : Nat → Nat → Int32 → Int32 → Int32 → Mm → Option (Int32 × Mm)
  | 0 => fun _ _ _ _ _ => none
  | n + 1 => fun a0 v1 v2 v3 σ => if (gi σ a0 10) ≤ v3 then (if bz v2 then some (v2, σ) else none) else (if v2 = 0 then (f_X6_isCrew_47 N (f_X6_isCrew_4 N n) a0 v1 v3 (σ)) else (bI (f_X6_has N v1 v3 (σ)) (fun r2 t1 => if r2 = 0 then (f_X6_isCrew_43 N (f_X6_isCrew_4 N n) a0 v1 v3 t1) else (bR (gr t1 a0 21) (okA 0) (fun o3 => if inb v3 (arL o3) then (if ((v1 &&& (((1 : Int32) <<< (v3 &&& 31)) ^^^ (-1 : Int32))) &&& ((gi t1 o3 (ix v3)) ^^^ (-1 : Int32))) = 0 then (f_X6_isCrew_43 N (f_X6_isCrew_4 N n) a0 v1 v3 t1) else (f_X6_isCrew_47 N (f_X6_isCrew_4 N n) a0 v1 v3 t1)) else none)))))
set_option maxRecDepth 20000 in
theorem w_X6_isCrew_4 {p : Program} {l : Launch} {e : Env} {s : State} {m : MethodId} {args : Array Value} {below : List Frame} {meth : Method} {c : Code} {E : XE} (N : Nat) (hG : GG E NT 4 RX6 cX6_isCrew p s m args c) (hr : meth.sig.returnType = (some .boolean)) (hk : meth.locks = false)  : ∀ (n : Nat) (a0 : Nat) (v1 : Int32) (v2 : Int32) (v3 : Int32) (ha0 : okO 6 a0 = true) (σ : Mm), JR E NT 4 p l e rm_X6_isCrew s m args below meth c 0 0 (fun r => MQ below (xQi E (NT + 0) r) args s 0 0 (xA E)) 4 [(0, .ref (E.B + a0)), (1, .int v1), (2, .int v2), (3, .int v3)] [] σ (f_X6_isCrew_4 N n a0 v1 v2 v3 σ) := by
  intro n
  induction n with
  | zero => intro a0 v1 v2 v3 ha0 σ r hX; cases hX
  | succ n ih =>
    intro a0 v1 v2 v3 ha0 σ
    show JR E NT 4 p l e rm_X6_isCrew s m args below meth c 0 0 (fun r => MQ below (xQi E (NT + 0) r) args s 0 0 (xA E)) 4 [(0, .ref (E.B + a0)), (1, .int v1), (2, .int v2), (3, .int v3)] [] σ (if (gi σ a0 10) ≤ v3 then (if bz v2 then some (v2, σ) else none) else (if v2 = 0 then (f_X6_isCrew_47 N (f_X6_isCrew_4 N n) a0 v1 v3 (σ)) else (bI (f_X6_has N v1 v3 (σ)) (fun r2 t1 => if r2 = 0 then (f_X6_isCrew_43 N (f_X6_isCrew_4 N n) a0 v1 v3 t1) else (bR (gr t1 a0 21) (okA 0) (fun o3 => if inb v3 (arL o3) then (if ((v1 &&& (((1 : Int32) <<< (v3 &&& 31)) ^^^ (-1 : Int32))) &&& ((gi t1 o3 (ix v3)) ^^^ (-1 : Int32))) = 0 then (f_X6_isCrew_43 N (f_X6_isCrew_4 N n) a0 v1 v3 t1) else (f_X6_isCrew_47 N (f_X6_isCrew_4 N n) a0 v1 v3 t1)) else none))))))
    refine jr_iload_n hG 3 dX6_isCrew_4 rfl rfl ?_
    refine jr_aload_n hG 0 dX6_isCrew_5 rfl rfl ?_
    refine jr_getI hG fi_RX6_147 rfl (okO_s ha0) (okO_l ha0) dX6_isCrew_6 ?_
    refine jr_icmp_ge hG 55 dX6_isCrew_9 (by decide) (fun _ => ?_) (fun _ => ?_)
    · refine jr_iload_n hG 2 dX6_isCrew_55 rfl rfl ?_
      refine jr_guard (fun hz => ?_)
      exact jr_zret hG hr hk hz dX6_isCrew_56
    · refine jr_iload_n hG 2 dX6_isCrew_12 rfl rfl ?_
      refine jr_if_eq hG 47 dX6_isCrew_13 (by decide) (fun _ => ?_) (fun _ => ?_)
      · refine jr_sub (lv' := [(0, .ref (E.B + a0)), (1, .int v1), (3, .int v3)]) [0, 1, 3] rfl ?_
        exact w_X6_isCrew_47 N hG hr hk ih a0 v1 v3 ha0 (σ)
      · refine jr_iload_n hG 1 dX6_isCrew_16 rfl rfl ?_
        refine jr_iload_n hG 3 dX6_isCrew_17 rfl rfl ?_
        refine jr_callSi (As := [.int v1, .int v3]) hG (c_X6_has l E N v1 v3 (σ)) ci_X6_has wd_932 wd_933 ⟨rfl, rfl, Nat.le_of_ble_eq_true rfl, Nat.le_of_ble_eq_true rfl⟩ rfl rfl (Nat.le_of_ble_eq_true rfl) dX6_isCrew_18 ⟨Nat.le_refl _, Nat.le_refl _⟩ (fun r2 t1 => ?_)
        refine jr_if_eq hG 43 dX6_isCrew_21 (by decide) (fun _ => ?_) (fun _ => ?_)
        · refine jr_sub (lv' := [(0, .ref (E.B + a0)), (1, .int v1), (3, .int v3)]) [0, 1, 3] rfl ?_
          exact w_X6_isCrew_43 N hG hr hk ih a0 v1 v3 ha0 t1
        · refine jr_iload_n hG 1 dX6_isCrew_24 rfl rfl ?_
          refine jr_iconst (v := (1 : Int32)) hG dX6_isCrew_25 (by decide) ?_
          refine jr_iload_n hG 3 dX6_isCrew_26 rfl rfl ?_
          refine jr_ishl hG dX6_isCrew_27 ?_
          refine jr_iconst (v := (-1 : Int32)) hG dX6_isCrew_28 (by decide) ?_
          refine jr_ixor hG dX6_isCrew_29 ?_
          refine jr_iand hG dX6_isCrew_30 ?_
          refine jr_aload_n hG 0 dX6_isCrew_31 rfl rfl ?_
          refine jr_getR hG fi_RX6_54 rfl (okO_s ha0) (okO_l ha0) dX6_isCrew_32 (fun o3 ho3 => ?_)
          refine jr_iload_n hG 3 dX6_isCrew_35 rfl rfl ?_
          refine jr_iald hG (okA_s (by decide) ho3) (okA_l ho3) dX6_isCrew_36 ?_
          refine jr_iconst (v := (-1 : Int32)) hG dX6_isCrew_37 (by decide) ?_
          refine jr_ixor hG dX6_isCrew_38 ?_
          refine jr_iand hG dX6_isCrew_39 ?_
          refine jr_if_ne hG 47 dX6_isCrew_40 (by decide) (fun _ => ?_) (fun _ => ?_)
          · refine jr_sub (lv' := [(0, .ref (E.B + a0)), (1, .int v1), (3, .int v3)]) [0, 1, 3] rfl ?_
            exact w_X6_isCrew_47 N hG hr hk ih a0 v1 v3 ha0 t1
          · refine jr_sub (lv' := [(0, .ref (E.B + a0)), (1, .int v1), (3, .int v3)]) [0, 1, 3] rfl ?_
            exact w_X6_isCrew_43 N hG hr hk ih a0 v1 v3 ha0 t1
def f_X6_isCrew (N : Nat) (a0 : Nat) (v1 : Int32) (σ : Mm) : Option (Int32 × Mm) := if okO 6 a0 then (f_X6_isCrew_4 N N a0 v1 (1 : Int32) (0 : Int32) (σ)) else none
set_option maxRecDepth 20000 in
theorem c_X6_isCrew (l : Launch) (E : XE) (N : Nat) (a0 : Nat) (v1 : Int32) (σ : Mm) : ∀ r0, f_X6_isCrew N a0 v1 σ = some r0 → Met l yX6_isCrew [Cond.code yX6_isCrew cX6_isCrew 4 (some .boolean)] rm_X6_isCrew (xPc E (NT + 0) σ [.ref (E.B + a0), .int v1]) (xQi E (NT + 0) r0) 0 0 (xA E) := by
  refine met_of (N0 := NT) (by decide +kernel) (Nat.le_of_ble_eq_true rfl) ?_
  intro p e s m args below meth c hG hr hk _
  show JR E NT 4 p l e rm_X6_isCrew s m args below meth c 0 0 (fun r => MQ below (xQi E (NT + 0) r) args s 0 0 (xA E)) 0 [(0, .ref (E.B + a0)), (1, .int v1)] [] σ (if okO 6 a0 then (f_X6_isCrew_4 N N a0 v1 (1 : Int32) (0 : Int32) (σ)) else none)
  refine jr_guard (fun ha0 => ?_)
  refine jr_iconst (v := (1 : Int32)) hG dX6_isCrew_0 (by decide) ?_
  refine jr_istore_n (lv' := [(2, .int (1 : Int32)), (0, .ref (E.B + a0)), (1, .int v1)]) hG dX6_isCrew_1 rfl (by decide) rfl ?_
  refine jr_iconst (v := (0 : Int32)) hG dX6_isCrew_2 (by decide) ?_
  refine jr_istore_n (lv' := [(3, .int (0 : Int32)), (2, .int (1 : Int32)), (0, .ref (E.B + a0)), (1, .int v1)]) hG dX6_isCrew_3 rfl (by decide) rfl ?_
  refine jr_sub (lv' := [(0, .ref (E.B + a0)), (1, .int v1), (2, .int (1 : Int32)), (3, .int (0 : Int32))]) [2, 3, 1, 0] rfl ?_
  exact w_X6_isCrew_4 N hG hr hk N a0 v1 (1 : Int32) (0 : Int32) ha0 (σ)
-- TonguesDealtModel.crew()I
abbrev rm_X6_crew : Room := { frames := 5, cells := 0, slots := 0, locals := 112 }
theorem ci_X6_crew : CIx yX6_crew cX6_crew 3 (some .int) 0 := ⟨wd_1075, wd_77, by decide +kernel⟩
def f_X6_crew_54 (N : Nat) (K22 : Nat → Int32 → Int32 → Mm → Option (Int32 × Mm)) (a0 : Nat) (v2 : Int32) (s0 : Int32) (σ : Mm) : Option (Int32 × Mm) := K22 a0 s0 (v2 + (1 : Int32)) (σ)
set_option maxRecDepth 20000 in
theorem w_X6_crew_54 {p : Program} {l : Launch} {e : Env} {s : State} {m : MethodId} {args : Array Value} {below : List Frame} {meth : Method} {c : Code} {E : XE} (N : Nat) (hG : GG E NT 3 RX6 cX6_crew p s m args c) (hr : meth.sig.returnType = (some .int)) (hk : meth.locks = false) {K22 : Nat → Int32 → Int32 → Mm → Option (Int32 × Mm)} (hK22 : ∀ (a0 : Nat) (v1 : Int32) (v2 : Int32) (ha0 : okO 6 a0 = true) (σ : Mm), JR E NT 3 p l e rm_X6_crew s m args below meth c 0 0 (fun r => MQ below (xQi E (NT + 0) r) args s 0 0 (xA E)) 22 [(0, .ref (E.B + a0)), (1, .int v1), (2, .int v2)] [] σ (K22 a0 v1 v2 σ)) (a0 : Nat) (v2 : Int32) (s0 : Int32) (ha0 : okO 6 a0 = true) (σ : Mm) : JR E NT 3 p l e rm_X6_crew s m args below meth c 0 0 (fun r => MQ below (xQi E (NT + 0) r) args s 0 0 (xA E)) 54 [(0, .ref (E.B + a0)), (2, .int v2)] [.int s0] σ (f_X6_crew_54 N K22 a0 v2 s0 σ) := by
  show JR E NT 3 p l e rm_X6_crew s m args below meth c 0 0 (fun r => MQ below (xQi E (NT + 0) r) args s 0 0 (xA E)) 54 [(0, .ref (E.B + a0)), (2, .int v2)] [.int s0] σ (K22 a0 s0 (v2 + (1 : Int32)) (σ))
  refine jr_istore_n (lv' := [(1, .int s0), (0, .ref (E.B + a0)), (2, .int v2)]) hG dX6_crew_54 rfl (by decide) rfl ?_
  refine jr_iinc (v := v2 + (1 : Int32)) (lv' := [(2, .int (v2 + (1 : Int32))), (1, .int s0), (0, .ref (E.B + a0))]) hG 2 dX6_crew_55 rfl rfl (by decide) rfl ?_
  refine jr_goto hG 22 dX6_crew_58 (by decide) ?_
  refine jr_sub (lv' := [(0, .ref (E.B + a0)), (1, .int s0), (2, .int (v2 + (1 : Int32)))]) [2, 1, 0] rfl ?_
  exact hK22 a0 s0 (v2 + (1 : Int32)) ha0 (σ)
def f_X6_crew_53 (N : Nat) (K22 : Nat → Int32 → Int32 → Mm → Option (Int32 × Mm)) (a0 : Nat) (v1 : Int32) (v2 : Int32) (σ : Mm) : Option (Int32 × Mm) := f_X6_crew_54 N K22 a0 v2 v1 (σ)
set_option maxRecDepth 20000 in
theorem w_X6_crew_53 {p : Program} {l : Launch} {e : Env} {s : State} {m : MethodId} {args : Array Value} {below : List Frame} {meth : Method} {c : Code} {E : XE} (N : Nat) (hG : GG E NT 3 RX6 cX6_crew p s m args c) (hr : meth.sig.returnType = (some .int)) (hk : meth.locks = false) {K22 : Nat → Int32 → Int32 → Mm → Option (Int32 × Mm)} (hK22 : ∀ (a0 : Nat) (v1 : Int32) (v2 : Int32) (ha0 : okO 6 a0 = true) (σ : Mm), JR E NT 3 p l e rm_X6_crew s m args below meth c 0 0 (fun r => MQ below (xQi E (NT + 0) r) args s 0 0 (xA E)) 22 [(0, .ref (E.B + a0)), (1, .int v1), (2, .int v2)] [] σ (K22 a0 v1 v2 σ)) (a0 : Nat) (v1 : Int32) (v2 : Int32) (ha0 : okO 6 a0 = true) (σ : Mm) : JR E NT 3 p l e rm_X6_crew s m args below meth c 0 0 (fun r => MQ below (xQi E (NT + 0) r) args s 0 0 (xA E)) 53 [(0, .ref (E.B + a0)), (1, .int v1), (2, .int v2)] [] σ (f_X6_crew_53 N K22 a0 v1 v2 σ) := by
  show JR E NT 3 p l e rm_X6_crew s m args below meth c 0 0 (fun r => MQ below (xQi E (NT + 0) r) args s 0 0 (xA E)) 53 [(0, .ref (E.B + a0)), (1, .int v1), (2, .int v2)] [] σ (f_X6_crew_54 N K22 a0 v2 v1 (σ))
  refine jr_iload_n hG 1 dX6_crew_53 rfl rfl ?_
  refine jr_sub (lv' := [(0, .ref (E.B + a0)), (2, .int v2)]) [0, 2] rfl ?_
  exact w_X6_crew_54 N hG hr hk hK22 a0 v2 v1 ha0 (σ)
def f_X6_crew_22 (N : Nat)  : Nat → Nat → Int32 → Int32 → Mm → Option (Int32 × Mm)
  | 0 => fun _ _ _ _ => none
  | n + 1 => fun a0 v1 v2 σ => bI (f_X6_everybody N a0 (σ)) (fun r4 t3 => if r4 < v2 then (bI (f_X6_bits N v1 t3) (fun r6 t5 => bI (f_X6_gives N a0 v1 r6 t5) (fun r8 t7 => some (r8, t7)))) else (bI (f_X6_bits N v2 t3) (fun r10 t9 => bI (f_X6_bits N v1 t9) (fun r12 t11 => if r10 ≤ r12 then (f_X6_crew_53 N (f_X6_crew_22 N n) a0 v1 v2 t11) else (bI (f_X6_isCrew N a0 v2 t11) (fun r14 t13 => if r14 = 0 then (f_X6_crew_53 N (f_X6_crew_22 N n) a0 v1 v2 t13) else (f_X6_crew_54 N (f_X6_crew_22 N n) a0 v2 v2 t13)))))))
set_option maxRecDepth 20000 in
theorem w_X6_crew_22 {p : Program} {l : Launch} {e : Env} {s : State} {m : MethodId} {args : Array Value} {below : List Frame} {meth : Method} {c : Code} {E : XE} (N : Nat) (hG : GG E NT 3 RX6 cX6_crew p s m args c) (hr : meth.sig.returnType = (some .int)) (hk : meth.locks = false)  : ∀ (n : Nat) (a0 : Nat) (v1 : Int32) (v2 : Int32) (ha0 : okO 6 a0 = true) (σ : Mm), JR E NT 3 p l e rm_X6_crew s m args below meth c 0 0 (fun r => MQ below (xQi E (NT + 0) r) args s 0 0 (xA E)) 22 [(0, .ref (E.B + a0)), (1, .int v1), (2, .int v2)] [] σ (f_X6_crew_22 N n a0 v1 v2 σ) := by
  intro n
  induction n with
  | zero => intro a0 v1 v2 ha0 σ r hX; cases hX
  | succ n ih =>
    intro a0 v1 v2 ha0 σ
    show JR E NT 3 p l e rm_X6_crew s m args below meth c 0 0 (fun r => MQ below (xQi E (NT + 0) r) args s 0 0 (xA E)) 22 [(0, .ref (E.B + a0)), (1, .int v1), (2, .int v2)] [] σ (bI (f_X6_everybody N a0 (σ)) (fun r4 t3 => if r4 < v2 then (bI (f_X6_bits N v1 t3) (fun r6 t5 => bI (f_X6_gives N a0 v1 r6 t5) (fun r8 t7 => some (r8, t7)))) else (bI (f_X6_bits N v2 t3) (fun r10 t9 => bI (f_X6_bits N v1 t9) (fun r12 t11 => if r10 ≤ r12 then (f_X6_crew_53 N (f_X6_crew_22 N n) a0 v1 v2 t11) else (bI (f_X6_isCrew N a0 v2 t11) (fun r14 t13 => if r14 = 0 then (f_X6_crew_53 N (f_X6_crew_22 N n) a0 v1 v2 t13) else (f_X6_crew_54 N (f_X6_crew_22 N n) a0 v2 v2 t13))))))))
    refine jr_iload_n hG 2 dX6_crew_22 rfl rfl ?_
    refine jr_aload_n hG 0 dX6_crew_23 rfl rfl ?_
    refine jr_callVi (As := []) hG (c_X6_everybody l E N a0 (σ)) ci_X6_everybody wd_1064 ⟨wd_1066, wd_46⟩ cl_6 (okO_s ha0) (okO_l ha0) ⟨rfl, rfl, Nat.le_of_ble_eq_true rfl, Nat.le_of_ble_eq_true rfl⟩ rfl rfl (Nat.le_of_ble_eq_true rfl) dX6_crew_24 ⟨Nat.le_refl _, Nat.le_refl _⟩ (fun r4 t3 => ?_)
    refine jr_icmp_gt hG 61 dX6_crew_27 (by decide) (fun _ => ?_) (fun _ => ?_)
    · refine jr_aload_n hG 0 dX6_crew_61 rfl rfl ?_
      refine jr_iload_n hG 1 dX6_crew_62 rfl rfl ?_
      refine jr_iload_n hG 1 dX6_crew_63 rfl rfl ?_
      refine jr_callSi (As := [.int v1]) hG (c_X6_bits l E N v1 t3) ci_X6_bits wd_973 wd_974 ⟨rfl, rfl, Nat.le_of_ble_eq_true rfl, Nat.le_of_ble_eq_true rfl⟩ rfl rfl (Nat.le_of_ble_eq_true rfl) dX6_crew_64 ⟨Nat.le_refl _, Nat.le_refl _⟩ (fun r6 t5 => ?_)
      refine jr_callVi (As := [.int v1, .int r6]) hG (c_X6_gives l E N a0 v1 r6 t5) ci_X6_gives wd_881 ⟨wd_883, wd_23⟩ cl_6 (okO_s ha0) (okO_l ha0) ⟨rfl, rfl, Nat.le_of_ble_eq_true rfl, Nat.le_of_ble_eq_true rfl⟩ rfl rfl (Nat.le_of_ble_eq_true rfl) dX6_crew_67 ⟨Nat.le_refl _, Nat.le_refl _⟩ (fun r8 t7 => ?_)
      exact jr_iret hG hr hk dX6_crew_70
    · refine jr_iload_n hG 2 dX6_crew_30 rfl rfl ?_
      refine jr_callSi (As := [.int v2]) hG (c_X6_bits l E N v2 t3) ci_X6_bits wd_973 wd_974 ⟨rfl, rfl, Nat.le_of_ble_eq_true rfl, Nat.le_of_ble_eq_true rfl⟩ rfl rfl (Nat.le_of_ble_eq_true rfl) dX6_crew_31 ⟨Nat.le_refl _, Nat.le_refl _⟩ (fun r10 t9 => ?_)
      refine jr_iload_n hG 1 dX6_crew_34 rfl rfl ?_
      refine jr_callSi (As := [.int v1]) hG (c_X6_bits l E N v1 t9) ci_X6_bits wd_973 wd_974 ⟨rfl, rfl, Nat.le_of_ble_eq_true rfl, Nat.le_of_ble_eq_true rfl⟩ rfl rfl (Nat.le_of_ble_eq_true rfl) dX6_crew_35 ⟨Nat.le_refl _, Nat.le_refl _⟩ (fun r12 t11 => ?_)
      refine jr_icmp_le hG 53 dX6_crew_38 (by decide) (fun _ => ?_) (fun _ => ?_)
      · exact w_X6_crew_53 N hG hr hk ih a0 v1 v2 ha0 t11
      · refine jr_aload_n hG 0 dX6_crew_41 rfl rfl ?_
        refine jr_iload_n hG 2 dX6_crew_42 rfl rfl ?_
        refine jr_callVi (As := [.int v2]) hG (c_X6_isCrew l E N a0 v2 t11) ci_X6_isCrew wd_1076 ⟨wd_1078, wd_48⟩ cl_6 (okO_s ha0) (okO_l ha0) ⟨rfl, rfl, Nat.le_of_ble_eq_true rfl, Nat.le_of_ble_eq_true rfl⟩ rfl rfl (Nat.le_of_ble_eq_true rfl) dX6_crew_43 ⟨Nat.le_refl _, Nat.le_refl _⟩ (fun r14 t13 => ?_)
        refine jr_if_eq hG 53 dX6_crew_46 (by decide) (fun _ => ?_) (fun _ => ?_)
        · exact w_X6_crew_53 N hG hr hk ih a0 v1 v2 ha0 t13
        · refine jr_iload_n hG 2 dX6_crew_49 rfl rfl ?_
          refine jr_goto hG 54 dX6_crew_50 (by decide) ?_
          refine jr_sub (lv' := [(0, .ref (E.B + a0)), (2, .int v2)]) [0, 2] rfl ?_
          exact w_X6_crew_54 N hG hr hk ih a0 v2 v2 ha0 t13
def f_X6_crew (N : Nat) (a0 : Nat) (σ : Mm) : Option (Int32 × Mm) := if okO 6 a0 then (if (gi σ a0 10) = 0 then (some ((-4 : Int32), σ)) else (bR (gr σ a0 19) (okA 0) (fun o1 => bV (f_X6_layTells N a0 o1 (σ)) (fun t2 => f_X6_crew_22 N N a0 (0 : Int32) (0 : Int32) t2)))) else none
set_option maxRecDepth 20000 in
theorem c_X6_crew (l : Launch) (E : XE) (N : Nat) (a0 : Nat) (σ : Mm) : ∀ r0, f_X6_crew N a0 σ = some r0 → Met l yX6_crew [Cond.code yX6_crew cX6_crew 3 (some .int)] rm_X6_crew (xPc E (NT + 0) σ [.ref (E.B + a0)]) (xQi E (NT + 0) r0) 0 0 (xA E) := by
  refine met_of (N0 := NT) (by decide +kernel) (Nat.le_of_ble_eq_true rfl) ?_
  intro p e s m args below meth c hG hr hk _
  show JR E NT 3 p l e rm_X6_crew s m args below meth c 0 0 (fun r => MQ below (xQi E (NT + 0) r) args s 0 0 (xA E)) 0 [(0, .ref (E.B + a0))] [] σ (if okO 6 a0 then (if (gi σ a0 10) = 0 then (some ((-4 : Int32), σ)) else (bR (gr σ a0 19) (okA 0) (fun o1 => bV (f_X6_layTells N a0 o1 (σ)) (fun t2 => f_X6_crew_22 N N a0 (0 : Int32) (0 : Int32) t2)))) else none)
  refine jr_guard (fun ha0 => ?_)
  refine jr_aload_n hG 0 dX6_crew_0 rfl rfl ?_
  refine jr_getI hG fi_RX6_147 rfl (okO_s ha0) (okO_l ha0) dX6_crew_1 ?_
  refine jr_if_ne hG 10 dX6_crew_4 (by decide) (fun _ => ?_) (fun _ => ?_)
  · refine jr_aload_n hG 0 dX6_crew_10 rfl rfl ?_
    refine jr_aload_n hG 0 dX6_crew_11 rfl rfl ?_
    refine jr_getR hG fi_RX6_48 rfl (okO_s ha0) (okO_l ha0) dX6_crew_12 (fun o1 ho1 => ?_)
    refine jr_callVv (As := [.ref (E.B + o1)]) hG (c_X6_layTells l E N a0 o1 (σ)) ci_X6_layTells wd_1048 ⟨wd_1050, wd_43⟩ cl_6 (okO_s ha0) (okO_l ha0) ⟨rfl, rfl, Nat.le_of_ble_eq_true rfl, Nat.le_of_ble_eq_true rfl⟩ rfl rfl (Nat.le_of_ble_eq_true rfl) dX6_crew_15 ⟨Nat.le_refl _, Nat.le_refl _⟩ (fun t2 => ?_)
    refine jr_iconst (v := (0 : Int32)) hG dX6_crew_18 (by decide) ?_
    refine jr_istore_n (lv' := [(1, .int (0 : Int32)), (0, .ref (E.B + a0))]) hG dX6_crew_19 rfl (by decide) rfl ?_
    refine jr_iconst (v := (0 : Int32)) hG dX6_crew_20 (by decide) ?_
    refine jr_istore_n (lv' := [(2, .int (0 : Int32)), (1, .int (0 : Int32)), (0, .ref (E.B + a0))]) hG dX6_crew_21 rfl (by decide) rfl ?_
    refine jr_sub (lv' := [(0, .ref (E.B + a0)), (1, .int (0 : Int32)), (2, .int (0 : Int32))]) [2, 1, 0] rfl ?_
    exact w_X6_crew_22 N hG hr hk N a0 (0 : Int32) (0 : Int32) ha0 t2
  · refine jr_bipush (v := (-4 : Int32)) hG dX6_crew_7 (by decide) ?_
    exact jr_iret hG hr hk dX6_crew_9
-- TonguesDealtModel.reach(I)I
abbrev rm_X6_reach : Room := { frames := 5, cells := 0, slots := 0, locals := 112 }
theorem ci_X6_reach : CIx yX6_reach cX6_reach 2 (some .int) 1 := ⟨wd_1083, wd_77, by decide +kernel⟩
def f_X6_reach (N : Nat) (a0 : Nat) (v1 : Int32) (σ : Mm) : Option (Int32 × Mm) := if okO 6 a0 then (bI (f_X6_isPerson N a0 v1 (σ)) (fun r2 t1 => if r2 = 0 then (some ((-1 : Int32), t1)) else (bR (gr t1 a0 19) (okA 0) (fun o3 => bV (f_X6_layTells N a0 o3 t1) (fun t4 => bI (f_X6_everybody N a0 t4) (fun r6 t5 => bI (f_X6_reaches N a0 v1 r6 t5) (fun r8 t7 => some (r8, t7)))))))) else none
set_option maxRecDepth 20000 in
theorem c_X6_reach (l : Launch) (E : XE) (N : Nat) (a0 : Nat) (v1 : Int32) (σ : Mm) : ∀ r0, f_X6_reach N a0 v1 σ = some r0 → Met l yX6_reach [Cond.code yX6_reach cX6_reach 2 (some .int)] rm_X6_reach (xPc E (NT + 0) σ [.ref (E.B + a0), .int v1]) (xQi E (NT + 0) r0) 0 0 (xA E) := by
  refine met_of (N0 := NT) (by decide +kernel) (Nat.le_of_ble_eq_true rfl) ?_
  intro p e s m args below meth c hG hr hk _
  show JR E NT 2 p l e rm_X6_reach s m args below meth c 0 0 (fun r => MQ below (xQi E (NT + 0) r) args s 0 0 (xA E)) 0 [(0, .ref (E.B + a0)), (1, .int v1)] [] σ (if okO 6 a0 then (bI (f_X6_isPerson N a0 v1 (σ)) (fun r2 t1 => if r2 = 0 then (some ((-1 : Int32), t1)) else (bR (gr t1 a0 19) (okA 0) (fun o3 => bV (f_X6_layTells N a0 o3 t1) (fun t4 => bI (f_X6_everybody N a0 t4) (fun r6 t5 => bI (f_X6_reaches N a0 v1 r6 t5) (fun r8 t7 => some (r8, t7)))))))) else none)
  refine jr_guard (fun ha0 => ?_)
  refine jr_aload_n hG 0 dX6_reach_0 rfl rfl ?_
  refine jr_iload_n hG 1 dX6_reach_1 rfl rfl ?_
  refine jr_callVi (As := [.int v1]) hG (c_X6_isPerson l E N a0 v1 (σ)) ci_X6_isPerson wd_950 ⟨wd_952, wd_29⟩ cl_6 (okO_s ha0) (okO_l ha0) ⟨rfl, rfl, Nat.le_of_ble_eq_true rfl, Nat.le_of_ble_eq_true rfl⟩ rfl rfl (Nat.le_of_ble_eq_true rfl) dX6_reach_2 ⟨Nat.le_refl _, Nat.le_refl _⟩ (fun r2 t1 => ?_)
  refine jr_if_ne hG 10 dX6_reach_5 (by decide) (fun _ => ?_) (fun _ => ?_)
  · refine jr_aload_n hG 0 dX6_reach_10 rfl rfl ?_
    refine jr_aload_n hG 0 dX6_reach_11 rfl rfl ?_
    refine jr_getR hG fi_RX6_48 rfl (okO_s ha0) (okO_l ha0) dX6_reach_12 (fun o3 ho3 => ?_)
    refine jr_callVv (As := [.ref (E.B + o3)]) hG (c_X6_layTells l E N a0 o3 t1) ci_X6_layTells wd_1048 ⟨wd_1050, wd_43⟩ cl_6 (okO_s ha0) (okO_l ha0) ⟨rfl, rfl, Nat.le_of_ble_eq_true rfl, Nat.le_of_ble_eq_true rfl⟩ rfl rfl (Nat.le_of_ble_eq_true rfl) dX6_reach_15 ⟨Nat.le_refl _, Nat.le_refl _⟩ (fun t4 => ?_)
    refine jr_aload_n hG 0 dX6_reach_18 rfl rfl ?_
    refine jr_iload_n hG 1 dX6_reach_19 rfl rfl ?_
    refine jr_aload_n hG 0 dX6_reach_20 rfl rfl ?_
    refine jr_callVi (As := []) hG (c_X6_everybody l E N a0 t4) ci_X6_everybody wd_1064 ⟨wd_1066, wd_46⟩ cl_6 (okO_s ha0) (okO_l ha0) ⟨rfl, rfl, Nat.le_of_ble_eq_true rfl, Nat.le_of_ble_eq_true rfl⟩ rfl rfl (Nat.le_of_ble_eq_true rfl) dX6_reach_21 ⟨Nat.le_refl _, Nat.le_refl _⟩ (fun r6 t5 => ?_)
    refine jr_callVi (As := [.int v1, .int r6]) hG (c_X6_reaches l E N a0 v1 r6 t5) ci_X6_reaches wd_1068 ⟨wd_1070, wd_47⟩ cl_6 (okO_s ha0) (okO_l ha0) ⟨rfl, rfl, Nat.le_of_ble_eq_true rfl, Nat.le_of_ble_eq_true rfl⟩ rfl rfl (Nat.le_of_ble_eq_true rfl) dX6_reach_24 ⟨Nat.le_refl _, Nat.le_refl _⟩ (fun r8 t7 => ?_)
    exact jr_iret hG hr hk dX6_reach_27
  · refine jr_iconst (v := (-1 : Int32)) hG dX6_reach_8 (by decide) ?_
    exact jr_iret hG hr hk dX6_reach_9
-- TonguesDealtModel.crier()I
abbrev rm_X6_crier : Room := { frames := 5, cells := 0, slots := 0, locals := 112 }
theorem ci_X6_crier : CIx yX6_crier cX6_crier 3 (some .int) 0 := ⟨wd_1087, wd_77, by decide +kernel⟩
def f_X6_crier_62 (N : Nat) (K22 : Nat → Int32 → Int32 → Mm → Option (Int32 × Mm)) (a0 : Nat) (v2 : Int32) (s0 : Int32) (σ : Mm) : Option (Int32 × Mm) := K22 a0 s0 (v2 + (1 : Int32)) (σ)
set_option maxRecDepth 20000 in
theorem w_X6_crier_62 {p : Program} {l : Launch} {e : Env} {s : State} {m : MethodId} {args : Array Value} {below : List Frame} {meth : Method} {c : Code} {E : XE} (N : Nat) (hG : GG E NT 3 RX6 cX6_crier p s m args c) (hr : meth.sig.returnType = (some .int)) (hk : meth.locks = false) {K22 : Nat → Int32 → Int32 → Mm → Option (Int32 × Mm)} (hK22 : ∀ (a0 : Nat) (v1 : Int32) (v2 : Int32) (ha0 : okO 6 a0 = true) (σ : Mm), JR E NT 3 p l e rm_X6_crier s m args below meth c 0 0 (fun r => MQ below (xQi E (NT + 0) r) args s 0 0 (xA E)) 22 [(0, .ref (E.B + a0)), (1, .int v1), (2, .int v2)] [] σ (K22 a0 v1 v2 σ)) (a0 : Nat) (v2 : Int32) (s0 : Int32) (ha0 : okO 6 a0 = true) (σ : Mm) : JR E NT 3 p l e rm_X6_crier s m args below meth c 0 0 (fun r => MQ below (xQi E (NT + 0) r) args s 0 0 (xA E)) 62 [(0, .ref (E.B + a0)), (2, .int v2)] [.int s0] σ (f_X6_crier_62 N K22 a0 v2 s0 σ) := by
  show JR E NT 3 p l e rm_X6_crier s m args below meth c 0 0 (fun r => MQ below (xQi E (NT + 0) r) args s 0 0 (xA E)) 62 [(0, .ref (E.B + a0)), (2, .int v2)] [.int s0] σ (K22 a0 s0 (v2 + (1 : Int32)) (σ))
  refine jr_istore_n (lv' := [(1, .int s0), (0, .ref (E.B + a0)), (2, .int v2)]) hG dX6_crier_62 rfl (by decide) rfl ?_
  refine jr_iinc (v := v2 + (1 : Int32)) (lv' := [(2, .int (v2 + (1 : Int32))), (1, .int s0), (0, .ref (E.B + a0))]) hG 2 dX6_crier_63 rfl rfl (by decide) rfl ?_
  refine jr_goto hG 22 dX6_crier_66 (by decide) ?_
  refine jr_sub (lv' := [(0, .ref (E.B + a0)), (1, .int s0), (2, .int (v2 + (1 : Int32)))]) [2, 1, 0] rfl ?_
  exact hK22 a0 s0 (v2 + (1 : Int32)) ha0 (σ)
def f_X6_crier_22 (N : Nat)  : Nat → Nat → Int32 → Int32 → Mm → Option (Int32 × Mm)
  | 0 => fun _ _ _ _ => none
  | n + 1 => fun a0 v1 v2 σ => if (gi σ a0 10) ≤ v2 then (bI (f_X6_everybody N a0 (σ)) (fun r4 t3 => bI (f_X6_reaches N a0 v1 r4 t3) (fun r6 t5 => bI (f_X6_bits N r6 t5) (fun r8 t7 => bI (f_X6_gives N a0 (r8 - (1 : Int32)) v1 t7) (fun r10 t9 => some (r10, t9)))))) else (bI (f_X6_everybody N a0 (σ)) (fun r12 t11 => bI (f_X6_reaches N a0 v2 r12 t11) (fun r14 t13 => bI (f_X6_bits N r14 t13) (fun r16 t15 => bI (f_X6_everybody N a0 t15) (fun r18 t17 => bI (f_X6_reaches N a0 v1 r18 t17) (fun r20 t19 => bI (f_X6_bits N r20 t19) (fun r22 t21 => if r16 ≤ r22 then (f_X6_crier_62 N (f_X6_crier_22 N n) a0 v2 v1 t21) else (f_X6_crier_62 N (f_X6_crier_22 N n) a0 v2 v2 t21))))))))
set_option maxRecDepth 20000 in
theorem w_X6_crier_22 {p : Program} {l : Launch} {e : Env} {s : State} {m : MethodId} {args : Array Value} {below : List Frame} {meth : Method} {c : Code} {E : XE} (N : Nat) (hG : GG E NT 3 RX6 cX6_crier p s m args c) (hr : meth.sig.returnType = (some .int)) (hk : meth.locks = false)  : ∀ (n : Nat) (a0 : Nat) (v1 : Int32) (v2 : Int32) (ha0 : okO 6 a0 = true) (σ : Mm), JR E NT 3 p l e rm_X6_crier s m args below meth c 0 0 (fun r => MQ below (xQi E (NT + 0) r) args s 0 0 (xA E)) 22 [(0, .ref (E.B + a0)), (1, .int v1), (2, .int v2)] [] σ (f_X6_crier_22 N n a0 v1 v2 σ) := by
  intro n
  induction n with
  | zero => intro a0 v1 v2 ha0 σ r hX; cases hX
  | succ n ih =>
    intro a0 v1 v2 ha0 σ
    show JR E NT 3 p l e rm_X6_crier s m args below meth c 0 0 (fun r => MQ below (xQi E (NT + 0) r) args s 0 0 (xA E)) 22 [(0, .ref (E.B + a0)), (1, .int v1), (2, .int v2)] [] σ (if (gi σ a0 10) ≤ v2 then (bI (f_X6_everybody N a0 (σ)) (fun r4 t3 => bI (f_X6_reaches N a0 v1 r4 t3) (fun r6 t5 => bI (f_X6_bits N r6 t5) (fun r8 t7 => bI (f_X6_gives N a0 (r8 - (1 : Int32)) v1 t7) (fun r10 t9 => some (r10, t9)))))) else (bI (f_X6_everybody N a0 (σ)) (fun r12 t11 => bI (f_X6_reaches N a0 v2 r12 t11) (fun r14 t13 => bI (f_X6_bits N r14 t13) (fun r16 t15 => bI (f_X6_everybody N a0 t15) (fun r18 t17 => bI (f_X6_reaches N a0 v1 r18 t17) (fun r20 t19 => bI (f_X6_bits N r20 t19) (fun r22 t21 => if r16 ≤ r22 then (f_X6_crier_62 N (f_X6_crier_22 N n) a0 v2 v1 t21) else (f_X6_crier_62 N (f_X6_crier_22 N n) a0 v2 v2 t21)))))))))
    refine jr_iload_n hG 2 dX6_crier_22 rfl rfl ?_
    refine jr_aload_n hG 0 dX6_crier_23 rfl rfl ?_
    refine jr_getI hG fi_RX6_147 rfl (okO_s ha0) (okO_l ha0) dX6_crier_24 ?_
    refine jr_icmp_ge hG 69 dX6_crier_27 (by decide) (fun _ => ?_) (fun _ => ?_)
    · refine jr_aload_n hG 0 dX6_crier_69 rfl rfl ?_
      refine jr_aload_n hG 0 dX6_crier_70 rfl rfl ?_
      refine jr_iload_n hG 1 dX6_crier_71 rfl rfl ?_
      refine jr_aload_n hG 0 dX6_crier_72 rfl rfl ?_
      refine jr_callVi (As := []) hG (c_X6_everybody l E N a0 (σ)) ci_X6_everybody wd_1064 ⟨wd_1066, wd_46⟩ cl_6 (okO_s ha0) (okO_l ha0) ⟨rfl, rfl, Nat.le_of_ble_eq_true rfl, Nat.le_of_ble_eq_true rfl⟩ rfl rfl (Nat.le_of_ble_eq_true rfl) dX6_crier_73 ⟨Nat.le_refl _, Nat.le_refl _⟩ (fun r4 t3 => ?_)
      refine jr_callVi (As := [.int v1, .int r4]) hG (c_X6_reaches l E N a0 v1 r4 t3) ci_X6_reaches wd_1068 ⟨wd_1070, wd_47⟩ cl_6 (okO_s ha0) (okO_l ha0) ⟨rfl, rfl, Nat.le_of_ble_eq_true rfl, Nat.le_of_ble_eq_true rfl⟩ rfl rfl (Nat.le_of_ble_eq_true rfl) dX6_crier_76 ⟨Nat.le_refl _, Nat.le_refl _⟩ (fun r6 t5 => ?_)
      refine jr_callSi (As := [.int r6]) hG (c_X6_bits l E N r6 t5) ci_X6_bits wd_973 wd_974 ⟨rfl, rfl, Nat.le_of_ble_eq_true rfl, Nat.le_of_ble_eq_true rfl⟩ rfl rfl (Nat.le_of_ble_eq_true rfl) dX6_crier_79 ⟨Nat.le_refl _, Nat.le_refl _⟩ (fun r8 t7 => ?_)
      refine jr_iconst (v := (1 : Int32)) hG dX6_crier_82 (by decide) ?_
      refine jr_isub hG dX6_crier_83 ?_
      refine jr_iload_n hG 1 dX6_crier_84 rfl rfl ?_
      refine jr_callVi (As := [.int (r8 - (1 : Int32)), .int v1]) hG (c_X6_gives l E N a0 (r8 - (1 : Int32)) v1 t7) ci_X6_gives wd_881 ⟨wd_883, wd_23⟩ cl_6 (okO_s ha0) (okO_l ha0) ⟨rfl, rfl, Nat.le_of_ble_eq_true rfl, Nat.le_of_ble_eq_true rfl⟩ rfl rfl (Nat.le_of_ble_eq_true rfl) dX6_crier_85 ⟨Nat.le_refl _, Nat.le_refl _⟩ (fun r10 t9 => ?_)
      exact jr_iret hG hr hk dX6_crier_88
    · refine jr_aload_n hG 0 dX6_crier_30 rfl rfl ?_
      refine jr_iload_n hG 2 dX6_crier_31 rfl rfl ?_
      refine jr_aload_n hG 0 dX6_crier_32 rfl rfl ?_
      refine jr_callVi (As := []) hG (c_X6_everybody l E N a0 (σ)) ci_X6_everybody wd_1064 ⟨wd_1066, wd_46⟩ cl_6 (okO_s ha0) (okO_l ha0) ⟨rfl, rfl, Nat.le_of_ble_eq_true rfl, Nat.le_of_ble_eq_true rfl⟩ rfl rfl (Nat.le_of_ble_eq_true rfl) dX6_crier_33 ⟨Nat.le_refl _, Nat.le_refl _⟩ (fun r12 t11 => ?_)
      refine jr_callVi (As := [.int v2, .int r12]) hG (c_X6_reaches l E N a0 v2 r12 t11) ci_X6_reaches wd_1068 ⟨wd_1070, wd_47⟩ cl_6 (okO_s ha0) (okO_l ha0) ⟨rfl, rfl, Nat.le_of_ble_eq_true rfl, Nat.le_of_ble_eq_true rfl⟩ rfl rfl (Nat.le_of_ble_eq_true rfl) dX6_crier_36 ⟨Nat.le_refl _, Nat.le_refl _⟩ (fun r14 t13 => ?_)
      refine jr_callSi (As := [.int r14]) hG (c_X6_bits l E N r14 t13) ci_X6_bits wd_973 wd_974 ⟨rfl, rfl, Nat.le_of_ble_eq_true rfl, Nat.le_of_ble_eq_true rfl⟩ rfl rfl (Nat.le_of_ble_eq_true rfl) dX6_crier_39 ⟨Nat.le_refl _, Nat.le_refl _⟩ (fun r16 t15 => ?_)
      refine jr_aload_n hG 0 dX6_crier_42 rfl rfl ?_
      refine jr_iload_n hG 1 dX6_crier_43 rfl rfl ?_
      refine jr_aload_n hG 0 dX6_crier_44 rfl rfl ?_
      refine jr_callVi (As := []) hG (c_X6_everybody l E N a0 t15) ci_X6_everybody wd_1064 ⟨wd_1066, wd_46⟩ cl_6 (okO_s ha0) (okO_l ha0) ⟨rfl, rfl, Nat.le_of_ble_eq_true rfl, Nat.le_of_ble_eq_true rfl⟩ rfl rfl (Nat.le_of_ble_eq_true rfl) dX6_crier_45 ⟨Nat.le_refl _, Nat.le_refl _⟩ (fun r18 t17 => ?_)
      refine jr_callVi (As := [.int v1, .int r18]) hG (c_X6_reaches l E N a0 v1 r18 t17) ci_X6_reaches wd_1068 ⟨wd_1070, wd_47⟩ cl_6 (okO_s ha0) (okO_l ha0) ⟨rfl, rfl, Nat.le_of_ble_eq_true rfl, Nat.le_of_ble_eq_true rfl⟩ rfl rfl (Nat.le_of_ble_eq_true rfl) dX6_crier_48 ⟨Nat.le_refl _, Nat.le_refl _⟩ (fun r20 t19 => ?_)
      refine jr_callSi (As := [.int r20]) hG (c_X6_bits l E N r20 t19) ci_X6_bits wd_973 wd_974 ⟨rfl, rfl, Nat.le_of_ble_eq_true rfl, Nat.le_of_ble_eq_true rfl⟩ rfl rfl (Nat.le_of_ble_eq_true rfl) dX6_crier_51 ⟨Nat.le_refl _, Nat.le_refl _⟩ (fun r22 t21 => ?_)
      refine jr_icmp_le hG 61 dX6_crier_54 (by decide) (fun _ => ?_) (fun _ => ?_)
      · refine jr_iload_n hG 1 dX6_crier_61 rfl rfl ?_
        refine jr_sub (lv' := [(0, .ref (E.B + a0)), (2, .int v2)]) [0, 2] rfl ?_
        exact w_X6_crier_62 N hG hr hk ih a0 v2 v1 ha0 t21
      · refine jr_iload_n hG 2 dX6_crier_57 rfl rfl ?_
        refine jr_goto hG 62 dX6_crier_58 (by decide) ?_
        refine jr_sub (lv' := [(0, .ref (E.B + a0)), (2, .int v2)]) [0, 2] rfl ?_
        exact w_X6_crier_62 N hG hr hk ih a0 v2 v2 ha0 t21
def f_X6_crier (N : Nat) (a0 : Nat) (σ : Mm) : Option (Int32 × Mm) := if okO 6 a0 then (if (gi σ a0 10) = 0 then (some ((-4 : Int32), σ)) else (bR (gr σ a0 19) (okA 0) (fun o1 => bV (f_X6_layTells N a0 o1 (σ)) (fun t2 => f_X6_crier_22 N N a0 (0 : Int32) (0 : Int32) t2)))) else none
set_option maxRecDepth 20000 in
theorem c_X6_crier (l : Launch) (E : XE) (N : Nat) (a0 : Nat) (σ : Mm) : ∀ r0, f_X6_crier N a0 σ = some r0 → Met l yX6_crier [Cond.code yX6_crier cX6_crier 3 (some .int)] rm_X6_crier (xPc E (NT + 0) σ [.ref (E.B + a0)]) (xQi E (NT + 0) r0) 0 0 (xA E) := by
  refine met_of (N0 := NT) (by decide +kernel) (Nat.le_of_ble_eq_true rfl) ?_
  intro p e s m args below meth c hG hr hk _
  show JR E NT 3 p l e rm_X6_crier s m args below meth c 0 0 (fun r => MQ below (xQi E (NT + 0) r) args s 0 0 (xA E)) 0 [(0, .ref (E.B + a0))] [] σ (if okO 6 a0 then (if (gi σ a0 10) = 0 then (some ((-4 : Int32), σ)) else (bR (gr σ a0 19) (okA 0) (fun o1 => bV (f_X6_layTells N a0 o1 (σ)) (fun t2 => f_X6_crier_22 N N a0 (0 : Int32) (0 : Int32) t2)))) else none)
  refine jr_guard (fun ha0 => ?_)
  refine jr_aload_n hG 0 dX6_crier_0 rfl rfl ?_
  refine jr_getI hG fi_RX6_147 rfl (okO_s ha0) (okO_l ha0) dX6_crier_1 ?_
  refine jr_if_ne hG 10 dX6_crier_4 (by decide) (fun _ => ?_) (fun _ => ?_)
  · refine jr_aload_n hG 0 dX6_crier_10 rfl rfl ?_
    refine jr_aload_n hG 0 dX6_crier_11 rfl rfl ?_
    refine jr_getR hG fi_RX6_48 rfl (okO_s ha0) (okO_l ha0) dX6_crier_12 (fun o1 ho1 => ?_)
    refine jr_callVv (As := [.ref (E.B + o1)]) hG (c_X6_layTells l E N a0 o1 (σ)) ci_X6_layTells wd_1048 ⟨wd_1050, wd_43⟩ cl_6 (okO_s ha0) (okO_l ha0) ⟨rfl, rfl, Nat.le_of_ble_eq_true rfl, Nat.le_of_ble_eq_true rfl⟩ rfl rfl (Nat.le_of_ble_eq_true rfl) dX6_crier_15 ⟨Nat.le_refl _, Nat.le_refl _⟩ (fun t2 => ?_)
    refine jr_iconst (v := (0 : Int32)) hG dX6_crier_18 (by decide) ?_
    refine jr_istore_n (lv' := [(1, .int (0 : Int32)), (0, .ref (E.B + a0))]) hG dX6_crier_19 rfl (by decide) rfl ?_
    refine jr_iconst (v := (0 : Int32)) hG dX6_crier_20 (by decide) ?_
    refine jr_istore_n (lv' := [(2, .int (0 : Int32)), (1, .int (0 : Int32)), (0, .ref (E.B + a0))]) hG dX6_crier_21 rfl (by decide) rfl ?_
    refine jr_sub (lv' := [(0, .ref (E.B + a0)), (1, .int (0 : Int32)), (2, .int (0 : Int32))]) [2, 1, 0] rfl ?_
    exact w_X6_crier_22 N hG hr hk N a0 (0 : Int32) (0 : Int32) ha0 t2
  · refine jr_bipush (v := (-4 : Int32)) hG dX6_crier_7 (by decide) ?_
    exact jr_iret hG hr hk dX6_crier_9
-- TonguesDealtModel.dealMany()I
abbrev rm_X6_dealMany : Room := { frames := 1, cells := 0, slots := 0, locals := 21 }
theorem ci_X6_dealMany : CIx yX6_dealMany cX6_dealMany 3 (some .int) 0 := ⟨wd_1099, wd_77, by decide +kernel⟩
def f_X6_dealMany_26 (N : Nat) (K4 : Nat → Int32 → Int32 → Mm → Option (Int32 × Mm)) (a0 : Nat) (v2 : Int32) (s0 : Int32) (s1 : Int32) (σ : Mm) : Option (Int32 × Mm) := lt (s1 * s0) (fun x3 => K4 a0 x3 (v2 + (1 : Int32)) (σ))
set_option maxRecDepth 20000 in
theorem w_X6_dealMany_26 {p : Program} {l : Launch} {e : Env} {s : State} {m : MethodId} {args : Array Value} {below : List Frame} {meth : Method} {c : Code} {E : XE} (N : Nat) (hG : GG E NT 3 RX6 cX6_dealMany p s m args c) (hr : meth.sig.returnType = (some .int)) (hk : meth.locks = false) {K4 : Nat → Int32 → Int32 → Mm → Option (Int32 × Mm)} (hK4 : ∀ (a0 : Nat) (v1 : Int32) (v2 : Int32) (ha0 : okO 6 a0 = true) (σ : Mm), JR E NT 3 p l e rm_X6_dealMany s m args below meth c 0 0 (fun r => MQ below (xQi E (NT + 0) r) args s 0 0 (xA E)) 4 [(0, .ref (E.B + a0)), (1, .int v1), (2, .int v2)] [] σ (K4 a0 v1 v2 σ)) (a0 : Nat) (v2 : Int32) (s0 : Int32) (s1 : Int32) (ha0 : okO 6 a0 = true) (σ : Mm) : JR E NT 3 p l e rm_X6_dealMany s m args below meth c 0 0 (fun r => MQ below (xQi E (NT + 0) r) args s 0 0 (xA E)) 26 [(0, .ref (E.B + a0)), (2, .int v2)] [.int s0, .int s1] σ (f_X6_dealMany_26 N K4 a0 v2 s0 s1 σ) := by
  show JR E NT 3 p l e rm_X6_dealMany s m args below meth c 0 0 (fun r => MQ below (xQi E (NT + 0) r) args s 0 0 (xA E)) 26 [(0, .ref (E.B + a0)), (2, .int v2)] [.int s0, .int s1] σ (lt (s1 * s0) (fun x3 => K4 a0 x3 (v2 + (1 : Int32)) (σ)))
  refine jr_imul hG dX6_dealMany_26 ?_
  refine jr_leti (fun x3 _ => ?_)
  refine jr_istore_n (lv' := [(1, .int x3), (0, .ref (E.B + a0)), (2, .int v2)]) hG dX6_dealMany_27 rfl (by decide) rfl ?_
  refine jr_iinc (v := v2 + (1 : Int32)) (lv' := [(2, .int (v2 + (1 : Int32))), (1, .int x3), (0, .ref (E.B + a0))]) hG 2 dX6_dealMany_28 rfl rfl (by decide) rfl ?_
  refine jr_goto hG 4 dX6_dealMany_31 (by decide) ?_
  refine jr_sub (lv' := [(0, .ref (E.B + a0)), (1, .int x3), (2, .int (v2 + (1 : Int32)))]) [2, 1, 0] rfl ?_
  exact hK4 a0 x3 (v2 + (1 : Int32)) ha0 (σ)
def f_X6_dealMany_4 (N : Nat)  : Nat → Nat → Int32 → Int32 → Mm → Option (Int32 × Mm)
  | 0 => fun _ _ _ _ => none
  | n + 1 => fun a0 v1 v2 σ => if (gi σ a0 10) ≤ v2 then (some (v1, σ)) else (bI (f_X6_isDealtAs N a0 v2 (σ)) (fun r2 t1 => if r2 = 0 then (f_X6_dealMany_26 N (f_X6_dealMany_4 N n) a0 v2 (4 : Int32) v1 t1) else (f_X6_dealMany_26 N (f_X6_dealMany_4 N n) a0 v2 (1 : Int32) v1 t1)))
set_option maxRecDepth 20000 in
theorem w_X6_dealMany_4 {p : Program} {l : Launch} {e : Env} {s : State} {m : MethodId} {args : Array Value} {below : List Frame} {meth : Method} {c : Code} {E : XE} (N : Nat) (hG : GG E NT 3 RX6 cX6_dealMany p s m args c) (hr : meth.sig.returnType = (some .int)) (hk : meth.locks = false)  : ∀ (n : Nat) (a0 : Nat) (v1 : Int32) (v2 : Int32) (ha0 : okO 6 a0 = true) (σ : Mm), JR E NT 3 p l e rm_X6_dealMany s m args below meth c 0 0 (fun r => MQ below (xQi E (NT + 0) r) args s 0 0 (xA E)) 4 [(0, .ref (E.B + a0)), (1, .int v1), (2, .int v2)] [] σ (f_X6_dealMany_4 N n a0 v1 v2 σ) := by
  intro n
  induction n with
  | zero => intro a0 v1 v2 ha0 σ r hX; cases hX
  | succ n ih =>
    intro a0 v1 v2 ha0 σ
    show JR E NT 3 p l e rm_X6_dealMany s m args below meth c 0 0 (fun r => MQ below (xQi E (NT + 0) r) args s 0 0 (xA E)) 4 [(0, .ref (E.B + a0)), (1, .int v1), (2, .int v2)] [] σ (if (gi σ a0 10) ≤ v2 then (some (v1, σ)) else (bI (f_X6_isDealtAs N a0 v2 (σ)) (fun r2 t1 => if r2 = 0 then (f_X6_dealMany_26 N (f_X6_dealMany_4 N n) a0 v2 (4 : Int32) v1 t1) else (f_X6_dealMany_26 N (f_X6_dealMany_4 N n) a0 v2 (1 : Int32) v1 t1))))
    refine jr_iload_n hG 2 dX6_dealMany_4 rfl rfl ?_
    refine jr_aload_n hG 0 dX6_dealMany_5 rfl rfl ?_
    refine jr_getI hG fi_RX6_147 rfl (okO_s ha0) (okO_l ha0) dX6_dealMany_6 ?_
    refine jr_icmp_ge hG 34 dX6_dealMany_9 (by decide) (fun _ => ?_) (fun _ => ?_)
    · refine jr_iload_n hG 1 dX6_dealMany_34 rfl rfl ?_
      exact jr_iret hG hr hk dX6_dealMany_35
    · refine jr_iload_n hG 1 dX6_dealMany_12 rfl rfl ?_
      refine jr_aload_n hG 0 dX6_dealMany_13 rfl rfl ?_
      refine jr_iload_n hG 2 dX6_dealMany_14 rfl rfl ?_
      refine jr_callVi (As := [.int v2]) hG (c_X6_isDealtAs l E N a0 v2 (σ)) ci_X6_isDealtAs wd_1100 ⟨wd_1102, wd_51⟩ cl_6 (okO_s ha0) (okO_l ha0) ⟨rfl, rfl, Nat.le_of_ble_eq_true rfl, Nat.le_of_ble_eq_true rfl⟩ rfl rfl (Nat.le_of_ble_eq_true rfl) dX6_dealMany_15 ⟨Nat.le_refl _, Nat.le_refl _⟩ (fun r2 t1 => ?_)
      refine jr_if_eq hG 25 dX6_dealMany_18 (by decide) (fun _ => ?_) (fun _ => ?_)
      · refine jr_iconst (v := (4 : Int32)) hG dX6_dealMany_25 (by decide) ?_
        refine jr_sub (lv' := [(0, .ref (E.B + a0)), (2, .int v2)]) [0, 2] rfl ?_
        exact w_X6_dealMany_26 N hG hr hk ih a0 v2 (4 : Int32) v1 ha0 t1
      · refine jr_iconst (v := (1 : Int32)) hG dX6_dealMany_21 (by decide) ?_
        refine jr_goto hG 26 dX6_dealMany_22 (by decide) ?_
        refine jr_sub (lv' := [(0, .ref (E.B + a0)), (2, .int v2)]) [0, 2] rfl ?_
        exact w_X6_dealMany_26 N hG hr hk ih a0 v2 (1 : Int32) v1 ha0 t1
def f_X6_dealMany (N : Nat) (a0 : Nat) (σ : Mm) : Option (Int32 × Mm) := if okO 6 a0 then (f_X6_dealMany_4 N N a0 (1 : Int32) (0 : Int32) (σ)) else none
set_option maxRecDepth 20000 in
theorem c_X6_dealMany (l : Launch) (E : XE) (N : Nat) (a0 : Nat) (σ : Mm) : ∀ r0, f_X6_dealMany N a0 σ = some r0 → Met l yX6_dealMany [Cond.code yX6_dealMany cX6_dealMany 3 (some .int)] rm_X6_dealMany (xPc E (NT + 0) σ [.ref (E.B + a0)]) (xQi E (NT + 0) r0) 0 0 (xA E) := by
  refine met_of (N0 := NT) (by decide +kernel) (Nat.le_of_ble_eq_true rfl) ?_
  intro p e s m args below meth c hG hr hk _
  show JR E NT 3 p l e rm_X6_dealMany s m args below meth c 0 0 (fun r => MQ below (xQi E (NT + 0) r) args s 0 0 (xA E)) 0 [(0, .ref (E.B + a0))] [] σ (if okO 6 a0 then (f_X6_dealMany_4 N N a0 (1 : Int32) (0 : Int32) (σ)) else none)
  refine jr_guard (fun ha0 => ?_)
  refine jr_iconst (v := (1 : Int32)) hG dX6_dealMany_0 (by decide) ?_
  refine jr_istore_n (lv' := [(1, .int (1 : Int32)), (0, .ref (E.B + a0))]) hG dX6_dealMany_1 rfl (by decide) rfl ?_
  refine jr_iconst (v := (0 : Int32)) hG dX6_dealMany_2 (by decide) ?_
  refine jr_istore_n (lv' := [(2, .int (0 : Int32)), (1, .int (1 : Int32)), (0, .ref (E.B + a0))]) hG dX6_dealMany_3 rfl (by decide) rfl ?_
  refine jr_sub (lv' := [(0, .ref (E.B + a0)), (1, .int (1 : Int32)), (2, .int (0 : Int32))]) [2, 1, 0] rfl ?_
  exact w_X6_dealMany_4 N hG hr hk N a0 (1 : Int32) (0 : Int32) ha0 (σ)
-- TonguesDealtModel.firstOf(I)I
abbrev rm_X6_firstOf : Room := { frames := 1, cells := 0, slots := 0, locals := 21 }
theorem ci_X6_firstOf : CIx yX6_firstOf cX6_firstOf 3 (some .int) 1 := ⟨wd_1111, wd_77, by decide +kernel⟩
def f_X6_firstOf_2 (N : Nat)  : Nat → Int32 → Int32 → Mm → Option (Int32 × Mm)
  | 0 => fun _ _ _ => none
  | n + 1 => fun v1 v2 σ => bI (f_X6_has N v1 v2 (σ)) (fun r2 t1 => if r2 = 0 then (f_X6_firstOf_2 N n v1 (v2 + (1 : Int32)) t1) else (some (v2, t1)))
set_option maxRecDepth 20000 in
theorem w_X6_firstOf_2 {p : Program} {l : Launch} {e : Env} {s : State} {m : MethodId} {args : Array Value} {below : List Frame} {meth : Method} {c : Code} {E : XE} (N : Nat) (hG : GG E NT 3 RX6 cX6_firstOf p s m args c) (hr : meth.sig.returnType = (some .int)) (hk : meth.locks = false)  : ∀ (n : Nat) (v1 : Int32) (v2 : Int32)  (σ : Mm), JR E NT 3 p l e rm_X6_firstOf s m args below meth c 0 0 (fun r => MQ below (xQi E (NT + 0) r) args s 0 0 (xA E)) 2 [(1, .int v1), (2, .int v2)] [] σ (f_X6_firstOf_2 N n v1 v2 σ) := by
  intro n
  induction n with
  | zero => intro v1 v2 σ r hX; cases hX
  | succ n ih =>
    intro v1 v2 σ
    show JR E NT 3 p l e rm_X6_firstOf s m args below meth c 0 0 (fun r => MQ below (xQi E (NT + 0) r) args s 0 0 (xA E)) 2 [(1, .int v1), (2, .int v2)] [] σ (bI (f_X6_has N v1 v2 (σ)) (fun r2 t1 => if r2 = 0 then (f_X6_firstOf_2 N n v1 (v2 + (1 : Int32)) t1) else (some (v2, t1))))
    refine jr_iload_n hG 0 dX6_firstOf_2 rfl rfl ?_
    refine jr_iload_n hG 1 dX6_firstOf_3 rfl rfl ?_
    refine jr_callSi (As := [.int v1, .int v2]) hG (c_X6_has l E N v1 v2 (σ)) ci_X6_has wd_932 wd_933 ⟨rfl, rfl, Nat.le_of_ble_eq_true rfl, Nat.le_of_ble_eq_true rfl⟩ rfl rfl (Nat.le_of_ble_eq_true rfl) dX6_firstOf_4 ⟨Nat.le_refl _, Nat.le_refl _⟩ (fun r2 t1 => ?_)
    refine jr_if_ne hG 16 dX6_firstOf_7 (by decide) (fun _ => ?_) (fun _ => ?_)
    · refine jr_iload_n hG 1 dX6_firstOf_16 rfl rfl ?_
      exact jr_iret hG hr hk dX6_firstOf_17
    · refine jr_iinc (v := v2 + (1 : Int32)) (lv' := [(2, .int (v2 + (1 : Int32))), (1, .int v1)]) hG 1 dX6_firstOf_10 rfl rfl (by decide) rfl ?_
      refine jr_goto hG 2 dX6_firstOf_13 (by decide) ?_
      refine jr_sub (lv' := [(1, .int v1), (2, .int (v2 + (1 : Int32)))]) [1, 0] rfl ?_
      exact ih v1 (v2 + (1 : Int32)) t1
def f_X6_firstOf (N : Nat) (a0 : Nat) (v1 : Int32) (σ : Mm) : Option (Int32 × Mm) := if okO 6 a0 then (f_X6_firstOf_2 N N v1 (0 : Int32) (σ)) else none
set_option maxRecDepth 20000 in
theorem c_X6_firstOf (l : Launch) (E : XE) (N : Nat) (a0 : Nat) (v1 : Int32) (σ : Mm) : ∀ r0, f_X6_firstOf N a0 v1 σ = some r0 → Met l yX6_firstOf [Cond.code yX6_firstOf cX6_firstOf 3 (some .int)] rm_X6_firstOf (xPc E (NT + 0) σ [.ref (E.B + a0), .int v1]) (xQi E (NT + 0) r0) 0 0 (xA E) := by
  refine met_of (N0 := NT) (by decide +kernel) (Nat.le_of_ble_eq_true rfl) ?_
  intro p e s m args below meth c hG hr hk _
  show JR E NT 3 p l e rm_X6_firstOf s m args below meth c 0 0 (fun r => MQ below (xQi E (NT + 0) r) args s 0 0 (xA E)) 0 [(0, .ref (E.B + a0)), (1, .int v1)] [] σ (if okO 6 a0 then (f_X6_firstOf_2 N N v1 (0 : Int32) (σ)) else none)
  refine jr_guard (fun ha0 => ?_)
  refine jr_iconst (v := (0 : Int32)) hG dX6_firstOf_0 (by decide) ?_
  refine jr_istore_n (lv' := [(2, .int (0 : Int32)), (0, .ref (E.B + a0)), (1, .int v1)]) hG dX6_firstOf_1 rfl (by decide) rfl ?_
  refine jr_sub (lv' := [(1, .int v1), (2, .int (0 : Int32))]) [2, 0] rfl ?_
  exact w_X6_firstOf_2 N hG hr hk N v1 (0 : Int32) (σ)
-- TonguesDealtModel.deals(I)V
abbrev rm_X6_deals : Room := { frames := 2, cells := 0, slots := 0, locals := 43 }
theorem ci_X6_deals : CIx yX6_deals cX6_deals 4 none 1 := ⟨wd_1107, wd_77, by decide +kernel⟩
def f_X6_deals_83 (N : Nat) (K30 : Nat → Int32 → Int32 → Mm → Option (Mm)) (a0 : Nat) (v2 : Int32) (v3 : Int32) (σ : Mm) : Option (Mm) := K30 a0 v2 (v3 + (1 : Int32)) (σ)
set_option maxRecDepth 20000 in
theorem w_X6_deals_83 {p : Program} {l : Launch} {e : Env} {s : State} {m : MethodId} {args : Array Value} {below : List Frame} {meth : Method} {c : Code} {E : XE} (N : Nat) (hG : GG E NT 4 RX6 cX6_deals p s m args c) (hr : meth.sig.returnType = none) (hk : meth.locks = false) {K30 : Nat → Int32 → Int32 → Mm → Option (Mm)} (hK30 : ∀ (a0 : Nat) (v2 : Int32) (v3 : Int32) (ha0 : okO 6 a0 = true) (σ : Mm), JR E NT 4 p l e rm_X6_deals s m args below meth c 0 0 (fun r => MQ below (xQv E (NT + 0) r) args s 0 0 (xA E)) 30 [(0, .ref (E.B + a0)), (2, .int v2), (3, .int v3)] [] σ (K30 a0 v2 v3 σ)) (a0 : Nat) (v2 : Int32) (v3 : Int32) (ha0 : okO 6 a0 = true) (σ : Mm) : JR E NT 4 p l e rm_X6_deals s m args below meth c 0 0 (fun r => MQ below (xQv E (NT + 0) r) args s 0 0 (xA E)) 83 [(0, .ref (E.B + a0)), (2, .int v2), (3, .int v3)] [] σ (f_X6_deals_83 N K30 a0 v2 v3 σ) := by
  show JR E NT 4 p l e rm_X6_deals s m args below meth c 0 0 (fun r => MQ below (xQv E (NT + 0) r) args s 0 0 (xA E)) 83 [(0, .ref (E.B + a0)), (2, .int v2), (3, .int v3)] [] σ (K30 a0 v2 (v3 + (1 : Int32)) (σ))
  refine jr_iinc (v := v3 + (1 : Int32)) (lv' := [(3, .int (v3 + (1 : Int32))), (0, .ref (E.B + a0)), (2, .int v2)]) hG 2 dX6_deals_83 rfl rfl (by decide) rfl ?_
  refine jr_goto hG 30 dX6_deals_86 (by decide) ?_
  refine jr_sub (lv' := [(0, .ref (E.B + a0)), (2, .int v2), (3, .int (v3 + (1 : Int32)))]) [1, 2, 0] rfl ?_
  exact hK30 a0 v2 (v3 + (1 : Int32)) ha0 (σ)
def f_X6_deals_30 (N : Nat)  : Nat → Nat → Int32 → Int32 → Mm → Option (Mm)
  | 0 => fun _ _ _ _ => none
  | n + 1 => fun a0 v2 v3 σ => if (gi σ a0 10) ≤ v3 then (some (σ)) else (bI (f_X6_isDealtAs N a0 v3 (σ)) (fun r5 t4 => if r5 = 0 then (bR (gr t4 a0 20) (okA 0) (fun o6 => if inb v3 (arL o6) then (lt (si t4 o6 (ix v3) (v2 - v2 / (4 : Int32) * (4 : Int32))) (fun t7 => lt (v2 / (4 : Int32)) (fun x8 => f_X6_deals_83 N (f_X6_deals_30 N n) a0 x8 v3 t7))) else none)) else (bR (gr t4 a0 20) (okA 0) (fun o9 => bR (gr t4 a0 20) (okA 0) (fun o10 => bR (gr t4 a0 12) (okA 0) (fun o11 => if inb v3 (arL o11) then (bI (f_X6_firstOf N a0 (gi t4 o11 (ix v3)) t4) (fun r13 t12 => if inb r13 (arL o10) then (if inb v3 (arL o9) then (lt (si t12 o9 (ix v3) (gi t12 o10 (ix r13))) (fun t14 => f_X6_deals_83 N (f_X6_deals_30 N n) a0 v2 v3 t14)) else none) else none)) else none))))))
set_option maxRecDepth 20000 in
theorem w_X6_deals_30 {p : Program} {l : Launch} {e : Env} {s : State} {m : MethodId} {args : Array Value} {below : List Frame} {meth : Method} {c : Code} {E : XE} (N : Nat) (hG : GG E NT 4 RX6 cX6_deals p s m args c) (hr : meth.sig.returnType = none) (hk : meth.locks = false)  : ∀ (n : Nat) (a0 : Nat) (v2 : Int32) (v3 : Int32) (ha0 : okO 6 a0 = true) (σ : Mm), JR E NT 4 p l e rm_X6_deals s m args below meth c 0 0 (fun r => MQ below (xQv E (NT + 0) r) args s 0 0 (xA E)) 30 [(0, .ref (E.B + a0)), (2, .int v2), (3, .int v3)] [] σ (f_X6_deals_30 N n a0 v2 v3 σ) := by
  intro n
  induction n with
  | zero => intro a0 v2 v3 ha0 σ r hX; cases hX
  | succ n ih =>
    intro a0 v2 v3 ha0 σ
    show JR E NT 4 p l e rm_X6_deals s m args below meth c 0 0 (fun r => MQ below (xQv E (NT + 0) r) args s 0 0 (xA E)) 30 [(0, .ref (E.B + a0)), (2, .int v2), (3, .int v3)] [] σ (if (gi σ a0 10) ≤ v3 then (some (σ)) else (bI (f_X6_isDealtAs N a0 v3 (σ)) (fun r5 t4 => if r5 = 0 then (bR (gr t4 a0 20) (okA 0) (fun o6 => if inb v3 (arL o6) then (lt (si t4 o6 (ix v3) (v2 - v2 / (4 : Int32) * (4 : Int32))) (fun t7 => lt (v2 / (4 : Int32)) (fun x8 => f_X6_deals_83 N (f_X6_deals_30 N n) a0 x8 v3 t7))) else none)) else (bR (gr t4 a0 20) (okA 0) (fun o9 => bR (gr t4 a0 20) (okA 0) (fun o10 => bR (gr t4 a0 12) (okA 0) (fun o11 => if inb v3 (arL o11) then (bI (f_X6_firstOf N a0 (gi t4 o11 (ix v3)) t4) (fun r13 t12 => if inb r13 (arL o10) then (if inb v3 (arL o9) then (lt (si t12 o9 (ix v3) (gi t12 o10 (ix r13))) (fun t14 => f_X6_deals_83 N (f_X6_deals_30 N n) a0 v2 v3 t14)) else none) else none)) else none)))))))
    refine jr_iload_n hG 2 dX6_deals_30 rfl rfl ?_
    refine jr_aload_n hG 0 dX6_deals_31 rfl rfl ?_
    refine jr_getI hG fi_RX6_147 rfl (okO_s ha0) (okO_l ha0) dX6_deals_32 ?_
    refine jr_icmp_ge hG 89 dX6_deals_35 (by decide) (fun _ => ?_) (fun _ => ?_)
    · exact jr_vret hG hr hk dX6_deals_89
    · refine jr_aload_n hG 0 dX6_deals_38 rfl rfl ?_
      refine jr_iload_n hG 2 dX6_deals_39 rfl rfl ?_
      refine jr_callVi (As := [.int v3]) hG (c_X6_isDealtAs l E N a0 v3 (σ)) ci_X6_isDealtAs wd_1100 ⟨wd_1102, wd_51⟩ cl_6 (okO_s ha0) (okO_l ha0) ⟨rfl, rfl, Nat.le_of_ble_eq_true rfl, Nat.le_of_ble_eq_true rfl⟩ rfl rfl (Nat.le_of_ble_eq_true rfl) dX6_deals_40 ⟨Nat.le_refl _, Nat.le_refl _⟩ (fun r5 t4 => ?_)
      refine jr_if_eq hG 70 dX6_deals_43 (by decide) (fun _ => ?_) (fun _ => ?_)
      · refine jr_aload_n hG 0 dX6_deals_70 rfl rfl ?_
        refine jr_getR hG fi_RX6_51 rfl (okO_s ha0) (okO_l ha0) dX6_deals_71 (fun o6 ho6 => ?_)
        refine jr_iload_n hG 2 dX6_deals_74 rfl rfl ?_
        refine jr_iload_n hG 1 dX6_deals_75 rfl rfl ?_
        refine jr_iconst (v := (4 : Int32)) hG dX6_deals_76 (by decide) ?_
        refine jr_iremc hG dX6_deals_77 (by decide) ?_
        refine jr_iast hG (okA_s (by decide) ho6) (okA_l ho6) dX6_deals_78 ?_
        refine jr_lets (fun t7 _ => ?_)
        refine jr_iload_n hG 1 dX6_deals_79 rfl rfl ?_
        refine jr_iconst (v := (4 : Int32)) hG dX6_deals_80 (by decide) ?_
        refine jr_idivc hG dX6_deals_81 (by decide) ?_
        refine jr_leti (fun x8 _ => ?_)
        refine jr_istore_n (lv' := [(2, .int x8), (0, .ref (E.B + a0)), (3, .int v3)]) hG dX6_deals_82 rfl (by decide) rfl ?_
        refine jr_sub (lv' := [(0, .ref (E.B + a0)), (2, .int x8), (3, .int v3)]) [1, 0, 2] rfl ?_
        exact w_X6_deals_83 N hG hr hk ih a0 x8 v3 ha0 t7
      · refine jr_aload_n hG 0 dX6_deals_46 rfl rfl ?_
        refine jr_getR hG fi_RX6_51 rfl (okO_s ha0) (okO_l ha0) dX6_deals_47 (fun o9 ho9 => ?_)
        refine jr_iload_n hG 2 dX6_deals_50 rfl rfl ?_
        refine jr_aload_n hG 0 dX6_deals_51 rfl rfl ?_
        refine jr_getR hG fi_RX6_51 rfl (okO_s ha0) (okO_l ha0) dX6_deals_52 (fun o10 ho10 => ?_)
        refine jr_aload_n hG 0 dX6_deals_55 rfl rfl ?_
        refine jr_aload_n hG 0 dX6_deals_56 rfl rfl ?_
        refine jr_getR hG fi_RX6_36 rfl (okO_s ha0) (okO_l ha0) dX6_deals_57 (fun o11 ho11 => ?_)
        refine jr_iload_n hG 2 dX6_deals_60 rfl rfl ?_
        refine jr_iald hG (okA_s (by decide) ho11) (okA_l ho11) dX6_deals_61 ?_
        refine jr_callVi (As := [.int (gi t4 o11 (ix v3))]) hG (c_X6_firstOf l E N a0 (gi t4 o11 (ix v3)) t4) ci_X6_firstOf wd_1108 ⟨wd_1110, wd_53⟩ cl_6 (okO_s ha0) (okO_l ha0) ⟨rfl, rfl, Nat.le_of_ble_eq_true rfl, Nat.le_of_ble_eq_true rfl⟩ rfl rfl (Nat.le_of_ble_eq_true rfl) dX6_deals_62 ⟨Nat.le_refl _, Nat.le_refl _⟩ (fun r13 t12 => ?_)
        refine jr_iald hG (okA_s (by decide) ho10) (okA_l ho10) dX6_deals_65 ?_
        refine jr_iast hG (okA_s (by decide) ho9) (okA_l ho9) dX6_deals_66 ?_
        refine jr_lets (fun t14 _ => ?_)
        refine jr_goto hG 83 dX6_deals_67 (by decide) ?_
        exact w_X6_deals_83 N hG hr hk ih a0 v2 v3 ha0 t14
def f_X6_deals_4 (N : Nat)  : Nat → Nat → Int32 → Int32 → Mm → Option (Mm)
  | 0 => fun _ _ _ _ => none
  | n + 1 => fun a0 v2 v3 σ => if (14 : Int32) ≤ v3 then (f_X6_deals_30 N N a0 v2 (0 : Int32) (σ)) else (bR (gr σ a0 20) (okA 0) (fun o1 => bR (gr σ a0 19) (okA 0) (fun o2 => if inb v3 (arL o2) then (if inb v3 (arL o1) then (lt (si σ o1 (ix v3) (gi σ o2 (ix v3))) (fun t3 => f_X6_deals_4 N n a0 v2 (v3 + (1 : Int32)) t3)) else none) else none)))
set_option maxRecDepth 20000 in
theorem w_X6_deals_4 {p : Program} {l : Launch} {e : Env} {s : State} {m : MethodId} {args : Array Value} {below : List Frame} {meth : Method} {c : Code} {E : XE} (N : Nat) (hG : GG E NT 4 RX6 cX6_deals p s m args c) (hr : meth.sig.returnType = none) (hk : meth.locks = false)  : ∀ (n : Nat) (a0 : Nat) (v2 : Int32) (v3 : Int32) (ha0 : okO 6 a0 = true) (σ : Mm), JR E NT 4 p l e rm_X6_deals s m args below meth c 0 0 (fun r => MQ below (xQv E (NT + 0) r) args s 0 0 (xA E)) 4 [(0, .ref (E.B + a0)), (2, .int v2), (3, .int v3)] [] σ (f_X6_deals_4 N n a0 v2 v3 σ) := by
  intro n
  induction n with
  | zero => intro a0 v2 v3 ha0 σ r hX; cases hX
  | succ n ih =>
    intro a0 v2 v3 ha0 σ
    show JR E NT 4 p l e rm_X6_deals s m args below meth c 0 0 (fun r => MQ below (xQv E (NT + 0) r) args s 0 0 (xA E)) 4 [(0, .ref (E.B + a0)), (2, .int v2), (3, .int v3)] [] σ (if (14 : Int32) ≤ v3 then (f_X6_deals_30 N N a0 v2 (0 : Int32) (σ)) else (bR (gr σ a0 20) (okA 0) (fun o1 => bR (gr σ a0 19) (okA 0) (fun o2 => if inb v3 (arL o2) then (if inb v3 (arL o1) then (lt (si σ o1 (ix v3) (gi σ o2 (ix v3))) (fun t3 => f_X6_deals_4 N n a0 v2 (v3 + (1 : Int32)) t3)) else none) else none))))
    refine jr_iload_n hG 2 dX6_deals_4 rfl rfl ?_
    refine jr_bipush (v := (14 : Int32)) hG dX6_deals_5 (by decide) ?_
    refine jr_icmp_ge hG 28 dX6_deals_7 (by decide) (fun _ => ?_) (fun _ => ?_)
    · refine jr_iconst (v := (0 : Int32)) hG dX6_deals_28 (by decide) ?_
      refine jr_istore_n (lv' := [(3, .int (0 : Int32)), (0, .ref (E.B + a0)), (2, .int v2)]) hG dX6_deals_29 rfl (by decide) rfl ?_
      refine jr_sub (lv' := [(0, .ref (E.B + a0)), (2, .int v2), (3, .int (0 : Int32))]) [1, 2, 0] rfl ?_
      exact w_X6_deals_30 N hG hr hk N a0 v2 (0 : Int32) ha0 (σ)
    · refine jr_aload_n hG 0 dX6_deals_10 rfl rfl ?_
      refine jr_getR hG fi_RX6_51 rfl (okO_s ha0) (okO_l ha0) dX6_deals_11 (fun o1 ho1 => ?_)
      refine jr_iload_n hG 2 dX6_deals_14 rfl rfl ?_
      refine jr_aload_n hG 0 dX6_deals_15 rfl rfl ?_
      refine jr_getR hG fi_RX6_48 rfl (okO_s ha0) (okO_l ha0) dX6_deals_16 (fun o2 ho2 => ?_)
      refine jr_iload_n hG 2 dX6_deals_19 rfl rfl ?_
      refine jr_iald hG (okA_s (by decide) ho2) (okA_l ho2) dX6_deals_20 ?_
      refine jr_iast hG (okA_s (by decide) ho1) (okA_l ho1) dX6_deals_21 ?_
      refine jr_lets (fun t3 _ => ?_)
      refine jr_iinc (v := v3 + (1 : Int32)) (lv' := [(3, .int (v3 + (1 : Int32))), (0, .ref (E.B + a0)), (2, .int v2)]) hG 2 dX6_deals_22 rfl rfl (by decide) rfl ?_
      refine jr_goto hG 4 dX6_deals_25 (by decide) ?_
      refine jr_sub (lv' := [(0, .ref (E.B + a0)), (2, .int v2), (3, .int (v3 + (1 : Int32)))]) [1, 2, 0] rfl ?_
      exact ih a0 v2 (v3 + (1 : Int32)) ha0 t3
def f_X6_deals (N : Nat) (a0 : Nat) (v1 : Int32) (σ : Mm) : Option (Mm) := if okO 6 a0 then (f_X6_deals_4 N N a0 v1 (0 : Int32) (σ)) else none
set_option maxRecDepth 20000 in
theorem c_X6_deals (l : Launch) (E : XE) (N : Nat) (a0 : Nat) (v1 : Int32) (σ : Mm) : ∀ r0, f_X6_deals N a0 v1 σ = some r0 → Met l yX6_deals [Cond.code yX6_deals cX6_deals 4 none] rm_X6_deals (xPc E (NT + 0) σ [.ref (E.B + a0), .int v1]) (xQv E (NT + 0) r0) 0 0 (xA E) := by
  refine met_of (N0 := NT) (by decide +kernel) (Nat.le_of_ble_eq_true rfl) ?_
  intro p e s m args below meth c hG hr hk _
  show JR E NT 4 p l e rm_X6_deals s m args below meth c 0 0 (fun r => MQ below (xQv E (NT + 0) r) args s 0 0 (xA E)) 0 [(0, .ref (E.B + a0)), (1, .int v1)] [] σ (if okO 6 a0 then (f_X6_deals_4 N N a0 v1 (0 : Int32) (σ)) else none)
  refine jr_guard (fun ha0 => ?_)
  refine jr_iload_n hG 1 dX6_deals_0 rfl rfl ?_
  refine jr_istore_n (lv' := [(2, .int v1), (0, .ref (E.B + a0)), (1, .int v1)]) hG dX6_deals_1 rfl (by decide) rfl ?_
  refine jr_iconst (v := (0 : Int32)) hG dX6_deals_2 (by decide) ?_
  refine jr_istore_n (lv' := [(3, .int (0 : Int32)), (2, .int v1), (0, .ref (E.B + a0)), (1, .int v1)]) hG dX6_deals_3 rfl (by decide) rfl ?_
  refine jr_sub (lv' := [(0, .ref (E.B + a0)), (2, .int v1), (3, .int (0 : Int32))]) [2, 1, 0] rfl ?_
  exact w_X6_deals_4 N hG hr hk N a0 v1 (0 : Int32) ha0 (σ)
-- TonguesDealtModel.layDeals()V
abbrev rm_X6_layDeals : Room := { frames := 5, cells := 0, slots := 0, locals := 112 }
theorem ci_X6_layDeals : CIx yX6_layDeals cX6_layDeals 3 none 0 := ⟨wd_1095, wd_77, by decide +kernel⟩
def f_X6_layDeals_25 (N : Nat) (K2 : Nat → Int32 → Mm → Option (Mm)) : Nat → Nat → Int32 → Int32 → Mm → Option (Mm)
  | 0 => fun _ _ _ _ => none
  | n + 1 => fun a0 v1 v2 σ => if (gi σ a0 10) ≤ v2 then (K2 a0 (v1 + (1 : Int32)) (σ)) else (bR (gr σ a0 29) (okA 0) (fun o6 => bR (gr σ a0 21) (okA 0) (fun o7 => if inb v2 (arL o7) then (if inb (((6 : Int32) * v1) + v2) (arL o6) then (lt (si σ o6 (ix (((6 : Int32) * v1) + v2)) (gi σ o7 (ix v2))) (fun t8 => f_X6_layDeals_25 N K2 n a0 v1 (v2 + (1 : Int32)) t8)) else none) else none)))
set_option maxRecDepth 20000 in
theorem w_X6_layDeals_25 {p : Program} {l : Launch} {e : Env} {s : State} {m : MethodId} {args : Array Value} {below : List Frame} {meth : Method} {c : Code} {E : XE} (N : Nat) (hG : GG E NT 3 RX6 cX6_layDeals p s m args c) (hr : meth.sig.returnType = none) (hk : meth.locks = false) {K2 : Nat → Int32 → Mm → Option (Mm)} (hK2 : ∀ (a0 : Nat) (v1 : Int32) (ha0 : okO 6 a0 = true) (σ : Mm), JR E NT 3 p l e rm_X6_layDeals s m args below meth c 0 0 (fun r => MQ below (xQv E (NT + 0) r) args s 0 0 (xA E)) 2 [(0, .ref (E.B + a0)), (1, .int v1)] [] σ (K2 a0 v1 σ)) : ∀ (n : Nat) (a0 : Nat) (v1 : Int32) (v2 : Int32) (ha0 : okO 6 a0 = true) (σ : Mm), JR E NT 3 p l e rm_X6_layDeals s m args below meth c 0 0 (fun r => MQ below (xQv E (NT + 0) r) args s 0 0 (xA E)) 25 [(0, .ref (E.B + a0)), (1, .int v1), (2, .int v2)] [] σ (f_X6_layDeals_25 N K2 n a0 v1 v2 σ) := by
  intro n
  induction n with
  | zero => intro a0 v1 v2 ha0 σ r hX; cases hX
  | succ n ih =>
    intro a0 v1 v2 ha0 σ
    show JR E NT 3 p l e rm_X6_layDeals s m args below meth c 0 0 (fun r => MQ below (xQv E (NT + 0) r) args s 0 0 (xA E)) 25 [(0, .ref (E.B + a0)), (1, .int v1), (2, .int v2)] [] σ (if (gi σ a0 10) ≤ v2 then (K2 a0 (v1 + (1 : Int32)) (σ)) else (bR (gr σ a0 29) (okA 0) (fun o6 => bR (gr σ a0 21) (okA 0) (fun o7 => if inb v2 (arL o7) then (if inb (((6 : Int32) * v1) + v2) (arL o6) then (lt (si σ o6 (ix (((6 : Int32) * v1) + v2)) (gi σ o7 (ix v2))) (fun t8 => f_X6_layDeals_25 N K2 n a0 v1 (v2 + (1 : Int32)) t8)) else none) else none))))
    refine jr_iload_n hG 2 dX6_layDeals_25 rfl rfl ?_
    refine jr_aload_n hG 0 dX6_layDeals_26 rfl rfl ?_
    refine jr_getI hG fi_RX6_147 rfl (okO_s ha0) (okO_l ha0) dX6_layDeals_27 ?_
    refine jr_icmp_ge hG 56 dX6_layDeals_30 (by decide) (fun _ => ?_) (fun _ => ?_)
    · refine jr_iinc (v := v1 + (1 : Int32)) (lv' := [(1, .int (v1 + (1 : Int32))), (0, .ref (E.B + a0)), (2, .int v2)]) hG 1 dX6_layDeals_56 rfl rfl (by decide) rfl ?_
      refine jr_goto hG 2 dX6_layDeals_59 (by decide) ?_
      refine jr_sub (lv' := [(0, .ref (E.B + a0)), (1, .int (v1 + (1 : Int32)))]) [1, 0] rfl ?_
      exact hK2 a0 (v1 + (1 : Int32)) ha0 (σ)
    · refine jr_aload_n hG 0 dX6_layDeals_33 rfl rfl ?_
      refine jr_getR hG fi_RX6_76 rfl (okO_s ha0) (okO_l ha0) dX6_layDeals_34 (fun o6 ho6 => ?_)
      refine jr_bipush (v := (6 : Int32)) hG dX6_layDeals_37 (by decide) ?_
      refine jr_iload_n hG 1 dX6_layDeals_39 rfl rfl ?_
      refine jr_imul hG dX6_layDeals_40 ?_
      refine jr_iload_n hG 2 dX6_layDeals_41 rfl rfl ?_
      refine jr_iadd hG dX6_layDeals_42 ?_
      refine jr_aload_n hG 0 dX6_layDeals_43 rfl rfl ?_
      refine jr_getR hG fi_RX6_54 rfl (okO_s ha0) (okO_l ha0) dX6_layDeals_44 (fun o7 ho7 => ?_)
      refine jr_iload_n hG 2 dX6_layDeals_47 rfl rfl ?_
      refine jr_iald hG (okA_s (by decide) ho7) (okA_l ho7) dX6_layDeals_48 ?_
      refine jr_iast hG (okA_s (by decide) ho6) (okA_l ho6) dX6_layDeals_49 ?_
      refine jr_lets (fun t8 _ => ?_)
      refine jr_iinc (v := v2 + (1 : Int32)) (lv' := [(2, .int (v2 + (1 : Int32))), (0, .ref (E.B + a0)), (1, .int v1)]) hG 2 dX6_layDeals_50 rfl rfl (by decide) rfl ?_
      refine jr_goto hG 25 dX6_layDeals_53 (by decide) ?_
      refine jr_sub (lv' := [(0, .ref (E.B + a0)), (1, .int v1), (2, .int (v2 + (1 : Int32)))]) [1, 2, 0] rfl ?_
      exact ih a0 v1 (v2 + (1 : Int32)) ha0 t8
def f_X6_layDeals_2 (N : Nat)  : Nat → Nat → Int32 → Mm → Option (Mm)
  | 0 => fun _ _ _ => none
  | n + 1 => fun a0 v1 σ => bI (f_X6_dealMany N a0 (σ)) (fun r2 t1 => if r2 ≤ v1 then (some t1) else (bV (f_X6_deals N a0 v1 t1) (fun t3 => bR (gr t3 a0 20) (okA 0) (fun o4 => bV (f_X6_layTells N a0 o4 t3) (fun t5 => f_X6_layDeals_25 N (f_X6_layDeals_2 N n) N a0 v1 (0 : Int32) t5)))))
set_option maxRecDepth 20000 in
theorem w_X6_layDeals_2 {p : Program} {l : Launch} {e : Env} {s : State} {m : MethodId} {args : Array Value} {below : List Frame} {meth : Method} {c : Code} {E : XE} (N : Nat) (hG : GG E NT 3 RX6 cX6_layDeals p s m args c) (hr : meth.sig.returnType = none) (hk : meth.locks = false)  : ∀ (n : Nat) (a0 : Nat) (v1 : Int32) (ha0 : okO 6 a0 = true) (σ : Mm), JR E NT 3 p l e rm_X6_layDeals s m args below meth c 0 0 (fun r => MQ below (xQv E (NT + 0) r) args s 0 0 (xA E)) 2 [(0, .ref (E.B + a0)), (1, .int v1)] [] σ (f_X6_layDeals_2 N n a0 v1 σ) := by
  intro n
  induction n with
  | zero => intro a0 v1 ha0 σ r hX; cases hX
  | succ n ih =>
    intro a0 v1 ha0 σ
    show JR E NT 3 p l e rm_X6_layDeals s m args below meth c 0 0 (fun r => MQ below (xQv E (NT + 0) r) args s 0 0 (xA E)) 2 [(0, .ref (E.B + a0)), (1, .int v1)] [] σ (bI (f_X6_dealMany N a0 (σ)) (fun r2 t1 => if r2 ≤ v1 then (some t1) else (bV (f_X6_deals N a0 v1 t1) (fun t3 => bR (gr t3 a0 20) (okA 0) (fun o4 => bV (f_X6_layTells N a0 o4 t3) (fun t5 => f_X6_layDeals_25 N (f_X6_layDeals_2 N n) N a0 v1 (0 : Int32) t5))))))
    refine jr_iload_n hG 1 dX6_layDeals_2 rfl rfl ?_
    refine jr_aload_n hG 0 dX6_layDeals_3 rfl rfl ?_
    refine jr_callVi (As := []) hG (c_X6_dealMany l E N a0 (σ)) ci_X6_dealMany wd_1096 ⟨wd_1098, wd_50⟩ cl_6 (okO_s ha0) (okO_l ha0) ⟨rfl, rfl, Nat.le_of_ble_eq_true rfl, Nat.le_of_ble_eq_true rfl⟩ rfl rfl (Nat.le_of_ble_eq_true rfl) dX6_layDeals_4 ⟨Nat.le_refl _, Nat.le_refl _⟩ (fun r2 t1 => ?_)
    refine jr_icmp_ge hG 62 dX6_layDeals_7 (by decide) (fun _ => ?_) (fun _ => ?_)
    · exact jr_vret hG hr hk dX6_layDeals_62
    · refine jr_aload_n hG 0 dX6_layDeals_10 rfl rfl ?_
      refine jr_iload_n hG 1 dX6_layDeals_11 rfl rfl ?_
      refine jr_callVv (As := [.int v1]) hG (c_X6_deals l E N a0 v1 t1) ci_X6_deals wd_1104 ⟨wd_1106, wd_52⟩ cl_6 (okO_s ha0) (okO_l ha0) ⟨rfl, rfl, Nat.le_of_ble_eq_true rfl, Nat.le_of_ble_eq_true rfl⟩ rfl rfl (Nat.le_of_ble_eq_true rfl) dX6_layDeals_12 ⟨Nat.le_refl _, Nat.le_refl _⟩ (fun t3 => ?_)
      refine jr_aload_n hG 0 dX6_layDeals_15 rfl rfl ?_
      refine jr_aload_n hG 0 dX6_layDeals_16 rfl rfl ?_
      refine jr_getR hG fi_RX6_51 rfl (okO_s ha0) (okO_l ha0) dX6_layDeals_17 (fun o4 ho4 => ?_)
      refine jr_callVv (As := [.ref (E.B + o4)]) hG (c_X6_layTells l E N a0 o4 t3) ci_X6_layTells wd_1048 ⟨wd_1050, wd_43⟩ cl_6 (okO_s ha0) (okO_l ha0) ⟨rfl, rfl, Nat.le_of_ble_eq_true rfl, Nat.le_of_ble_eq_true rfl⟩ rfl rfl (Nat.le_of_ble_eq_true rfl) dX6_layDeals_20 ⟨Nat.le_refl _, Nat.le_refl _⟩ (fun t5 => ?_)
      refine jr_iconst (v := (0 : Int32)) hG dX6_layDeals_23 (by decide) ?_
      refine jr_istore_n (lv' := [(2, .int (0 : Int32)), (0, .ref (E.B + a0)), (1, .int v1)]) hG dX6_layDeals_24 rfl (by decide) rfl ?_
      refine jr_sub (lv' := [(0, .ref (E.B + a0)), (1, .int v1), (2, .int (0 : Int32))]) [1, 2, 0] rfl ?_
      exact w_X6_layDeals_25 N hG hr hk ih N a0 v1 (0 : Int32) ha0 t5
def f_X6_layDeals (N : Nat) (a0 : Nat) (σ : Mm) : Option (Mm) := if okO 6 a0 then (f_X6_layDeals_2 N N a0 (0 : Int32) (σ)) else none
set_option maxRecDepth 20000 in
theorem c_X6_layDeals (l : Launch) (E : XE) (N : Nat) (a0 : Nat) (σ : Mm) : ∀ r0, f_X6_layDeals N a0 σ = some r0 → Met l yX6_layDeals [Cond.code yX6_layDeals cX6_layDeals 3 none] rm_X6_layDeals (xPc E (NT + 0) σ [.ref (E.B + a0)]) (xQv E (NT + 0) r0) 0 0 (xA E) := by
  refine met_of (N0 := NT) (by decide +kernel) (Nat.le_of_ble_eq_true rfl) ?_
  intro p e s m args below meth c hG hr hk _
  show JR E NT 3 p l e rm_X6_layDeals s m args below meth c 0 0 (fun r => MQ below (xQv E (NT + 0) r) args s 0 0 (xA E)) 0 [(0, .ref (E.B + a0))] [] σ (if okO 6 a0 then (f_X6_layDeals_2 N N a0 (0 : Int32) (σ)) else none)
  refine jr_guard (fun ha0 => ?_)
  refine jr_iconst (v := (0 : Int32)) hG dX6_layDeals_0 (by decide) ?_
  refine jr_istore_n (lv' := [(1, .int (0 : Int32)), (0, .ref (E.B + a0))]) hG dX6_layDeals_1 rfl (by decide) rfl ?_
  refine jr_sub (lv' := [(0, .ref (E.B + a0)), (1, .int (0 : Int32))]) [1, 0] rfl ?_
  exact w_X6_layDeals_2 N hG hr hk N a0 (0 : Int32) ha0 (σ)
