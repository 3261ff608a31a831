-- TonguesDealt.houses(I)I
abbrev rm_X5_houses : Room := { frames := 2, cells := 0, slots := 0, locals := 43 }
theorem ci_X5_houses : CIx yX5_houses cX5_houses 8 (some .int) 1 := ⟨wd_616, wd_71, by decide +kernel⟩
def f_X5_houses_120 (N : Nat) (K46 : Nat → Int32 → Int32 → Int32 → Int32 → Int32 → Mm → Option (Int32 × Mm)) (K64 : Nat → Int32 → Int32 → Int32 → Int32 → Int32 → Int32 → Mm → Option (Int32 × Mm)) (a0 : Nat) (v1 : Int32) (v3 : Int32) (v4 : Int32) (v5 : Int32) (v6 : Int32) (v7 : Int32) (σ : Mm) : Option (Int32 × Mm) := K64 a0 v1 v3 v4 v5 v6 (v7 + (1 : Int32)) (σ)
set_option maxRecDepth 20000 in
theorem w_X5_houses_120 {p : Program} {l : Launch} {e : Env} {s : State} {m : MethodId} {args : Array Value} {below : List Frame} {meth : Method} {c : Code} {E : XE} (N : Nat) (hG : GG E NT 8 RX5 cX5_houses p s m args c) (hr : meth.sig.returnType = (some .int)) (hk : meth.locks = false) {K46 : Nat → Int32 → Int32 → Int32 → Int32 → Int32 → Mm → Option (Int32 × Mm)} (hK46 : ∀ (a0 : Nat) (v1 : Int32) (v3 : Int32) (v4 : Int32) (v5 : Int32) (v6 : Int32) (ha0 : okO 5 a0 = true) (σ : Mm), JR E NT 8 p l e rm_X5_houses s m args below meth c 0 0 (fun r => MQ below (xQi E (NT + 0) r) args s 0 0 (xA E)) 46 [(0, .ref (E.B + a0)), (1, .int v1), (3, .int v3), (4, .int v4), (5, .int v5), (6, .int v6)] [] σ (K46 a0 v1 v3 v4 v5 v6 σ)) {K64 : Nat → Int32 → Int32 → Int32 → Int32 → Int32 → Int32 → Mm → Option (Int32 × Mm)} (hK64 : ∀ (a0 : Nat) (v1 : Int32) (v3 : Int32) (v4 : Int32) (v5 : Int32) (v6 : Int32) (v7 : Int32) (ha0 : okO 5 a0 = true) (σ : Mm), JR E NT 8 p l e rm_X5_houses s m args below meth c 0 0 (fun r => MQ below (xQi E (NT + 0) r) args s 0 0 (xA E)) 64 [(0, .ref (E.B + a0)), (1, .int v1), (3, .int v3), (4, .int v4), (5, .int v5), (6, .int v6), (7, .int v7)] [] σ (K64 a0 v1 v3 v4 v5 v6 v7 σ)) (a0 : Nat) (v1 : Int32) (v3 : Int32) (v4 : Int32) (v5 : Int32) (v6 : Int32) (v7 : Int32) (ha0 : okO 5 a0 = true) (σ : Mm) : JR E NT 8 p l e rm_X5_houses s m args below meth c 0 0 (fun r => MQ below (xQi E (NT + 0) r) args s 0 0 (xA E)) 120 [(0, .ref (E.B + a0)), (1, .int v1), (3, .int v3), (4, .int v4), (5, .int v5), (6, .int v6), (7, .int v7)] [] σ (f_X5_houses_120 N K46 K64 a0 v1 v3 v4 v5 v6 v7 σ) := by
  show JR E NT 8 p l e rm_X5_houses s m args below meth c 0 0 (fun r => MQ below (xQi E (NT + 0) r) args s 0 0 (xA E)) 120 [(0, .ref (E.B + a0)), (1, .int v1), (3, .int v3), (4, .int v4), (5, .int v5), (6, .int v6), (7, .int v7)] [] σ (K64 a0 v1 v3 v4 v5 v6 (v7 + (1 : Int32)) (σ))
  refine jr_iinc (v := v7 + (1 : Int32)) (lv' := [(7, .int (v7 + (1 : Int32))), (0, .ref (E.B + a0)), (1, .int v1), (3, .int v3), (4, .int v4), (5, .int v5), (6, .int v6)]) hG 6 dX5_houses_120 rfl rfl (by decide) rfl ?_
  refine jr_goto hG 64 dX5_houses_123 (by decide) ?_
  refine jr_sub (lv' := [(0, .ref (E.B + a0)), (1, .int v1), (3, .int v3), (4, .int v4), (5, .int v5), (6, .int v6), (7, .int (v7 + (1 : Int32)))]) [1, 2, 3, 4, 5, 6, 0] rfl ?_
  exact hK64 a0 v1 v3 v4 v5 v6 (v7 + (1 : Int32)) ha0 (σ)
def f_X5_houses_64 (N : Nat) (K46 : Nat → Int32 → Int32 → Int32 → Int32 → Int32 → Mm → Option (Int32 × Mm)) : Nat → Nat → Int32 → Int32 → Int32 → Int32 → Int32 → Int32 → Mm → Option (Int32 × Mm)
  | 0 => fun _ _ _ _ _ _ _ _ => none
  | n + 1 => fun a0 v1 v3 v4 v5 v6 v7 σ => bR (gr σ a0 6) (okO 2) (fun o14 => if (gi σ o14 8) ≤ v7 then (K46 a0 v1 v3 v4 v5 (v6 + (1 : Int32)) (σ)) else (bR (gr σ a0 0) (okA 3) (fun o15 => if inb v1 (arL o15) then (bR (gr σ o15 (ix v1)) (okO 3) (fun o16 => bR (gr σ a0 6) (okO 2) (fun o17 => bI (f_X3_alwaysAlike N o16 v6 v7 (gi σ o17 8) v3 (σ)) (fun r19 t18 => if r19 = 0 then (f_X5_houses_120 N K46 (f_X5_houses_64 N K46 n) a0 v1 v3 v4 v5 v6 v7 t18) else (lt (v5 ||| (((1 : Int32) <<< (v6 &&& 31)) ||| ((1 : Int32) <<< (v7 &&& 31)))) (fun x20 => f_X5_houses_120 N K46 (f_X5_houses_64 N K46 n) a0 v1 v3 (v4 + (1 : Int32)) x20 v6 v7 t18)))))) else none)))
set_option maxRecDepth 20000 in
theorem w_X5_houses_64 {p : Program} {l : Launch} {e : Env} {s : State} {m : MethodId} {args : Array Value} {below : List Frame} {meth : Method} {c : Code} {E : XE} (N : Nat) (hG : GG E NT 8 RX5 cX5_houses p s m args c) (hr : meth.sig.returnType = (some .int)) (hk : meth.locks = false) {K46 : Nat → Int32 → Int32 → Int32 → Int32 → Int32 → Mm → Option (Int32 × Mm)} (hK46 : ∀ (a0 : Nat) (v1 : Int32) (v3 : Int32) (v4 : Int32) (v5 : Int32) (v6 : Int32) (ha0 : okO 5 a0 = true) (σ : Mm), JR E NT 8 p l e rm_X5_houses s m args below meth c 0 0 (fun r => MQ below (xQi E (NT + 0) r) args s 0 0 (xA E)) 46 [(0, .ref (E.B + a0)), (1, .int v1), (3, .int v3), (4, .int v4), (5, .int v5), (6, .int v6)] [] σ (K46 a0 v1 v3 v4 v5 v6 σ)) : ∀ (n : Nat) (a0 : Nat) (v1 : Int32) (v3 : Int32) (v4 : Int32) (v5 : Int32) (v6 : Int32) (v7 : Int32) (ha0 : okO 5 a0 = true) (σ : Mm), JR E NT 8 p l e rm_X5_houses s m args below meth c 0 0 (fun r => MQ below (xQi E (NT + 0) r) args s 0 0 (xA E)) 64 [(0, .ref (E.B + a0)), (1, .int v1), (3, .int v3), (4, .int v4), (5, .int v5), (6, .int v6), (7, .int v7)] [] σ (f_X5_houses_64 N K46 n a0 v1 v3 v4 v5 v6 v7 σ) := by
  intro n
  induction n with
  | zero => intro a0 v1 v3 v4 v5 v6 v7 ha0 σ r hX; cases hX
  | succ n ih =>
    intro a0 v1 v3 v4 v5 v6 v7 ha0 σ
    show JR E NT 8 p l e rm_X5_houses s m args below meth c 0 0 (fun r => MQ below (xQi E (NT + 0) r) args s 0 0 (xA E)) 64 [(0, .ref (E.B + a0)), (1, .int v1), (3, .int v3), (4, .int v4), (5, .int v5), (6, .int v6), (7, .int v7)] [] σ (bR (gr σ a0 6) (okO 2) (fun o14 => if (gi σ o14 8) ≤ v7 then (K46 a0 v1 v3 v4 v5 (v6 + (1 : Int32)) (σ)) else (bR (gr σ a0 0) (okA 3) (fun o15 => if inb v1 (arL o15) then (bR (gr σ o15 (ix v1)) (okO 3) (fun o16 => bR (gr σ a0 6) (okO 2) (fun o17 => bI (f_X3_alwaysAlike N o16 v6 v7 (gi σ o17 8) v3 (σ)) (fun r19 t18 => if r19 = 0 then (f_X5_houses_120 N K46 (f_X5_houses_64 N K46 n) a0 v1 v3 v4 v5 v6 v7 t18) else (lt (v5 ||| (((1 : Int32) <<< (v6 &&& 31)) ||| ((1 : Int32) <<< (v7 &&& 31)))) (fun x20 => f_X5_houses_120 N K46 (f_X5_houses_64 N K46 n) a0 v1 v3 (v4 + (1 : Int32)) x20 v6 v7 t18)))))) else none))))
    refine jr_iload hG 6 dX5_houses_64 rfl ?_
    refine jr_aload_n hG 0 dX5_houses_66 rfl rfl ?_
    refine jr_getR hG fi_RX5_45 rfl (okO_s ha0) (okO_l ha0) dX5_houses_67 (fun o14 ho14 => ?_)
    refine jr_getI hG fi_RX5_127 rfl (okO_s ho14) (okO_l ho14) dX5_houses_70 ?_
    refine jr_icmp_ge hG 126 dX5_houses_73 (by decide) (fun _ => ?_) (fun _ => ?_)
    · refine jr_iinc (v := v6 + (1 : Int32)) (lv' := [(6, .int (v6 + (1 : Int32))), (0, .ref (E.B + a0)), (1, .int v1), (3, .int v3), (4, .int v4), (5, .int v5), (7, .int v7)]) hG 5 dX5_houses_126 rfl rfl (by decide) rfl ?_
      refine jr_goto hG 46 dX5_houses_129 (by decide) ?_
      refine jr_sub (lv' := [(0, .ref (E.B + a0)), (1, .int v1), (3, .int v3), (4, .int v4), (5, .int v5), (6, .int (v6 + (1 : Int32)))]) [1, 2, 3, 4, 5, 0] rfl ?_
      exact hK46 a0 v1 v3 v4 v5 (v6 + (1 : Int32)) ha0 (σ)
    · refine jr_aload_n hG 0 dX5_houses_76 rfl rfl ?_
      refine jr_getR hG fi_RX5_11 rfl (okO_s ha0) (okO_l ha0) dX5_houses_77 (fun o15 ho15 => ?_)
      refine jr_iload_n hG 1 dX5_houses_80 rfl rfl ?_
      refine jr_aald hG (okA_s (by decide) ho15) (by decide) rfl (okA_l ho15) dX5_houses_81 (fun o16 ho16 => ?_)
      refine jr_iload hG 5 dX5_houses_82 rfl ?_
      refine jr_iload hG 6 dX5_houses_84 rfl ?_
      refine jr_aload_n hG 0 dX5_houses_86 rfl rfl ?_
      refine jr_getR hG fi_RX5_45 rfl (okO_s ha0) (okO_l ha0) dX5_houses_87 (fun o17 ho17 => ?_)
      refine jr_getI hG fi_RX5_127 rfl (okO_s ho17) (okO_l ho17) dX5_houses_90 ?_
      refine jr_iload_n hG 2 dX5_houses_93 rfl rfl ?_
      refine jr_callVi (As := [.int v6, .int v7, .int (gi σ o17 8), .int v3]) hG (c_X3_alwaysAlike l E N o16 v6 v7 (gi σ o17 8) v3 (σ)) ci_X3_alwaysAlike wd_625 ⟨wd_626, wd_627⟩ cl_3 (okO_s ho16) (okO_l ho16) ⟨rfl, rfl, Nat.le_of_ble_eq_true rfl, Nat.le_of_ble_eq_true rfl⟩ rfl rfl (Nat.le_of_ble_eq_true rfl) dX5_houses_94 ⟨Nat.le_refl _, Nat.le_refl _⟩ (fun r19 t18 => ?_)
      refine jr_if_ne hG 103 dX5_houses_97 (by decide) (fun _ => ?_) (fun _ => ?_)
      · refine jr_iinc (v := v4 + (1 : Int32)) (lv' := [(4, .int (v4 + (1 : Int32))), (0, .ref (E.B + a0)), (1, .int v1), (3, .int v3), (5, .int v5), (6, .int v6), (7, .int v7)]) hG 3 dX5_houses_103 rfl rfl (by decide) rfl ?_
        refine jr_iload hG 4 dX5_houses_106 rfl ?_
        refine jr_iconst (v := (1 : Int32)) hG dX5_houses_108 (by decide) ?_
        refine jr_iload hG 5 dX5_houses_109 rfl ?_
        refine jr_ishl hG dX5_houses_111 ?_
        refine jr_iconst (v := (1 : Int32)) hG dX5_houses_112 (by decide) ?_
        refine jr_iload hG 6 dX5_houses_113 rfl ?_
        refine jr_ishl hG dX5_houses_115 ?_
        refine jr_ior hG dX5_houses_116 ?_
        refine jr_ior hG dX5_houses_117 ?_
        refine jr_leti (fun x20 _ => ?_)
        refine jr_istore (lv' := [(5, .int x20), (4, .int (v4 + (1 : Int32))), (0, .ref (E.B + a0)), (1, .int v1), (3, .int v3), (6, .int v6), (7, .int v7)]) hG dX5_houses_118 (by decide) rfl ?_
        refine jr_sub (lv' := [(0, .ref (E.B + a0)), (1, .int v1), (3, .int v3), (4, .int (v4 + (1 : Int32))), (5, .int x20), (6, .int v6), (7, .int v7)]) [2, 3, 4, 1, 0, 5, 6] rfl ?_
        exact w_X5_houses_120 N hG hr hk hK46 ih a0 v1 v3 (v4 + (1 : Int32)) x20 v6 v7 ha0 t18
      · refine jr_goto hG 120 dX5_houses_100 (by decide) ?_
        exact w_X5_houses_120 N hG hr hk hK46 ih a0 v1 v3 v4 v5 v6 v7 ha0 t18
def f_X5_houses_46 (N : Nat)  : Nat → Nat → Int32 → Int32 → Int32 → Int32 → Int32 → Mm → Option (Int32 × Mm)
  | 0 => fun _ _ _ _ _ _ _ => none
  | n + 1 => fun a0 v1 v3 v4 v5 v6 σ => bR (gr σ a0 6) (okO 2) (fun o11 => if (gi σ o11 8) ≤ v6 then (lt (si σ a0 11 v5) (fun t12 => some (v4, t12))) else (lt (v6 + (1 : Int32)) (fun x13 => f_X5_houses_64 N (f_X5_houses_46 N n) N a0 v1 v3 v4 v5 v6 x13 (σ))))
set_option maxRecDepth 20000 in
theorem w_X5_houses_46 {p : Program} {l : Launch} {e : Env} {s : State} {m : MethodId} {args : Array Value} {below : List Frame} {meth : Method} {c : Code} {E : XE} (N : Nat) (hG : GG E NT 8 RX5 cX5_houses p s m args c) (hr : meth.sig.returnType = (some .int)) (hk : meth.locks = false)  : ∀ (n : Nat) (a0 : Nat) (v1 : Int32) (v3 : Int32) (v4 : Int32) (v5 : Int32) (v6 : Int32) (ha0 : okO 5 a0 = true) (σ : Mm), JR E NT 8 p l e rm_X5_houses s m args below meth c 0 0 (fun r => MQ below (xQi E (NT + 0) r) args s 0 0 (xA E)) 46 [(0, .ref (E.B + a0)), (1, .int v1), (3, .int v3), (4, .int v4), (5, .int v5), (6, .int v6)] [] σ (f_X5_houses_46 N n a0 v1 v3 v4 v5 v6 σ) := by
  intro n
  induction n with
  | zero => intro a0 v1 v3 v4 v5 v6 ha0 σ r hX; cases hX
  | succ n ih =>
    intro a0 v1 v3 v4 v5 v6 ha0 σ
    show JR E NT 8 p l e rm_X5_houses s m args below meth c 0 0 (fun r => MQ below (xQi E (NT + 0) r) args s 0 0 (xA E)) 46 [(0, .ref (E.B + a0)), (1, .int v1), (3, .int v3), (4, .int v4), (5, .int v5), (6, .int v6)] [] σ (bR (gr σ a0 6) (okO 2) (fun o11 => if (gi σ o11 8) ≤ v6 then (lt (si σ a0 11 v5) (fun t12 => some (v4, t12))) else (lt (v6 + (1 : Int32)) (fun x13 => f_X5_houses_64 N (f_X5_houses_46 N n) N a0 v1 v3 v4 v5 v6 x13 (σ)))))
    refine jr_iload hG 5 dX5_houses_46 rfl ?_
    refine jr_aload_n hG 0 dX5_houses_48 rfl rfl ?_
    refine jr_getR hG fi_RX5_45 rfl (okO_s ha0) (okO_l ha0) dX5_houses_49 (fun o11 ho11 => ?_)
    refine jr_getI hG fi_RX5_127 rfl (okO_s ho11) (okO_l ho11) dX5_houses_52 ?_
    refine jr_icmp_ge hG 132 dX5_houses_55 (by decide) (fun _ => ?_) (fun _ => ?_)
    · refine jr_aload_n hG 0 dX5_houses_132 rfl rfl ?_
      refine jr_iload hG 4 dX5_houses_133 rfl ?_
      refine jr_putI hG fi_RX5_63 rfl rfl (okO_s ha0) (okO_l ha0) dX5_houses_135 ?_
      refine jr_lets (fun t12 _ => ?_)
      refine jr_iload hG 3 dX5_houses_138 rfl ?_
      exact jr_iret hG hr hk dX5_houses_140
    · refine jr_iload hG 5 dX5_houses_58 rfl ?_
      refine jr_iconst (v := (1 : Int32)) hG dX5_houses_60 (by decide) ?_
      refine jr_iadd hG dX5_houses_61 ?_
      refine jr_leti (fun x13 _ => ?_)
      refine jr_istore (lv' := [(7, .int x13), (0, .ref (E.B + a0)), (1, .int v1), (3, .int v3), (4, .int v4), (5, .int v5), (6, .int v6)]) hG dX5_houses_62 (by decide) rfl ?_
      refine jr_sub (lv' := [(0, .ref (E.B + a0)), (1, .int v1), (3, .int v3), (4, .int v4), (5, .int v5), (6, .int v6), (7, .int x13)]) [1, 2, 3, 4, 5, 6, 0] rfl ?_
      exact w_X5_houses_64 N hG hr hk ih N a0 v1 v3 v4 v5 v6 x13 ha0 (σ)
def f_X5_houses (N : Nat) (a0 : Nat) (v1 : Int32) (σ : Mm) : Option (Int32 × Mm) := if okO 5 a0 then (bI (f_X5_isRow N v1 (σ)) (fun r2 t1 => if r2 = 0 then (some ((-1 : Int32), t1)) else (bR (gr t1 a0 0) (okA 3) (fun o3 => if inb v1 (arL o3) then (bR (gr t1 o3 (ix v1)) (okO 3) (fun o4 => bI (f_X5_refusedMornings N a0 o4 t1) (fun r6 t5 => if r6 = 0 then (bR (gr t5 a0 0) (okA 3) (fun o7 => if inb v1 (arL o7) then (bR (gr t5 o7 (ix v1)) (okO 3) (fun o8 => bI (f_X5_morningsIn N a0 o8 t5) (fun r10 t9 => f_X5_houses_46 N N a0 v1 r10 (0 : Int32) (0 : Int32) (0 : Int32) t9))) else none)) else (some (r6, t5))))) else none)))) else none
set_option maxRecDepth 20000 in
theorem c_X5_houses (l : Launch) (E : XE) (N : Nat) (a0 : Nat) (v1 : Int32) (σ : Mm) : ∀ r0, f_X5_houses N a0 v1 σ = some r0 → Met l yX5_houses [Cond.code yX5_houses cX5_houses 8 (some .int)] rm_X5_houses (xPc E (NT + 0) σ [.ref (E.B + a0), .int v1]) (xQi E (NT + 0) r0) 0 0 (xA E) := by
  refine met_of (N0 := NT) (by decide +kernel) (Nat.le_of_ble_eq_true rfl) ?_
  intro p e s m args below meth c hG hr hk _
  show JR E NT 8 p l e rm_X5_houses s m args below meth c 0 0 (fun r => MQ below (xQi E (NT + 0) r) args s 0 0 (xA E)) 0 [(0, .ref (E.B + a0)), (1, .int v1)] [] σ (if okO 5 a0 then (bI (f_X5_isRow N v1 (σ)) (fun r2 t1 => if r2 = 0 then (some ((-1 : Int32), t1)) else (bR (gr t1 a0 0) (okA 3) (fun o3 => if inb v1 (arL o3) then (bR (gr t1 o3 (ix v1)) (okO 3) (fun o4 => bI (f_X5_refusedMornings N a0 o4 t1) (fun r6 t5 => if r6 = 0 then (bR (gr t5 a0 0) (okA 3) (fun o7 => if inb v1 (arL o7) then (bR (gr t5 o7 (ix v1)) (okO 3) (fun o8 => bI (f_X5_morningsIn N a0 o8 t5) (fun r10 t9 => f_X5_houses_46 N N a0 v1 r10 (0 : Int32) (0 : Int32) (0 : Int32) t9))) else none)) else (some (r6, t5))))) else none)))) else none)
  refine jr_guard (fun ha0 => ?_)
  refine jr_iload_n hG 1 dX5_houses_0 rfl rfl ?_
  refine jr_callSi (As := [.int v1]) hG (c_X5_isRow l E N v1 (σ)) ci_X5_isRow wd_273 wd_274 ⟨rfl, rfl, Nat.le_of_ble_eq_true rfl, Nat.le_of_ble_eq_true rfl⟩ rfl rfl (Nat.le_of_ble_eq_true rfl) dX5_houses_1 ⟨Nat.le_refl _, Nat.le_refl _⟩ (fun r2 t1 => ?_)
  refine jr_if_ne hG 9 dX5_houses_4 (by decide) (fun _ => ?_) (fun _ => ?_)
  · refine jr_aload_n hG 0 dX5_houses_9 rfl rfl ?_
    refine jr_aload_n hG 0 dX5_houses_10 rfl rfl ?_
    refine jr_getR hG fi_RX5_11 rfl (okO_s ha0) (okO_l ha0) dX5_houses_11 (fun o3 ho3 => ?_)
    refine jr_iload_n hG 1 dX5_houses_14 rfl rfl ?_
    refine jr_aald hG (okA_s (by decide) ho3) (by decide) rfl (okA_l ho3) dX5_houses_15 (fun o4 ho4 => ?_)
    refine jr_callVi (As := [.ref (E.B + o4)]) hG (c_X5_refusedMornings l E N a0 o4 t1) ci_X5_refusedMornings wd_617 ⟨wd_619, wd_15⟩ cl_5 (okO_s ha0) (okO_l ha0) ⟨rfl, rfl, Nat.le_of_ble_eq_true rfl, Nat.le_of_ble_eq_true rfl⟩ rfl rfl (Nat.le_of_ble_eq_true rfl) dX5_houses_16 ⟨Nat.le_refl _, Nat.le_refl _⟩ (fun r6 t5 => ?_)
    refine jr_istore_n (lv' := [(2, .int r6), (0, .ref (E.B + a0)), (1, .int v1)]) hG dX5_houses_19 rfl (by decide) rfl ?_
    refine jr_iload_n hG 0 dX5_houses_20 rfl rfl ?_
    refine jr_if_eq hG 26 dX5_houses_21 (by decide) (fun _ => ?_) (fun _ => ?_)
    · refine jr_aload_n hG 1 dX5_houses_26 rfl rfl ?_
      refine jr_aload_n hG 1 dX5_houses_27 rfl rfl ?_
      refine jr_getR hG fi_RX5_11 rfl (okO_s ha0) (okO_l ha0) dX5_houses_28 (fun o7 ho7 => ?_)
      refine jr_iload_n hG 2 dX5_houses_31 rfl rfl ?_
      refine jr_aald hG (okA_s (by decide) ho7) (by decide) rfl (okA_l ho7) dX5_houses_32 (fun o8 ho8 => ?_)
      refine jr_callVi (As := [.ref (E.B + o8)]) hG (c_X5_morningsIn l E N a0 o8 t5) ci_X5_morningsIn wd_621 ⟨wd_623, wd_16⟩ cl_5 (okO_s ha0) (okO_l ha0) ⟨rfl, rfl, Nat.le_of_ble_eq_true rfl, Nat.le_of_ble_eq_true rfl⟩ rfl rfl (Nat.le_of_ble_eq_true rfl) dX5_houses_33 ⟨Nat.le_refl _, Nat.le_refl _⟩ (fun r10 t9 => ?_)
      refine jr_istore_n (lv' := [(3, .int r10), (2, .int r6), (0, .ref (E.B + a0)), (1, .int v1)]) hG dX5_houses_36 rfl (by decide) rfl ?_
      refine jr_iconst (v := (0 : Int32)) hG dX5_houses_37 (by decide) ?_
      refine jr_istore (lv' := [(4, .int (0 : Int32)), (3, .int r10), (2, .int r6), (0, .ref (E.B + a0)), (1, .int v1)]) hG dX5_houses_38 (by decide) rfl ?_
      refine jr_iconst (v := (0 : Int32)) hG dX5_houses_40 (by decide) ?_
      refine jr_istore (lv' := [(5, .int (0 : Int32)), (4, .int (0 : Int32)), (3, .int r10), (2, .int r6), (0, .ref (E.B + a0)), (1, .int v1)]) hG dX5_houses_41 (by decide) rfl ?_
      refine jr_iconst (v := (0 : Int32)) hG dX5_houses_43 (by decide) ?_
      refine jr_istore (lv' := [(6, .int (0 : Int32)), (5, .int (0 : Int32)), (4, .int (0 : Int32)), (3, .int r10), (2, .int r6), (0, .ref (E.B + a0)), (1, .int v1)]) hG dX5_houses_44 (by decide) rfl ?_
      refine jr_sub (lv' := [(0, .ref (E.B + a0)), (1, .int v1), (3, .int r10), (4, .int (0 : Int32)), (5, .int (0 : Int32)), (6, .int (0 : Int32))]) [5, 6, 3, 2, 1, 0] rfl ?_
      exact w_X5_houses_46 N hG hr hk N a0 v1 r10 (0 : Int32) (0 : Int32) (0 : Int32) ha0 t9
    · refine jr_iload_n hG 0 dX5_houses_24 rfl rfl ?_
      exact jr_iret hG hr hk dX5_houses_25
  · refine jr_iconst (v := (-1 : Int32)) hG dX5_houses_7 (by decide) ?_
    exact jr_iret hG hr hk dX5_houses_8
-- TonguesDealt.rule(II)I
abbrev rm_X5_rule : Room := { frames := 3, cells := 0, slots := 0, locals := 71 }
theorem ci_X5_rule : CIx yX5_rule cX5_rule 7 (some .int) 2 := ⟨wd_632, wd_71, by decide +kernel⟩
def f_X5_rule_98 (N : Nat) (K53 : Nat → Int32 → Int32 → Int32 → Int32 → Int32 → Mm → Option (Int32 × Mm)) (a0 : Nat) (v1 : Int32) (v2 : Int32) (v4 : Int32) (v5 : Int32) (v6 : Int32) (σ : Mm) : Option (Int32 × Mm) := K53 a0 v1 v2 v4 v5 (v6 + (1 : Int32)) (σ)
set_option maxRecDepth 20000 in
theorem w_X5_rule_98 {p : Program} {l : Launch} {e : Env} {s : State} {m : MethodId} {args : Array Value} {below : List Frame} {meth : Method} {c : Code} {E : XE} (N : Nat) (hG : GG E NT 7 RX5 cX5_rule p s m args c) (hr : meth.sig.returnType = (some .int)) (hk : meth.locks = false) {K53 : Nat → Int32 → Int32 → Int32 → Int32 → Int32 → Mm → Option (Int32 × Mm)} (hK53 : ∀ (a0 : Nat) (v1 : Int32) (v2 : Int32) (v4 : Int32) (v5 : Int32) (v6 : Int32) (ha0 : okO 5 a0 = true) (σ : Mm), JR E NT 7 p l e rm_X5_rule s m args below meth c 0 0 (fun r => MQ below (xQi E (NT + 0) r) args s 0 0 (xA E)) 53 [(0, .ref (E.B + a0)), (1, .int v1), (2, .int v2), (4, .int v4), (5, .int v5), (6, .int v6)] [] σ (K53 a0 v1 v2 v4 v5 v6 σ)) (a0 : Nat) (v1 : Int32) (v2 : Int32) (v4 : Int32) (v5 : Int32) (v6 : Int32) (ha0 : okO 5 a0 = true) (σ : Mm) : JR E NT 7 p l e rm_X5_rule s m args below meth c 0 0 (fun r => MQ below (xQi E (NT + 0) r) args s 0 0 (xA E)) 98 [(0, .ref (E.B + a0)), (1, .int v1), (2, .int v2), (4, .int v4), (5, .int v5), (6, .int v6)] [] σ (f_X5_rule_98 N K53 a0 v1 v2 v4 v5 v6 σ) := by
  show JR E NT 7 p l e rm_X5_rule s m args below meth c 0 0 (fun r => MQ below (xQi E (NT + 0) r) args s 0 0 (xA E)) 98 [(0, .ref (E.B + a0)), (1, .int v1), (2, .int v2), (4, .int v4), (5, .int v5), (6, .int v6)] [] σ (K53 a0 v1 v2 v4 v5 (v6 + (1 : Int32)) (σ))
  refine jr_iinc (v := v6 + (1 : Int32)) (lv' := [(6, .int (v6 + (1 : Int32))), (0, .ref (E.B + a0)), (1, .int v1), (2, .int v2), (4, .int v4), (5, .int v5)]) hG 5 dX5_rule_98 rfl rfl (by decide) rfl ?_
  refine jr_goto hG 53 dX5_rule_101 (by decide) ?_
  refine jr_sub (lv' := [(0, .ref (E.B + a0)), (1, .int v1), (2, .int v2), (4, .int v4), (5, .int v5), (6, .int (v6 + (1 : Int32)))]) [1, 2, 3, 4, 5, 0] rfl ?_
  exact hK53 a0 v1 v2 v4 v5 (v6 + (1 : Int32)) ha0 (σ)
def f_X5_rule_53 (N : Nat)  : Nat → Nat → Int32 → Int32 → Int32 → Int32 → Int32 → Mm → Option (Int32 × Mm)
  | 0 => fun _ _ _ _ _ _ _ => none
  | n + 1 => fun a0 v1 v2 v4 v5 v6 σ => bR (gr σ a0 6) (okO 2) (fun o11 => if (gi σ o11 8) ≤ v6 then (some (v5, σ)) else (bR (gr σ a0 0) (okA 3) (fun o12 => if inb v1 (arL o12) then (bR (gr σ o12 (ix v1)) (okO 3) (fun o13 => bR (gr σ a0 6) (okO 2) (fun o14 => bI (f_X3_obeys N o13 v6 (gi σ o14 8) v4 v2 (σ)) (fun r16 t15 => if r16 = 0 then (f_X5_rule_98 N (f_X5_rule_53 N n) a0 v1 v2 v4 v5 v6 t15) else (lt (v5 ||| ((1 : Int32) <<< (v6 &&& 31))) (fun x17 => f_X5_rule_98 N (f_X5_rule_53 N n) a0 v1 v2 v4 x17 v6 t15)))))) else none)))
set_option maxRecDepth 20000 in
theorem w_X5_rule_53 {p : Program} {l : Launch} {e : Env} {s : State} {m : MethodId} {args : Array Value} {below : List Frame} {meth : Method} {c : Code} {E : XE} (N : Nat) (hG : GG E NT 7 RX5 cX5_rule p s m args c) (hr : meth.sig.returnType = (some .int)) (hk : meth.locks = false)  : ∀ (n : Nat) (a0 : Nat) (v1 : Int32) (v2 : Int32) (v4 : Int32) (v5 : Int32) (v6 : Int32) (ha0 : okO 5 a0 = true) (σ : Mm), JR E NT 7 p l e rm_X5_rule s m args below meth c 0 0 (fun r => MQ below (xQi E (NT + 0) r) args s 0 0 (xA E)) 53 [(0, .ref (E.B + a0)), (1, .int v1), (2, .int v2), (4, .int v4), (5, .int v5), (6, .int v6)] [] σ (f_X5_rule_53 N n a0 v1 v2 v4 v5 v6 σ) := by
  intro n
  induction n with
  | zero => intro a0 v1 v2 v4 v5 v6 ha0 σ r hX; cases hX
  | succ n ih =>
    intro a0 v1 v2 v4 v5 v6 ha0 σ
    show JR E NT 7 p l e rm_X5_rule s m args below meth c 0 0 (fun r => MQ below (xQi E (NT + 0) r) args s 0 0 (xA E)) 53 [(0, .ref (E.B + a0)), (1, .int v1), (2, .int v2), (4, .int v4), (5, .int v5), (6, .int v6)] [] σ (bR (gr σ a0 6) (okO 2) (fun o11 => if (gi σ o11 8) ≤ v6 then (some (v5, σ)) else (bR (gr σ a0 0) (okA 3) (fun o12 => if inb v1 (arL o12) then (bR (gr σ o12 (ix v1)) (okO 3) (fun o13 => bR (gr σ a0 6) (okO 2) (fun o14 => bI (f_X3_obeys N o13 v6 (gi σ o14 8) v4 v2 (σ)) (fun r16 t15 => if r16 = 0 then (f_X5_rule_98 N (f_X5_rule_53 N n) a0 v1 v2 v4 v5 v6 t15) else (lt (v5 ||| ((1 : Int32) <<< (v6 &&& 31))) (fun x17 => f_X5_rule_98 N (f_X5_rule_53 N n) a0 v1 v2 v4 x17 v6 t15)))))) else none))))
    refine jr_iload hG 5 dX5_rule_53 rfl ?_
    refine jr_aload_n hG 0 dX5_rule_55 rfl rfl ?_
    refine jr_getR hG fi_RX5_45 rfl (okO_s ha0) (okO_l ha0) dX5_rule_56 (fun o11 ho11 => ?_)
    refine jr_getI hG fi_RX5_127 rfl (okO_s ho11) (okO_l ho11) dX5_rule_59 ?_
    refine jr_icmp_ge hG 104 dX5_rule_62 (by decide) (fun _ => ?_) (fun _ => ?_)
    · refine jr_iload hG 4 dX5_rule_104 rfl ?_
      exact jr_iret hG hr hk dX5_rule_106
    · refine jr_aload_n hG 0 dX5_rule_65 rfl rfl ?_
      refine jr_getR hG fi_RX5_11 rfl (okO_s ha0) (okO_l ha0) dX5_rule_66 (fun o12 ho12 => ?_)
      refine jr_iload_n hG 1 dX5_rule_69 rfl rfl ?_
      refine jr_aald hG (okA_s (by decide) ho12) (by decide) rfl (okA_l ho12) dX5_rule_70 (fun o13 ho13 => ?_)
      refine jr_iload hG 5 dX5_rule_71 rfl ?_
      refine jr_aload_n hG 0 dX5_rule_73 rfl rfl ?_
      refine jr_getR hG fi_RX5_45 rfl (okO_s ha0) (okO_l ha0) dX5_rule_74 (fun o14 ho14 => ?_)
      refine jr_getI hG fi_RX5_127 rfl (okO_s ho14) (okO_l ho14) dX5_rule_77 ?_
      refine jr_iload hG 3 dX5_rule_80 rfl ?_
      refine jr_iload_n hG 2 dX5_rule_82 rfl rfl ?_
      refine jr_callVi (As := [.int v6, .int (gi σ o14 8), .int v4, .int v2]) hG (c_X3_obeys l E N o13 v6 (gi σ o14 8) v4 v2 (σ)) ci_X3_obeys wd_633 ⟨wd_634, wd_635⟩ cl_3 (okO_s ho13) (okO_l ho13) ⟨rfl, rfl, Nat.le_of_ble_eq_true rfl, Nat.le_of_ble_eq_true rfl⟩ rfl rfl (Nat.le_of_ble_eq_true rfl) dX5_rule_83 ⟨Nat.le_refl _, Nat.le_refl _⟩ (fun r16 t15 => ?_)
      refine jr_if_eq hG 98 dX5_rule_86 (by decide) (fun _ => ?_) (fun _ => ?_)
      · exact w_X5_rule_98 N hG hr hk ih a0 v1 v2 v4 v5 v6 ha0 t15
      · refine jr_iload hG 4 dX5_rule_89 rfl ?_
        refine jr_iconst (v := (1 : Int32)) hG dX5_rule_91 (by decide) ?_
        refine jr_iload hG 5 dX5_rule_92 rfl ?_
        refine jr_ishl hG dX5_rule_94 ?_
        refine jr_ior hG dX5_rule_95 ?_
        refine jr_leti (fun x17 _ => ?_)
        refine jr_istore (lv' := [(5, .int x17), (0, .ref (E.B + a0)), (1, .int v1), (2, .int v2), (4, .int v4), (6, .int v6)]) hG dX5_rule_96 (by decide) rfl ?_
        refine jr_sub (lv' := [(0, .ref (E.B + a0)), (1, .int v1), (2, .int v2), (4, .int v4), (5, .int x17), (6, .int v6)]) [1, 2, 3, 4, 0, 5] rfl ?_
        exact w_X5_rule_98 N hG hr hk ih a0 v1 v2 v4 x17 v6 ha0 t15
def f_X5_rule (N : Nat) (a0 : Nat) (v1 : Int32) (v2 : Int32) (σ : Mm) : Option (Int32 × Mm) := if okO 5 a0 then (bI (f_X5_isRow N v1 (σ)) (fun r2 t1 => if r2 = 0 then (some ((-1 : Int32), t1)) else (if v2 < 0 then (some ((-1 : Int32), t1)) else (if v2 < (4 : Int32) then (bR (gr t1 a0 0) (okA 3) (fun o3 => if inb v1 (arL o3) then (bR (gr t1 o3 (ix v1)) (okO 3) (fun o4 => bI (f_X5_refusedMornings N a0 o4 t1) (fun r6 t5 => if r6 = 0 then (bR (gr t5 a0 0) (okA 3) (fun o7 => if inb v1 (arL o7) then (bR (gr t5 o7 (ix v1)) (okO 3) (fun o8 => bI (f_X5_morningsIn N a0 o8 t5) (fun r10 t9 => f_X5_rule_53 N N a0 v1 v2 r10 (0 : Int32) (0 : Int32) t9))) else none)) else (some (r6, t5))))) else none)) else (some ((-1 : Int32), t1)))))) else none
set_option maxRecDepth 20000 in
theorem c_X5_rule (l : Launch) (E : XE) (N : Nat) (a0 : Nat) (v1 : Int32) (v2 : Int32) (σ : Mm) : ∀ r0, f_X5_rule N a0 v1 v2 σ = some r0 → Met l yX5_rule [Cond.code yX5_rule cX5_rule 7 (some .int)] rm_X5_rule (xPc E (NT + 0) σ [.ref (E.B + a0), .int v1, .int v2]) (xQi E (NT + 0) r0) 0 0 (xA E) := by
  refine met_of (N0 := NT) (by decide +kernel) (Nat.le_of_ble_eq_true rfl) ?_
  intro p e s m args below meth c hG hr hk _
  show JR E NT 7 p l e rm_X5_rule s m args below meth c 0 0 (fun r => MQ below (xQi E (NT + 0) r) args s 0 0 (xA E)) 0 [(0, .ref (E.B + a0)), (1, .int v1), (2, .int v2)] [] σ (if okO 5 a0 then (bI (f_X5_isRow N v1 (σ)) (fun r2 t1 => if r2 = 0 then (some ((-1 : Int32), t1)) else (if v2 < 0 then (some ((-1 : Int32), t1)) else (if v2 < (4 : Int32) then (bR (gr t1 a0 0) (okA 3) (fun o3 => if inb v1 (arL o3) then (bR (gr t1 o3 (ix v1)) (okO 3) (fun o4 => bI (f_X5_refusedMornings N a0 o4 t1) (fun r6 t5 => if r6 = 0 then (bR (gr t5 a0 0) (okA 3) (fun o7 => if inb v1 (arL o7) then (bR (gr t5 o7 (ix v1)) (okO 3) (fun o8 => bI (f_X5_morningsIn N a0 o8 t5) (fun r10 t9 => f_X5_rule_53 N N a0 v1 v2 r10 (0 : Int32) (0 : Int32) t9))) else none)) else (some (r6, t5))))) else none)) else (some ((-1 : Int32), t1)))))) else none)
  refine jr_guard (fun ha0 => ?_)
  refine jr_iload_n hG 1 dX5_rule_0 rfl rfl ?_
  refine jr_callSi (As := [.int v1]) hG (c_X5_isRow l E N v1 (σ)) ci_X5_isRow wd_273 wd_274 ⟨rfl, rfl, Nat.le_of_ble_eq_true rfl, Nat.le_of_ble_eq_true rfl⟩ rfl rfl (Nat.le_of_ble_eq_true rfl) dX5_rule_1 ⟨Nat.le_refl _, Nat.le_refl _⟩ (fun r2 t1 => ?_)
  refine jr_if_eq hG 16 dX5_rule_4 (by decide) (fun _ => ?_) (fun _ => ?_)
  · refine jr_iconst (v := (-1 : Int32)) hG dX5_rule_16 (by decide) ?_
    exact jr_iret hG hr hk dX5_rule_17
  · refine jr_iload_n hG 2 dX5_rule_7 rfl rfl ?_
    refine jr_if_lt hG 16 dX5_rule_8 (by decide) (fun _ => ?_) (fun _ => ?_)
    · refine jr_iconst (v := (-1 : Int32)) hG dX5_rule_16 (by decide) ?_
      exact jr_iret hG hr hk dX5_rule_17
    · refine jr_iload_n hG 2 dX5_rule_11 rfl rfl ?_
      refine jr_iconst (v := (4 : Int32)) hG dX5_rule_12 (by decide) ?_
      refine jr_icmp_lt hG 18 dX5_rule_13 (by decide) (fun _ => ?_) (fun _ => ?_)
      · refine jr_aload_n hG 0 dX5_rule_18 rfl rfl ?_
        refine jr_aload_n hG 0 dX5_rule_19 rfl rfl ?_
        refine jr_getR hG fi_RX5_11 rfl (okO_s ha0) (okO_l ha0) dX5_rule_20 (fun o3 ho3 => ?_)
        refine jr_iload_n hG 1 dX5_rule_23 rfl rfl ?_
        refine jr_aald hG (okA_s (by decide) ho3) (by decide) rfl (okA_l ho3) dX5_rule_24 (fun o4 ho4 => ?_)
        refine jr_callVi (As := [.ref (E.B + o4)]) hG (c_X5_refusedMornings l E N a0 o4 t1) ci_X5_refusedMornings wd_617 ⟨wd_619, wd_15⟩ cl_5 (okO_s ha0) (okO_l ha0) ⟨rfl, rfl, Nat.le_of_ble_eq_true rfl, Nat.le_of_ble_eq_true rfl⟩ rfl rfl (Nat.le_of_ble_eq_true rfl) dX5_rule_25 ⟨Nat.le_refl _, Nat.le_refl _⟩ (fun r6 t5 => ?_)
        refine jr_istore_n (lv' := [(3, .int r6), (0, .ref (E.B + a0)), (1, .int v1), (2, .int v2)]) hG dX5_rule_28 rfl (by decide) rfl ?_
        refine jr_iload_n hG 0 dX5_rule_29 rfl rfl ?_
        refine jr_if_eq hG 35 dX5_rule_30 (by decide) (fun _ => ?_) (fun _ => ?_)
        · refine jr_aload_n hG 1 dX5_rule_35 rfl rfl ?_
          refine jr_aload_n hG 1 dX5_rule_36 rfl rfl ?_
          refine jr_getR hG fi_RX5_11 rfl (okO_s ha0) (okO_l ha0) dX5_rule_37 (fun o7 ho7 => ?_)
          refine jr_iload_n hG 2 dX5_rule_40 rfl rfl ?_
          refine jr_aald hG (okA_s (by decide) ho7) (by decide) rfl (okA_l ho7) dX5_rule_41 (fun o8 ho8 => ?_)
          refine jr_callVi (As := [.ref (E.B + o8)]) hG (c_X5_morningsIn l E N a0 o8 t5) ci_X5_morningsIn wd_621 ⟨wd_623, wd_16⟩ cl_5 (okO_s ha0) (okO_l ha0) ⟨rfl, rfl, Nat.le_of_ble_eq_true rfl, Nat.le_of_ble_eq_true rfl⟩ rfl rfl (Nat.le_of_ble_eq_true rfl) dX5_rule_42 ⟨Nat.le_refl _, Nat.le_refl _⟩ (fun r10 t9 => ?_)
          refine jr_istore (lv' := [(4, .int r10), (3, .int r6), (0, .ref (E.B + a0)), (1, .int v1), (2, .int v2)]) hG dX5_rule_45 (by decide) rfl ?_
          refine jr_iconst (v := (0 : Int32)) hG dX5_rule_47 (by decide) ?_
          refine jr_istore (lv' := [(5, .int (0 : Int32)), (4, .int r10), (3, .int r6), (0, .ref (E.B + a0)), (1, .int v1), (2, .int v2)]) hG dX5_rule_48 (by decide) rfl ?_
          refine jr_iconst (v := (0 : Int32)) hG dX5_rule_50 (by decide) ?_
          refine jr_istore (lv' := [(6, .int (0 : Int32)), (5, .int (0 : Int32)), (4, .int r10), (3, .int r6), (0, .ref (E.B + a0)), (1, .int v1), (2, .int v2)]) hG dX5_rule_51 (by decide) rfl ?_
          refine jr_sub (lv' := [(0, .ref (E.B + a0)), (1, .int v1), (2, .int v2), (4, .int r10), (5, .int (0 : Int32)), (6, .int (0 : Int32))]) [4, 5, 6, 2, 1, 0] rfl ?_
          exact w_X5_rule_53 N hG hr hk N a0 v1 v2 r10 (0 : Int32) (0 : Int32) ha0 t9
        · refine jr_iload_n hG 0 dX5_rule_33 rfl rfl ?_
          exact jr_iret hG hr hk dX5_rule_34
      · refine jr_iconst (v := (-1 : Int32)) hG dX5_rule_16 (by decide) ?_
        exact jr_iret hG hr hk dX5_rule_17
-- TonguesDealt.broken(I)I
abbrev rm_X5_broken : Room := { frames := 2, cells := 0, slots := 0, locals := 43 }
theorem ci_X5_broken : CIx yX5_broken cX5_broken 5 (some .int) 1 := ⟨wd_644, wd_71, by decide +kernel⟩
def f_X5_broken_40 (N : Nat)  : Nat → Nat → Int32 → Int32 → Int32 → Mm → Option (Int32 × Mm)
  | 0 => fun _ _ _ _ _ => none
  | n + 1 => fun a0 v1 v3 v4 σ => if v3 ≤ v4 then (some ((-9 : Int32), σ)) else (bR (gr σ a0 6) (okO 2) (fun o11 => bR (gr σ a0 0) (okA 3) (fun o12 => if inb v1 (arL o12) then (bR (gr σ o12 (ix v1)) (okO 3) (fun o13 => bR (gr σ o13 0) (okA 0) (fun o14 => bR (gr σ a0 6) (okO 2) (fun o15 => bI (f_X2_agrees N o11 o14 (v4 * (gi σ o15 8)) (σ)) (fun r17 t16 => if r17 = 0 then (some (v4, t16)) else (f_X5_broken_40 N n a0 v1 v3 (v4 + (1 : Int32)) t16)))))) else none)))
set_option maxRecDepth 20000 in
theorem w_X5_broken_40 {p : Program} {l : Launch} {e : Env} {s : State} {m : MethodId} {args : Array Value} {below : List Frame} {meth : Method} {c : Code} {E : XE} (N : Nat) (hG : GG E NT 5 RX5 cX5_broken p s m args c) (hr : meth.sig.returnType = (some .int)) (hk : meth.locks = false)  : ∀ (n : Nat) (a0 : Nat) (v1 : Int32) (v3 : Int32) (v4 : Int32) (ha0 : okO 5 a0 = true) (σ : Mm), JR E NT 5 p l e rm_X5_broken s m args below meth c 0 0 (fun r => MQ below (xQi E (NT + 0) r) args s 0 0 (xA E)) 40 [(0, .ref (E.B + a0)), (1, .int v1), (3, .int v3), (4, .int v4)] [] σ (f_X5_broken_40 N n a0 v1 v3 v4 σ) := by
  intro n
  induction n with
  | zero => intro a0 v1 v3 v4 ha0 σ r hX; cases hX
  | succ n ih =>
    intro a0 v1 v3 v4 ha0 σ
    show JR E NT 5 p l e rm_X5_broken s m args below meth c 0 0 (fun r => MQ below (xQi E (NT + 0) r) args s 0 0 (xA E)) 40 [(0, .ref (E.B + a0)), (1, .int v1), (3, .int v3), (4, .int v4)] [] σ (if v3 ≤ v4 then (some ((-9 : Int32), σ)) else (bR (gr σ a0 6) (okO 2) (fun o11 => bR (gr σ a0 0) (okA 3) (fun o12 => if inb v1 (arL o12) then (bR (gr σ o12 (ix v1)) (okO 3) (fun o13 => bR (gr σ o13 0) (okA 0) (fun o14 => bR (gr σ a0 6) (okO 2) (fun o15 => bI (f_X2_agrees N o11 o14 (v4 * (gi σ o15 8)) (σ)) (fun r17 t16 => if r17 = 0 then (some (v4, t16)) else (f_X5_broken_40 N n a0 v1 v3 (v4 + (1 : Int32)) t16)))))) else none))))
    refine jr_iload hG 3 dX5_broken_40 rfl ?_
    refine jr_iload_n hG 2 dX5_broken_42 rfl rfl ?_
    refine jr_icmp_ge hG 84 dX5_broken_43 (by decide) (fun _ => ?_) (fun _ => ?_)
    · refine jr_bipush (v := (-9 : Int32)) hG dX5_broken_84 (by decide) ?_
      exact jr_iret hG hr hk dX5_broken_86
    · refine jr_aload_n hG 0 dX5_broken_46 rfl rfl ?_
      refine jr_getR hG fi_RX5_45 rfl (okO_s ha0) (okO_l ha0) dX5_broken_47 (fun o11 ho11 => ?_)
      refine jr_aload_n hG 0 dX5_broken_50 rfl rfl ?_
      refine jr_getR hG fi_RX5_11 rfl (okO_s ha0) (okO_l ha0) dX5_broken_51 (fun o12 ho12 => ?_)
      refine jr_iload_n hG 1 dX5_broken_54 rfl rfl ?_
      refine jr_aald hG (okA_s (by decide) ho12) (by decide) rfl (okA_l ho12) dX5_broken_55 (fun o13 ho13 => ?_)
      refine jr_getR hG fi_RX5_94 rfl (okO_s ho13) (okO_l ho13) dX5_broken_56 (fun o14 ho14 => ?_)
      refine jr_iload hG 3 dX5_broken_59 rfl ?_
      refine jr_aload_n hG 0 dX5_broken_61 rfl rfl ?_
      refine jr_getR hG fi_RX5_45 rfl (okO_s ha0) (okO_l ha0) dX5_broken_62 (fun o15 ho15 => ?_)
      refine jr_getI hG fi_RX5_127 rfl (okO_s ho15) (okO_l ho15) dX5_broken_65 ?_
      refine jr_imul hG dX5_broken_68 ?_
      refine jr_callVi (As := [.ref (E.B + o14), .int (v4 * (gi σ o15 8))]) hG (c_X2_agrees l E N o11 o14 (v4 * (gi σ o15 8)) (σ)) ci_X2_agrees wd_459 ⟨wd_460, wd_461⟩ cl_2 (okO_s ho11) (okO_l ho11) ⟨rfl, rfl, Nat.le_of_ble_eq_true rfl, Nat.le_of_ble_eq_true rfl⟩ rfl rfl (Nat.le_of_ble_eq_true rfl) dX5_broken_69 ⟨Nat.le_refl _, Nat.le_refl _⟩ (fun r17 t16 => ?_)
      refine jr_if_ne hG 78 dX5_broken_72 (by decide) (fun _ => ?_) (fun _ => ?_)
      · refine jr_iinc (v := v4 + (1 : Int32)) (lv' := [(4, .int (v4 + (1 : Int32))), (0, .ref (E.B + a0)), (1, .int v1), (3, .int v3)]) hG 3 dX5_broken_78 rfl rfl (by decide) rfl ?_
        refine jr_goto hG 40 dX5_broken_81 (by decide) ?_
        refine jr_sub (lv' := [(0, .ref (E.B + a0)), (1, .int v1), (3, .int v3), (4, .int (v4 + (1 : Int32)))]) [1, 2, 3, 0] rfl ?_
        exact ih a0 v1 v3 (v4 + (1 : Int32)) ha0 t16
      · refine jr_iload hG 3 dX5_broken_75 rfl ?_
        exact jr_iret hG hr hk dX5_broken_77
def f_X5_broken (N : Nat) (a0 : Nat) (v1 : Int32) (σ : Mm) : Option (Int32 × Mm) := if okO 5 a0 then (bI (f_X5_isRow N v1 (σ)) (fun r2 t1 => if r2 = 0 then (some ((-1 : Int32), t1)) else (bR (gr t1 a0 0) (okA 3) (fun o3 => if inb v1 (arL o3) then (bR (gr t1 o3 (ix v1)) (okO 3) (fun o4 => bI (f_X5_refusedMornings N a0 o4 t1) (fun r6 t5 => if r6 = 0 then (bR (gr t5 a0 0) (okA 3) (fun o7 => if inb v1 (arL o7) then (bR (gr t5 o7 (ix v1)) (okO 3) (fun o8 => bI (f_X5_morningsIn N a0 o8 t5) (fun r10 t9 => f_X5_broken_40 N N a0 v1 r10 (0 : Int32) t9))) else none)) else (some (r6, t5))))) else none)))) else none
set_option maxRecDepth 20000 in
theorem c_X5_broken (l : Launch) (E : XE) (N : Nat) (a0 : Nat) (v1 : Int32) (σ : Mm) : ∀ r0, f_X5_broken N a0 v1 σ = some r0 → Met l yX5_broken [Cond.code yX5_broken cX5_broken 5 (some .int)] rm_X5_broken (xPc E (NT + 0) σ [.ref (E.B + a0), .int v1]) (xQi E (NT + 0) r0) 0 0 (xA E) := by
  refine met_of (N0 := NT) (by decide +kernel) (Nat.le_of_ble_eq_true rfl) ?_
  intro p e s m args below meth c hG hr hk _
  show JR E NT 5 p l e rm_X5_broken s m args below meth c 0 0 (fun r => MQ below (xQi E (NT + 0) r) args s 0 0 (xA E)) 0 [(0, .ref (E.B + a0)), (1, .int v1)] [] σ (if okO 5 a0 then (bI (f_X5_isRow N v1 (σ)) (fun r2 t1 => if r2 = 0 then (some ((-1 : Int32), t1)) else (bR (gr t1 a0 0) (okA 3) (fun o3 => if inb v1 (arL o3) then (bR (gr t1 o3 (ix v1)) (okO 3) (fun o4 => bI (f_X5_refusedMornings N a0 o4 t1) (fun r6 t5 => if r6 = 0 then (bR (gr t5 a0 0) (okA 3) (fun o7 => if inb v1 (arL o7) then (bR (gr t5 o7 (ix v1)) (okO 3) (fun o8 => bI (f_X5_morningsIn N a0 o8 t5) (fun r10 t9 => f_X5_broken_40 N N a0 v1 r10 (0 : Int32) t9))) else none)) else (some (r6, t5))))) else none)))) else none)
  refine jr_guard (fun ha0 => ?_)
  refine jr_iload_n hG 1 dX5_broken_0 rfl rfl ?_
  refine jr_callSi (As := [.int v1]) hG (c_X5_isRow l E N v1 (σ)) ci_X5_isRow wd_273 wd_274 ⟨rfl, rfl, Nat.le_of_ble_eq_true rfl, Nat.le_of_ble_eq_true rfl⟩ rfl rfl (Nat.le_of_ble_eq_true rfl) dX5_broken_1 ⟨Nat.le_refl _, Nat.le_refl _⟩ (fun r2 t1 => ?_)
  refine jr_if_ne hG 9 dX5_broken_4 (by decide) (fun _ => ?_) (fun _ => ?_)
  · refine jr_aload_n hG 0 dX5_broken_9 rfl rfl ?_
    refine jr_aload_n hG 0 dX5_broken_10 rfl rfl ?_
    refine jr_getR hG fi_RX5_11 rfl (okO_s ha0) (okO_l ha0) dX5_broken_11 (fun o3 ho3 => ?_)
    refine jr_iload_n hG 1 dX5_broken_14 rfl rfl ?_
    refine jr_aald hG (okA_s (by decide) ho3) (by decide) rfl (okA_l ho3) dX5_broken_15 (fun o4 ho4 => ?_)
    refine jr_callVi (As := [.ref (E.B + o4)]) hG (c_X5_refusedMornings l E N a0 o4 t1) ci_X5_refusedMornings wd_617 ⟨wd_619, wd_15⟩ cl_5 (okO_s ha0) (okO_l ha0) ⟨rfl, rfl, Nat.le_of_ble_eq_true rfl, Nat.le_of_ble_eq_true rfl⟩ rfl rfl (Nat.le_of_ble_eq_true rfl) dX5_broken_16 ⟨Nat.le_refl _, Nat.le_refl _⟩ (fun r6 t5 => ?_)
    refine jr_istore_n (lv' := [(2, .int r6), (0, .ref (E.B + a0)), (1, .int v1)]) hG dX5_broken_19 rfl (by decide) rfl ?_
    refine jr_iload_n hG 0 dX5_broken_20 rfl rfl ?_
    refine jr_if_eq hG 26 dX5_broken_21 (by decide) (fun _ => ?_) (fun _ => ?_)
    · refine jr_aload_n hG 1 dX5_broken_26 rfl rfl ?_
      refine jr_aload_n hG 1 dX5_broken_27 rfl rfl ?_
      refine jr_getR hG fi_RX5_11 rfl (okO_s ha0) (okO_l ha0) dX5_broken_28 (fun o7 ho7 => ?_)
      refine jr_iload_n hG 2 dX5_broken_31 rfl rfl ?_
      refine jr_aald hG (okA_s (by decide) ho7) (by decide) rfl (okA_l ho7) dX5_broken_32 (fun o8 ho8 => ?_)
      refine jr_callVi (As := [.ref (E.B + o8)]) hG (c_X5_morningsIn l E N a0 o8 t5) ci_X5_morningsIn wd_621 ⟨wd_623, wd_16⟩ cl_5 (okO_s ha0) (okO_l ha0) ⟨rfl, rfl, Nat.le_of_ble_eq_true rfl, Nat.le_of_ble_eq_true rfl⟩ rfl rfl (Nat.le_of_ble_eq_true rfl) dX5_broken_33 ⟨Nat.le_refl _, Nat.le_refl _⟩ (fun r10 t9 => ?_)
      refine jr_istore_n (lv' := [(3, .int r10), (2, .int r6), (0, .ref (E.B + a0)), (1, .int v1)]) hG dX5_broken_36 rfl (by decide) rfl ?_
      refine jr_iconst (v := (0 : Int32)) hG dX5_broken_37 (by decide) ?_
      refine jr_istore (lv' := [(4, .int (0 : Int32)), (3, .int r10), (2, .int r6), (0, .ref (E.B + a0)), (1, .int v1)]) hG dX5_broken_38 (by decide) rfl ?_
      refine jr_sub (lv' := [(0, .ref (E.B + a0)), (1, .int v1), (3, .int r10), (4, .int (0 : Int32))]) [3, 4, 1, 0] rfl ?_
      exact w_X5_broken_40 N hG hr hk N a0 v1 r10 (0 : Int32) ha0 t9
    · refine jr_iload_n hG 0 dX5_broken_24 rfl rfl ?_
      exact jr_iret hG hr hk dX5_broken_25
  · refine jr_iconst (v := (-1 : Int32)) hG dX5_broken_7 (by decide) ?_
    exact jr_iret hG hr hk dX5_broken_8
-- TonguesDealt.shouted(I)I
abbrev rm_X5_shouted : Room := { frames := 2, cells := 0, slots := 0, locals := 41 }
theorem ci_X5_shouted : CIx yX5_shouted cX5_shouted 4 (some .int) 1 := ⟨wd_648, wd_71, by decide +kernel⟩
def f_X5_shouted_41 (N : Nat) (K17 : Nat → Int32 → Int32 → Int32 → Mm → Option (Int32 × Mm)) (a0 : Nat) (v1 : Int32) (v2 : Int32) (v3 : Int32) (σ : Mm) : Option (Int32 × Mm) := K17 a0 v1 v2 (v3 + (1 : Int32)) (σ)
set_option maxRecDepth 20000 in
theorem w_X5_shouted_41 {p : Program} {l : Launch} {e : Env} {s : State} {m : MethodId} {args : Array Value} {below : List Frame} {meth : Method} {c : Code} {E : XE} (N : Nat) (hG : GG E NT 4 RX5 cX5_shouted p s m args c) (hr : meth.sig.returnType = (some .int)) (hk : meth.locks = false) {K17 : Nat → Int32 → Int32 → Int32 → Mm → Option (Int32 × Mm)} (hK17 : ∀ (a0 : Nat) (v1 : Int32) (v2 : Int32) (v3 : Int32) (ha0 : okO 5 a0 = true) (σ : Mm), JR E NT 4 p l e rm_X5_shouted s m args below meth c 0 0 (fun r => MQ below (xQi E (NT + 0) r) args s 0 0 (xA E)) 17 [(0, .ref (E.B + a0)), (1, .int v1), (2, .int v2), (3, .int v3)] [] σ (K17 a0 v1 v2 v3 σ)) (a0 : Nat) (v1 : Int32) (v2 : Int32) (v3 : Int32) (ha0 : okO 5 a0 = true) (σ : Mm) : JR E NT 4 p l e rm_X5_shouted s m args below meth c 0 0 (fun r => MQ below (xQi E (NT + 0) r) args s 0 0 (xA E)) 41 [(0, .ref (E.B + a0)), (1, .int v1), (2, .int v2), (3, .int v3)] [] σ (f_X5_shouted_41 N K17 a0 v1 v2 v3 σ) := by
  show JR E NT 4 p l e rm_X5_shouted s m args below meth c 0 0 (fun r => MQ below (xQi E (NT + 0) r) args s 0 0 (xA E)) 41 [(0, .ref (E.B + a0)), (1, .int v1), (2, .int v2), (3, .int v3)] [] σ (K17 a0 v1 v2 (v3 + (1 : Int32)) (σ))
  refine jr_iinc (v := v3 + (1 : Int32)) (lv' := [(3, .int (v3 + (1 : Int32))), (0, .ref (E.B + a0)), (1, .int v1), (2, .int v2)]) hG 3 dX5_shouted_41 rfl rfl (by decide) rfl ?_
  refine jr_goto hG 17 dX5_shouted_44 (by decide) ?_
  refine jr_sub (lv' := [(0, .ref (E.B + a0)), (1, .int v1), (2, .int v2), (3, .int (v3 + (1 : Int32)))]) [1, 2, 3, 0] rfl ?_
  exact hK17 a0 v1 v2 (v3 + (1 : Int32)) ha0 (σ)
def f_X5_shouted_17 (N : Nat)  : Nat → Nat → Int32 → Int32 → Int32 → Mm → Option (Int32 × Mm)
  | 0 => fun _ _ _ _ _ => none
  | n + 1 => fun a0 v1 v2 v3 σ => if (4 : Int32) ≤ v3 then (some (v2, σ)) else (bR (gr σ a0 4) (okO 0) (fun o4 => bR (gr σ o4 3) (okA 0) (fun o5 => if inb v3 (arL o5) then (if (gi σ o5 (ix v3)) = v1 then (lt (v2 ||| ((1 : Int32) <<< (v3 &&& 31))) (fun x6 => f_X5_shouted_41 N (f_X5_shouted_17 N n) a0 v1 x6 v3 (σ))) else (f_X5_shouted_41 N (f_X5_shouted_17 N n) a0 v1 v2 v3 (σ))) else none)))
set_option maxRecDepth 20000 in
theorem w_X5_shouted_17 {p : Program} {l : Launch} {e : Env} {s : State} {m : MethodId} {args : Array Value} {below : List Frame} {meth : Method} {c : Code} {E : XE} (N : Nat) (hG : GG E NT 4 RX5 cX5_shouted p s m args c) (hr : meth.sig.returnType = (some .int)) (hk : meth.locks = false)  : ∀ (n : Nat) (a0 : Nat) (v1 : Int32) (v2 : Int32) (v3 : Int32) (ha0 : okO 5 a0 = true) (σ : Mm), JR E NT 4 p l e rm_X5_shouted s m args below meth c 0 0 (fun r => MQ below (xQi E (NT + 0) r) args s 0 0 (xA E)) 17 [(0, .ref (E.B + a0)), (1, .int v1), (2, .int v2), (3, .int v3)] [] σ (f_X5_shouted_17 N n a0 v1 v2 v3 σ) := by
  intro n
  induction n with
  | zero => intro a0 v1 v2 v3 ha0 σ r hX; cases hX
  | succ n ih =>
    intro a0 v1 v2 v3 ha0 σ
    show JR E NT 4 p l e rm_X5_shouted s m args below meth c 0 0 (fun r => MQ below (xQi E (NT + 0) r) args s 0 0 (xA E)) 17 [(0, .ref (E.B + a0)), (1, .int v1), (2, .int v2), (3, .int v3)] [] σ (if (4 : Int32) ≤ v3 then (some (v2, σ)) else (bR (gr σ a0 4) (okO 0) (fun o4 => bR (gr σ o4 3) (okA 0) (fun o5 => if inb v3 (arL o5) then (if (gi σ o5 (ix v3)) = v1 then (lt (v2 ||| ((1 : Int32) <<< (v3 &&& 31))) (fun x6 => f_X5_shouted_41 N (f_X5_shouted_17 N n) a0 v1 x6 v3 (σ))) else (f_X5_shouted_41 N (f_X5_shouted_17 N n) a0 v1 v2 v3 (σ))) else none))))
    refine jr_iload_n hG 3 dX5_shouted_17 rfl rfl ?_
    refine jr_iconst (v := (4 : Int32)) hG dX5_shouted_18 (by decide) ?_
    refine jr_icmp_ge hG 47 dX5_shouted_19 (by decide) (fun _ => ?_) (fun _ => ?_)
    · refine jr_iload_n hG 2 dX5_shouted_47 rfl rfl ?_
      exact jr_iret hG hr hk dX5_shouted_48
    · refine jr_aload_n hG 0 dX5_shouted_22 rfl rfl ?_
      refine jr_getR hG fi_RX5_35 rfl (okO_s ha0) (okO_l ha0) dX5_shouted_23 (fun o4 ho4 => ?_)
      refine jr_getR hG fi_RX5_269 rfl (okO_s ho4) (okO_l ho4) dX5_shouted_26 (fun o5 ho5 => ?_)
      refine jr_iload_n hG 3 dX5_shouted_29 rfl rfl ?_
      refine jr_iald hG (okA_s (by decide) ho5) (okA_l ho5) dX5_shouted_30 ?_
      refine jr_iload_n hG 1 dX5_shouted_31 rfl rfl ?_
      refine jr_icmp_ne hG 41 dX5_shouted_32 (by decide) (fun _ => ?_) (fun _ => ?_)
      · exact w_X5_shouted_41 N hG hr hk ih a0 v1 v2 v3 ha0 (σ)
      · refine jr_iload_n hG 2 dX5_shouted_35 rfl rfl ?_
        refine jr_iconst (v := (1 : Int32)) hG dX5_shouted_36 (by decide) ?_
        refine jr_iload_n hG 3 dX5_shouted_37 rfl rfl ?_
        refine jr_ishl hG dX5_shouted_38 ?_
        refine jr_ior hG dX5_shouted_39 ?_
        refine jr_leti (fun x6 _ => ?_)
        refine jr_istore_n (lv' := [(2, .int x6), (0, .ref (E.B + a0)), (1, .int v1), (3, .int v3)]) hG dX5_shouted_40 rfl (by decide) rfl ?_
        refine jr_sub (lv' := [(0, .ref (E.B + a0)), (1, .int v1), (2, .int x6), (3, .int v3)]) [1, 2, 0, 3] rfl ?_
        exact w_X5_shouted_41 N hG hr hk ih a0 v1 x6 v3 ha0 (σ)
def f_X5_shouted (N : Nat) (a0 : Nat) (v1 : Int32) (σ : Mm) : Option (Int32 × Mm) := if okO 5 a0 then (bR (gr σ a0 6) (okO 2) (fun o1 => bI (f_X2_isSet N o1 v1 (σ)) (fun r3 t2 => if r3 = 0 then (some ((-1 : Int32), t2)) else (f_X5_shouted_17 N N a0 v1 (0 : Int32) (0 : Int32) t2)))) else none
set_option maxRecDepth 20000 in
theorem c_X5_shouted (l : Launch) (E : XE) (N : Nat) (a0 : Nat) (v1 : Int32) (σ : Mm) : ∀ r0, f_X5_shouted N a0 v1 σ = some r0 → Met l yX5_shouted [Cond.code yX5_shouted cX5_shouted 4 (some .int)] rm_X5_shouted (xPc E (NT + 0) σ [.ref (E.B + a0), .int v1]) (xQi E (NT + 0) r0) 0 0 (xA E) := by
  refine met_of (N0 := NT) (by decide +kernel) (Nat.le_of_ble_eq_true rfl) ?_
  intro p e s m args below meth c hG hr hk _
  show JR E NT 4 p l e rm_X5_shouted s m args below meth c 0 0 (fun r => MQ below (xQi E (NT + 0) r) args s 0 0 (xA E)) 0 [(0, .ref (E.B + a0)), (1, .int v1)] [] σ (if okO 5 a0 then (bR (gr σ a0 6) (okO 2) (fun o1 => bI (f_X2_isSet N o1 v1 (σ)) (fun r3 t2 => if r3 = 0 then (some ((-1 : Int32), t2)) else (f_X5_shouted_17 N N a0 v1 (0 : Int32) (0 : Int32) t2)))) else none)
  refine jr_guard (fun ha0 => ?_)
  refine jr_aload_n hG 0 dX5_shouted_0 rfl rfl ?_
  refine jr_getR hG fi_RX5_45 rfl (okO_s ha0) (okO_l ha0) dX5_shouted_1 (fun o1 ho1 => ?_)
  refine jr_iload_n hG 1 dX5_shouted_4 rfl rfl ?_
  refine jr_callVi (As := [.int v1]) hG (c_X2_isSet l E N o1 v1 (σ)) ci_X2_isSet wd_649 ⟨wd_650, wd_651⟩ cl_2 (okO_s ho1) (okO_l ho1) ⟨rfl, rfl, Nat.le_of_ble_eq_true rfl, Nat.le_of_ble_eq_true rfl⟩ rfl rfl (Nat.le_of_ble_eq_true rfl) dX5_shouted_5 ⟨Nat.le_refl _, Nat.le_refl _⟩ (fun r3 t2 => ?_)
  refine jr_if_ne hG 13 dX5_shouted_8 (by decide) (fun _ => ?_) (fun _ => ?_)
  · refine jr_iconst (v := (0 : Int32)) hG dX5_shouted_13 (by decide) ?_
    refine jr_istore_n (lv' := [(2, .int (0 : Int32)), (0, .ref (E.B + a0)), (1, .int v1)]) hG dX5_shouted_14 rfl (by decide) rfl ?_
    refine jr_iconst (v := (0 : Int32)) hG dX5_shouted_15 (by decide) ?_
    refine jr_istore_n (lv' := [(3, .int (0 : Int32)), (2, .int (0 : Int32)), (0, .ref (E.B + a0)), (1, .int v1)]) hG dX5_shouted_16 rfl (by decide) rfl ?_
    refine jr_sub (lv' := [(0, .ref (E.B + a0)), (1, .int v1), (2, .int (0 : Int32)), (3, .int (0 : Int32))]) [2, 3, 1, 0] rfl ?_
    exact w_X5_shouted_17 N hG hr hk N a0 v1 (0 : Int32) (0 : Int32) ha0 t2
  · refine jr_iconst (v := (-1 : Int32)) hG dX5_shouted_11 (by decide) ?_
    exact jr_iret hG hr hk dX5_shouted_12
-- TonguesDealt.calls(I)I
abbrev rm_X5_calls : Room := { frames := 4, cells := 0, slots := 0, locals := 90 }
theorem ci_X5_calls : CIx yX5_calls cX5_calls 5 (some .int) 1 := ⟨wd_657, wd_71, by decide +kernel⟩
def f_X5_calls_142 (N : Nat) (K92 : Nat → Nat → Int32 → Int32 → Mm → Option (Int32 × Mm)) (a0 : Nat) (a2 : Nat) (v3 : Int32) (v4 : Int32) (σ : Mm) : Option (Int32 × Mm) := K92 a0 a2 v3 (v4 + (1 : Int32)) (σ)
set_option maxRecDepth 20000 in
theorem w_X5_calls_142 {p : Program} {l : Launch} {e : Env} {s : State} {m : MethodId} {args : Array Value} {below : List Frame} {meth : Method} {c : Code} {E : XE} (N : Nat) (hG : GG E NT 5 RX5 cX5_calls p s m args c) (hr : meth.sig.returnType = (some .int)) (hk : meth.locks = false) {K92 : Nat → Nat → Int32 → Int32 → Mm → Option (Int32 × Mm)} (hK92 : ∀ (a0 : Nat) (a2 : Nat) (v3 : Int32) (v4 : Int32) (ha0 : okO 5 a0 = true) (ha2 : okO 3 a2 = true) (σ : Mm), JR E NT 5 p l e rm_X5_calls s m args below meth c 0 0 (fun r => MQ below (xQi E (NT + 0) r) args s 0 0 (xA E)) 92 [(0, .ref (E.B + a0)), (2, .ref (E.B + a2)), (3, .int v3), (4, .int v4)] [] σ (K92 a0 a2 v3 v4 σ)) (a0 : Nat) (a2 : Nat) (v3 : Int32) (v4 : Int32) (ha0 : okO 5 a0 = true) (ha2 : okO 3 a2 = true) (σ : Mm) : JR E NT 5 p l e rm_X5_calls s m args below meth c 0 0 (fun r => MQ below (xQi E (NT + 0) r) args s 0 0 (xA E)) 142 [(0, .ref (E.B + a0)), (2, .ref (E.B + a2)), (3, .int v3), (4, .int v4)] [] σ (f_X5_calls_142 N K92 a0 a2 v3 v4 σ) := by
  show JR E NT 5 p l e rm_X5_calls s m args below meth c 0 0 (fun r => MQ below (xQi E (NT + 0) r) args s 0 0 (xA E)) 142 [(0, .ref (E.B + a0)), (2, .ref (E.B + a2)), (3, .int v3), (4, .int v4)] [] σ (K92 a0 a2 v3 (v4 + (1 : Int32)) (σ))
  refine jr_iinc (v := v4 + (1 : Int32)) (lv' := [(4, .int (v4 + (1 : Int32))), (0, .ref (E.B + a0)), (2, .ref (E.B + a2)), (3, .int v3)]) hG 3 dX5_calls_142 rfl rfl (by decide) rfl ?_
  refine jr_goto hG 92 dX5_calls_145 (by decide) ?_
  refine jr_sub (lv' := [(0, .ref (E.B + a0)), (2, .ref (E.B + a2)), (3, .int v3), (4, .int (v4 + (1 : Int32)))]) [1, 2, 3, 0] rfl ?_
  exact hK92 a0 a2 v3 (v4 + (1 : Int32)) ha0 ha2 (σ)
def f_X5_calls_92 (N : Nat)  : Nat → Nat → Nat → Int32 → Int32 → Mm → Option (Int32 × Mm)
  | 0 => fun _ _ _ _ _ => none
  | n + 1 => fun a0 a2 v3 v4 σ => bR (gr σ a0 6) (okO 2) (fun o19 => bI (f_X2_deals N o19 (σ)) (fun r21 t20 => if r21 ≤ v4 then (bV (f_X5_tellFraction N a0 v3 (1 : Int32) t20) (fun t22 => some ((1 : Int32), t22))) else (bR (gr t20 a0 5) (okO 0) (fun o23 => bR (gr t20 a0 6) (okO 2) (fun o24 => bV (f_X0_dealOut N o23 o24 v4 t20) (fun t25 => bR (gr t25 a0 5) (okO 0) (fun o26 => bR (gr t25 a0 6) (okO 2) (fun o27 => bV (f_X0_learn N o26 o27 t25) (fun t28 => bR (gr t28 a0 5) (okO 0) (fun o29 => bI (f_X0_isHeardAs N o29 a2 t28) (fun r31 t30 => if r31 = 0 then (f_X5_calls_142 N (f_X5_calls_92 N n) a0 a2 v3 v4 t30) else (f_X5_calls_142 N (f_X5_calls_92 N n) a0 a2 (v3 + (1 : Int32)) v4 t30))))))))))))
set_option maxRecDepth 20000 in
theorem w_X5_calls_92 {p : Program} {l : Launch} {e : Env} {s : State} {m : MethodId} {args : Array Value} {below : List Frame} {meth : Method} {c : Code} {E : XE} (N : Nat) (hG : GG E NT 5 RX5 cX5_calls p s m args c) (hr : meth.sig.returnType = (some .int)) (hk : meth.locks = false)  : ∀ (n : Nat) (a0 : Nat) (a2 : Nat) (v3 : Int32) (v4 : Int32) (ha0 : okO 5 a0 = true) (ha2 : okO 3 a2 = true) (σ : Mm), JR E NT 5 p l e rm_X5_calls s m args below meth c 0 0 (fun r => MQ below (xQi E (NT + 0) r) args s 0 0 (xA E)) 92 [(0, .ref (E.B + a0)), (2, .ref (E.B + a2)), (3, .int v3), (4, .int v4)] [] σ (f_X5_calls_92 N n a0 a2 v3 v4 σ) := by
  intro n
  induction n with
  | zero => intro a0 a2 v3 v4 ha0 ha2 σ r hX; cases hX
  | succ n ih =>
    intro a0 a2 v3 v4 ha0 ha2 σ
    show JR E NT 5 p l e rm_X5_calls s m args below meth c 0 0 (fun r => MQ below (xQi E (NT + 0) r) args s 0 0 (xA E)) 92 [(0, .ref (E.B + a0)), (2, .ref (E.B + a2)), (3, .int v3), (4, .int v4)] [] σ (bR (gr σ a0 6) (okO 2) (fun o19 => bI (f_X2_deals N o19 (σ)) (fun r21 t20 => if r21 ≤ v4 then (bV (f_X5_tellFraction N a0 v3 (1 : Int32) t20) (fun t22 => some ((1 : Int32), t22))) else (bR (gr t20 a0 5) (okO 0) (fun o23 => bR (gr t20 a0 6) (okO 2) (fun o24 => bV (f_X0_dealOut N o23 o24 v4 t20) (fun t25 => bR (gr t25 a0 5) (okO 0) (fun o26 => bR (gr t25 a0 6) (okO 2) (fun o27 => bV (f_X0_learn N o26 o27 t25) (fun t28 => bR (gr t28 a0 5) (okO 0) (fun o29 => bI (f_X0_isHeardAs N o29 a2 t28) (fun r31 t30 => if r31 = 0 then (f_X5_calls_142 N (f_X5_calls_92 N n) a0 a2 v3 v4 t30) else (f_X5_calls_142 N (f_X5_calls_92 N n) a0 a2 (v3 + (1 : Int32)) v4 t30)))))))))))))
    refine jr_iload hG 3 dX5_calls_92 rfl ?_
    refine jr_aload_n hG 0 dX5_calls_94 rfl rfl ?_
    refine jr_getR hG fi_RX5_45 rfl (okO_s ha0) (okO_l ha0) dX5_calls_95 (fun o19 ho19 => ?_)
    refine jr_callVi (As := []) hG (c_X2_deals l E N o19 (σ)) ci_X2_deals wd_658 ⟨wd_575, wd_576⟩ cl_2 (okO_s ho19) (okO_l ho19) ⟨rfl, rfl, Nat.le_of_ble_eq_true rfl, Nat.le_of_ble_eq_true rfl⟩ rfl rfl (Nat.le_of_ble_eq_true rfl) dX5_calls_98 ⟨Nat.le_refl _, Nat.le_refl _⟩ (fun r21 t20 => ?_)
    refine jr_icmp_ge hG 148 dX5_calls_101 (by decide) (fun _ => ?_) (fun _ => ?_)
    · refine jr_aload_n hG 0 dX5_calls_148 rfl rfl ?_
      refine jr_iload_n hG 2 dX5_calls_149 rfl rfl ?_
      refine jr_iconst (v := (1 : Int32)) hG dX5_calls_150 (by decide) ?_
      refine jr_callVv (As := [.int v3, .int (1 : Int32)]) hG (c_X5_tellFraction l E N a0 v3 (1 : Int32) t20) ci_X5_tellFraction wd_599 ⟨wd_601, wd_14⟩ cl_5 (okO_s ha0) (okO_l ha0) ⟨rfl, rfl, Nat.le_of_ble_eq_true rfl, Nat.le_of_ble_eq_true rfl⟩ rfl rfl (Nat.le_of_ble_eq_true rfl) dX5_calls_151 ⟨Nat.le_refl _, Nat.le_refl _⟩ (fun t22 => ?_)
      refine jr_iconst (v := (1 : Int32)) hG dX5_calls_154 (by decide) ?_
      exact jr_iret hG hr hk dX5_calls_155
    · refine jr_aload_n hG 0 dX5_calls_104 rfl rfl ?_
      refine jr_getR hG fi_RX5_39 rfl (okO_s ha0) (okO_l ha0) dX5_calls_105 (fun o23 ho23 => ?_)
      refine jr_aload_n hG 0 dX5_calls_108 rfl rfl ?_
      refine jr_getR hG fi_RX5_45 rfl (okO_s ha0) (okO_l ha0) dX5_calls_109 (fun o24 ho24 => ?_)
      refine jr_iload hG 3 dX5_calls_112 rfl ?_
      refine jr_callVv (As := [.ref (E.B + o24), .int v4]) hG (c_X0_dealOut l E N o23 o24 v4 t20) ci_X0_dealOut wd_659 ⟨wd_392, wd_393⟩ cl_0 (okO_s ho23) (okO_l ho23) ⟨rfl, rfl, Nat.le_of_ble_eq_true rfl, Nat.le_of_ble_eq_true rfl⟩ rfl rfl (Nat.le_of_ble_eq_true rfl) dX5_calls_114 ⟨Nat.le_refl _, Nat.le_refl _⟩ (fun t25 => ?_)
      refine jr_aload_n hG 0 dX5_calls_117 rfl rfl ?_
      refine jr_getR hG fi_RX5_39 rfl (okO_s ha0) (okO_l ha0) dX5_calls_118 (fun o26 ho26 => ?_)
      refine jr_aload_n hG 0 dX5_calls_121 rfl rfl ?_
      refine jr_getR hG fi_RX5_45 rfl (okO_s ha0) (okO_l ha0) dX5_calls_122 (fun o27 ho27 => ?_)
      refine jr_callVv (As := [.ref (E.B + o27)]) hG (c_X0_learn l E N o26 o27 t25) ci_X0_learn wd_660 ⟨wd_400, wd_401⟩ cl_0 (okO_s ho26) (okO_l ho26) ⟨rfl, rfl, Nat.le_of_ble_eq_true rfl, Nat.le_of_ble_eq_true rfl⟩ rfl rfl (Nat.le_of_ble_eq_true rfl) dX5_calls_125 ⟨Nat.le_refl _, Nat.le_refl _⟩ (fun t28 => ?_)
      refine jr_aload_n hG 0 dX5_calls_128 rfl rfl ?_
      refine jr_getR hG fi_RX5_39 rfl (okO_s ha0) (okO_l ha0) dX5_calls_129 (fun o29 ho29 => ?_)
      refine jr_aload_n hG 1 dX5_calls_132 rfl rfl ?_
      refine jr_callVi (As := [.ref (E.B + a2)]) hG (c_X0_isHeardAs l E N o29 a2 t28) ci_X0_isHeardAs wd_661 ⟨wd_662, wd_663⟩ cl_0 (okO_s ho29) (okO_l ho29) ⟨rfl, rfl, Nat.le_of_ble_eq_true rfl, Nat.le_of_ble_eq_true rfl⟩ rfl rfl (Nat.le_of_ble_eq_true rfl) dX5_calls_133 ⟨Nat.le_refl _, Nat.le_refl _⟩ (fun r31 t30 => ?_)
      refine jr_if_eq hG 142 dX5_calls_136 (by decide) (fun _ => ?_) (fun _ => ?_)
      · exact w_X5_calls_142 N hG hr hk ih a0 a2 v3 v4 ha0 ha2 t30
      · refine jr_iinc (v := v3 + (1 : Int32)) (lv' := [(3, .int (v3 + (1 : Int32))), (0, .ref (E.B + a0)), (2, .ref (E.B + a2)), (4, .int v4)]) hG 2 dX5_calls_139 rfl rfl (by decide) rfl ?_
        refine jr_sub (lv' := [(0, .ref (E.B + a0)), (2, .ref (E.B + a2)), (3, .int (v3 + (1 : Int32))), (4, .int v4)]) [1, 2, 0, 3] rfl ?_
        exact w_X5_calls_142 N hG hr hk ih a0 a2 (v3 + (1 : Int32)) v4 ha0 ha2 t30
def f_X5_calls (N : Nat) (a0 : Nat) (v1 : Int32) (σ : Mm) : Option (Int32 × Mm) := if okO 5 a0 then (bI (f_X5_isRow N v1 (σ)) (fun r2 t1 => if r2 = 0 then (some ((-1 : Int32), t1)) else (bR (gr t1 a0 6) (okO 2) (fun o3 => if (gi t1 o3 8) = 0 then (some ((-4 : Int32), t1)) else (bR (gr t1 a0 0) (okA 3) (fun o4 => if inb v1 (arL o4) then (bR (gr t1 o4 (ix v1)) (okO 3) (fun o5 => if (gi t1 o5 1) = (-1 : Int32) then (bI (f_X5_found N a0 (1 : Int32) t1) (fun r18 t17 => some (r18, t17))) else (if (gi t1 o5 1) ≤ (4 : Int32) then (bR (gr t1 a0 6) (okO 2) (fun o6 => bI (f_X2_everybody N o6 t1) (fun r8 t7 => bI (f_X3_allBelow N o5 (r8 + (1 : Int32)) t7) (fun r10 t9 => if r10 = 0 then (bI (f_X5_found N a0 (3 : Int32) t9) (fun r14 t13 => some (r14, t13))) else (bR (gr t9 a0 5) (okO 0) (fun o11 => lt (si t9 o11 7 (0 : Int32)) (fun t12 => f_X5_calls_92 N N a0 o5 (0 : Int32) (0 : Int32) t12))))))) else (bI (f_X5_found N a0 (5 : Int32) t1) (fun r16 t15 => some (r16, t15)))))) else none)))))) else none
set_option maxRecDepth 20000 in
theorem c_X5_calls (l : Launch) (E : XE) (N : Nat) (a0 : Nat) (v1 : Int32) (σ : Mm) : ∀ r0, f_X5_calls N a0 v1 σ = some r0 → Met l yX5_calls [Cond.code yX5_calls cX5_calls 5 (some .int)] rm_X5_calls (xPc E (NT + 0) σ [.ref (E.B + a0), .int v1]) (xQi E (NT + 0) r0) 0 0 (xA E) := by
  refine met_of (N0 := NT) (by decide +kernel) (Nat.le_of_ble_eq_true rfl) ?_
  intro p e s m args below meth c hG hr hk _
  show JR E NT 5 p l e rm_X5_calls s m args below meth c 0 0 (fun r => MQ below (xQi E (NT + 0) r) args s 0 0 (xA E)) 0 [(0, .ref (E.B + a0)), (1, .int v1)] [] σ (if okO 5 a0 then (bI (f_X5_isRow N v1 (σ)) (fun r2 t1 => if r2 = 0 then (some ((-1 : Int32), t1)) else (bR (gr t1 a0 6) (okO 2) (fun o3 => if (gi t1 o3 8) = 0 then (some ((-4 : Int32), t1)) else (bR (gr t1 a0 0) (okA 3) (fun o4 => if inb v1 (arL o4) then (bR (gr t1 o4 (ix v1)) (okO 3) (fun o5 => if (gi t1 o5 1) = (-1 : Int32) then (bI (f_X5_found N a0 (1 : Int32) t1) (fun r18 t17 => some (r18, t17))) else (if (gi t1 o5 1) ≤ (4 : Int32) then (bR (gr t1 a0 6) (okO 2) (fun o6 => bI (f_X2_everybody N o6 t1) (fun r8 t7 => bI (f_X3_allBelow N o5 (r8 + (1 : Int32)) t7) (fun r10 t9 => if r10 = 0 then (bI (f_X5_found N a0 (3 : Int32) t9) (fun r14 t13 => some (r14, t13))) else (bR (gr t9 a0 5) (okO 0) (fun o11 => lt (si t9 o11 7 (0 : Int32)) (fun t12 => f_X5_calls_92 N N a0 o5 (0 : Int32) (0 : Int32) t12))))))) else (bI (f_X5_found N a0 (5 : Int32) t1) (fun r16 t15 => some (r16, t15)))))) else none)))))) else none)
  refine jr_guard (fun ha0 => ?_)
  refine jr_iload_n hG 1 dX5_calls_0 rfl rfl ?_
  refine jr_callSi (As := [.int v1]) hG (c_X5_isRow l E N v1 (σ)) ci_X5_isRow wd_273 wd_274 ⟨rfl, rfl, Nat.le_of_ble_eq_true rfl, Nat.le_of_ble_eq_true rfl⟩ rfl rfl (Nat.le_of_ble_eq_true rfl) dX5_calls_1 ⟨Nat.le_refl _, Nat.le_refl _⟩ (fun r2 t1 => ?_)
  refine jr_if_ne hG 9 dX5_calls_4 (by decide) (fun _ => ?_) (fun _ => ?_)
  · refine jr_aload_n hG 0 dX5_calls_9 rfl rfl ?_
    refine jr_getR hG fi_RX5_45 rfl (okO_s ha0) (okO_l ha0) dX5_calls_10 (fun o3 ho3 => ?_)
    refine jr_getI hG fi_RX5_127 rfl (okO_s ho3) (okO_l ho3) dX5_calls_13 ?_
    refine jr_if_ne hG 22 dX5_calls_16 (by decide) (fun _ => ?_) (fun _ => ?_)
    · refine jr_aload_n hG 0 dX5_calls_22 rfl rfl ?_
      refine jr_getR hG fi_RX5_11 rfl (okO_s ha0) (okO_l ha0) dX5_calls_23 (fun o4 ho4 => ?_)
      refine jr_iload_n hG 1 dX5_calls_26 rfl rfl ?_
      refine jr_aald hG (okA_s (by decide) ho4) (by decide) rfl (okA_l ho4) dX5_calls_27 (fun o5 ho5 => ?_)
      refine jr_astore_n (lv' := [(2, .ref (E.B + o5)), (0, .ref (E.B + a0)), (1, .int v1)]) hG dX5_calls_28 rfl (by decide) rfl ?_
      refine jr_aload_n hG 0 dX5_calls_29 rfl rfl ?_
      refine jr_getI hG fi_RX5_90 rfl (okO_s ho5) (okO_l ho5) dX5_calls_30 ?_
      refine jr_iconst (v := (-1 : Int32)) hG dX5_calls_33 (by decide) ?_
      refine jr_icmp_ne hG 43 dX5_calls_34 (by decide) (fun _ => ?_) (fun _ => ?_)
      · refine jr_aload_n hG 0 dX5_calls_43 rfl rfl ?_
        refine jr_getI hG fi_RX5_90 rfl (okO_s ho5) (okO_l ho5) dX5_calls_44 ?_
        refine jr_iconst (v := (4 : Int32)) hG dX5_calls_47 (by decide) ?_
        refine jr_icmp_le hG 57 dX5_calls_48 (by decide) (fun _ => ?_) (fun _ => ?_)
        · refine jr_aload_n hG 0 dX5_calls_57 rfl rfl ?_
          refine jr_aload_n hG 1 dX5_calls_58 rfl rfl ?_
          refine jr_getR hG fi_RX5_45 rfl (okO_s ha0) (okO_l ha0) dX5_calls_59 (fun o6 ho6 => ?_)
          refine jr_callVi (As := []) hG (c_X2_everybody l E N o6 t1) ci_X2_everybody wd_533 ⟨wd_534, wd_535⟩ cl_2 (okO_s ho6) (okO_l ho6) ⟨rfl, rfl, Nat.le_of_ble_eq_true rfl, Nat.le_of_ble_eq_true rfl⟩ rfl rfl (Nat.le_of_ble_eq_true rfl) dX5_calls_62 ⟨Nat.le_refl _, Nat.le_refl _⟩ (fun r8 t7 => ?_)
          refine jr_iconst (v := (1 : Int32)) hG dX5_calls_65 (by decide) ?_
          refine jr_iadd hG dX5_calls_66 ?_
          refine jr_callVi (As := [.int (r8 + (1 : Int32))]) hG (c_X3_allBelow l E N o5 (r8 + (1 : Int32)) t7) ci_X3_allBelow wd_455 ⟨wd_456, wd_457⟩ cl_3 (okO_s ho5) (okO_l ho5) ⟨rfl, rfl, Nat.le_of_ble_eq_true rfl, Nat.le_of_ble_eq_true rfl⟩ rfl rfl (Nat.le_of_ble_eq_true rfl) dX5_calls_67 ⟨Nat.le_refl _, Nat.le_refl _⟩ (fun r10 t9 => ?_)
          refine jr_if_ne hG 79 dX5_calls_70 (by decide) (fun _ => ?_) (fun _ => ?_)
          · refine jr_iconst (v := (0 : Int32)) hG dX5_calls_79 (by decide) ?_
            refine jr_istore_n (lv' := [(3, .int (0 : Int32)), (2, .ref (E.B + o5)), (0, .ref (E.B + a0)), (1, .int v1)]) hG dX5_calls_80 rfl (by decide) rfl ?_
            refine jr_aload_n hG 2 dX5_calls_81 rfl rfl ?_
            refine jr_getR hG fi_RX5_39 rfl (okO_s ha0) (okO_l ha0) dX5_calls_82 (fun o11 ho11 => ?_)
            refine jr_iconst (v := (0 : Int32)) hG dX5_calls_85 (by decide) ?_
            refine jr_putZ hG fi_RX5_177 rfl rfl (okO_s ho11) (okO_l ho11) (by decide) dX5_calls_86 ?_
            refine jr_lets (fun t12 _ => ?_)
            refine jr_iconst (v := (0 : Int32)) hG dX5_calls_89 (by decide) ?_
            refine jr_istore (lv' := [(4, .int (0 : Int32)), (3, .int (0 : Int32)), (2, .ref (E.B + o5)), (0, .ref (E.B + a0)), (1, .int v1)]) hG dX5_calls_90 (by decide) rfl ?_
            refine jr_sub (lv' := [(0, .ref (E.B + a0)), (2, .ref (E.B + o5)), (3, .int (0 : Int32)), (4, .int (0 : Int32))]) [3, 2, 1, 0] rfl ?_
            exact w_X5_calls_92 N hG hr hk N a0 o5 (0 : Int32) (0 : Int32) ha0 ho5 t12
          · refine jr_aload_n hG 1 dX5_calls_73 rfl rfl ?_
            refine jr_iconst (v := (3 : Int32)) hG dX5_calls_74 (by decide) ?_
            refine jr_callVi (As := [.int (3 : Int32)]) hG (c_X5_found l E N a0 (3 : Int32) t9) ci_X5_found wd_276 ⟨wd_278, wd_0⟩ cl_5 (okO_s ha0) (okO_l ha0) ⟨rfl, rfl, Nat.le_of_ble_eq_true rfl, Nat.le_of_ble_eq_true rfl⟩ rfl rfl (Nat.le_of_ble_eq_true rfl) dX5_calls_75 ⟨Nat.le_refl _, Nat.le_refl _⟩ (fun r14 t13 => ?_)
            exact jr_iret hG hr hk dX5_calls_78
        · refine jr_aload_n hG 1 dX5_calls_51 rfl rfl ?_
          refine jr_iconst (v := (5 : Int32)) hG dX5_calls_52 (by decide) ?_
          refine jr_callVi (As := [.int (5 : Int32)]) hG (c_X5_found l E N a0 (5 : Int32) t1) ci_X5_found wd_276 ⟨wd_278, wd_0⟩ cl_5 (okO_s ha0) (okO_l ha0) ⟨rfl, rfl, Nat.le_of_ble_eq_true rfl, Nat.le_of_ble_eq_true rfl⟩ rfl rfl (Nat.le_of_ble_eq_true rfl) dX5_calls_53 ⟨Nat.le_refl _, Nat.le_refl _⟩ (fun r16 t15 => ?_)
          exact jr_iret hG hr hk dX5_calls_56
      · refine jr_aload_n hG 1 dX5_calls_37 rfl rfl ?_
        refine jr_iconst (v := (1 : Int32)) hG dX5_calls_38 (by decide) ?_
        refine jr_callVi (As := [.int (1 : Int32)]) hG (c_X5_found l E N a0 (1 : Int32) t1) ci_X5_found wd_276 ⟨wd_278, wd_0⟩ cl_5 (okO_s ha0) (okO_l ha0) ⟨rfl, rfl, Nat.le_of_ble_eq_true rfl, Nat.le_of_ble_eq_true rfl⟩ rfl rfl (Nat.le_of_ble_eq_true rfl) dX5_calls_39 ⟨Nat.le_refl _, Nat.le_refl _⟩ (fun r18 t17 => ?_)
        exact jr_iret hG hr hk dX5_calls_42
    · refine jr_bipush (v := (-4 : Int32)) hG dX5_calls_19 (by decide) ?_
      exact jr_iret hG hr hk dX5_calls_21
  · refine jr_iconst (v := (-1 : Int32)) hG dX5_calls_7 (by decide) ?_
    exact jr_iret hG hr hk dX5_calls_8
-- TonguesDealt.lots(II)I
abbrev rm_X5_lots : Room := { frames := 6, cells := 0, slots := 0, locals := 135 }
theorem ci_X5_lots : CIx yX5_lots cX5_lots 10 (some .int) 2 := ⟨wd_668, wd_71, by decide +kernel⟩
def f_X5_lots_165 (N : Nat) (K78 : Nat → Int32 → Int32 → Int32 → Int64 → Int32 → Mm → Option (Int32 × Mm)) (a0 : Nat) (v1 : Int32) (v3 : Int32) (v4 : Int32) (v5 : Int64) (v7 : Int32) (σ : Mm) : Option (Int32 × Mm) := K78 a0 v1 v3 v4 v5 (v7 + (1 : Int32)) (σ)
set_option maxRecDepth 20000 in
theorem w_X5_lots_165 {p : Program} {l : Launch} {e : Env} {s : State} {m : MethodId} {args : Array Value} {below : List Frame} {meth : Method} {c : Code} {E : XE} (N : Nat) (hG : GG E NT 10 RX5 cX5_lots p s m args c) (hr : meth.sig.returnType = (some .int)) (hk : meth.locks = false) {K78 : Nat → Int32 → Int32 → Int32 → Int64 → Int32 → Mm → Option (Int32 × Mm)} (hK78 : ∀ (a0 : Nat) (v1 : Int32) (v3 : Int32) (v4 : Int32) (v5 : Int64) (v7 : Int32) (ha0 : okO 5 a0 = true) (σ : Mm), JR E NT 10 p l e rm_X5_lots s m args below meth c 0 0 (fun r => MQ below (xQi E (NT + 0) r) args s 0 0 (xA E)) 78 [(0, .ref (E.B + a0)), (1, .int v1), (3, .int v3), (4, .int v4), (5, .long v5), (7, .int v7)] [] σ (K78 a0 v1 v3 v4 v5 v7 σ)) (a0 : Nat) (v1 : Int32) (v3 : Int32) (v4 : Int32) (v5 : Int64) (v7 : Int32) (ha0 : okO 5 a0 = true) (σ : Mm) : JR E NT 10 p l e rm_X5_lots s m args below meth c 0 0 (fun r => MQ below (xQi E (NT + 0) r) args s 0 0 (xA E)) 165 [(0, .ref (E.B + a0)), (1, .int v1), (3, .int v3), (4, .int v4), (5, .long v5), (7, .int v7)] [] σ (f_X5_lots_165 N K78 a0 v1 v3 v4 v5 v7 σ) := by
  show JR E NT 10 p l e rm_X5_lots s m args below meth c 0 0 (fun r => MQ below (xQi E (NT + 0) r) args s 0 0 (xA E)) 165 [(0, .ref (E.B + a0)), (1, .int v1), (3, .int v3), (4, .int v4), (5, .long v5), (7, .int v7)] [] σ (K78 a0 v1 v3 v4 v5 (v7 + (1 : Int32)) (σ))
  refine jr_iinc (v := v7 + (1 : Int32)) (lv' := [(7, .int (v7 + (1 : Int32))), (0, .ref (E.B + a0)), (1, .int v1), (3, .int v3), (4, .int v4), (5, .long v5)]) hG 5 dX5_lots_165 rfl rfl (by decide) rfl ?_
  refine jr_goto hG 78 dX5_lots_168 (by decide) ?_
  refine jr_sub (lv' := [(0, .ref (E.B + a0)), (1, .int v1), (3, .int v3), (4, .int v4), (5, .long v5), (7, .int (v7 + (1 : Int32)))]) [1, 2, 3, 4, 5, 0] rfl ?_
  exact hK78 a0 v1 v3 v4 v5 (v7 + (1 : Int32)) ha0 (σ)
def f_X5_lots_90 (N : Nat) (K78 : Nat → Int32 → Int32 → Int32 → Int64 → Int32 → Mm → Option (Int32 × Mm)) : Nat → Nat → Int32 → Int32 → Int32 → Int64 → Int32 → Int32 → Int32 → Mm → Option (Int32 × Mm)
  | 0 => fun _ _ _ _ _ _ _ _ _ => none
  | n + 1 => fun a0 v1 v3 v4 v5 v7 v8 v9 σ => bR (gr σ a0 6) (okO 2) (fun o6 => if (gi σ o6 7) ≤ v9 then (bV (f_X5_act N a0 (0 : Int32) v8 (σ)) (fun t7 => bR (gr t7 a0 4) (okO 0) (fun o8 => bI (f_X0_goes N o8 (0 : Int32) v3 (63 : Int32) t7) (fun r10 t9 => if r10 = 0 then (f_X5_lots_165 N K78 a0 v1 v3 v4 v5 v7 t9) else (f_X5_lots_165 N K78 a0 v1 v3 (v4 + (1 : Int32)) v5 v7 t9))))) else (lt ((v5 * (48271 : Int64)) - (v5 * (48271 : Int64)) / (2147483647 : Int64) * (2147483647 : Int64)) (fun x11 => lt (v8 ||| ((((x11 / (8 : Int64)) - (x11 / (8 : Int64)) / (4 : Int64) * (4 : Int64)).toInt32) <<< (((2 : Int32) * v9) &&& 31))) (fun x12 => f_X5_lots_90 N K78 n a0 v1 v3 v4 x11 v7 x12 (v9 + (1 : Int32)) (σ)))))
set_option maxRecDepth 20000 in
theorem w_X5_lots_90 {p : Program} {l : Launch} {e : Env} {s : State} {m : MethodId} {args : Array Value} {below : List Frame} {meth : Method} {c : Code} {E : XE} (N : Nat) (hG : GG E NT 10 RX5 cX5_lots p s m args c) (hr : meth.sig.returnType = (some .int)) (hk : meth.locks = false) {K78 : Nat → Int32 → Int32 → Int32 → Int64 → Int32 → Mm → Option (Int32 × Mm)} (hK78 : ∀ (a0 : Nat) (v1 : Int32) (v3 : Int32) (v4 : Int32) (v5 : Int64) (v7 : Int32) (ha0 : okO 5 a0 = true) (σ : Mm), JR E NT 10 p l e rm_X5_lots s m args below meth c 0 0 (fun r => MQ below (xQi E (NT + 0) r) args s 0 0 (xA E)) 78 [(0, .ref (E.B + a0)), (1, .int v1), (3, .int v3), (4, .int v4), (5, .long v5), (7, .int v7)] [] σ (K78 a0 v1 v3 v4 v5 v7 σ)) : ∀ (n : Nat) (a0 : Nat) (v1 : Int32) (v3 : Int32) (v4 : Int32) (v5 : Int64) (v7 : Int32) (v8 : Int32) (v9 : Int32) (ha0 : okO 5 a0 = true) (σ : Mm), JR E NT 10 p l e rm_X5_lots s m args below meth c 0 0 (fun r => MQ below (xQi E (NT + 0) r) args s 0 0 (xA E)) 90 [(0, .ref (E.B + a0)), (1, .int v1), (3, .int v3), (4, .int v4), (5, .long v5), (7, .int v7), (8, .int v8), (9, .int v9)] [] σ (f_X5_lots_90 N K78 n a0 v1 v3 v4 v5 v7 v8 v9 σ) := by
  intro n
  induction n with
  | zero => intro a0 v1 v3 v4 v5 v7 v8 v9 ha0 σ r hX; cases hX
  | succ n ih =>
    intro a0 v1 v3 v4 v5 v7 v8 v9 ha0 σ
    show JR E NT 10 p l e rm_X5_lots s m args below meth c 0 0 (fun r => MQ below (xQi E (NT + 0) r) args s 0 0 (xA E)) 90 [(0, .ref (E.B + a0)), (1, .int v1), (3, .int v3), (4, .int v4), (5, .long v5), (7, .int v7), (8, .int v8), (9, .int v9)] [] σ (bR (gr σ a0 6) (okO 2) (fun o6 => if (gi σ o6 7) ≤ v9 then (bV (f_X5_act N a0 (0 : Int32) v8 (σ)) (fun t7 => bR (gr t7 a0 4) (okO 0) (fun o8 => bI (f_X0_goes N o8 (0 : Int32) v3 (63 : Int32) t7) (fun r10 t9 => if r10 = 0 then (f_X5_lots_165 N K78 a0 v1 v3 v4 v5 v7 t9) else (f_X5_lots_165 N K78 a0 v1 v3 (v4 + (1 : Int32)) v5 v7 t9))))) else (lt ((v5 * (48271 : Int64)) - (v5 * (48271 : Int64)) / (2147483647 : Int64) * (2147483647 : Int64)) (fun x11 => lt (v8 ||| ((((x11 / (8 : Int64)) - (x11 / (8 : Int64)) / (4 : Int64) * (4 : Int64)).toInt32) <<< (((2 : Int32) * v9) &&& 31))) (fun x12 => f_X5_lots_90 N K78 n a0 v1 v3 v4 x11 v7 x12 (v9 + (1 : Int32)) (σ))))))
    refine jr_iload hG 7 dX5_lots_90 rfl ?_
    refine jr_aload_n hG 0 dX5_lots_92 rfl rfl ?_
    refine jr_getR hG fi_RX5_45 rfl (okO_s ha0) (okO_l ha0) dX5_lots_93 (fun o6 ho6 => ?_)
    refine jr_getI hG fi_RX5_288 rfl (okO_s ho6) (okO_l ho6) dX5_lots_96 ?_
    refine jr_icmp_ge hG 141 dX5_lots_99 (by decide) (fun _ => ?_) (fun _ => ?_)
    · refine jr_aload_n hG 0 dX5_lots_141 rfl rfl ?_
      refine jr_iconst (v := (0 : Int32)) hG dX5_lots_142 (by decide) ?_
      refine jr_iload hG 6 dX5_lots_143 rfl ?_
      refine jr_callVv (As := [.int (0 : Int32), .int v8]) hG (c_X5_act l E N a0 (0 : Int32) v8 (σ)) ci_X5_act wd_467 ⟨wd_469, wd_8⟩ cl_5 (okO_s ha0) (okO_l ha0) ⟨rfl, rfl, Nat.le_of_ble_eq_true rfl, Nat.le_of_ble_eq_true rfl⟩ rfl rfl (Nat.le_of_ble_eq_true rfl) dX5_lots_145 ⟨Nat.le_refl _, Nat.le_refl _⟩ (fun t7 => ?_)
      refine jr_aload_n hG 0 dX5_lots_148 rfl rfl ?_
      refine jr_getR hG fi_RX5_35 rfl (okO_s ha0) (okO_l ha0) dX5_lots_149 (fun o8 ho8 => ?_)
      refine jr_iconst (v := (0 : Int32)) hG dX5_lots_152 (by decide) ?_
      refine jr_iload_n hG 2 dX5_lots_153 rfl rfl ?_
      refine jr_bipush (v := (63 : Int32)) hG dX5_lots_154 (by decide) ?_
      refine jr_callVi (As := [.int (0 : Int32), .int v3, .int (63 : Int32)]) hG (c_X0_goes l E N o8 (0 : Int32) v3 (63 : Int32) t7) ci_X0_goes wd_537 ⟨wd_538, wd_539⟩ cl_0 (okO_s ho8) (okO_l ho8) ⟨rfl, rfl, Nat.le_of_ble_eq_true rfl, Nat.le_of_ble_eq_true rfl⟩ rfl rfl (Nat.le_of_ble_eq_true rfl) dX5_lots_156 ⟨Nat.le_refl _, Nat.le_refl _⟩ (fun r10 t9 => ?_)
      refine jr_if_eq hG 165 dX5_lots_159 (by decide) (fun _ => ?_) (fun _ => ?_)
      · refine jr_sub (lv' := [(0, .ref (E.B + a0)), (1, .int v1), (3, .int v3), (4, .int v4), (5, .long v5), (7, .int v7)]) [0, 1, 2, 3, 4, 5] rfl ?_
        exact w_X5_lots_165 N hG hr hk hK78 a0 v1 v3 v4 v5 v7 ha0 t9
      · refine jr_iinc (v := v4 + (1 : Int32)) (lv' := [(4, .int (v4 + (1 : Int32))), (0, .ref (E.B + a0)), (1, .int v1), (3, .int v3), (5, .long v5), (7, .int v7), (8, .int v8), (9, .int v9)]) hG 3 dX5_lots_162 rfl rfl (by decide) rfl ?_
        refine jr_sub (lv' := [(0, .ref (E.B + a0)), (1, .int v1), (3, .int v3), (4, .int (v4 + (1 : Int32))), (5, .long v5), (7, .int v7)]) [1, 2, 3, 0, 4, 5] rfl ?_
        exact w_X5_lots_165 N hG hr hk hK78 a0 v1 v3 (v4 + (1 : Int32)) v5 v7 ha0 t9
    · refine jr_lload hG 4 dX5_lots_102 rfl ?_
      refine jr_ldc2 (v := (48271 : Int64)) hG wd_670 dX5_lots_104 ?_
      refine jr_lmul hG dX5_lots_107 ?_
      refine jr_ldc2 (v := (2147483647 : Int64)) hG wd_669 dX5_lots_108 ?_
      refine jr_lremc hG dX5_lots_111 (by decide) ?_
      refine jr_letl (fun x11 _ => ?_)
      refine jr_lstore (lv' := [(5, .long x11), (0, .ref (E.B + a0)), (1, .int v1), (3, .int v3), (4, .int v4), (7, .int v7), (8, .int v8), (9, .int v9)]) hG dX5_lots_112 (by decide) rfl ?_
      refine jr_iload hG 6 dX5_lots_114 rfl ?_
      refine jr_lload hG 0 dX5_lots_116 rfl ?_
      refine jr_ldc2 (v := (8 : Int64)) hG wd_671 dX5_lots_118 ?_
      refine jr_ldivc hG dX5_lots_121 (by decide) ?_
      refine jr_ldc2 (v := (4 : Int64)) hG wd_672 dX5_lots_122 ?_
      refine jr_lremc hG dX5_lots_125 (by decide) ?_
      refine jr_l2i hG dX5_lots_126 ?_
      refine jr_iconst (v := (2 : Int32)) hG dX5_lots_127 (by decide) ?_
      refine jr_iload hG 7 dX5_lots_128 rfl ?_
      refine jr_imul hG dX5_lots_130 ?_
      refine jr_ishl hG dX5_lots_131 ?_
      refine jr_ior hG dX5_lots_132 ?_
      refine jr_leti (fun x12 _ => ?_)
      refine jr_istore (lv' := [(8, .int x12), (5, .long x11), (0, .ref (E.B + a0)), (1, .int v1), (3, .int v3), (4, .int v4), (7, .int v7), (9, .int v9)]) hG dX5_lots_133 (by decide) rfl ?_
      refine jr_iinc (v := v9 + (1 : Int32)) (lv' := [(9, .int (v9 + (1 : Int32))), (8, .int x12), (5, .long x11), (0, .ref (E.B + a0)), (1, .int v1), (3, .int v3), (4, .int v4), (7, .int v7)]) hG 7 dX5_lots_135 rfl rfl (by decide) rfl ?_
      refine jr_goto hG 90 dX5_lots_138 (by decide) ?_
      refine jr_sub (lv' := [(0, .ref (E.B + a0)), (1, .int v1), (3, .int v3), (4, .int v4), (5, .long x11), (7, .int v7), (8, .int x12), (9, .int (v9 + (1 : Int32)))]) [3, 4, 5, 6, 2, 7, 1, 0] rfl ?_
      exact ih a0 v1 v3 v4 x11 v7 x12 (v9 + (1 : Int32)) ha0 (σ)
def f_X5_lots_78 (N : Nat)  : Nat → Nat → Int32 → Int32 → Int32 → Int64 → Int32 → Mm → Option (Int32 × Mm)
  | 0 => fun _ _ _ _ _ _ _ => none
  | n + 1 => fun a0 v1 v3 v4 v5 v7 σ => if v1 ≤ v7 then (some (v4, σ)) else (f_X5_lots_90 N (f_X5_lots_78 N n) N a0 v1 v3 v4 v5 v7 (0 : Int32) (0 : Int32) (σ))
set_option maxRecDepth 20000 in
theorem w_X5_lots_78 {p : Program} {l : Launch} {e : Env} {s : State} {m : MethodId} {args : Array Value} {below : List Frame} {meth : Method} {c : Code} {E : XE} (N : Nat) (hG : GG E NT 10 RX5 cX5_lots p s m args c) (hr : meth.sig.returnType = (some .int)) (hk : meth.locks = false)  : ∀ (n : Nat) (a0 : Nat) (v1 : Int32) (v3 : Int32) (v4 : Int32) (v5 : Int64) (v7 : Int32) (ha0 : okO 5 a0 = true) (σ : Mm), JR E NT 10 p l e rm_X5_lots s m args below meth c 0 0 (fun r => MQ below (xQi E (NT + 0) r) args s 0 0 (xA E)) 78 [(0, .ref (E.B + a0)), (1, .int v1), (3, .int v3), (4, .int v4), (5, .long v5), (7, .int v7)] [] σ (f_X5_lots_78 N n a0 v1 v3 v4 v5 v7 σ) := by
  intro n
  induction n with
  | zero => intro a0 v1 v3 v4 v5 v7 ha0 σ r hX; cases hX
  | succ n ih =>
    intro a0 v1 v3 v4 v5 v7 ha0 σ
    show JR E NT 10 p l e rm_X5_lots s m args below meth c 0 0 (fun r => MQ below (xQi E (NT + 0) r) args s 0 0 (xA E)) 78 [(0, .ref (E.B + a0)), (1, .int v1), (3, .int v3), (4, .int v4), (5, .long v5), (7, .int v7)] [] σ (if v1 ≤ v7 then (some (v4, σ)) else (f_X5_lots_90 N (f_X5_lots_78 N n) N a0 v1 v3 v4 v5 v7 (0 : Int32) (0 : Int32) (σ)))
    refine jr_iload hG 5 dX5_lots_78 rfl ?_
    refine jr_iload_n hG 1 dX5_lots_80 rfl rfl ?_
    refine jr_icmp_ge hG 171 dX5_lots_81 (by decide) (fun _ => ?_) (fun _ => ?_)
    · refine jr_iload hG 3 dX5_lots_171 rfl ?_
      exact jr_iret hG hr hk dX5_lots_173
    · refine jr_iconst (v := (0 : Int32)) hG dX5_lots_84 (by decide) ?_
      refine jr_istore (lv' := [(8, .int (0 : Int32)), (0, .ref (E.B + a0)), (1, .int v1), (3, .int v3), (4, .int v4), (5, .long v5), (7, .int v7)]) hG dX5_lots_85 (by decide) rfl ?_
      refine jr_iconst (v := (0 : Int32)) hG dX5_lots_87 (by decide) ?_
      refine jr_istore (lv' := [(9, .int (0 : Int32)), (8, .int (0 : Int32)), (0, .ref (E.B + a0)), (1, .int v1), (3, .int v3), (4, .int v4), (5, .long v5), (7, .int v7)]) hG dX5_lots_88 (by decide) rfl ?_
      refine jr_sub (lv' := [(0, .ref (E.B + a0)), (1, .int v1), (3, .int v3), (4, .int v4), (5, .long v5), (7, .int v7), (8, .int (0 : Int32)), (9, .int (0 : Int32))]) [2, 3, 4, 5, 6, 7, 1, 0] rfl ?_
      exact w_X5_lots_90 N hG hr hk ih N a0 v1 v3 v4 v5 v7 (0 : Int32) (0 : Int32) ha0 (σ)
def f_X5_lots (N : Nat) (a0 : Nat) (v1 : Int32) (v2 : Int32) (σ : Mm) : Option (Int32 × Mm) := if okO 5 a0 then (if v1 < (1 : Int32) then (some ((-1 : Int32), σ)) else (if (20 : Int32) < v1 then (some ((-1 : Int32), σ)) else (if v2 < (1 : Int32) then (some ((-1 : Int32), σ)) else (if (lg_cmp (v2.toInt64) (2147483647 : Int64)) < 0 then (bR (gr σ a0 6) (okO 2) (fun o1 => if (2 : Int32) ≤ (gi σ o1 8) then (bR (gr σ a0 3) (okO 1) (fun o2 => if ((gi σ o2 2) + v1) ≤ (40 : Int32) then (bR (gr σ a0 6) (okO 2) (fun o3 => lt ((gi σ o3 8) - (1 : Int32)) (fun x4 => lt (v2.toInt64) (fun x5 => f_X5_lots_78 N N a0 v1 x4 (0 : Int32) x5 (0 : Int32) (σ))))) else (some ((-2 : Int32), σ)))) else (some ((-4 : Int32), σ)))) else (some ((-1 : Int32), σ)))))) else none
set_option maxRecDepth 20000 in
theorem c_X5_lots (l : Launch) (E : XE) (N : Nat) (a0 : Nat) (v1 : Int32) (v2 : Int32) (σ : Mm) : ∀ r0, f_X5_lots N a0 v1 v2 σ = some r0 → Met l yX5_lots [Cond.code yX5_lots cX5_lots 10 (some .int)] rm_X5_lots (xPc E (NT + 0) σ [.ref (E.B + a0), .int v1, .int v2]) (xQi E (NT + 0) r0) 0 0 (xA E) := by
  refine met_of (N0 := NT) (by decide +kernel) (Nat.le_of_ble_eq_true rfl) ?_
  intro p e s m args below meth c hG hr hk _
  show JR E NT 10 p l e rm_X5_lots s m args below meth c 0 0 (fun r => MQ below (xQi E (NT + 0) r) args s 0 0 (xA E)) 0 [(0, .ref (E.B + a0)), (1, .int v1), (2, .int v2)] [] σ (if okO 5 a0 then (if v1 < (1 : Int32) then (some ((-1 : Int32), σ)) else (if (20 : Int32) < v1 then (some ((-1 : Int32), σ)) else (if v2 < (1 : Int32) then (some ((-1 : Int32), σ)) else (if (lg_cmp (v2.toInt64) (2147483647 : Int64)) < 0 then (bR (gr σ a0 6) (okO 2) (fun o1 => if (2 : Int32) ≤ (gi σ o1 8) then (bR (gr σ a0 3) (okO 1) (fun o2 => if ((gi σ o2 2) + v1) ≤ (40 : Int32) then (bR (gr σ a0 6) (okO 2) (fun o3 => lt ((gi σ o3 8) - (1 : Int32)) (fun x4 => lt (v2.toInt64) (fun x5 => f_X5_lots_78 N N a0 v1 x4 (0 : Int32) x5 (0 : Int32) (σ))))) else (some ((-2 : Int32), σ)))) else (some ((-4 : Int32), σ)))) else (some ((-1 : Int32), σ)))))) else none)
  refine jr_guard (fun ha0 => ?_)
  refine jr_iload_n hG 1 dX5_lots_0 rfl rfl ?_
  refine jr_iconst (v := (1 : Int32)) hG dX5_lots_1 (by decide) ?_
  refine jr_icmp_lt hG 25 dX5_lots_2 (by decide) (fun _ => ?_) (fun _ => ?_)
  · refine jr_iconst (v := (-1 : Int32)) hG dX5_lots_25 (by decide) ?_
    exact jr_iret hG hr hk dX5_lots_26
  · refine jr_iload_n hG 1 dX5_lots_5 rfl rfl ?_
    refine jr_bipush (v := (20 : Int32)) hG dX5_lots_6 (by decide) ?_
    refine jr_icmp_gt hG 25 dX5_lots_8 (by decide) (fun _ => ?_) (fun _ => ?_)
    · refine jr_iconst (v := (-1 : Int32)) hG dX5_lots_25 (by decide) ?_
      exact jr_iret hG hr hk dX5_lots_26
    · refine jr_iload_n hG 2 dX5_lots_11 rfl rfl ?_
      refine jr_iconst (v := (1 : Int32)) hG dX5_lots_12 (by decide) ?_
      refine jr_icmp_lt hG 25 dX5_lots_13 (by decide) (fun _ => ?_) (fun _ => ?_)
      · refine jr_iconst (v := (-1 : Int32)) hG dX5_lots_25 (by decide) ?_
        exact jr_iret hG hr hk dX5_lots_26
      · refine jr_iload_n hG 2 dX5_lots_16 rfl rfl ?_
        refine jr_i2l hG dX5_lots_17 ?_
        refine jr_ldc2 (v := (2147483647 : Int64)) hG wd_669 dX5_lots_18 ?_
        refine jr_lcmp hG dX5_lots_21 ?_
        refine jr_if_lt hG 27 dX5_lots_22 (by decide) (fun _ => ?_) (fun _ => ?_)
        · refine jr_aload_n hG 0 dX5_lots_27 rfl rfl ?_
          refine jr_getR hG fi_RX5_45 rfl (okO_s ha0) (okO_l ha0) dX5_lots_28 (fun o1 ho1 => ?_)
          refine jr_getI hG fi_RX5_127 rfl (okO_s ho1) (okO_l ho1) dX5_lots_31 ?_
          refine jr_iconst (v := (2 : Int32)) hG dX5_lots_34 (by decide) ?_
          refine jr_icmp_ge hG 41 dX5_lots_35 (by decide) (fun _ => ?_) (fun _ => ?_)
          · refine jr_aload_n hG 0 dX5_lots_41 rfl rfl ?_
            refine jr_getR hG fi_RX5_28 rfl (okO_s ha0) (okO_l ha0) dX5_lots_42 (fun o2 ho2 => ?_)
            refine jr_getI hG fi_RX5_75 rfl (okO_s ho2) (okO_l ho2) dX5_lots_45 ?_
            refine jr_iload_n hG 1 dX5_lots_48 rfl rfl ?_
            refine jr_iadd hG dX5_lots_49 ?_
            refine jr_bipush (v := (40 : Int32)) hG dX5_lots_50 (by decide) ?_
            refine jr_icmp_le hG 58 dX5_lots_52 (by decide) (fun _ => ?_) (fun _ => ?_)
            · refine jr_aload_n hG 0 dX5_lots_58 rfl rfl ?_
              refine jr_getR hG fi_RX5_45 rfl (okO_s ha0) (okO_l ha0) dX5_lots_59 (fun o3 ho3 => ?_)
              refine jr_getI hG fi_RX5_127 rfl (okO_s ho3) (okO_l ho3) dX5_lots_62 ?_
              refine jr_iconst (v := (1 : Int32)) hG dX5_lots_65 (by decide) ?_
              refine jr_isub hG dX5_lots_66 ?_
              refine jr_leti (fun x4 _ => ?_)
              refine jr_istore_n (lv' := [(3, .int x4), (0, .ref (E.B + a0)), (1, .int v1), (2, .int v2)]) hG dX5_lots_67 rfl (by decide) rfl ?_
              refine jr_iconst (v := (0 : Int32)) hG dX5_lots_68 (by decide) ?_
              refine jr_istore (lv' := [(4, .int (0 : Int32)), (3, .int x4), (0, .ref (E.B + a0)), (1, .int v1), (2, .int v2)]) hG dX5_lots_69 (by decide) rfl ?_
              refine jr_iload_n hG 4 dX5_lots_71 rfl rfl ?_
              refine jr_i2l hG dX5_lots_72 ?_
              refine jr_letl (fun x5 _ => ?_)
              refine jr_lstore (lv' := [(5, .long x5), (4, .int (0 : Int32)), (3, .int x4), (0, .ref (E.B + a0)), (1, .int v1), (2, .int v2)]) hG dX5_lots_73 (by decide) rfl ?_
              refine jr_iconst (v := (0 : Int32)) hG dX5_lots_75 (by decide) ?_
              refine jr_istore (lv' := [(7, .int (0 : Int32)), (5, .long x5), (4, .int (0 : Int32)), (3, .int x4), (0, .ref (E.B + a0)), (1, .int v1), (2, .int v2)]) hG dX5_lots_76 (by decide) rfl ?_
              refine jr_sub (lv' := [(0, .ref (E.B + a0)), (1, .int v1), (3, .int x4), (4, .int (0 : Int32)), (5, .long x5), (7, .int (0 : Int32))]) [4, 5, 3, 2, 1, 0] rfl ?_
              exact w_X5_lots_78 N hG hr hk N a0 v1 x4 (0 : Int32) x5 (0 : Int32) ha0 (σ)
            · refine jr_bipush (v := (-2 : Int32)) hG dX5_lots_55 (by decide) ?_
              exact jr_iret hG hr hk dX5_lots_57
          · refine jr_bipush (v := (-4 : Int32)) hG dX5_lots_38 (by decide) ?_
            exact jr_iret hG hr hk dX5_lots_40
        · refine jr_iconst (v := (-1 : Int32)) hG dX5_lots_25 (by decide) ?_
          exact jr_iret hG hr hk dX5_lots_26
-- TonguesDealt.asked()I
abbrev rm_X5_asked : Room := { frames := 0, cells := 0, slots := 0, locals := 0 }
theorem ci_X5_asked : CIx yX5_asked cX5_asked 1 (some .int) 0 := ⟨wd_676, wd_71, by decide +kernel⟩
def f_X5_asked (N : Nat) (a0 : Nat) (σ : Mm) : Option (Int32 × Mm) := if okO 5 a0 then (some (gi σ a0 11, σ)) else none
set_option maxRecDepth 20000 in
theorem c_X5_asked (l : Launch) (E : XE) (N : Nat) (a0 : Nat) (σ : Mm) : ∀ r0, f_X5_asked N a0 σ = some r0 → Met l yX5_asked [Cond.code yX5_asked cX5_asked 1 (some .int)] rm_X5_asked (xPc E (NT + 0) σ [.ref (E.B + a0)]) (xQi E (NT + 0) r0) 0 0 (xA E) := by
  refine met_of (N0 := NT) (by decide +kernel) (Nat.le_of_ble_eq_true rfl) ?_
  intro p e s m args below meth c hG hr hk _
  show JR E NT 1 p l e rm_X5_asked s m args below meth c 0 0 (fun r => MQ below (xQi E (NT + 0) r) args s 0 0 (xA E)) 0 [(0, .ref (E.B + a0))] [] σ (if okO 5 a0 then (some (gi σ a0 11, σ)) else none)
  refine jr_guard (fun ha0 => ?_)
  refine jr_aload_n hG 0 dX5_asked_0 rfl rfl ?_
  refine jr_getI hG fi_RX5_63 rfl (okO_s ha0) (okO_l ha0) dX5_asked_1 ?_
  exact jr_iret hG hr hk dX5_asked_4
-- TonguesDealt.upper()J
abbrev rm_X5_upper : Room := { frames := 0, cells := 0, slots := 0, locals := 0 }
theorem ci_X5_upper : CIx yX5_upper cX5_upper 1 (some .long) 0 := ⟨wd_680, wd_71, by decide +kernel⟩
def f_X5_upper (N : Nat) (a0 : Nat) (σ : Mm) : Option (Int64 × Mm) := if okO 5 a0 then (some (gl σ a0 12, σ)) else none
set_option maxRecDepth 20000 in
theorem c_X5_upper (l : Launch) (E : XE) (N : Nat) (a0 : Nat) (σ : Mm) : ∀ r0, f_X5_upper N a0 σ = some r0 → Met l yX5_upper [Cond.code yX5_upper cX5_upper 1 (some .long)] rm_X5_upper (xPc E (NT + 0) σ [.ref (E.B + a0)]) (xQl E (NT + 0) r0) 0 0 (xA E) := by
  refine met_of (N0 := NT) (by decide +kernel) (Nat.le_of_ble_eq_true rfl) ?_
  intro p e s m args below meth c hG hr hk _
  show JR E NT 1 p l e rm_X5_upper s m args below meth c 0 0 (fun r => MQ below (xQl E (NT + 0) r) args s 0 0 (xA E)) 0 [(0, .ref (E.B + a0))] [] σ (if okO 5 a0 then (some (gl σ a0 12, σ)) else none)
  refine jr_guard (fun ha0 => ?_)
  refine jr_aload_n hG 0 dX5_upper_0 rfl rfl ?_
  refine jr_getL hG fi_RX5_66 rfl (okO_s ha0) (okO_l ha0) dX5_upper_1 ?_
  exact jr_lret hG hr hk dX5_upper_4
-- TonguesDealt.lower()J
abbrev rm_X5_lower : Room := { frames := 0, cells := 0, slots := 0, locals := 0 }
theorem ci_X5_lower : CIx yX5_lower cX5_lower 1 (some .long) 0 := ⟨wd_684, wd_71, by decide +kernel⟩
def f_X5_lower (N : Nat) (a0 : Nat) (σ : Mm) : Option (Int64 × Mm) := if okO 5 a0 then (some (gl σ a0 13, σ)) else none
set_option maxRecDepth 20000 in
theorem c_X5_lower (l : Launch) (E : XE) (N : Nat) (a0 : Nat) (σ : Mm) : ∀ r0, f_X5_lower N a0 σ = some r0 → Met l yX5_lower [Cond.code yX5_lower cX5_lower 1 (some .long)] rm_X5_lower (xPc E (NT + 0) σ [.ref (E.B + a0)]) (xQl E (NT + 0) r0) 0 0 (xA E) := by
  refine met_of (N0 := NT) (by decide +kernel) (Nat.le_of_ble_eq_true rfl) ?_
  intro p e s m args below meth c hG hr hk _
  show JR E NT 1 p l e rm_X5_lower s m args below meth c 0 0 (fun r => MQ below (xQl E (NT + 0) r) args s 0 0 (xA E)) 0 [(0, .ref (E.B + a0))] [] σ (if okO 5 a0 then (some (gl σ a0 13, σ)) else none)
  refine jr_guard (fun ha0 => ?_)
  refine jr_aload_n hG 0 dX5_lower_0 rfl rfl ?_
  refine jr_getL hG fi_RX5_70 rfl (okO_s ha0) (okO_l ha0) dX5_lower_1 ?_
  exact jr_lret hG hr hk dX5_lower_4
-- TonguesDealt.rowsThere()I
abbrev rm_X5_rowsThere : Room := { frames := 0, cells := 0, slots := 0, locals := 0 }
theorem ci_X5_rowsThere : CIx yX5_rowsThere cX5_rowsThere 3 (some .int) 0 := ⟨wd_696, wd_71, by decide +kernel⟩
def f_X5_rowsThere_26 (N : Nat) (K4 : Nat → Int32 → Int32 → Mm → Option (Int32 × Mm)) (a0 : Nat) (v1 : Int32) (v2 : Int32) (σ : Mm) : Option (Int32 × Mm) := K4 a0 v1 (v2 + (1 : Int32)) (σ)
set_option maxRecDepth 20000 in
theorem w_X5_rowsThere_26 {p : Program} {l : Launch} {e : Env} {s : State} {m : MethodId} {args : Array Value} {below : List Frame} {meth : Method} {c : Code} {E : XE} (N : Nat) (hG : GG E NT 3 RX5 cX5_rowsThere p s m args c) (hr : meth.sig.returnType = (some .int)) (hk : meth.locks = false) {K4 : Nat → Int32 → Int32 → Mm → Option (Int32 × Mm)} (hK4 : ∀ (a0 : Nat) (v1 : Int32) (v2 : Int32) (ha0 : okO 5 a0 = true) (σ : Mm), JR E NT 3 p l e rm_X5_rowsThere s m args below meth c 0 0 (fun r => MQ below (xQi E (NT + 0) r) args s 0 0 (xA E)) 4 [(0, .ref (E.B + a0)), (1, .int v1), (2, .int v2)] [] σ (K4 a0 v1 v2 σ)) (a0 : Nat) (v1 : Int32) (v2 : Int32) (ha0 : okO 5 a0 = true) (σ : Mm) : JR E NT 3 p l e rm_X5_rowsThere s m args below meth c 0 0 (fun r => MQ below (xQi E (NT + 0) r) args s 0 0 (xA E)) 26 [(0, .ref (E.B + a0)), (1, .int v1), (2, .int v2)] [] σ (f_X5_rowsThere_26 N K4 a0 v1 v2 σ) := by
  show JR E NT 3 p l e rm_X5_rowsThere s m args below meth c 0 0 (fun r => MQ below (xQi E (NT + 0) r) args s 0 0 (xA E)) 26 [(0, .ref (E.B + a0)), (1, .int v1), (2, .int v2)] [] σ (K4 a0 v1 (v2 + (1 : Int32)) (σ))
  refine jr_iinc (v := v2 + (1 : Int32)) (lv' := [(2, .int (v2 + (1 : Int32))), (0, .ref (E.B + a0)), (1, .int v1)]) hG 2 dX5_rowsThere_26 rfl rfl (by decide) rfl ?_
  refine jr_goto hG 4 dX5_rowsThere_29 (by decide) ?_
  refine jr_sub (lv' := [(0, .ref (E.B + a0)), (1, .int v1), (2, .int (v2 + (1 : Int32)))]) [1, 2, 0] rfl ?_
  exact hK4 a0 v1 (v2 + (1 : Int32)) ha0 (σ)
def f_X5_rowsThere_4 (N : Nat)  : Nat → Nat → Int32 → Int32 → Mm → Option (Int32 × Mm)
  | 0 => fun _ _ _ _ => none
  | n + 1 => fun a0 v1 v2 σ => if (6 : Int32) ≤ v2 then (some (v1, σ)) else (bR (gr σ a0 0) (okA 3) (fun o1 => if inb v2 (arL o1) then (bR (gr σ o1 (ix v2)) (okO 3) (fun o2 => if (gi σ o2 1) = (-1 : Int32) then (f_X5_rowsThere_26 N (f_X5_rowsThere_4 N n) a0 v1 v2 (σ)) else (f_X5_rowsThere_26 N (f_X5_rowsThere_4 N n) a0 (v1 + (1 : Int32)) v2 (σ)))) else none))
set_option maxRecDepth 20000 in
theorem w_X5_rowsThere_4 {p : Program} {l : Launch} {e : Env} {s : State} {m : MethodId} {args : Array Value} {below : List Frame} {meth : Method} {c : Code} {E : XE} (N : Nat) (hG : GG E NT 3 RX5 cX5_rowsThere p s m args c) (hr : meth.sig.returnType = (some .int)) (hk : meth.locks = false)  : ∀ (n : Nat) (a0 : Nat) (v1 : Int32) (v2 : Int32) (ha0 : okO 5 a0 = true) (σ : Mm), JR E NT 3 p l e rm_X5_rowsThere s m args below meth c 0 0 (fun r => MQ below (xQi E (NT + 0) r) args s 0 0 (xA E)) 4 [(0, .ref (E.B + a0)), (1, .int v1), (2, .int v2)] [] σ (f_X5_rowsThere_4 N n a0 v1 v2 σ) := by
  intro n
  induction n with
  | zero => intro a0 v1 v2 ha0 σ r hX; cases hX
  | succ n ih =>
    intro a0 v1 v2 ha0 σ
    show JR E NT 3 p l e rm_X5_rowsThere s m args below meth c 0 0 (fun r => MQ below (xQi E (NT + 0) r) args s 0 0 (xA E)) 4 [(0, .ref (E.B + a0)), (1, .int v1), (2, .int v2)] [] σ (if (6 : Int32) ≤ v2 then (some (v1, σ)) else (bR (gr σ a0 0) (okA 3) (fun o1 => if inb v2 (arL o1) then (bR (gr σ o1 (ix v2)) (okO 3) (fun o2 => if (gi σ o2 1) = (-1 : Int32) then (f_X5_rowsThere_26 N (f_X5_rowsThere_4 N n) a0 v1 v2 (σ)) else (f_X5_rowsThere_26 N (f_X5_rowsThere_4 N n) a0 (v1 + (1 : Int32)) v2 (σ)))) else none)))
    refine jr_iload_n hG 2 dX5_rowsThere_4 rfl rfl ?_
    refine jr_bipush (v := (6 : Int32)) hG dX5_rowsThere_5 (by decide) ?_
    refine jr_icmp_ge hG 32 dX5_rowsThere_7 (by decide) (fun _ => ?_) (fun _ => ?_)
    · refine jr_iload_n hG 1 dX5_rowsThere_32 rfl rfl ?_
      exact jr_iret hG hr hk dX5_rowsThere_33
    · refine jr_aload_n hG 0 dX5_rowsThere_10 rfl rfl ?_
      refine jr_getR hG fi_RX5_11 rfl (okO_s ha0) (okO_l ha0) dX5_rowsThere_11 (fun o1 ho1 => ?_)
      refine jr_iload_n hG 2 dX5_rowsThere_14 rfl rfl ?_
      refine jr_aald hG (okA_s (by decide) ho1) (by decide) rfl (okA_l ho1) dX5_rowsThere_15 (fun o2 ho2 => ?_)
      refine jr_getI hG fi_RX5_90 rfl (okO_s ho2) (okO_l ho2) dX5_rowsThere_16 ?_
      refine jr_iconst (v := (-1 : Int32)) hG dX5_rowsThere_19 (by decide) ?_
      refine jr_icmp_eq hG 26 dX5_rowsThere_20 (by decide) (fun _ => ?_) (fun _ => ?_)
      · exact w_X5_rowsThere_26 N hG hr hk ih a0 v1 v2 ha0 (σ)
      · refine jr_iinc (v := v1 + (1 : Int32)) (lv' := [(1, .int (v1 + (1 : Int32))), (0, .ref (E.B + a0)), (2, .int v2)]) hG 1 dX5_rowsThere_23 rfl rfl (by decide) rfl ?_
        refine jr_sub (lv' := [(0, .ref (E.B + a0)), (1, .int (v1 + (1 : Int32))), (2, .int v2)]) [1, 0, 2] rfl ?_
        exact w_X5_rowsThere_26 N hG hr hk ih a0 (v1 + (1 : Int32)) v2 ha0 (σ)
def f_X5_rowsThere (N : Nat) (a0 : Nat) (σ : Mm) : Option (Int32 × Mm) := if okO 5 a0 then (f_X5_rowsThere_4 N N a0 (0 : Int32) (0 : Int32) (σ)) else none
set_option maxRecDepth 20000 in
theorem c_X5_rowsThere (l : Launch) (E : XE) (N : Nat) (a0 : Nat) (σ : Mm) : ∀ r0, f_X5_rowsThere N a0 σ = some r0 → Met l yX5_rowsThere [Cond.code yX5_rowsThere cX5_rowsThere 3 (some .int)] rm_X5_rowsThere (xPc E (NT + 0) σ [.ref (E.B + a0)]) (xQi E (NT + 0) r0) 0 0 (xA E) := by
  refine met_of (N0 := NT) (by decide +kernel) (Nat.le_of_ble_eq_true rfl) ?_
  intro p e s m args below meth c hG hr hk _
  show JR E NT 3 p l e rm_X5_rowsThere s m args below meth c 0 0 (fun r => MQ below (xQi E (NT + 0) r) args s 0 0 (xA E)) 0 [(0, .ref (E.B + a0))] [] σ (if okO 5 a0 then (f_X5_rowsThere_4 N N a0 (0 : Int32) (0 : Int32) (σ)) else none)
  refine jr_guard (fun ha0 => ?_)
  refine jr_iconst (v := (0 : Int32)) hG dX5_rowsThere_0 (by decide) ?_
  refine jr_istore_n (lv' := [(1, .int (0 : Int32)), (0, .ref (E.B + a0))]) hG dX5_rowsThere_1 rfl (by decide) rfl ?_
  refine jr_iconst (v := (0 : Int32)) hG dX5_rowsThere_2 (by decide) ?_
  refine jr_istore_n (lv' := [(2, .int (0 : Int32)), (1, .int (0 : Int32)), (0, .ref (E.B + a0))]) hG dX5_rowsThere_3 rfl (by decide) rfl ?_
  refine jr_sub (lv' := [(0, .ref (E.B + a0)), (1, .int (0 : Int32)), (2, .int (0 : Int32))]) [2, 1, 0] rfl ?_
  exact w_X5_rowsThere_4 N hG hr hk N a0 (0 : Int32) (0 : Int32) ha0 (σ)
-- TonguesDealt.textsThere()I
abbrev rm_X5_textsThere : Room := { frames := 0, cells := 0, slots := 0, locals := 0 }
theorem ci_X5_textsThere : CIx yX5_textsThere cX5_textsThere 3 (some .int) 0 := ⟨wd_700, wd_71, by decide +kernel⟩
def f_X5_textsThere_25 (N : Nat) (K4 : Nat → Int32 → Int32 → Mm → Option (Int32 × Mm)) (a0 : Nat) (v1 : Int32) (v2 : Int32) (σ : Mm) : Option (Int32 × Mm) := K4 a0 v1 (v2 + (1 : Int32)) (σ)
set_option maxRecDepth 20000 in
theorem w_X5_textsThere_25 {p : Program} {l : Launch} {e : Env} {s : State} {m : MethodId} {args : Array Value} {below : List Frame} {meth : Method} {c : Code} {E : XE} (N : Nat) (hG : GG E NT 3 RX5 cX5_textsThere p s m args c) (hr : meth.sig.returnType = (some .int)) (hk : meth.locks = false) {K4 : Nat → Int32 → Int32 → Mm → Option (Int32 × Mm)} (hK4 : ∀ (a0 : Nat) (v1 : Int32) (v2 : Int32) (ha0 : okO 5 a0 = true) (σ : Mm), JR E NT 3 p l e rm_X5_textsThere s m args below meth c 0 0 (fun r => MQ below (xQi E (NT + 0) r) args s 0 0 (xA E)) 4 [(0, .ref (E.B + a0)), (1, .int v1), (2, .int v2)] [] σ (K4 a0 v1 v2 σ)) (a0 : Nat) (v1 : Int32) (v2 : Int32) (ha0 : okO 5 a0 = true) (σ : Mm) : JR E NT 3 p l e rm_X5_textsThere s m args below meth c 0 0 (fun r => MQ below (xQi E (NT + 0) r) args s 0 0 (xA E)) 25 [(0, .ref (E.B + a0)), (1, .int v1), (2, .int v2)] [] σ (f_X5_textsThere_25 N K4 a0 v1 v2 σ) := by
  show JR E NT 3 p l e rm_X5_textsThere s m args below meth c 0 0 (fun r => MQ below (xQi E (NT + 0) r) args s 0 0 (xA E)) 25 [(0, .ref (E.B + a0)), (1, .int v1), (2, .int v2)] [] σ (K4 a0 v1 (v2 + (1 : Int32)) (σ))
  refine jr_iinc (v := v2 + (1 : Int32)) (lv' := [(2, .int (v2 + (1 : Int32))), (0, .ref (E.B + a0)), (1, .int v1)]) hG 2 dX5_textsThere_25 rfl rfl (by decide) rfl ?_
  refine jr_goto hG 4 dX5_textsThere_28 (by decide) ?_
  refine jr_sub (lv' := [(0, .ref (E.B + a0)), (1, .int v1), (2, .int (v2 + (1 : Int32)))]) [1, 2, 0] rfl ?_
  exact hK4 a0 v1 (v2 + (1 : Int32)) ha0 (σ)
def f_X5_textsThere_4 (N : Nat)  : Nat → Nat → Int32 → Int32 → Mm → Option (Int32 × Mm)
  | 0 => fun _ _ _ _ => none
  | n + 1 => fun a0 v1 v2 σ => if (4 : Int32) ≤ v2 then (some (v1, σ)) else (bR (gr σ a0 1) (okA 4) (fun o1 => if inb v2 (arL o1) then (bR (gr σ o1 (ix v2)) (okO 4) (fun o2 => if (gi σ o2 1) = (-1 : Int32) then (f_X5_textsThere_25 N (f_X5_textsThere_4 N n) a0 v1 v2 (σ)) else (f_X5_textsThere_25 N (f_X5_textsThere_4 N n) a0 (v1 + (1 : Int32)) v2 (σ)))) else none))
set_option maxRecDepth 20000 in
theorem w_X5_textsThere_4 {p : Program} {l : Launch} {e : Env} {s : State} {m : MethodId} {args : Array Value} {below : List Frame} {meth : Method} {c : Code} {E : XE} (N : Nat) (hG : GG E NT 3 RX5 cX5_textsThere p s m args c) (hr : meth.sig.returnType = (some .int)) (hk : meth.locks = false)  : ∀ (n : Nat) (a0 : Nat) (v1 : Int32) (v2 : Int32) (ha0 : okO 5 a0 = true) (σ : Mm), JR E NT 3 p l e rm_X5_textsThere s m args below meth c 0 0 (fun r => MQ below (xQi E (NT + 0) r) args s 0 0 (xA E)) 4 [(0, .ref (E.B + a0)), (1, .int v1), (2, .int v2)] [] σ (f_X5_textsThere_4 N n a0 v1 v2 σ) := by
  intro n
  induction n with
  | zero => intro a0 v1 v2 ha0 σ r hX; cases hX
  | succ n ih =>
    intro a0 v1 v2 ha0 σ
    show JR E NT 3 p l e rm_X5_textsThere s m args below meth c 0 0 (fun r => MQ below (xQi E (NT + 0) r) args s 0 0 (xA E)) 4 [(0, .ref (E.B + a0)), (1, .int v1), (2, .int v2)] [] σ (if (4 : Int32) ≤ v2 then (some (v1, σ)) else (bR (gr σ a0 1) (okA 4) (fun o1 => if inb v2 (arL o1) then (bR (gr σ o1 (ix v2)) (okO 4) (fun o2 => if (gi σ o2 1) = (-1 : Int32) then (f_X5_textsThere_25 N (f_X5_textsThere_4 N n) a0 v1 v2 (σ)) else (f_X5_textsThere_25 N (f_X5_textsThere_4 N n) a0 (v1 + (1 : Int32)) v2 (σ)))) else none)))
    refine jr_iload_n hG 2 dX5_textsThere_4 rfl rfl ?_
    refine jr_iconst (v := (4 : Int32)) hG dX5_textsThere_5 (by decide) ?_
    refine jr_icmp_ge hG 31 dX5_textsThere_6 (by decide) (fun _ => ?_) (fun _ => ?_)
    · refine jr_iload_n hG 1 dX5_textsThere_31 rfl rfl ?_
      exact jr_iret hG hr hk dX5_textsThere_32
    · refine jr_aload_n hG 0 dX5_textsThere_9 rfl rfl ?_
      refine jr_getR hG fi_RX5_17 rfl (okO_s ha0) (okO_l ha0) dX5_textsThere_10 (fun o1 ho1 => ?_)
      refine jr_iload_n hG 2 dX5_textsThere_13 rfl rfl ?_
      refine jr_aald hG (okA_s (by decide) ho1) (by decide) rfl (okA_l ho1) dX5_textsThere_14 (fun o2 ho2 => ?_)
      refine jr_getI hG fi_RX5_115 rfl (okO_s ho2) (okO_l ho2) dX5_textsThere_15 ?_
      refine jr_iconst (v := (-1 : Int32)) hG dX5_textsThere_18 (by decide) ?_
      refine jr_icmp_eq hG 25 dX5_textsThere_19 (by decide) (fun _ => ?_) (fun _ => ?_)
      · exact w_X5_textsThere_25 N hG hr hk ih a0 v1 v2 ha0 (σ)
      · refine jr_iinc (v := v1 + (1 : Int32)) (lv' := [(1, .int (v1 + (1 : Int32))), (0, .ref (E.B + a0)), (2, .int v2)]) hG 1 dX5_textsThere_22 rfl rfl (by decide) rfl ?_
        refine jr_sub (lv' := [(0, .ref (E.B + a0)), (1, .int (v1 + (1 : Int32))), (2, .int v2)]) [1, 0, 2] rfl ?_
        exact w_X5_textsThere_25 N hG hr hk ih a0 (v1 + (1 : Int32)) v2 ha0 (σ)
def f_X5_textsThere (N : Nat) (a0 : Nat) (σ : Mm) : Option (Int32 × Mm) := if okO 5 a0 then (f_X5_textsThere_4 N N a0 (0 : Int32) (0 : Int32) (σ)) else none
set_option maxRecDepth 20000 in
theorem c_X5_textsThere (l : Launch) (E : XE) (N : Nat) (a0 : Nat) (σ : Mm) : ∀ r0, f_X5_textsThere N a0 σ = some r0 → Met l yX5_textsThere [Cond.code yX5_textsThere cX5_textsThere 3 (some .int)] rm_X5_textsThere (xPc E (NT + 0) σ [.ref (E.B + a0)]) (xQi E (NT + 0) r0) 0 0 (xA E) := by
  refine met_of (N0 := NT) (by decide +kernel) (Nat.le_of_ble_eq_true rfl) ?_
  intro p e s m args below meth c hG hr hk _
  show JR E NT 3 p l e rm_X5_textsThere s m args below meth c 0 0 (fun r => MQ below (xQi E (NT + 0) r) args s 0 0 (xA E)) 0 [(0, .ref (E.B + a0))] [] σ (if okO 5 a0 then (f_X5_textsThere_4 N N a0 (0 : Int32) (0 : Int32) (σ)) else none)
  refine jr_guard (fun ha0 => ?_)
  refine jr_iconst (v := (0 : Int32)) hG dX5_textsThere_0 (by decide) ?_
  refine jr_istore_n (lv' := [(1, .int (0 : Int32)), (0, .ref (E.B + a0))]) hG dX5_textsThere_1 rfl (by decide) rfl ?_
  refine jr_iconst (v := (0 : Int32)) hG dX5_textsThere_2 (by decide) ?_
  refine jr_istore_n (lv' := [(2, .int (0 : Int32)), (1, .int (0 : Int32)), (0, .ref (E.B + a0))]) hG dX5_textsThere_3 rfl (by decide) rfl ?_
  refine jr_sub (lv' := [(0, .ref (E.B + a0)), (1, .int (0 : Int32)), (2, .int (0 : Int32))]) [2, 1, 0] rfl ?_
  exact w_X5_textsThere_4 N hG hr hk N a0 (0 : Int32) (0 : Int32) ha0 (σ)
-- TonguesDealt.keptThere()I
abbrev rm_X5_keptThere : Room := { frames := 0, cells := 0, slots := 0, locals := 0 }
theorem ci_X5_keptThere : CIx yX5_keptThere cX5_keptThere 3 (some .int) 0 := ⟨wd_704, wd_71, by decide +kernel⟩
def f_X5_keptThere_25 (N : Nat) (K4 : Nat → Int32 → Int32 → Mm → Option (Int32 × Mm)) (a0 : Nat) (v1 : Int32) (v2 : Int32) (σ : Mm) : Option (Int32 × Mm) := K4 a0 v1 (v2 + (1 : Int32)) (σ)
set_option maxRecDepth 20000 in
theorem w_X5_keptThere_25 {p : Program} {l : Launch} {e : Env} {s : State} {m : MethodId} {args : Array Value} {below : List Frame} {meth : Method} {c : Code} {E : XE} (N : Nat) (hG : GG E NT 3 RX5 cX5_keptThere p s m args c) (hr : meth.sig.returnType = (some .int)) (hk : meth.locks = false) {K4 : Nat → Int32 → Int32 → Mm → Option (Int32 × Mm)} (hK4 : ∀ (a0 : Nat) (v1 : Int32) (v2 : Int32) (ha0 : okO 5 a0 = true) (σ : Mm), JR E NT 3 p l e rm_X5_keptThere s m args below meth c 0 0 (fun r => MQ below (xQi E (NT + 0) r) args s 0 0 (xA E)) 4 [(0, .ref (E.B + a0)), (1, .int v1), (2, .int v2)] [] σ (K4 a0 v1 v2 σ)) (a0 : Nat) (v1 : Int32) (v2 : Int32) (ha0 : okO 5 a0 = true) (σ : Mm) : JR E NT 3 p l e rm_X5_keptThere s m args below meth c 0 0 (fun r => MQ below (xQi E (NT + 0) r) args s 0 0 (xA E)) 25 [(0, .ref (E.B + a0)), (1, .int v1), (2, .int v2)] [] σ (f_X5_keptThere_25 N K4 a0 v1 v2 σ) := by
  show JR E NT 3 p l e rm_X5_keptThere s m args below meth c 0 0 (fun r => MQ below (xQi E (NT + 0) r) args s 0 0 (xA E)) 25 [(0, .ref (E.B + a0)), (1, .int v1), (2, .int v2)] [] σ (K4 a0 v1 (v2 + (1 : Int32)) (σ))
  refine jr_iinc (v := v2 + (1 : Int32)) (lv' := [(2, .int (v2 + (1 : Int32))), (0, .ref (E.B + a0)), (1, .int v1)]) hG 2 dX5_keptThere_25 rfl rfl (by decide) rfl ?_
  refine jr_goto hG 4 dX5_keptThere_28 (by decide) ?_
  refine jr_sub (lv' := [(0, .ref (E.B + a0)), (1, .int v1), (2, .int (v2 + (1 : Int32)))]) [1, 2, 0] rfl ?_
  exact hK4 a0 v1 (v2 + (1 : Int32)) ha0 (σ)
def f_X5_keptThere_4 (N : Nat)  : Nat → Nat → Int32 → Int32 → Mm → Option (Int32 × Mm)
  | 0 => fun _ _ _ _ => none
  | n + 1 => fun a0 v1 v2 σ => if (3 : Int32) ≤ v2 then (some (v1, σ)) else (bR (gr σ a0 2) (okA 5) (fun o1 => if inb v2 (arL o1) then (bR (gr σ o1 (ix v2)) (okO 1) (fun o2 => if (gi σ o2 2) = (-1 : Int32) then (f_X5_keptThere_25 N (f_X5_keptThere_4 N n) a0 v1 v2 (σ)) else (f_X5_keptThere_25 N (f_X5_keptThere_4 N n) a0 (v1 + (1 : Int32)) v2 (σ)))) else none))
set_option maxRecDepth 20000 in
theorem w_X5_keptThere_4 {p : Program} {l : Launch} {e : Env} {s : State} {m : MethodId} {args : Array Value} {below : List Frame} {meth : Method} {c : Code} {E : XE} (N : Nat) (hG : GG E NT 3 RX5 cX5_keptThere p s m args c) (hr : meth.sig.returnType = (some .int)) (hk : meth.locks = false)  : ∀ (n : Nat) (a0 : Nat) (v1 : Int32) (v2 : Int32) (ha0 : okO 5 a0 = true) (σ : Mm), JR E NT 3 p l e rm_X5_keptThere s m args below meth c 0 0 (fun r => MQ below (xQi E (NT + 0) r) args s 0 0 (xA E)) 4 [(0, .ref (E.B + a0)), (1, .int v1), (2, .int v2)] [] σ (f_X5_keptThere_4 N n a0 v1 v2 σ) := by
  intro n
  induction n with
  | zero => intro a0 v1 v2 ha0 σ r hX; cases hX
  | succ n ih =>
    intro a0 v1 v2 ha0 σ
    show JR E NT 3 p l e rm_X5_keptThere s m args below meth c 0 0 (fun r => MQ below (xQi E (NT + 0) r) args s 0 0 (xA E)) 4 [(0, .ref (E.B + a0)), (1, .int v1), (2, .int v2)] [] σ (if (3 : Int32) ≤ v2 then (some (v1, σ)) else (bR (gr σ a0 2) (okA 5) (fun o1 => if inb v2 (arL o1) then (bR (gr σ o1 (ix v2)) (okO 1) (fun o2 => if (gi σ o2 2) = (-1 : Int32) then (f_X5_keptThere_25 N (f_X5_keptThere_4 N n) a0 v1 v2 (σ)) else (f_X5_keptThere_25 N (f_X5_keptThere_4 N n) a0 (v1 + (1 : Int32)) v2 (σ)))) else none)))
    refine jr_iload_n hG 2 dX5_keptThere_4 rfl rfl ?_
    refine jr_iconst (v := (3 : Int32)) hG dX5_keptThere_5 (by decide) ?_
    refine jr_icmp_ge hG 31 dX5_keptThere_6 (by decide) (fun _ => ?_) (fun _ => ?_)
    · refine jr_iload_n hG 1 dX5_keptThere_31 rfl rfl ?_
      exact jr_iret hG hr hk dX5_keptThere_32
    · refine jr_aload_n hG 0 dX5_keptThere_9 rfl rfl ?_
      refine jr_getR hG fi_RX5_23 rfl (okO_s ha0) (okO_l ha0) dX5_keptThere_10 (fun o1 ho1 => ?_)
      refine jr_iload_n hG 2 dX5_keptThere_13 rfl rfl ?_
      refine jr_aald hG (okA_s (by decide) ho1) (by decide) rfl (okA_l ho1) dX5_keptThere_14 (fun o2 ho2 => ?_)
      refine jr_getI hG fi_RX5_75 rfl (okO_s ho2) (okO_l ho2) dX5_keptThere_15 ?_
      refine jr_iconst (v := (-1 : Int32)) hG dX5_keptThere_18 (by decide) ?_
      refine jr_icmp_eq hG 25 dX5_keptThere_19 (by decide) (fun _ => ?_) (fun _ => ?_)
      · exact w_X5_keptThere_25 N hG hr hk ih a0 v1 v2 ha0 (σ)
      · refine jr_iinc (v := v1 + (1 : Int32)) (lv' := [(1, .int (v1 + (1 : Int32))), (0, .ref (E.B + a0)), (2, .int v2)]) hG 1 dX5_keptThere_22 rfl rfl (by decide) rfl ?_
        refine jr_sub (lv' := [(0, .ref (E.B + a0)), (1, .int (v1 + (1 : Int32))), (2, .int v2)]) [1, 0, 2] rfl ?_
        exact w_X5_keptThere_25 N hG hr hk ih a0 (v1 + (1 : Int32)) v2 ha0 (σ)
def f_X5_keptThere (N : Nat) (a0 : Nat) (σ : Mm) : Option (Int32 × Mm) := if okO 5 a0 then (f_X5_keptThere_4 N N a0 (0 : Int32) (0 : Int32) (σ)) else none
set_option maxRecDepth 20000 in
theorem c_X5_keptThere (l : Launch) (E : XE) (N : Nat) (a0 : Nat) (σ : Mm) : ∀ r0, f_X5_keptThere N a0 σ = some r0 → Met l yX5_keptThere [Cond.code yX5_keptThere cX5_keptThere 3 (some .int)] rm_X5_keptThere (xPc E (NT + 0) σ [.ref (E.B + a0)]) (xQi E (NT + 0) r0) 0 0 (xA E) := by
  refine met_of (N0 := NT) (by decide +kernel) (Nat.le_of_ble_eq_true rfl) ?_
  intro p e s m args below meth c hG hr hk _
  show JR E NT 3 p l e rm_X5_keptThere s m args below meth c 0 0 (fun r => MQ below (xQi E (NT + 0) r) args s 0 0 (xA E)) 0 [(0, .ref (E.B + a0))] [] σ (if okO 5 a0 then (f_X5_keptThere_4 N N a0 (0 : Int32) (0 : Int32) (σ)) else none)
  refine jr_guard (fun ha0 => ?_)
  refine jr_iconst (v := (0 : Int32)) hG dX5_keptThere_0 (by decide) ?_
  refine jr_istore_n (lv' := [(1, .int (0 : Int32)), (0, .ref (E.B + a0))]) hG dX5_keptThere_1 rfl (by decide) rfl ?_
  refine jr_iconst (v := (0 : Int32)) hG dX5_keptThere_2 (by decide) ?_
  refine jr_istore_n (lv' := [(2, .int (0 : Int32)), (1, .int (0 : Int32)), (0, .ref (E.B + a0))]) hG dX5_keptThere_3 rfl (by decide) rfl ?_
  refine jr_sub (lv' := [(0, .ref (E.B + a0)), (1, .int (0 : Int32)), (2, .int (0 : Int32))]) [2, 1, 0] rfl ?_
  exact w_X5_keptThere_4 N hG hr hk N a0 (0 : Int32) (0 : Int32) ha0 (σ)
-- TonguesDealt.counted(I)I
abbrev rm_X5_counted : Room := { frames := 2, cells := 0, slots := 0, locals := 42 }
theorem ci_X5_counted : CIx yX5_counted cX5_counted 2 (some .int) 1 := ⟨wd_692, wd_71, by decide +kernel⟩
def f_X5_counted (N : Nat) (a0 : Nat) (v1 : Int32) (σ : Mm) : Option (Int32 × Mm) := if okO 5 a0 then (if v1 = (0 : Int32) then (bR (gr σ a0 6) (okO 2) (fun o1 => some (gi σ o1 8, σ))) else (if v1 = (1 : Int32) then (bR (gr σ a0 4) (okO 0) (fun o2 => some (gi σ o2 6, σ))) else (if v1 = (2 : Int32) then (bR (gr σ a0 4) (okO 0) (fun o3 => if (gi σ o3 7) = 0 then (some ((0 : Int32), σ)) else (some ((1 : Int32), σ)))) else (if v1 = (3 : Int32) then (bR (gr σ a0 4) (okO 0) (fun o4 => bI (f_X0_signCount N o4 (σ)) (fun r6 t5 => some (r6, t5)))) else (if v1 = (4 : Int32) then (bR (gr σ a0 3) (okO 1) (fun o7 => some (gi σ o7 2, σ))) else (if v1 = (5 : Int32) then (bR (gr σ a0 6) (okO 2) (fun o8 => bR (gr σ o8 1) (okA 0) (fun o9 => if inb (1 : Int32) (arL o9) then (bI (f_J6_bitCount_0f7a4 N (gi σ o9 (ix (1 : Int32))) (σ)) (fun r11 t10 => some (r11, t10))) else none))) else (if v1 = (6 : Int32) then (bI (f_X5_rowsThere N a0 (σ)) (fun r13 t12 => some (r13, t12))) else (if v1 = (7 : Int32) then (bI (f_X5_textsThere N a0 (σ)) (fun r15 t14 => some (r15, t14))) else (bI (f_X5_keptThere N a0 (σ)) (fun r17 t16 => some (r17, t16))))))))))) else none
set_option maxRecDepth 20000 in
theorem c_X5_counted (l : Launch) (E : XE) (N : Nat) (a0 : Nat) (v1 : Int32) (σ : Mm) : ∀ r0, f_X5_counted N a0 v1 σ = some r0 → Met l yX5_counted [Cond.code yX5_counted cX5_counted 2 (some .int)] rm_X5_counted (xPc E (NT + 0) σ [.ref (E.B + a0), .int v1]) (xQi E (NT + 0) r0) 0 0 (xA E) := by
  refine met_of (N0 := NT) (by decide +kernel) (Nat.le_of_ble_eq_true rfl) ?_
  intro p e s m args below meth c hG hr hk _
  show JR E NT 2 p l e rm_X5_counted s m args below meth c 0 0 (fun r => MQ below (xQi E (NT + 0) r) args s 0 0 (xA E)) 0 [(0, .ref (E.B + a0)), (1, .int v1)] [] σ (if okO 5 a0 then (if v1 = (0 : Int32) then (bR (gr σ a0 6) (okO 2) (fun o1 => some (gi σ o1 8, σ))) else (if v1 = (1 : Int32) then (bR (gr σ a0 4) (okO 0) (fun o2 => some (gi σ o2 6, σ))) else (if v1 = (2 : Int32) then (bR (gr σ a0 4) (okO 0) (fun o3 => if (gi σ o3 7) = 0 then (some ((0 : Int32), σ)) else (some ((1 : Int32), σ)))) else (if v1 = (3 : Int32) then (bR (gr σ a0 4) (okO 0) (fun o4 => bI (f_X0_signCount N o4 (σ)) (fun r6 t5 => some (r6, t5)))) else (if v1 = (4 : Int32) then (bR (gr σ a0 3) (okO 1) (fun o7 => some (gi σ o7 2, σ))) else (if v1 = (5 : Int32) then (bR (gr σ a0 6) (okO 2) (fun o8 => bR (gr σ o8 1) (okA 0) (fun o9 => if inb (1 : Int32) (arL o9) then (bI (f_J6_bitCount_0f7a4 N (gi σ o9 (ix (1 : Int32))) (σ)) (fun r11 t10 => some (r11, t10))) else none))) else (if v1 = (6 : Int32) then (bI (f_X5_rowsThere N a0 (σ)) (fun r13 t12 => some (r13, t12))) else (if v1 = (7 : Int32) then (bI (f_X5_textsThere N a0 (σ)) (fun r15 t14 => some (r15, t14))) else (bI (f_X5_keptThere N a0 (σ)) (fun r17 t16 => some (r17, t16))))))))))) else none)
  refine jr_guard (fun ha0 => ?_)
  refine jr_iload_n hG 1 dX5_counted_0 rfl rfl ?_
  refine jr_ite (fun hs0 => ?_) (fun hs0 => ?_)
  · refine jr_tabIn (off := 47) hG 48 dX5_counted_1 (0 : Int32) hs0 (by decide) ?_
    refine jr_aload_n hG 0 dX5_counted_48 rfl rfl ?_
    refine jr_getR hG fi_RX5_45 rfl (okO_s ha0) (okO_l ha0) dX5_counted_49 (fun o1 ho1 => ?_)
    refine jr_getI hG fi_RX5_127 rfl (okO_s ho1) (okO_l ho1) dX5_counted_52 ?_
    exact jr_iret hG hr hk dX5_counted_55
  refine jr_ite (fun hs1 => ?_) (fun hs1 => ?_)
  · refine jr_tabIn (off := 55) hG 56 dX5_counted_1 (1 : Int32) hs1 (by decide) ?_
    refine jr_aload_n hG 0 dX5_counted_56 rfl rfl ?_
    refine jr_getR hG fi_RX5_35 rfl (okO_s ha0) (okO_l ha0) dX5_counted_57 (fun o2 ho2 => ?_)
    refine jr_getI hG fi_RX5_174 rfl (okO_s ho2) (okO_l ho2) dX5_counted_60 ?_
    exact jr_iret hG hr hk dX5_counted_63
  refine jr_ite (fun hs2 => ?_) (fun hs2 => ?_)
  · refine jr_tabIn (off := 63) hG 64 dX5_counted_1 (2 : Int32) hs2 (by decide) ?_
    refine jr_aload_n hG 0 dX5_counted_64 rfl rfl ?_
    refine jr_getR hG fi_RX5_35 rfl (okO_s ha0) (okO_l ha0) dX5_counted_65 (fun o3 ho3 => ?_)
    refine jr_getZ hG fi_RX5_177 rfl (okO_s ho3) (okO_l ho3) dX5_counted_68 ?_
    refine jr_if_eq hG 78 dX5_counted_71 (by decide) (fun _ => ?_) (fun _ => ?_)
    · refine jr_iconst (v := (0 : Int32)) hG dX5_counted_78 (by decide) ?_
      exact jr_iret hG hr hk dX5_counted_79
    · refine jr_iconst (v := (1 : Int32)) hG dX5_counted_74 (by decide) ?_
      refine jr_goto hG 79 dX5_counted_75 (by decide) ?_
      exact jr_iret hG hr hk dX5_counted_79
  refine jr_ite (fun hs3 => ?_) (fun hs3 => ?_)
  · refine jr_tabIn (off := 79) hG 80 dX5_counted_1 (3 : Int32) hs3 (by decide) ?_
    refine jr_aload_n hG 0 dX5_counted_80 rfl rfl ?_
    refine jr_getR hG fi_RX5_35 rfl (okO_s ha0) (okO_l ha0) dX5_counted_81 (fun o4 ho4 => ?_)
    refine jr_callVi (As := []) hG (c_X0_signCount l E N o4 (σ)) ci_X0_signCount wd_488 ⟨wd_489, wd_490⟩ cl_0 (okO_s ho4) (okO_l ho4) ⟨rfl, rfl, Nat.le_of_ble_eq_true rfl, Nat.le_of_ble_eq_true rfl⟩ rfl rfl (Nat.le_of_ble_eq_true rfl) dX5_counted_84 ⟨Nat.le_refl _, Nat.le_refl _⟩ (fun r6 t5 => ?_)
    exact jr_iret hG hr hk dX5_counted_87
  refine jr_ite (fun hs4 => ?_) (fun hs4 => ?_)
  · refine jr_tabIn (off := 87) hG 88 dX5_counted_1 (4 : Int32) hs4 (by decide) ?_
    refine jr_aload_n hG 0 dX5_counted_88 rfl rfl ?_
    refine jr_getR hG fi_RX5_28 rfl (okO_s ha0) (okO_l ha0) dX5_counted_89 (fun o7 ho7 => ?_)
    refine jr_getI hG fi_RX5_75 rfl (okO_s ho7) (okO_l ho7) dX5_counted_92 ?_
    exact jr_iret hG hr hk dX5_counted_95
  refine jr_ite (fun hs5 => ?_) (fun hs5 => ?_)
  · refine jr_tabIn (off := 95) hG 96 dX5_counted_1 (5 : Int32) hs5 (by decide) ?_
    refine jr_aload_n hG 0 dX5_counted_96 rfl rfl ?_
    refine jr_getR hG fi_RX5_45 rfl (okO_s ha0) (okO_l ha0) dX5_counted_97 (fun o8 ho8 => ?_)
    refine jr_getR hG fi_RX5_318 rfl (okO_s ho8) (okO_l ho8) dX5_counted_100 (fun o9 ho9 => ?_)
    refine jr_iconst (v := (1 : Int32)) hG dX5_counted_103 (by decide) ?_
    refine jr_iald hG (okA_s (by decide) ho9) (okA_l ho9) dX5_counted_104 ?_
    refine jr_callSi (As := [.int (gi σ o9 (ix (1 : Int32)))]) hG (c_J6_bitCount_0f7a4 l E N (gi σ o9 (ix (1 : Int32))) (σ)) ci_J6_bitCount_0f7a4 wd_450 wd_437 ⟨rfl, rfl, Nat.le_of_ble_eq_true rfl, Nat.le_of_ble_eq_true rfl⟩ rfl rfl (Nat.le_of_ble_eq_true rfl) dX5_counted_105 ⟨Nat.le_refl _, Nat.le_refl _⟩ (fun r11 t10 => ?_)
    exact jr_iret hG hr hk dX5_counted_108
  refine jr_ite (fun hs6 => ?_) (fun hs6 => ?_)
  · refine jr_tabIn (off := 108) hG 109 dX5_counted_1 (6 : Int32) hs6 (by decide) ?_
    refine jr_aload_n hG 0 dX5_counted_109 rfl rfl ?_
    refine jr_callVi (As := []) hG (c_X5_rowsThere l E N a0 (σ)) ci_X5_rowsThere wd_693 ⟨wd_695, wd_18⟩ cl_5 (okO_s ha0) (okO_l ha0) ⟨rfl, rfl, Nat.le_of_ble_eq_true rfl, Nat.le_of_ble_eq_true rfl⟩ rfl rfl (Nat.le_of_ble_eq_true rfl) dX5_counted_110 ⟨Nat.le_refl _, Nat.le_refl _⟩ (fun r13 t12 => ?_)
    exact jr_iret hG hr hk dX5_counted_113
  refine jr_ite (fun hs7 => ?_) (fun hs7 => ?_)
  · refine jr_tabIn (off := 113) hG 114 dX5_counted_1 (7 : Int32) hs7 (by decide) ?_
    refine jr_aload_n hG 0 dX5_counted_114 rfl rfl ?_
    refine jr_callVi (As := []) hG (c_X5_textsThere l E N a0 (σ)) ci_X5_textsThere wd_697 ⟨wd_699, wd_19⟩ cl_5 (okO_s ha0) (okO_l ha0) ⟨rfl, rfl, Nat.le_of_ble_eq_true rfl, Nat.le_of_ble_eq_true rfl⟩ rfl rfl (Nat.le_of_ble_eq_true rfl) dX5_counted_115 ⟨Nat.le_refl _, Nat.le_refl _⟩ (fun r15 t14 => ?_)
    exact jr_iret hG hr hk dX5_counted_118
  refine jr_tabOut hG 119 dX5_counted_1 (tab_out0_7 hs0 hs1 hs2 hs3 hs4 hs5 hs6 hs7) (by decide) ?_
  refine jr_aload_n hG 0 dX5_counted_119 rfl rfl ?_
  refine jr_callVi (As := []) hG (c_X5_keptThere l E N a0 (σ)) ci_X5_keptThere wd_701 ⟨wd_703, wd_20⟩ cl_5 (okO_s ha0) (okO_l ha0) ⟨rfl, rfl, Nat.le_of_ble_eq_true rfl, Nat.le_of_ble_eq_true rfl⟩ rfl rfl (Nat.le_of_ble_eq_true rfl) dX5_counted_120 ⟨Nat.le_refl _, Nat.le_refl _⟩ (fun r17 t16 => ?_)
  exact jr_iret hG hr hk dX5_counted_123
-- TonguesDealt.count(I)I
abbrev rm_X5_count : Room := { frames := 3, cells := 0, slots := 0, locals := 63 }
theorem ci_X5_count : CIx yX5_count cX5_count 2 (some .int) 1 := ⟨wd_688, wd_71, by decide +kernel⟩
def f_X5_count (N : Nat) (a0 : Nat) (v1 : Int32) (σ : Mm) : Option (Int32 × Mm) := if okO 5 a0 then (if v1 < 0 then (some ((-1 : Int32), σ)) else (if v1 < (9 : Int32) then (bI (f_X5_counted N a0 v1 (σ)) (fun r2 t1 => some (r2, t1))) else (some ((-1 : Int32), σ)))) else none
set_option maxRecDepth 20000 in
theorem c_X5_count (l : Launch) (E : XE) (N : Nat) (a0 : Nat) (v1 : Int32) (σ : Mm) : ∀ r0, f_X5_count N a0 v1 σ = some r0 → Met l yX5_count [Cond.code yX5_count cX5_count 2 (some .int)] rm_X5_count (xPc E (NT + 0) σ [.ref (E.B + a0), .int v1]) (xQi E (NT + 0) r0) 0 0 (xA E) := by
  refine met_of (N0 := NT) (by decide +kernel) (Nat.le_of_ble_eq_true rfl) ?_
  intro p e s m args below meth c hG hr hk _
  show JR E NT 2 p l e rm_X5_count s m args below meth c 0 0 (fun r => MQ below (xQi E (NT + 0) r) args s 0 0 (xA E)) 0 [(0, .ref (E.B + a0)), (1, .int v1)] [] σ (if okO 5 a0 then (if v1 < 0 then (some ((-1 : Int32), σ)) else (if v1 < (9 : Int32) then (bI (f_X5_counted N a0 v1 (σ)) (fun r2 t1 => some (r2, t1))) else (some ((-1 : Int32), σ)))) else none)
  refine jr_guard (fun ha0 => ?_)
  refine jr_iload_n hG 1 dX5_count_0 rfl rfl ?_
  refine jr_if_lt hG 10 dX5_count_1 (by decide) (fun _ => ?_) (fun _ => ?_)
  · refine jr_iconst (v := (-1 : Int32)) hG dX5_count_10 (by decide) ?_
    exact jr_iret hG hr hk dX5_count_11
  · refine jr_iload_n hG 1 dX5_count_4 rfl rfl ?_
    refine jr_bipush (v := (9 : Int32)) hG dX5_count_5 (by decide) ?_
    refine jr_icmp_lt hG 12 dX5_count_7 (by decide) (fun _ => ?_) (fun _ => ?_)
    · refine jr_aload_n hG 0 dX5_count_12 rfl rfl ?_
      refine jr_iload_n hG 1 dX5_count_13 rfl rfl ?_
      refine jr_callVi (As := [.int v1]) hG (c_X5_counted l E N a0 v1 (σ)) ci_X5_counted wd_689 ⟨wd_691, wd_17⟩ cl_5 (okO_s ha0) (okO_l ha0) ⟨rfl, rfl, Nat.le_of_ble_eq_true rfl, Nat.le_of_ble_eq_true rfl⟩ rfl rfl (Nat.le_of_ble_eq_true rfl) dX5_count_14 ⟨Nat.le_refl _, Nat.le_refl _⟩ (fun r2 t1 => ?_)
      exact jr_iret hG hr hk dX5_count_17
    · refine jr_iconst (v := (-1 : Int32)) hG dX5_count_10 (by decide) ?_
      exact jr_iret hG hr hk dX5_count_11
-- TonguesDealt.finding()I
abbrev rm_X5_finding : Room := { frames := 0, cells := 0, slots := 0, locals := 0 }
theorem ci_X5_finding : CIx yX5_finding cX5_finding 1 (some .int) 0 := ⟨wd_708, wd_71, by decide +kernel⟩
def f_X5_finding (N : Nat) (a0 : Nat) (σ : Mm) : Option (Int32 × Mm) := if okO 5 a0 then (some (gi σ a0 10, σ)) else none
set_option maxRecDepth 20000 in
theorem c_X5_finding (l : Launch) (E : XE) (N : Nat) (a0 : Nat) (σ : Mm) : ∀ r0, f_X5_finding N a0 σ = some r0 → Met l yX5_finding [Cond.code yX5_finding cX5_finding 1 (some .int)] rm_X5_finding (xPc E (NT + 0) σ [.ref (E.B + a0)]) (xQi E (NT + 0) r0) 0 0 (xA E) := by
  refine met_of (N0 := NT) (by decide +kernel) (Nat.le_of_ble_eq_true rfl) ?_
  intro p e s m args below meth c hG hr hk _
  show JR E NT 1 p l e rm_X5_finding s m args below meth c 0 0 (fun r => MQ below (xQi E (NT + 0) r) args s 0 0 (xA E)) 0 [(0, .ref (E.B + a0))] [] σ (if okO 5 a0 then (some (gi σ a0 10, σ)) else none)
  refine jr_guard (fun ha0 => ?_)
  refine jr_aload_n hG 0 dX5_finding_0 rfl rfl ?_
  refine jr_getI hG fi_RX5_59 rfl (okO_s ha0) (okO_l ha0) dX5_finding_1 ?_
  exact jr_iret hG hr hk dX5_finding_4
-- TonguesDealt.findings(I)I
abbrev rm_X5_findings : Room := { frames := 0, cells := 0, slots := 0, locals := 0 }
theorem ci_X5_findings : CIx yX5_findings cX5_findings 2 (some .int) 1 := ⟨wd_712, wd_71, by decide +kernel⟩
def f_X5_findings (N : Nat) (a0 : Nat) (v1 : Int32) (σ : Mm) : Option (Int32 × Mm) := if okO 5 a0 then (if v1 < (1 : Int32) then (some ((-1 : Int32), σ)) else (if v1 ≤ (5 : Int32) then (bR (gr σ a0 9) (okA 0) (fun o1 => if inb v1 (arL o1) then (some (gi σ o1 (ix v1), σ)) else none)) else (some ((-1 : Int32), σ)))) else none
set_option maxRecDepth 20000 in
theorem c_X5_findings (l : Launch) (E : XE) (N : Nat) (a0 : Nat) (v1 : Int32) (σ : Mm) : ∀ r0, f_X5_findings N a0 v1 σ = some r0 → Met l yX5_findings [Cond.code yX5_findings cX5_findings 2 (some .int)] rm_X5_findings (xPc E (NT + 0) σ [.ref (E.B + a0), .int v1]) (xQi E (NT + 0) r0) 0 0 (xA E) := by
  refine met_of (N0 := NT) (by decide +kernel) (Nat.le_of_ble_eq_true rfl) ?_
  intro p e s m args below meth c hG hr hk _
  show JR E NT 2 p l e rm_X5_findings s m args below meth c 0 0 (fun r => MQ below (xQi E (NT + 0) r) args s 0 0 (xA E)) 0 [(0, .ref (E.B + a0)), (1, .int v1)] [] σ (if okO 5 a0 then (if v1 < (1 : Int32) then (some ((-1 : Int32), σ)) else (if v1 ≤ (5 : Int32) then (bR (gr σ a0 9) (okA 0) (fun o1 => if inb v1 (arL o1) then (some (gi σ o1 (ix v1), σ)) else none)) else (some ((-1 : Int32), σ)))) else none)
  refine jr_guard (fun ha0 => ?_)
  refine jr_iload_n hG 1 dX5_findings_0 rfl rfl ?_
  refine jr_iconst (v := (1 : Int32)) hG dX5_findings_1 (by decide) ?_
  refine jr_icmp_lt hG 10 dX5_findings_2 (by decide) (fun _ => ?_) (fun _ => ?_)
  · refine jr_iconst (v := (-1 : Int32)) hG dX5_findings_10 (by decide) ?_
    exact jr_iret hG hr hk dX5_findings_11
  · refine jr_iload_n hG 1 dX5_findings_5 rfl rfl ?_
    refine jr_iconst (v := (5 : Int32)) hG dX5_findings_6 (by decide) ?_
    refine jr_icmp_le hG 12 dX5_findings_7 (by decide) (fun _ => ?_) (fun _ => ?_)
    · refine jr_aload_n hG 0 dX5_findings_12 rfl rfl ?_
      refine jr_getR hG fi_RX5_56 rfl (okO_s ha0) (okO_l ha0) dX5_findings_13 (fun o1 ho1 => ?_)
      refine jr_iload_n hG 1 dX5_findings_16 rfl rfl ?_
      refine jr_iald hG (okA_s (by decide) ho1) (okA_l ho1) dX5_findings_17 ?_
      exact jr_iret hG hr hk dX5_findings_18
    · refine jr_iconst (v := (-1 : Int32)) hG dX5_findings_10 (by decide) ?_
      exact jr_iret hG hr hk dX5_findings_11
-- TonguesDealt.digest()J
abbrev rm_X5_digest : Room := { frames := 3, cells := 0, slots := 0, locals := 63 }
theorem ci_X5_digest : CIx yX5_digest cX5_digest 5 (some .long) 0 := ⟨wd_716, wd_71, by decide +kernel⟩
def f_X5_digest_137 (N : Nat)  : Nat → Nat → Int64 → Int32 → Mm → Option (Int64 × Mm)
  | 0 => fun _ _ _ _ => none
  | n + 1 => fun a0 v1 v3 σ => if (4 : Int32) ≤ v3 then (some (v1, σ)) else (bR (gr σ a0 1) (okA 4) (fun o15 => if inb v3 (arL o15) then (bR (gr σ o15 (ix v3)) (okO 4) (fun o16 => bL (f_X4_mixInto N o16 v1 (σ)) (fun r18 t17 => f_X5_digest_137 N n a0 r18 (v3 + (1 : Int32)) t17))) else none))
set_option maxRecDepth 20000 in
theorem w_X5_digest_137 {p : Program} {l : Launch} {e : Env} {s : State} {m : MethodId} {args : Array Value} {below : List Frame} {meth : Method} {c : Code} {E : XE} (N : Nat) (hG : GG E NT 5 RX5 cX5_digest p s m args c) (hr : meth.sig.returnType = (some .long)) (hk : meth.locks = false)  : ∀ (n : Nat) (a0 : Nat) (v1 : Int64) (v3 : Int32) (ha0 : okO 5 a0 = true) (σ : Mm), JR E NT 5 p l e rm_X5_digest s m args below meth c 0 0 (fun r => MQ below (xQl E (NT + 0) r) args s 0 0 (xA E)) 137 [(0, .ref (E.B + a0)), (1, .long v1), (3, .int v3)] [] σ (f_X5_digest_137 N n a0 v1 v3 σ) := by
  intro n
  induction n with
  | zero => intro a0 v1 v3 ha0 σ r hX; cases hX
  | succ n ih =>
    intro a0 v1 v3 ha0 σ
    show JR E NT 5 p l e rm_X5_digest s m args below meth c 0 0 (fun r => MQ below (xQl E (NT + 0) r) args s 0 0 (xA E)) 137 [(0, .ref (E.B + a0)), (1, .long v1), (3, .int v3)] [] σ (if (4 : Int32) ≤ v3 then (some (v1, σ)) else (bR (gr σ a0 1) (okA 4) (fun o15 => if inb v3 (arL o15) then (bR (gr σ o15 (ix v3)) (okO 4) (fun o16 => bL (f_X4_mixInto N o16 v1 (σ)) (fun r18 t17 => f_X5_digest_137 N n a0 r18 (v3 + (1 : Int32)) t17))) else none)))
    refine jr_iload_n hG 2 dX5_digest_137 rfl rfl ?_
    refine jr_iconst (v := (4 : Int32)) hG dX5_digest_138 (by decide) ?_
    refine jr_icmp_ge hG 159 dX5_digest_139 (by decide) (fun _ => ?_) (fun _ => ?_)
    · refine jr_lload_n hG 1 dX5_digest_159 rfl rfl ?_
      exact jr_lret hG hr hk dX5_digest_160
    · refine jr_aload_n hG 0 dX5_digest_142 rfl rfl ?_
      refine jr_getR hG fi_RX5_17 rfl (okO_s ha0) (okO_l ha0) dX5_digest_143 (fun o15 ho15 => ?_)
      refine jr_iload_n hG 2 dX5_digest_146 rfl rfl ?_
      refine jr_aald hG (okA_s (by decide) ho15) (by decide) rfl (okA_l ho15) dX5_digest_147 (fun o16 ho16 => ?_)
      refine jr_lload_n hG 1 dX5_digest_148 rfl rfl ?_
      refine jr_callVl (As := [.long v1]) hG (c_X4_mixInto l E N o16 v1 (σ)) ci_X4_mixInto wd_724 ⟨wd_725, wd_726⟩ cl_4 (okO_s ho16) (okO_l ho16) ⟨rfl, rfl, Nat.le_of_ble_eq_true rfl, Nat.le_of_ble_eq_true rfl⟩ rfl rfl (Nat.le_of_ble_eq_true rfl) dX5_digest_149 ⟨Nat.le_refl _, Nat.le_refl _⟩ (fun r18 t17 => ?_)
      refine jr_lstore_n (lv' := [(1, .long r18), (0, .ref (E.B + a0)), (3, .int v3)]) hG dX5_digest_152 rfl (by decide) rfl ?_
      refine jr_iinc (v := v3 + (1 : Int32)) (lv' := [(3, .int (v3 + (1 : Int32))), (1, .long r18), (0, .ref (E.B + a0))]) hG 2 dX5_digest_153 rfl rfl (by decide) rfl ?_
      refine jr_goto hG 137 dX5_digest_156 (by decide) ?_
      refine jr_sub (lv' := [(0, .ref (E.B + a0)), (1, .long r18), (3, .int (v3 + (1 : Int32)))]) [2, 1, 0] rfl ?_
      exact ih a0 r18 (v3 + (1 : Int32)) ha0 t17
def f_X5_digest_112 (N : Nat)  : Nat → Nat → Int64 → Int32 → Mm → Option (Int64 × Mm)
  | 0 => fun _ _ _ _ => none
  | n + 1 => fun a0 v1 v3 σ => if (6 : Int32) ≤ v3 then (f_X5_digest_137 N N a0 v1 (0 : Int32) (σ)) else (bR (gr σ a0 0) (okA 3) (fun o11 => if inb v3 (arL o11) then (bR (gr σ o11 (ix v3)) (okO 3) (fun o12 => bL (f_X3_mixInto N o12 v1 (σ)) (fun r14 t13 => f_X5_digest_112 N n a0 r14 (v3 + (1 : Int32)) t13))) else none))
set_option maxRecDepth 20000 in
theorem w_X5_digest_112 {p : Program} {l : Launch} {e : Env} {s : State} {m : MethodId} {args : Array Value} {below : List Frame} {meth : Method} {c : Code} {E : XE} (N : Nat) (hG : GG E NT 5 RX5 cX5_digest p s m args c) (hr : meth.sig.returnType = (some .long)) (hk : meth.locks = false)  : ∀ (n : Nat) (a0 : Nat) (v1 : Int64) (v3 : Int32) (ha0 : okO 5 a0 = true) (σ : Mm), JR E NT 5 p l e rm_X5_digest s m args below meth c 0 0 (fun r => MQ below (xQl E (NT + 0) r) args s 0 0 (xA E)) 112 [(0, .ref (E.B + a0)), (1, .long v1), (3, .int v3)] [] σ (f_X5_digest_112 N n a0 v1 v3 σ) := by
  intro n
  induction n with
  | zero => intro a0 v1 v3 ha0 σ r hX; cases hX
  | succ n ih =>
    intro a0 v1 v3 ha0 σ
    show JR E NT 5 p l e rm_X5_digest s m args below meth c 0 0 (fun r => MQ below (xQl E (NT + 0) r) args s 0 0 (xA E)) 112 [(0, .ref (E.B + a0)), (1, .long v1), (3, .int v3)] [] σ (if (6 : Int32) ≤ v3 then (f_X5_digest_137 N N a0 v1 (0 : Int32) (σ)) else (bR (gr σ a0 0) (okA 3) (fun o11 => if inb v3 (arL o11) then (bR (gr σ o11 (ix v3)) (okO 3) (fun o12 => bL (f_X3_mixInto N o12 v1 (σ)) (fun r14 t13 => f_X5_digest_112 N n a0 r14 (v3 + (1 : Int32)) t13))) else none)))
    refine jr_iload_n hG 2 dX5_digest_112 rfl rfl ?_
    refine jr_bipush (v := (6 : Int32)) hG dX5_digest_113 (by decide) ?_
    refine jr_icmp_ge hG 135 dX5_digest_115 (by decide) (fun _ => ?_) (fun _ => ?_)
    · refine jr_iconst (v := (0 : Int32)) hG dX5_digest_135 (by decide) ?_
      refine jr_istore_n (lv' := [(3, .int (0 : Int32)), (0, .ref (E.B + a0)), (1, .long v1)]) hG dX5_digest_136 rfl (by decide) rfl ?_
      refine jr_sub (lv' := [(0, .ref (E.B + a0)), (1, .long v1), (3, .int (0 : Int32))]) [1, 2, 0] rfl ?_
      exact w_X5_digest_137 N hG hr hk N a0 v1 (0 : Int32) ha0 (σ)
    · refine jr_aload_n hG 0 dX5_digest_118 rfl rfl ?_
      refine jr_getR hG fi_RX5_11 rfl (okO_s ha0) (okO_l ha0) dX5_digest_119 (fun o11 ho11 => ?_)
      refine jr_iload_n hG 2 dX5_digest_122 rfl rfl ?_
      refine jr_aald hG (okA_s (by decide) ho11) (by decide) rfl (okA_l ho11) dX5_digest_123 (fun o12 ho12 => ?_)
      refine jr_lload_n hG 1 dX5_digest_124 rfl rfl ?_
      refine jr_callVl (As := [.long v1]) hG (c_X3_mixInto l E N o12 v1 (σ)) ci_X3_mixInto wd_719 ⟨wd_720, wd_721⟩ cl_3 (okO_s ho12) (okO_l ho12) ⟨rfl, rfl, Nat.le_of_ble_eq_true rfl, Nat.le_of_ble_eq_true rfl⟩ rfl rfl (Nat.le_of_ble_eq_true rfl) dX5_digest_125 ⟨Nat.le_refl _, Nat.le_refl _⟩ (fun r14 t13 => ?_)
      refine jr_lstore_n (lv' := [(1, .long r14), (0, .ref (E.B + a0)), (3, .int v3)]) hG dX5_digest_128 rfl (by decide) rfl ?_
      refine jr_iinc (v := v3 + (1 : Int32)) (lv' := [(3, .int (v3 + (1 : Int32))), (1, .long r14), (0, .ref (E.B + a0))]) hG 2 dX5_digest_129 rfl rfl (by decide) rfl ?_
      refine jr_goto hG 112 dX5_digest_132 (by decide) ?_
      refine jr_sub (lv' := [(0, .ref (E.B + a0)), (1, .long r14), (3, .int (v3 + (1 : Int32)))]) [2, 1, 0] rfl ?_
      exact ih a0 r14 (v3 + (1 : Int32)) ha0 t13
def f_X5_digest_82 (N : Nat)  : Nat → Nat → Int64 → Int32 → Mm → Option (Int64 × Mm)
  | 0 => fun _ _ _ _ => none
  | n + 1 => fun a0 v1 v3 σ => if (3 : Int32) ≤ v3 then (f_X5_digest_112 N N a0 v1 (0 : Int32) (σ)) else (bR (gr σ a0 2) (okA 5) (fun o8 => if inb v3 (arL o8) then (bR (gr σ o8 (ix v3)) (okO 1) (fun o9 => lt (((31 : Int64) * v1) + ((gi σ o9 2).toInt64)) (fun x10 => f_X5_digest_82 N n a0 x10 (v3 + (1 : Int32)) (σ)))) else none))
set_option maxRecDepth 20000 in
theorem w_X5_digest_82 {p : Program} {l : Launch} {e : Env} {s : State} {m : MethodId} {args : Array Value} {below : List Frame} {meth : Method} {c : Code} {E : XE} (N : Nat) (hG : GG E NT 5 RX5 cX5_digest p s m args c) (hr : meth.sig.returnType = (some .long)) (hk : meth.locks = false)  : ∀ (n : Nat) (a0 : Nat) (v1 : Int64) (v3 : Int32) (ha0 : okO 5 a0 = true) (σ : Mm), JR E NT 5 p l e rm_X5_digest s m args below meth c 0 0 (fun r => MQ below (xQl E (NT + 0) r) args s 0 0 (xA E)) 82 [(0, .ref (E.B + a0)), (1, .long v1), (3, .int v3)] [] σ (f_X5_digest_82 N n a0 v1 v3 σ) := by
  intro n
  induction n with
  | zero => intro a0 v1 v3 ha0 σ r hX; cases hX
  | succ n ih =>
    intro a0 v1 v3 ha0 σ
    show JR E NT 5 p l e rm_X5_digest s m args below meth c 0 0 (fun r => MQ below (xQl E (NT + 0) r) args s 0 0 (xA E)) 82 [(0, .ref (E.B + a0)), (1, .long v1), (3, .int v3)] [] σ (if (3 : Int32) ≤ v3 then (f_X5_digest_112 N N a0 v1 (0 : Int32) (σ)) else (bR (gr σ a0 2) (okA 5) (fun o8 => if inb v3 (arL o8) then (bR (gr σ o8 (ix v3)) (okO 1) (fun o9 => lt (((31 : Int64) * v1) + ((gi σ o9 2).toInt64)) (fun x10 => f_X5_digest_82 N n a0 x10 (v3 + (1 : Int32)) (σ)))) else none)))
    refine jr_iload_n hG 2 dX5_digest_82 rfl rfl ?_
    refine jr_iconst (v := (3 : Int32)) hG dX5_digest_83 (by decide) ?_
    refine jr_icmp_ge hG 110 dX5_digest_84 (by decide) (fun _ => ?_) (fun _ => ?_)
    · refine jr_iconst (v := (0 : Int32)) hG dX5_digest_110 (by decide) ?_
      refine jr_istore_n (lv' := [(3, .int (0 : Int32)), (0, .ref (E.B + a0)), (1, .long v1)]) hG dX5_digest_111 rfl (by decide) rfl ?_
      refine jr_sub (lv' := [(0, .ref (E.B + a0)), (1, .long v1), (3, .int (0 : Int32))]) [1, 2, 0] rfl ?_
      exact w_X5_digest_112 N hG hr hk N a0 v1 (0 : Int32) ha0 (σ)
    · refine jr_ldc2 (v := (31 : Int64)) hG wd_718 dX5_digest_87 ?_
      refine jr_lload_n hG 1 dX5_digest_90 rfl rfl ?_
      refine jr_lmul hG dX5_digest_91 ?_
      refine jr_aload_n hG 0 dX5_digest_92 rfl rfl ?_
      refine jr_getR hG fi_RX5_23 rfl (okO_s ha0) (okO_l ha0) dX5_digest_93 (fun o8 ho8 => ?_)
      refine jr_iload_n hG 2 dX5_digest_96 rfl rfl ?_
      refine jr_aald hG (okA_s (by decide) ho8) (by decide) rfl (okA_l ho8) dX5_digest_97 (fun o9 ho9 => ?_)
      refine jr_getI hG fi_RX5_75 rfl (okO_s ho9) (okO_l ho9) dX5_digest_98 ?_
      refine jr_i2l hG dX5_digest_101 ?_
      refine jr_ladd hG dX5_digest_102 ?_
      refine jr_letl (fun x10 _ => ?_)
      refine jr_lstore_n (lv' := [(1, .long x10), (0, .ref (E.B + a0)), (3, .int v3)]) hG dX5_digest_103 rfl (by decide) rfl ?_
      refine jr_iinc (v := v3 + (1 : Int32)) (lv' := [(3, .int (v3 + (1 : Int32))), (1, .long x10), (0, .ref (E.B + a0))]) hG 2 dX5_digest_104 rfl rfl (by decide) rfl ?_
      refine jr_goto hG 82 dX5_digest_107 (by decide) ?_
      refine jr_sub (lv' := [(0, .ref (E.B + a0)), (1, .long x10), (3, .int (v3 + (1 : Int32)))]) [2, 1, 0] rfl ?_
      exact ih a0 x10 (v3 + (1 : Int32)) ha0 (σ)
def f_X5_digest_47 (N : Nat) (K33 : Nat → Int64 → Int32 → Mm → Option (Int64 × Mm)) : Nat → Nat → Int64 → Int32 → Int32 → Mm → Option (Int64 × Mm)
  | 0 => fun _ _ _ _ _ => none
  | n + 1 => fun a0 v1 v3 v4 σ => if (5 : Int32) ≤ v4 then (K33 a0 v1 (v3 + (1 : Int32)) (σ)) else (bI (f_X5_toldOf N a0 v3 v4 (σ)) (fun r6 t5 => lt (((31 : Int64) * v1) + (r6.toInt64)) (fun x7 => f_X5_digest_47 N K33 n a0 x7 v3 (v4 + (1 : Int32)) t5)))
set_option maxRecDepth 20000 in
theorem w_X5_digest_47 {p : Program} {l : Launch} {e : Env} {s : State} {m : MethodId} {args : Array Value} {below : List Frame} {meth : Method} {c : Code} {E : XE} (N : Nat) (hG : GG E NT 5 RX5 cX5_digest p s m args c) (hr : meth.sig.returnType = (some .long)) (hk : meth.locks = false) {K33 : Nat → Int64 → Int32 → Mm → Option (Int64 × Mm)} (hK33 : ∀ (a0 : Nat) (v1 : Int64) (v3 : Int32) (ha0 : okO 5 a0 = true) (σ : Mm), JR E NT 5 p l e rm_X5_digest s m args below meth c 0 0 (fun r => MQ below (xQl E (NT + 0) r) args s 0 0 (xA E)) 33 [(0, .ref (E.B + a0)), (1, .long v1), (3, .int v3)] [] σ (K33 a0 v1 v3 σ)) : ∀ (n : Nat) (a0 : Nat) (v1 : Int64) (v3 : Int32) (v4 : Int32) (ha0 : okO 5 a0 = true) (σ : Mm), JR E NT 5 p l e rm_X5_digest s m args below meth c 0 0 (fun r => MQ below (xQl E (NT + 0) r) args s 0 0 (xA E)) 47 [(0, .ref (E.B + a0)), (1, .long v1), (3, .int v3), (4, .int v4)] [] σ (f_X5_digest_47 N K33 n a0 v1 v3 v4 σ) := by
  intro n
  induction n with
  | zero => intro a0 v1 v3 v4 ha0 σ r hX; cases hX
  | succ n ih =>
    intro a0 v1 v3 v4 ha0 σ
    show JR E NT 5 p l e rm_X5_digest s m args below meth c 0 0 (fun r => MQ below (xQl E (NT + 0) r) args s 0 0 (xA E)) 47 [(0, .ref (E.B + a0)), (1, .long v1), (3, .int v3), (4, .int v4)] [] σ (if (5 : Int32) ≤ v4 then (K33 a0 v1 (v3 + (1 : Int32)) (σ)) else (bI (f_X5_toldOf N a0 v3 v4 (σ)) (fun r6 t5 => lt (((31 : Int64) * v1) + (r6.toInt64)) (fun x7 => f_X5_digest_47 N K33 n a0 x7 v3 (v4 + (1 : Int32)) t5))))
    refine jr_iload hG 3 dX5_digest_47 rfl ?_
    refine jr_iconst (v := (5 : Int32)) hG dX5_digest_49 (by decide) ?_
    refine jr_icmp_ge hG 74 dX5_digest_50 (by decide) (fun _ => ?_) (fun _ => ?_)
    · refine jr_iinc (v := v3 + (1 : Int32)) (lv' := [(3, .int (v3 + (1 : Int32))), (0, .ref (E.B + a0)), (1, .long v1), (4, .int v4)]) hG 2 dX5_digest_74 rfl rfl (by decide) rfl ?_
      refine jr_goto hG 33 dX5_digest_77 (by decide) ?_
      refine jr_sub (lv' := [(0, .ref (E.B + a0)), (1, .long v1), (3, .int (v3 + (1 : Int32)))]) [1, 2, 0] rfl ?_
      exact hK33 a0 v1 (v3 + (1 : Int32)) ha0 (σ)
    · refine jr_ldc2 (v := (31 : Int64)) hG wd_718 dX5_digest_53 ?_
      refine jr_lload_n hG 1 dX5_digest_56 rfl rfl ?_
      refine jr_lmul hG dX5_digest_57 ?_
      refine jr_aload_n hG 0 dX5_digest_58 rfl rfl ?_
      refine jr_iload_n hG 2 dX5_digest_59 rfl rfl ?_
      refine jr_iload hG 3 dX5_digest_60 rfl ?_
      refine jr_callVi (As := [.int v3, .int v4]) hG (c_X5_toldOf l E N a0 v3 v4 (σ)) ci_X5_toldOf wd_422 ⟨wd_424, wd_7⟩ cl_5 (okO_s ha0) (okO_l ha0) ⟨rfl, rfl, Nat.le_of_ble_eq_true rfl, Nat.le_of_ble_eq_true rfl⟩ rfl rfl (Nat.le_of_ble_eq_true rfl) dX5_digest_62 ⟨Nat.le_refl _, Nat.le_refl _⟩ (fun r6 t5 => ?_)
      refine jr_i2l hG dX5_digest_65 ?_
      refine jr_ladd hG dX5_digest_66 ?_
      refine jr_letl (fun x7 _ => ?_)
      refine jr_lstore_n (lv' := [(1, .long x7), (0, .ref (E.B + a0)), (3, .int v3), (4, .int v4)]) hG dX5_digest_67 rfl (by decide) rfl ?_
      refine jr_iinc (v := v4 + (1 : Int32)) (lv' := [(4, .int (v4 + (1 : Int32))), (1, .long x7), (0, .ref (E.B + a0)), (3, .int v3)]) hG 3 dX5_digest_68 rfl rfl (by decide) rfl ?_
      refine jr_goto hG 47 dX5_digest_71 (by decide) ?_
      refine jr_sub (lv' := [(0, .ref (E.B + a0)), (1, .long x7), (3, .int v3), (4, .int (v4 + (1 : Int32)))]) [2, 1, 3, 0] rfl ?_
      exact ih a0 x7 v3 (v4 + (1 : Int32)) ha0 t5
def f_X5_digest_33 (N : Nat)  : Nat → Nat → Int64 → Int32 → Mm → Option (Int64 × Mm)
  | 0 => fun _ _ _ _ => none
  | n + 1 => fun a0 v1 v3 σ => bR (gr σ a0 6) (okO 2) (fun o4 => if (gi σ o4 8) ≤ v3 then (f_X5_digest_82 N N a0 v1 (0 : Int32) (σ)) else (f_X5_digest_47 N (f_X5_digest_33 N n) N a0 v1 v3 (0 : Int32) (σ)))
set_option maxRecDepth 20000 in
theorem w_X5_digest_33 {p : Program} {l : Launch} {e : Env} {s : State} {m : MethodId} {args : Array Value} {below : List Frame} {meth : Method} {c : Code} {E : XE} (N : Nat) (hG : GG E NT 5 RX5 cX5_digest p s m args c) (hr : meth.sig.returnType = (some .long)) (hk : meth.locks = false)  : ∀ (n : Nat) (a0 : Nat) (v1 : Int64) (v3 : Int32) (ha0 : okO 5 a0 = true) (σ : Mm), JR E NT 5 p l e rm_X5_digest s m args below meth c 0 0 (fun r => MQ below (xQl E (NT + 0) r) args s 0 0 (xA E)) 33 [(0, .ref (E.B + a0)), (1, .long v1), (3, .int v3)] [] σ (f_X5_digest_33 N n a0 v1 v3 σ) := by
  intro n
  induction n with
  | zero => intro a0 v1 v3 ha0 σ r hX; cases hX
  | succ n ih =>
    intro a0 v1 v3 ha0 σ
    show JR E NT 5 p l e rm_X5_digest s m args below meth c 0 0 (fun r => MQ below (xQl E (NT + 0) r) args s 0 0 (xA E)) 33 [(0, .ref (E.B + a0)), (1, .long v1), (3, .int v3)] [] σ (bR (gr σ a0 6) (okO 2) (fun o4 => if (gi σ o4 8) ≤ v3 then (f_X5_digest_82 N N a0 v1 (0 : Int32) (σ)) else (f_X5_digest_47 N (f_X5_digest_33 N n) N a0 v1 v3 (0 : Int32) (σ))))
    refine jr_iload_n hG 2 dX5_digest_33 rfl rfl ?_
    refine jr_aload_n hG 0 dX5_digest_34 rfl rfl ?_
    refine jr_getR hG fi_RX5_45 rfl (okO_s ha0) (okO_l ha0) dX5_digest_35 (fun o4 ho4 => ?_)
    refine jr_getI hG fi_RX5_127 rfl (okO_s ho4) (okO_l ho4) dX5_digest_38 ?_
    refine jr_icmp_ge hG 80 dX5_digest_41 (by decide) (fun _ => ?_) (fun _ => ?_)
    · refine jr_iconst (v := (0 : Int32)) hG dX5_digest_80 (by decide) ?_
      refine jr_istore_n (lv' := [(3, .int (0 : Int32)), (0, .ref (E.B + a0)), (1, .long v1)]) hG dX5_digest_81 rfl (by decide) rfl ?_
      refine jr_sub (lv' := [(0, .ref (E.B + a0)), (1, .long v1), (3, .int (0 : Int32))]) [1, 2, 0] rfl ?_
      exact w_X5_digest_82 N hG hr hk N a0 v1 (0 : Int32) ha0 (σ)
    · refine jr_iconst (v := (0 : Int32)) hG dX5_digest_44 (by decide) ?_
      refine jr_istore (lv' := [(4, .int (0 : Int32)), (0, .ref (E.B + a0)), (1, .long v1), (3, .int v3)]) hG dX5_digest_45 (by decide) rfl ?_
      refine jr_sub (lv' := [(0, .ref (E.B + a0)), (1, .long v1), (3, .int v3), (4, .int (0 : Int32))]) [1, 2, 3, 0] rfl ?_
      exact w_X5_digest_47 N hG hr hk ih N a0 v1 v3 (0 : Int32) ha0 (σ)
def f_X5_digest_6 (N : Nat)  : Nat → Nat → Int64 → Int32 → Mm → Option (Int64 × Mm)
  | 0 => fun _ _ _ _ => none
  | n + 1 => fun a0 v1 v3 σ => if (9 : Int32) ≤ v3 then (f_X5_digest_33 N N a0 v1 (0 : Int32) (σ)) else (bI (f_X5_counted N a0 v3 (σ)) (fun r2 t1 => lt (((31 : Int64) * v1) + (r2.toInt64)) (fun x3 => f_X5_digest_6 N n a0 x3 (v3 + (1 : Int32)) t1)))
set_option maxRecDepth 20000 in
theorem w_X5_digest_6 {p : Program} {l : Launch} {e : Env} {s : State} {m : MethodId} {args : Array Value} {below : List Frame} {meth : Method} {c : Code} {E : XE} (N : Nat) (hG : GG E NT 5 RX5 cX5_digest p s m args c) (hr : meth.sig.returnType = (some .long)) (hk : meth.locks = false)  : ∀ (n : Nat) (a0 : Nat) (v1 : Int64) (v3 : Int32) (ha0 : okO 5 a0 = true) (σ : Mm), JR E NT 5 p l e rm_X5_digest s m args below meth c 0 0 (fun r => MQ below (xQl E (NT + 0) r) args s 0 0 (xA E)) 6 [(0, .ref (E.B + a0)), (1, .long v1), (3, .int v3)] [] σ (f_X5_digest_6 N n a0 v1 v3 σ) := by
  intro n
  induction n with
  | zero => intro a0 v1 v3 ha0 σ r hX; cases hX
  | succ n ih =>
    intro a0 v1 v3 ha0 σ
    show JR E NT 5 p l e rm_X5_digest s m args below meth c 0 0 (fun r => MQ below (xQl E (NT + 0) r) args s 0 0 (xA E)) 6 [(0, .ref (E.B + a0)), (1, .long v1), (3, .int v3)] [] σ (if (9 : Int32) ≤ v3 then (f_X5_digest_33 N N a0 v1 (0 : Int32) (σ)) else (bI (f_X5_counted N a0 v3 (σ)) (fun r2 t1 => lt (((31 : Int64) * v1) + (r2.toInt64)) (fun x3 => f_X5_digest_6 N n a0 x3 (v3 + (1 : Int32)) t1))))
    refine jr_iload_n hG 2 dX5_digest_6 rfl rfl ?_
    refine jr_bipush (v := (9 : Int32)) hG dX5_digest_7 (by decide) ?_
    refine jr_icmp_ge hG 31 dX5_digest_9 (by decide) (fun _ => ?_) (fun _ => ?_)
    · refine jr_iconst (v := (0 : Int32)) hG dX5_digest_31 (by decide) ?_
      refine jr_istore_n (lv' := [(3, .int (0 : Int32)), (0, .ref (E.B + a0)), (1, .long v1)]) hG dX5_digest_32 rfl (by decide) rfl ?_
      refine jr_sub (lv' := [(0, .ref (E.B + a0)), (1, .long v1), (3, .int (0 : Int32))]) [1, 2, 0] rfl ?_
      exact w_X5_digest_33 N hG hr hk N a0 v1 (0 : Int32) ha0 (σ)
    · refine jr_ldc2 (v := (31 : Int64)) hG wd_718 dX5_digest_12 ?_
      refine jr_lload_n hG 1 dX5_digest_15 rfl rfl ?_
      refine jr_lmul hG dX5_digest_16 ?_
      refine jr_aload_n hG 0 dX5_digest_17 rfl rfl ?_
      refine jr_iload_n hG 2 dX5_digest_18 rfl rfl ?_
      refine jr_callVi (As := [.int v3]) hG (c_X5_counted l E N a0 v3 (σ)) ci_X5_counted wd_689 ⟨wd_691, wd_17⟩ cl_5 (okO_s ha0) (okO_l ha0) ⟨rfl, rfl, Nat.le_of_ble_eq_true rfl, Nat.le_of_ble_eq_true rfl⟩ rfl rfl (Nat.le_of_ble_eq_true rfl) dX5_digest_19 ⟨Nat.le_refl _, Nat.le_refl _⟩ (fun r2 t1 => ?_)
      refine jr_i2l hG dX5_digest_22 ?_
      refine jr_ladd hG dX5_digest_23 ?_
      refine jr_letl (fun x3 _ => ?_)
      refine jr_lstore_n (lv' := [(1, .long x3), (0, .ref (E.B + a0)), (3, .int v3)]) hG dX5_digest_24 rfl (by decide) rfl ?_
      refine jr_iinc (v := v3 + (1 : Int32)) (lv' := [(3, .int (v3 + (1 : Int32))), (1, .long x3), (0, .ref (E.B + a0))]) hG 2 dX5_digest_25 rfl rfl (by decide) rfl ?_
      refine jr_goto hG 6 dX5_digest_28 (by decide) ?_
      refine jr_sub (lv' := [(0, .ref (E.B + a0)), (1, .long x3), (3, .int (v3 + (1 : Int32)))]) [2, 1, 0] rfl ?_
      exact ih a0 x3 (v3 + (1 : Int32)) ha0 t1
def f_X5_digest (N : Nat) (a0 : Nat) (σ : Mm) : Option (Int64 × Mm) := if okO 5 a0 then (f_X5_digest_6 N N a0 (17 : Int64) (0 : Int32) (σ)) else none
set_option maxRecDepth 20000 in
theorem c_X5_digest (l : Launch) (E : XE) (N : Nat) (a0 : Nat) (σ : Mm) : ∀ r0, f_X5_digest N a0 σ = some r0 → Met l yX5_digest [Cond.code yX5_digest cX5_digest 5 (some .long)] rm_X5_digest (xPc E (NT + 0) σ [.ref (E.B + a0)]) (xQl E (NT + 0) r0) 0 0 (xA E) := by
  refine met_of (N0 := NT) (by decide +kernel) (Nat.le_of_ble_eq_true rfl) ?_
  intro p e s m args below meth c hG hr hk _
  show JR E NT 5 p l e rm_X5_digest s m args below meth c 0 0 (fun r => MQ below (xQl E (NT + 0) r) args s 0 0 (xA E)) 0 [(0, .ref (E.B + a0))] [] σ (if okO 5 a0 then (f_X5_digest_6 N N a0 (17 : Int64) (0 : Int32) (σ)) else none)
  refine jr_guard (fun ha0 => ?_)
  refine jr_ldc2 (v := (17 : Int64)) hG wd_717 dX5_digest_0 ?_
  refine jr_lstore_n (lv' := [(1, .long (17 : Int64)), (0, .ref (E.B + a0))]) hG dX5_digest_3 rfl (by decide) rfl ?_
  refine jr_iconst (v := (0 : Int32)) hG dX5_digest_4 (by decide) ?_
  refine jr_istore_n (lv' := [(3, .int (0 : Int32)), (1, .long (17 : Int64)), (0, .ref (E.B + a0))]) hG dX5_digest_5 rfl (by decide) rfl ?_
  refine jr_sub (lv' := [(0, .ref (E.B + a0)), (1, .long (17 : Int64)), (3, .int (0 : Int32))]) [2, 1, 0] rfl ?_
  exact w_X5_digest_6 N hG hr hk N a0 (17 : Int64) (0 : Int32) ha0 (σ)
-- TonguesDealtModel.in(III)Z
abbrev rm_X6_in : Room := { frames := 0, cells := 0, slots := 0, locals := 0 }
theorem ci_X6_in : CIx yX6_in cX6_in 3 (some .boolean) 3 := ⟨wd_849, wd_77, by decide +kernel⟩
def f_X6_in (N : Nat) (v0 : Int32) (v1 : Int32) (v2 : Int32) (σ : Mm) : Option (Int32 × Mm) := if v0 < v1 then (some ((0 : Int32), σ)) else (if v2 < v0 then (some ((0 : Int32), σ)) else (some ((1 : Int32), σ)))
set_option maxRecDepth 20000 in
theorem c_X6_in (l : Launch) (E : XE) (N : Nat) (v0 : Int32) (v1 : Int32) (v2 : Int32) (σ : Mm) : ∀ r0, f_X6_in N v0 v1 v2 σ = some r0 → Met l yX6_in [Cond.code yX6_in cX6_in 3 (some .boolean)] rm_X6_in (xPc E (NT + 0) σ [.int v0, .int v1, .int v2]) (xQi E (NT + 0) r0) 0 0 (xA E) := by
  refine met_of (N0 := NT) (by decide +kernel) (Nat.le_of_ble_eq_true rfl) ?_
  intro p e s m args below meth c hG hr hk _
  show JR E NT 3 p l e rm_X6_in s m args below meth c 0 0 (fun r => MQ below (xQi E (NT + 0) r) args s 0 0 (xA E)) 0 [(0, .int v0), (1, .int v1), (2, .int v2)] [] σ (if v0 < v1 then (some ((0 : Int32), σ)) else (if v2 < v0 then (some ((0 : Int32), σ)) else (some ((1 : Int32), σ))))
  refine jr_iload_n hG 0 dX6_in_0 rfl rfl ?_
  refine jr_iload_n hG 1 dX6_in_1 rfl rfl ?_
  refine jr_icmp_lt hG 14 dX6_in_2 (by decide) (fun _ => ?_) (fun _ => ?_)
  · refine jr_iconst (v := (0 : Int32)) hG dX6_in_14 (by decide) ?_
    exact jr_zret hG hr hk (by decide) dX6_in_15
  · refine jr_iload_n hG 0 dX6_in_5 rfl rfl ?_
    refine jr_iload_n hG 2 dX6_in_6 rfl rfl ?_
    refine jr_icmp_gt hG 14 dX6_in_7 (by decide) (fun _ => ?_) (fun _ => ?_)
    · refine jr_iconst (v := (0 : Int32)) hG dX6_in_14 (by decide) ?_
      exact jr_zret hG hr hk (by decide) dX6_in_15
    · refine jr_iconst (v := (1 : Int32)) hG dX6_in_10 (by decide) ?_
      refine jr_goto hG 15 dX6_in_11 (by decide) ?_
      exact jr_zret hG hr hk (by decide) dX6_in_15
-- TonguesDealtModel.has(II)Z
abbrev rm_X6_has : Room := { frames := 0, cells := 0, slots := 0, locals := 0 }
theorem ci_X6_has : CIx yX6_has cX6_has 2 (some .boolean) 2 := ⟨wd_934, wd_77, by decide +kernel⟩
def f_X6_has (N : Nat) (v0 : Int32) (v1 : Int32) (σ : Mm) : Option (Int32 × Mm) := if ((v0 >>> (v1 &&& 31)) &&& (1 : Int32)) = (1 : Int32) then (some ((1 : Int32), σ)) else (some ((0 : Int32), σ))
set_option maxRecDepth 20000 in
theorem c_X6_has (l : Launch) (E : XE) (N : Nat) (v0 : Int32) (v1 : Int32) (σ : Mm) : ∀ r0, f_X6_has N v0 v1 σ = some r0 → Met l yX6_has [Cond.code yX6_has cX6_has 2 (some .boolean)] rm_X6_has (xPc E (NT + 0) σ [.int v0, .int v1]) (xQi E (NT + 0) r0) 0 0 (xA E) := by
  refine met_of (N0 := NT) (by decide +kernel) (Nat.le_of_ble_eq_true rfl) ?_
  intro p e s m args below meth c hG hr hk _
  show JR E NT 2 p l e rm_X6_has s m args below meth c 0 0 (fun r => MQ below (xQi E (NT + 0) r) args s 0 0 (xA E)) 0 [(0, .int v0), (1, .int v1)] [] σ (if ((v0 >>> (v1 &&& 31)) &&& (1 : Int32)) = (1 : Int32) then (some ((1 : Int32), σ)) else (some ((0 : Int32), σ)))
  refine jr_iload_n hG 0 dX6_has_0 rfl rfl ?_
  refine jr_iload_n hG 1 dX6_has_1 rfl rfl ?_
  refine jr_ishr hG dX6_has_2 ?_
  refine jr_iconst (v := (1 : Int32)) hG dX6_has_3 (by decide) ?_
  refine jr_iand hG dX6_has_4 ?_
  refine jr_iconst (v := (1 : Int32)) hG dX6_has_5 (by decide) ?_
  refine jr_icmp_ne hG 13 dX6_has_6 (by decide) (fun _ => ?_) (fun _ => ?_)
  · refine jr_iconst (v := (0 : Int32)) hG dX6_has_13 (by decide) ?_
    exact jr_zret hG hr hk (by decide) dX6_has_14
  · refine jr_iconst (v := (1 : Int32)) hG dX6_has_9 (by decide) ?_
    refine jr_goto hG 14 dX6_has_10 (by decide) ?_
    exact jr_zret hG hr hk (by decide) dX6_has_14
-- TonguesDealtModel.bits(I)I
abbrev rm_X6_bits : Room := { frames := 0, cells := 0, slots := 0, locals := 0 }
theorem ci_X6_bits : CIx yX6_bits cX6_bits 3 (some .int) 1 := ⟨wd_975, wd_77, by decide +kernel⟩
def f_X6_bits_4 (N : Nat)  : Nat → Int32 → Int32 → Mm → Option (Int32 × Mm)
  | 0 => fun _ _ _ => none
  | n + 1 => fun v1 v2 σ => if v2 = 0 then (some (v1, σ)) else (lt (v2 &&& (v2 - (1 : Int32))) (fun x1 => f_X6_bits_4 N n (v1 + (1 : Int32)) x1 (σ)))
set_option maxRecDepth 20000 in
theorem w_X6_bits_4 {p : Program} {l : Launch} {e : Env} {s : State} {m : MethodId} {args : Array Value} {below : List Frame} {meth : Method} {c : Code} {E : XE} (N : Nat) (hG : GG E NT 3 RX6 cX6_bits p s m args c) (hr : meth.sig.returnType = (some .int)) (hk : meth.locks = false)  : ∀ (n : Nat) (v1 : Int32) (v2 : Int32)  (σ : Mm), JR E NT 3 p l e rm_X6_bits s m args below meth c 0 0 (fun r => MQ below (xQi E (NT + 0) r) args s 0 0 (xA E)) 4 [(1, .int v1), (2, .int v2)] [] σ (f_X6_bits_4 N n v1 v2 σ) := by
  intro n
  induction n with
  | zero => intro v1 v2 σ r hX; cases hX
  | succ n ih =>
    intro v1 v2 σ
    show JR E NT 3 p l e rm_X6_bits s m args below meth c 0 0 (fun r => MQ below (xQi E (NT + 0) r) args s 0 0 (xA E)) 4 [(1, .int v1), (2, .int v2)] [] σ (if v2 = 0 then (some (v1, σ)) else (lt (v2 &&& (v2 - (1 : Int32))) (fun x1 => f_X6_bits_4 N n (v1 + (1 : Int32)) x1 (σ))))
    refine jr_iload_n hG 1 dX6_bits_4 rfl rfl ?_
    refine jr_if_eq hG 20 dX6_bits_5 (by decide) (fun _ => ?_) (fun _ => ?_)
    · refine jr_iload_n hG 0 dX6_bits_20 rfl rfl ?_
      exact jr_iret hG hr hk dX6_bits_21
    · refine jr_iinc (v := v1 + (1 : Int32)) (lv' := [(1, .int (v1 + (1 : Int32))), (2, .int v2)]) hG 0 dX6_bits_8 rfl rfl (by decide) rfl ?_
      refine jr_iload_n hG 1 dX6_bits_11 rfl rfl ?_
      refine jr_iload_n hG 1 dX6_bits_12 rfl rfl ?_
      refine jr_iconst (v := (1 : Int32)) hG dX6_bits_13 (by decide) ?_
      refine jr_isub hG dX6_bits_14 ?_
      refine jr_iand hG dX6_bits_15 ?_
      refine jr_leti (fun x1 _ => ?_)
      refine jr_istore_n (lv' := [(2, .int x1), (1, .int (v1 + (1 : Int32)))]) hG dX6_bits_16 rfl (by decide) rfl ?_
      refine jr_goto hG 4 dX6_bits_17 (by decide) ?_
      refine jr_sub (lv' := [(1, .int (v1 + (1 : Int32))), (2, .int x1)]) [1, 0] rfl ?_
      exact ih (v1 + (1 : Int32)) x1 (σ)
def f_X6_bits (N : Nat) (v0 : Int32) (σ : Mm) : Option (Int32 × Mm) := f_X6_bits_4 N N (0 : Int32) v0 (σ)
set_option maxRecDepth 20000 in
theorem c_X6_bits (l : Launch) (E : XE) (N : Nat) (v0 : Int32) (σ : Mm) : ∀ r0, f_X6_bits N v0 σ = some r0 → Met l yX6_bits [Cond.code yX6_bits cX6_bits 3 (some .int)] rm_X6_bits (xPc E (NT + 0) σ [.int v0]) (xQi E (NT + 0) r0) 0 0 (xA E) := by
  refine met_of (N0 := NT) (by decide +kernel) (Nat.le_of_ble_eq_true rfl) ?_
  intro p e s m args below meth c hG hr hk _
  show JR E NT 3 p l e rm_X6_bits s m args below meth c 0 0 (fun r => MQ below (xQi E (NT + 0) r) args s 0 0 (xA E)) 0 [(0, .int v0)] [] σ (f_X6_bits_4 N N (0 : Int32) v0 (σ))
  refine jr_iconst (v := (0 : Int32)) hG dX6_bits_0 (by decide) ?_
  refine jr_istore_n (lv' := [(1, .int (0 : Int32)), (0, .int v0)]) hG dX6_bits_1 rfl (by decide) rfl ?_
  refine jr_iload_n hG 1 dX6_bits_2 rfl rfl ?_
  refine jr_istore_n (lv' := [(2, .int v0), (1, .int (0 : Int32)), (0, .int v0)]) hG dX6_bits_3 rfl (by decide) rfl ?_
  refine jr_sub (lv' := [(1, .int (0 : Int32)), (2, .int v0)]) [1, 0] rfl ?_
  exact w_X6_bits_4 N hG hr hk N (0 : Int32) v0 (σ)
-- TonguesDealtModel.meets(I)I
abbrev rm_X6_meets : Room := { frames := 0, cells := 0, slots := 0, locals := 0 }
theorem ci_X6_meets : CIx yX6_meets cX6_meets 2 (some .int) 1 := ⟨wd_872, wd_77, by decide +kernel⟩
def f_X6_meets (N : Nat) (a0 : Nat) (v1 : Int32) (σ : Mm) : Option (Int32 × Mm) := if okO 6 a0 then (lt (si σ a0 0 v1) (fun t1 => bR (gr t1 a0 1) (okA 0) (fun o2 => if inb v1 (arL o2) then (if inb v1 (arL o2) then (lt (si t1 o2 (ix v1) ((gi t1 o2 (ix v1)) + (1 : Int32))) (fun t3 => some ((-3 : Int32), t3))) else none) else none))) else none
set_option maxRecDepth 20000 in
theorem c_X6_meets (l : Launch) (E : XE) (N : Nat) (a0 : Nat) (v1 : Int32) (σ : Mm) : ∀ r0, f_X6_meets N a0 v1 σ = some r0 → Met l yX6_meets [Cond.code yX6_meets cX6_meets 2 (some .int)] rm_X6_meets (xPc E (NT + 0) σ [.ref (E.B + a0), .int v1]) (xQi E (NT + 0) r0) 0 0 (xA E) := by
  refine met_of (N0 := NT) (by decide +kernel) (Nat.le_of_ble_eq_true rfl) ?_
  intro p e s m args below meth c hG hr hk _
  show JR E NT 2 p l e rm_X6_meets s m args below meth c 0 0 (fun r => MQ below (xQi E (NT + 0) r) args s 0 0 (xA E)) 0 [(0, .ref (E.B + a0)), (1, .int v1)] [] σ (if okO 6 a0 then (lt (si σ a0 0 v1) (fun t1 => bR (gr t1 a0 1) (okA 0) (fun o2 => if inb v1 (arL o2) then (if inb v1 (arL o2) then (lt (si t1 o2 (ix v1) ((gi t1 o2 (ix v1)) + (1 : Int32))) (fun t3 => some ((-3 : Int32), t3))) else none) else none))) else none)
  refine jr_guard (fun ha0 => ?_)
  refine jr_aload_n hG 0 dX6_meets_0 rfl rfl ?_
  refine jr_iload_n hG 1 dX6_meets_1 rfl rfl ?_
  refine jr_putI hG fi_RX6_82 rfl rfl (okO_s ha0) (okO_l ha0) dX6_meets_2 ?_
  refine jr_lets (fun t1 _ => ?_)
  refine jr_aload_n hG 0 dX6_meets_5 rfl rfl ?_
  refine jr_getR hG fi_RX6_7 rfl (okO_s ha0) (okO_l ha0) dX6_meets_6 (fun o2 ho2 => ?_)
  refine jr_iload_n hG 1 dX6_meets_9 rfl rfl ?_
  refine jr_dup2 hG dX6_meets_10 rfl rfl ?_
  refine jr_iald hG (okA_s (by decide) ho2) (okA_l ho2) dX6_meets_11 ?_
  refine jr_iconst (v := (1 : Int32)) hG dX6_meets_12 (by decide) ?_
  refine jr_iadd hG dX6_meets_13 ?_
  refine jr_iast hG (okA_s (by decide) ho2) (okA_l ho2) dX6_meets_14 ?_
  refine jr_lets (fun t3 _ => ?_)
  refine jr_bipush (v := (-3 : Int32)) hG dX6_meets_15 (by decide) ?_
  exact jr_iret hG hr hk dX6_meets_17
-- TonguesDealtModel.finding()I
abbrev rm_X6_finding : Room := { frames := 0, cells := 0, slots := 0, locals := 0 }
theorem ci_X6_finding : CIx yX6_finding cX6_finding 1 (some .int) 0 := ⟨wd_842, wd_77, by decide +kernel⟩
def f_X6_finding (N : Nat) (a0 : Nat) (σ : Mm) : Option (Int32 × Mm) := if okO 6 a0 then (some (gi σ a0 0, σ)) else none
set_option maxRecDepth 20000 in
theorem c_X6_finding (l : Launch) (E : XE) (N : Nat) (a0 : Nat) (σ : Mm) : ∀ r0, f_X6_finding N a0 σ = some r0 → Met l yX6_finding [Cond.code yX6_finding cX6_finding 1 (some .int)] rm_X6_finding (xPc E (NT + 0) σ [.ref (E.B + a0)]) (xQi E (NT + 0) r0) 0 0 (xA E) := by
  refine met_of (N0 := NT) (by decide +kernel) (Nat.le_of_ble_eq_true rfl) ?_
  intro p e s m args below meth c hG hr hk _
  show JR E NT 1 p l e rm_X6_finding s m args below meth c 0 0 (fun r => MQ below (xQi E (NT + 0) r) args s 0 0 (xA E)) 0 [(0, .ref (E.B + a0))] [] σ (if okO 6 a0 then (some (gi σ a0 0, σ)) else none)
  refine jr_guard (fun ha0 => ?_)
  refine jr_aload_n hG 0 dX6_finding_0 rfl rfl ?_
  refine jr_getI hG fi_RX6_82 rfl (okO_s ha0) (okO_l ha0) dX6_finding_1 ?_
  exact jr_iret hG hr hk dX6_finding_4
-- TonguesDealtModel.findings(I)I
abbrev rm_X6_findings : Room := { frames := 1, cells := 0, slots := 0, locals := 22 }
theorem ci_X6_findings : CIx yX6_findings cX6_findings 2 (some .int) 1 := ⟨wd_846, wd_77, by decide +kernel⟩
def f_X6_findings (N : Nat) (a0 : Nat) (v1 : Int32) (σ : Mm) : Option (Int32 × Mm) := if okO 6 a0 then (bI (f_X6_in N v1 (1 : Int32) (5 : Int32) (σ)) (fun r2 t1 => if r2 = 0 then (some ((-1 : Int32), t1)) else (bR (gr t1 a0 1) (okA 0) (fun o3 => if inb v1 (arL o3) then (some (gi t1 o3 (ix v1), t1)) else none)))) else none
set_option maxRecDepth 20000 in
theorem c_X6_findings (l : Launch) (E : XE) (N : Nat) (a0 : Nat) (v1 : Int32) (σ : Mm) : ∀ r0, f_X6_findings N a0 v1 σ = some r0 → Met l yX6_findings [Cond.code yX6_findings cX6_findings 2 (some .int)] rm_X6_findings (xPc E (NT + 0) σ [.ref (E.B + a0), .int v1]) (xQi E (NT + 0) r0) 0 0 (xA E) := by
  refine met_of (N0 := NT) (by decide +kernel) (Nat.le_of_ble_eq_true rfl) ?_
  intro p e s m args below meth c hG hr hk _
  show JR E NT 2 p l e rm_X6_findings s m args below meth c 0 0 (fun r => MQ below (xQi E (NT + 0) r) args s 0 0 (xA E)) 0 [(0, .ref (E.B + a0)), (1, .int v1)] [] σ (if okO 6 a0 then (bI (f_X6_in N v1 (1 : Int32) (5 : Int32) (σ)) (fun r2 t1 => if r2 = 0 then (some ((-1 : Int32), t1)) else (bR (gr t1 a0 1) (okA 0) (fun o3 => if inb v1 (arL o3) then (some (gi t1 o3 (ix v1), t1)) else none)))) else none)
  refine jr_guard (fun ha0 => ?_)
  refine jr_iload_n hG 1 dX6_findings_0 rfl rfl ?_
  refine jr_iconst (v := (1 : Int32)) hG dX6_findings_1 (by decide) ?_
  refine jr_iconst (v := (5 : Int32)) hG dX6_findings_2 (by decide) ?_
  refine jr_callSi (As := [.int v1, .int (1 : Int32), .int (5 : Int32)]) hG (c_X6_in l E N v1 (1 : Int32) (5 : Int32) (σ)) ci_X6_in wd_847 wd_848 ⟨rfl, rfl, Nat.le_of_ble_eq_true rfl, Nat.le_of_ble_eq_true rfl⟩ rfl rfl (Nat.le_of_ble_eq_true rfl) dX6_findings_3 ⟨Nat.le_refl _, Nat.le_refl _⟩ (fun r2 t1 => ?_)
  refine jr_if_eq hG 18 dX6_findings_6 (by decide) (fun _ => ?_) (fun _ => ?_)
  · refine jr_iconst (v := (-1 : Int32)) hG dX6_findings_18 (by decide) ?_
    exact jr_iret hG hr hk dX6_findings_19
  · refine jr_aload_n hG 0 dX6_findings_9 rfl rfl ?_
    refine jr_getR hG fi_RX6_7 rfl (okO_s ha0) (okO_l ha0) dX6_findings_10 (fun o3 ho3 => ?_)
    refine jr_iload_n hG 1 dX6_findings_13 rfl rfl ?_
    refine jr_iald hG (okA_s (by decide) ho3) (okA_l ho3) dX6_findings_14 ?_
    refine jr_goto hG 19 dX6_findings_15 (by decide) ?_
    exact jr_iret hG hr hk dX6_findings_19
-- TonguesDealtModel.gives(II)I
abbrev rm_X6_gives : Room := { frames := 0, cells := 0, slots := 0, locals := 0 }
theorem ci_X6_gives : CIx yX6_gives cX6_gives 3 (some .int) 2 := ⟨wd_884, wd_77, by decide +kernel⟩
def f_X6_gives (N : Nat) (a0 : Nat) (v1 : Int32) (v2 : Int32) (σ : Mm) : Option (Int32 × Mm) := if okO 6 a0 then (lt (si σ a0 2 v1) (fun t1 => some (v2, t1))) else none
set_option maxRecDepth 20000 in
theorem c_X6_gives (l : Launch) (E : XE) (N : Nat) (a0 : Nat) (v1 : Int32) (v2 : Int32) (σ : Mm) : ∀ r0, f_X6_gives N a0 v1 v2 σ = some r0 → Met l yX6_gives [Cond.code yX6_gives cX6_gives 3 (some .int)] rm_X6_gives (xPc E (NT + 0) σ [.ref (E.B + a0), .int v1, .int v2]) (xQi E (NT + 0) r0) 0 0 (xA E) := by
  refine met_of (N0 := NT) (by decide +kernel) (Nat.le_of_ble_eq_true rfl) ?_
  intro p e s m args below meth c hG hr hk _
  show JR E NT 3 p l e rm_X6_gives s m args below meth c 0 0 (fun r => MQ below (xQi E (NT + 0) r) args s 0 0 (xA E)) 0 [(0, .ref (E.B + a0)), (1, .int v1), (2, .int v2)] [] σ (if okO 6 a0 then (lt (si σ a0 2 v1) (fun t1 => some (v2, t1))) else none)
  refine jr_guard (fun ha0 => ?_)
  refine jr_aload_n hG 0 dX6_gives_0 rfl rfl ?_
  refine jr_iload_n hG 1 dX6_gives_1 rfl rfl ?_
  refine jr_putI hG fi_RX6_90 rfl rfl (okO_s ha0) (okO_l ha0) dX6_gives_2 ?_
  refine jr_lets (fun t1 _ => ?_)
  refine jr_iload_n hG 2 dX6_gives_5 rfl rfl ?_
  exact jr_iret hG hr hk dX6_gives_6
