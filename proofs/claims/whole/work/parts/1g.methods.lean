-- TonguesDealtModel.isPerson(I)Z
abbrev rm_X6_isPerson : Room := { frames := 1, cells := 0, slots := 0, locals := 22 }
theorem ci_X6_isPerson : CIx yX6_isPerson cX6_isPerson 2 (some .boolean) 1 := ⟨wd_953, wd_77, by decide +kernel⟩
def f_X6_isPerson (N : Nat) (a0 : Nat) (v1 : Int32) (σ : Mm) : Option (Int32 × Mm) := if okO 6 a0 then (bI (f_X6_in N v1 (0 : Int32) ((gi σ a0 10) - (1 : Int32)) (σ)) (fun r2 t1 => if bz r2 then some (r2, t1) else none)) else none
set_option maxRecDepth 20000 in
theorem c_X6_isPerson (l : Launch) (E : XE) (N : Nat) (a0 : Nat) (v1 : Int32) (σ : Mm) : ∀ r0, f_X6_isPerson N a0 v1 σ = some r0 → Met l yX6_isPerson [Cond.code yX6_isPerson cX6_isPerson 2 (some .boolean)] rm_X6_isPerson (xPc E (NT + 0) σ [.ref (E.B + a0), .int v1]) (xQi E (NT + 0) r0) 0 0 (xA E) := by
  refine met_of (N0 := NT) (by decide +kernel) (Nat.le_of_ble_eq_true rfl) ?_
  intro p e s m args below meth c hG hr hk _
  show JR E NT 2 p l e rm_X6_isPerson s m args below meth c 0 0 (fun r => MQ below (xQi E (NT + 0) r) args s 0 0 (xA E)) 0 [(0, .ref (E.B + a0)), (1, .int v1)] [] σ (if okO 6 a0 then (bI (f_X6_in N v1 (0 : Int32) ((gi σ a0 10) - (1 : Int32)) (σ)) (fun r2 t1 => if bz r2 then some (r2, t1) else none)) else none)
  refine jr_guard (fun ha0 => ?_)
  refine jr_iload_n hG 1 dX6_isPerson_0 rfl rfl ?_
  refine jr_iconst (v := (0 : Int32)) hG dX6_isPerson_1 (by decide) ?_
  refine jr_aload_n hG 0 dX6_isPerson_2 rfl rfl ?_
  refine jr_getI hG fi_RX6_147 rfl (okO_s ha0) (okO_l ha0) dX6_isPerson_3 ?_
  refine jr_iconst (v := (1 : Int32)) hG dX6_isPerson_6 (by decide) ?_
  refine jr_isub hG dX6_isPerson_7 ?_
  refine jr_callSi (As := [.int v1, .int (0 : Int32), .int ((gi σ a0 10) - (1 : Int32))]) hG (c_X6_in l E N v1 (0 : Int32) ((gi σ a0 10) - (1 : Int32)) (σ)) ci_X6_in wd_847 wd_848 ⟨rfl, rfl, Nat.le_of_ble_eq_true rfl, Nat.le_of_ble_eq_true rfl⟩ rfl rfl (Nat.le_of_ble_eq_true rfl) dX6_isPerson_8 ⟨Nat.le_refl _, Nat.le_refl _⟩ (fun r2 t1 => ?_)
  refine jr_guard (fun hz => ?_)
  exact jr_zret hG hr hk hz dX6_isPerson_11
-- TonguesDealtModel.isDealtAs(I)Z
abbrev rm_X6_isDealtAs : Room := { frames := 0, cells := 0, slots := 0, locals := 0 }
theorem ci_X6_isDealtAs : CIx yX6_isDealtAs cX6_isDealtAs 2 (some .boolean) 1 := ⟨wd_1103, wd_77, by decide +kernel⟩
def f_X6_isDealtAs (N : Nat) (a0 : Nat) (v1 : Int32) (σ : Mm) : Option (Int32 × Mm) := if okO 6 a0 then (bR (gr σ a0 12) (okA 0) (fun o1 => if inb v1 (arL o1) then (if ((gi σ o1 (ix v1)) &&& (((1 : Int32) <<< (v1 &&& 31)) - (1 : Int32))) = 0 then (some ((0 : Int32), σ)) else (some ((1 : Int32), σ))) else none)) else none
set_option maxRecDepth 20000 in
theorem c_X6_isDealtAs (l : Launch) (E : XE) (N : Nat) (a0 : Nat) (v1 : Int32) (σ : Mm) : ∀ r0, f_X6_isDealtAs N a0 v1 σ = some r0 → Met l yX6_isDealtAs [Cond.code yX6_isDealtAs cX6_isDealtAs 2 (some .boolean)] rm_X6_isDealtAs (xPc E (NT + 0) σ [.ref (E.B + a0), .int v1]) (xQi E (NT + 0) r0) 0 0 (xA E) := by
  refine met_of (N0 := NT) (by decide +kernel) (Nat.le_of_ble_eq_true rfl) ?_
  intro p e s m args below meth c hG hr hk _
  show JR E NT 2 p l e rm_X6_isDealtAs s m args below meth c 0 0 (fun r => MQ below (xQi E (NT + 0) r) args s 0 0 (xA E)) 0 [(0, .ref (E.B + a0)), (1, .int v1)] [] σ (if okO 6 a0 then (bR (gr σ a0 12) (okA 0) (fun o1 => if inb v1 (arL o1) then (if ((gi σ o1 (ix v1)) &&& (((1 : Int32) <<< (v1 &&& 31)) - (1 : Int32))) = 0 then (some ((0 : Int32), σ)) else (some ((1 : Int32), σ))) else none)) else none)
  refine jr_guard (fun ha0 => ?_)
  refine jr_aload_n hG 0 dX6_isDealtAs_0 rfl rfl ?_
  refine jr_getR hG fi_RX6_36 rfl (okO_s ha0) (okO_l ha0) dX6_isDealtAs_1 (fun o1 ho1 => ?_)
  refine jr_iload_n hG 1 dX6_isDealtAs_4 rfl rfl ?_
  refine jr_iald hG (okA_s (by decide) ho1) (okA_l ho1) dX6_isDealtAs_5 ?_
  refine jr_iconst (v := (1 : Int32)) hG dX6_isDealtAs_6 (by decide) ?_
  refine jr_iload_n hG 1 dX6_isDealtAs_7 rfl rfl ?_
  refine jr_ishl hG dX6_isDealtAs_8 ?_
  refine jr_iconst (v := (1 : Int32)) hG dX6_isDealtAs_9 (by decide) ?_
  refine jr_isub hG dX6_isDealtAs_10 ?_
  refine jr_iand hG dX6_isDealtAs_11 ?_
  refine jr_if_eq hG 19 dX6_isDealtAs_12 (by decide) (fun _ => ?_) (fun _ => ?_)
  · refine jr_iconst (v := (0 : Int32)) hG dX6_isDealtAs_19 (by decide) ?_
    exact jr_zret hG hr hk (by decide) dX6_isDealtAs_20
  · refine jr_iconst (v := (1 : Int32)) hG dX6_isDealtAs_15 (by decide) ?_
    refine jr_goto hG 20 dX6_isDealtAs_16 (by decide) ?_
    exact jr_zret hG hr hk (by decide) dX6_isDealtAs_20
-- TonguesDealtModel.isLearner(I)Z
abbrev rm_X6_isLearner : Room := { frames := 0, cells := 0, slots := 0, locals := 0 }
theorem ci_X6_isLearner : CIx yX6_isLearner cX6_isLearner 1 (some .boolean) 1 := ⟨wd_968, wd_77, by decide +kernel⟩
def f_X6_isLearner_10 (N : Nat)   (σ : Mm) : Option (Int32 × Mm) := some ((1 : Int32), σ)
set_option maxRecDepth 20000 in
theorem w_X6_isLearner_10 {p : Program} {l : Launch} {e : Env} {s : State} {m : MethodId} {args : Array Value} {below : List Frame} {meth : Method} {c : Code} {E : XE} (N : Nat) (hG : GG E NT 1 RX6 cX6_isLearner p s m args c) (hr : meth.sig.returnType = (some .boolean)) (hk : meth.locks = false)    (σ : Mm) : JR E NT 1 p l e rm_X6_isLearner s m args below meth c 0 0 (fun r => MQ below (xQi E (NT + 0) r) args s 0 0 (xA E)) 10 [] [] σ (f_X6_isLearner_10 N σ) := by
  show JR E NT 1 p l e rm_X6_isLearner s m args below meth c 0 0 (fun r => MQ below (xQi E (NT + 0) r) args s 0 0 (xA E)) 10 [] [] σ (some ((1 : Int32), σ))
  refine jr_iconst (v := (1 : Int32)) hG dX6_isLearner_10 (by decide) ?_
  refine jr_goto hG 15 dX6_isLearner_11 (by decide) ?_
  exact jr_zret hG hr hk (by decide) dX6_isLearner_15
def f_X6_isLearner (N : Nat) (v0 : Int32) (σ : Mm) : Option (Int32 × Mm) := if v0 = (1 : Int32) then (f_X6_isLearner_10 N (σ)) else (if v0 = (3 : Int32) then (f_X6_isLearner_10 N (σ)) else (some ((0 : Int32), σ)))
set_option maxRecDepth 20000 in
theorem c_X6_isLearner (l : Launch) (E : XE) (N : Nat) (v0 : Int32) (σ : Mm) : ∀ r0, f_X6_isLearner N v0 σ = some r0 → Met l yX6_isLearner [Cond.code yX6_isLearner cX6_isLearner 1 (some .boolean)] rm_X6_isLearner (xPc E (NT + 0) σ [.int v0]) (xQi E (NT + 0) r0) 0 0 (xA E) := by
  refine met_of (N0 := NT) (by decide +kernel) (Nat.le_of_ble_eq_true rfl) ?_
  intro p e s m args below meth c hG hr hk _
  show JR E NT 1 p l e rm_X6_isLearner s m args below meth c 0 0 (fun r => MQ below (xQi E (NT + 0) r) args s 0 0 (xA E)) 0 [(0, .int v0)] [] σ (if v0 = (1 : Int32) then (f_X6_isLearner_10 N (σ)) else (if v0 = (3 : Int32) then (f_X6_isLearner_10 N (σ)) else (some ((0 : Int32), σ))))
  refine jr_iload_n hG 0 dX6_isLearner_0 rfl rfl ?_
  refine jr_iconst (v := (1 : Int32)) hG dX6_isLearner_1 (by decide) ?_
  refine jr_icmp_eq hG 10 dX6_isLearner_2 (by decide) (fun _ => ?_) (fun _ => ?_)
  · refine jr_sub (lv' := []) [] rfl ?_
    exact w_X6_isLearner_10 N hG hr hk (σ)
  · refine jr_iload_n hG 0 dX6_isLearner_5 rfl rfl ?_
    refine jr_iconst (v := (3 : Int32)) hG dX6_isLearner_6 (by decide) ?_
    refine jr_icmp_ne hG 14 dX6_isLearner_7 (by decide) (fun _ => ?_) (fun _ => ?_)
    · refine jr_iconst (v := (0 : Int32)) hG dX6_isLearner_14 (by decide) ?_
      exact jr_zret hG hr hk (by decide) dX6_isLearner_15
    · refine jr_sub (lv' := []) [] rfl ?_
      exact w_X6_isLearner_10 N hG hr hk (σ)
-- TonguesDealtModel.knows([IIZ)I
abbrev rm_X6_knows : Room := { frames := 1, cells := 0, slots := 0, locals := 20 }
theorem ci_X6_knows : CIx yX6_knows cX6_knows 5 (some .int) 3 := ⟨wd_965, wd_77, by decide +kernel⟩
def f_X6_knows_105 (N : Nat)  (s0 : Int32) (s1 : Int32) (σ : Mm) : Option (Int32 × Mm) := lt (s1 ||| s0) (fun x9 => some (x9, σ))
set_option maxRecDepth 20000 in
theorem w_X6_knows_105 {p : Program} {l : Launch} {e : Env} {s : State} {m : MethodId} {args : Array Value} {below : List Frame} {meth : Method} {c : Code} {E : XE} (N : Nat) (hG : GG E NT 5 RX6 cX6_knows p s m args c) (hr : meth.sig.returnType = (some .int)) (hk : meth.locks = false)  (s0 : Int32) (s1 : Int32)  (σ : Mm) : JR E NT 5 p l e rm_X6_knows s m args below meth c 0 0 (fun r => MQ below (xQi E (NT + 0) r) args s 0 0 (xA E)) 105 [] [.int s0, .int s1] σ (f_X6_knows_105 N s0 s1 σ) := by
  show JR E NT 5 p l e rm_X6_knows s m args below meth c 0 0 (fun r => MQ below (xQi E (NT + 0) r) args s 0 0 (xA E)) 105 [] [.int s0, .int s1] σ (lt (s1 ||| s0) (fun x9 => some (x9, σ)))
  refine jr_ior hG dX6_knows_105 ?_
  refine jr_leti (fun x9 _ => ?_)
  refine jr_istore (lv' := [(4, .int x9)]) hG dX6_knows_106 (by decide) rfl ?_
  refine jr_iload hG 0 dX6_knows_108 rfl ?_
  exact jr_iret hG hr hk dX6_knows_110
def f_X6_knows_69 (N : Nat)  (a0 : Nat) (a1 : Nat) (v2 : Int32) (s0 : Int32) (s1 : Int32) (σ : Mm) : Option (Int32 × Mm) := lt (s1 ||| s0) (fun x7 => bR (gr σ a0 11) (okA 0) (fun o8 => if inb v2 (arL o8) then (if (gi σ o8 (ix v2)) = (5 : Int32) then (if (gi σ a0 10) = 0 then none else if inb (((v2 + (gi σ a0 10)) - (1 : Int32)) - ((v2 + (gi σ a0 10)) - (1 : Int32)) / (gi σ a0 10) * (gi σ a0 10)) (arL a1) then (f_X6_knows_105 N ((1 : Int32) <<< ((gi σ a1 (ix (((v2 + (gi σ a0 10)) - (1 : Int32)) - ((v2 + (gi σ a0 10)) - (1 : Int32)) / (gi σ a0 10) * (gi σ a0 10)))) &&& 31)) x7 (σ)) else none) else (f_X6_knows_105 N (0 : Int32) x7 (σ))) else none))
set_option maxRecDepth 20000 in
theorem w_X6_knows_69 {p : Program} {l : Launch} {e : Env} {s : State} {m : MethodId} {args : Array Value} {below : List Frame} {meth : Method} {c : Code} {E : XE} (N : Nat) (hG : GG E NT 5 RX6 cX6_knows p s m args c) (hr : meth.sig.returnType = (some .int)) (hk : meth.locks = false)  (a0 : Nat) (a1 : Nat) (v2 : Int32) (s0 : Int32) (s1 : Int32) (ha0 : okO 6 a0 = true) (ha1 : okA 0 a1 = true) (σ : Mm) : JR E NT 5 p l e rm_X6_knows s m args below meth c 0 0 (fun r => MQ below (xQi E (NT + 0) r) args s 0 0 (xA E)) 69 [(0, .ref (E.B + a0)), (1, .ref (E.B + a1)), (2, .int v2)] [.int s0, .int s1] σ (f_X6_knows_69 N a0 a1 v2 s0 s1 σ) := by
  show JR E NT 5 p l e rm_X6_knows s m args below meth c 0 0 (fun r => MQ below (xQi E (NT + 0) r) args s 0 0 (xA E)) 69 [(0, .ref (E.B + a0)), (1, .ref (E.B + a1)), (2, .int v2)] [.int s0, .int s1] σ (lt (s1 ||| s0) (fun x7 => bR (gr σ a0 11) (okA 0) (fun o8 => if inb v2 (arL o8) then (if (gi σ o8 (ix v2)) = (5 : Int32) then (if (gi σ a0 10) = 0 then none else if inb (((v2 + (gi σ a0 10)) - (1 : Int32)) - ((v2 + (gi σ a0 10)) - (1 : Int32)) / (gi σ a0 10) * (gi σ a0 10)) (arL a1) then (f_X6_knows_105 N ((1 : Int32) <<< ((gi σ a1 (ix (((v2 + (gi σ a0 10)) - (1 : Int32)) - ((v2 + (gi σ a0 10)) - (1 : Int32)) / (gi σ a0 10) * (gi σ a0 10)))) &&& 31)) x7 (σ)) else none) else (f_X6_knows_105 N (0 : Int32) x7 (σ))) else none)))
  refine jr_ior hG dX6_knows_69 ?_
  refine jr_leti (fun x7 _ => ?_)
  refine jr_istore (lv' := [(4, .int x7), (0, .ref (E.B + a0)), (1, .ref (E.B + a1)), (2, .int v2)]) hG dX6_knows_70 (by decide) rfl ?_
  refine jr_iload hG 0 dX6_knows_72 rfl ?_
  refine jr_aload_n hG 1 dX6_knows_74 rfl rfl ?_
  refine jr_getR hG fi_RX6_33 rfl (okO_s ha0) (okO_l ha0) dX6_knows_75 (fun o8 ho8 => ?_)
  refine jr_iload_n hG 3 dX6_knows_78 rfl rfl ?_
  refine jr_iald hG (okA_s (by decide) ho8) (okA_l ho8) dX6_knows_79 ?_
  refine jr_iconst (v := (5 : Int32)) hG dX6_knows_80 (by decide) ?_
  refine jr_icmp_ne hG 104 dX6_knows_81 (by decide) (fun _ => ?_) (fun _ => ?_)
  · refine jr_iconst (v := (0 : Int32)) hG dX6_knows_104 (by decide) ?_
    refine jr_sub (lv' := []) [] rfl ?_
    exact w_X6_knows_105 N hG hr hk (0 : Int32) x7 (σ)
  · refine jr_iconst (v := (1 : Int32)) hG dX6_knows_84 (by decide) ?_
    refine jr_aload_n hG 2 dX6_knows_85 rfl rfl ?_
    refine jr_iload_n hG 3 dX6_knows_86 rfl rfl ?_
    refine jr_aload_n hG 1 dX6_knows_87 rfl rfl ?_
    refine jr_getI hG fi_RX6_147 rfl (okO_s ha0) (okO_l ha0) dX6_knows_88 ?_
    refine jr_iadd hG dX6_knows_91 ?_
    refine jr_iconst (v := (1 : Int32)) hG dX6_knows_92 (by decide) ?_
    refine jr_isub hG dX6_knows_93 ?_
    refine jr_aload_n hG 1 dX6_knows_94 rfl rfl ?_
    refine jr_getI hG fi_RX6_147 rfl (okO_s ha0) (okO_l ha0) dX6_knows_95 ?_
    refine jr_irem hG dX6_knows_98 ?_
    refine jr_iald hG (okA_s (by decide) ha1) (okA_l ha1) dX6_knows_99 ?_
    refine jr_ishl hG dX6_knows_100 ?_
    refine jr_goto hG 105 dX6_knows_101 (by decide) ?_
    refine jr_sub (lv' := []) [] rfl ?_
    exact w_X6_knows_105 N hG hr hk ((1 : Int32) <<< ((gi σ a1 (ix (((v2 + (gi σ a0 10)) - (1 : Int32)) - ((v2 + (gi σ a0 10)) - (1 : Int32)) / (gi σ a0 10) * (gi σ a0 10)))) &&& 31)) x7 (σ)
def f_X6_knows_41 (N : Nat)  (a0 : Nat) (a1 : Nat) (v2 : Int32) (s0 : Int32) (s1 : Int32) (σ : Mm) : Option (Int32 × Mm) := lt (s1 ||| s0) (fun x5 => bR (gr σ a0 11) (okA 0) (fun o6 => if inb v2 (arL o6) then (if (gi σ o6 (ix v2)) = (3 : Int32) then (if inb v2 (arL a1) then (f_X6_knows_69 N a0 a1 v2 ((1 : Int32) <<< ((((gi σ a1 (ix v2)) + (1 : Int32)) - ((gi σ a1 (ix v2)) + (1 : Int32)) / (4 : Int32) * (4 : Int32)) &&& 31)) x5 (σ)) else none) else (f_X6_knows_69 N a0 a1 v2 (0 : Int32) x5 (σ))) else none))
set_option maxRecDepth 20000 in
theorem w_X6_knows_41 {p : Program} {l : Launch} {e : Env} {s : State} {m : MethodId} {args : Array Value} {below : List Frame} {meth : Method} {c : Code} {E : XE} (N : Nat) (hG : GG E NT 5 RX6 cX6_knows p s m args c) (hr : meth.sig.returnType = (some .int)) (hk : meth.locks = false)  (a0 : Nat) (a1 : Nat) (v2 : Int32) (s0 : Int32) (s1 : Int32) (ha0 : okO 6 a0 = true) (ha1 : okA 0 a1 = true) (σ : Mm) : JR E NT 5 p l e rm_X6_knows s m args below meth c 0 0 (fun r => MQ below (xQi E (NT + 0) r) args s 0 0 (xA E)) 41 [(0, .ref (E.B + a0)), (1, .ref (E.B + a1)), (2, .int v2)] [.int s0, .int s1] σ (f_X6_knows_41 N a0 a1 v2 s0 s1 σ) := by
  show JR E NT 5 p l e rm_X6_knows s m args below meth c 0 0 (fun r => MQ below (xQi E (NT + 0) r) args s 0 0 (xA E)) 41 [(0, .ref (E.B + a0)), (1, .ref (E.B + a1)), (2, .int v2)] [.int s0, .int s1] σ (lt (s1 ||| s0) (fun x5 => bR (gr σ a0 11) (okA 0) (fun o6 => if inb v2 (arL o6) then (if (gi σ o6 (ix v2)) = (3 : Int32) then (if inb v2 (arL a1) then (f_X6_knows_69 N a0 a1 v2 ((1 : Int32) <<< ((((gi σ a1 (ix v2)) + (1 : Int32)) - ((gi σ a1 (ix v2)) + (1 : Int32)) / (4 : Int32) * (4 : Int32)) &&& 31)) x5 (σ)) else none) else (f_X6_knows_69 N a0 a1 v2 (0 : Int32) x5 (σ))) else none)))
  refine jr_ior hG dX6_knows_41 ?_
  refine jr_leti (fun x5 _ => ?_)
  refine jr_istore (lv' := [(4, .int x5), (0, .ref (E.B + a0)), (1, .ref (E.B + a1)), (2, .int v2)]) hG dX6_knows_42 (by decide) rfl ?_
  refine jr_iload hG 0 dX6_knows_44 rfl ?_
  refine jr_aload_n hG 1 dX6_knows_46 rfl rfl ?_
  refine jr_getR hG fi_RX6_33 rfl (okO_s ha0) (okO_l ha0) dX6_knows_47 (fun o6 ho6 => ?_)
  refine jr_iload_n hG 3 dX6_knows_50 rfl rfl ?_
  refine jr_iald hG (okA_s (by decide) ho6) (okA_l ho6) dX6_knows_51 ?_
  refine jr_iconst (v := (3 : Int32)) hG dX6_knows_52 (by decide) ?_
  refine jr_icmp_ne hG 68 dX6_knows_53 (by decide) (fun _ => ?_) (fun _ => ?_)
  · refine jr_iconst (v := (0 : Int32)) hG dX6_knows_68 (by decide) ?_
    refine jr_sub (lv' := [(0, .ref (E.B + a0)), (1, .ref (E.B + a1)), (2, .int v2)]) [1, 2, 3] rfl ?_
    exact w_X6_knows_69 N hG hr hk a0 a1 v2 (0 : Int32) x5 ha0 ha1 (σ)
  · refine jr_iconst (v := (1 : Int32)) hG dX6_knows_56 (by decide) ?_
    refine jr_aload_n hG 2 dX6_knows_57 rfl rfl ?_
    refine jr_iload_n hG 3 dX6_knows_58 rfl rfl ?_
    refine jr_iald hG (okA_s (by decide) ha1) (okA_l ha1) dX6_knows_59 ?_
    refine jr_iconst (v := (1 : Int32)) hG dX6_knows_60 (by decide) ?_
    refine jr_iadd hG dX6_knows_61 ?_
    refine jr_iconst (v := (4 : Int32)) hG dX6_knows_62 (by decide) ?_
    refine jr_iremc hG dX6_knows_63 (by decide) ?_
    refine jr_ishl hG dX6_knows_64 ?_
    refine jr_goto hG 69 dX6_knows_65 (by decide) ?_
    refine jr_sub (lv' := [(0, .ref (E.B + a0)), (1, .ref (E.B + a1)), (2, .int v2)]) [1, 2, 3] rfl ?_
    exact w_X6_knows_69 N hG hr hk a0 a1 v2 ((1 : Int32) <<< ((((gi σ a1 (ix v2)) + (1 : Int32)) - ((gi σ a1 (ix v2)) + (1 : Int32)) / (4 : Int32) * (4 : Int32)) &&& 31)) x5 ha0 ha1 (σ)
def f_X6_knows_40 (N : Nat)  (a0 : Nat) (a1 : Nat) (v2 : Int32) (s0 : Int32) (σ : Mm) : Option (Int32 × Mm) := f_X6_knows_41 N a0 a1 v2 (0 : Int32) s0 (σ)
set_option maxRecDepth 20000 in
theorem w_X6_knows_40 {p : Program} {l : Launch} {e : Env} {s : State} {m : MethodId} {args : Array Value} {below : List Frame} {meth : Method} {c : Code} {E : XE} (N : Nat) (hG : GG E NT 5 RX6 cX6_knows p s m args c) (hr : meth.sig.returnType = (some .int)) (hk : meth.locks = false)  (a0 : Nat) (a1 : Nat) (v2 : Int32) (s0 : Int32) (ha0 : okO 6 a0 = true) (ha1 : okA 0 a1 = true) (σ : Mm) : JR E NT 5 p l e rm_X6_knows s m args below meth c 0 0 (fun r => MQ below (xQi E (NT + 0) r) args s 0 0 (xA E)) 40 [(0, .ref (E.B + a0)), (1, .ref (E.B + a1)), (2, .int v2)] [.int s0] σ (f_X6_knows_40 N a0 a1 v2 s0 σ) := by
  show JR E NT 5 p l e rm_X6_knows s m args below meth c 0 0 (fun r => MQ below (xQi E (NT + 0) r) args s 0 0 (xA E)) 40 [(0, .ref (E.B + a0)), (1, .ref (E.B + a1)), (2, .int v2)] [.int s0] σ (f_X6_knows_41 N a0 a1 v2 (0 : Int32) s0 (σ))
  refine jr_iconst (v := (0 : Int32)) hG dX6_knows_40 (by decide) ?_
  exact w_X6_knows_41 N hG hr hk a0 a1 v2 (0 : Int32) s0 ha0 ha1 (σ)
def f_X6_knows (N : Nat) (a0 : Nat) (a1 : Nat) (v2 : Int32) (v3 : Int32) (σ : Mm) : Option (Int32 × Mm) := if okO 6 a0 then (if okA 0 a1 then (if inb v2 (arL a1) then (lt ((1 : Int32) <<< ((gi σ a1 (ix v2)) &&& 31)) (fun x1 => if v3 = 0 then (f_X6_knows_40 N a0 a1 v2 x1 (σ)) else (bR (gr σ a0 11) (okA 0) (fun o2 => if inb v2 (arL o2) then (bI (f_X6_isLearner N (gi σ o2 (ix v2)) (σ)) (fun r4 t3 => if r4 = 0 then (f_X6_knows_40 N a0 a1 v2 x1 t3) else (if (gi t3 a0 10) = 0 then none else if inb ((v2 + (1 : Int32)) - (v2 + (1 : Int32)) / (gi t3 a0 10) * (gi t3 a0 10)) (arL a1) then (f_X6_knows_41 N a0 a1 v2 ((1 : Int32) <<< ((gi t3 a1 (ix ((v2 + (1 : Int32)) - (v2 + (1 : Int32)) / (gi t3 a0 10) * (gi t3 a0 10)))) &&& 31)) x1 t3) else none))) else none)))) else none) else none) else none
set_option maxRecDepth 20000 in
theorem c_X6_knows (l : Launch) (E : XE) (N : Nat) (a0 : Nat) (a1 : Nat) (v2 : Int32) (v3 : Int32) (σ : Mm) : ∀ r0, f_X6_knows N a0 a1 v2 v3 σ = some r0 → Met l yX6_knows [Cond.code yX6_knows cX6_knows 5 (some .int)] rm_X6_knows (xPc E (NT + 0) σ [.ref (E.B + a0), .ref (E.B + a1), .int v2, .int v3]) (xQi E (NT + 0) r0) 0 0 (xA E) := by
  refine met_of (N0 := NT) (by decide +kernel) (Nat.le_of_ble_eq_true rfl) ?_
  intro p e s m args below meth c hG hr hk _
  show JR E NT 5 p l e rm_X6_knows s m args below meth c 0 0 (fun r => MQ below (xQi E (NT + 0) r) args s 0 0 (xA E)) 0 [(0, .ref (E.B + a0)), (1, .ref (E.B + a1)), (2, .int v2), (3, .int v3)] [] σ (if okO 6 a0 then (if okA 0 a1 then (if inb v2 (arL a1) then (lt ((1 : Int32) <<< ((gi σ a1 (ix v2)) &&& 31)) (fun x1 => if v3 = 0 then (f_X6_knows_40 N a0 a1 v2 x1 (σ)) else (bR (gr σ a0 11) (okA 0) (fun o2 => if inb v2 (arL o2) then (bI (f_X6_isLearner N (gi σ o2 (ix v2)) (σ)) (fun r4 t3 => if r4 = 0 then (f_X6_knows_40 N a0 a1 v2 x1 t3) else (if (gi t3 a0 10) = 0 then none else if inb ((v2 + (1 : Int32)) - (v2 + (1 : Int32)) / (gi t3 a0 10) * (gi t3 a0 10)) (arL a1) then (f_X6_knows_41 N a0 a1 v2 ((1 : Int32) <<< ((gi t3 a1 (ix ((v2 + (1 : Int32)) - (v2 + (1 : Int32)) / (gi t3 a0 10) * (gi t3 a0 10)))) &&& 31)) x1 t3) else none))) else none)))) else none) else none) else none)
  refine jr_guard (fun ha0 => ?_)
  refine jr_guard (fun ha1 => ?_)
  refine jr_iconst (v := (1 : Int32)) hG dX6_knows_0 (by decide) ?_
  refine jr_aload_n hG 1 dX6_knows_1 rfl rfl ?_
  refine jr_iload_n hG 2 dX6_knows_2 rfl rfl ?_
  refine jr_iald hG (okA_s (by decide) ha1) (okA_l ha1) dX6_knows_3 ?_
  refine jr_ishl hG dX6_knows_4 ?_
  refine jr_leti (fun x1 _ => ?_)
  refine jr_istore (lv' := [(4, .int x1), (0, .ref (E.B + a0)), (1, .ref (E.B + a1)), (2, .int v2), (3, .int v3)]) hG dX6_knows_5 (by decide) rfl ?_
  refine jr_iload hG 0 dX6_knows_7 rfl ?_
  refine jr_iload_n hG 4 dX6_knows_9 rfl rfl ?_
  refine jr_if_eq hG 40 dX6_knows_10 (by decide) (fun _ => ?_) (fun _ => ?_)
  · refine jr_sub (lv' := [(0, .ref (E.B + a0)), (1, .ref (E.B + a1)), (2, .int v2)]) [1, 2, 3] rfl ?_
    exact w_X6_knows_40 N hG hr hk a0 a1 v2 x1 ha0 ha1 (σ)
  · refine jr_aload_n hG 1 dX6_knows_13 rfl rfl ?_
    refine jr_getR hG fi_RX6_33 rfl (okO_s ha0) (okO_l ha0) dX6_knows_14 (fun o2 ho2 => ?_)
    refine jr_iload_n hG 3 dX6_knows_17 rfl rfl ?_
    refine jr_iald hG (okA_s (by decide) ho2) (okA_l ho2) dX6_knows_18 ?_
    refine jr_callSi (As := [.int (gi σ o2 (ix v2))]) hG (c_X6_isLearner l E N (gi σ o2 (ix v2)) (σ)) ci_X6_isLearner wd_966 wd_967 ⟨rfl, rfl, Nat.le_of_ble_eq_true rfl, Nat.le_of_ble_eq_true rfl⟩ rfl rfl (Nat.le_of_ble_eq_true rfl) dX6_knows_19 ⟨Nat.le_refl _, Nat.le_refl _⟩ (fun r4 t3 => ?_)
    refine jr_if_eq hG 40 dX6_knows_22 (by decide) (fun _ => ?_) (fun _ => ?_)
    · refine jr_sub (lv' := [(0, .ref (E.B + a0)), (1, .ref (E.B + a1)), (2, .int v2)]) [1, 2, 3] rfl ?_
      exact w_X6_knows_40 N hG hr hk a0 a1 v2 x1 ha0 ha1 t3
    · refine jr_iconst (v := (1 : Int32)) hG dX6_knows_25 (by decide) ?_
      refine jr_aload_n hG 2 dX6_knows_26 rfl rfl ?_
      refine jr_iload_n hG 3 dX6_knows_27 rfl rfl ?_
      refine jr_iconst (v := (1 : Int32)) hG dX6_knows_28 (by decide) ?_
      refine jr_iadd hG dX6_knows_29 ?_
      refine jr_aload_n hG 1 dX6_knows_30 rfl rfl ?_
      refine jr_getI hG fi_RX6_147 rfl (okO_s ha0) (okO_l ha0) dX6_knows_31 ?_
      refine jr_irem hG dX6_knows_34 ?_
      refine jr_iald hG (okA_s (by decide) ha1) (okA_l ha1) dX6_knows_35 ?_
      refine jr_ishl hG dX6_knows_36 ?_
      refine jr_goto hG 41 dX6_knows_37 (by decide) ?_
      refine jr_sub (lv' := [(0, .ref (E.B + a0)), (1, .ref (E.B + a1)), (2, .int v2)]) [1, 2, 3] rfl ?_
      exact w_X6_knows_41 N hG hr hk a0 a1 v2 ((1 : Int32) <<< ((gi t3 a1 (ix ((v2 + (1 : Int32)) - (v2 + (1 : Int32)) / (gi t3 a0 10) * (gi t3 a0 10)))) &&& 31)) x1 ha0 ha1 t3
-- TonguesDealtModel.knowsIn([II)I
abbrev rm_X6_knowsIn : Room := { frames := 2, cells := 0, slots := 0, locals := 44 }
theorem ci_X6_knowsIn : CIx yX6_knowsIn cX6_knowsIn 3 (some .int) 2 := ⟨wd_961, wd_77, by decide +kernel⟩
def f_X6_knowsIn_16 (N : Nat)  (s0 : Int32) (s1 : Int32) (b2 : Nat) (b3 : Nat) (σ : Mm) : Option (Int32 × Mm) := bI (f_X6_knows N b3 b2 s1 s0 (σ)) (fun r2 t1 => some (r2, t1))
set_option maxRecDepth 20000 in
theorem w_X6_knowsIn_16 {p : Program} {l : Launch} {e : Env} {s : State} {m : MethodId} {args : Array Value} {below : List Frame} {meth : Method} {c : Code} {E : XE} (N : Nat) (hG : GG E NT 3 RX6 cX6_knowsIn p s m args c) (hr : meth.sig.returnType = (some .int)) (hk : meth.locks = false)  (s0 : Int32) (s1 : Int32) (b2 : Nat) (b3 : Nat) (hb2 : okA 0 b2 = true) (hb3 : okO 6 b3 = true) (σ : Mm) : JR E NT 3 p l e rm_X6_knowsIn s m args below meth c 0 0 (fun r => MQ below (xQi E (NT + 0) r) args s 0 0 (xA E)) 16 [] [.int s0, .int s1, .ref (E.B + b2), .ref (E.B + b3)] σ (f_X6_knowsIn_16 N s0 s1 b2 b3 σ) := by
  show JR E NT 3 p l e rm_X6_knowsIn s m args below meth c 0 0 (fun r => MQ below (xQi E (NT + 0) r) args s 0 0 (xA E)) 16 [] [.int s0, .int s1, .ref (E.B + b2), .ref (E.B + b3)] σ (bI (f_X6_knows N b3 b2 s1 s0 (σ)) (fun r2 t1 => some (r2, t1)))
  refine jr_callVi (As := [.ref (E.B + b2), .int s1, .int s0]) hG (c_X6_knows l E N b3 b2 s1 s0 (σ)) ci_X6_knows wd_962 ⟨wd_964, wd_32⟩ cl_6 (okO_s hb3) (okO_l hb3) ⟨rfl, rfl, Nat.le_of_ble_eq_true rfl, Nat.le_of_ble_eq_true rfl⟩ rfl rfl (Nat.le_of_ble_eq_true rfl) dX6_knowsIn_16 ⟨Nat.le_refl _, Nat.le_refl _⟩ (fun r2 t1 => ?_)
  exact jr_iret hG hr hk dX6_knowsIn_19
def f_X6_knowsIn (N : Nat) (a0 : Nat) (a1 : Nat) (v2 : Int32) (σ : Mm) : Option (Int32 × Mm) := if okO 6 a0 then (if okA 0 a1 then (if inb (13 : Int32) (arL a1) then (if (gi σ a1 (ix (13 : Int32))) = (1 : Int32) then (f_X6_knowsIn_16 N (1 : Int32) v2 a1 a0 (σ)) else (f_X6_knowsIn_16 N (0 : Int32) v2 a1 a0 (σ))) else none) else none) else none
set_option maxRecDepth 20000 in
theorem c_X6_knowsIn (l : Launch) (E : XE) (N : Nat) (a0 : Nat) (a1 : Nat) (v2 : Int32) (σ : Mm) : ∀ r0, f_X6_knowsIn N a0 a1 v2 σ = some r0 → Met l yX6_knowsIn [Cond.code yX6_knowsIn cX6_knowsIn 3 (some .int)] rm_X6_knowsIn (xPc E (NT + 0) σ [.ref (E.B + a0), .ref (E.B + a1), .int v2]) (xQi E (NT + 0) r0) 0 0 (xA E) := by
  refine met_of (N0 := NT) (by decide +kernel) (Nat.le_of_ble_eq_true rfl) ?_
  intro p e s m args below meth c hG hr hk _
  show JR E NT 3 p l e rm_X6_knowsIn s m args below meth c 0 0 (fun r => MQ below (xQi E (NT + 0) r) args s 0 0 (xA E)) 0 [(0, .ref (E.B + a0)), (1, .ref (E.B + a1)), (2, .int v2)] [] σ (if okO 6 a0 then (if okA 0 a1 then (if inb (13 : Int32) (arL a1) then (if (gi σ a1 (ix (13 : Int32))) = (1 : Int32) then (f_X6_knowsIn_16 N (1 : Int32) v2 a1 a0 (σ)) else (f_X6_knowsIn_16 N (0 : Int32) v2 a1 a0 (σ))) else none) else none) else none)
  refine jr_guard (fun ha0 => ?_)
  refine jr_guard (fun ha1 => ?_)
  refine jr_aload_n hG 0 dX6_knowsIn_0 rfl rfl ?_
  refine jr_aload_n hG 1 dX6_knowsIn_1 rfl rfl ?_
  refine jr_iload_n hG 2 dX6_knowsIn_2 rfl rfl ?_
  refine jr_aload_n hG 1 dX6_knowsIn_3 rfl rfl ?_
  refine jr_bipush (v := (13 : Int32)) hG dX6_knowsIn_4 (by decide) ?_
  refine jr_iald hG (okA_s (by decide) ha1) (okA_l ha1) dX6_knowsIn_6 ?_
  refine jr_iconst (v := (1 : Int32)) hG dX6_knowsIn_7 (by decide) ?_
  refine jr_icmp_ne hG 15 dX6_knowsIn_8 (by decide) (fun _ => ?_) (fun _ => ?_)
  · refine jr_iconst (v := (0 : Int32)) hG dX6_knowsIn_15 (by decide) ?_
    refine jr_sub (lv' := []) [] rfl ?_
    exact w_X6_knowsIn_16 N hG hr hk (0 : Int32) v2 a1 a0 ha1 ha0 (σ)
  · refine jr_iconst (v := (1 : Int32)) hG dX6_knowsIn_11 (by decide) ?_
    refine jr_goto hG 16 dX6_knowsIn_12 (by decide) ?_
    refine jr_sub (lv' := []) [] rfl ?_
    exact w_X6_knowsIn_16 N hG hr hk (1 : Int32) v2 a1 a0 ha1 ha0 (σ)
-- TonguesDealtModel.isMute(I)Z
abbrev rm_X6_isMute : Room := { frames := 0, cells := 0, slots := 0, locals := 0 }
theorem ci_X6_isMute : CIx yX6_isMute cX6_isMute 2 (some .boolean) 1 := ⟨wd_987, wd_77, by decide +kernel⟩
def f_X6_isMute_20 (N : Nat)   (σ : Mm) : Option (Int32 × Mm) := some ((1 : Int32), σ)
set_option maxRecDepth 20000 in
theorem w_X6_isMute_20 {p : Program} {l : Launch} {e : Env} {s : State} {m : MethodId} {args : Array Value} {below : List Frame} {meth : Method} {c : Code} {E : XE} (N : Nat) (hG : GG E NT 2 RX6 cX6_isMute p s m args c) (hr : meth.sig.returnType = (some .boolean)) (hk : meth.locks = false)    (σ : Mm) : JR E NT 2 p l e rm_X6_isMute s m args below meth c 0 0 (fun r => MQ below (xQi E (NT + 0) r) args s 0 0 (xA E)) 20 [] [] σ (f_X6_isMute_20 N σ) := by
  show JR E NT 2 p l e rm_X6_isMute s m args below meth c 0 0 (fun r => MQ below (xQi E (NT + 0) r) args s 0 0 (xA E)) 20 [] [] σ (some ((1 : Int32), σ))
  refine jr_iconst (v := (1 : Int32)) hG dX6_isMute_20 (by decide) ?_
  refine jr_goto hG 25 dX6_isMute_21 (by decide) ?_
  exact jr_zret hG hr hk (by decide) dX6_isMute_25
def f_X6_isMute (N : Nat) (a0 : Nat) (v1 : Int32) (σ : Mm) : Option (Int32 × Mm) := if okO 6 a0 then (bR (gr σ a0 11) (okA 0) (fun o1 => if inb v1 (arL o1) then (if (gi σ o1 (ix v1)) = (2 : Int32) then (f_X6_isMute_20 N (σ)) else (bR (gr σ a0 11) (okA 0) (fun o2 => if inb v1 (arL o2) then (if (gi σ o2 (ix v1)) = (4 : Int32) then (f_X6_isMute_20 N (σ)) else (some ((0 : Int32), σ))) else none))) else none)) else none
set_option maxRecDepth 20000 in
theorem c_X6_isMute (l : Launch) (E : XE) (N : Nat) (a0 : Nat) (v1 : Int32) (σ : Mm) : ∀ r0, f_X6_isMute N a0 v1 σ = some r0 → Met l yX6_isMute [Cond.code yX6_isMute cX6_isMute 2 (some .boolean)] rm_X6_isMute (xPc E (NT + 0) σ [.ref (E.B + a0), .int v1]) (xQi E (NT + 0) r0) 0 0 (xA E) := by
  refine met_of (N0 := NT) (by decide +kernel) (Nat.le_of_ble_eq_true rfl) ?_
  intro p e s m args below meth c hG hr hk _
  show JR E NT 2 p l e rm_X6_isMute s m args below meth c 0 0 (fun r => MQ below (xQi E (NT + 0) r) args s 0 0 (xA E)) 0 [(0, .ref (E.B + a0)), (1, .int v1)] [] σ (if okO 6 a0 then (bR (gr σ a0 11) (okA 0) (fun o1 => if inb v1 (arL o1) then (if (gi σ o1 (ix v1)) = (2 : Int32) then (f_X6_isMute_20 N (σ)) else (bR (gr σ a0 11) (okA 0) (fun o2 => if inb v1 (arL o2) then (if (gi σ o2 (ix v1)) = (4 : Int32) then (f_X6_isMute_20 N (σ)) else (some ((0 : Int32), σ))) else none))) else none)) else none)
  refine jr_guard (fun ha0 => ?_)
  refine jr_aload_n hG 0 dX6_isMute_0 rfl rfl ?_
  refine jr_getR hG fi_RX6_33 rfl (okO_s ha0) (okO_l ha0) dX6_isMute_1 (fun o1 ho1 => ?_)
  refine jr_iload_n hG 1 dX6_isMute_4 rfl rfl ?_
  refine jr_iald hG (okA_s (by decide) ho1) (okA_l ho1) dX6_isMute_5 ?_
  refine jr_iconst (v := (2 : Int32)) hG dX6_isMute_6 (by decide) ?_
  refine jr_icmp_eq hG 20 dX6_isMute_7 (by decide) (fun _ => ?_) (fun _ => ?_)
  · refine jr_sub (lv' := []) [] rfl ?_
    exact w_X6_isMute_20 N hG hr hk (σ)
  · refine jr_aload_n hG 0 dX6_isMute_10 rfl rfl ?_
    refine jr_getR hG fi_RX6_33 rfl (okO_s ha0) (okO_l ha0) dX6_isMute_11 (fun o2 ho2 => ?_)
    refine jr_iload_n hG 1 dX6_isMute_14 rfl rfl ?_
    refine jr_iald hG (okA_s (by decide) ho2) (okA_l ho2) dX6_isMute_15 ?_
    refine jr_iconst (v := (4 : Int32)) hG dX6_isMute_16 (by decide) ?_
    refine jr_icmp_ne hG 24 dX6_isMute_17 (by decide) (fun _ => ?_) (fun _ => ?_)
    · refine jr_iconst (v := (0 : Int32)) hG dX6_isMute_24 (by decide) ?_
      exact jr_zret hG hr hk (by decide) dX6_isMute_25
    · refine jr_sub (lv' := []) [] rfl ?_
      exact w_X6_isMute_20 N hG hr hk (σ)
-- TonguesDealtModel.isShut([II)Z
abbrev rm_X6_isShut : Room := { frames := 0, cells := 0, slots := 0, locals := 0 }
theorem ci_X6_isShut : CIx yX6_isShut cX6_isShut 3 (some .boolean) 2 := ⟨wd_991, wd_77, by decide +kernel⟩
def f_X6_isShut (N : Nat) (a0 : Nat) (a1 : Nat) (v2 : Int32) (σ : Mm) : Option (Int32 × Mm) := if okO 6 a0 then (if okA 0 a1 then (bR (gr σ a0 11) (okA 0) (fun o1 => if inb v2 (arL o1) then (if (gi σ o1 (ix v2)) = (4 : Int32) then (if inb (13 : Int32) (arL a1) then (if (gi σ a1 (ix (13 : Int32))) = 0 then (some ((1 : Int32), σ)) else (some ((0 : Int32), σ))) else none) else (some ((0 : Int32), σ))) else none)) else none) else none
set_option maxRecDepth 20000 in
theorem c_X6_isShut (l : Launch) (E : XE) (N : Nat) (a0 : Nat) (a1 : Nat) (v2 : Int32) (σ : Mm) : ∀ r0, f_X6_isShut N a0 a1 v2 σ = some r0 → Met l yX6_isShut [Cond.code yX6_isShut cX6_isShut 3 (some .boolean)] rm_X6_isShut (xPc E (NT + 0) σ [.ref (E.B + a0), .ref (E.B + a1), .int v2]) (xQi E (NT + 0) r0) 0 0 (xA E) := by
  refine met_of (N0 := NT) (by decide +kernel) (Nat.le_of_ble_eq_true rfl) ?_
  intro p e s m args below meth c hG hr hk _
  show JR E NT 3 p l e rm_X6_isShut s m args below meth c 0 0 (fun r => MQ below (xQi E (NT + 0) r) args s 0 0 (xA E)) 0 [(0, .ref (E.B + a0)), (1, .ref (E.B + a1)), (2, .int v2)] [] σ (if okO 6 a0 then (if okA 0 a1 then (bR (gr σ a0 11) (okA 0) (fun o1 => if inb v2 (arL o1) then (if (gi σ o1 (ix v2)) = (4 : Int32) then (if inb (13 : Int32) (arL a1) then (if (gi σ a1 (ix (13 : Int32))) = 0 then (some ((1 : Int32), σ)) else (some ((0 : Int32), σ))) else none) else (some ((0 : Int32), σ))) else none)) else none) else none)
  refine jr_guard (fun ha0 => ?_)
  refine jr_guard (fun ha1 => ?_)
  refine jr_aload_n hG 0 dX6_isShut_0 rfl rfl ?_
  refine jr_getR hG fi_RX6_33 rfl (okO_s ha0) (okO_l ha0) dX6_isShut_1 (fun o1 ho1 => ?_)
  refine jr_iload_n hG 2 dX6_isShut_4 rfl rfl ?_
  refine jr_iald hG (okA_s (by decide) ho1) (okA_l ho1) dX6_isShut_5 ?_
  refine jr_iconst (v := (4 : Int32)) hG dX6_isShut_6 (by decide) ?_
  refine jr_icmp_ne hG 21 dX6_isShut_7 (by decide) (fun _ => ?_) (fun _ => ?_)
  · refine jr_iconst (v := (0 : Int32)) hG dX6_isShut_21 (by decide) ?_
    exact jr_zret hG hr hk (by decide) dX6_isShut_22
  · refine jr_aload_n hG 1 dX6_isShut_10 rfl rfl ?_
    refine jr_bipush (v := (13 : Int32)) hG dX6_isShut_11 (by decide) ?_
    refine jr_iald hG (okA_s (by decide) ha1) (okA_l ha1) dX6_isShut_13 ?_
    refine jr_if_ne hG 21 dX6_isShut_14 (by decide) (fun _ => ?_) (fun _ => ?_)
    · refine jr_iconst (v := (0 : Int32)) hG dX6_isShut_21 (by decide) ?_
      exact jr_zret hG hr hk (by decide) dX6_isShut_22
    · refine jr_iconst (v := (1 : Int32)) hG dX6_isShut_17 (by decide) ?_
      refine jr_goto hG 22 dX6_isShut_18 (by decide) ?_
      exact jr_zret hG hr hk (by decide) dX6_isShut_22
-- TonguesDealtModel.isTold([III)Z
abbrev rm_X6_isTold : Room := { frames := 3, cells := 0, slots := 0, locals := 66 }
theorem ci_X6_isTold : CIx yX6_isTold cX6_isTold 4 (some .boolean) 3 := ⟨wd_983, wd_77, by decide +kernel⟩
def f_X6_isTold_46 (N : Nat)   (σ : Mm) : Option (Int32 × Mm) := some ((1 : Int32), σ)
set_option maxRecDepth 20000 in
theorem w_X6_isTold_46 {p : Program} {l : Launch} {e : Env} {s : State} {m : MethodId} {args : Array Value} {below : List Frame} {meth : Method} {c : Code} {E : XE} (N : Nat) (hG : GG E NT 4 RX6 cX6_isTold p s m args c) (hr : meth.sig.returnType = (some .boolean)) (hk : meth.locks = false)    (σ : Mm) : JR E NT 4 p l e rm_X6_isTold s m args below meth c 0 0 (fun r => MQ below (xQi E (NT + 0) r) args s 0 0 (xA E)) 46 [] [] σ (f_X6_isTold_46 N σ) := by
  show JR E NT 4 p l e rm_X6_isTold s m args below meth c 0 0 (fun r => MQ below (xQi E (NT + 0) r) args s 0 0 (xA E)) 46 [] [] σ (some ((1 : Int32), σ))
  refine jr_iconst (v := (1 : Int32)) hG dX6_isTold_46 (by decide) ?_
  refine jr_goto hG 51 dX6_isTold_47 (by decide) ?_
  exact jr_zret hG hr hk (by decide) dX6_isTold_51
def f_X6_isTold (N : Nat) (a0 : Nat) (a1 : Nat) (v2 : Int32) (v3 : Int32) (σ : Mm) : Option (Int32 × Mm) := if okO 6 a0 then (if okA 0 a1 then (if inb ((6 : Int32) + v2) (arL a1) then (bI (f_X6_has N (gi σ a1 (ix ((6 : Int32) + v2))) v3 (σ)) (fun r2 t1 => if r2 = 0 then (bI (f_X6_isMute N a0 v2 t1) (fun r4 t3 => if r4 = 0 then (bI (f_X6_isShut N a0 a1 v3 t3) (fun r6 t5 => if r6 = 0 then (bI (f_X6_knowsIn N a0 a1 v2 t5) (fun r8 t7 => bI (f_X6_knowsIn N a0 a1 v3 t7) (fun r10 t9 => if (r8 &&& r10) = 0 then (some ((0 : Int32), t9)) else (f_X6_isTold_46 N t9)))) else (some ((0 : Int32), t5)))) else (some ((0 : Int32), t3)))) else (f_X6_isTold_46 N t1))) else none) else none) else none
set_option maxRecDepth 20000 in
theorem c_X6_isTold (l : Launch) (E : XE) (N : Nat) (a0 : Nat) (a1 : Nat) (v2 : Int32) (v3 : Int32) (σ : Mm) : ∀ r0, f_X6_isTold N a0 a1 v2 v3 σ = some r0 → Met l yX6_isTold [Cond.code yX6_isTold cX6_isTold 4 (some .boolean)] rm_X6_isTold (xPc E (NT + 0) σ [.ref (E.B + a0), .ref (E.B + a1), .int v2, .int v3]) (xQi E (NT + 0) r0) 0 0 (xA E) := by
  refine met_of (N0 := NT) (by decide +kernel) (Nat.le_of_ble_eq_true rfl) ?_
  intro p e s m args below meth c hG hr hk _
  show JR E NT 4 p l e rm_X6_isTold s m args below meth c 0 0 (fun r => MQ below (xQi E (NT + 0) r) args s 0 0 (xA E)) 0 [(0, .ref (E.B + a0)), (1, .ref (E.B + a1)), (2, .int v2), (3, .int v3)] [] σ (if okO 6 a0 then (if okA 0 a1 then (if inb ((6 : Int32) + v2) (arL a1) then (bI (f_X6_has N (gi σ a1 (ix ((6 : Int32) + v2))) v3 (σ)) (fun r2 t1 => if r2 = 0 then (bI (f_X6_isMute N a0 v2 t1) (fun r4 t3 => if r4 = 0 then (bI (f_X6_isShut N a0 a1 v3 t3) (fun r6 t5 => if r6 = 0 then (bI (f_X6_knowsIn N a0 a1 v2 t5) (fun r8 t7 => bI (f_X6_knowsIn N a0 a1 v3 t7) (fun r10 t9 => if (r8 &&& r10) = 0 then (some ((0 : Int32), t9)) else (f_X6_isTold_46 N t9)))) else (some ((0 : Int32), t5)))) else (some ((0 : Int32), t3)))) else (f_X6_isTold_46 N t1))) else none) else none) else none)
  refine jr_guard (fun ha0 => ?_)
  refine jr_guard (fun ha1 => ?_)
  refine jr_aload_n hG 1 dX6_isTold_0 rfl rfl ?_
  refine jr_bipush (v := (6 : Int32)) hG dX6_isTold_1 (by decide) ?_
  refine jr_iload_n hG 2 dX6_isTold_3 rfl rfl ?_
  refine jr_iadd hG dX6_isTold_4 ?_
  refine jr_iald hG (okA_s (by decide) ha1) (okA_l ha1) dX6_isTold_5 ?_
  refine jr_iload_n hG 3 dX6_isTold_6 rfl rfl ?_
  refine jr_callSi (As := [.int (gi σ a1 (ix ((6 : Int32) + v2))), .int v3]) hG (c_X6_has l E N (gi σ a1 (ix ((6 : Int32) + v2))) v3 (σ)) ci_X6_has wd_932 wd_933 ⟨rfl, rfl, Nat.le_of_ble_eq_true rfl, Nat.le_of_ble_eq_true rfl⟩ rfl rfl (Nat.le_of_ble_eq_true rfl) dX6_isTold_7 ⟨Nat.le_refl _, Nat.le_refl _⟩ (fun r2 t1 => ?_)
  refine jr_if_ne hG 46 dX6_isTold_10 (by decide) (fun _ => ?_) (fun _ => ?_)
  · refine jr_sub (lv' := []) [] rfl ?_
    exact w_X6_isTold_46 N hG hr hk t1
  · refine jr_aload_n hG 0 dX6_isTold_13 rfl rfl ?_
    refine jr_iload_n hG 2 dX6_isTold_14 rfl rfl ?_
    refine jr_callVi (As := [.int v2]) hG (c_X6_isMute l E N a0 v2 t1) ci_X6_isMute wd_984 ⟨wd_986, wd_35⟩ cl_6 (okO_s ha0) (okO_l ha0) ⟨rfl, rfl, Nat.le_of_ble_eq_true rfl, Nat.le_of_ble_eq_true rfl⟩ rfl rfl (Nat.le_of_ble_eq_true rfl) dX6_isTold_15 ⟨Nat.le_refl _, Nat.le_refl _⟩ (fun r4 t3 => ?_)
    refine jr_if_ne hG 50 dX6_isTold_18 (by decide) (fun _ => ?_) (fun _ => ?_)
    · refine jr_iconst (v := (0 : Int32)) hG dX6_isTold_50 (by decide) ?_
      exact jr_zret hG hr hk (by decide) dX6_isTold_51
    · refine jr_aload_n hG 0 dX6_isTold_21 rfl rfl ?_
      refine jr_aload_n hG 1 dX6_isTold_22 rfl rfl ?_
      refine jr_iload_n hG 3 dX6_isTold_23 rfl rfl ?_
      refine jr_callVi (As := [.ref (E.B + a1), .int v3]) hG (c_X6_isShut l E N a0 a1 v3 t3) ci_X6_isShut wd_988 ⟨wd_990, wd_36⟩ cl_6 (okO_s ha0) (okO_l ha0) ⟨rfl, rfl, Nat.le_of_ble_eq_true rfl, Nat.le_of_ble_eq_true rfl⟩ rfl rfl (Nat.le_of_ble_eq_true rfl) dX6_isTold_24 ⟨Nat.le_refl _, Nat.le_refl _⟩ (fun r6 t5 => ?_)
      refine jr_if_ne hG 50 dX6_isTold_27 (by decide) (fun _ => ?_) (fun _ => ?_)
      · refine jr_iconst (v := (0 : Int32)) hG dX6_isTold_50 (by decide) ?_
        exact jr_zret hG hr hk (by decide) dX6_isTold_51
      · refine jr_aload_n hG 0 dX6_isTold_30 rfl rfl ?_
        refine jr_aload_n hG 1 dX6_isTold_31 rfl rfl ?_
        refine jr_iload_n hG 2 dX6_isTold_32 rfl rfl ?_
        refine jr_callVi (As := [.ref (E.B + a1), .int v2]) hG (c_X6_knowsIn l E N a0 a1 v2 t5) ci_X6_knowsIn wd_958 ⟨wd_960, wd_31⟩ cl_6 (okO_s ha0) (okO_l ha0) ⟨rfl, rfl, Nat.le_of_ble_eq_true rfl, Nat.le_of_ble_eq_true rfl⟩ rfl rfl (Nat.le_of_ble_eq_true rfl) dX6_isTold_33 ⟨Nat.le_refl _, Nat.le_refl _⟩ (fun r8 t7 => ?_)
        refine jr_aload_n hG 0 dX6_isTold_36 rfl rfl ?_
        refine jr_aload_n hG 1 dX6_isTold_37 rfl rfl ?_
        refine jr_iload_n hG 3 dX6_isTold_38 rfl rfl ?_
        refine jr_callVi (As := [.ref (E.B + a1), .int v3]) hG (c_X6_knowsIn l E N a0 a1 v3 t7) ci_X6_knowsIn wd_958 ⟨wd_960, wd_31⟩ cl_6 (okO_s ha0) (okO_l ha0) ⟨rfl, rfl, Nat.le_of_ble_eq_true rfl, Nat.le_of_ble_eq_true rfl⟩ rfl rfl (Nat.le_of_ble_eq_true rfl) dX6_isTold_39 ⟨Nat.le_refl _, Nat.le_refl _⟩ (fun r10 t9 => ?_)
        refine jr_iand hG dX6_isTold_42 ?_
        refine jr_if_eq hG 50 dX6_isTold_43 (by decide) (fun _ => ?_) (fun _ => ?_)
        · refine jr_iconst (v := (0 : Int32)) hG dX6_isTold_50 (by decide) ?_
          exact jr_zret hG hr hk (by decide) dX6_isTold_51
        · refine jr_sub (lv' := []) [] rfl ?_
          exact w_X6_isTold_46 N hG hr hk t9
-- TonguesDealtModel.layTells([I)V
abbrev rm_X6_layTells : Room := { frames := 4, cells := 0, slots := 0, locals := 89 }
theorem ci_X6_layTells : CIx yX6_layTells cX6_layTells 4 none 1 := ⟨wd_1051, wd_77, by decide +kernel⟩
def f_X6_layTells_56 (N : Nat) (K2 : Nat → Nat → Int32 → Mm → Option (Mm)) (K19 : Nat → Nat → Int32 → Int32 → Mm → Option (Mm)) (a0 : Nat) (a1 : Nat) (v2 : Int32) (v3 : Int32) (s0 : Int32) (s1 : Int32) (s2 : Int32) (b3 : Nat) (σ : Mm) : Option (Mm) := if inb s2 (arL b3) then (lt (si σ b3 (ix s2) (s1 ||| s0)) (fun t6 => K19 a0 a1 v2 (v3 + (1 : Int32)) t6)) else none
set_option maxRecDepth 20000 in
theorem w_X6_layTells_56 {p : Program} {l : Launch} {e : Env} {s : State} {m : MethodId} {args : Array Value} {below : List Frame} {meth : Method} {c : Code} {E : XE} (N : Nat) (hG : GG E NT 4 RX6 cX6_layTells p s m args c) (hr : meth.sig.returnType = none) (hk : meth.locks = false) {K2 : Nat → Nat → Int32 → Mm → Option (Mm)} (hK2 : ∀ (a0 : Nat) (a1 : Nat) (v2 : Int32) (ha0 : okO 6 a0 = true) (ha1 : okA 0 a1 = true) (σ : Mm), JR E NT 4 p l e rm_X6_layTells s m args below meth c 0 0 (fun r => MQ below (xQv E (NT + 0) r) args s 0 0 (xA E)) 2 [(0, .ref (E.B + a0)), (1, .ref (E.B + a1)), (2, .int v2)] [] σ (K2 a0 a1 v2 σ)) {K19 : Nat → Nat → Int32 → Int32 → Mm → Option (Mm)} (hK19 : ∀ (a0 : Nat) (a1 : Nat) (v2 : Int32) (v3 : Int32) (ha0 : okO 6 a0 = true) (ha1 : okA 0 a1 = true) (σ : Mm), JR E NT 4 p l e rm_X6_layTells s m args below meth c 0 0 (fun r => MQ below (xQv E (NT + 0) r) args s 0 0 (xA E)) 19 [(0, .ref (E.B + a0)), (1, .ref (E.B + a1)), (2, .int v2), (3, .int v3)] [] σ (K19 a0 a1 v2 v3 σ)) (a0 : Nat) (a1 : Nat) (v2 : Int32) (v3 : Int32) (s0 : Int32) (s1 : Int32) (s2 : Int32) (b3 : Nat) (ha0 : okO 6 a0 = true) (ha1 : okA 0 a1 = true) (hb3 : okA 0 b3 = true) (σ : Mm) : JR E NT 4 p l e rm_X6_layTells s m args below meth c 0 0 (fun r => MQ below (xQv E (NT + 0) r) args s 0 0 (xA E)) 56 [(0, .ref (E.B + a0)), (1, .ref (E.B + a1)), (2, .int v2), (3, .int v3)] [.int s0, .int s1, .int s2, .ref (E.B + b3)] σ (f_X6_layTells_56 N K2 K19 a0 a1 v2 v3 s0 s1 s2 b3 σ) := by
  show JR E NT 4 p l e rm_X6_layTells s m args below meth c 0 0 (fun r => MQ below (xQv E (NT + 0) r) args s 0 0 (xA E)) 56 [(0, .ref (E.B + a0)), (1, .ref (E.B + a1)), (2, .int v2), (3, .int v3)] [.int s0, .int s1, .int s2, .ref (E.B + b3)] σ (if inb s2 (arL b3) then (lt (si σ b3 (ix s2) (s1 ||| s0)) (fun t6 => K19 a0 a1 v2 (v3 + (1 : Int32)) t6)) else none)
  refine jr_ior hG dX6_layTells_56 ?_
  refine jr_iast hG (okA_s (by decide) hb3) (okA_l hb3) dX6_layTells_57 ?_
  refine jr_lets (fun t6 _ => ?_)
  refine jr_iinc (v := v3 + (1 : Int32)) (lv' := [(3, .int (v3 + (1 : Int32))), (0, .ref (E.B + a0)), (1, .ref (E.B + a1)), (2, .int v2)]) hG 3 dX6_layTells_58 rfl rfl (by decide) rfl ?_
  refine jr_goto hG 19 dX6_layTells_61 (by decide) ?_
  refine jr_sub (lv' := [(0, .ref (E.B + a0)), (1, .ref (E.B + a1)), (2, .int v2), (3, .int (v3 + (1 : Int32)))]) [1, 2, 3, 0] rfl ?_
  exact hK19 a0 a1 v2 (v3 + (1 : Int32)) ha0 ha1 t6
def f_X6_layTells_55 (N : Nat) (K2 : Nat → Nat → Int32 → Mm → Option (Mm)) (K19 : Nat → Nat → Int32 → Int32 → Mm → Option (Mm)) (a0 : Nat) (a1 : Nat) (v2 : Int32) (v3 : Int32) (s0 : Int32) (s1 : Int32) (b2 : Nat) (σ : Mm) : Option (Mm) := f_X6_layTells_56 N K2 K19 a0 a1 v2 v3 (0 : Int32) s0 s1 b2 (σ)
set_option maxRecDepth 20000 in
theorem w_X6_layTells_55 {p : Program} {l : Launch} {e : Env} {s : State} {m : MethodId} {args : Array Value} {below : List Frame} {meth : Method} {c : Code} {E : XE} (N : Nat) (hG : GG E NT 4 RX6 cX6_layTells p s m args c) (hr : meth.sig.returnType = none) (hk : meth.locks = false) {K2 : Nat → Nat → Int32 → Mm → Option (Mm)} (hK2 : ∀ (a0 : Nat) (a1 : Nat) (v2 : Int32) (ha0 : okO 6 a0 = true) (ha1 : okA 0 a1 = true) (σ : Mm), JR E NT 4 p l e rm_X6_layTells s m args below meth c 0 0 (fun r => MQ below (xQv E (NT + 0) r) args s 0 0 (xA E)) 2 [(0, .ref (E.B + a0)), (1, .ref (E.B + a1)), (2, .int v2)] [] σ (K2 a0 a1 v2 σ)) {K19 : Nat → Nat → Int32 → Int32 → Mm → Option (Mm)} (hK19 : ∀ (a0 : Nat) (a1 : Nat) (v2 : Int32) (v3 : Int32) (ha0 : okO 6 a0 = true) (ha1 : okA 0 a1 = true) (σ : Mm), JR E NT 4 p l e rm_X6_layTells s m args below meth c 0 0 (fun r => MQ below (xQv E (NT + 0) r) args s 0 0 (xA E)) 19 [(0, .ref (E.B + a0)), (1, .ref (E.B + a1)), (2, .int v2), (3, .int v3)] [] σ (K19 a0 a1 v2 v3 σ)) (a0 : Nat) (a1 : Nat) (v2 : Int32) (v3 : Int32) (s0 : Int32) (s1 : Int32) (b2 : Nat) (ha0 : okO 6 a0 = true) (ha1 : okA 0 a1 = true) (hb2 : okA 0 b2 = true) (σ : Mm) : JR E NT 4 p l e rm_X6_layTells s m args below meth c 0 0 (fun r => MQ below (xQv E (NT + 0) r) args s 0 0 (xA E)) 55 [(0, .ref (E.B + a0)), (1, .ref (E.B + a1)), (2, .int v2), (3, .int v3)] [.int s0, .int s1, .ref (E.B + b2)] σ (f_X6_layTells_55 N K2 K19 a0 a1 v2 v3 s0 s1 b2 σ) := by
  show JR E NT 4 p l e rm_X6_layTells s m args below meth c 0 0 (fun r => MQ below (xQv E (NT + 0) r) args s 0 0 (xA E)) 55 [(0, .ref (E.B + a0)), (1, .ref (E.B + a1)), (2, .int v2), (3, .int v3)] [.int s0, .int s1, .ref (E.B + b2)] σ (f_X6_layTells_56 N K2 K19 a0 a1 v2 v3 (0 : Int32) s0 s1 b2 (σ))
  refine jr_iconst (v := (0 : Int32)) hG dX6_layTells_55 (by decide) ?_
  exact w_X6_layTells_56 N hG hr hk hK2 hK19 a0 a1 v2 v3 (0 : Int32) s0 s1 b2 ha0 ha1 hb2 (σ)
def f_X6_layTells_19 (N : Nat) (K2 : Nat → Nat → Int32 → Mm → Option (Mm)) : Nat → Nat → Nat → Int32 → Int32 → Mm → Option (Mm)
  | 0 => fun _ _ _ _ _ => none
  | n + 1 => fun a0 a1 v2 v3 σ => if (gi σ a0 10) ≤ v3 then (K2 a0 a1 (v2 + (1 : Int32)) (σ)) else (bR (gr σ a0 21) (okA 0) (fun o3 => if inb v2 (arL o3) then (if v2 = v3 then (f_X6_layTells_55 N K2 (f_X6_layTells_19 N K2 n) a0 a1 v2 v3 (gi σ o3 (ix v2)) v2 o3 (σ)) else (bI (f_X6_isTold N a0 a1 v2 v3 (σ)) (fun r5 t4 => if r5 = 0 then (f_X6_layTells_55 N K2 (f_X6_layTells_19 N K2 n) a0 a1 v2 v3 (gi σ o3 (ix v2)) v2 o3 t4) else (f_X6_layTells_56 N K2 (f_X6_layTells_19 N K2 n) a0 a1 v2 v3 ((1 : Int32) <<< (v3 &&& 31)) (gi σ o3 (ix v2)) v2 o3 t4)))) else none))
set_option maxRecDepth 20000 in
theorem w_X6_layTells_19 {p : Program} {l : Launch} {e : Env} {s : State} {m : MethodId} {args : Array Value} {below : List Frame} {meth : Method} {c : Code} {E : XE} (N : Nat) (hG : GG E NT 4 RX6 cX6_layTells p s m args c) (hr : meth.sig.returnType = none) (hk : meth.locks = false) {K2 : Nat → Nat → Int32 → Mm → Option (Mm)} (hK2 : ∀ (a0 : Nat) (a1 : Nat) (v2 : Int32) (ha0 : okO 6 a0 = true) (ha1 : okA 0 a1 = true) (σ : Mm), JR E NT 4 p l e rm_X6_layTells s m args below meth c 0 0 (fun r => MQ below (xQv E (NT + 0) r) args s 0 0 (xA E)) 2 [(0, .ref (E.B + a0)), (1, .ref (E.B + a1)), (2, .int v2)] [] σ (K2 a0 a1 v2 σ)) : ∀ (n : Nat) (a0 : Nat) (a1 : Nat) (v2 : Int32) (v3 : Int32) (ha0 : okO 6 a0 = true) (ha1 : okA 0 a1 = true) (σ : Mm), JR E NT 4 p l e rm_X6_layTells s m args below meth c 0 0 (fun r => MQ below (xQv E (NT + 0) r) args s 0 0 (xA E)) 19 [(0, .ref (E.B + a0)), (1, .ref (E.B + a1)), (2, .int v2), (3, .int v3)] [] σ (f_X6_layTells_19 N K2 n a0 a1 v2 v3 σ) := by
  intro n
  induction n with
  | zero => intro a0 a1 v2 v3 ha0 ha1 σ r hX; cases hX
  | succ n ih =>
    intro a0 a1 v2 v3 ha0 ha1 σ
    show JR E NT 4 p l e rm_X6_layTells s m args below meth c 0 0 (fun r => MQ below (xQv E (NT + 0) r) args s 0 0 (xA E)) 19 [(0, .ref (E.B + a0)), (1, .ref (E.B + a1)), (2, .int v2), (3, .int v3)] [] σ (if (gi σ a0 10) ≤ v3 then (K2 a0 a1 (v2 + (1 : Int32)) (σ)) else (bR (gr σ a0 21) (okA 0) (fun o3 => if inb v2 (arL o3) then (if v2 = v3 then (f_X6_layTells_55 N K2 (f_X6_layTells_19 N K2 n) a0 a1 v2 v3 (gi σ o3 (ix v2)) v2 o3 (σ)) else (bI (f_X6_isTold N a0 a1 v2 v3 (σ)) (fun r5 t4 => if r5 = 0 then (f_X6_layTells_55 N K2 (f_X6_layTells_19 N K2 n) a0 a1 v2 v3 (gi σ o3 (ix v2)) v2 o3 t4) else (f_X6_layTells_56 N K2 (f_X6_layTells_19 N K2 n) a0 a1 v2 v3 ((1 : Int32) <<< (v3 &&& 31)) (gi σ o3 (ix v2)) v2 o3 t4)))) else none)))
    refine jr_iload_n hG 3 dX6_layTells_19 rfl rfl ?_
    refine jr_aload_n hG 0 dX6_layTells_20 rfl rfl ?_
    refine jr_getI hG fi_RX6_147 rfl (okO_s ha0) (okO_l ha0) dX6_layTells_21 ?_
    refine jr_icmp_ge hG 64 dX6_layTells_24 (by decide) (fun _ => ?_) (fun _ => ?_)
    · refine jr_iinc (v := v2 + (1 : Int32)) (lv' := [(2, .int (v2 + (1 : Int32))), (0, .ref (E.B + a0)), (1, .ref (E.B + a1)), (3, .int v3)]) hG 2 dX6_layTells_64 rfl rfl (by decide) rfl ?_
      refine jr_goto hG 2 dX6_layTells_67 (by decide) ?_
      refine jr_sub (lv' := [(0, .ref (E.B + a0)), (1, .ref (E.B + a1)), (2, .int (v2 + (1 : Int32)))]) [1, 2, 0] rfl ?_
      exact hK2 a0 a1 (v2 + (1 : Int32)) ha0 ha1 (σ)
    · refine jr_aload_n hG 0 dX6_layTells_27 rfl rfl ?_
      refine jr_getR hG fi_RX6_54 rfl (okO_s ha0) (okO_l ha0) dX6_layTells_28 (fun o3 ho3 => ?_)
      refine jr_iload_n hG 2 dX6_layTells_31 rfl rfl ?_
      refine jr_dup2 hG dX6_layTells_32 rfl rfl ?_
      refine jr_iald hG (okA_s (by decide) ho3) (okA_l ho3) dX6_layTells_33 ?_
      refine jr_iload_n hG 2 dX6_layTells_34 rfl rfl ?_
      refine jr_iload_n hG 3 dX6_layTells_35 rfl rfl ?_
      refine jr_icmp_eq hG 55 dX6_layTells_36 (by decide) (fun _ => ?_) (fun _ => ?_)
      · exact w_X6_layTells_55 N hG hr hk hK2 ih a0 a1 v2 v3 (gi σ o3 (ix v2)) v2 o3 ha0 ha1 ho3 (σ)
      · refine jr_aload_n hG 0 dX6_layTells_39 rfl rfl ?_
        refine jr_aload_n hG 1 dX6_layTells_40 rfl rfl ?_
        refine jr_iload_n hG 2 dX6_layTells_41 rfl rfl ?_
        refine jr_iload_n hG 3 dX6_layTells_42 rfl rfl ?_
        refine jr_callVi (As := [.ref (E.B + a1), .int v2, .int v3]) hG (c_X6_isTold l E N a0 a1 v2 v3 (σ)) ci_X6_isTold wd_980 ⟨wd_982, wd_34⟩ cl_6 (okO_s ha0) (okO_l ha0) ⟨rfl, rfl, Nat.le_of_ble_eq_true rfl, Nat.le_of_ble_eq_true rfl⟩ rfl rfl (Nat.le_of_ble_eq_true rfl) dX6_layTells_43 ⟨Nat.le_refl _, Nat.le_refl _⟩ (fun r5 t4 => ?_)
        refine jr_if_eq hG 55 dX6_layTells_46 (by decide) (fun _ => ?_) (fun _ => ?_)
        · exact w_X6_layTells_55 N hG hr hk hK2 ih a0 a1 v2 v3 (gi σ o3 (ix v2)) v2 o3 ha0 ha1 ho3 t4
        · refine jr_iconst (v := (1 : Int32)) hG dX6_layTells_49 (by decide) ?_
          refine jr_iload_n hG 3 dX6_layTells_50 rfl rfl ?_
          refine jr_ishl hG dX6_layTells_51 ?_
          refine jr_goto hG 56 dX6_layTells_52 (by decide) ?_
          exact w_X6_layTells_56 N hG hr hk hK2 ih a0 a1 v2 v3 ((1 : Int32) <<< (v3 &&& 31)) (gi σ o3 (ix v2)) v2 o3 ha0 ha1 ho3 t4
def f_X6_layTells_2 (N : Nat)  : Nat → Nat → Nat → Int32 → Mm → Option (Mm)
  | 0 => fun _ _ _ _ => none
  | n + 1 => fun a0 a1 v2 σ => if (gi σ a0 10) ≤ v2 then (some (σ)) else (bR (gr σ a0 21) (okA 0) (fun o1 => if inb v2 (arL o1) then (lt (si σ o1 (ix v2) (0 : Int32)) (fun t2 => f_X6_layTells_19 N (f_X6_layTells_2 N n) N a0 a1 v2 (0 : Int32) t2)) else none))
set_option maxRecDepth 20000 in
theorem w_X6_layTells_2 {p : Program} {l : Launch} {e : Env} {s : State} {m : MethodId} {args : Array Value} {below : List Frame} {meth : Method} {c : Code} {E : XE} (N : Nat) (hG : GG E NT 4 RX6 cX6_layTells p s m args c) (hr : meth.sig.returnType = none) (hk : meth.locks = false)  : ∀ (n : Nat) (a0 : Nat) (a1 : Nat) (v2 : Int32) (ha0 : okO 6 a0 = true) (ha1 : okA 0 a1 = true) (σ : Mm), JR E NT 4 p l e rm_X6_layTells s m args below meth c 0 0 (fun r => MQ below (xQv E (NT + 0) r) args s 0 0 (xA E)) 2 [(0, .ref (E.B + a0)), (1, .ref (E.B + a1)), (2, .int v2)] [] σ (f_X6_layTells_2 N n a0 a1 v2 σ) := by
  intro n
  induction n with
  | zero => intro a0 a1 v2 ha0 ha1 σ r hX; cases hX
  | succ n ih =>
    intro a0 a1 v2 ha0 ha1 σ
    show JR E NT 4 p l e rm_X6_layTells s m args below meth c 0 0 (fun r => MQ below (xQv E (NT + 0) r) args s 0 0 (xA E)) 2 [(0, .ref (E.B + a0)), (1, .ref (E.B + a1)), (2, .int v2)] [] σ (if (gi σ a0 10) ≤ v2 then (some (σ)) else (bR (gr σ a0 21) (okA 0) (fun o1 => if inb v2 (arL o1) then (lt (si σ o1 (ix v2) (0 : Int32)) (fun t2 => f_X6_layTells_19 N (f_X6_layTells_2 N n) N a0 a1 v2 (0 : Int32) t2)) else none)))
    refine jr_iload_n hG 2 dX6_layTells_2 rfl rfl ?_
    refine jr_aload_n hG 0 dX6_layTells_3 rfl rfl ?_
    refine jr_getI hG fi_RX6_147 rfl (okO_s ha0) (okO_l ha0) dX6_layTells_4 ?_
    refine jr_icmp_ge hG 70 dX6_layTells_7 (by decide) (fun _ => ?_) (fun _ => ?_)
    · exact jr_vret hG hr hk dX6_layTells_70
    · refine jr_aload_n hG 0 dX6_layTells_10 rfl rfl ?_
      refine jr_getR hG fi_RX6_54 rfl (okO_s ha0) (okO_l ha0) dX6_layTells_11 (fun o1 ho1 => ?_)
      refine jr_iload_n hG 2 dX6_layTells_14 rfl rfl ?_
      refine jr_iconst (v := (0 : Int32)) hG dX6_layTells_15 (by decide) ?_
      refine jr_iast hG (okA_s (by decide) ho1) (okA_l ho1) dX6_layTells_16 ?_
      refine jr_lets (fun t2 _ => ?_)
      refine jr_iconst (v := (0 : Int32)) hG dX6_layTells_17 (by decide) ?_
      refine jr_istore_n (lv' := [(3, .int (0 : Int32)), (0, .ref (E.B + a0)), (1, .ref (E.B + a1)), (2, .int v2)]) hG dX6_layTells_18 rfl (by decide) rfl ?_
      refine jr_sub (lv' := [(0, .ref (E.B + a0)), (1, .ref (E.B + a1)), (2, .int v2), (3, .int (0 : Int32))]) [1, 2, 3, 0] rfl ?_
      exact w_X6_layTells_19 N hG hr hk ih N a0 a1 v2 (0 : Int32) ha0 ha1 t2
def f_X6_layTells (N : Nat) (a0 : Nat) (a1 : Nat) (σ : Mm) : Option (Mm) := if okO 6 a0 then (if okA 0 a1 then (f_X6_layTells_2 N N a0 a1 (0 : Int32) (σ)) else none) else none
set_option maxRecDepth 20000 in
theorem c_X6_layTells (l : Launch) (E : XE) (N : Nat) (a0 : Nat) (a1 : Nat) (σ : Mm) : ∀ r0, f_X6_layTells N a0 a1 σ = some r0 → Met l yX6_layTells [Cond.code yX6_layTells cX6_layTells 4 none] rm_X6_layTells (xPc E (NT + 0) σ [.ref (E.B + a0), .ref (E.B + a1)]) (xQv E (NT + 0) r0) 0 0 (xA E) := by
  refine met_of (N0 := NT) (by decide +kernel) (Nat.le_of_ble_eq_true rfl) ?_
  intro p e s m args below meth c hG hr hk _
  show JR E NT 4 p l e rm_X6_layTells s m args below meth c 0 0 (fun r => MQ below (xQv E (NT + 0) r) args s 0 0 (xA E)) 0 [(0, .ref (E.B + a0)), (1, .ref (E.B + a1))] [] σ (if okO 6 a0 then (if okA 0 a1 then (f_X6_layTells_2 N N a0 a1 (0 : Int32) (σ)) else none) else none)
  refine jr_guard (fun ha0 => ?_)
  refine jr_guard (fun ha1 => ?_)
  refine jr_iconst (v := (0 : Int32)) hG dX6_layTells_0 (by decide) ?_
  refine jr_istore_n (lv' := [(2, .int (0 : Int32)), (0, .ref (E.B + a0)), (1, .ref (E.B + a1))]) hG dX6_layTells_1 rfl (by decide) rfl ?_
  refine jr_sub (lv' := [(0, .ref (E.B + a0)), (1, .ref (E.B + a1)), (2, .int (0 : Int32))]) [1, 2, 0] rfl ?_
  exact w_X6_layTells_2 N hG hr hk N a0 a1 (0 : Int32) ha0 ha1 (σ)
-- TonguesDealtModel.reaches(II)I
abbrev rm_X6_reaches : Room := { frames := 1, cells := 0, slots := 0, locals := 21 }
theorem ci_X6_reaches : CIx yX6_reaches cX6_reaches 6 (some .int) 2 := ⟨wd_1071, wd_77, by decide +kernel⟩
def f_X6_reaches_65 (N : Nat) (K7 : Nat → Int32 → Int32 → Int32 → Int32 → Mm → Option (Int32 × Mm)) (K19 : Nat → Int32 → Int32 → Int32 → Int32 → Int32 → Mm → Option (Int32 × Mm)) (a0 : Nat) (v1 : Int32) (v2 : Int32) (v4 : Int32) (v5 : Int32) (s0 : Int32) (s1 : Int32) (σ : Mm) : Option (Int32 × Mm) := lt (s1 ||| s0) (fun x7 => K19 a0 v1 v2 x7 v4 (v5 + (1 : Int32)) (σ))
set_option maxRecDepth 20000 in
theorem w_X6_reaches_65 {p : Program} {l : Launch} {e : Env} {s : State} {m : MethodId} {args : Array Value} {below : List Frame} {meth : Method} {c : Code} {E : XE} (N : Nat) (hG : GG E NT 6 RX6 cX6_reaches p s m args c) (hr : meth.sig.returnType = (some .int)) (hk : meth.locks = false) {K7 : Nat → Int32 → Int32 → Int32 → Int32 → Mm → Option (Int32 × Mm)} (hK7 : ∀ (a0 : Nat) (v1 : Int32) (v2 : Int32) (v3 : Int32) (v4 : Int32) (ha0 : okO 6 a0 = true) (σ : Mm), JR E NT 6 p l e rm_X6_reaches s m args below meth c 0 0 (fun r => MQ below (xQi E (NT + 0) r) args s 0 0 (xA E)) 7 [(0, .ref (E.B + a0)), (1, .int v1), (2, .int v2), (3, .int v3), (4, .int v4)] [] σ (K7 a0 v1 v2 v3 v4 σ)) {K19 : Nat → Int32 → Int32 → Int32 → Int32 → Int32 → Mm → Option (Int32 × Mm)} (hK19 : ∀ (a0 : Nat) (v1 : Int32) (v2 : Int32) (v3 : Int32) (v4 : Int32) (v5 : Int32) (ha0 : okO 6 a0 = true) (σ : Mm), JR E NT 6 p l e rm_X6_reaches s m args below meth c 0 0 (fun r => MQ below (xQi E (NT + 0) r) args s 0 0 (xA E)) 19 [(0, .ref (E.B + a0)), (1, .int v1), (2, .int v2), (3, .int v3), (4, .int v4), (5, .int v5)] [] σ (K19 a0 v1 v2 v3 v4 v5 σ)) (a0 : Nat) (v1 : Int32) (v2 : Int32) (v4 : Int32) (v5 : Int32) (s0 : Int32) (s1 : Int32) (ha0 : okO 6 a0 = true) (σ : Mm) : JR E NT 6 p l e rm_X6_reaches s m args below meth c 0 0 (fun r => MQ below (xQi E (NT + 0) r) args s 0 0 (xA E)) 65 [(0, .ref (E.B + a0)), (1, .int v1), (2, .int v2), (4, .int v4), (5, .int v5)] [.int s0, .int s1] σ (f_X6_reaches_65 N K7 K19 a0 v1 v2 v4 v5 s0 s1 σ) := by
  show JR E NT 6 p l e rm_X6_reaches s m args below meth c 0 0 (fun r => MQ below (xQi E (NT + 0) r) args s 0 0 (xA E)) 65 [(0, .ref (E.B + a0)), (1, .int v1), (2, .int v2), (4, .int v4), (5, .int v5)] [.int s0, .int s1] σ (lt (s1 ||| s0) (fun x7 => K19 a0 v1 v2 x7 v4 (v5 + (1 : Int32)) (σ)))
  refine jr_ior hG dX6_reaches_65 ?_
  refine jr_leti (fun x7 _ => ?_)
  refine jr_istore_n (lv' := [(3, .int x7), (0, .ref (E.B + a0)), (1, .int v1), (2, .int v2), (4, .int v4), (5, .int v5)]) hG dX6_reaches_66 rfl (by decide) rfl ?_
  refine jr_iinc (v := v5 + (1 : Int32)) (lv' := [(5, .int (v5 + (1 : Int32))), (3, .int x7), (0, .ref (E.B + a0)), (1, .int v1), (2, .int v2), (4, .int v4)]) hG 5 dX6_reaches_67 rfl rfl (by decide) rfl ?_
  refine jr_goto hG 19 dX6_reaches_70 (by decide) ?_
  refine jr_sub (lv' := [(0, .ref (E.B + a0)), (1, .int v1), (2, .int v2), (3, .int x7), (4, .int v4), (5, .int (v5 + (1 : Int32)))]) [2, 3, 4, 1, 5, 0] rfl ?_
  exact hK19 a0 v1 v2 x7 v4 (v5 + (1 : Int32)) ha0 (σ)
def f_X6_reaches_64 (N : Nat) (K7 : Nat → Int32 → Int32 → Int32 → Int32 → Mm → Option (Int32 × Mm)) (K19 : Nat → Int32 → Int32 → Int32 → Int32 → Int32 → Mm → Option (Int32 × Mm)) (a0 : Nat) (v1 : Int32) (v2 : Int32) (v4 : Int32) (v5 : Int32) (s0 : Int32) (σ : Mm) : Option (Int32 × Mm) := f_X6_reaches_65 N K7 K19 a0 v1 v2 v4 v5 (0 : Int32) s0 (σ)
set_option maxRecDepth 20000 in
theorem w_X6_reaches_64 {p : Program} {l : Launch} {e : Env} {s : State} {m : MethodId} {args : Array Value} {below : List Frame} {meth : Method} {c : Code} {E : XE} (N : Nat) (hG : GG E NT 6 RX6 cX6_reaches p s m args c) (hr : meth.sig.returnType = (some .int)) (hk : meth.locks = false) {K7 : Nat → Int32 → Int32 → Int32 → Int32 → Mm → Option (Int32 × Mm)} (hK7 : ∀ (a0 : Nat) (v1 : Int32) (v2 : Int32) (v3 : Int32) (v4 : Int32) (ha0 : okO 6 a0 = true) (σ : Mm), JR E NT 6 p l e rm_X6_reaches s m args below meth c 0 0 (fun r => MQ below (xQi E (NT + 0) r) args s 0 0 (xA E)) 7 [(0, .ref (E.B + a0)), (1, .int v1), (2, .int v2), (3, .int v3), (4, .int v4)] [] σ (K7 a0 v1 v2 v3 v4 σ)) {K19 : Nat → Int32 → Int32 → Int32 → Int32 → Int32 → Mm → Option (Int32 × Mm)} (hK19 : ∀ (a0 : Nat) (v1 : Int32) (v2 : Int32) (v3 : Int32) (v4 : Int32) (v5 : Int32) (ha0 : okO 6 a0 = true) (σ : Mm), JR E NT 6 p l e rm_X6_reaches s m args below meth c 0 0 (fun r => MQ below (xQi E (NT + 0) r) args s 0 0 (xA E)) 19 [(0, .ref (E.B + a0)), (1, .int v1), (2, .int v2), (3, .int v3), (4, .int v4), (5, .int v5)] [] σ (K19 a0 v1 v2 v3 v4 v5 σ)) (a0 : Nat) (v1 : Int32) (v2 : Int32) (v4 : Int32) (v5 : Int32) (s0 : Int32) (ha0 : okO 6 a0 = true) (σ : Mm) : JR E NT 6 p l e rm_X6_reaches s m args below meth c 0 0 (fun r => MQ below (xQi E (NT + 0) r) args s 0 0 (xA E)) 64 [(0, .ref (E.B + a0)), (1, .int v1), (2, .int v2), (4, .int v4), (5, .int v5)] [.int s0] σ (f_X6_reaches_64 N K7 K19 a0 v1 v2 v4 v5 s0 σ) := by
  show JR E NT 6 p l e rm_X6_reaches s m args below meth c 0 0 (fun r => MQ below (xQi E (NT + 0) r) args s 0 0 (xA E)) 64 [(0, .ref (E.B + a0)), (1, .int v1), (2, .int v2), (4, .int v4), (5, .int v5)] [.int s0] σ (f_X6_reaches_65 N K7 K19 a0 v1 v2 v4 v5 (0 : Int32) s0 (σ))
  refine jr_iconst (v := (0 : Int32)) hG dX6_reaches_64 (by decide) ?_
  exact w_X6_reaches_65 N hG hr hk hK7 hK19 a0 v1 v2 v4 v5 (0 : Int32) s0 ha0 (σ)
def f_X6_reaches_54 (N : Nat) (K7 : Nat → Int32 → Int32 → Int32 → Int32 → Mm → Option (Int32 × Mm)) (K19 : Nat → Int32 → Int32 → Int32 → Int32 → Int32 → Mm → Option (Int32 × Mm)) (a0 : Nat) (v1 : Int32) (v2 : Int32) (v4 : Int32) (v5 : Int32) (s0 : Int32) (σ : Mm) : Option (Int32 × Mm) := bR (gr σ a0 21) (okA 0) (fun o6 => if inb v5 (arL o6) then (f_X6_reaches_65 N K7 K19 a0 v1 v2 v4 v5 (gi σ o6 (ix v5)) s0 (σ)) else none)
set_option maxRecDepth 20000 in
theorem w_X6_reaches_54 {p : Program} {l : Launch} {e : Env} {s : State} {m : MethodId} {args : Array Value} {below : List Frame} {meth : Method} {c : Code} {E : XE} (N : Nat) (hG : GG E NT 6 RX6 cX6_reaches p s m args c) (hr : meth.sig.returnType = (some .int)) (hk : meth.locks = false) {K7 : Nat → Int32 → Int32 → Int32 → Int32 → Mm → Option (Int32 × Mm)} (hK7 : ∀ (a0 : Nat) (v1 : Int32) (v2 : Int32) (v3 : Int32) (v4 : Int32) (ha0 : okO 6 a0 = true) (σ : Mm), JR E NT 6 p l e rm_X6_reaches s m args below meth c 0 0 (fun r => MQ below (xQi E (NT + 0) r) args s 0 0 (xA E)) 7 [(0, .ref (E.B + a0)), (1, .int v1), (2, .int v2), (3, .int v3), (4, .int v4)] [] σ (K7 a0 v1 v2 v3 v4 σ)) {K19 : Nat → Int32 → Int32 → Int32 → Int32 → Int32 → Mm → Option (Int32 × Mm)} (hK19 : ∀ (a0 : Nat) (v1 : Int32) (v2 : Int32) (v3 : Int32) (v4 : Int32) (v5 : Int32) (ha0 : okO 6 a0 = true) (σ : Mm), JR E NT 6 p l e rm_X6_reaches s m args below meth c 0 0 (fun r => MQ below (xQi E (NT + 0) r) args s 0 0 (xA E)) 19 [(0, .ref (E.B + a0)), (1, .int v1), (2, .int v2), (3, .int v3), (4, .int v4), (5, .int v5)] [] σ (K19 a0 v1 v2 v3 v4 v5 σ)) (a0 : Nat) (v1 : Int32) (v2 : Int32) (v4 : Int32) (v5 : Int32) (s0 : Int32) (ha0 : okO 6 a0 = true) (σ : Mm) : JR E NT 6 p l e rm_X6_reaches s m args below meth c 0 0 (fun r => MQ below (xQi E (NT + 0) r) args s 0 0 (xA E)) 54 [(0, .ref (E.B + a0)), (1, .int v1), (2, .int v2), (4, .int v4), (5, .int v5)] [.int s0] σ (f_X6_reaches_54 N K7 K19 a0 v1 v2 v4 v5 s0 σ) := by
  show JR E NT 6 p l e rm_X6_reaches s m args below meth c 0 0 (fun r => MQ below (xQi E (NT + 0) r) args s 0 0 (xA E)) 54 [(0, .ref (E.B + a0)), (1, .int v1), (2, .int v2), (4, .int v4), (5, .int v5)] [.int s0] σ (bR (gr σ a0 21) (okA 0) (fun o6 => if inb v5 (arL o6) then (f_X6_reaches_65 N K7 K19 a0 v1 v2 v4 v5 (gi σ o6 (ix v5)) s0 (σ)) else none))
  refine jr_aload_n hG 0 dX6_reaches_54 rfl rfl ?_
  refine jr_getR hG fi_RX6_54 rfl (okO_s ha0) (okO_l ha0) dX6_reaches_55 (fun o6 ho6 => ?_)
  refine jr_iload hG 4 dX6_reaches_58 rfl ?_
  refine jr_iald hG (okA_s (by decide) ho6) (okA_l ho6) dX6_reaches_60 ?_
  refine jr_goto hG 65 dX6_reaches_61 (by decide) ?_
  exact w_X6_reaches_65 N hG hr hk hK7 hK19 a0 v1 v2 v4 v5 (gi σ o6 (ix v5)) s0 ha0 (σ)
def f_X6_reaches_19 (N : Nat) (K7 : Nat → Int32 → Int32 → Int32 → Int32 → Mm → Option (Int32 × Mm)) : Nat → Nat → Int32 → Int32 → Int32 → Int32 → Int32 → Mm → Option (Int32 × Mm)
  | 0 => fun _ _ _ _ _ _ _ => none
  | n + 1 => fun a0 v1 v2 v3 v4 v5 σ => if (gi σ a0 10) ≤ v5 then (K7 a0 v1 v2 v3 v4 (σ)) else (bI (f_X6_has N v4 v5 (σ)) (fun r3 t2 => if r3 = 0 then (f_X6_reaches_64 N K7 (f_X6_reaches_19 N K7 n) a0 v1 v2 v4 v5 v3 t2) else (if v5 = v1 then (f_X6_reaches_54 N K7 (f_X6_reaches_19 N K7 n) a0 v1 v2 v4 v5 v3 t2) else (bI (f_X6_has N v2 v5 t2) (fun r5 t4 => if r5 = 0 then (f_X6_reaches_64 N K7 (f_X6_reaches_19 N K7 n) a0 v1 v2 v4 v5 v3 t4) else (f_X6_reaches_54 N K7 (f_X6_reaches_19 N K7 n) a0 v1 v2 v4 v5 v3 t4))))))
set_option maxRecDepth 20000 in
theorem w_X6_reaches_19 {p : Program} {l : Launch} {e : Env} {s : State} {m : MethodId} {args : Array Value} {below : List Frame} {meth : Method} {c : Code} {E : XE} (N : Nat) (hG : GG E NT 6 RX6 cX6_reaches p s m args c) (hr : meth.sig.returnType = (some .int)) (hk : meth.locks = false) {K7 : Nat → Int32 → Int32 → Int32 → Int32 → Mm → Option (Int32 × Mm)} (hK7 : ∀ (a0 : Nat) (v1 : Int32) (v2 : Int32) (v3 : Int32) (v4 : Int32) (ha0 : okO 6 a0 = true) (σ : Mm), JR E NT 6 p l e rm_X6_reaches s m args below meth c 0 0 (fun r => MQ below (xQi E (NT + 0) r) args s 0 0 (xA E)) 7 [(0, .ref (E.B + a0)), (1, .int v1), (2, .int v2), (3, .int v3), (4, .int v4)] [] σ (K7 a0 v1 v2 v3 v4 σ)) : ∀ (n : Nat) (a0 : Nat) (v1 : Int32) (v2 : Int32) (v3 : Int32) (v4 : Int32) (v5 : Int32) (ha0 : okO 6 a0 = true) (σ : Mm), JR E NT 6 p l e rm_X6_reaches s m args below meth c 0 0 (fun r => MQ below (xQi E (NT + 0) r) args s 0 0 (xA E)) 19 [(0, .ref (E.B + a0)), (1, .int v1), (2, .int v2), (3, .int v3), (4, .int v4), (5, .int v5)] [] σ (f_X6_reaches_19 N K7 n a0 v1 v2 v3 v4 v5 σ) := by
  intro n
  induction n with
  | zero => intro a0 v1 v2 v3 v4 v5 ha0 σ r hX; cases hX
  | succ n ih =>
    intro a0 v1 v2 v3 v4 v5 ha0 σ
    show JR E NT 6 p l e rm_X6_reaches s m args below meth c 0 0 (fun r => MQ below (xQi E (NT + 0) r) args s 0 0 (xA E)) 19 [(0, .ref (E.B + a0)), (1, .int v1), (2, .int v2), (3, .int v3), (4, .int v4), (5, .int v5)] [] σ (if (gi σ a0 10) ≤ v5 then (K7 a0 v1 v2 v3 v4 (σ)) else (bI (f_X6_has N v4 v5 (σ)) (fun r3 t2 => if r3 = 0 then (f_X6_reaches_64 N K7 (f_X6_reaches_19 N K7 n) a0 v1 v2 v4 v5 v3 t2) else (if v5 = v1 then (f_X6_reaches_54 N K7 (f_X6_reaches_19 N K7 n) a0 v1 v2 v4 v5 v3 t2) else (bI (f_X6_has N v2 v5 t2) (fun r5 t4 => if r5 = 0 then (f_X6_reaches_64 N K7 (f_X6_reaches_19 N K7 n) a0 v1 v2 v4 v5 v3 t4) else (f_X6_reaches_54 N K7 (f_X6_reaches_19 N K7 n) a0 v1 v2 v4 v5 v3 t4)))))))
    refine jr_iload hG 5 dX6_reaches_19 rfl ?_
    refine jr_aload_n hG 0 dX6_reaches_21 rfl rfl ?_
    refine jr_getI hG fi_RX6_147 rfl (okO_s ha0) (okO_l ha0) dX6_reaches_22 ?_
    refine jr_icmp_ge hG 73 dX6_reaches_25 (by decide) (fun _ => ?_) (fun _ => ?_)
    · refine jr_goto hG 7 dX6_reaches_73 (by decide) ?_
      refine jr_sub (lv' := [(0, .ref (E.B + a0)), (1, .int v1), (2, .int v2), (3, .int v3), (4, .int v4)]) [0, 1, 2, 3, 4] rfl ?_
      exact hK7 a0 v1 v2 v3 v4 ha0 (σ)
    · refine jr_iload_n hG 3 dX6_reaches_28 rfl rfl ?_
      refine jr_iload hG 4 dX6_reaches_29 rfl ?_
      refine jr_iload hG 5 dX6_reaches_31 rfl ?_
      refine jr_callSi (As := [.int v4, .int v5]) hG (c_X6_has l E N v4 v5 (σ)) ci_X6_has wd_932 wd_933 ⟨rfl, rfl, Nat.le_of_ble_eq_true rfl, Nat.le_of_ble_eq_true rfl⟩ rfl rfl (Nat.le_of_ble_eq_true rfl) dX6_reaches_33 ⟨Nat.le_refl _, Nat.le_refl _⟩ (fun r3 t2 => ?_)
      refine jr_if_eq hG 64 dX6_reaches_36 (by decide) (fun _ => ?_) (fun _ => ?_)
      · refine jr_sub (lv' := [(0, .ref (E.B + a0)), (1, .int v1), (2, .int v2), (4, .int v4), (5, .int v5)]) [0, 1, 2, 4, 5] rfl ?_
        exact w_X6_reaches_64 N hG hr hk hK7 ih a0 v1 v2 v4 v5 v3 ha0 t2
      · refine jr_iload hG 5 dX6_reaches_39 rfl ?_
        refine jr_iload_n hG 1 dX6_reaches_41 rfl rfl ?_
        refine jr_icmp_eq hG 54 dX6_reaches_42 (by decide) (fun _ => ?_) (fun _ => ?_)
        · refine jr_sub (lv' := [(0, .ref (E.B + a0)), (1, .int v1), (2, .int v2), (4, .int v4), (5, .int v5)]) [0, 1, 2, 4, 5] rfl ?_
          exact w_X6_reaches_54 N hG hr hk hK7 ih a0 v1 v2 v4 v5 v3 ha0 t2
        · refine jr_iload_n hG 2 dX6_reaches_45 rfl rfl ?_
          refine jr_iload hG 5 dX6_reaches_46 rfl ?_
          refine jr_callSi (As := [.int v2, .int v5]) hG (c_X6_has l E N v2 v5 t2) ci_X6_has wd_932 wd_933 ⟨rfl, rfl, Nat.le_of_ble_eq_true rfl, Nat.le_of_ble_eq_true rfl⟩ rfl rfl (Nat.le_of_ble_eq_true rfl) dX6_reaches_48 ⟨Nat.le_refl _, Nat.le_refl _⟩ (fun r5 t4 => ?_)
          refine jr_if_eq hG 64 dX6_reaches_51 (by decide) (fun _ => ?_) (fun _ => ?_)
          · refine jr_sub (lv' := [(0, .ref (E.B + a0)), (1, .int v1), (2, .int v2), (4, .int v4), (5, .int v5)]) [0, 1, 2, 4, 5] rfl ?_
            exact w_X6_reaches_64 N hG hr hk hK7 ih a0 v1 v2 v4 v5 v3 ha0 t4
          · refine jr_sub (lv' := [(0, .ref (E.B + a0)), (1, .int v1), (2, .int v2), (4, .int v4), (5, .int v5)]) [0, 1, 2, 4, 5] rfl ?_
            exact w_X6_reaches_54 N hG hr hk hK7 ih a0 v1 v2 v4 v5 v3 ha0 t4
def f_X6_reaches_7 (N : Nat)  : Nat → Nat → Int32 → Int32 → Int32 → Int32 → Mm → Option (Int32 × Mm)
  | 0 => fun _ _ _ _ _ _ => none
  | n + 1 => fun a0 v1 v2 v3 v4 σ => if v4 = v3 then (some (v3, σ)) else (f_X6_reaches_19 N (f_X6_reaches_7 N n) N a0 v1 v2 v3 v3 (0 : Int32) (σ))
set_option maxRecDepth 20000 in
theorem w_X6_reaches_7 {p : Program} {l : Launch} {e : Env} {s : State} {m : MethodId} {args : Array Value} {below : List Frame} {meth : Method} {c : Code} {E : XE} (N : Nat) (hG : GG E NT 6 RX6 cX6_reaches p s m args c) (hr : meth.sig.returnType = (some .int)) (hk : meth.locks = false)  : ∀ (n : Nat) (a0 : Nat) (v1 : Int32) (v2 : Int32) (v3 : Int32) (v4 : Int32) (ha0 : okO 6 a0 = true) (σ : Mm), JR E NT 6 p l e rm_X6_reaches s m args below meth c 0 0 (fun r => MQ below (xQi E (NT + 0) r) args s 0 0 (xA E)) 7 [(0, .ref (E.B + a0)), (1, .int v1), (2, .int v2), (3, .int v3), (4, .int v4)] [] σ (f_X6_reaches_7 N n a0 v1 v2 v3 v4 σ) := by
  intro n
  induction n with
  | zero => intro a0 v1 v2 v3 v4 ha0 σ r hX; cases hX
  | succ n ih =>
    intro a0 v1 v2 v3 v4 ha0 σ
    show JR E NT 6 p l e rm_X6_reaches s m args below meth c 0 0 (fun r => MQ below (xQi E (NT + 0) r) args s 0 0 (xA E)) 7 [(0, .ref (E.B + a0)), (1, .int v1), (2, .int v2), (3, .int v3), (4, .int v4)] [] σ (if v4 = v3 then (some (v3, σ)) else (f_X6_reaches_19 N (f_X6_reaches_7 N n) N a0 v1 v2 v3 v3 (0 : Int32) (σ)))
    refine jr_iload hG 4 dX6_reaches_7 rfl ?_
    refine jr_iload_n hG 3 dX6_reaches_9 rfl rfl ?_
    refine jr_icmp_eq hG 76 dX6_reaches_10 (by decide) (fun _ => ?_) (fun _ => ?_)
    · refine jr_iload_n hG 3 dX6_reaches_76 rfl rfl ?_
      exact jr_iret hG hr hk dX6_reaches_77
    · refine jr_iload_n hG 3 dX6_reaches_13 rfl rfl ?_
      refine jr_istore (lv' := [(4, .int v3), (0, .ref (E.B + a0)), (1, .int v1), (2, .int v2), (3, .int v3)]) hG dX6_reaches_14 (by decide) rfl ?_
      refine jr_iconst (v := (0 : Int32)) hG dX6_reaches_16 (by decide) ?_
      refine jr_istore (lv' := [(5, .int (0 : Int32)), (4, .int v3), (0, .ref (E.B + a0)), (1, .int v1), (2, .int v2), (3, .int v3)]) hG dX6_reaches_17 (by decide) rfl ?_
      refine jr_sub (lv' := [(0, .ref (E.B + a0)), (1, .int v1), (2, .int v2), (3, .int v3), (4, .int v3), (5, .int (0 : Int32))]) [2, 3, 4, 5, 1, 0] rfl ?_
      exact w_X6_reaches_19 N hG hr hk ih N a0 v1 v2 v3 v3 (0 : Int32) ha0 (σ)
def f_X6_reaches (N : Nat) (a0 : Nat) (v1 : Int32) (v2 : Int32) (σ : Mm) : Option (Int32 × Mm) := if okO 6 a0 then (lt ((1 : Int32) <<< (v1 &&& 31)) (fun x1 => f_X6_reaches_7 N N a0 v1 v2 x1 (0 : Int32) (σ))) else none
set_option maxRecDepth 20000 in
theorem c_X6_reaches (l : Launch) (E : XE) (N : Nat) (a0 : Nat) (v1 : Int32) (v2 : Int32) (σ : Mm) : ∀ r0, f_X6_reaches N a0 v1 v2 σ = some r0 → Met l yX6_reaches [Cond.code yX6_reaches cX6_reaches 6 (some .int)] rm_X6_reaches (xPc E (NT + 0) σ [.ref (E.B + a0), .int v1, .int v2]) (xQi E (NT + 0) r0) 0 0 (xA E) := by
  refine met_of (N0 := NT) (by decide +kernel) (Nat.le_of_ble_eq_true rfl) ?_
  intro p e s m args below meth c hG hr hk _
  show JR E NT 6 p l e rm_X6_reaches s m args below meth c 0 0 (fun r => MQ below (xQi E (NT + 0) r) args s 0 0 (xA E)) 0 [(0, .ref (E.B + a0)), (1, .int v1), (2, .int v2)] [] σ (if okO 6 a0 then (lt ((1 : Int32) <<< (v1 &&& 31)) (fun x1 => f_X6_reaches_7 N N a0 v1 v2 x1 (0 : Int32) (σ))) else none)
  refine jr_guard (fun ha0 => ?_)
  refine jr_iconst (v := (1 : Int32)) hG dX6_reaches_0 (by decide) ?_
  refine jr_iload_n hG 1 dX6_reaches_1 rfl rfl ?_
  refine jr_ishl hG dX6_reaches_2 ?_
  refine jr_leti (fun x1 _ => ?_)
  refine jr_istore_n (lv' := [(3, .int x1), (0, .ref (E.B + a0)), (1, .int v1), (2, .int v2)]) hG dX6_reaches_3 rfl (by decide) rfl ?_
  refine jr_iconst (v := (0 : Int32)) hG dX6_reaches_4 (by decide) ?_
  refine jr_istore (lv' := [(4, .int (0 : Int32)), (3, .int x1), (0, .ref (E.B + a0)), (1, .int v1), (2, .int v2)]) hG dX6_reaches_5 (by decide) rfl ?_
  refine jr_sub (lv' := [(0, .ref (E.B + a0)), (1, .int v1), (2, .int v2), (3, .int x1), (4, .int (0 : Int32))]) [2, 3, 4, 1, 0] rfl ?_
  exact w_X6_reaches_7 N hG hr hk N a0 v1 v2 x1 (0 : Int32) ha0 (σ)
-- TonguesDealtModel.everybody()I
abbrev rm_X6_everybody : Room := { frames := 0, cells := 0, slots := 0, locals := 0 }
theorem ci_X6_everybody : CIx yX6_everybody cX6_everybody 1 (some .int) 0 := ⟨wd_1067, wd_77, by decide +kernel⟩
def f_X6_everybody (N : Nat) (a0 : Nat) (σ : Mm) : Option (Int32 × Mm) := if okO 6 a0 then (some (((1 : Int32) <<< ((gi σ a0 10) &&& 31)) - (1 : Int32), σ)) else none
set_option maxRecDepth 20000 in
theorem c_X6_everybody (l : Launch) (E : XE) (N : Nat) (a0 : Nat) (σ : Mm) : ∀ r0, f_X6_everybody N a0 σ = some r0 → Met l yX6_everybody [Cond.code yX6_everybody cX6_everybody 1 (some .int)] rm_X6_everybody (xPc E (NT + 0) σ [.ref (E.B + a0)]) (xQi E (NT + 0) r0) 0 0 (xA E) := by
  refine met_of (N0 := NT) (by decide +kernel) (Nat.le_of_ble_eq_true rfl) ?_
  intro p e s m args below meth c hG hr hk _
  show JR E NT 1 p l e rm_X6_everybody s m args below meth c 0 0 (fun r => MQ below (xQi E (NT + 0) r) args s 0 0 (xA E)) 0 [(0, .ref (E.B + a0))] [] σ (if okO 6 a0 then (some (((1 : Int32) <<< ((gi σ a0 10) &&& 31)) - (1 : Int32), σ)) else none)
  refine jr_guard (fun ha0 => ?_)
  refine jr_iconst (v := (1 : Int32)) hG dX6_everybody_0 (by decide) ?_
  refine jr_aload_n hG 0 dX6_everybody_1 rfl rfl ?_
  refine jr_getI hG fi_RX6_147 rfl (okO_s ha0) (okO_l ha0) dX6_everybody_2 ?_
  refine jr_ishl hG dX6_everybody_5 ?_
  refine jr_iconst (v := (1 : Int32)) hG dX6_everybody_6 (by decide) ?_
  refine jr_isub hG dX6_everybody_7 ?_
  exact jr_iret hG hr hk dX6_everybody_8
-- TonguesDealtModel.stepsOf(II)I
abbrev rm_X6_stepsOf : Room := { frames := 1, cells := 0, slots := 0, locals := 21 }
theorem ci_X6_stepsOf : CIx yX6_stepsOf cX6_stepsOf 7 (some .int) 2 := ⟨wd_1055, wd_77, by decide +kernel⟩
def f_X6_stepsOf_64 (N : Nat) (K7 : Nat → Int32 → Int32 → Int32 → Mm → Option (Int32 × Mm)) (K33 : Nat → Int32 → Int32 → Int32 → Int32 → Int32 → Mm → Option (Int32 × Mm)) (a0 : Nat) (v2 : Int32) (v3 : Int32) (v4 : Int32) (v6 : Int32) (s0 : Int32) (s1 : Int32) (σ : Mm) : Option (Int32 × Mm) := lt (s1 ||| s0) (fun x7 => K33 a0 v2 v3 v4 x7 (v6 + (1 : Int32)) (σ))
set_option maxRecDepth 20000 in
theorem w_X6_stepsOf_64 {p : Program} {l : Launch} {e : Env} {s : State} {m : MethodId} {args : Array Value} {below : List Frame} {meth : Method} {c : Code} {E : XE} (N : Nat) (hG : GG E NT 7 RX6 cX6_stepsOf p s m args c) (hr : meth.sig.returnType = (some .int)) (hk : meth.locks = false) {K7 : Nat → Int32 → Int32 → Int32 → Mm → Option (Int32 × Mm)} (hK7 : ∀ (a0 : Nat) (v2 : Int32) (v3 : Int32) (v4 : Int32) (ha0 : okO 6 a0 = true) (σ : Mm), JR E NT 7 p l e rm_X6_stepsOf s m args below meth c 0 0 (fun r => MQ below (xQi E (NT + 0) r) args s 0 0 (xA E)) 7 [(0, .ref (E.B + a0)), (2, .int v2), (3, .int v3), (4, .int v4)] [] σ (K7 a0 v2 v3 v4 σ)) {K33 : Nat → Int32 → Int32 → Int32 → Int32 → Int32 → Mm → Option (Int32 × Mm)} (hK33 : ∀ (a0 : Nat) (v2 : Int32) (v3 : Int32) (v4 : Int32) (v5 : Int32) (v6 : Int32) (ha0 : okO 6 a0 = true) (σ : Mm), JR E NT 7 p l e rm_X6_stepsOf s m args below meth c 0 0 (fun r => MQ below (xQi E (NT + 0) r) args s 0 0 (xA E)) 33 [(0, .ref (E.B + a0)), (2, .int v2), (3, .int v3), (4, .int v4), (5, .int v5), (6, .int v6)] [] σ (K33 a0 v2 v3 v4 v5 v6 σ)) (a0 : Nat) (v2 : Int32) (v3 : Int32) (v4 : Int32) (v6 : Int32) (s0 : Int32) (s1 : Int32) (ha0 : okO 6 a0 = true) (σ : Mm) : JR E NT 7 p l e rm_X6_stepsOf s m args below meth c 0 0 (fun r => MQ below (xQi E (NT + 0) r) args s 0 0 (xA E)) 64 [(0, .ref (E.B + a0)), (2, .int v2), (3, .int v3), (4, .int v4), (6, .int v6)] [.int s0, .int s1] σ (f_X6_stepsOf_64 N K7 K33 a0 v2 v3 v4 v6 s0 s1 σ) := by
  show JR E NT 7 p l e rm_X6_stepsOf s m args below meth c 0 0 (fun r => MQ below (xQi E (NT + 0) r) args s 0 0 (xA E)) 64 [(0, .ref (E.B + a0)), (2, .int v2), (3, .int v3), (4, .int v4), (6, .int v6)] [.int s0, .int s1] σ (lt (s1 ||| s0) (fun x7 => K33 a0 v2 v3 v4 x7 (v6 + (1 : Int32)) (σ)))
  refine jr_ior hG dX6_stepsOf_64 ?_
  refine jr_leti (fun x7 _ => ?_)
  refine jr_istore (lv' := [(5, .int x7), (0, .ref (E.B + a0)), (2, .int v2), (3, .int v3), (4, .int v4), (6, .int v6)]) hG dX6_stepsOf_65 (by decide) rfl ?_
  refine jr_iinc (v := v6 + (1 : Int32)) (lv' := [(6, .int (v6 + (1 : Int32))), (5, .int x7), (0, .ref (E.B + a0)), (2, .int v2), (3, .int v3), (4, .int v4)]) hG 5 dX6_stepsOf_67 rfl rfl (by decide) rfl ?_
  refine jr_goto hG 33 dX6_stepsOf_70 (by decide) ?_
  refine jr_sub (lv' := [(0, .ref (E.B + a0)), (2, .int v2), (3, .int v3), (4, .int v4), (5, .int x7), (6, .int (v6 + (1 : Int32)))]) [2, 3, 4, 5, 1, 0] rfl ?_
  exact hK33 a0 v2 v3 v4 x7 (v6 + (1 : Int32)) ha0 (σ)
def f_X6_stepsOf_33 (N : Nat) (K7 : Nat → Int32 → Int32 → Int32 → Mm → Option (Int32 × Mm)) : Nat → Nat → Int32 → Int32 → Int32 → Int32 → Int32 → Mm → Option (Int32 × Mm)
  | 0 => fun _ _ _ _ _ _ _ => none
  | n + 1 => fun a0 v2 v3 v4 v5 v6 σ => if (gi σ a0 10) ≤ v6 then (K7 a0 v2 v5 (v4 + (1 : Int32)) (σ)) else (bI (f_X6_has N v3 v6 (σ)) (fun r5 t4 => if r5 = 0 then (f_X6_stepsOf_64 N K7 (f_X6_stepsOf_33 N K7 n) a0 v2 v3 v4 v6 (0 : Int32) v5 t4) else (bR (gr t4 a0 21) (okA 0) (fun o6 => if inb v6 (arL o6) then (f_X6_stepsOf_64 N K7 (f_X6_stepsOf_33 N K7 n) a0 v2 v3 v4 v6 (gi t4 o6 (ix v6)) v5 t4) else none))))
set_option maxRecDepth 20000 in
theorem w_X6_stepsOf_33 {p : Program} {l : Launch} {e : Env} {s : State} {m : MethodId} {args : Array Value} {below : List Frame} {meth : Method} {c : Code} {E : XE} (N : Nat) (hG : GG E NT 7 RX6 cX6_stepsOf p s m args c) (hr : meth.sig.returnType = (some .int)) (hk : meth.locks = false) {K7 : Nat → Int32 → Int32 → Int32 → Mm → Option (Int32 × Mm)} (hK7 : ∀ (a0 : Nat) (v2 : Int32) (v3 : Int32) (v4 : Int32) (ha0 : okO 6 a0 = true) (σ : Mm), JR E NT 7 p l e rm_X6_stepsOf s m args below meth c 0 0 (fun r => MQ below (xQi E (NT + 0) r) args s 0 0 (xA E)) 7 [(0, .ref (E.B + a0)), (2, .int v2), (3, .int v3), (4, .int v4)] [] σ (K7 a0 v2 v3 v4 σ)) : ∀ (n : Nat) (a0 : Nat) (v2 : Int32) (v3 : Int32) (v4 : Int32) (v5 : Int32) (v6 : Int32) (ha0 : okO 6 a0 = true) (σ : Mm), JR E NT 7 p l e rm_X6_stepsOf s m args below meth c 0 0 (fun r => MQ below (xQi E (NT + 0) r) args s 0 0 (xA E)) 33 [(0, .ref (E.B + a0)), (2, .int v2), (3, .int v3), (4, .int v4), (5, .int v5), (6, .int v6)] [] σ (f_X6_stepsOf_33 N K7 n a0 v2 v3 v4 v5 v6 σ) := by
  intro n
  induction n with
  | zero => intro a0 v2 v3 v4 v5 v6 ha0 σ r hX; cases hX
  | succ n ih =>
    intro a0 v2 v3 v4 v5 v6 ha0 σ
    show JR E NT 7 p l e rm_X6_stepsOf s m args below meth c 0 0 (fun r => MQ below (xQi E (NT + 0) r) args s 0 0 (xA E)) 33 [(0, .ref (E.B + a0)), (2, .int v2), (3, .int v3), (4, .int v4), (5, .int v5), (6, .int v6)] [] σ (if (gi σ a0 10) ≤ v6 then (K7 a0 v2 v5 (v4 + (1 : Int32)) (σ)) else (bI (f_X6_has N v3 v6 (σ)) (fun r5 t4 => if r5 = 0 then (f_X6_stepsOf_64 N K7 (f_X6_stepsOf_33 N K7 n) a0 v2 v3 v4 v6 (0 : Int32) v5 t4) else (bR (gr t4 a0 21) (okA 0) (fun o6 => if inb v6 (arL o6) then (f_X6_stepsOf_64 N K7 (f_X6_stepsOf_33 N K7 n) a0 v2 v3 v4 v6 (gi t4 o6 (ix v6)) v5 t4) else none)))))
    refine jr_iload hG 5 dX6_stepsOf_33 rfl ?_
    refine jr_aload_n hG 0 dX6_stepsOf_35 rfl rfl ?_
    refine jr_getI hG fi_RX6_147 rfl (okO_s ha0) (okO_l ha0) dX6_stepsOf_36 ?_
    refine jr_icmp_ge hG 73 dX6_stepsOf_39 (by decide) (fun _ => ?_) (fun _ => ?_)
    · refine jr_iload hG 4 dX6_stepsOf_73 rfl ?_
      refine jr_istore_n (lv' := [(3, .int v5), (0, .ref (E.B + a0)), (2, .int v2), (4, .int v4), (5, .int v5), (6, .int v6)]) hG dX6_stepsOf_75 rfl (by decide) rfl ?_
      refine jr_iinc (v := v4 + (1 : Int32)) (lv' := [(4, .int (v4 + (1 : Int32))), (3, .int v5), (0, .ref (E.B + a0)), (2, .int v2), (5, .int v5), (6, .int v6)]) hG 3 dX6_stepsOf_76 rfl rfl (by decide) rfl ?_
      refine jr_goto hG 7 dX6_stepsOf_79 (by decide) ?_
      refine jr_sub (lv' := [(0, .ref (E.B + a0)), (2, .int v2), (3, .int v5), (4, .int (v4 + (1 : Int32)))]) [2, 3, 1, 0] rfl ?_
      exact hK7 a0 v2 v5 (v4 + (1 : Int32)) ha0 (σ)
    · refine jr_iload hG 4 dX6_stepsOf_42 rfl ?_
      refine jr_iload_n hG 2 dX6_stepsOf_44 rfl rfl ?_
      refine jr_iload hG 5 dX6_stepsOf_45 rfl ?_
      refine jr_callSi (As := [.int v3, .int v6]) hG (c_X6_has l E N v3 v6 (σ)) ci_X6_has wd_932 wd_933 ⟨rfl, rfl, Nat.le_of_ble_eq_true rfl, Nat.le_of_ble_eq_true rfl⟩ rfl rfl (Nat.le_of_ble_eq_true rfl) dX6_stepsOf_47 ⟨Nat.le_refl _, Nat.le_refl _⟩ (fun r5 t4 => ?_)
      refine jr_if_eq hG 63 dX6_stepsOf_50 (by decide) (fun _ => ?_) (fun _ => ?_)
      · refine jr_iconst (v := (0 : Int32)) hG dX6_stepsOf_63 (by decide) ?_
        refine jr_sub (lv' := [(0, .ref (E.B + a0)), (2, .int v2), (3, .int v3), (4, .int v4), (6, .int v6)]) [0, 1, 2, 3, 5] rfl ?_
        exact w_X6_stepsOf_64 N hG hr hk hK7 ih a0 v2 v3 v4 v6 (0 : Int32) v5 ha0 t4
      · refine jr_aload_n hG 0 dX6_stepsOf_53 rfl rfl ?_
        refine jr_getR hG fi_RX6_54 rfl (okO_s ha0) (okO_l ha0) dX6_stepsOf_54 (fun o6 ho6 => ?_)
        refine jr_iload hG 5 dX6_stepsOf_57 rfl ?_
        refine jr_iald hG (okA_s (by decide) ho6) (okA_l ho6) dX6_stepsOf_59 ?_
        refine jr_goto hG 64 dX6_stepsOf_60 (by decide) ?_
        refine jr_sub (lv' := [(0, .ref (E.B + a0)), (2, .int v2), (3, .int v3), (4, .int v4), (6, .int v6)]) [0, 1, 2, 3, 5] rfl ?_
        exact w_X6_stepsOf_64 N hG hr hk hK7 ih a0 v2 v3 v4 v6 (gi t4 o6 (ix v6)) v5 ha0 t4
def f_X6_stepsOf_7 (N : Nat)  : Nat → Nat → Int32 → Int32 → Int32 → Mm → Option (Int32 × Mm)
  | 0 => fun _ _ _ _ _ => none
  | n + 1 => fun a0 v2 v3 v4 σ => if (gi σ a0 10) < v4 then (some ((-9 : Int32), σ)) else (bI (f_X6_has N v3 v2 (σ)) (fun r3 t2 => if r3 = 0 then (f_X6_stepsOf_33 N (f_X6_stepsOf_7 N n) N a0 v2 v3 v4 v3 (0 : Int32) t2) else (some (v4, t2))))
set_option maxRecDepth 20000 in
theorem w_X6_stepsOf_7 {p : Program} {l : Launch} {e : Env} {s : State} {m : MethodId} {args : Array Value} {below : List Frame} {meth : Method} {c : Code} {E : XE} (N : Nat) (hG : GG E NT 7 RX6 cX6_stepsOf p s m args c) (hr : meth.sig.returnType = (some .int)) (hk : meth.locks = false)  : ∀ (n : Nat) (a0 : Nat) (v2 : Int32) (v3 : Int32) (v4 : Int32) (ha0 : okO 6 a0 = true) (σ : Mm), JR E NT 7 p l e rm_X6_stepsOf s m args below meth c 0 0 (fun r => MQ below (xQi E (NT + 0) r) args s 0 0 (xA E)) 7 [(0, .ref (E.B + a0)), (2, .int v2), (3, .int v3), (4, .int v4)] [] σ (f_X6_stepsOf_7 N n a0 v2 v3 v4 σ) := by
  intro n
  induction n with
  | zero => intro a0 v2 v3 v4 ha0 σ r hX; cases hX
  | succ n ih =>
    intro a0 v2 v3 v4 ha0 σ
    show JR E NT 7 p l e rm_X6_stepsOf s m args below meth c 0 0 (fun r => MQ below (xQi E (NT + 0) r) args s 0 0 (xA E)) 7 [(0, .ref (E.B + a0)), (2, .int v2), (3, .int v3), (4, .int v4)] [] σ (if (gi σ a0 10) < v4 then (some ((-9 : Int32), σ)) else (bI (f_X6_has N v3 v2 (σ)) (fun r3 t2 => if r3 = 0 then (f_X6_stepsOf_33 N (f_X6_stepsOf_7 N n) N a0 v2 v3 v4 v3 (0 : Int32) t2) else (some (v4, t2)))))
    refine jr_iload hG 3 dX6_stepsOf_7 rfl ?_
    refine jr_aload_n hG 0 dX6_stepsOf_9 rfl rfl ?_
    refine jr_getI hG fi_RX6_147 rfl (okO_s ha0) (okO_l ha0) dX6_stepsOf_10 ?_
    refine jr_icmp_gt hG 82 dX6_stepsOf_13 (by decide) (fun _ => ?_) (fun _ => ?_)
    · refine jr_bipush (v := (-9 : Int32)) hG dX6_stepsOf_82 (by decide) ?_
      exact jr_iret hG hr hk dX6_stepsOf_84
    · refine jr_iload_n hG 2 dX6_stepsOf_16 rfl rfl ?_
      refine jr_iload_n hG 1 dX6_stepsOf_17 rfl rfl ?_
      refine jr_callSi (As := [.int v3, .int v2]) hG (c_X6_has l E N v3 v2 (σ)) ci_X6_has wd_932 wd_933 ⟨rfl, rfl, Nat.le_of_ble_eq_true rfl, Nat.le_of_ble_eq_true rfl⟩ rfl rfl (Nat.le_of_ble_eq_true rfl) dX6_stepsOf_18 ⟨Nat.le_refl _, Nat.le_refl _⟩ (fun r3 t2 => ?_)
      refine jr_if_eq hG 27 dX6_stepsOf_21 (by decide) (fun _ => ?_) (fun _ => ?_)
      · refine jr_iload_n hG 2 dX6_stepsOf_27 rfl rfl ?_
        refine jr_istore (lv' := [(5, .int v3), (0, .ref (E.B + a0)), (2, .int v2), (3, .int v3), (4, .int v4)]) hG dX6_stepsOf_28 (by decide) rfl ?_
        refine jr_iconst (v := (0 : Int32)) hG dX6_stepsOf_30 (by decide) ?_
        refine jr_istore (lv' := [(6, .int (0 : Int32)), (5, .int v3), (0, .ref (E.B + a0)), (2, .int v2), (3, .int v3), (4, .int v4)]) hG dX6_stepsOf_31 (by decide) rfl ?_
        refine jr_sub (lv' := [(0, .ref (E.B + a0)), (2, .int v2), (3, .int v3), (4, .int v4), (5, .int v3), (6, .int (0 : Int32))]) [2, 3, 4, 5, 1, 0] rfl ?_
        exact w_X6_stepsOf_33 N hG hr hk ih N a0 v2 v3 v4 v3 (0 : Int32) ha0 t2
      · refine jr_iload hG 3 dX6_stepsOf_24 rfl ?_
        exact jr_iret hG hr hk dX6_stepsOf_26
def f_X6_stepsOf (N : Nat) (a0 : Nat) (v1 : Int32) (v2 : Int32) (σ : Mm) : Option (Int32 × Mm) := if okO 6 a0 then (lt ((1 : Int32) <<< (v1 &&& 31)) (fun x1 => f_X6_stepsOf_7 N N a0 v2 x1 (0 : Int32) (σ))) else none
set_option maxRecDepth 20000 in
theorem c_X6_stepsOf (l : Launch) (E : XE) (N : Nat) (a0 : Nat) (v1 : Int32) (v2 : Int32) (σ : Mm) : ∀ r0, f_X6_stepsOf N a0 v1 v2 σ = some r0 → Met l yX6_stepsOf [Cond.code yX6_stepsOf cX6_stepsOf 7 (some .int)] rm_X6_stepsOf (xPc E (NT + 0) σ [.ref (E.B + a0), .int v1, .int v2]) (xQi E (NT + 0) r0) 0 0 (xA E) := by
  refine met_of (N0 := NT) (by decide +kernel) (Nat.le_of_ble_eq_true rfl) ?_
  intro p e s m args below meth c hG hr hk _
  show JR E NT 7 p l e rm_X6_stepsOf s m args below meth c 0 0 (fun r => MQ below (xQi E (NT + 0) r) args s 0 0 (xA E)) 0 [(0, .ref (E.B + a0)), (1, .int v1), (2, .int v2)] [] σ (if okO 6 a0 then (lt ((1 : Int32) <<< (v1 &&& 31)) (fun x1 => f_X6_stepsOf_7 N N a0 v2 x1 (0 : Int32) (σ))) else none)
  refine jr_guard (fun ha0 => ?_)
  refine jr_iconst (v := (1 : Int32)) hG dX6_stepsOf_0 (by decide) ?_
  refine jr_iload_n hG 1 dX6_stepsOf_1 rfl rfl ?_
  refine jr_ishl hG dX6_stepsOf_2 ?_
  refine jr_leti (fun x1 _ => ?_)
  refine jr_istore_n (lv' := [(3, .int x1), (0, .ref (E.B + a0)), (1, .int v1), (2, .int v2)]) hG dX6_stepsOf_3 rfl (by decide) rfl ?_
  refine jr_iconst (v := (0 : Int32)) hG dX6_stepsOf_4 (by decide) ?_
  refine jr_istore (lv' := [(4, .int (0 : Int32)), (3, .int x1), (0, .ref (E.B + a0)), (1, .int v1), (2, .int v2)]) hG dX6_stepsOf_5 (by decide) rfl ?_
  refine jr_sub (lv' := [(0, .ref (E.B + a0)), (2, .int v2), (3, .int x1), (4, .int (0 : Int32))]) [2, 4, 1, 0] rfl ?_
  exact w_X6_stepsOf_7 N hG hr hk N a0 v2 x1 (0 : Int32) ha0 (σ)
-- TonguesDealtModel.personTells(II)I
abbrev rm_X6_personTells : Room := { frames := 3, cells := 0, slots := 0, locals := 66 }
theorem ci_X6_personTells : CIx yX6_personTells cX6_personTells 3 (some .int) 2 := ⟨wd_957, wd_77, by decide +kernel⟩
def f_X6_personTells (N : Nat) (a0 : Nat) (v1 : Int32) (v2 : Int32) (σ : Mm) : Option (Int32 × Mm) := if okO 6 a0 then (if v2 = (0 : Int32) then (bR (gr σ a0 11) (okA 0) (fun o1 => if inb v1 (arL o1) then (some (gi σ o1 (ix v1), σ)) else none)) else (if v2 = (1 : Int32) then (bR (gr σ a0 19) (okA 0) (fun o2 => if inb v1 (arL o2) then (some (gi σ o2 (ix v1), σ)) else none)) else (if v2 = (2 : Int32) then (bR (gr σ a0 19) (okA 0) (fun o3 => bI (f_X6_knowsIn N a0 o3 v1 (σ)) (fun r5 t4 => some (r5, t4)))) else (if v2 = (3 : Int32) then (bR (gr σ a0 12) (okA 0) (fun o6 => if inb v1 (arL o6) then (some (gi σ o6 (ix v1), σ)) else none)) else (bR (gr σ a0 19) (okA 0) (fun o7 => if inb ((6 : Int32) + v1) (arL o7) then (some (gi σ o7 (ix ((6 : Int32) + v1)), σ)) else none)))))) else none
set_option maxRecDepth 20000 in
theorem c_X6_personTells (l : Launch) (E : XE) (N : Nat) (a0 : Nat) (v1 : Int32) (v2 : Int32) (σ : Mm) : ∀ r0, f_X6_personTells N a0 v1 v2 σ = some r0 → Met l yX6_personTells [Cond.code yX6_personTells cX6_personTells 3 (some .int)] rm_X6_personTells (xPc E (NT + 0) σ [.ref (E.B + a0), .int v1, .int v2]) (xQi E (NT + 0) r0) 0 0 (xA E) := by
  refine met_of (N0 := NT) (by decide +kernel) (Nat.le_of_ble_eq_true rfl) ?_
  intro p e s m args below meth c hG hr hk _
  show JR E NT 3 p l e rm_X6_personTells s m args below meth c 0 0 (fun r => MQ below (xQi E (NT + 0) r) args s 0 0 (xA E)) 0 [(0, .ref (E.B + a0)), (1, .int v1), (2, .int v2)] [] σ (if okO 6 a0 then (if v2 = (0 : Int32) then (bR (gr σ a0 11) (okA 0) (fun o1 => if inb v1 (arL o1) then (some (gi σ o1 (ix v1), σ)) else none)) else (if v2 = (1 : Int32) then (bR (gr σ a0 19) (okA 0) (fun o2 => if inb v1 (arL o2) then (some (gi σ o2 (ix v1), σ)) else none)) else (if v2 = (2 : Int32) then (bR (gr σ a0 19) (okA 0) (fun o3 => bI (f_X6_knowsIn N a0 o3 v1 (σ)) (fun r5 t4 => some (r5, t4)))) else (if v2 = (3 : Int32) then (bR (gr σ a0 12) (okA 0) (fun o6 => if inb v1 (arL o6) then (some (gi σ o6 (ix v1), σ)) else none)) else (bR (gr σ a0 19) (okA 0) (fun o7 => if inb ((6 : Int32) + v1) (arL o7) then (some (gi σ o7 (ix ((6 : Int32) + v1)), σ)) else none)))))) else none)
  refine jr_guard (fun ha0 => ?_)
  refine jr_iload_n hG 2 dX6_personTells_0 rfl rfl ?_
  refine jr_ite (fun hs0 => ?_) (fun hs0 => ?_)
  · refine jr_tabIn (off := 31) hG 32 dX6_personTells_1 (0 : Int32) hs0 (by decide) ?_
    refine jr_aload_n hG 0 dX6_personTells_32 rfl rfl ?_
    refine jr_getR hG fi_RX6_33 rfl (okO_s ha0) (okO_l ha0) dX6_personTells_33 (fun o1 ho1 => ?_)
    refine jr_iload_n hG 1 dX6_personTells_36 rfl rfl ?_
    refine jr_iald hG (okA_s (by decide) ho1) (okA_l ho1) dX6_personTells_37 ?_
    exact jr_iret hG hr hk dX6_personTells_38
  refine jr_ite (fun hs1 => ?_) (fun hs1 => ?_)
  · refine jr_tabIn (off := 38) hG 39 dX6_personTells_1 (1 : Int32) hs1 (by decide) ?_
    refine jr_aload_n hG 0 dX6_personTells_39 rfl rfl ?_
    refine jr_getR hG fi_RX6_48 rfl (okO_s ha0) (okO_l ha0) dX6_personTells_40 (fun o2 ho2 => ?_)
    refine jr_iload_n hG 1 dX6_personTells_43 rfl rfl ?_
    refine jr_iald hG (okA_s (by decide) ho2) (okA_l ho2) dX6_personTells_44 ?_
    exact jr_iret hG hr hk dX6_personTells_45
  refine jr_ite (fun hs2 => ?_) (fun hs2 => ?_)
  · refine jr_tabIn (off := 45) hG 46 dX6_personTells_1 (2 : Int32) hs2 (by decide) ?_
    refine jr_aload_n hG 0 dX6_personTells_46 rfl rfl ?_
    refine jr_aload_n hG 0 dX6_personTells_47 rfl rfl ?_
    refine jr_getR hG fi_RX6_48 rfl (okO_s ha0) (okO_l ha0) dX6_personTells_48 (fun o3 ho3 => ?_)
    refine jr_iload_n hG 1 dX6_personTells_51 rfl rfl ?_
    refine jr_callVi (As := [.ref (E.B + o3), .int v1]) hG (c_X6_knowsIn l E N a0 o3 v1 (σ)) ci_X6_knowsIn wd_958 ⟨wd_960, wd_31⟩ cl_6 (okO_s ha0) (okO_l ha0) ⟨rfl, rfl, Nat.le_of_ble_eq_true rfl, Nat.le_of_ble_eq_true rfl⟩ rfl rfl (Nat.le_of_ble_eq_true rfl) dX6_personTells_52 ⟨Nat.le_refl _, Nat.le_refl _⟩ (fun r5 t4 => ?_)
    exact jr_iret hG hr hk dX6_personTells_55
  refine jr_ite (fun hs3 => ?_) (fun hs3 => ?_)
  · refine jr_tabIn (off := 55) hG 56 dX6_personTells_1 (3 : Int32) hs3 (by decide) ?_
    refine jr_aload_n hG 0 dX6_personTells_56 rfl rfl ?_
    refine jr_getR hG fi_RX6_36 rfl (okO_s ha0) (okO_l ha0) dX6_personTells_57 (fun o6 ho6 => ?_)
    refine jr_iload_n hG 1 dX6_personTells_60 rfl rfl ?_
    refine jr_iald hG (okA_s (by decide) ho6) (okA_l ho6) dX6_personTells_61 ?_
    exact jr_iret hG hr hk dX6_personTells_62
  refine jr_tabOut hG 63 dX6_personTells_1 (tab_out0_3 hs0 hs1 hs2 hs3) (by decide) ?_
  refine jr_aload_n hG 0 dX6_personTells_63 rfl rfl ?_
  refine jr_getR hG fi_RX6_48 rfl (okO_s ha0) (okO_l ha0) dX6_personTells_64 (fun o7 ho7 => ?_)
  refine jr_bipush (v := (6 : Int32)) hG dX6_personTells_67 (by decide) ?_
  refine jr_iload_n hG 1 dX6_personTells_69 rfl rfl ?_
  refine jr_iadd hG dX6_personTells_70 ?_
  refine jr_iald hG (okA_s (by decide) ho7) (okA_l ho7) dX6_personTells_71 ?_
  exact jr_iret hG hr hk dX6_personTells_72
-- TonguesDealtModel.person(II)I
abbrev rm_X6_person : Room := { frames := 4, cells := 0, slots := 0, locals := 88 }
theorem ci_X6_person : CIx yX6_person cX6_person 3 (some .int) 2 := ⟨wd_949, wd_77, by decide +kernel⟩
def f_X6_person (N : Nat) (a0 : Nat) (v1 : Int32) (v2 : Int32) (σ : Mm) : Option (Int32 × Mm) := if okO 6 a0 then (bI (f_X6_isPerson N a0 v1 (σ)) (fun r2 t1 => if r2 = 0 then (some ((-1 : Int32), t1)) else (bI (f_X6_in N v2 (0 : Int32) (4 : Int32) t1) (fun r4 t3 => if r4 = 0 then (some ((-1 : Int32), t3)) else (bI (f_X6_personTells N a0 v1 v2 t3) (fun r6 t5 => bI (f_X6_gives N a0 r6 (1 : Int32) t5) (fun r8 t7 => some (r8, t7)))))))) else none
set_option maxRecDepth 20000 in
theorem c_X6_person (l : Launch) (E : XE) (N : Nat) (a0 : Nat) (v1 : Int32) (v2 : Int32) (σ : Mm) : ∀ r0, f_X6_person N a0 v1 v2 σ = some r0 → Met l yX6_person [Cond.code yX6_person cX6_person 3 (some .int)] rm_X6_person (xPc E (NT + 0) σ [.ref (E.B + a0), .int v1, .int v2]) (xQi E (NT + 0) r0) 0 0 (xA E) := by
  refine met_of (N0 := NT) (by decide +kernel) (Nat.le_of_ble_eq_true rfl) ?_
  intro p e s m args below meth c hG hr hk _
  show JR E NT 3 p l e rm_X6_person s m args below meth c 0 0 (fun r => MQ below (xQi E (NT + 0) r) args s 0 0 (xA E)) 0 [(0, .ref (E.B + a0)), (1, .int v1), (2, .int v2)] [] σ (if okO 6 a0 then (bI (f_X6_isPerson N a0 v1 (σ)) (fun r2 t1 => if r2 = 0 then (some ((-1 : Int32), t1)) else (bI (f_X6_in N v2 (0 : Int32) (4 : Int32) t1) (fun r4 t3 => if r4 = 0 then (some ((-1 : Int32), t3)) else (bI (f_X6_personTells N a0 v1 v2 t3) (fun r6 t5 => bI (f_X6_gives N a0 r6 (1 : Int32) t5) (fun r8 t7 => some (r8, t7)))))))) else none)
  refine jr_guard (fun ha0 => ?_)
  refine jr_aload_n hG 0 dX6_person_0 rfl rfl ?_
  refine jr_iload_n hG 1 dX6_person_1 rfl rfl ?_
  refine jr_callVi (As := [.int v1]) hG (c_X6_isPerson l E N a0 v1 (σ)) ci_X6_isPerson wd_950 ⟨wd_952, wd_29⟩ cl_6 (okO_s ha0) (okO_l ha0) ⟨rfl, rfl, Nat.le_of_ble_eq_true rfl, Nat.le_of_ble_eq_true rfl⟩ rfl rfl (Nat.le_of_ble_eq_true rfl) dX6_person_2 ⟨Nat.le_refl _, Nat.le_refl _⟩ (fun r2 t1 => ?_)
  refine jr_if_eq hG 31 dX6_person_5 (by decide) (fun _ => ?_) (fun _ => ?_)
  · refine jr_iconst (v := (-1 : Int32)) hG dX6_person_31 (by decide) ?_
    exact jr_iret hG hr hk dX6_person_32
  · refine jr_iload_n hG 2 dX6_person_8 rfl rfl ?_
    refine jr_iconst (v := (0 : Int32)) hG dX6_person_9 (by decide) ?_
    refine jr_iconst (v := (4 : Int32)) hG dX6_person_10 (by decide) ?_
    refine jr_callSi (As := [.int v2, .int (0 : Int32), .int (4 : Int32)]) hG (c_X6_in l E N v2 (0 : Int32) (4 : Int32) t1) ci_X6_in wd_847 wd_848 ⟨rfl, rfl, Nat.le_of_ble_eq_true rfl, Nat.le_of_ble_eq_true rfl⟩ rfl rfl (Nat.le_of_ble_eq_true rfl) dX6_person_11 ⟨Nat.le_refl _, Nat.le_refl _⟩ (fun r4 t3 => ?_)
    refine jr_if_eq hG 31 dX6_person_14 (by decide) (fun _ => ?_) (fun _ => ?_)
    · refine jr_iconst (v := (-1 : Int32)) hG dX6_person_31 (by decide) ?_
      exact jr_iret hG hr hk dX6_person_32
    · refine jr_aload_n hG 0 dX6_person_17 rfl rfl ?_
      refine jr_aload_n hG 0 dX6_person_18 rfl rfl ?_
      refine jr_iload_n hG 1 dX6_person_19 rfl rfl ?_
      refine jr_iload_n hG 2 dX6_person_20 rfl rfl ?_
      refine jr_callVi (As := [.int v1, .int v2]) hG (c_X6_personTells l E N a0 v1 v2 t3) ci_X6_personTells wd_954 ⟨wd_956, wd_30⟩ cl_6 (okO_s ha0) (okO_l ha0) ⟨rfl, rfl, Nat.le_of_ble_eq_true rfl, Nat.le_of_ble_eq_true rfl⟩ rfl rfl (Nat.le_of_ble_eq_true rfl) dX6_person_21 ⟨Nat.le_refl _, Nat.le_refl _⟩ (fun r6 t5 => ?_)
      refine jr_iconst (v := (1 : Int32)) hG dX6_person_24 (by decide) ?_
      refine jr_callVi (As := [.int r6, .int (1 : Int32)]) hG (c_X6_gives l E N a0 r6 (1 : Int32) t5) ci_X6_gives wd_881 ⟨wd_883, wd_23⟩ cl_6 (okO_s ha0) (okO_l ha0) ⟨rfl, rfl, Nat.le_of_ble_eq_true rfl, Nat.le_of_ble_eq_true rfl⟩ rfl rfl (Nat.le_of_ble_eq_true rfl) dX6_person_25 ⟨Nat.le_refl _, Nat.le_refl _⟩ (fun r8 t7 => ?_)
      refine jr_goto hG 32 dX6_person_28 (by decide) ?_
      exact jr_iret hG hr hk dX6_person_32
-- TonguesDealtModel.othersKnow(II)I
abbrev rm_X6_othersKnow : Room := { frames := 3, cells := 0, slots := 0, locals := 66 }
theorem ci_X6_othersKnow : CIx yX6_othersKnow cX6_othersKnow 5 (some .int) 2 := ⟨wd_995, wd_77, by decide +kernel⟩
def f_X6_othersKnow_41 (N : Nat) (K5 : Nat → Int32 → Int32 → Int32 → Int32 → Mm → Option (Int32 × Mm)) (a0 : Nat) (v1 : Int32) (v2 : Int32) (v4 : Int32) (s0 : Int32) (s1 : Int32) (σ : Mm) : Option (Int32 × Mm) := lt (s1 + s0) (fun x4 => K5 a0 v1 v2 x4 (v4 + (1 : Int32)) (σ))
set_option maxRecDepth 20000 in
theorem w_X6_othersKnow_41 {p : Program} {l : Launch} {e : Env} {s : State} {m : MethodId} {args : Array Value} {below : List Frame} {meth : Method} {c : Code} {E : XE} (N : Nat) (hG : GG E NT 5 RX6 cX6_othersKnow p s m args c) (hr : meth.sig.returnType = (some .int)) (hk : meth.locks = false) {K5 : Nat → Int32 → Int32 → Int32 → Int32 → Mm → Option (Int32 × Mm)} (hK5 : ∀ (a0 : Nat) (v1 : Int32) (v2 : Int32) (v3 : Int32) (v4 : Int32) (ha0 : okO 6 a0 = true) (σ : Mm), JR E NT 5 p l e rm_X6_othersKnow s m args below meth c 0 0 (fun r => MQ below (xQi E (NT + 0) r) args s 0 0 (xA E)) 5 [(0, .ref (E.B + a0)), (1, .int v1), (2, .int v2), (3, .int v3), (4, .int v4)] [] σ (K5 a0 v1 v2 v3 v4 σ)) (a0 : Nat) (v1 : Int32) (v2 : Int32) (v4 : Int32) (s0 : Int32) (s1 : Int32) (ha0 : okO 6 a0 = true) (σ : Mm) : JR E NT 5 p l e rm_X6_othersKnow s m args below meth c 0 0 (fun r => MQ below (xQi E (NT + 0) r) args s 0 0 (xA E)) 41 [(0, .ref (E.B + a0)), (1, .int v1), (2, .int v2), (4, .int v4)] [.int s0, .int s1] σ (f_X6_othersKnow_41 N K5 a0 v1 v2 v4 s0 s1 σ) := by
  show JR E NT 5 p l e rm_X6_othersKnow s m args below meth c 0 0 (fun r => MQ below (xQi E (NT + 0) r) args s 0 0 (xA E)) 41 [(0, .ref (E.B + a0)), (1, .int v1), (2, .int v2), (4, .int v4)] [.int s0, .int s1] σ (lt (s1 + s0) (fun x4 => K5 a0 v1 v2 x4 (v4 + (1 : Int32)) (σ)))
  refine jr_iadd hG dX6_othersKnow_41 ?_
  refine jr_leti (fun x4 _ => ?_)
  refine jr_istore_n (lv' := [(3, .int x4), (0, .ref (E.B + a0)), (1, .int v1), (2, .int v2), (4, .int v4)]) hG dX6_othersKnow_42 rfl (by decide) rfl ?_
  refine jr_iinc (v := v4 + (1 : Int32)) (lv' := [(4, .int (v4 + (1 : Int32))), (3, .int x4), (0, .ref (E.B + a0)), (1, .int v1), (2, .int v2)]) hG 4 dX6_othersKnow_43 rfl rfl (by decide) rfl ?_
  refine jr_goto hG 5 dX6_othersKnow_46 (by decide) ?_
  refine jr_sub (lv' := [(0, .ref (E.B + a0)), (1, .int v1), (2, .int v2), (3, .int x4), (4, .int (v4 + (1 : Int32)))]) [2, 3, 4, 1, 0] rfl ?_
  exact hK5 a0 v1 v2 x4 (v4 + (1 : Int32)) ha0 (σ)
def f_X6_othersKnow_40 (N : Nat) (K5 : Nat → Int32 → Int32 → Int32 → Int32 → Mm → Option (Int32 × Mm)) (a0 : Nat) (v1 : Int32) (v2 : Int32) (v4 : Int32) (s0 : Int32) (σ : Mm) : Option (Int32 × Mm) := f_X6_othersKnow_41 N K5 a0 v1 v2 v4 (0 : Int32) s0 (σ)
set_option maxRecDepth 20000 in
theorem w_X6_othersKnow_40 {p : Program} {l : Launch} {e : Env} {s : State} {m : MethodId} {args : Array Value} {below : List Frame} {meth : Method} {c : Code} {E : XE} (N : Nat) (hG : GG E NT 5 RX6 cX6_othersKnow p s m args c) (hr : meth.sig.returnType = (some .int)) (hk : meth.locks = false) {K5 : Nat → Int32 → Int32 → Int32 → Int32 → Mm → Option (Int32 × Mm)} (hK5 : ∀ (a0 : Nat) (v1 : Int32) (v2 : Int32) (v3 : Int32) (v4 : Int32) (ha0 : okO 6 a0 = true) (σ : Mm), JR E NT 5 p l e rm_X6_othersKnow s m args below meth c 0 0 (fun r => MQ below (xQi E (NT + 0) r) args s 0 0 (xA E)) 5 [(0, .ref (E.B + a0)), (1, .int v1), (2, .int v2), (3, .int v3), (4, .int v4)] [] σ (K5 a0 v1 v2 v3 v4 σ)) (a0 : Nat) (v1 : Int32) (v2 : Int32) (v4 : Int32) (s0 : Int32) (ha0 : okO 6 a0 = true) (σ : Mm) : JR E NT 5 p l e rm_X6_othersKnow s m args below meth c 0 0 (fun r => MQ below (xQi E (NT + 0) r) args s 0 0 (xA E)) 40 [(0, .ref (E.B + a0)), (1, .int v1), (2, .int v2), (4, .int v4)] [.int s0] σ (f_X6_othersKnow_40 N K5 a0 v1 v2 v4 s0 σ) := by
  show JR E NT 5 p l e rm_X6_othersKnow s m args below meth c 0 0 (fun r => MQ below (xQi E (NT + 0) r) args s 0 0 (xA E)) 40 [(0, .ref (E.B + a0)), (1, .int v1), (2, .int v2), (4, .int v4)] [.int s0] σ (f_X6_othersKnow_41 N K5 a0 v1 v2 v4 (0 : Int32) s0 (σ))
  refine jr_iconst (v := (0 : Int32)) hG dX6_othersKnow_40 (by decide) ?_
  exact w_X6_othersKnow_41 N hG hr hk hK5 a0 v1 v2 v4 (0 : Int32) s0 ha0 (σ)
def f_X6_othersKnow_5 (N : Nat)  : Nat → Nat → Int32 → Int32 → Int32 → Int32 → Mm → Option (Int32 × Mm)
  | 0 => fun _ _ _ _ _ _ => none
  | n + 1 => fun a0 v1 v2 v3 v4 σ => if (gi σ a0 10) ≤ v4 then (some (v3, σ)) else (if v4 = v1 then (f_X6_othersKnow_40 N (f_X6_othersKnow_5 N n) a0 v1 v2 v4 v3 (σ)) else (bR (gr σ a0 19) (okA 0) (fun o1 => bI (f_X6_knowsIn N a0 o1 v4 (σ)) (fun r3 t2 => if (r3 &&& v2) = 0 then (f_X6_othersKnow_40 N (f_X6_othersKnow_5 N n) a0 v1 v2 v4 v3 t2) else (f_X6_othersKnow_41 N (f_X6_othersKnow_5 N n) a0 v1 v2 v4 (1 : Int32) v3 t2)))))
set_option maxRecDepth 20000 in
theorem w_X6_othersKnow_5 {p : Program} {l : Launch} {e : Env} {s : State} {m : MethodId} {args : Array Value} {below : List Frame} {meth : Method} {c : Code} {E : XE} (N : Nat) (hG : GG E NT 5 RX6 cX6_othersKnow p s m args c) (hr : meth.sig.returnType = (some .int)) (hk : meth.locks = false)  : ∀ (n : Nat) (a0 : Nat) (v1 : Int32) (v2 : Int32) (v3 : Int32) (v4 : Int32) (ha0 : okO 6 a0 = true) (σ : Mm), JR E NT 5 p l e rm_X6_othersKnow s m args below meth c 0 0 (fun r => MQ below (xQi E (NT + 0) r) args s 0 0 (xA E)) 5 [(0, .ref (E.B + a0)), (1, .int v1), (2, .int v2), (3, .int v3), (4, .int v4)] [] σ (f_X6_othersKnow_5 N n a0 v1 v2 v3 v4 σ) := by
  intro n
  induction n with
  | zero => intro a0 v1 v2 v3 v4 ha0 σ r hX; cases hX
  | succ n ih =>
    intro a0 v1 v2 v3 v4 ha0 σ
    show JR E NT 5 p l e rm_X6_othersKnow s m args below meth c 0 0 (fun r => MQ below (xQi E (NT + 0) r) args s 0 0 (xA E)) 5 [(0, .ref (E.B + a0)), (1, .int v1), (2, .int v2), (3, .int v3), (4, .int v4)] [] σ (if (gi σ a0 10) ≤ v4 then (some (v3, σ)) else (if v4 = v1 then (f_X6_othersKnow_40 N (f_X6_othersKnow_5 N n) a0 v1 v2 v4 v3 (σ)) else (bR (gr σ a0 19) (okA 0) (fun o1 => bI (f_X6_knowsIn N a0 o1 v4 (σ)) (fun r3 t2 => if (r3 &&& v2) = 0 then (f_X6_othersKnow_40 N (f_X6_othersKnow_5 N n) a0 v1 v2 v4 v3 t2) else (f_X6_othersKnow_41 N (f_X6_othersKnow_5 N n) a0 v1 v2 v4 (1 : Int32) v3 t2))))))
    refine jr_iload hG 4 dX6_othersKnow_5 rfl ?_
    refine jr_aload_n hG 0 dX6_othersKnow_7 rfl rfl ?_
    refine jr_getI hG fi_RX6_147 rfl (okO_s ha0) (okO_l ha0) dX6_othersKnow_8 ?_
    refine jr_icmp_ge hG 49 dX6_othersKnow_11 (by decide) (fun _ => ?_) (fun _ => ?_)
    · refine jr_iload_n hG 3 dX6_othersKnow_49 rfl rfl ?_
      exact jr_iret hG hr hk dX6_othersKnow_50
    · refine jr_iload_n hG 3 dX6_othersKnow_14 rfl rfl ?_
      refine jr_iload hG 4 dX6_othersKnow_15 rfl ?_
      refine jr_iload_n hG 1 dX6_othersKnow_17 rfl rfl ?_
      refine jr_icmp_eq hG 40 dX6_othersKnow_18 (by decide) (fun _ => ?_) (fun _ => ?_)
      · refine jr_sub (lv' := [(0, .ref (E.B + a0)), (1, .int v1), (2, .int v2), (4, .int v4)]) [0, 1, 2, 4] rfl ?_
        exact w_X6_othersKnow_40 N hG hr hk ih a0 v1 v2 v4 v3 ha0 (σ)
      · refine jr_aload_n hG 0 dX6_othersKnow_21 rfl rfl ?_
        refine jr_aload_n hG 0 dX6_othersKnow_22 rfl rfl ?_
        refine jr_getR hG fi_RX6_48 rfl (okO_s ha0) (okO_l ha0) dX6_othersKnow_23 (fun o1 ho1 => ?_)
        refine jr_iload hG 4 dX6_othersKnow_26 rfl ?_
        refine jr_callVi (As := [.ref (E.B + o1), .int v4]) hG (c_X6_knowsIn l E N a0 o1 v4 (σ)) ci_X6_knowsIn wd_958 ⟨wd_960, wd_31⟩ cl_6 (okO_s ha0) (okO_l ha0) ⟨rfl, rfl, Nat.le_of_ble_eq_true rfl, Nat.le_of_ble_eq_true rfl⟩ rfl rfl (Nat.le_of_ble_eq_true rfl) dX6_othersKnow_28 ⟨Nat.le_refl _, Nat.le_refl _⟩ (fun r3 t2 => ?_)
        refine jr_iload_n hG 2 dX6_othersKnow_31 rfl rfl ?_
        refine jr_iand hG dX6_othersKnow_32 ?_
        refine jr_if_eq hG 40 dX6_othersKnow_33 (by decide) (fun _ => ?_) (fun _ => ?_)
        · refine jr_sub (lv' := [(0, .ref (E.B + a0)), (1, .int v1), (2, .int v2), (4, .int v4)]) [0, 1, 2, 4] rfl ?_
          exact w_X6_othersKnow_40 N hG hr hk ih a0 v1 v2 v4 v3 ha0 t2
        · refine jr_iconst (v := (1 : Int32)) hG dX6_othersKnow_36 (by decide) ?_
          refine jr_goto hG 41 dX6_othersKnow_37 (by decide) ?_
          refine jr_sub (lv' := [(0, .ref (E.B + a0)), (1, .int v1), (2, .int v2), (4, .int v4)]) [0, 1, 2, 4] rfl ?_
          exact w_X6_othersKnow_41 N hG hr hk ih a0 v1 v2 v4 (1 : Int32) v3 ha0 t2
def f_X6_othersKnow (N : Nat) (a0 : Nat) (v1 : Int32) (v2 : Int32) (σ : Mm) : Option (Int32 × Mm) := if okO 6 a0 then (f_X6_othersKnow_5 N N a0 v1 v2 (0 : Int32) (0 : Int32) (σ)) else none
set_option maxRecDepth 20000 in
theorem c_X6_othersKnow (l : Launch) (E : XE) (N : Nat) (a0 : Nat) (v1 : Int32) (v2 : Int32) (σ : Mm) : ∀ r0, f_X6_othersKnow N a0 v1 v2 σ = some r0 → Met l yX6_othersKnow [Cond.code yX6_othersKnow cX6_othersKnow 5 (some .int)] rm_X6_othersKnow (xPc E (NT + 0) σ [.ref (E.B + a0), .int v1, .int v2]) (xQi E (NT + 0) r0) 0 0 (xA E) := by
  refine met_of (N0 := NT) (by decide +kernel) (Nat.le_of_ble_eq_true rfl) ?_
  intro p e s m args below meth c hG hr hk _
  show JR E NT 5 p l e rm_X6_othersKnow s m args below meth c 0 0 (fun r => MQ below (xQi E (NT + 0) r) args s 0 0 (xA E)) 0 [(0, .ref (E.B + a0)), (1, .int v1), (2, .int v2)] [] σ (if okO 6 a0 then (f_X6_othersKnow_5 N N a0 v1 v2 (0 : Int32) (0 : Int32) (σ)) else none)
  refine jr_guard (fun ha0 => ?_)
  refine jr_iconst (v := (0 : Int32)) hG dX6_othersKnow_0 (by decide) ?_
  refine jr_istore_n (lv' := [(3, .int (0 : Int32)), (0, .ref (E.B + a0)), (1, .int v1), (2, .int v2)]) hG dX6_othersKnow_1 rfl (by decide) rfl ?_
  refine jr_iconst (v := (0 : Int32)) hG dX6_othersKnow_2 (by decide) ?_
  refine jr_istore (lv' := [(4, .int (0 : Int32)), (3, .int (0 : Int32)), (0, .ref (E.B + a0)), (1, .int v1), (2, .int v2)]) hG dX6_othersKnow_3 (by decide) rfl ?_
  refine jr_sub (lv' := [(0, .ref (E.B + a0)), (1, .int v1), (2, .int v2), (3, .int (0 : Int32)), (4, .int (0 : Int32))]) [2, 3, 4, 1, 0] rfl ?_
  exact w_X6_othersKnow_5 N hG hr hk N a0 v1 v2 (0 : Int32) (0 : Int32) ha0 (σ)
-- TonguesDealtModel.tellersOf(I)I
abbrev rm_X6_tellersOf : Room := { frames := 4, cells := 0, slots := 0, locals := 89 }
theorem ci_X6_tellersOf : CIx yX6_tellersOf cX6_tellersOf 4 (some .int) 1 := ⟨wd_979, wd_77, by decide +kernel⟩
def f_X6_tellersOf_36 (N : Nat) (K4 : Nat → Int32 → Int32 → Int32 → Mm → Option (Int32 × Mm)) (a0 : Nat) (v1 : Int32) (v3 : Int32) (s0 : Int32) (s1 : Int32) (σ : Mm) : Option (Int32 × Mm) := lt (s1 + s0) (fun x4 => K4 a0 v1 x4 (v3 + (1 : Int32)) (σ))
set_option maxRecDepth 20000 in
theorem w_X6_tellersOf_36 {p : Program} {l : Launch} {e : Env} {s : State} {m : MethodId} {args : Array Value} {below : List Frame} {meth : Method} {c : Code} {E : XE} (N : Nat) (hG : GG E NT 4 RX6 cX6_tellersOf p s m args c) (hr : meth.sig.returnType = (some .int)) (hk : meth.locks = false) {K4 : Nat → Int32 → Int32 → Int32 → Mm → Option (Int32 × Mm)} (hK4 : ∀ (a0 : Nat) (v1 : Int32) (v2 : Int32) (v3 : Int32) (ha0 : okO 6 a0 = true) (σ : Mm), JR E NT 4 p l e rm_X6_tellersOf s m args below meth c 0 0 (fun r => MQ below (xQi E (NT + 0) r) args s 0 0 (xA E)) 4 [(0, .ref (E.B + a0)), (1, .int v1), (2, .int v2), (3, .int v3)] [] σ (K4 a0 v1 v2 v3 σ)) (a0 : Nat) (v1 : Int32) (v3 : Int32) (s0 : Int32) (s1 : Int32) (ha0 : okO 6 a0 = true) (σ : Mm) : JR E NT 4 p l e rm_X6_tellersOf s m args below meth c 0 0 (fun r => MQ below (xQi E (NT + 0) r) args s 0 0 (xA E)) 36 [(0, .ref (E.B + a0)), (1, .int v1), (3, .int v3)] [.int s0, .int s1] σ (f_X6_tellersOf_36 N K4 a0 v1 v3 s0 s1 σ) := by
  show JR E NT 4 p l e rm_X6_tellersOf s m args below meth c 0 0 (fun r => MQ below (xQi E (NT + 0) r) args s 0 0 (xA E)) 36 [(0, .ref (E.B + a0)), (1, .int v1), (3, .int v3)] [.int s0, .int s1] σ (lt (s1 + s0) (fun x4 => K4 a0 v1 x4 (v3 + (1 : Int32)) (σ)))
  refine jr_iadd hG dX6_tellersOf_36 ?_
  refine jr_leti (fun x4 _ => ?_)
  refine jr_istore_n (lv' := [(2, .int x4), (0, .ref (E.B + a0)), (1, .int v1), (3, .int v3)]) hG dX6_tellersOf_37 rfl (by decide) rfl ?_
  refine jr_iinc (v := v3 + (1 : Int32)) (lv' := [(3, .int (v3 + (1 : Int32))), (2, .int x4), (0, .ref (E.B + a0)), (1, .int v1)]) hG 3 dX6_tellersOf_38 rfl rfl (by decide) rfl ?_
  refine jr_goto hG 4 dX6_tellersOf_41 (by decide) ?_
  refine jr_sub (lv' := [(0, .ref (E.B + a0)), (1, .int v1), (2, .int x4), (3, .int (v3 + (1 : Int32)))]) [2, 3, 1, 0] rfl ?_
  exact hK4 a0 v1 x4 (v3 + (1 : Int32)) ha0 (σ)
def f_X6_tellersOf_35 (N : Nat) (K4 : Nat → Int32 → Int32 → Int32 → Mm → Option (Int32 × Mm)) (a0 : Nat) (v1 : Int32) (v3 : Int32) (s0 : Int32) (σ : Mm) : Option (Int32 × Mm) := f_X6_tellersOf_36 N K4 a0 v1 v3 (0 : Int32) s0 (σ)
set_option maxRecDepth 20000 in
theorem w_X6_tellersOf_35 {p : Program} {l : Launch} {e : Env} {s : State} {m : MethodId} {args : Array Value} {below : List Frame} {meth : Method} {c : Code} {E : XE} (N : Nat) (hG : GG E NT 4 RX6 cX6_tellersOf p s m args c) (hr : meth.sig.returnType = (some .int)) (hk : meth.locks = false) {K4 : Nat → Int32 → Int32 → Int32 → Mm → Option (Int32 × Mm)} (hK4 : ∀ (a0 : Nat) (v1 : Int32) (v2 : Int32) (v3 : Int32) (ha0 : okO 6 a0 = true) (σ : Mm), JR E NT 4 p l e rm_X6_tellersOf s m args below meth c 0 0 (fun r => MQ below (xQi E (NT + 0) r) args s 0 0 (xA E)) 4 [(0, .ref (E.B + a0)), (1, .int v1), (2, .int v2), (3, .int v3)] [] σ (K4 a0 v1 v2 v3 σ)) (a0 : Nat) (v1 : Int32) (v3 : Int32) (s0 : Int32) (ha0 : okO 6 a0 = true) (σ : Mm) : JR E NT 4 p l e rm_X6_tellersOf s m args below meth c 0 0 (fun r => MQ below (xQi E (NT + 0) r) args s 0 0 (xA E)) 35 [(0, .ref (E.B + a0)), (1, .int v1), (3, .int v3)] [.int s0] σ (f_X6_tellersOf_35 N K4 a0 v1 v3 s0 σ) := by
  show JR E NT 4 p l e rm_X6_tellersOf s m args below meth c 0 0 (fun r => MQ below (xQi E (NT + 0) r) args s 0 0 (xA E)) 35 [(0, .ref (E.B + a0)), (1, .int v1), (3, .int v3)] [.int s0] σ (f_X6_tellersOf_36 N K4 a0 v1 v3 (0 : Int32) s0 (σ))
  refine jr_iconst (v := (0 : Int32)) hG dX6_tellersOf_35 (by decide) ?_
  exact w_X6_tellersOf_36 N hG hr hk hK4 a0 v1 v3 (0 : Int32) s0 ha0 (σ)
def f_X6_tellersOf_4 (N : Nat)  : Nat → Nat → Int32 → Int32 → Int32 → Mm → Option (Int32 × Mm)
  | 0 => fun _ _ _ _ _ => none
  | n + 1 => fun a0 v1 v2 v3 σ => if (gi σ a0 10) ≤ v3 then (some (v2, σ)) else (if v3 = v1 then (f_X6_tellersOf_35 N (f_X6_tellersOf_4 N n) a0 v1 v3 v2 (σ)) else (bR (gr σ a0 19) (okA 0) (fun o1 => bI (f_X6_isTold N a0 o1 v3 v1 (σ)) (fun r3 t2 => if r3 = 0 then (f_X6_tellersOf_35 N (f_X6_tellersOf_4 N n) a0 v1 v3 v2 t2) else (f_X6_tellersOf_36 N (f_X6_tellersOf_4 N n) a0 v1 v3 (1 : Int32) v2 t2)))))
set_option maxRecDepth 20000 in
theorem w_X6_tellersOf_4 {p : Program} {l : Launch} {e : Env} {s : State} {m : MethodId} {args : Array Value} {below : List Frame} {meth : Method} {c : Code} {E : XE} (N : Nat) (hG : GG E NT 4 RX6 cX6_tellersOf p s m args c) (hr : meth.sig.returnType = (some .int)) (hk : meth.locks = false)  : ∀ (n : Nat) (a0 : Nat) (v1 : Int32) (v2 : Int32) (v3 : Int32) (ha0 : okO 6 a0 = true) (σ : Mm), JR E NT 4 p l e rm_X6_tellersOf s m args below meth c 0 0 (fun r => MQ below (xQi E (NT + 0) r) args s 0 0 (xA E)) 4 [(0, .ref (E.B + a0)), (1, .int v1), (2, .int v2), (3, .int v3)] [] σ (f_X6_tellersOf_4 N n a0 v1 v2 v3 σ) := by
  intro n
  induction n with
  | zero => intro a0 v1 v2 v3 ha0 σ r hX; cases hX
  | succ n ih =>
    intro a0 v1 v2 v3 ha0 σ
    show JR E NT 4 p l e rm_X6_tellersOf s m args below meth c 0 0 (fun r => MQ below (xQi E (NT + 0) r) args s 0 0 (xA E)) 4 [(0, .ref (E.B + a0)), (1, .int v1), (2, .int v2), (3, .int v3)] [] σ (if (gi σ a0 10) ≤ v3 then (some (v2, σ)) else (if v3 = v1 then (f_X6_tellersOf_35 N (f_X6_tellersOf_4 N n) a0 v1 v3 v2 (σ)) else (bR (gr σ a0 19) (okA 0) (fun o1 => bI (f_X6_isTold N a0 o1 v3 v1 (σ)) (fun r3 t2 => if r3 = 0 then (f_X6_tellersOf_35 N (f_X6_tellersOf_4 N n) a0 v1 v3 v2 t2) else (f_X6_tellersOf_36 N (f_X6_tellersOf_4 N n) a0 v1 v3 (1 : Int32) v2 t2))))))
    refine jr_iload_n hG 3 dX6_tellersOf_4 rfl rfl ?_
    refine jr_aload_n hG 0 dX6_tellersOf_5 rfl rfl ?_
    refine jr_getI hG fi_RX6_147 rfl (okO_s ha0) (okO_l ha0) dX6_tellersOf_6 ?_
    refine jr_icmp_ge hG 44 dX6_tellersOf_9 (by decide) (fun _ => ?_) (fun _ => ?_)
    · refine jr_iload_n hG 2 dX6_tellersOf_44 rfl rfl ?_
      exact jr_iret hG hr hk dX6_tellersOf_45
    · refine jr_iload_n hG 2 dX6_tellersOf_12 rfl rfl ?_
      refine jr_iload_n hG 3 dX6_tellersOf_13 rfl rfl ?_
      refine jr_iload_n hG 1 dX6_tellersOf_14 rfl rfl ?_
      refine jr_icmp_eq hG 35 dX6_tellersOf_15 (by decide) (fun _ => ?_) (fun _ => ?_)
      · refine jr_sub (lv' := [(0, .ref (E.B + a0)), (1, .int v1), (3, .int v3)]) [0, 1, 3] rfl ?_
        exact w_X6_tellersOf_35 N hG hr hk ih a0 v1 v3 v2 ha0 (σ)
      · refine jr_aload_n hG 0 dX6_tellersOf_18 rfl rfl ?_
        refine jr_aload_n hG 0 dX6_tellersOf_19 rfl rfl ?_
        refine jr_getR hG fi_RX6_48 rfl (okO_s ha0) (okO_l ha0) dX6_tellersOf_20 (fun o1 ho1 => ?_)
        refine jr_iload_n hG 3 dX6_tellersOf_23 rfl rfl ?_
        refine jr_iload_n hG 1 dX6_tellersOf_24 rfl rfl ?_
        refine jr_callVi (As := [.ref (E.B + o1), .int v3, .int v1]) hG (c_X6_isTold l E N a0 o1 v3 v1 (σ)) ci_X6_isTold wd_980 ⟨wd_982, wd_34⟩ cl_6 (okO_s ha0) (okO_l ha0) ⟨rfl, rfl, Nat.le_of_ble_eq_true rfl, Nat.le_of_ble_eq_true rfl⟩ rfl rfl (Nat.le_of_ble_eq_true rfl) dX6_tellersOf_25 ⟨Nat.le_refl _, Nat.le_refl _⟩ (fun r3 t2 => ?_)
        refine jr_if_eq hG 35 dX6_tellersOf_28 (by decide) (fun _ => ?_) (fun _ => ?_)
        · refine jr_sub (lv' := [(0, .ref (E.B + a0)), (1, .int v1), (3, .int v3)]) [0, 1, 3] rfl ?_
          exact w_X6_tellersOf_35 N hG hr hk ih a0 v1 v3 v2 ha0 t2
        · refine jr_iconst (v := (1 : Int32)) hG dX6_tellersOf_31 (by decide) ?_
          refine jr_goto hG 36 dX6_tellersOf_32 (by decide) ?_
          refine jr_sub (lv' := [(0, .ref (E.B + a0)), (1, .int v1), (3, .int v3)]) [0, 1, 3] rfl ?_
          exact w_X6_tellersOf_36 N hG hr hk ih a0 v1 v3 (1 : Int32) v2 ha0 t2
def f_X6_tellersOf (N : Nat) (a0 : Nat) (v1 : Int32) (σ : Mm) : Option (Int32 × Mm) := if okO 6 a0 then (f_X6_tellersOf_4 N N a0 v1 (0 : Int32) (0 : Int32) (σ)) else none
set_option maxRecDepth 20000 in
theorem c_X6_tellersOf (l : Launch) (E : XE) (N : Nat) (a0 : Nat) (v1 : Int32) (σ : Mm) : ∀ r0, f_X6_tellersOf N a0 v1 σ = some r0 → Met l yX6_tellersOf [Cond.code yX6_tellersOf cX6_tellersOf 4 (some .int)] rm_X6_tellersOf (xPc E (NT + 0) σ [.ref (E.B + a0), .int v1]) (xQi E (NT + 0) r0) 0 0 (xA E) := by
  refine met_of (N0 := NT) (by decide +kernel) (Nat.le_of_ble_eq_true rfl) ?_
  intro p e s m args below meth c hG hr hk _
  show JR E NT 4 p l e rm_X6_tellersOf s m args below meth c 0 0 (fun r => MQ below (xQi E (NT + 0) r) args s 0 0 (xA E)) 0 [(0, .ref (E.B + a0)), (1, .int v1)] [] σ (if okO 6 a0 then (f_X6_tellersOf_4 N N a0 v1 (0 : Int32) (0 : Int32) (σ)) else none)
  refine jr_guard (fun ha0 => ?_)
  refine jr_iconst (v := (0 : Int32)) hG dX6_tellersOf_0 (by decide) ?_
  refine jr_istore_n (lv' := [(2, .int (0 : Int32)), (0, .ref (E.B + a0)), (1, .int v1)]) hG dX6_tellersOf_1 rfl (by decide) rfl ?_
  refine jr_iconst (v := (0 : Int32)) hG dX6_tellersOf_2 (by decide) ?_
  refine jr_istore_n (lv' := [(3, .int (0 : Int32)), (2, .int (0 : Int32)), (0, .ref (E.B + a0)), (1, .int v1)]) hG dX6_tellersOf_3 rfl (by decide) rfl ?_
  refine jr_sub (lv' := [(0, .ref (E.B + a0)), (1, .int v1), (2, .int (0 : Int32)), (3, .int (0 : Int32))]) [2, 3, 1, 0] rfl ?_
  exact w_X6_tellersOf_4 N hG hr hk N a0 v1 (0 : Int32) (0 : Int32) ha0 (σ)
-- TonguesDealtModel.mark(II)I
abbrev rm_X6_mark : Room := { frames := 5, cells := 0, slots := 0, locals := 112 }
theorem ci_X6_mark : CIx yX6_mark cX6_mark 4 (some .int) 2 := ⟨wd_972, wd_77, by decide +kernel⟩
def f_X6_mark_57 (N : Nat)  (a0 : Nat) (v1 : Int32) (v2 : Int32) (σ : Mm) : Option (Int32 × Mm) := if v2 = (1 : Int32) then (bR (gr σ a0 19) (okA 0) (fun o9 => bI (f_X6_knows N a0 o9 v1 (1 : Int32) (σ)) (fun r11 t10 => bI (f_X6_bits N r11 t10) (fun r13 t12 => bR (gr t12 a0 19) (okA 0) (fun o14 => bI (f_X6_knows N a0 o14 v1 (0 : Int32) t12) (fun r16 t15 => bI (f_X6_bits N r16 t15) (fun r18 t17 => some (r13 - r18, t17)))))))) else (if v2 = (2 : Int32) then (bI (f_X6_tellersOf N a0 v1 (σ)) (fun r20 t19 => some (r20, t19))) else (if v2 = (3 : Int32) then (bR (gr σ a0 19) (okA 0) (fun o21 => if inb v1 (arL o21) then (bI (f_X6_othersKnow N a0 v1 ((1 : Int32) <<< ((((gi σ o21 (ix v1)) + (1 : Int32)) - ((gi σ o21 (ix v1)) + (1 : Int32)) / (4 : Int32) * (4 : Int32)) &&& 31)) (σ)) (fun r23 t22 => some (r23, t22))) else none)) else (if v2 = (4 : Int32) then (bR (gr σ a0 19) (okA 0) (fun o24 => bI (f_X6_knowsIn N a0 o24 v1 (σ)) (fun r26 t25 => bI (f_X6_othersKnow N a0 v1 r26 t25) (fun r28 t27 => some (r28, t27))))) else (bR (gr σ a0 19) (okA 0) (fun o29 => bI (f_X6_knowsIn N a0 o29 v1 (σ)) (fun r31 t30 => bI (f_X6_bits N r31 t30) (fun r33 t32 => some (r33, t32))))))))
set_option maxRecDepth 20000 in
theorem w_X6_mark_57 {p : Program} {l : Launch} {e : Env} {s : State} {m : MethodId} {args : Array Value} {below : List Frame} {meth : Method} {c : Code} {E : XE} (N : Nat) (hG : GG E NT 4 RX6 cX6_mark p s m args c) (hr : meth.sig.returnType = (some .int)) (hk : meth.locks = false)  (a0 : Nat) (v1 : Int32) (v2 : Int32) (ha0 : okO 6 a0 = true) (σ : Mm) : JR E NT 4 p l e rm_X6_mark s m args below meth c 0 0 (fun r => MQ below (xQi E (NT + 0) r) args s 0 0 (xA E)) 57 [(0, .ref (E.B + a0)), (1, .int v1), (2, .int v2)] [] σ (f_X6_mark_57 N a0 v1 v2 σ) := by
  show JR E NT 4 p l e rm_X6_mark s m args below meth c 0 0 (fun r => MQ below (xQi E (NT + 0) r) args s 0 0 (xA E)) 57 [(0, .ref (E.B + a0)), (1, .int v1), (2, .int v2)] [] σ (if v2 = (1 : Int32) then (bR (gr σ a0 19) (okA 0) (fun o9 => bI (f_X6_knows N a0 o9 v1 (1 : Int32) (σ)) (fun r11 t10 => bI (f_X6_bits N r11 t10) (fun r13 t12 => bR (gr t12 a0 19) (okA 0) (fun o14 => bI (f_X6_knows N a0 o14 v1 (0 : Int32) t12) (fun r16 t15 => bI (f_X6_bits N r16 t15) (fun r18 t17 => some (r13 - r18, t17)))))))) else (if v2 = (2 : Int32) then (bI (f_X6_tellersOf N a0 v1 (σ)) (fun r20 t19 => some (r20, t19))) else (if v2 = (3 : Int32) then (bR (gr σ a0 19) (okA 0) (fun o21 => if inb v1 (arL o21) then (bI (f_X6_othersKnow N a0 v1 ((1 : Int32) <<< ((((gi σ o21 (ix v1)) + (1 : Int32)) - ((gi σ o21 (ix v1)) + (1 : Int32)) / (4 : Int32) * (4 : Int32)) &&& 31)) (σ)) (fun r23 t22 => some (r23, t22))) else none)) else (if v2 = (4 : Int32) then (bR (gr σ a0 19) (okA 0) (fun o24 => bI (f_X6_knowsIn N a0 o24 v1 (σ)) (fun r26 t25 => bI (f_X6_othersKnow N a0 v1 r26 t25) (fun r28 t27 => some (r28, t27))))) else (bR (gr σ a0 19) (okA 0) (fun o29 => bI (f_X6_knowsIn N a0 o29 v1 (σ)) (fun r31 t30 => bI (f_X6_bits N r31 t30) (fun r33 t32 => some (r33, t32)))))))))
  refine jr_iload_n hG 2 dX6_mark_57 rfl rfl ?_
  refine jr_ite (fun hs1 => ?_) (fun hs1 => ?_)
  · refine jr_tabIn (off := 30) hG 88 dX6_mark_58 (1 : Int32) hs1 (by decide) ?_
    refine jr_aload_n hG 0 dX6_mark_88 rfl rfl ?_
    refine jr_aload_n hG 0 dX6_mark_89 rfl rfl ?_
    refine jr_getR hG fi_RX6_48 rfl (okO_s ha0) (okO_l ha0) dX6_mark_90 (fun o9 ho9 => ?_)
    refine jr_iload_n hG 1 dX6_mark_93 rfl rfl ?_
    refine jr_iconst (v := (1 : Int32)) hG dX6_mark_94 (by decide) ?_
    refine jr_callVi (As := [.ref (E.B + o9), .int v1, .int (1 : Int32)]) hG (c_X6_knows l E N a0 o9 v1 (1 : Int32) (σ)) ci_X6_knows wd_962 ⟨wd_964, wd_32⟩ cl_6 (okO_s ha0) (okO_l ha0) ⟨rfl, rfl, Nat.le_of_ble_eq_true rfl, Nat.le_of_ble_eq_true rfl⟩ rfl rfl (Nat.le_of_ble_eq_true rfl) dX6_mark_95 ⟨Nat.le_refl _, Nat.le_refl _⟩ (fun r11 t10 => ?_)
    refine jr_callSi (As := [.int r11]) hG (c_X6_bits l E N r11 t10) ci_X6_bits wd_973 wd_974 ⟨rfl, rfl, Nat.le_of_ble_eq_true rfl, Nat.le_of_ble_eq_true rfl⟩ rfl rfl (Nat.le_of_ble_eq_true rfl) dX6_mark_98 ⟨Nat.le_refl _, Nat.le_refl _⟩ (fun r13 t12 => ?_)
    refine jr_aload_n hG 0 dX6_mark_101 rfl rfl ?_
    refine jr_aload_n hG 0 dX6_mark_102 rfl rfl ?_
    refine jr_getR hG fi_RX6_48 rfl (okO_s ha0) (okO_l ha0) dX6_mark_103 (fun o14 ho14 => ?_)
    refine jr_iload_n hG 1 dX6_mark_106 rfl rfl ?_
    refine jr_iconst (v := (0 : Int32)) hG dX6_mark_107 (by decide) ?_
    refine jr_callVi (As := [.ref (E.B + o14), .int v1, .int (0 : Int32)]) hG (c_X6_knows l E N a0 o14 v1 (0 : Int32) t12) ci_X6_knows wd_962 ⟨wd_964, wd_32⟩ cl_6 (okO_s ha0) (okO_l ha0) ⟨rfl, rfl, Nat.le_of_ble_eq_true rfl, Nat.le_of_ble_eq_true rfl⟩ rfl rfl (Nat.le_of_ble_eq_true rfl) dX6_mark_108 ⟨Nat.le_refl _, Nat.le_refl _⟩ (fun r16 t15 => ?_)
    refine jr_callSi (As := [.int r16]) hG (c_X6_bits l E N r16 t15) ci_X6_bits wd_973 wd_974 ⟨rfl, rfl, Nat.le_of_ble_eq_true rfl, Nat.le_of_ble_eq_true rfl⟩ rfl rfl (Nat.le_of_ble_eq_true rfl) dX6_mark_111 ⟨Nat.le_refl _, Nat.le_refl _⟩ (fun r18 t17 => ?_)
    refine jr_isub hG dX6_mark_114 ?_
    exact jr_iret hG hr hk dX6_mark_115
  refine jr_ite (fun hs2 => ?_) (fun hs2 => ?_)
  · refine jr_tabIn (off := 58) hG 116 dX6_mark_58 (2 : Int32) hs2 (by decide) ?_
    refine jr_aload_n hG 0 dX6_mark_116 rfl rfl ?_
    refine jr_iload_n hG 1 dX6_mark_117 rfl rfl ?_
    refine jr_callVi (As := [.int v1]) hG (c_X6_tellersOf l E N a0 v1 (σ)) ci_X6_tellersOf wd_976 ⟨wd_978, wd_33⟩ cl_6 (okO_s ha0) (okO_l ha0) ⟨rfl, rfl, Nat.le_of_ble_eq_true rfl, Nat.le_of_ble_eq_true rfl⟩ rfl rfl (Nat.le_of_ble_eq_true rfl) dX6_mark_118 ⟨Nat.le_refl _, Nat.le_refl _⟩ (fun r20 t19 => ?_)
    exact jr_iret hG hr hk dX6_mark_121
  refine jr_ite (fun hs3 => ?_) (fun hs3 => ?_)
  · refine jr_tabIn (off := 64) hG 122 dX6_mark_58 (3 : Int32) hs3 (by decide) ?_
    refine jr_aload_n hG 0 dX6_mark_122 rfl rfl ?_
    refine jr_iload_n hG 1 dX6_mark_123 rfl rfl ?_
    refine jr_iconst (v := (1 : Int32)) hG dX6_mark_124 (by decide) ?_
    refine jr_aload_n hG 0 dX6_mark_125 rfl rfl ?_
    refine jr_getR hG fi_RX6_48 rfl (okO_s ha0) (okO_l ha0) dX6_mark_126 (fun o21 ho21 => ?_)
    refine jr_iload_n hG 1 dX6_mark_129 rfl rfl ?_
    refine jr_iald hG (okA_s (by decide) ho21) (okA_l ho21) dX6_mark_130 ?_
    refine jr_iconst (v := (1 : Int32)) hG dX6_mark_131 (by decide) ?_
    refine jr_iadd hG dX6_mark_132 ?_
    refine jr_iconst (v := (4 : Int32)) hG dX6_mark_133 (by decide) ?_
    refine jr_iremc hG dX6_mark_134 (by decide) ?_
    refine jr_ishl hG dX6_mark_135 ?_
    refine jr_callVi (As := [.int v1, .int ((1 : Int32) <<< ((((gi σ o21 (ix v1)) + (1 : Int32)) - ((gi σ o21 (ix v1)) + (1 : Int32)) / (4 : Int32) * (4 : Int32)) &&& 31))]) hG (c_X6_othersKnow l E N a0 v1 ((1 : Int32) <<< ((((gi σ o21 (ix v1)) + (1 : Int32)) - ((gi σ o21 (ix v1)) + (1 : Int32)) / (4 : Int32) * (4 : Int32)) &&& 31)) (σ)) ci_X6_othersKnow wd_992 ⟨wd_994, wd_37⟩ cl_6 (okO_s ha0) (okO_l ha0) ⟨rfl, rfl, Nat.le_of_ble_eq_true rfl, Nat.le_of_ble_eq_true rfl⟩ rfl rfl (Nat.le_of_ble_eq_true rfl) dX6_mark_136 ⟨Nat.le_refl _, Nat.le_refl _⟩ (fun r23 t22 => ?_)
    exact jr_iret hG hr hk dX6_mark_139
  refine jr_ite (fun hs4 => ?_) (fun hs4 => ?_)
  · refine jr_tabIn (off := 82) hG 140 dX6_mark_58 (4 : Int32) hs4 (by decide) ?_
    refine jr_aload_n hG 0 dX6_mark_140 rfl rfl ?_
    refine jr_iload_n hG 1 dX6_mark_141 rfl rfl ?_
    refine jr_aload_n hG 0 dX6_mark_142 rfl rfl ?_
    refine jr_aload_n hG 0 dX6_mark_143 rfl rfl ?_
    refine jr_getR hG fi_RX6_48 rfl (okO_s ha0) (okO_l ha0) dX6_mark_144 (fun o24 ho24 => ?_)
    refine jr_iload_n hG 1 dX6_mark_147 rfl rfl ?_
    refine jr_callVi (As := [.ref (E.B + o24), .int v1]) hG (c_X6_knowsIn l E N a0 o24 v1 (σ)) ci_X6_knowsIn wd_958 ⟨wd_960, wd_31⟩ cl_6 (okO_s ha0) (okO_l ha0) ⟨rfl, rfl, Nat.le_of_ble_eq_true rfl, Nat.le_of_ble_eq_true rfl⟩ rfl rfl (Nat.le_of_ble_eq_true rfl) dX6_mark_148 ⟨Nat.le_refl _, Nat.le_refl _⟩ (fun r26 t25 => ?_)
    refine jr_callVi (As := [.int v1, .int r26]) hG (c_X6_othersKnow l E N a0 v1 r26 t25) ci_X6_othersKnow wd_992 ⟨wd_994, wd_37⟩ cl_6 (okO_s ha0) (okO_l ha0) ⟨rfl, rfl, Nat.le_of_ble_eq_true rfl, Nat.le_of_ble_eq_true rfl⟩ rfl rfl (Nat.le_of_ble_eq_true rfl) dX6_mark_151 ⟨Nat.le_refl _, Nat.le_refl _⟩ (fun r28 t27 => ?_)
    exact jr_iret hG hr hk dX6_mark_154
  refine jr_tabOut hG 155 dX6_mark_58 (tab_out1_4 hs1 hs2 hs3 hs4) (by decide) ?_
  refine jr_aload_n hG 0 dX6_mark_155 rfl rfl ?_
  refine jr_aload_n hG 0 dX6_mark_156 rfl rfl ?_
  refine jr_getR hG fi_RX6_48 rfl (okO_s ha0) (okO_l ha0) dX6_mark_157 (fun o29 ho29 => ?_)
  refine jr_iload_n hG 1 dX6_mark_160 rfl rfl ?_
  refine jr_callVi (As := [.ref (E.B + o29), .int v1]) hG (c_X6_knowsIn l E N a0 o29 v1 (σ)) ci_X6_knowsIn wd_958 ⟨wd_960, wd_31⟩ cl_6 (okO_s ha0) (okO_l ha0) ⟨rfl, rfl, Nat.le_of_ble_eq_true rfl, Nat.le_of_ble_eq_true rfl⟩ rfl rfl (Nat.le_of_ble_eq_true rfl) dX6_mark_161 ⟨Nat.le_refl _, Nat.le_refl _⟩ (fun r31 t30 => ?_)
  refine jr_callSi (As := [.int r31]) hG (c_X6_bits l E N r31 t30) ci_X6_bits wd_973 wd_974 ⟨rfl, rfl, Nat.le_of_ble_eq_true rfl, Nat.le_of_ble_eq_true rfl⟩ rfl rfl (Nat.le_of_ble_eq_true rfl) dX6_mark_164 ⟨Nat.le_refl _, Nat.le_refl _⟩ (fun r33 t32 => ?_)
  exact jr_iret hG hr hk dX6_mark_167
def f_X6_mark_51 (N : Nat)  (a0 : Nat) (σ : Mm) : Option (Int32 × Mm) := bI (f_X6_meets N a0 (3 : Int32) (σ)) (fun r8 t7 => some (r8, t7))
set_option maxRecDepth 20000 in
theorem w_X6_mark_51 {p : Program} {l : Launch} {e : Env} {s : State} {m : MethodId} {args : Array Value} {below : List Frame} {meth : Method} {c : Code} {E : XE} (N : Nat) (hG : GG E NT 4 RX6 cX6_mark p s m args c) (hr : meth.sig.returnType = (some .int)) (hk : meth.locks = false)  (a0 : Nat) (ha0 : okO 6 a0 = true) (σ : Mm) : JR E NT 4 p l e rm_X6_mark s m args below meth c 0 0 (fun r => MQ below (xQi E (NT + 0) r) args s 0 0 (xA E)) 51 [(0, .ref (E.B + a0))] [] σ (f_X6_mark_51 N a0 σ) := by
  show JR E NT 4 p l e rm_X6_mark s m args below meth c 0 0 (fun r => MQ below (xQi E (NT + 0) r) args s 0 0 (xA E)) 51 [(0, .ref (E.B + a0))] [] σ (bI (f_X6_meets N a0 (3 : Int32) (σ)) (fun r8 t7 => some (r8, t7)))
  refine jr_aload_n hG 0 dX6_mark_51 rfl rfl ?_
  refine jr_iconst (v := (3 : Int32)) hG dX6_mark_52 (by decide) ?_
  refine jr_callVi (As := [.int (3 : Int32)]) hG (c_X6_meets l E N a0 (3 : Int32) (σ)) ci_X6_meets wd_869 ⟨wd_871, wd_21⟩ cl_6 (okO_s ha0) (okO_l ha0) ⟨rfl, rfl, Nat.le_of_ble_eq_true rfl, Nat.le_of_ble_eq_true rfl⟩ rfl rfl (Nat.le_of_ble_eq_true rfl) dX6_mark_53 ⟨Nat.le_refl _, Nat.le_refl _⟩ (fun r8 t7 => ?_)
  exact jr_iret hG hr hk dX6_mark_56
def f_X6_mark_41 (N : Nat)  (a0 : Nat) (v1 : Int32) (v2 : Int32) (v3 : Int32) (σ : Mm) : Option (Int32 × Mm) := if v2 = (2 : Int32) then (if v3 = (4 : Int32) then (f_X6_mark_57 N a0 v1 v2 (σ)) else (f_X6_mark_51 N a0 (σ))) else (f_X6_mark_51 N a0 (σ))
set_option maxRecDepth 20000 in
theorem w_X6_mark_41 {p : Program} {l : Launch} {e : Env} {s : State} {m : MethodId} {args : Array Value} {below : List Frame} {meth : Method} {c : Code} {E : XE} (N : Nat) (hG : GG E NT 4 RX6 cX6_mark p s m args c) (hr : meth.sig.returnType = (some .int)) (hk : meth.locks = false)  (a0 : Nat) (v1 : Int32) (v2 : Int32) (v3 : Int32) (ha0 : okO 6 a0 = true) (σ : Mm) : JR E NT 4 p l e rm_X6_mark s m args below meth c 0 0 (fun r => MQ below (xQi E (NT + 0) r) args s 0 0 (xA E)) 41 [(0, .ref (E.B + a0)), (1, .int v1), (2, .int v2), (3, .int v3)] [] σ (f_X6_mark_41 N a0 v1 v2 v3 σ) := by
  show JR E NT 4 p l e rm_X6_mark s m args below meth c 0 0 (fun r => MQ below (xQi E (NT + 0) r) args s 0 0 (xA E)) 41 [(0, .ref (E.B + a0)), (1, .int v1), (2, .int v2), (3, .int v3)] [] σ (if v2 = (2 : Int32) then (if v3 = (4 : Int32) then (f_X6_mark_57 N a0 v1 v2 (σ)) else (f_X6_mark_51 N a0 (σ))) else (f_X6_mark_51 N a0 (σ)))
  refine jr_iload_n hG 2 dX6_mark_41 rfl rfl ?_
  refine jr_iconst (v := (2 : Int32)) hG dX6_mark_42 (by decide) ?_
  refine jr_icmp_ne hG 51 dX6_mark_43 (by decide) (fun _ => ?_) (fun _ => ?_)
  · refine jr_sub (lv' := [(0, .ref (E.B + a0))]) [0] rfl ?_
    exact w_X6_mark_51 N hG hr hk a0 ha0 (σ)
  · refine jr_iload_n hG 3 dX6_mark_46 rfl rfl ?_
    refine jr_iconst (v := (4 : Int32)) hG dX6_mark_47 (by decide) ?_
    refine jr_icmp_eq hG 57 dX6_mark_48 (by decide) (fun _ => ?_) (fun _ => ?_)
    · refine jr_sub (lv' := [(0, .ref (E.B + a0)), (1, .int v1), (2, .int v2)]) [0, 1, 2] rfl ?_
      exact w_X6_mark_57 N hG hr hk a0 v1 v2 ha0 (σ)
    · refine jr_sub (lv' := [(0, .ref (E.B + a0))]) [0] rfl ?_
      exact w_X6_mark_51 N hG hr hk a0 ha0 (σ)
def f_X6_mark (N : Nat) (a0 : Nat) (v1 : Int32) (v2 : Int32) (σ : Mm) : Option (Int32 × Mm) := if okO 6 a0 then (bI (f_X6_isPerson N a0 v1 (σ)) (fun r2 t1 => if r2 = 0 then (some ((-1 : Int32), t1)) else (bI (f_X6_in N v2 (1 : Int32) (5 : Int32) t1) (fun r4 t3 => if r4 = 0 then (some ((-1 : Int32), t3)) else (bR (gr t3 a0 11) (okA 0) (fun o5 => if inb v1 (arL o5) then (lt (gi t3 o5 (ix v1)) (fun x6 => if x6 = v2 then (f_X6_mark_57 N a0 v1 v2 t3) else (if v2 = (1 : Int32) then (if x6 = (3 : Int32) then (f_X6_mark_57 N a0 v1 v2 t3) else (f_X6_mark_41 N a0 v1 v2 x6 t3)) else (f_X6_mark_41 N a0 v1 v2 x6 t3)))) else none)))))) else none
set_option maxRecDepth 20000 in
theorem c_X6_mark (l : Launch) (E : XE) (N : Nat) (a0 : Nat) (v1 : Int32) (v2 : Int32) (σ : Mm) : ∀ r0, f_X6_mark N a0 v1 v2 σ = some r0 → Met l yX6_mark [Cond.code yX6_mark cX6_mark 4 (some .int)] rm_X6_mark (xPc E (NT + 0) σ [.ref (E.B + a0), .int v1, .int v2]) (xQi E (NT + 0) r0) 0 0 (xA E) := by
  refine met_of (N0 := NT) (by decide +kernel) (Nat.le_of_ble_eq_true rfl) ?_
  intro p e s m args below meth c hG hr hk _
  show JR E NT 4 p l e rm_X6_mark s m args below meth c 0 0 (fun r => MQ below (xQi E (NT + 0) r) args s 0 0 (xA E)) 0 [(0, .ref (E.B + a0)), (1, .int v1), (2, .int v2)] [] σ (if okO 6 a0 then (bI (f_X6_isPerson N a0 v1 (σ)) (fun r2 t1 => if r2 = 0 then (some ((-1 : Int32), t1)) else (bI (f_X6_in N v2 (1 : Int32) (5 : Int32) t1) (fun r4 t3 => if r4 = 0 then (some ((-1 : Int32), t3)) else (bR (gr t3 a0 11) (okA 0) (fun o5 => if inb v1 (arL o5) then (lt (gi t3 o5 (ix v1)) (fun x6 => if x6 = v2 then (f_X6_mark_57 N a0 v1 v2 t3) else (if v2 = (1 : Int32) then (if x6 = (3 : Int32) then (f_X6_mark_57 N a0 v1 v2 t3) else (f_X6_mark_41 N a0 v1 v2 x6 t3)) else (f_X6_mark_41 N a0 v1 v2 x6 t3)))) else none)))))) else none)
  refine jr_guard (fun ha0 => ?_)
  refine jr_aload_n hG 0 dX6_mark_0 rfl rfl ?_
  refine jr_iload_n hG 1 dX6_mark_1 rfl rfl ?_
  refine jr_callVi (As := [.int v1]) hG (c_X6_isPerson l E N a0 v1 (σ)) ci_X6_isPerson wd_950 ⟨wd_952, wd_29⟩ cl_6 (okO_s ha0) (okO_l ha0) ⟨rfl, rfl, Nat.le_of_ble_eq_true rfl, Nat.le_of_ble_eq_true rfl⟩ rfl rfl (Nat.le_of_ble_eq_true rfl) dX6_mark_2 ⟨Nat.le_refl _, Nat.le_refl _⟩ (fun r2 t1 => ?_)
  refine jr_if_eq hG 17 dX6_mark_5 (by decide) (fun _ => ?_) (fun _ => ?_)
  · refine jr_iconst (v := (-1 : Int32)) hG dX6_mark_17 (by decide) ?_
    exact jr_iret hG hr hk dX6_mark_18
  · refine jr_iload_n hG 2 dX6_mark_8 rfl rfl ?_
    refine jr_iconst (v := (1 : Int32)) hG dX6_mark_9 (by decide) ?_
    refine jr_iconst (v := (5 : Int32)) hG dX6_mark_10 (by decide) ?_
    refine jr_callSi (As := [.int v2, .int (1 : Int32), .int (5 : Int32)]) hG (c_X6_in l E N v2 (1 : Int32) (5 : Int32) t1) ci_X6_in wd_847 wd_848 ⟨rfl, rfl, Nat.le_of_ble_eq_true rfl, Nat.le_of_ble_eq_true rfl⟩ rfl rfl (Nat.le_of_ble_eq_true rfl) dX6_mark_11 ⟨Nat.le_refl _, Nat.le_refl _⟩ (fun r4 t3 => ?_)
    refine jr_if_ne hG 19 dX6_mark_14 (by decide) (fun _ => ?_) (fun _ => ?_)
    · refine jr_aload_n hG 0 dX6_mark_19 rfl rfl ?_
      refine jr_getR hG fi_RX6_33 rfl (okO_s ha0) (okO_l ha0) dX6_mark_20 (fun o5 ho5 => ?_)
      refine jr_iload_n hG 1 dX6_mark_23 rfl rfl ?_
      refine jr_iald hG (okA_s (by decide) ho5) (okA_l ho5) dX6_mark_24 ?_
      refine jr_leti (fun x6 _ => ?_)
      refine jr_istore_n (lv' := [(3, .int x6), (0, .ref (E.B + a0)), (1, .int v1), (2, .int v2)]) hG dX6_mark_25 rfl (by decide) rfl ?_
      refine jr_iload_n hG 0 dX6_mark_26 rfl rfl ?_
      refine jr_iload_n hG 3 dX6_mark_27 rfl rfl ?_
      refine jr_icmp_eq hG 57 dX6_mark_28 (by decide) (fun _ => ?_) (fun _ => ?_)
      · refine jr_sub (lv' := [(0, .ref (E.B + a0)), (1, .int v1), (2, .int v2)]) [1, 2, 3] rfl ?_
        exact w_X6_mark_57 N hG hr hk a0 v1 v2 ha0 t3
      · refine jr_iload_n hG 3 dX6_mark_31 rfl rfl ?_
        refine jr_iconst (v := (1 : Int32)) hG dX6_mark_32 (by decide) ?_
        refine jr_icmp_ne hG 41 dX6_mark_33 (by decide) (fun _ => ?_) (fun _ => ?_)
        · refine jr_sub (lv' := [(0, .ref (E.B + a0)), (1, .int v1), (2, .int v2), (3, .int x6)]) [1, 2, 3, 0] rfl ?_
          exact w_X6_mark_41 N hG hr hk a0 v1 v2 x6 ha0 t3
        · refine jr_iload_n hG 0 dX6_mark_36 rfl rfl ?_
          refine jr_iconst (v := (3 : Int32)) hG dX6_mark_37 (by decide) ?_
          refine jr_icmp_eq hG 57 dX6_mark_38 (by decide) (fun _ => ?_) (fun _ => ?_)
          · refine jr_sub (lv' := [(0, .ref (E.B + a0)), (1, .int v1), (2, .int v2)]) [1, 2, 3] rfl ?_
            exact w_X6_mark_57 N hG hr hk a0 v1 v2 ha0 t3
          · refine jr_sub (lv' := [(0, .ref (E.B + a0)), (1, .int v1), (2, .int v2), (3, .int x6)]) [1, 2, 3, 0] rfl ?_
            exact w_X6_mark_41 N hG hr hk a0 v1 v2 x6 ha0 t3
    · refine jr_iconst (v := (-1 : Int32)) hG dX6_mark_17 (by decide) ?_
      exact jr_iret hG hr hk dX6_mark_18
-- TonguesDealtModel.remember()V
abbrev rm_X6_remember : Room := { frames := 0, cells := 0, slots := 0, locals := 0 }
theorem ci_X6_remember : CIx yX6_remember cX6_remember 2 none 0 := ⟨wd_1011, wd_77, by decide +kernel⟩
def f_X6_remember_2 (N : Nat)  : Nat → Nat → Int32 → Mm → Option (Mm)
  | 0 => fun _ _ _ => none
  | n + 1 => fun a0 v1 σ => if (14 : Int32) ≤ v1 then (lt (si σ a0 22 ((gi σ a0 22) + (1 : Int32))) (fun t1 => some t1)) else (bR (gr σ a0 23) (okA 0) (fun o2 => bR (gr σ a0 19) (okA 0) (fun o3 => if inb v1 (arL o3) then (if inb (((14 : Int32) * (gi σ a0 22)) + v1) (arL o2) then (lt (si σ o2 (ix (((14 : Int32) * (gi σ a0 22)) + v1)) (gi σ o3 (ix v1))) (fun t4 => f_X6_remember_2 N n a0 (v1 + (1 : Int32)) t4)) else none) else none)))
set_option maxRecDepth 20000 in
theorem w_X6_remember_2 {p : Program} {l : Launch} {e : Env} {s : State} {m : MethodId} {args : Array Value} {below : List Frame} {meth : Method} {c : Code} {E : XE} (N : Nat) (hG : GG E NT 2 RX6 cX6_remember p s m args c) (hr : meth.sig.returnType = none) (hk : meth.locks = false)  : ∀ (n : Nat) (a0 : Nat) (v1 : Int32) (ha0 : okO 6 a0 = true) (σ : Mm), JR E NT 2 p l e rm_X6_remember s m args below meth c 0 0 (fun r => MQ below (xQv E (NT + 0) r) args s 0 0 (xA E)) 2 [(0, .ref (E.B + a0)), (1, .int v1)] [] σ (f_X6_remember_2 N n a0 v1 σ) := by
  intro n
  induction n with
  | zero => intro a0 v1 ha0 σ r hX; cases hX
  | succ n ih =>
    intro a0 v1 ha0 σ
    show JR E NT 2 p l e rm_X6_remember s m args below meth c 0 0 (fun r => MQ below (xQv E (NT + 0) r) args s 0 0 (xA E)) 2 [(0, .ref (E.B + a0)), (1, .int v1)] [] σ (if (14 : Int32) ≤ v1 then (lt (si σ a0 22 ((gi σ a0 22) + (1 : Int32))) (fun t1 => some t1)) else (bR (gr σ a0 23) (okA 0) (fun o2 => bR (gr σ a0 19) (okA 0) (fun o3 => if inb v1 (arL o3) then (if inb (((14 : Int32) * (gi σ a0 22)) + v1) (arL o2) then (lt (si σ o2 (ix (((14 : Int32) * (gi σ a0 22)) + v1)) (gi σ o3 (ix v1))) (fun t4 => f_X6_remember_2 N n a0 (v1 + (1 : Int32)) t4)) else none) else none))))
    refine jr_iload_n hG 1 dX6_remember_2 rfl rfl ?_
    refine jr_bipush (v := (14 : Int32)) hG dX6_remember_3 (by decide) ?_
    refine jr_icmp_ge hG 34 dX6_remember_5 (by decide) (fun _ => ?_) (fun _ => ?_)
    · refine jr_aload_n hG 0 dX6_remember_34 rfl rfl ?_
      refine jr_dup hG dX6_remember_35 rfl ?_
      refine jr_getI hG fi_RX6_150 rfl (okO_s ha0) (okO_l ha0) dX6_remember_36 ?_
      refine jr_iconst (v := (1 : Int32)) hG dX6_remember_39 (by decide) ?_
      refine jr_iadd hG dX6_remember_40 ?_
      refine jr_putI hG fi_RX6_150 rfl rfl (okO_s ha0) (okO_l ha0) dX6_remember_41 ?_
      refine jr_lets (fun t1 _ => ?_)
      exact jr_vret hG hr hk dX6_remember_44
    · refine jr_aload_n hG 0 dX6_remember_8 rfl rfl ?_
      refine jr_getR hG fi_RX6_57 rfl (okO_s ha0) (okO_l ha0) dX6_remember_9 (fun o2 ho2 => ?_)
      refine jr_bipush (v := (14 : Int32)) hG dX6_remember_12 (by decide) ?_
      refine jr_aload_n hG 0 dX6_remember_14 rfl rfl ?_
      refine jr_getI hG fi_RX6_150 rfl (okO_s ha0) (okO_l ha0) dX6_remember_15 ?_
      refine jr_imul hG dX6_remember_18 ?_
      refine jr_iload_n hG 1 dX6_remember_19 rfl rfl ?_
      refine jr_iadd hG dX6_remember_20 ?_
      refine jr_aload_n hG 0 dX6_remember_21 rfl rfl ?_
      refine jr_getR hG fi_RX6_48 rfl (okO_s ha0) (okO_l ha0) dX6_remember_22 (fun o3 ho3 => ?_)
      refine jr_iload_n hG 1 dX6_remember_25 rfl rfl ?_
      refine jr_iald hG (okA_s (by decide) ho3) (okA_l ho3) dX6_remember_26 ?_
      refine jr_iast hG (okA_s (by decide) ho2) (okA_l ho2) dX6_remember_27 ?_
      refine jr_lets (fun t4 _ => ?_)
      refine jr_iinc (v := v1 + (1 : Int32)) (lv' := [(1, .int (v1 + (1 : Int32))), (0, .ref (E.B + a0))]) hG 1 dX6_remember_28 rfl rfl (by decide) rfl ?_
      refine jr_goto hG 2 dX6_remember_31 (by decide) ?_
      refine jr_sub (lv' := [(0, .ref (E.B + a0)), (1, .int (v1 + (1 : Int32)))]) [1, 0] rfl ?_
      exact ih a0 (v1 + (1 : Int32)) ha0 t4
def f_X6_remember (N : Nat) (a0 : Nat) (σ : Mm) : Option (Mm) := if okO 6 a0 then (f_X6_remember_2 N N a0 (0 : Int32) (σ)) else none
set_option maxRecDepth 20000 in
theorem c_X6_remember (l : Launch) (E : XE) (N : Nat) (a0 : Nat) (σ : Mm) : ∀ r0, f_X6_remember N a0 σ = some r0 → Met l yX6_remember [Cond.code yX6_remember cX6_remember 2 none] rm_X6_remember (xPc E (NT + 0) σ [.ref (E.B + a0)]) (xQv E (NT + 0) r0) 0 0 (xA E) := by
  refine met_of (N0 := NT) (by decide +kernel) (Nat.le_of_ble_eq_true rfl) ?_
  intro p e s m args below meth c hG hr hk _
  show JR E NT 2 p l e rm_X6_remember s m args below meth c 0 0 (fun r => MQ below (xQv E (NT + 0) r) args s 0 0 (xA E)) 0 [(0, .ref (E.B + a0))] [] σ (if okO 6 a0 then (f_X6_remember_2 N N a0 (0 : Int32) (σ)) else none)
  refine jr_guard (fun ha0 => ?_)
  refine jr_iconst (v := (0 : Int32)) hG dX6_remember_0 (by decide) ?_
  refine jr_istore_n (lv' := [(1, .int (0 : Int32)), (0, .ref (E.B + a0))]) hG dX6_remember_1 rfl (by decide) rfl ?_
  refine jr_sub (lv' := [(0, .ref (E.B + a0)), (1, .int (0 : Int32))]) [1, 0] rfl ?_
  exact w_X6_remember_2 N hG hr hk N a0 (0 : Int32) ha0 (σ)
-- TonguesDealtModel.agrees(II)Z
abbrev rm_X6_agrees : Room := { frames := 1, cells := 0, slots := 0, locals := 22 }
theorem ci_X6_agrees : CIx yX6_agrees cX6_agrees 6 (some .boolean) 2 := ⟨wd_1007, wd_77, by decide +kernel⟩
def f_X6_agrees_71 (N : Nat) (K5 : Nat → Int32 → Int32 → Int32 → Int32 → Mm → Option (Int32 × Mm)) (K17 : Nat → Int32 → Int32 → Int32 → Int32 → Int32 → Mm → Option (Int32 × Mm)) (a0 : Nat) (v1 : Int32) (v2 : Int32) (v4 : Int32) (v5 : Int32) (s0 : Int32) (σ : Mm) : Option (Int32 × Mm) := K17 a0 v1 v2 s0 v4 (v5 + (1 : Int32)) (σ)
set_option maxRecDepth 20000 in
theorem w_X6_agrees_71 {p : Program} {l : Launch} {e : Env} {s : State} {m : MethodId} {args : Array Value} {below : List Frame} {meth : Method} {c : Code} {E : XE} (N : Nat) (hG : GG E NT 6 RX6 cX6_agrees p s m args c) (hr : meth.sig.returnType = (some .boolean)) (hk : meth.locks = false) {K5 : Nat → Int32 → Int32 → Int32 → Int32 → Mm → Option (Int32 × Mm)} (hK5 : ∀ (a0 : Nat) (v1 : Int32) (v2 : Int32) (v3 : Int32) (v4 : Int32) (ha0 : okO 6 a0 = true) (σ : Mm), JR E NT 6 p l e rm_X6_agrees s m args below meth c 0 0 (fun r => MQ below (xQi E (NT + 0) r) args s 0 0 (xA E)) 5 [(0, .ref (E.B + a0)), (1, .int v1), (2, .int v2), (3, .int v3), (4, .int v4)] [] σ (K5 a0 v1 v2 v3 v4 σ)) {K17 : Nat → Int32 → Int32 → Int32 → Int32 → Int32 → Mm → Option (Int32 × Mm)} (hK17 : ∀ (a0 : Nat) (v1 : Int32) (v2 : Int32) (v3 : Int32) (v4 : Int32) (v5 : Int32) (ha0 : okO 6 a0 = true) (σ : Mm), JR E NT 6 p l e rm_X6_agrees s m args below meth c 0 0 (fun r => MQ below (xQi E (NT + 0) r) args s 0 0 (xA E)) 17 [(0, .ref (E.B + a0)), (1, .int v1), (2, .int v2), (3, .int v3), (4, .int v4), (5, .int v5)] [] σ (K17 a0 v1 v2 v3 v4 v5 σ)) (a0 : Nat) (v1 : Int32) (v2 : Int32) (v4 : Int32) (v5 : Int32) (s0 : Int32) (ha0 : okO 6 a0 = true) (σ : Mm) : JR E NT 6 p l e rm_X6_agrees s m args below meth c 0 0 (fun r => MQ below (xQi E (NT + 0) r) args s 0 0 (xA E)) 71 [(0, .ref (E.B + a0)), (1, .int v1), (2, .int v2), (4, .int v4), (5, .int v5)] [.int s0] σ (f_X6_agrees_71 N K5 K17 a0 v1 v2 v4 v5 s0 σ) := by
  show JR E NT 6 p l e rm_X6_agrees s m args below meth c 0 0 (fun r => MQ below (xQi E (NT + 0) r) args s 0 0 (xA E)) 71 [(0, .ref (E.B + a0)), (1, .int v1), (2, .int v2), (4, .int v4), (5, .int v5)] [.int s0] σ (K17 a0 v1 v2 s0 v4 (v5 + (1 : Int32)) (σ))
  refine jr_istore_n (lv' := [(3, .int s0), (0, .ref (E.B + a0)), (1, .int v1), (2, .int v2), (4, .int v4), (5, .int v5)]) hG dX6_agrees_71 rfl (by decide) rfl ?_
  refine jr_iinc (v := v5 + (1 : Int32)) (lv' := [(5, .int (v5 + (1 : Int32))), (3, .int s0), (0, .ref (E.B + a0)), (1, .int v1), (2, .int v2), (4, .int v4)]) hG 5 dX6_agrees_72 rfl rfl (by decide) rfl ?_
  refine jr_goto hG 17 dX6_agrees_75 (by decide) ?_
  refine jr_sub (lv' := [(0, .ref (E.B + a0)), (1, .int v1), (2, .int v2), (3, .int s0), (4, .int v4), (5, .int (v5 + (1 : Int32)))]) [2, 3, 4, 1, 5, 0] rfl ?_
  exact hK17 a0 v1 v2 s0 v4 (v5 + (1 : Int32)) ha0 (σ)
def f_X6_agrees_70 (N : Nat) (K5 : Nat → Int32 → Int32 → Int32 → Int32 → Mm → Option (Int32 × Mm)) (K17 : Nat → Int32 → Int32 → Int32 → Int32 → Int32 → Mm → Option (Int32 × Mm)) (a0 : Nat) (v1 : Int32) (v2 : Int32) (v4 : Int32) (v5 : Int32) (σ : Mm) : Option (Int32 × Mm) := f_X6_agrees_71 N K5 K17 a0 v1 v2 v4 v5 (0 : Int32) (σ)
set_option maxRecDepth 20000 in
theorem w_X6_agrees_70 {p : Program} {l : Launch} {e : Env} {s : State} {m : MethodId} {args : Array Value} {below : List Frame} {meth : Method} {c : Code} {E : XE} (N : Nat) (hG : GG E NT 6 RX6 cX6_agrees p s m args c) (hr : meth.sig.returnType = (some .boolean)) (hk : meth.locks = false) {K5 : Nat → Int32 → Int32 → Int32 → Int32 → Mm → Option (Int32 × Mm)} (hK5 : ∀ (a0 : Nat) (v1 : Int32) (v2 : Int32) (v3 : Int32) (v4 : Int32) (ha0 : okO 6 a0 = true) (σ : Mm), JR E NT 6 p l e rm_X6_agrees s m args below meth c 0 0 (fun r => MQ below (xQi E (NT + 0) r) args s 0 0 (xA E)) 5 [(0, .ref (E.B + a0)), (1, .int v1), (2, .int v2), (3, .int v3), (4, .int v4)] [] σ (K5 a0 v1 v2 v3 v4 σ)) {K17 : Nat → Int32 → Int32 → Int32 → Int32 → Int32 → Mm → Option (Int32 × Mm)} (hK17 : ∀ (a0 : Nat) (v1 : Int32) (v2 : Int32) (v3 : Int32) (v4 : Int32) (v5 : Int32) (ha0 : okO 6 a0 = true) (σ : Mm), JR E NT 6 p l e rm_X6_agrees s m args below meth c 0 0 (fun r => MQ below (xQi E (NT + 0) r) args s 0 0 (xA E)) 17 [(0, .ref (E.B + a0)), (1, .int v1), (2, .int v2), (3, .int v3), (4, .int v4), (5, .int v5)] [] σ (K17 a0 v1 v2 v3 v4 v5 σ)) (a0 : Nat) (v1 : Int32) (v2 : Int32) (v4 : Int32) (v5 : Int32) (ha0 : okO 6 a0 = true) (σ : Mm) : JR E NT 6 p l e rm_X6_agrees s m args below meth c 0 0 (fun r => MQ below (xQi E (NT + 0) r) args s 0 0 (xA E)) 70 [(0, .ref (E.B + a0)), (1, .int v1), (2, .int v2), (4, .int v4), (5, .int v5)] [] σ (f_X6_agrees_70 N K5 K17 a0 v1 v2 v4 v5 σ) := by
  show JR E NT 6 p l e rm_X6_agrees s m args below meth c 0 0 (fun r => MQ below (xQi E (NT + 0) r) args s 0 0 (xA E)) 70 [(0, .ref (E.B + a0)), (1, .int v1), (2, .int v2), (4, .int v4), (5, .int v5)] [] σ (f_X6_agrees_71 N K5 K17 a0 v1 v2 v4 v5 (0 : Int32) (σ))
  refine jr_iconst (v := (0 : Int32)) hG dX6_agrees_70 (by decide) ?_
  exact w_X6_agrees_71 N hG hr hk hK5 hK17 a0 v1 v2 v4 v5 (0 : Int32) ha0 (σ)
def f_X6_agrees_66 (N : Nat) (K5 : Nat → Int32 → Int32 → Int32 → Int32 → Mm → Option (Int32 × Mm)) (K17 : Nat → Int32 → Int32 → Int32 → Int32 → Int32 → Mm → Option (Int32 × Mm)) (a0 : Nat) (v1 : Int32) (v2 : Int32) (v4 : Int32) (v5 : Int32) (σ : Mm) : Option (Int32 × Mm) := f_X6_agrees_71 N K5 K17 a0 v1 v2 v4 v5 (1 : Int32) (σ)
set_option maxRecDepth 20000 in
theorem w_X6_agrees_66 {p : Program} {l : Launch} {e : Env} {s : State} {m : MethodId} {args : Array Value} {below : List Frame} {meth : Method} {c : Code} {E : XE} (N : Nat) (hG : GG E NT 6 RX6 cX6_agrees p s m args c) (hr : meth.sig.returnType = (some .boolean)) (hk : meth.locks = false) {K5 : Nat → Int32 → Int32 → Int32 → Int32 → Mm → Option (Int32 × Mm)} (hK5 : ∀ (a0 : Nat) (v1 : Int32) (v2 : Int32) (v3 : Int32) (v4 : Int32) (ha0 : okO 6 a0 = true) (σ : Mm), JR E NT 6 p l e rm_X6_agrees s m args below meth c 0 0 (fun r => MQ below (xQi E (NT + 0) r) args s 0 0 (xA E)) 5 [(0, .ref (E.B + a0)), (1, .int v1), (2, .int v2), (3, .int v3), (4, .int v4)] [] σ (K5 a0 v1 v2 v3 v4 σ)) {K17 : Nat → Int32 → Int32 → Int32 → Int32 → Int32 → Mm → Option (Int32 × Mm)} (hK17 : ∀ (a0 : Nat) (v1 : Int32) (v2 : Int32) (v3 : Int32) (v4 : Int32) (v5 : Int32) (ha0 : okO 6 a0 = true) (σ : Mm), JR E NT 6 p l e rm_X6_agrees s m args below meth c 0 0 (fun r => MQ below (xQi E (NT + 0) r) args s 0 0 (xA E)) 17 [(0, .ref (E.B + a0)), (1, .int v1), (2, .int v2), (3, .int v3), (4, .int v4), (5, .int v5)] [] σ (K17 a0 v1 v2 v3 v4 v5 σ)) (a0 : Nat) (v1 : Int32) (v2 : Int32) (v4 : Int32) (v5 : Int32) (ha0 : okO 6 a0 = true) (σ : Mm) : JR E NT 6 p l e rm_X6_agrees s m args below meth c 0 0 (fun r => MQ below (xQi E (NT + 0) r) args s 0 0 (xA E)) 66 [(0, .ref (E.B + a0)), (1, .int v1), (2, .int v2), (4, .int v4), (5, .int v5)] [] σ (f_X6_agrees_66 N K5 K17 a0 v1 v2 v4 v5 σ) := by
  show JR E NT 6 p l e rm_X6_agrees s m args below meth c 0 0 (fun r => MQ below (xQi E (NT + 0) r) args s 0 0 (xA E)) 66 [(0, .ref (E.B + a0)), (1, .int v1), (2, .int v2), (4, .int v4), (5, .int v5)] [] σ (f_X6_agrees_71 N K5 K17 a0 v1 v2 v4 v5 (1 : Int32) (σ))
  refine jr_iconst (v := (1 : Int32)) hG dX6_agrees_66 (by decide) ?_
  refine jr_goto hG 71 dX6_agrees_67 (by decide) ?_
  exact w_X6_agrees_71 N hG hr hk hK5 hK17 a0 v1 v2 v4 v5 (1 : Int32) ha0 (σ)
def f_X6_agrees_17 (N : Nat) (K5 : Nat → Int32 → Int32 → Int32 → Int32 → Mm → Option (Int32 × Mm)) : Nat → Nat → Int32 → Int32 → Int32 → Int32 → Int32 → Mm → Option (Int32 × Mm)
  | 0 => fun _ _ _ _ _ _ _ => none
  | n + 1 => fun a0 v1 v2 v3 v4 v5 σ => if (gi σ a0 10) ≤ v5 then (K5 a0 v1 v2 v3 (v4 + (1 : Int32)) (σ)) else (if v3 = 0 then (f_X6_agrees_70 N K5 (f_X6_agrees_17 N K5 n) a0 v1 v2 v4 v5 (σ)) else (bR (gr σ a0 12) (okA 0) (fun o1 => if inb v4 (arL o1) then (bI (f_X6_has N (gi σ o1 (ix v4)) v5 (σ)) (fun r3 t2 => if r3 = 0 then (f_X6_agrees_66 N K5 (f_X6_agrees_17 N K5 n) a0 v1 v2 v4 v5 t2) else (bI (f_X6_rowAt N a0 v1 (v2 + v4) t2) (fun r5 t4 => bI (f_X6_rowAt N a0 v1 (v2 + v5) t4) (fun r7 t6 => if r5 = r7 then (f_X6_agrees_66 N K5 (f_X6_agrees_17 N K5 n) a0 v1 v2 v4 v5 t6) else (f_X6_agrees_70 N K5 (f_X6_agrees_17 N K5 n) a0 v1 v2 v4 v5 t6)))))) else none)))
set_option maxRecDepth 20000 in
theorem w_X6_agrees_17 {p : Program} {l : Launch} {e : Env} {s : State} {m : MethodId} {args : Array Value} {below : List Frame} {meth : Method} {c : Code} {E : XE} (N : Nat) (hG : GG E NT 6 RX6 cX6_agrees p s m args c) (hr : meth.sig.returnType = (some .boolean)) (hk : meth.locks = false) {K5 : Nat → Int32 → Int32 → Int32 → Int32 → Mm → Option (Int32 × Mm)} (hK5 : ∀ (a0 : Nat) (v1 : Int32) (v2 : Int32) (v3 : Int32) (v4 : Int32) (ha0 : okO 6 a0 = true) (σ : Mm), JR E NT 6 p l e rm_X6_agrees s m args below meth c 0 0 (fun r => MQ below (xQi E (NT + 0) r) args s 0 0 (xA E)) 5 [(0, .ref (E.B + a0)), (1, .int v1), (2, .int v2), (3, .int v3), (4, .int v4)] [] σ (K5 a0 v1 v2 v3 v4 σ)) : ∀ (n : Nat) (a0 : Nat) (v1 : Int32) (v2 : Int32) (v3 : Int32) (v4 : Int32) (v5 : Int32) (ha0 : okO 6 a0 = true) (σ : Mm), JR E NT 6 p l e rm_X6_agrees s m args below meth c 0 0 (fun r => MQ below (xQi E (NT + 0) r) args s 0 0 (xA E)) 17 [(0, .ref (E.B + a0)), (1, .int v1), (2, .int v2), (3, .int v3), (4, .int v4), (5, .int v5)] [] σ (f_X6_agrees_17 N K5 n a0 v1 v2 v3 v4 v5 σ) := by
  intro n
  induction n with
  | zero => intro a0 v1 v2 v3 v4 v5 ha0 σ r hX; cases hX
  | succ n ih =>
    intro a0 v1 v2 v3 v4 v5 ha0 σ
    show JR E NT 6 p l e rm_X6_agrees s m args below meth c 0 0 (fun r => MQ below (xQi E (NT + 0) r) args s 0 0 (xA E)) 17 [(0, .ref (E.B + a0)), (1, .int v1), (2, .int v2), (3, .int v3), (4, .int v4), (5, .int v5)] [] σ (if (gi σ a0 10) ≤ v5 then (K5 a0 v1 v2 v3 (v4 + (1 : Int32)) (σ)) else (if v3 = 0 then (f_X6_agrees_70 N K5 (f_X6_agrees_17 N K5 n) a0 v1 v2 v4 v5 (σ)) else (bR (gr σ a0 12) (okA 0) (fun o1 => if inb v4 (arL o1) then (bI (f_X6_has N (gi σ o1 (ix v4)) v5 (σ)) (fun r3 t2 => if r3 = 0 then (f_X6_agrees_66 N K5 (f_X6_agrees_17 N K5 n) a0 v1 v2 v4 v5 t2) else (bI (f_X6_rowAt N a0 v1 (v2 + v4) t2) (fun r5 t4 => bI (f_X6_rowAt N a0 v1 (v2 + v5) t4) (fun r7 t6 => if r5 = r7 then (f_X6_agrees_66 N K5 (f_X6_agrees_17 N K5 n) a0 v1 v2 v4 v5 t6) else (f_X6_agrees_70 N K5 (f_X6_agrees_17 N K5 n) a0 v1 v2 v4 v5 t6)))))) else none))))
    refine jr_iload hG 5 dX6_agrees_17 rfl ?_
    refine jr_aload_n hG 0 dX6_agrees_19 rfl rfl ?_
    refine jr_getI hG fi_RX6_147 rfl (okO_s ha0) (okO_l ha0) dX6_agrees_20 ?_
    refine jr_icmp_ge hG 78 dX6_agrees_23 (by decide) (fun _ => ?_) (fun _ => ?_)
    · refine jr_iinc (v := v4 + (1 : Int32)) (lv' := [(4, .int (v4 + (1 : Int32))), (0, .ref (E.B + a0)), (1, .int v1), (2, .int v2), (3, .int v3), (5, .int v5)]) hG 4 dX6_agrees_78 rfl rfl (by decide) rfl ?_
      refine jr_goto hG 5 dX6_agrees_81 (by decide) ?_
      refine jr_sub (lv' := [(0, .ref (E.B + a0)), (1, .int v1), (2, .int v2), (3, .int v3), (4, .int (v4 + (1 : Int32)))]) [1, 2, 3, 4, 0] rfl ?_
      exact hK5 a0 v1 v2 v3 (v4 + (1 : Int32)) ha0 (σ)
    · refine jr_iload_n hG 3 dX6_agrees_26 rfl rfl ?_
      refine jr_if_eq hG 70 dX6_agrees_27 (by decide) (fun _ => ?_) (fun _ => ?_)
      · refine jr_sub (lv' := [(0, .ref (E.B + a0)), (1, .int v1), (2, .int v2), (4, .int v4), (5, .int v5)]) [0, 1, 2, 4, 5] rfl ?_
        exact w_X6_agrees_70 N hG hr hk hK5 ih a0 v1 v2 v4 v5 ha0 (σ)
      · refine jr_aload_n hG 0 dX6_agrees_30 rfl rfl ?_
        refine jr_getR hG fi_RX6_36 rfl (okO_s ha0) (okO_l ha0) dX6_agrees_31 (fun o1 ho1 => ?_)
        refine jr_iload hG 4 dX6_agrees_34 rfl ?_
        refine jr_iald hG (okA_s (by decide) ho1) (okA_l ho1) dX6_agrees_36 ?_
        refine jr_iload hG 5 dX6_agrees_37 rfl ?_
        refine jr_callSi (As := [.int (gi σ o1 (ix v4)), .int v5]) hG (c_X6_has l E N (gi σ o1 (ix v4)) v5 (σ)) ci_X6_has wd_932 wd_933 ⟨rfl, rfl, Nat.le_of_ble_eq_true rfl, Nat.le_of_ble_eq_true rfl⟩ rfl rfl (Nat.le_of_ble_eq_true rfl) dX6_agrees_39 ⟨Nat.le_refl _, Nat.le_refl _⟩ (fun r3 t2 => ?_)
        refine jr_if_eq hG 66 dX6_agrees_42 (by decide) (fun _ => ?_) (fun _ => ?_)
        · refine jr_sub (lv' := [(0, .ref (E.B + a0)), (1, .int v1), (2, .int v2), (4, .int v4), (5, .int v5)]) [0, 1, 2, 4, 5] rfl ?_
          exact w_X6_agrees_66 N hG hr hk hK5 ih a0 v1 v2 v4 v5 ha0 t2
        · refine jr_aload_n hG 0 dX6_agrees_45 rfl rfl ?_
          refine jr_iload_n hG 1 dX6_agrees_46 rfl rfl ?_
          refine jr_iload_n hG 2 dX6_agrees_47 rfl rfl ?_
          refine jr_iload hG 4 dX6_agrees_48 rfl ?_
          refine jr_iadd hG dX6_agrees_50 ?_
          refine jr_callVi (As := [.int v1, .int (v2 + v4)]) hG (c_X6_rowAt l E N a0 v1 (v2 + v4) t2) ci_X6_rowAt wd_877 ⟨wd_879, wd_22⟩ cl_6 (okO_s ha0) (okO_l ha0) ⟨rfl, rfl, Nat.le_of_ble_eq_true rfl, Nat.le_of_ble_eq_true rfl⟩ rfl rfl (Nat.le_of_ble_eq_true rfl) dX6_agrees_51 ⟨Nat.le_refl _, Nat.le_refl _⟩ (fun r5 t4 => ?_)
          refine jr_aload_n hG 0 dX6_agrees_54 rfl rfl ?_
          refine jr_iload_n hG 1 dX6_agrees_55 rfl rfl ?_
          refine jr_iload_n hG 2 dX6_agrees_56 rfl rfl ?_
          refine jr_iload hG 5 dX6_agrees_57 rfl ?_
          refine jr_iadd hG dX6_agrees_59 ?_
          refine jr_callVi (As := [.int v1, .int (v2 + v5)]) hG (c_X6_rowAt l E N a0 v1 (v2 + v5) t4) ci_X6_rowAt wd_877 ⟨wd_879, wd_22⟩ cl_6 (okO_s ha0) (okO_l ha0) ⟨rfl, rfl, Nat.le_of_ble_eq_true rfl, Nat.le_of_ble_eq_true rfl⟩ rfl rfl (Nat.le_of_ble_eq_true rfl) dX6_agrees_60 ⟨Nat.le_refl _, Nat.le_refl _⟩ (fun r7 t6 => ?_)
          refine jr_icmp_ne hG 70 dX6_agrees_63 (by decide) (fun _ => ?_) (fun _ => ?_)
          · refine jr_sub (lv' := [(0, .ref (E.B + a0)), (1, .int v1), (2, .int v2), (4, .int v4), (5, .int v5)]) [0, 1, 2, 4, 5] rfl ?_
            exact w_X6_agrees_70 N hG hr hk hK5 ih a0 v1 v2 v4 v5 ha0 t6
          · refine jr_sub (lv' := [(0, .ref (E.B + a0)), (1, .int v1), (2, .int v2), (4, .int v4), (5, .int v5)]) [0, 1, 2, 4, 5] rfl ?_
            exact w_X6_agrees_66 N hG hr hk hK5 ih a0 v1 v2 v4 v5 ha0 t6
def f_X6_agrees_5 (N : Nat)  : Nat → Nat → Int32 → Int32 → Int32 → Int32 → Mm → Option (Int32 × Mm)
  | 0 => fun _ _ _ _ _ _ => none
  | n + 1 => fun a0 v1 v2 v3 v4 σ => if (gi σ a0 10) ≤ v4 then (if bz v3 then some (v3, σ) else none) else (f_X6_agrees_17 N (f_X6_agrees_5 N n) N a0 v1 v2 v3 v4 (0 : Int32) (σ))
set_option maxRecDepth 20000 in
theorem w_X6_agrees_5 {p : Program} {l : Launch} {e : Env} {s : State} {m : MethodId} {args : Array Value} {below : List Frame} {meth : Method} {c : Code} {E : XE} (N : Nat) (hG : GG E NT 6 RX6 cX6_agrees p s m args c) (hr : meth.sig.returnType = (some .boolean)) (hk : meth.locks = false)  : ∀ (n : Nat) (a0 : Nat) (v1 : Int32) (v2 : Int32) (v3 : Int32) (v4 : Int32) (ha0 : okO 6 a0 = true) (σ : Mm), JR E NT 6 p l e rm_X6_agrees s m args below meth c 0 0 (fun r => MQ below (xQi E (NT + 0) r) args s 0 0 (xA E)) 5 [(0, .ref (E.B + a0)), (1, .int v1), (2, .int v2), (3, .int v3), (4, .int v4)] [] σ (f_X6_agrees_5 N n a0 v1 v2 v3 v4 σ) := by
  intro n
  induction n with
  | zero => intro a0 v1 v2 v3 v4 ha0 σ r hX; cases hX
  | succ n ih =>
    intro a0 v1 v2 v3 v4 ha0 σ
    show JR E NT 6 p l e rm_X6_agrees s m args below meth c 0 0 (fun r => MQ below (xQi E (NT + 0) r) args s 0 0 (xA E)) 5 [(0, .ref (E.B + a0)), (1, .int v1), (2, .int v2), (3, .int v3), (4, .int v4)] [] σ (if (gi σ a0 10) ≤ v4 then (if bz v3 then some (v3, σ) else none) else (f_X6_agrees_17 N (f_X6_agrees_5 N n) N a0 v1 v2 v3 v4 (0 : Int32) (σ)))
    refine jr_iload hG 4 dX6_agrees_5 rfl ?_
    refine jr_aload_n hG 0 dX6_agrees_7 rfl rfl ?_
    refine jr_getI hG fi_RX6_147 rfl (okO_s ha0) (okO_l ha0) dX6_agrees_8 ?_
    refine jr_icmp_ge hG 84 dX6_agrees_11 (by decide) (fun _ => ?_) (fun _ => ?_)
    · refine jr_iload_n hG 3 dX6_agrees_84 rfl rfl ?_
      refine jr_guard (fun hz => ?_)
      exact jr_zret hG hr hk hz dX6_agrees_85
    · refine jr_iconst (v := (0 : Int32)) hG dX6_agrees_14 (by decide) ?_
      refine jr_istore (lv' := [(5, .int (0 : Int32)), (0, .ref (E.B + a0)), (1, .int v1), (2, .int v2), (3, .int v3), (4, .int v4)]) hG dX6_agrees_15 (by decide) rfl ?_
      refine jr_sub (lv' := [(0, .ref (E.B + a0)), (1, .int v1), (2, .int v2), (3, .int v3), (4, .int v4), (5, .int (0 : Int32))]) [1, 2, 3, 4, 5, 0] rfl ?_
      exact w_X6_agrees_17 N hG hr hk ih N a0 v1 v2 v3 v4 (0 : Int32) ha0 (σ)
def f_X6_agrees (N : Nat) (a0 : Nat) (v1 : Int32) (v2 : Int32) (σ : Mm) : Option (Int32 × Mm) := if okO 6 a0 then (f_X6_agrees_5 N N a0 v1 v2 (1 : Int32) (0 : Int32) (σ)) else none
set_option maxRecDepth 20000 in
theorem c_X6_agrees (l : Launch) (E : XE) (N : Nat) (a0 : Nat) (v1 : Int32) (v2 : Int32) (σ : Mm) : ∀ r0, f_X6_agrees N a0 v1 v2 σ = some r0 → Met l yX6_agrees [Cond.code yX6_agrees cX6_agrees 6 (some .boolean)] rm_X6_agrees (xPc E (NT + 0) σ [.ref (E.B + a0), .int v1, .int v2]) (xQi E (NT + 0) r0) 0 0 (xA E) := by
  refine met_of (N0 := NT) (by decide +kernel) (Nat.le_of_ble_eq_true rfl) ?_
  intro p e s m args below meth c hG hr hk _
  show JR E NT 6 p l e rm_X6_agrees s m args below meth c 0 0 (fun r => MQ below (xQi E (NT + 0) r) args s 0 0 (xA E)) 0 [(0, .ref (E.B + a0)), (1, .int v1), (2, .int v2)] [] σ (if okO 6 a0 then (f_X6_agrees_5 N N a0 v1 v2 (1 : Int32) (0 : Int32) (σ)) else none)
  refine jr_guard (fun ha0 => ?_)
  refine jr_iconst (v := (1 : Int32)) hG dX6_agrees_0 (by decide) ?_
  refine jr_istore_n (lv' := [(3, .int (1 : Int32)), (0, .ref (E.B + a0)), (1, .int v1), (2, .int v2)]) hG dX6_agrees_1 rfl (by decide) rfl ?_
  refine jr_iconst (v := (0 : Int32)) hG dX6_agrees_2 (by decide) ?_
  refine jr_istore (lv' := [(4, .int (0 : Int32)), (3, .int (1 : Int32)), (0, .ref (E.B + a0)), (1, .int v1), (2, .int v2)]) hG dX6_agrees_3 (by decide) rfl ?_
  refine jr_sub (lv' := [(0, .ref (E.B + a0)), (1, .int v1), (2, .int v2), (3, .int (1 : Int32)), (4, .int (0 : Int32))]) [2, 3, 4, 1, 0] rfl ?_
  exact w_X6_agrees_5 N hG hr hk N a0 v1 v2 (1 : Int32) (0 : Int32) ha0 (σ)
-- TonguesDealtModel.areTongues(I)Z
abbrev rm_X6_areTongues : Room := { frames := 1, cells := 0, slots := 0, locals := 22 }
theorem ci_X6_areTongues : CIx yX6_areTongues cX6_areTongues 4 (some .boolean) 1 := ⟨wd_1003, wd_77, by decide +kernel⟩
def f_X6_areTongues_37 (N : Nat) (K4 : Nat → Int32 → Int32 → Int32 → Mm → Option (Int32 × Mm)) (a0 : Nat) (v1 : Int32) (v3 : Int32) (s0 : Int32) (σ : Mm) : Option (Int32 × Mm) := K4 a0 v1 s0 (v3 + (1 : Int32)) (σ)
set_option maxRecDepth 20000 in
theorem w_X6_areTongues_37 {p : Program} {l : Launch} {e : Env} {s : State} {m : MethodId} {args : Array Value} {below : List Frame} {meth : Method} {c : Code} {E : XE} (N : Nat) (hG : GG E NT 4 RX6 cX6_areTongues p s m args c) (hr : meth.sig.returnType = (some .boolean)) (hk : meth.locks = false) {K4 : Nat → Int32 → Int32 → Int32 → Mm → Option (Int32 × Mm)} (hK4 : ∀ (a0 : Nat) (v1 : Int32) (v2 : Int32) (v3 : Int32) (ha0 : okO 6 a0 = true) (σ : Mm), JR E NT 4 p l e rm_X6_areTongues s m args below meth c 0 0 (fun r => MQ below (xQi E (NT + 0) r) args s 0 0 (xA E)) 4 [(0, .ref (E.B + a0)), (1, .int v1), (2, .int v2), (3, .int v3)] [] σ (K4 a0 v1 v2 v3 σ)) (a0 : Nat) (v1 : Int32) (v3 : Int32) (s0 : Int32) (ha0 : okO 6 a0 = true) (σ : Mm) : JR E NT 4 p l e rm_X6_areTongues s m args below meth c 0 0 (fun r => MQ below (xQi E (NT + 0) r) args s 0 0 (xA E)) 37 [(0, .ref (E.B + a0)), (1, .int v1), (3, .int v3)] [.int s0] σ (f_X6_areTongues_37 N K4 a0 v1 v3 s0 σ) := by
  show JR E NT 4 p l e rm_X6_areTongues s m args below meth c 0 0 (fun r => MQ below (xQi E (NT + 0) r) args s 0 0 (xA E)) 37 [(0, .ref (E.B + a0)), (1, .int v1), (3, .int v3)] [.int s0] σ (K4 a0 v1 s0 (v3 + (1 : Int32)) (σ))
  refine jr_istore_n (lv' := [(2, .int s0), (0, .ref (E.B + a0)), (1, .int v1), (3, .int v3)]) hG dX6_areTongues_37 rfl (by decide) rfl ?_
  refine jr_iinc (v := v3 + (1 : Int32)) (lv' := [(3, .int (v3 + (1 : Int32))), (2, .int s0), (0, .ref (E.B + a0)), (1, .int v1)]) hG 3 dX6_areTongues_38 rfl rfl (by decide) rfl ?_
  refine jr_goto hG 4 dX6_areTongues_41 (by decide) ?_
  refine jr_sub (lv' := [(0, .ref (E.B + a0)), (1, .int v1), (2, .int s0), (3, .int (v3 + (1 : Int32)))]) [2, 3, 1, 0] rfl ?_
  exact hK4 a0 v1 s0 (v3 + (1 : Int32)) ha0 (σ)
def f_X6_areTongues_36 (N : Nat) (K4 : Nat → Int32 → Int32 → Int32 → Mm → Option (Int32 × Mm)) (a0 : Nat) (v1 : Int32) (v3 : Int32) (σ : Mm) : Option (Int32 × Mm) := f_X6_areTongues_37 N K4 a0 v1 v3 (0 : Int32) (σ)
set_option maxRecDepth 20000 in
theorem w_X6_areTongues_36 {p : Program} {l : Launch} {e : Env} {s : State} {m : MethodId} {args : Array Value} {below : List Frame} {meth : Method} {c : Code} {E : XE} (N : Nat) (hG : GG E NT 4 RX6 cX6_areTongues p s m args c) (hr : meth.sig.returnType = (some .boolean)) (hk : meth.locks = false) {K4 : Nat → Int32 → Int32 → Int32 → Mm → Option (Int32 × Mm)} (hK4 : ∀ (a0 : Nat) (v1 : Int32) (v2 : Int32) (v3 : Int32) (ha0 : okO 6 a0 = true) (σ : Mm), JR E NT 4 p l e rm_X6_areTongues s m args below meth c 0 0 (fun r => MQ below (xQi E (NT + 0) r) args s 0 0 (xA E)) 4 [(0, .ref (E.B + a0)), (1, .int v1), (2, .int v2), (3, .int v3)] [] σ (K4 a0 v1 v2 v3 σ)) (a0 : Nat) (v1 : Int32) (v3 : Int32) (ha0 : okO 6 a0 = true) (σ : Mm) : JR E NT 4 p l e rm_X6_areTongues s m args below meth c 0 0 (fun r => MQ below (xQi E (NT + 0) r) args s 0 0 (xA E)) 36 [(0, .ref (E.B + a0)), (1, .int v1), (3, .int v3)] [] σ (f_X6_areTongues_36 N K4 a0 v1 v3 σ) := by
  show JR E NT 4 p l e rm_X6_areTongues s m args below meth c 0 0 (fun r => MQ below (xQi E (NT + 0) r) args s 0 0 (xA E)) 36 [(0, .ref (E.B + a0)), (1, .int v1), (3, .int v3)] [] σ (f_X6_areTongues_37 N K4 a0 v1 v3 (0 : Int32) (σ))
  refine jr_iconst (v := (0 : Int32)) hG dX6_areTongues_36 (by decide) ?_
  exact w_X6_areTongues_37 N hG hr hk hK4 a0 v1 v3 (0 : Int32) ha0 (σ)
def f_X6_areTongues_4 (N : Nat)  : Nat → Nat → Int32 → Int32 → Int32 → Mm → Option (Int32 × Mm)
  | 0 => fun _ _ _ _ _ => none
  | n + 1 => fun a0 v1 v2 v3 σ => bR (gr σ a0 5) (okA 0) (fun o1 => if inb v1 (arL o1) then (if (gi σ o1 (ix v1)) ≤ v3 then (if bz v2 then some (v2, σ) else none) else (if v2 = 0 then (f_X6_areTongues_36 N (f_X6_areTongues_4 N n) a0 v1 v3 (σ)) else (bI (f_X6_rowAt N a0 v1 v3 (σ)) (fun r3 t2 => bI (f_X6_in N r3 (0 : Int32) (3 : Int32) t2) (fun r5 t4 => if r5 = 0 then (f_X6_areTongues_36 N (f_X6_areTongues_4 N n) a0 v1 v3 t4) else (f_X6_areTongues_37 N (f_X6_areTongues_4 N n) a0 v1 v3 (1 : Int32) t4)))))) else none)
set_option maxRecDepth 20000 in
theorem w_X6_areTongues_4 {p : Program} {l : Launch} {e : Env} {s : State} {m : MethodId} {args : Array Value} {below : List Frame} {meth : Method} {c : Code} {E : XE} (N : Nat) (hG : GG E NT 4 RX6 cX6_areTongues p s m args c) (hr : meth.sig.returnType = (some .boolean)) (hk : meth.locks = false)  : ∀ (n : Nat) (a0 : Nat) (v1 : Int32) (v2 : Int32) (v3 : Int32) (ha0 : okO 6 a0 = true) (σ : Mm), JR E NT 4 p l e rm_X6_areTongues s m args below meth c 0 0 (fun r => MQ below (xQi E (NT + 0) r) args s 0 0 (xA E)) 4 [(0, .ref (E.B + a0)), (1, .int v1), (2, .int v2), (3, .int v3)] [] σ (f_X6_areTongues_4 N n a0 v1 v2 v3 σ) := by
  intro n
  induction n with
  | zero => intro a0 v1 v2 v3 ha0 σ r hX; cases hX
  | succ n ih =>
    intro a0 v1 v2 v3 ha0 σ
    show JR E NT 4 p l e rm_X6_areTongues s m args below meth c 0 0 (fun r => MQ below (xQi E (NT + 0) r) args s 0 0 (xA E)) 4 [(0, .ref (E.B + a0)), (1, .int v1), (2, .int v2), (3, .int v3)] [] σ (bR (gr σ a0 5) (okA 0) (fun o1 => if inb v1 (arL o1) then (if (gi σ o1 (ix v1)) ≤ v3 then (if bz v2 then some (v2, σ) else none) else (if v2 = 0 then (f_X6_areTongues_36 N (f_X6_areTongues_4 N n) a0 v1 v3 (σ)) else (bI (f_X6_rowAt N a0 v1 v3 (σ)) (fun r3 t2 => bI (f_X6_in N r3 (0 : Int32) (3 : Int32) t2) (fun r5 t4 => if r5 = 0 then (f_X6_areTongues_36 N (f_X6_areTongues_4 N n) a0 v1 v3 t4) else (f_X6_areTongues_37 N (f_X6_areTongues_4 N n) a0 v1 v3 (1 : Int32) t4)))))) else none))
    refine jr_iload_n hG 3 dX6_areTongues_4 rfl rfl ?_
    refine jr_aload_n hG 0 dX6_areTongues_5 rfl rfl ?_
    refine jr_getR hG fi_RX6_17 rfl (okO_s ha0) (okO_l ha0) dX6_areTongues_6 (fun o1 ho1 => ?_)
    refine jr_iload_n hG 1 dX6_areTongues_9 rfl rfl ?_
    refine jr_iald hG (okA_s (by decide) ho1) (okA_l ho1) dX6_areTongues_10 ?_
    refine jr_icmp_ge hG 44 dX6_areTongues_11 (by decide) (fun _ => ?_) (fun _ => ?_)
    · refine jr_iload_n hG 2 dX6_areTongues_44 rfl rfl ?_
      refine jr_guard (fun hz => ?_)
      exact jr_zret hG hr hk hz dX6_areTongues_45
    · refine jr_iload_n hG 2 dX6_areTongues_14 rfl rfl ?_
      refine jr_if_eq hG 36 dX6_areTongues_15 (by decide) (fun _ => ?_) (fun _ => ?_)
      · refine jr_sub (lv' := [(0, .ref (E.B + a0)), (1, .int v1), (3, .int v3)]) [0, 1, 3] rfl ?_
        exact w_X6_areTongues_36 N hG hr hk ih a0 v1 v3 ha0 (σ)
      · refine jr_aload_n hG 0 dX6_areTongues_18 rfl rfl ?_
        refine jr_iload_n hG 1 dX6_areTongues_19 rfl rfl ?_
        refine jr_iload_n hG 3 dX6_areTongues_20 rfl rfl ?_
        refine jr_callVi (As := [.int v1, .int v3]) hG (c_X6_rowAt l E N a0 v1 v3 (σ)) ci_X6_rowAt wd_877 ⟨wd_879, wd_22⟩ cl_6 (okO_s ha0) (okO_l ha0) ⟨rfl, rfl, Nat.le_of_ble_eq_true rfl, Nat.le_of_ble_eq_true rfl⟩ rfl rfl (Nat.le_of_ble_eq_true rfl) dX6_areTongues_21 ⟨Nat.le_refl _, Nat.le_refl _⟩ (fun r3 t2 => ?_)
        refine jr_iconst (v := (0 : Int32)) hG dX6_areTongues_24 (by decide) ?_
        refine jr_iconst (v := (3 : Int32)) hG dX6_areTongues_25 (by decide) ?_
        refine jr_callSi (As := [.int r3, .int (0 : Int32), .int (3 : Int32)]) hG (c_X6_in l E N r3 (0 : Int32) (3 : Int32) t2) ci_X6_in wd_847 wd_848 ⟨rfl, rfl, Nat.le_of_ble_eq_true rfl, Nat.le_of_ble_eq_true rfl⟩ rfl rfl (Nat.le_of_ble_eq_true rfl) dX6_areTongues_26 ⟨Nat.le_refl _, Nat.le_refl _⟩ (fun r5 t4 => ?_)
        refine jr_if_eq hG 36 dX6_areTongues_29 (by decide) (fun _ => ?_) (fun _ => ?_)
        · refine jr_sub (lv' := [(0, .ref (E.B + a0)), (1, .int v1), (3, .int v3)]) [0, 1, 3] rfl ?_
          exact w_X6_areTongues_36 N hG hr hk ih a0 v1 v3 ha0 t4
        · refine jr_iconst (v := (1 : Int32)) hG dX6_areTongues_32 (by decide) ?_
          refine jr_goto hG 37 dX6_areTongues_33 (by decide) ?_
          refine jr_sub (lv' := [(0, .ref (E.B + a0)), (1, .int v1), (3, .int v3)]) [0, 1, 3] rfl ?_
          exact w_X6_areTongues_37 N hG hr hk ih a0 v1 v3 (1 : Int32) ha0 t4
def f_X6_areTongues (N : Nat) (a0 : Nat) (v1 : Int32) (σ : Mm) : Option (Int32 × Mm) := if okO 6 a0 then (f_X6_areTongues_4 N N a0 v1 (1 : Int32) (0 : Int32) (σ)) else none
set_option maxRecDepth 20000 in
theorem c_X6_areTongues (l : Launch) (E : XE) (N : Nat) (a0 : Nat) (v1 : Int32) (σ : Mm) : ∀ r0, f_X6_areTongues N a0 v1 σ = some r0 → Met l yX6_areTongues [Cond.code yX6_areTongues cX6_areTongues 4 (some .boolean)] rm_X6_areTongues (xPc E (NT + 0) σ [.ref (E.B + a0), .int v1]) (xQi E (NT + 0) r0) 0 0 (xA E) := by
  refine met_of (N0 := NT) (by decide +kernel) (Nat.le_of_ble_eq_true rfl) ?_
  intro p e s m args below meth c hG hr hk _
  show JR E NT 4 p l e rm_X6_areTongues s m args below meth c 0 0 (fun r => MQ below (xQi E (NT + 0) r) args s 0 0 (xA E)) 0 [(0, .ref (E.B + a0)), (1, .int v1)] [] σ (if okO 6 a0 then (f_X6_areTongues_4 N N a0 v1 (1 : Int32) (0 : Int32) (σ)) else none)
  refine jr_guard (fun ha0 => ?_)
  refine jr_iconst (v := (1 : Int32)) hG dX6_areTongues_0 (by decide) ?_
  refine jr_istore_n (lv' := [(2, .int (1 : Int32)), (0, .ref (E.B + a0)), (1, .int v1)]) hG dX6_areTongues_1 rfl (by decide) rfl ?_
  refine jr_iconst (v := (0 : Int32)) hG dX6_areTongues_2 (by decide) ?_
  refine jr_istore_n (lv' := [(3, .int (0 : Int32)), (2, .int (1 : Int32)), (0, .ref (E.B + a0)), (1, .int v1)]) hG dX6_areTongues_3 rfl (by decide) rfl ?_
  refine jr_sub (lv' := [(0, .ref (E.B + a0)), (1, .int v1), (2, .int (1 : Int32)), (3, .int (0 : Int32))]) [2, 3, 1, 0] rfl ?_
  exact w_X6_areTongues_4 N hG hr hk N a0 v1 (1 : Int32) (0 : Int32) ha0 (σ)
-- TonguesDealtModel.deal(I)I
abbrev rm_X6_deal : Room := { frames := 2, cells := 0, slots := 0, locals := 47 }
theorem ci_X6_deal : CIx yX6_deal cX6_deal 3 (some .int) 1 := ⟨wd_999, wd_77, by decide +kernel⟩
def f_X6_deal_94 (N : Nat)  : Nat → Nat → Int32 → Int32 → Mm → Option (Int32 × Mm)
  | 0 => fun _ _ _ _ => none
  | n + 1 => fun a0 v1 v2 σ => if (gi σ a0 10) ≤ v2 then (bR (gr σ a0 19) (okA 0) (fun o14 => if inb (12 : Int32) (arL o14) then (if inb (12 : Int32) (arL o14) then (lt (si σ o14 (ix (12 : Int32)) ((gi σ o14 (ix (12 : Int32))) + (1 : Int32))) (fun t15 => bR (gr t15 a0 19) (okA 0) (fun o16 => if inb (13 : Int32) (arL o16) then (lt (si t15 o16 (ix (13 : Int32)) (0 : Int32)) (fun t17 => bR (gr t17 a0 19) (okA 0) (fun o18 => if inb (12 : Int32) (arL o18) then (some (gi t17 o18 (ix (12 : Int32)), t17)) else none))) else none))) else none) else none)) else (bR (gr σ a0 19) (okA 0) (fun o19 => bI (f_X6_rowAt N a0 v1 v2 (σ)) (fun r21 t20 => if inb v2 (arL o19) then (lt (si t20 o19 (ix v2) r21) (fun t22 => f_X6_deal_94 N n a0 v1 (v2 + (1 : Int32)) t22)) else none)))
set_option maxRecDepth 20000 in
theorem w_X6_deal_94 {p : Program} {l : Launch} {e : Env} {s : State} {m : MethodId} {args : Array Value} {below : List Frame} {meth : Method} {c : Code} {E : XE} (N : Nat) (hG : GG E NT 3 RX6 cX6_deal p s m args c) (hr : meth.sig.returnType = (some .int)) (hk : meth.locks = false)  : ∀ (n : Nat) (a0 : Nat) (v1 : Int32) (v2 : Int32) (ha0 : okO 6 a0 = true) (σ : Mm), JR E NT 3 p l e rm_X6_deal s m args below meth c 0 0 (fun r => MQ below (xQi E (NT + 0) r) args s 0 0 (xA E)) 94 [(0, .ref (E.B + a0)), (1, .int v1), (2, .int v2)] [] σ (f_X6_deal_94 N n a0 v1 v2 σ) := by
  intro n
  induction n with
  | zero => intro a0 v1 v2 ha0 σ r hX; cases hX
  | succ n ih =>
    intro a0 v1 v2 ha0 σ
    show JR E NT 3 p l e rm_X6_deal s m args below meth c 0 0 (fun r => MQ below (xQi E (NT + 0) r) args s 0 0 (xA E)) 94 [(0, .ref (E.B + a0)), (1, .int v1), (2, .int v2)] [] σ (if (gi σ a0 10) ≤ v2 then (bR (gr σ a0 19) (okA 0) (fun o14 => if inb (12 : Int32) (arL o14) then (if inb (12 : Int32) (arL o14) then (lt (si σ o14 (ix (12 : Int32)) ((gi σ o14 (ix (12 : Int32))) + (1 : Int32))) (fun t15 => bR (gr t15 a0 19) (okA 0) (fun o16 => if inb (13 : Int32) (arL o16) then (lt (si t15 o16 (ix (13 : Int32)) (0 : Int32)) (fun t17 => bR (gr t17 a0 19) (okA 0) (fun o18 => if inb (12 : Int32) (arL o18) then (some (gi t17 o18 (ix (12 : Int32)), t17)) else none))) else none))) else none) else none)) else (bR (gr σ a0 19) (okA 0) (fun o19 => bI (f_X6_rowAt N a0 v1 v2 (σ)) (fun r21 t20 => if inb v2 (arL o19) then (lt (si t20 o19 (ix v2) r21) (fun t22 => f_X6_deal_94 N n a0 v1 (v2 + (1 : Int32)) t22)) else none))))
    refine jr_iload_n hG 2 dX6_deal_94 rfl rfl ?_
    refine jr_aload_n hG 0 dX6_deal_95 rfl rfl ?_
    refine jr_getI hG fi_RX6_147 rfl (okO_s ha0) (okO_l ha0) dX6_deal_96 ?_
    refine jr_icmp_ge hG 120 dX6_deal_99 (by decide) (fun _ => ?_) (fun _ => ?_)
    · refine jr_aload_n hG 0 dX6_deal_120 rfl rfl ?_
      refine jr_getR hG fi_RX6_48 rfl (okO_s ha0) (okO_l ha0) dX6_deal_121 (fun o14 ho14 => ?_)
      refine jr_bipush (v := (12 : Int32)) hG dX6_deal_124 (by decide) ?_
      refine jr_dup2 hG dX6_deal_126 rfl rfl ?_
      refine jr_iald hG (okA_s (by decide) ho14) (okA_l ho14) dX6_deal_127 ?_
      refine jr_iconst (v := (1 : Int32)) hG dX6_deal_128 (by decide) ?_
      refine jr_iadd hG dX6_deal_129 ?_
      refine jr_iast hG (okA_s (by decide) ho14) (okA_l ho14) dX6_deal_130 ?_
      refine jr_lets (fun t15 _ => ?_)
      refine jr_aload_n hG 0 dX6_deal_131 rfl rfl ?_
      refine jr_getR hG fi_RX6_48 rfl (okO_s ha0) (okO_l ha0) dX6_deal_132 (fun o16 ho16 => ?_)
      refine jr_bipush (v := (13 : Int32)) hG dX6_deal_135 (by decide) ?_
      refine jr_iconst (v := (0 : Int32)) hG dX6_deal_137 (by decide) ?_
      refine jr_iast hG (okA_s (by decide) ho16) (okA_l ho16) dX6_deal_138 ?_
      refine jr_lets (fun t17 _ => ?_)
      refine jr_aload_n hG 0 dX6_deal_139 rfl rfl ?_
      refine jr_getR hG fi_RX6_48 rfl (okO_s ha0) (okO_l ha0) dX6_deal_140 (fun o18 ho18 => ?_)
      refine jr_bipush (v := (12 : Int32)) hG dX6_deal_143 (by decide) ?_
      refine jr_iald hG (okA_s (by decide) ho18) (okA_l ho18) dX6_deal_145 ?_
      exact jr_iret hG hr hk dX6_deal_146
    · refine jr_aload_n hG 0 dX6_deal_102 rfl rfl ?_
      refine jr_getR hG fi_RX6_48 rfl (okO_s ha0) (okO_l ha0) dX6_deal_103 (fun o19 ho19 => ?_)
      refine jr_iload_n hG 2 dX6_deal_106 rfl rfl ?_
      refine jr_aload_n hG 0 dX6_deal_107 rfl rfl ?_
      refine jr_iload_n hG 1 dX6_deal_108 rfl rfl ?_
      refine jr_iload_n hG 2 dX6_deal_109 rfl rfl ?_
      refine jr_callVi (As := [.int v1, .int v2]) hG (c_X6_rowAt l E N a0 v1 v2 (σ)) ci_X6_rowAt wd_877 ⟨wd_879, wd_22⟩ cl_6 (okO_s ha0) (okO_l ha0) ⟨rfl, rfl, Nat.le_of_ble_eq_true rfl, Nat.le_of_ble_eq_true rfl⟩ rfl rfl (Nat.le_of_ble_eq_true rfl) dX6_deal_110 ⟨Nat.le_refl _, Nat.le_refl _⟩ (fun r21 t20 => ?_)
      refine jr_iast hG (okA_s (by decide) ho19) (okA_l ho19) dX6_deal_113 ?_
      refine jr_lets (fun t22 _ => ?_)
      refine jr_iinc (v := v2 + (1 : Int32)) (lv' := [(2, .int (v2 + (1 : Int32))), (0, .ref (E.B + a0)), (1, .int v1)]) hG 2 dX6_deal_114 rfl rfl (by decide) rfl ?_
      refine jr_goto hG 94 dX6_deal_117 (by decide) ?_
      refine jr_sub (lv' := [(0, .ref (E.B + a0)), (1, .int v1), (2, .int (v2 + (1 : Int32)))]) [1, 2, 0] rfl ?_
      exact ih a0 v1 (v2 + (1 : Int32)) ha0 t22
def f_X6_deal_70 (N : Nat)  (a0 : Nat) (σ : Mm) : Option (Int32 × Mm) := bI (f_X6_meets N a0 (3 : Int32) (σ)) (fun r24 t23 => some (r24, t23))
set_option maxRecDepth 20000 in
theorem w_X6_deal_70 {p : Program} {l : Launch} {e : Env} {s : State} {m : MethodId} {args : Array Value} {below : List Frame} {meth : Method} {c : Code} {E : XE} (N : Nat) (hG : GG E NT 3 RX6 cX6_deal p s m args c) (hr : meth.sig.returnType = (some .int)) (hk : meth.locks = false)  (a0 : Nat) (ha0 : okO 6 a0 = true) (σ : Mm) : JR E NT 3 p l e rm_X6_deal s m args below meth c 0 0 (fun r => MQ below (xQi E (NT + 0) r) args s 0 0 (xA E)) 70 [(0, .ref (E.B + a0))] [] σ (f_X6_deal_70 N a0 σ) := by
  show JR E NT 3 p l e rm_X6_deal s m args below meth c 0 0 (fun r => MQ below (xQi E (NT + 0) r) args s 0 0 (xA E)) 70 [(0, .ref (E.B + a0))] [] σ (bI (f_X6_meets N a0 (3 : Int32) (σ)) (fun r24 t23 => some (r24, t23)))
  refine jr_aload_n hG 0 dX6_deal_70 rfl rfl ?_
  refine jr_iconst (v := (3 : Int32)) hG dX6_deal_71 (by decide) ?_
  refine jr_callVi (As := [.int (3 : Int32)]) hG (c_X6_meets l E N a0 (3 : Int32) (σ)) ci_X6_meets wd_869 ⟨wd_871, wd_21⟩ cl_6 (okO_s ha0) (okO_l ha0) ⟨rfl, rfl, Nat.le_of_ble_eq_true rfl, Nat.le_of_ble_eq_true rfl⟩ rfl rfl (Nat.le_of_ble_eq_true rfl) dX6_deal_72 ⟨Nat.le_refl _, Nat.le_refl _⟩ (fun r24 t23 => ?_)
  exact jr_iret hG hr hk dX6_deal_75
def f_X6_deal (N : Nat) (a0 : Nat) (v1 : Int32) (σ : Mm) : Option (Int32 × Mm) := if okO 6 a0 then (bI (f_X6_isRow N v1 (σ)) (fun r2 t1 => if r2 = 0 then (some ((-1 : Int32), t1)) else (if (gi t1 a0 10) = 0 then (some ((-4 : Int32), t1)) else (bR (gr t1 a0 5) (okA 0) (fun o3 => if inb v1 (arL o3) then (if 0 ≤ (gi t1 o3 (ix v1)) then (bR (gr t1 a0 5) (okA 0) (fun o4 => if inb v1 (arL o4) then (if (gi t1 o4 (ix v1)) = (gi t1 a0 10) then (bI (f_X6_areTongues N a0 v1 t1) (fun r6 t5 => if r6 = 0 then (f_X6_deal_70 N a0 t5) else (bI (f_X6_agrees N a0 v1 (0 : Int32) t5) (fun r8 t7 => if r8 = 0 then (f_X6_deal_70 N a0 t7) else (if (gi t7 a0 22) = (40 : Int32) then (some ((-2 : Int32), t7)) else (bV (f_X6_remember N a0 t7) (fun t9 => f_X6_deal_94 N N a0 v1 (0 : Int32) t9))))))) else (bI (f_X6_meets N a0 (5 : Int32) t1) (fun r11 t10 => some (r11, t10)))) else none)) else (bI (f_X6_meets N a0 (1 : Int32) t1) (fun r13 t12 => some (r13, t12)))) else none))))) else none
set_option maxRecDepth 20000 in
theorem c_X6_deal (l : Launch) (E : XE) (N : Nat) (a0 : Nat) (v1 : Int32) (σ : Mm) : ∀ r0, f_X6_deal N a0 v1 σ = some r0 → Met l yX6_deal [Cond.code yX6_deal cX6_deal 3 (some .int)] rm_X6_deal (xPc E (NT + 0) σ [.ref (E.B + a0), .int v1]) (xQi E (NT + 0) r0) 0 0 (xA E) := by
  refine met_of (N0 := NT) (by decide +kernel) (Nat.le_of_ble_eq_true rfl) ?_
  intro p e s m args below meth c hG hr hk _
  show JR E NT 3 p l e rm_X6_deal s m args below meth c 0 0 (fun r => MQ below (xQi E (NT + 0) r) args s 0 0 (xA E)) 0 [(0, .ref (E.B + a0)), (1, .int v1)] [] σ (if okO 6 a0 then (bI (f_X6_isRow N v1 (σ)) (fun r2 t1 => if r2 = 0 then (some ((-1 : Int32), t1)) else (if (gi t1 a0 10) = 0 then (some ((-4 : Int32), t1)) else (bR (gr t1 a0 5) (okA 0) (fun o3 => if inb v1 (arL o3) then (if 0 ≤ (gi t1 o3 (ix v1)) then (bR (gr t1 a0 5) (okA 0) (fun o4 => if inb v1 (arL o4) then (if (gi t1 o4 (ix v1)) = (gi t1 a0 10) then (bI (f_X6_areTongues N a0 v1 t1) (fun r6 t5 => if r6 = 0 then (f_X6_deal_70 N a0 t5) else (bI (f_X6_agrees N a0 v1 (0 : Int32) t5) (fun r8 t7 => if r8 = 0 then (f_X6_deal_70 N a0 t7) else (if (gi t7 a0 22) = (40 : Int32) then (some ((-2 : Int32), t7)) else (bV (f_X6_remember N a0 t7) (fun t9 => f_X6_deal_94 N N a0 v1 (0 : Int32) t9))))))) else (bI (f_X6_meets N a0 (5 : Int32) t1) (fun r11 t10 => some (r11, t10)))) else none)) else (bI (f_X6_meets N a0 (1 : Int32) t1) (fun r13 t12 => some (r13, t12)))) else none))))) else none)
  refine jr_guard (fun ha0 => ?_)
  refine jr_iload_n hG 1 dX6_deal_0 rfl rfl ?_
  refine jr_callSi (As := [.int v1]) hG (c_X6_isRow l E N v1 (σ)) ci_X6_isRow wd_866 wd_867 ⟨rfl, rfl, Nat.le_of_ble_eq_true rfl, Nat.le_of_ble_eq_true rfl⟩ rfl rfl (Nat.le_of_ble_eq_true rfl) dX6_deal_1 ⟨Nat.le_refl _, Nat.le_refl _⟩ (fun r2 t1 => ?_)
  refine jr_if_ne hG 9 dX6_deal_4 (by decide) (fun _ => ?_) (fun _ => ?_)
  · refine jr_aload_n hG 0 dX6_deal_9 rfl rfl ?_
    refine jr_getI hG fi_RX6_147 rfl (okO_s ha0) (okO_l ha0) dX6_deal_10 ?_
    refine jr_if_ne hG 19 dX6_deal_13 (by decide) (fun _ => ?_) (fun _ => ?_)
    · refine jr_aload_n hG 0 dX6_deal_19 rfl rfl ?_
      refine jr_getR hG fi_RX6_17 rfl (okO_s ha0) (okO_l ha0) dX6_deal_20 (fun o3 ho3 => ?_)
      refine jr_iload_n hG 1 dX6_deal_23 rfl rfl ?_
      refine jr_iald hG (okA_s (by decide) ho3) (okA_l ho3) dX6_deal_24 ?_
      refine jr_if_ge hG 34 dX6_deal_25 (by decide) (fun _ => ?_) (fun _ => ?_)
      · refine jr_aload_n hG 0 dX6_deal_34 rfl rfl ?_
        refine jr_getR hG fi_RX6_17 rfl (okO_s ha0) (okO_l ha0) dX6_deal_35 (fun o4 ho4 => ?_)
        refine jr_iload_n hG 1 dX6_deal_38 rfl rfl ?_
        refine jr_iald hG (okA_s (by decide) ho4) (okA_l ho4) dX6_deal_39 ?_
        refine jr_aload_n hG 0 dX6_deal_40 rfl rfl ?_
        refine jr_getI hG fi_RX6_147 rfl (okO_s ha0) (okO_l ha0) dX6_deal_41 ?_
        refine jr_icmp_eq hG 53 dX6_deal_44 (by decide) (fun _ => ?_) (fun _ => ?_)
        · refine jr_aload_n hG 0 dX6_deal_53 rfl rfl ?_
          refine jr_iload_n hG 1 dX6_deal_54 rfl rfl ?_
          refine jr_callVi (As := [.int v1]) hG (c_X6_areTongues l E N a0 v1 t1) ci_X6_areTongues wd_1000 ⟨wd_1002, wd_38⟩ cl_6 (okO_s ha0) (okO_l ha0) ⟨rfl, rfl, Nat.le_of_ble_eq_true rfl, Nat.le_of_ble_eq_true rfl⟩ rfl rfl (Nat.le_of_ble_eq_true rfl) dX6_deal_55 ⟨Nat.le_refl _, Nat.le_refl _⟩ (fun r6 t5 => ?_)
          refine jr_if_eq hG 70 dX6_deal_58 (by decide) (fun _ => ?_) (fun _ => ?_)
          · refine jr_sub (lv' := [(0, .ref (E.B + a0))]) [0] rfl ?_
            exact w_X6_deal_70 N hG hr hk a0 ha0 t5
          · refine jr_aload_n hG 0 dX6_deal_61 rfl rfl ?_
            refine jr_iload_n hG 1 dX6_deal_62 rfl rfl ?_
            refine jr_iconst (v := (0 : Int32)) hG dX6_deal_63 (by decide) ?_
            refine jr_callVi (As := [.int v1, .int (0 : Int32)]) hG (c_X6_agrees l E N a0 v1 (0 : Int32) t5) ci_X6_agrees wd_1004 ⟨wd_1006, wd_39⟩ cl_6 (okO_s ha0) (okO_l ha0) ⟨rfl, rfl, Nat.le_of_ble_eq_true rfl, Nat.le_of_ble_eq_true rfl⟩ rfl rfl (Nat.le_of_ble_eq_true rfl) dX6_deal_64 ⟨Nat.le_refl _, Nat.le_refl _⟩ (fun r8 t7 => ?_)
            refine jr_if_ne hG 76 dX6_deal_67 (by decide) (fun _ => ?_) (fun _ => ?_)
            · refine jr_aload_n hG 0 dX6_deal_76 rfl rfl ?_
              refine jr_getI hG fi_RX6_150 rfl (okO_s ha0) (okO_l ha0) dX6_deal_77 ?_
              refine jr_bipush (v := (40 : Int32)) hG dX6_deal_80 (by decide) ?_
              refine jr_icmp_ne hG 88 dX6_deal_82 (by decide) (fun _ => ?_) (fun _ => ?_)
              · refine jr_aload_n hG 0 dX6_deal_88 rfl rfl ?_
                refine jr_callVv (As := []) hG (c_X6_remember l E N a0 t7) ci_X6_remember wd_1008 ⟨wd_1010, wd_40⟩ cl_6 (okO_s ha0) (okO_l ha0) ⟨rfl, rfl, Nat.le_of_ble_eq_true rfl, Nat.le_of_ble_eq_true rfl⟩ rfl rfl (Nat.le_of_ble_eq_true rfl) dX6_deal_89 ⟨Nat.le_refl _, Nat.le_refl _⟩ (fun t9 => ?_)
                refine jr_iconst (v := (0 : Int32)) hG dX6_deal_92 (by decide) ?_
                refine jr_istore_n (lv' := [(2, .int (0 : Int32)), (0, .ref (E.B + a0)), (1, .int v1)]) hG dX6_deal_93 rfl (by decide) rfl ?_
                refine jr_sub (lv' := [(0, .ref (E.B + a0)), (1, .int v1), (2, .int (0 : Int32))]) [1, 2, 0] rfl ?_
                exact w_X6_deal_94 N hG hr hk N a0 v1 (0 : Int32) ha0 t9
              · refine jr_bipush (v := (-2 : Int32)) hG dX6_deal_85 (by decide) ?_
                exact jr_iret hG hr hk dX6_deal_87
            · refine jr_sub (lv' := [(0, .ref (E.B + a0))]) [0] rfl ?_
              exact w_X6_deal_70 N hG hr hk a0 ha0 t7
        · refine jr_aload_n hG 0 dX6_deal_47 rfl rfl ?_
          refine jr_iconst (v := (5 : Int32)) hG dX6_deal_48 (by decide) ?_
          refine jr_callVi (As := [.int (5 : Int32)]) hG (c_X6_meets l E N a0 (5 : Int32) t1) ci_X6_meets wd_869 ⟨wd_871, wd_21⟩ cl_6 (okO_s ha0) (okO_l ha0) ⟨rfl, rfl, Nat.le_of_ble_eq_true rfl, Nat.le_of_ble_eq_true rfl⟩ rfl rfl (Nat.le_of_ble_eq_true rfl) dX6_deal_49 ⟨Nat.le_refl _, Nat.le_refl _⟩ (fun r11 t10 => ?_)
          exact jr_iret hG hr hk dX6_deal_52
      · refine jr_aload_n hG 0 dX6_deal_28 rfl rfl ?_
        refine jr_iconst (v := (1 : Int32)) hG dX6_deal_29 (by decide) ?_
        refine jr_callVi (As := [.int (1 : Int32)]) hG (c_X6_meets l E N a0 (1 : Int32) t1) ci_X6_meets wd_869 ⟨wd_871, wd_21⟩ cl_6 (okO_s ha0) (okO_l ha0) ⟨rfl, rfl, Nat.le_of_ble_eq_true rfl, Nat.le_of_ble_eq_true rfl⟩ rfl rfl (Nat.le_of_ble_eq_true rfl) dX6_deal_30 ⟨Nat.le_refl _, Nat.le_refl _⟩ (fun r13 t12 => ?_)
        exact jr_iret hG hr hk dX6_deal_33
    · refine jr_bipush (v := (-4 : Int32)) hG dX6_deal_16 (by decide) ?_
      exact jr_iret hG hr hk dX6_deal_18
  · refine jr_iconst (v := (-1 : Int32)) hG dX6_deal_7 (by decide) ?_
    exact jr_iret hG hr hk dX6_deal_8
