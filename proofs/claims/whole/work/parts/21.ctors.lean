/-! ===== the constructors ===== -/
-- TonguesDealt$Row()
def k_X3_init (n0 a0 : Nat) (σ : Mm) : Mm := (si (sr (sz0 σ (n0 + 0)) a0 0 (some (n0 + 0))) a0 1 (-1 : Int32))
abbrev rm_X3_init : Room := { frames := 1, cells := 1, slots := 40, locals := 20 }
theorem ci_X3_init : CIx yX3_init cX3_init 1 none 0 := ⟨wd_196, wd_75, by decide +kernel⟩
set_option maxRecDepth 20000 in
theorem c_X3_init (l : Launch) (E : XE) (n0 a0 : Nat) (σ : Mm) (h0 : shp a0 = .inl 3) (hl0 : a0 < n0) (hs0 : shp (n0 + 0) = .inr (0, 40)) : Met l yX3_init [Cond.code yX3_init cX3_init 1 none] rm_X3_init (xPc E n0 σ [.ref (E.B + a0)]) (xQv E (n0 + 1) (k_X3_init n0 a0 σ)) 1 40 (xA E) := by
  refine met_of (N0 := n0) (X := some (k_X3_init n0 a0 σ)) (Qc := fun r => xQv E (n0 + 1) r) (by decide +kernel) (Nat.le_of_ble_eq_true rfl) ?_ _ rfl
  intro p e s m args below meth c hG hr hk hin
  show JR E n0 1 p l e rm_X3_init s m args below meth c 0 0 (fun r => MQ below (xQv E (n0 + 1) r) args s 1 40 (xA E)) 0 [(0, .ref (E.B + a0))] [] σ (some (k_X3_init n0 a0 σ))
  refine jr_aload_n hG 0 dX3_init_0 rfl rfl ?_
  refine jr_objInit hG wd_197 wd_86 wd_87 dX3_init_1 ⟨by decide, by decide⟩ ?_
  refine jr_aload_n hG 0 dX3_init_4 rfl rfl ?_
  refine jr_bipush (v := (40 : Int32)) hG dX3_init_5 (by decide) ?_
  refine jr_newa (at1 := .int) (cells' := 1) (slots' := 40) (t := 0) (n := 40) hG wd_112 (by decide) rfl (by decide) hs0 (by decide) (by decide) rfl rfl ⟨by decide, by decide⟩ dX3_init_7 ?_
  refine jr_putF hG hin fi_RX3_9 rfl rfl rfl h0 (Nat.lt_of_lt_of_le hl0 (Nat.le_add_right _ _)) dX3_init_9 ?_
  refine jr_aload_n hG 0 dX3_init_12 rfl rfl ?_
  refine jr_iconst (v := (-1 : Int32)) hG dX3_init_13 (by decide) ?_
  refine jr_putI hG fi_RX3_15 rfl rfl h0 (Nat.lt_of_lt_of_le hl0 (Nat.le_add_right _ _)) dX3_init_14 ?_
  exact jr_vret hG hr hk dX3_init_17
-- TonguesDealt$Text()
def k_X4_init (n0 a0 : Nat) (σ : Mm) : Mm := (si (sr (sz0 σ (n0 + 0)) a0 0 (some (n0 + 0))) a0 1 (-1 : Int32))
abbrev rm_X4_init : Room := { frames := 1, cells := 1, slots := 60, locals := 20 }
theorem ci_X4_init : CIx yX4_init cX4_init 1 none 0 := ⟨wd_212, wd_76, by decide +kernel⟩
set_option maxRecDepth 20000 in
theorem c_X4_init (l : Launch) (E : XE) (n0 a0 : Nat) (σ : Mm) (h0 : shp a0 = .inl 4) (hl0 : a0 < n0) (hs0 : shp (n0 + 0) = .inr (1, 60)) : Met l yX4_init [Cond.code yX4_init cX4_init 1 none] rm_X4_init (xPc E n0 σ [.ref (E.B + a0)]) (xQv E (n0 + 1) (k_X4_init n0 a0 σ)) 1 60 (xA E) := by
  refine met_of (N0 := n0) (X := some (k_X4_init n0 a0 σ)) (Qc := fun r => xQv E (n0 + 1) r) (by decide +kernel) (Nat.le_of_ble_eq_true rfl) ?_ _ rfl
  intro p e s m args below meth c hG hr hk hin
  show JR E n0 1 p l e rm_X4_init s m args below meth c 0 0 (fun r => MQ below (xQv E (n0 + 1) r) args s 1 60 (xA E)) 0 [(0, .ref (E.B + a0))] [] σ (some (k_X4_init n0 a0 σ))
  refine jr_aload_n hG 0 dX4_init_0 rfl rfl ?_
  refine jr_objInit hG wd_213 wd_86 wd_87 dX4_init_1 ⟨by decide, by decide⟩ ?_
  refine jr_aload_n hG 0 dX4_init_4 rfl rfl ?_
  refine jr_bipush (v := (60 : Int32)) hG dX4_init_5 (by decide) ?_
  refine jr_newa (at1 := .byte) (cells' := 1) (slots' := 60) (t := 1) (n := 60) hG wd_225 (by decide) rfl (by decide) hs0 (by decide) (by decide) rfl rfl ⟨by decide, by decide⟩ dX4_init_7 ?_
  refine jr_putF hG hin fi_RX4_9 rfl rfl rfl h0 (Nat.lt_of_lt_of_le hl0 (Nat.le_add_right _ _)) dX4_init_9 ?_
  refine jr_aload_n hG 0 dX4_init_12 rfl rfl ?_
  refine jr_iconst (v := (-1 : Int32)) hG dX4_init_13 (by decide) ?_
  refine jr_putI hG fi_RX4_15 rfl rfl h0 (Nat.lt_of_lt_of_le hl0 (Nat.le_add_right _ _)) dX4_init_14 ?_
  exact jr_vret hG hr hk dX4_init_17
-- TonguesDealt$Deeds()
def k_X1_init (n0 a0 : Nat) (σ : Mm) : Mm := (si (sr (sz0 (sr (sz0 σ (n0 + 0)) a0 0 (some (n0 + 0))) (n0 + 1)) a0 1 (some (n0 + 1))) a0 2 (0 : Int32))
abbrev rm_X1_init : Room := { frames := 1, cells := 2, slots := 80, locals := 20 }
theorem ci_X1_init : CIx yX1_init cX1_init 1 none 0 := ⟨wd_97, wd_72, by decide +kernel⟩
set_option maxRecDepth 20000 in
theorem c_X1_init (l : Launch) (E : XE) (n0 a0 : Nat) (σ : Mm) (h0 : shp a0 = .inl 1) (hl0 : a0 < n0) (hs0 : shp (n0 + 0) = .inr (0, 40)) (hs1 : shp (n0 + 1) = .inr (0, 40)) : Met l yX1_init [Cond.code yX1_init cX1_init 1 none] rm_X1_init (xPc E n0 σ [.ref (E.B + a0)]) (xQv E (n0 + 2) (k_X1_init n0 a0 σ)) 2 80 (xA E) := by
  refine met_of (N0 := n0) (X := some (k_X1_init n0 a0 σ)) (Qc := fun r => xQv E (n0 + 2) r) (by decide +kernel) (Nat.le_of_ble_eq_true rfl) ?_ _ rfl
  intro p e s m args below meth c hG hr hk hin
  show JR E n0 1 p l e rm_X1_init s m args below meth c 0 0 (fun r => MQ below (xQv E (n0 + 2) r) args s 2 80 (xA E)) 0 [(0, .ref (E.B + a0))] [] σ (some (k_X1_init n0 a0 σ))
  refine jr_aload_n hG 0 dX1_init_0 rfl rfl ?_
  refine jr_objInit hG wd_98 wd_86 wd_87 dX1_init_1 ⟨by decide, by decide⟩ ?_
  refine jr_aload_n hG 0 dX1_init_4 rfl rfl ?_
  refine jr_bipush (v := (40 : Int32)) hG dX1_init_5 (by decide) ?_
  refine jr_newa (at1 := .int) (cells' := 1) (slots' := 40) (t := 0) (n := 40) hG wd_112 (by decide) rfl (by decide) hs0 (by decide) (by decide) rfl rfl ⟨by decide, by decide⟩ dX1_init_7 ?_
  refine jr_putF hG hin fi_RX1_9 rfl rfl rfl h0 (Nat.lt_of_lt_of_le hl0 (Nat.le_add_right _ _)) dX1_init_9 ?_
  refine jr_aload_n hG 0 dX1_init_12 rfl rfl ?_
  refine jr_bipush (v := (40 : Int32)) hG dX1_init_13 (by decide) ?_
  refine jr_newa (at1 := .int) (cells' := 2) (slots' := 80) (t := 0) (n := 40) hG wd_112 (by decide) rfl (by decide) hs1 (by decide) (by decide) rfl rfl ⟨by decide, by decide⟩ dX1_init_15 ?_
  refine jr_putF hG hin fi_RX1_15 rfl rfl rfl h0 (Nat.lt_of_lt_of_le hl0 (Nat.le_add_right _ _)) dX1_init_17 ?_
  refine jr_aload_n hG 0 dX1_init_20 rfl rfl ?_
  refine jr_iconst (v := (0 : Int32)) hG dX1_init_21 (by decide) ?_
  refine jr_putI hG fi_RX1_18 rfl rfl h0 (Nat.lt_of_lt_of_le hl0 (Nat.le_add_right _ _)) dX1_init_22 ?_
  exact jr_vret hG hr hk dX1_init_25
-- TonguesDealt$Day()
def k_X0_init (n0 a0 : Nat) (σ : Mm) : Mm := (si (si (si (sr (sz0 (sr (sz0 (sr (sz0 (sr (sz0 (sr (sz0 σ (n0 + 0)) a0 0 (some (n0 + 0))) (n0 + 1)) a0 1 (some (n0 + 1))) (n0 + 2)) a0 2 (some (n0 + 2))) (n0 + 3)) a0 3 (some (n0 + 3))) (n0 + 4)) a0 4 (some (n0 + 4))) a0 5 (0 : Int32)) a0 6 (0 : Int32)) a0 7 (0 : Int32))
abbrev rm_X0_init : Room := { frames := 1, cells := 5, slots := 28, locals := 20 }
theorem ci_X0_init : CIx yX0_init cX0_init 1 none 0 := ⟨wd_117, wd_73, by decide +kernel⟩
set_option maxRecDepth 20000 in
theorem c_X0_init (l : Launch) (E : XE) (n0 a0 : Nat) (σ : Mm) (h0 : shp a0 = .inl 0) (hl0 : a0 < n0) (hs0 : shp (n0 + 0) = .inr (0, 6)) (hs1 : shp (n0 + 1) = .inr (0, 6)) (hs2 : shp (n0 + 2) = .inr (0, 6)) (hs3 : shp (n0 + 3) = .inr (0, 4)) (hs4 : shp (n0 + 4) = .inr (0, 6)) : Met l yX0_init [Cond.code yX0_init cX0_init 1 none] rm_X0_init (xPc E n0 σ [.ref (E.B + a0)]) (xQv E (n0 + 5) (k_X0_init n0 a0 σ)) 5 28 (xA E) := by
  refine met_of (N0 := n0) (X := some (k_X0_init n0 a0 σ)) (Qc := fun r => xQv E (n0 + 5) r) (by decide +kernel) (Nat.le_of_ble_eq_true rfl) ?_ _ rfl
  intro p e s m args below meth c hG hr hk hin
  show JR E n0 1 p l e rm_X0_init s m args below meth c 0 0 (fun r => MQ below (xQv E (n0 + 5) r) args s 5 28 (xA E)) 0 [(0, .ref (E.B + a0))] [] σ (some (k_X0_init n0 a0 σ))
  refine jr_aload_n hG 0 dX0_init_0 rfl rfl ?_
  refine jr_objInit hG wd_118 wd_86 wd_87 dX0_init_1 ⟨by decide, by decide⟩ ?_
  refine jr_aload_n hG 0 dX0_init_4 rfl rfl ?_
  refine jr_bipush (v := (6 : Int32)) hG dX0_init_5 (by decide) ?_
  refine jr_newa (at1 := .int) (cells' := 1) (slots' := 6) (t := 0) (n := 6) hG wd_112 (by decide) rfl (by decide) hs0 (by decide) (by decide) rfl rfl ⟨by decide, by decide⟩ dX0_init_7 ?_
  refine jr_putF hG hin fi_RX0_9 rfl rfl rfl h0 (Nat.lt_of_lt_of_le hl0 (Nat.le_add_right _ _)) dX0_init_9 ?_
  refine jr_aload_n hG 0 dX0_init_12 rfl rfl ?_
  refine jr_bipush (v := (6 : Int32)) hG dX0_init_13 (by decide) ?_
  refine jr_newa (at1 := .int) (cells' := 2) (slots' := 12) (t := 0) (n := 6) hG wd_112 (by decide) rfl (by decide) hs1 (by decide) (by decide) rfl rfl ⟨by decide, by decide⟩ dX0_init_15 ?_
  refine jr_putF hG hin fi_RX0_15 rfl rfl rfl h0 (Nat.lt_of_lt_of_le hl0 (Nat.le_add_right _ _)) dX0_init_17 ?_
  refine jr_aload_n hG 0 dX0_init_20 rfl rfl ?_
  refine jr_bipush (v := (6 : Int32)) hG dX0_init_21 (by decide) ?_
  refine jr_newa (at1 := .int) (cells' := 3) (slots' := 18) (t := 0) (n := 6) hG wd_112 (by decide) rfl (by decide) hs2 (by decide) (by decide) rfl rfl ⟨by decide, by decide⟩ dX0_init_23 ?_
  refine jr_putF hG hin fi_RX0_18 rfl rfl rfl h0 (Nat.lt_of_lt_of_le hl0 (Nat.le_add_right _ _)) dX0_init_25 ?_
  refine jr_aload_n hG 0 dX0_init_28 rfl rfl ?_
  refine jr_iconst (v := (4 : Int32)) hG dX0_init_29 (by decide) ?_
  refine jr_newa (at1 := .int) (cells' := 4) (slots' := 22) (t := 0) (n := 4) hG wd_112 (by decide) rfl (by decide) hs3 (by decide) (by decide) rfl rfl ⟨by decide, by decide⟩ dX0_init_30 ?_
  refine jr_putF hG hin fi_RX0_21 rfl rfl rfl h0 (Nat.lt_of_lt_of_le hl0 (Nat.le_add_right _ _)) dX0_init_32 ?_
  refine jr_aload_n hG 0 dX0_init_35 rfl rfl ?_
  refine jr_bipush (v := (6 : Int32)) hG dX0_init_36 (by decide) ?_
  refine jr_newa (at1 := .int) (cells' := 5) (slots' := 28) (t := 0) (n := 6) hG wd_112 (by decide) rfl (by decide) hs4 (by decide) (by decide) rfl rfl ⟨by decide, by decide⟩ dX0_init_38 ?_
  refine jr_putF hG hin fi_RX0_24 rfl rfl rfl h0 (Nat.lt_of_lt_of_le hl0 (Nat.le_add_right _ _)) dX0_init_40 ?_
  refine jr_aload_n hG 0 dX0_init_43 rfl rfl ?_
  refine jr_iconst (v := (0 : Int32)) hG dX0_init_44 (by decide) ?_
  refine jr_putI hG fi_RX0_27 rfl rfl h0 (Nat.lt_of_lt_of_le hl0 (Nat.le_add_right _ _)) dX0_init_45 ?_
  refine jr_aload_n hG 0 dX0_init_48 rfl rfl ?_
  refine jr_iconst (v := (0 : Int32)) hG dX0_init_49 (by decide) ?_
  refine jr_putI hG fi_RX0_31 rfl rfl h0 (Nat.lt_of_lt_of_le hl0 (Nat.le_add_right _ _)) dX0_init_50 ?_
  refine jr_aload_n hG 0 dX0_init_53 rfl rfl ?_
  refine jr_iconst (v := (0 : Int32)) hG dX0_init_54 (by decide) ?_
  refine jr_putZ hG fi_RX0_34 rfl rfl h0 (Nat.lt_of_lt_of_le hl0 (Nat.le_add_right _ _)) (by decide) dX0_init_55 ?_
  exact jr_vret hG hr hk dX0_init_58
-- TonguesDealt$Plan()
def k_X2_init (n0 a0 : Nat) (σ : Mm) : Mm := (si (si (sr (sz0 (sr (sz0 (sr (sz0 (sr (sz0 (sr (sz0 (sr (sz0 (sr (sz0 σ (n0 + 0)) a0 0 (some (n0 + 0))) (n0 + 1)) a0 1 (some (n0 + 1))) (n0 + 2)) a0 2 (some (n0 + 2))) (n0 + 3)) a0 3 (some (n0 + 3))) (n0 + 4)) a0 4 (some (n0 + 4))) (n0 + 5)) a0 5 (some (n0 + 5))) (n0 + 6)) a0 6 (some (n0 + 6))) a0 7 (0 : Int32)) a0 8 (0 : Int32))
abbrev rm_X2_init : Room := { frames := 1, cells := 7, slots := 42, locals := 20 }
theorem ci_X2_init : CIx yX2_init cX2_init 1 none 0 := ⟨wd_155, wd_74, by decide +kernel⟩
set_option maxRecDepth 20000 in
theorem c_X2_init (l : Launch) (E : XE) (n0 a0 : Nat) (σ : Mm) (h0 : shp a0 = .inl 2) (hl0 : a0 < n0) (hs0 : shp (n0 + 0) = .inr (0, 6)) (hs1 : shp (n0 + 1) = .inr (0, 6)) (hs2 : shp (n0 + 2) = .inr (0, 6)) (hs3 : shp (n0 + 3) = .inr (0, 6)) (hs4 : shp (n0 + 4) = .inr (0, 6)) (hs5 : shp (n0 + 5) = .inr (0, 6)) (hs6 : shp (n0 + 6) = .inr (0, 6)) : Met l yX2_init [Cond.code yX2_init cX2_init 1 none] rm_X2_init (xPc E n0 σ [.ref (E.B + a0)]) (xQv E (n0 + 7) (k_X2_init n0 a0 σ)) 7 42 (xA E) := by
  refine met_of (N0 := n0) (X := some (k_X2_init n0 a0 σ)) (Qc := fun r => xQv E (n0 + 7) r) (by decide +kernel) (Nat.le_of_ble_eq_true rfl) ?_ _ rfl
  intro p e s m args below meth c hG hr hk hin
  show JR E n0 1 p l e rm_X2_init s m args below meth c 0 0 (fun r => MQ below (xQv E (n0 + 7) r) args s 7 42 (xA E)) 0 [(0, .ref (E.B + a0))] [] σ (some (k_X2_init n0 a0 σ))
  refine jr_aload_n hG 0 dX2_init_0 rfl rfl ?_
  refine jr_objInit hG wd_156 wd_86 wd_87 dX2_init_1 ⟨by decide, by decide⟩ ?_
  refine jr_aload_n hG 0 dX2_init_4 rfl rfl ?_
  refine jr_bipush (v := (6 : Int32)) hG dX2_init_5 (by decide) ?_
  refine jr_newa (at1 := .int) (cells' := 1) (slots' := 6) (t := 0) (n := 6) hG wd_112 (by decide) rfl (by decide) hs0 (by decide) (by decide) rfl rfl ⟨by decide, by decide⟩ dX2_init_7 ?_
  refine jr_putF hG hin fi_RX2_9 rfl rfl rfl h0 (Nat.lt_of_lt_of_le hl0 (Nat.le_add_right _ _)) dX2_init_9 ?_
  refine jr_aload_n hG 0 dX2_init_12 rfl rfl ?_
  refine jr_bipush (v := (6 : Int32)) hG dX2_init_13 (by decide) ?_
  refine jr_newa (at1 := .int) (cells' := 2) (slots' := 12) (t := 0) (n := 6) hG wd_112 (by decide) rfl (by decide) hs1 (by decide) (by decide) rfl rfl ⟨by decide, by decide⟩ dX2_init_15 ?_
  refine jr_putF hG hin fi_RX2_15 rfl rfl rfl h0 (Nat.lt_of_lt_of_le hl0 (Nat.le_add_right _ _)) dX2_init_17 ?_
  refine jr_aload_n hG 0 dX2_init_20 rfl rfl ?_
  refine jr_bipush (v := (6 : Int32)) hG dX2_init_21 (by decide) ?_
  refine jr_newa (at1 := .int) (cells' := 3) (slots' := 18) (t := 0) (n := 6) hG wd_112 (by decide) rfl (by decide) hs2 (by decide) (by decide) rfl rfl ⟨by decide, by decide⟩ dX2_init_23 ?_
  refine jr_putF hG hin fi_RX2_18 rfl rfl rfl h0 (Nat.lt_of_lt_of_le hl0 (Nat.le_add_right _ _)) dX2_init_25 ?_
  refine jr_aload_n hG 0 dX2_init_28 rfl rfl ?_
  refine jr_bipush (v := (6 : Int32)) hG dX2_init_29 (by decide) ?_
  refine jr_newa (at1 := .int) (cells' := 4) (slots' := 24) (t := 0) (n := 6) hG wd_112 (by decide) rfl (by decide) hs3 (by decide) (by decide) rfl rfl ⟨by decide, by decide⟩ dX2_init_31 ?_
  refine jr_putF hG hin fi_RX2_21 rfl rfl rfl h0 (Nat.lt_of_lt_of_le hl0 (Nat.le_add_right _ _)) dX2_init_33 ?_
  refine jr_aload_n hG 0 dX2_init_36 rfl rfl ?_
  refine jr_bipush (v := (6 : Int32)) hG dX2_init_37 (by decide) ?_
  refine jr_newa (at1 := .int) (cells' := 5) (slots' := 30) (t := 0) (n := 6) hG wd_112 (by decide) rfl (by decide) hs4 (by decide) (by decide) rfl rfl ⟨by decide, by decide⟩ dX2_init_39 ?_
  refine jr_putF hG hin fi_RX2_24 rfl rfl rfl h0 (Nat.lt_of_lt_of_le hl0 (Nat.le_add_right _ _)) dX2_init_41 ?_
  refine jr_aload_n hG 0 dX2_init_44 rfl rfl ?_
  refine jr_bipush (v := (6 : Int32)) hG dX2_init_45 (by decide) ?_
  refine jr_newa (at1 := .int) (cells' := 6) (slots' := 36) (t := 0) (n := 6) hG wd_112 (by decide) rfl (by decide) hs5 (by decide) (by decide) rfl rfl ⟨by decide, by decide⟩ dX2_init_47 ?_
  refine jr_putF hG hin fi_RX2_27 rfl rfl rfl h0 (Nat.lt_of_lt_of_le hl0 (Nat.le_add_right _ _)) dX2_init_49 ?_
  refine jr_aload_n hG 0 dX2_init_52 rfl rfl ?_
  refine jr_bipush (v := (6 : Int32)) hG dX2_init_53 (by decide) ?_
  refine jr_newa (at1 := .int) (cells' := 7) (slots' := 42) (t := 0) (n := 6) hG wd_112 (by decide) rfl (by decide) hs6 (by decide) (by decide) rfl rfl ⟨by decide, by decide⟩ dX2_init_55 ?_
  refine jr_putF hG hin fi_RX2_30 rfl rfl rfl h0 (Nat.lt_of_lt_of_le hl0 (Nat.le_add_right _ _)) dX2_init_57 ?_
  refine jr_aload_n hG 0 dX2_init_60 rfl rfl ?_
  refine jr_iconst (v := (0 : Int32)) hG dX2_init_61 (by decide) ?_
  refine jr_putI hG fi_RX2_33 rfl rfl h0 (Nat.lt_of_lt_of_le hl0 (Nat.le_add_right _ _)) dX2_init_62 ?_
  refine jr_aload_n hG 0 dX2_init_65 rfl rfl ?_
  refine jr_iconst (v := (0 : Int32)) hG dX2_init_66 (by decide) ?_
  refine jr_putI hG fi_RX2_37 rfl rfl h0 (Nat.lt_of_lt_of_le hl0 (Nat.le_add_right _ _)) dX2_init_67 ?_
  exact jr_vret hG hr hk dX2_init_70
-- TonguesDealt()
def k_X5_init (σ : Mm) : Mm := (si (sr (k_X1_init 64 63 (sz0 (si (sr (k_X1_init 61 60 (sz0 (si (sr (k_X1_init 58 57 (sz0 (sr (k_X4_init 56 55 (sz0 (sr (k_X4_init 54 53 (sz0 (sr (k_X4_init 52 51 (sz0 (sr (k_X4_init 50 49 (sz0 (sr (k_X3_init 48 47 (sz0 (sr (k_X3_init 46 45 (sz0 (sr (k_X3_init 44 43 (sz0 (sr (k_X3_init 42 41 (sz0 (sr (k_X3_init 40 39 (sz0 (sr (k_X3_init 38 37 (sz0 (sl (sl (si (si (sr (sz0 (sr (sz0 (sr (k_X2_init 28 27 (sz0 (sr (k_X2_init 20 19 (sz0 (sr (k_X0_init 14 13 (sz0 (sr (k_X0_init 8 7 (sz0 (sr (k_X1_init 5 4 (sz0 (sr (sz0 (sr (sz0 (sr (sz0 σ 1) 0 0 (some 1)) 2) 0 1 (some 2)) 3) 0 2 (some 3)) 4)) 0 3 (some 4)) 7)) 0 4 (some 7)) 13)) 0 5 (some 13)) 19)) 0 6 (some 19)) 27)) 0 7 (some 27)) 35) 0 8 (some 35)) 36) 0 9 (some 36)) 0 10 (0 : Int32)) 0 11 (0 : Int32)) 0 12 (0 : Int64)) 0 13 (1 : Int64)) 37)) 1 (ix (0 : Int32)) (some 37)) 39)) 1 (ix (1 : Int32)) (some 39)) 41)) 1 (ix (2 : Int32)) (some 41)) 43)) 1 (ix (3 : Int32)) (some 43)) 45)) 1 (ix (4 : Int32)) (some 45)) 47)) 1 (ix (5 : Int32)) (some 47)) 49)) 2 (ix (0 : Int32)) (some 49)) 51)) 2 (ix (1 : Int32)) (some 51)) 53)) 2 (ix (2 : Int32)) (some 53)) 55)) 2 (ix (3 : Int32)) (some 55)) 57)) 3 (ix (0 : Int32)) (some 57)) 57 2 (-1 : Int32)) 60)) 3 (ix (1 : Int32)) (some 60)) 60 2 (-1 : Int32)) 63)) 3 (ix (2 : Int32)) (some 63)) 63 2 (-1 : Int32))
abbrev rm_X5_init : Room := { frames := 2, cells := 65, slots := 1031, locals := 60 }
theorem ci_X5_init : CIx yX5_init cX5_init 2 none 0 := ⟨wd_84, wd_71, by decide +kernel⟩
set_option maxRecDepth 100000 in
set_option maxHeartbeats 4000000 in
theorem c_X5_init (l : Launch) (E : XE) (σ : Mm) : Met l yX5_init [Cond.code yX5_init cX5_init 2 none] rm_X5_init (xPc E 1 σ [.ref (E.B + 0)]) (xQv E (1 + 65) (k_X5_init σ)) 65 1031 (xA E) := by
  refine met_of (N0 := 1) (X := some (k_X5_init σ)) (Qc := fun r => xQv E (1 + 65) r) (by decide +kernel) (Nat.le_of_ble_eq_true rfl) ?_ _ rfl
  intro p e s m args below meth c hG hr hk hin
  show JR E 1 2 p l e rm_X5_init s m args below meth c 0 0 (fun r => MQ below (xQv E (1 + 65) r) args s 65 1031 (xA E)) 0 [(0, .ref (E.B + 0))] [] σ (some (k_X5_init σ))
  refine jr_aload_n hG 0 dX5_init_0 rfl rfl ?_
  refine jr_objInit hG wd_85 wd_86 wd_87 dX5_init_1 ⟨by decide, by decide⟩ ?_
  refine jr_aload_n hG 0 dX5_init_4 rfl rfl ?_
  refine jr_bipush (v := (6 : Int32)) hG dX5_init_5 (by decide) ?_
  refine jr_anewa (cells' := 1) (slots' := 6) (t := 3) (n := 6) hG wd_88 (List.mem_of_getElem? (i := 10) rfl) (by decide) rfl (by decide) (by decide) (by decide) rfl rfl ⟨by decide, by decide⟩ dX5_init_7 ?_
  -- cell 1
  refine jr_putF hG hin fi_RX5_11 rfl rfl rfl (by decide) (by decide) dX5_init_10 ?_
  refine jr_aload_n hG 0 dX5_init_13 rfl rfl ?_
  refine jr_iconst (v := (4 : Int32)) hG dX5_init_14 (by decide) ?_
  refine jr_anewa (cells' := 2) (slots' := 10) (t := 4) (n := 4) hG wd_90 (List.mem_of_getElem? (i := 11) rfl) (by decide) rfl (by decide) (by decide) (by decide) rfl rfl ⟨by decide, by decide⟩ dX5_init_15 ?_
  -- cell 2
  refine jr_putF hG hin fi_RX5_17 rfl rfl rfl (by decide) (by decide) dX5_init_18 ?_
  refine jr_aload_n hG 0 dX5_init_21 rfl rfl ?_
  refine jr_iconst (v := (3 : Int32)) hG dX5_init_22 (by decide) ?_
  refine jr_anewa (cells' := 3) (slots' := 13) (t := 5) (n := 3) hG wd_92 (List.mem_of_getElem? (i := 12) rfl) (by decide) rfl (by decide) (by decide) (by decide) rfl rfl ⟨by decide, by decide⟩ dX5_init_23 ?_
  -- cell 3
  refine jr_putF hG hin fi_RX5_23 rfl rfl rfl (by decide) (by decide) dX5_init_26 ?_
  refine jr_aload_n hG 0 dX5_init_29 rfl rfl ?_
  refine jr_new (cells' := 4) (slots' := 16) hG cl_1 wd_92 wd_94 wd_72 (by decide) (by decide) rfl rfl ⟨by decide, by decide⟩ dX5_init_30 ?_
  -- cell 4
  refine jr_dup hG dX5_init_33 rfl ?_
  refine jr_callIN (cells' := 6) (slots' := 96) (τ := k_X1_init 5 4 (sz0 (sr (sz0 (sr (sz0 (sr (sz0 σ 1) 0 0 (some 1)) 2) 0 1 (some 2)) 3) 0 2 (some 3)) 4)) hG (c_X1_init l E 5 4 (sz0 (sr (sz0 (sr (sz0 (sr (sz0 σ 1) 0 0 (some 1)) 2) 0 1 (some 2)) 3) 0 2 (some 3)) 4) (by decide) (by decide) (by decide) (by decide)) ci_X1_init (List.mem_of_getElem? (i := 0) rfl) rfl wd_96 ⟨rfl, rfl, by decide, by decide⟩ (Nat.le_of_ble_eq_true rfl) dX5_init_34 rfl rfl ⟨by decide, by decide⟩ ?_
  refine jr_putF hG hin fi_RX5_28 rfl rfl rfl (by decide) (by decide) dX5_init_37 ?_
  refine jr_aload_n hG 0 dX5_init_40 rfl rfl ?_
  refine jr_new (cells' := 7) (slots' := 104) hG cl_0 wd_113 wd_114 wd_73 (by decide) (by decide) rfl rfl ⟨by decide, by decide⟩ dX5_init_41 ?_
  -- cell 7
  refine jr_dup hG dX5_init_44 rfl ?_
  refine jr_callIN (cells' := 12) (slots' := 132) (τ := k_X0_init 8 7 (sz0 (sr (k_X1_init 5 4 (sz0 (sr (sz0 (sr (sz0 (sr (sz0 σ 1) 0 0 (some 1)) 2) 0 1 (some 2)) 3) 0 2 (some 3)) 4)) 0 3 (some 4)) 7)) hG (c_X0_init l E 8 7 (sz0 (sr (k_X1_init 5 4 (sz0 (sr (sz0 (sr (sz0 (sr (sz0 σ 1) 0 0 (some 1)) 2) 0 1 (some 2)) 3) 0 2 (some 3)) 4)) 0 3 (some 4)) 7) (by decide) (by decide) (by decide) (by decide) (by decide) (by decide) (by decide)) ci_X0_init (List.mem_of_getElem? (i := 1) rfl) rfl wd_116 ⟨rfl, rfl, by decide, by decide⟩ (Nat.le_of_ble_eq_true rfl) dX5_init_45 rfl rfl ⟨by decide, by decide⟩ ?_
  refine jr_putF hG hin fi_RX5_35 rfl rfl rfl (by decide) (by decide) dX5_init_48 ?_
  refine jr_aload_n hG 0 dX5_init_51 rfl rfl ?_
  refine jr_new (cells' := 13) (slots' := 140) hG cl_0 wd_113 wd_114 wd_73 (by decide) (by decide) rfl rfl ⟨by decide, by decide⟩ dX5_init_52 ?_
  -- cell 13
  refine jr_dup hG dX5_init_55 rfl ?_
  refine jr_callIN (cells' := 18) (slots' := 168) (τ := k_X0_init 14 13 (sz0 (sr (k_X0_init 8 7 (sz0 (sr (k_X1_init 5 4 (sz0 (sr (sz0 (sr (sz0 (sr (sz0 σ 1) 0 0 (some 1)) 2) 0 1 (some 2)) 3) 0 2 (some 3)) 4)) 0 3 (some 4)) 7)) 0 4 (some 7)) 13)) hG (c_X0_init l E 14 13 (sz0 (sr (k_X0_init 8 7 (sz0 (sr (k_X1_init 5 4 (sz0 (sr (sz0 (sr (sz0 (sr (sz0 σ 1) 0 0 (some 1)) 2) 0 1 (some 2)) 3) 0 2 (some 3)) 4)) 0 3 (some 4)) 7)) 0 4 (some 7)) 13) (by decide) (by decide) (by decide) (by decide) (by decide) (by decide) (by decide)) ci_X0_init (List.mem_of_getElem? (i := 1) rfl) rfl wd_116 ⟨rfl, rfl, by decide, by decide⟩ (Nat.le_of_ble_eq_true rfl) dX5_init_56 rfl rfl ⟨by decide, by decide⟩ ?_
  refine jr_putF hG hin fi_RX5_39 rfl rfl rfl (by decide) (by decide) dX5_init_59 ?_
  refine jr_aload_n hG 0 dX5_init_62 rfl rfl ?_
  refine jr_new (cells' := 19) (slots' := 177) hG cl_2 wd_151 wd_152 wd_74 (by decide) (by decide) rfl rfl ⟨by decide, by decide⟩ dX5_init_63 ?_
  -- cell 19
  refine jr_dup hG dX5_init_66 rfl ?_
  refine jr_callIN (cells' := 26) (slots' := 219) (τ := k_X2_init 20 19 (sz0 (sr (k_X0_init 14 13 (sz0 (sr (k_X0_init 8 7 (sz0 (sr (k_X1_init 5 4 (sz0 (sr (sz0 (sr (sz0 (sr (sz0 σ 1) 0 0 (some 1)) 2) 0 1 (some 2)) 3) 0 2 (some 3)) 4)) 0 3 (some 4)) 7)) 0 4 (some 7)) 13)) 0 5 (some 13)) 19)) hG (c_X2_init l E 20 19 (sz0 (sr (k_X0_init 14 13 (sz0 (sr (k_X0_init 8 7 (sz0 (sr (k_X1_init 5 4 (sz0 (sr (sz0 (sr (sz0 (sr (sz0 σ 1) 0 0 (some 1)) 2) 0 1 (some 2)) 3) 0 2 (some 3)) 4)) 0 3 (some 4)) 7)) 0 4 (some 7)) 13)) 0 5 (some 13)) 19) (by decide) (by decide) (by decide) (by decide) (by decide) (by decide) (by decide) (by decide) (by decide)) ci_X2_init (List.mem_of_getElem? (i := 2) rfl) rfl wd_154 ⟨rfl, rfl, by decide, by decide⟩ (Nat.le_of_ble_eq_true rfl) dX5_init_67 rfl rfl ⟨by decide, by decide⟩ ?_
  refine jr_putR hG fi_RX5_45 rfl rfl (by decide) (by decide) dX5_init_70 ?_
  refine jr_aload_n hG 0 dX5_init_73 rfl rfl ?_
  refine jr_new (cells' := 27) (slots' := 228) hG cl_2 wd_151 wd_152 wd_74 (by decide) (by decide) rfl rfl ⟨by decide, by decide⟩ dX5_init_74 ?_
  -- cell 27
  refine jr_dup hG dX5_init_77 rfl ?_
  refine jr_callIN (cells' := 34) (slots' := 270) (τ := k_X2_init 28 27 (sz0 (sr (k_X2_init 20 19 (sz0 (sr (k_X0_init 14 13 (sz0 (sr (k_X0_init 8 7 (sz0 (sr (k_X1_init 5 4 (sz0 (sr (sz0 (sr (sz0 (sr (sz0 σ 1) 0 0 (some 1)) 2) 0 1 (some 2)) 3) 0 2 (some 3)) 4)) 0 3 (some 4)) 7)) 0 4 (some 7)) 13)) 0 5 (some 13)) 19)) 0 6 (some 19)) 27)) hG (c_X2_init l E 28 27 (sz0 (sr (k_X2_init 20 19 (sz0 (sr (k_X0_init 14 13 (sz0 (sr (k_X0_init 8 7 (sz0 (sr (k_X1_init 5 4 (sz0 (sr (sz0 (sr (sz0 (sr (sz0 σ 1) 0 0 (some 1)) 2) 0 1 (some 2)) 3) 0 2 (some 3)) 4)) 0 3 (some 4)) 7)) 0 4 (some 7)) 13)) 0 5 (some 13)) 19)) 0 6 (some 19)) 27) (by decide) (by decide) (by decide) (by decide) (by decide) (by decide) (by decide) (by decide) (by decide)) ci_X2_init (List.mem_of_getElem? (i := 2) rfl) rfl wd_154 ⟨rfl, rfl, by decide, by decide⟩ (Nat.le_of_ble_eq_true rfl) dX5_init_78 rfl rfl ⟨by decide, by decide⟩ ?_
  refine jr_putR hG fi_RX5_49 rfl rfl (by decide) (by decide) dX5_init_81 ?_
  refine jr_aload_n hG 0 dX5_init_84 rfl rfl ?_
  refine jr_bipush (v := (6 : Int32)) hG dX5_init_85 (by decide) ?_
  refine jr_newa (at1 := .int) (cells' := 35) (slots' := 276) (t := 0) (n := 6) hG wd_112 (by decide) rfl (by decide) (by decide) (by decide) (by decide) rfl rfl ⟨by decide, by decide⟩ dX5_init_87 ?_
  -- cell 35
  refine jr_putF hG hin fi_RX5_52 rfl rfl rfl (by decide) (by decide) dX5_init_89 ?_
  refine jr_aload_n hG 0 dX5_init_92 rfl rfl ?_
  refine jr_bipush (v := (6 : Int32)) hG dX5_init_93 (by decide) ?_
  refine jr_newa (at1 := .int) (cells' := 36) (slots' := 282) (t := 0) (n := 6) hG wd_112 (by decide) rfl (by decide) (by decide) (by decide) (by decide) rfl rfl ⟨by decide, by decide⟩ dX5_init_95 ?_
  -- cell 36
  refine jr_putF hG hin fi_RX5_56 rfl rfl rfl (by decide) (by decide) dX5_init_97 ?_
  refine jr_aload_n hG 0 dX5_init_100 rfl rfl ?_
  refine jr_iconst (v := (0 : Int32)) hG dX5_init_101 (by decide) ?_
  refine jr_putI hG fi_RX5_59 rfl rfl (by decide) (by decide) dX5_init_102 ?_
  refine jr_aload_n hG 0 dX5_init_105 rfl rfl ?_
  refine jr_iconst (v := (0 : Int32)) hG dX5_init_106 (by decide) ?_
  refine jr_putI hG fi_RX5_63 rfl rfl (by decide) (by decide) dX5_init_107 ?_
  refine jr_aload_n hG 0 dX5_init_110 rfl rfl ?_
  refine jr_lconst (v := (0 : Int64)) hG dX5_init_111 (by decide) ?_
  refine jr_putL hG fi_RX5_66 rfl rfl (by decide) (by decide) dX5_init_112 ?_
  refine jr_aload_n hG 0 dX5_init_115 rfl rfl ?_
  refine jr_lconst (v := (1 : Int64)) hG dX5_init_116 (by decide) ?_
  refine jr_putL hG fi_RX5_70 rfl rfl (by decide) (by decide) dX5_init_117 ?_
  refine jr_iconst (v := (0 : Int32)) hG dX5_init_120 (by decide) ?_
  refine jr_istore_n (lv' := [(1, .int (0 : Int32)), (0, .ref (E.B + 0))]) hG dX5_init_121 rfl (by decide) rfl ?_
  refine jr_iload_n hG 0 dX5_init_122 rfl rfl ?_
  refine jr_bipush (v := (6 : Int32)) hG dX5_init_123 (by decide) ?_
  refine jr_geF hG 147 dX5_init_125 (by decide) (by decide) ?_
  refine jr_aload_n hG 1 dX5_init_128 rfl rfl ?_
  refine jr_getK (b := 1) hG fi_RX5_11 rfl (by decide) (by decide) rfl dX5_init_129 ?_
  refine jr_iload_n hG 0 dX5_init_132 rfl rfl ?_
  refine jr_new (cells' := 37) (slots' := 284) hG cl_3 wd_88 wd_193 wd_75 (by decide) (by decide) rfl rfl ⟨by decide, by decide⟩ dX5_init_133 ?_
  -- cell 37
  refine jr_dup hG dX5_init_136 rfl ?_
  refine jr_callIN (cells' := 38) (slots' := 324) (τ := k_X3_init 38 37 (sz0 (sl (sl (si (si (sr (sz0 (sr (sz0 (sr (k_X2_init 28 27 (sz0 (sr (k_X2_init 20 19 (sz0 (sr (k_X0_init 14 13 (sz0 (sr (k_X0_init 8 7 (sz0 (sr (k_X1_init 5 4 (sz0 (sr (sz0 (sr (sz0 (sr (sz0 σ 1) 0 0 (some 1)) 2) 0 1 (some 2)) 3) 0 2 (some 3)) 4)) 0 3 (some 4)) 7)) 0 4 (some 7)) 13)) 0 5 (some 13)) 19)) 0 6 (some 19)) 27)) 0 7 (some 27)) 35) 0 8 (some 35)) 36) 0 9 (some 36)) 0 10 (0 : Int32)) 0 11 (0 : Int32)) 0 12 (0 : Int64)) 0 13 (1 : Int64)) 37)) hG (c_X3_init l E 38 37 (sz0 (sl (sl (si (si (sr (sz0 (sr (sz0 (sr (k_X2_init 28 27 (sz0 (sr (k_X2_init 20 19 (sz0 (sr (k_X0_init 14 13 (sz0 (sr (k_X0_init 8 7 (sz0 (sr (k_X1_init 5 4 (sz0 (sr (sz0 (sr (sz0 (sr (sz0 σ 1) 0 0 (some 1)) 2) 0 1 (some 2)) 3) 0 2 (some 3)) 4)) 0 3 (some 4)) 7)) 0 4 (some 7)) 13)) 0 5 (some 13)) 19)) 0 6 (some 19)) 27)) 0 7 (some 27)) 35) 0 8 (some 35)) 36) 0 9 (some 36)) 0 10 (0 : Int32)) 0 11 (0 : Int32)) 0 12 (0 : Int64)) 0 13 (1 : Int64)) 37) (by decide) (by decide) (by decide)) ci_X3_init (List.mem_of_getElem? (i := 3) rfl) rfl wd_195 ⟨rfl, rfl, by decide, by decide⟩ (Nat.le_of_ble_eq_true rfl) dX5_init_137 rfl rfl ⟨by decide, by decide⟩ ?_
  refine jr_aast hG cl_3 (t := 3) (n := 6) (by decide) (by decide) rfl (by decide) (by decide) (by decide) (by decide) dX5_init_140 ?_
  refine jr_iinc (v := (1 : Int32)) (lv' := [(1, .int (1 : Int32)), (0, .ref (E.B + 0))]) hG 0 dX5_init_141 rfl (by decide) (by decide) rfl ?_
  refine jr_goto hG 122 dX5_init_144 (by decide) ?_
  refine jr_iload_n hG 0 dX5_init_122 rfl rfl ?_
  refine jr_bipush (v := (6 : Int32)) hG dX5_init_123 (by decide) ?_
  refine jr_geF hG 147 dX5_init_125 (by decide) (by decide) ?_
  refine jr_aload_n hG 1 dX5_init_128 rfl rfl ?_
  refine jr_getK (b := 1) hG fi_RX5_11 rfl (by decide) (by decide) rfl dX5_init_129 ?_
  refine jr_iload_n hG 0 dX5_init_132 rfl rfl ?_
  refine jr_new (cells' := 39) (slots' := 326) hG cl_3 wd_88 wd_193 wd_75 (by decide) (by decide) rfl rfl ⟨by decide, by decide⟩ dX5_init_133 ?_
  -- cell 39
  refine jr_dup hG dX5_init_136 rfl ?_
  refine jr_callIN (cells' := 40) (slots' := 366) (τ := k_X3_init 40 39 (sz0 (sr (k_X3_init 38 37 (sz0 (sl (sl (si (si (sr (sz0 (sr (sz0 (sr (k_X2_init 28 27 (sz0 (sr (k_X2_init 20 19 (sz0 (sr (k_X0_init 14 13 (sz0 (sr (k_X0_init 8 7 (sz0 (sr (k_X1_init 5 4 (sz0 (sr (sz0 (sr (sz0 (sr (sz0 σ 1) 0 0 (some 1)) 2) 0 1 (some 2)) 3) 0 2 (some 3)) 4)) 0 3 (some 4)) 7)) 0 4 (some 7)) 13)) 0 5 (some 13)) 19)) 0 6 (some 19)) 27)) 0 7 (some 27)) 35) 0 8 (some 35)) 36) 0 9 (some 36)) 0 10 (0 : Int32)) 0 11 (0 : Int32)) 0 12 (0 : Int64)) 0 13 (1 : Int64)) 37)) 1 (ix (0 : Int32)) (some 37)) 39)) hG (c_X3_init l E 40 39 (sz0 (sr (k_X3_init 38 37 (sz0 (sl (sl (si (si (sr (sz0 (sr (sz0 (sr (k_X2_init 28 27 (sz0 (sr (k_X2_init 20 19 (sz0 (sr (k_X0_init 14 13 (sz0 (sr (k_X0_init 8 7 (sz0 (sr (k_X1_init 5 4 (sz0 (sr (sz0 (sr (sz0 (sr (sz0 σ 1) 0 0 (some 1)) 2) 0 1 (some 2)) 3) 0 2 (some 3)) 4)) 0 3 (some 4)) 7)) 0 4 (some 7)) 13)) 0 5 (some 13)) 19)) 0 6 (some 19)) 27)) 0 7 (some 27)) 35) 0 8 (some 35)) 36) 0 9 (some 36)) 0 10 (0 : Int32)) 0 11 (0 : Int32)) 0 12 (0 : Int64)) 0 13 (1 : Int64)) 37)) 1 (ix (0 : Int32)) (some 37)) 39) (by decide) (by decide) (by decide)) ci_X3_init (List.mem_of_getElem? (i := 3) rfl) rfl wd_195 ⟨rfl, rfl, by decide, by decide⟩ (Nat.le_of_ble_eq_true rfl) dX5_init_137 rfl rfl ⟨by decide, by decide⟩ ?_
  refine jr_aast hG cl_3 (t := 3) (n := 6) (by decide) (by decide) rfl (by decide) (by decide) (by decide) (by decide) dX5_init_140 ?_
  refine jr_iinc (v := (2 : Int32)) (lv' := [(1, .int (2 : Int32)), (0, .ref (E.B + 0))]) hG 0 dX5_init_141 rfl (by decide) (by decide) rfl ?_
  refine jr_goto hG 122 dX5_init_144 (by decide) ?_
  refine jr_iload_n hG 0 dX5_init_122 rfl rfl ?_
  refine jr_bipush (v := (6 : Int32)) hG dX5_init_123 (by decide) ?_
  refine jr_geF hG 147 dX5_init_125 (by decide) (by decide) ?_
  refine jr_aload_n hG 1 dX5_init_128 rfl rfl ?_
  refine jr_getK (b := 1) hG fi_RX5_11 rfl (by decide) (by decide) rfl dX5_init_129 ?_
  refine jr_iload_n hG 0 dX5_init_132 rfl rfl ?_
  refine jr_new (cells' := 41) (slots' := 368) hG cl_3 wd_88 wd_193 wd_75 (by decide) (by decide) rfl rfl ⟨by decide, by decide⟩ dX5_init_133 ?_
  -- cell 41
  refine jr_dup hG dX5_init_136 rfl ?_
  refine jr_callIN (cells' := 42) (slots' := 408) (τ := k_X3_init 42 41 (sz0 (sr (k_X3_init 40 39 (sz0 (sr (k_X3_init 38 37 (sz0 (sl (sl (si (si (sr (sz0 (sr (sz0 (sr (k_X2_init 28 27 (sz0 (sr (k_X2_init 20 19 (sz0 (sr (k_X0_init 14 13 (sz0 (sr (k_X0_init 8 7 (sz0 (sr (k_X1_init 5 4 (sz0 (sr (sz0 (sr (sz0 (sr (sz0 σ 1) 0 0 (some 1)) 2) 0 1 (some 2)) 3) 0 2 (some 3)) 4)) 0 3 (some 4)) 7)) 0 4 (some 7)) 13)) 0 5 (some 13)) 19)) 0 6 (some 19)) 27)) 0 7 (some 27)) 35) 0 8 (some 35)) 36) 0 9 (some 36)) 0 10 (0 : Int32)) 0 11 (0 : Int32)) 0 12 (0 : Int64)) 0 13 (1 : Int64)) 37)) 1 (ix (0 : Int32)) (some 37)) 39)) 1 (ix (1 : Int32)) (some 39)) 41)) hG (c_X3_init l E 42 41 (sz0 (sr (k_X3_init 40 39 (sz0 (sr (k_X3_init 38 37 (sz0 (sl (sl (si (si (sr (sz0 (sr (sz0 (sr (k_X2_init 28 27 (sz0 (sr (k_X2_init 20 19 (sz0 (sr (k_X0_init 14 13 (sz0 (sr (k_X0_init 8 7 (sz0 (sr (k_X1_init 5 4 (sz0 (sr (sz0 (sr (sz0 (sr (sz0 σ 1) 0 0 (some 1)) 2) 0 1 (some 2)) 3) 0 2 (some 3)) 4)) 0 3 (some 4)) 7)) 0 4 (some 7)) 13)) 0 5 (some 13)) 19)) 0 6 (some 19)) 27)) 0 7 (some 27)) 35) 0 8 (some 35)) 36) 0 9 (some 36)) 0 10 (0 : Int32)) 0 11 (0 : Int32)) 0 12 (0 : Int64)) 0 13 (1 : Int64)) 37)) 1 (ix (0 : Int32)) (some 37)) 39)) 1 (ix (1 : Int32)) (some 39)) 41) (by decide) (by decide) (by decide)) ci_X3_init (List.mem_of_getElem? (i := 3) rfl) rfl wd_195 ⟨rfl, rfl, by decide, by decide⟩ (Nat.le_of_ble_eq_true rfl) dX5_init_137 rfl rfl ⟨by decide, by decide⟩ ?_
  refine jr_aast hG cl_3 (t := 3) (n := 6) (by decide) (by decide) rfl (by decide) (by decide) (by decide) (by decide) dX5_init_140 ?_
  refine jr_iinc (v := (3 : Int32)) (lv' := [(1, .int (3 : Int32)), (0, .ref (E.B + 0))]) hG 0 dX5_init_141 rfl (by decide) (by decide) rfl ?_
  refine jr_goto hG 122 dX5_init_144 (by decide) ?_
  refine jr_iload_n hG 0 dX5_init_122 rfl rfl ?_
  refine jr_bipush (v := (6 : Int32)) hG dX5_init_123 (by decide) ?_
  refine jr_geF hG 147 dX5_init_125 (by decide) (by decide) ?_
  refine jr_aload_n hG 1 dX5_init_128 rfl rfl ?_
  refine jr_getK (b := 1) hG fi_RX5_11 rfl (by decide) (by decide) rfl dX5_init_129 ?_
  refine jr_iload_n hG 0 dX5_init_132 rfl rfl ?_
  refine jr_new (cells' := 43) (slots' := 410) hG cl_3 wd_88 wd_193 wd_75 (by decide) (by decide) rfl rfl ⟨by decide, by decide⟩ dX5_init_133 ?_
  -- cell 43
  refine jr_dup hG dX5_init_136 rfl ?_
  refine jr_callIN (cells' := 44) (slots' := 450) (τ := k_X3_init 44 43 (sz0 (sr (k_X3_init 42 41 (sz0 (sr (k_X3_init 40 39 (sz0 (sr (k_X3_init 38 37 (sz0 (sl (sl (si (si (sr (sz0 (sr (sz0 (sr (k_X2_init 28 27 (sz0 (sr (k_X2_init 20 19 (sz0 (sr (k_X0_init 14 13 (sz0 (sr (k_X0_init 8 7 (sz0 (sr (k_X1_init 5 4 (sz0 (sr (sz0 (sr (sz0 (sr (sz0 σ 1) 0 0 (some 1)) 2) 0 1 (some 2)) 3) 0 2 (some 3)) 4)) 0 3 (some 4)) 7)) 0 4 (some 7)) 13)) 0 5 (some 13)) 19)) 0 6 (some 19)) 27)) 0 7 (some 27)) 35) 0 8 (some 35)) 36) 0 9 (some 36)) 0 10 (0 : Int32)) 0 11 (0 : Int32)) 0 12 (0 : Int64)) 0 13 (1 : Int64)) 37)) 1 (ix (0 : Int32)) (some 37)) 39)) 1 (ix (1 : Int32)) (some 39)) 41)) 1 (ix (2 : Int32)) (some 41)) 43)) hG (c_X3_init l E 44 43 (sz0 (sr (k_X3_init 42 41 (sz0 (sr (k_X3_init 40 39 (sz0 (sr (k_X3_init 38 37 (sz0 (sl (sl (si (si (sr (sz0 (sr (sz0 (sr (k_X2_init 28 27 (sz0 (sr (k_X2_init 20 19 (sz0 (sr (k_X0_init 14 13 (sz0 (sr (k_X0_init 8 7 (sz0 (sr (k_X1_init 5 4 (sz0 (sr (sz0 (sr (sz0 (sr (sz0 σ 1) 0 0 (some 1)) 2) 0 1 (some 2)) 3) 0 2 (some 3)) 4)) 0 3 (some 4)) 7)) 0 4 (some 7)) 13)) 0 5 (some 13)) 19)) 0 6 (some 19)) 27)) 0 7 (some 27)) 35) 0 8 (some 35)) 36) 0 9 (some 36)) 0 10 (0 : Int32)) 0 11 (0 : Int32)) 0 12 (0 : Int64)) 0 13 (1 : Int64)) 37)) 1 (ix (0 : Int32)) (some 37)) 39)) 1 (ix (1 : Int32)) (some 39)) 41)) 1 (ix (2 : Int32)) (some 41)) 43) (by decide) (by decide) (by decide)) ci_X3_init (List.mem_of_getElem? (i := 3) rfl) rfl wd_195 ⟨rfl, rfl, by decide, by decide⟩ (Nat.le_of_ble_eq_true rfl) dX5_init_137 rfl rfl ⟨by decide, by decide⟩ ?_
  refine jr_aast hG cl_3 (t := 3) (n := 6) (by decide) (by decide) rfl (by decide) (by decide) (by decide) (by decide) dX5_init_140 ?_
  refine jr_iinc (v := (4 : Int32)) (lv' := [(1, .int (4 : Int32)), (0, .ref (E.B + 0))]) hG 0 dX5_init_141 rfl (by decide) (by decide) rfl ?_
  refine jr_goto hG 122 dX5_init_144 (by decide) ?_
  refine jr_iload_n hG 0 dX5_init_122 rfl rfl ?_
  refine jr_bipush (v := (6 : Int32)) hG dX5_init_123 (by decide) ?_
  refine jr_geF hG 147 dX5_init_125 (by decide) (by decide) ?_
  refine jr_aload_n hG 1 dX5_init_128 rfl rfl ?_
  refine jr_getK (b := 1) hG fi_RX5_11 rfl (by decide) (by decide) rfl dX5_init_129 ?_
  refine jr_iload_n hG 0 dX5_init_132 rfl rfl ?_
  refine jr_new (cells' := 45) (slots' := 452) hG cl_3 wd_88 wd_193 wd_75 (by decide) (by decide) rfl rfl ⟨by decide, by decide⟩ dX5_init_133 ?_
  -- cell 45
  refine jr_dup hG dX5_init_136 rfl ?_
  refine jr_callIN (cells' := 46) (slots' := 492) (τ := k_X3_init 46 45 (sz0 (sr (k_X3_init 44 43 (sz0 (sr (k_X3_init 42 41 (sz0 (sr (k_X3_init 40 39 (sz0 (sr (k_X3_init 38 37 (sz0 (sl (sl (si (si (sr (sz0 (sr (sz0 (sr (k_X2_init 28 27 (sz0 (sr (k_X2_init 20 19 (sz0 (sr (k_X0_init 14 13 (sz0 (sr (k_X0_init 8 7 (sz0 (sr (k_X1_init 5 4 (sz0 (sr (sz0 (sr (sz0 (sr (sz0 σ 1) 0 0 (some 1)) 2) 0 1 (some 2)) 3) 0 2 (some 3)) 4)) 0 3 (some 4)) 7)) 0 4 (some 7)) 13)) 0 5 (some 13)) 19)) 0 6 (some 19)) 27)) 0 7 (some 27)) 35) 0 8 (some 35)) 36) 0 9 (some 36)) 0 10 (0 : Int32)) 0 11 (0 : Int32)) 0 12 (0 : Int64)) 0 13 (1 : Int64)) 37)) 1 (ix (0 : Int32)) (some 37)) 39)) 1 (ix (1 : Int32)) (some 39)) 41)) 1 (ix (2 : Int32)) (some 41)) 43)) 1 (ix (3 : Int32)) (some 43)) 45)) hG (c_X3_init l E 46 45 (sz0 (sr (k_X3_init 44 43 (sz0 (sr (k_X3_init 42 41 (sz0 (sr (k_X3_init 40 39 (sz0 (sr (k_X3_init 38 37 (sz0 (sl (sl (si (si (sr (sz0 (sr (sz0 (sr (k_X2_init 28 27 (sz0 (sr (k_X2_init 20 19 (sz0 (sr (k_X0_init 14 13 (sz0 (sr (k_X0_init 8 7 (sz0 (sr (k_X1_init 5 4 (sz0 (sr (sz0 (sr (sz0 (sr (sz0 σ 1) 0 0 (some 1)) 2) 0 1 (some 2)) 3) 0 2 (some 3)) 4)) 0 3 (some 4)) 7)) 0 4 (some 7)) 13)) 0 5 (some 13)) 19)) 0 6 (some 19)) 27)) 0 7 (some 27)) 35) 0 8 (some 35)) 36) 0 9 (some 36)) 0 10 (0 : Int32)) 0 11 (0 : Int32)) 0 12 (0 : Int64)) 0 13 (1 : Int64)) 37)) 1 (ix (0 : Int32)) (some 37)) 39)) 1 (ix (1 : Int32)) (some 39)) 41)) 1 (ix (2 : Int32)) (some 41)) 43)) 1 (ix (3 : Int32)) (some 43)) 45) (by decide) (by decide) (by decide)) ci_X3_init (List.mem_of_getElem? (i := 3) rfl) rfl wd_195 ⟨rfl, rfl, by decide, by decide⟩ (Nat.le_of_ble_eq_true rfl) dX5_init_137 rfl rfl ⟨by decide, by decide⟩ ?_
  refine jr_aast hG cl_3 (t := 3) (n := 6) (by decide) (by decide) rfl (by decide) (by decide) (by decide) (by decide) dX5_init_140 ?_
  refine jr_iinc (v := (5 : Int32)) (lv' := [(1, .int (5 : Int32)), (0, .ref (E.B + 0))]) hG 0 dX5_init_141 rfl (by decide) (by decide) rfl ?_
  refine jr_goto hG 122 dX5_init_144 (by decide) ?_
  refine jr_iload_n hG 0 dX5_init_122 rfl rfl ?_
  refine jr_bipush (v := (6 : Int32)) hG dX5_init_123 (by decide) ?_
  refine jr_geF hG 147 dX5_init_125 (by decide) (by decide) ?_
  refine jr_aload_n hG 1 dX5_init_128 rfl rfl ?_
  refine jr_getK (b := 1) hG fi_RX5_11 rfl (by decide) (by decide) rfl dX5_init_129 ?_
  refine jr_iload_n hG 0 dX5_init_132 rfl rfl ?_
  refine jr_new (cells' := 47) (slots' := 494) hG cl_3 wd_88 wd_193 wd_75 (by decide) (by decide) rfl rfl ⟨by decide, by decide⟩ dX5_init_133 ?_
  -- cell 47
  refine jr_dup hG dX5_init_136 rfl ?_
  refine jr_callIN (cells' := 48) (slots' := 534) (τ := k_X3_init 48 47 (sz0 (sr (k_X3_init 46 45 (sz0 (sr (k_X3_init 44 43 (sz0 (sr (k_X3_init 42 41 (sz0 (sr (k_X3_init 40 39 (sz0 (sr (k_X3_init 38 37 (sz0 (sl (sl (si (si (sr (sz0 (sr (sz0 (sr (k_X2_init 28 27 (sz0 (sr (k_X2_init 20 19 (sz0 (sr (k_X0_init 14 13 (sz0 (sr (k_X0_init 8 7 (sz0 (sr (k_X1_init 5 4 (sz0 (sr (sz0 (sr (sz0 (sr (sz0 σ 1) 0 0 (some 1)) 2) 0 1 (some 2)) 3) 0 2 (some 3)) 4)) 0 3 (some 4)) 7)) 0 4 (some 7)) 13)) 0 5 (some 13)) 19)) 0 6 (some 19)) 27)) 0 7 (some 27)) 35) 0 8 (some 35)) 36) 0 9 (some 36)) 0 10 (0 : Int32)) 0 11 (0 : Int32)) 0 12 (0 : Int64)) 0 13 (1 : Int64)) 37)) 1 (ix (0 : Int32)) (some 37)) 39)) 1 (ix (1 : Int32)) (some 39)) 41)) 1 (ix (2 : Int32)) (some 41)) 43)) 1 (ix (3 : Int32)) (some 43)) 45)) 1 (ix (4 : Int32)) (some 45)) 47)) hG (c_X3_init l E 48 47 (sz0 (sr (k_X3_init 46 45 (sz0 (sr (k_X3_init 44 43 (sz0 (sr (k_X3_init 42 41 (sz0 (sr (k_X3_init 40 39 (sz0 (sr (k_X3_init 38 37 (sz0 (sl (sl (si (si (sr (sz0 (sr (sz0 (sr (k_X2_init 28 27 (sz0 (sr (k_X2_init 20 19 (sz0 (sr (k_X0_init 14 13 (sz0 (sr (k_X0_init 8 7 (sz0 (sr (k_X1_init 5 4 (sz0 (sr (sz0 (sr (sz0 (sr (sz0 σ 1) 0 0 (some 1)) 2) 0 1 (some 2)) 3) 0 2 (some 3)) 4)) 0 3 (some 4)) 7)) 0 4 (some 7)) 13)) 0 5 (some 13)) 19)) 0 6 (some 19)) 27)) 0 7 (some 27)) 35) 0 8 (some 35)) 36) 0 9 (some 36)) 0 10 (0 : Int32)) 0 11 (0 : Int32)) 0 12 (0 : Int64)) 0 13 (1 : Int64)) 37)) 1 (ix (0 : Int32)) (some 37)) 39)) 1 (ix (1 : Int32)) (some 39)) 41)) 1 (ix (2 : Int32)) (some 41)) 43)) 1 (ix (3 : Int32)) (some 43)) 45)) 1 (ix (4 : Int32)) (some 45)) 47) (by decide) (by decide) (by decide)) ci_X3_init (List.mem_of_getElem? (i := 3) rfl) rfl wd_195 ⟨rfl, rfl, by decide, by decide⟩ (Nat.le_of_ble_eq_true rfl) dX5_init_137 rfl rfl ⟨by decide, by decide⟩ ?_
  refine jr_aast hG cl_3 (t := 3) (n := 6) (by decide) (by decide) rfl (by decide) (by decide) (by decide) (by decide) dX5_init_140 ?_
  refine jr_iinc (v := (6 : Int32)) (lv' := [(1, .int (6 : Int32)), (0, .ref (E.B + 0))]) hG 0 dX5_init_141 rfl (by decide) (by decide) rfl ?_
  refine jr_goto hG 122 dX5_init_144 (by decide) ?_
  refine jr_iload_n hG 0 dX5_init_122 rfl rfl ?_
  refine jr_bipush (v := (6 : Int32)) hG dX5_init_123 (by decide) ?_
  refine jr_geT hG 147 dX5_init_125 (by decide) (by decide) ?_
  refine jr_iconst (v := (0 : Int32)) hG dX5_init_147 (by decide) ?_
  refine jr_istore_n (lv' := [(1, .int (0 : Int32)), (0, .ref (E.B + 0))]) hG dX5_init_148 rfl (by decide) rfl ?_
  refine jr_iload_n hG 0 dX5_init_149 rfl rfl ?_
  refine jr_iconst (v := (4 : Int32)) hG dX5_init_150 (by decide) ?_
  refine jr_geF hG 173 dX5_init_151 (by decide) (by decide) ?_
  refine jr_aload_n hG 1 dX5_init_154 rfl rfl ?_
  refine jr_getK (b := 2) hG fi_RX5_17 rfl (by decide) (by decide) rfl dX5_init_155 ?_
  refine jr_iload_n hG 0 dX5_init_158 rfl rfl ?_
  refine jr_new (cells' := 49) (slots' := 536) hG cl_4 wd_90 wd_209 wd_76 (by decide) (by decide) rfl rfl ⟨by decide, by decide⟩ dX5_init_159 ?_
  -- cell 49
  refine jr_dup hG dX5_init_162 rfl ?_
  refine jr_callIN (cells' := 50) (slots' := 596) (τ := k_X4_init 50 49 (sz0 (sr (k_X3_init 48 47 (sz0 (sr (k_X3_init 46 45 (sz0 (sr (k_X3_init 44 43 (sz0 (sr (k_X3_init 42 41 (sz0 (sr (k_X3_init 40 39 (sz0 (sr (k_X3_init 38 37 (sz0 (sl (sl (si (si (sr (sz0 (sr (sz0 (sr (k_X2_init 28 27 (sz0 (sr (k_X2_init 20 19 (sz0 (sr (k_X0_init 14 13 (sz0 (sr (k_X0_init 8 7 (sz0 (sr (k_X1_init 5 4 (sz0 (sr (sz0 (sr (sz0 (sr (sz0 σ 1) 0 0 (some 1)) 2) 0 1 (some 2)) 3) 0 2 (some 3)) 4)) 0 3 (some 4)) 7)) 0 4 (some 7)) 13)) 0 5 (some 13)) 19)) 0 6 (some 19)) 27)) 0 7 (some 27)) 35) 0 8 (some 35)) 36) 0 9 (some 36)) 0 10 (0 : Int32)) 0 11 (0 : Int32)) 0 12 (0 : Int64)) 0 13 (1 : Int64)) 37)) 1 (ix (0 : Int32)) (some 37)) 39)) 1 (ix (1 : Int32)) (some 39)) 41)) 1 (ix (2 : Int32)) (some 41)) 43)) 1 (ix (3 : Int32)) (some 43)) 45)) 1 (ix (4 : Int32)) (some 45)) 47)) 1 (ix (5 : Int32)) (some 47)) 49)) hG (c_X4_init l E 50 49 (sz0 (sr (k_X3_init 48 47 (sz0 (sr (k_X3_init 46 45 (sz0 (sr (k_X3_init 44 43 (sz0 (sr (k_X3_init 42 41 (sz0 (sr (k_X3_init 40 39 (sz0 (sr (k_X3_init 38 37 (sz0 (sl (sl (si (si (sr (sz0 (sr (sz0 (sr (k_X2_init 28 27 (sz0 (sr (k_X2_init 20 19 (sz0 (sr (k_X0_init 14 13 (sz0 (sr (k_X0_init 8 7 (sz0 (sr (k_X1_init 5 4 (sz0 (sr (sz0 (sr (sz0 (sr (sz0 σ 1) 0 0 (some 1)) 2) 0 1 (some 2)) 3) 0 2 (some 3)) 4)) 0 3 (some 4)) 7)) 0 4 (some 7)) 13)) 0 5 (some 13)) 19)) 0 6 (some 19)) 27)) 0 7 (some 27)) 35) 0 8 (some 35)) 36) 0 9 (some 36)) 0 10 (0 : Int32)) 0 11 (0 : Int32)) 0 12 (0 : Int64)) 0 13 (1 : Int64)) 37)) 1 (ix (0 : Int32)) (some 37)) 39)) 1 (ix (1 : Int32)) (some 39)) 41)) 1 (ix (2 : Int32)) (some 41)) 43)) 1 (ix (3 : Int32)) (some 43)) 45)) 1 (ix (4 : Int32)) (some 45)) 47)) 1 (ix (5 : Int32)) (some 47)) 49) (by decide) (by decide) (by decide)) ci_X4_init (List.mem_of_getElem? (i := 4) rfl) rfl wd_211 ⟨rfl, rfl, by decide, by decide⟩ (Nat.le_of_ble_eq_true rfl) dX5_init_163 rfl rfl ⟨by decide, by decide⟩ ?_
  refine jr_aast hG cl_4 (t := 4) (n := 4) (by decide) (by decide) rfl (by decide) (by decide) (by decide) (by decide) dX5_init_166 ?_
  refine jr_iinc (v := (1 : Int32)) (lv' := [(1, .int (1 : Int32)), (0, .ref (E.B + 0))]) hG 0 dX5_init_167 rfl (by decide) (by decide) rfl ?_
  refine jr_goto hG 149 dX5_init_170 (by decide) ?_
  refine jr_iload_n hG 0 dX5_init_149 rfl rfl ?_
  refine jr_iconst (v := (4 : Int32)) hG dX5_init_150 (by decide) ?_
  refine jr_geF hG 173 dX5_init_151 (by decide) (by decide) ?_
  refine jr_aload_n hG 1 dX5_init_154 rfl rfl ?_
  refine jr_getK (b := 2) hG fi_RX5_17 rfl (by decide) (by decide) rfl dX5_init_155 ?_
  refine jr_iload_n hG 0 dX5_init_158 rfl rfl ?_
  refine jr_new (cells' := 51) (slots' := 598) hG cl_4 wd_90 wd_209 wd_76 (by decide) (by decide) rfl rfl ⟨by decide, by decide⟩ dX5_init_159 ?_
  -- cell 51
  refine jr_dup hG dX5_init_162 rfl ?_
  refine jr_callIN (cells' := 52) (slots' := 658) (τ := k_X4_init 52 51 (sz0 (sr (k_X4_init 50 49 (sz0 (sr (k_X3_init 48 47 (sz0 (sr (k_X3_init 46 45 (sz0 (sr (k_X3_init 44 43 (sz0 (sr (k_X3_init 42 41 (sz0 (sr (k_X3_init 40 39 (sz0 (sr (k_X3_init 38 37 (sz0 (sl (sl (si (si (sr (sz0 (sr (sz0 (sr (k_X2_init 28 27 (sz0 (sr (k_X2_init 20 19 (sz0 (sr (k_X0_init 14 13 (sz0 (sr (k_X0_init 8 7 (sz0 (sr (k_X1_init 5 4 (sz0 (sr (sz0 (sr (sz0 (sr (sz0 σ 1) 0 0 (some 1)) 2) 0 1 (some 2)) 3) 0 2 (some 3)) 4)) 0 3 (some 4)) 7)) 0 4 (some 7)) 13)) 0 5 (some 13)) 19)) 0 6 (some 19)) 27)) 0 7 (some 27)) 35) 0 8 (some 35)) 36) 0 9 (some 36)) 0 10 (0 : Int32)) 0 11 (0 : Int32)) 0 12 (0 : Int64)) 0 13 (1 : Int64)) 37)) 1 (ix (0 : Int32)) (some 37)) 39)) 1 (ix (1 : Int32)) (some 39)) 41)) 1 (ix (2 : Int32)) (some 41)) 43)) 1 (ix (3 : Int32)) (some 43)) 45)) 1 (ix (4 : Int32)) (some 45)) 47)) 1 (ix (5 : Int32)) (some 47)) 49)) 2 (ix (0 : Int32)) (some 49)) 51)) hG (c_X4_init l E 52 51 (sz0 (sr (k_X4_init 50 49 (sz0 (sr (k_X3_init 48 47 (sz0 (sr (k_X3_init 46 45 (sz0 (sr (k_X3_init 44 43 (sz0 (sr (k_X3_init 42 41 (sz0 (sr (k_X3_init 40 39 (sz0 (sr (k_X3_init 38 37 (sz0 (sl (sl (si (si (sr (sz0 (sr (sz0 (sr (k_X2_init 28 27 (sz0 (sr (k_X2_init 20 19 (sz0 (sr (k_X0_init 14 13 (sz0 (sr (k_X0_init 8 7 (sz0 (sr (k_X1_init 5 4 (sz0 (sr (sz0 (sr (sz0 (sr (sz0 σ 1) 0 0 (some 1)) 2) 0 1 (some 2)) 3) 0 2 (some 3)) 4)) 0 3 (some 4)) 7)) 0 4 (some 7)) 13)) 0 5 (some 13)) 19)) 0 6 (some 19)) 27)) 0 7 (some 27)) 35) 0 8 (some 35)) 36) 0 9 (some 36)) 0 10 (0 : Int32)) 0 11 (0 : Int32)) 0 12 (0 : Int64)) 0 13 (1 : Int64)) 37)) 1 (ix (0 : Int32)) (some 37)) 39)) 1 (ix (1 : Int32)) (some 39)) 41)) 1 (ix (2 : Int32)) (some 41)) 43)) 1 (ix (3 : Int32)) (some 43)) 45)) 1 (ix (4 : Int32)) (some 45)) 47)) 1 (ix (5 : Int32)) (some 47)) 49)) 2 (ix (0 : Int32)) (some 49)) 51) (by decide) (by decide) (by decide)) ci_X4_init (List.mem_of_getElem? (i := 4) rfl) rfl wd_211 ⟨rfl, rfl, by decide, by decide⟩ (Nat.le_of_ble_eq_true rfl) dX5_init_163 rfl rfl ⟨by decide, by decide⟩ ?_
  refine jr_aast hG cl_4 (t := 4) (n := 4) (by decide) (by decide) rfl (by decide) (by decide) (by decide) (by decide) dX5_init_166 ?_
  refine jr_iinc (v := (2 : Int32)) (lv' := [(1, .int (2 : Int32)), (0, .ref (E.B + 0))]) hG 0 dX5_init_167 rfl (by decide) (by decide) rfl ?_
  refine jr_goto hG 149 dX5_init_170 (by decide) ?_
  refine jr_iload_n hG 0 dX5_init_149 rfl rfl ?_
  refine jr_iconst (v := (4 : Int32)) hG dX5_init_150 (by decide) ?_
  refine jr_geF hG 173 dX5_init_151 (by decide) (by decide) ?_
  refine jr_aload_n hG 1 dX5_init_154 rfl rfl ?_
  refine jr_getK (b := 2) hG fi_RX5_17 rfl (by decide) (by decide) rfl dX5_init_155 ?_
  refine jr_iload_n hG 0 dX5_init_158 rfl rfl ?_
  refine jr_new (cells' := 53) (slots' := 660) hG cl_4 wd_90 wd_209 wd_76 (by decide) (by decide) rfl rfl ⟨by decide, by decide⟩ dX5_init_159 ?_
  -- cell 53
  refine jr_dup hG dX5_init_162 rfl ?_
  refine jr_callIN (cells' := 54) (slots' := 720) (τ := k_X4_init 54 53 (sz0 (sr (k_X4_init 52 51 (sz0 (sr (k_X4_init 50 49 (sz0 (sr (k_X3_init 48 47 (sz0 (sr (k_X3_init 46 45 (sz0 (sr (k_X3_init 44 43 (sz0 (sr (k_X3_init 42 41 (sz0 (sr (k_X3_init 40 39 (sz0 (sr (k_X3_init 38 37 (sz0 (sl (sl (si (si (sr (sz0 (sr (sz0 (sr (k_X2_init 28 27 (sz0 (sr (k_X2_init 20 19 (sz0 (sr (k_X0_init 14 13 (sz0 (sr (k_X0_init 8 7 (sz0 (sr (k_X1_init 5 4 (sz0 (sr (sz0 (sr (sz0 (sr (sz0 σ 1) 0 0 (some 1)) 2) 0 1 (some 2)) 3) 0 2 (some 3)) 4)) 0 3 (some 4)) 7)) 0 4 (some 7)) 13)) 0 5 (some 13)) 19)) 0 6 (some 19)) 27)) 0 7 (some 27)) 35) 0 8 (some 35)) 36) 0 9 (some 36)) 0 10 (0 : Int32)) 0 11 (0 : Int32)) 0 12 (0 : Int64)) 0 13 (1 : Int64)) 37)) 1 (ix (0 : Int32)) (some 37)) 39)) 1 (ix (1 : Int32)) (some 39)) 41)) 1 (ix (2 : Int32)) (some 41)) 43)) 1 (ix (3 : Int32)) (some 43)) 45)) 1 (ix (4 : Int32)) (some 45)) 47)) 1 (ix (5 : Int32)) (some 47)) 49)) 2 (ix (0 : Int32)) (some 49)) 51)) 2 (ix (1 : Int32)) (some 51)) 53)) hG (c_X4_init l E 54 53 (sz0 (sr (k_X4_init 52 51 (sz0 (sr (k_X4_init 50 49 (sz0 (sr (k_X3_init 48 47 (sz0 (sr (k_X3_init 46 45 (sz0 (sr (k_X3_init 44 43 (sz0 (sr (k_X3_init 42 41 (sz0 (sr (k_X3_init 40 39 (sz0 (sr (k_X3_init 38 37 (sz0 (sl (sl (si (si (sr (sz0 (sr (sz0 (sr (k_X2_init 28 27 (sz0 (sr (k_X2_init 20 19 (sz0 (sr (k_X0_init 14 13 (sz0 (sr (k_X0_init 8 7 (sz0 (sr (k_X1_init 5 4 (sz0 (sr (sz0 (sr (sz0 (sr (sz0 σ 1) 0 0 (some 1)) 2) 0 1 (some 2)) 3) 0 2 (some 3)) 4)) 0 3 (some 4)) 7)) 0 4 (some 7)) 13)) 0 5 (some 13)) 19)) 0 6 (some 19)) 27)) 0 7 (some 27)) 35) 0 8 (some 35)) 36) 0 9 (some 36)) 0 10 (0 : Int32)) 0 11 (0 : Int32)) 0 12 (0 : Int64)) 0 13 (1 : Int64)) 37)) 1 (ix (0 : Int32)) (some 37)) 39)) 1 (ix (1 : Int32)) (some 39)) 41)) 1 (ix (2 : Int32)) (some 41)) 43)) 1 (ix (3 : Int32)) (some 43)) 45)) 1 (ix (4 : Int32)) (some 45)) 47)) 1 (ix (5 : Int32)) (some 47)) 49)) 2 (ix (0 : Int32)) (some 49)) 51)) 2 (ix (1 : Int32)) (some 51)) 53) (by decide) (by decide) (by decide)) ci_X4_init (List.mem_of_getElem? (i := 4) rfl) rfl wd_211 ⟨rfl, rfl, by decide, by decide⟩ (Nat.le_of_ble_eq_true rfl) dX5_init_163 rfl rfl ⟨by decide, by decide⟩ ?_
  refine jr_aast hG cl_4 (t := 4) (n := 4) (by decide) (by decide) rfl (by decide) (by decide) (by decide) (by decide) dX5_init_166 ?_
  refine jr_iinc (v := (3 : Int32)) (lv' := [(1, .int (3 : Int32)), (0, .ref (E.B + 0))]) hG 0 dX5_init_167 rfl (by decide) (by decide) rfl ?_
  refine jr_goto hG 149 dX5_init_170 (by decide) ?_
  refine jr_iload_n hG 0 dX5_init_149 rfl rfl ?_
  refine jr_iconst (v := (4 : Int32)) hG dX5_init_150 (by decide) ?_
  refine jr_geF hG 173 dX5_init_151 (by decide) (by decide) ?_
  refine jr_aload_n hG 1 dX5_init_154 rfl rfl ?_
  refine jr_getK (b := 2) hG fi_RX5_17 rfl (by decide) (by decide) rfl dX5_init_155 ?_
  refine jr_iload_n hG 0 dX5_init_158 rfl rfl ?_
  refine jr_new (cells' := 55) (slots' := 722) hG cl_4 wd_90 wd_209 wd_76 (by decide) (by decide) rfl rfl ⟨by decide, by decide⟩ dX5_init_159 ?_
  -- cell 55
  refine jr_dup hG dX5_init_162 rfl ?_
  refine jr_callIN (cells' := 56) (slots' := 782) (τ := k_X4_init 56 55 (sz0 (sr (k_X4_init 54 53 (sz0 (sr (k_X4_init 52 51 (sz0 (sr (k_X4_init 50 49 (sz0 (sr (k_X3_init 48 47 (sz0 (sr (k_X3_init 46 45 (sz0 (sr (k_X3_init 44 43 (sz0 (sr (k_X3_init 42 41 (sz0 (sr (k_X3_init 40 39 (sz0 (sr (k_X3_init 38 37 (sz0 (sl (sl (si (si (sr (sz0 (sr (sz0 (sr (k_X2_init 28 27 (sz0 (sr (k_X2_init 20 19 (sz0 (sr (k_X0_init 14 13 (sz0 (sr (k_X0_init 8 7 (sz0 (sr (k_X1_init 5 4 (sz0 (sr (sz0 (sr (sz0 (sr (sz0 σ 1) 0 0 (some 1)) 2) 0 1 (some 2)) 3) 0 2 (some 3)) 4)) 0 3 (some 4)) 7)) 0 4 (some 7)) 13)) 0 5 (some 13)) 19)) 0 6 (some 19)) 27)) 0 7 (some 27)) 35) 0 8 (some 35)) 36) 0 9 (some 36)) 0 10 (0 : Int32)) 0 11 (0 : Int32)) 0 12 (0 : Int64)) 0 13 (1 : Int64)) 37)) 1 (ix (0 : Int32)) (some 37)) 39)) 1 (ix (1 : Int32)) (some 39)) 41)) 1 (ix (2 : Int32)) (some 41)) 43)) 1 (ix (3 : Int32)) (some 43)) 45)) 1 (ix (4 : Int32)) (some 45)) 47)) 1 (ix (5 : Int32)) (some 47)) 49)) 2 (ix (0 : Int32)) (some 49)) 51)) 2 (ix (1 : Int32)) (some 51)) 53)) 2 (ix (2 : Int32)) (some 53)) 55)) hG (c_X4_init l E 56 55 (sz0 (sr (k_X4_init 54 53 (sz0 (sr (k_X4_init 52 51 (sz0 (sr (k_X4_init 50 49 (sz0 (sr (k_X3_init 48 47 (sz0 (sr (k_X3_init 46 45 (sz0 (sr (k_X3_init 44 43 (sz0 (sr (k_X3_init 42 41 (sz0 (sr (k_X3_init 40 39 (sz0 (sr (k_X3_init 38 37 (sz0 (sl (sl (si (si (sr (sz0 (sr (sz0 (sr (k_X2_init 28 27 (sz0 (sr (k_X2_init 20 19 (sz0 (sr (k_X0_init 14 13 (sz0 (sr (k_X0_init 8 7 (sz0 (sr (k_X1_init 5 4 (sz0 (sr (sz0 (sr (sz0 (sr (sz0 σ 1) 0 0 (some 1)) 2) 0 1 (some 2)) 3) 0 2 (some 3)) 4)) 0 3 (some 4)) 7)) 0 4 (some 7)) 13)) 0 5 (some 13)) 19)) 0 6 (some 19)) 27)) 0 7 (some 27)) 35) 0 8 (some 35)) 36) 0 9 (some 36)) 0 10 (0 : Int32)) 0 11 (0 : Int32)) 0 12 (0 : Int64)) 0 13 (1 : Int64)) 37)) 1 (ix (0 : Int32)) (some 37)) 39)) 1 (ix (1 : Int32)) (some 39)) 41)) 1 (ix (2 : Int32)) (some 41)) 43)) 1 (ix (3 : Int32)) (some 43)) 45)) 1 (ix (4 : Int32)) (some 45)) 47)) 1 (ix (5 : Int32)) (some 47)) 49)) 2 (ix (0 : Int32)) (some 49)) 51)) 2 (ix (1 : Int32)) (some 51)) 53)) 2 (ix (2 : Int32)) (some 53)) 55) (by decide) (by decide) (by decide)) ci_X4_init (List.mem_of_getElem? (i := 4) rfl) rfl wd_211 ⟨rfl, rfl, by decide, by decide⟩ (Nat.le_of_ble_eq_true rfl) dX5_init_163 rfl rfl ⟨by decide, by decide⟩ ?_
  refine jr_aast hG cl_4 (t := 4) (n := 4) (by decide) (by decide) rfl (by decide) (by decide) (by decide) (by decide) dX5_init_166 ?_
  refine jr_iinc (v := (4 : Int32)) (lv' := [(1, .int (4 : Int32)), (0, .ref (E.B + 0))]) hG 0 dX5_init_167 rfl (by decide) (by decide) rfl ?_
  refine jr_goto hG 149 dX5_init_170 (by decide) ?_
  refine jr_iload_n hG 0 dX5_init_149 rfl rfl ?_
  refine jr_iconst (v := (4 : Int32)) hG dX5_init_150 (by decide) ?_
  refine jr_geT hG 173 dX5_init_151 (by decide) (by decide) ?_
  refine jr_iconst (v := (0 : Int32)) hG dX5_init_173 (by decide) ?_
  refine jr_istore_n (lv' := [(1, .int (0 : Int32)), (0, .ref (E.B + 0))]) hG dX5_init_174 rfl (by decide) rfl ?_
  refine jr_iload_n hG 0 dX5_init_175 rfl rfl ?_
  refine jr_iconst (v := (3 : Int32)) hG dX5_init_176 (by decide) ?_
  refine jr_geF hG 209 dX5_init_177 (by decide) (by decide) ?_
  refine jr_aload_n hG 1 dX5_init_180 rfl rfl ?_
  refine jr_getK (b := 3) hG fi_RX5_23 rfl (by decide) (by decide) rfl dX5_init_181 ?_
  refine jr_iload_n hG 0 dX5_init_184 rfl rfl ?_
  refine jr_new (cells' := 57) (slots' := 785) hG cl_1 wd_92 wd_94 wd_72 (by decide) (by decide) rfl rfl ⟨by decide, by decide⟩ dX5_init_185 ?_
  -- cell 57
  refine jr_dup hG dX5_init_188 rfl ?_
  refine jr_callIN (cells' := 59) (slots' := 865) (τ := k_X1_init 58 57 (sz0 (sr (k_X4_init 56 55 (sz0 (sr (k_X4_init 54 53 (sz0 (sr (k_X4_init 52 51 (sz0 (sr (k_X4_init 50 49 (sz0 (sr (k_X3_init 48 47 (sz0 (sr (k_X3_init 46 45 (sz0 (sr (k_X3_init 44 43 (sz0 (sr (k_X3_init 42 41 (sz0 (sr (k_X3_init 40 39 (sz0 (sr (k_X3_init 38 37 (sz0 (sl (sl (si (si (sr (sz0 (sr (sz0 (sr (k_X2_init 28 27 (sz0 (sr (k_X2_init 20 19 (sz0 (sr (k_X0_init 14 13 (sz0 (sr (k_X0_init 8 7 (sz0 (sr (k_X1_init 5 4 (sz0 (sr (sz0 (sr (sz0 (sr (sz0 σ 1) 0 0 (some 1)) 2) 0 1 (some 2)) 3) 0 2 (some 3)) 4)) 0 3 (some 4)) 7)) 0 4 (some 7)) 13)) 0 5 (some 13)) 19)) 0 6 (some 19)) 27)) 0 7 (some 27)) 35) 0 8 (some 35)) 36) 0 9 (some 36)) 0 10 (0 : Int32)) 0 11 (0 : Int32)) 0 12 (0 : Int64)) 0 13 (1 : Int64)) 37)) 1 (ix (0 : Int32)) (some 37)) 39)) 1 (ix (1 : Int32)) (some 39)) 41)) 1 (ix (2 : Int32)) (some 41)) 43)) 1 (ix (3 : Int32)) (some 43)) 45)) 1 (ix (4 : Int32)) (some 45)) 47)) 1 (ix (5 : Int32)) (some 47)) 49)) 2 (ix (0 : Int32)) (some 49)) 51)) 2 (ix (1 : Int32)) (some 51)) 53)) 2 (ix (2 : Int32)) (some 53)) 55)) 2 (ix (3 : Int32)) (some 55)) 57)) hG (c_X1_init l E 58 57 (sz0 (sr (k_X4_init 56 55 (sz0 (sr (k_X4_init 54 53 (sz0 (sr (k_X4_init 52 51 (sz0 (sr (k_X4_init 50 49 (sz0 (sr (k_X3_init 48 47 (sz0 (sr (k_X3_init 46 45 (sz0 (sr (k_X3_init 44 43 (sz0 (sr (k_X3_init 42 41 (sz0 (sr (k_X3_init 40 39 (sz0 (sr (k_X3_init 38 37 (sz0 (sl (sl (si (si (sr (sz0 (sr (sz0 (sr (k_X2_init 28 27 (sz0 (sr (k_X2_init 20 19 (sz0 (sr (k_X0_init 14 13 (sz0 (sr (k_X0_init 8 7 (sz0 (sr (k_X1_init 5 4 (sz0 (sr (sz0 (sr (sz0 (sr (sz0 σ 1) 0 0 (some 1)) 2) 0 1 (some 2)) 3) 0 2 (some 3)) 4)) 0 3 (some 4)) 7)) 0 4 (some 7)) 13)) 0 5 (some 13)) 19)) 0 6 (some 19)) 27)) 0 7 (some 27)) 35) 0 8 (some 35)) 36) 0 9 (some 36)) 0 10 (0 : Int32)) 0 11 (0 : Int32)) 0 12 (0 : Int64)) 0 13 (1 : Int64)) 37)) 1 (ix (0 : Int32)) (some 37)) 39)) 1 (ix (1 : Int32)) (some 39)) 41)) 1 (ix (2 : Int32)) (some 41)) 43)) 1 (ix (3 : Int32)) (some 43)) 45)) 1 (ix (4 : Int32)) (some 45)) 47)) 1 (ix (5 : Int32)) (some 47)) 49)) 2 (ix (0 : Int32)) (some 49)) 51)) 2 (ix (1 : Int32)) (some 51)) 53)) 2 (ix (2 : Int32)) (some 53)) 55)) 2 (ix (3 : Int32)) (some 55)) 57) (by decide) (by decide) (by decide) (by decide)) ci_X1_init (List.mem_of_getElem? (i := 0) rfl) rfl wd_96 ⟨rfl, rfl, by decide, by decide⟩ (Nat.le_of_ble_eq_true rfl) dX5_init_189 rfl rfl ⟨by decide, by decide⟩ ?_
  refine jr_aast hG cl_1 (t := 5) (n := 3) (by decide) (by decide) rfl (by decide) (by decide) (by decide) (by decide) dX5_init_192 ?_
  refine jr_aload_n hG 1 dX5_init_193 rfl rfl ?_
  refine jr_getK (b := 3) hG fi_RX5_23 rfl (by decide) (by decide) rfl dX5_init_194 ?_
  refine jr_iload_n hG 0 dX5_init_197 rfl rfl ?_
  refine jr_aaldK (t := 5) (n := 3) (b := 57) hG (by decide) (by decide) rfl (by decide) (by decide) rfl dX5_init_198 ?_
  refine jr_iconst (v := (-1 : Int32)) hG dX5_init_199 (by decide) ?_
  refine jr_putI hG fi_RX5_75 rfl rfl (by decide) (by decide) dX5_init_200 ?_
  refine jr_iinc (v := (1 : Int32)) (lv' := [(1, .int (1 : Int32)), (0, .ref (E.B + 0))]) hG 0 dX5_init_203 rfl (by decide) (by decide) rfl ?_
  refine jr_goto hG 175 dX5_init_206 (by decide) ?_
  refine jr_iload_n hG 0 dX5_init_175 rfl rfl ?_
  refine jr_iconst (v := (3 : Int32)) hG dX5_init_176 (by decide) ?_
  refine jr_geF hG 209 dX5_init_177 (by decide) (by decide) ?_
  refine jr_aload_n hG 1 dX5_init_180 rfl rfl ?_
  refine jr_getK (b := 3) hG fi_RX5_23 rfl (by decide) (by decide) rfl dX5_init_181 ?_
  refine jr_iload_n hG 0 dX5_init_184 rfl rfl ?_
  refine jr_new (cells' := 60) (slots' := 868) hG cl_1 wd_92 wd_94 wd_72 (by decide) (by decide) rfl rfl ⟨by decide, by decide⟩ dX5_init_185 ?_
  -- cell 60
  refine jr_dup hG dX5_init_188 rfl ?_
  refine jr_callIN (cells' := 62) (slots' := 948) (τ := k_X1_init 61 60 (sz0 (si (sr (k_X1_init 58 57 (sz0 (sr (k_X4_init 56 55 (sz0 (sr (k_X4_init 54 53 (sz0 (sr (k_X4_init 52 51 (sz0 (sr (k_X4_init 50 49 (sz0 (sr (k_X3_init 48 47 (sz0 (sr (k_X3_init 46 45 (sz0 (sr (k_X3_init 44 43 (sz0 (sr (k_X3_init 42 41 (sz0 (sr (k_X3_init 40 39 (sz0 (sr (k_X3_init 38 37 (sz0 (sl (sl (si (si (sr (sz0 (sr (sz0 (sr (k_X2_init 28 27 (sz0 (sr (k_X2_init 20 19 (sz0 (sr (k_X0_init 14 13 (sz0 (sr (k_X0_init 8 7 (sz0 (sr (k_X1_init 5 4 (sz0 (sr (sz0 (sr (sz0 (sr (sz0 σ 1) 0 0 (some 1)) 2) 0 1 (some 2)) 3) 0 2 (some 3)) 4)) 0 3 (some 4)) 7)) 0 4 (some 7)) 13)) 0 5 (some 13)) 19)) 0 6 (some 19)) 27)) 0 7 (some 27)) 35) 0 8 (some 35)) 36) 0 9 (some 36)) 0 10 (0 : Int32)) 0 11 (0 : Int32)) 0 12 (0 : Int64)) 0 13 (1 : Int64)) 37)) 1 (ix (0 : Int32)) (some 37)) 39)) 1 (ix (1 : Int32)) (some 39)) 41)) 1 (ix (2 : Int32)) (some 41)) 43)) 1 (ix (3 : Int32)) (some 43)) 45)) 1 (ix (4 : Int32)) (some 45)) 47)) 1 (ix (5 : Int32)) (some 47)) 49)) 2 (ix (0 : Int32)) (some 49)) 51)) 2 (ix (1 : Int32)) (some 51)) 53)) 2 (ix (2 : Int32)) (some 53)) 55)) 2 (ix (3 : Int32)) (some 55)) 57)) 3 (ix (0 : Int32)) (some 57)) 57 2 (-1 : Int32)) 60)) hG (c_X1_init l E 61 60 (sz0 (si (sr (k_X1_init 58 57 (sz0 (sr (k_X4_init 56 55 (sz0 (sr (k_X4_init 54 53 (sz0 (sr (k_X4_init 52 51 (sz0 (sr (k_X4_init 50 49 (sz0 (sr (k_X3_init 48 47 (sz0 (sr (k_X3_init 46 45 (sz0 (sr (k_X3_init 44 43 (sz0 (sr (k_X3_init 42 41 (sz0 (sr (k_X3_init 40 39 (sz0 (sr (k_X3_init 38 37 (sz0 (sl (sl (si (si (sr (sz0 (sr (sz0 (sr (k_X2_init 28 27 (sz0 (sr (k_X2_init 20 19 (sz0 (sr (k_X0_init 14 13 (sz0 (sr (k_X0_init 8 7 (sz0 (sr (k_X1_init 5 4 (sz0 (sr (sz0 (sr (sz0 (sr (sz0 σ 1) 0 0 (some 1)) 2) 0 1 (some 2)) 3) 0 2 (some 3)) 4)) 0 3 (some 4)) 7)) 0 4 (some 7)) 13)) 0 5 (some 13)) 19)) 0 6 (some 19)) 27)) 0 7 (some 27)) 35) 0 8 (some 35)) 36) 0 9 (some 36)) 0 10 (0 : Int32)) 0 11 (0 : Int32)) 0 12 (0 : Int64)) 0 13 (1 : Int64)) 37)) 1 (ix (0 : Int32)) (some 37)) 39)) 1 (ix (1 : Int32)) (some 39)) 41)) 1 (ix (2 : Int32)) (some 41)) 43)) 1 (ix (3 : Int32)) (some 43)) 45)) 1 (ix (4 : Int32)) (some 45)) 47)) 1 (ix (5 : Int32)) (some 47)) 49)) 2 (ix (0 : Int32)) (some 49)) 51)) 2 (ix (1 : Int32)) (some 51)) 53)) 2 (ix (2 : Int32)) (some 53)) 55)) 2 (ix (3 : Int32)) (some 55)) 57)) 3 (ix (0 : Int32)) (some 57)) 57 2 (-1 : Int32)) 60) (by decide) (by decide) (by decide) (by decide)) ci_X1_init (List.mem_of_getElem? (i := 0) rfl) rfl wd_96 ⟨rfl, rfl, by decide, by decide⟩ (Nat.le_of_ble_eq_true rfl) dX5_init_189 rfl rfl ⟨by decide, by decide⟩ ?_
  refine jr_aast hG cl_1 (t := 5) (n := 3) (by decide) (by decide) rfl (by decide) (by decide) (by decide) (by decide) dX5_init_192 ?_
  refine jr_aload_n hG 1 dX5_init_193 rfl rfl ?_
  refine jr_getK (b := 3) hG fi_RX5_23 rfl (by decide) (by decide) rfl dX5_init_194 ?_
  refine jr_iload_n hG 0 dX5_init_197 rfl rfl ?_
  refine jr_aaldK (t := 5) (n := 3) (b := 60) hG (by decide) (by decide) rfl (by decide) (by decide) rfl dX5_init_198 ?_
  refine jr_iconst (v := (-1 : Int32)) hG dX5_init_199 (by decide) ?_
  refine jr_putI hG fi_RX5_75 rfl rfl (by decide) (by decide) dX5_init_200 ?_
  refine jr_iinc (v := (2 : Int32)) (lv' := [(1, .int (2 : Int32)), (0, .ref (E.B + 0))]) hG 0 dX5_init_203 rfl (by decide) (by decide) rfl ?_
  refine jr_goto hG 175 dX5_init_206 (by decide) ?_
  refine jr_iload_n hG 0 dX5_init_175 rfl rfl ?_
  refine jr_iconst (v := (3 : Int32)) hG dX5_init_176 (by decide) ?_
  refine jr_geF hG 209 dX5_init_177 (by decide) (by decide) ?_
  refine jr_aload_n hG 1 dX5_init_180 rfl rfl ?_
  refine jr_getK (b := 3) hG fi_RX5_23 rfl (by decide) (by decide) rfl dX5_init_181 ?_
  refine jr_iload_n hG 0 dX5_init_184 rfl rfl ?_
  refine jr_new (cells' := 63) (slots' := 951) hG cl_1 wd_92 wd_94 wd_72 (by decide) (by decide) rfl rfl ⟨by decide, by decide⟩ dX5_init_185 ?_
  -- cell 63
  refine jr_dup hG dX5_init_188 rfl ?_
  refine jr_callIN (cells' := 65) (slots' := 1031) (τ := k_X1_init 64 63 (sz0 (si (sr (k_X1_init 61 60 (sz0 (si (sr (k_X1_init 58 57 (sz0 (sr (k_X4_init 56 55 (sz0 (sr (k_X4_init 54 53 (sz0 (sr (k_X4_init 52 51 (sz0 (sr (k_X4_init 50 49 (sz0 (sr (k_X3_init 48 47 (sz0 (sr (k_X3_init 46 45 (sz0 (sr (k_X3_init 44 43 (sz0 (sr (k_X3_init 42 41 (sz0 (sr (k_X3_init 40 39 (sz0 (sr (k_X3_init 38 37 (sz0 (sl (sl (si (si (sr (sz0 (sr (sz0 (sr (k_X2_init 28 27 (sz0 (sr (k_X2_init 20 19 (sz0 (sr (k_X0_init 14 13 (sz0 (sr (k_X0_init 8 7 (sz0 (sr (k_X1_init 5 4 (sz0 (sr (sz0 (sr (sz0 (sr (sz0 σ 1) 0 0 (some 1)) 2) 0 1 (some 2)) 3) 0 2 (some 3)) 4)) 0 3 (some 4)) 7)) 0 4 (some 7)) 13)) 0 5 (some 13)) 19)) 0 6 (some 19)) 27)) 0 7 (some 27)) 35) 0 8 (some 35)) 36) 0 9 (some 36)) 0 10 (0 : Int32)) 0 11 (0 : Int32)) 0 12 (0 : Int64)) 0 13 (1 : Int64)) 37)) 1 (ix (0 : Int32)) (some 37)) 39)) 1 (ix (1 : Int32)) (some 39)) 41)) 1 (ix (2 : Int32)) (some 41)) 43)) 1 (ix (3 : Int32)) (some 43)) 45)) 1 (ix (4 : Int32)) (some 45)) 47)) 1 (ix (5 : Int32)) (some 47)) 49)) 2 (ix (0 : Int32)) (some 49)) 51)) 2 (ix (1 : Int32)) (some 51)) 53)) 2 (ix (2 : Int32)) (some 53)) 55)) 2 (ix (3 : Int32)) (some 55)) 57)) 3 (ix (0 : Int32)) (some 57)) 57 2 (-1 : Int32)) 60)) 3 (ix (1 : Int32)) (some 60)) 60 2 (-1 : Int32)) 63)) hG (c_X1_init l E 64 63 (sz0 (si (sr (k_X1_init 61 60 (sz0 (si (sr (k_X1_init 58 57 (sz0 (sr (k_X4_init 56 55 (sz0 (sr (k_X4_init 54 53 (sz0 (sr (k_X4_init 52 51 (sz0 (sr (k_X4_init 50 49 (sz0 (sr (k_X3_init 48 47 (sz0 (sr (k_X3_init 46 45 (sz0 (sr (k_X3_init 44 43 (sz0 (sr (k_X3_init 42 41 (sz0 (sr (k_X3_init 40 39 (sz0 (sr (k_X3_init 38 37 (sz0 (sl (sl (si (si (sr (sz0 (sr (sz0 (sr (k_X2_init 28 27 (sz0 (sr (k_X2_init 20 19 (sz0 (sr (k_X0_init 14 13 (sz0 (sr (k_X0_init 8 7 (sz0 (sr (k_X1_init 5 4 (sz0 (sr (sz0 (sr (sz0 (sr (sz0 σ 1) 0 0 (some 1)) 2) 0 1 (some 2)) 3) 0 2 (some 3)) 4)) 0 3 (some 4)) 7)) 0 4 (some 7)) 13)) 0 5 (some 13)) 19)) 0 6 (some 19)) 27)) 0 7 (some 27)) 35) 0 8 (some 35)) 36) 0 9 (some 36)) 0 10 (0 : Int32)) 0 11 (0 : Int32)) 0 12 (0 : Int64)) 0 13 (1 : Int64)) 37)) 1 (ix (0 : Int32)) (some 37)) 39)) 1 (ix (1 : Int32)) (some 39)) 41)) 1 (ix (2 : Int32)) (some 41)) 43)) 1 (ix (3 : Int32)) (some 43)) 45)) 1 (ix (4 : Int32)) (some 45)) 47)) 1 (ix (5 : Int32)) (some 47)) 49)) 2 (ix (0 : Int32)) (some 49)) 51)) 2 (ix (1 : Int32)) (some 51)) 53)) 2 (ix (2 : Int32)) (some 53)) 55)) 2 (ix (3 : Int32)) (some 55)) 57)) 3 (ix (0 : Int32)) (some 57)) 57 2 (-1 : Int32)) 60)) 3 (ix (1 : Int32)) (some 60)) 60 2 (-1 : Int32)) 63) (by decide) (by decide) (by decide) (by decide)) ci_X1_init (List.mem_of_getElem? (i := 0) rfl) rfl wd_96 ⟨rfl, rfl, by decide, by decide⟩ (Nat.le_of_ble_eq_true rfl) dX5_init_189 rfl rfl ⟨by decide, by decide⟩ ?_
  refine jr_aast hG cl_1 (t := 5) (n := 3) (by decide) (by decide) rfl (by decide) (by decide) (by decide) (by decide) dX5_init_192 ?_
  refine jr_aload_n hG 1 dX5_init_193 rfl rfl ?_
  refine jr_getK (b := 3) hG fi_RX5_23 rfl (by decide) (by decide) rfl dX5_init_194 ?_
  refine jr_iload_n hG 0 dX5_init_197 rfl rfl ?_
  refine jr_aaldK (t := 5) (n := 3) (b := 63) hG (by decide) (by decide) rfl (by decide) (by decide) rfl dX5_init_198 ?_
  refine jr_iconst (v := (-1 : Int32)) hG dX5_init_199 (by decide) ?_
  refine jr_putI hG fi_RX5_75 rfl rfl (by decide) (by decide) dX5_init_200 ?_
  refine jr_iinc (v := (3 : Int32)) (lv' := [(1, .int (3 : Int32)), (0, .ref (E.B + 0))]) hG 0 dX5_init_203 rfl (by decide) (by decide) rfl ?_
  refine jr_goto hG 175 dX5_init_206 (by decide) ?_
  refine jr_iload_n hG 0 dX5_init_175 rfl rfl ?_
  refine jr_iconst (v := (3 : Int32)) hG dX5_init_176 (by decide) ?_
  refine jr_geT hG 209 dX5_init_177 (by decide) (by decide) ?_
  exact jr_vret hG hr hk dX5_init_209
-- TonguesDealtModel()
def k_X6_init (σ : Mm) : Mm := (si (si (si (si (si (si (si (si (si (si (sr (sz0 (sr (sz0 (sr (sz0 (sr (sz0 (sr (sz0 (sr (sz0 (sr (sz0 (sr (sz0 (sr (sz0 (sr (sz0 (sr (sz0 (sr (sz0 (sr (sz0 (sr (sz0 (sr (sz0 (sr (sz0 (sr (sz0 (sr (sz0 (sr (sz0 (sr (sz0 (sr (sz0 (sl (sr (sz0 σ 67) 66 1 (some 67)) 66 4 (1 : Int64)) 68) 66 5 (some 68)) 69) 66 6 (some 69)) 70) 66 7 (some 70)) 71) 66 8 (some 71)) 72) 66 9 (some 72)) 73) 66 11 (some 73)) 74) 66 12 (some 74)) 75) 66 16 (some 75)) 76) 66 17 (some 76)) 77) 66 18 (some 77)) 78) 66 19 (some 78)) 79) 66 20 (some 79)) 80) 66 21 (some 80)) 81) 66 23 (some 81)) 82) 66 24 (some 82)) 83) 66 25 (some 83)) 84) 66 26 (some 84)) 85) 66 27 (some 85)) 86) 66 28 (some 86)) 87) 66 29 (some 87)) 88) 66 30 (some 88)) 68 (ix (0 : Int32)) (-1 : Int32)) 68 (ix (1 : Int32)) (-1 : Int32)) 68 (ix (2 : Int32)) (-1 : Int32)) 68 (ix (3 : Int32)) (-1 : Int32)) 68 (ix (4 : Int32)) (-1 : Int32)) 68 (ix (5 : Int32)) (-1 : Int32)) 71 (ix (0 : Int32)) (-1 : Int32)) 71 (ix (1 : Int32)) (-1 : Int32)) 71 (ix (2 : Int32)) (-1 : Int32)) 71 (ix (3 : Int32)) (-1 : Int32))
abbrev rm_X6_init : Room := { frames := 2, cells := 22, slots := 27476, locals := 60 }
theorem ci_X6_init : CIx yX6_init cX6_init 2 none 0 := ⟨wd_733, wd_77, by decide +kernel⟩
set_option maxRecDepth 100000 in
set_option maxHeartbeats 4000000 in
theorem c_X6_init (l : Launch) (E : XE) (σ : Mm) : Met l yX6_init [Cond.code yX6_init cX6_init 2 none] rm_X6_init (xPc E 67 σ [.ref (E.B + 66)]) (xQv E (67 + 22) (k_X6_init σ)) 22 27476 (xA E) := by
  refine met_of (N0 := 67) (X := some (k_X6_init σ)) (Qc := fun r => xQv E (67 + 22) r) (by decide +kernel) (Nat.le_of_ble_eq_true rfl) ?_ _ rfl
  intro p e s m args below meth c hG hr hk hin
  show JR E 67 2 p l e rm_X6_init s m args below meth c 0 0 (fun r => MQ below (xQv E (67 + 22) r) args s 22 27476 (xA E)) 0 [(0, .ref (E.B + 66))] [] σ (some (k_X6_init σ))
  refine jr_aload_n hG 0 dX6_init_0 rfl rfl ?_
  refine jr_objInit hG wd_734 wd_86 wd_87 dX6_init_1 ⟨by decide, by decide⟩ ?_
  refine jr_aload_n hG 0 dX6_init_4 rfl rfl ?_
  refine jr_bipush (v := (6 : Int32)) hG dX6_init_5 (by decide) ?_
  refine jr_newa (at1 := .int) (cells' := 1) (slots' := 6) (t := 0) (n := 6) hG wd_112 (by decide) rfl (by decide) (by decide) (by decide) (by decide) rfl rfl ⟨by decide, by decide⟩ dX6_init_7 ?_
  -- cell 67
  refine jr_putF hG hin fi_RX6_7 rfl rfl rfl (by decide) (by decide) dX6_init_9 ?_
  refine jr_aload_n hG 0 dX6_init_12 rfl rfl ?_
  refine jr_lconst (v := (1 : Int64)) hG dX6_init_13 (by decide) ?_
  refine jr_putL hG fi_RX6_13 rfl rfl (by decide) (by decide) dX6_init_14 ?_
  refine jr_aload_n hG 0 dX6_init_17 rfl rfl ?_
  refine jr_bipush (v := (6 : Int32)) hG dX6_init_18 (by decide) ?_
  refine jr_newa (at1 := .int) (cells' := 2) (slots' := 12) (t := 0) (n := 6) hG wd_112 (by decide) rfl (by decide) (by decide) (by decide) (by decide) rfl rfl ⟨by decide, by decide⟩ dX6_init_20 ?_
  -- cell 68
  refine jr_putF hG hin fi_RX6_17 rfl rfl rfl (by decide) (by decide) dX6_init_22 ?_
  refine jr_aload_n hG 0 dX6_init_25 rfl rfl ?_
  refine jr_sipush (v := (240 : Int32)) hG dX6_init_26 (by decide) ?_
  refine jr_newa (at1 := .int) (cells' := 3) (slots' := 252) (t := 0) (n := 240) hG wd_112 (by decide) rfl (by decide) (by decide) (by decide) (by decide) rfl rfl ⟨by decide, by decide⟩ dX6_init_29 ?_
  -- cell 69
  refine jr_putF hG hin fi_RX6_20 rfl rfl rfl (by decide) (by decide) dX6_init_31 ?_
  refine jr_aload_n hG 0 dX6_init_34 rfl rfl ?_
  refine jr_bipush (v := (40 : Int32)) hG dX6_init_35 (by decide) ?_
  refine jr_newa (at1 := .int) (cells' := 4) (slots' := 292) (t := 0) (n := 40) hG wd_112 (by decide) rfl (by decide) (by decide) (by decide) (by decide) rfl rfl ⟨by decide, by decide⟩ dX6_init_37 ?_
  -- cell 70
  refine jr_putF hG hin fi_RX6_23 rfl rfl rfl (by decide) (by decide) dX6_init_39 ?_
  refine jr_aload_n hG 0 dX6_init_42 rfl rfl ?_
  refine jr_iconst (v := (4 : Int32)) hG dX6_init_43 (by decide) ?_
  refine jr_newa (at1 := .int) (cells' := 5) (slots' := 296) (t := 0) (n := 4) hG wd_112 (by decide) rfl (by decide) (by decide) (by decide) (by decide) rfl rfl ⟨by decide, by decide⟩ dX6_init_44 ?_
  -- cell 71
  refine jr_putF hG hin fi_RX6_26 rfl rfl rfl (by decide) (by decide) dX6_init_46 ?_
  refine jr_aload_n hG 0 dX6_init_49 rfl rfl ?_
  refine jr_sipush (v := (240 : Int32)) hG dX6_init_50 (by decide) ?_
  refine jr_newa (at1 := .byte) (cells' := 6) (slots' := 536) (t := 1) (n := 240) hG wd_225 (by decide) rfl (by decide) (by decide) (by decide) (by decide) rfl rfl ⟨by decide, by decide⟩ dX6_init_53 ?_
  -- cell 72
  refine jr_putF hG hin fi_RX6_29 rfl rfl rfl (by decide) (by decide) dX6_init_55 ?_
  refine jr_aload_n hG 0 dX6_init_58 rfl rfl ?_
  refine jr_bipush (v := (6 : Int32)) hG dX6_init_59 (by decide) ?_
  refine jr_newa (at1 := .int) (cells' := 7) (slots' := 542) (t := 0) (n := 6) hG wd_112 (by decide) rfl (by decide) (by decide) (by decide) (by decide) rfl rfl ⟨by decide, by decide⟩ dX6_init_61 ?_
  -- cell 73
  refine jr_putF hG hin fi_RX6_33 rfl rfl rfl (by decide) (by decide) dX6_init_63 ?_
  refine jr_aload_n hG 0 dX6_init_66 rfl rfl ?_
  refine jr_bipush (v := (6 : Int32)) hG dX6_init_67 (by decide) ?_
  refine jr_newa (at1 := .int) (cells' := 8) (slots' := 548) (t := 0) (n := 6) hG wd_112 (by decide) rfl (by decide) (by decide) (by decide) (by decide) rfl rfl ⟨by decide, by decide⟩ dX6_init_69 ?_
  -- cell 74
  refine jr_putF hG hin fi_RX6_36 rfl rfl rfl (by decide) (by decide) dX6_init_71 ?_
  refine jr_aload_n hG 0 dX6_init_74 rfl rfl ?_
  refine jr_bipush (v := (6 : Int32)) hG dX6_init_75 (by decide) ?_
  refine jr_newa (at1 := .int) (cells' := 9) (slots' := 554) (t := 0) (n := 6) hG wd_112 (by decide) rfl (by decide) (by decide) (by decide) (by decide) rfl rfl ⟨by decide, by decide⟩ dX6_init_77 ?_
  -- cell 75
  refine jr_putF hG hin fi_RX6_39 rfl rfl rfl (by decide) (by decide) dX6_init_79 ?_
  refine jr_aload_n hG 0 dX6_init_82 rfl rfl ?_
  refine jr_bipush (v := (6 : Int32)) hG dX6_init_83 (by decide) ?_
  refine jr_newa (at1 := .int) (cells' := 10) (slots' := 560) (t := 0) (n := 6) hG wd_112 (by decide) rfl (by decide) (by decide) (by decide) (by decide) rfl rfl ⟨by decide, by decide⟩ dX6_init_85 ?_
  -- cell 76
  refine jr_putF hG hin fi_RX6_42 rfl rfl rfl (by decide) (by decide) dX6_init_87 ?_
  refine jr_aload_n hG 0 dX6_init_90 rfl rfl ?_
  refine jr_bipush (v := (6 : Int32)) hG dX6_init_91 (by decide) ?_
  refine jr_newa (at1 := .int) (cells' := 11) (slots' := 566) (t := 0) (n := 6) hG wd_112 (by decide) rfl (by decide) (by decide) (by decide) (by decide) rfl rfl ⟨by decide, by decide⟩ dX6_init_93 ?_
  -- cell 77
  refine jr_putF hG hin fi_RX6_45 rfl rfl rfl (by decide) (by decide) dX6_init_95 ?_
  refine jr_aload_n hG 0 dX6_init_98 rfl rfl ?_
  refine jr_bipush (v := (14 : Int32)) hG dX6_init_99 (by decide) ?_
  refine jr_newa (at1 := .int) (cells' := 12) (slots' := 580) (t := 0) (n := 14) hG wd_112 (by decide) rfl (by decide) (by decide) (by decide) (by decide) rfl rfl ⟨by decide, by decide⟩ dX6_init_101 ?_
  -- cell 78
  refine jr_putF hG hin fi_RX6_48 rfl rfl rfl (by decide) (by decide) dX6_init_103 ?_
  refine jr_aload_n hG 0 dX6_init_106 rfl rfl ?_
  refine jr_bipush (v := (14 : Int32)) hG dX6_init_107 (by decide) ?_
  refine jr_newa (at1 := .int) (cells' := 13) (slots' := 594) (t := 0) (n := 14) hG wd_112 (by decide) rfl (by decide) (by decide) (by decide) (by decide) rfl rfl ⟨by decide, by decide⟩ dX6_init_109 ?_
  -- cell 79
  refine jr_putF hG hin fi_RX6_51 rfl rfl rfl (by decide) (by decide) dX6_init_111 ?_
  refine jr_aload_n hG 0 dX6_init_114 rfl rfl ?_
  refine jr_bipush (v := (6 : Int32)) hG dX6_init_115 (by decide) ?_
  refine jr_newa (at1 := .int) (cells' := 14) (slots' := 600) (t := 0) (n := 6) hG wd_112 (by decide) rfl (by decide) (by decide) (by decide) (by decide) rfl rfl ⟨by decide, by decide⟩ dX6_init_117 ?_
  -- cell 80
  refine jr_putF hG hin fi_RX6_54 rfl rfl rfl (by decide) (by decide) dX6_init_119 ?_
  refine jr_aload_n hG 0 dX6_init_122 rfl rfl ?_
  refine jr_sipush (v := (560 : Int32)) hG dX6_init_123 (by decide) ?_
  refine jr_newa (at1 := .int) (cells' := 15) (slots' := 1160) (t := 0) (n := 560) hG wd_112 (by decide) rfl (by decide) (by decide) (by decide) (by decide) rfl rfl ⟨by decide, by decide⟩ dX6_init_126 ?_
  -- cell 81
  refine jr_putF hG hin fi_RX6_57 rfl rfl rfl (by decide) (by decide) dX6_init_128 ?_
  refine jr_aload_n hG 0 dX6_init_131 rfl rfl ?_
  refine jr_iconst (v := (3 : Int32)) hG dX6_init_132 (by decide) ?_
  refine jr_newa (at1 := .boolean) (cells' := 16) (slots' := 1163) (t := 2) (n := 3) hG wd_838 (by decide) rfl (by decide) (by decide) (by decide) (by decide) rfl rfl ⟨by decide, by decide⟩ dX6_init_133 ?_
  -- cell 82
  refine jr_putF hG hin fi_RX6_60 rfl rfl rfl (by decide) (by decide) dX6_init_135 ?_
  refine jr_aload_n hG 0 dX6_init_138 rfl rfl ?_
  refine jr_iconst (v := (3 : Int32)) hG dX6_init_139 (by decide) ?_
  refine jr_newa (at1 := .int) (cells' := 17) (slots' := 1166) (t := 0) (n := 3) hG wd_112 (by decide) rfl (by decide) (by decide) (by decide) (by decide) rfl rfl ⟨by decide, by decide⟩ dX6_init_140 ?_
  -- cell 83
  refine jr_putF hG hin fi_RX6_64 rfl rfl rfl (by decide) (by decide) dX6_init_142 ?_
  refine jr_aload_n hG 0 dX6_init_145 rfl rfl ?_
  refine jr_bipush (v := (42 : Int32)) hG dX6_init_146 (by decide) ?_
  refine jr_newa (at1 := .int) (cells' := 18) (slots' := 1208) (t := 0) (n := 42) hG wd_112 (by decide) rfl (by decide) (by decide) (by decide) (by decide) rfl rfl ⟨by decide, by decide⟩ dX6_init_148 ?_
  -- cell 84
  refine jr_putF hG hin fi_RX6_67 rfl rfl rfl (by decide) (by decide) dX6_init_150 ?_
  refine jr_aload_n hG 0 dX6_init_153 rfl rfl ?_
  refine jr_sipush (v := (1680 : Int32)) hG dX6_init_154 (by decide) ?_
  refine jr_newa (at1 := .int) (cells' := 19) (slots' := 2888) (t := 0) (n := 1680) hG wd_112 (by decide) rfl (by decide) (by decide) (by decide) (by decide) rfl rfl ⟨by decide, by decide⟩ dX6_init_157 ?_
  -- cell 85
  refine jr_putF hG hin fi_RX6_70 rfl rfl rfl (by decide) (by decide) dX6_init_159 ?_
  refine jr_aload_n hG 0 dX6_init_162 rfl rfl ?_
  refine jr_bipush (v := (6 : Int32)) hG dX6_init_163 (by decide) ?_
  refine jr_newa (at1 := .int) (cells' := 20) (slots' := 2894) (t := 0) (n := 6) hG wd_112 (by decide) rfl (by decide) (by decide) (by decide) (by decide) rfl rfl ⟨by decide, by decide⟩ dX6_init_165 ?_
  -- cell 86
  refine jr_putF hG hin fi_RX6_73 rfl rfl rfl (by decide) (by decide) dX6_init_167 ?_
  refine jr_aload_n hG 0 dX6_init_170 rfl rfl ?_
  refine jr_sipush (v := (24576 : Int32)) hG dX6_init_171 (by decide) ?_
  refine jr_newa (at1 := .int) (cells' := 21) (slots' := 27470) (t := 0) (n := 24576) hG wd_112 (by decide) rfl (by decide) (by decide) (by decide) (by decide) rfl rfl ⟨by decide, by decide⟩ dX6_init_174 ?_
  -- cell 87
  refine jr_putF hG hin fi_RX6_76 rfl rfl rfl (by decide) (by decide) dX6_init_176 ?_
  refine jr_aload_n hG 0 dX6_init_179 rfl rfl ?_
  refine jr_bipush (v := (6 : Int32)) hG dX6_init_180 (by decide) ?_
  refine jr_newa (at1 := .int) (cells' := 22) (slots' := 27476) (t := 0) (n := 6) hG wd_112 (by decide) rfl (by decide) (by decide) (by decide) (by decide) rfl rfl ⟨by decide, by decide⟩ dX6_init_182 ?_
  -- cell 88
  refine jr_putF hG hin fi_RX6_79 rfl rfl rfl (by decide) (by decide) dX6_init_184 ?_
  refine jr_iconst (v := (0 : Int32)) hG dX6_init_187 (by decide) ?_
  refine jr_istore_n (lv' := [(1, .int (0 : Int32)), (0, .ref (E.B + 66))]) hG dX6_init_188 rfl (by decide) rfl ?_
  refine jr_iload_n hG 0 dX6_init_189 rfl rfl ?_
  refine jr_bipush (v := (6 : Int32)) hG dX6_init_190 (by decide) ?_
  refine jr_geF hG 208 dX6_init_192 (by decide) (by decide) ?_
  refine jr_aload_n hG 1 dX6_init_195 rfl rfl ?_
  refine jr_getK (b := 68) hG fi_RX6_17 rfl (by decide) (by decide) rfl dX6_init_196 ?_
  refine jr_iload_n hG 0 dX6_init_199 rfl rfl ?_
  refine jr_iconst (v := (-1 : Int32)) hG dX6_init_200 (by decide) ?_
  refine jr_iastK (n := 6) hG (by decide) (by decide) (by decide) dX6_init_201 ?_
  refine jr_iinc (v := (1 : Int32)) (lv' := [(1, .int (1 : Int32)), (0, .ref (E.B + 66))]) hG 0 dX6_init_202 rfl (by decide) (by decide) rfl ?_
  refine jr_goto hG 189 dX6_init_205 (by decide) ?_
  refine jr_iload_n hG 0 dX6_init_189 rfl rfl ?_
  refine jr_bipush (v := (6 : Int32)) hG dX6_init_190 (by decide) ?_
  refine jr_geF hG 208 dX6_init_192 (by decide) (by decide) ?_
  refine jr_aload_n hG 1 dX6_init_195 rfl rfl ?_
  refine jr_getK (b := 68) hG fi_RX6_17 rfl (by decide) (by decide) rfl dX6_init_196 ?_
  refine jr_iload_n hG 0 dX6_init_199 rfl rfl ?_
  refine jr_iconst (v := (-1 : Int32)) hG dX6_init_200 (by decide) ?_
  refine jr_iastK (n := 6) hG (by decide) (by decide) (by decide) dX6_init_201 ?_
  refine jr_iinc (v := (2 : Int32)) (lv' := [(1, .int (2 : Int32)), (0, .ref (E.B + 66))]) hG 0 dX6_init_202 rfl (by decide) (by decide) rfl ?_
  refine jr_goto hG 189 dX6_init_205 (by decide) ?_
  refine jr_iload_n hG 0 dX6_init_189 rfl rfl ?_
  refine jr_bipush (v := (6 : Int32)) hG dX6_init_190 (by decide) ?_
  refine jr_geF hG 208 dX6_init_192 (by decide) (by decide) ?_
  refine jr_aload_n hG 1 dX6_init_195 rfl rfl ?_
  refine jr_getK (b := 68) hG fi_RX6_17 rfl (by decide) (by decide) rfl dX6_init_196 ?_
  refine jr_iload_n hG 0 dX6_init_199 rfl rfl ?_
  refine jr_iconst (v := (-1 : Int32)) hG dX6_init_200 (by decide) ?_
  refine jr_iastK (n := 6) hG (by decide) (by decide) (by decide) dX6_init_201 ?_
  refine jr_iinc (v := (3 : Int32)) (lv' := [(1, .int (3 : Int32)), (0, .ref (E.B + 66))]) hG 0 dX6_init_202 rfl (by decide) (by decide) rfl ?_
  refine jr_goto hG 189 dX6_init_205 (by decide) ?_
  refine jr_iload_n hG 0 dX6_init_189 rfl rfl ?_
  refine jr_bipush (v := (6 : Int32)) hG dX6_init_190 (by decide) ?_
  refine jr_geF hG 208 dX6_init_192 (by decide) (by decide) ?_
  refine jr_aload_n hG 1 dX6_init_195 rfl rfl ?_
  refine jr_getK (b := 68) hG fi_RX6_17 rfl (by decide) (by decide) rfl dX6_init_196 ?_
  refine jr_iload_n hG 0 dX6_init_199 rfl rfl ?_
  refine jr_iconst (v := (-1 : Int32)) hG dX6_init_200 (by decide) ?_
  refine jr_iastK (n := 6) hG (by decide) (by decide) (by decide) dX6_init_201 ?_
  refine jr_iinc (v := (4 : Int32)) (lv' := [(1, .int (4 : Int32)), (0, .ref (E.B + 66))]) hG 0 dX6_init_202 rfl (by decide) (by decide) rfl ?_
  refine jr_goto hG 189 dX6_init_205 (by decide) ?_
  refine jr_iload_n hG 0 dX6_init_189 rfl rfl ?_
  refine jr_bipush (v := (6 : Int32)) hG dX6_init_190 (by decide) ?_
  refine jr_geF hG 208 dX6_init_192 (by decide) (by decide) ?_
  refine jr_aload_n hG 1 dX6_init_195 rfl rfl ?_
  refine jr_getK (b := 68) hG fi_RX6_17 rfl (by decide) (by decide) rfl dX6_init_196 ?_
  refine jr_iload_n hG 0 dX6_init_199 rfl rfl ?_
  refine jr_iconst (v := (-1 : Int32)) hG dX6_init_200 (by decide) ?_
  refine jr_iastK (n := 6) hG (by decide) (by decide) (by decide) dX6_init_201 ?_
  refine jr_iinc (v := (5 : Int32)) (lv' := [(1, .int (5 : Int32)), (0, .ref (E.B + 66))]) hG 0 dX6_init_202 rfl (by decide) (by decide) rfl ?_
  refine jr_goto hG 189 dX6_init_205 (by decide) ?_
  refine jr_iload_n hG 0 dX6_init_189 rfl rfl ?_
  refine jr_bipush (v := (6 : Int32)) hG dX6_init_190 (by decide) ?_
  refine jr_geF hG 208 dX6_init_192 (by decide) (by decide) ?_
  refine jr_aload_n hG 1 dX6_init_195 rfl rfl ?_
  refine jr_getK (b := 68) hG fi_RX6_17 rfl (by decide) (by decide) rfl dX6_init_196 ?_
  refine jr_iload_n hG 0 dX6_init_199 rfl rfl ?_
  refine jr_iconst (v := (-1 : Int32)) hG dX6_init_200 (by decide) ?_
  refine jr_iastK (n := 6) hG (by decide) (by decide) (by decide) dX6_init_201 ?_
  refine jr_iinc (v := (6 : Int32)) (lv' := [(1, .int (6 : Int32)), (0, .ref (E.B + 66))]) hG 0 dX6_init_202 rfl (by decide) (by decide) rfl ?_
  refine jr_goto hG 189 dX6_init_205 (by decide) ?_
  refine jr_iload_n hG 0 dX6_init_189 rfl rfl ?_
  refine jr_bipush (v := (6 : Int32)) hG dX6_init_190 (by decide) ?_
  refine jr_geT hG 208 dX6_init_192 (by decide) (by decide) ?_
  refine jr_iconst (v := (0 : Int32)) hG dX6_init_208 (by decide) ?_
  refine jr_istore_n (lv' := [(1, .int (0 : Int32)), (0, .ref (E.B + 66))]) hG dX6_init_209 rfl (by decide) rfl ?_
  refine jr_iload_n hG 0 dX6_init_210 rfl rfl ?_
  refine jr_iconst (v := (4 : Int32)) hG dX6_init_211 (by decide) ?_
  refine jr_geF hG 228 dX6_init_212 (by decide) (by decide) ?_
  refine jr_aload_n hG 1 dX6_init_215 rfl rfl ?_
  refine jr_getK (b := 71) hG fi_RX6_26 rfl (by decide) (by decide) rfl dX6_init_216 ?_
  refine jr_iload_n hG 0 dX6_init_219 rfl rfl ?_
  refine jr_iconst (v := (-1 : Int32)) hG dX6_init_220 (by decide) ?_
  refine jr_iastK (n := 4) hG (by decide) (by decide) (by decide) dX6_init_221 ?_
  refine jr_iinc (v := (1 : Int32)) (lv' := [(1, .int (1 : Int32)), (0, .ref (E.B + 66))]) hG 0 dX6_init_222 rfl (by decide) (by decide) rfl ?_
  refine jr_goto hG 210 dX6_init_225 (by decide) ?_
  refine jr_iload_n hG 0 dX6_init_210 rfl rfl ?_
  refine jr_iconst (v := (4 : Int32)) hG dX6_init_211 (by decide) ?_
  refine jr_geF hG 228 dX6_init_212 (by decide) (by decide) ?_
  refine jr_aload_n hG 1 dX6_init_215 rfl rfl ?_
  refine jr_getK (b := 71) hG fi_RX6_26 rfl (by decide) (by decide) rfl dX6_init_216 ?_
  refine jr_iload_n hG 0 dX6_init_219 rfl rfl ?_
  refine jr_iconst (v := (-1 : Int32)) hG dX6_init_220 (by decide) ?_
  refine jr_iastK (n := 4) hG (by decide) (by decide) (by decide) dX6_init_221 ?_
  refine jr_iinc (v := (2 : Int32)) (lv' := [(1, .int (2 : Int32)), (0, .ref (E.B + 66))]) hG 0 dX6_init_222 rfl (by decide) (by decide) rfl ?_
  refine jr_goto hG 210 dX6_init_225 (by decide) ?_
  refine jr_iload_n hG 0 dX6_init_210 rfl rfl ?_
  refine jr_iconst (v := (4 : Int32)) hG dX6_init_211 (by decide) ?_
  refine jr_geF hG 228 dX6_init_212 (by decide) (by decide) ?_
  refine jr_aload_n hG 1 dX6_init_215 rfl rfl ?_
  refine jr_getK (b := 71) hG fi_RX6_26 rfl (by decide) (by decide) rfl dX6_init_216 ?_
  refine jr_iload_n hG 0 dX6_init_219 rfl rfl ?_
  refine jr_iconst (v := (-1 : Int32)) hG dX6_init_220 (by decide) ?_
  refine jr_iastK (n := 4) hG (by decide) (by decide) (by decide) dX6_init_221 ?_
  refine jr_iinc (v := (3 : Int32)) (lv' := [(1, .int (3 : Int32)), (0, .ref (E.B + 66))]) hG 0 dX6_init_222 rfl (by decide) (by decide) rfl ?_
  refine jr_goto hG 210 dX6_init_225 (by decide) ?_
  refine jr_iload_n hG 0 dX6_init_210 rfl rfl ?_
  refine jr_iconst (v := (4 : Int32)) hG dX6_init_211 (by decide) ?_
  refine jr_geF hG 228 dX6_init_212 (by decide) (by decide) ?_
  refine jr_aload_n hG 1 dX6_init_215 rfl rfl ?_
  refine jr_getK (b := 71) hG fi_RX6_26 rfl (by decide) (by decide) rfl dX6_init_216 ?_
  refine jr_iload_n hG 0 dX6_init_219 rfl rfl ?_
  refine jr_iconst (v := (-1 : Int32)) hG dX6_init_220 (by decide) ?_
  refine jr_iastK (n := 4) hG (by decide) (by decide) (by decide) dX6_init_221 ?_
  refine jr_iinc (v := (4 : Int32)) (lv' := [(1, .int (4 : Int32)), (0, .ref (E.B + 66))]) hG 0 dX6_init_222 rfl (by decide) (by decide) rfl ?_
  refine jr_goto hG 210 dX6_init_225 (by decide) ?_
  refine jr_iload_n hG 0 dX6_init_210 rfl rfl ?_
  refine jr_iconst (v := (4 : Int32)) hG dX6_init_211 (by decide) ?_
  refine jr_geT hG 228 dX6_init_212 (by decide) (by decide) ?_
  exact jr_vret hG hr hk dX6_init_228
