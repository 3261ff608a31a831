/-! ===== the claim's start out of the pure statement ===== -/
/-- the memory ahead of all -/
def mm0 : Mm := (fun _ _ => 0, fun _ _ => 0, fun _ _ => none)
theorem nst_in : ∀ w ∈ nstW, w ∈ lw_tbl := by
  intro w hw
  unfold nstW at hw
  simp only [List.mem_cons, List.not_mem_nil, or_false] at hw
  rcases hw with rfl | rfl | rfl | rfl | rfl | rfl | rfl | rfl | rfl | rfl | rfl | rfl | rfl
  · exact List.mem_of_getElem? (i := 95) (by decide +kernel)
  · exact List.mem_of_getElem? (i := 115) (by decide +kernel)
  · exact List.mem_of_getElem? (i := 153) (by decide +kernel)
  · exact List.mem_of_getElem? (i := 194) (by decide +kernel)
  · exact List.mem_of_getElem? (i := 210) (by decide +kernel)
  · exact List.mem_of_getElem? (i := 412) (by decide +kernel)
  · exact List.mem_of_getElem? (i := 365) (by decide +kernel)
  · exact List.mem_of_getElem? (i := 640) (by decide +kernel)
  · exact List.mem_of_getElem? (i := 349) (by decide +kernel)
  · exact List.mem_of_getElem? (i := 355) (by decide +kernel)
  · exact List.mem_of_getElem? (i := 89) (by decide +kernel)
  · exact List.mem_of_getElem? (i := 91) (by decide +kernel)
  · exact List.mem_of_getElem? (i := 93) (by decide +kernel)
theorem arr_prim {args : Array Value} {s : State} {ty : FieldType} (hp : ty = .int ∨ ty = .byte ∨ ty = .boolean) (h : (Cond.arrayClass ty).before args s = true) : ∃ cA : ClassId, ArrOfT s cA ty ∧ va_RA s cA ty := by
  obtain ⟨cA, kA, comp, h1, h2, h3⟩ := Cond.arrayClass_spec h
  refine ⟨cA, fun n z => ⟨fun k h => (by cases h), kA, h2, comp, h3⟩, ?_⟩
  rcases hp with rfl | rfl | rfl <;> exact h1
theorem arr_obj {args : Array Value} {s : State} {C : String} (h : (Cond.arrayOver (.object C)).before args s = true) : ∃ cA : ClassId, ArrOfT s cA (.object C) ∧ va_RA s cA (.object C) := by
  obtain ⟨comp, cA, kA, h0, -, h2, h3, h1⟩ := Cond.arrayOver_spec h
  exact ⟨cA, fun n z => ⟨fun k h => (by cases h), kA, h2, comp, h3⟩, kA, comp, h2, h3, h0, h1⟩
set_option maxRecDepth 100000 in
set_option maxHeartbeats 4000000 in
/-- OPEN in hpure: the pure statement of the law's own function -/
theorem whole_start_open (hpure : ∀ (xs : Nat → Int32) (L : Nat), L ≤ 384 → ∃ N, f_law N xs L mm0 = some ()) {p : Program} {e : Env} {s : State} {m : MethodId} {below : List Frame} {meth : Method} {c : Code} (l : Launch) {b L : Nat} {xs : Nat → Int32} (hL : L ≤ 384) (C0 : lw_At p s m meth c b L xs) : W p l e room_1 s m #[Value.ref b] below meth c s.heap [] 0 0 (lw_Z below #[Value.ref b] s) (entryFrame m ([Value.ref b] : List Value).toArray 4) := by
  obtain ⟨hx, hb, hr, hml, hown, hts, hX, hbl, hlocks, hgv⟩ := id C0
  have hgd : ∀ w ∈ goodL, w.before #[Value.ref b] s = true := fun w hw => hts w (List.mem_filter.mp hw).1
  obtain ⟨c0, i0, k0⟩ := u_known (C := RX0) (T := TX0) (N := 8) (n := 8) hgd ws_in0 (hgd _ wd_114)
  obtain ⟨c1, i1, k1⟩ := u_known (C := RX1) (T := TX1) (N := 3) (n := 3) hgd ws_in1 (hgd _ wd_94)
  obtain ⟨c2, i2, k2⟩ := u_known (C := RX2) (T := TX2) (N := 9) (n := 9) hgd ws_in2 (hgd _ wd_152)
  obtain ⟨c3, i3, k3⟩ := u_known (C := RX3) (T := TX3) (N := 2) (n := 2) hgd ws_in3 (hgd _ wd_193)
  obtain ⟨c4, i4, k4⟩ := u_known (C := RX4) (T := TX4) (N := 2) (n := 2) hgd ws_in4 (hgd _ wd_209)
  obtain ⟨c5, i5, k5⟩ := u_known (C := RX5) (T := TX5) (N := 14) (n := 14) hgd ws_in5 (hgd _ wd_81)
  obtain ⟨c6, i6, k6⟩ := u_known (C := RX6) (T := TX6) (N := 34) (n := 34) hgd ws_in6 (hgd _ wd_730)
  obtain ⟨a0, ha0⟩ := arr_prim (Or.inl rfl) (hgd _ wd_112)
  obtain ⟨a1, ha1⟩ := arr_prim (Or.inr (Or.inl rfl)) (hgd _ wd_225)
  obtain ⟨a2, ha2⟩ := arr_prim (Or.inr (Or.inr rfl)) (hgd _ wd_838)
  obtain ⟨a3, ha3⟩ := arr_obj (C := RX3) (hts _ (List.mem_of_getElem? (i := 89) (by decide +kernel)))
  obtain ⟨a4, ha4⟩ := arr_obj (C := RX4) (hts _ (List.mem_of_getElem? (i := 91) (by decide +kernel)))
  obtain ⟨a5, ha5⟩ := arr_obj (C := RX1) (hts _ (List.mem_of_getElem? (i := 93) (by decide +kernel)))
  have hfl := flat_of_before _ hgv
  have hA : ∀ a : Nat, a < s.heap.size → ¬ (fun q : Nat => s.heap.size ≤ q) a := fun a h q => absurd (show s.heap.size ≤ a from q) (by omega)
  have eL : ∀ j : Nat, j < 6 → (Term.elem (.static "TonguesDealt" "LETTERS" "[C") (.int (Int32.ofNat j))).eval #[Value.ref b] s none [] s = some (.int (letC j)) := by
    intro j hj
    rcases (show j = 0 ∨ j = 1 ∨ j = 2 ∨ j = 3 ∨ j = 4 ∨ j = 5 by omega) with rfl | rfl | rfl | rfl | rfl | rfl
    · exact va_eqt (hfl (Cond.eq (.elem (.static "TonguesDealt" "LETTERS" "[C") (.int 0)) (.int (112))) (by decide +kernel))
    · exact va_eqt (hfl (Cond.eq (.elem (.static "TonguesDealt" "LETTERS" "[C") (.int 1)) (.int (108))) (by decide +kernel))
    · exact va_eqt (hfl (Cond.eq (.elem (.static "TonguesDealt" "LETTERS" "[C") (.int 2)) (.int (109))) (by decide +kernel))
    · exact va_eqt (hfl (Cond.eq (.elem (.static "TonguesDealt" "LETTERS" "[C") (.int 3)) (.int (100))) (by decide +kernel))
    · exact va_eqt (hfl (Cond.eq (.elem (.static "TonguesDealt" "LETTERS" "[C") (.int 4)) (.int (115))) (by decide +kernel))
    · exact va_eqt (hfl (Cond.eq (.elem (.static "TonguesDealt" "LETTERS" "[C") (.int 5)) (.int (116))) (by decide +kernel))
  obtain ⟨tL, htL, hTL⟩ := va_Tof (ty := .char) (N := 6) (f := fun i => .int (letC i)) (by decide) (hfl (Cond.arrayOf (.static "TonguesDealt" "LETTERS" "[C") .char) (by decide +kernel)) (va_eqt (hfl (Cond.eq (.length (.static "TonguesDealt" "LETTERS" "[C")) (.int 6)) (by decide +kernel))) eL hA
  have hZL := va_Zof (hts _ (List.mem_of_getElem? (i := 350) (by decide +kernel))) (hgd _ wd_71) htL hA
  have eB : ∀ j : Nat, j < 6 → (Term.elem (.static "TonguesDealt" "BESIDES" "[I") (.int (Int32.ofNat j))).eval #[Value.ref b] s none [] s = some (.int (besC j)) := by
    intro j hj
    rcases (show j = 0 ∨ j = 1 ∨ j = 2 ∨ j = 3 ∨ j = 4 ∨ j = 5 by omega) with rfl | rfl | rfl | rfl | rfl | rfl
    · exact va_eqt (hfl (Cond.eq (.elem (.static "TonguesDealt" "BESIDES" "[I") (.int 0)) (.int (-1))) (by decide +kernel))
    · exact va_eqt (hfl (Cond.eq (.elem (.static "TonguesDealt" "BESIDES" "[I") (.int 1)) (.int (0))) (by decide +kernel))
    · exact va_eqt (hfl (Cond.eq (.elem (.static "TonguesDealt" "BESIDES" "[I") (.int 2)) (.int (0))) (by decide +kernel))
    · exact va_eqt (hfl (Cond.eq (.elem (.static "TonguesDealt" "BESIDES" "[I") (.int 3)) (.int (1))) (by decide +kernel))
    · exact va_eqt (hfl (Cond.eq (.elem (.static "TonguesDealt" "BESIDES" "[I") (.int 4)) (.int (2))) (by decide +kernel))
    · exact va_eqt (hfl (Cond.eq (.elem (.static "TonguesDealt" "BESIDES" "[I") (.int 5)) (.int (0))) (by decide +kernel))
  obtain ⟨tB, htB, hTB⟩ := va_Tof (ty := .int) (N := 6) (f := fun i => .int (besC i)) (by decide) (hfl (Cond.arrayOf (.static "TonguesDealt" "BESIDES" "[I") .int) (by decide +kernel)) (va_eqt (hfl (Cond.eq (.length (.static "TonguesDealt" "BESIDES" "[I")) (.int 6)) (by decide +kernel))) eB hA
  have hZB := va_Zof (hts _ (List.mem_of_getElem? (i := 356) (by decide +kernel))) (hgd _ wd_71) htB hA
  let E : XE := (s.heap.size, (fun k => match k with | 0 => a0 | 1 => a1 | 2 => a2 | 3 => a3 | 4 => a4 | _ => a5), ((fun k => match k with | 0 => c0 | 1 => c1 | 2 => c2 | 3 => c3 | 4 => c4 | 5 => c5 | _ => c6), (fun k => match k with | 0 => i0 | 1 => i1 | 2 => i2 | 3 => i3 | 4 => i4 | 5 => i5 | _ => i6)), tL, tB)
  have hK : xK E s := by
    refine ⟨fun w hw => word_at (State.WarmedH.refl s) (good_of_word (gd_good hw)) (hgd w hw), fun w hw => ?_, ?_, ?_⟩
    · have h4 := hts w (nst_in w hw)
      unfold nstW at hw
      simp only [List.mem_cons, List.not_mem_nil, or_false] at hw
      rcases hw with rfl | rfl | rfl | rfl | rfl | rfl | rfl | rfl | rfl | rfl | rfl | rfl | rfl
      all_goals first | exact va_Nw.of rfl h4 | exact va_AO.of h4
    · intro k q hq
      match k, hq with
      | 0, hq => cases hq; exact k0
      | 1, hq => cases hq; exact k1
      | 2, hq => cases hq; exact k2
      | 3, hq => cases hq; exact k3
      | 4, hq => cases hq; exact k4
      | 5, hq => cases hq; exact k5
      | 6, hq => cases hq; exact k6
      | k + 7, hq => simp [vwCl] at hq
    · intro k q hq
      match k, hq with
      | 0, hq => cases hq; exact ha0
      | 1, hq => cases hq; exact ha1
      | 2, hq => cases hq; exact ha2
      | 3, hq => cases hq; exact ha3
      | 4, hq => cases hq; exact ha4
      | 5, hq => cases hq; exact ha5
      | k + 6, hq => simp [xtys] at hq
  have hZ : xZ E s s.heap := ⟨hZL, hTL, hZB, hTB⟩
  have hG : GG E 0 4 RL cL_law p s m #[Value.ref b] c := ⟨hx, hb, hml, hown, hgd, hK, hZ, rfl⟩
  obtain ⟨N, hN⟩ := hpure xs L hL
  have hl := lv_entry ([.ref b]) (n := 4) (Nat.le_of_ble_eq_true rfl)
  rw [lg_entry_eq]
  have hP : va_P E.D vwCl (wld E (0 + 0) mm0) s.heap := fun k q h => by simp [wld] at h
  exact w_law N hG hX hbl hr hlocks mm0 () hN s.heap [] _ hP va_S.rf hl
