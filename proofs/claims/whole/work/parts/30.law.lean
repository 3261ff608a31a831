/-! THE CLAIM OUT OF ONE WALK OF THE LAW'S BODY. Your part is whole_start (and what it stands on); all else here is the same for every law, but numbers. -/
def R_law : String := "TonguesDealtLaw"
def lw_P (b : Addr) (xs : List Int32) (args : Array Value) (s : State) : Prop := args = #[.ref b] ∧ s.IntsAt b xs ∧ xs.length ≤ 384 ∧ (Jvm.Cond.and given_1 narrow_1).before args s = true
def lw_Q (_ : Array Value) (s : State) (o : Outcome) (t : State) : Prop := o = .returned (some (.int 1)) ∧ Framed s o t [] 600000 7302250
def lw_Z (below : List Frame) (a : Array Value) (s : State) : State → Prop := fun t => ∃ o, t.status = .running ∧ Ended t below o ∧ lw_Q a s o t
/-- the law's own end, with 1 on the stack, nothing written that was there before, its room as the claim has it -/
theorem lw_ret {p : Program} {l : Launch} {e : Env} {s : State} {m : MethodId} {below : List Frame} {meth : Method} {c : Code} {b : Nat} (hx : p.tables.exec = Jvm.exec) (hb : c.code = code) (hr : meth.sig.returnType = ret) (hlocks : meth.locks = false) {pc : Nat} {H : Heap} {ls : Array Slot} (hdg : decode code pc = .ok (.ireturn, 1)) : W p l e room_1 s m #[Value.ref b] below meth c H [] 600000 7302250 (lw_Z below #[Value.ref b] s) (F0 m pc ls [.int 1]) := by
  intro T hT X
  obtain ⟨fs, hret, hrun, hended, hW, hframe⟩ := X.leave (v := some (.int 1)) (hlocks := hlocks) (fun h => by rw [hr] at h; cases h)
  have hmeth' : T.vm.method? m = some meth := X.method'
  refine ⟨T.setFrames fs, ?_, .returned (some (.int 1)), hrun, hended, rfl, ⟨_, rfl⟩, hW, hframe⟩
  jvm_step X.here [X.here.top, hx, hb, hdg, hmeth', hr, ret, narrow_b1]
  (try refine ⟨rfl, ?_⟩); (try refine ⟨rfl, ?_⟩)
  first | (intro acts; rw [hret _ acts rfl rfl rfl]) | rw [hret _ _ rfl rfl rfl]
  exact Steps.refl _
/-- what holds at the law's entry: the machine, the code, the tables' words (any of lw_tbl by 'hts w (by decide +kernel)'), the script of L ints xs at the cell b, what the Statement gives of the start (any of its parts by flat_of_before) -/
def lw_At (p : Program) (s : State) (m : MethodId) (meth : Method) (c : Code) (b L : Nat) (xs : Nat → Int32) : Prop :=
  p.tables.exec = Jvm.exec ∧ c.code = code ∧ meth.sig.returnType = ret ∧ c.maxLocals = 4 ∧ s.vm.findClass R_law = some m.cls ∧ (∀ w ∈ lw_tbl, w.before #[Value.ref b] s = true) ∧ va_X b L xs s s.heap ∧ b < s.heap.size ∧ meth.locks = false ∧ (Jvm.Cond.and given_1 narrow_1).before #[Value.ref b] s = true
theorem ok_x0 : okO 5 0 = true := by decide
theorem ok_m66 : okO 6 66 = true := by decide
section LWR
variable {ρ : Type} {E : XE} {nL : Nat} {own : String} {cc : ByteArray} {p : Program} {l : Launch} {e : Env} {R : Room} {s : State} {m : MethodId} {args : Array Value} {below : List Frame} {meth : Method} {c : Code} {cells slots : Nat} {Q : ρ → State → Prop} {pc : Nat} {lv : List (Nat × Value)} {st : List Value} {σ : Mm} {X : Option ρ} {b L : Nat} {xs : Nat → Int32}
theorem jr_none {N0 : Nat} : JR E N0 nL p l e R s m args below meth c cells slots Q pc lv st σ none := fun r hX => by cases hX
theorem nxA (hG : GG E 0 nL own cc p s m args c) (hbl : b < s.heap.size) : ¬ xA E b := by
  intro h
  have h0 : s.heap.size = E.B + 0 := hG.2.2.2.2.2.2.2
  have h1 : E.B ≤ b := h
  omega
theorem jr_sld (hG : GG E 0 nL own cc p s m args c) (hXx : va_X b L xs s s.heap) (hbl : b < s.heap.size) {i : Int32} (hd : decode cc pc = .ok (.iaload, 1)) (kk : JR E 0 nL p l e R s m args below meth c cells slots Q (pc + 1) lv (.int (xs (ix i)) :: st) σ X) : JR E 0 nL p l e R s m args below meth c cells slots Q pc lv (.int i :: .ref b :: st) σ (if inb i L then X else none) :=
  jr_guard fun hi r hX H locs ls hP hS hl => va_sld hG.1 hG.2.1 hXx hbl (nxA hG hbl) hS (inb_in hi) hd (kk r hX H locs ls hP hS hl)
theorem jr_slen (hG : GG E 0 nL own cc p s m args c) (hXx : va_X b L xs s s.heap) (hbl : b < s.heap.size) (hd : decode cc pc = .ok (.arraylength, 1)) (kk : JR E 0 nL p l e R s m args below meth c cells slots Q (pc + 1) lv (.int (nI L) :: st) σ X) : JR E 0 nL p l e R s m args below meth c cells slots Q pc lv (.ref b :: st) σ X :=
  fun r hX H locs ls hP hS hl => va_slen hG.1 hG.2.1 hXx hbl (nxA hG hbl) hS hd (kk r hX H locs ls hP hS hl)
theorem jl_ret (hG : GG E 0 4 RL cL_law p s m #[Value.ref b] c) (hr : meth.sig.returnType = ret) (hk : meth.locks = false) (hd : decode code pc = .ok (.ireturn, 1)) : JR E 0 4 p l e room_1 s m #[Value.ref b] below meth c 89 28555 (fun _ : Unit => lw_Z below #[Value.ref b] s) pc lv [.int 1] σ (some ()) := by
  intro r hX H locs ls hP hS hl
  have h0 : s.heap.size = E.B + 0 := hG.2.2.2.2.2.2.2
  refine va_forget (fun q hq => ?_) ?_
  · have : E.B ≤ q.base := hS.2.2 q hq
    omega
  refine W.widen (k := 600000) (n := 7302250) (by decide) (by decide) ?_
  exact lw_ret hG.1 hG.2.1 hr hk hd
end LWR
theorem tab_out0_39 {x : Int32} (h0 : ¬ x = (0 : Int32)) (h1 : ¬ x = (1 : Int32)) (h2 : ¬ x = (2 : Int32)) (h3 : ¬ x = (3 : Int32)) (h4 : ¬ x = (4 : Int32)) (h5 : ¬ x = (5 : Int32)) (h6 : ¬ x = (6 : Int32)) (h7 : ¬ x = (7 : Int32)) (h8 : ¬ x = (8 : Int32)) (h9 : ¬ x = (9 : Int32)) (h10 : ¬ x = (10 : Int32)) (h11 : ¬ x = (11 : Int32)) (h12 : ¬ x = (12 : Int32)) (h13 : ¬ x = (13 : Int32)) (h14 : ¬ x = (14 : Int32)) (h15 : ¬ x = (15 : Int32)) (h16 : ¬ x = (16 : Int32)) (h17 : ¬ x = (17 : Int32)) (h18 : ¬ x = (18 : Int32)) (h19 : ¬ x = (19 : Int32)) (h20 : ¬ x = (20 : Int32)) (h21 : ¬ x = (21 : Int32)) (h22 : ¬ x = (22 : Int32)) (h23 : ¬ x = (23 : Int32)) (h24 : ¬ x = (24 : Int32)) (h25 : ¬ x = (25 : Int32)) (h26 : ¬ x = (26 : Int32)) (h27 : ¬ x = (27 : Int32)) (h28 : ¬ x = (28 : Int32)) (h29 : ¬ x = (29 : Int32)) (h30 : ¬ x = (30 : Int32)) (h31 : ¬ x = (31 : Int32)) (h32 : ¬ x = (32 : Int32)) (h33 : ¬ x = (33 : Int32)) (h34 : ¬ x = (34 : Int32)) (h35 : ¬ x = (35 : Int32)) (h36 : ¬ x = (36 : Int32)) (h37 : ¬ x = (37 : Int32)) (h38 : ¬ x = (38 : Int32)) (h39 : ¬ x = (39 : Int32)) : x.toInt < 0 ∨ 39 < x.toInt := by
  have e0 : x.toInt ≠ 0 := fun e => ne_toInt h0 (e.trans (by decide))
  have e1 : x.toInt ≠ 1 := fun e => ne_toInt h1 (e.trans (by decide))
  have e2 : x.toInt ≠ 2 := fun e => ne_toInt h2 (e.trans (by decide))
  have e3 : x.toInt ≠ 3 := fun e => ne_toInt h3 (e.trans (by decide))
  have e4 : x.toInt ≠ 4 := fun e => ne_toInt h4 (e.trans (by decide))
  have e5 : x.toInt ≠ 5 := fun e => ne_toInt h5 (e.trans (by decide))
  have e6 : x.toInt ≠ 6 := fun e => ne_toInt h6 (e.trans (by decide))
  have e7 : x.toInt ≠ 7 := fun e => ne_toInt h7 (e.trans (by decide))
  have e8 : x.toInt ≠ 8 := fun e => ne_toInt h8 (e.trans (by decide))
  have e9 : x.toInt ≠ 9 := fun e => ne_toInt h9 (e.trans (by decide))
  have e10 : x.toInt ≠ 10 := fun e => ne_toInt h10 (e.trans (by decide))
  have e11 : x.toInt ≠ 11 := fun e => ne_toInt h11 (e.trans (by decide))
  have e12 : x.toInt ≠ 12 := fun e => ne_toInt h12 (e.trans (by decide))
  have e13 : x.toInt ≠ 13 := fun e => ne_toInt h13 (e.trans (by decide))
  have e14 : x.toInt ≠ 14 := fun e => ne_toInt h14 (e.trans (by decide))
  have e15 : x.toInt ≠ 15 := fun e => ne_toInt h15 (e.trans (by decide))
  have e16 : x.toInt ≠ 16 := fun e => ne_toInt h16 (e.trans (by decide))
  have e17 : x.toInt ≠ 17 := fun e => ne_toInt h17 (e.trans (by decide))
  have e18 : x.toInt ≠ 18 := fun e => ne_toInt h18 (e.trans (by decide))
  have e19 : x.toInt ≠ 19 := fun e => ne_toInt h19 (e.trans (by decide))
  have e20 : x.toInt ≠ 20 := fun e => ne_toInt h20 (e.trans (by decide))
  have e21 : x.toInt ≠ 21 := fun e => ne_toInt h21 (e.trans (by decide))
  have e22 : x.toInt ≠ 22 := fun e => ne_toInt h22 (e.trans (by decide))
  have e23 : x.toInt ≠ 23 := fun e => ne_toInt h23 (e.trans (by decide))
  have e24 : x.toInt ≠ 24 := fun e => ne_toInt h24 (e.trans (by decide))
  have e25 : x.toInt ≠ 25 := fun e => ne_toInt h25 (e.trans (by decide))
  have e26 : x.toInt ≠ 26 := fun e => ne_toInt h26 (e.trans (by decide))
  have e27 : x.toInt ≠ 27 := fun e => ne_toInt h27 (e.trans (by decide))
  have e28 : x.toInt ≠ 28 := fun e => ne_toInt h28 (e.trans (by decide))
  have e29 : x.toInt ≠ 29 := fun e => ne_toInt h29 (e.trans (by decide))
  have e30 : x.toInt ≠ 30 := fun e => ne_toInt h30 (e.trans (by decide))
  have e31 : x.toInt ≠ 31 := fun e => ne_toInt h31 (e.trans (by decide))
  have e32 : x.toInt ≠ 32 := fun e => ne_toInt h32 (e.trans (by decide))
  have e33 : x.toInt ≠ 33 := fun e => ne_toInt h33 (e.trans (by decide))
  have e34 : x.toInt ≠ 34 := fun e => ne_toInt h34 (e.trans (by decide))
  have e35 : x.toInt ≠ 35 := fun e => ne_toInt h35 (e.trans (by decide))
  have e36 : x.toInt ≠ 36 := fun e => ne_toInt h36 (e.trans (by decide))
  have e37 : x.toInt ≠ 37 := fun e => ne_toInt h37 (e.trans (by decide))
  have e38 : x.toInt ≠ 38 := fun e => ne_toInt h38 (e.trans (by decide))
  have e39 : x.toInt ≠ 39 := fun e => ne_toInt h39 (e.trans (by decide))
  omega
def f_L_law_1301 (N : Nat) (xs : Nat → Int32) (L : Nat) (K18 : Int32 → Mm → Option Unit) (v3 : Int32) (σ : Mm) : Option Unit := K18 (v3 + (6 : Int32)) (σ)
set_option maxRecDepth 100000 in
set_option maxHeartbeats 4000000 in
theorem w_L_law_1301 {p : Program} {l : Launch} {e : Env} {s : State} {m : MethodId} {below : List Frame} {meth : Method} {c : Code} {E : XE} {b L : Nat} {xs : Nat → Int32} (N : Nat) (hG : GG E 0 4 RL cL_law p s m #[Value.ref b] c) (hX : va_X b L xs s s.heap) (hbl : b < s.heap.size) (hr : meth.sig.returnType = ret) (hk : meth.locks = false) {K18 : Int32 → Mm → Option Unit} (hK18 : ∀ (v3 : Int32) (σ : Mm), JR E 0 4 p l e room_1 s m #[Value.ref b] below meth c 89 28555 (fun _ : Unit => lw_Z below #[Value.ref b] s) 18 [(0, .ref b), (1, .ref (E.B + 0)), (2, .ref (E.B + 66)), (3, .int v3)] [] σ (K18 v3 σ)) (v3 : Int32) (σ : Mm) : JR E 0 4 p l e room_1 s m #[Value.ref b] below meth c 89 28555 (fun _ : Unit => lw_Z below #[Value.ref b] s) 1301 [(0, .ref b), (1, .ref (E.B + 0)), (2, .ref (E.B + 66)), (3, .int v3)] [] σ (f_L_law_1301 N xs L K18 v3 σ) := by
  show JR E 0 4 p l e room_1 s m #[Value.ref b] below meth c 89 28555 (fun _ : Unit => lw_Z below #[Value.ref b] s) 1301 [(0, .ref b), (1, .ref (E.B + 0)), (2, .ref (E.B + 66)), (3, .int v3)] [] σ (K18 (v3 + (6 : Int32)) (σ))
  refine jr_iinc (v := v3 + (6 : Int32)) (lv' := [(3, .int (v3 + (6 : Int32))), (0, .ref b), (1, .ref (E.B + 0)), (2, .ref (E.B + 66))]) hG 3 dL_law_1301 rfl rfl (by decide) rfl ?_
  refine jr_goto hG 18 dL_law_1304 (by decide) ?_
  refine jr_sub (lv' := [(0, .ref b), (1, .ref (E.B + 0)), (2, .ref (E.B + 66)), (3, .int (v3 + (6 : Int32)))]) [1, 2, 3, 0] rfl ?_
  exact hK18 (v3 + (6 : Int32)) (σ)
def f_L_law_1287 (N : Nat) (xs : Nat → Int32) (L : Nat) (K18 : Int32 → Mm → Option Unit) (v3 : Int32) (σ : Mm) : Option Unit := bL (f_X5_digest N (0) (σ)) (fun r2 t1 => bL (f_X6_digest N (66) t1) (fun r4 t3 => if (lg_cmp r2 r4) = 0 then (f_L_law_1301 N xs L K18 v3 t3) else none))
set_option maxRecDepth 100000 in
set_option maxHeartbeats 4000000 in
theorem w_L_law_1287 {p : Program} {l : Launch} {e : Env} {s : State} {m : MethodId} {below : List Frame} {meth : Method} {c : Code} {E : XE} {b L : Nat} {xs : Nat → Int32} (N : Nat) (hG : GG E 0 4 RL cL_law p s m #[Value.ref b] c) (hX : va_X b L xs s s.heap) (hbl : b < s.heap.size) (hr : meth.sig.returnType = ret) (hk : meth.locks = false) {K18 : Int32 → Mm → Option Unit} (hK18 : ∀ (v3 : Int32) (σ : Mm), JR E 0 4 p l e room_1 s m #[Value.ref b] below meth c 89 28555 (fun _ : Unit => lw_Z below #[Value.ref b] s) 18 [(0, .ref b), (1, .ref (E.B + 0)), (2, .ref (E.B + 66)), (3, .int v3)] [] σ (K18 v3 σ)) (v3 : Int32) (σ : Mm) : JR E 0 4 p l e room_1 s m #[Value.ref b] below meth c 89 28555 (fun _ : Unit => lw_Z below #[Value.ref b] s) 1287 [(0, .ref b), (1, .ref (E.B + 0)), (2, .ref (E.B + 66)), (3, .int v3)] [] σ (f_L_law_1287 N xs L K18 v3 σ) := by
  show JR E 0 4 p l e room_1 s m #[Value.ref b] below meth c 89 28555 (fun _ : Unit => lw_Z below #[Value.ref b] s) 1287 [(0, .ref b), (1, .ref (E.B + 0)), (2, .ref (E.B + 66)), (3, .int v3)] [] σ (bL (f_X5_digest N (0) (σ)) (fun r2 t1 => bL (f_X6_digest N (66) t1) (fun r4 t3 => if (lg_cmp r2 r4) = 0 then (f_L_law_1301 N xs L K18 v3 t3) else none)))
  refine jr_aload_n hG 1 dL_law_1287 rfl rfl ?_
  refine jr_callVl (As := []) hG (c_X5_digest l E N (0) (σ)) ci_X5_digest wd_713 ⟨wd_714, wd_715⟩ cl_5 (okO_s ok_x0) (okO_l ok_x0) ⟨rfl, rfl, Nat.le_of_ble_eq_true rfl, Nat.le_of_ble_eq_true rfl⟩ rfl rfl (Nat.le_of_ble_eq_true rfl) dL_law_1288 ⟨by decide, by decide⟩ (fun r2 t1 => ?_)
  refine jr_aload_n hG 2 dL_law_1291 rfl rfl ?_
  refine jr_callVl (As := []) hG (c_X6_digest l E N (66) t1) ci_X6_digest wd_1212 ⟨wd_1213, wd_1214⟩ cl_6 (okO_s ok_m66) (okO_l ok_m66) ⟨rfl, rfl, Nat.le_of_ble_eq_true rfl, Nat.le_of_ble_eq_true rfl⟩ rfl rfl (Nat.le_of_ble_eq_true rfl) dL_law_1292 ⟨by decide, by decide⟩ (fun r4 t3 => ?_)
  refine jr_lcmp hG dL_law_1295 ?_
  refine jr_if_eq hG 1301 dL_law_1296 (by decide) (fun _ => ?_) (fun _ => ?_)
  · exact w_L_law_1301 N hG hX hbl hr hk hK18 v3 t3
  · refine jr_iconst (v := (0 : Int32)) hG dL_law_1299 (by decide) ?_
    exact jr_none
def f_L_law_1264 (N : Nat) (xs : Nat → Int32) (L : Nat) (K18 : Int32 → Mm → Option Unit) (v3 : Int32) (σ : Mm) : Option Unit := if inb (v3 + (1 : Int32)) L then (bI (f_X5_findings N (0) (xs (ix (v3 + (1 : Int32)))) (σ)) (fun r6 t5 => if inb (v3 + (1 : Int32)) L then (bI (f_X6_findings N (66) (xs (ix (v3 + (1 : Int32)))) t5) (fun r8 t7 => if r6 = r8 then (f_L_law_1301 N xs L K18 v3 t7) else none)) else none)) else none
set_option maxRecDepth 100000 in
set_option maxHeartbeats 4000000 in
theorem w_L_law_1264 {p : Program} {l : Launch} {e : Env} {s : State} {m : MethodId} {below : List Frame} {meth : Method} {c : Code} {E : XE} {b L : Nat} {xs : Nat → Int32} (N : Nat) (hG : GG E 0 4 RL cL_law p s m #[Value.ref b] c) (hX : va_X b L xs s s.heap) (hbl : b < s.heap.size) (hr : meth.sig.returnType = ret) (hk : meth.locks = false) {K18 : Int32 → Mm → Option Unit} (hK18 : ∀ (v3 : Int32) (σ : Mm), JR E 0 4 p l e room_1 s m #[Value.ref b] below meth c 89 28555 (fun _ : Unit => lw_Z below #[Value.ref b] s) 18 [(0, .ref b), (1, .ref (E.B + 0)), (2, .ref (E.B + 66)), (3, .int v3)] [] σ (K18 v3 σ)) (v3 : Int32) (σ : Mm) : JR E 0 4 p l e room_1 s m #[Value.ref b] below meth c 89 28555 (fun _ : Unit => lw_Z below #[Value.ref b] s) 1264 [(0, .ref b), (1, .ref (E.B + 0)), (2, .ref (E.B + 66)), (3, .int v3)] [] σ (f_L_law_1264 N xs L K18 v3 σ) := by
  show JR E 0 4 p l e room_1 s m #[Value.ref b] below meth c 89 28555 (fun _ : Unit => lw_Z below #[Value.ref b] s) 1264 [(0, .ref b), (1, .ref (E.B + 0)), (2, .ref (E.B + 66)), (3, .int v3)] [] σ (if inb (v3 + (1 : Int32)) L then (bI (f_X5_findings N (0) (xs (ix (v3 + (1 : Int32)))) (σ)) (fun r6 t5 => if inb (v3 + (1 : Int32)) L then (bI (f_X6_findings N (66) (xs (ix (v3 + (1 : Int32)))) t5) (fun r8 t7 => if r6 = r8 then (f_L_law_1301 N xs L K18 v3 t7) else none)) else none)) else none)
  refine jr_aload_n hG 1 dL_law_1264 rfl rfl ?_
  refine jr_aload_n hG 0 dL_law_1265 rfl rfl ?_
  refine jr_iload_n hG 3 dL_law_1266 rfl rfl ?_
  refine jr_iconst (v := (1 : Int32)) hG dL_law_1267 (by decide) ?_
  refine jr_iadd hG dL_law_1268 ?_
  refine jr_sld hG hX hbl dL_law_1269 ?_
  refine jr_callVi (As := [.int (xs (ix (v3 + (1 : Int32))))]) hG (c_X5_findings l E N (0) (xs (ix (v3 + (1 : Int32)))) (σ)) ci_X5_findings wd_709 ⟨wd_710, wd_711⟩ cl_5 (okO_s ok_x0) (okO_l ok_x0) ⟨rfl, rfl, Nat.le_of_ble_eq_true rfl, Nat.le_of_ble_eq_true rfl⟩ rfl rfl (Nat.le_of_ble_eq_true rfl) dL_law_1270 ⟨by decide, by decide⟩ (fun r6 t5 => ?_)
  refine jr_aload_n hG 2 dL_law_1273 rfl rfl ?_
  refine jr_aload_n hG 0 dL_law_1274 rfl rfl ?_
  refine jr_iload_n hG 3 dL_law_1275 rfl rfl ?_
  refine jr_iconst (v := (1 : Int32)) hG dL_law_1276 (by decide) ?_
  refine jr_iadd hG dL_law_1277 ?_
  refine jr_sld hG hX hbl dL_law_1278 ?_
  refine jr_callVi (As := [.int (xs (ix (v3 + (1 : Int32))))]) hG (c_X6_findings l E N (66) (xs (ix (v3 + (1 : Int32)))) t5) ci_X6_findings wd_843 ⟨wd_844, wd_845⟩ cl_6 (okO_s ok_m66) (okO_l ok_m66) ⟨rfl, rfl, Nat.le_of_ble_eq_true rfl, Nat.le_of_ble_eq_true rfl⟩ rfl rfl (Nat.le_of_ble_eq_true rfl) dL_law_1279 ⟨by decide, by decide⟩ (fun r8 t7 => ?_)
  refine jr_icmp_eq hG 1301 dL_law_1282 (by decide) (fun _ => ?_) (fun _ => ?_)
  · exact w_L_law_1301 N hG hX hbl hr hk hK18 v3 t7
  · refine jr_iconst (v := (0 : Int32)) hG dL_law_1285 (by decide) ?_
    exact jr_none
def f_L_law_1251 (N : Nat) (xs : Nat → Int32) (L : Nat) (K18 : Int32 → Mm → Option Unit) (v3 : Int32) (σ : Mm) : Option Unit := bI (f_X5_finding N (0) (σ)) (fun r10 t9 => bI (f_X6_finding N (66) t9) (fun r12 t11 => if r10 = r12 then (f_L_law_1301 N xs L K18 v3 t11) else none))
set_option maxRecDepth 100000 in
set_option maxHeartbeats 4000000 in
theorem w_L_law_1251 {p : Program} {l : Launch} {e : Env} {s : State} {m : MethodId} {below : List Frame} {meth : Method} {c : Code} {E : XE} {b L : Nat} {xs : Nat → Int32} (N : Nat) (hG : GG E 0 4 RL cL_law p s m #[Value.ref b] c) (hX : va_X b L xs s s.heap) (hbl : b < s.heap.size) (hr : meth.sig.returnType = ret) (hk : meth.locks = false) {K18 : Int32 → Mm → Option Unit} (hK18 : ∀ (v3 : Int32) (σ : Mm), JR E 0 4 p l e room_1 s m #[Value.ref b] below meth c 89 28555 (fun _ : Unit => lw_Z below #[Value.ref b] s) 18 [(0, .ref b), (1, .ref (E.B + 0)), (2, .ref (E.B + 66)), (3, .int v3)] [] σ (K18 v3 σ)) (v3 : Int32) (σ : Mm) : JR E 0 4 p l e room_1 s m #[Value.ref b] below meth c 89 28555 (fun _ : Unit => lw_Z below #[Value.ref b] s) 1251 [(0, .ref b), (1, .ref (E.B + 0)), (2, .ref (E.B + 66)), (3, .int v3)] [] σ (f_L_law_1251 N xs L K18 v3 σ) := by
  show JR E 0 4 p l e room_1 s m #[Value.ref b] below meth c 89 28555 (fun _ : Unit => lw_Z below #[Value.ref b] s) 1251 [(0, .ref b), (1, .ref (E.B + 0)), (2, .ref (E.B + 66)), (3, .int v3)] [] σ (bI (f_X5_finding N (0) (σ)) (fun r10 t9 => bI (f_X6_finding N (66) t9) (fun r12 t11 => if r10 = r12 then (f_L_law_1301 N xs L K18 v3 t11) else none)))
  refine jr_aload_n hG 1 dL_law_1251 rfl rfl ?_
  refine jr_callVi (As := []) hG (c_X5_finding l E N (0) (σ)) ci_X5_finding wd_705 ⟨wd_706, wd_707⟩ cl_5 (okO_s ok_x0) (okO_l ok_x0) ⟨rfl, rfl, Nat.le_of_ble_eq_true rfl, Nat.le_of_ble_eq_true rfl⟩ rfl rfl (Nat.le_of_ble_eq_true rfl) dL_law_1252 ⟨by decide, by decide⟩ (fun r10 t9 => ?_)
  refine jr_aload_n hG 2 dL_law_1255 rfl rfl ?_
  refine jr_callVi (As := []) hG (c_X6_finding l E N (66) t9) ci_X6_finding wd_839 ⟨wd_840, wd_841⟩ cl_6 (okO_s ok_m66) (okO_l ok_m66) ⟨rfl, rfl, Nat.le_of_ble_eq_true rfl, Nat.le_of_ble_eq_true rfl⟩ rfl rfl (Nat.le_of_ble_eq_true rfl) dL_law_1256 ⟨by decide, by decide⟩ (fun r12 t11 => ?_)
  refine jr_icmp_eq hG 1301 dL_law_1259 (by decide) (fun _ => ?_) (fun _ => ?_)
  · exact w_L_law_1301 N hG hX hbl hr hk hK18 v3 t11
  · refine jr_iconst (v := (0 : Int32)) hG dL_law_1262 (by decide) ?_
    exact jr_none
def f_L_law_1228 (N : Nat) (xs : Nat → Int32) (L : Nat) (K18 : Int32 → Mm → Option Unit) (v3 : Int32) (σ : Mm) : Option Unit := if inb (v3 + (1 : Int32)) L then (bI (f_X5_count N (0) (xs (ix (v3 + (1 : Int32)))) (σ)) (fun r14 t13 => if inb (v3 + (1 : Int32)) L then (bI (f_X6_count N (66) (xs (ix (v3 + (1 : Int32)))) t13) (fun r16 t15 => if r14 = r16 then (f_L_law_1301 N xs L K18 v3 t15) else none)) else none)) else none
set_option maxRecDepth 100000 in
set_option maxHeartbeats 4000000 in
theorem w_L_law_1228 {p : Program} {l : Launch} {e : Env} {s : State} {m : MethodId} {below : List Frame} {meth : Method} {c : Code} {E : XE} {b L : Nat} {xs : Nat → Int32} (N : Nat) (hG : GG E 0 4 RL cL_law p s m #[Value.ref b] c) (hX : va_X b L xs s s.heap) (hbl : b < s.heap.size) (hr : meth.sig.returnType = ret) (hk : meth.locks = false) {K18 : Int32 → Mm → Option Unit} (hK18 : ∀ (v3 : Int32) (σ : Mm), JR E 0 4 p l e room_1 s m #[Value.ref b] below meth c 89 28555 (fun _ : Unit => lw_Z below #[Value.ref b] s) 18 [(0, .ref b), (1, .ref (E.B + 0)), (2, .ref (E.B + 66)), (3, .int v3)] [] σ (K18 v3 σ)) (v3 : Int32) (σ : Mm) : JR E 0 4 p l e room_1 s m #[Value.ref b] below meth c 89 28555 (fun _ : Unit => lw_Z below #[Value.ref b] s) 1228 [(0, .ref b), (1, .ref (E.B + 0)), (2, .ref (E.B + 66)), (3, .int v3)] [] σ (f_L_law_1228 N xs L K18 v3 σ) := by
  show JR E 0 4 p l e room_1 s m #[Value.ref b] below meth c 89 28555 (fun _ : Unit => lw_Z below #[Value.ref b] s) 1228 [(0, .ref b), (1, .ref (E.B + 0)), (2, .ref (E.B + 66)), (3, .int v3)] [] σ (if inb (v3 + (1 : Int32)) L then (bI (f_X5_count N (0) (xs (ix (v3 + (1 : Int32)))) (σ)) (fun r14 t13 => if inb (v3 + (1 : Int32)) L then (bI (f_X6_count N (66) (xs (ix (v3 + (1 : Int32)))) t13) (fun r16 t15 => if r14 = r16 then (f_L_law_1301 N xs L K18 v3 t15) else none)) else none)) else none)
  refine jr_aload_n hG 1 dL_law_1228 rfl rfl ?_
  refine jr_aload_n hG 0 dL_law_1229 rfl rfl ?_
  refine jr_iload_n hG 3 dL_law_1230 rfl rfl ?_
  refine jr_iconst (v := (1 : Int32)) hG dL_law_1231 (by decide) ?_
  refine jr_iadd hG dL_law_1232 ?_
  refine jr_sld hG hX hbl dL_law_1233 ?_
  refine jr_callVi (As := [.int (xs (ix (v3 + (1 : Int32))))]) hG (c_X5_count l E N (0) (xs (ix (v3 + (1 : Int32)))) (σ)) ci_X5_count wd_685 ⟨wd_686, wd_687⟩ cl_5 (okO_s ok_x0) (okO_l ok_x0) ⟨rfl, rfl, Nat.le_of_ble_eq_true rfl, Nat.le_of_ble_eq_true rfl⟩ rfl rfl (Nat.le_of_ble_eq_true rfl) dL_law_1234 ⟨by decide, by decide⟩ (fun r14 t13 => ?_)
  refine jr_aload_n hG 2 dL_law_1237 rfl rfl ?_
  refine jr_aload_n hG 0 dL_law_1238 rfl rfl ?_
  refine jr_iload_n hG 3 dL_law_1239 rfl rfl ?_
  refine jr_iconst (v := (1 : Int32)) hG dL_law_1240 (by decide) ?_
  refine jr_iadd hG dL_law_1241 ?_
  refine jr_sld hG hX hbl dL_law_1242 ?_
  refine jr_callVi (As := [.int (xs (ix (v3 + (1 : Int32))))]) hG (c_X6_count l E N (66) (xs (ix (v3 + (1 : Int32)))) t13) ci_X6_count wd_1204 ⟨wd_1205, wd_1206⟩ cl_6 (okO_s ok_m66) (okO_l ok_m66) ⟨rfl, rfl, Nat.le_of_ble_eq_true rfl, Nat.le_of_ble_eq_true rfl⟩ rfl rfl (Nat.le_of_ble_eq_true rfl) dL_law_1243 ⟨by decide, by decide⟩ (fun r16 t15 => ?_)
  refine jr_icmp_eq hG 1301 dL_law_1246 (by decide) (fun _ => ?_) (fun _ => ?_)
  · exact w_L_law_1301 N hG hX hbl hr hk hK18 v3 t15
  · refine jr_iconst (v := (0 : Int32)) hG dL_law_1249 (by decide) ?_
    exact jr_none
def f_L_law_1214 (N : Nat) (xs : Nat → Int32) (L : Nat) (K18 : Int32 → Mm → Option Unit) (v3 : Int32) (σ : Mm) : Option Unit := bL (f_X5_lower N (0) (σ)) (fun r18 t17 => bL (f_X6_lower N (66) t17) (fun r20 t19 => if (lg_cmp r18 r20) = 0 then (f_L_law_1301 N xs L K18 v3 t19) else none))
set_option maxRecDepth 100000 in
set_option maxHeartbeats 4000000 in
theorem w_L_law_1214 {p : Program} {l : Launch} {e : Env} {s : State} {m : MethodId} {below : List Frame} {meth : Method} {c : Code} {E : XE} {b L : Nat} {xs : Nat → Int32} (N : Nat) (hG : GG E 0 4 RL cL_law p s m #[Value.ref b] c) (hX : va_X b L xs s s.heap) (hbl : b < s.heap.size) (hr : meth.sig.returnType = ret) (hk : meth.locks = false) {K18 : Int32 → Mm → Option Unit} (hK18 : ∀ (v3 : Int32) (σ : Mm), JR E 0 4 p l e room_1 s m #[Value.ref b] below meth c 89 28555 (fun _ : Unit => lw_Z below #[Value.ref b] s) 18 [(0, .ref b), (1, .ref (E.B + 0)), (2, .ref (E.B + 66)), (3, .int v3)] [] σ (K18 v3 σ)) (v3 : Int32) (σ : Mm) : JR E 0 4 p l e room_1 s m #[Value.ref b] below meth c 89 28555 (fun _ : Unit => lw_Z below #[Value.ref b] s) 1214 [(0, .ref b), (1, .ref (E.B + 0)), (2, .ref (E.B + 66)), (3, .int v3)] [] σ (f_L_law_1214 N xs L K18 v3 σ) := by
  show JR E 0 4 p l e room_1 s m #[Value.ref b] below meth c 89 28555 (fun _ : Unit => lw_Z below #[Value.ref b] s) 1214 [(0, .ref b), (1, .ref (E.B + 0)), (2, .ref (E.B + 66)), (3, .int v3)] [] σ (bL (f_X5_lower N (0) (σ)) (fun r18 t17 => bL (f_X6_lower N (66) t17) (fun r20 t19 => if (lg_cmp r18 r20) = 0 then (f_L_law_1301 N xs L K18 v3 t19) else none)))
  refine jr_aload_n hG 1 dL_law_1214 rfl rfl ?_
  refine jr_callVl (As := []) hG (c_X5_lower l E N (0) (σ)) ci_X5_lower wd_681 ⟨wd_682, wd_683⟩ cl_5 (okO_s ok_x0) (okO_l ok_x0) ⟨rfl, rfl, Nat.le_of_ble_eq_true rfl, Nat.le_of_ble_eq_true rfl⟩ rfl rfl (Nat.le_of_ble_eq_true rfl) dL_law_1215 ⟨by decide, by decide⟩ (fun r18 t17 => ?_)
  refine jr_aload_n hG 2 dL_law_1218 rfl rfl ?_
  refine jr_callVl (As := []) hG (c_X6_lower l E N (66) t17) ci_X6_lower wd_858 ⟨wd_859, wd_860⟩ cl_6 (okO_s ok_m66) (okO_l ok_m66) ⟨rfl, rfl, Nat.le_of_ble_eq_true rfl, Nat.le_of_ble_eq_true rfl⟩ rfl rfl (Nat.le_of_ble_eq_true rfl) dL_law_1219 ⟨by decide, by decide⟩ (fun r20 t19 => ?_)
  refine jr_lcmp hG dL_law_1222 ?_
  refine jr_if_eq hG 1301 dL_law_1223 (by decide) (fun _ => ?_) (fun _ => ?_)
  · exact w_L_law_1301 N hG hX hbl hr hk hK18 v3 t19
  · refine jr_iconst (v := (0 : Int32)) hG dL_law_1226 (by decide) ?_
    exact jr_none
def f_L_law_1200 (N : Nat) (xs : Nat → Int32) (L : Nat) (K18 : Int32 → Mm → Option Unit) (v3 : Int32) (σ : Mm) : Option Unit := bL (f_X5_upper N (0) (σ)) (fun r22 t21 => bL (f_X6_upper N (66) t21) (fun r24 t23 => if (lg_cmp r22 r24) = 0 then (f_L_law_1301 N xs L K18 v3 t23) else none))
set_option maxRecDepth 100000 in
set_option maxHeartbeats 4000000 in
theorem w_L_law_1200 {p : Program} {l : Launch} {e : Env} {s : State} {m : MethodId} {below : List Frame} {meth : Method} {c : Code} {E : XE} {b L : Nat} {xs : Nat → Int32} (N : Nat) (hG : GG E 0 4 RL cL_law p s m #[Value.ref b] c) (hX : va_X b L xs s s.heap) (hbl : b < s.heap.size) (hr : meth.sig.returnType = ret) (hk : meth.locks = false) {K18 : Int32 → Mm → Option Unit} (hK18 : ∀ (v3 : Int32) (σ : Mm), JR E 0 4 p l e room_1 s m #[Value.ref b] below meth c 89 28555 (fun _ : Unit => lw_Z below #[Value.ref b] s) 18 [(0, .ref b), (1, .ref (E.B + 0)), (2, .ref (E.B + 66)), (3, .int v3)] [] σ (K18 v3 σ)) (v3 : Int32) (σ : Mm) : JR E 0 4 p l e room_1 s m #[Value.ref b] below meth c 89 28555 (fun _ : Unit => lw_Z below #[Value.ref b] s) 1200 [(0, .ref b), (1, .ref (E.B + 0)), (2, .ref (E.B + 66)), (3, .int v3)] [] σ (f_L_law_1200 N xs L K18 v3 σ) := by
  show JR E 0 4 p l e room_1 s m #[Value.ref b] below meth c 89 28555 (fun _ : Unit => lw_Z below #[Value.ref b] s) 1200 [(0, .ref b), (1, .ref (E.B + 0)), (2, .ref (E.B + 66)), (3, .int v3)] [] σ (bL (f_X5_upper N (0) (σ)) (fun r22 t21 => bL (f_X6_upper N (66) t21) (fun r24 t23 => if (lg_cmp r22 r24) = 0 then (f_L_law_1301 N xs L K18 v3 t23) else none)))
  refine jr_aload_n hG 1 dL_law_1200 rfl rfl ?_
  refine jr_callVl (As := []) hG (c_X5_upper l E N (0) (σ)) ci_X5_upper wd_677 ⟨wd_678, wd_679⟩ cl_5 (okO_s ok_x0) (okO_l ok_x0) ⟨rfl, rfl, Nat.le_of_ble_eq_true rfl, Nat.le_of_ble_eq_true rfl⟩ rfl rfl (Nat.le_of_ble_eq_true rfl) dL_law_1201 ⟨by decide, by decide⟩ (fun r22 t21 => ?_)
  refine jr_aload_n hG 2 dL_law_1204 rfl rfl ?_
  refine jr_callVl (As := []) hG (c_X6_upper l E N (66) t21) ci_X6_upper wd_854 ⟨wd_855, wd_856⟩ cl_6 (okO_s ok_m66) (okO_l ok_m66) ⟨rfl, rfl, Nat.le_of_ble_eq_true rfl, Nat.le_of_ble_eq_true rfl⟩ rfl rfl (Nat.le_of_ble_eq_true rfl) dL_law_1205 ⟨by decide, by decide⟩ (fun r24 t23 => ?_)
  refine jr_lcmp hG dL_law_1208 ?_
  refine jr_if_eq hG 1301 dL_law_1209 (by decide) (fun _ => ?_) (fun _ => ?_)
  · exact w_L_law_1301 N hG hX hbl hr hk hK18 v3 t23
  · refine jr_iconst (v := (0 : Int32)) hG dL_law_1212 (by decide) ?_
    exact jr_none
def f_L_law_1187 (N : Nat) (xs : Nat → Int32) (L : Nat) (K18 : Int32 → Mm → Option Unit) (v3 : Int32) (σ : Mm) : Option Unit := bI (f_X5_asked N (0) (σ)) (fun r26 t25 => bI (f_X6_asked N (66) t25) (fun r28 t27 => if r26 = r28 then (f_L_law_1301 N xs L K18 v3 t27) else none))
set_option maxRecDepth 100000 in
set_option maxHeartbeats 4000000 in
theorem w_L_law_1187 {p : Program} {l : Launch} {e : Env} {s : State} {m : MethodId} {below : List Frame} {meth : Method} {c : Code} {E : XE} {b L : Nat} {xs : Nat → Int32} (N : Nat) (hG : GG E 0 4 RL cL_law p s m #[Value.ref b] c) (hX : va_X b L xs s s.heap) (hbl : b < s.heap.size) (hr : meth.sig.returnType = ret) (hk : meth.locks = false) {K18 : Int32 → Mm → Option Unit} (hK18 : ∀ (v3 : Int32) (σ : Mm), JR E 0 4 p l e room_1 s m #[Value.ref b] below meth c 89 28555 (fun _ : Unit => lw_Z below #[Value.ref b] s) 18 [(0, .ref b), (1, .ref (E.B + 0)), (2, .ref (E.B + 66)), (3, .int v3)] [] σ (K18 v3 σ)) (v3 : Int32) (σ : Mm) : JR E 0 4 p l e room_1 s m #[Value.ref b] below meth c 89 28555 (fun _ : Unit => lw_Z below #[Value.ref b] s) 1187 [(0, .ref b), (1, .ref (E.B + 0)), (2, .ref (E.B + 66)), (3, .int v3)] [] σ (f_L_law_1187 N xs L K18 v3 σ) := by
  show JR E 0 4 p l e room_1 s m #[Value.ref b] below meth c 89 28555 (fun _ : Unit => lw_Z below #[Value.ref b] s) 1187 [(0, .ref b), (1, .ref (E.B + 0)), (2, .ref (E.B + 66)), (3, .int v3)] [] σ (bI (f_X5_asked N (0) (σ)) (fun r26 t25 => bI (f_X6_asked N (66) t25) (fun r28 t27 => if r26 = r28 then (f_L_law_1301 N xs L K18 v3 t27) else none)))
  refine jr_aload_n hG 1 dL_law_1187 rfl rfl ?_
  refine jr_callVi (As := []) hG (c_X5_asked l E N (0) (σ)) ci_X5_asked wd_673 ⟨wd_674, wd_675⟩ cl_5 (okO_s ok_x0) (okO_l ok_x0) ⟨rfl, rfl, Nat.le_of_ble_eq_true rfl, Nat.le_of_ble_eq_true rfl⟩ rfl rfl (Nat.le_of_ble_eq_true rfl) dL_law_1188 ⟨by decide, by decide⟩ (fun r26 t25 => ?_)
  refine jr_aload_n hG 2 dL_law_1191 rfl rfl ?_
  refine jr_callVi (As := []) hG (c_X6_asked l E N (66) t25) ci_X6_asked wd_850 ⟨wd_851, wd_852⟩ cl_6 (okO_s ok_m66) (okO_l ok_m66) ⟨rfl, rfl, Nat.le_of_ble_eq_true rfl, Nat.le_of_ble_eq_true rfl⟩ rfl rfl (Nat.le_of_ble_eq_true rfl) dL_law_1192 ⟨by decide, by decide⟩ (fun r28 t27 => ?_)
  refine jr_icmp_eq hG 1301 dL_law_1195 (by decide) (fun _ => ?_) (fun _ => ?_)
  · exact w_L_law_1301 N hG hX hbl hr hk hK18 v3 t27
  · refine jr_iconst (v := (0 : Int32)) hG dL_law_1198 (by decide) ?_
    exact jr_none
def f_L_law_1154 (N : Nat) (xs : Nat → Int32) (L : Nat) (K18 : Int32 → Mm → Option Unit) (v3 : Int32) (σ : Mm) : Option Unit := if inb (v3 + (1 : Int32)) L then (if inb (v3 + (2 : Int32)) L then (bI (f_X5_lots N (0) (xs (ix (v3 + (1 : Int32)))) (xs (ix (v3 + (2 : Int32)))) (σ)) (fun r30 t29 => if inb (v3 + (1 : Int32)) L then (if inb (v3 + (2 : Int32)) L then (bI (f_X6_lots N (66) (xs (ix (v3 + (1 : Int32)))) (xs (ix (v3 + (2 : Int32)))) t29) (fun r32 t31 => if r30 = r32 then (f_L_law_1301 N xs L K18 v3 t31) else none)) else none) else none)) else none) else none
set_option maxRecDepth 100000 in
set_option maxHeartbeats 4000000 in
theorem w_L_law_1154 {p : Program} {l : Launch} {e : Env} {s : State} {m : MethodId} {below : List Frame} {meth : Method} {c : Code} {E : XE} {b L : Nat} {xs : Nat → Int32} (N : Nat) (hG : GG E 0 4 RL cL_law p s m #[Value.ref b] c) (hX : va_X b L xs s s.heap) (hbl : b < s.heap.size) (hr : meth.sig.returnType = ret) (hk : meth.locks = false) {K18 : Int32 → Mm → Option Unit} (hK18 : ∀ (v3 : Int32) (σ : Mm), JR E 0 4 p l e room_1 s m #[Value.ref b] below meth c 89 28555 (fun _ : Unit => lw_Z below #[Value.ref b] s) 18 [(0, .ref b), (1, .ref (E.B + 0)), (2, .ref (E.B + 66)), (3, .int v3)] [] σ (K18 v3 σ)) (v3 : Int32) (σ : Mm) : JR E 0 4 p l e room_1 s m #[Value.ref b] below meth c 89 28555 (fun _ : Unit => lw_Z below #[Value.ref b] s) 1154 [(0, .ref b), (1, .ref (E.B + 0)), (2, .ref (E.B + 66)), (3, .int v3)] [] σ (f_L_law_1154 N xs L K18 v3 σ) := by
  show JR E 0 4 p l e room_1 s m #[Value.ref b] below meth c 89 28555 (fun _ : Unit => lw_Z below #[Value.ref b] s) 1154 [(0, .ref b), (1, .ref (E.B + 0)), (2, .ref (E.B + 66)), (3, .int v3)] [] σ (if inb (v3 + (1 : Int32)) L then (if inb (v3 + (2 : Int32)) L then (bI (f_X5_lots N (0) (xs (ix (v3 + (1 : Int32)))) (xs (ix (v3 + (2 : Int32)))) (σ)) (fun r30 t29 => if inb (v3 + (1 : Int32)) L then (if inb (v3 + (2 : Int32)) L then (bI (f_X6_lots N (66) (xs (ix (v3 + (1 : Int32)))) (xs (ix (v3 + (2 : Int32)))) t29) (fun r32 t31 => if r30 = r32 then (f_L_law_1301 N xs L K18 v3 t31) else none)) else none) else none)) else none) else none)
  refine jr_aload_n hG 1 dL_law_1154 rfl rfl ?_
  refine jr_aload_n hG 0 dL_law_1155 rfl rfl ?_
  refine jr_iload_n hG 3 dL_law_1156 rfl rfl ?_
  refine jr_iconst (v := (1 : Int32)) hG dL_law_1157 (by decide) ?_
  refine jr_iadd hG dL_law_1158 ?_
  refine jr_sld hG hX hbl dL_law_1159 ?_
  refine jr_aload_n hG 0 dL_law_1160 rfl rfl ?_
  refine jr_iload_n hG 3 dL_law_1161 rfl rfl ?_
  refine jr_iconst (v := (2 : Int32)) hG dL_law_1162 (by decide) ?_
  refine jr_iadd hG dL_law_1163 ?_
  refine jr_sld hG hX hbl dL_law_1164 ?_
  refine jr_callVi (As := [.int (xs (ix (v3 + (1 : Int32)))), .int (xs (ix (v3 + (2 : Int32))))]) hG (c_X5_lots l E N (0) (xs (ix (v3 + (1 : Int32)))) (xs (ix (v3 + (2 : Int32)))) (σ)) ci_X5_lots wd_665 ⟨wd_666, wd_667⟩ cl_5 (okO_s ok_x0) (okO_l ok_x0) ⟨rfl, rfl, Nat.le_of_ble_eq_true rfl, Nat.le_of_ble_eq_true rfl⟩ rfl rfl (Nat.le_of_ble_eq_true rfl) dL_law_1165 ⟨by decide, by decide⟩ (fun r30 t29 => ?_)
  refine jr_aload_n hG 2 dL_law_1168 rfl rfl ?_
  refine jr_aload_n hG 0 dL_law_1169 rfl rfl ?_
  refine jr_iload_n hG 3 dL_law_1170 rfl rfl ?_
  refine jr_iconst (v := (1 : Int32)) hG dL_law_1171 (by decide) ?_
  refine jr_iadd hG dL_law_1172 ?_
  refine jr_sld hG hX hbl dL_law_1173 ?_
  refine jr_aload_n hG 0 dL_law_1174 rfl rfl ?_
  refine jr_iload_n hG 3 dL_law_1175 rfl rfl ?_
  refine jr_iconst (v := (2 : Int32)) hG dL_law_1176 (by decide) ?_
  refine jr_iadd hG dL_law_1177 ?_
  refine jr_sld hG hX hbl dL_law_1178 ?_
  refine jr_callVi (As := [.int (xs (ix (v3 + (1 : Int32)))), .int (xs (ix (v3 + (2 : Int32))))]) hG (c_X6_lots l E N (66) (xs (ix (v3 + (1 : Int32)))) (xs (ix (v3 + (2 : Int32)))) t29) ci_X6_lots wd_1195 ⟨wd_1196, wd_1197⟩ cl_6 (okO_s ok_m66) (okO_l ok_m66) ⟨rfl, rfl, Nat.le_of_ble_eq_true rfl, Nat.le_of_ble_eq_true rfl⟩ rfl rfl (Nat.le_of_ble_eq_true rfl) dL_law_1179 ⟨by decide, by decide⟩ (fun r32 t31 => ?_)
  refine jr_icmp_eq hG 1301 dL_law_1182 (by decide) (fun _ => ?_) (fun _ => ?_)
  · exact w_L_law_1301 N hG hX hbl hr hk hK18 v3 t31
  · refine jr_iconst (v := (0 : Int32)) hG dL_law_1185 (by decide) ?_
    exact jr_none
def f_L_law_1131 (N : Nat) (xs : Nat → Int32) (L : Nat) (K18 : Int32 → Mm → Option Unit) (v3 : Int32) (σ : Mm) : Option Unit := if inb (v3 + (1 : Int32)) L then (bI (f_X5_calls N (0) (xs (ix (v3 + (1 : Int32)))) (σ)) (fun r34 t33 => if inb (v3 + (1 : Int32)) L then (bI (f_X6_calls N (66) (xs (ix (v3 + (1 : Int32)))) t33) (fun r36 t35 => if r34 = r36 then (f_L_law_1301 N xs L K18 v3 t35) else none)) else none)) else none
set_option maxRecDepth 100000 in
set_option maxHeartbeats 4000000 in
theorem w_L_law_1131 {p : Program} {l : Launch} {e : Env} {s : State} {m : MethodId} {below : List Frame} {meth : Method} {c : Code} {E : XE} {b L : Nat} {xs : Nat → Int32} (N : Nat) (hG : GG E 0 4 RL cL_law p s m #[Value.ref b] c) (hX : va_X b L xs s s.heap) (hbl : b < s.heap.size) (hr : meth.sig.returnType = ret) (hk : meth.locks = false) {K18 : Int32 → Mm → Option Unit} (hK18 : ∀ (v3 : Int32) (σ : Mm), JR E 0 4 p l e room_1 s m #[Value.ref b] below meth c 89 28555 (fun _ : Unit => lw_Z below #[Value.ref b] s) 18 [(0, .ref b), (1, .ref (E.B + 0)), (2, .ref (E.B + 66)), (3, .int v3)] [] σ (K18 v3 σ)) (v3 : Int32) (σ : Mm) : JR E 0 4 p l e room_1 s m #[Value.ref b] below meth c 89 28555 (fun _ : Unit => lw_Z below #[Value.ref b] s) 1131 [(0, .ref b), (1, .ref (E.B + 0)), (2, .ref (E.B + 66)), (3, .int v3)] [] σ (f_L_law_1131 N xs L K18 v3 σ) := by
  show JR E 0 4 p l e room_1 s m #[Value.ref b] below meth c 89 28555 (fun _ : Unit => lw_Z below #[Value.ref b] s) 1131 [(0, .ref b), (1, .ref (E.B + 0)), (2, .ref (E.B + 66)), (3, .int v3)] [] σ (if inb (v3 + (1 : Int32)) L then (bI (f_X5_calls N (0) (xs (ix (v3 + (1 : Int32)))) (σ)) (fun r34 t33 => if inb (v3 + (1 : Int32)) L then (bI (f_X6_calls N (66) (xs (ix (v3 + (1 : Int32)))) t33) (fun r36 t35 => if r34 = r36 then (f_L_law_1301 N xs L K18 v3 t35) else none)) else none)) else none)
  refine jr_aload_n hG 1 dL_law_1131 rfl rfl ?_
  refine jr_aload_n hG 0 dL_law_1132 rfl rfl ?_
  refine jr_iload_n hG 3 dL_law_1133 rfl rfl ?_
  refine jr_iconst (v := (1 : Int32)) hG dL_law_1134 (by decide) ?_
  refine jr_iadd hG dL_law_1135 ?_
  refine jr_sld hG hX hbl dL_law_1136 ?_
  refine jr_callVi (As := [.int (xs (ix (v3 + (1 : Int32))))]) hG (c_X5_calls l E N (0) (xs (ix (v3 + (1 : Int32)))) (σ)) ci_X5_calls wd_654 ⟨wd_655, wd_656⟩ cl_5 (okO_s ok_x0) (okO_l ok_x0) ⟨rfl, rfl, Nat.le_of_ble_eq_true rfl, Nat.le_of_ble_eq_true rfl⟩ rfl rfl (Nat.le_of_ble_eq_true rfl) dL_law_1137 ⟨by decide, by decide⟩ (fun r34 t33 => ?_)
  refine jr_aload_n hG 2 dL_law_1140 rfl rfl ?_
  refine jr_aload_n hG 0 dL_law_1141 rfl rfl ?_
  refine jr_iload_n hG 3 dL_law_1142 rfl rfl ?_
  refine jr_iconst (v := (1 : Int32)) hG dL_law_1143 (by decide) ?_
  refine jr_iadd hG dL_law_1144 ?_
  refine jr_sld hG hX hbl dL_law_1145 ?_
  refine jr_callVi (As := [.int (xs (ix (v3 + (1 : Int32))))]) hG (c_X6_calls l E N (66) (xs (ix (v3 + (1 : Int32)))) t33) ci_X6_calls wd_1191 ⟨wd_1192, wd_1193⟩ cl_6 (okO_s ok_m66) (okO_l ok_m66) ⟨rfl, rfl, Nat.le_of_ble_eq_true rfl, Nat.le_of_ble_eq_true rfl⟩ rfl rfl (Nat.le_of_ble_eq_true rfl) dL_law_1146 ⟨by decide, by decide⟩ (fun r36 t35 => ?_)
  refine jr_icmp_eq hG 1301 dL_law_1149 (by decide) (fun _ => ?_) (fun _ => ?_)
  · exact w_L_law_1301 N hG hX hbl hr hk hK18 v3 t35
  · refine jr_iconst (v := (0 : Int32)) hG dL_law_1152 (by decide) ?_
    exact jr_none
def f_L_law_1108 (N : Nat) (xs : Nat → Int32) (L : Nat) (K18 : Int32 → Mm → Option Unit) (v3 : Int32) (σ : Mm) : Option Unit := if inb (v3 + (1 : Int32)) L then (bI (f_X5_shouted N (0) (xs (ix (v3 + (1 : Int32)))) (σ)) (fun r38 t37 => if inb (v3 + (1 : Int32)) L then (bI (f_X6_shouted N (66) (xs (ix (v3 + (1 : Int32)))) t37) (fun r40 t39 => if r38 = r40 then (f_L_law_1301 N xs L K18 v3 t39) else none)) else none)) else none
set_option maxRecDepth 100000 in
set_option maxHeartbeats 4000000 in
theorem w_L_law_1108 {p : Program} {l : Launch} {e : Env} {s : State} {m : MethodId} {below : List Frame} {meth : Method} {c : Code} {E : XE} {b L : Nat} {xs : Nat → Int32} (N : Nat) (hG : GG E 0 4 RL cL_law p s m #[Value.ref b] c) (hX : va_X b L xs s s.heap) (hbl : b < s.heap.size) (hr : meth.sig.returnType = ret) (hk : meth.locks = false) {K18 : Int32 → Mm → Option Unit} (hK18 : ∀ (v3 : Int32) (σ : Mm), JR E 0 4 p l e room_1 s m #[Value.ref b] below meth c 89 28555 (fun _ : Unit => lw_Z below #[Value.ref b] s) 18 [(0, .ref b), (1, .ref (E.B + 0)), (2, .ref (E.B + 66)), (3, .int v3)] [] σ (K18 v3 σ)) (v3 : Int32) (σ : Mm) : JR E 0 4 p l e room_1 s m #[Value.ref b] below meth c 89 28555 (fun _ : Unit => lw_Z below #[Value.ref b] s) 1108 [(0, .ref b), (1, .ref (E.B + 0)), (2, .ref (E.B + 66)), (3, .int v3)] [] σ (f_L_law_1108 N xs L K18 v3 σ) := by
  show JR E 0 4 p l e room_1 s m #[Value.ref b] below meth c 89 28555 (fun _ : Unit => lw_Z below #[Value.ref b] s) 1108 [(0, .ref b), (1, .ref (E.B + 0)), (2, .ref (E.B + 66)), (3, .int v3)] [] σ (if inb (v3 + (1 : Int32)) L then (bI (f_X5_shouted N (0) (xs (ix (v3 + (1 : Int32)))) (σ)) (fun r38 t37 => if inb (v3 + (1 : Int32)) L then (bI (f_X6_shouted N (66) (xs (ix (v3 + (1 : Int32)))) t37) (fun r40 t39 => if r38 = r40 then (f_L_law_1301 N xs L K18 v3 t39) else none)) else none)) else none)
  refine jr_aload_n hG 1 dL_law_1108 rfl rfl ?_
  refine jr_aload_n hG 0 dL_law_1109 rfl rfl ?_
  refine jr_iload_n hG 3 dL_law_1110 rfl rfl ?_
  refine jr_iconst (v := (1 : Int32)) hG dL_law_1111 (by decide) ?_
  refine jr_iadd hG dL_law_1112 ?_
  refine jr_sld hG hX hbl dL_law_1113 ?_
  refine jr_callVi (As := [.int (xs (ix (v3 + (1 : Int32))))]) hG (c_X5_shouted l E N (0) (xs (ix (v3 + (1 : Int32)))) (σ)) ci_X5_shouted wd_645 ⟨wd_646, wd_647⟩ cl_5 (okO_s ok_x0) (okO_l ok_x0) ⟨rfl, rfl, Nat.le_of_ble_eq_true rfl, Nat.le_of_ble_eq_true rfl⟩ rfl rfl (Nat.le_of_ble_eq_true rfl) dL_law_1114 ⟨by decide, by decide⟩ (fun r38 t37 => ?_)
  refine jr_aload_n hG 2 dL_law_1117 rfl rfl ?_
  refine jr_aload_n hG 0 dL_law_1118 rfl rfl ?_
  refine jr_iload_n hG 3 dL_law_1119 rfl rfl ?_
  refine jr_iconst (v := (1 : Int32)) hG dL_law_1120 (by decide) ?_
  refine jr_iadd hG dL_law_1121 ?_
  refine jr_sld hG hX hbl dL_law_1122 ?_
  refine jr_callVi (As := [.int (xs (ix (v3 + (1 : Int32))))]) hG (c_X6_shouted l E N (66) (xs (ix (v3 + (1 : Int32)))) t37) ci_X6_shouted wd_1179 ⟨wd_1180, wd_1181⟩ cl_6 (okO_s ok_m66) (okO_l ok_m66) ⟨rfl, rfl, Nat.le_of_ble_eq_true rfl, Nat.le_of_ble_eq_true rfl⟩ rfl rfl (Nat.le_of_ble_eq_true rfl) dL_law_1123 ⟨by decide, by decide⟩ (fun r40 t39 => ?_)
  refine jr_icmp_eq hG 1301 dL_law_1126 (by decide) (fun _ => ?_) (fun _ => ?_)
  · exact w_L_law_1301 N hG hX hbl hr hk hK18 v3 t39
  · refine jr_iconst (v := (0 : Int32)) hG dL_law_1129 (by decide) ?_
    exact jr_none
def f_L_law_1085 (N : Nat) (xs : Nat → Int32) (L : Nat) (K18 : Int32 → Mm → Option Unit) (v3 : Int32) (σ : Mm) : Option Unit := if inb (v3 + (1 : Int32)) L then (bI (f_X5_broken N (0) (xs (ix (v3 + (1 : Int32)))) (σ)) (fun r42 t41 => if inb (v3 + (1 : Int32)) L then (bI (f_X6_broken N (66) (xs (ix (v3 + (1 : Int32)))) t41) (fun r44 t43 => if r42 = r44 then (f_L_law_1301 N xs L K18 v3 t43) else none)) else none)) else none
set_option maxRecDepth 100000 in
set_option maxHeartbeats 4000000 in
theorem w_L_law_1085 {p : Program} {l : Launch} {e : Env} {s : State} {m : MethodId} {below : List Frame} {meth : Method} {c : Code} {E : XE} {b L : Nat} {xs : Nat → Int32} (N : Nat) (hG : GG E 0 4 RL cL_law p s m #[Value.ref b] c) (hX : va_X b L xs s s.heap) (hbl : b < s.heap.size) (hr : meth.sig.returnType = ret) (hk : meth.locks = false) {K18 : Int32 → Mm → Option Unit} (hK18 : ∀ (v3 : Int32) (σ : Mm), JR E 0 4 p l e room_1 s m #[Value.ref b] below meth c 89 28555 (fun _ : Unit => lw_Z below #[Value.ref b] s) 18 [(0, .ref b), (1, .ref (E.B + 0)), (2, .ref (E.B + 66)), (3, .int v3)] [] σ (K18 v3 σ)) (v3 : Int32) (σ : Mm) : JR E 0 4 p l e room_1 s m #[Value.ref b] below meth c 89 28555 (fun _ : Unit => lw_Z below #[Value.ref b] s) 1085 [(0, .ref b), (1, .ref (E.B + 0)), (2, .ref (E.B + 66)), (3, .int v3)] [] σ (f_L_law_1085 N xs L K18 v3 σ) := by
  show JR E 0 4 p l e room_1 s m #[Value.ref b] below meth c 89 28555 (fun _ : Unit => lw_Z below #[Value.ref b] s) 1085 [(0, .ref b), (1, .ref (E.B + 0)), (2, .ref (E.B + 66)), (3, .int v3)] [] σ (if inb (v3 + (1 : Int32)) L then (bI (f_X5_broken N (0) (xs (ix (v3 + (1 : Int32)))) (σ)) (fun r42 t41 => if inb (v3 + (1 : Int32)) L then (bI (f_X6_broken N (66) (xs (ix (v3 + (1 : Int32)))) t41) (fun r44 t43 => if r42 = r44 then (f_L_law_1301 N xs L K18 v3 t43) else none)) else none)) else none)
  refine jr_aload_n hG 1 dL_law_1085 rfl rfl ?_
  refine jr_aload_n hG 0 dL_law_1086 rfl rfl ?_
  refine jr_iload_n hG 3 dL_law_1087 rfl rfl ?_
  refine jr_iconst (v := (1 : Int32)) hG dL_law_1088 (by decide) ?_
  refine jr_iadd hG dL_law_1089 ?_
  refine jr_sld hG hX hbl dL_law_1090 ?_
  refine jr_callVi (As := [.int (xs (ix (v3 + (1 : Int32))))]) hG (c_X5_broken l E N (0) (xs (ix (v3 + (1 : Int32)))) (σ)) ci_X5_broken wd_641 ⟨wd_642, wd_643⟩ cl_5 (okO_s ok_x0) (okO_l ok_x0) ⟨rfl, rfl, Nat.le_of_ble_eq_true rfl, Nat.le_of_ble_eq_true rfl⟩ rfl rfl (Nat.le_of_ble_eq_true rfl) dL_law_1091 ⟨by decide, by decide⟩ (fun r42 t41 => ?_)
  refine jr_aload_n hG 2 dL_law_1094 rfl rfl ?_
  refine jr_aload_n hG 0 dL_law_1095 rfl rfl ?_
  refine jr_iload_n hG 3 dL_law_1096 rfl rfl ?_
  refine jr_iconst (v := (1 : Int32)) hG dL_law_1097 (by decide) ?_
  refine jr_iadd hG dL_law_1098 ?_
  refine jr_sld hG hX hbl dL_law_1099 ?_
  refine jr_callVi (As := [.int (xs (ix (v3 + (1 : Int32))))]) hG (c_X6_broken l E N (66) (xs (ix (v3 + (1 : Int32)))) t41) ci_X6_broken wd_1175 ⟨wd_1176, wd_1177⟩ cl_6 (okO_s ok_m66) (okO_l ok_m66) ⟨rfl, rfl, Nat.le_of_ble_eq_true rfl, Nat.le_of_ble_eq_true rfl⟩ rfl rfl (Nat.le_of_ble_eq_true rfl) dL_law_1100 ⟨by decide, by decide⟩ (fun r44 t43 => ?_)
  refine jr_icmp_eq hG 1301 dL_law_1103 (by decide) (fun _ => ?_) (fun _ => ?_)
  · exact w_L_law_1301 N hG hX hbl hr hk hK18 v3 t43
  · refine jr_iconst (v := (0 : Int32)) hG dL_law_1106 (by decide) ?_
    exact jr_none
def f_L_law_1052 (N : Nat) (xs : Nat → Int32) (L : Nat) (K18 : Int32 → Mm → Option Unit) (v3 : Int32) (σ : Mm) : Option Unit := if inb (v3 + (1 : Int32)) L then (if inb (v3 + (2 : Int32)) L then (bI (f_X5_rule N (0) (xs (ix (v3 + (1 : Int32)))) (xs (ix (v3 + (2 : Int32)))) (σ)) (fun r46 t45 => if inb (v3 + (1 : Int32)) L then (if inb (v3 + (2 : Int32)) L then (bI (f_X6_rule N (66) (xs (ix (v3 + (1 : Int32)))) (xs (ix (v3 + (2 : Int32)))) t45) (fun r48 t47 => if r46 = r48 then (f_L_law_1301 N xs L K18 v3 t47) else none)) else none) else none)) else none) else none
set_option maxRecDepth 100000 in
set_option maxHeartbeats 4000000 in
theorem w_L_law_1052 {p : Program} {l : Launch} {e : Env} {s : State} {m : MethodId} {below : List Frame} {meth : Method} {c : Code} {E : XE} {b L : Nat} {xs : Nat → Int32} (N : Nat) (hG : GG E 0 4 RL cL_law p s m #[Value.ref b] c) (hX : va_X b L xs s s.heap) (hbl : b < s.heap.size) (hr : meth.sig.returnType = ret) (hk : meth.locks = false) {K18 : Int32 → Mm → Option Unit} (hK18 : ∀ (v3 : Int32) (σ : Mm), JR E 0 4 p l e room_1 s m #[Value.ref b] below meth c 89 28555 (fun _ : Unit => lw_Z below #[Value.ref b] s) 18 [(0, .ref b), (1, .ref (E.B + 0)), (2, .ref (E.B + 66)), (3, .int v3)] [] σ (K18 v3 σ)) (v3 : Int32) (σ : Mm) : JR E 0 4 p l e room_1 s m #[Value.ref b] below meth c 89 28555 (fun _ : Unit => lw_Z below #[Value.ref b] s) 1052 [(0, .ref b), (1, .ref (E.B + 0)), (2, .ref (E.B + 66)), (3, .int v3)] [] σ (f_L_law_1052 N xs L K18 v3 σ) := by
  show JR E 0 4 p l e room_1 s m #[Value.ref b] below meth c 89 28555 (fun _ : Unit => lw_Z below #[Value.ref b] s) 1052 [(0, .ref b), (1, .ref (E.B + 0)), (2, .ref (E.B + 66)), (3, .int v3)] [] σ (if inb (v3 + (1 : Int32)) L then (if inb (v3 + (2 : Int32)) L then (bI (f_X5_rule N (0) (xs (ix (v3 + (1 : Int32)))) (xs (ix (v3 + (2 : Int32)))) (σ)) (fun r46 t45 => if inb (v3 + (1 : Int32)) L then (if inb (v3 + (2 : Int32)) L then (bI (f_X6_rule N (66) (xs (ix (v3 + (1 : Int32)))) (xs (ix (v3 + (2 : Int32)))) t45) (fun r48 t47 => if r46 = r48 then (f_L_law_1301 N xs L K18 v3 t47) else none)) else none) else none)) else none) else none)
  refine jr_aload_n hG 1 dL_law_1052 rfl rfl ?_
  refine jr_aload_n hG 0 dL_law_1053 rfl rfl ?_
  refine jr_iload_n hG 3 dL_law_1054 rfl rfl ?_
  refine jr_iconst (v := (1 : Int32)) hG dL_law_1055 (by decide) ?_
  refine jr_iadd hG dL_law_1056 ?_
  refine jr_sld hG hX hbl dL_law_1057 ?_
  refine jr_aload_n hG 0 dL_law_1058 rfl rfl ?_
  refine jr_iload_n hG 3 dL_law_1059 rfl rfl ?_
  refine jr_iconst (v := (2 : Int32)) hG dL_law_1060 (by decide) ?_
  refine jr_iadd hG dL_law_1061 ?_
  refine jr_sld hG hX hbl dL_law_1062 ?_
  refine jr_callVi (As := [.int (xs (ix (v3 + (1 : Int32)))), .int (xs (ix (v3 + (2 : Int32))))]) hG (c_X5_rule l E N (0) (xs (ix (v3 + (1 : Int32)))) (xs (ix (v3 + (2 : Int32)))) (σ)) ci_X5_rule wd_629 ⟨wd_630, wd_631⟩ cl_5 (okO_s ok_x0) (okO_l ok_x0) ⟨rfl, rfl, Nat.le_of_ble_eq_true rfl, Nat.le_of_ble_eq_true rfl⟩ rfl rfl (Nat.le_of_ble_eq_true rfl) dL_law_1063 ⟨by decide, by decide⟩ (fun r46 t45 => ?_)
  refine jr_aload_n hG 2 dL_law_1066 rfl rfl ?_
  refine jr_aload_n hG 0 dL_law_1067 rfl rfl ?_
  refine jr_iload_n hG 3 dL_law_1068 rfl rfl ?_
  refine jr_iconst (v := (1 : Int32)) hG dL_law_1069 (by decide) ?_
  refine jr_iadd hG dL_law_1070 ?_
  refine jr_sld hG hX hbl dL_law_1071 ?_
  refine jr_aload_n hG 0 dL_law_1072 rfl rfl ?_
  refine jr_iload_n hG 3 dL_law_1073 rfl rfl ?_
  refine jr_iconst (v := (2 : Int32)) hG dL_law_1074 (by decide) ?_
  refine jr_iadd hG dL_law_1075 ?_
  refine jr_sld hG hX hbl dL_law_1076 ?_
  refine jr_callVi (As := [.int (xs (ix (v3 + (1 : Int32)))), .int (xs (ix (v3 + (2 : Int32))))]) hG (c_X6_rule l E N (66) (xs (ix (v3 + (1 : Int32)))) (xs (ix (v3 + (2 : Int32)))) t45) ci_X6_rule wd_1167 ⟨wd_1168, wd_1169⟩ cl_6 (okO_s ok_m66) (okO_l ok_m66) ⟨rfl, rfl, Nat.le_of_ble_eq_true rfl, Nat.le_of_ble_eq_true rfl⟩ rfl rfl (Nat.le_of_ble_eq_true rfl) dL_law_1077 ⟨by decide, by decide⟩ (fun r48 t47 => ?_)
  refine jr_icmp_eq hG 1301 dL_law_1080 (by decide) (fun _ => ?_) (fun _ => ?_)
  · exact w_L_law_1301 N hG hX hbl hr hk hK18 v3 t47
  · refine jr_iconst (v := (0 : Int32)) hG dL_law_1083 (by decide) ?_
    exact jr_none
def f_L_law_1029 (N : Nat) (xs : Nat → Int32) (L : Nat) (K18 : Int32 → Mm → Option Unit) (v3 : Int32) (σ : Mm) : Option Unit := if inb (v3 + (1 : Int32)) L then (bI (f_X5_houses N (0) (xs (ix (v3 + (1 : Int32)))) (σ)) (fun r50 t49 => if inb (v3 + (1 : Int32)) L then (bI (f_X6_houses N (66) (xs (ix (v3 + (1 : Int32)))) t49) (fun r52 t51 => if r50 = r52 then (f_L_law_1301 N xs L K18 v3 t51) else none)) else none)) else none
set_option maxRecDepth 100000 in
set_option maxHeartbeats 4000000 in
theorem w_L_law_1029 {p : Program} {l : Launch} {e : Env} {s : State} {m : MethodId} {below : List Frame} {meth : Method} {c : Code} {E : XE} {b L : Nat} {xs : Nat → Int32} (N : Nat) (hG : GG E 0 4 RL cL_law p s m #[Value.ref b] c) (hX : va_X b L xs s s.heap) (hbl : b < s.heap.size) (hr : meth.sig.returnType = ret) (hk : meth.locks = false) {K18 : Int32 → Mm → Option Unit} (hK18 : ∀ (v3 : Int32) (σ : Mm), JR E 0 4 p l e room_1 s m #[Value.ref b] below meth c 89 28555 (fun _ : Unit => lw_Z below #[Value.ref b] s) 18 [(0, .ref b), (1, .ref (E.B + 0)), (2, .ref (E.B + 66)), (3, .int v3)] [] σ (K18 v3 σ)) (v3 : Int32) (σ : Mm) : JR E 0 4 p l e room_1 s m #[Value.ref b] below meth c 89 28555 (fun _ : Unit => lw_Z below #[Value.ref b] s) 1029 [(0, .ref b), (1, .ref (E.B + 0)), (2, .ref (E.B + 66)), (3, .int v3)] [] σ (f_L_law_1029 N xs L K18 v3 σ) := by
  show JR E 0 4 p l e room_1 s m #[Value.ref b] below meth c 89 28555 (fun _ : Unit => lw_Z below #[Value.ref b] s) 1029 [(0, .ref b), (1, .ref (E.B + 0)), (2, .ref (E.B + 66)), (3, .int v3)] [] σ (if inb (v3 + (1 : Int32)) L then (bI (f_X5_houses N (0) (xs (ix (v3 + (1 : Int32)))) (σ)) (fun r50 t49 => if inb (v3 + (1 : Int32)) L then (bI (f_X6_houses N (66) (xs (ix (v3 + (1 : Int32)))) t49) (fun r52 t51 => if r50 = r52 then (f_L_law_1301 N xs L K18 v3 t51) else none)) else none)) else none)
  refine jr_aload_n hG 1 dL_law_1029 rfl rfl ?_
  refine jr_aload_n hG 0 dL_law_1030 rfl rfl ?_
  refine jr_iload_n hG 3 dL_law_1031 rfl rfl ?_
  refine jr_iconst (v := (1 : Int32)) hG dL_law_1032 (by decide) ?_
  refine jr_iadd hG dL_law_1033 ?_
  refine jr_sld hG hX hbl dL_law_1034 ?_
  refine jr_callVi (As := [.int (xs (ix (v3 + (1 : Int32))))]) hG (c_X5_houses l E N (0) (xs (ix (v3 + (1 : Int32)))) (σ)) ci_X5_houses wd_613 ⟨wd_614, wd_615⟩ cl_5 (okO_s ok_x0) (okO_l ok_x0) ⟨rfl, rfl, Nat.le_of_ble_eq_true rfl, Nat.le_of_ble_eq_true rfl⟩ rfl rfl (Nat.le_of_ble_eq_true rfl) dL_law_1035 ⟨by decide, by decide⟩ (fun r50 t49 => ?_)
  refine jr_aload_n hG 2 dL_law_1038 rfl rfl ?_
  refine jr_aload_n hG 0 dL_law_1039 rfl rfl ?_
  refine jr_iload_n hG 3 dL_law_1040 rfl rfl ?_
  refine jr_iconst (v := (1 : Int32)) hG dL_law_1041 (by decide) ?_
  refine jr_iadd hG dL_law_1042 ?_
  refine jr_sld hG hX hbl dL_law_1043 ?_
  refine jr_callVi (As := [.int (xs (ix (v3 + (1 : Int32))))]) hG (c_X6_houses l E N (66) (xs (ix (v3 + (1 : Int32)))) t49) ci_X6_houses wd_1155 ⟨wd_1156, wd_1157⟩ cl_6 (okO_s ok_m66) (okO_l ok_m66) ⟨rfl, rfl, Nat.le_of_ble_eq_true rfl, Nat.le_of_ble_eq_true rfl⟩ rfl rfl (Nat.le_of_ble_eq_true rfl) dL_law_1044 ⟨by decide, by decide⟩ (fun r52 t51 => ?_)
  refine jr_icmp_eq hG 1301 dL_law_1047 (by decide) (fun _ => ?_) (fun _ => ?_)
  · exact w_L_law_1301 N hG hX hbl hr hk hK18 v3 t51
  · refine jr_iconst (v := (0 : Int32)) hG dL_law_1050 (by decide) ?_
    exact jr_none
def f_L_law_986 (N : Nat) (xs : Nat → Int32) (L : Nat) (K18 : Int32 → Mm → Option Unit) (v3 : Int32) (σ : Mm) : Option Unit := if inb (v3 + (1 : Int32)) L then (if inb (v3 + (2 : Int32)) L then (if inb (v3 + (3 : Int32)) L then (bI (f_X5_part N (0) (xs (ix (v3 + (1 : Int32)))) (xs (ix (v3 + (2 : Int32)))) (xs (ix (v3 + (3 : Int32)))) (σ)) (fun r54 t53 => if inb (v3 + (1 : Int32)) L then (if inb (v3 + (2 : Int32)) L then (if inb (v3 + (3 : Int32)) L then (bI (f_X6_part N (66) (xs (ix (v3 + (1 : Int32)))) (xs (ix (v3 + (2 : Int32)))) (xs (ix (v3 + (3 : Int32)))) t53) (fun r56 t55 => if r54 = r56 then (f_L_law_1301 N xs L K18 v3 t55) else none)) else none) else none) else none)) else none) else none) else none
set_option maxRecDepth 100000 in
set_option maxHeartbeats 4000000 in
theorem w_L_law_986 {p : Program} {l : Launch} {e : Env} {s : State} {m : MethodId} {below : List Frame} {meth : Method} {c : Code} {E : XE} {b L : Nat} {xs : Nat → Int32} (N : Nat) (hG : GG E 0 4 RL cL_law p s m #[Value.ref b] c) (hX : va_X b L xs s s.heap) (hbl : b < s.heap.size) (hr : meth.sig.returnType = ret) (hk : meth.locks = false) {K18 : Int32 → Mm → Option Unit} (hK18 : ∀ (v3 : Int32) (σ : Mm), JR E 0 4 p l e room_1 s m #[Value.ref b] below meth c 89 28555 (fun _ : Unit => lw_Z below #[Value.ref b] s) 18 [(0, .ref b), (1, .ref (E.B + 0)), (2, .ref (E.B + 66)), (3, .int v3)] [] σ (K18 v3 σ)) (v3 : Int32) (σ : Mm) : JR E 0 4 p l e room_1 s m #[Value.ref b] below meth c 89 28555 (fun _ : Unit => lw_Z below #[Value.ref b] s) 986 [(0, .ref b), (1, .ref (E.B + 0)), (2, .ref (E.B + 66)), (3, .int v3)] [] σ (f_L_law_986 N xs L K18 v3 σ) := by
  show JR E 0 4 p l e room_1 s m #[Value.ref b] below meth c 89 28555 (fun _ : Unit => lw_Z below #[Value.ref b] s) 986 [(0, .ref b), (1, .ref (E.B + 0)), (2, .ref (E.B + 66)), (3, .int v3)] [] σ (if inb (v3 + (1 : Int32)) L then (if inb (v3 + (2 : Int32)) L then (if inb (v3 + (3 : Int32)) L then (bI (f_X5_part N (0) (xs (ix (v3 + (1 : Int32)))) (xs (ix (v3 + (2 : Int32)))) (xs (ix (v3 + (3 : Int32)))) (σ)) (fun r54 t53 => if inb (v3 + (1 : Int32)) L then (if inb (v3 + (2 : Int32)) L then (if inb (v3 + (3 : Int32)) L then (bI (f_X6_part N (66) (xs (ix (v3 + (1 : Int32)))) (xs (ix (v3 + (2 : Int32)))) (xs (ix (v3 + (3 : Int32)))) t53) (fun r56 t55 => if r54 = r56 then (f_L_law_1301 N xs L K18 v3 t55) else none)) else none) else none) else none)) else none) else none) else none)
  refine jr_aload_n hG 1 dL_law_986 rfl rfl ?_
  refine jr_aload_n hG 0 dL_law_987 rfl rfl ?_
  refine jr_iload_n hG 3 dL_law_988 rfl rfl ?_
  refine jr_iconst (v := (1 : Int32)) hG dL_law_989 (by decide) ?_
  refine jr_iadd hG dL_law_990 ?_
  refine jr_sld hG hX hbl dL_law_991 ?_
  refine jr_aload_n hG 0 dL_law_992 rfl rfl ?_
  refine jr_iload_n hG 3 dL_law_993 rfl rfl ?_
  refine jr_iconst (v := (2 : Int32)) hG dL_law_994 (by decide) ?_
  refine jr_iadd hG dL_law_995 ?_
  refine jr_sld hG hX hbl dL_law_996 ?_
  refine jr_aload_n hG 0 dL_law_997 rfl rfl ?_
  refine jr_iload_n hG 3 dL_law_998 rfl rfl ?_
  refine jr_iconst (v := (3 : Int32)) hG dL_law_999 (by decide) ?_
  refine jr_iadd hG dL_law_1000 ?_
  refine jr_sld hG hX hbl dL_law_1001 ?_
  refine jr_callVi (As := [.int (xs (ix (v3 + (1 : Int32)))), .int (xs (ix (v3 + (2 : Int32)))), .int (xs (ix (v3 + (3 : Int32))))]) hG (c_X5_part l E N (0) (xs (ix (v3 + (1 : Int32)))) (xs (ix (v3 + (2 : Int32)))) (xs (ix (v3 + (3 : Int32)))) (σ)) ci_X5_part wd_606 ⟨wd_607, wd_608⟩ cl_5 (okO_s ok_x0) (okO_l ok_x0) ⟨rfl, rfl, Nat.le_of_ble_eq_true rfl, Nat.le_of_ble_eq_true rfl⟩ rfl rfl (Nat.le_of_ble_eq_true rfl) dL_law_1002 ⟨by decide, by decide⟩ (fun r54 t53 => ?_)
  refine jr_aload_n hG 2 dL_law_1005 rfl rfl ?_
  refine jr_aload_n hG 0 dL_law_1006 rfl rfl ?_
  refine jr_iload_n hG 3 dL_law_1007 rfl rfl ?_
  refine jr_iconst (v := (1 : Int32)) hG dL_law_1008 (by decide) ?_
  refine jr_iadd hG dL_law_1009 ?_
  refine jr_sld hG hX hbl dL_law_1010 ?_
  refine jr_aload_n hG 0 dL_law_1011 rfl rfl ?_
  refine jr_iload_n hG 3 dL_law_1012 rfl rfl ?_
  refine jr_iconst (v := (2 : Int32)) hG dL_law_1013 (by decide) ?_
  refine jr_iadd hG dL_law_1014 ?_
  refine jr_sld hG hX hbl dL_law_1015 ?_
  refine jr_aload_n hG 0 dL_law_1016 rfl rfl ?_
  refine jr_iload_n hG 3 dL_law_1017 rfl rfl ?_
  refine jr_iconst (v := (3 : Int32)) hG dL_law_1018 (by decide) ?_
  refine jr_iadd hG dL_law_1019 ?_
  refine jr_sld hG hX hbl dL_law_1020 ?_
  refine jr_callVi (As := [.int (xs (ix (v3 + (1 : Int32)))), .int (xs (ix (v3 + (2 : Int32)))), .int (xs (ix (v3 + (3 : Int32))))]) hG (c_X6_part l E N (66) (xs (ix (v3 + (1 : Int32)))) (xs (ix (v3 + (2 : Int32)))) (xs (ix (v3 + (3 : Int32)))) t53) ci_X6_part wd_1148 ⟨wd_1149, wd_1150⟩ cl_6 (okO_s ok_m66) (okO_l ok_m66) ⟨rfl, rfl, Nat.le_of_ble_eq_true rfl, Nat.le_of_ble_eq_true rfl⟩ rfl rfl (Nat.le_of_ble_eq_true rfl) dL_law_1021 ⟨by decide, by decide⟩ (fun r56 t55 => ?_)
  refine jr_icmp_eq hG 1301 dL_law_1024 (by decide) (fun _ => ?_) (fun _ => ?_)
  · exact w_L_law_1301 N hG hX hbl hr hk hK18 v3 t55
  · refine jr_iconst (v := (0 : Int32)) hG dL_law_1027 (by decide) ?_
    exact jr_none
def f_L_law_943 (N : Nat) (xs : Nat → Int32) (L : Nat) (K18 : Int32 → Mm → Option Unit) (v3 : Int32) (σ : Mm) : Option Unit := if inb (v3 + (1 : Int32)) L then (if inb (v3 + (2 : Int32)) L then (if inb (v3 + (3 : Int32)) L then (bI (f_X5_odds N (0) (xs (ix (v3 + (1 : Int32)))) (xs (ix (v3 + (2 : Int32)))) (xs (ix (v3 + (3 : Int32)))) (σ)) (fun r58 t57 => if inb (v3 + (1 : Int32)) L then (if inb (v3 + (2 : Int32)) L then (if inb (v3 + (3 : Int32)) L then (bI (f_X6_odds N (66) (xs (ix (v3 + (1 : Int32)))) (xs (ix (v3 + (2 : Int32)))) (xs (ix (v3 + (3 : Int32)))) t57) (fun r60 t59 => if r58 = r60 then (f_L_law_1301 N xs L K18 v3 t59) else none)) else none) else none) else none)) else none) else none) else none
set_option maxRecDepth 100000 in
set_option maxHeartbeats 4000000 in
theorem w_L_law_943 {p : Program} {l : Launch} {e : Env} {s : State} {m : MethodId} {below : List Frame} {meth : Method} {c : Code} {E : XE} {b L : Nat} {xs : Nat → Int32} (N : Nat) (hG : GG E 0 4 RL cL_law p s m #[Value.ref b] c) (hX : va_X b L xs s s.heap) (hbl : b < s.heap.size) (hr : meth.sig.returnType = ret) (hk : meth.locks = false) {K18 : Int32 → Mm → Option Unit} (hK18 : ∀ (v3 : Int32) (σ : Mm), JR E 0 4 p l e room_1 s m #[Value.ref b] below meth c 89 28555 (fun _ : Unit => lw_Z below #[Value.ref b] s) 18 [(0, .ref b), (1, .ref (E.B + 0)), (2, .ref (E.B + 66)), (3, .int v3)] [] σ (K18 v3 σ)) (v3 : Int32) (σ : Mm) : JR E 0 4 p l e room_1 s m #[Value.ref b] below meth c 89 28555 (fun _ : Unit => lw_Z below #[Value.ref b] s) 943 [(0, .ref b), (1, .ref (E.B + 0)), (2, .ref (E.B + 66)), (3, .int v3)] [] σ (f_L_law_943 N xs L K18 v3 σ) := by
  show JR E 0 4 p l e room_1 s m #[Value.ref b] below meth c 89 28555 (fun _ : Unit => lw_Z below #[Value.ref b] s) 943 [(0, .ref b), (1, .ref (E.B + 0)), (2, .ref (E.B + 66)), (3, .int v3)] [] σ (if inb (v3 + (1 : Int32)) L then (if inb (v3 + (2 : Int32)) L then (if inb (v3 + (3 : Int32)) L then (bI (f_X5_odds N (0) (xs (ix (v3 + (1 : Int32)))) (xs (ix (v3 + (2 : Int32)))) (xs (ix (v3 + (3 : Int32)))) (σ)) (fun r58 t57 => if inb (v3 + (1 : Int32)) L then (if inb (v3 + (2 : Int32)) L then (if inb (v3 + (3 : Int32)) L then (bI (f_X6_odds N (66) (xs (ix (v3 + (1 : Int32)))) (xs (ix (v3 + (2 : Int32)))) (xs (ix (v3 + (3 : Int32)))) t57) (fun r60 t59 => if r58 = r60 then (f_L_law_1301 N xs L K18 v3 t59) else none)) else none) else none) else none)) else none) else none) else none)
  refine jr_aload_n hG 1 dL_law_943 rfl rfl ?_
  refine jr_aload_n hG 0 dL_law_944 rfl rfl ?_
  refine jr_iload_n hG 3 dL_law_945 rfl rfl ?_
  refine jr_iconst (v := (1 : Int32)) hG dL_law_946 (by decide) ?_
  refine jr_iadd hG dL_law_947 ?_
  refine jr_sld hG hX hbl dL_law_948 ?_
  refine jr_aload_n hG 0 dL_law_949 rfl rfl ?_
  refine jr_iload_n hG 3 dL_law_950 rfl rfl ?_
  refine jr_iconst (v := (2 : Int32)) hG dL_law_951 (by decide) ?_
  refine jr_iadd hG dL_law_952 ?_
  refine jr_sld hG hX hbl dL_law_953 ?_
  refine jr_aload_n hG 0 dL_law_954 rfl rfl ?_
  refine jr_iload_n hG 3 dL_law_955 rfl rfl ?_
  refine jr_iconst (v := (3 : Int32)) hG dL_law_956 (by decide) ?_
  refine jr_iadd hG dL_law_957 ?_
  refine jr_sld hG hX hbl dL_law_958 ?_
  refine jr_callVi (As := [.int (xs (ix (v3 + (1 : Int32)))), .int (xs (ix (v3 + (2 : Int32)))), .int (xs (ix (v3 + (3 : Int32))))]) hG (c_X5_odds l E N (0) (xs (ix (v3 + (1 : Int32)))) (xs (ix (v3 + (2 : Int32)))) (xs (ix (v3 + (3 : Int32)))) (σ)) ci_X5_odds wd_595 ⟨wd_596, wd_597⟩ cl_5 (okO_s ok_x0) (okO_l ok_x0) ⟨rfl, rfl, Nat.le_of_ble_eq_true rfl, Nat.le_of_ble_eq_true rfl⟩ rfl rfl (Nat.le_of_ble_eq_true rfl) dL_law_959 ⟨by decide, by decide⟩ (fun r58 t57 => ?_)
  refine jr_aload_n hG 2 dL_law_962 rfl rfl ?_
  refine jr_aload_n hG 0 dL_law_963 rfl rfl ?_
  refine jr_iload_n hG 3 dL_law_964 rfl rfl ?_
  refine jr_iconst (v := (1 : Int32)) hG dL_law_965 (by decide) ?_
  refine jr_iadd hG dL_law_966 ?_
  refine jr_sld hG hX hbl dL_law_967 ?_
  refine jr_aload_n hG 0 dL_law_968 rfl rfl ?_
  refine jr_iload_n hG 3 dL_law_969 rfl rfl ?_
  refine jr_iconst (v := (2 : Int32)) hG dL_law_970 (by decide) ?_
  refine jr_iadd hG dL_law_971 ?_
  refine jr_sld hG hX hbl dL_law_972 ?_
  refine jr_aload_n hG 0 dL_law_973 rfl rfl ?_
  refine jr_iload_n hG 3 dL_law_974 rfl rfl ?_
  refine jr_iconst (v := (3 : Int32)) hG dL_law_975 (by decide) ?_
  refine jr_iadd hG dL_law_976 ?_
  refine jr_sld hG hX hbl dL_law_977 ?_
  refine jr_callVi (As := [.int (xs (ix (v3 + (1 : Int32)))), .int (xs (ix (v3 + (2 : Int32)))), .int (xs (ix (v3 + (3 : Int32))))]) hG (c_X6_odds l E N (66) (xs (ix (v3 + (1 : Int32)))) (xs (ix (v3 + (2 : Int32)))) (xs (ix (v3 + (3 : Int32)))) t57) ci_X6_odds wd_1140 ⟨wd_1141, wd_1142⟩ cl_6 (okO_s ok_m66) (okO_l ok_m66) ⟨rfl, rfl, Nat.le_of_ble_eq_true rfl, Nat.le_of_ble_eq_true rfl⟩ rfl rfl (Nat.le_of_ble_eq_true rfl) dL_law_978 ⟨by decide, by decide⟩ (fun r60 t59 => ?_)
  refine jr_icmp_eq hG 1301 dL_law_981 (by decide) (fun _ => ?_) (fun _ => ?_)
  · exact w_L_law_1301 N hG hX hbl hr hk hK18 v3 t59
  · refine jr_iconst (v := (0 : Int32)) hG dL_law_984 (by decide) ?_
    exact jr_none
def f_L_law_910 (N : Nat) (xs : Nat → Int32) (L : Nat) (K18 : Int32 → Mm → Option Unit) (v3 : Int32) (σ : Mm) : Option Unit := if inb (v3 + (1 : Int32)) L then (if inb (v3 + (2 : Int32)) L then (bI (f_X5_signs N (0) (xs (ix (v3 + (1 : Int32)))) (xs (ix (v3 + (2 : Int32)))) (σ)) (fun r62 t61 => if inb (v3 + (1 : Int32)) L then (if inb (v3 + (2 : Int32)) L then (bI (f_X6_signs N (66) (xs (ix (v3 + (1 : Int32)))) (xs (ix (v3 + (2 : Int32)))) t61) (fun r64 t63 => if r62 = r64 then (f_L_law_1301 N xs L K18 v3 t63) else none)) else none) else none)) else none) else none
set_option maxRecDepth 100000 in
set_option maxHeartbeats 4000000 in
theorem w_L_law_910 {p : Program} {l : Launch} {e : Env} {s : State} {m : MethodId} {below : List Frame} {meth : Method} {c : Code} {E : XE} {b L : Nat} {xs : Nat → Int32} (N : Nat) (hG : GG E 0 4 RL cL_law p s m #[Value.ref b] c) (hX : va_X b L xs s s.heap) (hbl : b < s.heap.size) (hr : meth.sig.returnType = ret) (hk : meth.locks = false) {K18 : Int32 → Mm → Option Unit} (hK18 : ∀ (v3 : Int32) (σ : Mm), JR E 0 4 p l e room_1 s m #[Value.ref b] below meth c 89 28555 (fun _ : Unit => lw_Z below #[Value.ref b] s) 18 [(0, .ref b), (1, .ref (E.B + 0)), (2, .ref (E.B + 66)), (3, .int v3)] [] σ (K18 v3 σ)) (v3 : Int32) (σ : Mm) : JR E 0 4 p l e room_1 s m #[Value.ref b] below meth c 89 28555 (fun _ : Unit => lw_Z below #[Value.ref b] s) 910 [(0, .ref b), (1, .ref (E.B + 0)), (2, .ref (E.B + 66)), (3, .int v3)] [] σ (f_L_law_910 N xs L K18 v3 σ) := by
  show JR E 0 4 p l e room_1 s m #[Value.ref b] below meth c 89 28555 (fun _ : Unit => lw_Z below #[Value.ref b] s) 910 [(0, .ref b), (1, .ref (E.B + 0)), (2, .ref (E.B + 66)), (3, .int v3)] [] σ (if inb (v3 + (1 : Int32)) L then (if inb (v3 + (2 : Int32)) L then (bI (f_X5_signs N (0) (xs (ix (v3 + (1 : Int32)))) (xs (ix (v3 + (2 : Int32)))) (σ)) (fun r62 t61 => if inb (v3 + (1 : Int32)) L then (if inb (v3 + (2 : Int32)) L then (bI (f_X6_signs N (66) (xs (ix (v3 + (1 : Int32)))) (xs (ix (v3 + (2 : Int32)))) t61) (fun r64 t63 => if r62 = r64 then (f_L_law_1301 N xs L K18 v3 t63) else none)) else none) else none)) else none) else none)
  refine jr_aload_n hG 1 dL_law_910 rfl rfl ?_
  refine jr_aload_n hG 0 dL_law_911 rfl rfl ?_
  refine jr_iload_n hG 3 dL_law_912 rfl rfl ?_
  refine jr_iconst (v := (1 : Int32)) hG dL_law_913 (by decide) ?_
  refine jr_iadd hG dL_law_914 ?_
  refine jr_sld hG hX hbl dL_law_915 ?_
  refine jr_aload_n hG 0 dL_law_916 rfl rfl ?_
  refine jr_iload_n hG 3 dL_law_917 rfl rfl ?_
  refine jr_iconst (v := (2 : Int32)) hG dL_law_918 (by decide) ?_
  refine jr_iadd hG dL_law_919 ?_
  refine jr_sld hG hX hbl dL_law_920 ?_
  refine jr_callVi (As := [.int (xs (ix (v3 + (1 : Int32)))), .int (xs (ix (v3 + (2 : Int32))))]) hG (c_X5_signs l E N (0) (xs (ix (v3 + (1 : Int32)))) (xs (ix (v3 + (2 : Int32)))) (σ)) ci_X5_signs wd_558 ⟨wd_559, wd_560⟩ cl_5 (okO_s ok_x0) (okO_l ok_x0) ⟨rfl, rfl, Nat.le_of_ble_eq_true rfl, Nat.le_of_ble_eq_true rfl⟩ rfl rfl (Nat.le_of_ble_eq_true rfl) dL_law_921 ⟨by decide, by decide⟩ (fun r62 t61 => ?_)
  refine jr_aload_n hG 2 dL_law_924 rfl rfl ?_
  refine jr_aload_n hG 0 dL_law_925 rfl rfl ?_
  refine jr_iload_n hG 3 dL_law_926 rfl rfl ?_
  refine jr_iconst (v := (1 : Int32)) hG dL_law_927 (by decide) ?_
  refine jr_iadd hG dL_law_928 ?_
  refine jr_sld hG hX hbl dL_law_929 ?_
  refine jr_aload_n hG 0 dL_law_930 rfl rfl ?_
  refine jr_iload_n hG 3 dL_law_931 rfl rfl ?_
  refine jr_iconst (v := (2 : Int32)) hG dL_law_932 (by decide) ?_
  refine jr_iadd hG dL_law_933 ?_
  refine jr_sld hG hX hbl dL_law_934 ?_
  refine jr_callVi (As := [.int (xs (ix (v3 + (1 : Int32)))), .int (xs (ix (v3 + (2 : Int32))))]) hG (c_X6_signs l E N (66) (xs (ix (v3 + (1 : Int32)))) (xs (ix (v3 + (2 : Int32)))) t61) ci_X6_signs wd_1088 ⟨wd_1089, wd_1090⟩ cl_6 (okO_s ok_m66) (okO_l ok_m66) ⟨rfl, rfl, Nat.le_of_ble_eq_true rfl, Nat.le_of_ble_eq_true rfl⟩ rfl rfl (Nat.le_of_ble_eq_true rfl) dL_law_935 ⟨by decide, by decide⟩ (fun r64 t63 => ?_)
  refine jr_icmp_eq hG 1301 dL_law_938 (by decide) (fun _ => ?_) (fun _ => ?_)
  · exact w_L_law_1301 N hG hX hbl hr hk hK18 v3 t63
  · refine jr_iconst (v := (0 : Int32)) hG dL_law_941 (by decide) ?_
    exact jr_none
def f_L_law_897 (N : Nat) (xs : Nat → Int32) (L : Nat) (K18 : Int32 → Mm → Option Unit) (v3 : Int32) (σ : Mm) : Option Unit := bI (f_X5_crier N (0) (σ)) (fun r66 t65 => bI (f_X6_crier N (66) t65) (fun r68 t67 => if r66 = r68 then (f_L_law_1301 N xs L K18 v3 t67) else none))
set_option maxRecDepth 100000 in
set_option maxHeartbeats 4000000 in
theorem w_L_law_897 {p : Program} {l : Launch} {e : Env} {s : State} {m : MethodId} {below : List Frame} {meth : Method} {c : Code} {E : XE} {b L : Nat} {xs : Nat → Int32} (N : Nat) (hG : GG E 0 4 RL cL_law p s m #[Value.ref b] c) (hX : va_X b L xs s s.heap) (hbl : b < s.heap.size) (hr : meth.sig.returnType = ret) (hk : meth.locks = false) {K18 : Int32 → Mm → Option Unit} (hK18 : ∀ (v3 : Int32) (σ : Mm), JR E 0 4 p l e room_1 s m #[Value.ref b] below meth c 89 28555 (fun _ : Unit => lw_Z below #[Value.ref b] s) 18 [(0, .ref b), (1, .ref (E.B + 0)), (2, .ref (E.B + 66)), (3, .int v3)] [] σ (K18 v3 σ)) (v3 : Int32) (σ : Mm) : JR E 0 4 p l e room_1 s m #[Value.ref b] below meth c 89 28555 (fun _ : Unit => lw_Z below #[Value.ref b] s) 897 [(0, .ref b), (1, .ref (E.B + 0)), (2, .ref (E.B + 66)), (3, .int v3)] [] σ (f_L_law_897 N xs L K18 v3 σ) := by
  show JR E 0 4 p l e room_1 s m #[Value.ref b] below meth c 89 28555 (fun _ : Unit => lw_Z below #[Value.ref b] s) 897 [(0, .ref b), (1, .ref (E.B + 0)), (2, .ref (E.B + 66)), (3, .int v3)] [] σ (bI (f_X5_crier N (0) (σ)) (fun r66 t65 => bI (f_X6_crier N (66) t65) (fun r68 t67 => if r66 = r68 then (f_L_law_1301 N xs L K18 v3 t67) else none)))
  refine jr_aload_n hG 1 dL_law_897 rfl rfl ?_
  refine jr_callVi (As := []) hG (c_X5_crier l E N (0) (σ)) ci_X5_crier wd_554 ⟨wd_555, wd_556⟩ cl_5 (okO_s ok_x0) (okO_l ok_x0) ⟨rfl, rfl, Nat.le_of_ble_eq_true rfl, Nat.le_of_ble_eq_true rfl⟩ rfl rfl (Nat.le_of_ble_eq_true rfl) dL_law_898 ⟨by decide, by decide⟩ (fun r66 t65 => ?_)
  refine jr_aload_n hG 2 dL_law_901 rfl rfl ?_
  refine jr_callVi (As := []) hG (c_X6_crier l E N (66) t65) ci_X6_crier wd_1084 ⟨wd_1085, wd_1086⟩ cl_6 (okO_s ok_m66) (okO_l ok_m66) ⟨rfl, rfl, Nat.le_of_ble_eq_true rfl, Nat.le_of_ble_eq_true rfl⟩ rfl rfl (Nat.le_of_ble_eq_true rfl) dL_law_902 ⟨by decide, by decide⟩ (fun r68 t67 => ?_)
  refine jr_icmp_eq hG 1301 dL_law_905 (by decide) (fun _ => ?_) (fun _ => ?_)
  · exact w_L_law_1301 N hG hX hbl hr hk hK18 v3 t67
  · refine jr_iconst (v := (0 : Int32)) hG dL_law_908 (by decide) ?_
    exact jr_none
def f_L_law_874 (N : Nat) (xs : Nat → Int32) (L : Nat) (K18 : Int32 → Mm → Option Unit) (v3 : Int32) (σ : Mm) : Option Unit := if inb (v3 + (1 : Int32)) L then (bI (f_X5_reach N (0) (xs (ix (v3 + (1 : Int32)))) (σ)) (fun r70 t69 => if inb (v3 + (1 : Int32)) L then (bI (f_X6_reach N (66) (xs (ix (v3 + (1 : Int32)))) t69) (fun r72 t71 => if r70 = r72 then (f_L_law_1301 N xs L K18 v3 t71) else none)) else none)) else none
set_option maxRecDepth 100000 in
set_option maxHeartbeats 4000000 in
theorem w_L_law_874 {p : Program} {l : Launch} {e : Env} {s : State} {m : MethodId} {below : List Frame} {meth : Method} {c : Code} {E : XE} {b L : Nat} {xs : Nat → Int32} (N : Nat) (hG : GG E 0 4 RL cL_law p s m #[Value.ref b] c) (hX : va_X b L xs s s.heap) (hbl : b < s.heap.size) (hr : meth.sig.returnType = ret) (hk : meth.locks = false) {K18 : Int32 → Mm → Option Unit} (hK18 : ∀ (v3 : Int32) (σ : Mm), JR E 0 4 p l e room_1 s m #[Value.ref b] below meth c 89 28555 (fun _ : Unit => lw_Z below #[Value.ref b] s) 18 [(0, .ref b), (1, .ref (E.B + 0)), (2, .ref (E.B + 66)), (3, .int v3)] [] σ (K18 v3 σ)) (v3 : Int32) (σ : Mm) : JR E 0 4 p l e room_1 s m #[Value.ref b] below meth c 89 28555 (fun _ : Unit => lw_Z below #[Value.ref b] s) 874 [(0, .ref b), (1, .ref (E.B + 0)), (2, .ref (E.B + 66)), (3, .int v3)] [] σ (f_L_law_874 N xs L K18 v3 σ) := by
  show JR E 0 4 p l e room_1 s m #[Value.ref b] below meth c 89 28555 (fun _ : Unit => lw_Z below #[Value.ref b] s) 874 [(0, .ref b), (1, .ref (E.B + 0)), (2, .ref (E.B + 66)), (3, .int v3)] [] σ (if inb (v3 + (1 : Int32)) L then (bI (f_X5_reach N (0) (xs (ix (v3 + (1 : Int32)))) (σ)) (fun r70 t69 => if inb (v3 + (1 : Int32)) L then (bI (f_X6_reach N (66) (xs (ix (v3 + (1 : Int32)))) t69) (fun r72 t71 => if r70 = r72 then (f_L_law_1301 N xs L K18 v3 t71) else none)) else none)) else none)
  refine jr_aload_n hG 1 dL_law_874 rfl rfl ?_
  refine jr_aload_n hG 0 dL_law_875 rfl rfl ?_
  refine jr_iload_n hG 3 dL_law_876 rfl rfl ?_
  refine jr_iconst (v := (1 : Int32)) hG dL_law_877 (by decide) ?_
  refine jr_iadd hG dL_law_878 ?_
  refine jr_sld hG hX hbl dL_law_879 ?_
  refine jr_callVi (As := [.int (xs (ix (v3 + (1 : Int32))))]) hG (c_X5_reach l E N (0) (xs (ix (v3 + (1 : Int32)))) (σ)) ci_X5_reach wd_549 ⟨wd_550, wd_551⟩ cl_5 (okO_s ok_x0) (okO_l ok_x0) ⟨rfl, rfl, Nat.le_of_ble_eq_true rfl, Nat.le_of_ble_eq_true rfl⟩ rfl rfl (Nat.le_of_ble_eq_true rfl) dL_law_880 ⟨by decide, by decide⟩ (fun r70 t69 => ?_)
  refine jr_aload_n hG 2 dL_law_883 rfl rfl ?_
  refine jr_aload_n hG 0 dL_law_884 rfl rfl ?_
  refine jr_iload_n hG 3 dL_law_885 rfl rfl ?_
  refine jr_iconst (v := (1 : Int32)) hG dL_law_886 (by decide) ?_
  refine jr_iadd hG dL_law_887 ?_
  refine jr_sld hG hX hbl dL_law_888 ?_
  refine jr_callVi (As := [.int (xs (ix (v3 + (1 : Int32))))]) hG (c_X6_reach l E N (66) (xs (ix (v3 + (1 : Int32)))) t69) ci_X6_reach wd_1080 ⟨wd_1081, wd_1082⟩ cl_6 (okO_s ok_m66) (okO_l ok_m66) ⟨rfl, rfl, Nat.le_of_ble_eq_true rfl, Nat.le_of_ble_eq_true rfl⟩ rfl rfl (Nat.le_of_ble_eq_true rfl) dL_law_889 ⟨by decide, by decide⟩ (fun r72 t71 => ?_)
  refine jr_icmp_eq hG 1301 dL_law_892 (by decide) (fun _ => ?_) (fun _ => ?_)
  · exact w_L_law_1301 N hG hX hbl hr hk hK18 v3 t71
  · refine jr_iconst (v := (0 : Int32)) hG dL_law_895 (by decide) ?_
    exact jr_none
def f_L_law_861 (N : Nat) (xs : Nat → Int32) (L : Nat) (K18 : Int32 → Mm → Option Unit) (v3 : Int32) (σ : Mm) : Option Unit := bI (f_X5_crew N (0) (σ)) (fun r74 t73 => bI (f_X6_crew N (66) t73) (fun r76 t75 => if r74 = r76 then (f_L_law_1301 N xs L K18 v3 t75) else none))
set_option maxRecDepth 100000 in
set_option maxHeartbeats 4000000 in
theorem w_L_law_861 {p : Program} {l : Launch} {e : Env} {s : State} {m : MethodId} {below : List Frame} {meth : Method} {c : Code} {E : XE} {b L : Nat} {xs : Nat → Int32} (N : Nat) (hG : GG E 0 4 RL cL_law p s m #[Value.ref b] c) (hX : va_X b L xs s s.heap) (hbl : b < s.heap.size) (hr : meth.sig.returnType = ret) (hk : meth.locks = false) {K18 : Int32 → Mm → Option Unit} (hK18 : ∀ (v3 : Int32) (σ : Mm), JR E 0 4 p l e room_1 s m #[Value.ref b] below meth c 89 28555 (fun _ : Unit => lw_Z below #[Value.ref b] s) 18 [(0, .ref b), (1, .ref (E.B + 0)), (2, .ref (E.B + 66)), (3, .int v3)] [] σ (K18 v3 σ)) (v3 : Int32) (σ : Mm) : JR E 0 4 p l e room_1 s m #[Value.ref b] below meth c 89 28555 (fun _ : Unit => lw_Z below #[Value.ref b] s) 861 [(0, .ref b), (1, .ref (E.B + 0)), (2, .ref (E.B + 66)), (3, .int v3)] [] σ (f_L_law_861 N xs L K18 v3 σ) := by
  show JR E 0 4 p l e room_1 s m #[Value.ref b] below meth c 89 28555 (fun _ : Unit => lw_Z below #[Value.ref b] s) 861 [(0, .ref b), (1, .ref (E.B + 0)), (2, .ref (E.B + 66)), (3, .int v3)] [] σ (bI (f_X5_crew N (0) (σ)) (fun r74 t73 => bI (f_X6_crew N (66) t73) (fun r76 t75 => if r74 = r76 then (f_L_law_1301 N xs L K18 v3 t75) else none)))
  refine jr_aload_n hG 1 dL_law_861 rfl rfl ?_
  refine jr_callVi (As := []) hG (c_X5_crew l E N (0) (σ)) ci_X5_crew wd_541 ⟨wd_542, wd_543⟩ cl_5 (okO_s ok_x0) (okO_l ok_x0) ⟨rfl, rfl, Nat.le_of_ble_eq_true rfl, Nat.le_of_ble_eq_true rfl⟩ rfl rfl (Nat.le_of_ble_eq_true rfl) dL_law_862 ⟨by decide, by decide⟩ (fun r74 t73 => ?_)
  refine jr_aload_n hG 2 dL_law_865 rfl rfl ?_
  refine jr_callVi (As := []) hG (c_X6_crew l E N (66) t73) ci_X6_crew wd_1072 ⟨wd_1073, wd_1074⟩ cl_6 (okO_s ok_m66) (okO_l ok_m66) ⟨rfl, rfl, Nat.le_of_ble_eq_true rfl, Nat.le_of_ble_eq_true rfl⟩ rfl rfl (Nat.le_of_ble_eq_true rfl) dL_law_866 ⟨by decide, by decide⟩ (fun r76 t75 => ?_)
  refine jr_icmp_eq hG 1301 dL_law_869 (by decide) (fun _ => ?_) (fun _ => ?_)
  · exact w_L_law_1301 N hG hX hbl hr hk hK18 v3 t75
  · refine jr_iconst (v := (0 : Int32)) hG dL_law_872 (by decide) ?_
    exact jr_none
def f_L_law_828 (N : Nat) (xs : Nat → Int32) (L : Nat) (K18 : Int32 → Mm → Option Unit) (v3 : Int32) (σ : Mm) : Option Unit := if inb (v3 + (1 : Int32)) L then (if inb (v3 + (2 : Int32)) L then (bI (f_X5_needs N (0) (xs (ix (v3 + (1 : Int32)))) (xs (ix (v3 + (2 : Int32)))) (σ)) (fun r78 t77 => if inb (v3 + (1 : Int32)) L then (if inb (v3 + (2 : Int32)) L then (bI (f_X6_needs N (66) (xs (ix (v3 + (1 : Int32)))) (xs (ix (v3 + (2 : Int32)))) t77) (fun r80 t79 => if r78 = r80 then (f_L_law_1301 N xs L K18 v3 t79) else none)) else none) else none)) else none) else none
set_option maxRecDepth 100000 in
set_option maxHeartbeats 4000000 in
theorem w_L_law_828 {p : Program} {l : Launch} {e : Env} {s : State} {m : MethodId} {below : List Frame} {meth : Method} {c : Code} {E : XE} {b L : Nat} {xs : Nat → Int32} (N : Nat) (hG : GG E 0 4 RL cL_law p s m #[Value.ref b] c) (hX : va_X b L xs s s.heap) (hbl : b < s.heap.size) (hr : meth.sig.returnType = ret) (hk : meth.locks = false) {K18 : Int32 → Mm → Option Unit} (hK18 : ∀ (v3 : Int32) (σ : Mm), JR E 0 4 p l e room_1 s m #[Value.ref b] below meth c 89 28555 (fun _ : Unit => lw_Z below #[Value.ref b] s) 18 [(0, .ref b), (1, .ref (E.B + 0)), (2, .ref (E.B + 66)), (3, .int v3)] [] σ (K18 v3 σ)) (v3 : Int32) (σ : Mm) : JR E 0 4 p l e room_1 s m #[Value.ref b] below meth c 89 28555 (fun _ : Unit => lw_Z below #[Value.ref b] s) 828 [(0, .ref b), (1, .ref (E.B + 0)), (2, .ref (E.B + 66)), (3, .int v3)] [] σ (f_L_law_828 N xs L K18 v3 σ) := by
  show JR E 0 4 p l e room_1 s m #[Value.ref b] below meth c 89 28555 (fun _ : Unit => lw_Z below #[Value.ref b] s) 828 [(0, .ref b), (1, .ref (E.B + 0)), (2, .ref (E.B + 66)), (3, .int v3)] [] σ (if inb (v3 + (1 : Int32)) L then (if inb (v3 + (2 : Int32)) L then (bI (f_X5_needs N (0) (xs (ix (v3 + (1 : Int32)))) (xs (ix (v3 + (2 : Int32)))) (σ)) (fun r78 t77 => if inb (v3 + (1 : Int32)) L then (if inb (v3 + (2 : Int32)) L then (bI (f_X6_needs N (66) (xs (ix (v3 + (1 : Int32)))) (xs (ix (v3 + (2 : Int32)))) t77) (fun r80 t79 => if r78 = r80 then (f_L_law_1301 N xs L K18 v3 t79) else none)) else none) else none)) else none) else none)
  refine jr_aload_n hG 1 dL_law_828 rfl rfl ?_
  refine jr_aload_n hG 0 dL_law_829 rfl rfl ?_
  refine jr_iload_n hG 3 dL_law_830 rfl rfl ?_
  refine jr_iconst (v := (1 : Int32)) hG dL_law_831 (by decide) ?_
  refine jr_iadd hG dL_law_832 ?_
  refine jr_sld hG hX hbl dL_law_833 ?_
  refine jr_aload_n hG 0 dL_law_834 rfl rfl ?_
  refine jr_iload_n hG 3 dL_law_835 rfl rfl ?_
  refine jr_iconst (v := (2 : Int32)) hG dL_law_836 (by decide) ?_
  refine jr_iadd hG dL_law_837 ?_
  refine jr_sld hG hX hbl dL_law_838 ?_
  refine jr_callVi (As := [.int (xs (ix (v3 + (1 : Int32)))), .int (xs (ix (v3 + (2 : Int32))))]) hG (c_X5_needs l E N (0) (xs (ix (v3 + (1 : Int32)))) (xs (ix (v3 + (2 : Int32)))) (σ)) ci_X5_needs wd_529 ⟨wd_530, wd_531⟩ cl_5 (okO_s ok_x0) (okO_l ok_x0) ⟨rfl, rfl, Nat.le_of_ble_eq_true rfl, Nat.le_of_ble_eq_true rfl⟩ rfl rfl (Nat.le_of_ble_eq_true rfl) dL_law_839 ⟨by decide, by decide⟩ (fun r78 t77 => ?_)
  refine jr_aload_n hG 2 dL_law_842 rfl rfl ?_
  refine jr_aload_n hG 0 dL_law_843 rfl rfl ?_
  refine jr_iload_n hG 3 dL_law_844 rfl rfl ?_
  refine jr_iconst (v := (1 : Int32)) hG dL_law_845 (by decide) ?_
  refine jr_iadd hG dL_law_846 ?_
  refine jr_sld hG hX hbl dL_law_847 ?_
  refine jr_aload_n hG 0 dL_law_848 rfl rfl ?_
  refine jr_iload_n hG 3 dL_law_849 rfl rfl ?_
  refine jr_iconst (v := (2 : Int32)) hG dL_law_850 (by decide) ?_
  refine jr_iadd hG dL_law_851 ?_
  refine jr_sld hG hX hbl dL_law_852 ?_
  refine jr_callVi (As := [.int (xs (ix (v3 + (1 : Int32)))), .int (xs (ix (v3 + (2 : Int32))))]) hG (c_X6_needs l E N (66) (xs (ix (v3 + (1 : Int32)))) (xs (ix (v3 + (2 : Int32)))) t77) ci_X6_needs wd_1060 ⟨wd_1061, wd_1062⟩ cl_6 (okO_s ok_m66) (okO_l ok_m66) ⟨rfl, rfl, Nat.le_of_ble_eq_true rfl, Nat.le_of_ble_eq_true rfl⟩ rfl rfl (Nat.le_of_ble_eq_true rfl) dL_law_853 ⟨by decide, by decide⟩ (fun r80 t79 => ?_)
  refine jr_icmp_eq hG 1301 dL_law_856 (by decide) (fun _ => ?_) (fun _ => ?_)
  · exact w_L_law_1301 N hG hX hbl hr hk hK18 v3 t79
  · refine jr_iconst (v := (0 : Int32)) hG dL_law_859 (by decide) ?_
    exact jr_none
def f_L_law_785 (N : Nat) (xs : Nat → Int32) (L : Nat) (K18 : Int32 → Mm → Option Unit) (v3 : Int32) (σ : Mm) : Option Unit := if inb (v3 + (1 : Int32)) L then (if inb (v3 + (2 : Int32)) L then (if inb (v3 + (3 : Int32)) L then (bI (f_X5_order N (0) (xs (ix (v3 + (1 : Int32)))) (xs (ix (v3 + (2 : Int32)))) (xs (ix (v3 + (3 : Int32)))) (σ)) (fun r82 t81 => if inb (v3 + (1 : Int32)) L then (if inb (v3 + (2 : Int32)) L then (if inb (v3 + (3 : Int32)) L then (bI (f_X6_order N (66) (xs (ix (v3 + (1 : Int32)))) (xs (ix (v3 + (2 : Int32)))) (xs (ix (v3 + (3 : Int32)))) t81) (fun r84 t83 => if r82 = r84 then (f_L_law_1301 N xs L K18 v3 t83) else none)) else none) else none) else none)) else none) else none) else none
set_option maxRecDepth 100000 in
set_option maxHeartbeats 4000000 in
theorem w_L_law_785 {p : Program} {l : Launch} {e : Env} {s : State} {m : MethodId} {below : List Frame} {meth : Method} {c : Code} {E : XE} {b L : Nat} {xs : Nat → Int32} (N : Nat) (hG : GG E 0 4 RL cL_law p s m #[Value.ref b] c) (hX : va_X b L xs s s.heap) (hbl : b < s.heap.size) (hr : meth.sig.returnType = ret) (hk : meth.locks = false) {K18 : Int32 → Mm → Option Unit} (hK18 : ∀ (v3 : Int32) (σ : Mm), JR E 0 4 p l e room_1 s m #[Value.ref b] below meth c 89 28555 (fun _ : Unit => lw_Z below #[Value.ref b] s) 18 [(0, .ref b), (1, .ref (E.B + 0)), (2, .ref (E.B + 66)), (3, .int v3)] [] σ (K18 v3 σ)) (v3 : Int32) (σ : Mm) : JR E 0 4 p l e room_1 s m #[Value.ref b] below meth c 89 28555 (fun _ : Unit => lw_Z below #[Value.ref b] s) 785 [(0, .ref b), (1, .ref (E.B + 0)), (2, .ref (E.B + 66)), (3, .int v3)] [] σ (f_L_law_785 N xs L K18 v3 σ) := by
  show JR E 0 4 p l e room_1 s m #[Value.ref b] below meth c 89 28555 (fun _ : Unit => lw_Z below #[Value.ref b] s) 785 [(0, .ref b), (1, .ref (E.B + 0)), (2, .ref (E.B + 66)), (3, .int v3)] [] σ (if inb (v3 + (1 : Int32)) L then (if inb (v3 + (2 : Int32)) L then (if inb (v3 + (3 : Int32)) L then (bI (f_X5_order N (0) (xs (ix (v3 + (1 : Int32)))) (xs (ix (v3 + (2 : Int32)))) (xs (ix (v3 + (3 : Int32)))) (σ)) (fun r82 t81 => if inb (v3 + (1 : Int32)) L then (if inb (v3 + (2 : Int32)) L then (if inb (v3 + (3 : Int32)) L then (bI (f_X6_order N (66) (xs (ix (v3 + (1 : Int32)))) (xs (ix (v3 + (2 : Int32)))) (xs (ix (v3 + (3 : Int32)))) t81) (fun r84 t83 => if r82 = r84 then (f_L_law_1301 N xs L K18 v3 t83) else none)) else none) else none) else none)) else none) else none) else none)
  refine jr_aload_n hG 1 dL_law_785 rfl rfl ?_
  refine jr_aload_n hG 0 dL_law_786 rfl rfl ?_
  refine jr_iload_n hG 3 dL_law_787 rfl rfl ?_
  refine jr_iconst (v := (1 : Int32)) hG dL_law_788 (by decide) ?_
  refine jr_iadd hG dL_law_789 ?_
  refine jr_sld hG hX hbl dL_law_790 ?_
  refine jr_aload_n hG 0 dL_law_791 rfl rfl ?_
  refine jr_iload_n hG 3 dL_law_792 rfl rfl ?_
  refine jr_iconst (v := (2 : Int32)) hG dL_law_793 (by decide) ?_
  refine jr_iadd hG dL_law_794 ?_
  refine jr_sld hG hX hbl dL_law_795 ?_
  refine jr_aload_n hG 0 dL_law_796 rfl rfl ?_
  refine jr_iload_n hG 3 dL_law_797 rfl rfl ?_
  refine jr_iconst (v := (3 : Int32)) hG dL_law_798 (by decide) ?_
  refine jr_iadd hG dL_law_799 ?_
  refine jr_sld hG hX hbl dL_law_800 ?_
  refine jr_callVi (As := [.int (xs (ix (v3 + (1 : Int32)))), .int (xs (ix (v3 + (2 : Int32)))), .int (xs (ix (v3 + (3 : Int32))))]) hG (c_X5_order l E N (0) (xs (ix (v3 + (1 : Int32)))) (xs (ix (v3 + (2 : Int32)))) (xs (ix (v3 + (3 : Int32)))) (σ)) ci_X5_order wd_513 ⟨wd_514, wd_515⟩ cl_5 (okO_s ok_x0) (okO_l ok_x0) ⟨rfl, rfl, Nat.le_of_ble_eq_true rfl, Nat.le_of_ble_eq_true rfl⟩ rfl rfl (Nat.le_of_ble_eq_true rfl) dL_law_801 ⟨by decide, by decide⟩ (fun r82 t81 => ?_)
  refine jr_aload_n hG 2 dL_law_804 rfl rfl ?_
  refine jr_aload_n hG 0 dL_law_805 rfl rfl ?_
  refine jr_iload_n hG 3 dL_law_806 rfl rfl ?_
  refine jr_iconst (v := (1 : Int32)) hG dL_law_807 (by decide) ?_
  refine jr_iadd hG dL_law_808 ?_
  refine jr_sld hG hX hbl dL_law_809 ?_
  refine jr_aload_n hG 0 dL_law_810 rfl rfl ?_
  refine jr_iload_n hG 3 dL_law_811 rfl rfl ?_
  refine jr_iconst (v := (2 : Int32)) hG dL_law_812 (by decide) ?_
  refine jr_iadd hG dL_law_813 ?_
  refine jr_sld hG hX hbl dL_law_814 ?_
  refine jr_aload_n hG 0 dL_law_815 rfl rfl ?_
  refine jr_iload_n hG 3 dL_law_816 rfl rfl ?_
  refine jr_iconst (v := (3 : Int32)) hG dL_law_817 (by decide) ?_
  refine jr_iadd hG dL_law_818 ?_
  refine jr_sld hG hX hbl dL_law_819 ?_
  refine jr_callVi (As := [.int (xs (ix (v3 + (1 : Int32)))), .int (xs (ix (v3 + (2 : Int32)))), .int (xs (ix (v3 + (3 : Int32))))]) hG (c_X6_order l E N (66) (xs (ix (v3 + (1 : Int32)))) (xs (ix (v3 + (2 : Int32)))) (xs (ix (v3 + (3 : Int32)))) t81) ci_X6_order wd_1044 ⟨wd_1045, wd_1046⟩ cl_6 (okO_s ok_m66) (okO_l ok_m66) ⟨rfl, rfl, Nat.le_of_ble_eq_true rfl, Nat.le_of_ble_eq_true rfl⟩ rfl rfl (Nat.le_of_ble_eq_true rfl) dL_law_820 ⟨by decide, by decide⟩ (fun r84 t83 => ?_)
  refine jr_icmp_eq hG 1301 dL_law_823 (by decide) (fun _ => ?_) (fun _ => ?_)
  · exact w_L_law_1301 N hG hX hbl hr hk hK18 v3 t83
  · refine jr_iconst (v := (0 : Int32)) hG dL_law_826 (by decide) ?_
    exact jr_none
def f_L_law_752 (N : Nat) (xs : Nat → Int32) (L : Nat) (K18 : Int32 → Mm → Option Unit) (v3 : Int32) (σ : Mm) : Option Unit := if inb (v3 + (1 : Int32)) L then (if inb (v3 + (2 : Int32)) L then (bI (f_X5_tells N (0) (xs (ix (v3 + (1 : Int32)))) (xs (ix (v3 + (2 : Int32)))) (σ)) (fun r86 t85 => if inb (v3 + (1 : Int32)) L then (if inb (v3 + (2 : Int32)) L then (bI (f_X6_tells N (66) (xs (ix (v3 + (1 : Int32)))) (xs (ix (v3 + (2 : Int32)))) t85) (fun r88 t87 => if r86 = r88 then (f_L_law_1301 N xs L K18 v3 t87) else none)) else none) else none)) else none) else none
set_option maxRecDepth 100000 in
set_option maxHeartbeats 4000000 in
theorem w_L_law_752 {p : Program} {l : Launch} {e : Env} {s : State} {m : MethodId} {below : List Frame} {meth : Method} {c : Code} {E : XE} {b L : Nat} {xs : Nat → Int32} (N : Nat) (hG : GG E 0 4 RL cL_law p s m #[Value.ref b] c) (hX : va_X b L xs s s.heap) (hbl : b < s.heap.size) (hr : meth.sig.returnType = ret) (hk : meth.locks = false) {K18 : Int32 → Mm → Option Unit} (hK18 : ∀ (v3 : Int32) (σ : Mm), JR E 0 4 p l e room_1 s m #[Value.ref b] below meth c 89 28555 (fun _ : Unit => lw_Z below #[Value.ref b] s) 18 [(0, .ref b), (1, .ref (E.B + 0)), (2, .ref (E.B + 66)), (3, .int v3)] [] σ (K18 v3 σ)) (v3 : Int32) (σ : Mm) : JR E 0 4 p l e room_1 s m #[Value.ref b] below meth c 89 28555 (fun _ : Unit => lw_Z below #[Value.ref b] s) 752 [(0, .ref b), (1, .ref (E.B + 0)), (2, .ref (E.B + 66)), (3, .int v3)] [] σ (f_L_law_752 N xs L K18 v3 σ) := by
  show JR E 0 4 p l e room_1 s m #[Value.ref b] below meth c 89 28555 (fun _ : Unit => lw_Z below #[Value.ref b] s) 752 [(0, .ref b), (1, .ref (E.B + 0)), (2, .ref (E.B + 66)), (3, .int v3)] [] σ (if inb (v3 + (1 : Int32)) L then (if inb (v3 + (2 : Int32)) L then (bI (f_X5_tells N (0) (xs (ix (v3 + (1 : Int32)))) (xs (ix (v3 + (2 : Int32)))) (σ)) (fun r86 t85 => if inb (v3 + (1 : Int32)) L then (if inb (v3 + (2 : Int32)) L then (bI (f_X6_tells N (66) (xs (ix (v3 + (1 : Int32)))) (xs (ix (v3 + (2 : Int32)))) t85) (fun r88 t87 => if r86 = r88 then (f_L_law_1301 N xs L K18 v3 t87) else none)) else none) else none)) else none) else none)
  refine jr_aload_n hG 1 dL_law_752 rfl rfl ?_
  refine jr_aload_n hG 0 dL_law_753 rfl rfl ?_
  refine jr_iload_n hG 3 dL_law_754 rfl rfl ?_
  refine jr_iconst (v := (1 : Int32)) hG dL_law_755 (by decide) ?_
  refine jr_iadd hG dL_law_756 ?_
  refine jr_sld hG hX hbl dL_law_757 ?_
  refine jr_aload_n hG 0 dL_law_758 rfl rfl ?_
  refine jr_iload_n hG 3 dL_law_759 rfl rfl ?_
  refine jr_iconst (v := (2 : Int32)) hG dL_law_760 (by decide) ?_
  refine jr_iadd hG dL_law_761 ?_
  refine jr_sld hG hX hbl dL_law_762 ?_
  refine jr_callVi (As := [.int (xs (ix (v3 + (1 : Int32)))), .int (xs (ix (v3 + (2 : Int32))))]) hG (c_X5_tells l E N (0) (xs (ix (v3 + (1 : Int32)))) (xs (ix (v3 + (2 : Int32)))) (σ)) ci_X5_tells wd_509 ⟨wd_510, wd_511⟩ cl_5 (okO_s ok_x0) (okO_l ok_x0) ⟨rfl, rfl, Nat.le_of_ble_eq_true rfl, Nat.le_of_ble_eq_true rfl⟩ rfl rfl (Nat.le_of_ble_eq_true rfl) dL_law_763 ⟨by decide, by decide⟩ (fun r86 t85 => ?_)
  refine jr_aload_n hG 2 dL_law_766 rfl rfl ?_
  refine jr_aload_n hG 0 dL_law_767 rfl rfl ?_
  refine jr_iload_n hG 3 dL_law_768 rfl rfl ?_
  refine jr_iconst (v := (1 : Int32)) hG dL_law_769 (by decide) ?_
  refine jr_iadd hG dL_law_770 ?_
  refine jr_sld hG hX hbl dL_law_771 ?_
  refine jr_aload_n hG 0 dL_law_772 rfl rfl ?_
  refine jr_iload_n hG 3 dL_law_773 rfl rfl ?_
  refine jr_iconst (v := (2 : Int32)) hG dL_law_774 (by decide) ?_
  refine jr_iadd hG dL_law_775 ?_
  refine jr_sld hG hX hbl dL_law_776 ?_
  refine jr_callVi (As := [.int (xs (ix (v3 + (1 : Int32)))), .int (xs (ix (v3 + (2 : Int32))))]) hG (c_X6_tells l E N (66) (xs (ix (v3 + (1 : Int32)))) (xs (ix (v3 + (2 : Int32)))) t85) ci_X6_tells wd_1040 ⟨wd_1041, wd_1042⟩ cl_6 (okO_s ok_m66) (okO_l ok_m66) ⟨rfl, rfl, Nat.le_of_ble_eq_true rfl, Nat.le_of_ble_eq_true rfl⟩ rfl rfl (Nat.le_of_ble_eq_true rfl) dL_law_777 ⟨by decide, by decide⟩ (fun r88 t87 => ?_)
  refine jr_icmp_eq hG 1301 dL_law_780 (by decide) (fun _ => ?_) (fun _ => ?_)
  · exact w_L_law_1301 N hG hX hbl hr hk hK18 v3 t87
  · refine jr_iconst (v := (0 : Int32)) hG dL_law_783 (by decide) ?_
    exact jr_none
def f_L_law_729 (N : Nat) (xs : Nat → Int32) (L : Nat) (K18 : Int32 → Mm → Option Unit) (v3 : Int32) (σ : Mm) : Option Unit := if inb (v3 + (1 : Int32)) L then (bI (f_X5_on N (0) (xs (ix (v3 + (1 : Int32)))) (σ)) (fun r90 t89 => if inb (v3 + (1 : Int32)) L then (bI (f_X6_on N (66) (xs (ix (v3 + (1 : Int32)))) t89) (fun r92 t91 => if r90 = r92 then (f_L_law_1301 N xs L K18 v3 t91) else none)) else none)) else none
set_option maxRecDepth 100000 in
set_option maxHeartbeats 4000000 in
theorem w_L_law_729 {p : Program} {l : Launch} {e : Env} {s : State} {m : MethodId} {below : List Frame} {meth : Method} {c : Code} {E : XE} {b L : Nat} {xs : Nat → Int32} (N : Nat) (hG : GG E 0 4 RL cL_law p s m #[Value.ref b] c) (hX : va_X b L xs s s.heap) (hbl : b < s.heap.size) (hr : meth.sig.returnType = ret) (hk : meth.locks = false) {K18 : Int32 → Mm → Option Unit} (hK18 : ∀ (v3 : Int32) (σ : Mm), JR E 0 4 p l e room_1 s m #[Value.ref b] below meth c 89 28555 (fun _ : Unit => lw_Z below #[Value.ref b] s) 18 [(0, .ref b), (1, .ref (E.B + 0)), (2, .ref (E.B + 66)), (3, .int v3)] [] σ (K18 v3 σ)) (v3 : Int32) (σ : Mm) : JR E 0 4 p l e room_1 s m #[Value.ref b] below meth c 89 28555 (fun _ : Unit => lw_Z below #[Value.ref b] s) 729 [(0, .ref b), (1, .ref (E.B + 0)), (2, .ref (E.B + 66)), (3, .int v3)] [] σ (f_L_law_729 N xs L K18 v3 σ) := by
  show JR E 0 4 p l e room_1 s m #[Value.ref b] below meth c 89 28555 (fun _ : Unit => lw_Z below #[Value.ref b] s) 729 [(0, .ref b), (1, .ref (E.B + 0)), (2, .ref (E.B + 66)), (3, .int v3)] [] σ (if inb (v3 + (1 : Int32)) L then (bI (f_X5_on N (0) (xs (ix (v3 + (1 : Int32)))) (σ)) (fun r90 t89 => if inb (v3 + (1 : Int32)) L then (bI (f_X6_on N (66) (xs (ix (v3 + (1 : Int32)))) t89) (fun r92 t91 => if r90 = r92 then (f_L_law_1301 N xs L K18 v3 t91) else none)) else none)) else none)
  refine jr_aload_n hG 1 dL_law_729 rfl rfl ?_
  refine jr_aload_n hG 0 dL_law_730 rfl rfl ?_
  refine jr_iload_n hG 3 dL_law_731 rfl rfl ?_
  refine jr_iconst (v := (1 : Int32)) hG dL_law_732 (by decide) ?_
  refine jr_iadd hG dL_law_733 ?_
  refine jr_sld hG hX hbl dL_law_734 ?_
  refine jr_callVi (As := [.int (xs (ix (v3 + (1 : Int32))))]) hG (c_X5_on l E N (0) (xs (ix (v3 + (1 : Int32)))) (σ)) ci_X5_on wd_505 ⟨wd_506, wd_507⟩ cl_5 (okO_s ok_x0) (okO_l ok_x0) ⟨rfl, rfl, Nat.le_of_ble_eq_true rfl, Nat.le_of_ble_eq_true rfl⟩ rfl rfl (Nat.le_of_ble_eq_true rfl) dL_law_735 ⟨by decide, by decide⟩ (fun r90 t89 => ?_)
  refine jr_aload_n hG 2 dL_law_738 rfl rfl ?_
  refine jr_aload_n hG 0 dL_law_739 rfl rfl ?_
  refine jr_iload_n hG 3 dL_law_740 rfl rfl ?_
  refine jr_iconst (v := (1 : Int32)) hG dL_law_741 (by decide) ?_
  refine jr_iadd hG dL_law_742 ?_
  refine jr_sld hG hX hbl dL_law_743 ?_
  refine jr_callVi (As := [.int (xs (ix (v3 + (1 : Int32))))]) hG (c_X6_on l E N (66) (xs (ix (v3 + (1 : Int32)))) t89) ci_X6_on wd_1036 ⟨wd_1037, wd_1038⟩ cl_6 (okO_s ok_m66) (okO_l ok_m66) ⟨rfl, rfl, Nat.le_of_ble_eq_true rfl, Nat.le_of_ble_eq_true rfl⟩ rfl rfl (Nat.le_of_ble_eq_true rfl) dL_law_744 ⟨by decide, by decide⟩ (fun r92 t91 => ?_)
  refine jr_icmp_eq hG 1301 dL_law_747 (by decide) (fun _ => ?_) (fun _ => ?_)
  · exact w_L_law_1301 N hG hX hbl hr hk hK18 v3 t91
  · refine jr_iconst (v := (0 : Int32)) hG dL_law_750 (by decide) ?_
    exact jr_none
def f_L_law_706 (N : Nat) (xs : Nat → Int32) (L : Nat) (K18 : Int32 → Mm → Option Unit) (v3 : Int32) (σ : Mm) : Option Unit := if inb (v3 + (1 : Int32)) L then (bI (f_X5_keep N (0) (xs (ix (v3 + (1 : Int32)))) (σ)) (fun r94 t93 => if inb (v3 + (1 : Int32)) L then (bI (f_X6_keep N (66) (xs (ix (v3 + (1 : Int32)))) t93) (fun r96 t95 => if r94 = r96 then (f_L_law_1301 N xs L K18 v3 t95) else none)) else none)) else none
set_option maxRecDepth 100000 in
set_option maxHeartbeats 4000000 in
theorem w_L_law_706 {p : Program} {l : Launch} {e : Env} {s : State} {m : MethodId} {below : List Frame} {meth : Method} {c : Code} {E : XE} {b L : Nat} {xs : Nat → Int32} (N : Nat) (hG : GG E 0 4 RL cL_law p s m #[Value.ref b] c) (hX : va_X b L xs s s.heap) (hbl : b < s.heap.size) (hr : meth.sig.returnType = ret) (hk : meth.locks = false) {K18 : Int32 → Mm → Option Unit} (hK18 : ∀ (v3 : Int32) (σ : Mm), JR E 0 4 p l e room_1 s m #[Value.ref b] below meth c 89 28555 (fun _ : Unit => lw_Z below #[Value.ref b] s) 18 [(0, .ref b), (1, .ref (E.B + 0)), (2, .ref (E.B + 66)), (3, .int v3)] [] σ (K18 v3 σ)) (v3 : Int32) (σ : Mm) : JR E 0 4 p l e room_1 s m #[Value.ref b] below meth c 89 28555 (fun _ : Unit => lw_Z below #[Value.ref b] s) 706 [(0, .ref b), (1, .ref (E.B + 0)), (2, .ref (E.B + 66)), (3, .int v3)] [] σ (f_L_law_706 N xs L K18 v3 σ) := by
  show JR E 0 4 p l e room_1 s m #[Value.ref b] below meth c 89 28555 (fun _ : Unit => lw_Z below #[Value.ref b] s) 706 [(0, .ref b), (1, .ref (E.B + 0)), (2, .ref (E.B + 66)), (3, .int v3)] [] σ (if inb (v3 + (1 : Int32)) L then (bI (f_X5_keep N (0) (xs (ix (v3 + (1 : Int32)))) (σ)) (fun r94 t93 => if inb (v3 + (1 : Int32)) L then (bI (f_X6_keep N (66) (xs (ix (v3 + (1 : Int32)))) t93) (fun r96 t95 => if r94 = r96 then (f_L_law_1301 N xs L K18 v3 t95) else none)) else none)) else none)
  refine jr_aload_n hG 1 dL_law_706 rfl rfl ?_
  refine jr_aload_n hG 0 dL_law_707 rfl rfl ?_
  refine jr_iload_n hG 3 dL_law_708 rfl rfl ?_
  refine jr_iconst (v := (1 : Int32)) hG dL_law_709 (by decide) ?_
  refine jr_iadd hG dL_law_710 ?_
  refine jr_sld hG hX hbl dL_law_711 ?_
  refine jr_callVi (As := [.int (xs (ix (v3 + (1 : Int32))))]) hG (c_X5_keep l E N (0) (xs (ix (v3 + (1 : Int32)))) (σ)) ci_X5_keep wd_497 ⟨wd_498, wd_499⟩ cl_5 (okO_s ok_x0) (okO_l ok_x0) ⟨rfl, rfl, Nat.le_of_ble_eq_true rfl, Nat.le_of_ble_eq_true rfl⟩ rfl rfl (Nat.le_of_ble_eq_true rfl) dL_law_712 ⟨by decide, by decide⟩ (fun r94 t93 => ?_)
  refine jr_aload_n hG 2 dL_law_715 rfl rfl ?_
  refine jr_aload_n hG 0 dL_law_716 rfl rfl ?_
  refine jr_iload_n hG 3 dL_law_717 rfl rfl ?_
  refine jr_iconst (v := (1 : Int32)) hG dL_law_718 (by decide) ?_
  refine jr_iadd hG dL_law_719 ?_
  refine jr_sld hG hX hbl dL_law_720 ?_
  refine jr_callVi (As := [.int (xs (ix (v3 + (1 : Int32))))]) hG (c_X6_keep l E N (66) (xs (ix (v3 + (1 : Int32)))) t93) ci_X6_keep wd_1032 ⟨wd_1033, wd_1034⟩ cl_6 (okO_s ok_m66) (okO_l ok_m66) ⟨rfl, rfl, Nat.le_of_ble_eq_true rfl, Nat.le_of_ble_eq_true rfl⟩ rfl rfl (Nat.le_of_ble_eq_true rfl) dL_law_721 ⟨by decide, by decide⟩ (fun r96 t95 => ?_)
  refine jr_icmp_eq hG 1301 dL_law_724 (by decide) (fun _ => ?_) (fun _ => ?_)
  · exact w_L_law_1301 N hG hX hbl hr hk hK18 v3 t95
  · refine jr_iconst (v := (0 : Int32)) hG dL_law_727 (by decide) ?_
    exact jr_none
def f_L_law_683 (N : Nat) (xs : Nat → Int32) (L : Nat) (K18 : Int32 → Mm → Option Unit) (v3 : Int32) (σ : Mm) : Option Unit := if inb (v3 + (1 : Int32)) L then (bI (f_X5_undo N (0) (xs (ix (v3 + (1 : Int32)))) (σ)) (fun r98 t97 => if inb (v3 + (1 : Int32)) L then (bI (f_X6_undo N (66) (xs (ix (v3 + (1 : Int32)))) t97) (fun r100 t99 => if r98 = r100 then (f_L_law_1301 N xs L K18 v3 t99) else none)) else none)) else none
set_option maxRecDepth 100000 in
set_option maxHeartbeats 4000000 in
theorem w_L_law_683 {p : Program} {l : Launch} {e : Env} {s : State} {m : MethodId} {below : List Frame} {meth : Method} {c : Code} {E : XE} {b L : Nat} {xs : Nat → Int32} (N : Nat) (hG : GG E 0 4 RL cL_law p s m #[Value.ref b] c) (hX : va_X b L xs s s.heap) (hbl : b < s.heap.size) (hr : meth.sig.returnType = ret) (hk : meth.locks = false) {K18 : Int32 → Mm → Option Unit} (hK18 : ∀ (v3 : Int32) (σ : Mm), JR E 0 4 p l e room_1 s m #[Value.ref b] below meth c 89 28555 (fun _ : Unit => lw_Z below #[Value.ref b] s) 18 [(0, .ref b), (1, .ref (E.B + 0)), (2, .ref (E.B + 66)), (3, .int v3)] [] σ (K18 v3 σ)) (v3 : Int32) (σ : Mm) : JR E 0 4 p l e room_1 s m #[Value.ref b] below meth c 89 28555 (fun _ : Unit => lw_Z below #[Value.ref b] s) 683 [(0, .ref b), (1, .ref (E.B + 0)), (2, .ref (E.B + 66)), (3, .int v3)] [] σ (f_L_law_683 N xs L K18 v3 σ) := by
  show JR E 0 4 p l e room_1 s m #[Value.ref b] below meth c 89 28555 (fun _ : Unit => lw_Z below #[Value.ref b] s) 683 [(0, .ref b), (1, .ref (E.B + 0)), (2, .ref (E.B + 66)), (3, .int v3)] [] σ (if inb (v3 + (1 : Int32)) L then (bI (f_X5_undo N (0) (xs (ix (v3 + (1 : Int32)))) (σ)) (fun r98 t97 => if inb (v3 + (1 : Int32)) L then (bI (f_X6_undo N (66) (xs (ix (v3 + (1 : Int32)))) t97) (fun r100 t99 => if r98 = r100 then (f_L_law_1301 N xs L K18 v3 t99) else none)) else none)) else none)
  refine jr_aload_n hG 1 dL_law_683 rfl rfl ?_
  refine jr_aload_n hG 0 dL_law_684 rfl rfl ?_
  refine jr_iload_n hG 3 dL_law_685 rfl rfl ?_
  refine jr_iconst (v := (1 : Int32)) hG dL_law_686 (by decide) ?_
  refine jr_iadd hG dL_law_687 ?_
  refine jr_sld hG hX hbl dL_law_688 ?_
  refine jr_callVi (As := [.int (xs (ix (v3 + (1 : Int32))))]) hG (c_X5_undo l E N (0) (xs (ix (v3 + (1 : Int32)))) (σ)) ci_X5_undo wd_493 ⟨wd_494, wd_495⟩ cl_5 (okO_s ok_x0) (okO_l ok_x0) ⟨rfl, rfl, Nat.le_of_ble_eq_true rfl, Nat.le_of_ble_eq_true rfl⟩ rfl rfl (Nat.le_of_ble_eq_true rfl) dL_law_689 ⟨by decide, by decide⟩ (fun r98 t97 => ?_)
  refine jr_aload_n hG 2 dL_law_692 rfl rfl ?_
  refine jr_aload_n hG 0 dL_law_693 rfl rfl ?_
  refine jr_iload_n hG 3 dL_law_694 rfl rfl ?_
  refine jr_iconst (v := (1 : Int32)) hG dL_law_695 (by decide) ?_
  refine jr_iadd hG dL_law_696 ?_
  refine jr_sld hG hX hbl dL_law_697 ?_
  refine jr_callVi (As := [.int (xs (ix (v3 + (1 : Int32))))]) hG (c_X6_undo l E N (66) (xs (ix (v3 + (1 : Int32)))) t97) ci_X6_undo wd_1028 ⟨wd_1029, wd_1030⟩ cl_6 (okO_s ok_m66) (okO_l ok_m66) ⟨rfl, rfl, Nat.le_of_ble_eq_true rfl, Nat.le_of_ble_eq_true rfl⟩ rfl rfl (Nat.le_of_ble_eq_true rfl) dL_law_698 ⟨by decide, by decide⟩ (fun r100 t99 => ?_)
  refine jr_icmp_eq hG 1301 dL_law_701 (by decide) (fun _ => ?_) (fun _ => ?_)
  · exact w_L_law_1301 N hG hX hbl hr hk hK18 v3 t99
  · refine jr_iconst (v := (0 : Int32)) hG dL_law_704 (by decide) ?_
    exact jr_none
def f_L_law_650 (N : Nat) (xs : Nat → Int32) (L : Nat) (K18 : Int32 → Mm → Option Unit) (v3 : Int32) (σ : Mm) : Option Unit := if inb (v3 + (1 : Int32)) L then (if inb (v3 + (2 : Int32)) L then (bI (f_X5_sign N (0) (xs (ix (v3 + (1 : Int32)))) (xs (ix (v3 + (2 : Int32)))) (σ)) (fun r102 t101 => if inb (v3 + (1 : Int32)) L then (if inb (v3 + (2 : Int32)) L then (bI (f_X6_sign N (66) (xs (ix (v3 + (1 : Int32)))) (xs (ix (v3 + (2 : Int32)))) t101) (fun r104 t103 => if r102 = r104 then (f_L_law_1301 N xs L K18 v3 t103) else none)) else none) else none)) else none) else none
set_option maxRecDepth 100000 in
set_option maxHeartbeats 4000000 in
theorem w_L_law_650 {p : Program} {l : Launch} {e : Env} {s : State} {m : MethodId} {below : List Frame} {meth : Method} {c : Code} {E : XE} {b L : Nat} {xs : Nat → Int32} (N : Nat) (hG : GG E 0 4 RL cL_law p s m #[Value.ref b] c) (hX : va_X b L xs s s.heap) (hbl : b < s.heap.size) (hr : meth.sig.returnType = ret) (hk : meth.locks = false) {K18 : Int32 → Mm → Option Unit} (hK18 : ∀ (v3 : Int32) (σ : Mm), JR E 0 4 p l e room_1 s m #[Value.ref b] below meth c 89 28555 (fun _ : Unit => lw_Z below #[Value.ref b] s) 18 [(0, .ref b), (1, .ref (E.B + 0)), (2, .ref (E.B + 66)), (3, .int v3)] [] σ (K18 v3 σ)) (v3 : Int32) (σ : Mm) : JR E 0 4 p l e room_1 s m #[Value.ref b] below meth c 89 28555 (fun _ : Unit => lw_Z below #[Value.ref b] s) 650 [(0, .ref b), (1, .ref (E.B + 0)), (2, .ref (E.B + 66)), (3, .int v3)] [] σ (f_L_law_650 N xs L K18 v3 σ) := by
  show JR E 0 4 p l e room_1 s m #[Value.ref b] below meth c 89 28555 (fun _ : Unit => lw_Z below #[Value.ref b] s) 650 [(0, .ref b), (1, .ref (E.B + 0)), (2, .ref (E.B + 66)), (3, .int v3)] [] σ (if inb (v3 + (1 : Int32)) L then (if inb (v3 + (2 : Int32)) L then (bI (f_X5_sign N (0) (xs (ix (v3 + (1 : Int32)))) (xs (ix (v3 + (2 : Int32)))) (σ)) (fun r102 t101 => if inb (v3 + (1 : Int32)) L then (if inb (v3 + (2 : Int32)) L then (bI (f_X6_sign N (66) (xs (ix (v3 + (1 : Int32)))) (xs (ix (v3 + (2 : Int32)))) t101) (fun r104 t103 => if r102 = r104 then (f_L_law_1301 N xs L K18 v3 t103) else none)) else none) else none)) else none) else none)
  refine jr_aload_n hG 1 dL_law_650 rfl rfl ?_
  refine jr_aload_n hG 0 dL_law_651 rfl rfl ?_
  refine jr_iload_n hG 3 dL_law_652 rfl rfl ?_
  refine jr_iconst (v := (1 : Int32)) hG dL_law_653 (by decide) ?_
  refine jr_iadd hG dL_law_654 ?_
  refine jr_sld hG hX hbl dL_law_655 ?_
  refine jr_aload_n hG 0 dL_law_656 rfl rfl ?_
  refine jr_iload_n hG 3 dL_law_657 rfl rfl ?_
  refine jr_iconst (v := (2 : Int32)) hG dL_law_658 (by decide) ?_
  refine jr_iadd hG dL_law_659 ?_
  refine jr_sld hG hX hbl dL_law_660 ?_
  refine jr_callVi (As := [.int (xs (ix (v3 + (1 : Int32)))), .int (xs (ix (v3 + (2 : Int32))))]) hG (c_X5_sign l E N (0) (xs (ix (v3 + (1 : Int32)))) (xs (ix (v3 + (2 : Int32)))) (σ)) ci_X5_sign wd_479 ⟨wd_480, wd_481⟩ cl_5 (okO_s ok_x0) (okO_l ok_x0) ⟨rfl, rfl, Nat.le_of_ble_eq_true rfl, Nat.le_of_ble_eq_true rfl⟩ rfl rfl (Nat.le_of_ble_eq_true rfl) dL_law_661 ⟨by decide, by decide⟩ (fun r102 t101 => ?_)
  refine jr_aload_n hG 2 dL_law_664 rfl rfl ?_
  refine jr_aload_n hG 0 dL_law_665 rfl rfl ?_
  refine jr_iload_n hG 3 dL_law_666 rfl rfl ?_
  refine jr_iconst (v := (1 : Int32)) hG dL_law_667 (by decide) ?_
  refine jr_iadd hG dL_law_668 ?_
  refine jr_sld hG hX hbl dL_law_669 ?_
  refine jr_aload_n hG 0 dL_law_670 rfl rfl ?_
  refine jr_iload_n hG 3 dL_law_671 rfl rfl ?_
  refine jr_iconst (v := (2 : Int32)) hG dL_law_672 (by decide) ?_
  refine jr_iadd hG dL_law_673 ?_
  refine jr_sld hG hX hbl dL_law_674 ?_
  refine jr_callVi (As := [.int (xs (ix (v3 + (1 : Int32)))), .int (xs (ix (v3 + (2 : Int32))))]) hG (c_X6_sign l E N (66) (xs (ix (v3 + (1 : Int32)))) (xs (ix (v3 + (2 : Int32)))) t101) ci_X6_sign wd_1016 ⟨wd_1017, wd_1018⟩ cl_6 (okO_s ok_m66) (okO_l ok_m66) ⟨rfl, rfl, Nat.le_of_ble_eq_true rfl, Nat.le_of_ble_eq_true rfl⟩ rfl rfl (Nat.le_of_ble_eq_true rfl) dL_law_675 ⟨by decide, by decide⟩ (fun r104 t103 => ?_)
  refine jr_icmp_eq hG 1301 dL_law_678 (by decide) (fun _ => ?_) (fun _ => ?_)
  · exact w_L_law_1301 N hG hX hbl hr hk hK18 v3 t103
  · refine jr_iconst (v := (0 : Int32)) hG dL_law_681 (by decide) ?_
    exact jr_none
def f_L_law_637 (N : Nat) (xs : Nat → Int32) (L : Nat) (K18 : Int32 → Mm → Option Unit) (v3 : Int32) (σ : Mm) : Option Unit := bI (f_X5_noon N (0) (σ)) (fun r106 t105 => bI (f_X6_noon N (66) t105) (fun r108 t107 => if r106 = r108 then (f_L_law_1301 N xs L K18 v3 t107) else none))
set_option maxRecDepth 100000 in
set_option maxHeartbeats 4000000 in
theorem w_L_law_637 {p : Program} {l : Launch} {e : Env} {s : State} {m : MethodId} {below : List Frame} {meth : Method} {c : Code} {E : XE} {b L : Nat} {xs : Nat → Int32} (N : Nat) (hG : GG E 0 4 RL cL_law p s m #[Value.ref b] c) (hX : va_X b L xs s s.heap) (hbl : b < s.heap.size) (hr : meth.sig.returnType = ret) (hk : meth.locks = false) {K18 : Int32 → Mm → Option Unit} (hK18 : ∀ (v3 : Int32) (σ : Mm), JR E 0 4 p l e room_1 s m #[Value.ref b] below meth c 89 28555 (fun _ : Unit => lw_Z below #[Value.ref b] s) 18 [(0, .ref b), (1, .ref (E.B + 0)), (2, .ref (E.B + 66)), (3, .int v3)] [] σ (K18 v3 σ)) (v3 : Int32) (σ : Mm) : JR E 0 4 p l e room_1 s m #[Value.ref b] below meth c 89 28555 (fun _ : Unit => lw_Z below #[Value.ref b] s) 637 [(0, .ref b), (1, .ref (E.B + 0)), (2, .ref (E.B + 66)), (3, .int v3)] [] σ (f_L_law_637 N xs L K18 v3 σ) := by
  show JR E 0 4 p l e room_1 s m #[Value.ref b] below meth c 89 28555 (fun _ : Unit => lw_Z below #[Value.ref b] s) 637 [(0, .ref b), (1, .ref (E.B + 0)), (2, .ref (E.B + 66)), (3, .int v3)] [] σ (bI (f_X5_noon N (0) (σ)) (fun r106 t105 => bI (f_X6_noon N (66) t105) (fun r108 t107 => if r106 = r108 then (f_L_law_1301 N xs L K18 v3 t107) else none)))
  refine jr_aload_n hG 1 dL_law_637 rfl rfl ?_
  refine jr_callVi (As := []) hG (c_X5_noon l E N (0) (σ)) ci_X5_noon wd_475 ⟨wd_476, wd_477⟩ cl_5 (okO_s ok_x0) (okO_l ok_x0) ⟨rfl, rfl, Nat.le_of_ble_eq_true rfl, Nat.le_of_ble_eq_true rfl⟩ rfl rfl (Nat.le_of_ble_eq_true rfl) dL_law_638 ⟨by decide, by decide⟩ (fun r106 t105 => ?_)
  refine jr_aload_n hG 2 dL_law_641 rfl rfl ?_
  refine jr_callVi (As := []) hG (c_X6_noon l E N (66) t105) ci_X6_noon wd_1012 ⟨wd_1013, wd_1014⟩ cl_6 (okO_s ok_m66) (okO_l ok_m66) ⟨rfl, rfl, Nat.le_of_ble_eq_true rfl, Nat.le_of_ble_eq_true rfl⟩ rfl rfl (Nat.le_of_ble_eq_true rfl) dL_law_642 ⟨by decide, by decide⟩ (fun r108 t107 => ?_)
  refine jr_icmp_eq hG 1301 dL_law_645 (by decide) (fun _ => ?_) (fun _ => ?_)
  · exact w_L_law_1301 N hG hX hbl hr hk hK18 v3 t107
  · refine jr_iconst (v := (0 : Int32)) hG dL_law_648 (by decide) ?_
    exact jr_none
def f_L_law_614 (N : Nat) (xs : Nat → Int32) (L : Nat) (K18 : Int32 → Mm → Option Unit) (v3 : Int32) (σ : Mm) : Option Unit := if inb (v3 + (1 : Int32)) L then (bI (f_X5_deal N (0) (xs (ix (v3 + (1 : Int32)))) (σ)) (fun r110 t109 => if inb (v3 + (1 : Int32)) L then (bI (f_X6_deal N (66) (xs (ix (v3 + (1 : Int32)))) t109) (fun r112 t111 => if r110 = r112 then (f_L_law_1301 N xs L K18 v3 t111) else none)) else none)) else none
set_option maxRecDepth 100000 in
set_option maxHeartbeats 4000000 in
theorem w_L_law_614 {p : Program} {l : Launch} {e : Env} {s : State} {m : MethodId} {below : List Frame} {meth : Method} {c : Code} {E : XE} {b L : Nat} {xs : Nat → Int32} (N : Nat) (hG : GG E 0 4 RL cL_law p s m #[Value.ref b] c) (hX : va_X b L xs s s.heap) (hbl : b < s.heap.size) (hr : meth.sig.returnType = ret) (hk : meth.locks = false) {K18 : Int32 → Mm → Option Unit} (hK18 : ∀ (v3 : Int32) (σ : Mm), JR E 0 4 p l e room_1 s m #[Value.ref b] below meth c 89 28555 (fun _ : Unit => lw_Z below #[Value.ref b] s) 18 [(0, .ref b), (1, .ref (E.B + 0)), (2, .ref (E.B + 66)), (3, .int v3)] [] σ (K18 v3 σ)) (v3 : Int32) (σ : Mm) : JR E 0 4 p l e room_1 s m #[Value.ref b] below meth c 89 28555 (fun _ : Unit => lw_Z below #[Value.ref b] s) 614 [(0, .ref b), (1, .ref (E.B + 0)), (2, .ref (E.B + 66)), (3, .int v3)] [] σ (f_L_law_614 N xs L K18 v3 σ) := by
  show JR E 0 4 p l e room_1 s m #[Value.ref b] below meth c 89 28555 (fun _ : Unit => lw_Z below #[Value.ref b] s) 614 [(0, .ref b), (1, .ref (E.B + 0)), (2, .ref (E.B + 66)), (3, .int v3)] [] σ (if inb (v3 + (1 : Int32)) L then (bI (f_X5_deal N (0) (xs (ix (v3 + (1 : Int32)))) (σ)) (fun r110 t109 => if inb (v3 + (1 : Int32)) L then (bI (f_X6_deal N (66) (xs (ix (v3 + (1 : Int32)))) t109) (fun r112 t111 => if r110 = r112 then (f_L_law_1301 N xs L K18 v3 t111) else none)) else none)) else none)
  refine jr_aload_n hG 1 dL_law_614 rfl rfl ?_
  refine jr_aload_n hG 0 dL_law_615 rfl rfl ?_
  refine jr_iload_n hG 3 dL_law_616 rfl rfl ?_
  refine jr_iconst (v := (1 : Int32)) hG dL_law_617 (by decide) ?_
  refine jr_iadd hG dL_law_618 ?_
  refine jr_sld hG hX hbl dL_law_619 ?_
  refine jr_callVi (As := [.int (xs (ix (v3 + (1 : Int32))))]) hG (c_X5_deal l E N (0) (xs (ix (v3 + (1 : Int32)))) (σ)) ci_X5_deal wd_451 ⟨wd_452, wd_453⟩ cl_5 (okO_s ok_x0) (okO_l ok_x0) ⟨rfl, rfl, Nat.le_of_ble_eq_true rfl, Nat.le_of_ble_eq_true rfl⟩ rfl rfl (Nat.le_of_ble_eq_true rfl) dL_law_620 ⟨by decide, by decide⟩ (fun r110 t109 => ?_)
  refine jr_aload_n hG 2 dL_law_623 rfl rfl ?_
  refine jr_aload_n hG 0 dL_law_624 rfl rfl ?_
  refine jr_iload_n hG 3 dL_law_625 rfl rfl ?_
  refine jr_iconst (v := (1 : Int32)) hG dL_law_626 (by decide) ?_
  refine jr_iadd hG dL_law_627 ?_
  refine jr_sld hG hX hbl dL_law_628 ?_
  refine jr_callVi (As := [.int (xs (ix (v3 + (1 : Int32))))]) hG (c_X6_deal l E N (66) (xs (ix (v3 + (1 : Int32)))) t109) ci_X6_deal wd_996 ⟨wd_997, wd_998⟩ cl_6 (okO_s ok_m66) (okO_l ok_m66) ⟨rfl, rfl, Nat.le_of_ble_eq_true rfl, Nat.le_of_ble_eq_true rfl⟩ rfl rfl (Nat.le_of_ble_eq_true rfl) dL_law_629 ⟨by decide, by decide⟩ (fun r112 t111 => ?_)
  refine jr_icmp_eq hG 1301 dL_law_632 (by decide) (fun _ => ?_) (fun _ => ?_)
  · exact w_L_law_1301 N hG hX hbl hr hk hK18 v3 t111
  · refine jr_iconst (v := (0 : Int32)) hG dL_law_635 (by decide) ?_
    exact jr_none
def f_L_law_581 (N : Nat) (xs : Nat → Int32) (L : Nat) (K18 : Int32 → Mm → Option Unit) (v3 : Int32) (σ : Mm) : Option Unit := if inb (v3 + (1 : Int32)) L then (if inb (v3 + (2 : Int32)) L then (bI (f_X5_mark N (0) (xs (ix (v3 + (1 : Int32)))) (xs (ix (v3 + (2 : Int32)))) (σ)) (fun r114 t113 => if inb (v3 + (1 : Int32)) L then (if inb (v3 + (2 : Int32)) L then (bI (f_X6_mark N (66) (xs (ix (v3 + (1 : Int32)))) (xs (ix (v3 + (2 : Int32)))) t113) (fun r116 t115 => if r114 = r116 then (f_L_law_1301 N xs L K18 v3 t115) else none)) else none) else none)) else none) else none
set_option maxRecDepth 100000 in
set_option maxHeartbeats 4000000 in
theorem w_L_law_581 {p : Program} {l : Launch} {e : Env} {s : State} {m : MethodId} {below : List Frame} {meth : Method} {c : Code} {E : XE} {b L : Nat} {xs : Nat → Int32} (N : Nat) (hG : GG E 0 4 RL cL_law p s m #[Value.ref b] c) (hX : va_X b L xs s s.heap) (hbl : b < s.heap.size) (hr : meth.sig.returnType = ret) (hk : meth.locks = false) {K18 : Int32 → Mm → Option Unit} (hK18 : ∀ (v3 : Int32) (σ : Mm), JR E 0 4 p l e room_1 s m #[Value.ref b] below meth c 89 28555 (fun _ : Unit => lw_Z below #[Value.ref b] s) 18 [(0, .ref b), (1, .ref (E.B + 0)), (2, .ref (E.B + 66)), (3, .int v3)] [] σ (K18 v3 σ)) (v3 : Int32) (σ : Mm) : JR E 0 4 p l e room_1 s m #[Value.ref b] below meth c 89 28555 (fun _ : Unit => lw_Z below #[Value.ref b] s) 581 [(0, .ref b), (1, .ref (E.B + 0)), (2, .ref (E.B + 66)), (3, .int v3)] [] σ (f_L_law_581 N xs L K18 v3 σ) := by
  show JR E 0 4 p l e room_1 s m #[Value.ref b] below meth c 89 28555 (fun _ : Unit => lw_Z below #[Value.ref b] s) 581 [(0, .ref b), (1, .ref (E.B + 0)), (2, .ref (E.B + 66)), (3, .int v3)] [] σ (if inb (v3 + (1 : Int32)) L then (if inb (v3 + (2 : Int32)) L then (bI (f_X5_mark N (0) (xs (ix (v3 + (1 : Int32)))) (xs (ix (v3 + (2 : Int32)))) (σ)) (fun r114 t113 => if inb (v3 + (1 : Int32)) L then (if inb (v3 + (2 : Int32)) L then (bI (f_X6_mark N (66) (xs (ix (v3 + (1 : Int32)))) (xs (ix (v3 + (2 : Int32)))) t113) (fun r116 t115 => if r114 = r116 then (f_L_law_1301 N xs L K18 v3 t115) else none)) else none) else none)) else none) else none)
  refine jr_aload_n hG 1 dL_law_581 rfl rfl ?_
  refine jr_aload_n hG 0 dL_law_582 rfl rfl ?_
  refine jr_iload_n hG 3 dL_law_583 rfl rfl ?_
  refine jr_iconst (v := (1 : Int32)) hG dL_law_584 (by decide) ?_
  refine jr_iadd hG dL_law_585 ?_
  refine jr_sld hG hX hbl dL_law_586 ?_
  refine jr_aload_n hG 0 dL_law_587 rfl rfl ?_
  refine jr_iload_n hG 3 dL_law_588 rfl rfl ?_
  refine jr_iconst (v := (2 : Int32)) hG dL_law_589 (by decide) ?_
  refine jr_iadd hG dL_law_590 ?_
  refine jr_sld hG hX hbl dL_law_591 ?_
  refine jr_callVi (As := [.int (xs (ix (v3 + (1 : Int32)))), .int (xs (ix (v3 + (2 : Int32))))]) hG (c_X5_mark l E N (0) (xs (ix (v3 + (1 : Int32)))) (xs (ix (v3 + (2 : Int32)))) (σ)) ci_X5_mark wd_426 ⟨wd_427, wd_428⟩ cl_5 (okO_s ok_x0) (okO_l ok_x0) ⟨rfl, rfl, Nat.le_of_ble_eq_true rfl, Nat.le_of_ble_eq_true rfl⟩ rfl rfl (Nat.le_of_ble_eq_true rfl) dL_law_592 ⟨by decide, by decide⟩ (fun r114 t113 => ?_)
  refine jr_aload_n hG 2 dL_law_595 rfl rfl ?_
  refine jr_aload_n hG 0 dL_law_596 rfl rfl ?_
  refine jr_iload_n hG 3 dL_law_597 rfl rfl ?_
  refine jr_iconst (v := (1 : Int32)) hG dL_law_598 (by decide) ?_
  refine jr_iadd hG dL_law_599 ?_
  refine jr_sld hG hX hbl dL_law_600 ?_
  refine jr_aload_n hG 0 dL_law_601 rfl rfl ?_
  refine jr_iload_n hG 3 dL_law_602 rfl rfl ?_
  refine jr_iconst (v := (2 : Int32)) hG dL_law_603 (by decide) ?_
  refine jr_iadd hG dL_law_604 ?_
  refine jr_sld hG hX hbl dL_law_605 ?_
  refine jr_callVi (As := [.int (xs (ix (v3 + (1 : Int32)))), .int (xs (ix (v3 + (2 : Int32))))]) hG (c_X6_mark l E N (66) (xs (ix (v3 + (1 : Int32)))) (xs (ix (v3 + (2 : Int32)))) t113) ci_X6_mark wd_969 ⟨wd_970, wd_971⟩ cl_6 (okO_s ok_m66) (okO_l ok_m66) ⟨rfl, rfl, Nat.le_of_ble_eq_true rfl, Nat.le_of_ble_eq_true rfl⟩ rfl rfl (Nat.le_of_ble_eq_true rfl) dL_law_606 ⟨by decide, by decide⟩ (fun r116 t115 => ?_)
  refine jr_icmp_eq hG 1301 dL_law_609 (by decide) (fun _ => ?_) (fun _ => ?_)
  · exact w_L_law_1301 N hG hX hbl hr hk hK18 v3 t115
  · refine jr_iconst (v := (0 : Int32)) hG dL_law_612 (by decide) ?_
    exact jr_none
def f_L_law_548 (N : Nat) (xs : Nat → Int32) (L : Nat) (K18 : Int32 → Mm → Option Unit) (v3 : Int32) (σ : Mm) : Option Unit := if inb (v3 + (1 : Int32)) L then (if inb (v3 + (2 : Int32)) L then (bI (f_X5_person N (0) (xs (ix (v3 + (1 : Int32)))) (xs (ix (v3 + (2 : Int32)))) (σ)) (fun r118 t117 => if inb (v3 + (1 : Int32)) L then (if inb (v3 + (2 : Int32)) L then (bI (f_X6_person N (66) (xs (ix (v3 + (1 : Int32)))) (xs (ix (v3 + (2 : Int32)))) t117) (fun r120 t119 => if r118 = r120 then (f_L_law_1301 N xs L K18 v3 t119) else none)) else none) else none)) else none) else none
set_option maxRecDepth 100000 in
set_option maxHeartbeats 4000000 in
theorem w_L_law_548 {p : Program} {l : Launch} {e : Env} {s : State} {m : MethodId} {below : List Frame} {meth : Method} {c : Code} {E : XE} {b L : Nat} {xs : Nat → Int32} (N : Nat) (hG : GG E 0 4 RL cL_law p s m #[Value.ref b] c) (hX : va_X b L xs s s.heap) (hbl : b < s.heap.size) (hr : meth.sig.returnType = ret) (hk : meth.locks = false) {K18 : Int32 → Mm → Option Unit} (hK18 : ∀ (v3 : Int32) (σ : Mm), JR E 0 4 p l e room_1 s m #[Value.ref b] below meth c 89 28555 (fun _ : Unit => lw_Z below #[Value.ref b] s) 18 [(0, .ref b), (1, .ref (E.B + 0)), (2, .ref (E.B + 66)), (3, .int v3)] [] σ (K18 v3 σ)) (v3 : Int32) (σ : Mm) : JR E 0 4 p l e room_1 s m #[Value.ref b] below meth c 89 28555 (fun _ : Unit => lw_Z below #[Value.ref b] s) 548 [(0, .ref b), (1, .ref (E.B + 0)), (2, .ref (E.B + 66)), (3, .int v3)] [] σ (f_L_law_548 N xs L K18 v3 σ) := by
  show JR E 0 4 p l e room_1 s m #[Value.ref b] below meth c 89 28555 (fun _ : Unit => lw_Z below #[Value.ref b] s) 548 [(0, .ref b), (1, .ref (E.B + 0)), (2, .ref (E.B + 66)), (3, .int v3)] [] σ (if inb (v3 + (1 : Int32)) L then (if inb (v3 + (2 : Int32)) L then (bI (f_X5_person N (0) (xs (ix (v3 + (1 : Int32)))) (xs (ix (v3 + (2 : Int32)))) (σ)) (fun r118 t117 => if inb (v3 + (1 : Int32)) L then (if inb (v3 + (2 : Int32)) L then (bI (f_X6_person N (66) (xs (ix (v3 + (1 : Int32)))) (xs (ix (v3 + (2 : Int32)))) t117) (fun r120 t119 => if r118 = r120 then (f_L_law_1301 N xs L K18 v3 t119) else none)) else none) else none)) else none) else none)
  refine jr_aload_n hG 1 dL_law_548 rfl rfl ?_
  refine jr_aload_n hG 0 dL_law_549 rfl rfl ?_
  refine jr_iload_n hG 3 dL_law_550 rfl rfl ?_
  refine jr_iconst (v := (1 : Int32)) hG dL_law_551 (by decide) ?_
  refine jr_iadd hG dL_law_552 ?_
  refine jr_sld hG hX hbl dL_law_553 ?_
  refine jr_aload_n hG 0 dL_law_554 rfl rfl ?_
  refine jr_iload_n hG 3 dL_law_555 rfl rfl ?_
  refine jr_iconst (v := (2 : Int32)) hG dL_law_556 (by decide) ?_
  refine jr_iadd hG dL_law_557 ?_
  refine jr_sld hG hX hbl dL_law_558 ?_
  refine jr_callVi (As := [.int (xs (ix (v3 + (1 : Int32)))), .int (xs (ix (v3 + (2 : Int32))))]) hG (c_X5_person l E N (0) (xs (ix (v3 + (1 : Int32)))) (xs (ix (v3 + (2 : Int32)))) (σ)) ci_X5_person wd_417 ⟨wd_418, wd_419⟩ cl_5 (okO_s ok_x0) (okO_l ok_x0) ⟨rfl, rfl, Nat.le_of_ble_eq_true rfl, Nat.le_of_ble_eq_true rfl⟩ rfl rfl (Nat.le_of_ble_eq_true rfl) dL_law_559 ⟨by decide, by decide⟩ (fun r118 t117 => ?_)
  refine jr_aload_n hG 2 dL_law_562 rfl rfl ?_
  refine jr_aload_n hG 0 dL_law_563 rfl rfl ?_
  refine jr_iload_n hG 3 dL_law_564 rfl rfl ?_
  refine jr_iconst (v := (1 : Int32)) hG dL_law_565 (by decide) ?_
  refine jr_iadd hG dL_law_566 ?_
  refine jr_sld hG hX hbl dL_law_567 ?_
  refine jr_aload_n hG 0 dL_law_568 rfl rfl ?_
  refine jr_iload_n hG 3 dL_law_569 rfl rfl ?_
  refine jr_iconst (v := (2 : Int32)) hG dL_law_570 (by decide) ?_
  refine jr_iadd hG dL_law_571 ?_
  refine jr_sld hG hX hbl dL_law_572 ?_
  refine jr_callVi (As := [.int (xs (ix (v3 + (1 : Int32)))), .int (xs (ix (v3 + (2 : Int32))))]) hG (c_X6_person l E N (66) (xs (ix (v3 + (1 : Int32)))) (xs (ix (v3 + (2 : Int32)))) t117) ci_X6_person wd_946 ⟨wd_947, wd_948⟩ cl_6 (okO_s ok_m66) (okO_l ok_m66) ⟨rfl, rfl, Nat.le_of_ble_eq_true rfl, Nat.le_of_ble_eq_true rfl⟩ rfl rfl (Nat.le_of_ble_eq_true rfl) dL_law_573 ⟨by decide, by decide⟩ (fun r120 t119 => ?_)
  refine jr_icmp_eq hG 1301 dL_law_576 (by decide) (fun _ => ?_) (fun _ => ?_)
  · exact w_L_law_1301 N hG hX hbl hr hk hK18 v3 t119
  · refine jr_iconst (v := (0 : Int32)) hG dL_law_579 (by decide) ?_
    exact jr_none
def f_L_law_525 (N : Nat) (xs : Nat → Int32) (L : Nat) (K18 : Int32 → Mm → Option Unit) (v3 : Int32) (σ : Mm) : Option Unit := if inb (v3 + (1 : Int32)) L then (bI (f_X5_town N (0) (xs (ix (v3 + (1 : Int32)))) (σ)) (fun r122 t121 => if inb (v3 + (1 : Int32)) L then (bI (f_X6_town N (66) (xs (ix (v3 + (1 : Int32)))) t121) (fun r124 t123 => if r122 = r124 then (f_L_law_1301 N xs L K18 v3 t123) else none)) else none)) else none
set_option maxRecDepth 100000 in
set_option maxHeartbeats 4000000 in
theorem w_L_law_525 {p : Program} {l : Launch} {e : Env} {s : State} {m : MethodId} {below : List Frame} {meth : Method} {c : Code} {E : XE} {b L : Nat} {xs : Nat → Int32} (N : Nat) (hG : GG E 0 4 RL cL_law p s m #[Value.ref b] c) (hX : va_X b L xs s s.heap) (hbl : b < s.heap.size) (hr : meth.sig.returnType = ret) (hk : meth.locks = false) {K18 : Int32 → Mm → Option Unit} (hK18 : ∀ (v3 : Int32) (σ : Mm), JR E 0 4 p l e room_1 s m #[Value.ref b] below meth c 89 28555 (fun _ : Unit => lw_Z below #[Value.ref b] s) 18 [(0, .ref b), (1, .ref (E.B + 0)), (2, .ref (E.B + 66)), (3, .int v3)] [] σ (K18 v3 σ)) (v3 : Int32) (σ : Mm) : JR E 0 4 p l e room_1 s m #[Value.ref b] below meth c 89 28555 (fun _ : Unit => lw_Z below #[Value.ref b] s) 525 [(0, .ref b), (1, .ref (E.B + 0)), (2, .ref (E.B + 66)), (3, .int v3)] [] σ (f_L_law_525 N xs L K18 v3 σ) := by
  show JR E 0 4 p l e room_1 s m #[Value.ref b] below meth c 89 28555 (fun _ : Unit => lw_Z below #[Value.ref b] s) 525 [(0, .ref b), (1, .ref (E.B + 0)), (2, .ref (E.B + 66)), (3, .int v3)] [] σ (if inb (v3 + (1 : Int32)) L then (bI (f_X5_town N (0) (xs (ix (v3 + (1 : Int32)))) (σ)) (fun r122 t121 => if inb (v3 + (1 : Int32)) L then (bI (f_X6_town N (66) (xs (ix (v3 + (1 : Int32)))) t121) (fun r124 t123 => if r122 = r124 then (f_L_law_1301 N xs L K18 v3 t123) else none)) else none)) else none)
  refine jr_aload_n hG 1 dL_law_525 rfl rfl ?_
  refine jr_aload_n hG 0 dL_law_526 rfl rfl ?_
  refine jr_iload_n hG 3 dL_law_527 rfl rfl ?_
  refine jr_iconst (v := (1 : Int32)) hG dL_law_528 (by decide) ?_
  refine jr_iadd hG dL_law_529 ?_
  refine jr_sld hG hX hbl dL_law_530 ?_
  refine jr_callVi (As := [.int (xs (ix (v3 + (1 : Int32))))]) hG (c_X5_town l E N (0) (xs (ix (v3 + (1 : Int32)))) (σ)) ci_X5_town wd_375 ⟨wd_376, wd_377⟩ cl_5 (okO_s ok_x0) (okO_l ok_x0) ⟨rfl, rfl, Nat.le_of_ble_eq_true rfl, Nat.le_of_ble_eq_true rfl⟩ rfl rfl (Nat.le_of_ble_eq_true rfl) dL_law_531 ⟨by decide, by decide⟩ (fun r122 t121 => ?_)
  refine jr_aload_n hG 2 dL_law_534 rfl rfl ?_
  refine jr_aload_n hG 0 dL_law_535 rfl rfl ?_
  refine jr_iload_n hG 3 dL_law_536 rfl rfl ?_
  refine jr_iconst (v := (1 : Int32)) hG dL_law_537 (by decide) ?_
  refine jr_iadd hG dL_law_538 ?_
  refine jr_sld hG hX hbl dL_law_539 ?_
  refine jr_callVi (As := [.int (xs (ix (v3 + (1 : Int32))))]) hG (c_X6_town l E N (66) (xs (ix (v3 + (1 : Int32)))) t121) ci_X6_town wd_942 ⟨wd_943, wd_944⟩ cl_6 (okO_s ok_m66) (okO_l ok_m66) ⟨rfl, rfl, Nat.le_of_ble_eq_true rfl, Nat.le_of_ble_eq_true rfl⟩ rfl rfl (Nat.le_of_ble_eq_true rfl) dL_law_540 ⟨by decide, by decide⟩ (fun r124 t123 => ?_)
  refine jr_icmp_eq hG 1301 dL_law_543 (by decide) (fun _ => ?_) (fun _ => ?_)
  · exact w_L_law_1301 N hG hX hbl hr hk hK18 v3 t123
  · refine jr_iconst (v := (0 : Int32)) hG dL_law_546 (by decide) ?_
    exact jr_none
def f_L_law_502 (N : Nat) (xs : Nat → Int32) (L : Nat) (K18 : Int32 → Mm → Option Unit) (v3 : Int32) (σ : Mm) : Option Unit := if inb (v3 + (1 : Int32)) L then (bI (f_X5_fault N (0) (xs (ix (v3 + (1 : Int32)))) (σ)) (fun r126 t125 => if inb (v3 + (1 : Int32)) L then (bI (f_X6_fault N (66) (xs (ix (v3 + (1 : Int32)))) t125) (fun r128 t127 => if r126 = r128 then (f_L_law_1301 N xs L K18 v3 t127) else none)) else none)) else none
set_option maxRecDepth 100000 in
set_option maxHeartbeats 4000000 in
theorem w_L_law_502 {p : Program} {l : Launch} {e : Env} {s : State} {m : MethodId} {below : List Frame} {meth : Method} {c : Code} {E : XE} {b L : Nat} {xs : Nat → Int32} (N : Nat) (hG : GG E 0 4 RL cL_law p s m #[Value.ref b] c) (hX : va_X b L xs s s.heap) (hbl : b < s.heap.size) (hr : meth.sig.returnType = ret) (hk : meth.locks = false) {K18 : Int32 → Mm → Option Unit} (hK18 : ∀ (v3 : Int32) (σ : Mm), JR E 0 4 p l e room_1 s m #[Value.ref b] below meth c 89 28555 (fun _ : Unit => lw_Z below #[Value.ref b] s) 18 [(0, .ref b), (1, .ref (E.B + 0)), (2, .ref (E.B + 66)), (3, .int v3)] [] σ (K18 v3 σ)) (v3 : Int32) (σ : Mm) : JR E 0 4 p l e room_1 s m #[Value.ref b] below meth c 89 28555 (fun _ : Unit => lw_Z below #[Value.ref b] s) 502 [(0, .ref b), (1, .ref (E.B + 0)), (2, .ref (E.B + 66)), (3, .int v3)] [] σ (f_L_law_502 N xs L K18 v3 σ) := by
  show JR E 0 4 p l e room_1 s m #[Value.ref b] below meth c 89 28555 (fun _ : Unit => lw_Z below #[Value.ref b] s) 502 [(0, .ref b), (1, .ref (E.B + 0)), (2, .ref (E.B + 66)), (3, .int v3)] [] σ (if inb (v3 + (1 : Int32)) L then (bI (f_X5_fault N (0) (xs (ix (v3 + (1 : Int32)))) (σ)) (fun r126 t125 => if inb (v3 + (1 : Int32)) L then (bI (f_X6_fault N (66) (xs (ix (v3 + (1 : Int32)))) t125) (fun r128 t127 => if r126 = r128 then (f_L_law_1301 N xs L K18 v3 t127) else none)) else none)) else none)
  refine jr_aload_n hG 1 dL_law_502 rfl rfl ?_
  refine jr_aload_n hG 0 dL_law_503 rfl rfl ?_
  refine jr_iload_n hG 3 dL_law_504 rfl rfl ?_
  refine jr_iconst (v := (1 : Int32)) hG dL_law_505 (by decide) ?_
  refine jr_iadd hG dL_law_506 ?_
  refine jr_sld hG hX hbl dL_law_507 ?_
  refine jr_callVi (As := [.int (xs (ix (v3 + (1 : Int32))))]) hG (c_X5_fault l E N (0) (xs (ix (v3 + (1 : Int32)))) (σ)) ci_X5_fault wd_334 ⟨wd_335, wd_336⟩ cl_5 (okO_s ok_x0) (okO_l ok_x0) ⟨rfl, rfl, Nat.le_of_ble_eq_true rfl, Nat.le_of_ble_eq_true rfl⟩ rfl rfl (Nat.le_of_ble_eq_true rfl) dL_law_508 ⟨by decide, by decide⟩ (fun r126 t125 => ?_)
  refine jr_aload_n hG 2 dL_law_511 rfl rfl ?_
  refine jr_aload_n hG 0 dL_law_512 rfl rfl ?_
  refine jr_iload_n hG 3 dL_law_513 rfl rfl ?_
  refine jr_iconst (v := (1 : Int32)) hG dL_law_514 (by decide) ?_
  refine jr_iadd hG dL_law_515 ?_
  refine jr_sld hG hX hbl dL_law_516 ?_
  refine jr_callVi (As := [.int (xs (ix (v3 + (1 : Int32))))]) hG (c_X6_fault l E N (66) (xs (ix (v3 + (1 : Int32)))) t125) ci_X6_fault wd_912 ⟨wd_913, wd_914⟩ cl_6 (okO_s ok_m66) (okO_l ok_m66) ⟨rfl, rfl, Nat.le_of_ble_eq_true rfl, Nat.le_of_ble_eq_true rfl⟩ rfl rfl (Nat.le_of_ble_eq_true rfl) dL_law_517 ⟨by decide, by decide⟩ (fun r128 t127 => ?_)
  refine jr_icmp_eq hG 1301 dL_law_520 (by decide) (fun _ => ?_) (fun _ => ?_)
  · exact w_L_law_1301 N hG hX hbl hr hk hK18 v3 t127
  · refine jr_iconst (v := (0 : Int32)) hG dL_law_523 (by decide) ?_
    exact jr_none
def f_L_law_459 (N : Nat) (xs : Nat → Int32) (L : Nat) (K18 : Int32 → Mm → Option Unit) (v3 : Int32) (σ : Mm) : Option Unit := if inb (v3 + (1 : Int32)) L then (if inb (v3 + (2 : Int32)) L then (if inb (v3 + (3 : Int32)) L then (bI (f_X5_put N (0) (xs (ix (v3 + (1 : Int32)))) (xs (ix (v3 + (2 : Int32)))) (xs (ix (v3 + (3 : Int32)))) (σ)) (fun r130 t129 => if inb (v3 + (1 : Int32)) L then (if inb (v3 + (2 : Int32)) L then (if inb (v3 + (3 : Int32)) L then (bI (f_X6_put N (66) (xs (ix (v3 + (1 : Int32)))) (xs (ix (v3 + (2 : Int32)))) (xs (ix (v3 + (3 : Int32)))) t129) (fun r132 t131 => if r130 = r132 then (f_L_law_1301 N xs L K18 v3 t131) else none)) else none) else none) else none)) else none) else none) else none
set_option maxRecDepth 100000 in
set_option maxHeartbeats 4000000 in
theorem w_L_law_459 {p : Program} {l : Launch} {e : Env} {s : State} {m : MethodId} {below : List Frame} {meth : Method} {c : Code} {E : XE} {b L : Nat} {xs : Nat → Int32} (N : Nat) (hG : GG E 0 4 RL cL_law p s m #[Value.ref b] c) (hX : va_X b L xs s s.heap) (hbl : b < s.heap.size) (hr : meth.sig.returnType = ret) (hk : meth.locks = false) {K18 : Int32 → Mm → Option Unit} (hK18 : ∀ (v3 : Int32) (σ : Mm), JR E 0 4 p l e room_1 s m #[Value.ref b] below meth c 89 28555 (fun _ : Unit => lw_Z below #[Value.ref b] s) 18 [(0, .ref b), (1, .ref (E.B + 0)), (2, .ref (E.B + 66)), (3, .int v3)] [] σ (K18 v3 σ)) (v3 : Int32) (σ : Mm) : JR E 0 4 p l e room_1 s m #[Value.ref b] below meth c 89 28555 (fun _ : Unit => lw_Z below #[Value.ref b] s) 459 [(0, .ref b), (1, .ref (E.B + 0)), (2, .ref (E.B + 66)), (3, .int v3)] [] σ (f_L_law_459 N xs L K18 v3 σ) := by
  show JR E 0 4 p l e room_1 s m #[Value.ref b] below meth c 89 28555 (fun _ : Unit => lw_Z below #[Value.ref b] s) 459 [(0, .ref b), (1, .ref (E.B + 0)), (2, .ref (E.B + 66)), (3, .int v3)] [] σ (if inb (v3 + (1 : Int32)) L then (if inb (v3 + (2 : Int32)) L then (if inb (v3 + (3 : Int32)) L then (bI (f_X5_put N (0) (xs (ix (v3 + (1 : Int32)))) (xs (ix (v3 + (2 : Int32)))) (xs (ix (v3 + (3 : Int32)))) (σ)) (fun r130 t129 => if inb (v3 + (1 : Int32)) L then (if inb (v3 + (2 : Int32)) L then (if inb (v3 + (3 : Int32)) L then (bI (f_X6_put N (66) (xs (ix (v3 + (1 : Int32)))) (xs (ix (v3 + (2 : Int32)))) (xs (ix (v3 + (3 : Int32)))) t129) (fun r132 t131 => if r130 = r132 then (f_L_law_1301 N xs L K18 v3 t131) else none)) else none) else none) else none)) else none) else none) else none)
  refine jr_aload_n hG 1 dL_law_459 rfl rfl ?_
  refine jr_aload_n hG 0 dL_law_460 rfl rfl ?_
  refine jr_iload_n hG 3 dL_law_461 rfl rfl ?_
  refine jr_iconst (v := (1 : Int32)) hG dL_law_462 (by decide) ?_
  refine jr_iadd hG dL_law_463 ?_
  refine jr_sld hG hX hbl dL_law_464 ?_
  refine jr_aload_n hG 0 dL_law_465 rfl rfl ?_
  refine jr_iload_n hG 3 dL_law_466 rfl rfl ?_
  refine jr_iconst (v := (2 : Int32)) hG dL_law_467 (by decide) ?_
  refine jr_iadd hG dL_law_468 ?_
  refine jr_sld hG hX hbl dL_law_469 ?_
  refine jr_aload_n hG 0 dL_law_470 rfl rfl ?_
  refine jr_iload_n hG 3 dL_law_471 rfl rfl ?_
  refine jr_iconst (v := (3 : Int32)) hG dL_law_472 (by decide) ?_
  refine jr_iadd hG dL_law_473 ?_
  refine jr_sld hG hX hbl dL_law_474 ?_
  refine jr_callVi (As := [.int (xs (ix (v3 + (1 : Int32)))), .int (xs (ix (v3 + (2 : Int32)))), .int (xs (ix (v3 + (3 : Int32))))]) hG (c_X5_put l E N (0) (xs (ix (v3 + (1 : Int32)))) (xs (ix (v3 + (2 : Int32)))) (xs (ix (v3 + (3 : Int32)))) (σ)) ci_X5_put wd_330 ⟨wd_331, wd_332⟩ cl_5 (okO_s ok_x0) (okO_l ok_x0) ⟨rfl, rfl, Nat.le_of_ble_eq_true rfl, Nat.le_of_ble_eq_true rfl⟩ rfl rfl (Nat.le_of_ble_eq_true rfl) dL_law_475 ⟨by decide, by decide⟩ (fun r130 t129 => ?_)
  refine jr_aload_n hG 2 dL_law_478 rfl rfl ?_
  refine jr_aload_n hG 0 dL_law_479 rfl rfl ?_
  refine jr_iload_n hG 3 dL_law_480 rfl rfl ?_
  refine jr_iconst (v := (1 : Int32)) hG dL_law_481 (by decide) ?_
  refine jr_iadd hG dL_law_482 ?_
  refine jr_sld hG hX hbl dL_law_483 ?_
  refine jr_aload_n hG 0 dL_law_484 rfl rfl ?_
  refine jr_iload_n hG 3 dL_law_485 rfl rfl ?_
  refine jr_iconst (v := (2 : Int32)) hG dL_law_486 (by decide) ?_
  refine jr_iadd hG dL_law_487 ?_
  refine jr_sld hG hX hbl dL_law_488 ?_
  refine jr_aload_n hG 0 dL_law_489 rfl rfl ?_
  refine jr_iload_n hG 3 dL_law_490 rfl rfl ?_
  refine jr_iconst (v := (3 : Int32)) hG dL_law_491 (by decide) ?_
  refine jr_iadd hG dL_law_492 ?_
  refine jr_sld hG hX hbl dL_law_493 ?_
  refine jr_callVi (As := [.int (xs (ix (v3 + (1 : Int32)))), .int (xs (ix (v3 + (2 : Int32)))), .int (xs (ix (v3 + (3 : Int32))))]) hG (c_X6_put l E N (66) (xs (ix (v3 + (1 : Int32)))) (xs (ix (v3 + (2 : Int32)))) (xs (ix (v3 + (3 : Int32)))) t129) ci_X6_put wd_908 ⟨wd_909, wd_910⟩ cl_6 (okO_s ok_m66) (okO_l ok_m66) ⟨rfl, rfl, Nat.le_of_ble_eq_true rfl, Nat.le_of_ble_eq_true rfl⟩ rfl rfl (Nat.le_of_ble_eq_true rfl) dL_law_494 ⟨by decide, by decide⟩ (fun r132 t131 => ?_)
  refine jr_icmp_eq hG 1301 dL_law_497 (by decide) (fun _ => ?_) (fun _ => ?_)
  · exact w_L_law_1301 N hG hX hbl hr hk hK18 v3 t131
  · refine jr_iconst (v := (0 : Int32)) hG dL_law_500 (by decide) ?_
    exact jr_none
def f_L_law_426 (N : Nat) (xs : Nat → Int32) (L : Nat) (K18 : Int32 → Mm → Option Unit) (v3 : Int32) (σ : Mm) : Option Unit := if inb (v3 + (1 : Int32)) L then (if inb (v3 + (2 : Int32)) L then (bI (f_X5_text N (0) (xs (ix (v3 + (1 : Int32)))) (xs (ix (v3 + (2 : Int32)))) (σ)) (fun r134 t133 => if inb (v3 + (1 : Int32)) L then (if inb (v3 + (2 : Int32)) L then (bI (f_X6_text N (66) (xs (ix (v3 + (1 : Int32)))) (xs (ix (v3 + (2 : Int32)))) t133) (fun r136 t135 => if r134 = r136 then (f_L_law_1301 N xs L K18 v3 t135) else none)) else none) else none)) else none) else none
set_option maxRecDepth 100000 in
set_option maxHeartbeats 4000000 in
theorem w_L_law_426 {p : Program} {l : Launch} {e : Env} {s : State} {m : MethodId} {below : List Frame} {meth : Method} {c : Code} {E : XE} {b L : Nat} {xs : Nat → Int32} (N : Nat) (hG : GG E 0 4 RL cL_law p s m #[Value.ref b] c) (hX : va_X b L xs s s.heap) (hbl : b < s.heap.size) (hr : meth.sig.returnType = ret) (hk : meth.locks = false) {K18 : Int32 → Mm → Option Unit} (hK18 : ∀ (v3 : Int32) (σ : Mm), JR E 0 4 p l e room_1 s m #[Value.ref b] below meth c 89 28555 (fun _ : Unit => lw_Z below #[Value.ref b] s) 18 [(0, .ref b), (1, .ref (E.B + 0)), (2, .ref (E.B + 66)), (3, .int v3)] [] σ (K18 v3 σ)) (v3 : Int32) (σ : Mm) : JR E 0 4 p l e room_1 s m #[Value.ref b] below meth c 89 28555 (fun _ : Unit => lw_Z below #[Value.ref b] s) 426 [(0, .ref b), (1, .ref (E.B + 0)), (2, .ref (E.B + 66)), (3, .int v3)] [] σ (f_L_law_426 N xs L K18 v3 σ) := by
  show JR E 0 4 p l e room_1 s m #[Value.ref b] below meth c 89 28555 (fun _ : Unit => lw_Z below #[Value.ref b] s) 426 [(0, .ref b), (1, .ref (E.B + 0)), (2, .ref (E.B + 66)), (3, .int v3)] [] σ (if inb (v3 + (1 : Int32)) L then (if inb (v3 + (2 : Int32)) L then (bI (f_X5_text N (0) (xs (ix (v3 + (1 : Int32)))) (xs (ix (v3 + (2 : Int32)))) (σ)) (fun r134 t133 => if inb (v3 + (1 : Int32)) L then (if inb (v3 + (2 : Int32)) L then (bI (f_X6_text N (66) (xs (ix (v3 + (1 : Int32)))) (xs (ix (v3 + (2 : Int32)))) t133) (fun r136 t135 => if r134 = r136 then (f_L_law_1301 N xs L K18 v3 t135) else none)) else none) else none)) else none) else none)
  refine jr_aload_n hG 1 dL_law_426 rfl rfl ?_
  refine jr_aload_n hG 0 dL_law_427 rfl rfl ?_
  refine jr_iload_n hG 3 dL_law_428 rfl rfl ?_
  refine jr_iconst (v := (1 : Int32)) hG dL_law_429 (by decide) ?_
  refine jr_iadd hG dL_law_430 ?_
  refine jr_sld hG hX hbl dL_law_431 ?_
  refine jr_aload_n hG 0 dL_law_432 rfl rfl ?_
  refine jr_iload_n hG 3 dL_law_433 rfl rfl ?_
  refine jr_iconst (v := (2 : Int32)) hG dL_law_434 (by decide) ?_
  refine jr_iadd hG dL_law_435 ?_
  refine jr_sld hG hX hbl dL_law_436 ?_
  refine jr_callVi (As := [.int (xs (ix (v3 + (1 : Int32)))), .int (xs (ix (v3 + (2 : Int32))))]) hG (c_X5_text l E N (0) (xs (ix (v3 + (1 : Int32)))) (xs (ix (v3 + (2 : Int32)))) (σ)) ci_X5_text wd_319 ⟨wd_320, wd_321⟩ cl_5 (okO_s ok_x0) (okO_l ok_x0) ⟨rfl, rfl, Nat.le_of_ble_eq_true rfl, Nat.le_of_ble_eq_true rfl⟩ rfl rfl (Nat.le_of_ble_eq_true rfl) dL_law_437 ⟨by decide, by decide⟩ (fun r134 t133 => ?_)
  refine jr_aload_n hG 2 dL_law_440 rfl rfl ?_
  refine jr_aload_n hG 0 dL_law_441 rfl rfl ?_
  refine jr_iload_n hG 3 dL_law_442 rfl rfl ?_
  refine jr_iconst (v := (1 : Int32)) hG dL_law_443 (by decide) ?_
  refine jr_iadd hG dL_law_444 ?_
  refine jr_sld hG hX hbl dL_law_445 ?_
  refine jr_aload_n hG 0 dL_law_446 rfl rfl ?_
  refine jr_iload_n hG 3 dL_law_447 rfl rfl ?_
  refine jr_iconst (v := (2 : Int32)) hG dL_law_448 (by decide) ?_
  refine jr_iadd hG dL_law_449 ?_
  refine jr_sld hG hX hbl dL_law_450 ?_
  refine jr_callVi (As := [.int (xs (ix (v3 + (1 : Int32)))), .int (xs (ix (v3 + (2 : Int32))))]) hG (c_X6_text l E N (66) (xs (ix (v3 + (1 : Int32)))) (xs (ix (v3 + (2 : Int32)))) t133) ci_X6_text wd_901 ⟨wd_902, wd_903⟩ cl_6 (okO_s ok_m66) (okO_l ok_m66) ⟨rfl, rfl, Nat.le_of_ble_eq_true rfl, Nat.le_of_ble_eq_true rfl⟩ rfl rfl (Nat.le_of_ble_eq_true rfl) dL_law_451 ⟨by decide, by decide⟩ (fun r136 t135 => ?_)
  refine jr_icmp_eq hG 1301 dL_law_454 (by decide) (fun _ => ?_) (fun _ => ?_)
  · exact w_L_law_1301 N hG hX hbl hr hk hK18 v3 t135
  · refine jr_iconst (v := (0 : Int32)) hG dL_law_457 (by decide) ?_
    exact jr_none
def f_L_law_403 (N : Nat) (xs : Nat → Int32) (L : Nat) (K18 : Int32 → Mm → Option Unit) (v3 : Int32) (σ : Mm) : Option Unit := if inb (v3 + (1 : Int32)) L then (bI (f_X5_mean N (0) (xs (ix (v3 + (1 : Int32)))) (σ)) (fun r138 t137 => if inb (v3 + (1 : Int32)) L then (bI (f_X6_mean N (66) (xs (ix (v3 + (1 : Int32)))) t137) (fun r140 t139 => if r138 = r140 then (f_L_law_1301 N xs L K18 v3 t139) else none)) else none)) else none
set_option maxRecDepth 100000 in
set_option maxHeartbeats 4000000 in
theorem w_L_law_403 {p : Program} {l : Launch} {e : Env} {s : State} {m : MethodId} {below : List Frame} {meth : Method} {c : Code} {E : XE} {b L : Nat} {xs : Nat → Int32} (N : Nat) (hG : GG E 0 4 RL cL_law p s m #[Value.ref b] c) (hX : va_X b L xs s s.heap) (hbl : b < s.heap.size) (hr : meth.sig.returnType = ret) (hk : meth.locks = false) {K18 : Int32 → Mm → Option Unit} (hK18 : ∀ (v3 : Int32) (σ : Mm), JR E 0 4 p l e room_1 s m #[Value.ref b] below meth c 89 28555 (fun _ : Unit => lw_Z below #[Value.ref b] s) 18 [(0, .ref b), (1, .ref (E.B + 0)), (2, .ref (E.B + 66)), (3, .int v3)] [] σ (K18 v3 σ)) (v3 : Int32) (σ : Mm) : JR E 0 4 p l e room_1 s m #[Value.ref b] below meth c 89 28555 (fun _ : Unit => lw_Z below #[Value.ref b] s) 403 [(0, .ref b), (1, .ref (E.B + 0)), (2, .ref (E.B + 66)), (3, .int v3)] [] σ (f_L_law_403 N xs L K18 v3 σ) := by
  show JR E 0 4 p l e room_1 s m #[Value.ref b] below meth c 89 28555 (fun _ : Unit => lw_Z below #[Value.ref b] s) 403 [(0, .ref b), (1, .ref (E.B + 0)), (2, .ref (E.B + 66)), (3, .int v3)] [] σ (if inb (v3 + (1 : Int32)) L then (bI (f_X5_mean N (0) (xs (ix (v3 + (1 : Int32)))) (σ)) (fun r138 t137 => if inb (v3 + (1 : Int32)) L then (bI (f_X6_mean N (66) (xs (ix (v3 + (1 : Int32)))) t137) (fun r140 t139 => if r138 = r140 then (f_L_law_1301 N xs L K18 v3 t139) else none)) else none)) else none)
  refine jr_aload_n hG 1 dL_law_403 rfl rfl ?_
  refine jr_aload_n hG 0 dL_law_404 rfl rfl ?_
  refine jr_iload_n hG 3 dL_law_405 rfl rfl ?_
  refine jr_iconst (v := (1 : Int32)) hG dL_law_406 (by decide) ?_
  refine jr_iadd hG dL_law_407 ?_
  refine jr_sld hG hX hbl dL_law_408 ?_
  refine jr_callVi (As := [.int (xs (ix (v3 + (1 : Int32))))]) hG (c_X5_mean l E N (0) (xs (ix (v3 + (1 : Int32)))) (σ)) ci_X5_mean wd_311 ⟨wd_312, wd_313⟩ cl_5 (okO_s ok_x0) (okO_l ok_x0) ⟨rfl, rfl, Nat.le_of_ble_eq_true rfl, Nat.le_of_ble_eq_true rfl⟩ rfl rfl (Nat.le_of_ble_eq_true rfl) dL_law_409 ⟨by decide, by decide⟩ (fun r138 t137 => ?_)
  refine jr_aload_n hG 2 dL_law_412 rfl rfl ?_
  refine jr_aload_n hG 0 dL_law_413 rfl rfl ?_
  refine jr_iload_n hG 3 dL_law_414 rfl rfl ?_
  refine jr_iconst (v := (1 : Int32)) hG dL_law_415 (by decide) ?_
  refine jr_iadd hG dL_law_416 ?_
  refine jr_sld hG hX hbl dL_law_417 ?_
  refine jr_callVi (As := [.int (xs (ix (v3 + (1 : Int32))))]) hG (c_X6_mean l E N (66) (xs (ix (v3 + (1 : Int32)))) t137) ci_X6_mean wd_897 ⟨wd_898, wd_899⟩ cl_6 (okO_s ok_m66) (okO_l ok_m66) ⟨rfl, rfl, Nat.le_of_ble_eq_true rfl, Nat.le_of_ble_eq_true rfl⟩ rfl rfl (Nat.le_of_ble_eq_true rfl) dL_law_418 ⟨by decide, by decide⟩ (fun r140 t139 => ?_)
  refine jr_icmp_eq hG 1301 dL_law_421 (by decide) (fun _ => ?_) (fun _ => ?_)
  · exact w_L_law_1301 N hG hX hbl hr hk hK18 v3 t139
  · refine jr_iconst (v := (0 : Int32)) hG dL_law_424 (by decide) ?_
    exact jr_none
def f_L_law_340 (N : Nat) (xs : Nat → Int32) (L : Nat) (K18 : Int32 → Mm → Option Unit) (v3 : Int32) (σ : Mm) : Option Unit := if inb (v3 + (1 : Int32)) L then (if inb (v3 + (2 : Int32)) L then (if inb (v3 + (3 : Int32)) L then (if inb (v3 + (4 : Int32)) L then (if inb (v3 + (5 : Int32)) L then (bI (f_X5_copy N (0) (xs (ix (v3 + (1 : Int32)))) (xs (ix (v3 + (2 : Int32)))) (xs (ix (v3 + (3 : Int32)))) (xs (ix (v3 + (4 : Int32)))) (xs (ix (v3 + (5 : Int32)))) (σ)) (fun r142 t141 => if inb (v3 + (1 : Int32)) L then (if inb (v3 + (2 : Int32)) L then (if inb (v3 + (3 : Int32)) L then (if inb (v3 + (4 : Int32)) L then (if inb (v3 + (5 : Int32)) L then (bI (f_X6_copy N (66) (xs (ix (v3 + (1 : Int32)))) (xs (ix (v3 + (2 : Int32)))) (xs (ix (v3 + (3 : Int32)))) (xs (ix (v3 + (4 : Int32)))) (xs (ix (v3 + (5 : Int32)))) t141) (fun r144 t143 => if r142 = r144 then (f_L_law_1301 N xs L K18 v3 t143) else none)) else none) else none) else none) else none) else none)) else none) else none) else none) else none) else none
set_option maxRecDepth 100000 in
set_option maxHeartbeats 4000000 in
theorem w_L_law_340 {p : Program} {l : Launch} {e : Env} {s : State} {m : MethodId} {below : List Frame} {meth : Method} {c : Code} {E : XE} {b L : Nat} {xs : Nat → Int32} (N : Nat) (hG : GG E 0 4 RL cL_law p s m #[Value.ref b] c) (hX : va_X b L xs s s.heap) (hbl : b < s.heap.size) (hr : meth.sig.returnType = ret) (hk : meth.locks = false) {K18 : Int32 → Mm → Option Unit} (hK18 : ∀ (v3 : Int32) (σ : Mm), JR E 0 4 p l e room_1 s m #[Value.ref b] below meth c 89 28555 (fun _ : Unit => lw_Z below #[Value.ref b] s) 18 [(0, .ref b), (1, .ref (E.B + 0)), (2, .ref (E.B + 66)), (3, .int v3)] [] σ (K18 v3 σ)) (v3 : Int32) (σ : Mm) : JR E 0 4 p l e room_1 s m #[Value.ref b] below meth c 89 28555 (fun _ : Unit => lw_Z below #[Value.ref b] s) 340 [(0, .ref b), (1, .ref (E.B + 0)), (2, .ref (E.B + 66)), (3, .int v3)] [] σ (f_L_law_340 N xs L K18 v3 σ) := by
  show JR E 0 4 p l e room_1 s m #[Value.ref b] below meth c 89 28555 (fun _ : Unit => lw_Z below #[Value.ref b] s) 340 [(0, .ref b), (1, .ref (E.B + 0)), (2, .ref (E.B + 66)), (3, .int v3)] [] σ (if inb (v3 + (1 : Int32)) L then (if inb (v3 + (2 : Int32)) L then (if inb (v3 + (3 : Int32)) L then (if inb (v3 + (4 : Int32)) L then (if inb (v3 + (5 : Int32)) L then (bI (f_X5_copy N (0) (xs (ix (v3 + (1 : Int32)))) (xs (ix (v3 + (2 : Int32)))) (xs (ix (v3 + (3 : Int32)))) (xs (ix (v3 + (4 : Int32)))) (xs (ix (v3 + (5 : Int32)))) (σ)) (fun r142 t141 => if inb (v3 + (1 : Int32)) L then (if inb (v3 + (2 : Int32)) L then (if inb (v3 + (3 : Int32)) L then (if inb (v3 + (4 : Int32)) L then (if inb (v3 + (5 : Int32)) L then (bI (f_X6_copy N (66) (xs (ix (v3 + (1 : Int32)))) (xs (ix (v3 + (2 : Int32)))) (xs (ix (v3 + (3 : Int32)))) (xs (ix (v3 + (4 : Int32)))) (xs (ix (v3 + (5 : Int32)))) t141) (fun r144 t143 => if r142 = r144 then (f_L_law_1301 N xs L K18 v3 t143) else none)) else none) else none) else none) else none) else none)) else none) else none) else none) else none) else none)
  refine jr_aload_n hG 1 dL_law_340 rfl rfl ?_
  refine jr_aload_n hG 0 dL_law_341 rfl rfl ?_
  refine jr_iload_n hG 3 dL_law_342 rfl rfl ?_
  refine jr_iconst (v := (1 : Int32)) hG dL_law_343 (by decide) ?_
  refine jr_iadd hG dL_law_344 ?_
  refine jr_sld hG hX hbl dL_law_345 ?_
  refine jr_aload_n hG 0 dL_law_346 rfl rfl ?_
  refine jr_iload_n hG 3 dL_law_347 rfl rfl ?_
  refine jr_iconst (v := (2 : Int32)) hG dL_law_348 (by decide) ?_
  refine jr_iadd hG dL_law_349 ?_
  refine jr_sld hG hX hbl dL_law_350 ?_
  refine jr_aload_n hG 0 dL_law_351 rfl rfl ?_
  refine jr_iload_n hG 3 dL_law_352 rfl rfl ?_
  refine jr_iconst (v := (3 : Int32)) hG dL_law_353 (by decide) ?_
  refine jr_iadd hG dL_law_354 ?_
  refine jr_sld hG hX hbl dL_law_355 ?_
  refine jr_aload_n hG 0 dL_law_356 rfl rfl ?_
  refine jr_iload_n hG 3 dL_law_357 rfl rfl ?_
  refine jr_iconst (v := (4 : Int32)) hG dL_law_358 (by decide) ?_
  refine jr_iadd hG dL_law_359 ?_
  refine jr_sld hG hX hbl dL_law_360 ?_
  refine jr_aload_n hG 0 dL_law_361 rfl rfl ?_
  refine jr_iload_n hG 3 dL_law_362 rfl rfl ?_
  refine jr_iconst (v := (5 : Int32)) hG dL_law_363 (by decide) ?_
  refine jr_iadd hG dL_law_364 ?_
  refine jr_sld hG hX hbl dL_law_365 ?_
  refine jr_callVi (As := [.int (xs (ix (v3 + (1 : Int32)))), .int (xs (ix (v3 + (2 : Int32)))), .int (xs (ix (v3 + (3 : Int32)))), .int (xs (ix (v3 + (4 : Int32)))), .int (xs (ix (v3 + (5 : Int32))))]) hG (c_X5_copy l E N (0) (xs (ix (v3 + (1 : Int32)))) (xs (ix (v3 + (2 : Int32)))) (xs (ix (v3 + (3 : Int32)))) (xs (ix (v3 + (4 : Int32)))) (xs (ix (v3 + (5 : Int32)))) (σ)) ci_X5_copy wd_300 ⟨wd_301, wd_302⟩ cl_5 (okO_s ok_x0) (okO_l ok_x0) ⟨rfl, rfl, Nat.le_of_ble_eq_true rfl, Nat.le_of_ble_eq_true rfl⟩ rfl rfl (Nat.le_of_ble_eq_true rfl) dL_law_366 ⟨by decide, by decide⟩ (fun r142 t141 => ?_)
  refine jr_aload_n hG 2 dL_law_369 rfl rfl ?_
  refine jr_aload_n hG 0 dL_law_370 rfl rfl ?_
  refine jr_iload_n hG 3 dL_law_371 rfl rfl ?_
  refine jr_iconst (v := (1 : Int32)) hG dL_law_372 (by decide) ?_
  refine jr_iadd hG dL_law_373 ?_
  refine jr_sld hG hX hbl dL_law_374 ?_
  refine jr_aload_n hG 0 dL_law_375 rfl rfl ?_
  refine jr_iload_n hG 3 dL_law_376 rfl rfl ?_
  refine jr_iconst (v := (2 : Int32)) hG dL_law_377 (by decide) ?_
  refine jr_iadd hG dL_law_378 ?_
  refine jr_sld hG hX hbl dL_law_379 ?_
  refine jr_aload_n hG 0 dL_law_380 rfl rfl ?_
  refine jr_iload_n hG 3 dL_law_381 rfl rfl ?_
  refine jr_iconst (v := (3 : Int32)) hG dL_law_382 (by decide) ?_
  refine jr_iadd hG dL_law_383 ?_
  refine jr_sld hG hX hbl dL_law_384 ?_
  refine jr_aload_n hG 0 dL_law_385 rfl rfl ?_
  refine jr_iload_n hG 3 dL_law_386 rfl rfl ?_
  refine jr_iconst (v := (4 : Int32)) hG dL_law_387 (by decide) ?_
  refine jr_iadd hG dL_law_388 ?_
  refine jr_sld hG hX hbl dL_law_389 ?_
  refine jr_aload_n hG 0 dL_law_390 rfl rfl ?_
  refine jr_iload_n hG 3 dL_law_391 rfl rfl ?_
  refine jr_iconst (v := (5 : Int32)) hG dL_law_392 (by decide) ?_
  refine jr_iadd hG dL_law_393 ?_
  refine jr_sld hG hX hbl dL_law_394 ?_
  refine jr_callVi (As := [.int (xs (ix (v3 + (1 : Int32)))), .int (xs (ix (v3 + (2 : Int32)))), .int (xs (ix (v3 + (3 : Int32)))), .int (xs (ix (v3 + (4 : Int32)))), .int (xs (ix (v3 + (5 : Int32))))]) hG (c_X6_copy l E N (66) (xs (ix (v3 + (1 : Int32)))) (xs (ix (v3 + (2 : Int32)))) (xs (ix (v3 + (3 : Int32)))) (xs (ix (v3 + (4 : Int32)))) (xs (ix (v3 + (5 : Int32)))) t141) ci_X6_copy wd_893 ⟨wd_894, wd_895⟩ cl_6 (okO_s ok_m66) (okO_l ok_m66) ⟨rfl, rfl, Nat.le_of_ble_eq_true rfl, Nat.le_of_ble_eq_true rfl⟩ rfl rfl (Nat.le_of_ble_eq_true rfl) dL_law_395 ⟨by decide, by decide⟩ (fun r144 t143 => ?_)
  refine jr_icmp_eq hG 1301 dL_law_398 (by decide) (fun _ => ?_) (fun _ => ?_)
  · exact w_L_law_1301 N hG hX hbl hr hk hK18 v3 t143
  · refine jr_iconst (v := (0 : Int32)) hG dL_law_401 (by decide) ?_
    exact jr_none
def f_L_law_317 (N : Nat) (xs : Nat → Int32) (L : Nat) (K18 : Int32 → Mm → Option Unit) (v3 : Int32) (σ : Mm) : Option Unit := if inb (v3 + (1 : Int32)) L then (bI (f_X5_tear N (0) (xs (ix (v3 + (1 : Int32)))) (σ)) (fun r146 t145 => if inb (v3 + (1 : Int32)) L then (bI (f_X6_tear N (66) (xs (ix (v3 + (1 : Int32)))) t145) (fun r148 t147 => if r146 = r148 then (f_L_law_1301 N xs L K18 v3 t147) else none)) else none)) else none
set_option maxRecDepth 100000 in
set_option maxHeartbeats 4000000 in
theorem w_L_law_317 {p : Program} {l : Launch} {e : Env} {s : State} {m : MethodId} {below : List Frame} {meth : Method} {c : Code} {E : XE} {b L : Nat} {xs : Nat → Int32} (N : Nat) (hG : GG E 0 4 RL cL_law p s m #[Value.ref b] c) (hX : va_X b L xs s s.heap) (hbl : b < s.heap.size) (hr : meth.sig.returnType = ret) (hk : meth.locks = false) {K18 : Int32 → Mm → Option Unit} (hK18 : ∀ (v3 : Int32) (σ : Mm), JR E 0 4 p l e room_1 s m #[Value.ref b] below meth c 89 28555 (fun _ : Unit => lw_Z below #[Value.ref b] s) 18 [(0, .ref b), (1, .ref (E.B + 0)), (2, .ref (E.B + 66)), (3, .int v3)] [] σ (K18 v3 σ)) (v3 : Int32) (σ : Mm) : JR E 0 4 p l e room_1 s m #[Value.ref b] below meth c 89 28555 (fun _ : Unit => lw_Z below #[Value.ref b] s) 317 [(0, .ref b), (1, .ref (E.B + 0)), (2, .ref (E.B + 66)), (3, .int v3)] [] σ (f_L_law_317 N xs L K18 v3 σ) := by
  show JR E 0 4 p l e room_1 s m #[Value.ref b] below meth c 89 28555 (fun _ : Unit => lw_Z below #[Value.ref b] s) 317 [(0, .ref b), (1, .ref (E.B + 0)), (2, .ref (E.B + 66)), (3, .int v3)] [] σ (if inb (v3 + (1 : Int32)) L then (bI (f_X5_tear N (0) (xs (ix (v3 + (1 : Int32)))) (σ)) (fun r146 t145 => if inb (v3 + (1 : Int32)) L then (bI (f_X6_tear N (66) (xs (ix (v3 + (1 : Int32)))) t145) (fun r148 t147 => if r146 = r148 then (f_L_law_1301 N xs L K18 v3 t147) else none)) else none)) else none)
  refine jr_aload_n hG 1 dL_law_317 rfl rfl ?_
  refine jr_aload_n hG 0 dL_law_318 rfl rfl ?_
  refine jr_iload_n hG 3 dL_law_319 rfl rfl ?_
  refine jr_iconst (v := (1 : Int32)) hG dL_law_320 (by decide) ?_
  refine jr_iadd hG dL_law_321 ?_
  refine jr_sld hG hX hbl dL_law_322 ?_
  refine jr_callVi (As := [.int (xs (ix (v3 + (1 : Int32))))]) hG (c_X5_tear l E N (0) (xs (ix (v3 + (1 : Int32)))) (σ)) ci_X5_tear wd_296 ⟨wd_297, wd_298⟩ cl_5 (okO_s ok_x0) (okO_l ok_x0) ⟨rfl, rfl, Nat.le_of_ble_eq_true rfl, Nat.le_of_ble_eq_true rfl⟩ rfl rfl (Nat.le_of_ble_eq_true rfl) dL_law_323 ⟨by decide, by decide⟩ (fun r146 t145 => ?_)
  refine jr_aload_n hG 2 dL_law_326 rfl rfl ?_
  refine jr_aload_n hG 0 dL_law_327 rfl rfl ?_
  refine jr_iload_n hG 3 dL_law_328 rfl rfl ?_
  refine jr_iconst (v := (1 : Int32)) hG dL_law_329 (by decide) ?_
  refine jr_iadd hG dL_law_330 ?_
  refine jr_sld hG hX hbl dL_law_331 ?_
  refine jr_callVi (As := [.int (xs (ix (v3 + (1 : Int32))))]) hG (c_X6_tear l E N (66) (xs (ix (v3 + (1 : Int32)))) t145) ci_X6_tear wd_889 ⟨wd_890, wd_891⟩ cl_6 (okO_s ok_m66) (okO_l ok_m66) ⟨rfl, rfl, Nat.le_of_ble_eq_true rfl, Nat.le_of_ble_eq_true rfl⟩ rfl rfl (Nat.le_of_ble_eq_true rfl) dL_law_332 ⟨by decide, by decide⟩ (fun r148 t147 => ?_)
  refine jr_icmp_eq hG 1301 dL_law_335 (by decide) (fun _ => ?_) (fun _ => ?_)
  · exact w_L_law_1301 N hG hX hbl hr hk hK18 v3 t147
  · refine jr_iconst (v := (0 : Int32)) hG dL_law_338 (by decide) ?_
    exact jr_none
def f_L_law_284 (N : Nat) (xs : Nat → Int32) (L : Nat) (K18 : Int32 → Mm → Option Unit) (v3 : Int32) (σ : Mm) : Option Unit := if inb (v3 + (1 : Int32)) L then (if inb (v3 + (2 : Int32)) L then (bI (f_X5_at N (0) (xs (ix (v3 + (1 : Int32)))) (xs (ix (v3 + (2 : Int32)))) (σ)) (fun r150 t149 => if inb (v3 + (1 : Int32)) L then (if inb (v3 + (2 : Int32)) L then (bI (f_X6_at N (66) (xs (ix (v3 + (1 : Int32)))) (xs (ix (v3 + (2 : Int32)))) t149) (fun r152 t151 => if r150 = r152 then (f_L_law_1301 N xs L K18 v3 t151) else none)) else none) else none)) else none) else none
set_option maxRecDepth 100000 in
set_option maxHeartbeats 4000000 in
theorem w_L_law_284 {p : Program} {l : Launch} {e : Env} {s : State} {m : MethodId} {below : List Frame} {meth : Method} {c : Code} {E : XE} {b L : Nat} {xs : Nat → Int32} (N : Nat) (hG : GG E 0 4 RL cL_law p s m #[Value.ref b] c) (hX : va_X b L xs s s.heap) (hbl : b < s.heap.size) (hr : meth.sig.returnType = ret) (hk : meth.locks = false) {K18 : Int32 → Mm → Option Unit} (hK18 : ∀ (v3 : Int32) (σ : Mm), JR E 0 4 p l e room_1 s m #[Value.ref b] below meth c 89 28555 (fun _ : Unit => lw_Z below #[Value.ref b] s) 18 [(0, .ref b), (1, .ref (E.B + 0)), (2, .ref (E.B + 66)), (3, .int v3)] [] σ (K18 v3 σ)) (v3 : Int32) (σ : Mm) : JR E 0 4 p l e room_1 s m #[Value.ref b] below meth c 89 28555 (fun _ : Unit => lw_Z below #[Value.ref b] s) 284 [(0, .ref b), (1, .ref (E.B + 0)), (2, .ref (E.B + 66)), (3, .int v3)] [] σ (f_L_law_284 N xs L K18 v3 σ) := by
  show JR E 0 4 p l e room_1 s m #[Value.ref b] below meth c 89 28555 (fun _ : Unit => lw_Z below #[Value.ref b] s) 284 [(0, .ref b), (1, .ref (E.B + 0)), (2, .ref (E.B + 66)), (3, .int v3)] [] σ (if inb (v3 + (1 : Int32)) L then (if inb (v3 + (2 : Int32)) L then (bI (f_X5_at N (0) (xs (ix (v3 + (1 : Int32)))) (xs (ix (v3 + (2 : Int32)))) (σ)) (fun r150 t149 => if inb (v3 + (1 : Int32)) L then (if inb (v3 + (2 : Int32)) L then (bI (f_X6_at N (66) (xs (ix (v3 + (1 : Int32)))) (xs (ix (v3 + (2 : Int32)))) t149) (fun r152 t151 => if r150 = r152 then (f_L_law_1301 N xs L K18 v3 t151) else none)) else none) else none)) else none) else none)
  refine jr_aload_n hG 1 dL_law_284 rfl rfl ?_
  refine jr_aload_n hG 0 dL_law_285 rfl rfl ?_
  refine jr_iload_n hG 3 dL_law_286 rfl rfl ?_
  refine jr_iconst (v := (1 : Int32)) hG dL_law_287 (by decide) ?_
  refine jr_iadd hG dL_law_288 ?_
  refine jr_sld hG hX hbl dL_law_289 ?_
  refine jr_aload_n hG 0 dL_law_290 rfl rfl ?_
  refine jr_iload_n hG 3 dL_law_291 rfl rfl ?_
  refine jr_iconst (v := (2 : Int32)) hG dL_law_292 (by decide) ?_
  refine jr_iadd hG dL_law_293 ?_
  refine jr_sld hG hX hbl dL_law_294 ?_
  refine jr_callVi (As := [.int (xs (ix (v3 + (1 : Int32)))), .int (xs (ix (v3 + (2 : Int32))))]) hG (c_X5_at l E N (0) (xs (ix (v3 + (1 : Int32)))) (xs (ix (v3 + (2 : Int32)))) (σ)) ci_X5_at wd_292 ⟨wd_293, wd_294⟩ cl_5 (okO_s ok_x0) (okO_l ok_x0) ⟨rfl, rfl, Nat.le_of_ble_eq_true rfl, Nat.le_of_ble_eq_true rfl⟩ rfl rfl (Nat.le_of_ble_eq_true rfl) dL_law_295 ⟨by decide, by decide⟩ (fun r150 t149 => ?_)
  refine jr_aload_n hG 2 dL_law_298 rfl rfl ?_
  refine jr_aload_n hG 0 dL_law_299 rfl rfl ?_
  refine jr_iload_n hG 3 dL_law_300 rfl rfl ?_
  refine jr_iconst (v := (1 : Int32)) hG dL_law_301 (by decide) ?_
  refine jr_iadd hG dL_law_302 ?_
  refine jr_sld hG hX hbl dL_law_303 ?_
  refine jr_aload_n hG 0 dL_law_304 rfl rfl ?_
  refine jr_iload_n hG 3 dL_law_305 rfl rfl ?_
  refine jr_iconst (v := (2 : Int32)) hG dL_law_306 (by decide) ?_
  refine jr_iadd hG dL_law_307 ?_
  refine jr_sld hG hX hbl dL_law_308 ?_
  refine jr_callVi (As := [.int (xs (ix (v3 + (1 : Int32)))), .int (xs (ix (v3 + (2 : Int32))))]) hG (c_X6_at l E N (66) (xs (ix (v3 + (1 : Int32)))) (xs (ix (v3 + (2 : Int32)))) t149) ci_X6_at wd_885 ⟨wd_886, wd_887⟩ cl_6 (okO_s ok_m66) (okO_l ok_m66) ⟨rfl, rfl, Nat.le_of_ble_eq_true rfl, Nat.le_of_ble_eq_true rfl⟩ rfl rfl (Nat.le_of_ble_eq_true rfl) dL_law_309 ⟨by decide, by decide⟩ (fun r152 t151 => ?_)
  refine jr_icmp_eq hG 1301 dL_law_312 (by decide) (fun _ => ?_) (fun _ => ?_)
  · exact w_L_law_1301 N hG hX hbl hr hk hK18 v3 t151
  · refine jr_iconst (v := (0 : Int32)) hG dL_law_315 (by decide) ?_
    exact jr_none
def f_L_law_241 (N : Nat) (xs : Nat → Int32) (L : Nat) (K18 : Int32 → Mm → Option Unit) (v3 : Int32) (σ : Mm) : Option Unit := if inb (v3 + (1 : Int32)) L then (if inb (v3 + (2 : Int32)) L then (if inb (v3 + (3 : Int32)) L then (bI (f_X5_lay N (0) (xs (ix (v3 + (1 : Int32)))) (xs (ix (v3 + (2 : Int32)))) (xs (ix (v3 + (3 : Int32)))) (σ)) (fun r154 t153 => if inb (v3 + (1 : Int32)) L then (if inb (v3 + (2 : Int32)) L then (if inb (v3 + (3 : Int32)) L then (bI (f_X6_lay N (66) (xs (ix (v3 + (1 : Int32)))) (xs (ix (v3 + (2 : Int32)))) (xs (ix (v3 + (3 : Int32)))) t153) (fun r156 t155 => if r154 = r156 then (f_L_law_1301 N xs L K18 v3 t155) else none)) else none) else none) else none)) else none) else none) else none
set_option maxRecDepth 100000 in
set_option maxHeartbeats 4000000 in
theorem w_L_law_241 {p : Program} {l : Launch} {e : Env} {s : State} {m : MethodId} {below : List Frame} {meth : Method} {c : Code} {E : XE} {b L : Nat} {xs : Nat → Int32} (N : Nat) (hG : GG E 0 4 RL cL_law p s m #[Value.ref b] c) (hX : va_X b L xs s s.heap) (hbl : b < s.heap.size) (hr : meth.sig.returnType = ret) (hk : meth.locks = false) {K18 : Int32 → Mm → Option Unit} (hK18 : ∀ (v3 : Int32) (σ : Mm), JR E 0 4 p l e room_1 s m #[Value.ref b] below meth c 89 28555 (fun _ : Unit => lw_Z below #[Value.ref b] s) 18 [(0, .ref b), (1, .ref (E.B + 0)), (2, .ref (E.B + 66)), (3, .int v3)] [] σ (K18 v3 σ)) (v3 : Int32) (σ : Mm) : JR E 0 4 p l e room_1 s m #[Value.ref b] below meth c 89 28555 (fun _ : Unit => lw_Z below #[Value.ref b] s) 241 [(0, .ref b), (1, .ref (E.B + 0)), (2, .ref (E.B + 66)), (3, .int v3)] [] σ (f_L_law_241 N xs L K18 v3 σ) := by
  show JR E 0 4 p l e room_1 s m #[Value.ref b] below meth c 89 28555 (fun _ : Unit => lw_Z below #[Value.ref b] s) 241 [(0, .ref b), (1, .ref (E.B + 0)), (2, .ref (E.B + 66)), (3, .int v3)] [] σ (if inb (v3 + (1 : Int32)) L then (if inb (v3 + (2 : Int32)) L then (if inb (v3 + (3 : Int32)) L then (bI (f_X5_lay N (0) (xs (ix (v3 + (1 : Int32)))) (xs (ix (v3 + (2 : Int32)))) (xs (ix (v3 + (3 : Int32)))) (σ)) (fun r154 t153 => if inb (v3 + (1 : Int32)) L then (if inb (v3 + (2 : Int32)) L then (if inb (v3 + (3 : Int32)) L then (bI (f_X6_lay N (66) (xs (ix (v3 + (1 : Int32)))) (xs (ix (v3 + (2 : Int32)))) (xs (ix (v3 + (3 : Int32)))) t153) (fun r156 t155 => if r154 = r156 then (f_L_law_1301 N xs L K18 v3 t155) else none)) else none) else none) else none)) else none) else none) else none)
  refine jr_aload_n hG 1 dL_law_241 rfl rfl ?_
  refine jr_aload_n hG 0 dL_law_242 rfl rfl ?_
  refine jr_iload_n hG 3 dL_law_243 rfl rfl ?_
  refine jr_iconst (v := (1 : Int32)) hG dL_law_244 (by decide) ?_
  refine jr_iadd hG dL_law_245 ?_
  refine jr_sld hG hX hbl dL_law_246 ?_
  refine jr_aload_n hG 0 dL_law_247 rfl rfl ?_
  refine jr_iload_n hG 3 dL_law_248 rfl rfl ?_
  refine jr_iconst (v := (2 : Int32)) hG dL_law_249 (by decide) ?_
  refine jr_iadd hG dL_law_250 ?_
  refine jr_sld hG hX hbl dL_law_251 ?_
  refine jr_aload_n hG 0 dL_law_252 rfl rfl ?_
  refine jr_iload_n hG 3 dL_law_253 rfl rfl ?_
  refine jr_iconst (v := (3 : Int32)) hG dL_law_254 (by decide) ?_
  refine jr_iadd hG dL_law_255 ?_
  refine jr_sld hG hX hbl dL_law_256 ?_
  refine jr_callVi (As := [.int (xs (ix (v3 + (1 : Int32)))), .int (xs (ix (v3 + (2 : Int32)))), .int (xs (ix (v3 + (3 : Int32))))]) hG (c_X5_lay l E N (0) (xs (ix (v3 + (1 : Int32)))) (xs (ix (v3 + (2 : Int32)))) (xs (ix (v3 + (3 : Int32)))) (σ)) ci_X5_lay wd_284 ⟨wd_285, wd_286⟩ cl_5 (okO_s ok_x0) (okO_l ok_x0) ⟨rfl, rfl, Nat.le_of_ble_eq_true rfl, Nat.le_of_ble_eq_true rfl⟩ rfl rfl (Nat.le_of_ble_eq_true rfl) dL_law_257 ⟨by decide, by decide⟩ (fun r154 t153 => ?_)
  refine jr_aload_n hG 2 dL_law_260 rfl rfl ?_
  refine jr_aload_n hG 0 dL_law_261 rfl rfl ?_
  refine jr_iload_n hG 3 dL_law_262 rfl rfl ?_
  refine jr_iconst (v := (1 : Int32)) hG dL_law_263 (by decide) ?_
  refine jr_iadd hG dL_law_264 ?_
  refine jr_sld hG hX hbl dL_law_265 ?_
  refine jr_aload_n hG 0 dL_law_266 rfl rfl ?_
  refine jr_iload_n hG 3 dL_law_267 rfl rfl ?_
  refine jr_iconst (v := (2 : Int32)) hG dL_law_268 (by decide) ?_
  refine jr_iadd hG dL_law_269 ?_
  refine jr_sld hG hX hbl dL_law_270 ?_
  refine jr_aload_n hG 0 dL_law_271 rfl rfl ?_
  refine jr_iload_n hG 3 dL_law_272 rfl rfl ?_
  refine jr_iconst (v := (3 : Int32)) hG dL_law_273 (by decide) ?_
  refine jr_iadd hG dL_law_274 ?_
  refine jr_sld hG hX hbl dL_law_275 ?_
  refine jr_callVi (As := [.int (xs (ix (v3 + (1 : Int32)))), .int (xs (ix (v3 + (2 : Int32)))), .int (xs (ix (v3 + (3 : Int32))))]) hG (c_X6_lay l E N (66) (xs (ix (v3 + (1 : Int32)))) (xs (ix (v3 + (2 : Int32)))) (xs (ix (v3 + (3 : Int32)))) t153) ci_X6_lay wd_873 ⟨wd_874, wd_875⟩ cl_6 (okO_s ok_m66) (okO_l ok_m66) ⟨rfl, rfl, Nat.le_of_ble_eq_true rfl, Nat.le_of_ble_eq_true rfl⟩ rfl rfl (Nat.le_of_ble_eq_true rfl) dL_law_276 ⟨by decide, by decide⟩ (fun r156 t155 => ?_)
  refine jr_icmp_eq hG 1301 dL_law_279 (by decide) (fun _ => ?_) (fun _ => ?_)
  · exact w_L_law_1301 N hG hX hbl hr hk hK18 v3 t155
  · refine jr_iconst (v := (0 : Int32)) hG dL_law_282 (by decide) ?_
    exact jr_none
def f_L_law_208 (N : Nat) (xs : Nat → Int32) (L : Nat) (K18 : Int32 → Mm → Option Unit) (v3 : Int32) (σ : Mm) : Option Unit := if inb (v3 + (1 : Int32)) L then (if inb (v3 + (2 : Int32)) L then (bI (f_X5_row N (0) (xs (ix (v3 + (1 : Int32)))) (xs (ix (v3 + (2 : Int32)))) (σ)) (fun r158 t157 => if inb (v3 + (1 : Int32)) L then (if inb (v3 + (2 : Int32)) L then (bI (f_X6_row N (66) (xs (ix (v3 + (1 : Int32)))) (xs (ix (v3 + (2 : Int32)))) t157) (fun r160 t159 => if r158 = r160 then (f_L_law_1301 N xs L K18 v3 t159) else none)) else none) else none)) else none) else none
set_option maxRecDepth 100000 in
set_option maxHeartbeats 4000000 in
theorem w_L_law_208 {p : Program} {l : Launch} {e : Env} {s : State} {m : MethodId} {below : List Frame} {meth : Method} {c : Code} {E : XE} {b L : Nat} {xs : Nat → Int32} (N : Nat) (hG : GG E 0 4 RL cL_law p s m #[Value.ref b] c) (hX : va_X b L xs s s.heap) (hbl : b < s.heap.size) (hr : meth.sig.returnType = ret) (hk : meth.locks = false) {K18 : Int32 → Mm → Option Unit} (hK18 : ∀ (v3 : Int32) (σ : Mm), JR E 0 4 p l e room_1 s m #[Value.ref b] below meth c 89 28555 (fun _ : Unit => lw_Z below #[Value.ref b] s) 18 [(0, .ref b), (1, .ref (E.B + 0)), (2, .ref (E.B + 66)), (3, .int v3)] [] σ (K18 v3 σ)) (v3 : Int32) (σ : Mm) : JR E 0 4 p l e room_1 s m #[Value.ref b] below meth c 89 28555 (fun _ : Unit => lw_Z below #[Value.ref b] s) 208 [(0, .ref b), (1, .ref (E.B + 0)), (2, .ref (E.B + 66)), (3, .int v3)] [] σ (f_L_law_208 N xs L K18 v3 σ) := by
  show JR E 0 4 p l e room_1 s m #[Value.ref b] below meth c 89 28555 (fun _ : Unit => lw_Z below #[Value.ref b] s) 208 [(0, .ref b), (1, .ref (E.B + 0)), (2, .ref (E.B + 66)), (3, .int v3)] [] σ (if inb (v3 + (1 : Int32)) L then (if inb (v3 + (2 : Int32)) L then (bI (f_X5_row N (0) (xs (ix (v3 + (1 : Int32)))) (xs (ix (v3 + (2 : Int32)))) (σ)) (fun r158 t157 => if inb (v3 + (1 : Int32)) L then (if inb (v3 + (2 : Int32)) L then (bI (f_X6_row N (66) (xs (ix (v3 + (1 : Int32)))) (xs (ix (v3 + (2 : Int32)))) t157) (fun r160 t159 => if r158 = r160 then (f_L_law_1301 N xs L K18 v3 t159) else none)) else none) else none)) else none) else none)
  refine jr_aload_n hG 1 dL_law_208 rfl rfl ?_
  refine jr_aload_n hG 0 dL_law_209 rfl rfl ?_
  refine jr_iload_n hG 3 dL_law_210 rfl rfl ?_
  refine jr_iconst (v := (1 : Int32)) hG dL_law_211 (by decide) ?_
  refine jr_iadd hG dL_law_212 ?_
  refine jr_sld hG hX hbl dL_law_213 ?_
  refine jr_aload_n hG 0 dL_law_214 rfl rfl ?_
  refine jr_iload_n hG 3 dL_law_215 rfl rfl ?_
  refine jr_iconst (v := (2 : Int32)) hG dL_law_216 (by decide) ?_
  refine jr_iadd hG dL_law_217 ?_
  refine jr_sld hG hX hbl dL_law_218 ?_
  refine jr_callVi (As := [.int (xs (ix (v3 + (1 : Int32)))), .int (xs (ix (v3 + (2 : Int32))))]) hG (c_X5_row l E N (0) (xs (ix (v3 + (1 : Int32)))) (xs (ix (v3 + (2 : Int32)))) (σ)) ci_X5_row wd_269 ⟨wd_270, wd_271⟩ cl_5 (okO_s ok_x0) (okO_l ok_x0) ⟨rfl, rfl, Nat.le_of_ble_eq_true rfl, Nat.le_of_ble_eq_true rfl⟩ rfl rfl (Nat.le_of_ble_eq_true rfl) dL_law_219 ⟨by decide, by decide⟩ (fun r158 t157 => ?_)
  refine jr_aload_n hG 2 dL_law_222 rfl rfl ?_
  refine jr_aload_n hG 0 dL_law_223 rfl rfl ?_
  refine jr_iload_n hG 3 dL_law_224 rfl rfl ?_
  refine jr_iconst (v := (1 : Int32)) hG dL_law_225 (by decide) ?_
  refine jr_iadd hG dL_law_226 ?_
  refine jr_sld hG hX hbl dL_law_227 ?_
  refine jr_aload_n hG 0 dL_law_228 rfl rfl ?_
  refine jr_iload_n hG 3 dL_law_229 rfl rfl ?_
  refine jr_iconst (v := (2 : Int32)) hG dL_law_230 (by decide) ?_
  refine jr_iadd hG dL_law_231 ?_
  refine jr_sld hG hX hbl dL_law_232 ?_
  refine jr_callVi (As := [.int (xs (ix (v3 + (1 : Int32)))), .int (xs (ix (v3 + (2 : Int32))))]) hG (c_X6_row l E N (66) (xs (ix (v3 + (1 : Int32)))) (xs (ix (v3 + (2 : Int32)))) t157) ci_X6_row wd_862 ⟨wd_863, wd_864⟩ cl_6 (okO_s ok_m66) (okO_l ok_m66) ⟨rfl, rfl, Nat.le_of_ble_eq_true rfl, Nat.le_of_ble_eq_true rfl⟩ rfl rfl (Nat.le_of_ble_eq_true rfl) dL_law_233 ⟨by decide, by decide⟩ (fun r160 t159 => ?_)
  refine jr_icmp_eq hG 1301 dL_law_236 (by decide) (fun _ => ?_) (fun _ => ?_)
  · exact w_L_law_1301 N hG hX hbl hr hk hK18 v3 t159
  · refine jr_iconst (v := (0 : Int32)) hG dL_law_239 (by decide) ?_
    exact jr_none
def f_L_law_18 (N : Nat) (xs : Nat → Int32) (L : Nat)  : Nat → Int32 → Mm → Option Unit
  | 0 => fun _ _ => none
  | n + 1 => fun v3 σ => if ((nI L) - (6 : Int32)) < v3 then (some ()) else (if inb v3 L then (if ((xs (ix v3)) &&& (63 : Int32)) = (0 : Int32) then (f_L_law_208 N xs L (f_L_law_18 N xs L n) v3 (σ)) else (if ((xs (ix v3)) &&& (63 : Int32)) = (1 : Int32) then (f_L_law_241 N xs L (f_L_law_18 N xs L n) v3 (σ)) else (if ((xs (ix v3)) &&& (63 : Int32)) = (2 : Int32) then (f_L_law_284 N xs L (f_L_law_18 N xs L n) v3 (σ)) else (if ((xs (ix v3)) &&& (63 : Int32)) = (3 : Int32) then (f_L_law_317 N xs L (f_L_law_18 N xs L n) v3 (σ)) else (if ((xs (ix v3)) &&& (63 : Int32)) = (4 : Int32) then (f_L_law_340 N xs L (f_L_law_18 N xs L n) v3 (σ)) else (if ((xs (ix v3)) &&& (63 : Int32)) = (5 : Int32) then (f_L_law_403 N xs L (f_L_law_18 N xs L n) v3 (σ)) else (if ((xs (ix v3)) &&& (63 : Int32)) = (6 : Int32) then (f_L_law_426 N xs L (f_L_law_18 N xs L n) v3 (σ)) else (if ((xs (ix v3)) &&& (63 : Int32)) = (7 : Int32) then (f_L_law_459 N xs L (f_L_law_18 N xs L n) v3 (σ)) else (if ((xs (ix v3)) &&& (63 : Int32)) = (8 : Int32) then (f_L_law_502 N xs L (f_L_law_18 N xs L n) v3 (σ)) else (if ((xs (ix v3)) &&& (63 : Int32)) = (9 : Int32) then (f_L_law_525 N xs L (f_L_law_18 N xs L n) v3 (σ)) else (if ((xs (ix v3)) &&& (63 : Int32)) = (10 : Int32) then (f_L_law_548 N xs L (f_L_law_18 N xs L n) v3 (σ)) else (if ((xs (ix v3)) &&& (63 : Int32)) = (11 : Int32) then (f_L_law_581 N xs L (f_L_law_18 N xs L n) v3 (σ)) else (if ((xs (ix v3)) &&& (63 : Int32)) = (12 : Int32) then (f_L_law_614 N xs L (f_L_law_18 N xs L n) v3 (σ)) else (if ((xs (ix v3)) &&& (63 : Int32)) = (13 : Int32) then (f_L_law_637 N xs L (f_L_law_18 N xs L n) v3 (σ)) else (if ((xs (ix v3)) &&& (63 : Int32)) = (14 : Int32) then (f_L_law_650 N xs L (f_L_law_18 N xs L n) v3 (σ)) else (if ((xs (ix v3)) &&& (63 : Int32)) = (15 : Int32) then (f_L_law_683 N xs L (f_L_law_18 N xs L n) v3 (σ)) else (if ((xs (ix v3)) &&& (63 : Int32)) = (16 : Int32) then (f_L_law_706 N xs L (f_L_law_18 N xs L n) v3 (σ)) else (if ((xs (ix v3)) &&& (63 : Int32)) = (17 : Int32) then (f_L_law_729 N xs L (f_L_law_18 N xs L n) v3 (σ)) else (if ((xs (ix v3)) &&& (63 : Int32)) = (18 : Int32) then (f_L_law_752 N xs L (f_L_law_18 N xs L n) v3 (σ)) else (if ((xs (ix v3)) &&& (63 : Int32)) = (19 : Int32) then (f_L_law_785 N xs L (f_L_law_18 N xs L n) v3 (σ)) else (if ((xs (ix v3)) &&& (63 : Int32)) = (20 : Int32) then (f_L_law_828 N xs L (f_L_law_18 N xs L n) v3 (σ)) else (if ((xs (ix v3)) &&& (63 : Int32)) = (21 : Int32) then (f_L_law_861 N xs L (f_L_law_18 N xs L n) v3 (σ)) else (if ((xs (ix v3)) &&& (63 : Int32)) = (22 : Int32) then (f_L_law_874 N xs L (f_L_law_18 N xs L n) v3 (σ)) else (if ((xs (ix v3)) &&& (63 : Int32)) = (23 : Int32) then (f_L_law_897 N xs L (f_L_law_18 N xs L n) v3 (σ)) else (if ((xs (ix v3)) &&& (63 : Int32)) = (24 : Int32) then (f_L_law_910 N xs L (f_L_law_18 N xs L n) v3 (σ)) else (if ((xs (ix v3)) &&& (63 : Int32)) = (25 : Int32) then (f_L_law_943 N xs L (f_L_law_18 N xs L n) v3 (σ)) else (if ((xs (ix v3)) &&& (63 : Int32)) = (26 : Int32) then (f_L_law_986 N xs L (f_L_law_18 N xs L n) v3 (σ)) else (if ((xs (ix v3)) &&& (63 : Int32)) = (27 : Int32) then (f_L_law_1029 N xs L (f_L_law_18 N xs L n) v3 (σ)) else (if ((xs (ix v3)) &&& (63 : Int32)) = (28 : Int32) then (f_L_law_1052 N xs L (f_L_law_18 N xs L n) v3 (σ)) else (if ((xs (ix v3)) &&& (63 : Int32)) = (29 : Int32) then (f_L_law_1085 N xs L (f_L_law_18 N xs L n) v3 (σ)) else (if ((xs (ix v3)) &&& (63 : Int32)) = (30 : Int32) then (f_L_law_1108 N xs L (f_L_law_18 N xs L n) v3 (σ)) else (if ((xs (ix v3)) &&& (63 : Int32)) = (31 : Int32) then (f_L_law_1131 N xs L (f_L_law_18 N xs L n) v3 (σ)) else (if ((xs (ix v3)) &&& (63 : Int32)) = (32 : Int32) then (f_L_law_1154 N xs L (f_L_law_18 N xs L n) v3 (σ)) else (if ((xs (ix v3)) &&& (63 : Int32)) = (33 : Int32) then (f_L_law_1187 N xs L (f_L_law_18 N xs L n) v3 (σ)) else (if ((xs (ix v3)) &&& (63 : Int32)) = (34 : Int32) then (f_L_law_1200 N xs L (f_L_law_18 N xs L n) v3 (σ)) else (if ((xs (ix v3)) &&& (63 : Int32)) = (35 : Int32) then (f_L_law_1214 N xs L (f_L_law_18 N xs L n) v3 (σ)) else (if ((xs (ix v3)) &&& (63 : Int32)) = (36 : Int32) then (f_L_law_1228 N xs L (f_L_law_18 N xs L n) v3 (σ)) else (if ((xs (ix v3)) &&& (63 : Int32)) = (37 : Int32) then (f_L_law_1251 N xs L (f_L_law_18 N xs L n) v3 (σ)) else (if ((xs (ix v3)) &&& (63 : Int32)) = (38 : Int32) then (f_L_law_1264 N xs L (f_L_law_18 N xs L n) v3 (σ)) else (if ((xs (ix v3)) &&& (63 : Int32)) = (39 : Int32) then (f_L_law_1287 N xs L (f_L_law_18 N xs L n) v3 (σ)) else (f_L_law_1301 N xs L (f_L_law_18 N xs L n) v3 (σ)))))))))))))))))))))))))))))))))))))))))) else none)
set_option maxRecDepth 100000 in
set_option maxHeartbeats 4000000 in
theorem w_L_law_18 {p : Program} {l : Launch} {e : Env} {s : State} {m : MethodId} {below : List Frame} {meth : Method} {c : Code} {E : XE} {b L : Nat} {xs : Nat → Int32} (N : Nat) (hG : GG E 0 4 RL cL_law p s m #[Value.ref b] c) (hX : va_X b L xs s s.heap) (hbl : b < s.heap.size) (hr : meth.sig.returnType = ret) (hk : meth.locks = false)  : ∀ (n : Nat) (v3 : Int32) (σ : Mm), JR E 0 4 p l e room_1 s m #[Value.ref b] below meth c 89 28555 (fun _ : Unit => lw_Z below #[Value.ref b] s) 18 [(0, .ref b), (1, .ref (E.B + 0)), (2, .ref (E.B + 66)), (3, .int v3)] [] σ (f_L_law_18 N xs L n v3 σ) := by
  intro n
  induction n with
  | zero => intro v3 σ r hX; cases hX
  | succ n ih =>
    intro v3 σ
    show JR E 0 4 p l e room_1 s m #[Value.ref b] below meth c 89 28555 (fun _ : Unit => lw_Z below #[Value.ref b] s) 18 [(0, .ref b), (1, .ref (E.B + 0)), (2, .ref (E.B + 66)), (3, .int v3)] [] σ (if ((nI L) - (6 : Int32)) < v3 then (some ()) else (if inb v3 L then (if ((xs (ix v3)) &&& (63 : Int32)) = (0 : Int32) then (f_L_law_208 N xs L (f_L_law_18 N xs L n) v3 (σ)) else (if ((xs (ix v3)) &&& (63 : Int32)) = (1 : Int32) then (f_L_law_241 N xs L (f_L_law_18 N xs L n) v3 (σ)) else (if ((xs (ix v3)) &&& (63 : Int32)) = (2 : Int32) then (f_L_law_284 N xs L (f_L_law_18 N xs L n) v3 (σ)) else (if ((xs (ix v3)) &&& (63 : Int32)) = (3 : Int32) then (f_L_law_317 N xs L (f_L_law_18 N xs L n) v3 (σ)) else (if ((xs (ix v3)) &&& (63 : Int32)) = (4 : Int32) then (f_L_law_340 N xs L (f_L_law_18 N xs L n) v3 (σ)) else (if ((xs (ix v3)) &&& (63 : Int32)) = (5 : Int32) then (f_L_law_403 N xs L (f_L_law_18 N xs L n) v3 (σ)) else (if ((xs (ix v3)) &&& (63 : Int32)) = (6 : Int32) then (f_L_law_426 N xs L (f_L_law_18 N xs L n) v3 (σ)) else (if ((xs (ix v3)) &&& (63 : Int32)) = (7 : Int32) then (f_L_law_459 N xs L (f_L_law_18 N xs L n) v3 (σ)) else (if ((xs (ix v3)) &&& (63 : Int32)) = (8 : Int32) then (f_L_law_502 N xs L (f_L_law_18 N xs L n) v3 (σ)) else (if ((xs (ix v3)) &&& (63 : Int32)) = (9 : Int32) then (f_L_law_525 N xs L (f_L_law_18 N xs L n) v3 (σ)) else (if ((xs (ix v3)) &&& (63 : Int32)) = (10 : Int32) then (f_L_law_548 N xs L (f_L_law_18 N xs L n) v3 (σ)) else (if ((xs (ix v3)) &&& (63 : Int32)) = (11 : Int32) then (f_L_law_581 N xs L (f_L_law_18 N xs L n) v3 (σ)) else (if ((xs (ix v3)) &&& (63 : Int32)) = (12 : Int32) then (f_L_law_614 N xs L (f_L_law_18 N xs L n) v3 (σ)) else (if ((xs (ix v3)) &&& (63 : Int32)) = (13 : Int32) then (f_L_law_637 N xs L (f_L_law_18 N xs L n) v3 (σ)) else (if ((xs (ix v3)) &&& (63 : Int32)) = (14 : Int32) then (f_L_law_650 N xs L (f_L_law_18 N xs L n) v3 (σ)) else (if ((xs (ix v3)) &&& (63 : Int32)) = (15 : Int32) then (f_L_law_683 N xs L (f_L_law_18 N xs L n) v3 (σ)) else (if ((xs (ix v3)) &&& (63 : Int32)) = (16 : Int32) then (f_L_law_706 N xs L (f_L_law_18 N xs L n) v3 (σ)) else (if ((xs (ix v3)) &&& (63 : Int32)) = (17 : Int32) then (f_L_law_729 N xs L (f_L_law_18 N xs L n) v3 (σ)) else (if ((xs (ix v3)) &&& (63 : Int32)) = (18 : Int32) then (f_L_law_752 N xs L (f_L_law_18 N xs L n) v3 (σ)) else (if ((xs (ix v3)) &&& (63 : Int32)) = (19 : Int32) then (f_L_law_785 N xs L (f_L_law_18 N xs L n) v3 (σ)) else (if ((xs (ix v3)) &&& (63 : Int32)) = (20 : Int32) then (f_L_law_828 N xs L (f_L_law_18 N xs L n) v3 (σ)) else (if ((xs (ix v3)) &&& (63 : Int32)) = (21 : Int32) then (f_L_law_861 N xs L (f_L_law_18 N xs L n) v3 (σ)) else (if ((xs (ix v3)) &&& (63 : Int32)) = (22 : Int32) then (f_L_law_874 N xs L (f_L_law_18 N xs L n) v3 (σ)) else (if ((xs (ix v3)) &&& (63 : Int32)) = (23 : Int32) then (f_L_law_897 N xs L (f_L_law_18 N xs L n) v3 (σ)) else (if ((xs (ix v3)) &&& (63 : Int32)) = (24 : Int32) then (f_L_law_910 N xs L (f_L_law_18 N xs L n) v3 (σ)) else (if ((xs (ix v3)) &&& (63 : Int32)) = (25 : Int32) then (f_L_law_943 N xs L (f_L_law_18 N xs L n) v3 (σ)) else (if ((xs (ix v3)) &&& (63 : Int32)) = (26 : Int32) then (f_L_law_986 N xs L (f_L_law_18 N xs L n) v3 (σ)) else (if ((xs (ix v3)) &&& (63 : Int32)) = (27 : Int32) then (f_L_law_1029 N xs L (f_L_law_18 N xs L n) v3 (σ)) else (if ((xs (ix v3)) &&& (63 : Int32)) = (28 : Int32) then (f_L_law_1052 N xs L (f_L_law_18 N xs L n) v3 (σ)) else (if ((xs (ix v3)) &&& (63 : Int32)) = (29 : Int32) then (f_L_law_1085 N xs L (f_L_law_18 N xs L n) v3 (σ)) else (if ((xs (ix v3)) &&& (63 : Int32)) = (30 : Int32) then (f_L_law_1108 N xs L (f_L_law_18 N xs L n) v3 (σ)) else (if ((xs (ix v3)) &&& (63 : Int32)) = (31 : Int32) then (f_L_law_1131 N xs L (f_L_law_18 N xs L n) v3 (σ)) else (if ((xs (ix v3)) &&& (63 : Int32)) = (32 : Int32) then (f_L_law_1154 N xs L (f_L_law_18 N xs L n) v3 (σ)) else (if ((xs (ix v3)) &&& (63 : Int32)) = (33 : Int32) then (f_L_law_1187 N xs L (f_L_law_18 N xs L n) v3 (σ)) else (if ((xs (ix v3)) &&& (63 : Int32)) = (34 : Int32) then (f_L_law_1200 N xs L (f_L_law_18 N xs L n) v3 (σ)) else (if ((xs (ix v3)) &&& (63 : Int32)) = (35 : Int32) then (f_L_law_1214 N xs L (f_L_law_18 N xs L n) v3 (σ)) else (if ((xs (ix v3)) &&& (63 : Int32)) = (36 : Int32) then (f_L_law_1228 N xs L (f_L_law_18 N xs L n) v3 (σ)) else (if ((xs (ix v3)) &&& (63 : Int32)) = (37 : Int32) then (f_L_law_1251 N xs L (f_L_law_18 N xs L n) v3 (σ)) else (if ((xs (ix v3)) &&& (63 : Int32)) = (38 : Int32) then (f_L_law_1264 N xs L (f_L_law_18 N xs L n) v3 (σ)) else (if ((xs (ix v3)) &&& (63 : Int32)) = (39 : Int32) then (f_L_law_1287 N xs L (f_L_law_18 N xs L n) v3 (σ)) else (f_L_law_1301 N xs L (f_L_law_18 N xs L n) v3 (σ)))))))))))))))))))))))))))))))))))))))))) else none))
    refine jr_iload_n hG 3 dL_law_18 rfl rfl ?_
    refine jr_aload_n hG 0 dL_law_19 rfl rfl ?_
    refine jr_slen hG hX hbl dL_law_20 ?_
    refine jr_bipush (v := (6 : Int32)) hG dL_law_21 (by decide) ?_
    refine jr_isub hG dL_law_23 ?_
    refine jr_icmp_gt hG 1307 dL_law_24 (by decide) (fun _ => ?_) (fun _ => ?_)
    · refine jr_iconst (v := (1 : Int32)) hG dL_law_1307 (by decide) ?_
      exact jl_ret hG hr hk dL_law_1308
    · refine jr_aload_n hG 0 dL_law_27 rfl rfl ?_
      refine jr_iload_n hG 3 dL_law_28 rfl rfl ?_
      refine jr_sld hG hX hbl dL_law_29 ?_
      refine jr_bipush (v := (63 : Int32)) hG dL_law_30 (by decide) ?_
      refine jr_iand hG dL_law_32 ?_
      refine jr_ite (fun hs0 => ?_) (fun hs0 => ?_)
      · refine jr_tabIn (off := 175) hG 208 dL_law_33 (0 : Int32) hs0 (by decide) ?_
        exact w_L_law_208 N hG hX hbl hr hk ih v3 (σ)
      refine jr_ite (fun hs1 => ?_) (fun hs1 => ?_)
      · refine jr_tabIn (off := 208) hG 241 dL_law_33 (1 : Int32) hs1 (by decide) ?_
        exact w_L_law_241 N hG hX hbl hr hk ih v3 (σ)
      refine jr_ite (fun hs2 => ?_) (fun hs2 => ?_)
      · refine jr_tabIn (off := 251) hG 284 dL_law_33 (2 : Int32) hs2 (by decide) ?_
        exact w_L_law_284 N hG hX hbl hr hk ih v3 (σ)
      refine jr_ite (fun hs3 => ?_) (fun hs3 => ?_)
      · refine jr_tabIn (off := 284) hG 317 dL_law_33 (3 : Int32) hs3 (by decide) ?_
        exact w_L_law_317 N hG hX hbl hr hk ih v3 (σ)
      refine jr_ite (fun hs4 => ?_) (fun hs4 => ?_)
      · refine jr_tabIn (off := 307) hG 340 dL_law_33 (4 : Int32) hs4 (by decide) ?_
        exact w_L_law_340 N hG hX hbl hr hk ih v3 (σ)
      refine jr_ite (fun hs5 => ?_) (fun hs5 => ?_)
      · refine jr_tabIn (off := 370) hG 403 dL_law_33 (5 : Int32) hs5 (by decide) ?_
        exact w_L_law_403 N hG hX hbl hr hk ih v3 (σ)
      refine jr_ite (fun hs6 => ?_) (fun hs6 => ?_)
      · refine jr_tabIn (off := 393) hG 426 dL_law_33 (6 : Int32) hs6 (by decide) ?_
        exact w_L_law_426 N hG hX hbl hr hk ih v3 (σ)
      refine jr_ite (fun hs7 => ?_) (fun hs7 => ?_)
      · refine jr_tabIn (off := 426) hG 459 dL_law_33 (7 : Int32) hs7 (by decide) ?_
        exact w_L_law_459 N hG hX hbl hr hk ih v3 (σ)
      refine jr_ite (fun hs8 => ?_) (fun hs8 => ?_)
      · refine jr_tabIn (off := 469) hG 502 dL_law_33 (8 : Int32) hs8 (by decide) ?_
        exact w_L_law_502 N hG hX hbl hr hk ih v3 (σ)
      refine jr_ite (fun hs9 => ?_) (fun hs9 => ?_)
      · refine jr_tabIn (off := 492) hG 525 dL_law_33 (9 : Int32) hs9 (by decide) ?_
        exact w_L_law_525 N hG hX hbl hr hk ih v3 (σ)
      refine jr_ite (fun hs10 => ?_) (fun hs10 => ?_)
      · refine jr_tabIn (off := 515) hG 548 dL_law_33 (10 : Int32) hs10 (by decide) ?_
        exact w_L_law_548 N hG hX hbl hr hk ih v3 (σ)
      refine jr_ite (fun hs11 => ?_) (fun hs11 => ?_)
      · refine jr_tabIn (off := 548) hG 581 dL_law_33 (11 : Int32) hs11 (by decide) ?_
        exact w_L_law_581 N hG hX hbl hr hk ih v3 (σ)
      refine jr_ite (fun hs12 => ?_) (fun hs12 => ?_)
      · refine jr_tabIn (off := 581) hG 614 dL_law_33 (12 : Int32) hs12 (by decide) ?_
        exact w_L_law_614 N hG hX hbl hr hk ih v3 (σ)
      refine jr_ite (fun hs13 => ?_) (fun hs13 => ?_)
      · refine jr_tabIn (off := 604) hG 637 dL_law_33 (13 : Int32) hs13 (by decide) ?_
        exact w_L_law_637 N hG hX hbl hr hk ih v3 (σ)
      refine jr_ite (fun hs14 => ?_) (fun hs14 => ?_)
      · refine jr_tabIn (off := 617) hG 650 dL_law_33 (14 : Int32) hs14 (by decide) ?_
        exact w_L_law_650 N hG hX hbl hr hk ih v3 (σ)
      refine jr_ite (fun hs15 => ?_) (fun hs15 => ?_)
      · refine jr_tabIn (off := 650) hG 683 dL_law_33 (15 : Int32) hs15 (by decide) ?_
        exact w_L_law_683 N hG hX hbl hr hk ih v3 (σ)
      refine jr_ite (fun hs16 => ?_) (fun hs16 => ?_)
      · refine jr_tabIn (off := 673) hG 706 dL_law_33 (16 : Int32) hs16 (by decide) ?_
        exact w_L_law_706 N hG hX hbl hr hk ih v3 (σ)
      refine jr_ite (fun hs17 => ?_) (fun hs17 => ?_)
      · refine jr_tabIn (off := 696) hG 729 dL_law_33 (17 : Int32) hs17 (by decide) ?_
        exact w_L_law_729 N hG hX hbl hr hk ih v3 (σ)
      refine jr_ite (fun hs18 => ?_) (fun hs18 => ?_)
      · refine jr_tabIn (off := 719) hG 752 dL_law_33 (18 : Int32) hs18 (by decide) ?_
        exact w_L_law_752 N hG hX hbl hr hk ih v3 (σ)
      refine jr_ite (fun hs19 => ?_) (fun hs19 => ?_)
      · refine jr_tabIn (off := 752) hG 785 dL_law_33 (19 : Int32) hs19 (by decide) ?_
        exact w_L_law_785 N hG hX hbl hr hk ih v3 (σ)
      refine jr_ite (fun hs20 => ?_) (fun hs20 => ?_)
      · refine jr_tabIn (off := 795) hG 828 dL_law_33 (20 : Int32) hs20 (by decide) ?_
        exact w_L_law_828 N hG hX hbl hr hk ih v3 (σ)
      refine jr_ite (fun hs21 => ?_) (fun hs21 => ?_)
      · refine jr_tabIn (off := 828) hG 861 dL_law_33 (21 : Int32) hs21 (by decide) ?_
        exact w_L_law_861 N hG hX hbl hr hk ih v3 (σ)
      refine jr_ite (fun hs22 => ?_) (fun hs22 => ?_)
      · refine jr_tabIn (off := 841) hG 874 dL_law_33 (22 : Int32) hs22 (by decide) ?_
        exact w_L_law_874 N hG hX hbl hr hk ih v3 (σ)
      refine jr_ite (fun hs23 => ?_) (fun hs23 => ?_)
      · refine jr_tabIn (off := 864) hG 897 dL_law_33 (23 : Int32) hs23 (by decide) ?_
        exact w_L_law_897 N hG hX hbl hr hk ih v3 (σ)
      refine jr_ite (fun hs24 => ?_) (fun hs24 => ?_)
      · refine jr_tabIn (off := 877) hG 910 dL_law_33 (24 : Int32) hs24 (by decide) ?_
        exact w_L_law_910 N hG hX hbl hr hk ih v3 (σ)
      refine jr_ite (fun hs25 => ?_) (fun hs25 => ?_)
      · refine jr_tabIn (off := 910) hG 943 dL_law_33 (25 : Int32) hs25 (by decide) ?_
        exact w_L_law_943 N hG hX hbl hr hk ih v3 (σ)
      refine jr_ite (fun hs26 => ?_) (fun hs26 => ?_)
      · refine jr_tabIn (off := 953) hG 986 dL_law_33 (26 : Int32) hs26 (by decide) ?_
        exact w_L_law_986 N hG hX hbl hr hk ih v3 (σ)
      refine jr_ite (fun hs27 => ?_) (fun hs27 => ?_)
      · refine jr_tabIn (off := 996) hG 1029 dL_law_33 (27 : Int32) hs27 (by decide) ?_
        exact w_L_law_1029 N hG hX hbl hr hk ih v3 (σ)
      refine jr_ite (fun hs28 => ?_) (fun hs28 => ?_)
      · refine jr_tabIn (off := 1019) hG 1052 dL_law_33 (28 : Int32) hs28 (by decide) ?_
        exact w_L_law_1052 N hG hX hbl hr hk ih v3 (σ)
      refine jr_ite (fun hs29 => ?_) (fun hs29 => ?_)
      · refine jr_tabIn (off := 1052) hG 1085 dL_law_33 (29 : Int32) hs29 (by decide) ?_
        exact w_L_law_1085 N hG hX hbl hr hk ih v3 (σ)
      refine jr_ite (fun hs30 => ?_) (fun hs30 => ?_)
      · refine jr_tabIn (off := 1075) hG 1108 dL_law_33 (30 : Int32) hs30 (by decide) ?_
        exact w_L_law_1108 N hG hX hbl hr hk ih v3 (σ)
      refine jr_ite (fun hs31 => ?_) (fun hs31 => ?_)
      · refine jr_tabIn (off := 1098) hG 1131 dL_law_33 (31 : Int32) hs31 (by decide) ?_
        exact w_L_law_1131 N hG hX hbl hr hk ih v3 (σ)
      refine jr_ite (fun hs32 => ?_) (fun hs32 => ?_)
      · refine jr_tabIn (off := 1121) hG 1154 dL_law_33 (32 : Int32) hs32 (by decide) ?_
        exact w_L_law_1154 N hG hX hbl hr hk ih v3 (σ)
      refine jr_ite (fun hs33 => ?_) (fun hs33 => ?_)
      · refine jr_tabIn (off := 1154) hG 1187 dL_law_33 (33 : Int32) hs33 (by decide) ?_
        exact w_L_law_1187 N hG hX hbl hr hk ih v3 (σ)
      refine jr_ite (fun hs34 => ?_) (fun hs34 => ?_)
      · refine jr_tabIn (off := 1167) hG 1200 dL_law_33 (34 : Int32) hs34 (by decide) ?_
        exact w_L_law_1200 N hG hX hbl hr hk ih v3 (σ)
      refine jr_ite (fun hs35 => ?_) (fun hs35 => ?_)
      · refine jr_tabIn (off := 1181) hG 1214 dL_law_33 (35 : Int32) hs35 (by decide) ?_
        exact w_L_law_1214 N hG hX hbl hr hk ih v3 (σ)
      refine jr_ite (fun hs36 => ?_) (fun hs36 => ?_)
      · refine jr_tabIn (off := 1195) hG 1228 dL_law_33 (36 : Int32) hs36 (by decide) ?_
        exact w_L_law_1228 N hG hX hbl hr hk ih v3 (σ)
      refine jr_ite (fun hs37 => ?_) (fun hs37 => ?_)
      · refine jr_tabIn (off := 1218) hG 1251 dL_law_33 (37 : Int32) hs37 (by decide) ?_
        exact w_L_law_1251 N hG hX hbl hr hk ih v3 (σ)
      refine jr_ite (fun hs38 => ?_) (fun hs38 => ?_)
      · refine jr_tabIn (off := 1231) hG 1264 dL_law_33 (38 : Int32) hs38 (by decide) ?_
        exact w_L_law_1264 N hG hX hbl hr hk ih v3 (σ)
      refine jr_ite (fun hs39 => ?_) (fun hs39 => ?_)
      · refine jr_tabIn (off := 1254) hG 1287 dL_law_33 (39 : Int32) hs39 (by decide) ?_
        exact w_L_law_1287 N hG hX hbl hr hk ih v3 (σ)
      refine jr_tabOut hG 1301 dL_law_33 (tab_out0_39 hs0 hs1 hs2 hs3 hs4 hs5 hs6 hs7 hs8 hs9 hs10 hs11 hs12 hs13 hs14 hs15 hs16 hs17 hs18 hs19 hs20 hs21 hs22 hs23 hs24 hs25 hs26 hs27 hs28 hs29 hs30 hs31 hs32 hs33 hs34 hs35 hs36 hs37 hs38 hs39) (by decide) ?_
      exact w_L_law_1301 N hG hX hbl hr hk ih v3 (σ)
/-- the law, from its entry -/
def f_law (N : Nat) (xs : Nat → Int32) (L : Nat) (σ : Mm) : Option Unit := f_L_law_18 N xs L N (0 : Int32) (k_X6_init (sz0 (k_X5_init (sz0 σ 0)) 66))
set_option maxRecDepth 100000 in
set_option maxHeartbeats 4000000 in
theorem w_law {p : Program} {l : Launch} {e : Env} {s : State} {m : MethodId} {below : List Frame} {meth : Method} {c : Code} {E : XE} {b L : Nat} {xs : Nat → Int32} (N : Nat) (hG : GG E 0 4 RL cL_law p s m #[Value.ref b] c) (hX : va_X b L xs s s.heap) (hbl : b < s.heap.size) (hr : meth.sig.returnType = ret) (hk : meth.locks = false) (σ : Mm) : JR E 0 4 p l e room_1 s m #[Value.ref b] below meth c 0 0 (fun _ : Unit => lw_Z below #[Value.ref b] s) 0 [(0, .ref b)] [] σ (f_law N xs L σ) := by
  refine jr_new (cells' := 1) (slots' := 14) hG cl_5 wd_80 wd_81 wd_71 (by decide) (by decide) rfl rfl ⟨by decide, by decide⟩ dL_law_0 ?_
  refine jr_dup hG dL_law_3 rfl ?_
  refine jr_callI (cells' := 66) (slots' := 1045) (b := 0) (τ := k_X5_init (sz0 σ 0)) hG (c_X5_init l E (sz0 σ 0)) ci_X5_init wd_82 rfl wd_83 ⟨rfl, rfl, by decide, by decide⟩ (Nat.le_of_ble_eq_true rfl) dL_law_4 rfl rfl ⟨by decide, by decide⟩ ?_
  refine jr_astore_n (lv' := [(1, .ref (E.B + 0)), (0, .ref b)]) hG dL_law_7 rfl (by decide) rfl ?_
  refine jr_new (cells' := 67) (slots' := 1079) hG cl_6 wd_729 wd_730 wd_77 (by decide) (by decide) rfl rfl ⟨by decide, by decide⟩ dL_law_8 ?_
  refine jr_dup hG dL_law_11 rfl ?_
  refine jr_callI (cells' := 89) (slots' := 28555) (b := 66) (τ := k_X6_init (sz0 (k_X5_init (sz0 σ 0)) 66)) hG (c_X6_init l E (sz0 (k_X5_init (sz0 σ 0)) 66)) ci_X6_init wd_731 rfl wd_732 ⟨rfl, rfl, by decide, by decide⟩ (Nat.le_of_ble_eq_true rfl) dL_law_12 rfl rfl ⟨by decide, by decide⟩ ?_
  refine jr_astore_n (lv' := [(2, .ref (E.B + 66)), (1, .ref (E.B + 0)), (0, .ref b)]) hG dL_law_15 rfl (by decide) rfl ?_
  refine jr_iconst (v := (0 : Int32)) hG dL_law_16 (by decide) ?_
  refine jr_istore_n (lv' := [(3, .int (0 : Int32)), (2, .ref (E.B + 66)), (1, .ref (E.B + 0)), (0, .ref b)]) hG dL_law_17 rfl (by decide) rfl ?_
  refine jr_sub (lv' := [(0, .ref b), (1, .ref (E.B + 0)), (2, .ref (E.B + 66)), (3, .int (0 : Int32))]) [3, 2, 1, 0] rfl ?_
  exact w_L_law_18 N hG hX hbl hr hk N (0 : Int32) (k_X6_init (sz0 (k_X5_init (sz0 σ 0)) 66))
