/-! ===== PURE: a deed done: noon, sign ===== -/
theorem p_act {N n : Nat} {b : Bool} {σ : Mm} {kd al sg : Nat → Nat} {ds : Dd} {w : Nat × Nat} (hN : 100 ≤ N) (hR : Rf b σ) (hn : n ≤ 6) (hX : PX σ (pl b) n kd al sg) (hD : DX σ 4 ds) (hY : YX σ 7 n kd (rep al sg ds)) (hm : gi σ 7 6 = nI (rep al sg ds).2.2.1) (hl : ds.length < 40) (hok : ∀ v ∈ ds, okD n v) (hw : okD n w) (hsg : ∀ p, p < n → sg p < 2 ^ n) :
    ∃ τ, f_X5_act N 0 (nI w.1) (nI w.2) σ = some τ ∧ τ.2 = σ.2 ∧ (∀ a k, a < 4 ∨ 12 < a → gi τ a k = gi σ a k) ∧ DX τ 4 (ds ++ [w]) ∧ YX τ 7 n kd (rep al sg (ds ++ [w])) ∧ gi τ 7 6 = nI (rep al sg (ds ++ [w])).2.2.1 := by
  have hP := pl_cases b
  let σ1 : Mm := si (si (si σ 5 ds.length (nI w.1)) 6 ds.length (nI w.2)) 4 2 (nI (ds.length + 1))
  have f1 : ∀ a k, a < 4 ∨ 6 < a → gi σ1 a k = gi σ a k := fun a k q => by
    show gi (si (si (si σ 5 ds.length (nI w.1)) 6 ds.length (nI w.2)) 4 2 (nI (ds.length + 1))) a k = _
    rw [gi_si, if_neg (by omega), gi_si, if_neg (by omega), gi_si, if_neg (by omega)]
  have hadd : f_X1_add N 4 (nI w.1) (nI w.2) σ = some σ1 := by
    unfold f_X1_add
    rw [if_pos OKx.2.2.1, hD.1, if_pos (show nI ds.length < (40 : Int32) from nI_lt (b := 40) hl (by decide))]
    simp (disch := omega) only [↓reduceIte, ↓BR hR, ↓BRs, OKx, inbT, ix_nI, lt]
    have e1 : gi (si σ 5 ds.length (nI w.1)) 4 2 = nI ds.length := by rw [gi_si, if_neg (by omega)]; exact hD.1
    rw [e1, if_pos (inbT hl (by omega)), ix_nI (by omega)]
    rw [show gi (si (si σ 5 ds.length (nI w.1)) 6 ds.length (nI w.2)) 4 2 = nI ds.length by rw [gi_si, if_neg (by omega), e1], nI_1]
  have hR1 : Rf b σ1 := hR
  have hX1 : PX σ1 (pl b) n kd al sg := PX_congr (fun a k q1 q2 => f1 a k (by omega)) hX
  have hD1 : DX σ1 4 (ds ++ [w]) := by
    refine ⟨?_, fun i v hv => ?_⟩
    · show gi (si (si (si σ 5 ds.length (nI w.1)) 6 ds.length (nI w.2)) 4 2 (nI (ds.length + 1))) 4 2 = _
      rw [gi_si, if_pos ⟨rfl, rfl⟩, List.length_append]
      rfl
    · show gi (si (si (si σ 5 ds.length (nI w.1)) 6 ds.length (nI w.2)) 4 2 (nI (ds.length + 1))) 5 i = _ ∧ gi (si (si (si σ 5 ds.length (nI w.1)) 6 ds.length (nI w.2)) 4 2 (nI (ds.length + 1))) 6 i = _
      rw [List.getElem?_append] at hv
      by_cases c : i < ds.length
      · rw [if_pos c] at hv
        rw [gi_si, if_neg (by omega), gi_si, if_neg (by omega), gi_si, if_neg (by omega), gi_si, if_neg (by omega), gi_si, if_neg (by omega), gi_si, if_neg (by omega)]
        exact hD.2 i v hv
      · rw [if_neg c] at hv
        have e : i = ds.length := by
          by_cases c2 : i - ds.length = 0
          · omega
          · rw [List.getElem?_eq_none (by simp; omega)] at hv
            exact absurd hv (by simp)
        subst e
        rw [Nat.sub_self] at hv
        have e2 : w = v := by simpa using hv
        subst e2
        rw [gi_si, if_neg (by omega), gi_si, if_neg (by omega), gi_si, if_pos ⟨rfl, rfl⟩, gi_si, if_neg (by omega), gi_si, if_pos ⟨rfl, rfl⟩]
        exact ⟨rfl, rfl⟩
  have ok := okDy_rep (al := al) hsg ds hok
  have hRD : RD σ1 n (rep al sg ds) := ⟨by rw [f1 _ _ (by omega)]; exact hY.1, by rw [f1 _ _ (by omega)]; exact hY.2.1, by rw [f1 _ _ (by omega)]; exact hm, fun p hp => by rw [f1 _ _ (by omega), f1 _ _ (by omega)]; exact hY.2.2.1 p hp⟩
  obtain ⟨τ, t1, t2, t3⟩ := p_live (N := N) (by omega) hR1 hP hn hX1 hw (by have := ok.2.2; omega) hRD
  rw [← rep_snoc] at t3
  have ok2 := okDy_rep (al := al) hsg (ds ++ [w]) (fun v hv => by
    rcases List.mem_append.mp hv with q | q
    · exact hok v q
    · rw [List.mem_singleton.mp q]; exact hw)
  obtain ⟨ρ, r1, r2, r3, r4⟩ := p_set7 (N := N) (by omega) (FDy_Rf t2 hR1) hP hn (PX_FDy hP t2 hX1) t3 ok2.1 ok2.2.1
  refine ⟨ρ, ?_, r2.1.trans t2.1, fun a k q => ?_, DX_FDy r2 (DX_FDy t2 hD1), r3, r4⟩
  · unfold f_X5_act
    rw [if_pos OKx.1]
    simp (disch := omega) only [↓reduceIte, ↓BR hR, OKx]
    rw [bVe hadd]
    simp (disch := omega) only [↓reduceIte, ↓BR hR1, OKx]
    change (if okO 2 (pl b) = true then bV (f_X0_live N 7 (nI w.1) (nI w.2) (pl b) σ1) _ else none) = _
    have hRt := FDy_Rf t2 hR1
    rw [if_pos (ok_p hP).1, bVe t1]
    simp (disch := omega) only [↓reduceIte, ↓BR hRt, OKx]
    change (if okO 2 (pl b) = true then bV (f_X0_settle N 7 (pl b) τ) _ else none) = _
    rw [if_pos (ok_p hP).1, bVe r1]
  · rw [r2.2 a k (by omega), t2.2 a k (by omega), f1 a k (by omega)]
theorem p_rem {N m : Nat} {b : Bool} {σ : Mm} (hN : 20 ≤ N) (hR : Rf b σ) (hm : gi σ 66 22 = nI m) (hl : m < 40) : f_X6_remember N 66 σ = some (si (blt σ 81 (14 * m) 14 (gi σ 78)) 66 22 (nI (m + 1))) := by
  unfold f_X6_remember
  rw [if_pos OKx.2.1]
  have z := loop (fun f i => f_X6_remember_2 N f 66 (nI i) (blt σ 81 (14 * m) i (gi σ 78))) (some (si (blt σ 81 (14 * m) 14 (gi σ 78)) 66 22 (nI (m + 1)))) 14 ?_ ?_ N 0 (by omega) (by omega)
  · rw [blt_0] at z
    exact z
  · intro f
    unfold f_X6_remember_2
    rw [show (14 : Int32) = nI 14 from rfl, if_pos (nI_le (Nat.le_refl 14) (by decide)), blt_out (by omega), hm, nI_1]
    rfl
  · intro f i hi A hA
    have g1 : gi (blt σ 81 (14 * m) i (gi σ 78)) 66 22 = nI m := by rw [blt_out (by omega)]; exact hm
    have g2 : gi (blt σ 81 (14 * m) i (gi σ 78)) 78 i = gi σ 78 i := blt_out (by omega)
    unfold f_X6_remember_2
    rw [hA, show (14 : Int32) = nI 14 from rfl, if_neg (nI_ge hi (by omega))]
    simp (disch := omega) only [↓reduceIte, ↓BR (Rf_blt hR), OKm, g1, g2, pk_mul, nI_add, inbT, ix_nI, lt, nI_1]
    rw [blt_s]
theorem okW_add {n : Nat} {kd al sg : Nat → Nat} {ds : Dd} {kp : Nat → Option Dd} {w : Nat × Nat} (h : okW n kd al sg ds kp) (hl : ds.length < 40) (hw : okD n w) : okW n kd al sg (ds ++ [w]) kp := by
  obtain ⟨h1, h2, h3, h4, h5, h6, h7, h8⟩ := h
  refine ⟨h1, h2, h3, h4, h5, by rw [List.length_append]; simp; omega, fun v hv => ?_, h8⟩
  rcases List.mem_append.mp hv with q | q
  · exact h7 v q
  · rw [List.mem_singleton.mp q]; exact hw
theorem TWm_add {σ τ : Mm} {n : Nat} {kd al sg : Nat → Nat} {ds : Dd} {kp : Nat → Option Dd} {w : Nat × Nat} (hn : n ≤ 6) (h : TWm σ n kd al sg ds kp) (f : ∀ a k, a = 73 ∨ a = 74 ∨ (82 ≤ a ∧ a ≤ 85) ∨ (a = 66 ∧ k = 10) → gi τ a k = gi σ a k) (hc : gi τ 66 22 = nI (ds.length + 1)) (h81 : ∀ k, k < 14 → gi τ 81 (14 * ds.length + k) = gi σ 78 k) (h82 : ∀ j, j < 14 * ds.length → gi τ 81 j = gi σ 81 j) (hv : VM n (rep al sg (ds ++ [w])) (gi τ 78)) : TWm τ n kd al sg (ds ++ [w]) kp := by
  obtain ⟨h1, h2, h3, h4, h5, h6⟩ := h
  have hlen : (ds ++ [w]).length = ds.length + 1 := by simp
  refine ⟨by rw [f _ _ (by omega)]; exact h1, fun p hp => by rw [f _ _ (by omega), f _ _ (by omega)]; exact h2 p hp, by rw [hlen]; exact hc, hv, fun i hi => ?_, fun k hk => ?_⟩
  · rw [hlen] at hi
    by_cases c : i = ds.length
    · subst c
      rw [List.take_append_of_le_length (Nat.le_refl _), List.take_length]
      exact VM_congr hn (fun k hk => h81 k hk) h4
    · rw [List.take_append_of_le_length (by omega)]
      exact VM_congr hn (fun k hk => h82 _ (by omega)) (h5 i (by omega))
  · have h7 := h6 k hk
    cases hkp : kp k with
    | none =>
      rw [hkp] at h7
      show gi τ 82 k = 0
      rw [f 82 k (by omega)]
      exact h7
    | some d =>
      rw [hkp] at h7
      obtain ⟨g1, g2, g3, g4⟩ := h7
      exact ⟨by rw [f 82 k (by omega)]; exact g1, by rw [f 83 k (by omega)]; exact g2, VM_congr hn (fun j _ => f 84 _ (by omega)) g3, fun i hi => VM_congr hn (fun j _ => f 85 _ (by omega)) (g4 i hi)⟩
theorem TWx_new {b : Bool} {σ τ : Mm} {n : Nat} {kd al sg : Nat → Nat} {ds dt : Dd} {kp : Nat → Option Dd} (h : TWx b σ n kd al sg ds kp) (f : ∀ a k, 12 < a → a ≤ 65 → gi τ a k = gi σ a k) (hD : DX τ 4 dt) (hY : YX τ 7 n kd (rep al sg dt)) (hm : gi τ 7 6 = nI (rep al sg dt).2.2.1) : TWx b τ n kd al sg dt kp := by
  have hp := pl_cases b
  refine ⟨PX_congr (fun a k q1 q2 => f a k (by omega) (by omega)) h.1, hY, hm, hD, fun k hk => ?_⟩
  have h6 := h.2.2.2.2 k hk
  cases hkp : kp k with
  | none =>
    rw [hkp] at h6
    show gi τ (57 + 3 * k) 2 = -1
    rw [f _ 2 (by omega) (by omega)]
    exact h6
  | some d =>
    rw [hkp] at h6
    exact DX_congr (fun a j q1 q2 => f a j (by omega) (by omega)) h6
theorem rel_TW {b : Bool} {σ τ : Mm} (h : Rel b σ) (e : τ.2 = σ.2) (f : ∀ a k, a = 0 ∨ (36 ≤ a ∧ a ≤ 56) ∨ (67 ≤ a ∧ a ≤ 69) ∨ a = 71 ∨ a = 72 ∨ (a = 66 ∧ k < 10) → gi τ a k = gi σ a k) (hw : TW b τ) : Rel b τ := by
  refine ⟨Rf_eq (by rw [e]) h.1, RelC_congr (σ := σ) (fun a k q => f a k (by unfold inC at q; omega)) (fun k => ⟨by unfold gl; rw [e], by unfold gl; rw [e]⟩) h.2.1, RelR_congr (σ := σ) (fun a k q => f a k (by unfold inR at q; omega)) h.2.2.1, RelT_congr (σ := σ) (fun a k q => f a k (by unfold inT at q; omega)) h.2.2.2.1, hw⟩
theorem kn_sub {n : Nat} {kd dl : Nat → Nat} {p q : Nat} (h : (kn n kd dl false p).testBit q = true) : (kn n kd dl true p).testBit q = true := by
  rw [kn_alt] at h ⊢
  simp only [Nat.testBit_or, Bool.or_eq_true, Bool.false_and, Bool.true_and, Bool.false_eq_true, ↓reduceIte, Nat.zero_testBit, or_false] at h ⊢
  rcases h with (h | h) | h
  · exact Or.inl (Or.inl (Or.inl h))
  · exact Or.inl (Or.inr h)
  · exact Or.inr h
theorem kn_gain {n : Nat} {kd dl : Nat → Nat} {p : Nat} (hd : ∀ q, q < n → dl q < 4) (hp : p < n) : pc 6 (kn n kd dl false p) ≤ pc 6 (kn n kd dl true p) ∧ (kn n kd dl true p ≠ kn n kd dl false p → pc 6 (kn n kd dl false p) < pc 6 (kn n kd dl true p)) := by
  have k1 := kn_lt (kd := kd) (no := true) hd hp
  have k2 := kn_lt (kd := kd) (no := false) hd hp
  refine ⟨fb_ct_sub (fun q _ h => kn_sub h), fun h => pc_lt (fun q h => kn_sub h) (by omega) (by omega) (fun e => h e.symm)⟩
theorem s_noon {N : Nat} (hN : 100 ≤ N) : Sim (f_X5_noon N 0) (f_X6_noon N 66) := by
  intro b σ h
  have hR := h.1
  obtain ⟨n, kd, al, sg, ds, kp, w1, w2, w3⟩ := h.2.2.2.2
  have hs := w2.1.1
  have hn := w1.1
  have hP := pl_cases b
  have hMS := TW_MS (b := b) w1 w3
  have hdy := okDy_rep (al := al) (n := n) w1.2.2.1 ds w1.2.2.2.2.2.2.1
  have z13 : gi σ 78 13 = (if (rep al sg ds).2.2.2 then 1 else 0) := w3.2.2.2.1.2.2
  have c0 : n = 0 ∨ 0 < n := by omega
  have bx : f_X5_noon N 0 σ = if n = 0 then some (-4, σ) else if (rep al sg ds).2.2.2 then some (-4, σ) else if ds.length < 40 then bV (f_X5_act N 0 (1) (0) σ) (fun t4 => f_X5_noon_48 N N 0 (0) (0) t4) else some (-2, σ) := by
    unfold f_X5_noon f_X5_noon_20
    rw [if_pos OKx.1, BRpl hR, if_pos (ok_p hP).1, hs]
    simp (disch := omega) only [↓reduceIte, ↓BR hR, OKx]
    rw [w2.2.1.2.1, w2.2.2.2.1.1, if10]
    rcases c0 with rfl | c0
    · rfl
    · rw [if_neg (nI_ne0 c0 (by omega)), if_neg (show ¬ n = 0 by omega)]
      have hl := w1.2.2.2.2.2.1
      by_cases c : ds.length < 40
      · rw [if_pos (show nI ds.length < (40 : Int32) from nI_lt (b := 40) c (by decide)), if_pos c]
      · rw [if_neg (show ¬ nI ds.length < (40 : Int32) from nI_nlt (b := 40) (by omega) (by omega)), if_neg c]
  have bm : ∀ τ, Rf b τ → gi τ 66 10 = nI n → gi τ 78 13 = (if (rep al sg ds).2.2.2 then 1 else 0) → gi τ 66 22 = nI ds.length → f_X6_noon N 66 τ = if n = 0 then some (-4, τ) else if (rep al sg ds).2.2.2 then some (-4, τ) else if ds.length < 40 then bV (f_X6_remember N 66 τ) (fun t2 => f_X6_noon_41 N N 66 (0) (0) t2) else some (-2, τ) := by
    intro τ hRt h10 h13 h22
    unfold f_X6_noon f_X6_noon_18
    rw [if_pos OKx.2.1, h10, show (13 : Int32) = nI 13 from rfl]
    simp (disch := omega) only [↓reduceIte, ↓BR hRt, OKm, inbT, ix_nI, h13, h22]
    rcases c0 with rfl | c0
    · rfl
    · rw [if_neg (nI_ne0 c0 (by omega)), if_neg (show ¬ n = 0 by omega)]
      cases (rep al sg ds).2.2.2 with
      | true => rfl
      | false =>
        have hl := w1.2.2.2.2.2.1
        by_cases c : ds.length < 40
        · rw [if_neg (show ¬ (if false = true then (1 : Int32) else 0) = 1 by decide), if_neg (show ¬ nI ds.length = (40 : Int32) from fun q => by have := (nI_eq (a := ds.length) (b := 40) (by omega) (by omega)).mp q; omega), if_neg (show ¬ false = true by decide), if_pos c]
        · rw [if_neg (show ¬ (if false = true then (1 : Int32) else 0) = 1 by decide), if_pos (show nI ds.length = (40 : Int32) by rw [show ds.length = 40 by omega]; rfl), if_neg (show ¬ false = true by decide), if_neg c]
  by_cases a1 : n = 0
  · refine ⟨-4, σ, σ, b, ?_, ?_, h⟩
    · rw [bx, if_pos a1]
    · rw [bm σ hR w3.1 z13 w3.2.2.1, if_pos a1]
  · rw [if_neg a1] at bx
    cases hno : (rep al sg ds).2.2.2 with
    | true =>
      refine ⟨-4, σ, σ, b, ?_, ?_, h⟩
      · rw [bx, hno]; rfl
      · rw [bm σ hR w3.1 z13 w3.2.2.1, if_neg a1, hno]; rfl
    | false =>
      by_cases a3 : ds.length < 40
      · have hw : okD n (1, 0) := ⟨by decide, fun q => absurd q (by decide), fun _ => rfl, fun q => absurd q (by decide)⟩
        obtain ⟨τ, t1, t2, t3, t4, t5, t6⟩ := p_act (N := N) (w := (1, 0)) hN hR hn w2.1 w2.2.2.2.1 w2.2.1 w2.2.2.1 a3 w1.2.2.2.2.2.2.1 hw w1.2.2.1
        have hRt : Rf b τ := Rf_eq (by rw [t2]) hR
        have hrep : rep al sg (ds ++ [(1, 0)]) = ((rep al sg ds).1, (rep al sg ds).2.1, (rep al sg ds).2.2.1, true) := by rw [rep_snoc]; rfl
        let τ1 : Mm := si (blt τ 81 (14 * ds.length) 14 (gi τ 78)) 66 22 (nI (ds.length + 1))
        let τ2 : Mm := si τ1 78 13 1
        have f1 : ∀ a k, a ≠ 81 → ¬ (a = 66 ∧ k = 22) → gi τ1 a k = gi τ a k := fun a k q1 q2 => by
          show gi (si (blt τ 81 (14 * ds.length) 14 (gi τ 78)) 66 22 (nI (ds.length + 1))) a k = _
          rw [gi_si, if_neg q2, blt_out q1]
        have f2 : ∀ a k, ¬ (a = 78 ∧ k = 13) → gi τ2 a k = gi τ1 a k := fun a k q => by
          show gi (si τ1 78 13 1) a k = _
          rw [gi_si, if_neg q]
        have hPt : PM τ (pl b) n kd := PX_PM hP hn (PX_congr (fun a k q1 q2 => t3 a k (by omega)) w2.1)
        have hd : ∀ q, q < n → gi τ 8 q = nI ((rep al sg ds).1 q) ∧ (rep al sg ds).1 q < 4 := fun q hq => ⟨by have := (t5.2.2.1 q hq).1; rw [hrep] at this; exact this, hdy.1 q hq⟩
        have hMS1 : MS τ1 78 n kd (rep al sg ds) := MS_congr (σ := σ) (fun a k q => by rw [f1 a k (by omega) (by omega), t3 a k (by omega)]) hMS
        have hRt1 : Rf b τ1 := hRt
        have hTx : TWx b τ2 n kd al sg (ds ++ [(1, 0)]) kp := TWx_new (σ := σ) w2 (fun a k q1 q2 => by rw [f2 a k (by omega), f1 a k (by omega) (by omega), t3 a k (by omega)]) (DX_congr (σ := τ) (fun a k q1 q2 => by rw [f2 a k (by omega), f1 a k (by omega) (by omega)]) t4) (YX_congr (σ := τ) (fun a k q1 q2 => by rw [f2 a k (by omega), f1 a k (by omega) (by omega)]) t5) (by rw [f2 _ _ (by omega), f1 _ _ (by omega) (by omega)]; exact t6)
        have hTm : TWm τ2 n kd al sg (ds ++ [(1, 0)]) kp := by
          refine TWm_add hn w3 (fun a k q => by rw [f2 a k (by omega), f1 a k (by omega) (by omega), t3 a k (by omega)]) ?_ (fun k hk => ?_) (fun j hj => ?_) ?_
          · rw [f2 _ _ (by omega)]
            show gi (si (blt τ 81 (14 * ds.length) 14 (gi τ 78)) 66 22 (nI (ds.length + 1))) 66 22 = _
            rw [gi_si, if_pos ⟨rfl, rfl⟩]
          · rw [f2 _ _ (by omega)]
            show gi (si (blt τ 81 (14 * ds.length) 14 (gi τ 78)) 66 22 (nI (ds.length + 1))) 81 _ = _
            rw [gi_si, if_neg (by omega), gi_blt, if_pos (by omega), show 14 * ds.length + k - 14 * ds.length = k by omega, t3 _ _ (by omega)]
          · rw [f2 _ _ (by omega)]
            show gi (si (blt τ 81 (14 * ds.length) 14 (gi τ 78)) 66 22 (nI (ds.length + 1))) 81 _ = _
            rw [gi_si, if_neg (by omega), gi_blt, if_neg (by omega), t3 _ _ (by omega)]
          · rw [hrep]
            obtain ⟨v1, v2, v3⟩ := w3.2.2.2.1
            refine ⟨fun p hp => ?_, ?_, ?_⟩
            · rw [f2 _ _ (by omega), f2 _ _ (by omega), f1 _ _ (by omega) (by omega), f1 _ _ (by omega) (by omega), t3 _ _ (by omega), t3 _ _ (by omega)]
              exact v1 p hp
            · rw [f2 _ _ (by omega), f1 _ _ (by omega) (by omega), t3 _ _ (by omega)]
              exact v2
            · show gi (si τ1 78 13 1) 78 13 = _
              rw [gi_si, if_pos ⟨rfl, rfl⟩]
              rfl
        let F : Nat → Bool := fun p => decide (kn n kd (rep al sg ds).1 true p ≠ kn n kd (rep al sg ds).1 false p)
        refine ⟨nI (fb_ct F n), τ, τ2, b, ?_, ?_, rel_TW h t2 (fun a k q => by rw [f2 a k (by omega), f1 a k (by omega) (by omega), t3 a k (by omega)]) ⟨n, kd, al, sg, _, kp, okW_add w1 a3 hw, hTx, hTm⟩⟩
        · rw [bx, hno, if_neg (by decide), if_pos a3, bVe (show f_X5_act N 0 1 0 σ = some τ from t1)]
          refine loop (fun f i => f_X5_noon_48 N f 0 (nI (fb_ct F i)) (nI i) τ) _ n ?_ ?_ N 0 (by omega) (by omega)
          · intro f
            unfold f_X5_noon_48
            rw [BRpl hRt, if_pos (ok_p hP).1, hPt.2.2.1, if_pos (nI_le (Nat.le_refl n) (by omega))]
          · intro f i hi A hA
            unfold f_X5_noon_48 f_X5_noon_80
            rw [hA, BRpl hRt, if_pos (ok_p hP).1, hPt.2.2.1, if_neg (nI_ge hi (by omega)), BRpl hRt, if_pos (ok_p hP).1]
            simp (disch := omega) only [↓reduceIte, ↓BR hRt, OKx]
            obtain ⟨g1, g2⟩ := kn_gain (kd := kd) hdy.1 hi
            have g3 : pc 6 (kn n kd (rep al sg ds).1 true i) ≤ 6 := pc6_le
            rw [bIe (p_gain (N := N) hRt hPt ⟨by decide, by decide⟩ hd hi), nI_subT g1, fb_ct_succ, nI_1]
            by_cases c : kn n kd (rep al sg ds).1 true i = kn n kd (rep al sg ds).1 false i
            · rw [if_pos (by rw [c, Nat.sub_self]; decide), if_neg (by simp [F, c])]
              rfl
            · have g4 := g2 c
              rw [if_neg (show ¬ nI _ ≤ (0 : Int32) from nI_ge (a := 0) (by omega) (by omega)), if_pos (by simp [F, c]), nI_1]
        · rw [bm τ hRt (by rw [t3 _ _ (by omega)]; exact w3.1) (by rw [t3 _ _ (by omega)]; exact z13) (by rw [t3 _ _ (by omega)]; exact w3.2.2.1), if_neg a1, hno, if_neg (by decide), if_pos a3, bVe (p_rem (by omega) hRt (by rw [t3 _ _ (by omega)]; exact w3.2.2.1) a3)]
          refine loop (fun f i => f_X6_noon_41 N f 66 (nI (fb_ct F i)) (nI i) τ1) _ n ?_ ?_ N 0 (by omega) (by omega)
          · intro f
            unfold f_X6_noon_41
            rw [hMS1.1, if_pos (nI_le (Nat.le_refl n) (by omega)), show (13 : Int32) = nI 13 from rfl]
            simp (disch := omega) only [↓reduceIte, ↓BR hRt1, OKm, inbT, ix_nI, lt]
            rfl
          · intro f i hi A hA
            unfold f_X6_noon_41 f_X6_noon_78
            rw [hA, hMS1.1, if_neg (nI_ge hi (by omega))]
            simp (disch := omega) only [↓reduceIte, ↓BR hRt1, OKm]
            rw [bIe (show f_X6_knows N 66 78 (nI i) (1 : Int32) τ1 = _ from pm_knows (N := N) hRt1 hMS1 hi true)]
            simp (disch := omega) only [↓reduceIte, ↓BR hRt1, OKm]
            rw [bIe (show f_X6_knows N 66 78 (nI i) (0 : Int32) τ1 = _ from pm_knows (N := N) hRt1 hMS1 hi false), fb_ct_succ]
            simp only [lt, nI_1]
            have k1 := kn_lt (kd := kd) (no := true) hdy.1 hi
            have k2 := kn_lt (kd := kd) (no := false) hdy.1 hi
            by_cases c : kn n kd (rep al sg ds).1 true i = kn n kd (rep al sg ds).1 false i
            · rw [if_pos (by rw [c]), if_neg (by simp [F, c]), nI_z]
              rfl
            · rw [if_neg (fun q => c ((nI_eq (by omega) (by omega)).mp q)), if_pos (by simp [F, c])]
      · refine ⟨-2, σ, σ, b, ?_, ?_, h⟩
        · rw [bx, hno, if_neg (by decide), if_neg a3]
        · rw [bm σ hR w3.1 z13 w3.2.2.1, if_neg a1, hno, if_neg (by decide), if_neg a3]
