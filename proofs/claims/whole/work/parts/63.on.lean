/-! ===== PURE: on ===== -/
theorem s_on {N : Nat} (hN : 700 ≤ N) (x : Int32) : Sim (f_X5_on N 0 x) (f_X6_on N 66 x) := by
  intro b σ h
  have hR := h.1
  obtain ⟨n, kd, al, sg, ds, kp, w1, w2, w3⟩ := h.2.2.2.2
  have hn := w1.1
  have hP := pl_cases b
  rcases arg2 x 3 (by omega) with q | ⟨k, hk, rfl⟩
  · refine ⟨-1, σ, σ, b, ?_, ?_, h⟩
    · unfold f_X5_on
      rw [if_pos OKx.1]
      by_cases c : x < 0
      · rw [if_pos c]
      · rw [if_neg c, if_neg (show ¬ x < (3 : Int32) from Int32.not_lt.mpr (q.resolve_left c))]
    · unfold f_X6_on
      rw [if_pos OKx.2.1, bIe (show f_X6_in N x 0 (2 : Int32) σ = some (0, σ) from p_in0 (q.imp id (fun z => le_lt6 (n := 2) (by decide) z)))]
      rfl
  · have kx := w2.2.2.2.2 k hk
    have km := w3.2.2.2.2.2 k hk
    cases hkp : kp k with
    | none =>
      rw [hkp] at kx km
      have kx : gi σ (57 + 3 * k) 2 = -1 := kx
      have km : gi σ 82 k = 0 := km
      refine ⟨-3, fndX σ 1, fndM (fndX σ 1) 1, b, ?_, ?_, rel_find h (by decide)⟩
      · unfold f_X5_on
        rw [if_pos OKx.1, if_neg (nI_pos (by omega)), if_pos (show nI k < (3 : Int32) from nI_lt (b := 3) hk (by decide))]
        simp (disch := omega) only [↓reduceIte, ↓BR hR, OKx, OKk, inbT, ix_nI, kx]
        rw [bIe (p_fnd hR).1]
      · have hR' : Rf b (fndX σ 1) := hR
        have km' : gi (fndX σ 1) 82 k = 0 := by rw [gi_fndX, if_neg (by omega), if_neg (by omega)]; exact km
        unfold f_X6_on
        rw [if_pos OKx.2.1, bIe (show f_X6_in N (nI k) 0 (2 : Int32) (fndX σ 1) = some (1, fndX σ 1) from p_in1 (nI_pos (by omega)) (nI_nlt (a := 2) (b := k) (by omega) (by omega))), if_neg (show ¬ (1 : Int32) = 0 by decide)]
        simp (disch := omega) only [↓reduceIte, ↓BR hR', OKm, inbT, ix_nI, km']
        rw [bIe (p_mts hR').1]
    | some d =>
      rw [hkp] at kx km
      have kx : DX σ (57 + 3 * k) d := kx
      obtain ⟨m1, m2, m3, m4⟩ := km
      obtain ⟨hl, hok⟩ := w1.2.2.2.2.2.2.2 k d hkp
      let σ1 : Mm := tkn σ 4 (57 + 3 * k) d.length
      have f1 : ∀ a j, a < 4 ∨ 6 < a → gi σ1 a j = gi σ a j := fun a j z => tkn_out (by omega)
      have hX1 : PX σ1 (pl b) n kd al sg := PX_congr (fun a j z1 z2 => f1 a j (by omega)) w2.1
      have hD1 : DX σ1 4 d := tkn_DX kx
      obtain ⟨τ, t1, t2, t3, t4⟩ := p_again (N := N) (by omega) (show Rf b σ1 from hR) hn hX1 hD1 hl hok w1.2.2.1
      have hRt : Rf b τ := FDy_Rf t2 (show Rf b σ1 from hR)
      have fx : ∀ a j, a < 4 ∨ 12 < a → gi τ a j = gi σ a j := fun a j z => by rw [t2.2 a j (by omega), f1 a j (by omega)]
      let τ1 : Mm := si τ 66 22 (nI d.length)
      let τ2 : Mm := blt τ1 78 0 14 (fun j => gi τ1 84 (14 * k + j))
      let τ3 : Mm := blt τ2 81 0 (14 * d.length) (fun j => gi τ2 85 (560 * k + j))
      have g1 : ∀ a j, ¬ (a = 66 ∧ j = 22) → gi τ1 a j = gi τ a j := fun a j z => by
        show gi (si τ 66 22 (nI d.length)) a j = _
        rw [gi_si, if_neg z]
      have g2 : ∀ a j, a ≠ 78 → gi τ2 a j = gi τ1 a j := fun a j z => blt_out z
      have g3 : ∀ a j, a ≠ 81 → gi τ3 a j = gi τ2 a j := fun a j z => blt_out z
      have fr : ∀ a j, a ≠ 78 → a ≠ 81 → ¬ (a = 66 ∧ j = 22) → gi τ3 a j = gi τ a j := fun a j z1 z2 z3 => by rw [g3 a j z2, g2 a j z1, g1 a j z3]
      have hRt1 : Rf b τ1 := hRt
      have hRt2 : Rf b τ2 := hRt
      have h22 : gi τ1 66 22 = nI d.length := by
        show gi (si τ 66 22 (nI d.length)) 66 22 = _
        rw [gi_si, if_pos ⟨rfl, rfl⟩]
      have hTx : TWx b τ3 n kd al sg d kp := TWx_new (σ := σ) w2 (fun a j z1 z2 => by rw [fr a j (by omega) (by omega) (by omega), fx a j (by omega)]) (DX_congr (σ := τ) (fun a j z1 z2 => fr a j (by omega) (by omega) (by omega)) (DX_FDy t2 hD1)) (YX_congr (σ := τ) (fun a j z1 z2 => fr a j (by omega) (by omega) (by omega)) t3) (by rw [fr _ _ (by omega) (by omega) (by omega)]; exact t4)
      have hTm : TWm τ3 n kd al sg d kp := by
        obtain ⟨e1, e2, e3, e4, e5, e6⟩ := w3
        have fm : ∀ a j, 66 ≤ a → a ≠ 78 → a ≠ 81 → ¬ (a = 66 ∧ j = 22) → gi τ3 a j = gi σ a j := fun a j z0 z1 z2 z3 => by rw [fr a j z1 z2 z3, fx a j (by omega)]
        refine ⟨by rw [fm _ _ (by omega) (by omega) (by omega) (by omega)]; exact e1, fun p hp => by rw [fm _ _ (by omega) (by omega) (by omega) (by omega), fm _ _ (by omega) (by omega) (by omega) (by omega)]; exact e2 p hp, by rw [g3 _ _ (by omega), g2 _ _ (by omega)]; exact h22, VM_congr hn (fun j hj => ?_) m3, fun i hi => VM_congr hn (fun j hj => ?_) (m4 i hi), fun j hj => ?_⟩
        · rw [g3 _ _ (by omega)]
          show gi (blt τ1 78 0 14 (fun j => gi τ1 84 (14 * k + j))) 78 j = _
          rw [blt_in hj, g1 _ _ (by omega), fx _ _ (by omega)]
        · show gi (blt τ2 81 0 (14 * d.length) (fun j => gi τ2 85 (560 * k + j))) 81 _ = _
          rw [blt_in (by omega), g2 _ _ (by omega), g1 _ _ (by omega), fx _ _ (by omega)]
        · have e7 := e6 j hj
          cases hkj : kp j with
          | none =>
            rw [hkj] at e7
            show gi τ3 82 j = 0
            rw [fm _ _ (by omega) (by omega) (by omega) (by omega)]
            exact e7
          | some c =>
            rw [hkj] at e7
            obtain ⟨q1, q2, q3, q4⟩ := e7
            exact ⟨by rw [fm _ _ (by omega) (by omega) (by omega) (by omega)]; exact q1, by rw [fm _ _ (by omega) (by omega) (by omega) (by omega)]; exact q2, VM_congr hn (fun i _ => fm _ _ (by omega) (by omega) (by omega) (by omega)) q3, fun i hi => VM_congr hn (fun m _ => fm _ _ (by omega) (by omega) (by omega) (by omega)) (q4 i hi)⟩
      refine ⟨nI d.length, τ, τ3, b, ?_, ?_, rel_TW h t2.1 (fun a j z => by rw [fr a j (by omega) (by omega) (by omega), fx a j (by omega)]) ⟨n, kd, al, sg, d, kp, okW_sub w1 hl hok w1.2.2.2.2.2.2.2, hTx, hTm⟩⟩
      · unfold f_X5_on
        rw [if_pos OKx.1, if_neg (nI_pos (by omega)), if_pos (show nI k < (3 : Int32) from nI_lt (b := 3) hk (by decide))]
        simp (disch := omega) only [↓reduceIte, ↓BR hR, OKx, OKk, inbT, ix_nI, kx.1]
        rw [if_neg (by rw [nI_nm1 (by omega)]; exact id), bVe (p_take (by omega) hR (Or.inl rfl) (Or.inr ⟨k, hk, rfl⟩) (by omega) kx.1 hl), bVe t1]
        simp (disch := omega) only [↓reduceIte, ↓BR hRt, OKx]
        rw [t2.2 4 2 (by omega), hD1.1]
      · have e14 : (14 : Int32) = nI 14 := rfl
        have t82 : gi τ 82 k = 1 := by rw [fx _ _ (by omega)]; exact m1
        have t83 : gi τ 83 k = nI d.length := by rw [fx _ _ (by omega)]; exact m2
        unfold f_X6_on
        rw [if_pos OKx.2.1, bIe (show f_X6_in N (nI k) 0 (2 : Int32) τ = some (1, τ) from p_in1 (nI_pos (by omega)) (nI_nlt (a := 2) (b := k) (by omega) (by omega))), if_neg (show ¬ (1 : Int32) = 0 by decide)]
        simp (disch := omega) only [↓reduceIte, ↓BR hRt, OKm, inbT, ix_nI, t82, t83, lt]
        rw [if_neg (show ¬ (1 : Int32) = 0 by decide)]
        have l2 : f_X6_on_69 N N 66 (nI k) 0 τ2 = some (nI d.length, τ3) := by
          have z := loop (fun f i => f_X6_on_69 N f 66 (nI k) (nI i) (blt τ2 81 0 i (fun j => gi τ2 85 (560 * k + j)))) (some (nI d.length, τ3)) (14 * d.length) ?_ ?_ N 0 (by omega) (by omega)
          · rw [blt_0] at z
            exact z
          · intro f
            unfold f_X6_on_69
            rw [blt_out (by omega), g2 _ _ (by omega), h22, e14, pk_mul, if_pos (nI_le (Nat.le_refl _) (by omega))]
          · intro f i hi A hA
            unfold f_X6_on_69
            have g85 : gi (blt τ2 81 0 i (fun j => gi τ2 85 (560 * k + j))) 85 (560 * k + i) = gi τ2 85 (560 * k + i) := blt_out (by omega)
            rw [hA, blt_out (by omega), g2 _ _ (by omega), h22, e14, pk_mul, if_neg (nI_ge hi (by omega)), show (560 : Int32) = nI 560 from rfl]
            simp (disch := omega) only [↓reduceIte, ↓BR (Rf_blt hRt2), OKm, pk_mul, nI_add, inbT, ix_nI, lt, nI_1, g85]
            rw [show gi τ2 85 (560 * k + i) = (fun j => gi τ2 85 (560 * k + j)) i from rfl, blt_s0]
        have z := loop (fun f i => f_X6_on_38 N f 66 (nI k) (nI i) (blt τ1 78 0 i (fun j => gi τ1 84 (14 * k + j)))) (some (nI d.length, τ3)) 14 ?_ ?_ N 0 (by omega) (by omega)
        · rw [blt_0] at z
          exact z
        · intro f
          unfold f_X6_on_38
          rw [e14, if_pos (nI_le (Nat.le_refl 14) (by decide))]
          exact l2
        · intro f i hi A hA
          unfold f_X6_on_38
          have g84 : gi (blt τ1 78 0 i (fun j => gi τ1 84 (14 * k + j))) 84 (14 * k + i) = gi τ1 84 (14 * k + i) := blt_out (by omega)
          rw [hA, e14, if_neg (nI_ge hi (by omega))]
          simp (disch := omega) only [↓reduceIte, ↓BR (Rf_blt hRt1), OKm, pk_mul, nI_add, inbT, ix_nI, lt, nI_1, g84]
          rw [show gi τ1 84 (14 * k + i) = (fun j => gi τ1 84 (14 * k + j)) i from rfl, blt_s0]
