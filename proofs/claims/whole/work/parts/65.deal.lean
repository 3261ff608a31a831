/-! ===== PURE: deal ===== -/
/-- the reference's cells have stayed -/
def Em (b : Bool) (σ τ : Mm) : Prop := (∀ a k, 66 ≤ a → gi τ a k = gi σ a k) ∧ Rf b τ
theorem Em_refl {b : Bool} {σ : Mm} (h : Rf b σ) : Em b σ σ := ⟨fun _ _ _ => rfl, h⟩
theorem Em_fnd {b : Bool} {σ : Mm} {f : Nat} (h : Rf b σ) : Em b σ (fndX σ f) := ⟨fun a k q => by rw [gi_fndX, if_neg (by omega), if_neg (by omega)], h⟩
theorem okW_al {n : Nat} {kd al sg : Nat → Nat} {ds : Dd} {kp : Nat → Option Dd} (h : okW n kd al sg ds kp) : okAl n al := ⟨h.2.2.2.1, h.2.2.2.2.1⟩
theorem PX_l {σ : Mm} {P n : Nat} {kd al sg : Nat → Nat} (h : PX σ P n kd al sg) (ha : okAl n al) : ∀ p, p < n → gi σ (P + 6) p = nI (ldr al p) ∧ ldr al p ≤ p := fun p hp => ⟨(h.2.2.2 p hp).2.2.2.1, (ldr_spec (ha.1 p hp).2).2.2⟩
theorem TWm_a {σ : Mm} {n : Nat} {kd al sg : Nat → Nat} {ds : Dd} {kp : Nat → Option Dd} (h : TWm σ n kd al sg ds kp) (ha : okAl n al) : ∀ p, p < n → gi σ 74 p = nI (al p) ∧ al p < 2 ^ n := fun p hp => ⟨(h.2.1 p hp).2, (ha.1 p hp).1⟩
theorem s_deal {N : Nat} (hN : 100 ≤ N) (x : Int32) : Sim (f_X5_deal N 0 x) (f_X6_deal N 66 x) := by
  intro b σ h
  have hR := h.1
  obtain ⟨n, kd, al, sg, ds, kp, w1, w2, w3⟩ := h.2.2.2.2
  have hs := w2.1.1
  have hn := w1.1
  have hP := pl_cases b
  have hl := w1.2.2.2.2.2.1
  have hal := okW_al w1
  rcases arg2 x 6 (by omega) with q | ⟨r, hr, rfl⟩
  · refine ⟨-1, σ, σ, b, ?_, ?_, h⟩
    · unfold f_X5_deal
      rw [if_pos OKx.1, bIe (p_isRowX (N := N) q)]
      rfl
    · unfold f_X6_deal
      rw [if_pos OKx.2.1, bIe (p_isRowM (N := N) q)]
      rfl
  · by_cases a1 : n = 0
    · refine ⟨-4, σ, σ, b, ?_, ?_, h⟩
      · unfold f_X5_deal
        rw [if_pos OKx.1, bIe (p_isRowXy (N := N) hr), if_neg (show ¬ (1 : Int32) = 0 by decide), BRpl hR, if_pos (ok_p hP).1, hs, a1]
        rfl
      · unfold f_X6_deal
        rw [if_pos OKx.2.1, bIe (p_isRowMy (N := N) hr), if_neg (show ¬ (1 : Int32) = 0 by decide), w3.1, a1]
        rfl
    · rcases rel_RV h hr with ⟨e1, e2⟩ | ⟨m, g, hv⟩
      · refine ⟨-3, fndX σ 1, fndM (fndX σ 1) 1, b, ?_, ?_, rel_find h (by decide)⟩
        · unfold f_X5_deal
          rw [if_pos OKx.1, bIe (p_isRowXy (N := N) hr), if_neg (show ¬ (1 : Int32) = 0 by decide), BRpl hR, if_pos (ok_p hP).1, hs, if_neg (nI_ne0 (by omega) (by omega))]
          simp (disch := omega) only [↓reduceIte, ↓BR hR, OKx, OKr, inbT, ix_nI, e1]
          rw [bIe (p_fnd hR).1]
        · obtain ⟨em, hR'⟩ := Em_fnd (f := 1) hR
          have e2' : gi (fndX σ 1) 68 r = -1 := (em _ _ (by omega)).trans e2
          unfold f_X6_deal
          rw [if_pos OKx.2.1, bIe (p_isRowMy (N := N) hr), if_neg (show ¬ (1 : Int32) = 0 by decide), em 66 10 (by omega), w3.1, if_neg (nI_ne0 (by omega) (by omega))]
          simp (disch := omega) only [↓reduceIte, ↓BR hR', OKm, inbT, ix_nI, e2', m1_lt]
          rw [bIe (p_mts hR').1]
      · have hv0 := hv
        obtain ⟨_, hm40, hv1, hv2, hv3, hv4⟩ := hv0
        have hRM : ∀ τ, Em b σ τ → gi τ 68 r = nI m := fun τ e => (e.1 _ _ (by omega)).trans hv2
        have bx : f_X5_deal N 0 (nI r) σ = if m = n then (if allb (fun i => tgB 4 (g i)) m then (if agB n al g 0 then (if ds.length < 40 then bI (f_X2_dealNumber N (pl b) (38 + 2 * r) σ) (fun r17 t16 => bV (f_X5_act N 0 (0) r17 t16) (fun t18 => bR (gr t18 0 4) (okO 0) (fun o19 => some (gi t18 o19 6, t18)))) else some (-2, σ)) else some (-3, fndX σ 3)) else some (-3, fndX σ 3)) else some (-3, fndX σ 5) := by
          unfold f_X5_deal f_X5_deal_86
          rw [if_pos OKx.1, bIe (p_isRowXy (N := N) hr), if_neg (show ¬ (1 : Int32) = 0 by decide), BRpl hR, if_pos (ok_p hP).1, hs, if_neg (nI_ne0 (by omega) (by omega))]
          simp (disch := omega) only [↓reduceIte, ↓BR hR, OKx, OKr, inbT, ix_nI, hv1]
          rw [if_neg (by rw [nI_nm1 (by omega)]; exact id)]
          change (if okO 2 (pl b) = true then (if nI m = gi σ (pl b) 8 then _ else _) else none) = _
          rw [if_pos (ok_p hP).1, hs]
          by_cases c1 : m = n
          · subst c1
            rw [if_pos rfl, if_pos rfl, bIe (show f_X3_allBelow N (37 + 2 * r) (4 : Int32) σ = _ from p_below (B := 4) hN hR hv), if10, bIe (p_fnd hR).2.2.1]
            simp (disch := omega) only [↓reduceIte, ↓BR hR, OKx, OKr]
            change (if allb (fun i => tgB 4 (g i)) m = true then (if okO 2 (pl b) = true then bI (f_X2_agrees N (pl b) (38 + 2 * r) 0 σ) _ else none) else _) = _
            cases allb (fun i => tgB 4 (g i)) m with
            | false => rfl
            | true =>
              rw [if_pos rfl, if_pos rfl, if_pos (ok_p hP).1, bIe (show f_X2_agrees N (pl b) (38 + 2 * r) 0 σ = _ from p_agrX (s := 0) hN hR hP hs hn (PX_l w2.1 hal) hv (by omega)), if10, bIe (p_fnd hR).2.2.1]
              simp (disch := omega) only [↓reduceIte, ↓BR hR, OKx, OKr, w2.2.2.2.1.1]
              change (if agB m al g 0 = true then (if nI ds.length < (40 : Int32) then (if okO 2 (pl b) = true then bI (f_X2_dealNumber N (pl b) (38 + 2 * r) σ) _ else none) else _) else _) = _
              rw [if_pos (ok_p hP).1]
              cases agB m al g 0 with
              | false => rfl
              | true =>
                rw [if_pos rfl, if_pos rfl]
                by_cases c : ds.length < 40
                · rw [if_pos ((lt40 hl).1.mpr c), if_pos c]
                · rw [if_neg (mt (lt40 hl).1.mp c), if_neg c]
          · rw [if_neg c1, if_neg (fun q => c1 ((nI_eq (by omega) (by omega)).mp q)), bIe (p_fnd hR).2.2.2.2.1]
        have bm : ∀ τ, Em b σ τ → f_X6_deal N 66 (nI r) τ = if m = n then (if allb (fun i => tgB 4 (g i)) m then (if agB n al g 0 then (if ds.length < 40 then f_X6_deal_94 N N 66 (nI r) 0 (rm τ ds.length) else some (-2, τ)) else some (-3, fndM τ 3)) else some (-3, fndM τ 3)) else some (-3, fndM τ 5) := by
          intro τ em
          have hRt := em.2
          have g2 := hRM τ em
          have t10 : gi τ 66 10 = nI n := (em.1 _ _ (by omega)).trans w3.1
          have t22 : gi τ 66 22 = nI ds.length := (em.1 _ _ (by omega)).trans w3.2.2.1
          unfold f_X6_deal f_X6_deal_70
          rw [if_pos OKx.2.1, bIe (p_isRowMy (N := N) hr), if_neg (show ¬ (1 : Int32) = 0 by decide), t10, if_neg (nI_ne0 (by omega) (by omega))]
          simp (disch := omega) only [↓reduceIte, ↓BR hRt, OKm, inbT, ix_nI, g2, le0T]
          by_cases c1 : m = n
          · subst c1
            have p1 : f_X6_areTongues N 66 (nI r) τ = some (if allb (fun i => tgB 4 (g i)) m then 1 else 0, τ) := by
              have z := p_tongsM (N := N) hN hRt (show RM τ r m g from ⟨hr, hm40, g2, fun i hi => (em.1 _ _ (by omega)).trans (hv4 i hi)⟩)
              exact z
            have p2 : f_X6_agrees N 66 (nI r) 0 τ = some (if agM m al g 0 then 1 else 0, τ) := by
              have z := p_agrMM (N := N) (s := 0) hN hRt t10 hn (fun p hp => ⟨(em.1 _ _ (by omega)).trans (TWm_a w3 hal p hp).1, (TWm_a w3 hal p hp).2⟩) (show RM τ r m g from ⟨hr, hm40, g2, fun i hi => (em.1 _ _ (by omega)).trans (hv4 i hi)⟩) (by omega)
              exact z
            rw [if_pos rfl, if_pos rfl, bIe p1, if10, bIe (p_mts hRt).2.2.1]
            cases allb (fun i => tgB 4 (g i)) m with
            | false => rfl
            | true =>
              rw [if_pos rfl, if_pos rfl, bIe p2, if10, bIe (p_mts hRt).2.2.1, ag_eq hal, t22]
              cases agB m al g 0 with
              | false => rfl
              | true =>
                rw [if_pos rfl, if_pos rfl]
                by_cases c : ds.length < 40
                · rw [if_neg (fun z => (lt40 hl).2.mp z c), if_pos c, bVe (show f_X6_remember N 66 τ = some (rm τ ds.length) from p_rem (by omega) hRt t22 c)]
                · rw [if_pos ((lt40 hl).2.mpr c), if_neg c]
          · rw [if_neg c1, if_neg (fun q => c1 ((nI_eq (by omega) (by omega)).mp q)), bIe (p_mts hRt).2.2.2.2.1]
        by_cases c1 : m = n
        · subst c1
          rw [if_pos rfl] at bx
          cases c2 : allb (fun i => tgB 4 (g i)) m with
          | false =>
            rw [c2] at bx
            refine ⟨-3, fndX σ 3, fndM (fndX σ 3) 3, b, bx, ?_, rel_find h (by decide)⟩
            rw [bm _ (Em_fnd hR), if_pos rfl, c2]
            rfl
          | true =>
            rw [c2, if_pos rfl] at bx
            cases c3 : agB m al g 0 with
            | false =>
              rw [c3] at bx
              refine ⟨-3, fndX σ 3, fndM (fndX σ 3) 3, b, bx, ?_, rel_find h (by decide)⟩
              rw [bm _ (Em_fnd hR), if_pos rfl, c2, if_pos rfl, c3]
              rfl
            | true =>
              rw [c3, if_pos rfl] at bx
              by_cases c4 : ds.length < 40
              · rw [if_pos c4] at bx
                -- the tongues dealt
                let t : Nat → Nat := fun p => ix (g p)
                have ht : ∀ p, p < m → g p = nI (t p) ∧ t p < 4 := fun p hp => by
                  obtain ⟨u, hu, e⟩ := tgB_t (by decide) (allb_iff.mp c2 p hp)
                  have e2 : t p = u := by show ix (g p) = u; rw [e, ix_nI (by omega)]
                  rw [e2]
                  exact ⟨e, hu⟩
                have hag : ∀ p, p < m → t p = t (ldr al p) := fun p hp => by
                  have := of_decide_eq_true (allb_iff.mp c3 p hp)
                  rw [Nat.zero_add, Nat.zero_add] at this
                  show ix (g p) = ix (g (ldr al p))
                  rw [this]
                obtain ⟨dl1, dl2⟩ := dnum_spec hal hn (fun p hp => (ht p hp).2) hag m (Nat.le_refl m)
                have hdl : ∀ p, p < m → dlOf al (dnum al t m) p = t p := fun p hp => (dl2 p hp).1 ⟨p, hp, rfl⟩
                have hw : okD m (0, dnum al t m) := ⟨Nat.zero_le 2, fun _ => dl1, fun z => absurd z (show ¬ (0 : Nat) = 1 by decide), fun z => absurd z (show ¬ (0 : Nat) = 2 by decide)⟩
                rw [bIe (p_dnum hN hR hP hs hn (PX_g hn w2.1) hv (Nat.le_refl m) ht)] at bx
                obtain ⟨τ, t1, t2, t3, t4, t5, t6⟩ := p_act (N := N) (w := (0, dnum al t m)) hN hR hn w2.1 w2.2.2.2.1 w2.2.1 w2.2.2.1 c4 w1.2.2.2.2.2.2.1 hw w1.2.2.1
                have hRt : Rf b τ := Rf_eq (by rw [t2]) hR
                have hrep : rep al sg (ds ++ [(0, dnum al t m)]) = (dlOf al (dnum al t m), (rep al sg ds).2.1, (rep al sg ds).2.2.1 + 1, false) := by
                  rw [rep_snoc]
                  rfl
                have hem : Em b σ τ := ⟨fun a k z => t3 a k (by omega), hRt⟩
                let ρ0 : Mm := blt (rm τ ds.length) 78 0 m g
                let ρ : Mm := si (si ρ0 78 12 (nI ((rep al sg ds).2.2.1 + 1))) 78 13 0
                have fr : ∀ a k, a ≠ 78 → gi ρ a k = gi (rm τ ds.length) a k := fun a k z => by
                  show gi (si (si ρ0 78 12 (nI ((rep al sg ds).2.2.1 + 1))) 78 13 0) a k = _
                  rw [gi_si, if_neg (by omega), gi_si, if_neg (by omega)]
                  exact blt_out z
                have f8 : ∀ k, k < 12 → gi ρ 78 k = gi ρ0 78 k := fun k z => by
                  show gi (si (si ρ0 78 12 (nI ((rep al sg ds).2.2.1 + 1))) 78 13 0) 78 k = _
                  rw [gi_si, if_neg (by omega), gi_si, if_neg (by omega)]
                have r12 : gi ρ0 78 12 = nI (rep al sg ds).2.2.1 := by
                  show gi (blt (rm τ ds.length) 78 0 m g) 78 12 = _
                  rw [gi_blt, if_neg (by omega), rm_out (by omega) (by omega), t3 _ _ (by omega)]
                  exact w3.2.2.2.1.2.1
                have hok2 := okW_add w1 c4 hw
                have hvm : VM m (rep al sg (ds ++ [(0, dnum al t m)])) (gi ρ 78) := by
                  rw [hrep]
                  refine ⟨fun p hp => ⟨?_, ?_⟩, ?_, ?_⟩
                  · rw [f8 _ (by omega)]
                    show gi (blt (rm τ ds.length) 78 0 m g) 78 p = nI (dlOf al (dnum al t m) p)
                    rw [blt_in hp, hdl p hp]
                    exact (ht p hp).1
                  · rw [f8 _ (by omega)]
                    show gi (blt (rm τ ds.length) 78 0 m g) 78 (6 + p) = _
                    rw [gi_blt, if_neg (by omega), rm_out (by omega) (by omega), t3 _ _ (by omega)]
                    exact (w3.2.2.2.1.1 p hp).2
                  · show gi (si (si ρ0 78 12 (nI ((rep al sg ds).2.2.1 + 1))) 78 13 0) 78 12 = _
                    rw [gi_si, if_neg (by omega), gi_si, if_pos ⟨rfl, rfl⟩]
                  · show gi (si (si ρ0 78 12 (nI ((rep al sg ds).2.2.1 + 1))) 78 13 0) 78 13 = _
                    rw [gi_si, if_pos ⟨rfl, rfl⟩]
                    rfl
                have hTm : TWm ρ m kd al sg (ds ++ [(0, dnum al t m)]) kp := TWm_rem (σ := σ) (τ := τ) hn w3 (fun a k z => t3 a k (by omega)) (fun a k z => fr a k (by omega)) hvm
                have fx : ∀ a k, a ≤ 65 → gi ρ a k = gi τ a k := fun a k z => by rw [fr a k (by omega), rm_out (by omega) (by omega)]
                have hTx : TWx b ρ m kd al sg (ds ++ [(0, dnum al t m)]) kp := TWx_new (σ := σ) w2 (fun a k z1 z2 => by rw [fx a k z2, t3 a k (by omega)]) (DX_congr (σ := τ) (fun a k z1 z2 => fx a k (by omega)) t4) (YX_congr (σ := τ) (fun a k z1 z2 => fx a k (by omega)) t5) (by rw [fx _ _ (by omega)]; exact t6)
                refine ⟨nI ((rep al sg ds).2.2.1 + 1), τ, ρ, b, ?_, ?_, rel_TW h t2 (fun a k z => by rw [fr a k (by omega), rm_out (by omega) (by omega), t3 a k (by omega)]) ⟨m, kd, al, sg, _, kp, hok2, hTx, hTm⟩⟩
                · rw [bx, bVe (show f_X5_act N 0 0 (nI (dnum al t m)) σ = some τ from t1)]
                  simp (disch := omega) only [↓reduceIte, ↓BR hRt, OKx]
                  rw [t6, hrep]
                · rw [bm τ hem, if_pos rfl, c2, if_pos rfl, c3, if_pos rfl, if_pos c4]
                  have hRr : Rf b (rm τ ds.length) := hRt
                  have z := loop (fun f i => f_X6_deal_94 N f 66 (nI r) (nI i) (blt (rm τ ds.length) 78 0 i g)) (some (nI ((rep al sg ds).2.2.1 + 1), ρ)) m ?_ ?_ N 0 (by omega) (by omega)
                  · rw [blt_0] at z
                    exact z
                  · intro f
                    unfold f_X6_deal_94
                    have q12 : gi (blt (rm τ ds.length) 78 0 m g) 78 12 = nI (rep al sg ds).2.2.1 := r12
                    have s12 : gi (si (si (blt (rm τ ds.length) 78 0 m g) 78 12 (nI ((rep al sg ds).2.2.1 + 1))) 78 13 0) 78 12 = nI ((rep al sg ds).2.2.1 + 1) := by rw [gi_si, if_neg (by omega), gi_si, if_pos ⟨rfl, rfl⟩]
                    have r10 : gi (blt (rm τ ds.length) 78 0 m g) 66 10 = nI m := by
                      rw [blt_out (by omega), rm_out (by omega) (by omega), t3 _ _ (by omega)]
                      exact w3.1
                    rw [r10, if_pos (nI_le (Nat.le_refl m) (by omega)), show (12 : Int32) = nI 12 from rfl, show (13 : Int32) = nI 13 from rfl]
                    simp (disch := omega) only [↓reduceIte, ↓BR (Rf_blt hRr), ↓BRs, OKm, inbT, ix_nI, lt, q12, nI_1, s12]
                    rfl
                  · intro f i hi A hA
                    unfold f_X6_deal_94
                    have r10 : gi (blt (rm τ ds.length) 78 0 i g) 66 10 = nI m := by
                      rw [blt_out (by omega), rm_out (by omega) (by omega), t3 _ _ (by omega)]
                      exact w3.1
                    have r69 : gi (blt (rm τ ds.length) 78 0 i g) 69 (40 * r + i) = g i := by
                      rw [blt_out (by omega), rm_out (by omega) (by omega), t3 _ _ (by omega)]
                      exact hv4 i hi
                    rw [hA, r10, if_neg (nI_ge hi (by omega))]
                    simp (disch := omega) only [↓reduceIte, ↓BR (Rf_blt hRr), OKm]
                    rw [bIe (p_rowAt (Rf_blt hRr) hr (by omega)), r69]
                    simp (disch := omega) only [↓reduceIte, inbT, ix_nI, lt, nI_1]
                    rw [blt_s0]
              · rw [if_neg c4] at bx
                refine ⟨-2, σ, σ, b, bx, ?_, h⟩
                rw [bm σ (Em_refl hR), if_pos rfl, c2, if_pos rfl, c3, if_pos rfl, if_neg c4]
        · rw [if_neg c1] at bx
          refine ⟨-3, fndX σ 5, fndM (fndX σ 5) 5, b, bx, ?_, rel_find h (by decide)⟩
          rw [bm _ (Em_fnd hR), if_neg c1]
