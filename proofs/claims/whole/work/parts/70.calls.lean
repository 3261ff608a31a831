/-! ===== PURE: calls ===== -/
theorem p_heard {N o r m : Nat} {b : Bool} {σ : Mm} {g : Nat → Int32} {H : Nat → Nat} (hN : 20 ≤ N) (hR : Rf b σ) (ho : o = 7 ∨ o = 13) (hr : r < 6) (hm : m ≤ 4) (h1 : gi σ (37 + 2 * r) 1 = nI m) (h2 : ∀ i, i < m → gi σ (38 + 2 * r) i = g i) (h3 : ∀ t, t < 4 → gi σ (o + 4) t = nI (H t)) : f_X0_isHeardAs N o (37 + 2 * r) σ = some (if allb (fun t => decide (nI (H t) = g t)) m then 1 else 0, σ) := by
  unfold f_X0_isHeardAs
  rw [if_pos (ok_d ho).1, if_pos (OKr hr).1]
  refine loopR (fun f i => f_X0_isHeardAs_2 N f o (37 + 2 * r) (nI i) σ) _ m (fun i => allb (fun t => decide (nI (H t) = g t)) i = true) ?_ ?_ N 0 (by omega) (by omega) rfl
  · intro f hI
    unfold f_X0_isHeardAs_2
    rw [h1, if_pos (nI_le (Nat.le_refl m) (by omega)), hI]
    rfl
  · intro f i hi hI ih
    unfold f_X0_isHeardAs_2
    rw [h1, if_neg (nI_ge hi (by omega)), show (4 : Int32) = nI 4 from rfl, if_neg (nI_ge (show i < 4 by omega) (by omega))]
    simp (disch := omega) only [↓reduceIte, ↓BRd hR ho, ↓BR hR, ok_d ho, OKr, inbT, ix_nI, h3 i (by omega), h2 i hi, nI_1]
    by_cases c : nI (H i) = g i
    · rw [if_pos c]
      refine ih ?_
      rw [allb, hI, decide_eq_true c]
      rfl
    · rw [if_neg c, allb_f (i := i) (decide_eq_false c) hi]
      rfl
theorem p_setB {N n : Nat} {σ : Mm} {x : Int32} (hs : gi σ 66 10 = nI n) (hn : n ≤ 6) : f_X6_isSet N 66 x σ = some (if tgB (2 ^ n) x then 1 else 0, σ) := by
  have := pow6 hn
  rcases arg2 x (2 ^ n) (by omega) with q | ⟨S, hS, rfl⟩
  · rw [p_set0M (N := N) hs hn q]
    have : tgB (2 ^ n) x = false := by
      unfold tgB
      rcases q with q | q
      · rw [decide_eq_false (fun z => z q)]; rfl
      · rw [decide_eq_false (p := x < nI (2 ^ n)) (Int32.not_lt.mpr q), Bool.and_false]
    rw [this]
    rfl
  · rw [p_set1M (N := N) hs hn hS, tgB_n (by omega) hS]
    rfl
/-- the class's part of the relation has stayed, but for the day thought of -/
def Ex (σ τ : Mm) : Prop := τ.2 = σ.2 ∧ ∀ a k, a < 13 ∨ (18 < a ∧ a ≠ 35) → gi τ a k = gi σ a k
theorem Ex_refl (σ : Mm) : Ex σ σ := ⟨rfl, fun _ _ _ => rfl⟩
theorem Ex_Rf {b : Bool} {σ τ : Mm} (h : Ex σ τ) (hR : Rf b σ) : Rf b τ := Rf_eq (by rw [h.1]) hR
theorem Ex_PX {σ τ : Mm} {P n : Nat} {kd al sg : Nat → Nat} (hP : P = 19 ∨ P = 27) (h : Ex σ τ) (hX : PX σ P n kd al sg) : PX τ P n kd al sg := PX_congr (fun a k q1 q2 => h.2 a k (by omega)) hX
theorem s_calls {N : Nat} (hN : 5000 ≤ N) (x : Int32) : Sim (f_X5_calls N 0 x) (f_X6_calls N 66 x) := by
  intro b σ h
  have hR := h.1
  obtain ⟨n, kd, al, sg, ds, kp, w1, w2, w3⟩ := h.2.2.2.2
  have hs := w2.1.1
  have hn := w1.1
  have hP := pl_cases b
  have h64 := pow6 hn
  have hal := okW_al w1
  have hMS := TW_MS (b := b) w1 w3
  have hG := grps_le al n
  have hG4 := pow4_le (show grps al n ≤ 6 by omega)
  have p2n := Nat.two_pow_pos n
  rcases arg2 x 6 (by omega) with q | ⟨r, hr, rfl⟩
  · refine ⟨-1, σ, σ, b, ?_, ?_, h⟩
    · unfold f_X5_calls
      rw [if_pos OKx.1, bIe (p_isRowX (N := N) q)]
      rfl
    · unfold f_X6_calls
      rw [if_pos OKx.2.1, bIe (p_isRowM (N := N) q)]
      rfl
  · by_cases a1 : n = 0
    · refine ⟨-4, σ, σ, b, ?_, ?_, h⟩
      · unfold f_X5_calls
        rw [if_pos OKx.1, bIe (p_isRowXy (N := N) hr), if_neg (show ¬ (1 : Int32) = 0 by decide), BRpl hR, if_pos (ok_p hP).1, hs, a1]
        rfl
      · unfold f_X6_calls
        rw [if_pos OKx.2.1, bIe (p_isRowMy (N := N) hr), if_neg (show ¬ (1 : Int32) = 0 by decide), w3.1, a1]
        rfl
    · rcases rel_RV h hr with ⟨e1, e2⟩ | ⟨m, g, hv⟩
      · refine ⟨-3, fndX σ 1, fndM (fndX σ 1) 1, b, ?_, ?_, rel_find h (by decide)⟩
        · unfold f_X5_calls
          rw [if_pos OKx.1, bIe (p_isRowXy (N := N) hr), if_neg (show ¬ (1 : Int32) = 0 by decide), BRpl hR, if_pos (ok_p hP).1, hs, if_neg (nI_ne0 (by omega) (by omega))]
          simp (disch := omega) only [↓reduceIte, ↓BR hR, OKx, OKr, inbT, ix_nI, e1]
          rw [bIe (p_fnd hR).1]
        · obtain ⟨em, hR'⟩ := Em_fnd (f := 1) hR
          have e2' : gi (fndX σ 1) 68 r = -1 := (em _ _ (by omega)).trans e2
          unfold f_X6_calls
          rw [if_pos OKx.2.1, bIe (p_isRowMy (N := N) hr), if_neg (show ¬ (1 : Int32) = 0 by decide), em 66 10 (by omega), w3.1, if_neg (nI_ne0 (by omega) (by omega))]
          simp (disch := omega) only [↓reduceIte, ↓BR hR', OKm, inbT, ix_nI, e2', m1_lt]
          rw [bIe (p_mts hR').1]
      · have hv0 := hv
        obtain ⟨_, hm40, hv1, hv2, hv3, hv4⟩ := hv0
        have bx : f_X5_calls N 0 (nI r) σ = if m ≤ 4 then (if allb (fun i => tgB (2 ^ n) (g i)) m then f_X5_calls_92 N N 0 (37 + 2 * r) 0 0 (si σ 13 7 0) else some (-3, fndX σ 3)) else some (-3, fndX σ 5) := by
          unfold f_X5_calls
          rw [if_pos OKx.1, bIe (p_isRowXy (N := N) hr), if_neg (show ¬ (1 : Int32) = 0 by decide), BRpl hR, if_pos (ok_p hP).1, hs, if_neg (nI_ne0 (by omega) (by omega))]
          simp (disch := omega) only [↓reduceIte, ↓BRr hR, OKx, OKr, inbT, ix_nI, hv1]
          rw [if_neg (by rw [nI_nm1 (by omega)]; exact id), BRpl hR, if_pos (ok_p hP).1, bIe (p_everyX (N := N) hP hs hn), nI_1, show 2 ^ n - 1 + 1 = 2 ^ n by omega, bIe (p_below (by omega) hR hv), if10, bIe (p_fnd hR).2.2.1, bIe (p_fnd hR).2.2.2.2.1]
          simp (disch := omega) only [↓reduceIte, ↓BR hR, OKx, lt]
          by_cases c1 : m ≤ 4
          · rw [if_pos (show nI m ≤ (4 : Int32) from nI_le (b := 4) c1 (by omega)), if_pos c1]
          · rw [if_neg (show ¬ nI m ≤ (4 : Int32) from nI_ge (a := 4) (by omega) (by omega)), if_neg c1]
        have bm : ∀ τ, Em b σ τ → f_X6_calls N 66 (nI r) τ = if m ≤ 4 then (if allb (fun i => tgB (2 ^ n) (g i)) m then f_X6_calls_108 N N 66 (nI r) 0 0 τ else some (-3, fndM τ 3)) else some (-3, fndM τ 5) := by
          intro τ em
          have hRt := em.2
          have g2 : gi τ 68 r = nI m := (em.1 _ _ (by omega)).trans hv2
          have t10 : gi τ 66 10 = nI n := (em.1 _ _ (by omega)).trans w3.1
          unfold f_X6_calls
          rw [if_pos OKx.2.1, bIe (p_isRowMy (N := N) hr), if_neg (show ¬ (1 : Int32) = 0 by decide), t10, if_neg (nI_ne0 (by omega) (by omega))]
          simp (disch := omega) only [↓reduceIte, ↓BR hRt, OKm, inbT, ix_nI, g2, le0T]
          by_cases c1 : m ≤ 4
          · rw [if_pos (show nI m ≤ (4 : Int32) from nI_le (b := 4) c1 (by omega)), if_pos c1]
            refine loop (fun f i => f_X6_calls_54 N f 66 (nI r) (if allb (fun i => tgB (2 ^ n) (g i)) i then 1 else 0) (nI i) τ) _ m ?_ ?_ N 0 (by omega) (by omega)
            · intro f
              unfold f_X6_calls_54
              simp (disch := omega) only [↓reduceIte, ↓BR hRt, OKm, inbT, ix_nI, g2]
              rw [if_pos (nI_le (Nat.le_refl m) (by omega)), if10, bIe (p_mts hRt).2.2.1]
            · intro f i hi A hA
              unfold f_X6_calls_54 f_X6_calls_85 f_X6_calls_86
              simp (disch := omega) only [↓reduceIte, ↓BR hRt, OKm, inbT, ix_nI, g2]
              rw [hA, if_neg (nI_ge hi (by omega)), if10, bIe (p_rowAt hRt hr (by omega)), (em.1 _ _ (by omega)).trans (hv4 i hi), bIe (p_setB (N := N) t10 hn), if10, nI_1, allb]
              cases allb (fun i => tgB (2 ^ n) (g i)) i with
              | false => rfl
              | true => cases tgB (2 ^ n) (g i) <;> rfl
          · rw [if_neg (show ¬ nI m ≤ (4 : Int32) from nI_ge (a := 4) (by omega) (by omega)), if_neg c1, bIe (p_mts hRt).2.2.2.2.1]
        by_cases c1 : m ≤ 4
        · rw [if_pos c1] at bx
          cases c2 : allb (fun i => tgB (2 ^ n) (g i)) m with
          | false =>
            rw [c2] at bx
            refine ⟨-3, fndX σ 3, fndM (fndX σ 3) 3, b, bx, ?_, rel_find h (by decide)⟩
            rw [bm _ (Em_fnd hR), if_pos c1, c2]
            rfl
          | true =>
            rw [c2, if_pos rfl] at bx
            let F : Nat → Bool := fun d => allb (fun t => decide (nI (he n kd (dlOf al d) false t) = g t)) m
            let C : Nat := fb_ct F (4 ^ grps al n)
            have hC : C ≤ 4096 := Nat.le_trans (fb_ct_le _ _) hG4
            -- the class
            have mx : ∀ (f d : Nat) (τ : Mm), d ≤ 4 ^ grps al n → 4 ^ grps al n - d < f → Ex σ τ → gi τ 13 7 = 0 → ∃ ρ, f_X5_calls_92 N f 0 (37 + 2 * r) (nI (fb_ct F d)) (nI d) τ = some (1, sl (sl ρ 0 12 (lN (C / Nat.gcd C 1))) 0 13 (lN (1 / Nat.gcd C 1))) ∧ Ex σ ρ := by
              intro f
              induction f with
              | zero => intro d τ _ z; omega
              | succ f ih =>
                intro d τ hd hf hE h7
                have hRt := Ex_Rf hE hR
                have hXt := Ex_PX hP hE w2.1
                unfold f_X5_calls_92
                rw [BRpl hRt, if_pos (ok_p hP).1, bIe (p_dealsX (N := N) hP hXt.2.1 hn)]
                by_cases e : d = 4 ^ grps al n
                · subst e
                  refine ⟨τ, ?_, hE⟩
                  rw [if_pos (nI_le (Nat.le_refl _) (by omega)), bVe (show f_X5_tellFraction N 0 (nI (fb_ct F (4 ^ grps al n))) (1 : Int32) τ = _ from p_fracX (l := 1) (by omega) (by omega) (by omega) (by omega))]
                · have hd2 : d < 4 ^ grps al n := by omega
                  let τ1 : Mm := blt τ 14 0 n (fun p => nI (dlOf al d p))
                  have hR1 : Rf b τ1 := hRt
                  have hX1 : PX τ1 (pl b) n kd al sg := PX_congr (fun a k z1 z2 => blt_out (by omega)) hXt
                  let τ2 : Mm := St τ1 13 n (fun q => nI (kn n kd (dlOf al d) false q)) (fun t => nI (he n kd (dlOf al d) false t))
                  have hR2 : Rf b τ2 := hRt
                  have d1 : f_X0_dealOut N 13 (pl b) (nI d) τ = some τ1 := p_dealOut (by omega) hRt (Or.inr rfl) hP hXt.1 hn (PX_g hn hXt) (by omega)
                  have d2 : f_X0_learn N 13 (pl b) τ1 = some τ2 := p_learn (no := false) (by omega) hR1 (Or.inr rfl) (PX_PM hP hn hX1) (by show gi (blt τ 14 0 n _) 13 7 = 0; rw [blt_out (by omega)]; exact h7) (fun q hq => ⟨by show gi (blt τ 14 0 n _) 14 q = _; rw [blt_in hq], dlOf_lt⟩)
                  have f2 : ∀ a k, a < 14 ∨ 18 < a → gi τ2 a k = gi τ a k := fun a k z => by
                    show gi (St (blt τ 14 0 n _) 13 n _ _) a k = _
                    rw [St_out (by omega) (by omega), blt_out (by omega)]
                  have d3 : f_X0_isHeardAs N 13 (37 + 2 * r) τ2 = some (if F d then 1 else 0, τ2) := p_heard (by omega) hR2 (Or.inr rfl) hr c1 ((f2 _ _ (by omega)).trans ((hE.2 _ _ (by omega)).trans hv1)) (fun i hi => (f2 _ _ (by omega)).trans ((hE.2 _ _ (by omega)).trans (hv3 i hi))) (fun t ht => St_he ht)
                  obtain ⟨ρ, r1, r2⟩ := ih (d + 1) τ2 (by omega) (by omega) ⟨hE.1, fun a k z => (f2 a k (by omega)).trans (hE.2 a k z)⟩ ((f2 13 7 (by omega)).trans h7)
                  refine ⟨ρ, ?_, r2⟩
                  unfold f_X5_calls_142
                  rw [if_neg (nI_ge hd2 (by omega))]
                  simp (disch := omega) only [↓reduceIte, ↓(BR hRt).2.2.2.2.2.1, OKx]
                  rw [BRpl hRt, if_pos (ok_p hP).1, bVe d1]
                  simp (disch := omega) only [↓reduceIte, ↓(BR hR1).2.2.2.2.2.1, OKx]
                  rw [BRpl hR1, if_pos (ok_p hP).1, bVe d2]
                  simp (disch := omega) only [↓reduceIte, ↓(BR hR2).2.2.2.2.2.1, OKx]
                  rw [bIe d3, if10, nI_1, nI_1]
                  rw [fb_ct_succ] at r1
                  cases hF : F d with
                  | false =>
                    rw [hF, if_neg Bool.false_ne_true] at r1
                    rw [if_neg Bool.false_ne_true]
                    exact r1
                  | true =>
                    rw [hF, if_pos rfl] at r1
                    rw [if_pos rfl]
                    exact r1
            obtain ⟨ρ, r1, r2⟩ := mx N 0 (si σ 13 7 0) (Nat.zero_le _) (by omega) ⟨rfl, fun a k z => by rw [gi_si, if_neg (by omega)]⟩ (by rw [gi_si, if_pos ⟨rfl, rfl⟩])
            generalize hσ1 : sl (sl ρ 0 12 (lN (C / Nat.gcd C 1))) 0 13 (lN (1 / Nat.gcd C 1)) = σ1 at r1
            have g1 : ∀ a k, gi σ1 a k = gi ρ a k := fun a k => by rw [← hσ1]; rfl
            have hR1 : Rf b σ1 := by rw [← hσ1]; exact (show Rf b ρ from Ex_Rf r2 hR)
            have em1 : Em b σ σ1 := ⟨fun a k z => (g1 a k).trans (r2.2 a k (by omega)), hR1⟩
            -- the reference
            have mm : ∀ (f d : Nat) (τ : Mm), d ≤ 4 ^ grps al n → 4 ^ grps al n - d < f → τ.2 = σ1.2 → (∀ a k, a ≠ 79 → gi τ a k = gi σ1 a k) → ∃ ρ2, f_X6_calls_108 N f 66 (nI r) (nI (fb_ct F d)) (nI d) τ = some (1, sl (sl ρ2 66 3 (lN (C / Nat.gcd C 1))) 66 4 (lN (1 / Nat.gcd C 1))) ∧ ρ2.2 = σ1.2 ∧ ∀ a k, a ≠ 79 → gi ρ2 a k = gi σ1 a k := by
              intro f
              induction f with
              | zero => intro d τ _ z; omega
              | succ f ih =>
                intro d τ hd hf e2 ef
                have hRt : Rf b τ := Rf_eq (by rw [e2]) hR1
                have t10 : gi τ 66 10 = nI n := (ef _ _ (by omega)).trans ((em1.1 _ _ (by omega)).trans w3.1)
                have t74 : ∀ p, p < n → gi τ 74 p = nI (al p) := fun p hp => (ef _ _ (by omega)).trans ((em1.1 _ _ (by omega)).trans (w3.2.1 p hp).2)
                have t68 : gi τ 68 r = nI m := (ef _ _ (by omega)).trans ((em1.1 _ _ (by omega)).trans hv2)
                have t69 : ∀ i, i < m → gi τ 69 (40 * r + i) = g i := fun i hi => (ef _ _ (by omega)).trans ((em1.1 _ _ (by omega)).trans (hv4 i hi))
                unfold f_X6_calls_108
                rw [bIe (p_many (by omega) hRt t10 hn (fun p hp => ⟨t74 p hp, (hal.1 p hp).1⟩))]
                by_cases e : d = 4 ^ grps al n
                · subst e
                  refine ⟨τ, ?_, e2, ef⟩
                  rw [if_pos (nI_le (Nat.le_refl _) (by omega)), bIe (show f_X6_fraction N 66 (nI (fb_ct F (4 ^ grps al n))) (1 : Int32) τ = _ from p_fracM (l := 1) (by omega) (by omega) (by omega) (by omega))]
                · have hd2 : d < 4 ^ grps al n := by omega
                  have hMSt : MS τ 78 n kd (rep al sg ds) := MS_congr (σ := σ) (fun a k z => (ef _ _ (by omega)).trans (em1.1 _ _ (by omega))) hMS
                  let τ1 : Mm := dlt τ n al d
                  let τ2 : Mm := si τ1 79 13 0
                  have hR2 : Rf b τ2 := hRt
                  have f2 : ∀ a k, a ≠ 79 → gi τ2 a k = gi τ a k := fun a k z => by
                    show gi (si (dlt τ n al d) 79 13 0) a k = _
                    rw [gi_si, if_neg (by omega), dlt_out z]
                  have hMS2 : MS τ2 79 n kd (dlOf al d, (rep al sg ds).2.1, (rep al sg ds).2.2.1, false) := by
                    obtain ⟨q1, q2, q3, q4, q5, q6, q7, q8⟩ := dlt_MS (al := al) (d := d) hMSt
                    refine ⟨by rw [f2 _ _ (by omega)]; exact t10, fun p hp => by rw [f2 _ _ (by omega)]; exact hMSt.2.1 p hp, ⟨fun p hp => ?_, ?_, ?_⟩, q4, q5, q6, q7, q8⟩
                    · show gi (si (dlt τ n al d) 79 13 0) 79 p = _ ∧ gi (si (dlt τ n al d) 79 13 0) 79 (6 + p) = _
                      rw [gi_si, if_neg (by omega), gi_si, if_neg (by omega)]
                      exact q3.1 p hp
                    · show gi (si (dlt τ n al d) 79 13 0) 79 12 = _
                      rw [gi_si, if_neg (by omega)]
                      exact q3.2.1
                    · show gi (si (dlt τ n al d) 79 13 0) 79 13 = _
                      rw [gi_si, if_pos ⟨rfl, rfl⟩]
                      rfl
                  obtain ⟨ρ2, u1, u2, u3⟩ := ih (d + 1) τ2 (by omega) (by omega) e2 (fun a k z => (f2 a k z).trans (ef a k z))
                  refine ⟨ρ2, ?_, u2, u3⟩
                  rw [if_neg (nI_ge hd2 (by omega)), bVe (p_deals (by omega) hRt t10 hn hal t74 (by omega)), show (13 : Int32) = nI 13 from rfl]
                  simp (disch := omega) only [↓reduceIte, ↓BR (Rf_dlt hRt), OKm, inbT, ix_nI, lt]
                  rw [fb_ct_succ] at u1
                  refine loop (fun k i => f_X6_calls_137 N (f_X6_calls_108 N f) k 66 (nI r) (nI (fb_ct F d)) (nI d) (if allb (fun t => decide (nI (he n kd (dlOf al d) false t) = g t)) i then 1 else 0) (nI i) τ2) _ m ?_ ?_ N 0 (by omega) (by omega)
                  · intro k
                    unfold f_X6_calls_137 f_X6_calls_197
                    simp (disch := omega) only [↓reduceIte, ↓BR hR2, OKm, inbT, ix_nI, (f2 68 r (by omega)).trans t68]
                    rw [if_pos (nI_le (Nat.le_refl m) (by omega)), if10, nI_1]
                    simp only [lt]
                    change (if F d = true then _ else _) = _
                    cases hF : F d with
                    | false =>
                      rw [hF, if_neg Bool.false_ne_true] at u1
                      rw [if_neg Bool.false_ne_true, nI_z, nI_1]
                      exact u1
                    | true =>
                      rw [hF, if_pos rfl] at u1
                      rw [if_pos rfl, nI_1]
                      exact u1
                  · intro k i hi A hA
                    unfold f_X6_calls_137 f_X6_calls_177 f_X6_calls_178
                    simp (disch := omega) only [↓reduceIte, ↓BR hR2, OKm, inbT, ix_nI, (f2 68 r (by omega)).trans t68]
                    rw [hA, if_neg (nI_ge hi (by omega)), if10, bIe (p_und (by omega) hR2 hMS2 (show i < 4 by omega)), bIe (p_rowAt hR2 hr (by omega)), (f2 _ _ (by omega)).trans (t69 i hi), nI_1, allb]
                    cases allb (fun t => decide (nI (he n kd (dlOf al d) false t) = g t)) i with
                    | false => rfl
                    | true =>
                      by_cases c : nI (he n kd (dlOf al d) false i) = g i
                      · rw [if_pos rfl, if_pos c, decide_eq_true c]; rfl
                      · rw [if_pos rfl, if_neg c, decide_eq_false c]; rfl
            obtain ⟨ρ2, u1, u2, u3⟩ := mm N 0 σ1 (Nat.zero_le _) (by omega) rfl (fun _ _ _ => rfl)
            refine ⟨1, σ1, sl (sl ρ2 66 3 (lN (C / Nat.gcd C 1))) 66 4 (lN (1 / Nat.gcd C 1)), b, bx.trans r1, ?_, rel_core h ?_ (fun a k z => ?_) ?_⟩
            · rw [bm σ1 em1, if_pos c1, c2, if_pos rfl]
              exact u1
            · show ρ2.2.2 = σ.2.2
              rw [u2, ← hσ1]
              show ρ.2.2 = σ.2.2
              rw [r2.1]
            · show gi ρ2 a k = gi σ a k
              unfold core at z
              rw [u3 a k (by omega), g1 a k, r2.2 a k (by omega)]
            · have e1 : gl ρ2 0 12 = lN (C / Nat.gcd C 1) := by
                show ρ2.2.1 0 12 = _
                rw [u2, ← hσ1]
                rfl
              have e2 : gl ρ2 0 13 = lN (1 / Nat.gcd C 1) := by
                show ρ2.2.1 0 13 = _
                rw [u2, ← hσ1]
                rfl
              exact ⟨e1, e2⟩
        · rw [if_neg c1] at bx
          refine ⟨-3, fndX σ 5, fndM (fndX σ 5) 5, b, bx, ?_, rel_find h (by decide)⟩
          rw [bm _ (Em_fnd hR), if_neg c1]
