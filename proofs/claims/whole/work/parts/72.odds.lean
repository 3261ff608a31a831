/-! ===== PURE: odds ===== -/
theorem LV_le {T : Nat → Nat} {n p M q j k : Nat} (hjk : j ≤ k) (h : (LV T n p M j).testBit q = true) : (LV T n p M k).testBit q = true := by
  have := LV_mono2 h (k - j)
  rw [show j + (k - j) = k by omega] at this
  exact this
theorem s_odds {N : Nat} (hN : 5000 ≤ N) (x z u : Int32) : Sim (f_X5_odds N 0 x z u) (f_X6_odds N 66 x z u) := by
  intro b σ h
  have hR := h.1
  obtain ⟨n, kd, al, sg, ds, kp, w1, w2, w3⟩ := h.2.2.2.2
  have hs := w2.1.1
  have hn := w1.1
  have hP := pl_cases b
  have h64 := pow6 hn
  have hal := okW_al w1
  have hMS := TW_MS (b := b) w1 w3
  have hdy := okDy_rep (al := al) (n := n) w1.2.2.1 ds w1.2.2.2.2.2.2.1
  have hG := grps_le al n
  have hG4 := pow4_le (show grps al n ≤ 6 by omega)
  rcases arg_two x z hn with q | ⟨p, q, hp, hq, hpq, rfl, rfl⟩
  · refine ⟨-1, σ, σ, b, ?_, ?_, h⟩
    · unfold f_X5_odds
      rw [if_pos OKx.1, bIe (two_x0 (N := N) hR hs hn q)]
      rfl
    · unfold f_X6_odds
      rw [if_pos OKx.2.1, bIe (two_m0 (N := N) w3.1 hn q)]
      rfl
  · rcases arg2 u 5 (by omega) with c | ⟨m, hm, rfl⟩
    · refine ⟨-1, σ, σ, b, ?_, ?_, h⟩
      · unfold f_X5_odds
        rw [if_pos OKx.1, bIe (two_x1 (N := N) hR hs hn hp hq hpq), if_neg (show ¬ (1 : Int32) = 0 by decide)]
        by_cases d : u < 0
        · rw [if_pos d]
        · rw [if_neg d, if_neg (show ¬ u ≤ (4 : Int32) from Int32.not_le.mpr (le_lt6 (n := 4) (by decide) (c.resolve_left d)))]
      · unfold f_X6_odds
        rw [if_pos OKx.2.1, bIe (two_m1 (N := N) w3.1 hn hp hq hpq), if_neg (show ¬ (1 : Int32) = 0 by decide), bIe (show f_X6_in N u 0 (4 : Int32) σ = some (0, σ) from p_in0 (c.imp id (fun z => le_lt6 (n := 4) (by decide) z)))]
        rfl
    · let sh := (rep al sg ds).2.1
      let no := (rep al sg ds).2.2.2
      let T : Nat → Nat → Nat := fun d => te n kd (dlOf al d) sh no
      have hT : ∀ d, ∀ m, m < n → T d m < 2 ^ n := fun d m _ => te_lt
      let F : Nat → Bool := fun d => (LV (T d) n p 63 (m + 1)).testBit q
      obtain ⟨g, hg⟩ : ∃ g, grps al n = g + 1 := ⟨grps al n - 1, by have := grps_pos hal (show 0 < n by omega); omega⟩
      have hFr : ∀ c d, F (rotk c (g + 1) d) = F d := fun c d => by
        show (LV (te n kd (dlOf al (rotk c (g + 1) d)) sh no) n p 63 (m + 1)).testBit q = _
        rw [← hg, LV_T (U := T d) (fun m hm => te_rot hal hm)]
      have hct := ct_turn hFr
      have h4g : 4 ^ (g + 1) = 4 * 4 ^ g := by rw [Nat.pow_succ, Nat.mul_comm]
      rw [hg] at hG4
      let C : Nat := fb_ct (fun d => F (4 * d)) (4 ^ g)
      have hC : C ≤ 4 ^ g := fb_ct_le _ _
      have hp4 : 0 < 4 ^ g := Nat.pow_pos (by decide)
      -- the class
      obtain ⟨τ0, k1, k2, _⟩ := p_terms (N := N) (by omega) hR hn w2.2.1
      have mx : ∀ (f d : Nat) (τ : Mm), d ≤ 4 ^ g → 4 ^ g - d < f → TR σ τ n sh no → ∃ ρ, f_X5_odds_46 N f 0 (nI p) (nI q) (nI m) (nI (4 ^ g)) (nI (fb_ct (fun d => F (4 * d)) d)) (nI d) τ = some (1, sl (sl ρ 0 12 (lN (C / Nat.gcd C (4 ^ g)))) 0 13 (lN (4 ^ g / Nat.gcd C (4 ^ g)))) ∧ Ex σ ρ := by
        intro f
        induction f with
        | zero => intro d τ _ z; omega
        | succ f ih =>
          intro d τ hd hf hE
          have hRt := Ex_Rf hE.1 hR
          unfold f_X5_odds_46
          by_cases e : d = 4 ^ g
          · subst e
            refine ⟨τ, ?_, hE.1⟩
            rw [if_pos (nI_le (Nat.le_refl _) (by omega)), bVe (p_fracX (by omega) (by omega) (by omega) hp4)]
          · have hd2 : d < 4 ^ g := by omega
            obtain ⟨ρ1, r1, r2, r3, _⟩ := p_think (N := N) (d := d * 4) (by omega) hR hn w2.1 hdy.2.1 hE (by omega)
            obtain ⟨ρ, u1, u2⟩ := ih (d + 1) ρ1 (by omega) (by omega) r2
            have hR1 := Ex_Rf r2.1 hR
            have hGX := YX_GX hn (Or.inr rfl) r3
            refine ⟨ρ, ?_, u2⟩
            unfold f_X5_odds_91
            rw [if_neg (nI_ge hd2 (by omega)), show (4 : Int32) = nI 4 from rfl, pk_mul]
            simp (disch := omega) only [↓reduceIte, ↓(BR hRt).2.2.2.2.2.1, OKx]
            rw [BRpl hRt, if_pos (ok_p hP).1, bVe r1]
            simp (disch := omega) only [↓reduceIte, ↓(BR hR1).2.2.2.2.2.1, OKx]
            rw [nI_1, bIe (show f_X0_reached N 13 (nI p) (63 : Int32) (nI (m + 1)) ρ1 = _ from p_reached (M := 63) (by omega) hR1 hGX hp (by decide) (by omega)), bIe (p_holds (N := N) (Nat.lt_of_lt_of_le (LV_lt hGX.2.2.2.1 hp _) h64) (show q < 6 by omega)), if10, nI_1, nI_1]
            rw [fb_ct_succ] at u1
            change (if F (d * 4) = true then _ else _) = _
            rw [Nat.mul_comm d 4]
            cases hF : F (4 * d) with
            | false =>
              rw [hF, if_neg Bool.false_ne_true] at u1
              rw [if_neg Bool.false_ne_true]
              exact u1
            | true =>
              rw [hF, if_pos rfl] at u1
              rw [if_pos rfl]
              exact u1
      obtain ⟨ρ, r1, r2⟩ := mx N 0 τ0 (Nat.zero_le _) (by omega) k2
      generalize hσ1 : sl (sl ρ 0 12 (lN (C / Nat.gcd C (4 ^ g)))) 0 13 (lN (4 ^ g / Nat.gcd C (4 ^ g))) = σ1 at r1
      have g1 : ∀ a k, gi σ1 a k = gi ρ a k := fun a k => by rw [← hσ1]; rfl
      have hR1 : Rf b σ1 := by rw [← hσ1]; exact (show Rf b ρ from Ex_Rf r2 hR)
      have em1 : Em b σ σ1 := ⟨fun a k z => (g1 a k).trans (r2.2 a k (by omega)), hR1⟩
      have bx : f_X5_odds N 0 (nI p) (nI q) (nI m) σ = some (1, σ1) := by
        have hR0 := Ex_Rf k2.1 hR
        have hX0 := Ex_PX hP k2.1 w2.1
        unfold f_X5_odds
        rw [if_pos OKx.1, bIe (two_x1 (N := N) hR hs hn hp hq hpq), if_neg (show ¬ (1 : Int32) = 0 by decide), if_neg (nI_pos (by omega)), if_pos (show nI m ≤ (4 : Int32) from nI_le (b := 4) (by omega) (by omega))]
        simp (disch := omega) only [↓reduceIte, ↓(BR hR).2.2.2.2.2.1, ↓(BR hR).2.2.2.2.1, OKx]
        rw [bVe k1, BRpl hR0, if_pos (ok_p hP).1, bIe (p_turnX (N := N) hP hX0.2.1 hn (by omega)), show grps al n - 1 = g by omega]
        exact r1
      -- the reference
      have mm : ∀ (f d : Nat) (τ : Mm), d ≤ 4 ^ (g + 1) → 4 ^ (g + 1) - d < f → τ.2 = σ1.2 → (∀ a k, a ≠ 79 → a ≠ 80 → gi τ a k = gi σ1 a k) → ∃ ρ2, f_X6_odds_26 N f 66 (nI p) (nI q) (nI m) (nI (fb_ct F d)) (nI d) τ = some (1, sl (sl ρ2 66 3 (lN (C / Nat.gcd C (4 ^ g)))) 66 4 (lN (4 ^ g / Nat.gcd C (4 ^ g)))) ∧ ρ2.2 = σ1.2 ∧ ∀ a k, a ≠ 79 → a ≠ 80 → gi ρ2 a k = gi σ1 a k := by
        intro f
        induction f with
        | zero => intro d τ _ z; omega
        | succ f ih =>
          intro d τ hd hf e2 ef
          have hRt : Rf b τ := Rf_eq (by rw [e2]) hR1
          have t10 : gi τ 66 10 = nI n := (ef _ _ (by omega) (by omega)).trans ((em1.1 _ _ (by omega)).trans w3.1)
          have t74 : ∀ p, p < n → gi τ 74 p = nI (al p) := fun p hp => (ef _ _ (by omega) (by omega)).trans ((em1.1 _ _ (by omega)).trans (w3.2.1 p hp).2)
          have pm := p_many (N := N) (by omega) hRt t10 hn (fun p hp => ⟨t74 p hp, (hal.1 p hp).1⟩)
          rw [hg] at pm
          unfold f_X6_odds_26
          rw [bIe pm]
          by_cases e : d = 4 ^ (g + 1)
          · subst e
            refine ⟨τ, ?_, e2, ef⟩
            rw [if_pos (nI_le (Nat.le_refl _) (by omega)), bIe pm, hct, h4g, bIe (p_fracM (by omega) (by show 4 * C < 65536; omega) (by omega) (by omega))]
            show some (1, sl (sl τ 66 3 (lN (4 * C / Nat.gcd (4 * C) (4 * 4 ^ g)))) 66 4 (lN (4 * 4 ^ g / Nat.gcd (4 * C) (4 * 4 ^ g)))) = _
            rw [Nat.gcd_mul_left, Nat.mul_div_mul_left _ _ (by decide), Nat.mul_div_mul_left _ _ (by decide)]
          · have hd2 : d < 4 ^ (g + 1) := by omega
            have hMSt : MS τ 78 n kd (rep al sg ds) := MS_congr (σ := σ) (fun a k z => (ef _ _ (by omega) (by omega)).trans (em1.1 _ _ (by omega))) hMS
            have hMS2 := dlt_MS (al := al) (d := d) hMSt
            let τ2 : Mm := blt (dlt τ n al d) 80 0 n (fun m => nI (T d m))
            have hGM : GM τ2 n (T d) := GM_lay hMS2
            have hR2 : Rf b τ2 := hRt
            obtain ⟨r, s1, s2⟩ := p_stepsOf (N := N) (by omega) hR2 hGM hp hq
            obtain ⟨ρ2, u1, u2, u3⟩ := ih (d + 1) τ2 (by omega) (by omega) e2 (fun a k z1 z2 => by
              show gi (blt (dlt τ n al d) 80 0 n _) a k = _
              rw [blt_out z2, dlt_out z1]
              exact ef a k z1 z2)
            refine ⟨ρ2, ?_, u2, u3⟩
            rw [if_neg (nI_ge hd2 (by omega)), bVe (p_deals (by omega) hRt t10 hn hal t74 (by omega))]
            simp (disch := omega) only [↓reduceIte, ↓BR (Rf_dlt hRt), OKm]
            rw [bVe (show f_X6_layTells N 66 79 (dlt τ n al d) = some τ2 from pm_layTells (by omega) (Rf_dlt hRt) hMS2), bIe s1]
            unfold f_X6_odds_78 f_X6_odds_79
            simp only [lt]
            rw [fb_ct_succ] at u1
            rcases s2 with ⟨k, k1, rfl, k3, k4⟩ | ⟨rfl, k3⟩
            · rw [if_neg (show ¬ nI k = (-9 : Int32) from fun z => by
                have := congrArg Int32.toInt z
                rw [nI_toInt (by omega)] at this
                exact absurd this (by show ¬ (k : Int) = -9; omega)), nI_1, nI_1]
              by_cases c : m + 1 < k
              · have hF : F d = false := k4 (m + 1) c
                rw [hF, if_neg Bool.false_ne_true] at u1
                rw [if_pos (nI_lt c (by omega)), nI_z]
                exact u1
              · have hF : F d = true := LV_le (by omega) k3
                rw [hF, if_pos rfl] at u1
                rw [if_neg (nI_nlt (by omega) (by omega)), nI_1]
                exact u1
            · have hF : F d = false := k3 (m + 1)
              rw [hF, if_neg Bool.false_ne_true] at u1
              rw [if_pos rfl, nI_z, nI_1]
              exact u1
      obtain ⟨ρ2, u1, u2, u3⟩ := mm N 0 σ1 (Nat.zero_le _) (by omega) rfl (fun _ _ _ _ => rfl)
      refine ⟨1, σ1, sl (sl ρ2 66 3 (lN (C / Nat.gcd C (4 ^ g)))) 66 4 (lN (4 ^ g / Nat.gcd C (4 ^ g))), b, bx, ?_, rel_core h ?_ (fun a k z => ?_) ?_⟩
      · unfold f_X6_odds
        rw [if_pos OKx.2.1, bIe (two_m1 (N := N) ((em1.1 _ _ (by omega)).trans w3.1) hn hp hq hpq), if_neg (show ¬ (1 : Int32) = 0 by decide), bIe (show f_X6_in N (nI m) 0 (4 : Int32) σ1 = some (1, σ1) from p_in1 (nI_pos (by omega)) (nI_nlt (a := 4) (b := m) (by omega) (by omega))), if_neg (show ¬ (1 : Int32) = 0 by decide)]
        exact u1
      · show ρ2.2.2 = σ.2.2
        rw [u2, ← hσ1]
        show ρ.2.2 = σ.2.2
        rw [r2.1]
      · show gi ρ2 a k = gi σ a k
        unfold core at z
        rw [u3 a k (by omega) (by omega), g1 a k, r2.2 a k (by omega)]
      · have e1 : gl ρ2 0 12 = lN (C / Nat.gcd C (4 ^ g)) := by
          show ρ2.2.1 0 12 = _
          rw [u2, ← hσ1]
          rfl
        have e2 : gl ρ2 0 13 = lN (4 ^ g / Nat.gcd C (4 ^ g)) := by
          show ρ2.2.1 0 13 = _
          rw [u2, ← hσ1]
          rfl
        exact ⟨e1, e2⟩
