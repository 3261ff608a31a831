/-! ===== PURE: fault ===== -/
theorem pl_two (b : Bool) : (pl b = 19 ∧ pl (!b) = 27) ∨ (pl b = 27 ∧ pl (!b) = 19) := by cases b <;> decide
theorem BRdr {ρ : Type} {b : Bool} {σ : Mm} (hR : Rf b σ) : ∀ chk f, bR (ρ := ρ) (gr σ 0 7) chk f = if chk (pl (!b)) then f (pl (!b)) else none := fun chk f => by
  cases b
  · exact bRe hR.2.2.2.2.2.2.2.1 chk f
  · exact bRe hR.2.2.2.2.2.2.2.1 chk f
theorem begX28 {N P : Nat} {b : Bool} (hP : P = 19 ∨ P = 27) : ∀ (f i : Nat) (σ : Mm), i ≤ 6 → 6 - i < f → Rf b σ → (∀ p, p < i → gi σ (P + 3) p = 0 ∧ gi σ (P + 4) p = 0) → ∃ ρ, f_X2_begin_28 N f P (nI i) σ = some ρ ∧ ρ.2 = σ.2 ∧ (∀ a k, a ≠ P + 3 → a ≠ P + 4 → gi ρ a k = gi σ a k) ∧ ∀ p, p < 6 → gi ρ (P + 3) p = 0 ∧ gi ρ (P + 4) p = 0 := by
  intro f
  induction f with
  | zero => intro i σ _ z; omega
  | succ f ih =>
    intro i σ hi hf hR h0
    unfold f_X2_begin_28
    rw [show (6 : Int32) = nI 6 from rfl]
    by_cases e : i = 6
    · subst e
      exact ⟨σ, by rw [if_pos (nI_le (Nat.le_refl 6) (by decide))], rfl, fun _ _ _ _ => rfl, h0⟩
    · have hi : i < 6 := by omega
      obtain ⟨ρ, r1, r2, r3, r4⟩ := ih (i + 1) (si (si σ (P + 3) i 0) (P + 4) i 0) hi (by omega) hR (fun p hp => by
        rw [gi_si, if_neg (by omega), gi_si, gi_si]
        by_cases c : p = i
        · rw [if_pos ⟨rfl, c⟩, if_pos ⟨rfl, c⟩]
          exact ⟨rfl, rfl⟩
        · rw [if_neg (by omega), if_neg (by omega), gi_si, if_neg (by omega)]
          exact h0 p (by omega))
      refine ⟨ρ, ?_, r2, fun a k z1 z2 => by rw [r3 a k z1 z2, gi_si, if_neg (by omega), gi_si, if_neg (by omega)], r4⟩
      rw [if_neg (nI_ge hi (by omega))]
      simp (disch := omega) only [↓reduceIte, ↓BRs, ↓BRp hR hP, ok_p hP, inbT, ix_nI, lt, nI_1]
      exact r1
theorem begX {N P : Nat} {b : Bool} {σ : Mm} (hN : 20 ≤ N) (hP : P = 19 ∨ P = 27) (hR : Rf b σ) : ∃ ρ, f_X2_begin N P σ = some ρ ∧ rFX P σ ρ ∧ rCX ρ P (0, fun _ => 0, fun _ => 0, fun _ => 0) := by
  obtain ⟨ρ, r1, r2, r3, r4⟩ := begX28 (N := N) (b := b) hP N 0 (blt (si σ P 8 0) (P + 2) 0 6 (fun _ => 0)) (by omega) (by omega) hR (fun p hp => absurd hp (Nat.not_lt_zero p))
  have z := loop (fun f i => f_X2_begin_7 N f P (nI i) (blt (si σ P 8 0) (P + 2) 0 i (fun _ => 0))) (some ρ) 6 ?_ ?_ N 0 (by omega) (by omega)
  · rw [blt_0] at z
    refine ⟨ρ, ?_, ⟨r2, fun a k q => by rw [r3 _ _ (by omega) (by omega), blt_out (by omega), gi_si, if_neg (by omega)]⟩, ?_, fun p hp => absurd hp (Nat.not_lt_zero p), fun k hk => ?_, fun p hp => r4 p hp⟩
    · unfold f_X2_begin
      rw [if_pos (ok_p hP).1]
      exact z
    · rw [r3 _ _ (by omega) (by omega), blt_out (by omega), gi_si, if_pos ⟨rfl, rfl⟩]
      rfl
    · rw [r3 _ _ (by omega) (by omega), blt_in hk]
      rfl
  · intro f
    unfold f_X2_begin_7
    rw [show (6 : Int32) = nI 6 from rfl, if_pos (nI_le (Nat.le_refl 6) (by decide))]
    exact r1
  · intro f i hi B hB
    unfold f_X2_begin_7
    have hRi : Rf b (blt (si σ P 8 0) (P + 2) 0 i (fun _ => 0)) := hR
    rw [hB, show (6 : Int32) = nI 6 from rfl, if_neg (nI_ge hi (by omega))]
    simp (disch := omega) only [↓reduceIte, ↓BRp hRi hP, ok_p hP, inbT, ix_nI, lt, nI_1]
    rw [show (0 : Int32) = (fun _ => (0 : Int32)) i from rfl, blt_s0 (g := fun _ => (0 : Int32))]
theorem begM17 {N t : Nat} {b : Bool} : ∀ (f i : Nat) (σ : Mm), i ≤ 6 → 6 - i < f → Rf b σ → (∀ p, p < i → gi σ 76 p = 0 ∧ gi σ 77 p = 0) → ∃ ρ, f_X6_faultOf_17 N f 66 (nI t) (nI i) σ = f_X6_faultOf_43 N N 66 (nI t) ρ ∧ ρ.2 = σ.2 ∧ (∀ a k, a ≠ 76 → a ≠ 77 → gi ρ a k = gi σ a k) ∧ ∀ p, p < 6 → gi ρ 76 p = 0 ∧ gi ρ 77 p = 0 := by
  intro f
  induction f with
  | zero => intro i σ _ z; omega
  | succ f ih =>
    intro i σ hi hf hR h0
    unfold f_X6_faultOf_17
    rw [show (6 : Int32) = nI 6 from rfl]
    by_cases e : i = 6
    · subst e
      exact ⟨σ, by rw [if_pos (nI_le (Nat.le_refl 6) (by decide))], rfl, fun _ _ _ _ => rfl, h0⟩
    · have hi : i < 6 := by omega
      obtain ⟨ρ, r1, r2, r3, r4⟩ := ih (i + 1) (si (si σ 76 i 0) 77 i 0) hi (by omega) hR (fun p hp => by
        rw [gi_si, if_neg (by omega), gi_si, gi_si]
        by_cases c : p = i
        · rw [if_pos ⟨rfl, c⟩, if_pos ⟨rfl, c⟩]
          exact ⟨rfl, rfl⟩
        · rw [if_neg (by omega), if_neg (by omega), gi_si, if_neg (by omega)]
          exact h0 p (by omega))
      refine ⟨ρ, ?_, r2, fun a k z1 z2 => by rw [r3 a k z1 z2, gi_si, if_neg (by omega), gi_si, if_neg (by omega)], r4⟩
      rw [if_neg (nI_ge hi (by omega))]
      simp (disch := omega) only [↓reduceIte, ↓BRs, ↓BR hR, OKm, inbT, ix_nI, lt, nI_1]
      exact r1
theorem rd_all {N t L : Nat} {b : Bool} {f : Nat → Int32} (hN : 100 ≤ N) (ht : t < 4) (hL : L ≤ 60) : ∃ v s, okRS s ∧ ((v = -9 ∧ 0 < s.1) ∨ ∃ j, j ≤ 60 ∧ v = nI j) ∧ (∀ σ, Rf b σ → rTX σ t L f → ∃ τ, f_X2_read N (pl (!b)) (49 + 2 * t) σ = some (v, τ) ∧ rFX (pl (!b)) σ τ ∧ (v = -9 → PX τ (pl (!b)) s.1 s.2.1 (alS s.2.2.1 s.1) s.2.2.2)) ∧ (∀ (b2 : Bool) σ, Rf b2 σ → rTM σ t L f → ∃ τ, f_X6_faultOf N 66 (nI t) σ = some (v, τ) ∧ rFM σ τ ∧ (v = -9 → rCE τ s)) := by
  have hP := pl_cases (!b)
  obtain ⟨v, s, o1, o2, o3, o4⟩ := rd (N := N) (P := pl (!b)) (t := t) (L := L) (b := b) (f := f) hN hP ht hL L 0 false (0, fun _ => 0, fun _ => 0, fun _ => 0) (by omega) (by omega) ⟨by decide, fun p hp => absurd hp (Nat.not_lt_zero p), fun _ _ => ⟨show 0 < 2 ^ 0 by decide, show 0 < 2 ^ 0 by decide⟩, fun p q _ _ => by show (0 : Nat).testBit q = (0 : Nat).testBit p; rw [Nat.zero_testBit, Nat.zero_testBit]⟩
  refine ⟨v, s, o1, o2, fun σ hR hT => ?_, fun b2 σ hR hT => ?_⟩
  · obtain ⟨ρ, r1, r2, r3⟩ := begX (N := N) (by omega) hP hR
    obtain ⟨τ, t1, t2, t3⟩ := o3 N ρ (by omega) (rFX_Rf r2 hR) (rFX_T hP r2 hT) r3
    have t3 : f_X2_read_8 N N (pl (!b)) (49 + 2 * t) 0 0 ρ = _ := t3
    have rt := rFX_trans r2 t1
    by_cases c : v = -9
    · obtain ⟨ω, w1, w2, w3⟩ := p_join (N := N) hN (rFX_Rf rt hR) hP o1 (t2 c)
      refine ⟨ω, ?_, rFX_trans rt w2, fun _ => w3⟩
      unfold f_X2_read
      rw [if_pos (ok_p hP).1, if_pos (OKt ht).1, bVe r1, t3, if_pos c, bVe w1, c]
    · refine ⟨τ, ?_, rt, fun z => absurd z c⟩
      unfold f_X2_read
      rw [if_pos (ok_p hP).1, if_pos (OKt ht).1, bVe r1, t3, if_neg c]
  · let σ1 : Mm := si (si (si σ 66 13 0) 66 14 0) 66 15 0
    have f1 : ∀ a k, ¬ (a = 66 ∧ 13 ≤ k ∧ k ≤ 15) → gi σ1 a k = gi σ a k := fun a k z => by
      show gi (si (si (si σ 66 13 0) 66 14 0) 66 15 0) a k = _
      rw [gi_si, if_neg (by omega), gi_si, if_neg (by omega), gi_si, if_neg (by omega)]
    obtain ⟨ρ, r1, r2, r3, r4⟩ := begM17 (N := N) (t := t) (b := b2) N 0 σ1 (by omega) (by omega) hR (fun p hp => absurd hp (Nat.not_lt_zero p))
    have fm : rFM σ ρ := ⟨r2, fun a k z1 z2 => by rw [r3 _ _ (by omega) (by omega), f1 _ _ z1]⟩
    obtain ⟨τ, t1, t2, t3⟩ := o4 b2 N ρ (by omega) (rFM_Rf fm hR) (rFM_T fm hT) ⟨by
        rw [r3 _ _ (by omega) (by omega)]
        show gi (si (si (si σ 66 13 0) 66 14 0) 66 15 0) 66 13 = _
        rw [gi_si, if_neg (by omega), gi_si, if_neg (by omega), gi_si, if_pos ⟨rfl, rfl⟩]
        rfl, by
        rw [r3 _ _ (by omega) (by omega)]
        show gi (si (si (si σ 66 13 0) 66 14 0) 66 15 0) 66 15 = _
        rw [gi_si, if_pos ⟨rfl, rfl⟩]
        rfl, by
        rw [r3 _ _ (by omega) (by omega)]
        show gi (si (si (si σ 66 13 0) 66 14 0) 66 15 0) 66 14 = _
        rw [gi_si, if_neg (by omega), gi_si, if_pos ⟨rfl, rfl⟩]
        rfl, fun p hp => absurd hp (Nat.not_lt_zero p), fun p hp => r4 p hp⟩
    refine ⟨τ, ?_, rFM_trans fm t1, t2⟩
    unfold f_X6_faultOf
    rw [if_pos OKx.2.1]
    exact r1.trans t3
theorem rel_read {b : Bool} {σ τ ρ : Mm} (h : Rel b σ) (x : rFX (pl (!b)) σ τ) (m : rFM τ ρ) : Rel b ρ := by
  have hp := pl_two b
  have fr : ∀ a k, (a < pl (!b) ∨ pl (!b) + 7 < a) → ¬ (a = 66 ∧ 13 ≤ k ∧ k ≤ 15) → ¬ (75 ≤ a ∧ a ≤ 77) → gi ρ a k = gi σ a k := fun a k z1 z2 z3 => (m.2 a k z2 z3).trans (x.2 a k z1)
  obtain ⟨n, kd, al, sg, ds, kp, h1, h2, h3⟩ := h.2.2.2.2
  exact rel_TW h (m.1.trans x.1) (fun a k q => fr a k (by omega) (by omega) (by omega)) ⟨n, kd, al, sg, ds, kp, h1, TWx_congr (σ := σ) (fun a k q => fr a k (by omega) (by omega) (by omega)) h2, TWm_congr (σ := σ) h1.1 (fun a k q => fr a k (by omega) (by omega) (by omega)) h3⟩
theorem s_fault {N : Nat} (hN : 100 ≤ N) (r : Int32) : Sim (f_X5_fault N 0 r) (f_X6_fault N 66 r) := by
  intro b σ h
  have hR := h.1
  rcases arg2 r 4 (by decide) with q | ⟨t, ht, rfl⟩
  · refine ⟨-1, σ, σ, b, ?_, ?_, h⟩
    · unfold f_X5_fault
      rw [if_pos OKx.1, bIe (p_isTextX (N := N) q)]
      rfl
    · unfold f_X6_fault
      rw [if_pos OKx.2.1, bIe (p_isTextM (N := N) q)]
      rfl
  · obtain ⟨g1, g2⟩ := h.2.2.2.1 t ht
    rcases g2 with g2 | ⟨L, hL, g2, g3⟩
    · refine ⟨-3, fndX σ 1, fndM (fndX σ 1) 1, b, ?_, ?_, rel_find h (by decide)⟩
      · unfold f_X5_fault
        rw [if_pos OKx.1, bIe (p_isTextXy (N := N) ht), if_neg (show ¬ (1 : Int32) = 0 by decide)]
        simp (disch := omega) only [↓reduceIte, ↓BRt hR, OKx, OKt ht, inbT, ix_nI]
        rw [g1, g2, if_pos rfl, bIe (p_fnd hR).1]
      · have e1 : gi (fndX σ 1) 71 t = -1 := by rw [gi_fndX, if_neg (by omega), if_neg (by omega)]; exact g2
        unfold f_X6_fault
        rw [if_pos OKx.2.1, bIe (p_isTextMy (N := N) ht), if_neg (show ¬ (1 : Int32) = 0 by decide)]
        simp (disch := omega) only [↓reduceIte, ↓BR (Rf_fX (f := 1) hR), OKm, inbT, ix_nI]
        rw [e1, if_neg (show ¬ (0 : Int32) ≤ -1 by decide), bIe (p_mts (Rf_fX hR)).1]
    · obtain ⟨v, s, o1, o2, ox, om⟩ := rd_all (N := N) (t := t) (L := L) (b := b) (f := fun j => gi σ (50 + 2 * t) j) hN ht hL
      have hp := pl_two b
      obtain ⟨τ, x1, x2, x3⟩ := ox σ hR ⟨g1.trans g2, fun j hj => rfl⟩
      have hT : rTM τ t L (fun j => gi σ (50 + 2 * t) j) := ⟨(x2.2 _ _ (by omega)).trans g2, fun j hj => (x2.2 _ _ (by omega)).trans (g3 j hj).symm⟩
      have hRt := rFX_Rf x2 hR
      obtain ⟨ρ, m1, m2, m3⟩ := om b τ hRt hT
      refine ⟨v, τ, ρ, b, ?_, ?_, rel_read h x2 m2⟩
      · unfold f_X5_fault
        rw [if_pos OKx.1, bIe (p_isTextXy (N := N) ht), if_neg (show ¬ (1 : Int32) = 0 by decide)]
        simp (disch := omega) only [↓reduceIte, ↓BRt hR, OKx, OKt ht, inbT, ix_nI]
        rw [g1, g2, if_neg (show ¬ nI L = (-1 : Int32) by rw [nI_nm1 (by omega)]; exact not_false), BRdr hR, if_pos (ok_p (pl_cases (!b))).1, bIe x1]
      · unfold f_X6_fault
        rw [if_pos OKx.2.1, bIe (p_isTextMy (N := N) ht), if_neg (show ¬ (1 : Int32) = 0 by decide)]
        simp (disch := omega) only [↓reduceIte, ↓BR hRt, OKm, inbT, ix_nI]
        rw [hT.1, if_pos (show (0 : Int32) ≤ nI L by rw [le0T (by omega)]; trivial), bIe m1]
