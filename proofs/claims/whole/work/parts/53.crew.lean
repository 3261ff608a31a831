/-! ===== PURE: crew, crier ===== -/
def allb (P : Nat → Bool) : Nat → Bool
  | 0 => true
  | n + 1 => allb P n && P n
theorem allb_f {P : Nat → Bool} {i : Nat} (h : P i = false) : ∀ {n : Nat}, i < n → allb P n = false
  | 0, hn => absurd hn (Nat.not_lt_zero _)
  | n + 1, hn => by
    unfold allb
    by_cases e : i = n
    · subst e; rw [h, Bool.and_false]
    · rw [allb_f h (by omega : i < n), Bool.false_and]
theorem allb_iff {P : Nat → Bool} : ∀ {n : Nat}, allb P n = true ↔ ∀ i, i < n → P i = true
  | 0 => by simp [allb]
  | n + 1 => by
    unfold allb
    rw [Bool.and_eq_true, allb_iff]
    constructor
    · rintro ⟨h1, h2⟩ i hi
      by_cases e : i = n
      · subst e; exact h2
      · exact h1 i (by omega)
    · intro h
      exact ⟨fun i hi => h i (by omega), h n (by omega)⟩
def cwB (T : Nat → Nat) (S m : Nat) : Bool := !S.testBit m || decide (anb (anb S (2 ^ m)) (T m) = 0)
theorem p_crewX {N o n S : Nat} {b : Bool} {σ : Mm} {T : Nat → Nat} (hN : 20 ≤ N) (hR : Rf b σ) (h : GX σ o n T) (hS : S < 64) : f_X0_isCrew N o (nI S) σ = some (if allb (cwB T S) n then 1 else 0, σ) := by
  obtain ⟨h1, h2, h3, h4, h5⟩ := h
  have h6 := pow6 h3
  have hd := ok_d h5
  have key : ∀ (k i : Nat), i ≤ n → n - i < k → allb (cwB T S) i = true → f_X0_isCrew_2 N k o (nI S) (nI i) σ = some (if allb (cwB T S) n then 1 else 0, σ) := by
    intro k
    induction k with
    | zero => intro i _ h; omega
    | succ k ih =>
      intro i hi hk ha
      unfold f_X0_isCrew_2
      rw [h1]
      by_cases e : i = n
      · subst e
        simp (disch := omega) only [↓reduceIte, leT, ha]
      · have hin : i < n := by omega
        have p2 : 2 ^ i < 64 := Nat.lt_of_lt_of_le (Nat.pow_lt_pow_right (by decide) hin) h6
        have go : cwB T S i = true → f_X0_isCrew_39 N (f_X0_isCrew_2 N k) o (nI S) (nI i) σ = some (if allb (cwB T S) n then 1 else 0, σ) := fun hc => by
          unfold f_X0_isCrew_39
          rw [nI_1]
          exact ih (i + 1) (by omega) (by omega) (by show (allb (cwB T S) i && cwB T S i) = true; rw [ha, hc]; rfl)
        have ht := h4 i hin
        simp (disch := omega) only [↓reduceIte, leF, ↓bIe (p_holds (N := N) (σ := σ) (S := S) (j := i) hS (by omega))]
        cases c : S.testBit i with
        | false =>
          simp only [Bool.false_eq_true, ↓reduceIte]
          exact go (by unfold cwB; rw [c]; rfl)
        | true =>
          rw [if_pos rfl, if_neg (show ¬ (1 : Int32) = 0 by decide)]
          simp (disch := omega) only [↓reduceIte, ↓BRd hR h5, hd, inbT, ix_nI, h2 i hin]
          rw [shl1 _ (by omega), andnot6 _ hS _ p2, andnot6 _ anb_lt _ (by omega)]
          have hl := anb_lt (a := anb S (2 ^ i)) (b := T i)
          by_cases c2 : anb (anb S (2 ^ i)) (T i) = 0
          · rw [c2, if_pos (show nI 0 = 0 from rfl)]
            exact go (by unfold cwB; rw [c2]; simp)
          · rw [if_neg (show ¬ nI (anb (anb S (2 ^ i)) (T i)) = 0 from fun q => c2 ((nI_eq (by omega) (by omega)).mp (show _ = nI 0 from q)))]
            rw [allb_f (P := cwB T S) (i := i) (by unfold cwB; rw [c]; simp [c2]) hin]
            rfl
  unfold f_X0_isCrew
  rw [if_pos hd.1]
  exact key N 0 (by omega) (by omega) rfl
theorem p_crewM {N n S : Nat} {b : Bool} {σ : Mm} {T : Nat → Nat} (hN : 20 ≤ N) (hR : Rf b σ) (h : GM σ n T) (hS : S < 64) : f_X6_isCrew N 66 (nI S) σ = some (if allb (cwB T S) n then 1 else 0, σ) := by
  obtain ⟨h1, h2, h3, h4⟩ := h
  have h6 := pow6 h3
  have key : ∀ (k i : Nat), i ≤ n → n - i < k → f_X6_isCrew_4 N k 66 (nI S) (if allb (cwB T S) i then 1 else 0) (nI i) σ = some (if allb (cwB T S) n then 1 else 0, σ) := by
    intro k
    induction k with
    | zero => intro i _ h; omega
    | succ k ih =>
      intro i hi hk
      unfold f_X6_isCrew_4
      rw [h1]
      by_cases e : i = n
      · subst e
        simp (disch := omega) only [↓reduceIte, leT]
        cases allb (cwB T S) i <;> rfl
      · have hin : i < n := by omega
        have p2 : 2 ^ i < 64 := Nat.lt_of_lt_of_le (Nat.pow_lt_pow_right (by decide) hin) h6
        have hst : allb (cwB T S) (i + 1) = (allb (cwB T S) i && cwB T S i) := rfl
        have g47 : allb (cwB T S) (i + 1) = false → f_X6_isCrew_47 N (f_X6_isCrew_4 N k) 66 (nI S) (nI i) σ = some (if allb (cwB T S) n then 1 else 0, σ) := fun hc => by
          have := ih (i + 1) (by omega) (by omega)
          rw [hc] at this
          unfold f_X6_isCrew_47 f_X6_isCrew_48
          rw [nI_1]
          exact this
        have g43 : allb (cwB T S) (i + 1) = true → f_X6_isCrew_43 N (f_X6_isCrew_4 N k) 66 (nI S) (nI i) σ = some (if allb (cwB T S) n then 1 else 0, σ) := fun hc => by
          have := ih (i + 1) (by omega) (by omega)
          rw [hc] at this
          unfold f_X6_isCrew_43 f_X6_isCrew_48
          rw [nI_1]
          exact this
        have ht := h4 i hin
        simp (disch := omega) only [↓reduceIte, leF]
        cases c0 : allb (cwB T S) i with
        | false =>
          simp only [Bool.false_eq_true, ↓reduceIte]
          exact g47 (by rw [hst, c0]; rfl)
        | true =>
          rw [if_pos rfl, if_neg (show ¬ (1 : Int32) = 0 by decide), bIe (p_has (N := N) (S := S) (j := i) hS (by omega))]
          cases c : S.testBit i with
          | false =>
            simp only [Bool.false_eq_true, ↓reduceIte]
            exact g43 (by rw [hst, c0]; unfold cwB; rw [c]; rfl)
          | true =>
            rw [if_pos rfl, if_neg (show ¬ (1 : Int32) = 0 by decide)]
            simp (disch := omega) only [↓reduceIte, ↓BR hR, OKm, inbT, ix_nI, h2 i hin]
            rw [shl1 _ (by omega), andnot6 _ hS _ p2, andnot6 _ anb_lt _ (by omega)]
            have hl := anb_lt (a := anb S (2 ^ i)) (b := T i)
            by_cases c2 : anb (anb S (2 ^ i)) (T i) = 0
            · rw [c2, if_pos (show nI 0 = 0 from rfl)]
              exact g43 (by rw [hst, c0]; unfold cwB; rw [c2]; simp)
            · rw [if_neg (show ¬ nI (anb (anb S (2 ^ i)) (T i)) = 0 from fun q => c2 ((nI_eq (by omega) (by omega)).mp (show _ = nI 0 from q)))]
              exact g47 (by rw [hst, c0]; unfold cwB; rw [c]; simp [c2])
  unfold f_X6_isCrew
  rw [if_pos OKx.2.1]
  exact key N 0 (by omega) (by omega)
/-- the largest crew among the sets below s -/
def bst (C : Nat → Bool) : Nat → Nat
  | 0 => 0
  | s + 1 => if decide (pc 6 (bst C s) < pc 6 s) && C s then s else bst C s
theorem bst_lt {C : Nat → Bool} {m : Nat} (hm : 0 < m) : ∀ s, s ≤ m → bst C s < m
  | 0, _ => hm
  | s + 1, h => by
    unfold bst
    split
    · omega
    · exact bst_lt hm s (by omega)
theorem bst_no {C : Nat → Bool} {s : Nat} (h : ¬ (pc 6 (bst C s) < pc 6 s ∧ C s = true)) : bst C (s + 1) = bst C s := by
  show (if decide (pc 6 (bst C s) < pc 6 s) && C s then s else bst C s) = _
  rw [if_neg]
  simp only [Bool.and_eq_true, decide_eq_true_eq]
  exact h
theorem bst_yes {C : Nat → Bool} {s : Nat} (h : pc 6 (bst C s) < pc 6 s) (hc : C s = true) : bst C (s + 1) = s := by
  show (if decide (pc 6 (bst C s) < pc 6 s) && C s then s else bst C s) = _
  rw [if_pos]
  simp only [Bool.and_eq_true, decide_eq_true_eq]
  exact ⟨h, hc⟩
theorem s_crew {N : Nat} (hN : 100 ≤ N) : Sim (f_X5_crew N 0) (f_X6_crew N 66) := by
  intro b σ h
  have hR := h.1
  obtain ⟨n, kd, al, sg, ds, kp, w1, w2, w3⟩ := h.2.2.2.2
  have hs := w2.1.1
  have hn := w1.1
  have hP := pl_cases b
  have h6 := pow6 hn
  by_cases hn0 : n = 0
  · subst hn0
    refine ⟨-4, σ, σ, b, ?_, ?_, h⟩
    · unfold f_X5_crew
      rw [if_pos OKx.1, BRpl hR, if_pos (ok_p hP).1, hs]
      rfl
    · unfold f_X6_crew
      rw [if_pos OKx.2.1, w3.1]
      rfl
  · have hm := TW_MS (b := b) w1 w3
    have hg := YX_GX hn (Or.inl rfl) w2.2.1
    generalize hT : te n kd (rep al sg ds).1 (rep al sg ds).2.1 (rep al sg ds).2.2.2 = T at hg
    have h2n : 1 < 2 ^ n := Nat.one_lt_two_pow hn0
    have hb0 : bst (fun S => allb (cwB T S) n) 1 = 0 := rfl
    have kx : ∀ (k i : Nat), i ≤ 2 ^ n → 2 ^ n - i < k → f_X5_crew_19 N k 0 (nI (bst (fun S => allb (cwB T S) n) i)) (nI (pc 6 (bst (fun S => allb (cwB T S) n) i))) (nI i) σ = some (nI (pc 6 (bst (fun S => allb (cwB T S) n) (2 ^ n))), si σ 0 11 (nI (bst (fun S => allb (cwB T S) n) (2 ^ n)))) := by
      intro k
      induction k with
      | zero => intro i _ h; omega
      | succ k ih =>
        intro i hi hk
        unfold f_X5_crew_19
        rw [BRpl hR, if_pos (ok_p hP).1, bIe (p_everyX (N := N) hP hs hn)]
        by_cases e : i = 2 ^ n
        · subst e
          simp (disch := omega) only [↓reduceIte, ltT, lt]
        · have c1 := pc6_le (S := i)
          have c2 := pc6_le (S := bst (fun S => allb (cwB T S) n) i)
          have g58 : ∀ z w : Nat, bst (fun S => allb (cwB T S) n) (i + 1) = z → pc 6 z = w → f_X5_crew_58 N (f_X5_crew_19 N k) 0 (nI z) (nI w) (nI i) σ = some (nI (pc 6 (bst (fun S => allb (cwB T S) n) (2 ^ n))), si σ 0 11 (nI (bst (fun S => allb (cwB T S) n) (2 ^ n)))) := fun z w hz hw => by
            unfold f_X5_crew_58
            rw [nI_1, ← hw, ← hz]
            exact ih (i + 1) (by omega) (by omega)
          simp (disch := omega) only [↓reduceIte, ltF, ↓bIe (p_bitC (N := N) (σ := σ) (S := i) (by omega))]
          by_cases c3 : pc 6 i ≤ pc 6 (bst (fun S => allb (cwB T S) n) i)
          · rw [if_pos (nI_le c3 (by omega))]
            exact g58 _ _ (bst_no (fun q => by omega)) rfl
          · rw [if_neg (nI_ge (by omega) (by omega))]
            simp only [↓reduceIte, ↓BR hR, OKx]
            rw [bIe (p_crewX (by omega) hR hg (S := i) (by omega))]
            cases c4 : allb (cwB T i) n with
            | false =>
              simp only [Bool.false_eq_true, ↓reduceIte]
              exact g58 _ _ (bst_no (fun q => by have := q.2; simp only [c4] at this; cases this)) rfl
            | true =>
              rw [if_pos rfl, if_neg (show ¬ (1 : Int32) = 0 by decide)]
              exact g58 _ _ (bst_yes (by omega) c4) rfl
    have km : ∀ (τ : Mm), Rf b τ → GM τ n T → ∀ (k i : Nat), i ≤ 2 ^ n → 2 ^ n - i < k → f_X6_crew_22 N k 66 (nI (bst (fun S => allb (cwB T S) n) i)) (nI i) τ = some (nI (pc 6 (bst (fun S => allb (cwB T S) n) (2 ^ n))), si τ 66 2 (nI (bst (fun S => allb (cwB T S) n) (2 ^ n)))) := by
      intro τ hR2 hgm k
      induction k with
      | zero => intro i _ h; omega
      | succ k ih =>
        intro i hi hk
        have bl := bst_lt (C := fun S => allb (cwB T S) n) (m := 2 ^ n) (by omega) i hi
        unfold f_X6_crew_22
        rw [bIe (p_everyM (N := N) hgm.1 hn)]
        by_cases e : i = 2 ^ n
        · subst e
          simp (disch := omega) only [↓reduceIte, ltT]
          rw [bIe (p_bits (by omega) (by omega)), bIe (p_gives (N := N) hR2)]
        · have c1 := pc6_le (S := i)
          have c2 := pc6_le (S := bst (fun S => allb (cwB T S) n) i)
          have g54 : ∀ z : Nat, bst (fun S => allb (cwB T S) n) (i + 1) = z → f_X6_crew_54 N (f_X6_crew_22 N k) 66 (nI i) (nI z) τ = some (nI (pc 6 (bst (fun S => allb (cwB T S) n) (2 ^ n))), si τ 66 2 (nI (bst (fun S => allb (cwB T S) n) (2 ^ n)))) := fun z hz => by
            unfold f_X6_crew_54
            rw [nI_1, ← hz]
            exact ih (i + 1) (by omega) (by omega)
          simp (disch := omega) only [↓reduceIte, ltF]
          rw [bIe (p_bits (by omega) (show i < 64 by omega)), bIe (p_bits (by omega) (show bst (fun S => allb (cwB T S) n) i < 64 by omega))]
          by_cases c3 : pc 6 i ≤ pc 6 (bst (fun S => allb (cwB T S) n) i)
          · rw [if_pos (nI_le c3 (by omega))]
            exact g54 _ (bst_no (fun q => by omega))
          · rw [if_neg (nI_ge (by omega) (by omega)), bIe (p_crewM (by omega) hR2 hgm (S := i) (by omega))]
            cases c4 : allb (cwB T i) n with
            | false =>
              simp only [Bool.false_eq_true, ↓reduceIte]
              exact g54 _ (bst_no (fun q => by have := q.2; simp only [c4] at this; cases this))
            | true =>
              rw [if_pos rfl, if_neg (show ¬ (1 : Int32) = 0 by decide)]
              exact g54 _ (bst_yes (by omega) c4)
    refine ⟨nI (pc 6 (bst (fun S => allb (cwB T S) n) (2 ^ n))), si σ 0 11 (nI (bst (fun S => allb (cwB T S) n) (2 ^ n))), si (blt (si σ 0 11 (nI (bst (fun S => allb (cwB T S) n) (2 ^ n)))) 80 0 n (fun m => nI (T m))) 66 2 (nI (bst (fun S => allb (cwB T S) n) (2 ^ n))), b, ?_, ?_, ?_⟩
    · unfold f_X5_crew
      rw [if_pos OKx.1, BRpl hR, if_pos (ok_p hP).1, hs, if_neg (nI_ne0 (by omega) (by omega))]
      have := kx N 1 (by omega) (by omega)
      rw [hb0] at this
      exact this
    · have hR1 : Rf b (si σ 0 11 (nI (bst (fun S => allb (cwB T S) n) (2 ^ n)))) := hR
      have hm1 : MS (si σ 0 11 (nI (bst (fun S => allb (cwB T S) n) (2 ^ n)))) 78 n kd (rep al sg ds) := MS_congr (σ := σ) (fun a k z => by rw [gi_si, if_neg (by omega)]) hm
      have hgm := GM_lay hm1
      have hly := pm_layTells (N := N) (by omega) hR1 hm1
      rw [hT] at hgm hly
      unfold f_X6_crew
      rw [if_pos OKx.2.1, hm1.1, if_neg (nI_ne0 (by omega) (by omega))]
      simp only [↓reduceIte, ↓BR hR1, OKm]
      rw [bVe hly]
      exact km _ (Rf_blt hR1) hgm N 0 (by omega) (by omega)
    · have h1 := rel_asked (rel_lay80 h n (fun m => nI (T m))) (nI (bst (fun S => allb (cwB T S) n) (2 ^ n)))
      rw [swap80] at h1
      exact h1
/-- the first from whom orders go to most -/
def crb (R : Nat → Nat) : Nat → Nat
  | 0 => 0
  | i + 1 => if pc 6 (R (crb R i)) < pc 6 (R i) then i else crb R i
theorem crb_lt {R : Nat → Nat} {n : Nat} (hn : 0 < n) : ∀ i, i ≤ n → crb R i < n
  | 0, _ => hn
  | i + 1, h => by
    unfold crb
    split
    · omega
    · exact crb_lt hn i (by omega)
theorem pc_pos {S p : Nat} (hp : p < 6) (h : S.testBit p = true) : 0 < pc 6 S := fb_ct_pos.mpr ⟨p, hp, h⟩
theorem s_crier {N : Nat} (hN : 100 ≤ N) : Sim (f_X5_crier N 0) (f_X6_crier N 66) := by
  intro b σ h
  have hR := h.1
  obtain ⟨n, kd, al, sg, ds, kp, w1, w2, w3⟩ := h.2.2.2.2
  have hs := w2.1.1
  have hn := w1.1
  have hP := pl_cases b
  have h6 := pow6 hn
  by_cases hn0 : n = 0
  · subst hn0
    refine ⟨-4, σ, σ, b, ?_, ?_, h⟩
    · unfold f_X5_crier
      rw [if_pos OKx.1, BRpl hR, if_pos (ok_p hP).1, hs]
      rfl
    · unfold f_X6_crier
      rw [if_pos OKx.2.1, w3.1]
      rfl
  · have hm := TW_MS (b := b) w1 w3
    have hg := YX_GX hn (Or.inl rfl) w2.2.1
    generalize hT : te n kd (rep al sg ds).1 (rep al sg ds).2.1 (rep al sg ds).2.2.2 = T at hg
    have hTl := hg.2.2.2.1
    have hcl : ∀ i, i ≤ n → crb (fun p => LV T n p 63 6) i < n := crb_lt (by omega)
    have hpp : ∀ p, p < n → 0 < pc 6 (LV T n p 63 6) ∧ LV T n p 63 6 < 64 := fun p hp => ⟨pc_pos (by omega) LV_p, Nat.lt_of_lt_of_le (LV_lt hTl hp 6) h6⟩
    have cst : ∀ i, crb (fun p => LV T n p 63 6) (i + 1) = if pc 6 (LV T n (crb (fun p => LV T n p 63 6) i) 63 6) < pc 6 (LV T n i 63 6) then i else crb (fun p => LV T n p 63 6) i := fun i => rfl
    have kx : ∀ (k i : Nat), 1 ≤ i → i ≤ n → n - i < k → f_X5_crier_19 N k 0 (nI (crb (fun p => LV T n p 63 6) i)) (nI (pc 6 (LV T n (crb (fun p => LV T n p 63 6) i) 63 6) - 1)) (nI i) σ = some (nI (crb (fun p => LV T n p 63 6) n), si σ 0 11 (nI (pc 6 (LV T n (crb (fun p => LV T n p 63 6) n) 63 6) - 1))) := by
      intro k
      induction k with
      | zero => intro i _ _ h; omega
      | succ k ih =>
        intro i hi1 hi hk
        unfold f_X5_crier_19
        rw [BRpl hR, if_pos (ok_p hP).1, hs]
        by_cases e : i = n
        · subst e
          simp (disch := omega) only [↓reduceIte, leT, lt]
        · have hin : i < n := by omega
          obtain ⟨a1, a2⟩ := hpp i hin
          obtain ⟨a3, a4⟩ := hpp _ (hcl i hi)
          have c1 := pc6_le (S := LV T n i 63 6)
          have c2 := pc6_le (S := LV T n (crb (fun p => LV T n p 63 6) i) 63 6)
          simp (disch := omega) only [↓reduceIte, leF, ↓BR hR, OKx]
          rw [show (63 : Int32) = nI 63 from rfl, show (6 : Int32) = nI 6 from rfl, bIe (p_reached (by omega) hR hg hin (by decide) (Nat.le_refl 6)), bIe (p_bitC (N := N) a2), show (1 : Int32) = nI 1 from rfl, nI_subT (by omega)]
          show (if nI (pc 6 (LV T n i 63 6) - 1) ≤ nI (pc 6 (LV T n (crb (fun p => LV T n p 63 6) i) 63 6) - 1) then _ else _) = _
          unfold f_X5_crier_60
          rw [show (1 : Int32) = nI 1 from rfl, nI_add]
          have ih2 := ih (i + 1) (by omega) (by omega) (by omega)
          rw [cst i] at ih2
          by_cases c3 : pc 6 (LV T n (crb (fun p => LV T n p 63 6) i) 63 6) < pc 6 (LV T n i 63 6)
          · rw [if_pos c3] at ih2
            rw [if_neg (nI_ge (by omega) (by omega))]
            exact ih2
          · rw [if_neg c3] at ih2
            rw [if_pos (nI_le (by omega) (by omega))]
            exact ih2
    have km : ∀ (τ : Mm), Rf b τ → GM τ n T → ∀ (k i : Nat), i ≤ n → n - i < k → f_X6_crier_22 N k 66 (nI (crb (fun p => LV T n p 63 6) i)) (nI i) τ = some (nI (crb (fun p => LV T n p 63 6) n), si τ 66 2 (nI (pc 6 (LV T n (crb (fun p => LV T n p 63 6) n) 63 6) - 1))) := by
      intro τ hR2 hgm k
      have rr : ∀ p, p < n → f_X6_reaches N 66 (nI p) (nI (2 ^ n - 1)) τ = some (nI (LV T n p 63 6), τ) := fun p hp => by
        rw [p_reaches (by omega) hR2 hgm hp (show 2 ^ n - 1 < 64 by omega), LV_all hn, LV_stable hTl hp (j := 6) (by omega)]
      induction k with
      | zero => intro i _ h; omega
      | succ k ih =>
        intro i hi hk
        obtain ⟨a3, a4⟩ := hpp _ (hcl i hi)
        unfold f_X6_crier_22
        rw [hgm.1]
        by_cases e : i = n
        · subst e
          simp (disch := omega) only [↓reduceIte, leT]
          rw [bIe (p_everyM (N := N) hgm.1 hn), bIe (rr _ (hcl i hi)), bIe (p_bits (by omega) a4), show (1 : Int32) = nI 1 from rfl, nI_subT (by omega), bIe (p_gives (N := N) hR2)]
        · have hin : i < n := by omega
          obtain ⟨a1, a2⟩ := hpp i hin
          have c1 := pc6_le (S := LV T n i 63 6)
          have c2 := pc6_le (S := LV T n (crb (fun p => LV T n p 63 6) i) 63 6)
          simp (disch := omega) only [↓reduceIte, leF]
          rw [bIe (p_everyM (N := N) hgm.1 hn), bIe (rr _ hin), bIe (p_bits (by omega) a2), bIe (p_everyM (N := N) hgm.1 hn), bIe (rr _ (hcl i hi)), bIe (p_bits (by omega) a4)]
          unfold f_X6_crier_62
          rw [nI_1]
          have ih2 := ih (i + 1) (by omega) (by omega)
          rw [cst i] at ih2
          by_cases c3 : pc 6 (LV T n (crb (fun p => LV T n p 63 6) i) 63 6) < pc 6 (LV T n i 63 6)
          · rw [if_pos c3] at ih2
            rw [if_neg (nI_ge c3 (by omega))]
            exact ih2
          · rw [if_neg c3] at ih2
            rw [if_pos (nI_le (by omega) (by omega))]
            exact ih2
    refine ⟨nI (crb (fun p => LV T n p 63 6) n), si σ 0 11 (nI (pc 6 (LV T n (crb (fun p => LV T n p 63 6) n) 63 6) - 1)), si (blt (si σ 0 11 (nI (pc 6 (LV T n (crb (fun p => LV T n p 63 6) n) 63 6) - 1))) 80 0 n (fun m => nI (T m))) 66 2 (nI (pc 6 (LV T n (crb (fun p => LV T n p 63 6) n) 63 6) - 1)), b, ?_, ?_, ?_⟩
    · obtain ⟨N1, rfl⟩ : ∃ N1, N = N1 + 1 := ⟨N - 1, by omega⟩
      obtain ⟨a1, a2⟩ := hpp 0 (by omega)
      have c1 := pc6_le (S := LV T n 0 63 6)
      unfold f_X5_crier
      rw [if_pos OKx.1, BRpl hR, if_pos (ok_p hP).1, hs, if_neg (nI_ne0 (by omega) (by omega))]
      unfold f_X5_crier_19
      rw [BRpl hR, if_pos (ok_p hP).1, hs, if_neg (show ¬ nI n ≤ 0 from nI_nle (by omega) (by omega))]
      simp only [↓reduceIte, ↓BR hR, OKx]
      rw [show (63 : Int32) = nI 63 from rfl, show (6 : Int32) = nI 6 from rfl, show (0 : Int32) = nI 0 from rfl, bIe (p_reached (p := 0) (by omega) hR hg (by omega) (by decide) (Nat.le_refl 6)), bIe (p_bitC (N := N1 + 1) a2), show (1 : Int32) = nI 1 from rfl, nI_subT (by omega)]
      show (if nI (pc 6 (LV T n 0 63 6) - 1) ≤ -nI 1 then _ else _) = _
      rw [if_neg (fun q => by
        rw [fa_le, nI_toInt (by omega)] at q
        have e : (-nI 1 : Int32).toInt = -1 := by decide
        omega)]
      have := kx N1 1 (by omega) (by omega) (by omega)
      have e0 : crb (fun p => LV T n p 63 6) 1 = 0 := by rw [cst 0]; show (if _ then 0 else 0) = 0; split <;> rfl
      rw [e0] at this
      exact this
    · have hR1 : Rf b (si σ 0 11 (nI (pc 6 (LV T n (crb (fun p => LV T n p 63 6) n) 63 6) - 1))) := hR
      have hm1 : MS (si σ 0 11 (nI (pc 6 (LV T n (crb (fun p => LV T n p 63 6) n) 63 6) - 1))) 78 n kd (rep al sg ds) := MS_congr (σ := σ) (fun a k z => by rw [gi_si, if_neg (by omega)]) hm
      have hgm := GM_lay hm1
      have hly := pm_layTells (N := N) (by omega) hR1 hm1
      rw [hT] at hgm hly
      unfold f_X6_crier
      rw [if_pos OKx.2.1, hm1.1, if_neg (nI_ne0 (by omega) (by omega))]
      simp only [↓reduceIte, ↓BR hR1, OKm]
      rw [bVe hly]
      exact km _ (Rf_blt hR1) hgm N 0 (by omega) (by omega)
    · have h1 := rel_asked (rel_lay80 h n (fun m => nI (T m))) (nI (pc 6 (LV T n (crb (fun p => LV T n p 63 6) n) 63 6) - 1))
      rw [swap80] at h1
      exact h1
