/-! ===== PURE: bits; the reference's view of a day ===== -/
theorem shl1 : ∀ d : Nat, d < 31 → (1 : Int32) <<< (nI d &&& 31) = nI (2 ^ d) := by decide +kernel
theorem bit6 : ∀ S : Nat, S < 64 → ∀ j : Nat, j < 6 → (nI S >>> (nI j &&& 31)) &&& 1 = (if S.testBit j then 1 else 0) := by decide +kernel
theorem p_has {N S j : Nat} {σ : Mm} (hS : S < 64) (hj : j < 6) : f_X6_has N (nI S) (nI j) σ = some (if S.testBit j then 1 else 0, σ) := by
  unfold f_X6_has
  rw [bit6 S hS j hj]
  cases S.testBit j <;> rfl
theorem p_holds {N S j : Nat} {σ : Mm} (hS : S < 64) (hj : j < 6) : f_X5_holds N (nI S) (nI j) σ = some (if S.testBit j then 1 else 0, σ) := by
  unfold f_X5_holds
  rw [bit6 S hS j hj]
  cases S.testBit j <;> rfl
theorem nxt_mod {n p : Nat} (h : p < n) : (p + 1) % n = nxt n p := by
  unfold nxt
  split
  · exact Nat.mod_eq_of_lt (by omega)
  · rw [show p + 1 = n by omega, Nat.mod_self]
theorem prv_mod {n p : Nat} (h : p < n) : (p + n - 1) % n = prv n p := by
  unfold prv
  split
  · rw [show p + n - 1 = p - 1 + n by omega, Nat.add_mod_right]
    exact Nat.mod_eq_of_lt (by omega)
  · rw [show p = 0 by omega, Nat.zero_add]
    exact Nat.mod_eq_of_lt (by omega)
theorem nI_or (a b : Nat) : nI a ||| nI b = nI (a ||| b) := fa_or a b
theorem nI_and (a b : Nat) : nI a &&& nI b = nI (a &&& b) := fa_and a b
/-- what the reference's cells say of a day that is held in the array o -/
def MS (σ : Mm) (o n : Nat) (kd : Nat → Nat) (y : Dy) : Prop := gi σ 66 10 = nI n ∧ (∀ p, p < n → gi σ 73 p = nI (kd p)) ∧ VM n y (gi σ o) ∧ n ≤ 6 ∧ (∀ p, p < n → kd p ≤ 5) ∧ (∀ p, p < n → y.1 p < 4) ∧ (∀ p, p < n → y.2.1 p < 2 ^ n) ∧ (o = 78 ∨ o = 79)
theorem ok_o {o : Nat} (h : o = 78 ∨ o = 79) : okA 0 o = true ∧ arL o = 14 := by rcases h with rfl | rfl <;> exact ⟨rfl, rfl⟩
theorem pow6 {n : Nat} (h : n ≤ 6) : 2 ^ n ≤ 64 := by
  calc 2 ^ n ≤ 2 ^ 6 := Nat.pow_le_pow_right (by decide) h
  _ = 64 := by decide
theorem pm_isLearner {N k : Nat} {σ : Mm} (h : k ≤ 5) : f_X6_isLearner N (nI k) σ = some (if isK 1 k then 1 else 0, σ) := by
  unfold f_X6_isLearner f_X6_isLearner_10
  rcases (show k = 0 ∨ k = 1 ∨ k = 2 ∨ k = 3 ∨ k = 4 ∨ k = 5 by omega) with rfl | rfl | rfl | rfl | rfl | rfl <;> rfl
theorem pm_isMute {N o n p : Nat} {b : Bool} {σ : Mm} {kd : Nat → Nat} {y : Dy} (hR : Rf b σ) (h : MS σ o n kd y) (hp : p < n) : f_X6_isMute N 66 (nI p) σ = some (if isK 2 (kd p) then 1 else 0, σ) := by
  obtain ⟨h1, h2, h3, h4, h5, h6, h7, h8⟩ := h
  unfold f_X6_isMute f_X6_isMute_20
  simp (disch := omega) only [↓reduceIte, ↓lt, ↓BRs, CB, ONE, if_true, if_false, gi_si, gi_sl, gi_sr, gl_si, gl_sl, gl_sr, gr_si, gr_sl, gr_sr, ↓BR hR, OKx, OKm, inbT, ix_nI, h2 p hp]
  have hk := h5 p hp
  generalize kd p = k at *
  rcases (show k = 0 ∨ k = 1 ∨ k = 2 ∨ k = 3 ∨ k = 4 ∨ k = 5 by omega) with rfl | rfl | rfl | rfl | rfl | rfl <;> rfl
theorem pm_isShut {N o n p : Nat} {b : Bool} {σ : Mm} {kd : Nat → Nat} {y : Dy} (hR : Rf b σ) (h : MS σ o n kd y) (hp : p < n) : f_X6_isShut N 66 o (nI p) σ = some (if (!y.2.2.2 && decide (kd p = 4)) then 1 else 0, σ) := by
  obtain ⟨h1, h2, h3, h4, h5, h6, h7, h8⟩ := h
  have e13 : (13 : Int32) = nI 13 := rfl
  have h9 := h3.2.2
  unfold f_X6_isShut
  rw [e13]
  simp (disch := omega) only [↓reduceIte, ↓lt, ↓BRs, CB, ONE, if_true, if_false, gi_si, gi_sl, gi_sr, gl_si, gl_sl, gl_sr, gr_si, gr_sl, gr_sr, ↓BR hR, OKx, OKm, ok_o h8, inbT, ix_nI, h2 p hp, h9]
  have hk := h5 p hp
  generalize kd p = k at *
  generalize y.2.2.2 = no at *
  rcases (show k = 0 ∨ k = 1 ∨ k = 2 ∨ k = 3 ∨ k = 4 ∨ k = 5 by omega) with rfl | rfl | rfl | rfl | rfl | rfl <;> cases no <;> rfl
theorem kn_alt (n : Nat) (kd dl : Nat → Nat) (no : Bool) (p : Nat) : kn n kd dl no p = ((2 ^ dl p ||| (if no && isK 1 (kd p) then 2 ^ dl (nxt n p) else 0)) ||| (if decide (kd p = 3) then 2 ^ ((dl p + 1) % 4) else 0)) ||| (if decide (kd p = 5) then 2 ^ dl (prv n p) else 0) := rfl
theorem pm_knows {N o n p : Nat} {b : Bool} {σ : Mm} {kd : Nat → Nat} {y : Dy} (hR : Rf b σ) (h : MS σ o n kd y) (hp : p < n) (no : Bool) : f_X6_knows N 66 o (nI p) (if no then 1 else 0) σ = some (nI (kn n kd y.1 no p), σ) := by
  obtain ⟨h1, h2, h3, h4, h5, h6, h7, h8⟩ := h
  have d1 := (h3.1 p hp).1
  have d2 := (h3.1 _ (nxt_lt hp)).1
  have d3 := (h3.1 _ (prv_lt hp)).1
  have b1 := h6 p hp
  have b2 := h6 _ (nxt_lt hp)
  have b3 := h6 _ (prv_lt hp)
  have n1 := nxt_lt hp
  have n2 := prv_lt hp
  have hk := h5 p hp
  have e5 : ∀ (s0 s1 : Nat), f_X6_knows_105 N (nI s0) (nI s1) σ = some (nI (s1 ||| s0), σ) := fun s0 s1 => by
    unfold f_X6_knows_105
    simp only [lt, nI_or]
  have r1 : nI (p + 1) - nI (p + 1) / nI n * nI n = nI (nxt n p) := by rw [pk_rem (by omega) (by omega) (by omega), nxt_mod hp]
  have r2 : nI (p + n - 1) - nI (p + n - 1) / nI n * nI n = nI (prv n p) := by rw [pk_rem (by omega) (by omega) (by omega), prv_mod hp]
  have r3 : nI (y.1 p + 1) - nI (y.1 p + 1) / nI 4 * nI 4 = nI ((y.1 p + 1) % 4) := pk_rem (by omega) (by omega) (by omega)
  have e4 : ∀ (s0 s1 : Nat), f_X6_knows_69 N 66 o (nI p) (nI s0) (nI s1) σ = some (nI ((s1 ||| s0) ||| (if decide (kd p = 5) then 2 ^ y.1 (prv n p) else 0)), σ) := fun s0 s1 => by
    unfold f_X6_knows_69
    simp (disch := omega) only [↓reduceIte, ↓lt, ↓BRs, CB, ONE, if_true, if_false, gi_si, gi_sl, gi_sr, gl_si, gl_sl, gl_sr, gr_si, gr_sl, gr_sr, ↓BR hR, OKx, OKm, ok_o h8, nI_or, inbT, ix_nI, h2 p hp, h1, LITS]
    by_cases c : kd p = 5
    · simp (disch := omega) only [↓reduceIte, ↓lt, ↓BRs, CB, ONE, if_true, if_false, gi_si, gi_sl, gi_sr, gl_si, gl_sl, gl_sr, gr_si, gr_sl, gr_sr, c, eqT, eq0F, nI_add, show (1 : Int32) = nI 1 from rfl, nI_subT, r2, inbT, ix_nI, d3, ok_o h8, decide_true]
      rw [show nI 1 <<< (nI (y.1 (prv n p)) &&& 31) = nI (2 ^ y.1 (prv n p)) from shl1 _ (by omega), e5]
    · simp (disch := omega) only [↓reduceIte, ↓lt, ↓BRs, CB, ONE, if_true, if_false, gi_si, gi_sl, gi_sr, gl_si, gl_sl, gl_sr, gr_si, gr_sl, gr_sr, c, eqF, decide_false]
      rw [show (0 : Int32) = nI 0 from rfl, e5]
  have e3 : ∀ (s0 s1 : Nat), f_X6_knows_41 N 66 o (nI p) (nI s0) (nI s1) σ = some (nI (((s1 ||| s0) ||| (if decide (kd p = 3) then 2 ^ ((y.1 p + 1) % 4) else 0)) ||| (if decide (kd p = 5) then 2 ^ y.1 (prv n p) else 0)), σ) := fun s0 s1 => by
    unfold f_X6_knows_41
    simp (disch := omega) only [↓reduceIte, ↓lt, ↓BRs, CB, ONE, if_true, if_false, gi_si, gi_sl, gi_sr, gl_si, gl_sl, gl_sr, gr_si, gr_sl, gr_sr, ↓BR hR, OKx, OKm, ok_o h8, nI_or, inbT, ix_nI, h2 p hp, h1, LITS]
    by_cases c : kd p = 3
    · simp (disch := omega) only [↓reduceIte, ↓lt, ↓BRs, CB, ONE, if_true, if_false, gi_si, gi_sl, gi_sr, gl_si, gl_sl, gl_sr, gr_si, gr_sl, gr_sr, c, eqT, nI_1, r3, d1, ok_o h8, decide_true]
      rw [shl1 _ (by omega), e4]
      simp [c]
    · simp (disch := omega) only [↓reduceIte, ↓lt, ↓BRs, CB, ONE, if_true, if_false, gi_si, gi_sl, gi_sr, gl_si, gl_sl, gl_sr, gr_si, gr_sl, gr_sr, c, eqF, decide_false]
      rw [show (0 : Int32) = nI 0 from rfl, e4]
  rw [kn_alt]
  unfold f_X6_knows
  simp (disch := omega) only [↓reduceIte, ↓lt, ↓BRs, CB, ONE, if_true, if_false, gi_si, gi_sl, gi_sr, gl_si, gl_sl, gl_sr, gr_si, gr_sl, gr_sr, OKx, OKm, ok_o h8, inbT, ix_nI, d1]
  rw [shl1 _ (by omega)]
  have e6 : f_X6_knows_40 N 66 o (nI p) (nI (2 ^ y.1 p)) σ = f_X6_knows_41 N 66 o (nI p) (nI 0) (nI (2 ^ y.1 p)) σ := rfl
  cases no with
  | false =>
    rw [if_pos (by rfl), e6, e3]
    rfl
  | true =>
    rw [if_neg (by decide)]
    simp (disch := omega) only [↓reduceIte, ↓lt, ↓BRs, CB, ONE, if_true, if_false, gi_si, gi_sl, gi_sr, gl_si, gl_sl, gl_sr, gr_si, gr_sl, gr_sr, ↓BR hR, OKm, inbT, ix_nI, h2 p hp, ↓bIe (pm_isLearner (N := N) (σ := σ) hk)]
    cases hc : isK 1 (kd p) with
    | false =>
      simp only [Bool.false_eq_true, ↓reduceIte, ↓lt, ↓BRs, CB, ONE, if_true, if_false, gi_si, gi_sl, gi_sr, gl_si, gl_sl, gl_sr, gr_si, gr_sl, gr_sr]
      rw [e6, e3]
      rfl
    | true =>
      simp (disch := omega) only [↓reduceIte, ↓lt, ↓BRs, CB, ONE, if_true, if_false, gi_si, gi_sl, gi_sr, gl_si, gl_sl, gl_sr, gr_si, gr_sl, gr_sr, h1, eq0F, nI_1, r1, inbT, ix_nI, d2, ok_o h8]
      rw [shl1 _ (by omega), e3]
      rfl
theorem pm_knowsIn {N o n p : Nat} {b : Bool} {σ : Mm} {kd : Nat → Nat} {y : Dy} (hR : Rf b σ) (h : MS σ o n kd y) (hp : p < n) : f_X6_knowsIn N 66 o (nI p) σ = some (nI (kn n kd y.1 y.2.2.2 p), σ) := by
  have h3 := h.2.2.1.2.2
  have h8 := h.2.2.2.2.2.2.2
  have e1 := pm_knows (N := N) hR h hp y.2.2.2
  have e13 : (13 : Int32) = nI 13 := rfl
  unfold f_X6_knowsIn f_X6_knowsIn_16
  rw [e13]
  simp (disch := omega) only [↓reduceIte, ↓lt, ↓BRs, CB, ONE, if_true, if_false, gi_si, gi_sl, gi_sr, gl_si, gl_sl, gl_sr, gr_si, gr_sl, gr_sr, OKx, ok_o h8, inbT, ix_nI, h3]
  cases hn : y.2.2.2 with
  | false =>
    rw [hn] at e1
    simp only [Bool.false_eq_true, if_false, ↓reduceIte, ↓lt, ↓BRs, CB, ONE, if_true, if_false, gi_si, gi_sl, gi_sr, gl_si, gl_sl, gl_sr, gr_si, gr_sl, gr_sr] at e1 ⊢
    rw [e1]
    rfl
  | true =>
    rw [hn] at e1
    simp only [if_true, ↓reduceIte, ↓lt, ↓BRs, CB, ONE, if_true, if_false, gi_si, gi_sl, gi_sr, gl_si, gl_sl, gl_sr, gr_si, gr_sl, gr_sr] at e1 ⊢
    rw [e1]
    rfl
theorem pm_isTold {N o n p q : Nat} {b : Bool} {σ : Mm} {kd : Nat → Nat} {y : Dy} (hR : Rf b σ) (h : MS σ o n kd y) (hp : p < n) (hq : q < n) (hpq : p ≠ q) : f_X6_isTold N 66 o (nI p) (nI q) σ = some (if teB n kd y.1 y.2.1 y.2.2.2 p q then 1 else 0, σ) := by
  have h0 := h
  obtain ⟨h1, h2, h3, h4, h5, h6, h7, h8⟩ := h0
  have d1 := (h3.1 p hp).2
  have hs := h7 p hp
  have hp6 := pow6 h4
  unfold f_X6_isTold f_X6_isTold_46 teB
  simp (disch := omega) only [↓reduceIte, ↓lt, ↓BRs, CB, ONE, if_true, if_false, gi_si, gi_sl, gi_sr, gl_si, gl_sl, gl_sr, gr_si, gr_sl, gr_sr, OKx, ok_o h8, LITS, nI_add, inbT, ix_nI, d1, ↓bIe (p_has (N := N) (σ := σ) (S := y.2.1 p) (j := q) (by omega) (by omega)), ↓bIe (pm_isMute (N := N) hR h hp), ↓bIe (pm_isShut (N := N) hR h hq), ↓bIe (pm_knowsIn (N := N) hR h hp), ↓bIe (pm_knowsIn (N := N) hR h hq)]
  have hpq2 : decide (p ≠ q) = true := by simp [hpq]
  rw [hpq2]
  cases (y.2.1 p).testBit q with
  | true => rfl
  | false =>
    simp only [Bool.false_eq_true, ↓reduceIte, ↓lt, ↓BRs, CB, ONE, if_true, if_false, gi_si, gi_sl, gi_sr, gl_si, gl_sl, gl_sr, gr_si, gr_sl, gr_sr, Bool.true_and, Bool.false_or]
    cases isK 2 (kd p) with
    | true => rfl
    | false =>
      simp only [Bool.false_eq_true, ↓reduceIte, ↓lt, ↓BRs, CB, ONE, if_true, if_false, gi_si, gi_sl, gi_sr, gl_si, gl_sl, gl_sr, gr_si, gr_sl, gr_sr, Bool.not_false, Bool.true_and]
      cases (!y.2.2.2 && decide (kd q = 4)) with
      | true => rfl
      | false =>
        simp only [Bool.false_eq_true, ↓reduceIte, ↓lt, ↓BRs, CB, ONE, if_true, if_false, gi_si, gi_sl, gi_sr, gl_si, gl_sl, gl_sr, gr_si, gr_sl, gr_sr, Bool.not_false, Bool.true_and, nI_and]
        have b1 := kn_lt (no := y.2.2.2) (kd := kd) h6 hp
        have b2 : (kn n kd y.1 y.2.2.2 p &&& kn n kd y.1 y.2.2.2 q) < 16 := Nat.lt_of_le_of_lt Nat.and_le_left b1
        generalize (kn n kd y.1 y.2.2.2 p &&& kn n kd y.1 y.2.2.2 q) = z at *
        by_cases hz : z = 0
        · subst hz
          rfl
        · simp (disch := omega) only [↓reduceIte, ↓lt, ↓BRs, CB, ONE, if_true, if_false, gi_si, gi_sl, gi_sr, gl_si, gl_sl, gl_sr, gr_si, gr_sl, gr_sr, eq0F]
          simp [hz]
