/-! ===== PURE: town ===== -/
theorem Rf_swap {b : Bool} {σ : Mm} (h : Rf b σ) : Rf (!b) (sr (sr σ 0 6 (some (pl (!b)))) 0 7 (some (pl b))) := by
  have e : ∀ a k, ¬ (a = 0 ∧ (k = 6 ∨ k = 7)) → gr (sr (sr σ 0 6 (some (pl (!b)))) 0 7 (some (pl b))) a k = gr σ a k := fun a k z => by rw [gr_sr, if_neg (by omega), gr_sr, if_neg (by omega)]
  have E6 : gr (sr (sr σ 0 6 (some (pl (!b)))) 0 7 (some (pl b))) 0 6 = some (if (!b) = true then 27 else 19) := by rw [gr_sr, if_neg (by omega), gr_sr, if_pos ⟨rfl, rfl⟩]; rfl
  have E7 : gr (sr (sr σ 0 6 (some (pl (!b)))) 0 7 (some (pl b))) 0 7 = some (if (!b) = true then 19 else 27) := by rw [gr_sr, if_pos ⟨rfl, rfl⟩]; cases b <;> rfl
  obtain ⟨h0, h1, h2, h3, h4, h5, h6, h7, h8, h9, g0, g1, g2, g3, g4, g5, g6, ⟨d0, d1, d2, d3, d4, d5, d6, d7, d8, d9, d10, d11⟩, ⟨p0, p1, p2, p3, p4, p5, p6⟩, ⟨q0, q1, q2, q3, q4, q5, q6⟩, ⟨m0, m1, m2, m3, m4, m5, m6, m7, m8, m9, m10, m11, m12, m13, m14, m15, m16, m17, m18, m19, m20, m21⟩⟩ := h
  exact ⟨by rw [e _ _ (by omega)]; exact h0, by rw [e _ _ (by omega)]; exact h1, by rw [e _ _ (by omega)]; exact h2, by rw [e _ _ (by omega)]; exact h3, by rw [e _ _ (by omega)]; exact h4, by rw [e _ _ (by omega)]; exact h5, E6, E7, by rw [e _ _ (by omega)]; exact h8, by rw [e _ _ (by omega)]; exact h9, fun j hj => by rw [e _ _ (by omega)]; exact g0 j hj, fun j hj => by rw [e _ _ (by omega)]; exact g1 j hj, fun j hj => by rw [e _ _ (by omega)]; exact g2 j hj, fun j hj => by rw [e _ _ (by omega)]; exact g3 j hj, fun j hj => by rw [e _ _ (by omega)]; exact g4 j hj, fun j hj => by rw [e _ _ (by omega)]; exact g5 j hj, fun j hj => by rw [e _ _ (by omega)]; exact g6 j hj, ⟨by rw [e _ _ (by omega)]; exact d0, by rw [e _ _ (by omega)]; exact d1, by rw [e _ _ (by omega)]; exact d2, by rw [e _ _ (by omega)]; exact d3, by rw [e _ _ (by omega)]; exact d4, by rw [e _ _ (by omega)]; exact d5, by rw [e _ _ (by omega)]; exact d6, by rw [e _ _ (by omega)]; exact d7, by rw [e _ _ (by omega)]; exact d8, by rw [e _ _ (by omega)]; exact d9, by rw [e _ _ (by omega)]; exact d10, by rw [e _ _ (by omega)]; exact d11⟩, ⟨by rw [e _ _ (by omega)]; exact p0, by rw [e _ _ (by omega)]; exact p1, by rw [e _ _ (by omega)]; exact p2, by rw [e _ _ (by omega)]; exact p3, by rw [e _ _ (by omega)]; exact p4, by rw [e _ _ (by omega)]; exact p5, by rw [e _ _ (by omega)]; exact p6⟩, ⟨by rw [e _ _ (by omega)]; exact q0, by rw [e _ _ (by omega)]; exact q1, by rw [e _ _ (by omega)]; exact q2, by rw [e _ _ (by omega)]; exact q3, by rw [e _ _ (by omega)]; exact q4, by rw [e _ _ (by omega)]; exact q5, by rw [e _ _ (by omega)]; exact q6⟩, ⟨by rw [e _ _ (by omega)]; exact m0, by rw [e _ _ (by omega)]; exact m1, by rw [e _ _ (by omega)]; exact m2, by rw [e _ _ (by omega)]; exact m3, by rw [e _ _ (by omega)]; exact m4, by rw [e _ _ (by omega)]; exact m5, by rw [e _ _ (by omega)]; exact m6, by rw [e _ _ (by omega)]; exact m7, by rw [e _ _ (by omega)]; exact m8, by rw [e _ _ (by omega)]; exact m9, by rw [e _ _ (by omega)]; exact m10, by rw [e _ _ (by omega)]; exact m11, by rw [e _ _ (by omega)]; exact m12, by rw [e _ _ (by omega)]; exact m13, by rw [e _ _ (by omega)]; exact m14, by rw [e _ _ (by omega)]; exact m15, by rw [e _ _ (by omega)]; exact m16, by rw [e _ _ (by omega)]; exact m17, by rw [e _ _ (by omega)]; exact m18, by rw [e _ _ (by omega)]; exact m19, by rw [e _ _ (by omega)]; exact m20, by rw [e _ _ (by omega)]; exact m21⟩⟩
/-- kept TOWNS go -/
theorem p_kept {N : Nat} {b : Bool} : ∀ (f k : Nat) (σ : Mm), k ≤ 3 → 3 - k < f → Rf b σ → (∀ j, j < k → gi σ (57 + 3 * j) 2 = -1) → ∃ ρ, f_X5_town_69 N f 0 (nI k) σ = bV (f_X5_liveAgain N 0 (si ρ 4 2 0)) (fun t18 => bR (gr t18 0 6) (okO 2) (fun o19 => some (gi t18 o19 8, t18))) ∧ ρ.2 = σ.2 ∧ (∀ a j, ¬ (57 ≤ a ∧ a ≤ 65) → gi ρ a j = gi σ a j) ∧ ∀ j, j < 3 → gi ρ (57 + 3 * j) 2 = -1 := by
  intro f
  induction f with
  | zero => intro k σ _ z; omega
  | succ f ih =>
    intro k σ hk hf hR h0
    unfold f_X5_town_69
    rw [show (3 : Int32) = nI 3 from rfl]
    by_cases e : k = 3
    · subst e
      refine ⟨σ, ?_, rfl, fun _ _ _ => rfl, h0⟩
      rw [if_pos (nI_le (Nat.le_refl 3) (by decide))]
      simp (disch := omega) only [↓reduceIte, ↓BR hR, OKx, lt]
    · have hk : k < 3 := by omega
      obtain ⟨ρ, r1, r2, r3, r4⟩ := ih (k + 1) (si σ (57 + 3 * k) 2 (-1)) hk (by omega) hR (fun j hj => by
        rw [gi_si]
        by_cases c : j = k
        · rw [if_pos ⟨by omega, rfl⟩]
        · rw [if_neg (by omega)]
          exact h0 j (by omega))
      refine ⟨ρ, ?_, r2, fun a j z => by rw [r3 a j z, gi_si, if_neg (by omega)], r4⟩
      rw [if_neg (nI_ge hk (by omega))]
      simp (disch := omega) only [↓reduceIte, ↓BR hR, OKx, OKk, inbT, ix_nI, lt, nI_1]
      exact r1
/-- the reference takes what was read -/
theorem tm68 {N : Nat} {b : Bool} {τ : Mm} {s : rS} (hR : Rf b τ) (h6 : s.1 ≤ 6) (h10 : gi τ 66 10 = nI s.1) (hC : rCE τ s) : ∀ (f p : Nat) (σ : Mm), p ≤ 6 → 6 - p < f → σ.2 = τ.2 → (∀ a k, a ≠ 73 → a ≠ 74 → ¬ (a = 78 ∧ 6 ≤ k ∧ k < 12) → gi σ a k = gi τ a k) → (∀ q, q < p → q < s.1 → gi σ 73 q = nI (s.2.1 q) ∧ gi σ 74 q = nI (s.2.2.1 q ||| 2 ^ q) ∧ gi σ 78 (6 + q) = nI (s.2.2.2 q)) → ∃ ρ, f_X6_town_68 N f 66 (nI p) σ = f_X6_town_161 N N 66 0 ρ ∧ ρ.2 = τ.2 ∧ (∀ a k, a ≠ 73 → a ≠ 74 → ¬ (a = 78 ∧ 6 ≤ k ∧ k < 12) → gi ρ a k = gi τ a k) ∧ ∀ q, q < s.1 → gi ρ 73 q = nI (s.2.1 q) ∧ gi ρ 74 q = nI (s.2.2.1 q ||| 2 ^ q) ∧ gi ρ 78 (6 + q) = nI (s.2.2.2 q) := by
  intro f
  induction f with
  | zero => intro p σ _ z; omega
  | succ f ih =>
    intro p σ hp hf e2 ef eq
    have hRs : Rf b σ := Rf_eq (by rw [e2]) hR
    have g10 : gi σ 66 10 = nI s.1 := (ef _ _ (by omega) (by omega) (by omega)).trans h10
    unfold f_X6_town_68 f_X6_town_97 f_X6_town_125 f_X6_town_152
    rw [show (6 : Int32) = nI 6 from rfl]
    by_cases e : p = 6
    · rw [if_pos (nI_le (by omega) (by omega))]
      exact ⟨σ, rfl, e2, ef, fun q hq => eq q (by omega) hq⟩
    · have hp : p < 6 := by omega
      rw [if_neg (nI_ge hp (by omega))]
      by_cases c : p < s.1
      · have k1 : gi σ 75 p = nI (s.2.1 p) := (ef _ _ (by omega) (by omega) (by omega)).trans (hC.2.1 p c)
        have k2 : gi (si σ 73 p (nI (s.2.1 p))) 66 10 = nI s.1 := by rw [gi_si, if_neg (by omega)]; exact g10
        have k3 : gi (si σ 73 p (nI (s.2.1 p))) 76 p = nI (s.2.2.1 p) := by rw [gi_si, if_neg (by omega), ef _ _ (by omega) (by omega) (by omega)]; exact (hC.2.2 p hp).1
        have k4 : gi (si (si σ 73 p (nI (s.2.1 p))) 74 p (nI (s.2.2.1 p ||| 2 ^ p))) 66 10 = nI s.1 := by rw [gi_si, if_neg (by omega)]; exact k2
        have k5 : gi (si (si σ 73 p (nI (s.2.1 p))) 74 p (nI (s.2.2.1 p ||| 2 ^ p))) 77 p = nI (s.2.2.2 p) := by rw [gi_si, if_neg (by omega), gi_si, if_neg (by omega), ef _ _ (by omega) (by omega) (by omega)]; exact (hC.2.2 p hp).2
        have lef : (nI s.1 ≤ nI p) = False := leF c (by omega)
        simp (disch := omega) only [↓reduceIte, ↓BR hRs, ↓BRs, OKm, inbT, ix_nI, lt, g10, k1, k2, k3, k4, k5, lef, shl1, nI_or, nI_add, nI_1]
        refine ih (p + 1) _ hp (by omega) e2 (fun a k z1 z2 z3 => ?_) (fun q hq hq2 => ⟨?_, ?_, ?_⟩)
        · rw [gi_si, if_neg (by omega), gi_si, if_neg (by omega), gi_si, if_neg (by omega)]
          exact ef a k z1 z2 z3
        · rw [gi_si, if_neg (by omega), gi_si, if_neg (by omega), gi_si]
          by_cases c2 : q = p
          · rw [if_pos ⟨rfl, c2⟩, c2]
          · rw [if_neg (by omega)]
            exact (eq q (by omega) hq2).1
        · rw [gi_si, if_neg (by omega), gi_si]
          by_cases c2 : q = p
          · rw [if_pos ⟨rfl, c2⟩, c2]
          · rw [if_neg (by omega), gi_si, if_neg (by omega)]
            exact (eq q (by omega) hq2).2.1
        · rw [gi_si]
          by_cases c2 : q = p
          · rw [if_pos ⟨rfl, by omega⟩, c2]
          · rw [if_neg (by omega), gi_si, if_neg (by omega), gi_si, if_neg (by omega)]
            exact (eq q (by omega) hq2).2.2
      · have k2 : gi (si σ 73 p 0) 66 10 = nI s.1 := by rw [gi_si, if_neg (by omega)]; exact g10
        have k4 : gi (si (si σ 73 p 0) 74 p 0) 66 10 = nI s.1 := by rw [gi_si, if_neg (by omega)]; exact k2
        have lef : (nI s.1 ≤ nI p) = True := leT (by omega) (by omega)
        simp (disch := omega) only [↓reduceIte, ↓BR hRs, ↓BRs, OKm, inbT, ix_nI, lt, g10, k2, k4, lef, nI_add, nI_1]
        refine ih (p + 1) _ hp (by omega) e2 (fun a k z1 z2 z3 => ?_) (fun q hq hq2 => ?_)
        · rw [gi_si, if_neg (by omega), gi_si, if_neg (by omega), gi_si, if_neg (by omega)]
          exact ef a k z1 z2 z3
        · rw [gi_si, if_neg (by omega), gi_si, if_neg (by omega), gi_si, if_neg (by omega), gi_si, if_neg (by omega), gi_si, if_neg (by omega), gi_si, if_neg (by omega), gi_si, if_neg (by omega), gi_si, if_neg (by omega), gi_si, if_neg (by omega)]
          exact eq q (by omega) hq2
section JM
variable {N n : Nat} {b : Bool} {τ : Mm} {h : Nat → Nat}
theorem jm180 {k p : Nat} {v : Int32} {K161 : Nat → Int32 → Mm → Option (Int32 × Mm)} {K169 : Nat → Int32 → Int32 → Mm → Option (Int32 × Mm)} (hR : Rf b τ) (h10 : gi τ 66 10 = nI n) (hn : n ≤ 6) (hp : p < n) : ∀ (f q : Nat) (σ : Mm) (A : Nat → Nat), q ≤ n → n - q < f → rXJ 74 n τ σ A → sK h n k p q A → ∃ σ2 A2, rXJ 74 n τ σ2 A2 ∧ sJ h n k (p + 1) A2 ∧ f_X6_town_180 N K161 K169 f 66 v (nI p) (nI q) σ = K169 66 v (nI (p + 1)) σ2 := by
  intro f
  induction f with
  | zero => intro q σ A _ z; omega
  | succ f ih =>
    intro q σ A hq hf hX hK
    have hRs : Rf b σ := Rf_eq (by rw [hX.1]) hR
    have g8 : gi σ 66 10 = nI n := (hX.2.1 _ _ (by omega)).trans h10
    unfold f_X6_town_180 f_X6_town_221
    rw [g8]
    by_cases e : q = n
    · rw [if_pos (nI_le (by omega) (by omega)), nI_1]
      rw [e] at hK
      exact ⟨σ, A, hX, sK_end hp hK, rfl⟩
    · have hq : q < n := by omega
      have h64 := pow6 hn
      have a1 := hK.1.1.2.2 p hp
      have gp := hX.2.2 p hp
      have gq := hX.2.2 q hq
      rw [if_neg (nI_ge hq (by omega))]
      simp (disch := omega) only [↓reduceIte, ↓BR hRs, OKm, inbT, ix_nI, gp]
      rw [bIe (p_has (N := N) (by omega) (show q < 6 by omega)), if10, nI_1]
      have hst := sK_step hn hp hq hK
      have hu := rXJ_u (p := p) (q := q) hX
      cases c : (A p).testBit q with
      | false =>
        rw [c, if_neg Bool.false_ne_true] at hu
        rw [if_neg Bool.false_ne_true, show (0 : Int32) = nI 0 from rfl]
        simp (disch := omega) only [↓reduceIte, OKm, inbT, ix_nI, nI_or, lt]
        exact ih (q + 1) _ _ hq (by omega) hu hst
      | true =>
        rw [c, if_pos rfl] at hu
        rw [if_pos rfl]
        simp (disch := omega) only [↓reduceIte, ↓BR hRs, OKm, inbT, ix_nI, gp, gq, nI_or, lt]
        exact ih (q + 1) _ _ hq (by omega) hu hst
theorem jm169 {k : Nat} {K161 : Nat → Int32 → Mm → Option (Int32 × Mm)} (hN : 20 ≤ N) (hR : Rf b τ) (h10 : gi τ 66 10 = nI n) (hn : n ≤ 6) : ∀ (f p : Nat) (σ : Mm) (A : Nat → Nat), p ≤ n → n - p < f → rXJ 74 n τ σ A → sJ h n k p A → ∃ σ2 A2, rXJ 74 n τ σ2 A2 ∧ sI h n (k + 1) A2 ∧ f_X6_town_169 N K161 f 66 (nI k) (nI p) σ = K161 66 (nI (k + 1)) σ2 := by
  intro f
  induction f with
  | zero => intro p σ A _ z; omega
  | succ f ih =>
    intro p σ A hp hf hX hJ
    have g8 : gi σ 66 10 = nI n := (hX.2.1 _ _ (by omega)).trans h10
    unfold f_X6_town_169
    rw [g8]
    by_cases e : p = n
    · rw [if_pos (nI_le (by omega) (by omega)), nI_1]
      rw [e] at hJ
      exact ⟨σ, A, hX, sJ_end hJ, rfl⟩
    · have hp : p < n := by omega
      rw [if_neg (nI_ge hp (by omega))]
      obtain ⟨σ2, A2, q1, q2, q3⟩ := jm180 (N := N) (v := nI k) (K161 := K161) (K169 := f_X6_town_169 N K161 f) hR h10 hn hp N 0 σ A (by omega) (by omega) hX (sK_0 hJ)
      obtain ⟨σ3, A3, r1, r2, r3⟩ := ih (p + 1) σ2 A2 hp (by omega) q1 q2
      exact ⟨σ3, A3, r1, r2, q3.trans r3⟩
theorem jm161 (hN : 20 ≤ N) (hR : Rf b τ) (h10 : gi τ 66 10 = nI n) (hn : n ≤ 6) : ∀ (f k : Nat) (σ : Mm) (A : Nat → Nat), k ≤ 6 → 6 - k < f → rXJ 74 n τ σ A → sI h n k A → ∃ σ2 A2, rXJ 74 n τ σ2 A2 ∧ sI h n 6 A2 ∧ f_X6_town_161 N f 66 (nI k) σ = f_X6_town_248 N N 66 0 (si σ2 66 22 0) := by
  intro f
  induction f with
  | zero => intro k σ A _ z; omega
  | succ f ih =>
    intro k σ A hk hf hX hI
    unfold f_X6_town_161
    rw [show (6 : Int32) = nI 6 from rfl]
    by_cases e : k = 6
    · rw [if_pos (nI_le (by omega) (by omega))]
      rw [e] at hI
      exact ⟨σ, A, hX, hI, rfl⟩
    · have hk : k < 6 := by omega
      rw [if_neg (nI_ge hk (by omega))]
      obtain ⟨σ2, A2, q1, q2, q3⟩ := jm169 (N := N) (K161 := f_X6_town_161 N f) hN hR h10 hn N 0 σ A (by omega) (by omega) hX (sJ_0 hI)
      obtain ⟨σ3, A3, r1, r2, r3⟩ := ih (k + 1) σ2 A2 hk (by omega) q1 q2
      exact ⟨σ3, A3, r1, r2, q3.trans r3⟩
end JM
/-- the reference's TOWN, anew -/
theorem p_townM {N : Nat} {b : Bool} {σ : Mm} {s : rS} (hN : 100 ≤ N) (hR : Rf b σ) (hok : okRS s) (h10 : gi σ 66 10 = nI s.1) (hC : rCE σ s) : ∃ ω, f_X6_town_47 N N 66 0 σ = some (nI s.1, ω) ∧ ω.2 = σ.2 ∧ (∀ a k, a ≠ 73 → a ≠ 74 → a ≠ 78 → a ≠ 82 → ¬ (a = 66 ∧ k = 22) → gi ω a k = gi σ a k) ∧ TWm ω s.1 s.2.1 (alS s.2.2.1 s.1) s.2.2.2 [] (fun _ => none) := by
  obtain ⟨h6, hk, hh, hs⟩ := hok
  have hT : ∀ m, m < s.1 → s.2.2.1 m < 2 ^ s.1 := fun m hm => (hh m (by omega)).1
  let σ1 : Mm := blt σ 78 0 14 (fun _ => 0)
  have f1 : ∀ a k, a ≠ 78 → gi σ1 a k = gi σ a k := fun a k z => blt_out z
  have hR1 : Rf b σ1 := hR
  have c1 : rCE σ1 s := rCE_congr (σ := σ) (fun a k z => f1 a k (by omega)) hC
  obtain ⟨σ2, a1, a2, a3, a4⟩ := tm68 (N := N) hR1 h6 ((f1 _ _ (by omega)).trans h10) c1 N 0 σ1 (by omega) (by omega) rfl (fun _ _ _ _ _ => rfl) (fun q hq => absurd hq (Nat.not_lt_zero q))
  have hR2 : Rf b σ2 := Rf_eq (by rw [a2]) hR1
  have g10 : gi σ2 66 10 = nI s.1 := by rw [a3 _ _ (by omega) (by omega) (by omega), f1 _ _ (by omega)]; exact h10
  obtain ⟨σ3, A, x1, x2, x3⟩ := jm161 (N := N) (by omega) hR2 g10 h6 N 0 σ2 _ (by omega) (by omega) ⟨rfl, fun _ _ _ => rfl, fun p hp => (a4 p hp).2.1⟩ (sI_0 h6 hT)
  have hA := sI_al h6 hT h6 x2
  let σ4 : Mm := si σ3 66 22 0
  have f4 : ∀ a k, a ≠ 74 → ¬ (a = 66 ∧ k = 22) → gi σ4 a k = gi σ2 a k := fun a k z1 z2 => by
    show gi (si σ3 66 22 0) a k = _
    rw [gi_si, if_neg z2]
    exact x1.2.1 a k z1
  have hR4 : Rf b σ4 := Rf_eq (show σ3.2.2 = σ2.2.2 by rw [x1.1]) hR2
  let ω : Mm := blt σ4 82 0 3 (fun _ => 0)
  have fo : ∀ a k, a ≠ 82 → gi ω a k = gi σ4 a k := fun a k z => blt_out z
  have o10 : gi ω 66 10 = nI s.1 := by rw [fo _ _ (by omega), f4 _ _ (by omega) (by omega)]; exact g10
  have z3 : f_X6_town_248 N N 66 0 σ4 = some (nI s.1, ω) := by
    have z := loop (fun f i => f_X6_town_248 N f 66 (nI i) (blt σ4 82 0 i (fun _ => 0))) (some (nI s.1, ω)) 3 ?_ ?_ N 0 (by omega) (by omega)
    · rw [blt_0] at z
      exact z
    · intro f
      unfold f_X6_town_248
      rw [show (3 : Int32) = nI 3 from rfl, if_pos (nI_le (Nat.le_refl 3) (by decide))]
      show some (gi ω 66 10, ω) = _
      rw [o10]
    · intro f i hi B hB
      unfold f_X6_town_248
      have hRi : Rf b (blt σ4 82 0 i (fun _ => 0)) := hR4
      rw [hB, show (3 : Int32) = nI 3 from rfl, if_neg (nI_ge hi (by omega)), show (0 : Int32) &&& 1 = 0 from by decide]
      simp (disch := omega) only [↓reduceIte, ↓BR hRi, OKm, inbT, ix_nI, lt, nI_1]
      rw [show (0 : Int32) = (fun _ => (0 : Int32)) i from rfl, blt_s0 (g := fun _ => (0 : Int32))]
  have v78 : ∀ k, k < 14 → ¬ (6 ≤ k ∧ k < 12) → gi ω 78 k = 0 := fun k hk z => by
    rw [fo _ _ (by omega), f4 _ _ (by omega) (by omega), a3 _ _ (by omega) (by omega) (by omega)]
    exact blt_in hk
  refine ⟨ω, ?_, ?_, fun a k z1 z2 z3 z4 z5 => ?_, o10, fun p hp => ⟨?_, ?_⟩, ?_, ⟨fun p hp => ⟨v78 p (by omega) (by omega), ?_⟩, v78 12 (by omega) (by omega), v78 13 (by omega) (by omega)⟩, fun i hi => absurd hi (Nat.not_lt_zero i), fun k hk => ?_⟩
  · have z := loop (fun f i => f_X6_town_47 N f 66 (nI i) (blt σ 78 0 i (fun _ => 0))) (some (nI s.1, ω)) 14 ?_ ?_ N 0 (by omega) (by omega)
    · rw [blt_0] at z
      exact z
    · intro f
      unfold f_X6_town_47
      rw [show (14 : Int32) = nI 14 from rfl, if_pos (nI_le (Nat.le_refl 14) (by decide))]
      exact a1.trans (x3.trans z3)
    · intro f i hi B hB
      unfold f_X6_town_47
      have hRi : Rf b (blt σ 78 0 i (fun _ => 0)) := hR
      rw [hB, show (14 : Int32) = nI 14 from rfl, if_neg (nI_ge hi (by omega))]
      simp (disch := omega) only [↓reduceIte, ↓BR hRi, OKm, inbT, ix_nI, lt, nI_1]
      rw [show (0 : Int32) = (fun _ => (0 : Int32)) i from rfl, blt_s0 (g := fun _ => (0 : Int32))]
  · show σ3.2 = σ.2
    rw [x1.1, a2]
    rfl
  · rw [fo _ _ z4, f4 _ _ z2 z5, a3 _ _ z1 z2 (by omega), f1 _ _ z3]
  · rw [fo _ _ (by omega), f4 _ _ (by omega) (by omega)]
    exact (a4 p hp).1
  · rw [fo _ _ (by omega)]
    show gi (si σ3 66 22 0) 74 p = _
    rw [gi_si, if_neg (by omega), x1.2.2 p hp, hA p hp]
  · rw [fo _ _ (by omega)]
    show gi (si σ3 66 22 0) 66 22 = _
    rw [gi_si, if_pos ⟨rfl, rfl⟩]
    rfl
  · rw [fo _ _ (by omega), f4 _ _ (by omega) (by omega)]
    exact (a4 p hp).2.2
  · show gi ω 82 k = 0
    exact blt_in hk
theorem s_town {N : Nat} (hN : 100 ≤ N) (r : Int32) : Sim (f_X5_town N 0 r) (f_X6_town N 66 r) := by
  intro b σ h
  have hR := h.1
  rcases arg2 r 4 (by decide) with q | ⟨t, ht, rfl⟩
  · refine ⟨-1, σ, σ, b, ?_, ?_, h⟩
    · unfold f_X5_town
      rw [if_pos OKx.1, bIe (p_isTextX (N := N) q)]
      rfl
    · unfold f_X6_town
      rw [if_pos OKx.2.1, bIe (p_isTextM (N := N) q)]
      rfl
  · obtain ⟨g1, g2⟩ := h.2.2.2.1 t ht
    rcases g2 with g2 | ⟨L, hL, g2, g3⟩
    · refine ⟨-3, fndX σ 1, fndM (fndX σ 1) 1, b, ?_, ?_, rel_find h (by decide)⟩
      · unfold f_X5_town
        rw [if_pos OKx.1, bIe (p_isTextXy (N := N) ht), if_neg (show ¬ (1 : Int32) = 0 by decide)]
        simp (disch := omega) only [↓reduceIte, ↓BRt hR, OKx, OKt ht, inbT, ix_nI]
        rw [g1, g2, if_pos rfl, bIe (p_fnd hR).1]
      · have e1 : gi (fndX σ 1) 71 t = -1 := by rw [gi_fndX, if_neg (by omega), if_neg (by omega)]; exact g2
        unfold f_X6_town
        rw [if_pos OKx.2.1, bIe (p_isTextMy (N := N) ht), if_neg (show ¬ (1 : Int32) = 0 by decide)]
        simp (disch := omega) only [↓reduceIte, ↓BR (Rf_fX (f := 1) hR), OKm, inbT, ix_nI]
        rw [e1, if_neg (show ¬ (0 : Int32) ≤ -1 by decide), bIe (p_mts (Rf_fX hR)).1]
    · obtain ⟨v, s, o1, o2, ox, om⟩ := rd_all (N := N) (t := t) (L := L) (b := b) (f := fun j => gi σ (50 + 2 * t) j) hN ht hL
      have hp := pl_two b
      obtain ⟨τ, x1, x2, x3⟩ := ox σ hR ⟨g1.trans g2, fun j hj => rfl⟩
      have hTt : ∀ τ2, (∀ a k, a = 71 ∨ a = 72 → gi τ2 a k = gi σ a k) → rTM τ2 t L (fun j => gi σ (50 + 2 * t) j) := fun τ2 f => ⟨(f _ _ (by omega)).trans g2, fun j hj => (f _ _ (by omega)).trans (g3 j hj).symm⟩
      have hRt := rFX_Rf x2 hR
      have xh : f_X5_town N 0 (nI t) σ = if v = (-9 : Int32) then f_X5_town_69 N N 0 0 (sr (sr τ 0 6 (some (pl (!b)))) 0 7 (some (pl b))) else some (-4, τ) := by
        unfold f_X5_town
        rw [if_pos OKx.1, bIe (p_isTextXy (N := N) ht), if_neg (show ¬ (1 : Int32) = 0 by decide)]
        simp (disch := omega) only [↓reduceIte, ↓BRt hR, OKx, OKt ht, inbT, ix_nI]
        rw [g1, g2, if_neg (show ¬ nI L = (-1 : Int32) by rw [nI_nm1 (by omega)]; exact not_false), BRdr hR, if_pos (ok_p (pl_cases (!b))).1, bIe x1, BRpl hRt, if_pos (ok_p (pl_cases b)).1, BRdr hRt, if_pos (ok_p (pl_cases (!b))).1]
        rfl
      have mh : ∀ (b2 : Bool) (τ2 : Mm) (ρ : Mm), Rf b2 τ2 → (∀ a k, a = 71 ∨ a = 72 → gi τ2 a k = gi σ a k) → f_X6_faultOf N 66 (nI t) τ2 = some (v, ρ) → f_X6_town N 66 (nI t) τ2 = if v = (-9 : Int32) then f_X6_town_47 N N 66 0 (si ρ 66 10 (gi ρ 66 14)) else some (-4, ρ) := fun b2 τ2 ρ hR2 f m1 => by
        unfold f_X6_town
        rw [if_pos OKx.2.1, bIe (p_isTextMy (N := N) ht), if_neg (show ¬ (1 : Int32) = 0 by decide)]
        simp (disch := omega) only [↓reduceIte, ↓BR hR2, OKm, inbT, ix_nI]
        rw [(hTt τ2 f).1, if_pos (show (0 : Int32) ≤ nI L by rw [le0T (by omega)]; trivial), bIe m1]
        rfl
      rcases o2 with ⟨rfl, hn0⟩ | ⟨j, hj, rfl⟩
      · rw [if_pos rfl] at xh
        have hX := x3 rfl
        have h6 := o1.1
        have hP := pl_cases (!b)
        have hT : ∀ m, m < s.1 → s.2.2.1 m < 2 ^ s.1 := fun m hm => (o1.2.2.1 m (by omega)).1
        have hal := alS_ok h6 hT o1.2.2.2
        have hsg : ∀ p, p < s.1 → s.2.2.2 p < 2 ^ s.1 := fun p hp => (o1.2.2.1 p (by omega)).2
        have hR1 := Rf_swap hRt
        obtain ⟨τ2, t1, t2, t3, t4⟩ := p_kept (N := N) N 0 _ (by omega) (by omega) hR1 (fun j hj => absurd hj (Nat.not_lt_zero j))
        have hR2 : Rf (!b) τ2 := Rf_eq (by rw [t2]) hR1
        let τ3 : Mm := si τ2 4 2 0
        have hR3 : Rf (!b) τ3 := hR2
        have f3 : ∀ a k, ¬ (57 ≤ a ∧ a ≤ 65) → a ≠ 4 → gi τ3 a k = gi τ a k := fun a k z1 z2 => by
          show gi (si τ2 4 2 0) a k = _
          rw [gi_si, if_neg (by omega)]
          exact t3 a k z1
        have hX3 : PX τ3 (pl (!b)) s.1 s.2.1 (alS s.2.2.1 s.1) s.2.2.2 := PX_congr (σ := τ) (fun a k z1 z2 => f3 a k (by omega) (by omega)) hX
        have hD3 : DX τ3 4 [] := ⟨by show gi (si τ2 4 2 0) 4 2 = _; rw [gi_si, if_pos ⟨rfl, rfl⟩]; rfl, fun i w hw => by simp at hw⟩
        obtain ⟨τ4, u1, u2, u3, u4⟩ := p_again (N := N) hN hR3 h6 hX3 hD3 (by simp) (fun w hw => by simp at hw) hsg
        have hR4 := FDy_Rf u2 hR3
        have hX4 := PX_FDy hP u2 hX3
        have hD4 := DX_FDy u2 hD3
        have f4 : ∀ a k, 12 < a → ¬ (57 ≤ a ∧ a ≤ 65) → gi τ4 a k = gi τ a k := fun a k z1 z2 => by rw [u2.2 a k (by omega), f3 a k z2 (by omega)]
        have f5 : ∀ a k, 12 < a → ¬ (57 ≤ a ∧ a ≤ 65) → (a < pl (!b) ∨ pl (!b) + 7 < a) → gi τ4 a k = gi σ a k := fun a k z1 z2 z3 => by rw [f4 a k z1 z2, x2.2 a k z3]
        have f0 : ∀ k, gi τ4 0 k = gi σ 0 k := fun k => by rw [u2.2 0 k (by omega), f3 0 k (by omega) (by omega), x2.2 0 k (by omega)]
        have k4 : ∀ j, j < 3 → gi τ4 (57 + 3 * j) 2 = -1 := fun j hj => by
          rw [u2.2 _ _ (by omega)]
          show gi (si τ2 4 2 0) _ 2 = _
          rw [gi_si, if_neg (by omega)]
          exact t4 j hj
        obtain ⟨ρ, m1, m2, m3⟩ := om (!b) τ4 hR4 (hTt τ4 (fun a k z => f5 a k (by omega) (by omega) (by omega)))
        have hM := mh (!b) τ4 ρ hR4 (fun a k z => f5 a k (by omega) (by omega) (by omega)) m1
        rw [if_pos rfl] at hM
        have hCE := m3 rfl
        let ρ1 : Mm := si ρ 66 10 (gi ρ 66 14)
        have hRr : Rf (!b) ρ1 := Rf_si (rFM_Rf m2 hR4)
        have fr1 : ∀ a k, ¬ (a = 66 ∧ k = 10) → gi ρ1 a k = gi ρ a k := fun a k z => by
          show gi (si ρ 66 10 _) a k = _
          rw [gi_si, if_neg z]
        obtain ⟨ω, w1, w2, w3, w4⟩ := p_townM (N := N) hN hRr o1 (by show gi (si ρ 66 10 _) 66 10 = _; rw [gi_si, if_pos ⟨rfl, rfl⟩]; exact hCE.1) (rCE_congr (σ := ρ) (fun a k z => fr1 a k (by omega)) hCE)
        have fw : ∀ a k, a ≠ 73 → a ≠ 74 → ¬ (75 ≤ a ∧ a ≤ 77) → a ≠ 78 → a ≠ 82 → ¬ (a = 66 ∧ (k = 10 ∨ 13 ≤ k)) → gi ω a k = gi τ4 a k := fun a k z1 z2 z3 z4 z5 z6 => by
          rw [w3 a k z1 z2 z4 z5 (by omega), fr1 a k (by omega)]
          exact m2.2 a k (by omega) z3
        have fx : ∀ a k, a ≤ 65 → gi ω a k = gi τ4 a k := fun a k z => fw a k (by omega) (by omega) (by omega) (by omega) (by omega) (by omega)
        have e2 : ω.2 = τ4.2 := by rw [w2]; exact m2.1
        have hl : ∀ a k, gl ω a k = gl σ a k := fun a k => by
          unfold gl
          rw [e2, u2.1]
          show τ2.2.1 a k = _
          rw [t2]
          show τ.2.1 a k = _
          rw [x2.1]
        refine ⟨nI s.1, τ4, ω, !b, ?_, ?_, Rf_eq (by rw [e2]) hR4, RelC_congr (σ := σ) (fun a k z => ?_) (fun k => ⟨hl 0 k, hl 66 k⟩) h.2.1, RelR_congr (σ := σ) (fun a k z => ?_) h.2.2.1, RelT_congr (σ := σ) (fun a k z => ?_) h.2.2.2.1, s.1, s.2.1, alS s.2.2.1 s.1, s.2.2.2, [], fun _ => none, ?_, ?_, w4⟩
        · rw [xh]
          refine t1.trans ?_
          rw [bVe u1, BRpl hR4, if_pos (ok_p hP).1, hX4.1]
        · rw [hM]
          exact w1
        · unfold inC at z
          rcases z with z | z | z | z
          · rw [fw a k (by omega) (by omega) (by omega) (by omega) (by omega) (by omega), f5 a k (by omega) (by omega) (by omega)]
          · rw [fw a k (by omega) (by omega) (by omega) (by omega) (by omega) (by omega), f5 a k (by omega) (by omega) (by omega)]
          · rw [fw a k (by omega) (by omega) (by omega) (by omega) (by omega) (by omega), z.1, f0]
          · rw [fw a k (by omega) (by omega) (by omega) (by omega) (by omega) (by omega), f5 a k (by omega) (by omega) (by omega)]
        · unfold inR at z
          rw [fw a k (by omega) (by omega) (by omega) (by omega) (by omega) (by omega), f5 a k (by omega) (by omega) (by omega)]
        · unfold inT at z
          rw [fw a k (by omega) (by omega) (by omega) (by omega) (by omega) (by omega), f5 a k (by omega) (by omega) (by omega)]
        · exact ⟨h6, o1.2.1, hsg, hal.1, hal.2, by simp, fun w hw => by simp at hw, fun k d hd => by simp at hd⟩
        · refine ⟨PX_congr (σ := τ4) (fun a k z1 z2 => fx a k (by omega)) hX4, YX_congr (σ := τ4) (fun a k z1 z2 => fx a k (by omega)) u3, by rw [fx _ _ (by omega)]; exact u4, DX_congr (σ := τ4) (fun a k z1 z2 => fx a k (by omega)) hD4, fun k hk => ?_⟩
          show gi ω (57 + 3 * k) 2 = -1
          rw [fx _ _ (by omega)]
          exact k4 k hk
      · rw [if_neg (nI_n9 (by omega))] at xh
        obtain ⟨ρ, m1, m2, m3⟩ := om b τ hRt (hTt τ (fun a k z => x2.2 a k (by omega)))
        have hM := mh b τ ρ hRt (fun a k z => x2.2 a k (by omega)) m1
        rw [if_neg (nI_n9 (by omega))] at hM
        exact ⟨-4, τ, ρ, b, xh, hM, rel_read h x2 m2⟩
