/-! ===== PURE: what is told; mean, copy, text, put ===== -/
theorem s_asked {N : Nat} : Sim (f_X5_asked N 0) (f_X6_asked N 66) := by
  intro b σ h
  exact ⟨gi σ 0 11, σ, σ, b, rfl, by rw [h.2.1.2.2.1]; rfl, h⟩
theorem s_finding {N : Nat} : Sim (f_X5_finding N 0) (f_X6_finding N 66) := by
  intro b σ h
  exact ⟨gi σ 0 10, σ, σ, b, rfl, by rw [h.2.1.1]; rfl, h⟩
theorem s_upper {N : Nat} : SimL (f_X5_upper N 0) (f_X6_upper N 66) := by
  intro b σ h
  exact ⟨gl σ 0 12, σ, σ, b, rfl, by rw [h.2.1.2.2.2.1]; rfl, h⟩
theorem s_lower {N : Nat} : SimL (f_X5_lower N 0) (f_X6_lower N 66) := by
  intro b σ h
  exact ⟨gl σ 0 13, σ, σ, b, rfl, by rw [h.2.1.2.2.2.2]; rfl, h⟩
theorem s_findings {N : Nat} (f : Int32) : Sim (f_X5_findings N 0 f) (f_X6_findings N 66 f) := by
  intro b σ h
  have hr := h.1
  unfold Rf at hr
  unfold f_X5_findings f_X6_findings
  rcases arg_cases f 6 (by decide) with q | q | ⟨j, hj, rfl⟩
  · have q1 : f < (1 : Int32) := by rw [fa_lt] at q ⊢; have e1 : (0 : Int32).toInt = 0 := by decide
                                    have e2 : (1 : Int32).toInt = 1 := by decide
                                    omega
    refine ⟨-1, σ, σ, b, ?_, ?_, h⟩
    · simp only [↓reduceIte, ↓lt, ↓BRs, CB, ONE, if_true, if_false, gi_si, gi_sl, gi_sr, gl_si, gl_sl, gl_sr, gr_si, gr_sl, gr_sr, OKx, q1]
    · rw [p_in0 (Or.inl q1)]
      simp only [↓reduceIte, ↓lt, ↓BRs, CB, ONE, if_true, if_false, gi_si, gi_sl, gi_sr, gl_si, gl_sl, gl_sr, gr_si, gr_sl, gr_sr, OKx]
  · have q1 : ¬ f ≤ (5 : Int32) := Int32.not_le.mpr (le_lt6 (n := 5) (by decide) q)
    have q2 : ¬ f < (1 : Int32) := by rw [fa_lt]; rw [fa_le, nI_toInt (by decide)] at q; have e2 : (1 : Int32).toInt = 1 := by decide
                                      omega
    refine ⟨-1, σ, σ, b, ?_, ?_, h⟩
    · simp only [↓reduceIte, ↓lt, ↓BRs, CB, ONE, if_true, if_false, gi_si, gi_sl, gi_sr, gl_si, gl_sl, gl_sr, gr_si, gr_sl, gr_sr, OKx, q1, q2]
    · rw [p_in0 (Or.inr (Int32.not_le.mp q1))]
      simp only [↓reduceIte, ↓lt, ↓BRs, CB, ONE, if_true, if_false, gi_si, gi_sl, gi_sr, gl_si, gl_sl, gl_sr, gr_si, gr_sl, gr_sr, OKx]
  · by_cases e : j = 0
    · subst e
      refine ⟨-1, σ, σ, b, rfl, rfl, h⟩
    · have e1 : (1 : Int32) = nI 1 := rfl
      refine ⟨gi σ 36 j, σ, σ, b, ?_, ?_, h⟩
      · rw [e1]
        simp (disch := omega) only [CB, if_true, if_false, OKx, inbT, ix_nI, LITS, ltT, ltF, leT, leF, eqT, eqF, lt0F, le0T, eq0T, eq0F, nI_add, nI_1, pk_mul, nI_subT, hr]
      · rw [show f_X6_in N (nI j) (1 : Int32) (5 : Int32) σ = some (1, σ) from p_in1 (nI_nlt (b := 1) (a := j) (by omega) (by omega)) (nI_nlt (a := 5) (b := j) (by omega) (by omega))]
        simp (disch := omega) only [CB, ONE, if_true, if_false, OKx, OKm, inbT, ix_nI, LITS, ltT, ltF, leT, leF, eqT, eqF, lt0F, le0T, eq0T, eq0F, nI_add, nI_1, pk_mul, nI_subT, hr]
        rw [h.2.1.2.1 j hj]
/-- the sum of a row -/
def sum64 (f : Nat → Int32) : Nat → Int64
  | 0 => 0
  | n + 1 => sum64 f n + (f n).toInt64
theorem sum64_congr {f g : Nat → Int32} : ∀ n, (∀ i, i < n → f i = g i) → sum64 f n = sum64 g n
  | 0, _ => rfl
  | n + 1, h => by rw [sum64, sum64, sum64_congr n (fun i hi => h i (by omega)), h n (by omega)]
theorem p_sum_l {N j n : Nat} {b : Bool} {σ : Mm} (hR : Rf b σ) (hj : j < 6) (hn : n ≤ 40) (hs : gi σ (37 + 2 * j) 1 = nI n) : ∀ (k i : Nat), i ≤ n → n - i < k → f_X3_sum_4 N k (37 + 2 * j) (sum64 (gi σ (38 + 2 * j)) i) (nI i) σ = some (sum64 (gi σ (38 + 2 * j)) n, σ) := by
  intro k
  induction k with
  | zero => intro i _ h; omega
  | succ k ih =>
    intro i hi hk
    have hr := hR.2.2.2.2.2.2.2.2.2.2.2.2.2.1
    unfold f_X3_sum_4
    rw [hs]
    by_cases e : i = n
    · subst e
      simp (disch := omega) only [↓reduceIte, ↓lt, ↓BRs, CB, ONE, if_true, if_false, gi_si, gi_sl, gi_sr, gl_si, gl_sl, gl_sr, gr_si, gr_sl, gr_sr, inbT, ix_nI, LITS, ltT, ltF, leT, leF, eqT, eqF, lt0F, le0T, eq0T, eq0F, nI_add, nI_1, pk_mul, nI_subT]
    · simp (disch := omega) only [↓reduceIte, ↓lt, ↓BRs, CB, ONE, if_true, if_false, gi_si, gi_sl, gi_sr, gl_si, gl_sl, gl_sr, gr_si, gr_sl, gr_sr, hr, OKr hj, inbT, ix_nI, LITS, ltT, ltF, leT, leF, eqT, eqF, lt0F, le0T, eq0T, eq0F, nI_add, nI_1, pk_mul, nI_subT]
      exact ih (i + 1) (by omega) (by omega)
theorem p_mean_l {N j n : Nat} {b : Bool} {σ : Mm} (hR : Rf b σ) (hj : j < 6) (hn : n ≤ 40) (h0 : 0 < n) (hs : gi σ 68 j = nI n) : ∀ (k i : Nat), i ≤ n → n - i < k → f_X6_mean_44 N k 66 (nI j) (sum64 (fun i => gi σ 69 (40 * j + i)) i) (nI i) σ = some (1, si σ 66 2 ((sum64 (fun i => gi σ 69 (40 * j + i)) n / (nI n).toInt64).toInt32)) := by
  intro k
  induction k with
  | zero => intro i _ h; omega
  | succ k ih =>
    intro i hi hk
    have hr := hR
    unfold Rf at hr
    have hz : ¬ (nI n).toInt64 = 0 := by
      rw [nI_l (by omega)]
      intro q
      have := (lN_eq (a := n) (b := 0) (by omega) (by omega)).mp q
      omega
    unfold f_X6_mean_44
    by_cases e : i = n
    · subst e
      simp (disch := omega) only [↓reduceIte, ↓lt, ↓BRs, CB, ONE, if_true, if_false, gi_si, gi_sl, gi_sr, gl_si, gl_sl, gl_sr, gr_si, gr_sl, gr_sr, OKm, hr, hs, inbT, ix_nI, LITS, ltT, ltF, leT, leF, eqT, eqF, lt0F, le0T, eq0T, eq0F, nI_add, nI_1, pk_mul, nI_subT, hz, p_gives (N := N) hR]
    · simp (disch := omega) only [↓reduceIte, ↓lt, ↓BRs, CB, ONE, if_true, if_false, gi_si, gi_sl, gi_sr, gl_si, gl_sl, gl_sr, gr_si, gr_sl, gr_sr, OKm, hr, hs, inbT, ix_nI, LITS, ltT, ltF, leT, leF, eqT, eqF, lt0F, le0T, eq0T, eq0F, nI_add, nI_1, pk_mul, nI_subT, p_rowAt (N := N) hR hj (show i < 40 by omega)]
      exact ih (i + 1) (by omega) (by omega)
theorem s_mean {N : Nat} (hN : 100 ≤ N) (r : Int32) : Sim (f_X5_mean N 0 r) (f_X6_mean N 66 r) := by
  intro b σ h
  have hR := h.1
  have hr := hR
  unfold Rf at hr
  rcases arg2 r 6 (by decide) with q | ⟨j, hj, rfl⟩
  · refine ⟨-1, σ, σ, b, ?_, ?_, h⟩
    · unfold f_X5_mean
      rw [p_isRowX q]
      rfl
    · unfold f_X6_mean
      rw [p_isRowM q]
      rfl
  · have ho := OKr hj
    obtain ⟨g1, g2⟩ := h.2.2.1 j hj
    unfold f_X5_mean f_X6_mean
    rcases g2 with g2 | ⟨n, hn, g2, g3⟩
    · refine ⟨-3, fndX σ 1, fndM (fndX σ 1) 1, b, ?_, ?_, rel_find h (by decide)⟩
      · simp (disch := omega) only [p_isRowXy hj, ↓reduceIte, ↓lt, ↓BRs, CB, ONE, if_true, if_false, gi_si, gi_sl, gi_sr, gl_si, gl_sl, gl_sr, gr_si, gr_sl, gr_sr, OKx, inbT, ix_nI, LITS, ltT, ltF, leT, leF, eqT, eqF, lt0F, le0T, eq0T, eq0F, nI_add, nI_1, pk_mul, nI_subT, hr, ho, g1, g2, p_fnd hR]
      · have hr1 := Rf_fX (f := 1) hR
        unfold Rf at hr1
        have e1 : gi (fndX σ 1) 68 j = -1 := by rw [gi_fndX, if_neg (by omega), if_neg (by omega)]; exact g2
        simp (disch := omega) only [p_isRowMy hj, ↓reduceIte, ↓lt, ↓BRs, CB, ONE, if_true, if_false, gi_si, gi_sl, gi_sr, gl_si, gl_sl, gl_sr, gr_si, gr_sl, gr_sr, OKx, OKm, inbT, ix_nI, LITS, ltT, ltF, leT, leF, eqT, eqF, lt0F, le0T, eq0T, eq0F, nI_add, nI_1, pk_mul, nI_subT, hr1, e1, m1_lt, p_mts (Rf_fX hR)]
    · have e2 := g1.trans g2
      by_cases hz : n = 0
      · subst hz
        refine ⟨-3, fndX σ 4, fndM (fndX σ 4) 4, b, ?_, ?_, rel_find h (by decide)⟩
        · simp (disch := omega) only [p_isRowXy hj, ↓reduceIte, ↓lt, ↓BRs, CB, ONE, if_true, if_false, gi_si, gi_sl, gi_sr, gl_si, gl_sl, gl_sr, gr_si, gr_sl, gr_sr, OKx, inbT, ix_nI, LITS, ltT, ltF, leT, leF, eqT, eqF, lt0F, le0T, eq0T, eq0F, nI_add, nI_1, pk_mul, nI_subT, hr, ho, e2, nI_nm1, p_fnd hR]
        · have hr1 := Rf_fX (f := 4) hR
          unfold Rf at hr1
          have e1 : gi (fndX σ 4) 68 j = nI 0 := by rw [gi_fndX, if_neg (by omega), if_neg (by omega)]; exact g2
          simp (disch := omega) only [p_isRowMy hj, ↓reduceIte, ↓lt, ↓BRs, CB, ONE, if_true, if_false, gi_si, gi_sl, gi_sr, gl_si, gl_sl, gl_sr, gr_si, gr_sl, gr_sr, OKx, OKm, inbT, ix_nI, LITS, ltT, ltF, leT, leF, eqT, eqF, lt0F, le0T, eq0T, eq0F, nI_add, nI_1, pk_mul, nI_subT, hr1, e1, p_mts (Rf_fX hR)]
      · have hz1 : ¬ (nI n).toInt64 = 0 := by
          rw [nI_l (by omega)]
          intro q
          have := (lN_eq (a := n) (b := 0) (by omega) (by omega)).mp q
          omega
        have es : sum64 (gi σ (38 + 2 * j)) n = sum64 (fun i => gi σ 69 (40 * j + i)) n := sum64_congr n g3
        have eX : f_X3_sum N (37 + 2 * j) σ = some (sum64 (gi σ (38 + 2 * j)) n, σ) := by
          unfold f_X3_sum
          rw [if_pos ho.1]
          exact p_sum_l hR hj hn e2 N 0 (by omega) (by omega)
        refine ⟨1, si σ 0 11 ((sum64 (gi σ (38 + 2 * j)) n / (nI n).toInt64).toInt32), si (si σ 0 11 ((sum64 (gi σ (38 + 2 * j)) n / (nI n).toInt64).toInt32)) 66 2 ((sum64 (gi σ (38 + 2 * j)) n / (nI n).toInt64).toInt32), b, ?_, ?_, rel_asked h _⟩
        · simp (disch := omega) only [p_isRowXy hj, ↓reduceIte, ↓lt, ↓BRs, CB, ONE, if_true, if_false, gi_si, gi_sl, gi_sr, gl_si, gl_sl, gl_sr, gr_si, gr_sl, gr_sr, OKx, inbT, ix_nI, LITS, ltT, ltF, leT, leF, eqT, eqF, lt0F, le0T, eq0T, eq0F, nI_add, nI_1, pk_mul, nI_subT, hr, ho, e2, nI_nm1, eX, hz1]
        · rw [es]
          generalize hv : (sum64 (fun i => gi σ 69 (40 * j + i)) n / (nI n).toInt64).toInt32 = v
          have hR1 : Rf b (si σ 0 11 v) := hR
          have hr1 := hR1
          unfold Rf at hr1
          have e1 : gi (si σ 0 11 v) 68 j = nI n := by rw [gi_si, if_neg (by omega)]; exact g2
          simp (disch := omega) only [p_isRowMy hj, CB, ONE, if_true, if_false, OKx, OKm, inbT, ix_nI, LITS, ltT, ltF, leT, leF, eqT, eqF, lt0F, le0T, eq0T, eq0F, nI_add, nI_1, pk_mul, nI_subT, hr1, e1]
          have e3 := p_mean_l (N := N) hR1 hj hn (by omega) e1 N 0 (by omega) (by omega)
          have e4 : sum64 (fun i => gi (si σ 0 11 v) 69 (40 * j + i)) n = sum64 (fun i => gi σ 69 (40 * j + i)) n := sum64_congr n (fun i _ => by rw [gi_si, if_neg (by omega)])
          rw [e4, hv] at e3
          exact e3
/-- a stretch of an array out of a function -/
def blt (σ : Mm) (a lo n : Nat) (g : Nat → Int32) : Mm := (fun b j => if b = a ∧ lo ≤ j ∧ j < lo + n then g (j - lo) else σ.1 b j, σ.2)
theorem gi_blt (σ : Mm) (a lo n : Nat) (g : Nat → Int32) (b j : Nat) : gi (blt σ a lo n g) b j = if b = a ∧ lo ≤ j ∧ j < lo + n then g (j - lo) else gi σ b j := rfl
theorem blt_0 {σ : Mm} {a lo : Nat} {g : Nat → Int32} : blt σ a lo 0 g = σ := mm_ext (fun b j => by rw [gi_blt, if_neg (by omega)]) rfl
theorem blt_s {σ : Mm} {a lo n : Nat} {g : Nat → Int32} : si (blt σ a lo n g) a (lo + n) (g n) = blt σ a lo (n + 1) g := by
  refine mm_ext (fun b j => ?_) rfl
  rw [gi_blt, gi_si, gi_blt]
  by_cases h1 : b = a ∧ j = lo + n
  · obtain ⟨rfl, rfl⟩ := h1
    rw [if_pos ⟨rfl, rfl⟩, if_pos (by omega), show lo + n - lo = n by omega]
  · rw [if_neg h1]
    by_cases h2 : b = a ∧ lo ≤ j ∧ j < lo + n
    · rw [if_pos h2, if_pos (by omega)]
    · rw [if_neg h2, if_neg (by omega)]
theorem Rf_blt {b : Bool} {σ : Mm} {a lo n : Nat} {g : Nat → Int32} (h : Rf b σ) : Rf b (blt σ a lo n g) := h
theorem p_copy2_l {N t dp n : Nat} {b : Bool} {τ : Mm} (hR : Rf b τ) (ht : t < 6) (hn : dp + n ≤ 40) : ∀ (k i : Nat), i ≤ n → n - i < k → f_X6_copy_136 N k 66 (nI t) (nI dp) (nI n) (nI i) (blt τ 69 (40 * t + dp) i (gi τ 70)) = some (1, blt τ 69 (40 * t + dp) n (gi τ 70)) := by
  intro k
  induction k with
  | zero => intro i _ h; omega
  | succ k ih =>
    intro i hi hk
    have hr := Rf_blt (a := 69) (lo := 40 * t + dp) (n := i) (g := gi τ 70) hR
    unfold Rf at hr
    unfold f_X6_copy_136
    by_cases e : i = n
    · subst e
      simp (disch := omega) only [↓reduceIte, ↓lt, ↓BRs, CB, ONE, if_true, if_false, gi_si, gi_sl, gi_sr, gl_si, gl_sl, gl_sr, gr_si, gr_sl, gr_sr, inbT, ix_nI, LITS, ltT, ltF, leT, leF, eqT, eqF, lt0F, le0T, eq0T, eq0F, nI_add, nI_1, pk_mul, nI_subT]
    · have e1 : gi (blt τ 69 (40 * t + dp) i (gi τ 70)) 70 i = gi τ 70 i := by rw [gi_blt, if_neg (by omega)]
      simp (disch := omega) only [↓reduceIte, ↓lt, ↓BRs, CB, ONE, if_true, if_false, gi_si, gi_sl, gi_sr, gl_si, gl_sl, gl_sr, gr_si, gr_sl, gr_sr, hr, OKm, inbT, ix_nI, LITS, ltT, ltF, leT, leF, eqT, eqF, lt0F, le0T, eq0T, eq0F, nI_add, nI_1, pk_mul, nI_subT, e1]
      rw [blt_s]
      exact ih (i + 1) (by omega) (by omega)
theorem p_copy1_l {N r sp t dp n : Nat} {b : Bool} {τ : Mm} (hN : 100 ≤ N) (hR : Rf b τ) (hr6 : r < 6) (ht : t < 6) (hn : dp + n ≤ 40) (hn2 : sp + n ≤ 40) : ∀ (k i : Nat), i ≤ n → n - i < k → f_X6_copy_104 N k 66 (nI r) (nI sp) (nI t) (nI dp) (nI n) (nI i) (blt τ 70 0 i (fun k => gi τ 69 (40 * r + (sp + k)))) = some (1, blt (blt τ 70 0 n (fun k => gi τ 69 (40 * r + (sp + k)))) 69 (40 * t + dp) n (gi (blt τ 70 0 n (fun k => gi τ 69 (40 * r + (sp + k)))) 70)) := by
  intro k
  induction k with
  | zero => intro i _ h; omega
  | succ k ih =>
    intro i hi hk
    have hR1 := Rf_blt (a := 70) (lo := 0) (n := i) (g := fun k => gi τ 69 (40 * r + (sp + k))) hR
    have hr := hR1
    unfold Rf at hr
    unfold f_X6_copy_104
    by_cases e : i = n
    · subst e
      simp (disch := omega) only [↓reduceIte, ↓lt, ↓BRs, CB, ONE, if_true, if_false, gi_si, gi_sl, gi_sr, gl_si, gl_sl, gl_sr, gr_si, gr_sl, gr_sr, inbT, ix_nI, LITS, ltT, ltF, leT, leF, eqT, eqF, lt0F, le0T, eq0T, eq0F, nI_add, nI_1, pk_mul, nI_subT]
      have h1 := p_copy2_l (N := N) hR1 ht hn N 0 (by omega) (by omega)
      rw [blt_0] at h1
      exact h1
    · have e1 : gi (blt τ 70 0 i (fun k => gi τ 69 (40 * r + (sp + k)))) 69 (40 * r + (sp + i)) = gi τ 69 (40 * r + (sp + i)) := by rw [gi_blt, if_neg (by omega)]
      simp (disch := omega) only [↓reduceIte, ↓lt, ↓BRs, CB, ONE, if_true, if_false, gi_si, gi_sl, gi_sr, gl_si, gl_sl, gl_sr, gr_si, gr_sl, gr_sr, hr, OKm, inbT, ix_nI, LITS, ltT, ltF, leT, leF, eqT, eqF, lt0F, le0T, eq0T, eq0F, nI_add, nI_1, pk_mul, nI_subT, p_rowAt (N := N) (i := sp + i) hR1 hr6 (show sp + i < 40 by omega), e1]
      have h2 := blt_s (σ := τ) (a := 70) (lo := 0) (n := i) (g := fun k => gi τ 69 (40 * r + (sp + k)))
      rw [Nat.zero_add] at h2
      rw [h2]
      exact ih (i + 1) (by omega) (by omega)
theorem rel_copy {b : Bool} {σ : Mm} (h : Rel b σ) {r t sp dp n nr nt : Nat} (hr6 : r < 6) (ht : t < 6) (hnr : nr ≤ 40) (hnt : nt ≤ 40) (e1 : gi σ 68 r = nI nr) (e2 : gi σ 68 t = nI nt) (hn : sp + n ≤ nr) (hn2 : dp + n ≤ nt) (τ : Mm) (hτ : τ = cpI σ (38 + 2 * r) (38 + 2 * t) sp dp n) : Rel b (blt (blt τ 70 0 n (fun k => gi τ 69 (40 * r + (sp + k)))) 69 (40 * t + dp) n (gi (blt τ 70 0 n (fun k => gi τ 69 (40 * r + (sp + k)))) 70)) := by
  obtain ⟨h1, h2, h3, h4, h5⟩ := h
  subst hτ
  refine ⟨h1, RelC_congr (σ := σ) (fun a k q => ?_) (fun k => ⟨rfl, rfl⟩) h2, ?_, RelT_congr (σ := σ) (fun a k q => ?_) h4, TW_congr (σ := σ) (fun a k q => ?_) h5⟩
  · unfold inC at q
    simp only [gi_blt, gi_cpI]
    repeat' (first | rw [if_neg (by omega)] | rw [if_pos (by omega)] | rw [if_pos (by simp <;> omega)] | fail)
  · intro x hx
    obtain ⟨g1, g2⟩ := h3 x hx
    have z1 : gi (blt (blt (cpI σ (38 + 2 * r) (38 + 2 * t) sp dp n) 70 0 n (fun k => gi (cpI σ (38 + 2 * r) (38 + 2 * t) sp dp n) 69 (40 * r + (sp + k)))) 69 (40 * t + dp) n (gi (blt (cpI σ (38 + 2 * r) (38 + 2 * t) sp dp n) 70 0 n (fun k => gi (cpI σ (38 + 2 * r) (38 + 2 * t) sp dp n) 69 (40 * r + (sp + k)))) 70)) (37 + 2 * x) 1 = gi σ (37 + 2 * x) 1 := by
      rw [gi_blt, if_neg (by omega), gi_blt, if_neg (by omega), gi_cpI, if_neg (by omega)]
    have z2 : gi (blt (blt (cpI σ (38 + 2 * r) (38 + 2 * t) sp dp n) 70 0 n (fun k => gi (cpI σ (38 + 2 * r) (38 + 2 * t) sp dp n) 69 (40 * r + (sp + k)))) 69 (40 * t + dp) n (gi (blt (cpI σ (38 + 2 * r) (38 + 2 * t) sp dp n) 70 0 n (fun k => gi (cpI σ (38 + 2 * r) (38 + 2 * t) sp dp n) 69 (40 * r + (sp + k)))) 70)) 68 x = gi σ 68 x := by
      rw [gi_blt, if_neg (by omega), gi_blt, if_neg (by omega), gi_cpI, if_neg (by omega)]
    rw [z1, z2]
    refine ⟨g1, ?_⟩
    rcases g2 with g2 | ⟨m, q1, q2, q3⟩
    · exact Or.inl g2
    · refine Or.inr ⟨m, q1, q2, fun k hk => ?_⟩
      by_cases e : x = t ∧ dp ≤ k ∧ k < dp + n
      · obtain ⟨rfl, e3, e4⟩ := e
        obtain ⟨g3, g4⟩ := h3 r hr6
        have g5 : ∀ i, i < nr → gi σ (38 + 2 * r) i = gi σ 69 (40 * r + i) := by
          rcases g4 with g4 | ⟨m2, q4, q5, q6⟩
          · exact absurd (e1.symm.trans g4) (by rw [nI_nm1 (by omega)]; exact id)
          · have : m2 = nr := (nI_eq (by omega) (by omega)).mp (q5.symm.trans e1)
            subst this
            exact q6
        have eL : gi (blt (blt (cpI σ (38 + 2 * r) (38 + 2 * x) sp dp n) 70 0 n (fun k => gi (cpI σ (38 + 2 * r) (38 + 2 * x) sp dp n) 69 (40 * r + (sp + k)))) 69 (40 * x + dp) n (gi (blt (cpI σ (38 + 2 * r) (38 + 2 * x) sp dp n) 70 0 n (fun k => gi (cpI σ (38 + 2 * r) (38 + 2 * x) sp dp n) 69 (40 * r + (sp + k)))) 70)) (38 + 2 * x) k = gi σ 69 (40 * r + (sp + (k - dp))) := by
          rw [gi_blt, if_neg (by omega), gi_blt, if_neg (by omega), gi_cpI, if_pos rfl]
          unfold va_cpy
          rw [if_pos (by omega), g5 _ (by omega)]
        have eR : gi (blt (blt (cpI σ (38 + 2 * r) (38 + 2 * x) sp dp n) 70 0 n (fun k => gi (cpI σ (38 + 2 * r) (38 + 2 * x) sp dp n) 69 (40 * r + (sp + k)))) 69 (40 * x + dp) n (gi (blt (cpI σ (38 + 2 * r) (38 + 2 * x) sp dp n) 70 0 n (fun k => gi (cpI σ (38 + 2 * r) (38 + 2 * x) sp dp n) 69 (40 * r + (sp + k)))) 70)) 69 (40 * x + k) = gi σ 69 (40 * r + (sp + (k - dp))) := by
          rw [gi_blt, if_pos (by omega), gi_blt, if_pos (by omega), gi_cpI, if_neg (by omega)]
          congr 1
          omega
        exact eL.trans eR.symm
      · have eR : gi (blt (blt (cpI σ (38 + 2 * r) (38 + 2 * t) sp dp n) 70 0 n (fun k => gi (cpI σ (38 + 2 * r) (38 + 2 * t) sp dp n) 69 (40 * r + (sp + k)))) 69 (40 * t + dp) n (gi (blt (cpI σ (38 + 2 * r) (38 + 2 * t) sp dp n) 70 0 n (fun k => gi (cpI σ (38 + 2 * r) (38 + 2 * t) sp dp n) 69 (40 * r + (sp + k)))) 70)) 69 (40 * x + k) = gi σ 69 (40 * x + k) := by
          rw [gi_blt, if_neg (by omega), gi_blt, if_neg (by omega), gi_cpI, if_neg (by omega)]
        have eL : gi (blt (blt (cpI σ (38 + 2 * r) (38 + 2 * t) sp dp n) 70 0 n (fun k => gi (cpI σ (38 + 2 * r) (38 + 2 * t) sp dp n) 69 (40 * r + (sp + k)))) 69 (40 * t + dp) n (gi (blt (cpI σ (38 + 2 * r) (38 + 2 * t) sp dp n) 70 0 n (fun k => gi (cpI σ (38 + 2 * r) (38 + 2 * t) sp dp n) 69 (40 * r + (sp + k)))) 70)) (38 + 2 * x) k = gi σ (38 + 2 * x) k := by
          rw [gi_blt, if_neg (by omega), gi_blt, if_neg (by omega), gi_cpI]
          by_cases e3 : x = t
          · subst e3
            rw [if_pos rfl]
            unfold va_cpy
            rw [if_neg (by omega)]
          · rw [if_neg (by omega)]
        exact (eL.trans (q3 k hk)).trans eR.symm
  · unfold inT at q
    simp only [gi_blt, gi_cpI]
    repeat' (first | rw [if_neg (by omega)] | rw [if_pos (by omega)] | rw [if_pos (by simp <;> omega)] | fail)
  · unfold inW at q
    simp only [gi_blt, gi_cpI]
    repeat' (first | rw [if_neg (by omega)] | rw [if_pos (by omega)] | rw [if_pos (by simp <;> omega)] | fail)
