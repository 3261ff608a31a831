/-! ===== PURE: lay, at, tear ===== -/
theorem p_hasX0 {N j : Nat} {σ : Mm} {x : Int32} (hj : j < 6) (h : x < 0 ∨ gi σ (37 + 2 * j) 1 ≤ x) : f_X3_has N (37 + 2 * j) x σ = some (0, σ) := by
  unfold f_X3_has
  rw [if_pos (OKr hj).1]
  by_cases h1 : x < 0
  · rw [if_pos h1]
  · rw [if_neg h1, if_pos (h.resolve_left h1)]
theorem p_hasX1 {N j n i : Nat} {σ : Mm} (hj : j < 6) (hs : gi σ (37 + 2 * j) 1 = nI n) (hi : i < n) (hn : n ≤ 40) : f_X3_has N (37 + 2 * j) (nI i) σ = some (1, σ) := by
  unfold f_X3_has
  rw [hs]
  simp (disch := omega) only [↓reduceIte, ↓lt, ↓BRs, CB, ONE, if_true, if_false, gi_si, gi_sl, gi_sr, gl_si, gl_sl, gl_sr, gr_si, gr_sl, gr_sr, OKr hj, inbT, ix_nI, LITS, ltT, ltF, leT, leF, eqT, eqF, lt0F, le0T, eq0T, eq0F, nI_add, nI_1, pk_mul, nI_subT]
theorem p_gives {N : Nat} {b : Bool} {σ : Mm} {v w : Int32} (hR : Rf b σ) : f_X6_gives N 66 v w σ = some (w, si σ 66 2 v) := by
  unfold f_X6_gives
  simp only [↓reduceIte, ↓lt, ↓BRs, CB, ONE, if_true, if_false, gi_si, gi_sl, gi_sr, gl_si, gl_sl, gl_sr, gr_si, gr_sl, gr_sr, OKx]
theorem p_rowAt {N : Nat} {b : Bool} {σ : Mm} {j i : Nat} (hR : Rf b σ) (hj : j < 6) (hi : i < 40) : f_X6_rowAt N 66 (nI j) (nI i) σ = some (gi σ 69 (40 * j + i), σ) := by
  have h := hR
  unfold Rf at h
  unfold f_X6_rowAt
  simp (disch := omega) only [↓reduceIte, ↓lt, ↓BRs, CB, ONE, if_true, if_false, gi_si, gi_sl, gi_sr, gl_si, gl_sl, gl_sr, gr_si, gr_sl, gr_sr, OKx, OKm, h, inbT, ix_nI, LITS, ltT, ltF, leT, leF, eqT, eqF, lt0F, le0T, eq0T, eq0F, nI_add, nI_1, pk_mul, nI_subT]
theorem m1_lt : ((-1 : Int32) < 0) ∧ ¬ (0 ≤ (-1 : Int32)) := by decide
/-- what is told by asked() on both sides, and a place of a row -/
theorem rel_asked {b : Bool} {σ : Mm} (h : Rel b σ) (v : Int32) : Rel b (si (si σ 0 11 v) 66 2 v) := by
  obtain ⟨h1, h2, h3, h4, h5⟩ := h
  refine ⟨h1, ?_, RelR_congr (σ := σ) (fun a k q => ?_) h3, RelT_congr (σ := σ) (fun a k q => ?_) h4, TW_congr (σ := σ) (fun a k q => ?_) h5⟩
  · obtain ⟨c1, c2, c3, c4, c5⟩ := h2
    refine ⟨?_, fun g hg => ?_, ?_, c4, c5⟩
    · simp [gi_si, c1]
    · simp [gi_si, c2 g hg]
    · simp [gi_si]
  · unfold inR at q
    simp only [gi_si]
    repeat' (first | rw [if_neg (by omega)] | rw [if_pos (by omega)] | rw [if_pos (by simp <;> omega)] | fail)
  · unfold inT at q
    simp only [gi_si]
    repeat' (first | rw [if_neg (by omega)] | rw [if_pos (by omega)] | rw [if_pos (by simp <;> omega)] | fail)
  · unfold inW at q
    simp only [gi_si]
    repeat' (first | rw [if_neg (by omega)] | rw [if_pos (by omega)] | rw [if_pos (by simp <;> omega)] | fail)
theorem rel_lay {b : Bool} {σ : Mm} (h : Rel b σ) {j i n : Nat} (hj : j < 6) (hn : n ≤ 40) (hs : gi σ 68 j = nI n) (hi : i < n) (v : Int32) : Rel b (si (si σ (38 + 2 * j) i v) 69 (40 * j + i) v) := by
  obtain ⟨h1, h2, h3, h4, h5⟩ := h
  refine ⟨h1, RelC_congr (σ := σ) (fun a k q => ?_) (fun k => ⟨rfl, rfl⟩) h2, ?_, RelT_congr (σ := σ) (fun a k q => ?_) h4, TW_congr (σ := σ) (fun a k q => ?_) h5⟩
  · unfold inC at q
    simp only [gi_si]
    repeat' (first | rw [if_neg (by omega)] | rw [if_pos (by omega)] | rw [if_pos (by simp <;> omega)] | fail)
  · intro r hr
    obtain ⟨g1, g2⟩ := h3 r hr
    simp only [gi_si]
    rw [if_neg (by omega), if_neg (by omega), if_neg (by omega), if_neg (by omega)]
    refine ⟨g1, ?_⟩
    rcases g2 with g2 | ⟨m, q1, q2, q3⟩
    · exact Or.inl g2
    · refine Or.inr ⟨m, q1, q2, fun k hk => ?_⟩
      by_cases e : r = j ∧ k = i
      · obtain ⟨rfl, rfl⟩ := e
        repeat' (first | rw [if_neg (by omega)] | rw [if_pos (by omega)] | rw [if_pos (by simp <;> omega)] | fail)
      · rw [if_neg (by omega), if_neg (by omega), if_neg (by omega), if_neg (by omega)]
        exact q3 k hk
  · unfold inT at q
    simp only [gi_si]
    repeat' (first | rw [if_neg (by omega)] | rw [if_pos (by omega)] | rw [if_pos (by simp <;> omega)] | fail)
  · unfold inW at q
    simp only [gi_si]
    repeat' (first | rw [if_neg (by omega)] | rw [if_pos (by omega)] | rw [if_pos (by simp <;> omega)] | fail)
theorem rel_tear {b : Bool} {σ : Mm} (h : Rel b σ) {j : Nat} (hj : j < 6) : Rel b (si (si σ (37 + 2 * j) 1 (-1)) 68 j (-1)) := by
  obtain ⟨h1, h2, h3, h4, h5⟩ := h
  refine ⟨h1, RelC_congr (σ := σ) (fun a k q => ?_) (fun k => ⟨rfl, rfl⟩) h2, ?_, RelT_congr (σ := σ) (fun a k q => ?_) h4, TW_congr (σ := σ) (fun a k q => ?_) h5⟩
  · unfold inC at q
    simp only [gi_si]
    repeat' (first | rw [if_neg (by omega)] | rw [if_pos (by omega)] | rw [if_pos (by simp <;> omega)] | fail)
  · intro r hr
    obtain ⟨g1, g2⟩ := h3 r hr
    by_cases e : r = j
    · subst e
      refine ⟨?_, Or.inl ?_⟩ <;> simp [gi_si]
    · simp only [gi_si]
      rw [if_neg (by omega), if_neg (by omega), if_neg (by omega), if_neg (by omega)]
      refine ⟨g1, ?_⟩
      rcases g2 with g2 | ⟨m, q1, q2, q3⟩
      · exact Or.inl g2
      · refine Or.inr ⟨m, q1, q2, fun k hk => ?_⟩
        rw [if_neg (by omega), if_neg (by omega), if_neg (by omega), if_neg (by omega)]
        exact q3 k hk
  · unfold inT at q
    simp only [gi_si]
    repeat' (first | rw [if_neg (by omega)] | rw [if_pos (by omega)] | rw [if_pos (by simp <;> omega)] | fail)
  · unfold inW at q
    simp only [gi_si]
    repeat' (first | rw [if_neg (by omega)] | rw [if_pos (by omega)] | rw [if_pos (by simp <;> omega)] | fail)
theorem s_at {N : Nat} (r x : Int32) : Sim (f_X5_at N 0 r x) (f_X6_at N 66 r x) := by
  intro b σ h
  have hR := h.1
  have hr := hR
  unfold Rf at hr
  rcases arg2 r 6 (by decide) with q | ⟨j, hj, rfl⟩
  · refine ⟨-1, σ, σ, b, ?_, ?_, h⟩
    · unfold f_X5_at
      rw [p_isRowX q]
      rfl
    · unfold f_X6_at
      rw [p_isRowM q]
      rfl
  · have ho := OKr hj
    obtain ⟨g1, g2⟩ := h.2.2.1 j hj
    unfold f_X5_at f_X6_at
    rcases g2 with g2 | ⟨n, hn, g2, g3⟩
    · refine ⟨-3, fndX σ 1, fndM (fndX σ 1) 1, b, ?_, ?_, rel_find h (by decide)⟩
      · simp (disch := omega) only [p_isRowXy hj, ↓reduceIte, ↓lt, ↓BRs, CB, ONE, if_true, if_false, gi_si, gi_sl, gi_sr, gl_si, gl_sl, gl_sr, gr_si, gr_sl, gr_sr, OKx, inbT, ix_nI, LITS, ltT, ltF, leT, leF, eqT, eqF, lt0F, le0T, eq0T, eq0F, nI_add, nI_1, pk_mul, nI_subT, hr, ho, g1, g2, p_fnd hR]
      · have hr1 := Rf_fX (f := 1) hR
        unfold Rf at hr1
        have e1 : gi (fndX σ 1) 68 j = -1 := by rw [gi_fndX, if_neg (by omega), if_neg (by omega)]; exact g2
        simp (disch := omega) only [p_isRowMy hj, ↓reduceIte, ↓lt, ↓BRs, CB, ONE, if_true, if_false, gi_si, gi_sl, gi_sr, gl_si, gl_sl, gl_sr, gr_si, gr_sl, gr_sr, OKx, OKm, inbT, ix_nI, LITS, ltT, ltF, leT, leF, eqT, eqF, lt0F, le0T, eq0T, eq0F, nI_add, nI_1, pk_mul, nI_subT, hr1, e1, m1_lt, p_mts (Rf_fX hR)]
    · rcases arg2 x n (by omega) with q | ⟨i, hi, rfl⟩
      · refine ⟨-3, fndX σ 2, fndM (fndX σ 2) 2, b, ?_, ?_, rel_find h (by decide)⟩
        · have e2 := g1.trans g2
          have e3 : f_X3_has N (37 + 2 * j) x σ = some (0, σ) := p_hasX0 hj (by rw [e2]; exact q)
          simp (disch := omega) only [p_isRowXy hj, ↓reduceIte, ↓lt, ↓BRs, CB, ONE, if_true, if_false, gi_si, gi_sl, gi_sr, gl_si, gl_sl, gl_sr, gr_si, gr_sl, gr_sr, OKx, inbT, ix_nI, LITS, ltT, ltF, leT, leF, eqT, eqF, lt0F, le0T, eq0T, eq0F, nI_add, nI_1, pk_mul, nI_subT, hr, ho, e2, nI_nm1, e3, p_fnd hR]
        · have hr1 := Rf_fX (f := 2) hR
          unfold Rf at hr1
          have e1 : gi (fndX σ 2) 68 j = nI n := by rw [gi_fndX, if_neg (by omega), if_neg (by omega)]; exact g2
          have e3 : f_X6_in N x 0 (nI n - 1) (fndX σ 2) = some (0, fndX σ 2) := p_in0 (q.imp id (fun q => by
            cases n with
            | zero =>
              have e4 : (nI 0 - 1 : Int32).toInt = -1 := by decide
              rw [fa_lt, e4]
              rw [fa_le, nI_toInt (by decide)] at q
              omega
            | succ n => rw [nI_pred]; exact le_lt6 (by omega) q))
          simp (disch := omega) only [p_isRowMy hj, ↓reduceIte, ↓lt, ↓BRs, CB, ONE, if_true, if_false, gi_si, gi_sl, gi_sr, gl_si, gl_sl, gl_sr, gr_si, gr_sl, gr_sr, OKx, OKm, inbT, ix_nI, LITS, ltT, ltF, leT, leF, eqT, eqF, lt0F, le0T, eq0T, eq0F, nI_add, nI_1, pk_mul, nI_subT, hr1, e1, e3, p_mts (Rf_fX hR)]
      · have e0 := g3 i hi
        refine ⟨1, si σ 0 11 (gi σ (38 + 2 * j) i), si (si σ 0 11 (gi σ (38 + 2 * j) i)) 66 2 (gi σ (38 + 2 * j) i), b, ?_, ?_, rel_asked h _⟩
        · have e2 := g1.trans g2
          simp (disch := omega) only [p_isRowXy hj, ↓reduceIte, ↓lt, ↓BRs, CB, ONE, if_true, if_false, gi_si, gi_sl, gi_sr, gl_si, gl_sl, gl_sr, gr_si, gr_sl, gr_sr, OKx, inbT, ix_nI, LITS, ltT, ltF, leT, leF, eqT, eqF, lt0F, le0T, eq0T, eq0F, nI_add, nI_1, pk_mul, nI_subT, hr, ho, e2, nI_nm1, p_hasX1 hj e2 hi hn]
        · have hr1 : Rf b (si σ 0 11 (gi σ (38 + 2 * j) i)) := hR
          unfold Rf at hr1
          have e1 : gi (si σ 0 11 (gi σ (38 + 2 * j) i)) 68 j = nI n := by rw [gi_si, if_neg (by omega)]; exact g2
          have e3 : f_X6_in N (nI i) 0 (nI n - 1) (si σ 0 11 (gi σ (38 + 2 * j) i)) = some (1, si σ 0 11 (gi σ (38 + 2 * j) i)) := p_in1 (nI_pos (by omega)) (by
            cases n with
            | zero => omega
            | succ n => rw [nI_pred]; exact nI_nlt (by omega) (by omega))
          simp (disch := omega) only [p_isRowMy hj, CB, ONE, if_true, if_false, OKx, OKm, inbT, ix_nI, LITS, ltT, ltF, leT, leF, eqT, eqF, lt0F, le0T, eq0T, eq0F, nI_add, nI_1, pk_mul, nI_subT, hr1, e1, e3, p_rowAt (b := b) (σ := si σ 0 11 (gi σ (38 + 2 * j) i)) hR hj (show i < 40 by omega), p_gives (b := b) (σ := si σ 0 11 (gi σ (38 + 2 * j) i)) hR]
          rw [gi_si, if_neg (by omega), e0]
theorem p_inz {N n : Nat} {σ : Mm} {x : Int32} (hn : n ≤ 60) (q : x < 0 ∨ nI n ≤ x) : f_X6_in N x 0 (nI n - 1) σ = some (0, σ) := p_in0 (q.imp id (fun q => by
  cases n with
  | zero =>
    have e4 : (nI 0 - 1 : Int32).toInt = -1 := by decide
    rw [fa_lt, e4]
    rw [fa_le, nI_toInt (by decide)] at q
    omega
  | succ n => rw [nI_pred]; exact le_lt6 (by omega) q))
theorem p_ino {N n i : Nat} {σ : Mm} (hn : n ≤ 60) (hi : i < n) : f_X6_in N (nI i) 0 (nI n - 1) σ = some (1, σ) := p_in1 (nI_pos (by omega)) (by
  cases n with
  | zero => omega
  | succ n => rw [nI_pred]; exact nI_nlt (by omega) (by omega))
theorem s_lay {N : Nat} (r x v : Int32) : Sim (f_X5_lay N 0 r x v) (f_X6_lay N 66 r x v) := by
  intro b σ h
  have hR := h.1
  have hr := hR
  unfold Rf at hr
  rcases arg2 r 6 (by decide) with q | ⟨j, hj, rfl⟩
  · refine ⟨-1, σ, σ, b, ?_, ?_, h⟩
    · unfold f_X5_lay
      rw [p_isRowX q]
      rfl
    · unfold f_X6_lay
      rw [p_isRowM q]
      rfl
  · have ho := OKr hj
    obtain ⟨g1, g2⟩ := h.2.2.1 j hj
    unfold f_X5_lay f_X6_lay
    rcases g2 with g2 | ⟨n, hn, g2, g3⟩
    · refine ⟨-3, fndX σ 1, fndM (fndX σ 1) 1, b, ?_, ?_, rel_find h (by decide)⟩
      · simp (disch := omega) only [p_isRowXy hj, ↓reduceIte, ↓lt, ↓BRs, CB, ONE, if_true, if_false, gi_si, gi_sl, gi_sr, gl_si, gl_sl, gl_sr, gr_si, gr_sl, gr_sr, OKx, inbT, ix_nI, LITS, ltT, ltF, leT, leF, eqT, eqF, lt0F, le0T, eq0T, eq0F, nI_add, nI_1, pk_mul, nI_subT, hr, ho, g1, g2, p_fnd hR]
      · have hr1 := Rf_fX (f := 1) hR
        unfold Rf at hr1
        have e1 : gi (fndX σ 1) 68 j = -1 := by rw [gi_fndX, if_neg (by omega), if_neg (by omega)]; exact g2
        simp (disch := omega) only [p_isRowMy hj, ↓reduceIte, ↓lt, ↓BRs, CB, ONE, if_true, if_false, gi_si, gi_sl, gi_sr, gl_si, gl_sl, gl_sr, gr_si, gr_sl, gr_sr, OKx, OKm, inbT, ix_nI, LITS, ltT, ltF, leT, leF, eqT, eqF, lt0F, le0T, eq0T, eq0F, nI_add, nI_1, pk_mul, nI_subT, hr1, e1, m1_lt, p_mts (Rf_fX hR)]
    · have e2 := g1.trans g2
      rcases arg2 x n (by omega) with q | ⟨i, hi, rfl⟩
      · refine ⟨-3, fndX σ 2, fndM (fndX σ 2) 2, b, ?_, ?_, rel_find h (by decide)⟩
        · have e3 : f_X3_has N (37 + 2 * j) x σ = some (0, σ) := p_hasX0 hj (by rw [e2]; exact q)
          simp (disch := omega) only [p_isRowXy hj, ↓reduceIte, ↓lt, ↓BRs, CB, ONE, if_true, if_false, gi_si, gi_sl, gi_sr, gl_si, gl_sl, gl_sr, gr_si, gr_sl, gr_sr, OKx, inbT, ix_nI, LITS, ltT, ltF, leT, leF, eqT, eqF, lt0F, le0T, eq0T, eq0F, nI_add, nI_1, pk_mul, nI_subT, hr, ho, e2, nI_nm1, e3, p_fnd hR]
        · have hr1 := Rf_fX (f := 2) hR
          unfold Rf at hr1
          have e1 : gi (fndX σ 2) 68 j = nI n := by rw [gi_fndX, if_neg (by omega), if_neg (by omega)]; exact g2
          simp (disch := omega) only [p_isRowMy hj, ↓reduceIte, ↓lt, ↓BRs, CB, ONE, if_true, if_false, gi_si, gi_sl, gi_sr, gl_si, gl_sl, gl_sr, gr_si, gr_sl, gr_sr, OKx, OKm, inbT, ix_nI, LITS, ltT, ltF, leT, leF, eqT, eqF, lt0F, le0T, eq0T, eq0F, nI_add, nI_1, pk_mul, nI_subT, hr1, e1, p_inz (N := N) (σ := fndX σ 2) (show n ≤ 60 by omega) q, p_mts (Rf_fX hR)]
      · have e0 := g3 i hi
        have h1 := rel_asked (rel_lay h hj hn g2 hi v) (gi σ (38 + 2 * j) i)
        have hM : si (si (si (si σ 0 11 (gi σ (38 + 2 * j) i)) (38 + 2 * j) i v) 69 (40 * j + i) v) 66 2 (gi σ (38 + 2 * j) i) = si (si (si (si σ (38 + 2 * j) i v) 69 (40 * j + i) v) 0 11 (gi σ (38 + 2 * j) i)) 66 2 (gi σ (38 + 2 * j) i) := by
          refine mm_ext (fun a k => ?_) rfl
          simp only [gi_si]
          by_cases c1 : a = 66 ∧ k = 2
          · rw [if_pos c1, if_pos c1]
          · rw [if_neg c1, if_neg c1]
            by_cases c2 : a = 0 ∧ k = 11
            · rw [if_neg (by omega), if_neg (by omega), if_pos c2, if_pos c2]
            · rw [if_neg c2, if_neg c2]
        rw [← hM] at h1
        refine ⟨1, si (si σ 0 11 (gi σ (38 + 2 * j) i)) (38 + 2 * j) i v, _, b, ?_, ?_, h1⟩
        · simp (disch := omega) only [p_isRowXy hj, ↓reduceIte, ↓lt, ↓BRs, CB, ONE, if_true, if_false, gi_si, gi_sl, gi_sr, gl_si, gl_sl, gl_sr, gr_si, gr_sl, gr_sr, OKx, inbT, ix_nI, LITS, ltT, ltF, leT, leF, eqT, eqF, lt0F, le0T, eq0T, eq0F, nI_add, nI_1, pk_mul, nI_subT, hr, ho, e2, nI_nm1, p_hasX1 hj e2 hi hn]
        · have hR1 : Rf b (si (si σ 0 11 (gi σ (38 + 2 * j) i)) (38 + 2 * j) i v) := hR
          have hr1 := hR1
          unfold Rf at hr1
          have e1 : gi (si (si σ 0 11 (gi σ (38 + 2 * j) i)) (38 + 2 * j) i v) 68 j = nI n := by simp only [gi_si]; rw [if_neg (by omega), if_neg (by omega)]; exact g2
          have e5 : gi (si (si σ 0 11 (gi σ (38 + 2 * j) i)) (38 + 2 * j) i v) 69 (40 * j + i) = gi σ (38 + 2 * j) i := by simp only [gi_si]; rw [if_neg (by omega), if_neg (by omega)]; exact e0.symm
          generalize hτ : si (si σ 0 11 (gi σ (38 + 2 * j) i)) (38 + 2 * j) i v = τ at *
          simp (disch := omega) only [p_isRowMy hj, CB, ONE, if_true, if_false, lt, OKx, OKm, inbT, ix_nI, LITS, ltT, ltF, leT, leF, eqT, eqF, lt0F, le0T, eq0T, eq0F, nI_add, nI_1, pk_mul, nI_subT, hr1, e1, p_ino (N := N) (σ := τ) (show n ≤ 60 by omega) hi, p_rowAt (N := N) hR1 hj (show i < 40 by omega), e5, gr_si]
          rw [p_gives (N := N) (Rf_si hR1)]
          rfl
theorem s_tear {N : Nat} (r : Int32) : Sim (f_X5_tear N 0 r) (f_X6_tear N 66 r) := by
  intro b σ h
  have hR := h.1
  have hr := hR
  unfold Rf at hr
  rcases arg2 r 6 (by decide) with q | ⟨j, hj, rfl⟩
  · refine ⟨-1, σ, σ, b, ?_, ?_, h⟩
    · unfold f_X5_tear
      rw [p_isRowX q]
      rfl
    · unfold f_X6_tear
      rw [p_isRowM q]
      rfl
  · have ho := OKr hj
    obtain ⟨g1, g2⟩ := h.2.2.1 j hj
    unfold f_X5_tear f_X6_tear
    rcases g2 with g2 | ⟨n, hn, g2, g3⟩
    · refine ⟨-3, fndX σ 1, fndM (fndX σ 1) 1, b, ?_, ?_, rel_find h (by decide)⟩
      · simp (disch := omega) only [p_isRowXy hj, ↓reduceIte, ↓lt, ↓BRs, CB, ONE, if_true, if_false, gi_si, gi_sl, gi_sr, gl_si, gl_sl, gl_sr, gr_si, gr_sl, gr_sr, OKx, inbT, ix_nI, LITS, ltT, ltF, leT, leF, eqT, eqF, lt0F, le0T, eq0T, eq0F, nI_add, nI_1, pk_mul, nI_subT, hr, ho, g1, g2, p_fnd hR]
      · have hr1 := Rf_fX (f := 1) hR
        unfold Rf at hr1
        have e1 : gi (fndX σ 1) 68 j = -1 := by rw [gi_fndX, if_neg (by omega), if_neg (by omega)]; exact g2
        simp (disch := omega) only [p_isRowMy hj, ↓reduceIte, ↓lt, ↓BRs, CB, ONE, if_true, if_false, gi_si, gi_sl, gi_sr, gl_si, gl_sl, gl_sr, gr_si, gr_sl, gr_sr, OKx, OKm, inbT, ix_nI, LITS, ltT, ltF, leT, leF, eqT, eqF, lt0F, le0T, eq0T, eq0F, nI_add, nI_1, pk_mul, nI_subT, hr1, e1, m1_lt, p_mts (Rf_fX hR)]
    · have e2 := g1.trans g2
      refine ⟨1, si σ (37 + 2 * j) 1 (-1), si (si σ (37 + 2 * j) 1 (-1)) 68 j (-1), b, ?_, ?_, rel_tear h hj⟩
      · simp (disch := omega) only [p_isRowXy hj, ↓reduceIte, ↓lt, ↓BRs, CB, ONE, if_true, if_false, gi_si, gi_sl, gi_sr, gl_si, gl_sl, gl_sr, gr_si, gr_sl, gr_sr, OKx, inbT, ix_nI, LITS, ltT, ltF, leT, leF, eqT, eqF, lt0F, le0T, eq0T, eq0F, nI_add, nI_1, pk_mul, nI_subT, hr, ho, e2, nI_nm1]
      · have hr1 : Rf b (si σ (37 + 2 * j) 1 (-1)) := hR
        unfold Rf at hr1
        have e1 : gi (si σ (37 + 2 * j) 1 (-1)) 68 j = nI n := by rw [gi_si, if_neg (by omega)]; exact g2
        generalize hτ : si σ (37 + 2 * j) 1 (-1) = τ at *
        simp (disch := omega) only [p_isRowMy hj, ↓reduceIte, ↓lt, ↓BRs, CB, ONE, if_true, if_false, gi_si, gi_sl, gi_sr, gl_si, gl_sl, gl_sr, gr_si, gr_sl, gr_sr, OKx, OKm, inbT, ix_nI, LITS, ltT, ltF, leT, leF, eqT, eqF, lt0F, le0T, eq0T, eq0F, nI_add, nI_1, pk_mul, nI_subT, hr1, e1]
