/-! ===== PURE: rows and texts ===== -/
theorem mm_ext {σ τ : Mm} (h1 : ∀ a k, gi τ a k = gi σ a k) (h2 : τ.2 = σ.2) : τ = σ := Prod.ext (funext fun a => funext fun k => h1 a k) h2
/-- a stretch of an array set to one number -/
def fil (σ : Mm) (a i m : Nat) (v : Int32) : Mm := (fun b j => if b = a ∧ i ≤ j ∧ j < m then v else σ.1 b j, σ.2)
theorem gi_fil (σ : Mm) (a i m : Nat) (v : Int32) (b j : Nat) : gi (fil σ a i m v) b j = if b = a ∧ i ≤ j ∧ j < m then v else gi σ b j := rfl
theorem gl_fil (σ : Mm) (a i m : Nat) (v : Int32) (b j : Nat) : gl (fil σ a i m v) b j = gl σ b j := rfl
theorem gr_fil (σ : Mm) (a i m : Nat) (v : Int32) (b j : Nat) : gr (fil σ a i m v) b j = gr σ b j := rfl
theorem fil_none {σ : Mm} {a i m : Nat} {v : Int32} (h : m ≤ i) : fil σ a i m v = σ := mm_ext (fun b j => by rw [gi_fil, if_neg (by omega)]) rfl
theorem fil_step {σ : Mm} {a i m : Nat} {v : Int32} (h : i < m) : fil (si σ a i v) a (i + 1) m v = fil σ a i m v := by
  refine mm_ext (fun b j => ?_) rfl
  rw [gi_fil, gi_fil, gi_si]
  by_cases h1 : b = a ∧ i + 1 ≤ j ∧ j < m
  · rw [if_pos h1, if_pos (by omega)]
  · rw [if_neg h1]
    by_cases h2 : b = a ∧ j = i
    · rw [if_pos h2, if_pos (by omega)]
    · rw [if_neg h2, if_neg (by omega)]
theorem p_isRowX {N : Nat} {σ : Mm} {r : Int32} (h : r < 0 ∨ nI 6 ≤ r) : f_X5_isRow N r σ = some (0, σ) := by
  unfold f_X5_isRow
  by_cases h1 : r < 0
  · rw [if_pos h1]
  · rw [if_neg h1, if_pos (show (6 : Int32) ≤ r from h.resolve_left h1)]
theorem p_isRowXy {N : Nat} {σ : Mm} {j : Nat} (h : j < 6) : f_X5_isRow N (nI j) σ = some (1, σ) := by
  unfold f_X5_isRow
  simp (disch := omega) only [inbT, ix_nI, LITS, ltT, ltF, leT, leF, eqT, eqF, lt0F, le0T, eq0T, eq0F, nI_add, nI_1, pk_mul, nI_subT, if_false]
theorem p_isTextX {N : Nat} {σ : Mm} {r : Int32} (h : r < 0 ∨ nI 4 ≤ r) : f_X5_isText N r σ = some (0, σ) := by
  unfold f_X5_isText
  by_cases h1 : r < 0
  · rw [if_pos h1]
  · rw [if_neg h1, if_pos (show (4 : Int32) ≤ r from h.resolve_left h1)]
theorem p_isTextXy {N : Nat} {σ : Mm} {j : Nat} (h : j < 4) : f_X5_isText N (nI j) σ = some (1, σ) := by
  unfold f_X5_isText
  simp (disch := omega) only [inbT, ix_nI, LITS, ltT, ltF, leT, leF, eqT, eqF, lt0F, le0T, eq0T, eq0F, nI_add, nI_1, pk_mul, nI_subT, if_false]
theorem p_in0 {N : Nat} {σ : Mm} {x lo hi : Int32} (h : x < lo ∨ hi < x) : f_X6_in N x lo hi σ = some (0, σ) := by
  unfold f_X6_in
  by_cases h1 : x < lo
  · rw [if_pos h1]
  · rw [if_neg h1, if_pos (h.resolve_left h1)]
theorem p_in1 {N : Nat} {σ : Mm} {x lo hi : Int32} (h1 : ¬ x < lo) (h2 : ¬ hi < x) : f_X6_in N x lo hi σ = some (1, σ) := by
  unfold f_X6_in
  rw [if_neg h1, if_neg h2]
theorem le_lt6 {n : Nat} {r : Int32} (hn : n < 2147483647) (h : nI (n + 1) ≤ r) : nI n < r := by
  rw [fa_le, nI_toInt (by omega)] at h
  rw [fa_lt, nI_toInt (by omega)]
  omega
theorem p_isRowM {N : Nat} {σ : Mm} {r : Int32} (h : r < 0 ∨ nI 6 ≤ r) : f_X6_isRow N r σ = some (0, σ) := by
  unfold f_X6_isRow
  rw [show f_X6_in N r 0 (5 : Int32) σ = some (0, σ) from p_in0 (h.imp id (fun h => le_lt6 (n := 5) (by decide) h))]
  rfl
theorem p_isRowMy {N : Nat} {σ : Mm} {j : Nat} (h : j < 6) : f_X6_isRow N (nI j) σ = some (1, σ) := by
  unfold f_X6_isRow
  rw [show f_X6_in N (nI j) 0 (5 : Int32) σ = some (1, σ) from p_in1 (nI_pos (by omega)) (nI_nlt (a := 5) (b := j) (by omega) (by omega))]
  rfl
theorem p_isTextM {N : Nat} {σ : Mm} {r : Int32} (h : r < 0 ∨ nI 4 ≤ r) : f_X6_isText N r σ = some (0, σ) := by
  unfold f_X6_isText
  rw [show f_X6_in N r 0 (3 : Int32) σ = some (0, σ) from p_in0 (h.imp id (fun h => le_lt6 (n := 3) (by decide) h))]
  rfl
theorem p_isTextMy {N : Nat} {σ : Mm} {j : Nat} (h : j < 4) : f_X6_isText N (nI j) σ = some (1, σ) := by
  unfold f_X6_isText
  rw [show f_X6_in N (nI j) 0 (3 : Int32) σ = some (1, σ) from p_in1 (nI_pos (by omega)) (nI_nlt (a := 3) (b := j) (by omega) (by omega))]
  rfl
theorem p_begin_l {N : Nat} {b : Bool} {j m : Nat} (hj : j < 6) (hm : m ≤ 40) : ∀ (k i : Nat) (σ : Mm), Rf b σ → i ≤ m → m - i < k → f_X3_begin_7 N k (37 + 2 * j) (nI m) (nI i) σ = some (fil σ (38 + 2 * j) i m 0) := by
  intro k
  induction k with
  | zero => intro i σ _ _ h; omega
  | succ k ih =>
    intro i σ hR hi hk
    have hr := hR.2.2.2.2.2.2.2.2.2.2.2.2.2.1
    have ho := OKr hj
    unfold f_X3_begin_7
    by_cases e : i = m
    · subst e
      simp (disch := omega) only [inbT, ix_nI, LITS, ltT, ltF, leT, leF, eqT, eqF, lt0F, le0T, eq0T, eq0F, nI_add, nI_1, pk_mul, nI_subT, if_true]
      rw [fil_none (Nat.le_refl _)]
    · have hlt : i < m := by omega
      simp (disch := omega) only [↓reduceIte, ↓lt, ↓BRs, CB, ONE, if_true, if_false, gi_si, gi_sl, gi_sr, gl_si, gl_sl, gl_sr, gr_si, gr_sl, gr_sr, hr, ho, inbT, ix_nI, LITS, ltT, ltF, leT, leF, eqT, eqF, lt0F, le0T, eq0T, eq0F, nI_add, nI_1, pk_mul, nI_subT, if_true, if_false]
      rw [ih (i + 1) _ (Rf_si hR) (by omega) (by omega), fil_step hlt]
theorem p_begin {N : Nat} {b : Bool} {j m : Nat} {σ : Mm} (hN : 100 ≤ N) (hR : Rf b σ) (hj : j < 6) (hm : m ≤ 40) : f_X3_begin N (37 + 2 * j) (nI m) σ = some (fil (si σ (37 + 2 * j) 1 (nI m)) (38 + 2 * j) 0 m 0) := by
  unfold f_X3_begin
  simp only [lt, OKr hj, if_true]
  exact p_begin_l hj hm N 0 _ (Rf_si hR) (by omega) (by omega)
theorem p_row_l {N : Nat} {b : Bool} {j m : Nat} (hj : j < 6) : ∀ (k i : Nat) (σ : Mm), Rf b σ → i ≤ 40 → 40 - i < k → f_X6_row_34 N k 66 (nI j) (nI m) (nI i) σ = some (nI m, fil σ 69 (40 * j + i) (40 * j + 40) 0) := by
  intro k
  induction k with
  | zero => intro i σ _ _ h; omega
  | succ k ih =>
    intro i σ hR hi hk
    have h := hR
    unfold Rf at h
    unfold f_X6_row_34
    by_cases e : i = 40
    · subst e
      simp (disch := omega) only [inbT, ix_nI, LITS, ltT, ltF, leT, leF, eqT, eqF, lt0F, le0T, eq0T, eq0F, nI_add, nI_1, pk_mul, nI_subT, if_true]
      rw [fil_none (Nat.le_refl _)]
    · have hlt : i < 40 := by omega
      simp (disch := omega) only [↓reduceIte, ↓lt, ↓BRs, CB, ONE, if_true, if_false, gi_si, gi_sl, gi_sr, gl_si, gl_sl, gl_sr, gr_si, gr_sl, gr_sr, h, OKm, inbT, ix_nI, LITS, ltT, ltF, leT, leF, eqT, eqF, lt0F, le0T, eq0T, eq0F, nI_add, nI_1, pk_mul, nI_subT, if_true, if_false]
      rw [ih (i + 1) _ (Rf_si hR) (by omega) (by omega), show 40 * j + (i + 1) = 40 * j + i + 1 by omega, fil_step (by omega)]
theorem rel_row {b : Bool} {σ : Mm} (h : Rel b σ) {j m : Nat} (hj : j < 6) (hm : m ≤ 40) : Rel b (fil (si (fil (si σ (37 + 2 * j) 1 (nI m)) (38 + 2 * j) 0 m 0) 68 j (nI m)) 69 (40 * j + 0) (40 * j + 40) 0) := by
  obtain ⟨h1, h2, h3, h4, h5⟩ := h
  refine ⟨h1, RelC_congr (σ := σ) (fun a k q => ?_) (fun k => ⟨rfl, rfl⟩) h2, ?_, RelT_congr (σ := σ) (fun a k q => ?_) h4, TW_congr (σ := σ) (fun a k q => ?_) h5⟩
  · unfold inC at q
    simp only [gi_si, gi_fil]
    repeat' (first | rw [if_neg (by omega)] | rw [if_pos (by omega)] | rw [if_pos (by simp <;> omega)] | fail)
  · intro r hr
    simp only [gi_si, gi_fil]
    by_cases e : r = j
    · subst e
      repeat' (first | rw [if_neg (by omega)] | rw [if_pos (by omega)] | rw [if_pos (by simp <;> omega)] | fail)
      refine ⟨rfl, Or.inr ⟨m, hm, rfl, fun i hi => ?_⟩⟩
      repeat' (first | rw [if_neg (by omega)] | rw [if_pos (by omega)] | rw [if_pos (by simp <;> omega)] | fail)
    · obtain ⟨g1, g2⟩ := h3 r hr
      repeat' (first | rw [if_neg (by omega)] | rw [if_pos (by omega)] | rw [if_pos (by simp <;> omega)] | fail)
      refine ⟨g1, ?_⟩
      rcases g2 with g2 | ⟨n, q1, q2, q3⟩
      · exact Or.inl g2
      · refine Or.inr ⟨n, q1, q2, fun i hi => ?_⟩
        repeat' (first | rw [if_neg (by omega)] | rw [if_pos (by omega)] | rw [if_pos (by simp <;> omega)] | fail)
        exact q3 i hi
  · unfold inT at q
    simp only [gi_si, gi_fil]
    repeat' (first | rw [if_neg (by omega)] | rw [if_pos (by omega)] | rw [if_pos (by simp <;> omega)] | fail)
  · unfold inW at q
    simp only [gi_si, gi_fil]
    repeat' (first | rw [if_neg (by omega)] | rw [if_pos (by omega)] | rw [if_pos (by simp <;> omega)] | fail)
theorem s_row {N : Nat} (hN : 100 ≤ N) (r n : Int32) : Sim (f_X5_row N 0 r n) (f_X6_row N 66 r n) := by
  intro b σ h
  have hR := h.1
  have hr := hR
  unfold Rf at hr
  rcases arg_cases r 6 (by decide) with q | q | ⟨j, hj, rfl⟩
  · refine ⟨-1, σ, σ, b, ?_, ?_, h⟩
    · unfold f_X5_row
      rw [p_isRowX (Or.inl q)]
      rfl
    · unfold f_X6_row
      rw [p_isRowM (Or.inl q)]
      rfl
  · refine ⟨-1, σ, σ, b, ?_, ?_, h⟩
    · unfold f_X5_row
      rw [p_isRowX (Or.inr q)]
      rfl
    · unfold f_X6_row
      rw [p_isRowM (Or.inr q)]
      rfl
  · have ho := OKr hj
    unfold f_X5_row f_X6_row
    rcases arg_cases n 41 (by decide) with q | q | ⟨m, hm, rfl⟩
    · have q1 : n ≤ (40 : Int32) := by rw [fa_le]; rw [fa_lt] at q; have e1 : (0 : Int32).toInt = 0 := by decide
                                       have e2 : (40 : Int32).toInt = 40 := by decide
                                       omega
      have q2 : ¬ 0 ≤ n := Int32.not_le.mpr q
      refine ⟨-3, fndX σ 5, fndM (fndX σ 5) 5, b, ?_, ?_, rel_find h (by decide)⟩
      · simp only [p_isRowXy hj, ↓reduceIte, ↓lt, ↓BRs, CB, ONE, if_true, if_false, gi_si, gi_sl, gi_sr, gl_si, gl_sl, gl_sr, gr_si, gr_sl, gr_sr, OKx, if_true, q1, q2, if_false, p_fnd hR]
      · simp only [p_isRowMy hj, ↓reduceIte, ↓lt, ↓BRs, CB, ONE, if_true, if_false, gi_si, gi_sl, gi_sr, gl_si, gl_sl, gl_sr, gr_si, gr_sl, gr_sr, OKx, if_true, q1, q2, if_false, p_mts (Rf_fX hR)]
    · have q1 : ¬ n ≤ (40 : Int32) := Int32.not_le.mpr (le_lt6 (n := 40) (by decide) q)
      refine ⟨-1, σ, σ, b, ?_, ?_, h⟩
      · simp only [p_isRowXy hj, ↓reduceIte, ↓lt, ↓BRs, CB, ONE, if_true, if_false, gi_si, gi_sl, gi_sr, gl_si, gl_sl, gl_sr, gr_si, gr_sl, gr_sr, OKx, if_true, q1, if_false]
      · simp only [p_isRowMy hj, ↓reduceIte, ↓lt, ↓BRs, CB, ONE, if_true, if_false, gi_si, gi_sl, gi_sr, gl_si, gl_sl, gl_sr, gr_si, gr_sl, gr_sr, OKx, if_true, q1, if_false]
    · refine ⟨nI m, fil (si σ (37 + 2 * j) 1 (nI m)) (38 + 2 * j) 0 m 0, fil (si (fil (si σ (37 + 2 * j) 1 (nI m)) (38 + 2 * j) 0 m 0) 68 j (nI m)) 69 (40 * j + 0) (40 * j + 40) 0, b, ?_, ?_, rel_row h hj (m := m) (by omega)⟩
      · simp (disch := omega) only [p_isRowXy hj, ↓reduceIte, ↓lt, ↓BRs, CB, ONE, if_true, if_false, gi_si, gi_sl, gi_sr, gl_si, gl_sl, gl_sr, gr_si, gr_sl, gr_sr, OKx, if_true, inbT, ix_nI, LITS, ltT, ltF, leT, leF, eqT, eqF, lt0F, le0T, eq0T, eq0F, nI_add, nI_1, pk_mul, nI_subT, if_false, hr, ho]
        rw [p_begin hN hR hj (by omega)]
        rfl
      · have hR2 : Rf b (fil (si σ (37 + 2 * j) 1 (nI m)) (38 + 2 * j) 0 m 0) := hR
        have hr2 := hR2
        unfold Rf at hr2
        simp (disch := omega) only [p_isRowMy hj, ↓reduceIte, ↓lt, ↓BRs, CB, ONE, if_true, if_false, gi_si, gi_sl, gi_sr, gl_si, gl_sl, gl_sr, gr_si, gr_sl, gr_sr, OKx, OKm, if_true, inbT, ix_nI, LITS, ltT, ltF, leT, leF, eqT, eqF, lt0F, le0T, eq0T, eq0F, nI_add, nI_1, pk_mul, nI_subT, if_false, hr2]
        exact p_row_l hj N 0 _ (Rf_si hR2) (by omega) (by omega)
