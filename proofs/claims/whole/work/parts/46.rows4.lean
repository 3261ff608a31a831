/-! ===== PURE: copy, text, put ===== -/
theorem cpy_iff {n : Nat} (hn : n ≤ 40) {i c : Int32} (hi : 0 ≤ i) (hc : 0 ≤ c) : nI n - c < i ↔ (nI n).toInt64 < i.toInt64 + c.toInt64 := by
  have h0 : (0 : Int32).toInt = 0 := by decide
  rw [fa_le, h0] at hi hc
  have r1 := fb_rng i
  have r2 := fb_rng c
  have e1 := nI_toInt (n := n) (by omega)
  rw [fa_lt, fb_subI (by rw [e1]; omega) (by rw [e1]; omega), e1, fa_lt64, fb_addL (by rw [Int32.toInt_toInt64, Int32.toInt_toInt64]; omega) (by rw [Int32.toInt_toInt64, Int32.toInt_toInt64]; omega), Int32.toInt_toInt64, Int32.toInt_toInt64, Int32.toInt_toInt64, e1]
  omega
theorem cpy_nat {n : Nat} (hn : n ≤ 40) {i c : Int32} (hi : 0 ≤ i) (hc : 0 ≤ c) (h : ¬ nI n - c < i) : ∃ a k : Nat, i = nI a ∧ c = nI k ∧ a + k ≤ n := by
  obtain ⟨a, ha, rfl⟩ := nI_of (Int32.not_lt.mpr hi)
  obtain ⟨k, hk, rfl⟩ := nI_of (Int32.not_lt.mpr hc)
  refine ⟨a, k, rfl, rfl, ?_⟩
  have e1 := nI_toInt (n := n) (by omega)
  have e2 := nI_toInt (n := a) (by omega)
  have e3 := nI_toInt (n := k) (by omega)
  rw [fa_lt, fb_subI (by rw [e1, e3]; omega) (by rw [e1, e3]; omega), e1, e2, e3] at h
  omega
theorem p_hasFrom0 {N j : Nat} {σ : Mm} {i c : Int32} (hj : j < 6) (h : i < 0 ∨ gi σ (37 + 2 * j) 1 - c < i) : f_X3_hasFrom N (37 + 2 * j) i c σ = some (0, σ) := by
  unfold f_X3_hasFrom
  rw [if_pos (OKr hj).1]
  by_cases h1 : i < 0
  · rw [if_pos h1]
  · rw [if_neg h1, if_pos (h.resolve_left h1)]
theorem p_hasFrom1 {N j : Nat} {σ : Mm} {i c : Int32} (hj : j < 6) (h1 : ¬ i < 0) (h2 : ¬ gi σ (37 + 2 * j) 1 - c < i) : f_X3_hasFrom N (37 + 2 * j) i c σ = some (1, σ) := by
  unfold f_X3_hasFrom
  rw [if_pos (OKr hj).1, if_neg h1, if_neg h2]
theorem s_copy {N : Nat} (hN : 100 ≤ N) (r x t y n : Int32) : Sim (f_X5_copy N 0 r x t y n) (f_X6_copy N 66 r x t y n) := by
  intro b σ h
  have hR := h.1
  have hr := hR
  unfold Rf at hr
  rcases arg2 r 6 (by decide) with q | ⟨j, hj, rfl⟩
  · refine ⟨-1, σ, σ, b, ?_, ?_, h⟩
    · unfold f_X5_copy
      rw [p_isRowX q]
      rfl
    · unfold f_X6_copy
      rw [p_isRowM q]
      rfl
  rcases arg2 t 6 (by decide) with q | ⟨j2, hj2, rfl⟩
  · refine ⟨-1, σ, σ, b, ?_, ?_, h⟩
    · unfold f_X5_copy
      simp only [↓bIe (p_isRowXy hj), ↓reduceIte, ↓lt, ↓BRs, CB, ONE, if_true, if_false, gi_si, gi_sl, gi_sr, gl_si, gl_sl, gl_sr, gr_si, gr_sl, gr_sr, OKx, ↓bIe (p_isRowX (N := N) (σ := σ) q)]
    · unfold f_X6_copy
      simp only [↓bIe (p_isRowMy hj), ↓reduceIte, ↓lt, ↓BRs, CB, ONE, if_true, if_false, gi_si, gi_sl, gi_sr, gl_si, gl_sl, gl_sr, gr_si, gr_sl, gr_sr, OKx, ↓bIe (p_isRowM (N := N) (σ := σ) q)]
  have ho := OKr hj
  have ho2 := OKr hj2
  obtain ⟨g1, g2⟩ := h.2.2.1 j hj
  obtain ⟨k1, k2⟩ := h.2.2.1 j2 hj2
  unfold f_X5_copy f_X6_copy
  by_cases hn0 : 0 ≤ n
  · have bad : ∀ f : Nat, f = 1 ∨ f = 2 → (f_X5_copy_61 N 0 σ = some (-3, fndX σ 1)) ∧ (f_X5_copy_90 N 0 σ = some (-3, fndX σ 2)) ∧ (f_X6_copy_45 N 66 (fndX σ f) = some (-3, fndM (fndX σ f) 1)) ∧ (f_X6_copy_95 N 66 (fndX σ f) = some (-3, fndM (fndX σ f) 2)) := by
      intro f _
      unfold f_X5_copy_61 f_X5_copy_90 f_X6_copy_45 f_X6_copy_95
      simp only [↓reduceIte, ↓lt, ↓BRs, CB, ONE, if_true, if_false, gi_si, gi_sl, gi_sr, gl_si, gl_sl, gl_sr, gr_si, gr_sl, gr_sr, p_fnd hR, p_mts (Rf_fX (f := f) hR)]
      simp
    obtain ⟨b1, b2, b3, -⟩ := bad 1 (Or.inl rfl)
    obtain ⟨-, -, -, b4⟩ := bad 2 (Or.inr rfl)
    have fz : ∀ f k : Nat, k < 6 → gi (fndX σ f) 68 k = gi σ 68 k := fun f k _ => by rw [gi_fndX, if_neg (by omega), if_neg (by omega)]
    have hr1 := Rf_fX (f := 1) hR
    have hr2 := Rf_fX (f := 2) hR
    unfold Rf at hr1 hr2
    rcases g2 with g2 | ⟨nr, hnr, g2, g3⟩
    · refine ⟨-3, fndX σ 1, fndM (fndX σ 1) 1, b, ?_, ?_, rel_find h (by decide)⟩
      · simp (disch := omega) only [↓bIe (p_isRowXy hj), ↓bIe (p_isRowXy hj2), ↓reduceIte, ↓lt, ↓BRs, CB, ONE, if_true, if_false, gi_si, gi_sl, gi_sr, gl_si, gl_sl, gl_sr, gr_si, gr_sl, gr_sr, OKx, inbT, ix_nI, LITS, ltT, ltF, leT, leF, eqT, eqF, lt0F, le0T, eq0T, eq0F, nI_add, nI_1, pk_mul, nI_subT, ↓BR hR, ho, ho2, g1, g2, hn0, b1]
      · simp (disch := omega) only [↓bIe (p_isRowMy hj), ↓bIe (p_isRowMy hj2), ↓reduceIte, ↓lt, ↓BRs, CB, ONE, if_true, if_false, gi_si, gi_sl, gi_sr, gl_si, gl_sl, gl_sr, gr_si, gr_sl, gr_sr, OKx, OKm, inbT, ix_nI, LITS, ltT, ltF, leT, leF, eqT, eqF, lt0F, le0T, eq0T, eq0F, nI_add, nI_1, pk_mul, nI_subT, ↓BR (Rf_fX (f := 1) hR), fz, g2, m1_lt, hn0, b3]
    rcases k2 with k2 | ⟨nt, hnt, k2, k3⟩
    · refine ⟨-3, fndX σ 1, fndM (fndX σ 1) 1, b, ?_, ?_, rel_find h (by decide)⟩
      · simp (disch := omega) only [↓bIe (p_isRowXy hj), ↓bIe (p_isRowXy hj2), ↓reduceIte, ↓lt, ↓BRs, CB, ONE, if_true, if_false, gi_si, gi_sl, gi_sr, gl_si, gl_sl, gl_sr, gr_si, gr_sl, gr_sr, OKx, inbT, ix_nI, LITS, ltT, ltF, leT, leF, eqT, eqF, lt0F, le0T, eq0T, eq0F, nI_add, nI_1, pk_mul, nI_subT, ↓BR hR, ho, ho2, g1, g2, k1, k2, nI_nm1, hn0, b1]
      · simp (disch := omega) only [↓bIe (p_isRowMy hj), ↓bIe (p_isRowMy hj2), ↓reduceIte, ↓lt, ↓BRs, CB, ONE, if_true, if_false, gi_si, gi_sl, gi_sr, gl_si, gl_sl, gl_sr, gr_si, gr_sl, gr_sr, OKx, OKm, inbT, ix_nI, LITS, ltT, ltF, leT, leF, eqT, eqF, lt0F, le0T, eq0T, eq0F, nI_add, nI_1, pk_mul, nI_subT, ↓BR (Rf_fX (f := 1) hR), fz, g2, k2, m1_lt, hn0, b3]
    have e1 := g1.trans g2
    have e2 := k1.trans k2
    by_cases c1 : x < 0 ∨ nI nr - n < x
    · refine ⟨-3, fndX σ 2, fndM (fndX σ 2) 2, b, ?_, ?_, rel_find h (by decide)⟩
      · simp (disch := omega) only [↓bIe (p_isRowXy hj), ↓bIe (p_isRowXy hj2), ↓reduceIte, ↓lt, ↓BRs, CB, ONE, if_true, if_false, gi_si, gi_sl, gi_sr, gl_si, gl_sl, gl_sr, gr_si, gr_sl, gr_sr, OKx, inbT, ix_nI, LITS, ltT, ltF, leT, leF, eqT, eqF, lt0F, le0T, eq0T, eq0F, nI_add, nI_1, pk_mul, nI_subT, ↓BR hR, ho, ho2, e1, e2, nI_nm1, hn0, b2, ↓bIe (p_hasFrom0 (N := N) (σ := σ) hj (by rw [e1]; exact c1))]
      · simp (disch := omega) only [↓bIe (p_isRowMy hj), ↓bIe (p_isRowMy hj2), ↓reduceIte, ↓lt, ↓BRs, CB, ONE, if_true, if_false, gi_si, gi_sl, gi_sr, gl_si, gl_sl, gl_sr, gr_si, gr_sl, gr_sr, OKx, OKm, inbT, ix_nI, LITS, ltT, ltF, leT, leF, eqT, eqF, lt0F, le0T, eq0T, eq0F, nI_add, nI_1, pk_mul, nI_subT, ↓BR (Rf_fX (f := 2) hR), fz, g2, k2, hn0, b4]
        by_cases d1 : x < 0
        · rw [if_pos d1]
        · rw [if_neg d1]
          by_cases d2 : y < 0
          · rw [if_pos d2]
          · rw [if_neg d2, if_pos ((lg_cmp_gt _ _).mpr ((cpy_iff hnr (Int32.not_lt.mp d1) hn0).mp (c1.resolve_left d1)))]
    · have c2 : ¬ x < 0 := fun q => c1 (Or.inl q)
      have c3 : ¬ nI nr - n < x := fun q => c1 (Or.inr q)
      have c4 : ¬ 0 < lg_cmp (x.toInt64 + n.toInt64) (nI nr).toInt64 := fun q => c3 ((cpy_iff hnr (Int32.not_lt.mp c2) hn0).mpr ((lg_cmp_gt _ _).mp q))
      by_cases c5 : y < 0 ∨ nI nt - n < y
      · refine ⟨-3, fndX σ 2, fndM (fndX σ 2) 2, b, ?_, ?_, rel_find h (by decide)⟩
        · simp (disch := omega) only [↓bIe (p_isRowXy hj), ↓bIe (p_isRowXy hj2), ↓reduceIte, ↓lt, ↓BRs, CB, ONE, if_true, if_false, gi_si, gi_sl, gi_sr, gl_si, gl_sl, gl_sr, gr_si, gr_sl, gr_sr, OKx, inbT, ix_nI, LITS, ltT, ltF, leT, leF, eqT, eqF, lt0F, le0T, eq0T, eq0F, nI_add, nI_1, pk_mul, nI_subT, ↓BR hR, ho, ho2, e1, e2, nI_nm1, hn0, b2, ↓bIe (p_hasFrom1 (N := N) (σ := σ) hj c2 (by rw [e1]; exact c3)), ↓bIe (p_hasFrom0 (N := N) (σ := σ) hj2 (by rw [e2]; exact c5))]
        · simp (disch := omega) only [↓bIe (p_isRowMy hj), ↓bIe (p_isRowMy hj2), ↓reduceIte, ↓lt, ↓BRs, CB, ONE, if_true, if_false, gi_si, gi_sl, gi_sr, gl_si, gl_sl, gl_sr, gr_si, gr_sl, gr_sr, OKx, OKm, inbT, ix_nI, LITS, ltT, ltF, leT, leF, eqT, eqF, lt0F, le0T, eq0T, eq0F, nI_add, nI_1, pk_mul, nI_subT, ↓BR (Rf_fX (f := 2) hR), fz, g2, k2, hn0, b4, c2, c4]
          by_cases d2 : y < 0
          · rw [if_pos d2]
          · rw [if_neg d2, if_neg (fun q => absurd ((lg_cmp_le _ _).mp q) (Int64.not_le.mpr ((cpy_iff hnt (Int32.not_lt.mp d2) hn0).mp (c5.resolve_left d2))))]
      · have c6 : ¬ y < 0 := fun q => c5 (Or.inl q)
        have c7 : ¬ nI nt - n < y := fun q => c5 (Or.inr q)
        obtain ⟨sp, cn, rfl, rfl, hs⟩ := cpy_nat hnr (Int32.not_lt.mp c2) hn0 c3
        obtain ⟨dp, cn2, rfl, hcn, hs2⟩ := cpy_nat hnt (Int32.not_lt.mp c6) hn0 c7
        have : cn2 = cn := ((nI_eq (by omega) (by omega)).mp hcn).symm
        subst this
        have hac : acOK (nI sp) (nI dp) (nI cn2) 40 40 = true := by
          unfold acOK
          rw [ix_nI (by omega), ix_nI (by omega), ix_nI (by omega)]
          simp only [Bool.and_eq_true, decide_eq_true_eq]
          exact ⟨nI_pos' (by omega), nI_pos' (by omega), nI_pos' (by omega), by omega, by omega⟩
        refine ⟨1, cpI σ (38 + 2 * j) (38 + 2 * j2) sp dp cn2, _, b, ?_, ?_, rel_copy h hj hj2 hnr hnt g2 k2 hs hs2 _ rfl⟩
        · simp (disch := omega) only [↓bIe (p_isRowXy hj), ↓bIe (p_isRowXy hj2), ↓reduceIte, ↓lt, ↓BRs, CB, ONE, if_true, if_false, gi_si, gi_sl, gi_sr, gl_si, gl_sl, gl_sr, gr_si, gr_sl, gr_sr, OKx, inbT, ix_nI, LITS, ltT, ltF, leT, leF, eqT, eqF, lt0F, le0T, eq0T, eq0F, nI_add, nI_1, pk_mul, nI_subT, ↓BR hR, ho, ho2, e1, e2, nI_nm1, hn0, ↓bIe (p_hasFrom1 (N := N) (σ := σ) hj c2 (by rw [e1]; exact c3)), ↓bIe (p_hasFrom1 (N := N) (σ := σ) hj2 c6 (by rw [e2]; exact c7)), hac]
        · have hR1 : Rf b (cpI σ (38 + 2 * j) (38 + 2 * j2) sp dp cn2) := hR
          have hr3 := hR1
          unfold Rf at hr3
          have fy : ∀ k : Nat, k < 6 → gi (cpI σ (38 + 2 * j) (38 + 2 * j2) sp dp cn2) 68 k = gi σ 68 k := fun k _ => by rw [gi_cpI, if_neg (by omega)]
          have c8 : lg_cmp ((nI dp).toInt64 + (nI cn2).toInt64) (nI nt).toInt64 ≤ 0 := (lg_cmp_le _ _).mpr (Int64.not_lt.mp (fun q => c7 ((cpy_iff hnt (Int32.not_lt.mp c6) hn0).mpr q)))
          generalize hτ : cpI σ (38 + 2 * j) (38 + 2 * j2) sp dp cn2 = τ at *
          simp (disch := omega) only [↓bIe (p_isRowMy hj), ↓bIe (p_isRowMy hj2), ↓reduceIte, ↓lt, ↓BRs, CB, ONE, if_true, if_false, gi_si, gi_sl, gi_sr, gl_si, gl_sl, gl_sr, gr_si, gr_sl, gr_sr, OKx, OKm, inbT, ix_nI, LITS, ltT, ltF, leT, leF, eqT, eqF, lt0F, le0T, eq0T, eq0F, nI_add, nI_1, pk_mul, nI_subT, ↓BR hR1, fy, g2, k2, c2, c4, c6, c8]
          have h1 := p_copy1_l (N := N) hN hR1 hj hj2 (dp := dp) (n := cn2) (sp := sp) (by omega) (by omega) N 0 (by omega) (by omega)
          rw [blt_0] at h1
          exact h1
  · refine ⟨-3, fndX σ 5, fndM (fndX σ 5) 5, b, ?_, ?_, rel_find h (by decide)⟩
    · simp (disch := omega) only [↓bIe (p_isRowXy hj), ↓bIe (p_isRowXy hj2), ↓reduceIte, ↓lt, ↓BRs, CB, ONE, if_true, if_false, gi_si, gi_sl, gi_sr, gl_si, gl_sl, gl_sr, gr_si, gr_sl, gr_sr, OKx, ↓BR hR, ho, ho2, hn0, p_fnd hR]
    · simp (disch := omega) only [↓bIe (p_isRowMy hj), ↓bIe (p_isRowMy hj2), ↓reduceIte, ↓lt, ↓BRs, CB, ONE, if_true, if_false, gi_si, gi_sl, gi_sr, gl_si, gl_sl, gl_sr, gr_si, gr_sl, gr_sr, OKx, OKm, hn0, p_mts (Rf_fX hR)]
theorem p_tbegin_l {N : Nat} {b : Bool} {j m : Nat} (hj : j < 4) (hm : m ≤ 60) : ∀ (k i : Nat) (σ : Mm), Rf b σ → i ≤ m → m - i < k → f_X4_begin_7 N k (49 + 2 * j) (nI m) (nI i) σ = some (fil σ (50 + 2 * j) i m ((32 : Int32).toInt8.toInt32)) := by
  intro k
  induction k with
  | zero => intro i σ _ _ h; omega
  | succ k ih =>
    intro i σ hR hi hk
    have hr := hR.2.2.2.2.2.2.2.2.2.2.2.2.2.2.1
    have ho := OKt hj
    unfold f_X4_begin_7
    by_cases e : i = m
    · subst e
      simp (disch := omega) only [inbT, ix_nI, LITS, ltT, ltF, leT, leF, eqT, eqF, lt0F, le0T, eq0T, eq0F, nI_add, nI_1, pk_mul, nI_subT, if_true]
      rw [fil_none (Nat.le_refl _)]
    · have hlt : i < m := by omega
      simp (disch := omega) only [↓reduceIte, ↓lt, ↓BRs, CB, ONE, if_true, if_false, gi_si, gi_sl, gi_sr, gl_si, gl_sl, gl_sr, gr_si, gr_sl, gr_sr, hr, ho, inbT, ix_nI, LITS, ltT, ltF, leT, leF, eqT, eqF, lt0F, le0T, eq0T, eq0F, nI_add, nI_1, pk_mul, nI_subT]
      rw [ih (i + 1) _ (Rf_si hR) (by omega) (by omega), fil_step hlt]
theorem p_tbegin {N : Nat} {b : Bool} {j m : Nat} {σ : Mm} (hN : 100 ≤ N) (hR : Rf b σ) (hj : j < 4) (hm : m ≤ 60) : f_X4_begin N (49 + 2 * j) (nI m) σ = some (fil (si σ (49 + 2 * j) 1 (nI m)) (50 + 2 * j) 0 m ((32 : Int32).toInt8.toInt32)) := by
  unfold f_X4_begin
  simp only [lt, OKt hj, if_true]
  exact p_tbegin_l hj hm N 0 _ (Rf_si hR) (by omega) (by omega)
theorem p_text_l {N : Nat} {b : Bool} {j m : Nat} (hj : j < 4) : ∀ (k i : Nat) (σ : Mm), Rf b σ → i ≤ 60 → 60 - i < k → f_X6_text_34 N k 66 (nI j) (nI m) (nI i) σ = some (nI m, fil σ 72 (60 * j + i) (60 * j + 60) ((32 : Int32).toInt8.toInt32)) := by
  intro k
  induction k with
  | zero => intro i σ _ _ h; omega
  | succ k ih =>
    intro i σ hR hi hk
    have h := hR
    unfold Rf at h
    unfold f_X6_text_34
    by_cases e : i = 60
    · subst e
      simp (disch := omega) only [inbT, ix_nI, LITS, ltT, ltF, leT, leF, eqT, eqF, lt0F, le0T, eq0T, eq0F, nI_add, nI_1, pk_mul, nI_subT, if_true]
      rw [fil_none (Nat.le_refl _)]
    · have hlt : i < 60 := by omega
      simp (disch := omega) only [↓reduceIte, ↓lt, ↓BRs, CB, ONE, if_true, if_false, gi_si, gi_sl, gi_sr, gl_si, gl_sl, gl_sr, gr_si, gr_sl, gr_sr, h, OKm, inbT, ix_nI, LITS, ltT, ltF, leT, leF, eqT, eqF, lt0F, le0T, eq0T, eq0F, nI_add, nI_1, pk_mul, nI_subT]
      rw [ih (i + 1) _ (Rf_si hR) (by omega) (by omega), show 60 * j + (i + 1) = 60 * j + i + 1 by omega, fil_step (by omega)]
theorem rel_text {b : Bool} {σ : Mm} (h : Rel b σ) {j m : Nat} (hj : j < 4) (hm : m ≤ 60) (v : Int32) : Rel b (fil (si (fil (si σ (49 + 2 * j) 1 (nI m)) (50 + 2 * j) 0 m v) 71 j (nI m)) 72 (60 * j + 0) (60 * j + 60) v) := by
  obtain ⟨h1, h2, h3, h4, h5⟩ := h
  refine ⟨h1, RelC_congr (σ := σ) (fun a k q => ?_) (fun k => ⟨rfl, rfl⟩) h2, RelR_congr (σ := σ) (fun a k q => ?_) h3, ?_, TW_congr (σ := σ) (fun a k q => ?_) h5⟩
  · unfold inC at q
    simp only [gi_si, gi_fil]
    repeat' (first | rw [if_neg (by omega)] | rw [if_pos (by omega)] | rw [if_pos (by simp <;> omega)] | fail)
  · unfold inR at q
    simp only [gi_si, gi_fil]
    repeat' (first | rw [if_neg (by omega)] | rw [if_pos (by omega)] | rw [if_pos (by simp <;> omega)] | fail)
  · intro r hr
    by_cases e : r = j
    · subst e
      refine ⟨?_, Or.inr ⟨m, hm, ?_, fun i hi => ?_⟩⟩
      · rw [gi_fil, if_neg (by omega), gi_si, if_neg (by omega), gi_fil, if_neg (by omega), gi_si, if_pos ⟨rfl, rfl⟩, gi_fil, if_neg (by omega), gi_si, if_pos ⟨rfl, rfl⟩]
      · rw [gi_fil, if_neg (by omega), gi_si, if_pos ⟨rfl, rfl⟩]
      · rw [gi_fil, if_neg (by omega), gi_si, if_neg (by omega), gi_fil, if_pos (by omega), gi_fil, if_pos (by omega)]
    · obtain ⟨g1, g2⟩ := h4 r hr
      have z1 : ∀ k, gi (fil (si (fil (si σ (49 + 2 * j) 1 (nI m)) (50 + 2 * j) 0 m v) 71 j (nI m)) 72 (60 * j + 0) (60 * j + 60) v) (49 + 2 * r) k = gi σ (49 + 2 * r) k := fun k => by rw [gi_fil, if_neg (by omega), gi_si, if_neg (by omega), gi_fil, if_neg (by omega), gi_si, if_neg (by omega)]
      have z2 : gi (fil (si (fil (si σ (49 + 2 * j) 1 (nI m)) (50 + 2 * j) 0 m v) 71 j (nI m)) 72 (60 * j + 0) (60 * j + 60) v) 71 r = gi σ 71 r := by rw [gi_fil, if_neg (by omega), gi_si, if_neg (by omega), gi_fil, if_neg (by omega), gi_si, if_neg (by omega)]
      rw [z1, z2]
      refine ⟨g1, ?_⟩
      rcases g2 with g2 | ⟨n, q1, q2, q3⟩
      · exact Or.inl g2
      · refine Or.inr ⟨n, q1, q2, fun i hi => ?_⟩
        rw [gi_fil, if_neg (by omega), gi_si, if_neg (by omega), gi_fil, if_neg (by omega), gi_si, if_neg (by omega), gi_fil, if_neg (by omega), gi_si, if_neg (by omega), gi_fil, if_neg (by omega), gi_si, if_neg (by omega)]
        exact q3 i hi
  · unfold inW at q
    simp only [gi_si, gi_fil]
    repeat' (first | rw [if_neg (by omega)] | rw [if_pos (by omega)] | rw [if_pos (by simp <;> omega)] | fail)
theorem s_text {N : Nat} (hN : 100 ≤ N) (r n : Int32) : Sim (f_X5_text N 0 r n) (f_X6_text N 66 r n) := by
  intro b σ h
  have hR := h.1
  have hr := hR
  unfold Rf at hr
  rcases arg2 r 4 (by decide) with q | ⟨j, hj, rfl⟩
  · refine ⟨-1, σ, σ, b, ?_, ?_, h⟩
    · unfold f_X5_text
      rw [p_isTextX q]
      rfl
    · unfold f_X6_text
      rw [p_isTextM q]
      rfl
  · have ho := OKt hj
    unfold f_X5_text f_X6_text
    rcases arg_cases n 61 (by decide) with q | q | ⟨m, hm, rfl⟩
    · have q1 : n ≤ (60 : Int32) := by rw [fa_le]; rw [fa_lt] at q; have e1 : (0 : Int32).toInt = 0 := by decide
                                       have e2 : (60 : Int32).toInt = 60 := by decide
                                       omega
      have q2 : ¬ 0 ≤ n := Int32.not_le.mpr q
      refine ⟨-3, fndX σ 5, fndM (fndX σ 5) 5, b, ?_, ?_, rel_find h (by decide)⟩
      · simp only [p_isTextXy hj, ↓reduceIte, ↓lt, ↓BRs, CB, ONE, if_true, if_false, gi_si, gi_sl, gi_sr, gl_si, gl_sl, gl_sr, gr_si, gr_sl, gr_sr, OKx, q1, q2, p_fnd hR]
      · simp only [p_isTextMy hj, ↓reduceIte, ↓lt, ↓BRs, CB, ONE, if_true, if_false, gi_si, gi_sl, gi_sr, gl_si, gl_sl, gl_sr, gr_si, gr_sl, gr_sr, OKx, q1, q2, p_mts (Rf_fX hR)]
    · have q1 : ¬ n ≤ (60 : Int32) := Int32.not_le.mpr (le_lt6 (n := 60) (by decide) q)
      refine ⟨-1, σ, σ, b, ?_, ?_, h⟩
      · simp only [p_isTextXy hj, ↓reduceIte, ↓lt, ↓BRs, CB, ONE, if_true, if_false, gi_si, gi_sl, gi_sr, gl_si, gl_sl, gl_sr, gr_si, gr_sl, gr_sr, OKx, q1]
      · simp only [p_isTextMy hj, ↓reduceIte, ↓lt, ↓BRs, CB, ONE, if_true, if_false, gi_si, gi_sl, gi_sr, gl_si, gl_sl, gl_sr, gr_si, gr_sl, gr_sr, OKx, q1]
    · refine ⟨nI m, fil (si σ (49 + 2 * j) 1 (nI m)) (50 + 2 * j) 0 m ((32 : Int32).toInt8.toInt32), _, b, ?_, ?_, rel_text h hj (m := m) (by omega) ((32 : Int32).toInt8.toInt32)⟩
      · simp (disch := omega) only [p_isTextXy hj, ↓reduceIte, ↓lt, ↓BRs, CB, ONE, if_true, if_false, gi_si, gi_sl, gi_sr, gl_si, gl_sl, gl_sr, gr_si, gr_sl, gr_sr, OKx, inbT, ix_nI, LITS, ltT, ltF, leT, leF, eqT, eqF, lt0F, le0T, eq0T, eq0F, nI_add, nI_1, pk_mul, nI_subT, hr, ho]
        rw [p_tbegin hN hR hj (by omega)]
        rfl
      · have hR2 : Rf b (fil (si σ (49 + 2 * j) 1 (nI m)) (50 + 2 * j) 0 m ((32 : Int32).toInt8.toInt32)) := hR
        have hr2 := hR2
        unfold Rf at hr2
        simp (disch := omega) only [p_isTextMy hj, ↓reduceIte, ↓lt, ↓BRs, CB, ONE, if_true, if_false, gi_si, gi_sl, gi_sr, gl_si, gl_sl, gl_sr, gr_si, gr_sl, gr_sr, OKx, OKm, inbT, ix_nI, LITS, ltT, ltF, leT, leF, eqT, eqF, lt0F, le0T, eq0T, eq0F, nI_add, nI_1, pk_mul, nI_subT, hr2]
        exact p_text_l hj N 0 _ (Rf_si hR2) (by omega) (by omega)
theorem rel_put {b : Bool} {σ : Mm} (h : Rel b σ) {j i n : Nat} (hj : j < 4) (hn : n ≤ 60) (hs : gi σ 71 j = nI n) (hi : i < n) (v : Int32) : Rel b (si (si σ (50 + 2 * j) i v) 72 (60 * j + i) v) := by
  obtain ⟨h1, h2, h3, h4, h5⟩ := h
  refine ⟨h1, RelC_congr (σ := σ) (fun a k q => ?_) (fun k => ⟨rfl, rfl⟩) h2, RelR_congr (σ := σ) (fun a k q => ?_) h3, ?_, TW_congr (σ := σ) (fun a k q => ?_) h5⟩
  · unfold inC at q
    simp only [gi_si]
    repeat' (first | rw [if_neg (by omega)] | rw [if_pos (by omega)] | rw [if_pos (by simp <;> omega)] | fail)
  · unfold inR at q
    simp only [gi_si]
    repeat' (first | rw [if_neg (by omega)] | rw [if_pos (by omega)] | rw [if_pos (by simp <;> omega)] | fail)
  · intro r hr
    obtain ⟨g1, g2⟩ := h4 r hr
    simp only [gi_si]
    rw [if_neg (by omega), if_neg (by omega), if_neg (by omega), if_neg (by omega)]
    refine ⟨g1, ?_⟩
    rcases g2 with g2 | ⟨m, q1, q2, q3⟩
    · exact Or.inl g2
    · refine Or.inr ⟨m, q1, q2, fun k hk => ?_⟩
      by_cases e : r = j ∧ k = i
      · obtain ⟨rfl, rfl⟩ := e
        repeat' (first | rw [if_neg (by omega)] | rw [if_pos (by omega)] | rw [if_pos (by simp <;> omega)] | fail)
      · rw [if_neg (by omega), if_neg (by omega), if_neg (by omega), if_neg (by omega)]
        exact q3 k hk
  · unfold inW at q
    simp only [gi_si]
    repeat' (first | rw [if_neg (by omega)] | rw [if_pos (by omega)] | rw [if_pos (by simp <;> omega)] | fail)
theorem s_put {N : Nat} (r x v : Int32) : Sim (f_X5_put N 0 r x v) (f_X6_put N 66 r x v) := by
  intro b σ h
  have hR := h.1
  have hr := hR
  unfold Rf at hr
  rcases arg2 r 4 (by decide) with q | ⟨j, hj, rfl⟩
  · refine ⟨-1, σ, σ, b, ?_, ?_, h⟩
    · unfold f_X5_put
      rw [p_isTextX q]
      rfl
    · unfold f_X6_put
      rw [p_isTextM q]
      rfl
  · have ho := OKt hj
    obtain ⟨g1, g2⟩ := h.2.2.2.1 j hj
    unfold f_X5_put f_X6_put
    rcases g2 with g2 | ⟨n, hn, g2, g3⟩
    · refine ⟨-3, fndX σ 1, fndM (fndX σ 1) 1, b, ?_, ?_, rel_find h (by decide)⟩
      · simp (disch := omega) only [p_isTextXy hj, ↓reduceIte, ↓lt, ↓BRs, CB, ONE, if_true, if_false, gi_si, gi_sl, gi_sr, gl_si, gl_sl, gl_sr, gr_si, gr_sl, gr_sr, OKx, inbT, ix_nI, LITS, ltT, ltF, leT, leF, eqT, eqF, lt0F, le0T, eq0T, eq0F, nI_add, nI_1, pk_mul, nI_subT, hr, ho, g1, g2, p_fnd hR]
      · have hr1 := Rf_fX (f := 1) hR
        unfold Rf at hr1
        have e1 : gi (fndX σ 1) 71 j = -1 := by rw [gi_fndX, if_neg (by omega), if_neg (by omega)]; exact g2
        simp (disch := omega) only [p_isTextMy hj, ↓reduceIte, ↓lt, ↓BRs, CB, ONE, if_true, if_false, gi_si, gi_sl, gi_sr, gl_si, gl_sl, gl_sr, gr_si, gr_sl, gr_sr, OKx, OKm, inbT, ix_nI, LITS, ltT, ltF, leT, leF, eqT, eqF, lt0F, le0T, eq0T, eq0F, nI_add, nI_1, pk_mul, nI_subT, hr1, e1, m1_lt, p_mts (Rf_fX hR)]
    · have e2 := g1.trans g2
      rcases arg2 x n (by omega) with q | ⟨i, hi, rfl⟩
      · refine ⟨-3, fndX σ 2, fndM (fndX σ 2) 2, b, ?_, ?_, rel_find h (by decide)⟩
        · have e3 : f_X5_put_45 N 0 σ = some (-3, fndX σ 2) := by
            unfold f_X5_put_45
            simp only [↓reduceIte, ↓lt, ↓BRs, CB, ONE, if_true, if_false, gi_si, gi_sl, gi_sr, gl_si, gl_sl, gl_sr, gr_si, gr_sl, gr_sr, p_fnd hR]
          simp (disch := omega) only [p_isTextXy hj, ↓reduceIte, ↓lt, ↓BRs, CB, ONE, if_true, if_false, gi_si, gi_sl, gi_sr, gl_si, gl_sl, gl_sr, gr_si, gr_sl, gr_sr, OKx, inbT, ix_nI, LITS, ltT, ltF, leT, leF, eqT, eqF, lt0F, le0T, eq0T, eq0F, nI_add, nI_1, pk_mul, nI_subT, hr, ho, e2, nI_nm1, e3]
          by_cases d1 : x < 0
          · rw [if_pos d1]
          · rw [if_neg d1, if_neg (Int32.not_lt.mpr (q.resolve_left d1))]
        · have hr1 := Rf_fX (f := 2) hR
          unfold Rf at hr1
          have e1 : gi (fndX σ 2) 71 j = nI n := by rw [gi_fndX, if_neg (by omega), if_neg (by omega)]; exact g2
          simp (disch := omega) only [p_isTextMy hj, ↓reduceIte, ↓lt, ↓BRs, CB, ONE, if_true, if_false, gi_si, gi_sl, gi_sr, gl_si, gl_sl, gl_sr, gr_si, gr_sl, gr_sr, OKx, OKm, inbT, ix_nI, LITS, ltT, ltF, leT, leF, eqT, eqF, lt0F, le0T, eq0T, eq0F, nI_add, nI_1, pk_mul, nI_subT, hr1, e1, p_inz (N := N) (σ := fndX σ 2) hn q, p_mts (Rf_fX hR)]
      · have e0 := g3 i hi
        refine ⟨gi σ (50 + 2 * j) i + 1000, si σ (50 + 2 * j) i (v.toInt8.toInt32.toInt8.toInt32), _, b, ?_, ?_, rel_put h hj hn g2 hi (v.toInt8.toInt32.toInt8.toInt32)⟩
        · simp (disch := omega) only [p_isTextXy hj, ↓reduceIte, ↓lt, ↓BRs, CB, ONE, if_true, if_false, gi_si, gi_sl, gi_sr, gl_si, gl_sl, gl_sr, gr_si, gr_sl, gr_sr, OKx, inbT, ix_nI, LITS, ltT, ltF, leT, leF, eqT, eqF, lt0F, le0T, eq0T, eq0F, nI_add, nI_1, pk_mul, nI_subT, hr, ho, e2, nI_nm1]
        · have hR1 : Rf b (si σ (50 + 2 * j) i (v.toInt8.toInt32.toInt8.toInt32)) := hR
          have hr1 := hR1
          unfold Rf at hr1
          have e1 : gi (si σ (50 + 2 * j) i (v.toInt8.toInt32.toInt8.toInt32)) 71 j = nI n := by rw [gi_si, if_neg (by omega)]; exact g2
          have e5 : gi (si σ (50 + 2 * j) i (v.toInt8.toInt32.toInt8.toInt32)) 72 (60 * j + i) = gi σ (50 + 2 * j) i := by rw [gi_si, if_neg (by omega)]; exact e0.symm
          generalize hτ : si σ (50 + 2 * j) i (v.toInt8.toInt32.toInt8.toInt32) = τ at *
          simp (disch := omega) only [p_isTextMy hj, ↓reduceIte, ↓lt, ↓BRs, CB, ONE, if_true, if_false, gi_si, gi_sl, gi_sr, gl_si, gl_sl, gl_sr, gr_si, gr_sl, gr_sr, OKx, OKm, inbT, ix_nI, LITS, ltT, ltF, leT, leF, eqT, eqF, lt0F, le0T, eq0T, eq0F, nI_add, nI_1, pk_mul, nI_subT, hr1, e1, p_ino (N := N) (σ := τ) hn hi, e5]
          rw [Int32.add_comm]
