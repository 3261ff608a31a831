/-! ===== PURE: the reference's walks over a graph; the class's ===== -/
/-- the array of those told, in the reference, and in a day of the class -/
def GM (σ : Mm) (n : Nat) (T : Nat → Nat) : Prop := gi σ 66 10 = nI n ∧ (∀ m, m < n → gi σ 80 m = nI (T m)) ∧ n ≤ 6 ∧ ∀ m, m < n → T m < 2 ^ n
def GX (σ : Mm) (o n : Nat) (T : Nat → Nat) : Prop := gi σ o 5 = nI n ∧ (∀ m, m < n → gi σ (o + 5) m = nI (T m)) ∧ n ≤ 6 ∧ (∀ m, m < n → T m < 2 ^ n) ∧ (o = 7 ∨ o = 13)
theorem ok_d {o : Nat} (h : o = 7 ∨ o = 13) : okO 0 o = true ∧ okA 0 (o + 1) = true ∧ okA 0 (o + 2) = true ∧ okA 0 (o + 3) = true ∧ okA 0 (o + 4) = true ∧ okA 0 (o + 5) = true ∧ arL (o + 1) = 6 ∧ arL (o + 2) = 6 ∧ arL (o + 3) = 6 ∧ arL (o + 4) = 4 ∧ arL (o + 5) = 6 := by rcases h with rfl | rfl <;> (repeat' (first | rfl | constructor))
theorem BRd {ρ : Type} {b : Bool} {σ : Mm} {o : Nat} (hR : Rf b σ) (h : o = 7 ∨ o = 13) : (∀ chk f, bR (ρ := ρ) (gr σ o 0) chk f = if chk (o + 1) then f (o + 1) else none) ∧ (∀ chk f, bR (ρ := ρ) (gr σ o 1) chk f = if chk (o + 2) then f (o + 2) else none) ∧ (∀ chk f, bR (ρ := ρ) (gr σ o 2) chk f = if chk (o + 3) then f (o + 3) else none) ∧ (∀ chk f, bR (ρ := ρ) (gr σ o 3) chk f = if chk (o + 4) then f (o + 4) else none) ∧ (∀ chk f, bR (ρ := ρ) (gr σ o 4) chk f = if chk (o + 5) then f (o + 5) else none) := by
  have hb := BR (ρ := ρ) hR
  rcases h with rfl | rfl <;> (simp only [hb]; simp)
theorem p_reaches_l {N n p M S : Nat} {b : Bool} {σ : Mm} {T : Nat → Nat} (hR : Rf b σ) (h : GM σ n T) (hp : p < n) (hM : M < 64) (hS : S < 64) (K : Nat → Int32 → Int32 → Int32 → Int32 → Mm → Option (Int32 × Mm)) : ∀ (k i Z : Nat), i ≤ n → n - i < k → Z = S ||| un (fun m => if S.testBit m && (decide (m = p) || M.testBit m) then T m else 0) i → f_X6_reaches_19 N K k 66 (nI p) (nI M) (nI Z) (nI S) (nI i) σ = K 66 (nI p) (nI M) (nI (stepM T n p M S)) (nI S) σ := by
  obtain ⟨h1, h2, h3, h4⟩ := h
  intro k
  induction k with
  | zero => intro i Z _ h; omega
  | succ k ih =>
    intro i Z hi hk hZ
    unfold f_X6_reaches_19
    rw [h1]
    by_cases e : i = n
    · subst e
      simp (disch := omega) only [↓reduceIte, ↓lt, ↓BRs, CB, ONE, if_true, if_false, gi_si, gi_sl, gi_sr, gl_si, gl_sl, gl_sr, gr_si, gr_sl, gr_sr, leT]
      rw [hZ]
      rfl
    · have hin : i < n := by omega
      have hun : S ||| un (fun m => if S.testBit m && (decide (m = p) || M.testBit m) then T m else 0) (i + 1) = Z ||| (if S.testBit i && (decide (i = p) || M.testBit i) then T i else 0) := by
        rw [hZ, Nat.or_assoc]
        rfl
      have e65 : ∀ z : Nat, z = (if S.testBit i && (decide (i = p) || M.testBit i) then T i else 0) → f_X6_reaches_65 N K (f_X6_reaches_19 N K k) 66 (nI p) (nI M) (nI S) (nI i) (nI z) (nI Z) σ = K 66 (nI p) (nI M) (nI (stepM T n p M S)) (nI S) σ := fun z hz => by
        unfold f_X6_reaches_65
        simp only [lt, nI_or, nI_1]
        exact ih (i + 1) _ (by omega) (by omega) (by rw [hun, hz])
      have e64 : (S.testBit i && (decide (i = p) || M.testBit i)) = false → f_X6_reaches_64 N K (f_X6_reaches_19 N K k) 66 (nI p) (nI M) (nI S) (nI i) (nI Z) σ = K 66 (nI p) (nI M) (nI (stepM T n p M S)) (nI S) σ := fun hz => by
        unfold f_X6_reaches_64
        exact e65 0 (by rw [hz]; rfl)
      have e54 : (S.testBit i && (decide (i = p) || M.testBit i)) = true → f_X6_reaches_54 N K (f_X6_reaches_19 N K k) 66 (nI p) (nI M) (nI S) (nI i) (nI Z) σ = K 66 (nI p) (nI M) (nI (stepM T n p M S)) (nI S) σ := fun hz => by
        unfold f_X6_reaches_54
        simp (disch := omega) only [↓reduceIte, ↓lt, ↓BRs, CB, ONE, if_true, if_false, gi_si, gi_sl, gi_sr, gl_si, gl_sl, gl_sr, gr_si, gr_sl, gr_sr, ↓BR hR, OKm, inbT, ix_nI, h2 i hin]
        exact e65 (T i) (by rw [hz]; rfl)
      simp (disch := omega) only [↓reduceIte, ↓lt, ↓BRs, CB, ONE, if_true, if_false, gi_si, gi_sl, gi_sr, gl_si, gl_sl, gl_sr, gr_si, gr_sl, gr_sr, leF, ↓bIe (p_has (N := N) (σ := σ) (S := S) (j := i) hS (by omega)), ↓bIe (p_has (N := N) (σ := σ) (S := M) (j := i) hM (by omega))]
      cases c1 : S.testBit i with
      | false =>
        simp only [Bool.false_eq_true, ↓reduceIte, ↓lt, ↓BRs, CB, ONE, if_true, if_false, gi_si, gi_sl, gi_sr, gl_si, gl_sl, gl_sr, gr_si, gr_sl, gr_sr]
        exact e64 (by rw [c1]; rfl)
      | true =>
        simp only [↓reduceIte, ↓lt, ↓BRs, CB, ONE, if_true, if_false, gi_si, gi_sl, gi_sr, gl_si, gl_sl, gl_sr, gr_si, gr_sl, gr_sr]
        by_cases c2 : i = p
        · rw [if_pos (by rw [c2])]
          exact e54 (by rw [c1]; simp [c2])
        · rw [if_neg (fun q => c2 ((nI_eq (by omega) (by omega)).mp q))]
          cases c3 : M.testBit i with
          | false =>
            simp only [Bool.false_eq_true, ↓reduceIte, ↓lt, ↓BRs, CB, ONE, if_true, if_false, gi_si, gi_sl, gi_sr, gl_si, gl_sl, gl_sr, gr_si, gr_sl, gr_sr]
            exact e64 (by rw [c1, c3]; simp [c2])
          | true =>
            simp only [↓reduceIte, ↓lt, ↓BRs, CB, ONE, if_true, if_false, gi_si, gi_sl, gi_sr, gl_si, gl_sl, gl_sr, gr_si, gr_sl, gr_sr]
            exact e54 (by rw [c1, c3]; simp)
theorem p_reaches_w {N n p M : Nat} {b : Bool} {σ : Mm} {T : Nat → Nat} (hN : 20 ≤ N) (hR : Rf b σ) (h : GM σ n T) (hp : p < n) (hM : M < 64) : ∀ (k i : Nat), 1 ≤ i → i ≤ 7 → 8 - i < k → f_X6_reaches_7 N k 66 (nI p) (nI M) (nI (LV T n p M i)) (nI (LV T n p M (i - 1))) σ = some (nI (LV T n p M (n - 1)), σ) := by
  have h0 := h
  obtain ⟨h1, h2, h3, h4⟩ := h0
  have h6 := pow6 h3
  intro k
  induction k with
  | zero => intro i _ _ h; omega
  | succ k ih =>
    intro i hi1 hi hk
    unfold f_X6_reaches_7
    have l1 := LV_lt (M := M) h4 hp i
    have l2 := LV_lt (M := M) h4 hp (i - 1)
    by_cases e : LV T n p M (i - 1) = LV T n p M i
    · rw [if_pos (by rw [e])]
      have e2 : LV T n p M (i - 1 + 1) = LV T n p M (i - 1) := by rw [show i - 1 + 1 = i by omega]; exact e.symm
      have e3 := LV_stable_step e2 (n - 1 + 8 - (i - 1))
      rw [show i - 1 + (n - 1 + 8 - (i - 1)) = n - 1 + 8 by omega, LV_stable h4 hp (by omega)] at e3
      rw [e3, e]
    · rw [if_neg (fun q => e ((nI_eq (by omega) (by omega)).mp q))]
      have hi6 : i ≤ 6 := by
        apply Classical.byContradiction
        intro hc
        apply e
        rw [LV_stable h4 hp (j := i - 1) (by omega), LV_stable h4 hp (j := i) (by omega)]
      rw [show (0 : Int32) = nI 0 from rfl, p_reaches_l (S := LV T n p M i) hR h hp hM (by omega) _ N 0 (LV T n p M i) (by omega) (by omega) (by simp [un])]
      have := ih (i + 1) (by omega) (by omega) (by omega)
      rw [show i + 1 - 1 = i by omega] at this
      exact this
theorem p_reaches {N n p M : Nat} {b : Bool} {σ : Mm} {T : Nat → Nat} (hN : 20 ≤ N) (hR : Rf b σ) (h : GM σ n T) (hp : p < n) (hM : M < 64) : f_X6_reaches N 66 (nI p) (nI M) σ = some (nI (LV T n p M (n - 1)), σ) := by
  obtain ⟨N1, rfl⟩ : ∃ N1, N = N1 + 1 := ⟨N - 1, by omega⟩
  have h0 := h
  obtain ⟨h1, h2, h3, h4⟩ := h0
  have h6 := pow6 h3
  have l0 := LV_lt (M := M) h4 hp 0
  unfold f_X6_reaches
  simp only [↓reduceIte, ↓lt, ↓BRs, CB, ONE, if_true, if_false, gi_si, gi_sl, gi_sr, gl_si, gl_sl, gl_sr, gr_si, gr_sl, gr_sr, OKx]
  rw [shl1 _ (by omega)]
  show f_X6_reaches_7 (N1 + 1) (N1 + 1) 66 (nI p) (nI M) (nI (LV T n p M 0)) 0 σ = _
  unfold f_X6_reaches_7
  have hne : ¬ (0 : Int32) = nI (LV T n p M 0) := fun q => by
    have e : LV T n p M 0 = 0 := ((nI_eq (by omega) (by omega)).mp (show nI 0 = nI (LV T n p M 0) from q)).symm
    have e2 := LV_p (T := T) (n := n) (p := p) (M := M) (k := 0)
    rw [e] at e2
    simp at e2
  rw [if_neg hne, show (0 : Int32) = nI 0 from rfl, p_reaches_l (S := LV T n p M 0) hR h hp hM (by omega) _ (N1 + 1) 0 (LV T n p M 0) (by omega) (by omega) (by simp [un])]
  exact p_reaches_w (by omega) hR h hp hM N1 1 (by omega) (by omega) (by omega)
theorem p_steps_l {N n p S v2 v4 : Nat} {b : Bool} {σ : Mm} {T : Nat → Nat} (hR : Rf b σ) (h : GM σ n T) (hp : p < n) (hS : S < 64) (K : Nat → Int32 → Int32 → Int32 → Mm → Option (Int32 × Mm)) : ∀ (k i Z : Nat), i ≤ n → n - i < k → Z = S ||| un (fun m => if S.testBit m && (decide (m = p) || (63 : Nat).testBit m) then T m else 0) i → f_X6_stepsOf_33 N K k 66 (nI v2) (nI S) (nI v4) (nI Z) (nI i) σ = K 66 (nI v2) (nI (stepM T n p 63 S)) (nI (v4 + 1)) σ := by
  obtain ⟨h1, h2, h3, h4⟩ := h
  intro k
  induction k with
  | zero => intro i Z _ h; omega
  | succ k ih =>
    intro i Z hi hk hZ
    unfold f_X6_stepsOf_33
    rw [h1]
    by_cases e : i = n
    · subst e
      simp (disch := omega) only [↓reduceIte, ↓lt, ↓BRs, CB, ONE, if_true, if_false, gi_si, gi_sl, gi_sr, gl_si, gl_sl, gl_sr, gr_si, gr_sl, gr_sr, leT, nI_1]
      rw [hZ]
      rfl
    · have hin : i < n := by omega
      have h63 : (63 : Nat).testBit i = true := by rcases (show i = 0 ∨ i = 1 ∨ i = 2 ∨ i = 3 ∨ i = 4 ∨ i = 5 by omega) with rfl | rfl | rfl | rfl | rfl | rfl <;> rfl
      have hun : S ||| un (fun m => if S.testBit m && (decide (m = p) || (63 : Nat).testBit m) then T m else 0) (i + 1) = Z ||| (if S.testBit i then T i else 0) := by
        rw [hZ, Nat.or_assoc]
        show S ||| (_ ||| (if S.testBit i && (decide (i = p) || (63 : Nat).testBit i) then T i else 0)) = _
        rw [h63, Bool.or_true, Bool.and_true]
      have e64 : ∀ z : Nat, z = (if S.testBit i then T i else 0) → f_X6_stepsOf_64 N K (f_X6_stepsOf_33 N K k) 66 (nI v2) (nI S) (nI v4) (nI i) (nI z) (nI Z) σ = K 66 (nI v2) (nI (stepM T n p 63 S)) (nI (v4 + 1)) σ := fun z hz => by
        unfold f_X6_stepsOf_64
        simp only [lt, nI_or, nI_1]
        exact ih (i + 1) _ (by omega) (by omega) (by rw [hun, hz])
      simp (disch := omega) only [↓reduceIte, ↓lt, ↓BRs, CB, ONE, if_true, if_false, gi_si, gi_sl, gi_sr, gl_si, gl_sl, gl_sr, gr_si, gr_sl, gr_sr, leF, ↓bIe (p_has (N := N) (σ := σ) (S := S) (j := i) hS (by omega))]
      cases c1 : S.testBit i with
      | false =>
        simp only [Bool.false_eq_true, ↓reduceIte, ↓lt, ↓BRs, CB, ONE, if_true, if_false, gi_si, gi_sl, gi_sr, gl_si, gl_sl, gl_sr, gr_si, gr_sl, gr_sr]
        exact e64 0 (by rw [c1]; rfl)
      | true =>
        simp (disch := omega) only [↓reduceIte, ↓lt, ↓BRs, CB, ONE, if_true, if_false, gi_si, gi_sl, gi_sr, gl_si, gl_sl, gl_sr, gr_si, gr_sl, gr_sr, ↓BR hR, OKm, inbT, ix_nI, h2 i hin]
        exact e64 (T i) (by rw [c1]; rfl)
/-- the least number of steps -/
def stp (T : Nat → Nat) (n p q : Nat) (r : Int32) : Prop := (∃ k, k < n ∧ r = nI k ∧ (LV T n p 63 k).testBit q = true ∧ ∀ i, i < k → (LV T n p 63 i).testBit q = false) ∨ (r = -9 ∧ ∀ i, (LV T n p 63 i).testBit q = false)
theorem p_stepsOf {N n p q : Nat} {b : Bool} {σ : Mm} {T : Nat → Nat} (hN : 20 ≤ N) (hR : Rf b σ) (h : GM σ n T) (hp : p < n) (hq : q < n) : ∃ r, f_X6_stepsOf N 66 (nI p) (nI q) σ = some (r, σ) ∧ stp T n p q r := by
  have h0 := h
  obtain ⟨h1, h2, h3, h4⟩ := h0
  have h6 := pow6 h3
  have key : ∀ (k i : Nat), i ≤ n + 1 → n + 1 - i < k → (∀ j, j < i → (LV T n p 63 j).testBit q = false) → ∃ r, f_X6_stepsOf_7 N k 66 (nI q) (nI (LV T n p 63 i)) (nI i) σ = some (r, σ) ∧ stp T n p q r := by
    intro k
    induction k with
    | zero => intro i _ h; omega
    | succ k ih =>
      intro i hi hk hno
      have l1 := LV_lt (M := 63) h4 hp i
      unfold f_X6_stepsOf_7
      rw [h1]
      by_cases e : i = n + 1
      · subst e
        refine ⟨-9, by simp (disch := omega) only [↓reduceIte, ↓lt, ↓BRs, CB, ONE, if_true, if_false, gi_si, gi_sl, gi_sr, gl_si, gl_sl, gl_sr, gr_si, gr_sl, gr_sr, ltT], Or.inr ⟨rfl, fun j => ?_⟩⟩
        by_cases hj : j < n + 1
        · exact hno j hj
        · rw [LV_stable h4 hp (j := j) (by omega)]
          exact hno (n - 1) (by omega)
      · simp (disch := omega) only [↓reduceIte, ↓lt, ↓BRs, CB, ONE, if_true, if_false, gi_si, gi_sl, gi_sr, gl_si, gl_sl, gl_sr, gr_si, gr_sl, gr_sr, ltF, ↓bIe (p_has (N := N) (σ := σ) (S := LV T n p 63 i) (j := q) (by omega) (by omega))]
        cases c : (LV T n p 63 i).testBit q with
        | true =>
          have hin : i < n := by
            apply Classical.byContradiction
            intro hc
            have e2 : i = n := by omega
            subst e2
            have h8 := hno (i - 1) (by omega)
            rw [LV_stable h4 hp (j := i) (by omega)] at c
            rw [h8] at c
            cases c
          exact ⟨nI i, by simp only [↓reduceIte, ↓lt, ↓BRs, CB, ONE, if_true, if_false, gi_si, gi_sl, gi_sr, gl_si, gl_sl, gl_sr, gr_si, gr_sl, gr_sr], Or.inl ⟨i, hin, rfl, c, hno⟩⟩
        | false =>
          simp only [Bool.false_eq_true, ↓reduceIte, ↓lt, ↓BRs, CB, ONE, if_true, if_false, gi_si, gi_sl, gi_sr, gl_si, gl_sl, gl_sr, gr_si, gr_sl, gr_sr]
          rw [show (0 : Int32) = nI 0 from rfl, p_steps_l (S := LV T n p 63 i) (p := p) hR h hp (by omega) _ N 0 (LV T n p 63 i) (by omega) (by omega) (by simp [un])]
          exact ih (i + 1) (by omega) (by omega) (fun j hj => by
            by_cases e3 : j = i
            · subst e3; exact c
            · exact hno j (by omega))
  unfold f_X6_stepsOf
  simp only [↓reduceIte, ↓lt, ↓BRs, CB, ONE, if_true, if_false, gi_si, gi_sl, gi_sr, gl_si, gl_sl, gl_sr, gr_si, gr_sl, gr_sr, OKx]
  rw [shl1 _ (by omega)]
  exact key N 0 (by omega) (by omega) (fun j hj => by omega)
theorem stp_one {T : Nat → Nat} {n p q : Nat} {r s : Int32} (hn : n ≤ 6) (h1 : stp T n p q r) (h2 : stp T n p q s) : r = s := by
  rcases h1 with ⟨k, a1, a2, a3, a4⟩ | ⟨a1, a2⟩ <;> rcases h2 with ⟨j, b1, b2, b3, b4⟩ | ⟨b1, b2⟩
  · rw [a2, b2]
    have : k = j := by
      rcases Nat.lt_trichotomy k j with q | q | q
      · rw [b4 k q] at a3; cases a3
      · exact q
      · rw [a4 j q] at b3; cases b3
    rw [this]
  · rw [b2 k] at a3; cases a3
  · rw [a2 j] at b3; cases b3
  · rw [a1, b1]
