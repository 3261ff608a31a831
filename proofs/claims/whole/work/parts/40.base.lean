/-! ===== PURE: numbers, combinators, references ===== -/
theorem CB : (∀ (ρ : Type) (r : Int32 × Mm) (k : Int32 → Mm → Option ρ), bI (some r) k = k r.1 r.2) ∧ (∀ (ρ : Type) (r : Int64 × Mm) (k : Int64 → Mm → Option ρ), bL (some r) k = k r.1 r.2) ∧ (∀ (ρ : Type) (r : Mm) (k : Mm → Option ρ), bV (some r) k = k r) ∧ (∀ (ρ : Type) (b : Nat) (chk : Nat → Bool) (k : Nat → Option ρ), bR (some b) chk k = if chk b then k b else none) := ⟨fun _ _ _ => rfl, fun _ _ _ => rfl, fun _ _ _ => rfl, fun _ _ _ _ => rfl⟩
theorem inbT {i n : Nat} (h : i < n) (hn : n < 2147483648) : inb (nI i) n = true := by
  unfold inb
  rw [nI_toInt (by omega)]
  simp
  omega
theorem inb_iff {x : Int32} {n : Nat} (hn : n < 2147483648) : inb x n = true ↔ ∃ j, j < n ∧ x = nI j := by
  constructor
  · intro h
    exact vp_in_of (inb_in h) (by omega)
  · rintro ⟨j, h1, rfl⟩
    exact inbT h1 hn
theorem ix_nI {i : Nat} (h : i < 2147483648) : ix (nI i) = i := nI_clamp (by omega)
theorem ltT {a b : Nat} (h : a < b) (hb : b < 2147483648) : (nI a < nI b) = True := eq_true (nI_lt h (by omega))
theorem ltF {a b : Nat} (h : b ≤ a) (hb : a < 2147483648) : (nI a < nI b) = False := eq_false (nI_nlt h (by omega))
theorem leT {a b : Nat} (h : a ≤ b) (hb : b < 2147483648) : (nI a ≤ nI b) = True := eq_true (nI_le h (by omega))
theorem leF {a b : Nat} (h : b < a) (hb : a < 2147483648) : (nI a ≤ nI b) = False := eq_false (nI_ge h (by omega))
theorem eqT {a b : Nat} (h : a = b) : (nI a = nI b) = True := eq_true (by rw [h])
theorem eqF {a b : Nat} (h : a ≠ b) (ha : a < 2147483648) (hb : b < 2147483648) : (nI a = nI b) = False := eq_false (fun q => h ((nI_eq (by omega) (by omega)).mp q))
theorem lt0F {a : Nat} (h : a < 2147483648) : (nI a < 0) = False := eq_false (nI_pos (by omega))
theorem le0T {a : Nat} (h : a < 2147483648) : (0 ≤ nI a) = True := eq_true (nI_pos' (by omega))
theorem eq0T : (nI 0 = 0) = True := eq_true rfl
theorem eq0F {a : Nat} (h0 : 0 < a) (h : a < 2147483648) : (nI a = 0) = False := eq_false (nI_ne0 h0 (by omega))
theorem nI_subT {a b : Nat} (h : b ≤ a) : nI a - nI b = nI (a - b) := pk_sub h
theorem nI_nm1 {a : Nat} (h : a < 2147483648) : (nI a = -1) = False := eq_false (fun q => by
  have h1 := nI_toInt (n := a) (by omega)
  rw [q] at h1
  have h2 : (-1 : Int32).toInt = -1 := by decide
  omega)
theorem LITS : (2 : Int32) = nI 2 ∧ (3 : Int32) = nI 3 ∧ (4 : Int32) = nI 4 ∧ (5 : Int32) = nI 5 ∧ (6 : Int32) = nI 6 ∧ (12 : Int32) = nI 12 ∧ (13 : Int32) = nI 13 ∧ (14 : Int32) = nI 14 ∧ (20 : Int32) = nI 20 ∧ (36 : Int32) = nI 36 ∧ (40 : Int32) = nI 40 ∧ (60 : Int32) = nI 60 := ⟨rfl, rfl, rfl, rfl, rfl, rfl, rfl, rfl, rfl, rfl, rfl, rfl⟩
theorem ONE : ((1 : Int32) = 0) = False ∧ ((0 : Int32) = 0) = True ∧ ((0 : Int32) = 1) = False ∧ ((1 : Int32) = 1) = True ∧ ((-1 : Int32) = -1) = True ∧ (true = true) = True ∧ (false = true) = False := ⟨eq_false (by decide), eq_true rfl, eq_false (by decide), eq_true rfl, eq_true rfl, eq_true rfl, eq_false (by decide)⟩
theorem arg2 (x : Int32) (n : Nat) (hn : n < 2147483648) : (x < 0 ∨ nI n ≤ x) ∨ ∃ j : Nat, j < n ∧ x = nI j := by
  rcases pk_ix x (n := n) (by omega) with q | q | q
  · exact Or.inl (Or.inl q)
  · exact Or.inl (Or.inr q)
  · exact Or.inr q
/-- an argument: below 0, too large, or a number -/
theorem arg_cases (x : Int32) (n : Nat) (hn : n < 2147483648) : x < 0 ∨ nI n ≤ x ∨ ∃ j : Nat, j < n ∧ x = nI j := pk_ix x (by omega)
/-- the references -/
def Rf (b : Bool) (σ : Mm) : Prop :=
  gr σ 0 0 = some 1 ∧ gr σ 0 1 = some 2 ∧ gr σ 0 2 = some 3 ∧ gr σ 0 3 = some 4 ∧ gr σ 0 4 = some 7 ∧ gr σ 0 5 = some 13 ∧ gr σ 0 6 = some (if b then 27 else 19) ∧ gr σ 0 7 = some (if b then 19 else 27) ∧ gr σ 0 8 = some 35 ∧ gr σ 0 9 = some 36 ∧
  (∀ j, j < 6 → gr σ 1 j = some (37 + 2 * j)) ∧ (∀ j, j < 4 → gr σ 2 j = some (49 + 2 * j)) ∧ (∀ j, j < 3 → gr σ 3 j = some (57 + 3 * j)) ∧
  (∀ j, j < 6 → gr σ (37 + 2 * j) 0 = some (38 + 2 * j)) ∧ (∀ j, j < 4 → gr σ (49 + 2 * j) 0 = some (50 + 2 * j)) ∧ (∀ j, j < 3 → gr σ (57 + 3 * j) 0 = some (58 + 3 * j)) ∧ (∀ j, j < 3 → gr σ (57 + 3 * j) 1 = some (59 + 3 * j)) ∧
  (gr σ 4 0 = some 5 ∧ gr σ 4 1 = some 6 ∧ gr σ 7 0 = some 8 ∧ gr σ 7 1 = some 9 ∧ gr σ 7 2 = some 10 ∧ gr σ 7 3 = some 11 ∧ gr σ 7 4 = some 12 ∧ gr σ 13 0 = some 14 ∧ gr σ 13 1 = some 15 ∧ gr σ 13 2 = some 16 ∧ gr σ 13 3 = some 17 ∧ gr σ 13 4 = some 18) ∧
  (gr σ 19 0 = some 20 ∧ gr σ 19 1 = some 21 ∧ gr σ 19 2 = some 22 ∧ gr σ 19 3 = some 23 ∧ gr σ 19 4 = some 24 ∧ gr σ 19 5 = some 25 ∧ gr σ 19 6 = some 26) ∧
  (gr σ 27 0 = some 28 ∧ gr σ 27 1 = some 29 ∧ gr σ 27 2 = some 30 ∧ gr σ 27 3 = some 31 ∧ gr σ 27 4 = some 32 ∧ gr σ 27 5 = some 33 ∧ gr σ 27 6 = some 34) ∧
  (gr σ 66 1 = some 67 ∧ gr σ 66 5 = some 68 ∧ gr σ 66 6 = some 69 ∧ gr σ 66 7 = some 70 ∧ gr σ 66 8 = some 71 ∧ gr σ 66 9 = some 72 ∧ gr σ 66 11 = some 73 ∧ gr σ 66 12 = some 74 ∧ gr σ 66 16 = some 75 ∧ gr σ 66 17 = some 76 ∧ gr σ 66 18 = some 77 ∧ gr σ 66 19 = some 78 ∧ gr σ 66 20 = some 79 ∧ gr σ 66 21 = some 80 ∧ gr σ 66 23 = some 81 ∧ gr σ 66 24 = some 82 ∧ gr σ 66 25 = some 83 ∧ gr σ 66 26 = some 84 ∧ gr σ 66 27 = some 85 ∧ gr σ 66 28 = some 86 ∧ gr σ 66 29 = some 87 ∧ gr σ 66 30 = some 88)
theorem Rf_si {b : Bool} {σ : Mm} {a k : Nat} {v : Int32} (h : Rf b σ) : Rf b (si σ a k v) := h
theorem Rf_sl {b : Bool} {σ : Mm} {a k : Nat} {v : Int64} (h : Rf b σ) : Rf b (sl σ a k v) := h
theorem Rf_eq {b : Bool} {σ τ : Mm} (e : τ.2.2 = σ.2.2) (h : Rf b σ) : Rf b τ := by
  have e1 : ∀ a k, gr τ a k = gr σ a k := fun a k => by unfold gr; rw [e]
  unfold Rf at h ⊢
  simp only [e1]
  exact h
/-- the shapes of the cells, as rows -/
theorem OKx : okO 5 0 = true ∧ okO 6 66 = true ∧ okO 1 4 = true ∧ okO 0 7 = true ∧ okO 0 13 = true ∧ okO 2 19 = true ∧ okO 2 27 = true ∧ okA 3 1 = true ∧ okA 4 2 = true ∧ okA 5 3 = true ∧ okA 0 5 = true ∧ okA 0 6 = true ∧
  okA 0 8 = true ∧ okA 0 9 = true ∧ okA 0 10 = true ∧ okA 0 11 = true ∧ okA 0 12 = true ∧ okA 0 14 = true ∧ okA 0 15 = true ∧ okA 0 16 = true ∧ okA 0 17 = true ∧ okA 0 18 = true ∧
  okA 0 20 = true ∧ okA 0 21 = true ∧ okA 0 22 = true ∧ okA 0 23 = true ∧ okA 0 24 = true ∧ okA 0 25 = true ∧ okA 0 26 = true ∧ okA 0 28 = true ∧ okA 0 29 = true ∧ okA 0 30 = true ∧ okA 0 31 = true ∧ okA 0 32 = true ∧ okA 0 33 = true ∧ okA 0 34 = true ∧ okA 0 35 = true ∧ okA 0 36 = true ∧
  arL 1 = 6 ∧ arL 2 = 4 ∧ arL 3 = 3 ∧ arL 5 = 40 ∧ arL 6 = 40 ∧ arL 8 = 6 ∧ arL 9 = 6 ∧ arL 10 = 6 ∧ arL 11 = 4 ∧ arL 12 = 6 ∧ arL 14 = 6 ∧ arL 15 = 6 ∧ arL 16 = 6 ∧ arL 17 = 4 ∧ arL 18 = 6 ∧
  arL 20 = 6 ∧ arL 21 = 6 ∧ arL 22 = 6 ∧ arL 23 = 6 ∧ arL 24 = 6 ∧ arL 25 = 6 ∧ arL 26 = 6 ∧ arL 28 = 6 ∧ arL 29 = 6 ∧ arL 30 = 6 ∧ arL 31 = 6 ∧ arL 32 = 6 ∧ arL 33 = 6 ∧ arL 34 = 6 ∧ arL 35 = 6 ∧ arL 36 = 6 := by repeat' (first | rfl | constructor)
theorem OKm : okA 0 67 = true ∧ okA 0 68 = true ∧ okA 0 69 = true ∧ okA 0 70 = true ∧ okA 0 71 = true ∧ okA 1 72 = true ∧ okA 0 73 = true ∧ okA 0 74 = true ∧ okA 0 75 = true ∧ okA 0 76 = true ∧ okA 0 77 = true ∧ okA 0 78 = true ∧ okA 0 79 = true ∧ okA 0 80 = true ∧ okA 0 81 = true ∧ okA 2 82 = true ∧ okA 0 83 = true ∧ okA 0 84 = true ∧ okA 0 85 = true ∧ okA 0 86 = true ∧ okA 0 87 = true ∧ okA 0 88 = true ∧
  arL 67 = 6 ∧ arL 68 = 6 ∧ arL 69 = 240 ∧ arL 70 = 40 ∧ arL 71 = 4 ∧ arL 72 = 240 ∧ arL 73 = 6 ∧ arL 74 = 6 ∧ arL 75 = 6 ∧ arL 76 = 6 ∧ arL 77 = 6 ∧ arL 78 = 14 ∧ arL 79 = 14 ∧ arL 80 = 6 ∧ arL 81 = 560 ∧ arL 82 = 3 ∧ arL 83 = 3 ∧ arL 84 = 42 ∧ arL 85 = 1680 ∧ arL 86 = 6 ∧ arL 87 = 24576 ∧ arL 88 = 6 := by repeat' (first | rfl | constructor)
theorem OKr {j : Nat} (h : j < 6) : okO 3 (37 + 2 * j) = true ∧ okA 0 (38 + 2 * j) = true ∧ arL (38 + 2 * j) = 40 := by
  rcases (show j = 0 ∨ j = 1 ∨ j = 2 ∨ j = 3 ∨ j = 4 ∨ j = 5 by omega) with rfl | rfl | rfl | rfl | rfl | rfl <;> decide
theorem OKt {j : Nat} (h : j < 4) : okO 4 (49 + 2 * j) = true ∧ okA 1 (50 + 2 * j) = true ∧ arL (50 + 2 * j) = 60 := by
  rcases (show j = 0 ∨ j = 1 ∨ j = 2 ∨ j = 3 by omega) with rfl | rfl | rfl | rfl <;> decide
theorem OKk {j : Nat} (h : j < 3) : okO 1 (57 + 3 * j) = true ∧ okA 0 (58 + 3 * j) = true ∧ okA 0 (59 + 3 * j) = true ∧ arL (58 + 3 * j) = 40 ∧ arL (59 + 3 * j) = 40 := by
  rcases (show j = 0 ∨ j = 1 ∨ j = 2 by omega) with rfl | rfl | rfl <;> decide
theorem bIe {ρ : Type} {x : Option (Int32 × Mm)} {v : Int32} {τ : Mm} (h : x = some (v, τ)) (k : Int32 → Mm → Option ρ) : bI x k = k v τ := by rw [h]; rfl
theorem bLe {ρ : Type} {x : Option (Int64 × Mm)} {v : Int64} {τ : Mm} (h : x = some (v, τ)) (k : Int64 → Mm → Option ρ) : bL x k = k v τ := by rw [h]; rfl
theorem bVe {ρ : Type} {x : Option Mm} {r : Mm} (h : x = some r) (k : Mm → Option ρ) : bV x k = k r := by rw [h]; rfl
theorem bRe {ρ : Type} {x : Option Nat} {b : Nat} (h : x = some b) (chk : Nat → Bool) (f : Nat → Option ρ) : bR x chk f = if chk b then f b else none := by rw [h]; rfl
theorem BRs {ρ : Type} {σ : Mm} {chk : Nat → Bool} {f : Nat → Option ρ} {c d : Nat} : (∀ a k v, bR (gr (si σ a k v) c d) chk f = bR (gr σ c d) chk f) ∧ (∀ a k v, bR (gr (sl σ a k v) c d) chk f = bR (gr σ c d) chk f) := ⟨fun _ _ _ => rfl, fun _ _ _ => rfl⟩
theorem BR {ρ : Type} {b : Bool} {σ : Mm} (hR : Rf b σ) : (∀ chk f, bR (ρ := ρ) (gr σ 0 0) chk f = if chk 1 then f 1 else none) ∧ (∀ chk f, bR (ρ := ρ) (gr σ 0 1) chk f = if chk 2 then f 2 else none) ∧ (∀ chk f, bR (ρ := ρ) (gr σ 0 2) chk f = if chk 3 then f 3 else none) ∧ (∀ chk f, bR (ρ := ρ) (gr σ 0 3) chk f = if chk 4 then f 4 else none) ∧ (∀ chk f, bR (ρ := ρ) (gr σ 0 4) chk f = if chk 7 then f 7 else none) ∧ (∀ chk f, bR (ρ := ρ) (gr σ 0 5) chk f = if chk 13 then f 13 else none) ∧ (∀ chk f, bR (ρ := ρ) (gr σ 0 6) chk f = if chk (if b then 27 else 19) then f (if b then 27 else 19) else none) ∧ (∀ chk f, bR (ρ := ρ) (gr σ 0 7) chk f = if chk (if b then 19 else 27) then f (if b then 19 else 27) else none) ∧ (∀ chk f, bR (ρ := ρ) (gr σ 0 8) chk f = if chk 35 then f 35 else none) ∧ (∀ chk f, bR (ρ := ρ) (gr σ 0 9) chk f = if chk 36 then f 36 else none) ∧ (∀ j chk f, j < 6 → bR (ρ := ρ) (gr σ 1 j) chk f = if chk (37 + 2 * j) then f (37 + 2 * j) else none) ∧ (∀ j chk f, j < 4 → bR (ρ := ρ) (gr σ 2 j) chk f = if chk (49 + 2 * j) then f (49 + 2 * j) else none) ∧ (∀ j chk f, j < 3 → bR (ρ := ρ) (gr σ 3 j) chk f = if chk (57 + 3 * j) then f (57 + 3 * j) else none) ∧ (∀ j chk f, j < 6 → bR (ρ := ρ) (gr σ (37 + 2 * j) 0) chk f = if chk (38 + 2 * j) then f (38 + 2 * j) else none) ∧ (∀ j chk f, j < 4 → bR (ρ := ρ) (gr σ (49 + 2 * j) 0) chk f = if chk (50 + 2 * j) then f (50 + 2 * j) else none) ∧ (∀ j chk f, j < 3 → bR (ρ := ρ) (gr σ (57 + 3 * j) 0) chk f = if chk (58 + 3 * j) then f (58 + 3 * j) else none) ∧ (∀ j chk f, j < 3 → bR (ρ := ρ) (gr σ (57 + 3 * j) 1) chk f = if chk (59 + 3 * j) then f (59 + 3 * j) else none) ∧ (∀ chk f, bR (ρ := ρ) (gr σ 4 0) chk f = if chk 5 then f 5 else none) ∧ (∀ chk f, bR (ρ := ρ) (gr σ 4 1) chk f = if chk 6 then f 6 else none) ∧ (∀ chk f, bR (ρ := ρ) (gr σ 7 0) chk f = if chk 8 then f 8 else none) ∧ (∀ chk f, bR (ρ := ρ) (gr σ 7 1) chk f = if chk 9 then f 9 else none) ∧ (∀ chk f, bR (ρ := ρ) (gr σ 7 2) chk f = if chk 10 then f 10 else none) ∧ (∀ chk f, bR (ρ := ρ) (gr σ 7 3) chk f = if chk 11 then f 11 else none) ∧ (∀ chk f, bR (ρ := ρ) (gr σ 7 4) chk f = if chk 12 then f 12 else none) ∧ (∀ chk f, bR (ρ := ρ) (gr σ 13 0) chk f = if chk 14 then f 14 else none) ∧ (∀ chk f, bR (ρ := ρ) (gr σ 13 1) chk f = if chk 15 then f 15 else none) ∧ (∀ chk f, bR (ρ := ρ) (gr σ 13 2) chk f = if chk 16 then f 16 else none) ∧ (∀ chk f, bR (ρ := ρ) (gr σ 13 3) chk f = if chk 17 then f 17 else none) ∧ (∀ chk f, bR (ρ := ρ) (gr σ 13 4) chk f = if chk 18 then f 18 else none) ∧ (∀ chk f, bR (ρ := ρ) (gr σ 19 0) chk f = if chk 20 then f 20 else none) ∧ (∀ chk f, bR (ρ := ρ) (gr σ 19 1) chk f = if chk 21 then f 21 else none) ∧ (∀ chk f, bR (ρ := ρ) (gr σ 19 2) chk f = if chk 22 then f 22 else none) ∧ (∀ chk f, bR (ρ := ρ) (gr σ 19 3) chk f = if chk 23 then f 23 else none) ∧ (∀ chk f, bR (ρ := ρ) (gr σ 19 4) chk f = if chk 24 then f 24 else none) ∧ (∀ chk f, bR (ρ := ρ) (gr σ 19 5) chk f = if chk 25 then f 25 else none) ∧ (∀ chk f, bR (ρ := ρ) (gr σ 19 6) chk f = if chk 26 then f 26 else none) ∧ (∀ chk f, bR (ρ := ρ) (gr σ 27 0) chk f = if chk 28 then f 28 else none) ∧ (∀ chk f, bR (ρ := ρ) (gr σ 27 1) chk f = if chk 29 then f 29 else none) ∧ (∀ chk f, bR (ρ := ρ) (gr σ 27 2) chk f = if chk 30 then f 30 else none) ∧ (∀ chk f, bR (ρ := ρ) (gr σ 27 3) chk f = if chk 31 then f 31 else none) ∧ (∀ chk f, bR (ρ := ρ) (gr σ 27 4) chk f = if chk 32 then f 32 else none) ∧ (∀ chk f, bR (ρ := ρ) (gr σ 27 5) chk f = if chk 33 then f 33 else none) ∧ (∀ chk f, bR (ρ := ρ) (gr σ 27 6) chk f = if chk 34 then f 34 else none) ∧ (∀ chk f, bR (ρ := ρ) (gr σ 66 1) chk f = if chk 67 then f 67 else none) ∧ (∀ chk f, bR (ρ := ρ) (gr σ 66 5) chk f = if chk 68 then f 68 else none) ∧ (∀ chk f, bR (ρ := ρ) (gr σ 66 6) chk f = if chk 69 then f 69 else none) ∧ (∀ chk f, bR (ρ := ρ) (gr σ 66 7) chk f = if chk 70 then f 70 else none) ∧ (∀ chk f, bR (ρ := ρ) (gr σ 66 8) chk f = if chk 71 then f 71 else none) ∧ (∀ chk f, bR (ρ := ρ) (gr σ 66 9) chk f = if chk 72 then f 72 else none) ∧ (∀ chk f, bR (ρ := ρ) (gr σ 66 11) chk f = if chk 73 then f 73 else none) ∧ (∀ chk f, bR (ρ := ρ) (gr σ 66 12) chk f = if chk 74 then f 74 else none) ∧ (∀ chk f, bR (ρ := ρ) (gr σ 66 16) chk f = if chk 75 then f 75 else none) ∧ (∀ chk f, bR (ρ := ρ) (gr σ 66 17) chk f = if chk 76 then f 76 else none) ∧ (∀ chk f, bR (ρ := ρ) (gr σ 66 18) chk f = if chk 77 then f 77 else none) ∧ (∀ chk f, bR (ρ := ρ) (gr σ 66 19) chk f = if chk 78 then f 78 else none) ∧ (∀ chk f, bR (ρ := ρ) (gr σ 66 20) chk f = if chk 79 then f 79 else none) ∧ (∀ chk f, bR (ρ := ρ) (gr σ 66 21) chk f = if chk 80 then f 80 else none) ∧ (∀ chk f, bR (ρ := ρ) (gr σ 66 23) chk f = if chk 81 then f 81 else none) ∧ (∀ chk f, bR (ρ := ρ) (gr σ 66 24) chk f = if chk 82 then f 82 else none) ∧ (∀ chk f, bR (ρ := ρ) (gr σ 66 25) chk f = if chk 83 then f 83 else none) ∧ (∀ chk f, bR (ρ := ρ) (gr σ 66 26) chk f = if chk 84 then f 84 else none) ∧ (∀ chk f, bR (ρ := ρ) (gr σ 66 27) chk f = if chk 85 then f 85 else none) ∧ (∀ chk f, bR (ρ := ρ) (gr σ 66 28) chk f = if chk 86 then f 86 else none) ∧ (∀ chk f, bR (ρ := ρ) (gr σ 66 29) chk f = if chk 87 then f 87 else none) ∧ (∀ chk f, bR (ρ := ρ) (gr σ 66 30) chk f = if chk 88 then f 88 else none) := by
  obtain ⟨h0, h1, h2, h3, h4, h5, h6, h7, h8, h9, g0, g1, g2, g3, g4, g5, g6, ⟨d0, d1, d2, d3, d4, d5, d6, d7, d8, d9, d10, d11⟩, ⟨p0, p1, p2, p3, p4, p5, p6⟩, ⟨q0, q1, q2, q3, q4, q5, q6⟩, ⟨m0, m1, m2, m3, m4, m5, m6, m7, m8, m9, m10, m11, m12, m13, m14, m15, m16, m17, m18, m19, m20, m21⟩⟩ := hR
  exact ⟨bRe h0, bRe h1, bRe h2, bRe h3, bRe h4, bRe h5, bRe h6, bRe h7, bRe h8, bRe h9, fun j chk f hj => bRe (g0 j hj) chk f, fun j chk f hj => bRe (g1 j hj) chk f, fun j chk f hj => bRe (g2 j hj) chk f, fun j chk f hj => bRe (g3 j hj) chk f, fun j chk f hj => bRe (g4 j hj) chk f, fun j chk f hj => bRe (g5 j hj) chk f, fun j chk f hj => bRe (g6 j hj) chk f, bRe d0, bRe d1, bRe d2, bRe d3, bRe d4, bRe d5, bRe d6, bRe d7, bRe d8, bRe d9, bRe d10, bRe d11, bRe p0, bRe p1, bRe p2, bRe p3, bRe p4, bRe p5, bRe p6, bRe q0, bRe q1, bRe q2, bRe q3, bRe q4, bRe q5, bRe q6, bRe m0, bRe m1, bRe m2, bRe m3, bRe m4, bRe m5, bRe m6, bRe m7, bRe m8, bRe m9, bRe m10, bRe m11, bRe m12, bRe m13, bRe m14, bRe m15, bRe m16, bRe m17, bRe m18, bRe m19, bRe m20, bRe m21⟩
/-- findings -/
def fndX (σ : Mm) (f : Nat) : Mm := si (si σ 0 10 (nI f)) 36 f (gi σ 36 f + 1)
def fndM (σ : Mm) (f : Nat) : Mm := si (si σ 66 0 (nI f)) 67 f (gi σ 67 f + 1)
theorem p_found {N : Nat} {bb : Bool} {σ : Mm} (hR : Rf bb σ) {f : Nat} (hf : f < 6) : f_X5_found N 0 (nI f) σ = some (-3, fndX σ f) := by
  unfold f_X5_found fndX
  simp (disch := omega) only [↓reduceIte, ↓lt, ↓BRs, CB, ONE, if_true, if_false, gi_si, gi_sl, gi_sr, gl_si, gl_sl, gl_sr, gr_si, gr_sl, gr_sr, OKx, hR.2.2.2.2.2.2.2.2.2.1, inbT, ix_nI, LITS, ltT, ltF, leT, leF, eqT, eqF, lt0F, le0T, eq0T, eq0F, nI_add, nI_1, pk_mul, nI_subT, if_true]
  simp
theorem p_meets {N : Nat} {bb : Bool} {σ : Mm} (hR : Rf bb σ) {f : Nat} (hf : f < 6) : f_X6_meets N 66 (nI f) σ = some (-3, fndM σ f) := by
  unfold f_X6_meets fndM
  have h := hR
  unfold Rf at h
  simp (disch := omega) only [↓reduceIte, ↓lt, ↓BRs, CB, ONE, if_true, if_false, gi_si, gi_sl, gi_sr, gl_si, gl_sl, gl_sr, gr_si, gr_sl, gr_sr, OKx, OKm, h, inbT, ix_nI, LITS, ltT, ltF, leT, leF, eqT, eqF, lt0F, le0T, eq0T, eq0F, nI_add, nI_1, pk_mul, nI_subT, if_true]
  simp
theorem Rf_fX {b : Bool} {σ : Mm} {f : Nat} (h : Rf b σ) : Rf b (fndX σ f) := h
theorem Rf_fM {b : Bool} {σ : Mm} {f : Nat} (h : Rf b σ) : Rf b (fndM σ f) := h
/-- findings by their numbers as they stand in the code -/
theorem p_fnd {N : Nat} {bb : Bool} {σ : Mm} (hR : Rf bb σ) : f_X5_found N 0 (1 : Int32) σ = some (-3, fndX σ 1) ∧ f_X5_found N 0 (2 : Int32) σ = some (-3, fndX σ 2) ∧ f_X5_found N 0 (3 : Int32) σ = some (-3, fndX σ 3) ∧ f_X5_found N 0 (4 : Int32) σ = some (-3, fndX σ 4) ∧ f_X5_found N 0 (5 : Int32) σ = some (-3, fndX σ 5) ∧ f_X5_found N 0 (nI 1) σ = some (-3, fndX σ 1) ∧ f_X5_found N 0 (nI 2) σ = some (-3, fndX σ 2) ∧ f_X5_found N 0 (nI 3) σ = some (-3, fndX σ 3) ∧ f_X5_found N 0 (nI 4) σ = some (-3, fndX σ 4) ∧ f_X5_found N 0 (nI 5) σ = some (-3, fndX σ 5) := ⟨p_found hR (f := 1) (by decide), p_found hR (f := 2) (by decide), p_found hR (f := 3) (by decide), p_found hR (f := 4) (by decide), p_found hR (f := 5) (by decide), p_found hR (f := 1) (by decide), p_found hR (f := 2) (by decide), p_found hR (f := 3) (by decide), p_found hR (f := 4) (by decide), p_found hR (f := 5) (by decide)⟩
theorem p_mts {N : Nat} {bb : Bool} {σ : Mm} (hR : Rf bb σ) : f_X6_meets N 66 (1 : Int32) σ = some (-3, fndM σ 1) ∧ f_X6_meets N 66 (2 : Int32) σ = some (-3, fndM σ 2) ∧ f_X6_meets N 66 (3 : Int32) σ = some (-3, fndM σ 3) ∧ f_X6_meets N 66 (4 : Int32) σ = some (-3, fndM σ 4) ∧ f_X6_meets N 66 (5 : Int32) σ = some (-3, fndM σ 5) ∧ f_X6_meets N 66 (nI 1) σ = some (-3, fndM σ 1) ∧ f_X6_meets N 66 (nI 2) σ = some (-3, fndM σ 2) ∧ f_X6_meets N 66 (nI 3) σ = some (-3, fndM σ 3) ∧ f_X6_meets N 66 (nI 4) σ = some (-3, fndM σ 4) ∧ f_X6_meets N 66 (nI 5) σ = some (-3, fndM σ 5) := ⟨p_meets hR (f := 1) (by decide), p_meets hR (f := 2) (by decide), p_meets hR (f := 3) (by decide), p_meets hR (f := 4) (by decide), p_meets hR (f := 5) (by decide), p_meets hR (f := 1) (by decide), p_meets hR (f := 2) (by decide), p_meets hR (f := 3) (by decide), p_meets hR (f := 4) (by decide), p_meets hR (f := 5) (by decide)⟩
theorem gi_fndX (σ : Mm) (f a k : Nat) : gi (fndX σ f) a k = if a = 36 ∧ k = f then gi σ 36 f + 1 else if a = 0 ∧ k = 10 then nI f else gi σ a k := rfl
theorem gi_fndM (σ : Mm) (f a k : Nat) : gi (fndM σ f) a k = if a = 67 ∧ k = f then gi σ 67 f + 1 else if a = 66 ∧ k = 0 then nI f else gi σ a k := rfl
