/-! ===== PURE: the law: the two begin alike, and each call keeps it ===== -/
theorem lw_S {fx fm : Mm → Option (Int32 × Mm)} (hs : Sim fx fm) {b : Bool} {σ : Mm} (h : Rel b σ) {K : Mm → Option Unit} (hK : ∀ (b : Bool) (τ : Mm), Rel b τ → K τ = some ()) : bI (fx σ) (fun r t => bI (fm t) (fun r2 t2 => if r = r2 then K t2 else none)) = some () := by
  obtain ⟨v, σ1, σ2, b2, h1, h2, h3⟩ := hs b σ h
  rw [bIe h1, bIe h2, if_pos rfl]
  exact hK b2 σ2 h3
theorem lw_SL {fx fm : Mm → Option (Int64 × Mm)} (hs : SimL fx fm) {b : Bool} {σ : Mm} (h : Rel b σ) {K : Mm → Option Unit} (hK : ∀ (b : Bool) (τ : Mm), Rel b τ → K τ = some ()) : bL (fx σ) (fun r t => bL (fm t) (fun r2 t2 => if lg_cmp r r2 = 0 then K t2 else none)) = some () := by
  obtain ⟨v, σ1, σ2, b2, h1, h2, h3⟩ := hs b σ h
  rw [bLe h1, bLe h2, if_pos ((lg_cmp_eq v v).mpr rfl)]
  exact hK b2 σ2 h3
theorem lw_ite {c : Prop} [Decidable c] {x y : Option Unit} (hx : x = some ()) (hy : y = some ()) : (if c then x else y) = some () := by
  split
  · exact hx
  · exact hy
section LW
variable {N L i : Nat} {xs : Nat → Int32} {b : Bool} {σ : Mm} {K : Int32 → Mm → Option Unit}
theorem lw_in (hL : L ≤ 384) (hi : i + 6 ≤ L) : inb (nI i + 1) L = true ∧ inb (nI i + 2) L = true ∧ inb (nI i + 3) L = true ∧ inb (nI i + 4) L = true ∧ inb (nI i + 5) L = true := by
  have e : ∀ k : Nat, nI i + nI k = nI (i + k) := fun k => nI_add i k
  refine ⟨?_, ?_, ?_, ?_, ?_⟩
  · rw [show (1 : Int32) = nI 1 from rfl, e]
    exact inbT (by omega) (by omega)
  · rw [show (2 : Int32) = nI 2 from rfl, e]
    exact inbT (by omega) (by omega)
  · rw [show (3 : Int32) = nI 3 from rfl, e]
    exact inbT (by omega) (by omega)
  · rw [show (4 : Int32) = nI 4 from rfl, e]
    exact inbT (by omega) (by omega)
  · rw [show (5 : Int32) = nI 5 from rfl, e]
    exact inbT (by omega) (by omega)
theorem g_row (hN : 5000 ≤ N) (hL : L ≤ 384) (hi : i + 6 ≤ L) (h : Rel b σ) (hK : ∀ (b : Bool) (τ : Mm), Rel b τ → K (nI i + 6) τ = some ()) : f_L_law_208 N xs L K (nI i) σ = some () := by
  unfold f_L_law_208 f_L_law_1301
  obtain ⟨j1, j2, j3, j4, j5⟩ := lw_in (i := i) hL hi
  simp only [j1, j2, ↓reduceIte]
  exact lw_S (s_row (N := N) (by omega) _ _) h hK
theorem g_lay (hN : 5000 ≤ N) (hL : L ≤ 384) (hi : i + 6 ≤ L) (h : Rel b σ) (hK : ∀ (b : Bool) (τ : Mm), Rel b τ → K (nI i + 6) τ = some ()) : f_L_law_241 N xs L K (nI i) σ = some () := by
  unfold f_L_law_241 f_L_law_1301
  obtain ⟨j1, j2, j3, j4, j5⟩ := lw_in (i := i) hL hi
  simp only [j1, j2, j3, ↓reduceIte]
  exact lw_S (s_lay (N := N) _ _ _) h hK
theorem g_at (hN : 5000 ≤ N) (hL : L ≤ 384) (hi : i + 6 ≤ L) (h : Rel b σ) (hK : ∀ (b : Bool) (τ : Mm), Rel b τ → K (nI i + 6) τ = some ()) : f_L_law_284 N xs L K (nI i) σ = some () := by
  unfold f_L_law_284 f_L_law_1301
  obtain ⟨j1, j2, j3, j4, j5⟩ := lw_in (i := i) hL hi
  simp only [j1, j2, ↓reduceIte]
  exact lw_S (s_at (N := N) _ _) h hK
theorem g_tear (hN : 5000 ≤ N) (hL : L ≤ 384) (hi : i + 6 ≤ L) (h : Rel b σ) (hK : ∀ (b : Bool) (τ : Mm), Rel b τ → K (nI i + 6) τ = some ()) : f_L_law_317 N xs L K (nI i) σ = some () := by
  unfold f_L_law_317 f_L_law_1301
  obtain ⟨j1, j2, j3, j4, j5⟩ := lw_in (i := i) hL hi
  simp only [j1, ↓reduceIte]
  exact lw_S (s_tear (N := N) _) h hK
theorem g_copy (hN : 5000 ≤ N) (hL : L ≤ 384) (hi : i + 6 ≤ L) (h : Rel b σ) (hK : ∀ (b : Bool) (τ : Mm), Rel b τ → K (nI i + 6) τ = some ()) : f_L_law_340 N xs L K (nI i) σ = some () := by
  unfold f_L_law_340 f_L_law_1301
  obtain ⟨j1, j2, j3, j4, j5⟩ := lw_in (i := i) hL hi
  simp only [j1, j2, j3, j4, j5, ↓reduceIte]
  exact lw_S (s_copy (N := N) (by omega) _ _ _ _ _) h hK
theorem g_mean (hN : 5000 ≤ N) (hL : L ≤ 384) (hi : i + 6 ≤ L) (h : Rel b σ) (hK : ∀ (b : Bool) (τ : Mm), Rel b τ → K (nI i + 6) τ = some ()) : f_L_law_403 N xs L K (nI i) σ = some () := by
  unfold f_L_law_403 f_L_law_1301
  obtain ⟨j1, j2, j3, j4, j5⟩ := lw_in (i := i) hL hi
  simp only [j1, ↓reduceIte]
  exact lw_S (s_mean (N := N) (by omega) _) h hK
theorem g_text (hN : 5000 ≤ N) (hL : L ≤ 384) (hi : i + 6 ≤ L) (h : Rel b σ) (hK : ∀ (b : Bool) (τ : Mm), Rel b τ → K (nI i + 6) τ = some ()) : f_L_law_426 N xs L K (nI i) σ = some () := by
  unfold f_L_law_426 f_L_law_1301
  obtain ⟨j1, j2, j3, j4, j5⟩ := lw_in (i := i) hL hi
  simp only [j1, j2, ↓reduceIte]
  exact lw_S (s_text (N := N) (by omega) _ _) h hK
theorem g_put (hN : 5000 ≤ N) (hL : L ≤ 384) (hi : i + 6 ≤ L) (h : Rel b σ) (hK : ∀ (b : Bool) (τ : Mm), Rel b τ → K (nI i + 6) τ = some ()) : f_L_law_459 N xs L K (nI i) σ = some () := by
  unfold f_L_law_459 f_L_law_1301
  obtain ⟨j1, j2, j3, j4, j5⟩ := lw_in (i := i) hL hi
  simp only [j1, j2, j3, ↓reduceIte]
  exact lw_S (s_put (N := N) _ _ _) h hK
theorem g_fault (hN : 5000 ≤ N) (hL : L ≤ 384) (hi : i + 6 ≤ L) (h : Rel b σ) (hK : ∀ (b : Bool) (τ : Mm), Rel b τ → K (nI i + 6) τ = some ()) : f_L_law_502 N xs L K (nI i) σ = some () := by
  unfold f_L_law_502 f_L_law_1301
  obtain ⟨j1, j2, j3, j4, j5⟩ := lw_in (i := i) hL hi
  simp only [j1, ↓reduceIte]
  exact lw_S (s_fault (N := N) (by omega) _) h hK
theorem g_town (hN : 5000 ≤ N) (hL : L ≤ 384) (hi : i + 6 ≤ L) (h : Rel b σ) (hK : ∀ (b : Bool) (τ : Mm), Rel b τ → K (nI i + 6) τ = some ()) : f_L_law_525 N xs L K (nI i) σ = some () := by
  unfold f_L_law_525 f_L_law_1301
  obtain ⟨j1, j2, j3, j4, j5⟩ := lw_in (i := i) hL hi
  simp only [j1, ↓reduceIte]
  exact lw_S (s_town (N := N) (by omega) _) h hK
theorem g_person (hN : 5000 ≤ N) (hL : L ≤ 384) (hi : i + 6 ≤ L) (h : Rel b σ) (hK : ∀ (b : Bool) (τ : Mm), Rel b τ → K (nI i + 6) τ = some ()) : f_L_law_548 N xs L K (nI i) σ = some () := by
  unfold f_L_law_548 f_L_law_1301
  obtain ⟨j1, j2, j3, j4, j5⟩ := lw_in (i := i) hL hi
  simp only [j1, j2, ↓reduceIte]
  exact lw_S (s_person (N := N) _ _) h hK
theorem g_mark (hN : 5000 ≤ N) (hL : L ≤ 384) (hi : i + 6 ≤ L) (h : Rel b σ) (hK : ∀ (b : Bool) (τ : Mm), Rel b τ → K (nI i + 6) τ = some ()) : f_L_law_581 N xs L K (nI i) σ = some () := by
  unfold f_L_law_581 f_L_law_1301
  obtain ⟨j1, j2, j3, j4, j5⟩ := lw_in (i := i) hL hi
  simp only [j1, j2, ↓reduceIte]
  exact lw_S (s_mark (N := N) (by omega) _ _) h hK
theorem g_deal (hN : 5000 ≤ N) (hL : L ≤ 384) (hi : i + 6 ≤ L) (h : Rel b σ) (hK : ∀ (b : Bool) (τ : Mm), Rel b τ → K (nI i + 6) τ = some ()) : f_L_law_614 N xs L K (nI i) σ = some () := by
  unfold f_L_law_614 f_L_law_1301
  obtain ⟨j1, j2, j3, j4, j5⟩ := lw_in (i := i) hL hi
  simp only [j1, ↓reduceIte]
  exact lw_S (s_deal (N := N) (by omega) _) h hK
theorem g_noon (hN : 5000 ≤ N) (hL : L ≤ 384) (hi : i + 6 ≤ L) (h : Rel b σ) (hK : ∀ (b : Bool) (τ : Mm), Rel b τ → K (nI i + 6) τ = some ()) : f_L_law_637 N xs L K (nI i) σ = some () := by
  unfold f_L_law_637 f_L_law_1301
  exact lw_S (s_noon (N := N) (by omega)) h hK
theorem g_sign (hN : 5000 ≤ N) (hL : L ≤ 384) (hi : i + 6 ≤ L) (h : Rel b σ) (hK : ∀ (b : Bool) (τ : Mm), Rel b τ → K (nI i + 6) τ = some ()) : f_L_law_650 N xs L K (nI i) σ = some () := by
  unfold f_L_law_650 f_L_law_1301
  obtain ⟨j1, j2, j3, j4, j5⟩ := lw_in (i := i) hL hi
  simp only [j1, j2, ↓reduceIte]
  exact lw_S (s_sign (N := N) (by omega) _ _) h hK
theorem g_undo (hN : 5000 ≤ N) (hL : L ≤ 384) (hi : i + 6 ≤ L) (h : Rel b σ) (hK : ∀ (b : Bool) (τ : Mm), Rel b τ → K (nI i + 6) τ = some ()) : f_L_law_683 N xs L K (nI i) σ = some () := by
  unfold f_L_law_683 f_L_law_1301
  obtain ⟨j1, j2, j3, j4, j5⟩ := lw_in (i := i) hL hi
  simp only [j1, ↓reduceIte]
  exact lw_S (s_undo (N := N) (by omega) _) h hK
theorem g_keep (hN : 5000 ≤ N) (hL : L ≤ 384) (hi : i + 6 ≤ L) (h : Rel b σ) (hK : ∀ (b : Bool) (τ : Mm), Rel b τ → K (nI i + 6) τ = some ()) : f_L_law_706 N xs L K (nI i) σ = some () := by
  unfold f_L_law_706 f_L_law_1301
  obtain ⟨j1, j2, j3, j4, j5⟩ := lw_in (i := i) hL hi
  simp only [j1, ↓reduceIte]
  exact lw_S (s_keep (N := N) (by omega) _) h hK
theorem g_on (hN : 5000 ≤ N) (hL : L ≤ 384) (hi : i + 6 ≤ L) (h : Rel b σ) (hK : ∀ (b : Bool) (τ : Mm), Rel b τ → K (nI i + 6) τ = some ()) : f_L_law_729 N xs L K (nI i) σ = some () := by
  unfold f_L_law_729 f_L_law_1301
  obtain ⟨j1, j2, j3, j4, j5⟩ := lw_in (i := i) hL hi
  simp only [j1, ↓reduceIte]
  exact lw_S (s_on (N := N) (by omega) _) h hK
theorem g_tells (hN : 5000 ≤ N) (hL : L ≤ 384) (hi : i + 6 ≤ L) (h : Rel b σ) (hK : ∀ (b : Bool) (τ : Mm), Rel b τ → K (nI i + 6) τ = some ()) : f_L_law_752 N xs L K (nI i) σ = some () := by
  unfold f_L_law_752 f_L_law_1301
  obtain ⟨j1, j2, j3, j4, j5⟩ := lw_in (i := i) hL hi
  simp only [j1, j2, ↓reduceIte]
  exact lw_S (s_tells (N := N) _ _) h hK
theorem g_order (hN : 5000 ≤ N) (hL : L ≤ 384) (hi : i + 6 ≤ L) (h : Rel b σ) (hK : ∀ (b : Bool) (τ : Mm), Rel b τ → K (nI i + 6) τ = some ()) : f_L_law_785 N xs L K (nI i) σ = some () := by
  unfold f_L_law_785 f_L_law_1301
  obtain ⟨j1, j2, j3, j4, j5⟩ := lw_in (i := i) hL hi
  simp only [j1, j2, j3, ↓reduceIte]
  exact lw_S (s_order (N := N) (by omega) _ _ _) h hK
theorem g_needs (hN : 5000 ≤ N) (hL : L ≤ 384) (hi : i + 6 ≤ L) (h : Rel b σ) (hK : ∀ (b : Bool) (τ : Mm), Rel b τ → K (nI i + 6) τ = some ()) : f_L_law_828 N xs L K (nI i) σ = some () := by
  unfold f_L_law_828 f_L_law_1301
  obtain ⟨j1, j2, j3, j4, j5⟩ := lw_in (i := i) hL hi
  simp only [j1, j2, ↓reduceIte]
  exact lw_S (s_needs (N := N) (by omega) _ _) h hK
theorem g_crew (hN : 5000 ≤ N) (hL : L ≤ 384) (hi : i + 6 ≤ L) (h : Rel b σ) (hK : ∀ (b : Bool) (τ : Mm), Rel b τ → K (nI i + 6) τ = some ()) : f_L_law_861 N xs L K (nI i) σ = some () := by
  unfold f_L_law_861 f_L_law_1301
  exact lw_S (s_crew (N := N) (by omega)) h hK
theorem g_reach (hN : 5000 ≤ N) (hL : L ≤ 384) (hi : i + 6 ≤ L) (h : Rel b σ) (hK : ∀ (b : Bool) (τ : Mm), Rel b τ → K (nI i + 6) τ = some ()) : f_L_law_874 N xs L K (nI i) σ = some () := by
  unfold f_L_law_874 f_L_law_1301
  obtain ⟨j1, j2, j3, j4, j5⟩ := lw_in (i := i) hL hi
  simp only [j1, ↓reduceIte]
  exact lw_S (s_reach (N := N) (by omega) _) h hK
theorem g_crier (hN : 5000 ≤ N) (hL : L ≤ 384) (hi : i + 6 ≤ L) (h : Rel b σ) (hK : ∀ (b : Bool) (τ : Mm), Rel b τ → K (nI i + 6) τ = some ()) : f_L_law_897 N xs L K (nI i) σ = some () := by
  unfold f_L_law_897 f_L_law_1301
  exact lw_S (s_crier (N := N) (by omega)) h hK
theorem g_signs (hN : 5000 ≤ N) (hL : L ≤ 384) (hi : i + 6 ≤ L) (h : Rel b σ) (hK : ∀ (b : Bool) (τ : Mm), Rel b τ → K (nI i + 6) τ = some ()) : f_L_law_910 N xs L K (nI i) σ = some () := by
  unfold f_L_law_910 f_L_law_1301
  obtain ⟨j1, j2, j3, j4, j5⟩ := lw_in (i := i) hL hi
  simp only [j1, j2, ↓reduceIte]
  exact lw_S (s_signs (N := N) (by omega) _ _) h hK
theorem g_odds (hN : 5000 ≤ N) (hL : L ≤ 384) (hi : i + 6 ≤ L) (h : Rel b σ) (hK : ∀ (b : Bool) (τ : Mm), Rel b τ → K (nI i + 6) τ = some ()) : f_L_law_943 N xs L K (nI i) σ = some () := by
  unfold f_L_law_943 f_L_law_1301
  obtain ⟨j1, j2, j3, j4, j5⟩ := lw_in (i := i) hL hi
  simp only [j1, j2, j3, ↓reduceIte]
  exact lw_S (s_odds (N := N) (by omega) _ _ _) h hK
theorem g_part (hN : 5000 ≤ N) (hL : L ≤ 384) (hi : i + 6 ≤ L) (h : Rel b σ) (hK : ∀ (b : Bool) (τ : Mm), Rel b τ → K (nI i + 6) τ = some ()) : f_L_law_986 N xs L K (nI i) σ = some () := by
  unfold f_L_law_986 f_L_law_1301
  obtain ⟨j1, j2, j3, j4, j5⟩ := lw_in (i := i) hL hi
  simp only [j1, j2, j3, ↓reduceIte]
  exact lw_S (s_part (N := N) (by omega) _ _ _) h hK
theorem g_houses (hN : 5000 ≤ N) (hL : L ≤ 384) (hi : i + 6 ≤ L) (h : Rel b σ) (hK : ∀ (b : Bool) (τ : Mm), Rel b τ → K (nI i + 6) τ = some ()) : f_L_law_1029 N xs L K (nI i) σ = some () := by
  unfold f_L_law_1029 f_L_law_1301
  obtain ⟨j1, j2, j3, j4, j5⟩ := lw_in (i := i) hL hi
  simp only [j1, ↓reduceIte]
  exact lw_S (s_houses (N := N) (by omega) _) h hK
theorem g_rule (hN : 5000 ≤ N) (hL : L ≤ 384) (hi : i + 6 ≤ L) (h : Rel b σ) (hK : ∀ (b : Bool) (τ : Mm), Rel b τ → K (nI i + 6) τ = some ()) : f_L_law_1052 N xs L K (nI i) σ = some () := by
  unfold f_L_law_1052 f_L_law_1301
  obtain ⟨j1, j2, j3, j4, j5⟩ := lw_in (i := i) hL hi
  simp only [j1, j2, ↓reduceIte]
  exact lw_S (s_rule (N := N) (by omega) _ _) h hK
theorem g_broken (hN : 5000 ≤ N) (hL : L ≤ 384) (hi : i + 6 ≤ L) (h : Rel b σ) (hK : ∀ (b : Bool) (τ : Mm), Rel b τ → K (nI i + 6) τ = some ()) : f_L_law_1085 N xs L K (nI i) σ = some () := by
  unfold f_L_law_1085 f_L_law_1301
  obtain ⟨j1, j2, j3, j4, j5⟩ := lw_in (i := i) hL hi
  simp only [j1, ↓reduceIte]
  exact lw_S (s_broken (N := N) (by omega) _) h hK
theorem g_shouted (hN : 5000 ≤ N) (hL : L ≤ 384) (hi : i + 6 ≤ L) (h : Rel b σ) (hK : ∀ (b : Bool) (τ : Mm), Rel b τ → K (nI i + 6) τ = some ()) : f_L_law_1108 N xs L K (nI i) σ = some () := by
  unfold f_L_law_1108 f_L_law_1301
  obtain ⟨j1, j2, j3, j4, j5⟩ := lw_in (i := i) hL hi
  simp only [j1, ↓reduceIte]
  exact lw_S (s_shouted (N := N) (by omega) _) h hK
theorem g_calls (hN : 5000 ≤ N) (hL : L ≤ 384) (hi : i + 6 ≤ L) (h : Rel b σ) (hK : ∀ (b : Bool) (τ : Mm), Rel b τ → K (nI i + 6) τ = some ()) : f_L_law_1131 N xs L K (nI i) σ = some () := by
  unfold f_L_law_1131 f_L_law_1301
  obtain ⟨j1, j2, j3, j4, j5⟩ := lw_in (i := i) hL hi
  simp only [j1, ↓reduceIte]
  exact lw_S (s_calls (N := N) (by omega) _) h hK
theorem g_lots (hN : 5000 ≤ N) (hL : L ≤ 384) (hi : i + 6 ≤ L) (h : Rel b σ) (hK : ∀ (b : Bool) (τ : Mm), Rel b τ → K (nI i + 6) τ = some ()) : f_L_law_1154 N xs L K (nI i) σ = some () := by
  unfold f_L_law_1154 f_L_law_1301
  obtain ⟨j1, j2, j3, j4, j5⟩ := lw_in (i := i) hL hi
  simp only [j1, j2, ↓reduceIte]
  exact lw_S (s_lots (N := N) (by omega) _ _) h hK
theorem g_asked (hN : 5000 ≤ N) (hL : L ≤ 384) (hi : i + 6 ≤ L) (h : Rel b σ) (hK : ∀ (b : Bool) (τ : Mm), Rel b τ → K (nI i + 6) τ = some ()) : f_L_law_1187 N xs L K (nI i) σ = some () := by
  unfold f_L_law_1187 f_L_law_1301
  exact lw_S (s_asked (N := N)) h hK
theorem g_upper (hN : 5000 ≤ N) (hL : L ≤ 384) (hi : i + 6 ≤ L) (h : Rel b σ) (hK : ∀ (b : Bool) (τ : Mm), Rel b τ → K (nI i + 6) τ = some ()) : f_L_law_1200 N xs L K (nI i) σ = some () := by
  unfold f_L_law_1200 f_L_law_1301
  exact lw_SL (s_upper (N := N)) h hK
theorem g_lower (hN : 5000 ≤ N) (hL : L ≤ 384) (hi : i + 6 ≤ L) (h : Rel b σ) (hK : ∀ (b : Bool) (τ : Mm), Rel b τ → K (nI i + 6) τ = some ()) : f_L_law_1214 N xs L K (nI i) σ = some () := by
  unfold f_L_law_1214 f_L_law_1301
  exact lw_SL (s_lower (N := N)) h hK
theorem g_count (hN : 5000 ≤ N) (hL : L ≤ 384) (hi : i + 6 ≤ L) (h : Rel b σ) (hK : ∀ (b : Bool) (τ : Mm), Rel b τ → K (nI i + 6) τ = some ()) : f_L_law_1228 N xs L K (nI i) σ = some () := by
  unfold f_L_law_1228 f_L_law_1301
  obtain ⟨j1, j2, j3, j4, j5⟩ := lw_in (i := i) hL hi
  simp only [j1, ↓reduceIte]
  exact lw_S (s_count (N := N) (by omega) _) h hK
theorem g_finding (hN : 5000 ≤ N) (hL : L ≤ 384) (hi : i + 6 ≤ L) (h : Rel b σ) (hK : ∀ (b : Bool) (τ : Mm), Rel b τ → K (nI i + 6) τ = some ()) : f_L_law_1251 N xs L K (nI i) σ = some () := by
  unfold f_L_law_1251 f_L_law_1301
  exact lw_S (s_finding (N := N)) h hK
theorem g_findings (hN : 5000 ≤ N) (hL : L ≤ 384) (hi : i + 6 ≤ L) (h : Rel b σ) (hK : ∀ (b : Bool) (τ : Mm), Rel b τ → K (nI i + 6) τ = some ()) : f_L_law_1264 N xs L K (nI i) σ = some () := by
  unfold f_L_law_1264 f_L_law_1301
  obtain ⟨j1, j2, j3, j4, j5⟩ := lw_in (i := i) hL hi
  simp only [j1, ↓reduceIte]
  exact lw_S (s_findings (N := N) _) h hK
theorem g_digest (hN : 5000 ≤ N) (hL : L ≤ 384) (hi : i + 6 ≤ L) (h : Rel b σ) (hK : ∀ (b : Bool) (τ : Mm), Rel b τ → K (nI i + 6) τ = some ()) : f_L_law_1287 N xs L K (nI i) σ = some () := by
  unfold f_L_law_1287 f_L_law_1301
  exact lw_SL (s_digest (N := N) (by omega)) h hK
end LW
/-- the loop -/
theorem lw_loop {N L : Nat} (xs : Nat → Int32) (hN : 5000 ≤ N) (hL : L ≤ 384) (h6 : 6 ≤ L) : ∀ (f i : Nat) (b : Bool) (σ : Mm), i ≤ L → L - i < f → Rel b σ → f_L_law_18 N xs L f (nI i) σ = some () := by
  intro f
  induction f with
  | zero => intro i b σ _ z; omega
  | succ f ih =>
    intro i b σ hi hf h
    unfold f_L_law_18
    have e6 : nI L - (6 : Int32) = nI (L - 6) := by
      rw [show (6 : Int32) = nI 6 from rfl]
      exact nI_subT h6
    rw [e6]
    by_cases c : L < i + 6
    · rw [if_pos (nI_lt (by omega) (by omega))]
    · have hi : i + 6 ≤ L := by omega
      rw [if_neg (nI_nlt (by omega) (by omega)), if_pos (inbT (by omega) (by omega))]
      have hK : ∀ (b : Bool) (τ : Mm), Rel b τ → f_L_law_18 N xs L f (nI i + 6) τ = some () := fun b τ h => by
        rw [show nI i + 6 = nI (i + 6) from nI_add i 6]
        exact ih (i + 6) b τ hi (by omega) h
      exact lw_ite (g_row hN hL hi h hK) (lw_ite (g_lay hN hL hi h hK) (lw_ite (g_at hN hL hi h hK) (lw_ite (g_tear hN hL hi h hK) (lw_ite (g_copy hN hL hi h hK) (lw_ite (g_mean hN hL hi h hK) (lw_ite (g_text hN hL hi h hK) (lw_ite (g_put hN hL hi h hK) (lw_ite (g_fault hN hL hi h hK) (lw_ite (g_town hN hL hi h hK) (lw_ite (g_person hN hL hi h hK) (lw_ite (g_mark hN hL hi h hK) (lw_ite (g_deal hN hL hi h hK) (lw_ite (g_noon hN hL hi h hK) (lw_ite (g_sign hN hL hi h hK) (lw_ite (g_undo hN hL hi h hK) (lw_ite (g_keep hN hL hi h hK) (lw_ite (g_on hN hL hi h hK) (lw_ite (g_tells hN hL hi h hK) (lw_ite (g_order hN hL hi h hK) (lw_ite (g_needs hN hL hi h hK) (lw_ite (g_crew hN hL hi h hK) (lw_ite (g_reach hN hL hi h hK) (lw_ite (g_crier hN hL hi h hK) (lw_ite (g_signs hN hL hi h hK) (lw_ite (g_odds hN hL hi h hK) (lw_ite (g_part hN hL hi h hK) (lw_ite (g_houses hN hL hi h hK) (lw_ite (g_rule hN hL hi h hK) (lw_ite (g_broken hN hL hi h hK) (lw_ite (g_shouted hN hL hi h hK) (lw_ite (g_calls hN hL hi h hK) (lw_ite (g_lots hN hL hi h hK) (lw_ite (g_asked hN hL hi h hK) (lw_ite (g_upper hN hL hi h hK) (lw_ite (g_lower hN hL hi h hK) (lw_ite (g_count hN hL hi h hK) (lw_ite (g_finding hN hL hi h hK) (lw_ite (g_findings hN hL hi h hK) (lw_ite (g_digest hN hL hi h hK) (hK b σ h))))))))))))))))))))))))))))))))))))))))
/-- the two begin alike -/
theorem lw_begin : Rel false (k_X6_init (sz0 (k_X5_init (sz0 mm0 0)) 66)) := by
  refine ⟨?_, ⟨?_, ?_, ?_, ?_, ?_⟩, ?_, ?_, 0, fun _ => 0, fun _ => 0, fun _ => 0, [], fun _ => none, ⟨by decide, fun p hp => absurd hp (Nat.not_lt_zero p), fun p hp => absurd hp (Nat.not_lt_zero p), fun p hp => absurd hp (Nat.not_lt_zero p), fun p q hp => absurd hp (Nat.not_lt_zero p), by decide, fun w hw => by simp at hw, fun k d hd => by simp at hd⟩, ⟨⟨?_, ?_, ?_, fun p hp => absurd hp (Nat.not_lt_zero p)⟩, ⟨?_, ?_, fun p hp => absurd hp (Nat.not_lt_zero p), fun p hp => absurd hp (Nat.not_lt_zero p), ?_⟩, ?_, ⟨?_, fun i w hw => by simp at hw⟩, ?_⟩, ?_, fun p hp => absurd hp (Nat.not_lt_zero p), ?_, ⟨fun p hp => absurd hp (Nat.not_lt_zero p), ?_, ?_⟩, fun i hi => absurd hi (Nat.not_lt_zero i), ?_⟩
  · unfold Rf
    repeat' apply And.intro
    all_goals decide +kernel
  · decide +kernel
  · decide +kernel
  · decide +kernel
  · decide +kernel
  · decide +kernel
  · have e : ∀ r, r < 6 → gi (k_X6_init (sz0 (k_X5_init (sz0 mm0 0)) 66)) (37 + 2 * r) 1 = -1 ∧ gi (k_X6_init (sz0 (k_X5_init (sz0 mm0 0)) 66)) 68 r = -1 := by decide +kernel
    intro r hr
    exact ⟨by rw [(e r hr).1, (e r hr).2], Or.inl (e r hr).2⟩
  · have e : ∀ r, r < 4 → gi (k_X6_init (sz0 (k_X5_init (sz0 mm0 0)) 66)) (49 + 2 * r) 1 = -1 ∧ gi (k_X6_init (sz0 (k_X5_init (sz0 mm0 0)) 66)) 71 r = -1 := by decide +kernel
    intro r hr
    exact ⟨by rw [(e r hr).1, (e r hr).2], Or.inl (e r hr).2⟩
  · decide +kernel
  · decide +kernel
  · have e : ∀ k, k < 6 → gi (k_X6_init (sz0 (k_X5_init (sz0 mm0 0)) 66)) (pl false + 2) k = 0 := by decide +kernel
    intro k hk
    rw [e k hk]
    rfl
  · decide +kernel
  · decide +kernel
  · have e : ∀ k, k < 4 → gi (k_X6_init (sz0 (k_X5_init (sz0 mm0 0)) 66)) (7 + 4) k = 0 := by decide +kernel
    intro k hk
    rw [e k hk]
    rfl
  · decide +kernel
  · decide +kernel
  · have e : ∀ k, k < 3 → gi (k_X6_init (sz0 (k_X5_init (sz0 mm0 0)) 66)) (57 + 3 * k) 2 = -1 := by decide +kernel
    exact e
  · decide +kernel
  · decide +kernel
  · decide +kernel
  · decide +kernel
  · have e : ∀ k, k < 3 → gi (k_X6_init (sz0 (k_X5_init (sz0 mm0 0)) 66)) 82 k = 0 := by decide +kernel
    exact e
/-- THE LAW, as a pure statement -/
theorem law_pure (xs : Nat → Int32) (L : Nat) (hL : L ≤ 384) : ∃ N, f_law N xs L mm0 = some () := by
  refine ⟨5000, ?_⟩
  unfold f_law
  by_cases h6 : 6 ≤ L
  · exact lw_loop xs (Nat.le_refl 5000) hL h6 5000 0 false _ (by omega) (by omega) lw_begin
  · rw [show (5000 : Nat) = 4999 + 1 from rfl]
    unfold f_L_law_18
    rw [if_pos]
    rcases (show L = 0 ∨ L = 1 ∨ L = 2 ∨ L = 3 ∨ L = 4 ∨ L = 5 by omega) with rfl | rfl | rfl | rfl | rfl | rfl <;> decide
