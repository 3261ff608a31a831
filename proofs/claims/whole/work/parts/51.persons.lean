/-! ===== PURE: persons, tells, reach, needs ===== -/
theorem ok_p {P : Nat} (h : P = 19 ∨ P = 27) : okO 2 P = true ∧ okA 0 (P + 1) = true ∧ okA 0 (P + 2) = true ∧ okA 0 (P + 3) = true ∧ okA 0 (P + 4) = true ∧ okA 0 (P + 5) = true ∧ okA 0 (P + 6) = true ∧ okA 0 (P + 7) = true ∧ arL (P + 1) = 6 ∧ arL (P + 2) = 6 ∧ arL (P + 3) = 6 ∧ arL (P + 4) = 6 ∧ arL (P + 5) = 6 ∧ arL (P + 6) = 6 ∧ arL (P + 7) = 6 := by rcases h with rfl | rfl <;> (repeat' (first | rfl | constructor))
theorem BRp {ρ : Type} {b : Bool} {σ : Mm} {P : Nat} (hR : Rf b σ) (h : P = 19 ∨ P = 27) : (∀ chk f, bR (ρ := ρ) (gr σ P 0) chk f = if chk (P + 1) then f (P + 1) else none) ∧ (∀ chk f, bR (ρ := ρ) (gr σ P 1) chk f = if chk (P + 2) then f (P + 2) else none) ∧ (∀ chk f, bR (ρ := ρ) (gr σ P 2) chk f = if chk (P + 3) then f (P + 3) else none) ∧ (∀ chk f, bR (ρ := ρ) (gr σ P 3) chk f = if chk (P + 4) then f (P + 4) else none) ∧ (∀ chk f, bR (ρ := ρ) (gr σ P 4) chk f = if chk (P + 5) then f (P + 5) else none) ∧ (∀ chk f, bR (ρ := ρ) (gr σ P 5) chk f = if chk (P + 6) then f (P + 6) else none) ∧ (∀ chk f, bR (ρ := ρ) (gr σ P 6) chk f = if chk (P + 7) then f (P + 7) else none) := by
  have hb := BR (ρ := ρ) hR
  rcases h with rfl | rfl <;> (simp only [hb]; simp)
theorem BRpl {ρ : Type} {b : Bool} {σ : Mm} (hR : Rf b σ) : ∀ chk f, bR (ρ := ρ) (gr σ 0 6) chk f = if chk (pl b) then f (pl b) else none := fun chk f => bRe hR.2.2.2.2.2.2.1 chk f
theorem p_hasP0 {N P : Nat} {σ : Mm} {x : Int32} (hP : P = 19 ∨ P = 27) (h : x < 0 ∨ gi σ P 8 ≤ x) : f_X2_has N P x σ = some (0, σ) := by
  unfold f_X2_has
  rw [if_pos (ok_p hP).1]
  by_cases h1 : x < 0
  · rw [if_pos h1]
  · rw [if_neg h1, if_pos (h.resolve_left h1)]
theorem p_hasP1 {N P n p : Nat} {σ : Mm} (hP : P = 19 ∨ P = 27) (hs : gi σ P 8 = nI n) (hp : p < n) (hn : n ≤ 6) : f_X2_has N P (nI p) σ = some (1, σ) := by
  unfold f_X2_has
  rw [hs]
  simp (disch := omega) only [↓reduceIte, ok_p hP, lt0F, leF]
theorem p_isPer0 {N n : Nat} {σ : Mm} {x : Int32} (hs : gi σ 66 10 = nI n) (hn : n ≤ 6) (h : x < 0 ∨ nI n ≤ x) : f_X6_isPerson N 66 x σ = some (0, σ) := by
  unfold f_X6_isPerson
  rw [hs, if_pos OKx.2.1, bIe (p_inz (N := N) (σ := σ) (by omega) h)]
  rfl
theorem p_isPer1 {N n p : Nat} {σ : Mm} (hs : gi σ 66 10 = nI n) (hn : n ≤ 6) (h : p < n) : f_X6_isPerson N 66 (nI p) σ = some (1, σ) := by
  unfold f_X6_isPerson
  rw [hs, if_pos OKx.2.1, bIe (p_ino (N := N) (σ := σ) (by omega) h)]
  rfl
/-- two arguments are two PERSONS, on both sides, or on neither -/
theorem two_x0 {N n : Nat} {b : Bool} {σ : Mm} {x y : Int32} (hR : Rf b σ) (hs : gi σ (pl b) 8 = nI n) (hn : n ≤ 6) (h : (x < 0 ∨ nI n ≤ x) ∨ (y < 0 ∨ nI n ≤ y) ∨ x = y) : f_X5_areTwo N 0 x y σ = some (0, σ) := by
  unfold f_X5_areTwo
  have hP := pl_cases b
  rw [if_pos OKx.1]
  simp only [↓reduceIte, ↓BRpl hR, ok_p hP]
  rcases arg2 x n (by omega) with q | ⟨p, hp, rfl⟩
  · rw [bIe (p_hasP0 (N := N) hP (by rw [hs]; exact q))]
    rfl
  · rw [bIe (p_hasP1 (N := N) hP hs hp hn), if_neg (show ¬ (1 : Int32) = 0 by decide), BRpl hR, if_pos (ok_p hP).1]
    rcases arg2 y n (by omega) with q | ⟨q, hq, rfl⟩
    · rw [bIe (p_hasP0 (N := N) hP (by rw [hs]; exact q))]
      rfl
    · rw [bIe (p_hasP1 (N := N) hP hs hq hn), if_neg (show ¬ (1 : Int32) = 0 by decide)]
      rcases h with (h | h) | (h | h) | h
      · exact absurd h (nI_pos (by omega))
      · exact absurd h (nI_ge hp (by omega))
      · exact absurd h (nI_pos (by omega))
      · exact absurd h (nI_ge hq (by omega))
      · rw [if_pos h]
theorem two_x1 {N n p q : Nat} {b : Bool} {σ : Mm} (hR : Rf b σ) (hs : gi σ (pl b) 8 = nI n) (hn : n ≤ 6) (hp : p < n) (hq : q < n) (hpq : p ≠ q) : f_X5_areTwo N 0 (nI p) (nI q) σ = some (1, σ) := by
  unfold f_X5_areTwo
  have hP := pl_cases b
  rw [if_pos OKx.1]
  simp only [↓reduceIte, ↓BRpl hR, ok_p hP]
  rw [bIe (p_hasP1 (N := N) hP hs hp hn), if_neg (show ¬ (1 : Int32) = 0 by decide), BRpl hR, if_pos (ok_p hP).1, bIe (p_hasP1 (N := N) hP hs hq hn), if_neg (show ¬ (1 : Int32) = 0 by decide), if_neg (fun e => hpq ((nI_eq (by omega) (by omega)).mp e))]
theorem two_m0 {N n : Nat} {σ : Mm} {x y : Int32} (hs : gi σ 66 10 = nI n) (hn : n ≤ 6) (h : (x < 0 ∨ nI n ≤ x) ∨ (y < 0 ∨ nI n ≤ y) ∨ x = y) : f_X6_areTwo N 66 x y σ = some (0, σ) := by
  unfold f_X6_areTwo
  rw [if_pos OKx.2.1]
  rcases arg2 x n (by omega) with q | ⟨p, hp, rfl⟩
  · rw [bIe (p_isPer0 (N := N) hs hn q)]
    rfl
  · rw [bIe (p_isPer1 (N := N) hs hn hp), if_neg (show ¬ (1 : Int32) = 0 by decide)]
    rcases arg2 y n (by omega) with q | ⟨q, hq, rfl⟩
    · rw [bIe (p_isPer0 (N := N) hs hn q)]
      rfl
    · rw [bIe (p_isPer1 (N := N) hs hn hq), if_neg (show ¬ (1 : Int32) = 0 by decide)]
      rcases h with (h | h) | (h | h) | h
      · exact absurd h (nI_pos (by omega))
      · exact absurd h (nI_ge hp (by omega))
      · exact absurd h (nI_pos (by omega))
      · exact absurd h (nI_ge hq (by omega))
      · rw [if_pos h]
theorem two_m1 {N n p q : Nat} {σ : Mm} (hs : gi σ 66 10 = nI n) (hn : n ≤ 6) (hp : p < n) (hq : q < n) (hpq : p ≠ q) : f_X6_areTwo N 66 (nI p) (nI q) σ = some (1, σ) := by
  unfold f_X6_areTwo
  rw [if_pos OKx.2.1, bIe (p_isPer1 (N := N) hs hn hp), if_neg (show ¬ (1 : Int32) = 0 by decide), bIe (p_isPer1 (N := N) hs hn hq), if_neg (show ¬ (1 : Int32) = 0 by decide), if_neg (fun e => hpq ((nI_eq (by omega) (by omega)).mp e))]
theorem arg_two (x y : Int32) {n : Nat} (hn : n ≤ 6) : ((x < 0 ∨ nI n ≤ x) ∨ (y < 0 ∨ nI n ≤ y) ∨ x = y) ∨ ∃ p q : Nat, p < n ∧ q < n ∧ p ≠ q ∧ x = nI p ∧ y = nI q := by
  rcases arg2 x n (by omega) with h | ⟨p, hp, rfl⟩
  · exact Or.inl (Or.inl h)
  · rcases arg2 y n (by omega) with h | ⟨q, hq, rfl⟩
    · exact Or.inl (Or.inr (Or.inl h))
    · by_cases e : p = q
      · exact Or.inl (Or.inr (Or.inr (by rw [e])))
      · exact Or.inr ⟨p, q, hp, hq, e, rfl, rfl⟩
/-- what a relation gives: the town on both sides -/
theorem TW_MS {b : Bool} {σ : Mm} {n : Nat} {kd al sg : Nat → Nat} {ds : Dd} {kp : Nat → Option Dd} (h1 : okW n kd al sg ds kp) (h3 : TWm σ n kd al sg ds kp) : MS σ 78 n kd (rep al sg ds) := by
  have hd := okDy_rep (al := al) (n := n) h1.2.2.1 ds h1.2.2.2.2.2.2.1
  exact ⟨h3.1, fun p hp => (h3.2.1 p hp).1, h3.2.2.2.1, h1.1, h1.2.1, hd.1, hd.2.1, Or.inl rfl⟩
theorem YX_GX {σ : Mm} {o n : Nat} {kd : Nat → Nat} {y : Dy} (hn : n ≤ 6) (ho : o = 7 ∨ o = 13) (h : YX σ o n kd y) : GX σ o n (te n kd y.1 y.2.1 y.2.2.2) := ⟨h.1, fun m hm => (h.2.2.2.1 m hm).2, hn, fun m _ => te_lt, ho⟩
/-- a change of the reference's own tables -/
theorem rel_80 {b : Bool} {σ : Mm} (h : Rel b σ) (τ : Mm) (h2 : τ.2 = σ.2) (h1 : ∀ a k, a ≠ 80 → a ≠ 79 → a ≠ 87 → a ≠ 88 → a ≠ 86 → gi τ a k = gi σ a k) : Rel b τ := by
  obtain ⟨g1, g2, g3, g4, g5⟩ := h
  have hl : ∀ a k, gl τ a k = gl σ a k := fun a k => by unfold gl; rw [h2]
  refine ⟨Rf_eq (by rw [h2]) g1, RelC_congr (σ := σ) (fun a k q => h1 a k ?_ ?_ ?_ ?_ ?_) (fun k => ⟨hl 0 k, hl 66 k⟩) g2, RelR_congr (σ := σ) (fun a k q => h1 a k ?_ ?_ ?_ ?_ ?_) g3, RelT_congr (σ := σ) (fun a k q => h1 a k ?_ ?_ ?_ ?_ ?_) g4, TW_congr (σ := σ) (fun a k q => h1 a k ?_ ?_ ?_ ?_ ?_) g5⟩
  all_goals (first | (unfold inC at q; omega) | (unfold inR at q; omega) | (unfold inT at q; omega) | (unfold inW at q; omega))
theorem rel_lay80 {b : Bool} {σ : Mm} (h : Rel b σ) (n : Nat) (g : Nat → Int32) : Rel b (blt σ 80 0 n g) := rel_80 h _ rfl (fun a k q _ _ _ _ => by rw [gi_blt, if_neg (by omega)])
theorem s_tells {N : Nat} (x y : Int32) : Sim (f_X5_tells N 0 x y) (f_X6_tells N 66 x y) := by
  intro b σ h
  have hR := h.1
  obtain ⟨n, kd, al, sg, ds, kp, w1, w2, w3⟩ := h.2.2.2.2
  have hs := w2.1.1
  have hn := w1.1
  rcases arg_two x y hn with q | ⟨p, q, hp, hq, hpq, rfl, rfl⟩
  · refine ⟨-1, σ, σ, b, ?_, ?_, h⟩
    · unfold f_X5_tells
      rw [if_pos OKx.1]
      rw [bIe (two_x0 (N := N) hR hs hn q)]
      rfl
    · unfold f_X6_tells
      rw [if_pos OKx.2.1]
      rw [bIe (two_m0 (N := N) w3.1 hn q)]
      rfl
  · have hm := TW_MS (b := b) w1 w3
    have e1 := (w2.2.1.2.2.2.1 p hp).2
    have e2 : (te n kd (rep al sg ds).1 (rep al sg ds).2.1 (rep al sg ds).2.2.2 p).testBit q = teB n kd (rep al sg ds).1 (rep al sg ds).2.1 (rep al sg ds).2.2.2 p q := by
      unfold te
      rw [msk_tb]
      simp [hq]
    have h6 := pow6 hn
    have l1 := te_lt (n := n) (kd := kd) (dl := (rep al sg ds).1) (sg := (rep al sg ds).2.1) (no := (rep al sg ds).2.2.2) (m := p)
    refine ⟨if teB n kd (rep al sg ds).1 (rep al sg ds).2.1 (rep al sg ds).2.2.2 p q then 1 else 0, σ, σ, b, ?_, ?_, h⟩
    · unfold f_X5_tells
      rw [if_pos OKx.1]
      rw [bIe (two_x1 (N := N) hR hs hn hp hq hpq), if_neg (show ¬ (1 : Int32) = 0 by decide)]
      simp (disch := omega) only [↓reduceIte, ↓BR hR, OKx, inbT, ix_nI, e1, ↓bIe (p_holds (N := N) (σ := σ) (S := te n kd (rep al sg ds).1 (rep al sg ds).2.1 (rep al sg ds).2.2.2 p) (j := q) (by omega) (by omega)), e2]
      cases teB n kd (rep al sg ds).1 (rep al sg ds).2.1 (rep al sg ds).2.2.2 p q <;> rfl
    · unfold f_X6_tells
      rw [if_pos OKx.2.1]
      rw [bIe (two_m1 (N := N) w3.1 hn hp hq hpq), if_neg (show ¬ (1 : Int32) = 0 by decide)]
      simp (disch := omega) only [↓reduceIte, ↓BR hR, OKm, ↓bIe (pm_isTold (N := N) hR hm hp hq hpq)]
      cases teB n kd (rep al sg ds).1 (rep al sg ds).2.1 (rep al sg ds).2.2.2 p q <;> rfl
theorem p_everyX {N P n : Nat} {σ : Mm} (hP : P = 19 ∨ P = 27) (hs : gi σ P 8 = nI n) (hn : n ≤ 6) : f_X2_everybody N P σ = some (nI (2 ^ n - 1), σ) := by
  unfold f_X2_everybody
  rw [hs, if_pos (ok_p hP).1, shl1 _ (by omega), show (1 : Int32) = nI 1 from rfl, nI_subT (Nat.two_pow_pos n)]
theorem p_everyM {N n : Nat} {σ : Mm} (hs : gi σ 66 10 = nI n) (hn : n ≤ 6) : f_X6_everybody N 66 σ = some (nI (2 ^ n - 1), σ) := by
  unfold f_X6_everybody
  rw [hs, if_pos OKx.2.1, shl1 _ (by omega), show (1 : Int32) = nI 1 from rfl, nI_subT (Nat.two_pow_pos n)]
/-- only the mouths among the PERSONS count -/
theorem LV_M {T : Nat → Nat} {n p M M2 : Nat} (h : ∀ m, m < n → M.testBit m = M2.testBit m) : ∀ k, LV T n p M k = LV T n p M2 k
  | 0 => rfl
  | k + 1 => by
    show stepM T n p M (LV T n p M k) = stepM T n p M2 (LV T n p M2 k)
    rw [LV_M h k]
    apply Nat.eq_of_testBit_eq
    intro q
    rw [Bool.eq_iff_iff, stepM_tb, stepM_tb]
    constructor
    · rintro (g | ⟨m, g1, g2, g3, g4⟩)
      · exact Or.inl g
      · exact Or.inr ⟨m, g1, g2, by rw [← h m g1]; exact g3, g4⟩
    · rintro (g | ⟨m, g1, g2, g3, g4⟩)
      · exact Or.inl g
      · exact Or.inr ⟨m, g1, g2, by rw [h m g1]; exact g3, g4⟩
theorem full_tb {n m : Nat} (h : m < n) : (2 ^ n - 1).testBit m = true := by
  rw [Nat.testBit_two_pow_sub_one]
  simp [h]
theorem tb63 {m : Nat} (h : m < 6) : (63 : Nat).testBit m = true := full_tb (n := 6) h
theorem LV_all {T : Nat → Nat} {n p : Nat} (hn : n ≤ 6) (k : Nat) : LV T n p (2 ^ n - 1) k = LV T n p 63 k := LV_M (fun m hm => by rw [full_tb hm, tb63 (by omega)]) k
theorem s_reach {N : Nat} (hN : 20 ≤ N) (x : Int32) : Sim (f_X5_reach N 0 x) (f_X6_reach N 66 x) := by
  intro b σ h
  have hR := h.1
  obtain ⟨n, kd, al, sg, ds, kp, w1, w2, w3⟩ := h.2.2.2.2
  have hs := w2.1.1
  have hn := w1.1
  have hP := pl_cases b
  have h6 := pow6 hn
  rcases arg2 x n (by omega) with q | ⟨p, hp, rfl⟩
  · refine ⟨-1, σ, σ, b, ?_, ?_, h⟩
    · unfold f_X5_reach
      rw [if_pos OKx.1]
      simp only [↓reduceIte, ↓BRpl hR, ok_p hP]
      rw [bIe (p_hasP0 (N := N) hP (by rw [hs]; exact q))]
      rfl
    · unfold f_X6_reach
      rw [if_pos OKx.2.1]
      rw [bIe (p_isPer0 (N := N) w3.1 hn q)]
      rfl
  · have hm := TW_MS (b := b) w1 w3
    have hg := YX_GX hn (Or.inl rfl) w2.2.1
    refine ⟨nI (LV (te n kd (rep al sg ds).1 (rep al sg ds).2.1 (rep al sg ds).2.2.2) n p 63 6), σ, blt σ 80 0 n (fun m => nI (te n kd (rep al sg ds).1 (rep al sg ds).2.1 (rep al sg ds).2.2.2 m)), b, ?_, ?_, rel_lay80 h _ _⟩
    · unfold f_X5_reach
      rw [if_pos OKx.1]
      simp only [↓reduceIte, ↓BRpl hR, ok_p hP]
      rw [bIe (p_hasP1 (N := N) hP hs hp hn), if_neg (show ¬ (1 : Int32) = 0 by decide)]
      simp (disch := omega) only [↓reduceIte, ↓BR hR, OKx]
      rw [show (63 : Int32) = nI 63 from rfl, show (6 : Int32) = nI 6 from rfl, bIe (p_reached hN hR hg hp (by decide) (Nat.le_refl 6))]
    · unfold f_X6_reach
      rw [if_pos OKx.2.1]
      rw [bIe (p_isPer1 (N := N) w3.1 hn hp), if_neg (show ¬ (1 : Int32) = 0 by decide)]
      simp (disch := omega) only [↓reduceIte, ↓BR hR, OKm]
      rw [bVe (pm_layTells hN hR hm), bIe (p_everyM (N := N) (GM_lay hm).1 hn), bIe (p_reaches (N := N) hN (Rf_blt hR) (GM_lay hm) hp (show 2 ^ n - 1 < 64 by omega)), LV_all hn, LV_stable (T := te n kd (rep al sg ds).1 (rep al sg ds).2.1 (rep al sg ds).2.2.2) (fun m _ => te_lt) hp (j := 6) (by omega)]
