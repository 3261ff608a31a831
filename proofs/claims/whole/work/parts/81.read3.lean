/-! ===== PURE: a TEXT is read from one place on ===== -/
def rXR (N P t : Nat) (b : Bool) (L : Nat) (f : Nat → Int32) (v : Int32) (i : Nat) (td : Bool) (s s2 : rS) : Prop := ∀ (g : Nat) (σ : Mm), L - i < g → Rf b σ → rTX σ t L f → rCX σ P s → ∃ τ, rFX P σ τ ∧ (v = -9 → rCX τ P s2) ∧ f_X2_read_8 N g P (49 + 2 * t) (if td then 1 else 0) (nI i) σ = (if v = -9 then bV (f_X2_joinHouses N P τ) (fun u => some (-9, u)) else some (v, τ))
def rMR (N t : Nat) (L : Nat) (f : Nat → Int32) (v : Int32) (i : Nat) (td : Bool) (s s2 : rS) : Prop := ∀ (b : Bool) (g : Nat) (σ : Mm), L - i < g → Rf b σ → rTM σ t L f → rCM σ i td s → ∃ τ, rFM σ τ ∧ (v = -9 → rCE τ s2) ∧ f_X6_faultOf_43 N g 66 (nI t) σ = some (v, τ)
theorem rXR_f {N P t L i j : Nat} {b td : Bool} {f : Nat → Int32} {s s2 : rS} (hj : j ≤ 60) (h : ∀ (g : Nat) (σ : Mm), Rf b σ → rTX σ t L f → rCX σ P s → f_X2_read_8 N (g + 1) P (49 + 2 * t) (if td then 1 else 0) (nI i) σ = some (nI j, σ)) : rXR N P t b L f (nI j) i td s s2 := by
  intro g σ hg hR hT hC
  obtain ⟨g, rfl⟩ : ∃ k, g = k + 1 := ⟨g - 1, by omega⟩
  refine ⟨σ, rFX_refl, fun z => absurd z (nI_n9 (by omega)), ?_⟩
  rw [if_neg (nI_n9 (by omega))]
  exact h g σ hR hT hC
theorem rXR_s {N P t L i i2 : Nat} {b td td2 : Bool} {f : Nat → Int32} {v : Int32} {s s1 s2 : rS} (hP : P = 19 ∨ P = 27) (hi : i < i2) (hL : i2 ≤ L) (h : ∀ (g : Nat) (σ : Mm), Rf b σ → rTX σ t L f → rCX σ P s → ∃ τ, rFX P σ τ ∧ rCX τ P s1 ∧ f_X2_read_8 N (g + 1) P (49 + 2 * t) (if td then 1 else 0) (nI i) σ = f_X2_read_8 N g P (49 + 2 * t) (if td2 then 1 else 0) (nI i2) τ) (h2 : rXR N P t b L f v i2 td2 s1 s2) : rXR N P t b L f v i td s s2 := by
  intro g σ hg hR hT hC
  obtain ⟨g, rfl⟩ : ∃ k, g = k + 1 := ⟨g - 1, by omega⟩
  obtain ⟨τ, t1, t2, t3⟩ := h g σ hR hT hC
  obtain ⟨ρ, r1, r2, r3⟩ := h2 g τ (by omega) (rFX_Rf t1 hR) (rFX_T hP t1 hT) t2
  exact ⟨ρ, rFX_trans t1 r1, r2, t3.trans r3⟩
theorem rMR_f {N t L i j : Nat} {td : Bool} {f : Nat → Int32} {s s2 : rS} (hj : j ≤ 60) (h : ∀ (b : Bool) (g : Nat) (σ : Mm), Rf b σ → rTM σ t L f → rCM σ i td s → ∃ τ, rFM σ τ ∧ f_X6_faultOf_43 N (g + 1) 66 (nI t) σ = some (nI j, τ)) : rMR N t L f (nI j) i td s s2 := by
  intro b g σ hg hR hT hC
  obtain ⟨g, rfl⟩ : ∃ k, g = k + 1 := ⟨g - 1, by omega⟩
  obtain ⟨τ, t1, t2⟩ := h b g σ hR hT hC
  exact ⟨τ, t1, fun z => absurd z (nI_n9 (by omega)), t2⟩
theorem rMR_s {N t L i i2 : Nat} {td td2 : Bool} {f : Nat → Int32} {v : Int32} {s s1 s2 : rS} (hi : i < i2) (hL : i2 ≤ L) (h : ∀ (b : Bool) (g : Nat) (σ : Mm), Rf b σ → rTM σ t L f → rCM σ i td s → ∃ τ, rFM σ τ ∧ rCM τ i2 td2 s1 ∧ f_X6_faultOf_43 N (g + 1) 66 (nI t) σ = f_X6_faultOf_43 N g 66 (nI t) τ) (h2 : rMR N t L f v i2 td2 s1 s2) : rMR N t L f v i td s s2 := by
  intro b g σ hg hR hT hC
  obtain ⟨g, rfl⟩ : ∃ k, g = k + 1 := ⟨g - 1, by omega⟩
  obtain ⟨τ, t1, t2, t3⟩ := h b g σ hR hT hC
  obtain ⟨ρ, r1, r2, r3⟩ := h2 b g τ (by omega) (rFM_Rf t1 hR) (rFM_T t1 hT) t2
  exact ⟨ρ, rFM_trans t1 r1, r2, t3.trans r3⟩
/-- the class at one place -/
theorem x_head {N P t L i g : Nat} {b : Bool} {σ : Mm} {f : Nat → Int32} {T : Int32} {K : Nat → Nat → Int32 → Int32 → Mm → Option (Int32 × Mm)} (hK : f_X2_read_8 N g = K) (hR : Rf b σ) (ht : t < 4) (hL : L ≤ 60) (hi : i < L) (hT : rTX σ t L f) : f_X2_read_8 N (g + 1) P (49 + 2 * t) T (nI i) σ = (if f i = (32 : Int32) then K P (49 + 2 * t) T (nI (i + 1)) σ else bI (f_X2_kindOf N (f i) σ) (fun r6 t5 => if r6 = (-9 : Int32) then (if f i = (97 : Int32) then (f_X2_read_86 N K P (49 + 2 * t) (nI i) (f i) t5) else (if f i = (103 : Int32) then (f_X2_read_86 N K P (49 + 2 * t) (nI i) (f i) t5) else (some (nI i, t5)))) else (if T = 0 then (if (gi t5 P 8) < (6 : Int32) then (bV (f_X2_addPerson N P r6 t5) (fun t7 => K P (49 + 2 * t) T (nI (i + 1)) t7)) else (some (nI i, t5))) else (some (nI i, t5))))) := by
  unfold f_X2_read_8 f_X2_read_136
  rw [hK, hT.1, if_neg (nI_ge hi (by omega))]
  simp (disch := omega) only [↓reduceIte, ↓BRt hR, OKt ht, inbT, ix_nI, lt, hT.2 i hi, nI_1]
/-- the reference at one place -/
theorem m_head {N t L i g : Nat} {b td : Bool} {σ : Mm} {f : Nat → Int32} {s : rS} {K : Nat → Int32 → Mm → Option (Int32 × Mm)} (hK : f_X6_faultOf_43 N g = K) (hR : Rf b σ) (ht : t < 4) (hL : L ≤ 60) (hi : i < L) (hT : rTM σ t L f) (hC : rCM σ i td s) : f_X6_faultOf_43 N (g + 1) 66 (nI t) σ = (if f i = (32 : Int32) then K 66 (nI t) (si σ 66 13 (nI (i + 1))) else bI (f_X6_readsItem N 66 (nI t) σ) (fun r13 t12 => if r13 = 0 then (some (gi t12 66 13, t12)) else K 66 (nI t) t12)) := by
  unfold f_X6_faultOf_43
  rw [hK]
  simp (disch := omega) only [↓reduceIte, ↓BR hR, OKm, inbT, ix_nI, hT.1, hC.1]
  rw [if_neg (nI_ge hi (by omega)), bIe (p_byte (N := N) hR ht hL hT (by omega)), if_pos hi, hC.1, nI_1]
  simp only [lt]
theorem m_item {N t L i : Nat} {b td : Bool} {σ : Mm} {f : Nat → Int32} {s : rS} (hR : Rf b σ) (ht : t < 4) (hL : L ≤ 60) (hi : i < L) (hT : rTM σ t L f) (hC : rCM σ i td s) : f_X6_readsItem N 66 (nI t) σ = (if f i = (97 : Int32) then bI (f_X6_readsPair N 66 (nI t) 76 σ) (fun r10 t9 => if bz r10 then some (r10, t9) else none) else (if f i = (103 : Int32) then bI (f_X6_readsPair N 66 (nI t) 77 σ) (fun r10 t9 => if bz r10 then some (r10, t9) else none) else (bI (f_X6_readsPerson N 66 (nI t) σ) (fun r10 t9 => if bz r10 then some (r10, t9) else none)))) := by
  unfold f_X6_readsItem
  rw [if_pos OKx.2.1, hC.1, bIe (p_byte (N := N) hR ht hL hT (by omega)), if_pos hi]
  simp (disch := omega) only [↓reduceIte, ↓BR hR, OKm]
theorem okRS_add {s : rS} {k : Nat} (h : okRS s) (hm : s.1 < 6) (hk : k ≤ 5) : okRS (s.1 + 1, (fun p => if p = s.1 then k else s.2.1 p), s.2.2.1, s.2.2.2) := by
  obtain ⟨h1, h2, h3, h4⟩ := h
  have e : 2 ^ (s.1 + 1) = 2 * 2 ^ s.1 := by rw [Nat.pow_succ]; omega
  refine ⟨hm, fun p hp => ?_, fun p hp => ?_, h4⟩
  · show (if p = s.1 then k else s.2.1 p) ≤ 5
    have hp : p < s.1 + 1 := hp
    split
    · exact hk
    · exact h2 p (by omega)
  · obtain ⟨a1, a2⟩ := h3 p hp
    show s.2.2.1 p < 2 ^ (s.1 + 1) ∧ s.2.2.2 p < 2 ^ (s.1 + 1)
    rw [e]
    omega
theorem addS_lt {h : Nat → Nat} {m p q : Nat} (h1 : ∀ x, x < 6 → h x < 2 ^ m) (hp : p < m) (hq : q < m) : ∀ x, x < 6 → addS h p q x < 2 ^ m := by
  intro x hx
  unfold addS
  split
  · exact Nat.or_lt_two_pow (h1 x hx) (Nat.pow_lt_pow_right (by decide) hq)
  · split
    · exact Nat.or_lt_two_pow (h1 x hx) (Nat.pow_lt_pow_right (by decide) hp)
    · exact h1 x hx
theorem addS_tb {h : Nat → Nat} {p q x y : Nat} (hpq : p ≠ q) : (addS h p q x).testBit y = ((h x).testBit y || ((decide (x = p) && decide (q = y)) || (decide (x = q) && decide (p = y)))) := by
  unfold addS
  by_cases c1 : x = p
  · rw [if_pos c1, Nat.testBit_or, tb_pow, decide_eq_true c1, decide_eq_false (show ¬ x = q by omega)]
    simp
  · rw [if_neg c1]
    by_cases c2 : x = q
    · rw [if_pos c2, Nat.testBit_or, tb_pow, decide_eq_false c1, decide_eq_true c2]
      simp
    · rw [if_neg c2, decide_eq_false c1, decide_eq_false c2]
      simp
theorem addS_sy {h : Nat → Nat} {p q : Nat} (hpq : p ≠ q) (h1 : ∀ x y, x < 6 → y < 6 → (h x).testBit y = (h y).testBit x) : ∀ x y, x < 6 → y < 6 → (addS h p q x).testBit y = (addS h p q y).testBit x := by
  intro x y hx hy
  rw [addS_tb hpq, addS_tb hpq, h1 x y hx hy]
  have e1 : decide (p = x) = decide (x = p) := decide_eq_decide.mpr ⟨Eq.symm, Eq.symm⟩
  have e2 : decide (q = x) = decide (x = q) := decide_eq_decide.mpr ⟨Eq.symm, Eq.symm⟩
  have e3 : decide (p = y) = decide (y = p) := decide_eq_decide.mpr ⟨Eq.symm, Eq.symm⟩
  have e4 : decide (q = y) = decide (y = q) := decide_eq_decide.mpr ⟨Eq.symm, Eq.symm⟩
  rw [e1, e2, e3, e4]
  cases decide (x = p) <;> cases decide (x = q) <;> cases decide (y = p) <;> cases decide (y = q) <;> simp
/-- two of one tie, as the cells show them -/
theorem tie_cell {σ : Mm} {c p q : Nat} {h : Nat → Nat} (hpq : p ≠ q) (hh : ∀ x, x < 6 → gi σ c x = nI (h x)) : ∀ x, x < 6 → gi (si (si σ c p (nI (h p ||| 2 ^ q))) c q (nI (h q ||| 2 ^ p))) c x = nI (addS h p q x) := by
  intro x hx
  unfold addS
  rw [gi_si]
  by_cases c2 : x = q
  · rw [if_pos ⟨rfl, c2⟩, if_neg (by omega), if_pos c2, c2]
  · rw [if_neg (by omega), gi_si]
    by_cases c1 : x = p
    · rw [if_pos ⟨rfl, c1⟩, if_pos c1, c1]
    · rw [if_neg (by omega), if_neg c1, if_neg c2]
      exact hh x hx
theorem tie_ok {f : Nat → Int32} {L i m : Nat} {h : Nat → Nat} (hm : m ≤ 6) (h1 : tie1 f L i m = true) (h2 : tie2 f L i m h = true) : i + 3 ≤ L ∧ tp f i < m ∧ tq f i < m ∧ tp f i ≠ tq f i := by
  unfold tie1 at h1
  unfold tie2 at h2
  simp only [Bool.and_eq_true, decide_eq_true_eq, Bool.not_eq_true', decide_eq_false_iff_not] at h1 h2
  obtain ⟨p, hp, ep⟩ := (inb_iff (by omega)).mp h1.2
  obtain ⟨q, hq, eq⟩ := (inb_iff (by omega)).mp h2.1.2
  have tpe : tp f i = p := by unfold tp; rw [ep, ix_nI (by omega)]
  have tqe : tq f i = q := by unfold tq; rw [eq, ix_nI (by omega)]
  refine ⟨by omega, by omega, by omega, h2.2.1⟩
theorem tie_le {f : Nat → Int32} {L i m : Nat} (h1 : tie1 f L i m = true) : i + 1 < L := by
  unfold tie1 at h1
  simp only [Bool.and_eq_true, decide_eq_true_eq] at h1
  exact h1.1
/-- MAIN -/
theorem rCE_congr {σ τ : Mm} {s : rS} (f : ∀ a k, (a = 66 ∧ k = 14) ∨ (75 ≤ a ∧ a ≤ 77) → gi τ a k = gi σ a k) (h : rCE σ s) : rCE τ s := ⟨(f _ _ (by omega)).trans h.1, fun p hp => (f _ _ (by omega)).trans (h.2.1 p hp), fun p hp => ⟨(f _ _ (by omega)).trans (h.2.2 p hp).1, (f _ _ (by omega)).trans (h.2.2 p hp).2⟩⟩
theorem m_pers {N t L i k : Nat} {b td : Bool} {σ : Mm} {f : Nat → Int32} {s : rS} (hR : Rf b σ) (ht : t < 4) (hL : L ≤ 60) (hi : i < L) (hT : rTM σ t L f) (hC : rCM σ i td s) (hs : s.1 ≤ 6) (hk : k ≤ 5) (km : ∀ N σ, f_X6_kindOf N (f i) σ = some (nI k, σ)) : f_X6_readsPerson N 66 (nI t) σ = if td then some (0, σ) else if s.1 = 6 then some (0, σ) else some (1, si (si (si σ 66 13 (nI (i + 1))) 75 s.1 (nI k)) 66 14 (nI (s.1 + 1))) := by
  unfold f_X6_readsPerson
  rw [if_pos OKx.2.1, hC.1, bIe (p_byte (N := N) hR ht hL hT (by omega)), if_pos hi, bIe (km N σ), if_neg (nI_n9 (by omega)), hC.2.1, if10, hC.2.2.1]
  cases td with
  | true => rfl
  | false =>
    rw [if_neg Bool.false_ne_true, if_neg Bool.false_ne_true]
    by_cases e : s.1 = 6
    · rw [if_pos e, if_pos (by rw [e]; rfl)]
    · have g14 : gi (si σ 66 13 (nI (i + 1))) 66 14 = nI s.1 := by rw [gi_si, if_neg (by omega)]; exact hC.2.2.1
      have g15 : gi (si (si σ 66 13 (nI (i + 1))) 75 s.1 (nI k)) 66 14 = nI s.1 := by rw [gi_si, if_neg (by omega)]; exact g14
      have hR1 : Rf b (si σ 66 13 (nI (i + 1))) := hR
      rw [if_neg e, if_neg (show ¬ nI s.1 = (6 : Int32) from fun z => e ((nI_eq (a := s.1) (b := 6) (by omega) (by omega)).mp z)), hC.1, nI_1]
      simp (disch := omega) only [↓reduceIte, ↓BR hR1, OKm, inbT, ix_nI, lt, g14, g15, nI_1]
theorem m_pers0 {N t L i : Nat} {b td : Bool} {σ : Mm} {f : Nat → Int32} {s : rS} (hR : Rf b σ) (ht : t < 4) (hL : L ≤ 60) (hi : i < L) (hT : rTM σ t L f) (hC : rCM σ i td s) (km : ∀ N σ, f_X6_kindOf N (f i) σ = some (-9, σ)) : f_X6_readsPerson N 66 (nI t) σ = some (0, σ) := by
  unfold f_X6_readsPerson
  rw [if_pos OKx.2.1, hC.1, bIe (p_byte (N := N) hR ht hL hT (by omega)), if_pos hi, bIe (km N σ), if_pos rfl]
theorem m_pair0 {N c : Nat} {t : Int32} {σ : Mm} (hc : c = 76 ∨ c = 77) (h : gi σ 66 14 = nI 0) : f_X6_readsPair N 66 t c σ = some (0, σ) := by
  have okc : okA 0 c = true := by rcases hc with rfl | rfl <;> rfl
  unfold f_X6_readsPair
  rw [if_pos OKx.2.1, if_pos okc, h, if_pos (show nI 0 = (0 : Int32) from rfl)]
theorem bz_0 {v : Int32} {τ : Mm} {X : Option (Int32 × Mm)} (hv : v = 0 ∨ v = 1) (h : X = some (v, τ)) : bI X (fun r10 t9 => if bz r10 then some (r10, t9) else none) = some (v, τ) := by
  rw [bIe h]
  rcases hv with rfl | rfl <;> rfl
theorem x_86a {N P t i m : Nat} {b : Bool} {σ : Mm} {K : Nat → Nat → Int32 → Int32 → Mm → Option (Int32 × Mm)} {x : Int32} (hx : x = 97) (hR : Rf b σ) (hP : P = 19 ∨ P = 27) (h8 : gi σ P 8 = nI m) (hm : m ≤ 6) : f_X2_read_86 N K P (49 + 2 * t) (nI i) x σ = if m = 0 then some (nI i, σ) else bI (f_X2_readTie N P (49 + 2 * t) (nI i) (P + 3) σ) (fun r u => if r = (-9 : Int32) then K P (49 + 2 * t) 1 (nI (i + 3)) u else some (r, u)) := by
  have e3 : nI i + (2 : Int32) + 1 = nI (i + 3) := by rw [show nI i + (2 : Int32) = nI (i + 2) from nI_add i 2, nI_1]
  unfold f_X2_read_86 f_X2_read_116 f_X2_read_136
  rw [h8, hx, e3]
  by_cases c : m = 0
  · rw [if_pos c, if_pos (by rw [c]; rfl)]
  · rw [if_neg c, if_neg (show ¬ nI m = (0 : Int32) from nI_ne0 (by omega) (by omega)), if_pos rfl, (BRp hR hP).2.2.1, if_pos (ok_p hP).2.2.2.1]
theorem x_86g {N P t i m : Nat} {b : Bool} {σ : Mm} {K : Nat → Nat → Int32 → Int32 → Mm → Option (Int32 × Mm)} {x : Int32} (hx : x ≠ 97) (hR : Rf b σ) (hP : P = 19 ∨ P = 27) (h8 : gi σ P 8 = nI m) (hm : m ≤ 6) : f_X2_read_86 N K P (49 + 2 * t) (nI i) x σ = if m = 0 then some (nI i, σ) else bI (f_X2_readTie N P (49 + 2 * t) (nI i) (P + 4) σ) (fun r u => if r = (-9 : Int32) then K P (49 + 2 * t) 1 (nI (i + 3)) u else some (r, u)) := by
  have e3 : nI i + (2 : Int32) + 1 = nI (i + 3) := by rw [show nI i + (2 : Int32) = nI (i + 2) from nI_add i 2, nI_1]
  unfold f_X2_read_86 f_X2_read_116 f_X2_read_136
  rw [h8, e3]
  by_cases c : m = 0
  · rw [if_pos c, if_pos (by rw [c]; rfl)]
  · rw [if_neg c, if_neg (show ¬ nI m = (0 : Int32) from nI_ne0 (by omega) (by omega)), if_neg hx, (BRp hR hP).2.2.2.1, if_pos (ok_p hP).2.2.2.2.1]
theorem rd_end {N P t L : Nat} {b td : Bool} {f : Nat → Int32} {s : rS} (ht : t < 4) (hL : L ≤ 60) (hok : okRS s) : ∃ v s2, okRS s2 ∧ ((v = -9 ∧ 0 < s2.1) ∨ ∃ j, j ≤ 60 ∧ v = nI j) ∧ rXR N P t b L f v L td s s2 ∧ rMR N t L f v L td s s2 := by
  have h6 := hok.1
  by_cases c : s.1 = 0
  · refine ⟨nI L, s, hok, Or.inr ⟨L, hL, rfl⟩, rXR_f hL (fun g σ hR hT hC => ?_), rMR_f hL (fun b g σ hR hT hC => ⟨σ, rFM_refl, ?_⟩)⟩
    · unfold f_X2_read_8
      rw [hT.1, if_pos (nI_le (Nat.le_refl L) (by omega)), hC.1, if_pos (by rw [c]; rfl)]
    · unfold f_X6_faultOf_43
      simp (disch := omega) only [↓reduceIte, ↓BR hR, OKm, inbT, ix_nI, hT.1, hC.1]
      rw [if_pos (nI_le (Nat.le_refl L) (by omega)), hC.2.2.1, if_pos (by rw [c]; rfl)]
  · refine ⟨-9, s, hok, Or.inl ⟨rfl, by omega⟩, fun g σ hg hR hT hC => ⟨σ, rFX_refl, fun _ => hC, ?_⟩, fun b g σ hg hR hT hC => ⟨σ, rFM_refl, fun _ => hC.2.2, ?_⟩⟩
    · obtain ⟨g, rfl⟩ : ∃ k, g = k + 1 := ⟨g - 1, by omega⟩
      unfold f_X2_read_8
      rw [hT.1, if_pos (nI_le (Nat.le_refl L) (by omega)), hC.1, if_neg (show ¬ nI s.1 = (0 : Int32) from nI_ne0 (by omega) (by omega)), if_pos rfl]
    · obtain ⟨g, rfl⟩ : ∃ k, g = k + 1 := ⟨g - 1, by omega⟩
      unfold f_X6_faultOf_43
      simp (disch := omega) only [↓reduceIte, ↓BR hR, OKm, inbT, ix_nI, hT.1, hC.1]
      rw [if_pos (nI_le (Nat.le_refl L) (by omega)), hC.2.2.1, if_neg (show ¬ nI s.1 = (0 : Int32) from nI_ne0 (by omega) (by omega))]
theorem rd_tiea {N P t L i : Nat} {b td : Bool} {f : Nat → Int32} {s : rS} (hP : P = 19 ∨ P = 27) (ht : t < 4) (hL : L ≤ 60) (hi : i < L) (hok : okRS s) (e32 : ¬ f i = 32) (hx : f i = 97) (kx : ∀ N σ, 10 ≤ N → f_X2_kindOf N (f i) σ = some (-9, σ)) (hN : 100 ≤ N) (ih : ∀ s1, i + 3 ≤ L → okRS s1 → ∃ v s2, okRS s2 ∧ ((v = -9 ∧ 0 < s2.1) ∨ ∃ j, j ≤ 60 ∧ v = nI j) ∧ rXR N P t b L f v (i + 3) true s1 s2 ∧ rMR N t L f v (i + 3) true s1 s2) : ∃ v s2, okRS s2 ∧ ((v = -9 ∧ 0 < s2.1) ∨ ∃ j, j ≤ 60 ∧ v = nI j) ∧ rXR N P t b L f v i td s s2 ∧ rMR N t L f v i td s s2 := by
  have h6 := hok.1
  have h64 := pow6 h6
  have hh : ∀ x, x < 6 → s.2.2.1 x < 64 := fun x hx => Nat.lt_of_lt_of_le (hok.2.2.1 x hx).1 h64
  have xh : ∀ (g : Nat) (σ : Mm), Rf b σ → rTX σ t L f → rCX σ P s → f_X2_read_8 N (g + 1) P (49 + 2 * t) (if td then 1 else 0) (nI i) σ = if s.1 = 0 then some (nI i, σ) else bI (f_X2_readTie N P (49 + 2 * t) (nI i) (P + 3) σ) (fun r u => if r = (-9 : Int32) then f_X2_read_8 N g P (49 + 2 * t) 1 (nI (i + 3)) u else some (r, u)) := fun g σ hR hT hC => by
    rw [x_head rfl hR ht hL hi hT, if_neg e32, bIe (kx N σ (by omega)), if_pos rfl, if_pos hx, x_86a hx hR hP hC.1 h6]
  have mh : ∀ (b : Bool) (g : Nat) (σ : Mm), Rf b σ → rTM σ t L f → rCM σ i td s → f_X6_faultOf_43 N (g + 1) 66 (nI t) σ = bI (bI (f_X6_readsPair N 66 (nI t) 76 σ) (fun r10 t9 => if bz r10 then some (r10, t9) else none)) (fun r13 t12 => if r13 = 0 then (some (gi t12 66 13, t12)) else f_X6_faultOf_43 N g 66 (nI t) t12) := fun b g σ hR hT hC => by
    rw [m_head rfl hR ht hL hi hT hC, if_neg e32, m_item hR ht hL hi hT hC, if_pos hx]
  have px : ∀ (σ : Mm), Rf b σ → rTX σ t L f → rCX σ P s → _ := fun σ hR hT hC => p_tieX (N := N) (c := P + 3) (h := s.2.2.1) hR hP ht hL hi h6 (Or.inl rfl) hC.1 hT (fun x hx => ⟨(hC.2.2.2 x hx).1, hh x hx⟩)
  by_cases m0 : s.1 = 0
  · refine ⟨nI i, s, hok, Or.inr ⟨i, by omega, rfl⟩, rXR_f (by omega) (fun g σ hR hT hC => ?_), rMR_f (by omega) (fun b g σ hR hT hC => ⟨σ, rFM_refl, ?_⟩)⟩
    · rw [xh g σ hR hT hC, if_pos m0]
    · rw [mh b g σ hR hT hC, bIe (bz_0 (Or.inl rfl) (m_pair0 (N := N) (Or.inl rfl) (by rw [hC.2.2.1, m0]))), if_pos rfl, hC.1]
  · have pm : ∀ (b : Bool) (σ : Mm), Rf b σ → rTM σ t L f → rCM σ i td s → _ := fun b σ hR hT hC => p_tieM (N := N) (c := 76) (h := s.2.2.1) hR ht hL hi h6 (Nat.pos_of_ne_zero m0) (Or.inl rfl) hC.1 hC.2.2.1 hT (fun x hx => ⟨(hC.2.2.2.2 x hx).1, hh x hx⟩)
    cases T1 : tie1 f L i s.1 with
    | false =>
      refine ⟨nI (i + 1), s, hok, Or.inr ⟨i + 1, by omega, rfl⟩, rXR_f (by omega) (fun g σ hR hT hC => ?_), rMR_f (by omega) (fun b g σ hR hT hC => ⟨si σ 66 13 (nI (i + 1)), ⟨rfl, fun a k z1 z2 => by rw [gi_si, if_neg (by omega)]⟩, ?_⟩)⟩
      · have e := px σ hR hT hC
        rw [T1, if_neg Bool.false_ne_true] at e
        rw [xh g σ hR hT hC, if_neg m0, bIe e, if_neg (nI_n9 (by omega))]
      · have e := pm b σ hR hT hC
        rw [T1, if_neg Bool.false_ne_true] at e
        rw [mh b g σ hR hT hC, bIe (bz_0 (Or.inl rfl) e), if_pos rfl, gi_si, if_pos ⟨rfl, rfl⟩]
    | true =>
      have hL1 := tie_le T1
      cases T2 : tie2 f L i s.1 s.2.2.1 with
      | false =>
        refine ⟨nI (i + 2), s, hok, Or.inr ⟨i + 2, by omega, rfl⟩, rXR_f (by omega) (fun g σ hR hT hC => ?_), rMR_f (by omega) (fun b g σ hR hT hC => ⟨si (si σ 66 13 (nI (i + 1))) 66 13 (nI (i + 2)), ⟨rfl, fun a k z1 z2 => by rw [gi_si, if_neg (by omega), gi_si, if_neg (by omega)]⟩, ?_⟩)⟩
        · have e := px σ hR hT hC
          rw [T1, if_pos rfl, T2, if_neg Bool.false_ne_true] at e
          rw [xh g σ hR hT hC, if_neg m0, bIe e, if_neg (nI_n9 (by omega))]
        · have e := pm b σ hR hT hC
          rw [T1, if_pos rfl, T2, if_neg Bool.false_ne_true] at e
          rw [mh b g σ hR hT hC, bIe (bz_0 (Or.inl rfl) e), if_pos rfl, gi_si, if_pos ⟨rfl, rfl⟩]
      | true =>
        obtain ⟨q1, q2, q3, q4⟩ := tie_ok h6 T1 T2
        have hlt := addS_lt (h := s.2.2.1) (fun x hx => (hok.2.2.1 x hx).1) q2 q3
        have hok1 : okRS (s.1, s.2.1, addS s.2.2.1 (tp f i) (tq f i), s.2.2.2) := ⟨h6, hok.2.1, fun p hp => ⟨hlt p hp, (hok.2.2.1 p hp).2⟩, addS_sy q4 hok.2.2.2⟩
        obtain ⟨v, s2, o1, o2, o3, o4⟩ := ih _ q1 hok1
        refine ⟨v, s2, o1, o2, rXR_s (td2 := true) hP (by omega) q1 (fun g σ hR hT hC => ⟨si (si σ (P + 3) (tp f i) (nI (s.2.2.1 (tp f i) ||| 2 ^ tq f i))) (P + 3) (tq f i) (nI (s.2.2.1 (tq f i) ||| 2 ^ tp f i)), ⟨rfl, fun a k z => by rw [gi_si, if_neg (by omega), gi_si, if_neg (by omega)]⟩, ?_, ?_⟩) o3, rMR_s (td2 := true) (by omega) q1 (fun b g σ hR hT hC => ⟨si (si (si (si (si (si σ 66 13 (nI (i + 1))) 66 13 (nI (i + 2))) 66 13 (nI (i + 3))) 76 (tp f i) (nI (s.2.2.1 (tp f i) ||| 2 ^ tq f i))) 76 (tq f i) (nI (s.2.2.1 (tq f i) ||| 2 ^ tp f i))) 66 15 1, ⟨rfl, fun a k z1 z2 => ?_⟩, ?_, (mh b g σ hR hT hC).trans (by
          have e := pm b σ hR hT hC
          rw [T1, if_pos rfl, T2, if_pos rfl] at e
          rw [bIe (bz_0 (Or.inr rfl) e), if_neg (show ¬ (1 : Int32) = 0 by decide)])⟩) o4⟩
        · have fr : ∀ a k, a ≠ P + 3 → gi (si (si σ (P + 3) (tp f i) (nI (s.2.2.1 (tp f i) ||| 2 ^ tq f i))) (P + 3) (tq f i) (nI (s.2.2.1 (tq f i) ||| 2 ^ tp f i))) a k = gi σ a k := fun a k z => by rw [gi_si, if_neg (by omega), gi_si, if_neg (by omega)]
          have tc := tie_cell (σ := σ) (c := P + 3) (h := s.2.2.1) q4 (fun x hx => (hC.2.2.2 x hx).1)
          refine ⟨(fr _ _ (by omega)).trans hC.1, fun p hp => (fr _ _ (by omega)).trans (hC.2.1 p hp), fun k hk => (fr _ _ (by omega)).trans (hC.2.2.1 k hk), fun p hp => ⟨tc p hp, (fr _ _ (by omega)).trans (hC.2.2.2 p hp).2⟩⟩
        · have e := px σ hR hT hC
          rw [T1, if_pos rfl, T2, if_pos rfl] at e
          rw [xh g σ hR hT hC, if_neg m0, bIe e, if_pos rfl]
          rfl
        · rw [gi_si, if_neg (by omega), gi_si, if_neg (by omega), gi_si, if_neg (by omega), gi_si, if_neg (by omega), gi_si, if_neg (by omega), gi_si, if_neg (by omega)]
        · generalize hS : si (si (si σ 66 13 (nI (i + 1))) 66 13 (nI (i + 2))) 66 13 (nI (i + 3)) = S
          have fS : ∀ a k, ¬ (a = 66 ∧ k = 13) → gi S a k = gi σ a k := fun a k z => by rw [← hS, gi_si, if_neg z, gi_si, if_neg z, gi_si, if_neg z]
          have S13 : gi S 66 13 = nI (i + 3) := by rw [← hS, gi_si, if_pos ⟨rfl, rfl⟩]
          have fr : ∀ a k, a ≠ 76 → ¬ (a = 66 ∧ k = 15) → gi (si (si (si S 76 (tp f i) (nI (s.2.2.1 (tp f i) ||| 2 ^ tq f i))) 76 (tq f i) (nI (s.2.2.1 (tq f i) ||| 2 ^ tp f i))) 66 15 1) a k = gi S a k := fun a k z z2 => by rw [gi_si, if_neg z2, gi_si, if_neg (by omega), gi_si, if_neg (by omega)]
          have tc := tie_cell (σ := S) (c := 76) (h := s.2.2.1) q4 (fun x hx => by rw [fS _ _ (by omega)]; exact (hC.2.2.2.2 x hx).1)
          refine ⟨by rw [fr _ _ (by omega) (by omega)]; exact S13, by rw [gi_si, if_pos ⟨rfl, rfl⟩]; rfl, by rw [fr _ _ (by omega) (by omega), fS _ _ (by omega)]; exact hC.2.2.1, fun p hp => by rw [fr _ _ (by omega) (by omega), fS _ _ (by omega)]; exact hC.2.2.2.1 p hp, fun p hp => ⟨by rw [gi_si, if_neg (by omega)]; exact tc p hp, by rw [fr _ _ (by omega) (by omega), fS _ _ (by omega)]; exact (hC.2.2.2.2 p hp).2⟩⟩
theorem rd_tieg {N P t L i : Nat} {b td : Bool} {f : Nat → Int32} {s : rS} (hP : P = 19 ∨ P = 27) (ht : t < 4) (hL : L ≤ 60) (hi : i < L) (hok : okRS s) (e32 : ¬ f i = 32) (hx : f i = 103) (kx : ∀ N σ, 10 ≤ N → f_X2_kindOf N (f i) σ = some (-9, σ)) (hN : 100 ≤ N) (ih : ∀ s1, i + 3 ≤ L → okRS s1 → ∃ v s2, okRS s2 ∧ ((v = -9 ∧ 0 < s2.1) ∨ ∃ j, j ≤ 60 ∧ v = nI j) ∧ rXR N P t b L f v (i + 3) true s1 s2 ∧ rMR N t L f v (i + 3) true s1 s2) : ∃ v s2, okRS s2 ∧ ((v = -9 ∧ 0 < s2.1) ∨ ∃ j, j ≤ 60 ∧ v = nI j) ∧ rXR N P t b L f v i td s s2 ∧ rMR N t L f v i td s s2 := by
  have h6 := hok.1
  have h64 := pow6 h6
  have hh : ∀ x, x < 6 → s.2.2.2 x < 64 := fun x hx => Nat.lt_of_lt_of_le (hok.2.2.1 x hx).2 h64
  have xh : ∀ (g : Nat) (σ : Mm), Rf b σ → rTX σ t L f → rCX σ P s → f_X2_read_8 N (g + 1) P (49 + 2 * t) (if td then 1 else 0) (nI i) σ = if s.1 = 0 then some (nI i, σ) else bI (f_X2_readTie N P (49 + 2 * t) (nI i) (P + 4) σ) (fun r u => if r = (-9 : Int32) then f_X2_read_8 N g P (49 + 2 * t) 1 (nI (i + 3)) u else some (r, u)) := fun g σ hR hT hC => by
    rw [x_head rfl hR ht hL hi hT, if_neg e32, bIe (kx N σ (by omega)), if_pos rfl, if_neg (show ¬ f i = (97 : Int32) by rw [hx]; decide), if_pos hx, x_86g (show f i ≠ 97 by rw [hx]; decide) hR hP hC.1 h6]
  have mh : ∀ (b : Bool) (g : Nat) (σ : Mm), Rf b σ → rTM σ t L f → rCM σ i td s → f_X6_faultOf_43 N (g + 1) 66 (nI t) σ = bI (bI (f_X6_readsPair N 66 (nI t) 77 σ) (fun r10 t9 => if bz r10 then some (r10, t9) else none)) (fun r13 t12 => if r13 = 0 then (some (gi t12 66 13, t12)) else f_X6_faultOf_43 N g 66 (nI t) t12) := fun b g σ hR hT hC => by
    rw [m_head rfl hR ht hL hi hT hC, if_neg e32, m_item hR ht hL hi hT hC, if_neg (show ¬ f i = (97 : Int32) by rw [hx]; decide), if_pos hx]
  have px : ∀ (σ : Mm), Rf b σ → rTX σ t L f → rCX σ P s → _ := fun σ hR hT hC => p_tieX (N := N) (c := P + 4) (h := s.2.2.2) hR hP ht hL hi h6 (Or.inr rfl) hC.1 hT (fun x hx => ⟨(hC.2.2.2 x hx).2, hh x hx⟩)
  by_cases m0 : s.1 = 0
  · refine ⟨nI i, s, hok, Or.inr ⟨i, by omega, rfl⟩, rXR_f (by omega) (fun g σ hR hT hC => ?_), rMR_f (by omega) (fun b g σ hR hT hC => ⟨σ, rFM_refl, ?_⟩)⟩
    · rw [xh g σ hR hT hC, if_pos m0]
    · rw [mh b g σ hR hT hC, bIe (bz_0 (Or.inl rfl) (m_pair0 (N := N) (Or.inr rfl) (by rw [hC.2.2.1, m0]))), if_pos rfl, hC.1]
  · have pm : ∀ (b : Bool) (σ : Mm), Rf b σ → rTM σ t L f → rCM σ i td s → _ := fun b σ hR hT hC => p_tieM (N := N) (c := 77) (h := s.2.2.2) hR ht hL hi h6 (Nat.pos_of_ne_zero m0) (Or.inr rfl) hC.1 hC.2.2.1 hT (fun x hx => ⟨(hC.2.2.2.2 x hx).2, hh x hx⟩)
    cases T1 : tie1 f L i s.1 with
    | false =>
      refine ⟨nI (i + 1), s, hok, Or.inr ⟨i + 1, by omega, rfl⟩, rXR_f (by omega) (fun g σ hR hT hC => ?_), rMR_f (by omega) (fun b g σ hR hT hC => ⟨si σ 66 13 (nI (i + 1)), ⟨rfl, fun a k z1 z2 => by rw [gi_si, if_neg (by omega)]⟩, ?_⟩)⟩
      · have e := px σ hR hT hC
        rw [T1, if_neg Bool.false_ne_true] at e
        rw [xh g σ hR hT hC, if_neg m0, bIe e, if_neg (nI_n9 (by omega))]
      · have e := pm b σ hR hT hC
        rw [T1, if_neg Bool.false_ne_true] at e
        rw [mh b g σ hR hT hC, bIe (bz_0 (Or.inl rfl) e), if_pos rfl, gi_si, if_pos ⟨rfl, rfl⟩]
    | true =>
      have hL1 := tie_le T1
      cases T2 : tie2 f L i s.1 s.2.2.2 with
      | false =>
        refine ⟨nI (i + 2), s, hok, Or.inr ⟨i + 2, by omega, rfl⟩, rXR_f (by omega) (fun g σ hR hT hC => ?_), rMR_f (by omega) (fun b g σ hR hT hC => ⟨si (si σ 66 13 (nI (i + 1))) 66 13 (nI (i + 2)), ⟨rfl, fun a k z1 z2 => by rw [gi_si, if_neg (by omega), gi_si, if_neg (by omega)]⟩, ?_⟩)⟩
        · have e := px σ hR hT hC
          rw [T1, if_pos rfl, T2, if_neg Bool.false_ne_true] at e
          rw [xh g σ hR hT hC, if_neg m0, bIe e, if_neg (nI_n9 (by omega))]
        · have e := pm b σ hR hT hC
          rw [T1, if_pos rfl, T2, if_neg Bool.false_ne_true] at e
          rw [mh b g σ hR hT hC, bIe (bz_0 (Or.inl rfl) e), if_pos rfl, gi_si, if_pos ⟨rfl, rfl⟩]
      | true =>
        obtain ⟨q1, q2, q3, q4⟩ := tie_ok h6 T1 T2
        have hlt := addS_lt (h := s.2.2.2) (fun x hx => (hok.2.2.1 x hx).2) q2 q3
        have hok1 : okRS (s.1, s.2.1, s.2.2.1, addS s.2.2.2 (tp f i) (tq f i)) := ⟨h6, hok.2.1, fun p hp => ⟨(hok.2.2.1 p hp).1, hlt p hp⟩, hok.2.2.2⟩
        obtain ⟨v, s2, o1, o2, o3, o4⟩ := ih _ q1 hok1
        refine ⟨v, s2, o1, o2, rXR_s (td2 := true) hP (by omega) q1 (fun g σ hR hT hC => ⟨si (si σ (P + 4) (tp f i) (nI (s.2.2.2 (tp f i) ||| 2 ^ tq f i))) (P + 4) (tq f i) (nI (s.2.2.2 (tq f i) ||| 2 ^ tp f i)), ⟨rfl, fun a k z => by rw [gi_si, if_neg (by omega), gi_si, if_neg (by omega)]⟩, ?_, ?_⟩) o3, rMR_s (td2 := true) (by omega) q1 (fun b g σ hR hT hC => ⟨si (si (si (si (si (si σ 66 13 (nI (i + 1))) 66 13 (nI (i + 2))) 66 13 (nI (i + 3))) 77 (tp f i) (nI (s.2.2.2 (tp f i) ||| 2 ^ tq f i))) 77 (tq f i) (nI (s.2.2.2 (tq f i) ||| 2 ^ tp f i))) 66 15 1, ⟨rfl, fun a k z1 z2 => ?_⟩, ?_, (mh b g σ hR hT hC).trans (by
          have e := pm b σ hR hT hC
          rw [T1, if_pos rfl, T2, if_pos rfl] at e
          rw [bIe (bz_0 (Or.inr rfl) e), if_neg (show ¬ (1 : Int32) = 0 by decide)])⟩) o4⟩
        · have fr : ∀ a k, a ≠ P + 4 → gi (si (si σ (P + 4) (tp f i) (nI (s.2.2.2 (tp f i) ||| 2 ^ tq f i))) (P + 4) (tq f i) (nI (s.2.2.2 (tq f i) ||| 2 ^ tp f i))) a k = gi σ a k := fun a k z => by rw [gi_si, if_neg (by omega), gi_si, if_neg (by omega)]
          have tc := tie_cell (σ := σ) (c := P + 4) (h := s.2.2.2) q4 (fun x hx => (hC.2.2.2 x hx).2)
          refine ⟨(fr _ _ (by omega)).trans hC.1, fun p hp => (fr _ _ (by omega)).trans (hC.2.1 p hp), fun k hk => (fr _ _ (by omega)).trans (hC.2.2.1 k hk), fun p hp => ⟨(fr _ _ (by omega)).trans (hC.2.2.2 p hp).1, tc p hp⟩⟩
        · have e := px σ hR hT hC
          rw [T1, if_pos rfl, T2, if_pos rfl] at e
          rw [xh g σ hR hT hC, if_neg m0, bIe e, if_pos rfl]
          rfl
        · rw [gi_si, if_neg (by omega), gi_si, if_neg (by omega), gi_si, if_neg (by omega), gi_si, if_neg (by omega), gi_si, if_neg (by omega), gi_si, if_neg (by omega)]
        · generalize hS : si (si (si σ 66 13 (nI (i + 1))) 66 13 (nI (i + 2))) 66 13 (nI (i + 3)) = S
          have fS : ∀ a k, ¬ (a = 66 ∧ k = 13) → gi S a k = gi σ a k := fun a k z => by rw [← hS, gi_si, if_neg z, gi_si, if_neg z, gi_si, if_neg z]
          have S13 : gi S 66 13 = nI (i + 3) := by rw [← hS, gi_si, if_pos ⟨rfl, rfl⟩]
          have fr : ∀ a k, a ≠ 77 → ¬ (a = 66 ∧ k = 15) → gi (si (si (si S 77 (tp f i) (nI (s.2.2.2 (tp f i) ||| 2 ^ tq f i))) 77 (tq f i) (nI (s.2.2.2 (tq f i) ||| 2 ^ tp f i))) 66 15 1) a k = gi S a k := fun a k z z2 => by rw [gi_si, if_neg z2, gi_si, if_neg (by omega), gi_si, if_neg (by omega)]
          have tc := tie_cell (σ := S) (c := 77) (h := s.2.2.2) q4 (fun x hx => by rw [fS _ _ (by omega)]; exact (hC.2.2.2.2 x hx).2)
          refine ⟨by rw [fr _ _ (by omega) (by omega)]; exact S13, by rw [gi_si, if_pos ⟨rfl, rfl⟩]; rfl, by rw [fr _ _ (by omega) (by omega), fS _ _ (by omega)]; exact hC.2.2.1, fun p hp => by rw [fr _ _ (by omega) (by omega), fS _ _ (by omega)]; exact hC.2.2.2.1 p hp, fun p hp => ⟨by rw [fr _ _ (by omega) (by omega), fS _ _ (by omega)]; exact (hC.2.2.2.2 p hp).1, by rw [gi_si, if_neg (by omega)]; exact tc p hp⟩⟩
theorem rd {N P t L : Nat} {b : Bool} {f : Nat → Int32} (hN : 100 ≤ N) (hP : P = 19 ∨ P = 27) (ht : t < 4) (hL : L ≤ 60) : ∀ (d i : Nat) (td : Bool) (s : rS), L - i ≤ d → i ≤ L → okRS s → ∃ v s2, okRS s2 ∧ ((v = -9 ∧ 0 < s2.1) ∨ ∃ j, j ≤ 60 ∧ v = nI j) ∧ rXR N P t b L f v i td s s2 ∧ rMR N t L f v i td s s2 := by
  intro d
  induction d with
  | zero =>
    intro i td s hd hi hok
    obtain rfl : i = L := by omega
    exact rd_end ht hL hok
  | succ d ih =>
    intro i td s hd hi hok
    by_cases e : i = L
    · subst e
      exact rd_end ht hL hok
    have hi : i < L := by omega
    have h6 := hok.1
    by_cases e32 : f i = 32
    · obtain ⟨v, s2, o1, o2, o3, o4⟩ := ih (i + 1) td s (by omega) (by omega) hok
      exact ⟨v, s2, o1, o2, rXR_s (td2 := td) hP (Nat.lt_succ_self i) hi (fun g σ hR hT hC => ⟨σ, rFX_refl, hC, by rw [x_head rfl hR ht hL hi hT, if_pos e32]⟩) o3, rMR_s (td2 := td) (Nat.lt_succ_self i) hi (fun b g σ hR hT hC => ⟨si σ 66 13 (nI (i + 1)), ⟨rfl, fun a k z1 z2 => by rw [gi_si, if_neg (by omega)]⟩, ⟨by rw [gi_si, if_pos ⟨rfl, rfl⟩], by rw [gi_si, if_neg (by omega)]; exact hC.2.1, rCE_congr (σ := σ) (fun a k z => by rw [gi_si, if_neg (by omega)]) hC.2.2⟩, by rw [m_head rfl hR ht hL hi hT hC, if_pos e32]⟩) o4⟩
    rcases kind_cases (f i) with ⟨k, hk, n97, n103, kx, km⟩ | ⟨kx, km⟩
    · have xh : ∀ (g : Nat) (σ : Mm), Rf b σ → rTX σ t L f → rCX σ P s → f_X2_read_8 N (g + 1) P (49 + 2 * t) (if td then 1 else 0) (nI i) σ = if td then some (nI i, σ) else if nI s.1 < (6 : Int32) then bV (f_X2_addPerson N P (nI k) σ) (fun t7 => f_X2_read_8 N g P (49 + 2 * t) (if td then 1 else 0) (nI (i + 1)) t7) else some (nI i, σ) := fun g σ hR hT hC => by
        rw [x_head rfl hR ht hL hi hT, if_neg e32, bIe (kx N σ (by omega)), if_neg (nI_n9 (by omega)), if10, hC.1]
      have mh : ∀ (b : Bool) (g : Nat) (σ : Mm), Rf b σ → rTM σ t L f → rCM σ i td s → f_X6_faultOf_43 N (g + 1) 66 (nI t) σ = bI (bI (f_X6_readsPerson N 66 (nI t) σ) (fun r10 t9 => if bz r10 then some (r10, t9) else none)) (fun r13 t12 => if r13 = 0 then (some (gi t12 66 13, t12)) else f_X6_faultOf_43 N g 66 (nI t) t12) := fun b g σ hR hT hC => by
        rw [m_head rfl hR ht hL hi hT hC, if_neg e32, m_item hR ht hL hi hT hC, if_neg n97, if_neg n103]
      by_cases c : td = true ∨ s.1 = 6
      · refine ⟨nI i, s, hok, Or.inr ⟨i, by omega, rfl⟩, rXR_f (by omega) (fun g σ hR hT hC => ?_), rMR_f (by omega) (fun b g σ hR hT hC => ⟨σ, rFM_refl, ?_⟩)⟩
        · rw [xh g σ hR hT hC]
          by_cases c1 : td = true
          · rw [if_pos c1]
          · have c3 := c.resolve_left c1
            rw [if_neg c1, if_neg (show ¬ nI s.1 < (6 : Int32) from nI_nlt (a := s.1) (b := 6) (by omega) (by omega))]
        · have e := m_pers (N := N) hR ht hL hi hT hC h6 hk km
          rw [mh b g σ hR hT hC, bIe (bz_0 (Or.inl rfl) (e.trans (by
            by_cases c1 : td = true
            · rw [if_pos c1]
            · rw [if_neg c1, if_pos (c.resolve_left c1)]))), if_pos rfl, hC.1]
      · have c1 : ¬ td = true := fun z => c (Or.inl z)
        have c2 : s.1 ≠ 6 := fun z => c (Or.inr z)
        obtain ⟨v, s2, o1, o2, o3, o4⟩ := ih (i + 1) td _ (by omega) (by omega) (okRS_add hok (by omega) hk)
        refine ⟨v, s2, o1, o2, rXR_s (td2 := td) hP (Nat.lt_succ_self i) hi (fun g σ hR hT hC => ?_) o3, rMR_s (td2 := td) (Nat.lt_succ_self i) hi (fun b g σ hR hT hC => ?_) o4⟩
        · obtain ⟨τ, t1, t2, t3, t4, t5, t6⟩ := p_addP (N := N) (kd := s.2.1) (by omega) hR hP (by omega) hk hC.1 hC.2.2.1
          refine ⟨τ, ⟨t2, fun a k z => t3 a k (by omega) (by omega) (by omega)⟩, ⟨t4, fun p hp => ?_, t6, fun p hp => ⟨?_, ?_⟩⟩, ?_⟩
          · have hp : p < s.1 + 1 := hp
            show _ = nI (if p = s.1 then k else s.2.1 p)
            by_cases c3 : p = s.1
            · rw [if_pos c3, c3]
              exact t5
            · rw [if_neg c3, t3 _ _ (by omega) (by omega) (by omega)]
              exact hC.2.1 p (by omega)
          · rw [t3 _ _ (by omega) (by omega) (by omega)]
            exact (hC.2.2.2 p hp).1
          · rw [t3 _ _ (by omega) (by omega) (by omega)]
            exact (hC.2.2.2 p hp).2
          · rw [xh g σ hR hT hC, if_neg c1, if_pos (show nI s.1 < (6 : Int32) from nI_lt (a := s.1) (b := 6) (by omega) (by omega)), bVe t1]
        · have e := m_pers (N := N) hR ht hL hi hT hC h6 hk km
          rw [if_neg c1, if_neg c2] at e
          refine ⟨si (si (si σ 66 13 (nI (i + 1))) 75 s.1 (nI k)) 66 14 (nI (s.1 + 1)), ⟨rfl, fun a k z1 z2 => ?_⟩, ?_, by rw [mh b g σ hR hT hC, bIe (bz_0 (Or.inr rfl) e), if_neg (show ¬ (1 : Int32) = 0 by decide)]⟩
          · rw [gi_si, if_neg (by omega), gi_si, if_neg (by omega), gi_si, if_neg (by omega)]
          · refine ⟨?_, ?_, ?_, fun p hp => ?_, fun p hp => ⟨?_, ?_⟩⟩
            · rw [gi_si, if_neg (by omega), gi_si, if_neg (by omega), gi_si, if_pos ⟨rfl, rfl⟩]
            · rw [gi_si, if_neg (by omega), gi_si, if_neg (by omega), gi_si, if_neg (by omega)]
              exact hC.2.1
            · rw [gi_si, if_pos ⟨rfl, rfl⟩]
            · have hp : p < s.1 + 1 := hp
              show _ = nI (if p = s.1 then k else s.2.1 p)
              rw [gi_si, if_neg (by omega), gi_si]
              by_cases c3 : p = s.1
              · rw [if_pos ⟨rfl, c3⟩, if_pos c3]
              · rw [if_neg (by omega), if_neg c3, gi_si, if_neg (by omega)]
                exact hC.2.2.2.1 p (by omega)
            · rw [gi_si, if_neg (by omega), gi_si, if_neg (by omega), gi_si, if_neg (by omega)]
              exact (hC.2.2.2.2 p hp).1
            · rw [gi_si, if_neg (by omega), gi_si, if_neg (by omega), gi_si, if_neg (by omega)]
              exact (hC.2.2.2.2 p hp).2
    · by_cases e97 : f i = 97
      · exact rd_tiea hP ht hL hi hok e32 e97 kx hN (fun s1 q1 q2 => ih (i + 3) true s1 (by omega) q1 q2)
      · by_cases e103 : f i = 103
        · exact rd_tieg hP ht hL hi hok e32 e103 kx hN (fun s1 q1 q2 => ih (i + 3) true s1 (by omega) q1 q2)
        · refine ⟨nI i, s, hok, Or.inr ⟨i, by omega, rfl⟩, rXR_f (by omega) (fun g σ hR hT hC => ?_), rMR_f (by omega) (fun b g σ hR hT hC => ⟨σ, rFM_refl, ?_⟩)⟩
          · rw [x_head rfl hR ht hL hi hT, if_neg e32, bIe (kx N σ (by omega)), if_pos rfl, if_neg e97, if_neg e103]
          · rw [m_head rfl hR ht hL hi hT hC, if_neg e32, m_item hR ht hL hi hT hC, if_neg e97, if_neg e103, bIe (bz_0 (Or.inl rfl) (m_pers0 (N := N) hR ht hL hi hT hC km)), if_pos rfl, hC.1]
