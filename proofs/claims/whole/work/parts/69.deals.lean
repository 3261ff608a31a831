/-! ===== PURE: fractions; all deals ===== -/
theorem euc_half {k b c : Nat} (hb : b < 2 ^ (k + 1)) (hc : c < b) (h0 : 0 < c) : b % c < 2 ^ k := by
  rw [Nat.pow_succ] at hb
  by_cases q : c ≤ 2 ^ k
  · exact Nat.lt_of_lt_of_le (Nat.mod_lt _ h0) q
  · rw [Nat.mod_eq_sub_mod (by omega), Nat.mod_eq_of_lt (by omega)]
    omega
theorem gcd_step (a b : Nat) : Nat.gcd b (a % b) = Nat.gcd a b := by
  rw [Nat.gcd_comm a b, Nat.gcd_rec b a, Nat.gcd_comm]
theorem p_cd {N : Nat} {σ : Mm} : ∀ (k a b i f : Nat), a < 2147483648 → b < 2 ^ k → k ≤ 30 → i + 2 * k < 1000 → 2 * k < f → f_X5_commonDivisor_2 N f (nI a) (nI b) (nI i) σ = some (nI (Nat.gcd a b), σ) := by
  have e : (1000 : Int32) = nI 1000 := rfl
  have fin : ∀ (a i f : Nat), i < 1000 → 0 < f → f_X5_commonDivisor_2 N f (nI a) (nI 0) (nI i) σ = some (nI a, σ) := by
    intro a i f hi hf
    obtain ⟨f, rfl⟩ : ∃ g, f = g + 1 := ⟨f - 1, by omega⟩
    unfold f_X5_commonDivisor_2
    rw [e, if_neg (nI_ge hi (by omega)), if_pos (show nI 0 = 0 from rfl)]
  have stp : ∀ (a b i f : Nat), a < 2147483648 → b < 2147483648 → 0 < b → i < 1000 → f_X5_commonDivisor_2 N (f + 1) (nI a) (nI b) (nI i) σ = f_X5_commonDivisor_2 N f (nI b) (nI (a % b)) (nI (i + 1)) σ := by
    intro a b i f ha hb h0 hi
    rw [f_X5_commonDivisor_2]
    dsimp only
    rw [e, if_neg (nI_ge hi (by omega)), if_neg (nI_ne0 h0 (by omega)), if_neg (nI_ne0 h0 (by omega)), pk_rem (by omega) (by omega) (by omega), nI_1]
    rfl
  intro k
  induction k with
  | zero =>
    intro a b i f ha hb hk hi hf
    have : b = 0 := by simpa using hb
    subst this
    rw [fin a i f (by omega) (by omega), Nat.gcd_zero_right]
  | succ k ih =>
    intro a b i f ha hb hk hi hf
    have hb31 : b < 2147483648 := Nat.lt_of_lt_of_le hb (by
      calc 2 ^ (k + 1) ≤ 2 ^ 30 := Nat.pow_le_pow_right (by decide) hk
      _ ≤ 2147483648 := by decide)
    by_cases h0 : b = 0
    · subst h0
      rw [fin a i f (by omega) (by omega), Nat.gcd_zero_right]
    · obtain ⟨f, rfl⟩ : ∃ g, f = g + 1 := ⟨f - 1, by omega⟩
      have hc : a % b < b := Nat.mod_lt _ (by omega)
      rw [stp a b i f ha hb31 (by omega) (by omega), ← gcd_step a b]
      by_cases h1 : a % b = 0
      · rw [h1, fin b (i + 1) f (by omega) (by omega), Nat.gcd_zero_right]
      · obtain ⟨f, rfl⟩ : ∃ g, f = g + 1 := ⟨f - 1, by omega⟩
        rw [stp b (a % b) (i + 1) f hb31 (by omega) (by omega) (by omega), ← gcd_step b (a % b)]
        exact ih (a % b) (b % (a % b)) (i + 1 + 1) f (by omega) (euc_half hb hc (by omega)) (by omega) (by omega) (by omega)
theorem p_fracX {N u l : Nat} {σ : Mm} (hN : 100 ≤ N) (hu : u < 65536) (hl : l < 65536) (h0 : 0 < l) : f_X5_tellFraction N 0 (nI u) (nI l) σ = some (sl (sl σ 0 12 (lN (u / Nat.gcd u l))) 0 13 (lN (l / Nat.gcd u l))) := by
  have hg : 0 < Nat.gcd u l := Nat.gcd_pos_of_pos_right u h0
  have hg2 : Nat.gcd u l ≤ l := Nat.gcd_le_right u h0
  have d1 : u / Nat.gcd u l ≤ u := Nat.div_le_self _ _
  have d2 : l / Nat.gcd u l ≤ l := Nat.div_le_self _ _
  unfold f_X5_tellFraction f_X5_commonDivisor
  rw [if_pos OKx.1, bIe (show f_X5_commonDivisor_2 N N (nI u) (nI l) (0 : Int32) σ = _ from p_cd 16 u l 0 N (by omega) hl (by decide) (by decide) (by omega)), if_neg (nI_ne0 hg (by omega)), if_neg (nI_ne0 hg (by omega)), pk_div (by omega) hg (by omega), pk_div (by omega) hg (by omega), nI_l (by omega), nI_l (by omega)]
  simp only [lt]
  rw [if_neg (nI_ne0 hg (by omega))]
theorem p_frM {N u l : Nat} {σ : Mm} {A : Option (Int32 × Mm)} : ∀ (k a b f : Nat), a < 2147483648 → b < 2 ^ k → k ≤ 30 → 2 * k < f → (∀ f2, f_X6_fraction_5 N (f2 + 1) 66 (nI u) (nI l) (nI (Nat.gcd a b)) (nI 0) σ = A) → f_X6_fraction_5 N f 66 (nI u) (nI l) (nI a) (nI b) σ = A := by
  have stp : ∀ (a b f : Nat), a < 2147483648 → b < 2147483648 → 0 < b → f_X6_fraction_5 N (f + 1) 66 (nI u) (nI l) (nI a) (nI b) σ = f_X6_fraction_5 N f 66 (nI u) (nI l) (nI b) (nI (a % b)) σ := by
    intro a b f ha hb h0
    rw [f_X6_fraction_5]
    dsimp only
    rw [if_neg (nI_ne0 h0 (by omega)), if_neg (nI_ne0 h0 (by omega)), pk_rem (by omega) (by omega) (by omega)]
    rfl
  intro k
  induction k with
  | zero =>
    intro a b f ha hb hk hf hA
    have : b = 0 := by simpa using hb
    subst this
    obtain ⟨f, rfl⟩ : ∃ g, f = g + 1 := ⟨f - 1, by omega⟩
    rw [Nat.gcd_zero_right] at hA
    exact hA f
  | succ k ih =>
    intro a b f ha hb hk hf hA
    have hb31 : b < 2147483648 := Nat.lt_of_lt_of_le hb (by
      calc 2 ^ (k + 1) ≤ 2 ^ 30 := Nat.pow_le_pow_right (by decide) hk
      _ ≤ 2147483648 := by decide)
    obtain ⟨f, rfl⟩ : ∃ g, f = g + 1 := ⟨f - 1, by omega⟩
    by_cases h0 : b = 0
    · subst h0
      rw [Nat.gcd_zero_right] at hA
      exact hA f
    · have hc : a % b < b := Nat.mod_lt _ (by omega)
      obtain ⟨f, rfl⟩ : ∃ g, f = g + 1 := ⟨f - 1, by omega⟩
      rw [stp a b _ ha hb31 (by omega)]
      rw [← gcd_step a b] at hA
      by_cases h1 : a % b = 0
      · rw [h1, Nat.gcd_zero_right] at hA
        rw [h1]
        exact hA f
      · rw [stp b (a % b) f hb31 (by omega) (by omega)]
        rw [← gcd_step b (a % b)] at hA
        exact ih (a % b) (b % (a % b)) f (by omega) (euc_half hb hc (by omega)) (by omega) (by omega) hA
theorem p_fracM {N u l : Nat} {σ : Mm} (hN : 100 ≤ N) (hu : u < 65536) (hl : l < 65536) (h0 : 0 < l) : f_X6_fraction N 66 (nI u) (nI l) σ = some (1, sl (sl σ 66 3 (lN (u / Nat.gcd u l))) 66 4 (lN (l / Nat.gcd u l))) := by
  have hg : 0 < Nat.gcd u l := Nat.gcd_pos_of_pos_right u h0
  have hg2 : Nat.gcd u l ≤ l := Nat.gcd_le_right u h0
  have d1 : u / Nat.gcd u l ≤ u := Nat.div_le_self _ _
  have d2 : l / Nat.gcd u l ≤ l := Nat.div_le_self _ _
  unfold f_X6_fraction
  rw [if_pos OKx.2.1]
  refine p_frM 16 u l N (by omega) hl (by decide) (by omega) (fun f2 => ?_)
  unfold f_X6_fraction_5
  rw [if_pos (show nI 0 = 0 from rfl), if_neg (nI_ne0 hg (by omega)), pk_div (by omega) hg (by omega), pk_div (by omega) hg (by omega), nI_l (by omega), nI_l (by omega)]
  simp only [lt]
  rw [if_neg (nI_ne0 hg (by omega))]
/-- the places that the relation looks at -/
def core (a k : Nat) : Prop := a ≤ 12 ∨ (19 ≤ a ∧ a ≤ 34) ∨ (36 ≤ a ∧ a ≤ 65) ∨ (a = 66 ∧ (k = 0 ∨ k = 2 ∨ k = 10 ∨ k = 22)) ∨ (67 ≤ a ∧ a ≤ 69) ∨ (71 ≤ a ∧ a ≤ 74) ∨ a = 78 ∨ (81 ≤ a ∧ a ≤ 85)
theorem rel_core {b : Bool} {σ τ : Mm} (h : Rel b σ) (e : τ.2.2 = σ.2.2) (f : ∀ a k, core a k → gi τ a k = gi σ a k) (hl : gl τ 0 12 = gl τ 66 3 ∧ gl τ 0 13 = gl τ 66 4) : Rel b τ := by
  obtain ⟨h1, ⟨c1, c2, c3, c4, c5⟩, h3, h4, h5⟩ := h
  refine ⟨Rf_eq e h1, ⟨?_, fun q hq => ?_, ?_, hl.1, hl.2⟩, RelR_congr (σ := σ) (fun a k q => f a k (by unfold inR at q; unfold core; omega)) h3, RelT_congr (σ := σ) (fun a k q => f a k (by unfold inT at q; unfold core; omega)) h4, TW_congr (σ := σ) (fun a k q => f a k (by unfold inW at q; unfold core; omega)) h5⟩
  · rw [f 0 10 (by unfold core; omega), f 66 0 (by unfold core; omega)]; exact c1
  · rw [f 36 q (by unfold core; omega), f 67 q (by unfold core; omega)]; exact c2 q hq
  · rw [f 0 11 (by unfold core; omega), f 66 2 (by unfold core; omega)]; exact c3
theorem p_many {N n : Nat} {b : Bool} {σ : Mm} {al : Nat → Nat} (hN : 20 ≤ N) (hR : Rf b σ) (hs : gi σ 66 10 = nI n) (hn : n ≤ 6) (ha : ∀ p, p < n → gi σ 74 p = nI (al p) ∧ al p < 2 ^ n) : f_X6_dealMany N 66 σ = some (nI (4 ^ grps al n), σ) := by
  unfold f_X6_dealMany
  rw [if_pos OKx.2.1]
  refine loop (fun f i => f_X6_dealMany_4 N f 66 (nI (4 ^ grps al i)) (nI i) σ) _ n ?_ ?_ N 0 (by omega) (by omega)
  · intro f
    unfold f_X6_dealMany_4
    rw [hs, if_pos (nI_le (Nat.le_refl n) (by omega))]
  · intro f i hi A hA
    unfold f_X6_dealMany_4 f_X6_dealMany_26
    rw [hA, hs, if_neg (nI_ge hi (by omega)), bIe (p_isDA (N := N) hR hn ha hi), grps_s]
    simp only [lt]
    cases ldB al i with
    | true => rw [if_pos rfl, if_pos rfl, if_pos rfl, show (4 : Int32) = nI 4 from rfl, pk_mul, nI_1, Nat.pow_succ]
    | false => rw [if_neg Bool.false_ne_true, if_neg (show ¬ (1 : Int32) = 0 by decide), if_neg Bool.false_ne_true, show (1 : Int32) = nI 1 from rfl, pk_mul, nI_add, Nat.mul_one]; rfl
/-- a deal tried -/
def dlt (σ : Mm) (n : Nat) (al : Nat → Nat) (d : Nat) : Mm := blt (blt σ 79 0 14 (gi σ 78)) 79 0 n (fun p => nI (dlOf al d p))
theorem dlt_out {σ : Mm} {n d a k : Nat} {al : Nat → Nat} (h : a ≠ 79) : gi (dlt σ n al d) a k = gi σ a k := by
  unfold dlt
  rw [blt_out h, blt_out h]
theorem Rf_dlt {b : Bool} {σ : Mm} {n d : Nat} {al : Nat → Nat} (h : Rf b σ) : Rf b (dlt σ n al d) := h
theorem p_deals {N n d : Nat} {b : Bool} {σ : Mm} {al : Nat → Nat} (hN : 20 ≤ N) (hR : Rf b σ) (hs : gi σ 66 10 = nI n) (hn : n ≤ 6) (hal : okAl n al) (ha : ∀ p, p < n → gi σ 74 p = nI (al p)) (hd : d < 4096) : f_X6_deals N 66 (nI d) σ = some (dlt σ n al d) := by
  unfold f_X6_deals
  rw [if_pos OKx.2.1]
  have hR1 : Rf b (blt σ 79 0 14 (gi σ 78)) := hR
  have l2 : f_X6_deals_30 N N 66 (nI d) 0 (blt σ 79 0 14 (gi σ 78)) = some (dlt σ n al d) := by
    have z := loop (fun f p => f_X6_deals_30 N f 66 (nI (d / 4 ^ grps al p)) (nI p) (blt (blt σ 79 0 14 (gi σ 78)) 79 0 p (fun p => nI (dlOf al d p)))) (some (dlt σ n al d)) n ?_ ?_ N 0 (by omega) (by omega)
    · rw [blt_0, show grps al 0 = 0 from rfl, Nat.pow_zero, Nat.div_one] at z
      exact z
    · intro f
      unfold f_X6_deals_30
      rw [blt_out (by omega), blt_out (by omega), hs, if_pos (nI_le (Nat.le_refl n) (by omega))]
      rfl
    · intro f p hp A hA
      unfold f_X6_deals_30 f_X6_deals_83
      have q74 : ∀ q, q < n → gi (blt (blt σ 79 0 14 (gi σ 78)) 79 0 p (fun p => nI (dlOf al d p))) 74 q = nI (al q) ∧ al q < 2 ^ n := fun q hq => ⟨by rw [blt_out (by omega), blt_out (by omega)]; exact ha q hq, (hal.1 q hq).1⟩
      have a3 := (ldr_spec (hal.1 p hp).2).2.2
      have dl : d / 4 ^ grps al p < 4096 := Nat.lt_of_le_of_lt (Nat.div_le_self _ _) hd
      rw [blt_out (by omega), blt_out (by omega), hs, if_neg (nI_ge hp (by omega)), bIe (p_isDA (N := N) (Rf_blt hR1) hn q74 hp), hA, show (4 : Int32) = nI 4 from rfl]
      cases hl : ldB al p with
      | true =>
        have e : ldr al p = p := (ldB_iff hal hp).mp hl
        have e2 : grp al p = grps al p := by unfold grp; rw [e]
        rw [if_pos rfl, if_pos rfl, pk_rem (by omega) (by omega) (by omega), pk_div (by omega) (by omega) (by omega)]
        simp (disch := omega) only [↓reduceIte, ↓BR (Rf_blt hR1), OKm, inbT, ix_nI, lt, nI_1]
        rw [grps_s, hl, if_pos rfl, Nat.div_div_eq_div_mul, ← Nat.pow_succ, show nI (d / 4 ^ grps al p % 4) = (fun p => nI (dlOf al d p)) p by show _ = nI (d / 4 ^ grp al p % 4); rw [e2], blt_s0]
      | false =>
        have e : ldr al p < p := by
          have : ¬ ldr al p = p := fun q => by rw [(ldB_iff hal hp).mpr q] at hl; exact Bool.noConfusion hl
          omega
        have e2 : grp al (ldr al p) = grp al p := grp_same (ldr_idem hal hp)
        have q79 : gi (blt (blt σ 79 0 14 (gi σ 78)) 79 0 p (fun p => nI (dlOf al d p))) 79 (ldr al p) = nI (dlOf al d p) := by rw [blt_in e]; unfold dlOf; rw [e2]
        rw [if_neg Bool.false_ne_true, if_neg (show ¬ (1 : Int32) = 0 by decide)]
        simp (disch := omega) only [↓reduceIte, ↓BR (Rf_blt hR1), OKm, inbT, ix_nI, (q74 p hp).1]
        rw [bIe (p_first (N := N) (by omega) hn hal hp)]
        simp (disch := omega) only [↓reduceIte, inbT, ix_nI, q79, lt, nI_1]
        rw [grps_s, hl, if_neg Bool.false_ne_true, show nI (dlOf al d p) = (fun p => nI (dlOf al d p)) p from rfl, blt_s0]
        rfl
  have z := loop (fun f i => f_X6_deals_4 N f 66 (nI d) (nI i) (blt σ 79 0 i (gi σ 78))) (some (dlt σ n al d)) 14 ?_ ?_ N 0 (by omega) (by omega)
  · rw [blt_0] at z
    exact z
  · intro f
    unfold f_X6_deals_4
    rw [show (14 : Int32) = nI 14 from rfl, if_pos (nI_le (Nat.le_refl 14) (by decide))]
    exact l2
  · intro f i hi A hA
    unfold f_X6_deals_4
    have g78 : gi (blt σ 79 0 i (gi σ 78)) 78 i = gi σ 78 i := blt_out (by omega)
    rw [hA, show (14 : Int32) = nI 14 from rfl, if_neg (nI_ge hi (by omega))]
    simp (disch := omega) only [↓reduceIte, ↓BR (Rf_blt hR), OKm, inbT, ix_nI, lt, nI_1, g78]
    rw [blt_s0]
theorem dlOf_lt {al : Nat → Nat} {d p : Nat} : dlOf al d p < 4 := Nat.mod_lt _ (by decide)
theorem dlt_MS {σ : Mm} {n d : Nat} {kd al : Nat → Nat} {y : Dy} (h : MS σ 78 n kd y) : MS (dlt σ n al d) 79 n kd (dlOf al d, y.2.1, y.2.2.1, y.2.2.2) := by
  obtain ⟨h1, h2, h3, h4, h5, h6, h7, h8⟩ := h
  refine ⟨by rw [dlt_out (by omega)]; exact h1, fun p hp => by rw [dlt_out (by omega)]; exact h2 p hp, ⟨fun p hp => ⟨?_, ?_⟩, ?_, ?_⟩, h4, h5, fun p hp => dlOf_lt, h7, Or.inr rfl⟩
  · unfold dlt; rw [blt_in hp]
  · unfold dlt; rw [gi_blt, if_neg (by omega), blt_in (by omega)]; exact (h3.1 p hp).2
  · unfold dlt; rw [gi_blt, if_neg (by omega), blt_in (by omega)]; exact h3.2.1
  · unfold dlt; rw [gi_blt, if_neg (by omega), blt_in (by omega)]; exact h3.2.2
theorem pow4_le {G : Nat} (h : G ≤ 6) : 4 ^ G ≤ 4096 := by
  calc 4 ^ G ≤ 4 ^ 6 := Nat.pow_le_pow_right (by decide) h
  _ = 4096 := by decide
theorem p_dealsX {N P n : Nat} {σ : Mm} {al : Nat → Nat} (hP : P = 19 ∨ P = 27) (hg : gi σ P 7 = nI (grps al n)) (hn : n ≤ 6) : f_X2_deals N P σ = some (nI (4 ^ grps al n), σ) := by
  have := grps_le al n
  unfold f_X2_deals
  rw [if_pos (ok_p hP).1, hg, show (2 : Int32) = nI 2 from rfl, pk_mul, shl1 _ (by omega), Nat.pow_mul]
