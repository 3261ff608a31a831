/-! ===== PURE: bits; needs, crew, crier ===== -/
def bcE (v0 : Int32) : Int32 := (fun x1 : Int32 => (fun x2 : Int32 => (fun x3 : Int32 => (fun x4 : Int32 => (fun x5 : Int32 => x5 &&& (63 : Int32)) (x4 + ((x4.toUInt32 >>> ((16 : Int32).toUInt32 &&& Int32.toUInt32 31)).toInt32))) (x3 + ((x3.toUInt32 >>> ((8 : Int32).toUInt32 &&& Int32.toUInt32 31)).toInt32))) ((x2 + ((x2.toUInt32 >>> ((4 : Int32).toUInt32 &&& Int32.toUInt32 31)).toInt32)) &&& (252645135 : Int32))) ((x1 &&& (858993459 : Int32)) + (((x1.toUInt32 >>> ((2 : Int32).toUInt32 &&& Int32.toUInt32 31)).toInt32) &&& (858993459 : Int32)))) (v0 - (((v0.toUInt32 >>> ((1 : Int32).toUInt32 &&& Int32.toUInt32 31)).toInt32) &&& (1431655765 : Int32)))
theorem bcE6 : ∀ S : Nat, S < 64 → bcE (nI S) = nI (pc 6 S) := by decide +kernel
theorem p_bitC {N S : Nat} {σ : Mm} (h : S < 64) : f_J6_bitCount_0f7a4 N (nI S) σ = some (nI (pc 6 S), σ) := by
  have : f_J6_bitCount_0f7a4 N (nI S) σ = some (bcE (nI S), σ) := rfl
  rw [this, bcE6 S h]
theorem low6 : ∀ S : Nat, S < 64 → S ≠ 0 → pc 6 (S &&& (S - 1)) + 1 = pc 6 S := by decide +kernel
theorem pc6_le {S : Nat} : pc 6 S ≤ 6 := fb_ct_le _ 6
theorem p_bits {N S : Nat} {σ : Mm} (hN : 20 ≤ N) (h : S < 64) : f_X6_bits N (nI S) σ = some (nI (pc 6 S), σ) := by
  have key : ∀ (k c S : Nat), S < 64 → pc 6 S < k → f_X6_bits_4 N k (nI c) (nI S) σ = some (nI (c + pc 6 S), σ) := by
    intro k
    induction k with
    | zero => intro c S _ h; omega
    | succ k ih =>
      intro c S hS hk
      unfold f_X6_bits_4
      by_cases e : S = 0
      · subst e
        rfl
      · have h1 := low6 S hS e
        have h2 : (S &&& (S - 1)) < 64 := Nat.lt_of_le_of_lt Nat.and_le_left hS
        rw [if_neg (show ¬ nI S = 0 from fun q => e ((nI_eq (by omega) (by omega)).mp (show nI S = nI 0 from q))), show (1 : Int32) = nI 1 from rfl, nI_subT (by omega), nI_and, nI_add]
        show f_X6_bits_4 N k (nI (c + 1)) (nI (S &&& (S - 1))) σ = _
        rw [ih _ _ h2 (by omega)]
        congr 3
        omega
  unfold f_X6_bits
  have := key N 0 S h (by have := pc6_le (S := S); omega)
  rw [Nat.zero_add] at this
  exact this
theorem LV_sub {T : Nat → Nat} {n p M M2 : Nat} (h : ∀ m, m < n → M.testBit m = true → M2.testBit m = true) : ∀ k q, (LV T n p M k).testBit q = true → (LV T n p M2 k).testBit q = true
  | 0, q, hq => hq
  | k + 1, q, hq => by
    rcases stepM_tb.mp hq with g | ⟨m, g1, g2, g3, g4⟩
    · exact stepM_tb.mpr (Or.inl (LV_sub h k q g))
    · exact stepM_tb.mpr (Or.inr ⟨m, g1, LV_sub h k m g2, g3.imp id (h m g1), g4⟩)
/-- whether the end itself passes it on doesn't matter -/
theorem LV_end {T : Nat → Nat} {n p q M M2 : Nat} (h : ∀ m, m < n → m ≠ p → m ≠ q → M.testBit m = M2.testBit m) : ∀ k, (LV T n p M k).testBit q = (LV T n p M2 k).testBit q := by
  have key : ∀ k, ((LV T n p M k).testBit q = true ∧ (LV T n p M2 k).testBit q = true) ∨ ((LV T n p M k).testBit q = false ∧ LV T n p M k = LV T n p M2 k) := by
    intro k
    induction k with
    | zero =>
      cases e : (LV T n p M 0).testBit q with
      | true => exact Or.inl ⟨rfl, e⟩
      | false => exact Or.inr ⟨rfl, rfl⟩
    | succ k ih =>
      rcases ih with ⟨h1, h2⟩ | ⟨h1, h2⟩
      · exact Or.inl ⟨LV_mono h1, LV_mono h2⟩
      · have e : LV T n p M (k + 1) = LV T n p M2 (k + 1) := by
          show stepM T n p M (LV T n p M k) = stepM T n p M2 (LV T n p M2 k)
          rw [← h2]
          apply Nat.eq_of_testBit_eq
          intro x
          rw [Bool.eq_iff_iff, stepM_tb, stepM_tb]
          have hm : ∀ m, m < n → (LV T n p M k).testBit m = true → ((m = p ∨ M.testBit m = true) ↔ (m = p ∨ M2.testBit m = true)) := fun m hm hl => by
            by_cases c : m = p
            · simp [c]
            · have : m ≠ q := fun e => by rw [e, h1] at hl; cases hl
              rw [h m hm c this]
          constructor
          · rintro (g | ⟨m, g1, g2, g3, g4⟩)
            · exact Or.inl g
            · exact Or.inr ⟨m, g1, g2, (hm m g1 g2).mp g3, g4⟩
          · rintro (g | ⟨m, g1, g2, g3, g4⟩)
            · exact Or.inl g
            · exact Or.inr ⟨m, g1, g2, (hm m g1 g2).mpr g3, g4⟩
        cases e2 : (LV T n p M (k + 1)).testBit q with
        | true => exact Or.inl ⟨rfl, by rw [← e]; exact e2⟩
        | false => exact Or.inr ⟨rfl, e⟩
  intro k
  rcases key k with ⟨h1, h2⟩ | ⟨h1, h2⟩
  · rw [h1, h2]
  · rw [← h2]
theorem anb_tb {a b q : Nat} (h : q < 6) : (anb a b).testBit q = (a.testBit q && !b.testBit q) := by
  unfold anb
  rw [msk_tb]
  simp [h]
/-- those without whom it doesn't go -/
def ndB (T : Nat → Nat) (n p q m : Nat) : Bool := decide (m ≠ p) && (decide (m ≠ q) && !(LV T n p (anb (2 ^ n - 1) (2 ^ m)) 6).testBit q)
theorem p_needsM_l {N n p q : Nat} {b : Bool} {σ : Mm} {T : Nat → Nat} (hN : 20 ≤ N) (hR : Rf b σ) (h : GM σ n T) (hp : p < n) (hq : q < n) (hpq : p ≠ q) : ∀ (k i : Nat), i ≤ n → n - i < k → f_X6_needs_24 N k 66 (nI p) (nI q) (nI (msk (ndB T n p q) i)) (nI i) σ = some (nI (msk (ndB T n p q) n), si σ 66 2 (if (LV T n p 63 6).testBit q then 1 else 0)) := by
  have h0 := h
  obtain ⟨h1, h2, h3, h4⟩ := h0
  have h6 := pow6 h3
  intro k
  induction k with
  | zero => intro i _ h; omega
  | succ k ih =>
    intro i hi hk
    unfold f_X6_needs_24
    rw [h1]
    by_cases e : i = n
    · subst e
      have l1 := LV_lt (M := 63) h4 hp (i - 1)
      simp (disch := omega) only [↓reduceIte, leT]
      rw [bIe (p_everyM (N := N) h1 h3), bIe (p_reaches hN hR h hp (show 2 ^ i - 1 < 64 by omega)), LV_all h3, bIe (p_has (N := N) (S := LV T i p 63 (i - 1)) (j := q) (by omega) (by omega)), LV_stable h4 hp (j := 6) (by omega)]
      unfold f_X6_needs_107
      cases (LV T i p 63 (i - 1)).testBit q with
      | true =>
        rw [if_pos rfl, if_neg (show ¬ (1 : Int32) = 0 by decide), bIe (p_gives (N := N) hR)]
      | false =>
        simp only [Bool.false_eq_true, ↓reduceIte]
        rw [bIe (p_gives (N := N) hR)]
    · have hin : i < n := by omega
      have hms : ∀ c : Bool, ndB T n p q i = c → msk (ndB T n p q) (i + 1) = msk (ndB T n p q) i ||| (if c then 2 ^ i else 0) := fun c hc => by
        show _ ||| (if ndB T n p q i then 2 ^ i else 0) = _
        rw [hc]
      have e77 : ∀ z : Nat, msk (ndB T n p q) (i + 1) = msk (ndB T n p q) i ||| z → f_X6_needs_77 N (f_X6_needs_24 N k) 66 (nI p) (nI q) (nI i) (nI z) (nI (msk (ndB T n p q) i)) σ = some (nI (msk (ndB T n p q) n), si σ 66 2 (if (LV T n p 63 6).testBit q then 1 else 0)) := fun z hz => by
        unfold f_X6_needs_77
        simp only [lt, nI_or, nI_1]
        rw [← hz]
        exact ih (i + 1) (by omega) (by omega)
      have e76 : ndB T n p q i = false → f_X6_needs_76 N (f_X6_needs_24 N k) 66 (nI p) (nI q) (nI i) (nI (msk (ndB T n p q) i)) σ = some (nI (msk (ndB T n p q) n), si σ 66 2 (if (LV T n p 63 6).testBit q then 1 else 0)) := fun hc => by
        unfold f_X6_needs_76
        exact e77 0 (hms false hc)
      simp (disch := omega) only [↓reduceIte, leF]
      by_cases c1 : i = p
      · rw [if_pos (by rw [c1])]
        exact e76 (by unfold ndB; simp [c1])
      · rw [if_neg (fun q => c1 ((nI_eq (by omega) (by omega)).mp q))]
        by_cases c2 : i = q
        · rw [if_pos (by rw [c2])]
          exact e76 (by unfold ndB; simp [c2])
        · have p2 : 2 ^ i < 64 := Nat.lt_of_lt_of_le (Nat.pow_lt_pow_right (by decide) hin) h6
          have l1 := LV_lt (M := anb (2 ^ n - 1) (2 ^ i)) h4 hp (n - 1)
          rw [if_neg (fun z => c2 ((nI_eq (by omega) (by omega)).mp z)), bIe (p_everyM (N := N) h1 h3), shl1 _ (by omega), andnot6 _ (by omega) _ p2, bIe (p_reaches hN hR h hp anb_lt), bIe (p_has (N := N) (S := LV T n p (anb (2 ^ n - 1) (2 ^ i)) (n - 1)) (j := q) (by omega) (by omega))]
          have hst := LV_stable (M := anb (2 ^ n - 1) (2 ^ i)) h4 hp (j := 6) (by omega)
          cases c3 : (LV T n p (anb (2 ^ n - 1) (2 ^ i)) (n - 1)).testBit q with
          | true =>
            rw [if_pos rfl, if_neg (show ¬ (1 : Int32) = 0 by decide)]
            exact e76 (by unfold ndB; rw [hst, c3]; simp)
          | false =>
            simp only [Bool.false_eq_true, ↓reduceIte]
            exact e77 (2 ^ i) (hms true (by unfold ndB; rw [hst, c3]; simp [c1, c2]))
theorem p_needsX_l {N n p q oth : Nat} {b : Bool} {σ : Mm} {T : Nat → Nat} (hN : 20 ≤ N) (hR : Rf b σ) (hs : gi σ (pl b) 8 = nI n) (h : GX σ 7 n T) (hp : p < n) (hq : q < n) (ho : oth < 64) (hob : ∀ m, m < n → oth.testBit m = (decide (m ≠ p) && decide (m ≠ q))) : ∀ (k i : Nat), i ≤ n → n - i < k → f_X5_needs_60 N k 0 (nI p) (nI q) (nI oth) (nI (msk (ndB T n p q) i)) (nI i) σ = some (nI (msk (ndB T n p q) n), σ) := by
  have h0 := h
  obtain ⟨h1, h2, h3, h4, h5⟩ := h0
  have h6 := pow6 h3
  have hP := pl_cases b
  intro k
  induction k with
  | zero => intro i _ h; omega
  | succ k ih =>
    intro i hi hk
    unfold f_X5_needs_60
    rw [BRpl hR, if_pos (ok_p hP).1, hs]
    by_cases e : i = n
    · subst e
      simp (disch := omega) only [↓reduceIte, leT]
    · have hin : i < n := by omega
      have hms : ∀ c : Bool, ndB T n p q i = c → msk (ndB T n p q) (i + 1) = msk (ndB T n p q) i ||| (if c then 2 ^ i else 0) := fun c hc => by
        show _ ||| (if ndB T n p q i then 2 ^ i else 0) = _
        rw [hc]
      have e110 : ∀ z : Nat, msk (ndB T n p q) (i + 1) = z → f_X5_needs_110 N (f_X5_needs_60 N k) 0 (nI p) (nI q) (nI oth) (nI z) (nI i) σ = some (nI (msk (ndB T n p q) n), σ) := fun z hz => by
        unfold f_X5_needs_110
        rw [← hz, nI_1]
        exact ih (i + 1) (by omega) (by omega)
      simp (disch := omega) only [↓reduceIte, leF, ↓bIe (p_holds (N := N) (σ := σ) (S := oth) (j := i) ho (by omega))]
      cases c : oth.testBit i with
      | false =>
        simp only [Bool.false_eq_true, ↓reduceIte]
        refine e110 _ ?_
        rw [hms false, if_neg (by decide), Nat.or_zero]
        unfold ndB
        rw [hob i hin] at c
        rw [← Bool.and_assoc, c, Bool.false_and]
      | true =>
        have p2 : 2 ^ i < 64 := Nat.lt_of_lt_of_le (Nat.pow_lt_pow_right (by decide) hin) h6
        rw [if_pos rfl, if_neg (show ¬ (1 : Int32) = 0 by decide)]
        simp only [↓reduceIte, ↓BR hR, OKx]
        rw [shl1 _ (by omega), andnot6 _ ho _ p2, bIe (p_goes hN hR h hp hq anb_lt)]
        have hend : (LV T n p (anb oth (2 ^ i)) 6).testBit q = (LV T n p (anb (2 ^ n - 1) (2 ^ i)) 6).testBit q := LV_end (fun m hm g1 g2 => by
          rw [anb_tb (by omega), anb_tb (by omega), full_tb hm, hob m hm]
          simp [g1, g2]) 6
        have hc := c
        rw [hob i hin] at hc
        rw [hend]
        cases c3 : (LV T n p (anb (2 ^ n - 1) (2 ^ i)) 6).testBit q with
        | true =>
          rw [if_pos rfl, if_neg (show ¬ (1 : Int32) = 0 by decide)]
          refine e110 _ ?_
          rw [hms false, if_neg (by decide), Nat.or_zero]
          unfold ndB
          rw [c3]
          simp
        | false =>
          simp only [Bool.false_eq_true, ↓reduceIte, lt, nI_or]
          refine e110 _ ?_
          rw [hms true, if_pos rfl]
          unfold ndB
          rw [← Bool.and_assoc, hc, c3]
          rfl
theorem swap80 {σ : Mm} {n : Nat} {g : Nat → Int32} {v : Int32} : si (si (blt σ 80 0 n g) 0 11 v) 66 2 v = si (blt (si σ 0 11 v) 80 0 n g) 66 2 v := by
  refine mm_ext (fun a k => ?_) rfl
  simp only [gi_si, gi_blt]
  by_cases c1 : a = 66 ∧ k = 2
  · rw [if_pos c1, if_pos c1]
  · rw [if_neg c1, if_neg c1]
    by_cases c2 : a = 0 ∧ k = 11
    · rw [if_pos c2, if_neg (by omega), if_pos c2]
    · rw [if_neg c2, if_neg c2]
theorem s_needs {N : Nat} (hN : 20 ≤ N) (x y : Int32) : Sim (f_X5_needs N 0 x y) (f_X6_needs N 66 x y) := by
  intro b σ h
  have hR := h.1
  obtain ⟨n, kd, al, sg, ds, kp, w1, w2, w3⟩ := h.2.2.2.2
  have hs := w2.1.1
  have hn := w1.1
  have hP := pl_cases b
  have h6 := pow6 hn
  rcases arg_two x y hn with q | ⟨p, q, hp, hq, hpq, rfl, rfl⟩
  · refine ⟨-1, σ, σ, b, ?_, ?_, h⟩
    · unfold f_X5_needs
      rw [if_pos OKx.1, bIe (two_x0 (N := N) hR hs hn q)]
      rfl
    · unfold f_X6_needs
      rw [if_pos OKx.2.1, bIe (two_m0 (N := N) w3.1 hn q)]
      rfl
  · have hm := TW_MS (b := b) w1 w3
    have hg := YX_GX hn (Or.inl rfl) w2.2.1
    generalize hT : te n kd (rep al sg ds).1 (rep al sg ds).2.1 (rep al sg ds).2.2.2 = T at hg
    have pp : 2 ^ p < 64 := Nat.lt_of_lt_of_le (Nat.pow_lt_pow_right (by decide) hp) h6
    have pq : 2 ^ q < 64 := Nat.lt_of_lt_of_le (Nat.pow_lt_pow_right (by decide) hq) h6
    have por : 2 ^ p ||| 2 ^ q < 64 := Nat.or_lt_two_pow (n := 6) pp pq
    have hob : ∀ m, m < n → (anb (2 ^ n - 1) (2 ^ p ||| 2 ^ q)).testBit m = (decide (m ≠ p) && decide (m ≠ q)) := fun m hm => by
      rw [anb_tb (by omega), full_tb hm, Nat.testBit_or, tb_pow, tb_pow]
      by_cases c1 : p = m <;> by_cases c2 : q = m <;> simp [c1, c2, eq_comm]
    have hgo : (LV T n p (anb (2 ^ n - 1) (2 ^ p ||| 2 ^ q)) 6).testBit q = (LV T n p 63 6).testBit q := LV_end (fun m hm g1 g2 => by rw [hob m hm, tb63 (by omega)]; simp [g1, g2]) 6
    have hoth : (LV T n p 63 6).testBit q = false → msk (ndB T n p q) n = anb (2 ^ n - 1) (2 ^ p ||| 2 ^ q) := fun hz => by
      symm
      apply eq_msk
      · apply Nat.lt_pow_two_of_testBit
        intro i hi
        unfold anb
        rw [msk_tb, Nat.testBit_two_pow_sub_one]
        have : ¬ i < n := by omega
        simp [this]
      · intro m hm
        rw [hob m hm]
        unfold ndB
        have : (LV T n p (anb (2 ^ n - 1) (2 ^ m)) 6).testBit q = false := by
          cases c : (LV T n p (anb (2 ^ n - 1) (2 ^ m)) 6).testBit q with
          | false => rfl
          | true =>
            have := LV_sub (M2 := 63) (fun m2 hm2 _ => tb63 (by omega)) 6 q c
            rw [hz] at this
            cases this
        rw [this]
        simp
    refine ⟨nI (msk (ndB T n p q) n), si σ 0 11 (if (LV T n p 63 6).testBit q then 1 else 0), si (blt (si σ 0 11 (if (LV T n p 63 6).testBit q then 1 else 0)) 80 0 n (fun m => nI (T m))) 66 2 (if (LV T n p 63 6).testBit q then 1 else 0), b, ?_, ?_, ?_⟩
    · unfold f_X5_needs
      rw [if_pos OKx.1, bIe (two_x1 (N := N) hR hs hn hp hq hpq), if_neg (show ¬ (1 : Int32) = 0 by decide), BRpl hR, if_pos (ok_p hP).1, bIe (p_everyX (N := N) hP hs hn), shl1 _ (by omega), shl1 _ (by omega), nI_or, andnot6 _ (by omega) _ por]
      simp only [↓reduceIte, ↓lt, ↓BR hR, OKx]
      rw [bIe (p_goes hN hR hg hp hq anb_lt), hgo]
      cases c : (LV T n p 63 6).testBit q with
      | false =>
        simp only [Bool.false_eq_true, ↓reduceIte, lt]
        rw [hoth c]
      | true =>
        rw [if_pos rfl, if_neg (show ¬ (1 : Int32) = 0 by decide)]
        have hg1 : GX (si σ 0 11 1) 7 n T := ⟨by rw [gi_si, if_neg (by omega)]; exact hg.1, fun m hm => by rw [gi_si, if_neg (by omega)]; exact hg.2.1 m hm, hg.2.2⟩
        have hs1 : gi (si σ 0 11 1) (pl b) 8 = nI n := by rw [gi_si, if_neg (by omega)]; exact hs
        exact p_needsX_l hN (Rf_si hR) hs1 hg1 hp hq anb_lt hob N 0 (by omega) (by omega)
    · unfold f_X6_needs
      have hR1 : Rf b (si σ 0 11 (if (LV T n p 63 6).testBit q then 1 else 0)) := hR
      have hm1 : MS (si σ 0 11 (if (LV T n p 63 6).testBit q then 1 else 0)) 78 n kd (rep al sg ds) := MS_congr (σ := σ) (fun a k z => by rw [gi_si, if_neg (by omega)]) hm
      rw [if_pos OKx.2.1, bIe (two_m1 (N := N) hm1.1 hn hp hq hpq), if_neg (show ¬ (1 : Int32) = 0 by decide)]
      simp only [↓reduceIte, ↓BR hR1, OKm]
      have hgm := GM_lay hm1
      rw [bVe (pm_layTells hN hR1 hm1)]
      rw [hT] at hgm ⊢
      exact p_needsM_l hN (Rf_blt hR1) hgm hp hq hpq N 0 (by omega) (by omega)
    · have h1 := rel_asked (rel_lay80 h n (fun m => nI (T m))) (if (LV T n p 63 6).testBit q then 1 else 0)
      rw [swap80] at h1
      exact h1
