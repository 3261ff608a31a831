/-! ===== PURE: rule ===== -/
def folB (w a c S : Nat) : Bool := if w = 0 then decide (c = a) else if w = 1 then decide (c = (a + 1) % 4) else if w = 2 then decide (c ≠ a) else !S.testBit c
def byB (w a c d : Nat) : Bool := if w = 0 then decide (a = c) else if w = 1 then decide (1 < d) || decide (c = (a + 1) % 4) else if w = 2 then decide (1 < d) || decide (a ≠ c) else decide (a ≠ c)
theorem ite10 {c : Prop} [Decidable c] {σ : Mm} : (if c then some ((1 : Int32), σ) else some (0, σ)) = some (if decide c = true then 1 else 0, σ) := by
  by_cases h : c
  · rw [if_pos h, decide_eq_true h]; rfl
  · rw [if_neg h, decide_eq_false h]; rfl
theorem ite01 {c : Prop} [Decidable c] {σ : Mm} : (if c then some ((0 : Int32), σ) else some (1, σ)) = some (if decide (¬ c) = true then 1 else 0, σ) := by
  by_cases h : c
  · rw [if_pos h, decide_eq_false (by simp [h])]; rfl
  · rw [if_neg h, decide_eq_true h]; rfl
theorem nI_dec {a c : Nat} (ha : a < 100) (hc : c < 100) : (nI a = nI c) = (a = c) := propext (nI_eq (by omega) (by omega))
theorem p_fol {N w a c S : Nat} {σ : Mm} (hw : w < 4) (ha : a < 4) (hc : c < 4) (hS : S < 64) : f_X3_follows N (nI a) (nI c) (nI S) (nI w) σ = some (if folB w a c S then 1 else 0, σ) := by
  unfold f_X3_follows
  rcases (show w = 0 ∨ w = 1 ∨ w = 2 ∨ w = 3 by omega) with rfl | rfl | rfl | rfl
  · show _ = some (if decide (c = a) = true then 1 else 0, σ)
    rw [if_pos (by rfl), ite10]
    simp only [nI_dec (show c < 100 by omega) (show a < 100 by omega)]
  · show _ = some (if decide (c = (a + 1) % 4) = true then 1 else 0, σ)
    rw [if_neg (by decide), if_pos (by rfl), nI_1, show (4 : Int32) = nI 4 from rfl, pk_rem (by omega) (by omega) (by omega), ite10]
    simp only [nI_dec (show c < 100 by omega) (show (a + 1) % 4 < 100 by omega)]
  · show _ = some (if decide (c ≠ a) = true then 1 else 0, σ)
    rw [if_neg (by decide), if_neg (by decide), if_pos (by rfl), ite01]
    simp only [nI_dec (show c < 100 by omega) (show a < 100 by omega)]
  · show _ = some (if (!S.testBit c) = true then 1 else 0, σ)
    rw [if_neg (by decide), if_neg (by decide), if_neg (by decide), bIe (p_holds (N := N) hS (show c < 6 by omega)), if10]
    cases S.testBit c <;> rfl
theorem p_isBy {N w a c d : Nat} {σ : Mm} (hw : w < 4) (ha : a < 4) (hc : c < 4) (hd : d < 100) : f_X6_isBy N 66 (nI w) (nI a) (nI c) (nI d) σ = some (if byB w a c d then 1 else 0, σ) := by
  unfold f_X6_isBy f_X6_isBy_54 f_X6_isBy_71
  rw [if_pos OKx.2.1]
  rcases (show w = 0 ∨ w = 1 ∨ w = 2 ∨ w = 3 by omega) with rfl | rfl | rfl | rfl
  · show _ = some (if decide (a = c) = true then 1 else 0, σ)
    rw [if_pos (by rfl), ite10]
    simp only [nI_dec (show a < 100 by omega) (show c < 100 by omega)]
  · show _ = some (if (decide (1 < d) || decide (c = (a + 1) % 4)) = true then 1 else 0, σ)
    rw [if_neg (by decide), if_pos (by rfl), nI_1, show (4 : Int32) = nI 4 from rfl, pk_rem (by omega) (by omega) (by omega), ite10]
    simp only [nI_dec (show c < 100 by omega) (show (a + 1) % 4 < 100 by omega)]
    by_cases q : 1 < d
    · rw [if_pos (show (1 : Int32) < nI d from nI_lt (a := 1) q (by omega)), decide_eq_true q]; rfl
    · rw [if_neg (show ¬ (1 : Int32) < nI d from nI_nlt (a := 1) (b := d) (by omega) (by omega)), decide_eq_false q, Bool.false_or]
  · show _ = some (if (decide (1 < d) || decide (a ≠ c)) = true then 1 else 0, σ)
    rw [if_neg (by decide), if_neg (by decide), if_pos (by rfl), ite01]
    simp only [nI_dec (show a < 100 by omega) (show c < 100 by omega)]
    by_cases q : 1 < d
    · rw [if_pos (show (1 : Int32) < nI d from nI_lt (a := 1) q (by omega)), decide_eq_true q]; rfl
    · rw [if_neg (show ¬ (1 : Int32) < nI d from nI_nlt (a := 1) (b := d) (by omega) (by omega)), decide_eq_false q, Bool.false_or]
  · show _ = some (if decide (a ≠ c) = true then 1 else 0, σ)
    rw [if_neg (by decide), if_neg (by decide), if_neg (by decide), ite01]
    simp only [nI_dec (show a < 100 by omega) (show c < 100 by omega)]
def seen (t : Nat → Nat) (m : Nat) : Nat := un (fun j => 2 ^ t j) m
theorem seen_lt {t : Nat → Nat} {k : Nat} (ht : ∀ m, m < k → t m < 4) {m : Nat} (hm : m ≤ k) : seen t m < 16 := un_lt (k := 4) m (fun j hj => pow4 (ht j (by omega)))
def obX (w : Nat) (t : Nat → Nat) (k : Nat) : Bool := allb (fun m => decide (m = 0) || folB w (t (m - 1)) (t m) (seen t m)) k
def obM (w : Nat) (t : Nat → Nat) (k : Nat) : Bool := allb (fun a => allb (fun e => byB w (t a) (t (a + 1 + e)) (e + 1)) (k - (a + 1))) k
theorem ob_eq {w k : Nat} {t : Nat → Nat} (hw : w < 4) : obX w t k = obM w t k := by
  rw [Bool.eq_iff_iff]
  unfold obX obM
  rw [allb_iff, allb_iff]
  have hM : (∀ a, a < k → allb (fun e => byB w (t a) (t (a + 1 + e)) (e + 1)) (k - (a + 1)) = true) ↔ ∀ a c, a < c → c < k → byB w (t a) (t c) (c - a) = true := by
    constructor
    · intro h a c h1 h2
      have := allb_iff.mp (h a (by omega)) (c - (a + 1)) (by omega)
      rw [show a + 1 + (c - (a + 1)) = c by omega, show c - (a + 1) + 1 = c - a by omega] at this
      exact this
    · intro h a ha
      refine allb_iff.mpr (fun e he => ?_)
      have := h a (a + 1 + e) (by omega) (by omega)
      rw [show a + 1 + e - a = e + 1 by omega] at this
      exact this
  have hX : (∀ m, m < k → (decide (m = 0) || folB w (t (m - 1)) (t m) (seen t m)) = true) ↔ ∀ m, m + 1 < k → folB w (t m) (t (m + 1)) (seen t (m + 1)) = true := by
    constructor
    · intro h m hm
      have := h (m + 1) hm
      rw [decide_eq_false (by omega), Bool.false_or] at this
      exact this
    · intro h m hm
      cases m with
      | zero => rfl
      | succ m =>
        show (_ || folB w (t m) (t (m + 1)) (seen t (m + 1))) = true
        rw [h m hm, Bool.or_true]
  rw [hM, hX]
  rcases (show w = 0 ∨ w = 1 ∨ w = 2 ∨ w = 3 by omega) with rfl | rfl | rfl | rfl
  · constructor
    · intro h a c h1 h2
      have : ∀ d, a + d < k → t (a + d) = t a := by
        intro d
        induction d with
        | zero => intro _; rfl
        | succ d ih =>
          intro hd
          have := of_decide_eq_true (h (a + d) (by omega))
          rw [show a + (d + 1) = a + d + 1 by omega, this, ih (by omega)]
      have e := this (c - a) (by omega)
      rw [show a + (c - a) = c by omega] at e
      exact decide_eq_true e.symm
    · intro h m hm
      exact decide_eq_true (of_decide_eq_true (h m (m + 1) (by omega) hm)).symm
  · constructor
    · intro h a c h1 h2
      show (decide (1 < c - a) || decide (t c = (t a + 1) % 4)) = true
      by_cases q : 1 < c - a
      · rw [decide_eq_true q]; rfl
      · have e := h a (by omega)
        rw [show a + 1 = c by omega] at e
        rw [show decide (t c = (t a + 1) % 4) = true from e, Bool.or_true]
    · intro h m hm
      have e := h m (m + 1) (by omega) hm
      rw [show m + 1 - m = 1 by omega] at e
      exact e
  · constructor
    · intro h a c h1 h2
      show (decide (1 < c - a) || decide (t a ≠ t c)) = true
      by_cases q : 1 < c - a
      · rw [decide_eq_true q]; rfl
      · have e := h a (by omega)
        rw [show a + 1 = c by omega] at e
        have e2 : t a ≠ t c := fun z => of_decide_eq_true (show decide (t c ≠ t a) = true from e) z.symm
        rw [decide_eq_true e2, Bool.or_true]
    · intro h m hm
      have e := h m (m + 1) (by omega) hm
      rw [show m + 1 - m = 1 by omega] at e
      have e : decide (t m ≠ t (m + 1)) = true := e
      exact decide_eq_true (fun z => of_decide_eq_true e z.symm)
  · constructor
    · intro h a c h1 h2
      refine decide_eq_true (fun z => ?_)
      have e := h (c - 1) (by omega)
      rw [show c - 1 + 1 = c by omega] at e
      have e : (!(seen t c).testBit (t c)) = true := e
      have e2 : (seen t c).testBit (t c) = true := (un_tb _ _ _).mpr ⟨a, h1, by rw [z, tb_pow, decide_eq_true rfl]⟩
      rw [e2] at e
      exact Bool.noConfusion e
    · intro h m hm
      show (!(seen t (m + 1)).testBit (t (m + 1))) = true
      cases e : (seen t (m + 1)).testBit (t (m + 1)) with
      | false => rfl
      | true =>
        obtain ⟨j, j1, j2⟩ := (un_tb _ _ _).mp e
        rw [tb_pow] at j2
        exact absurd (of_decide_eq_true j2) (of_decide_eq_true (h j (m + 1) j1 hm))
theorem p_obX {N r n k p w : Nat} {b : Bool} {σ : Mm} {g : Nat → Int32} {t : Nat → Nat} (hN : 100 ≤ N) (hR : Rf b σ) (h : RV σ r (k * n) g) (hp : p < n) (hn : n ≤ 6) (hw : w < 4) (ht : ∀ m, m < k → g (m * n + p) = nI (t m) ∧ t m < 4) : f_X3_obeys N (37 + 2 * r) (nI p) (nI n) (nI k) (nI w) σ = some (if obX w t k then 1 else 0, σ) := by
  obtain ⟨h1, h2, h3, h4, h5, h6⟩ := h
  have hk : k ≤ 40 := by
    have : k * 1 ≤ k * n := Nat.mul_le_mul_left k (by omega)
    omega
  have hs : ∀ {m}, m ≤ k → seen t m < 16 := fun {m} hm => seen_lt (fun m hm => (ht m hm).2) hm
  unfold f_X3_obeys obX
  rw [if_pos (OKr h1).1]
  refine loopR (fun f i => f_X3_obeys_6 N f (37 + 2 * r) (nI p) (nI n) (nI k) (nI w) (nI (seen t i)) (nI i) σ) _ k (fun i => allb (fun m => decide (m = 0) || folB w (t (m - 1)) (t m) (seen t m)) i = true) ?_ ?_ N 0 (by omega) (by omega) rfl
  · intro f hI
    unfold f_X3_obeys_6
    rw [if_pos (nI_le (Nat.le_refl k) (by omega)), hI]
    rfl
  · intro f i hi hI ih
    have e1 := mn_lt hi hp
    obtain ⟨t1, t2⟩ := ht i hi
    have nx : allb (fun m => decide (m = 0) || folB w (t (m - 1)) (t m) (seen t m)) (i + 1) = true → f_X3_obeys_53 N (f_X3_obeys_6 N f) (37 + 2 * r) (nI p) (nI n) (nI k) (nI w) (nI (seen t i)) (nI i) (nI (i * n + p)) σ = some (if allb (fun m => decide (m = 0) || folB w (t (m - 1)) (t m) (seen t m)) k then 1 else 0, σ) := by
      intro q
      unfold f_X3_obeys_53
      simp (disch := omega) only [↓reduceIte, ↓BR hR, OKr, inbT, ix_nI]
      rw [h5 _ e1, t1, shl1 _ (by omega), nI_or, nI_1]
      simp only [lt]
      exact ih q
    unfold f_X3_obeys_6
    rw [if_neg (nI_ge hi (by omega)), pk_mul, nI_add]
    simp only [lt]
    by_cases c : i = 0
    · rw [if_pos (show nI i ≤ (0 : Int32) by rw [c]; decide)]
      refine nx ?_
      rw [allb, hI, decide_eq_true c]
      rfl
    · have e3 : (i - 1) * n + p < k * n := mn_lt (by omega) hp
      have e4 : i * n + p - n = (i - 1) * n + p := by
        have : i * n = (i - 1) * n + n := by
          have := Nat.add_mul (i - 1) 1 n
          rw [show i - 1 + 1 = i by omega] at this
          omega
        omega
      have e5 : n ≤ i * n + p := by
        have : 1 * n ≤ i * n := Nat.mul_le_mul_right n (by omega)
        omega
      obtain ⟨s1, s2⟩ := ht (i - 1) (by omega)
      rw [if_neg (show ¬ nI i ≤ (0 : Int32) from nI_ge (a := 0) (by omega) (by omega)), nI_subT e5, e4]
      simp (disch := omega) only [↓reduceIte, ↓BR hR, OKr, inbT, ix_nI]
      have := hs (show i ≤ k by omega)
      rw [h5 _ e1, h5 _ e3, t1, s1, bIe (p_fol (N := N) hw s2 t2 (by omega)), if10]
      cases q : folB w (t (i - 1)) (t i) (seen t i) with
      | false =>
        rw [if_neg Bool.false_ne_true, allb_f (i := i) (by rw [decide_eq_false c, q]; rfl) hi]
        rfl
      | true =>
        rw [if_pos rfl]
        refine nx ?_
        rw [allb, hI, q, Bool.or_true]
        rfl
theorem p_obM {N r n k p w mk : Nat} {b : Bool} {σ : Mm} {g : Nat → Int32} {t : Nat → Nat} (hN : 100 ≤ N) (hR : Rf b σ) (hs : gi σ 66 10 = nI n) (h : RM σ r (k * n) g) (hp : p < n) (hn : n ≤ 6) (hw : w < 4) (ht : ∀ m, m < k → g (m * n + p) = nI (t m) ∧ t m < 4) (K : Nat → Int32 → Int32 → Int32 → Int32 → Mm → Option (Int32 × Mm)) : f_X6_rule_39 N K N 66 (nI r) (nI w) (nI mk) (nI p) 1 0 σ = K 66 (nI r) (nI w) (nI (mk ||| (if obM w t k then 2 ^ p else 0))) (nI (p + 1)) σ := by
  obtain ⟨h1, h2, h4, h6⟩ := h
  have hk : k ≤ 40 := by
    have : k * 1 ≤ k * n := Nat.mul_le_mul_left k (by omega)
    omega
  have z := loop (fun f a => f_X6_rule_39 N K f 66 (nI r) (nI w) (nI mk) (nI p) (if allb (fun a => allb (fun e => byB w (t a) (t (a + 1 + e)) (e + 1)) (k - (a + 1))) a then 1 else 0) (nI (a * n)) σ) (K 66 (nI r) (nI w) (nI (mk ||| (if obM w t k then 2 ^ p else 0))) (nI (p + 1)) σ) k ?_ ?_ N 0 (by omega) (by omega)
  · rw [Nat.zero_mul] at z
    exact z
  · intro f
    unfold f_X6_rule_39 f_X6_rule_159
    simp (disch := omega) only [↓reduceIte, ↓BR hR, OKm, inbT, ix_nI, h4]
    rw [if_pos (nI_le (Nat.le_refl _) (by omega)), if10, nI_1]
    simp only [lt]
    rw [shl1 p (by omega), nI_or]
    unfold obM
    cases allb (fun a => allb (fun e => byB w (t a) (t (a + 1 + e)) (e + 1)) (k - (a + 1))) k with
    | false => rw [if_neg Bool.false_ne_true, if_neg Bool.false_ne_true, or_z, Nat.or_zero]
    | true => rw [if_pos rfl, if_pos rfl]
  · intro f a ha A hA
    have e1 := mn_lt ha hp
    obtain ⟨t1, t2⟩ := ht a ha
    unfold f_X6_rule_39
    simp (disch := omega) only [↓reduceIte, ↓BR hR, OKm, inbT, ix_nI, h4]
    rw [if_neg (nI_ge (by omega) (by omega)), hs, nI_add]
    simp only [lt]
    have y := loop (fun u e => f_X6_rule_59 N K (f_X6_rule_39 N K f) u 66 (nI r) (nI w) (nI mk) (nI p) (if allb (fun a => allb (fun e => byB w (t a) (t (a + 1 + e)) (e + 1)) (k - (a + 1))) a && allb (fun e => byB w (t a) (t (a + 1 + e)) (e + 1)) e then 1 else 0) (nI (a * n)) (nI ((a + 1 + e) * n)) σ) A (k - (a + 1)) ?_ ?_ N 0 (by omega) (by omega)
    · rw [show (a + 1 + 0) * n = a * n + n by rw [Nat.add_zero, Nat.add_mul]; omega, show (allb (fun a => allb (fun e => byB w (t a) (t (a + 1 + e)) (e + 1)) (k - (a + 1))) a && allb (fun e => byB w (t a) (t (a + 1 + e)) (e + 1)) 0) = allb (fun a => allb (fun e => byB w (t a) (t (a + 1 + e)) (e + 1)) (k - (a + 1))) a from Bool.and_true _] at y
      exact y
    · intro u
      unfold f_X6_rule_59
      simp (disch := omega) only [↓reduceIte, ↓BR hR, OKm, inbT, ix_nI, h4]
      rw [show a + 1 + (k - (a + 1)) = k by omega, if_pos (nI_le (Nat.le_refl _) (by omega)), hs, nI_add, show a * n + n = (a + 1) * n by rw [Nat.add_mul]; omega, hA]
      rfl
    · intro u e he B hB
      have hc : a + 1 + e < k := by omega
      have e2 := mn_lt hc hp
      obtain ⟨s1, s2⟩ := ht _ hc
      have e6 : (a + 1 + e) * n - a * n = (e + 1) * n := by
        rw [show a + 1 + e = a + (e + 1) by omega, Nat.add_mul]
        omega
      have e7 : a * n ≤ (a + 1 + e) * n := Nat.mul_le_mul_right n (by omega)
      have e8 : (e + 1) * n ≤ (a + 1 + e) * n := Nat.mul_le_mul_right n (by omega)
      unfold f_X6_rule_59 f_X6_rule_117 f_X6_rule_118
      simp (disch := omega) only [↓reduceIte, ↓BR hR, OKm, inbT, ix_nI, h4]
      rw [if_neg (nI_ge (by omega) (by omega)), if10, nI_add, nI_add, bIe (p_rowAt hR h1 (show a * n + p < 40 by omega)), bIe (p_rowAt hR h1 (show (a + 1 + e) * n + p < 40 by omega)), h6 _ e1, h6 _ e2, hs, if_neg (nI_ne0 (by omega) (by omega)), nI_subT e7, e6, pk_div (by omega) (by omega) (by omega), Nat.mul_div_cancel _ (by omega), t1, s1, bIe (p_isBy (N := N) hw t2 s2 (by omega)), if10, hs, nI_add, show (a + 1 + e) * n + n = (a + 1 + (e + 1)) * n by rw [show a + 1 + (e + 1) = a + 1 + e + 1 by omega, Nat.add_mul (a + 1 + e) 1]; omega, hB]
      simp only [lt]
      show _ = f_X6_rule_59 N K (f_X6_rule_39 N K f) u 66 (nI r) (nI w) (nI mk) (nI p) (if allb (fun a => allb (fun e => byB w (t a) (t (a + 1 + e)) (e + 1)) (k - (a + 1))) a && (allb (fun e => byB w (t a) (t (a + 1 + e)) (e + 1)) e && byB w (t a) (t (a + 1 + e)) (e + 1)) then 1 else 0) (nI (a * n)) (nI ((a + 1 + (e + 1)) * n)) σ
      cases allb (fun a => allb (fun e => byB w (t a) (t (a + 1 + e)) (e + 1)) (k - (a + 1))) a <;> cases allb (fun e => byB w (t a) (t (a + 1 + e)) (e + 1)) e <;> cases byB w (t a) (t (a + 1 + e)) (e + 1) <;> rfl
theorem s_rule {N : Nat} (hN : 100 ≤ N) (x y : Int32) : Sim (f_X5_rule N 0 x y) (f_X6_rule N 66 x y) := by
  intro b σ h
  have hR := h.1
  obtain ⟨n, kd, al, sg, ds, kp, w1, w2, w3⟩ := h.2.2.2.2
  have hs := w2.1.1
  have hn := w1.1
  have hP := pl_cases b
  rcases arg2 y 4 (by omega) with q | ⟨w, hw, rfl⟩
  · refine ⟨-1, σ, σ, b, ?_, ?_, h⟩
    · unfold f_X5_rule
      rw [if_pos OKx.1]
      rcases arg2 x 6 (by omega) with q2 | ⟨r, hr, rfl⟩
      · rw [bIe (p_isRowX (N := N) q2)]
        rfl
      · rw [bIe (p_isRowXy (N := N) hr), if_neg (show ¬ (1 : Int32) = 0 by decide)]
        by_cases c : y < 0
        · rw [if_pos c]
        · rw [if_neg c, if_neg (show ¬ y < (4 : Int32) from Int32.not_lt.mpr (q.resolve_left c))]
    · unfold f_X6_rule f_X6_needMornings
      rw [if_pos OKx.2.1, bIe (show f_X6_in N y 0 (3 : Int32) σ = some (0, σ) from p_in0 (q.imp id (fun z => le_lt6 (n := 3) (by decide) z))), if_pos OKx.2.1]
      rfl
  · have pin : ∀ τ, f_X6_in N (nI w) 0 (3 : Int32) τ = some (1, τ) := fun τ => p_in1 (nI_pos (by omega)) (nI_nlt (a := 3) (b := w) (by omega) (by omega))
    rcases arg2 x 6 (by omega) with q | ⟨r, hr, rfl⟩
    · refine ⟨-1, σ, σ, b, ?_, ?_, h⟩
      · unfold f_X5_rule
        rw [if_pos OKx.1, bIe (p_isRowX (N := N) q)]
        rfl
      · unfold f_X6_rule f_X6_needMornings
        rw [if_pos OKx.2.1, bIe (pin σ), if_pos OKx.2.1, if_neg (show ¬ (1 : Int32) = 0 by decide), bIe (p_isRowM (N := N) q)]
        rfl
    · rcases morn hN h w1 w2 w3 hr with ⟨v, σ1, σ2, hv, m1, m2, m3⟩ | ⟨k, g, n0, hv, ht, m1, m2, m3⟩
      · refine ⟨v, σ1, σ2, b, ?_, ?_, m3⟩
        · unfold f_X5_rule
          rw [if_pos OKx.1, bIe (p_isRowXy (N := N) hr), if_neg (show ¬ (1 : Int32) = 0 by decide), if_neg (nI_pos (by omega)), if_pos (show nI w < (4 : Int32) from nI_lt (b := 4) hw (by decide))]
          simp (disch := omega) only [↓reduceIte, ↓BR hR, OKx, OKr, inbT, ix_nI]
          rw [bIe m1, if_neg (fun e => by rw [e] at hv; exact absurd hv (by decide))]
        · unfold f_X6_rule
          rw [if_pos OKx.2.1, bIe (pin σ1), bIe m2, if_neg (Int32.not_le.mpr hv)]
      · let T : Nat → Nat → Nat := fun p m => ix (g (m * n + p))
        have hT : ∀ p, p < n → ∀ m, m < k → g (m * n + p) = nI (T p m) ∧ T p m < 4 := fun p hp m hm => by
          obtain ⟨u, hu, e⟩ := ht _ (mn_lt hm hp)
          have e2 : T p m = u := by show ix (g (m * n + p)) = u; rw [e, ix_nI (by omega)]
          rw [e2]
          exact ⟨e, hu⟩
        refine ⟨nI (msk (fun p => obX w (T p) k) n), σ, σ, b, ?_, ?_, h⟩
        · unfold f_X5_rule
          rw [if_pos OKx.1, bIe (p_isRowXy (N := N) hr), if_neg (show ¬ (1 : Int32) = 0 by decide), if_neg (nI_pos (by omega)), if_pos (show nI w < (4 : Int32) from nI_lt (b := 4) hw (by decide))]
          simp (disch := omega) only [↓reduceIte, ↓BR hR, OKx, OKr, inbT, ix_nI]
          rw [bIe m1, if_pos rfl]
          simp (disch := omega) only [↓reduceIte, ↓BR hR, OKx, OKr, inbT, ix_nI]
          rw [bIe m2]
          refine loop (fun f p => f_X5_rule_53 N f 0 (nI r) (nI w) (nI k) (nI (msk (fun p => obX w (T p) k) p)) (nI p) σ) _ n ?_ ?_ N 0 (by omega) (by omega)
          · intro f
            unfold f_X5_rule_53
            rw [BRpl hR, if_pos (ok_p hP).1, hs, if_pos (nI_le (Nat.le_refl n) (by omega))]
          · intro f p hp A hA
            unfold f_X5_rule_53 f_X5_rule_98
            rw [BRpl hR, if_pos (ok_p hP).1, hs, if_neg (nI_ge hp (by omega)), hA]
            simp (disch := omega) only [↓reduceIte, ↓BRr hR, OKx, OKr, inbT, ix_nI]
            rw [BRpl hR, if_pos (ok_p hP).1, hs, bIe (p_obX hN hR hv hp hn hw (hT p hp)), if10, nI_1]
            simp only [lt]
            rw [shl1 p (by omega), nI_or, msk]
            cases obX w (T p) k with
            | false => rw [if_neg Bool.false_ne_true, if_neg Bool.false_ne_true, Nat.or_zero]
            | true => rw [if_pos rfl, if_pos rfl]
        · unfold f_X6_rule
          rw [if_pos OKx.2.1, bIe (pin σ), bIe (m3 σ (Em_refl hR)), if_pos (by decide), msk_congr (Q := fun p => obM w (T p) k) (fun p hp => ob_eq hw)]
          refine loop (fun f p => f_X6_rule_24 N f 66 (nI r) (nI w) (nI (msk (fun p => obM w (T p) k) p)) (nI p) σ) _ n ?_ ?_ N 0 (by omega) (by omega)
          · intro f
            unfold f_X6_rule_24
            rw [w3.1, if_pos (nI_le (Nat.le_refl n) (by omega))]
          · intro f p hp A hA
            unfold f_X6_rule_24
            rw [w3.1, if_neg (nI_ge hp (by omega)), p_obM hN hR w3.1 (RV_RM hv) hp hn hw (hT p hp), hA, msk]
