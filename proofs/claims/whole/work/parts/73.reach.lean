/-! ===== PURE: who reaches whom ===== -/
def RC (T : Nat → Nat) (n x y : Nat) : Prop := ∃ k, (LV T n x 63 k).testBit y = true
theorem RC_6 {T : Nat → Nat} {n x y : Nat} (hT : ∀ m, m < n → T m < 2 ^ n) (hn : n ≤ 6) (hx : x < n) : RC T n x y ↔ (LV T n x 63 6).testBit y = true := by
  constructor
  · rintro ⟨k, hk⟩
    by_cases c : k ≤ 6
    · exact LV_le c hk
    · rw [LV_stable hT hx (show n - 1 ≤ 6 by omega)]
      rw [LV_stable hT hx (show n - 1 ≤ k by omega)] at hk
      exact hk
  · exact fun h => ⟨6, h⟩
theorem RC_refl {T : Nat → Nat} {n x : Nat} : RC T n x x := ⟨0, LV_p⟩
theorem RC_end {T : Nat → Nat} {n x m y : Nat} (hn : n ≤ 6) (h : RC T n x m) (hm : m < n) (hy : (T m).testBit y = true) : RC T n x y := by
  obtain ⟨k, hk⟩ := h
  exact ⟨k + 1, stepM_tb.mpr (Or.inr ⟨m, hm, hk, Or.inr (tb63 (by omega)), hy⟩)⟩
theorem LV_zero {T : Nat → Nat} {n x M y : Nat} (h : (LV T n x M 0).testBit y = true) : y = x := by
  have h : (2 ^ x).testBit y = true := h
  rw [tb_pow] at h
  exact (of_decide_eq_true h).symm
theorem RC_trans {T : Nat → Nat} {n x m y : Nat} (hn : n ≤ 6) (h : RC T n x m) (h2 : RC T n m y) : RC T n x y := by
  obtain ⟨k, hk⟩ := h2
  induction k generalizing y with
  | zero => rw [LV_zero hk]; exact h
  | succ k ih =>
    rcases stepM_tb.mp hk with q | ⟨z, hz, q1, q2, q3⟩
    · exact ih q
    · exact RC_end hn (ih q1) hz q3
theorem RC_front {T : Nat → Nat} {n x m y : Nat} (hn : n ≤ 6) (hx : x < n) (hm : (T x).testBit m = true) (h : RC T n m y) : RC T n x y := RC_trans hn (RC_end hn RC_refl hx hm) h
theorem LV_front {T : Nat → Nat} {n x : Nat} (hn : n ≤ 6) (hT : ∀ m, m < n → T m < 2 ^ n) (hx : x < n) : ∀ k y, (LV T n x 63 (k + 1)).testBit y = true → y = x ∨ ∃ m, m < n ∧ (T x).testBit m = true ∧ (LV T n m 63 k).testBit y = true := by
  intro k
  induction k with
  | zero =>
    intro y h
    rcases stepM_tb.mp h with q | ⟨z, hz, q1, q2, q3⟩
    · exact Or.inl (LV_zero q)
    · rw [LV_zero q1] at q3
      exact Or.inr ⟨y, tb_lt (hT x hx) q3, q3, LV_p⟩
  | succ k ih =>
    intro y h
    rcases stepM_tb.mp h with q | ⟨z, hz, q1, q2, q3⟩
    · rcases ih y q with e | ⟨m, m1, m2, m3⟩
      · exact Or.inl e
      · exact Or.inr ⟨m, m1, m2, LV_mono m3⟩
    · rcases ih z q1 with e | ⟨m, m1, m2, m3⟩
      · rw [e] at q3
        exact Or.inr ⟨y, tb_lt (hT x hx) q3, q3, LV_p⟩
      · exact Or.inr ⟨m, m1, m2, stepM_tb.mpr (Or.inr ⟨z, hz, m3, Or.inr (tb63 (by omega)), q3⟩)⟩
theorem LV_back {T : Nat → Nat} {n x m y k : Nat} (hn : n ≤ 6) (hx : x < n) (hm : (T x).testBit m = true) (hmn : m < n) (h : (LV T n m 63 k).testBit y = true) : (LV T n x 63 (k + 1)).testBit y = true := by
  induction k generalizing y with
  | zero =>
    rw [LV_zero h]
    exact stepM_tb.mpr (Or.inr ⟨x, hx, LV_p, Or.inl rfl, hm⟩)
  | succ k ih =>
    rcases stepM_tb.mp h with q | ⟨z, hz, q1, q2, q3⟩
    · exact LV_mono (ih q)
    · exact stepM_tb.mpr (Or.inr ⟨z, hz, ih q1, Or.inr (tb63 (by omega)), q3⟩)
/-- those who reach q -/
def rin (T : Nat → Nat) (A : Nat) : Nat → Nat
  | 0 => A
  | i + 1 => if T i &&& rin T A i = 0 then rin T A i else rin T A i ||| 2 ^ i
def rout (T : Nat → Nat) (n q : Nat) : Nat → Nat
  | 0 => 2 ^ q
  | k + 1 => rin T (rout T n q k) n
theorem rin_mono {T : Nat → Nat} {A y : Nat} (h : A.testBit y = true) : ∀ i, (rin T A i).testBit y = true := by
  intro i
  induction i with
  | zero => exact h
  | succ i ih =>
    rw [rin]
    split
    · exact ih
    · rw [Nat.testBit_or, ih]; rfl
theorem rin_le {T : Nat → Nat} {A y i : Nat} (h : (rin T A i).testBit y = true) : ∀ j, (rin T A (i + j)).testBit y = true := by
  intro j
  induction j with
  | zero => exact h
  | succ j ih =>
    show (rin T A (i + j + 1)).testBit y = true
    rw [rin]
    split
    · exact ih
    · rw [Nat.testBit_or, ih]; rfl
theorem rin_lt {T : Nat → Nat} {A n : Nat} (h : A < 2 ^ n) : ∀ i, i ≤ n → rin T A i < 2 ^ n := by
  intro i
  induction i with
  | zero => exact fun _ => h
  | succ i ih =>
    intro hi
    rw [rin]
    split
    · exact ih (by omega)
    · exact Nat.or_lt_two_pow (ih (by omega)) (Nat.pow_lt_pow_right (by decide) (by omega))
theorem rout_lt {T : Nat → Nat} {n q : Nat} (hq : q < n) : ∀ k, rout T n q k < 2 ^ n := by
  intro k
  induction k with
  | zero => exact Nat.pow_lt_pow_right (by decide) hq
  | succ k ih => exact rin_lt ih n (Nat.le_refl n)
theorem rin_in {T : Nat → Nat} {A x m n : Nat} (h1 : (T x).testBit m = true) (h2 : A.testBit m = true) (hx : x < n) : (rin T A n).testBit x = true := by
  have e : (rin T A (x + 1)).testBit x = true := by
    rw [rin, if_neg (tb_ne0 (i := m) (by rw [Nat.testBit_and, h1, rin_mono h2]; rfl)), fb_bit_set, decide_eq_true rfl, Bool.or_true]
  have := rin_le e (n - (x + 1))
  rw [show x + 1 + (n - (x + 1)) = n by omega] at this
  exact this
theorem rin_ok {T : Nat → Nat} {n q A : Nat} (hn : n ≤ 6) (h : ∀ x, A.testBit x = true → RC T n x q) : ∀ i, i ≤ n → ∀ x, (rin T A i).testBit x = true → RC T n x q := by
  intro i
  induction i with
  | zero => exact fun _ => h
  | succ i ih =>
    intro hi x hx
    rw [rin] at hx
    split at hx
    · exact ih (by omega) x hx
    · rename_i hne
      rw [fb_bit_set, Bool.or_eq_true] at hx
      rcases hx with hx | hx
      · exact ih (by omega) x hx
      · rw [of_decide_eq_true hx]
        obtain ⟨m, hm⟩ := ne0_tb hne
        rw [Nat.testBit_and, Bool.and_eq_true] at hm
        exact RC_front hn (by omega) hm.1 (ih (by omega) m hm.2)
theorem rout_ok {T : Nat → Nat} {n q : Nat} (hn : n ≤ 6) : ∀ k x, (rout T n q k).testBit x = true → RC T n x q := by
  intro k
  induction k with
  | zero =>
    intro x hx
    rw [rout, tb_pow] at hx
    rw [of_decide_eq_true hx]
    exact RC_refl
  | succ k ih => exact rin_ok hn ih n (Nat.le_refl n)
theorem rout_all {T : Nat → Nat} {n q : Nat} (hn : n ≤ 6) (hT : ∀ m, m < n → T m < 2 ^ n) : ∀ k x, x < n → (LV T n x 63 k).testBit q = true → (rout T n q k).testBit x = true := by
  intro k
  induction k with
  | zero =>
    intro x hx h
    rw [rout, tb_pow, LV_zero h]
    exact decide_eq_true rfl
  | succ k ih =>
    intro x hx h
    rcases LV_front hn hT hx k q h with e | ⟨m, m1, m2, m3⟩
    · subst e
      exact rin_mono (ih q hx LV_p) n
    · exact rin_in m2 (ih m m1 m3) hx
theorem rout_iff {T : Nat → Nat} {n q x : Nat} (hn : n ≤ 6) (hT : ∀ m, m < n → T m < 2 ^ n) (hx : x < n) : (rout T n q n).testBit x = true ↔ RC T n x q := by
  constructor
  · exact rout_ok hn n x
  · rintro ⟨k, hk⟩
    refine rout_all hn hT n x hx ?_
    by_cases c : k ≤ n
    · exact LV_le c hk
    · rw [LV_stable hT hx (show n - 1 ≤ n by omega)]
      rw [LV_stable hT hx (show n - 1 ≤ k by omega)] at hk
      exact hk
theorem p_reaching {N o n q : Nat} {b : Bool} {σ : Mm} {T : Nat → Nat} (hN : 20 ≤ N) (hR : Rf b σ) (h : GX σ o n T) (hq : q < n) : f_X0_reaching N o (nI q) σ = some (nI (rout T n q n), σ) := by
  obtain ⟨h1, h2, h3, h4, h5⟩ := h
  have h64 := pow6 h3
  unfold f_X0_reaching
  rw [if_pos (ok_d h5).1, shl1 q (by omega)]
  simp only [lt]
  refine loop (fun f k => f_X0_reaching_6 N f o (nI (rout T n q k)) (nI k) σ) _ n ?_ ?_ N 0 (by omega) (by omega)
  · intro f
    unfold f_X0_reaching_6
    rw [h1, if_pos (nI_le (Nat.le_refl n) (by omega))]
  · intro f k hk A hA
    unfold f_X0_reaching_6
    rw [h1, if_neg (nI_ge hk (by omega))]
    refine loop (fun u i => f_X0_reaching_17 N (f_X0_reaching_6 N f) u o (nI (rin T (rout T n q k) i)) (nI k) (nI i) σ) _ n ?_ ?_ N 0 (by omega) (by omega)
    · intro u
      unfold f_X0_reaching_17
      rw [h1, if_pos (nI_le (Nat.le_refl n) (by omega)), nI_1, hA]
      rfl
    · intro u i hi B hB
      unfold f_X0_reaching_17 f_X0_reaching_45
      have hl : rin T (rout T n q k) i < 2 ^ n := rin_lt (rout_lt hq k) i (by omega)
      have hand : T i &&& rin T (rout T n q k) i < 64 := Nat.lt_of_le_of_lt Nat.and_le_right (by omega)
      rw [hB, h1, if_neg (nI_ge hi (by omega))]
      simp (disch := omega) only [↓reduceIte, ↓BRd hR h5, ok_d h5, inbT, ix_nI, h2 i hi, nI_and, lt, nI_1, shl1, nI_or]
      rw [rin]
      by_cases c : T i &&& rin T (rout T n q k) i = 0
      · rw [if_pos c, c, if_pos (show nI 0 = 0 from rfl)]
      · rw [if_neg c, if_neg (nI_ne0 (by omega) (by omega))]
/-- one sign more -/
theorem RC_mono {T U : Nat → Nat} {n x y : Nat} (hn : n ≤ 6) (h : ∀ m, m < n → ∀ z, (T m).testBit z = true → (U m).testBit z = true) (hr : RC T n x y) : RC U n x y := by
  obtain ⟨k, hk⟩ := hr
  induction k generalizing y with
  | zero => rw [LV_zero hk]; exact RC_refl
  | succ k ih =>
    rcases stepM_tb.mp hk with q | ⟨z, hz, q1, q2, q3⟩
    · exact ih q
    · exact RC_end hn (ih q1) hz (h z hz y q3)
def s1 (a b : Nat) : Nat → Nat := addS (fun _ => 0) a b
theorem s1_tb {a b m z : Nat} (hab : a ≠ b) : (s1 a b m).testBit z = true ↔ (m = a ∧ z = b) ∨ (m = b ∧ z = a) := by
  unfold s1 addS
  by_cases c : m = a
  · rw [if_pos c, Nat.zero_or, tb_pow]
    constructor
    · intro h; exact Or.inl ⟨c, (of_decide_eq_true h).symm⟩
    · rintro (⟨_, h⟩ | ⟨h, _⟩)
      · exact decide_eq_true h.symm
      · omega
  · rw [if_neg c]
    by_cases c2 : m = b
    · rw [if_pos c2, Nat.zero_or, tb_pow]
      constructor
      · intro h; exact Or.inr ⟨c2, (of_decide_eq_true h).symm⟩
      · rintro (⟨h, _⟩ | ⟨_, h⟩)
        · omega
        · exact decide_eq_true h.symm
    · rw [if_neg c2, Nat.zero_testBit]
      constructor
      · intro h; exact Bool.noConfusion h
      · rintro (⟨h, _⟩ | ⟨h, _⟩) <;> omega
theorem RC_one {T : Nat → Nat} {n a b p q : Nat} (hn : n ≤ 6) (ha : a < n) (hb : b < n) (hab : a ≠ b) : RC (fun x => T x ||| s1 a b x) n p q ↔ RC T n p q ∨ (RC T n p a ∧ RC T n b q) ∨ (RC T n p b ∧ RC T n a q) := by
  have up : ∀ {x y}, RC T n x y → RC (fun x => T x ||| s1 a b x) n x y := fun {x y} h => RC_mono hn (fun m _ z hz => by rw [Nat.testBit_or, hz]; rfl) h
  have eab : ((fun x => T x ||| s1 a b x) a).testBit b = true := by
    show (T a ||| s1 a b a).testBit b = true
    rw [Nat.testBit_or, (s1_tb hab).mpr (Or.inl ⟨rfl, rfl⟩), Bool.or_true]
  have eba : ((fun x => T x ||| s1 a b x) b).testBit a = true := by
    show (T b ||| s1 a b b).testBit a = true
    rw [Nat.testBit_or, (s1_tb hab).mpr (Or.inr ⟨rfl, rfl⟩), Bool.or_true]
  constructor
  · rintro ⟨k, hk⟩
    induction k generalizing q with
    | zero => rw [LV_zero hk]; exact Or.inl RC_refl
    | succ k ih =>
      rcases stepM_tb.mp hk with h | ⟨z, hz, q1, q2, q3⟩
      · exact ih h
      · have q3 : (T z ||| s1 a b z).testBit q = true := q3
        rw [Nat.testBit_or, Bool.or_eq_true] at q3
        have i := ih q1
        rcases q3 with q3 | q3
        · rcases i with i | ⟨i1, i2⟩ | ⟨i1, i2⟩
          · exact Or.inl (RC_end hn i hz q3)
          · exact Or.inr (Or.inl ⟨i1, RC_end hn i2 hz q3⟩)
          · exact Or.inr (Or.inr ⟨i1, RC_end hn i2 hz q3⟩)
        · rcases (s1_tb hab).mp q3 with ⟨e1, e2⟩ | ⟨e1, e2⟩
          · subst e1; subst e2
            rcases i with i | ⟨i1, i2⟩ | ⟨i1, i2⟩
            · exact Or.inr (Or.inl ⟨i, RC_refl⟩)
            · exact Or.inr (Or.inl ⟨i1, RC_refl⟩)
            · exact Or.inl i1
          · subst e1; subst e2
            rcases i with i | ⟨i1, i2⟩ | ⟨i1, i2⟩
            · exact Or.inr (Or.inr ⟨i, RC_refl⟩)
            · exact Or.inl i1
            · exact Or.inr (Or.inr ⟨i1, RC_refl⟩)
  · rintro (h | ⟨h1, h2⟩ | ⟨h1, h2⟩)
    · exact up h
    · exact RC_trans hn (RC_end hn (up h1) ha eab) (up h2)
    · exact RC_trans hn (RC_end hn (up h1) hb eba) (up h2)
/-- two signs over a third one -/
theorem RC_two {U : Nat → Nat} {n p r q : Nat} (hn : n ≤ 6) (hp : p < n) (hr : r < n) (h1 : (U p).testBit r = true) (h2 : (U r).testBit q = true) : RC U n p q := RC_end hn (RC_end hn RC_refl hp h1) hr h2
theorem rotk_lt (c : Nat) : ∀ k d, rotk c k d < 4 ^ k := by
  intro k
  induction k with
  | zero => intro d; exact Nat.one_pos
  | succ k ih =>
    intro d
    have := ih (d / 4)
    rw [rotk, Nat.pow_succ]
    omega
/-- what holds by every deal up to turning holds by every deal -/
theorem all_turn {P : Nat → Prop} {k : Nat} (h : ∀ c d, P (rotk c (k + 1) d) ↔ P d) : (∀ d, d < 4 ^ (k + 1) → P d) ↔ ∀ d, d < 4 ^ k → P (4 * d) := by
  constructor
  · intro q d hd
    exact q (4 * d) (by rw [Nat.pow_succ]; omega)
  · intro q d hd
    have e : rotk (4 - d % 4) (k + 1) d = 4 * rotk (4 - d % 4) k (d / 4) := by
      rw [rotk, show (d % 4 + (4 - d % 4)) % 4 = 0 by omega, Nat.add_zero]
    rw [← h (4 - d % 4) d, e]
    exact q _ (rotk_lt _ _ _)
