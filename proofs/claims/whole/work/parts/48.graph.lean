/-! ===== PURE: orders go by mouths ===== -/
def un (F : Nat → Nat) : Nat → Nat
  | 0 => 0
  | m + 1 => un F m ||| F m
theorem un_tb (F : Nat → Nat) (q : Nat) : ∀ n, (un F n).testBit q = true ↔ ∃ m, m < n ∧ (F m).testBit q = true
  | 0 => by simp [un]
  | n + 1 => by
    unfold un
    rw [Nat.testBit_or, Bool.or_eq_true, un_tb F q n]
    constructor
    · rintro (⟨m, h1, h2⟩ | h)
      · exact ⟨m, by omega, h2⟩
      · exact ⟨n, by omega, h⟩
    · rintro ⟨m, h1, h2⟩
      by_cases e : m = n
      · subst e; exact Or.inr h2
      · exact Or.inl ⟨m, by omega, h2⟩
theorem un_lt {F : Nat → Nat} {k : Nat} : ∀ n, (∀ m, m < n → F m < 2 ^ k) → un F n < 2 ^ k
  | 0, _ => Nat.two_pow_pos k
  | n + 1, h => Nat.or_lt_two_pow (un_lt n (fun m hm => h m (by omega))) (h n (by omega))
/-- one more told by each -/
def stepM (T : Nat → Nat) (n p M S : Nat) : Nat := S ||| un (fun m => if S.testBit m && (decide (m = p) || M.testBit m) then T m else 0) n
def LV (T : Nat → Nat) (n p M : Nat) : Nat → Nat
  | 0 => 2 ^ p
  | k + 1 => stepM T n p M (LV T n p M k)
theorem stepM_tb {T : Nat → Nat} {n p M S q : Nat} : (stepM T n p M S).testBit q = true ↔ S.testBit q = true ∨ ∃ m, m < n ∧ S.testBit m = true ∧ (m = p ∨ M.testBit m = true) ∧ (T m).testBit q = true := by
  unfold stepM
  rw [Nat.testBit_or, Bool.or_eq_true, un_tb]
  constructor
  · rintro (h | ⟨m, h1, h2⟩)
    · exact Or.inl h
    · by_cases c : (S.testBit m && (decide (m = p) || M.testBit m)) = true
      · rw [if_pos c] at h2
        simp only [Bool.and_eq_true, Bool.or_eq_true, decide_eq_true_eq] at c
        exact Or.inr ⟨m, h1, c.1, c.2, h2⟩
      · rw [if_neg c] at h2
        simp at h2
  · rintro (h | ⟨m, h1, h2, h3, h4⟩)
    · exact Or.inl h
    · refine Or.inr ⟨m, h1, ?_⟩
      rw [if_pos (by simp only [Bool.and_eq_true, Bool.or_eq_true, decide_eq_true_eq]; exact ⟨h2, h3⟩)]
      exact h4
theorem stepM_lt {T : Nat → Nat} {n p M S : Nat} (hT : ∀ m, m < n → T m < 2 ^ n) (hS : S < 2 ^ n) : stepM T n p M S < 2 ^ n := by
  unfold stepM
  refine Nat.or_lt_two_pow hS (un_lt n (fun m hm => ?_))
  split
  · exact hT m hm
  · exact Nat.two_pow_pos n
theorem LV_lt {T : Nat → Nat} {n p M : Nat} (hT : ∀ m, m < n → T m < 2 ^ n) (hp : p < n) : ∀ k, LV T n p M k < 2 ^ n
  | 0 => Nat.pow_lt_pow_right (by decide) hp
  | k + 1 => stepM_lt hT (LV_lt hT hp k)
theorem LV_mono {T : Nat → Nat} {n p M k q : Nat} (h : (LV T n p M k).testBit q = true) : (LV T n p M (k + 1)).testBit q = true := stepM_tb.mpr (Or.inl h)
theorem LV_mono2 {T : Nat → Nat} {n p M k q : Nat} (h : (LV T n p M k).testBit q = true) : ∀ j, (LV T n p M (k + j)).testBit q = true
  | 0 => h
  | j + 1 => LV_mono (LV_mono2 h j)
theorem LV_p {T : Nat → Nat} {n p M k : Nat} : (LV T n p M k).testBit p = true := by
  have h : (LV T n p M 0).testBit p = true := by show (2 ^ p).testBit p = true; rw [tb_pow]; simp
  have := LV_mono2 h k
  rwa [Nat.zero_add] at this
def pc (n S : Nat) : Nat := fb_ct (fun q => S.testBit q) n
theorem pc_lt {n S S2 : Nat} (h1 : ∀ q, S.testBit q = true → S2.testBit q = true) (hl1 : S < 2 ^ n) (hl2 : S2 < 2 ^ n) (hne : S ≠ S2) : pc n S < pc n S2 := by
  have hx : ∃ q, q < n ∧ S2.testBit q = true ∧ S.testBit q = false := by
    apply Classical.byContradiction
    intro hc
    apply hne
    apply Nat.eq_of_testBit_eq
    intro q
    by_cases hq : q < n
    · cases e1 : S.testBit q with
      | true => rw [h1 q e1]
      | false =>
        cases e2 : S2.testBit q with
        | false => rfl
        | true => exact absurd ⟨q, hq, e2, e1⟩ hc
    · have hle : 2 ^ n ≤ 2 ^ q := Nat.pow_le_pow_right (by decide) (by omega)
      rw [Nat.testBit_lt_two_pow (by omega), Nat.testBit_lt_two_pow (by omega)]
  obtain ⟨q, hq, e1, e2⟩ := hx
  have key : fb_ct (fun k => if k = q then true else S.testBit k) n + (if S.testBit q then 1 else 0) = fb_ct (fun k => S.testBit k) n + (if true then 1 else 0) := fb_ct_upd (fun k => S.testBit k) true hq
  rw [e2, if_neg (by decide), if_pos rfl] at key
  have e4 : fb_ct (fun k => if k = q then true else S.testBit k) n ≤ pc n S2 := fb_ct_sub (fun k _ hk => by
    by_cases hkq : k = q
    · subst hkq; exact e1
    · simp only [hkq, if_false] at hk; exact h1 k hk)
  unfold pc at e4 ⊢
  omega
theorem LV_stable_step {T : Nat → Nat} {n p M k : Nat} (h : LV T n p M (k + 1) = LV T n p M k) : ∀ j, LV T n p M (k + j) = LV T n p M k
  | 0 => rfl
  | j + 1 => by
    have ih := LV_stable_step h j
    show stepM T n p M (LV T n p M (k + j)) = _
    rw [ih]
    exact h
theorem LV_grow {T : Nat → Nat} {n p M : Nat} (hT : ∀ m, m < n → T m < 2 ^ n) (hp : p < n) : ∀ k, (∀ i, i < k → LV T n p M (i + 1) ≠ LV T n p M i) → k + 1 ≤ pc n (LV T n p M k)
  | 0, _ => by
    have : 0 < pc n (LV T n p M 0) := fb_ct_pos.mpr ⟨p, hp, LV_p⟩
    omega
  | k + 1, h => by
    have ih := LV_grow hT hp k (fun i hi => h i (by omega))
    have := pc_lt (n := n) (fun q hq => LV_mono (T := T) (n := n) (p := p) (M := M) (k := k) hq) (LV_lt hT hp k) (LV_lt hT hp (k + 1)) (fun e => h k (by omega) e.symm)
    omega
/-- behind as many steps as there are PERSONS less one nothing comes any more -/
theorem LV_stable {T : Nat → Nat} {n p M : Nat} (hT : ∀ m, m < n → T m < 2 ^ n) (hp : p < n) {j : Nat} (hj : n - 1 ≤ j) : LV T n p M j = LV T n p M (n - 1) := by
  have hx : ∃ i, i < n ∧ LV T n p M (i + 1) = LV T n p M i := by
    apply Classical.byContradiction
    intro hc
    have h1 := LV_grow (M := M) hT hp n (fun i hi e => hc ⟨i, hi, e⟩)
    have h2 : pc n (LV T n p M n) ≤ n := fb_ct_le _ n
    omega
  obtain ⟨i, hi, e⟩ := hx
  have h1 := LV_stable_step e (j - i)
  have h2 := LV_stable_step e (n - 1 - i)
  rw [show i + (j - i) = j by omega] at h1
  rw [show i + (n - 1 - i) = n - 1 by omega] at h2
  rw [h1, h2]
/-- the class's walk: what is fresh, what is told in all -/
def FR (T : Nat → Nat) (n p M : Nat) : Nat → Nat × Nat
  | 0 => (2 ^ p, 2 ^ p)
  | k + 1 => let w := FR T n p M k; let told := un (fun m => if w.2.testBit m then T m else 0) n; (w.1 ||| told, msk (fun q => told.testBit q && !w.1.testBit q && M.testBit q) n)
theorem FR_s (T : Nat → Nat) (n p M k : Nat) : FR T n p M (k + 1) = ((FR T n p M k).1 ||| un (fun m => if (FR T n p M k).2.testBit m then T m else 0) n, msk (fun q => (un (fun m => if (FR T n p M k).2.testBit m then T m else 0) n).testBit q && !(FR T n p M k).1.testBit q && M.testBit q) n) := rfl
theorem unf_tb {T : Nat → Nat} {n S q : Nat} : (un (fun m => if S.testBit m then T m else 0) n).testBit q = true ↔ ∃ m, m < n ∧ S.testBit m = true ∧ (T m).testBit q = true := by
  rw [un_tb]
  constructor
  · rintro ⟨m, h1, h2⟩
    by_cases c : S.testBit m = true
    · rw [if_pos c] at h2; exact ⟨m, h1, c, h2⟩
    · rw [if_neg c] at h2; simp at h2
  · rintro ⟨m, h1, h2, h3⟩
    exact ⟨m, h1, by rw [if_pos h2]; exact h3⟩
theorem FR_LV {T : Nat → Nat} {n p M : Nat} (hT : ∀ m, m < n → T m < 2 ^ n) (hp : p < n) : ∀ k, (FR T n p M k).1 = LV T n p M k ∧ (∀ m, (FR T n p M k).2.testBit m = true → (LV T n p M k).testBit m = true ∧ (m = p ∨ M.testBit m = true)) ∧ ∀ m, m < n → (LV T n p M k).testBit m = true → (m = p ∨ M.testBit m = true) → (FR T n p M k).2.testBit m = true ∨ ∀ q, (T m).testBit q = true → (LV T n p M k).testBit q = true := by
  intro k
  induction k with
  | zero =>
    refine ⟨rfl, fun m hm => ?_, fun m hm h1 h2 => Or.inl h1⟩
    have hm2 : (2 ^ p).testBit m = true := hm
    rw [tb_pow] at hm2
    have : p = m := of_decide_eq_true hm2
    exact ⟨hm, Or.inl this.symm⟩
  | succ k ih =>
    obtain ⟨i1, i2, i3⟩ := ih
    have e1 : (FR T n p M (k + 1)).1 = LV T n p M (k + 1) := by
      rw [FR_s]
      show (FR T n p M k).1 ||| _ = stepM T n p M (LV T n p M k)
      rw [i1]
      apply Nat.eq_of_testBit_eq
      intro q
      rw [Bool.eq_iff_iff, Nat.testBit_or, Bool.or_eq_true, unf_tb, stepM_tb]
      constructor
      · rintro (h | ⟨m, h1, h2, h3⟩)
        · exact Or.inl h
        · exact Or.inr ⟨m, h1, (i2 m h2).1, (i2 m h2).2, h3⟩
      · rintro (h | ⟨m, h1, h2, h3, h4⟩)
        · exact Or.inl h
        · rcases i3 m h1 h2 h3 with h5 | h5
          · exact Or.inr ⟨m, h1, h5, h4⟩
          · exact Or.inl (h5 q h4)
    refine ⟨e1, fun m hm => ?_, fun m hm h1 h2 => ?_⟩
    · rw [FR_s] at hm
      simp only [msk_tb, Bool.and_eq_true, decide_eq_true_eq] at hm
      refine ⟨?_, Or.inr hm.2.2⟩
      rw [← e1, FR_s]
      rw [Nat.testBit_or, Bool.or_eq_true]
      exact Or.inr hm.2.1.1
    · by_cases c : (LV T n p M k).testBit m = true
      · right
        intro q hq
        exact stepM_tb.mpr (Or.inr ⟨m, hm, c, h2, hq⟩)
      · left
        have h3 : m ≠ p := fun e => c (by rw [e]; exact LV_p)
        have h4 := h2.resolve_left h3
        have h5 := h1
        rw [← e1, FR_s, Nat.testBit_or, Bool.or_eq_true] at h5
        rw [FR_s]
        simp only [msk_tb, Bool.and_eq_true, decide_eq_true_eq]
        refine ⟨hm, ⟨h5.resolve_left (by rw [i1]; exact c), ?_⟩, h4⟩
        rw [i1]
        simp only [Bool.not_eq_true'] 
        exact Bool.eq_false_iff.mpr c
theorem FR_lt {T : Nat → Nat} {n p M : Nat} (hp : p < n) : ∀ k, (FR T n p M k).2 < 2 ^ n
  | 0 => Nat.pow_lt_pow_right (by decide) hp
  | k + 1 => by rw [FR_s]; exact msk_lt _ n
theorem FR_zero {T : Nat → Nat} {n p M : Nat} (hT : ∀ m, m < n → T m < 2 ^ n) (hp : p < n) {k : Nat} (h : (FR T n p M k).2 = 0) : ∀ j, LV T n p M (k + j) = LV T n p M k := by
  apply LV_stable_step
  have e := (FR_LV (M := M) hT hp (k + 1)).1
  rw [FR_s, h, (FR_LV hT hp k).1] at e
  rw [← e]
  apply Nat.eq_of_testBit_eq
  intro q
  rw [Bool.eq_iff_iff, Nat.testBit_or, Bool.or_eq_true, unf_tb]
  constructor
  · rintro (h1 | ⟨m, h1, h2, h3⟩)
    · exact h1
    · simp at h2
  · exact Or.inl
