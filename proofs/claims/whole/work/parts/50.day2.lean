/-! ===== PURE: layTells; the class's reached, goes, fewestMouths ===== -/
theorem MS_congr {σ τ : Mm} {o n : Nat} {kd : Nat → Nat} {y : Dy} (h : ∀ a k, a = 73 ∨ a = o ∨ (a = 66 ∧ k = 10) → gi τ a k = gi σ a k) (hm : MS σ o n kd y) : MS τ o n kd y := by
  obtain ⟨h1, h2, h3, h4, h5, h6, h7, h8⟩ := hm
  exact ⟨by rw [h 66 10 (by omega)]; exact h1, fun p hp => by rw [h 73 p (by omega)]; exact h2 p hp, VM_congr h4 (fun k _ => h o k (by omega)) h3, h4, h5, h6, h7, h8⟩
theorem si_si {σ : Mm} {a k : Nat} {v w : Int32} : si (si σ a k v) a k w = si σ a k w := mm_ext (fun b j => by
  simp only [gi_si]
  by_cases c : b = a ∧ j = k
  · rw [if_pos c, if_pos c]
  · rw [if_neg c, if_neg c, if_neg c]) rfl
theorem p_layT_l {N o n p : Nat} {b : Bool} {τ : Mm} {kd : Nat → Nat} {y : Dy} (hR : Rf b τ) (h : MS τ o n kd y) (hp : p < n) (K : Nat → Nat → Int32 → Mm → Option Mm) : ∀ (k i : Nat), i ≤ n → n - i < k → f_X6_layTells_19 N K k 66 o (nI p) (nI i) (si τ 80 p (nI (msk (teB n kd y.1 y.2.1 y.2.2.2 p) i))) = K 66 o (nI (p + 1)) (si τ 80 p (nI (te n kd y.1 y.2.1 y.2.2.2 p))) := by
  have h8 := h.2.2.2.2.2.2.2
  intro k
  induction k with
  | zero => intro i _ h; omega
  | succ k ih =>
    intro i hi hk
    have h4 := h.2.2.2.1
    have hR1 : Rf b (si τ 80 p (nI (msk (teB n kd y.1 y.2.1 y.2.2.2 p) i))) := hR
    have hm1 : MS (si τ 80 p (nI (msk (teB n kd y.1 y.2.1 y.2.2.2 p) i))) o n kd y := MS_congr (σ := τ) (fun a k q => by rw [gi_si, if_neg (by omega)]) h
    have e1 := hm1.1
    have e80 : gi (si τ 80 p (nI (msk (teB n kd y.1 y.2.1 y.2.2.2 p) i))) 80 p = nI (msk (teB n kd y.1 y.2.1 y.2.2.2 p) i) := by rw [gi_si, if_pos ⟨rfl, rfl⟩]
    unfold f_X6_layTells_19
    by_cases e : i = n
    · subst e
      simp (disch := omega) only [↓reduceIte, e1, leT, nI_1]
      rfl
    · have hin : i < n := by omega
      have e56 : ∀ z : Nat, msk (teB n kd y.1 y.2.1 y.2.2.2 p) i ||| z = msk (teB n kd y.1 y.2.1 y.2.2.2 p) (i + 1) → f_X6_layTells_56 N K (f_X6_layTells_19 N K k) 66 o (nI p) (nI i) (nI z) (nI (msk (teB n kd y.1 y.2.1 y.2.2.2 p) i)) (nI p) 80 (si τ 80 p (nI (msk (teB n kd y.1 y.2.1 y.2.2.2 p) i))) = K 66 o (nI (p + 1)) (si τ 80 p (nI (te n kd y.1 y.2.1 y.2.2.2 p))) := fun z hz => by
        unfold f_X6_layTells_56
        simp (disch := omega) only [↓reduceIte, lt, OKm, inbT, ix_nI, nI_or, nI_1, hz, si_si]
        exact ih (i + 1) (by omega) (by omega)
      have eZ : teB n kd y.1 y.2.1 y.2.2.2 p i = false → msk (teB n kd y.1 y.2.1 y.2.2.2 p) i ||| 0 = msk (teB n kd y.1 y.2.1 y.2.2.2 p) (i + 1) := fun hz => by
        show _ = _ ||| (if teB n kd y.1 y.2.1 y.2.2.2 p i then 2 ^ i else 0)
        rw [hz]
        rfl
      have eO : teB n kd y.1 y.2.1 y.2.2.2 p i = true → msk (teB n kd y.1 y.2.1 y.2.2.2 p) i ||| 2 ^ i = msk (teB n kd y.1 y.2.1 y.2.2.2 p) (i + 1) := fun hz => by
        show _ = _ ||| (if teB n kd y.1 y.2.1 y.2.2.2 p i then 2 ^ i else 0)
        rw [hz]
        rfl
      have e55 : teB n kd y.1 y.2.1 y.2.2.2 p i = false → f_X6_layTells_55 N K (f_X6_layTells_19 N K k) 66 o (nI p) (nI i) (nI (msk (teB n kd y.1 y.2.1 y.2.2.2 p) i)) (nI p) 80 (si τ 80 p (nI (msk (teB n kd y.1 y.2.1 y.2.2.2 p) i))) = K 66 o (nI (p + 1)) (si τ 80 p (nI (te n kd y.1 y.2.1 y.2.2.2 p))) := fun hz => e56 0 (eZ hz)
      simp (disch := omega) only [↓reduceIte, e1, leF, ↓BR hR1, OKm, inbT, ix_nI, e80]
      by_cases c : p = i
      · rw [if_pos (by rw [c])]
        exact e55 (by unfold teB; simp [c])
      · rw [if_neg (fun q => c ((nI_eq (by omega) (by omega)).mp q)), bIe (pm_isTold (N := N) hR1 hm1 hp hin c)]
        cases ht : teB n kd y.1 y.2.1 y.2.2.2 p i with
        | false =>
          simp only [Bool.false_eq_true, ↓reduceIte]
          exact e55 ht
        | true =>
          rw [if_pos rfl, if_neg (show ¬ (1 : Int32) = 0 by decide), shl1 _ (by omega)]
          exact e56 (2 ^ i) (eO ht)
theorem pm_layTells {N o n : Nat} {b : Bool} {σ : Mm} {kd : Nat → Nat} {y : Dy} (hN : 20 ≤ N) (hR : Rf b σ) (h : MS σ o n kd y) : f_X6_layTells N 66 o σ = some (blt σ 80 0 n (fun m => nI (te n kd y.1 y.2.1 y.2.2.2 m))) := by
  have h4 := h.2.2.2.1
  have h8 := h.2.2.2.2.2.2.2
  have key : ∀ (k p : Nat), p ≤ n → n - p < k → f_X6_layTells_2 N k 66 o (nI p) (blt σ 80 0 p (fun m => nI (te n kd y.1 y.2.1 y.2.2.2 m))) = some (blt σ 80 0 n (fun m => nI (te n kd y.1 y.2.1 y.2.2.2 m))) := by
    intro k
    induction k with
    | zero => intro i _ h; omega
    | succ k ih =>
      intro p hp hk
      have hR1 : Rf b (blt σ 80 0 p (fun m => nI (te n kd y.1 y.2.1 y.2.2.2 m))) := hR
      have hm1 : MS (blt σ 80 0 p (fun m => nI (te n kd y.1 y.2.1 y.2.2.2 m))) o n kd y := MS_congr (σ := σ) (fun a k q => by rw [gi_blt, if_neg (by omega)]) h
      have e1 := hm1.1
      unfold f_X6_layTells_2
      by_cases e : p = n
      · subst e
        simp (disch := omega) only [↓reduceIte, e1, leT]
      · simp (disch := omega) only [↓reduceIte, e1, leF, ↓BR hR1, OKm, inbT, ix_nI, ↓lt]
        have h3 := p_layT_l (N := N) hR1 hm1 (show p < n by omega) (f_X6_layTells_2 N k) N 0 (by omega) (by omega)
        rw [show (0 : Int32) = nI 0 from rfl, show nI 0 = nI (msk (teB n kd y.1 y.2.1 y.2.2.2 p) 0) from rfl]
        refine h3.trans ?_
        have h5 := blt_s (σ := σ) (a := 80) (lo := 0) (n := p) (g := fun m => nI (te n kd y.1 y.2.1 y.2.2.2 m))
        rw [Nat.zero_add] at h5
        rw [h5]
        exact ih (p + 1) (by omega) (by omega)
  unfold f_X6_layTells
  simp only [↓reduceIte, OKx, ok_o h8]
  have := key N 0 (by omega) (by omega)
  rw [blt_0] at this
  exact this
theorem te_lt {n : Nat} {kd dl sg : Nat → Nat} {no : Bool} {m : Nat} : te n kd dl sg no m < 2 ^ n := msk_lt _ n
theorem GM_lay {o n : Nat} {σ : Mm} {kd : Nat → Nat} {y : Dy} (h : MS σ o n kd y) : GM (blt σ 80 0 n (fun m => nI (te n kd y.1 y.2.1 y.2.2.2 m))) n (te n kd y.1 y.2.1 y.2.2.2) := ⟨by rw [gi_blt, if_neg (by omega)]; exact h.1, fun m hm => by rw [gi_blt, if_pos (by omega), Nat.sub_zero], h.2.2.2.1, fun m _ => te_lt⟩
/-- what is in one set and not in another -/
def anb (a b : Nat) : Nat := msk (fun q => a.testBit q && !b.testBit q) 6
theorem andnot6 : ∀ a : Nat, a < 64 → ∀ b : Nat, b < 64 → nI a &&& (nI b ^^^ -1) = nI (anb a b) := by decide +kernel
theorem anb_lt {a b : Nat} : anb a b < 64 := msk_lt6 _ (Nat.le_refl 6)
theorem p_rch_l {N o n p M all fresh s st : Nat} {b : Bool} {σ : Mm} {T : Nat → Nat} (hR : Rf b σ) (h : GX σ o n T) (hM : M < 64) (ha : all < 2 ^ n) (hf : fresh < 2 ^ n) (K : Nat → Int32 → Int32 → Int32 → Int32 → Int32 → Mm → Option (Int32 × Mm)) : ∀ (k i : Nat), i ≤ n → n - i < k → f_X0_reached_29 N K k o (nI M) (nI st) (nI all) (nI fresh) (nI s) (nI (un (fun m => if fresh.testBit m then T m else 0) i)) (nI i) σ = K o (nI M) (nI st) (nI (all ||| un (fun m => if fresh.testBit m then T m else 0) n)) (nI (msk (fun q => (un (fun m => if fresh.testBit m then T m else 0) n).testBit q && !all.testBit q && M.testBit q) n)) (nI (s + 1)) σ := by
  obtain ⟨h1, h2, h3, h4, h5⟩ := h
  have h6 := pow6 h3
  have hu : ∀ i, i ≤ n → un (fun m => if fresh.testBit m then T m else 0) i < 2 ^ n := fun i hi => un_lt i (fun m hm => by
    show (if fresh.testBit m then T m else 0) < 2 ^ n
    split
    · exact h4 m (by omega)
    · exact Nat.two_pow_pos n)
  intro k
  induction k with
  | zero => intro i _ h; omega
  | succ k ih =>
    intro i hi hk
    unfold f_X0_reached_29
    rw [h1]
    by_cases e : i = n
    · subst e
      have hun := hu i (Nat.le_refl _)
      simp (disch := omega) only [↓reduceIte, leT, lt, nI_1, nI_or]
      rw [andnot6 _ (by omega) _ (by omega), nI_and]
      congr 2
      apply eq_msk
      · refine Nat.lt_of_le_of_lt Nat.and_le_left ?_
        apply Nat.lt_pow_two_of_testBit
        intro q hq
        unfold anb
        rw [msk_tb, Nat.testBit_lt_two_pow (x := un (fun m => if fresh.testBit m then T m else 0) i) (Nat.lt_of_lt_of_le hun (Nat.pow_le_pow_right (by decide) hq))]
        simp
      · intro q hq
        unfold anb
        rw [Nat.testBit_and, msk_tb]
        have : decide (q < 6) = true := by simp; omega
        rw [this, Bool.true_and]
    · have hin : i < n := by omega
      have hd := ok_d h5
      have e60 : ∀ z : Nat, un (fun m => if fresh.testBit m then T m else 0) i ||| z = un (fun m => if fresh.testBit m then T m else 0) (i + 1) → f_X0_reached_60 N K (f_X0_reached_29 N K k) o (nI M) (nI st) (nI all) (nI fresh) (nI s) (nI (un (fun m => if fresh.testBit m then T m else 0) i ||| z)) (nI i) σ = K o (nI M) (nI st) (nI (all ||| un (fun m => if fresh.testBit m then T m else 0) n)) (nI (msk (fun q => (un (fun m => if fresh.testBit m then T m else 0) n).testBit q && !all.testBit q && M.testBit q) n)) (nI (s + 1)) σ := fun z hz => by
        unfold f_X0_reached_60
        rw [hz, nI_1]
        exact ih (i + 1) (by omega) (by omega)
      simp (disch := omega) only [↓reduceIte, leF, ↓bIe (p_holds (N := N) (σ := σ) (S := fresh) (j := i) (by omega) (by omega))]
      cases c : fresh.testBit i with
      | false =>
        simp only [Bool.false_eq_true, ↓reduceIte]
        have := e60 0 (by
          show _ = _ ||| (if fresh.testBit i then T i else 0)
          rw [c]; rfl)
        rw [Nat.or_zero] at this
        exact this
      | true =>
        rw [if_pos rfl, if_neg (by decide)]
        simp (disch := omega) only [↓reduceIte, ↓BRd hR h5, hd, inbT, ix_nI, h2 i hin, lt, nI_or]
        exact e60 (T i) (by
          show _ = _ ||| (if fresh.testBit i then T i else 0)
          rw [c]; rfl)
theorem p_reached {N o n p M st : Nat} {b : Bool} {σ : Mm} {T : Nat → Nat} (hN : 20 ≤ N) (hR : Rf b σ) (h : GX σ o n T) (hp : p < n) (hM : M < 64) (hst : st ≤ 6) : f_X0_reached N o (nI p) (nI M) (nI st) σ = some (nI (LV T n p M st), σ) := by
  have h0 := h
  obtain ⟨h1, h2, h3, h4, h5⟩ := h0
  have h6 := pow6 h3
  have key : ∀ (k i : Nat), i ≤ st → st - i < k → f_X0_reached_12 N k o (nI M) (nI st) (nI (FR T n p M i).1) (nI (FR T n p M i).2) (nI i) σ = some (nI (LV T n p M st), σ) := by
    intro k
    induction k with
    | zero => intro i _ h; omega
    | succ k ih =>
      intro i hi hk
      have f1 := (FR_LV (M := M) h4 hp i).1
      have l1 := LV_lt (M := M) h4 hp i
      have l2 := FR_lt (T := T) (M := M) hp i
      unfold f_X0_reached_12
      by_cases e : i = st
      · subst e
        simp (disch := omega) only [↓reduceIte, leT]
        rw [f1]
      · simp (disch := omega) only [↓reduceIte, leF]
        by_cases ez : (FR T n p M i).2 = 0
        · rw [ez, if_pos (show nI 0 = 0 from rfl), f1]
          have := FR_zero (M := M) h4 hp ez (st - i)
          rw [show i + (st - i) = st by omega] at this
          rw [this]
        · rw [if_neg (show ¬ nI (FR T n p M i).2 = 0 from fun q => ez ((nI_eq (by omega) (by omega)).mp (show nI (FR T n p M i).2 = nI 0 from q)))]
          have := p_rch_l (N := N) (p := p) (M := M) (all := (FR T n p M i).1) (fresh := (FR T n p M i).2) (s := i) (st := st) hR h hM (by rw [f1]; exact l1) l2 (f_X0_reached_12 N k) N 0 (by omega) (by omega)
          rw [show (0 : Int32) = nI 0 from rfl]
          refine this.trans ?_
          exact ih (i + 1) (by omega) (by omega)
  unfold f_X0_reached
  simp only [↓reduceIte, ok_d h5, lt]
  rw [shl1 _ (by omega)]
  exact key N 0 (by omega) (by omega)
theorem p_goes {N o n p q M : Nat} {b : Bool} {σ : Mm} {T : Nat → Nat} (hN : 20 ≤ N) (hR : Rf b σ) (h : GX σ o n T) (hp : p < n) (hq : q < n) (hM : M < 64) : f_X0_goes N o (nI p) (nI q) (nI M) σ = some (if (LV T n p M 6).testBit q then 1 else 0, σ) := by
  have h6 := pow6 h.2.2.1
  have h3 := h.2.2.1
  have l1 := LV_lt (M := M) h.2.2.2.1 hp 6
  unfold f_X0_goes
  rw [if_pos (ok_d h.2.2.2.2).1, show (6 : Int32) = nI 6 from rfl, bIe (p_reached hN hR h hp hM (Nat.le_refl 6)), bIe (p_holds (N := N) (S := LV T n p M 6) (j := q) (by omega) (by omega))]
  cases (LV T n p M 6).testBit q <;> rfl
