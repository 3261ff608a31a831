/-! ===== PURE: part ===== -/
def fct : Nat → Nat
  | 0 => 1
  | k + 1 => fct k * (k + 1)
theorem p_factX {N k : Nat} {σ : Mm} (hN : 20 ≤ N) (hk : k ≤ 7) : f_X5_factorial N (nI k) σ = some (nI (fct k), σ) := by
  unfold f_X5_factorial
  cases k with
  | zero =>
    obtain ⟨N, rfl⟩ : ∃ g, N = g + 1 := ⟨N - 1, by omega⟩
    unfold f_X5_factorial_4
    rw [if_pos (show nI 0 < (2 : Int32) by decide)]
    rfl
  | succ k =>
    refine loop (fun f i => f_X5_factorial_4 N f (nI (k + 1)) (nI (fct (i + 1))) (nI (i + 2)) σ) _ k ?_ ?_ N 0 (by omega) (by omega)
    · intro f
      unfold f_X5_factorial_4
      rw [if_pos (nI_lt (by omega) (by omega))]
    · intro f i hi A hA
      unfold f_X5_factorial_4
      rw [if_neg (nI_nlt (by omega) (by omega)), hA, pk_mul, nI_1]
      rfl
theorem p_factM {N k : Nat} {σ : Mm} (hN : 20 ≤ N) (hk : k ≤ 7) : f_X6_times N (nI k) σ = some (nI (fct k), σ) := by
  unfold f_X6_times
  cases k with
  | zero =>
    obtain ⟨N, rfl⟩ : ∃ g, N = g + 1 := ⟨N - 1, by omega⟩
    unfold f_X6_times_4
    rw [if_pos (show nI 0 < (2 : Int32) by decide)]
    rfl
  | succ k =>
    refine loop (fun f i => f_X6_times_4 N f (nI (k + 1)) (nI (fct (i + 1))) (nI (i + 2)) σ) _ k ?_ ?_ N 0 (by omega) (by omega)
    · intro f
      unfold f_X6_times_4
      rw [if_pos (nI_lt (by omega) (by omega))]
    · intro f i hi A hA
      unfold f_X6_times_4
      rw [if_neg (nI_nlt (by omega) (by omega)), hA, pk_mul, nI_1]
      rfl
/-- the orders in which just the set t comes ahead -/
def wgt (R t : Nat) : Nat := fct (pc 6 t) * fct (pc 6 R - pc 6 t)
def wAll (R t : Nat) : Nat := if anb t R = 0 then wgt R t else 0
def wGood (R : Nat) (P : Nat → Bool) (t : Nat) : Nat := if anb t R = 0 then (if P t then wgt R t else 0) else 0
set_option maxRecDepth 100000 in
theorem wAll_sum : ∀ R : Nat, R < 64 → fb_sm (wAll R) (R + 1) = fct (pc 6 R + 1) := by decide
theorem sub_le {t R : Nat} (ht : t < 64) (h : anb t R = 0) : t ≤ R := by
  apply Classical.byContradiction
  intro hc
  have : t &&& R = t := by
    apply Nat.eq_of_testBit_eq
    intro i
    rw [Nat.testBit_and]
    cases e : t.testBit i with
    | false => rfl
    | true =>
      have hi : i < 6 := tb_lt (k := 6) ht e
      have := anb_tb (a := t) (b := R) hi
      rw [h, Nat.zero_testBit, e] at this
      cases e2 : R.testBit i with
      | true => rfl
      | false => rw [e2] at this; exact Bool.noConfusion this
  have h2 := Nat.and_le_right (n := t) (m := R)
  rw [this] at h2
  omega
theorem pc_sub {t R : Nat} (ht : t < 64) (h : anb t R = 0) : pc 6 t ≤ pc 6 R := fb_ct_sub (fun i hi e => by
  have := anb_tb (a := t) (b := R) hi
  rw [h, Nat.zero_testBit, e] at this
  cases e2 : R.testBit i with
  | true => rfl
  | false => rw [e2] at this; exact Bool.noConfusion this)
theorem sm_stop {f : Nat → Nat} {a c : Nat} (hac : a ≤ c) (h : ∀ t, a ≤ t → t < c → f t = 0) : fb_sm f c = fb_sm f a := by
  obtain ⟨d, rfl⟩ : ∃ d, c = a + d := ⟨c - a, by omega⟩
  rw [fb_sm_split]
  have : fb_sm (fun k => f (a + k)) d = fb_sm (fun _ => 0) d := fb_sm_cong (fun k hk => h (a + k) (by omega) (by omega))
  rw [this, fb_sm_const, Nat.mul_zero, Nat.add_zero]
theorem wGood_le {R : Nat} {P : Nat → Bool} {t : Nat} : wGood R P t ≤ wAll R t := by
  unfold wGood wAll
  split
  · split
    · exact Nat.le_refl _
    · exact Nat.zero_le _
  · exact Nat.le_refl _
set_option maxRecDepth 100000 in
theorem fct_le : ∀ k : Nat, k ≤ 7 → fct k ≤ 5040 := by decide
theorem LV_no {T : Nat → Nat} {n p q k : Nat} (hpq : p ≠ q) : (LV T n p 0 (k + 1)).testBit q = true ↔ (p < n ∧ (T p).testBit q = true) := by
  induction k with
  | zero =>
    show (stepM T n p 0 (2 ^ p)).testBit q = true ↔ _
    rw [stepM_tb]
    constructor
    · rintro (h | ⟨m, m1, m2, m3, m4⟩)
      · rw [tb_pow] at h; exact absurd (of_decide_eq_true h) hpq
      · rw [tb_pow] at m2
        rw [of_decide_eq_true m2]
        exact ⟨m1, m4⟩
    · rintro ⟨h1, h2⟩
      exact Or.inr ⟨p, h1, by rw [tb_pow]; exact decide_eq_true rfl, Or.inl rfl, h2⟩
  | succ k ih =>
    rw [show LV T n p 0 (k + 1 + 1) = stepM T n p 0 (LV T n p 0 (k + 1)) from rfl, stepM_tb, ih]
    constructor
    · rintro (h | ⟨m, m1, m2, m3, m4⟩)
      · exact h
      · rcases m3 with rfl | m3
        · exact ⟨m1, m4⟩
        · rw [Nat.zero_testBit] at m3; exact Bool.noConfusion m3
    · exact fun h => Or.inl h
theorem p_partX {N n p q u R : Nat} {b : Bool} {σ : Mm} {T : Nat → Nat} (hN : 100 ≤ N) (hR : Rf b σ) (h : GX σ 7 n T) (hp : p < n) (hq : q < n) (hu : u < n) (hr : R < 64) : f_X5_part_102 N N 0 (nI p) (nI q) (nI u) (nI R) (nI (pc 6 R)) 0 0 σ = bI (some (nI (fct (pc 6 R + 1)), σ)) (fun r19 t18 => bV (f_X5_tellFraction N 0 (nI (fb_sm (wGood R (fun t => !(LV T n p t 6).testBit q && (LV T n p (t ||| 2 ^ u) 6).testBit q)) (R + 1))) r19 t18) (fun t20 => some ((1), t20))) := by
  have hpcR : pc 6 R ≤ 6 := pc6_le
  have hn := h.2.2.1
  have hu6 := pw6 (show u < 6 by omega)
  refine loop (fun f t => f_X5_part_102 N f 0 (nI p) (nI q) (nI u) (nI R) (nI (pc 6 R)) (nI (fb_sm (wGood R (fun t => !(LV T n p t 6).testBit q && (LV T n p (t ||| 2 ^ u) 6).testBit q)) t)) (nI t) σ) _ (R + 1) ?_ ?_ N 0 (by omega) (by omega)
  · intro f
    unfold f_X5_part_102
    rw [if_pos (nI_lt (by omega) (by omega)), nI_1, bIe (p_factX (N := N) (by omega) (by omega))]
    rfl
  · intro f t ht A hA
    have ht64 : t < 64 := by omega
    have htu : t ||| 2 ^ u < 64 := Nat.or_lt_two_pow (n := 6) ht64 hu6
    unfold f_X5_part_102 f_X5_part_183
    rw [if_neg (nI_nlt (by omega) (by omega)), andnot6 _ ht64 _ hr, hA, fb_sm_succ, nI_1]
    have hal := anb_lt (a := t) (b := R)
    by_cases c : anb t R = 0
    · rw [c, if_pos (show nI 0 = 0 from rfl)]
      simp (disch := omega) only [↓reduceIte, ↓BR hR, OKx]
      rw [bIe (p_goes (N := N) (by omega) hR h hp hq ht64), if10]
      simp (disch := omega) only [↓reduceIte, ↓BR hR, OKx]
      rw [shl1 u (by omega), nI_or, bIe (p_goes (N := N) (by omega) hR h hp hq htu), if10, bIe (p_bitC (N := N) ht64), bIe (p_factX (N := N) (by omega) (by have : pc 6 t ≤ 6 := pc6_le; omega)), nI_subT (pc_sub ht64 c), bIe (p_factX (N := N) (by omega) (by omega)), pk_mul, nI_add]
      simp only [lt]
      have e : wGood R (fun t => !(LV T n p t 6).testBit q && (LV T n p (t ||| 2 ^ u) 6).testBit q) t = if (!(LV T n p t 6).testBit q && (LV T n p (t ||| 2 ^ u) 6).testBit q) then wgt R t else 0 := by
        unfold wGood
        rw [if_pos c]
      rw [e]
      cases (LV T n p t 6).testBit q with
      | true => rfl
      | false =>
        cases (LV T n p (t ||| 2 ^ u) 6).testBit q with
        | false => rfl
        | true => rfl
    · rw [if_neg (nI_ne0 (by omega) (by omega)), show wGood R (fun t => !(LV T n p t 6).testBit q && (LV T n p (t ||| 2 ^ u) 6).testBit q) t = 0 by unfold wGood; rw [if_neg c]]
      rfl
/-- the two counts of the reference -/
def PS (S : Mm) (A B : Nat) : Mm := si (si S 66 31 (nI B)) 66 32 (nI A)
theorem PS_out {S : Mm} {A B a k : Nat} (h : ¬ (a = 66 ∧ (k = 31 ∨ k = 32))) : gi (PS S A B) a k = gi S a k := by
  unfold PS
  rw [gi_si, if_neg (by omega), gi_si, if_neg (by omega)]
theorem PS_31 {S : Mm} {A B : Nat} : gi (PS S A B) 66 31 = nI B := by
  unfold PS
  rw [gi_si, if_neg (by omega), gi_si, if_pos ⟨rfl, rfl⟩]
theorem PS_32 {S : Mm} {A B : Nat} : gi (PS S A B) 66 32 = nI A := by
  unfold PS
  rw [gi_si, if_pos ⟨rfl, rfl⟩]
theorem PS_upd {S : Mm} {A B A2 B2 : Nat} : si (si (PS S A B) 66 32 (nI A2)) 66 31 (nI B2) = PS S A2 B2 := mm_ext (fun c j => by
  unfold PS
  simp only [gi_si]
  by_cases z1 : c = 66 ∧ j = 31
  · rw [if_pos z1, if_neg (by omega), if_pos z1]
  · rw [if_neg z1]
    by_cases z2 : c = 66 ∧ j = 32
    · rw [if_pos z2, if_pos z2]
    · rw [if_neg z2, if_neg z2, if_neg z1, if_neg z2, if_neg z1]) rfl
theorem p_partM {N n p q u R : Nat} {b : Bool} {S : Mm} {T : Nat → Nat} (hN : 100 ≤ N) (hR : Rf b S) (h : GM S n T) (hp : p < n) (hq : q < n) (hu : u < n) (hr : R < 2 ^ n) : f_X6_part_94 N N 66 (nI p) (nI q) (nI u) (nI R) 0 (PS S 0 0) = bI (f_X6_fraction N 66 (nI (fb_sm (wGood R (fun t => !(LV T n p t 6).testBit q && (LV T n p (t ||| 2 ^ u) 6).testBit q)) (2 ^ n))) (nI (fb_sm (wAll R) (2 ^ n))) (PS S (fb_sm (wAll R) (2 ^ n)) (fb_sm (wGood R (fun t => !(LV T n p t 6).testBit q && (LV T n p (t ||| 2 ^ u) 6).testBit q)) (2 ^ n)))) (fun r19 t18 => some (r19, t18)) := by
  obtain ⟨h1, h2, h3, h4⟩ := h
  have h64 := pow6 h3
  have p2n := Nat.two_pow_pos n
  have hpcR : pc 6 R ≤ 6 := pc6_le
  have hu6 := pw6 (show u < 6 by omega)
  refine loop (fun f t => f_X6_part_94 N f 66 (nI p) (nI q) (nI u) (nI R) (nI t) (PS S (fb_sm (wAll R) t) (fb_sm (wGood R (fun t => !(LV T n p t 6).testBit q && (LV T n p (t ||| 2 ^ u) 6).testBit q)) t))) _ (2 ^ n) ?_ ?_ N 0 (Nat.zero_le _) (by omega)
  · intro f
    unfold f_X6_part_94
    rw [bIe (p_everyM (N := N) ((PS_out (by omega)).trans h1) h3), if_pos (nI_lt (by omega) (by omega)), PS_31, PS_32]
  · intro f t ht A hA
    have ht64 : t < 64 := by omega
    have htu : t ||| 2 ^ u < 64 := Nat.or_lt_two_pow (n := 6) ht64 hu6
    generalize hX : PS S (fb_sm (wAll R) t) (fb_sm (wGood R (fun t => !(LV T n p t 6).testBit q && (LV T n p (t ||| 2 ^ u) 6).testBit q)) t) = X
    have hRX : Rf b X := by rw [← hX]; exact hR
    have hGM : GM X n T := ⟨by rw [← hX]; exact (PS_out (by omega)).trans h1, fun m hm => by rw [← hX]; exact (PS_out (by omega)).trans (h2 m hm), h3, h4⟩
    have st : ∀ M, LV T n p M (n - 1) = LV T n p M 6 := fun M => (LV_stable h4 hp (show n - 1 ≤ 6 by omega)).symm
    have hl : ∀ M, LV T n p M 6 < 64 := fun M => Nat.lt_of_lt_of_le (LV_lt h4 hp _) h64
    unfold f_X6_part_94 f_X6_part_208
    have hal := anb_lt (a := t) (b := R)
    rw [bIe (p_everyM (N := N) hGM.1 h3), if_neg (nI_nlt (by omega) (by omega)), andnot6 _ ht64 _ (by omega), hA, fb_sm_succ, fb_sm_succ, nI_1]
    by_cases c : anb t R = 0
    · have fin : ∀ (g : Bool), (!(LV T n p t 6).testBit q && (LV T n p (t ||| 2 ^ u) 6).testBit q) = g → f_X6_part_175 N (f_X6_part_94 N f) 66 (nI p) (nI q) (nI u) (nI R) (nI t) (nI (wgt R t)) (if g then 1 else 0) X = A := by
        intro g hg
        unfold f_X6_part_175 f_X6_part_204 f_X6_part_208
        have e32 : gi X 66 32 = nI (fb_sm (wAll R) t) := by rw [← hX]; exact PS_32
        have e31 : ∀ v, gi (si X 66 32 v) 66 31 = nI (fb_sm (wGood R (fun t => !(LV T n p t 6).testBit q && (LV T n p (t ||| 2 ^ u) 6).testBit q)) t) := fun v => by rw [gi_si, if_neg (by omega), ← hX]; exact PS_31
        have wA : wAll R t = wgt R t := by unfold wAll; rw [if_pos c]
        have wG : wGood R (fun t => !(LV T n p t 6).testBit q && (LV T n p (t ||| 2 ^ u) 6).testBit q) t = if g then wgt R t else 0 := by unfold wGood; rw [if_pos c, ← hg]
        rw [e32, nI_add, nI_1]
        simp only [lt]
        rw [e31, if10, nI_add, hA, fb_sm_succ, fb_sm_succ, wA, wG]
        cases g with
        | true => rw [if_pos rfl, if_pos rfl, ← hX, PS_upd]
        | false => rw [if_neg Bool.false_ne_true, if_neg Bool.false_ne_true, nI_z, ← hX, PS_upd]; rfl
      rw [c, if_pos (show nI 0 = 0 from rfl), bIe (p_bits (by omega) ht64), bIe (p_factM (N := N) (by omega) (by have : pc 6 t ≤ 6 := pc6_le; omega)), bIe (p_bits (by omega) (by omega)), bIe (p_bits (by omega) ht64), nI_subT (pc_sub ht64 c), bIe (p_factM (N := N) (by omega) (by omega)), pk_mul, shl1 u (by omega), nI_or]
      simp only [lt]
      rw [bIe (p_reaches (by omega) hRX hGM hp htu), st, bIe (p_has (N := N) (hl _) (show q < 6 by omega)), if10, bIe (p_reaches (by omega) hRX hGM hp ht64), st, bIe (p_has (N := N) (hl _) (show q < 6 by omega)), if10]
      unfold f_X6_part_174
      rw [← fb_sm_succ, ← fb_sm_succ, ← hA]
      cases c1 : (LV T n p (t ||| 2 ^ u) 6).testBit q with
      | false =>
        rw [if_neg Bool.false_ne_true]
        exact fin false (by rw [c1, Bool.and_false])
      | true =>
        rw [if_pos rfl]
        cases c2 : (LV T n p t 6).testBit q with
        | false =>
          rw [if_neg Bool.false_ne_true]
          exact fin true (by rw [c1, c2]; rfl)
        | true =>
          rw [if_pos rfl]
          exact fin false (by rw [c2]; rfl)
    · rw [if_neg (nI_ne0 (by omega) (by omega)), show wGood R (fun t => !(LV T n p t 6).testBit q && (LV T n p (t ||| 2 ^ u) 6).testBit q) t = 0 by unfold wGood; rw [if_neg c], show wAll R t = 0 by unfold wAll; rw [if_neg c], ← hX]
      rfl
theorem s_part {N : Nat} (hN : 5000 ≤ N) (x z w : Int32) : Sim (f_X5_part N 0 x z w) (f_X6_part N 66 x z w) := by
  intro b σ h
  have hR := h.1
  obtain ⟨n, kd, al, sg, ds, kp, w1, w2, w3⟩ := h.2.2.2.2
  have hs := w2.1.1
  have hn := w1.1
  have hP := pl_cases b
  have h64 := pow6 hn
  have p2n := Nat.two_pow_pos n
  have hMS := TW_MS (b := b) w1 w3
  rcases arg_two x z hn with q | ⟨p, q, hp, hq, hpq, rfl, rfl⟩
  · refine ⟨-1, σ, σ, b, ?_, ?_, h⟩
    · unfold f_X5_part
      rw [if_pos OKx.1, bIe (two_x0 (N := N) hR hs hn q)]
      rfl
    · unfold f_X6_part
      rw [if_pos OKx.2.1, bIe (two_m0 (N := N) w3.1 hn q)]
      rfl
  · have bad : ∀ {w : Int32}, ((w < 0 ∨ nI n ≤ w) ∨ w = nI p ∨ w = nI q) → f_X5_part N 0 (nI p) (nI q) w σ = some (-1, σ) ∧ f_X6_part N 66 (nI p) (nI q) w σ = some (-1, σ) := by
      intro w hw
      by_cases cw : w < 0 ∨ nI n ≤ w
      · constructor
        · unfold f_X5_part
          rw [if_pos OKx.1, bIe (two_x1 (N := N) hR hs hn hp hq hpq), if_neg (show ¬ (1 : Int32) = 0 by decide), BRpl hR, if_pos (ok_p hP).1, bIe (p_hasP0 (N := N) hP (by rw [hs]; exact cw))]
          rfl
        · unfold f_X6_part
          rw [if_pos OKx.2.1, bIe (two_m1 (N := N) w3.1 hn hp hq hpq), if_neg (show ¬ (1 : Int32) = 0 by decide), bIe (p_isPer0 (N := N) w3.1 hn cw)]
          rfl
      · have hw2 := hw.resolve_left cw
        obtain ⟨u, hu, rfl⟩ : ∃ u, u < n ∧ w = nI u := by
          rcases hw2 with e | e
          · exact ⟨p, hp, e⟩
          · exact ⟨q, hq, e⟩
        constructor
        · unfold f_X5_part
          rw [if_pos OKx.1, bIe (two_x1 (N := N) hR hs hn hp hq hpq), if_neg (show ¬ (1 : Int32) = 0 by decide), BRpl hR, if_pos (ok_p hP).1, bIe (p_hasP1 (N := N) hP hs hu hn), if_neg (show ¬ (1 : Int32) = 0 by decide)]
          by_cases c1 : nI u = nI p
          · rw [if_pos c1]
          · rw [if_neg c1, if_pos (hw2.resolve_left c1)]
        · unfold f_X6_part
          rw [if_pos OKx.2.1, bIe (two_m1 (N := N) w3.1 hn hp hq hpq), if_neg (show ¬ (1 : Int32) = 0 by decide), bIe (p_isPer1 (N := N) w3.1 hn hu), if_neg (show ¬ (1 : Int32) = 0 by decide)]
          by_cases c1 : nI u = nI p
          · rw [if_pos c1]
          · rw [if_neg c1, if_pos (hw2.resolve_left c1)]
    by_cases cb : (w < 0 ∨ nI n ≤ w) ∨ w = nI p ∨ w = nI q
    · exact ⟨-1, σ, σ, b, (bad cb).1, (bad cb).2, h⟩
    · obtain ⟨u, hu, rfl⟩ : ∃ u, u < n ∧ w = nI u := by
        rcases arg2 w n (by omega) with e | e
        · exact absurd (Or.inl e) cb
        · exact e
      have hup : u ≠ p := fun e => cb (Or.inr (Or.inl (by rw [e])))
      have huq : u ≠ q := fun e => cb (Or.inr (Or.inr (by rw [e])))
      let T := te n kd (rep al sg ds).1 (rep al sg ds).2.1 (rep al sg ds).2.2.2
      have hGX : GX σ 7 n T := YX_GX hn (Or.inl rfl) w2.2.1
      have hT := hGX.2.2.2.1
      let B := 2 ^ p ||| 2 ^ q ||| 2 ^ u
      have hB : B < 64 := Nat.or_lt_two_pow (n := 6) (Nat.or_lt_two_pow (n := 6) (pw6 (by omega)) (pw6 (by omega))) (pw6 (by omega))
      let R := anb (2 ^ n - 1) B
      have hR2 : R < 2 ^ n := anb_lt2 hn (by omega)
      have hRu : R ||| 2 ^ u < 64 := Nat.or_lt_two_pow (n := 6) (by omega) (pw6 (by omega))
      have hRt : ∀ m, m < n → m ≠ p → m ≠ q → (R ||| 2 ^ u).testBit m = (63 : Nat).testBit m := fun m hm h1 h2 => by
        rw [tb63 (by omega), fb_bit_set, anb_tb (by omega), full_tb hm, Bool.true_and]
        by_cases e : m = u
        · rw [decide_eq_true e, Bool.or_true]
        · have : B.testBit m = false := by
            show (2 ^ p ||| 2 ^ q ||| 2 ^ u).testBit m = false
            rw [Nat.testBit_or, Nat.testBit_or, tb_pow, tb_pow, tb_pow, decide_eq_false (fun z => h1 z.symm), decide_eq_false (fun z => h2 z.symm), decide_eq_false (fun z => e z.symm)]
            rfl
          rw [this]
          rfl
      have go1 : (LV T n p (R ||| 2 ^ u) 6).testBit q = (LV T n p 63 6).testBit q := LV_end hRt 6
      let P : Nat → Bool := fun t => !(LV T n p t 6).testBit q && (LV T n p (t ||| 2 ^ u) 6).testBit q
      let good := fb_sm (wGood R P) (R + 1)
      have hgd : good ≤ 5040 := by
        have e1 : good ≤ fb_sm (wAll R) (R + 1) := fb_sm_le (fun t _ => wGood_le)
        rw [wAll_sum R (by omega)] at e1
        have : pc 6 R ≤ 6 := pc6_le
        have := fct_le (pc 6 R + 1) (by omega)
        omega
      have hfp : 0 < fct (pc 6 R + 1) ∧ fct (pc 6 R + 1) ≤ 5040 := by
        have h6 : pc 6 R ≤ 6 := pc6_le
        refine ⟨?_, fct_le _ (by omega)⟩
        have : ∀ k, 0 < fct k := by
          intro k
          induction k with
          | zero => decide
          | succ k ih => exact Nat.mul_pos ih (by omega)
        exact this _
      have bx : f_X5_part N 0 (nI p) (nI q) (nI u) σ = if (LV T n p 0 6).testBit q then some (-4, σ) else if (LV T n p 63 6).testBit q then some (1, sl (sl σ 0 12 (lN (good / Nat.gcd good (fct (pc 6 R + 1))))) 0 13 (lN (fct (pc 6 R + 1) / Nat.gcd good (fct (pc 6 R + 1))))) else some (-4, σ) := by
        unfold f_X5_part f_X5_part_86
        rw [if_pos OKx.1, bIe (two_x1 (N := N) hR hs hn hp hq hpq), if_neg (show ¬ (1 : Int32) = 0 by decide), BRpl hR, if_pos (ok_p hP).1, bIe (p_hasP1 (N := N) hP hs hu hn), if_neg (show ¬ (1 : Int32) = 0 by decide), if_neg (fun z => hup ((nI_eq (by omega) (by omega)).mp z)), if_neg (fun z => huq ((nI_eq (by omega) (by omega)).mp z)), BRpl hR, if_pos (ok_p hP).1, bIe (p_everyX (N := N) hP hs hn), shl1 p (by omega), shl1 q (by omega), shl1 u (by omega), nI_or, nI_or, andnot6 _ (by omega) _ hB]
        simp only [lt]
        simp (disch := omega) only [↓reduceIte, ↓BR hR, OKx]
        rw [bIe (show f_X0_goes N 7 (nI p) (nI q) (0 : Int32) σ = _ from p_goes (N := N) (M := 0) (by omega) hR hGX hp hq (by decide)), if10]
        simp (disch := omega) only [↓reduceIte, ↓BR hR, OKx]
        rw [nI_or, bIe (p_goes (N := N) (by omega) hR hGX hp hq hRu), if10, bIe (p_bitC (N := N) (show anb (2 ^ n - 1) B < 64 by omega))]
        show (if (LV T n p 0 6).testBit q = true then _ else if (LV T n p (R ||| 2 ^ u) 6).testBit q = true then f_X5_part_102 N N 0 (nI p) (nI q) (nI u) (nI R) (nI (pc 6 R)) 0 0 σ else _) = _
        rw [go1, p_partX (by omega) hR hGX hp hq hu (by omega)]
        show (if (LV T n p 0 6).testBit q = true then _ else if (LV T n p 63 6).testBit q = true then bV (f_X5_tellFraction N 0 (nI good) (nI (fct (pc 6 R + 1))) σ) (fun t20 => some ((1 : Int32), t20)) else _) = _
        rw [bVe (p_fracX (by omega) (by omega) (by omega) hfp.1)]
      have bm : ∀ τ, Em b σ τ → ∃ S, (∀ a k, a ≠ 80 → gi S a k = gi τ a k) ∧ S.2 = τ.2 ∧ f_X6_part N 66 (nI p) (nI q) (nI u) τ = if (LV T n p 0 6).testBit q then some (-4, S) else if (LV T n p 63 6).testBit q then some (1, sl (sl (PS S (fct (pc 6 R + 1)) good) 66 3 (lN (good / Nat.gcd good (fct (pc 6 R + 1))))) 66 4 (lN (fct (pc 6 R + 1) / Nat.gcd good (fct (pc 6 R + 1))))) else some (-4, S) := by
        intro τ em
        have hRt2 := em.2
        have t10 : gi τ 66 10 = nI n := (em.1 _ _ (by omega)).trans w3.1
        have hMt : MS τ 78 n kd (rep al sg ds) := MS_congr (σ := σ) (fun a k z => em.1 a k (by omega)) hMS
        let S : Mm := blt τ 80 0 n (fun m => nI (T m))
        have hGM : GM S n T := GM_lay hMt
        have hRS : Rf b S := hRt2
        refine ⟨S, fun a k z => blt_out z, rfl, ?_⟩
        obtain ⟨r, r1, r2⟩ := p_stepsOf (N := N) (by omega) hRS hGM hp hq
        have a1 : fb_sm (wAll R) (2 ^ n) = fct (pc 6 R + 1) := by
          rw [← wAll_sum R (by omega)]
          exact sm_stop (by omega) (fun t t1 t2 => by
            unfold wAll
            rw [if_neg (fun e => by have := sub_le (by omega) e; omega)])
        have a2 : fb_sm (wGood R P) (2 ^ n) = good := sm_stop (by omega) (fun t t1 t2 => by
            unfold wGood
            rw [if_neg (fun e => by have := sub_le (by omega) e; omega)])
        unfold f_X6_part f_X6_part_58
        rw [if_pos OKx.2.1, bIe (two_m1 (N := N) t10 hn hp hq hpq), if_neg (show ¬ (1 : Int32) = 0 by decide), bIe (p_isPer1 (N := N) t10 hn hu), if_neg (show ¬ (1 : Int32) = 0 by decide), if_neg (fun z => hup ((nI_eq (by omega) (by omega)).mp z)), if_neg (fun z => huq ((nI_eq (by omega) (by omega)).mp z))]
        simp (disch := omega) only [↓reduceIte, ↓BR hRt2, OKm]
        rw [bVe (show f_X6_layTells N 66 78 τ = some S from pm_layTells (by omega) hRt2 hMt), bIe r1, bIe r1]
        have l0 : (LV T n p 63 0).testBit q = false := by
          show (2 ^ p).testBit q = false
          rw [tb_pow]
          exact decide_eq_false hpq
        have l1 : (LV T n p 63 1).testBit q = (LV T n p 0 6).testBit q := by
          rw [Bool.eq_iff_iff, LV_no (k := 5) hpq]
          show (stepM T n p 63 (2 ^ p)).testBit q = true ↔ _
          rw [stepM_tb]
          constructor
          · rintro (e | ⟨m, m1, m2, m3, m4⟩)
            · rw [tb_pow] at e; exact absurd (of_decide_eq_true e) hpq
            · rw [tb_pow] at m2
              rw [of_decide_eq_true m2]
              exact ⟨m1, m4⟩
          · rintro ⟨e1, e2⟩
            exact Or.inr ⟨p, e1, by rw [tb_pow]; exact decide_eq_true rfl, Or.inl rfl, e2⟩
        rcases r2 with ⟨k, k1, rfl, k3, k4⟩ | ⟨rfl, k3⟩
        · have hreach : (LV T n p 63 6).testBit q = true := LV_le (by omega) k3
          rw [if_neg (show ¬ nI k = (-9 : Int32) from fun z => by
            have := congrArg Int32.toInt z
            rw [nI_toInt (by omega)] at this
            exact absurd this (by show ¬ (k : Int) = -9; omega)), hreach]
          by_cases c1 : k = 1
          · subst c1
            rw [← l1, k3, if_pos (show nI 1 = (1 : Int32) from rfl)]
            rfl
          · have hz : (LV T n p 0 6).testBit q = false := by
              rw [← l1]
              by_cases c0 : k = 0
              · subst c0; rw [l0] at k3; exact Bool.noConfusion k3
              · exact k4 1 (by omega)
            rw [hz, if_neg (show ¬ nI k = (1 : Int32) from fun z => c1 ((nI_eq (a := k) (b := 1) (by omega) (by omega)).mp z)), if_neg Bool.false_ne_true, if_pos rfl]
            simp only [lt]
            have h10 : gi (si (si S 66 31 0) 66 32 0) 66 10 = nI n := by rw [gi_si, if_neg (by omega), gi_si, if_neg (by omega)]; exact hGM.1
            rw [bIe (p_everyM (N := N) h10 hn), shl1 p (by omega), shl1 q (by omega), shl1 u (by omega), nI_or, nI_or, andnot6 _ (by omega) _ hB]
            have z := p_partM (N := N) (by omega) hRS hGM hp hq hu hR2
            rw [a1] at z
            have a2' : fb_sm (wGood R (fun t => !(LV T n p t 6).testBit q && (LV T n p (t ||| 2 ^ u) 6).testBit q)) (2 ^ n) = good := a2
            rw [a2', bIe (p_fracM (by omega) (by omega) (by omega) hfp.1)] at z
            exact z
        · rw [if_pos rfl, k3 6]
          have hz : (LV T n p 0 6).testBit q = false := by rw [← l1]; exact k3 1
          rw [hz]
          rfl
      cases c1 : (LV T n p 0 6).testBit q with
      | true =>
        obtain ⟨S, s1, s2, s3⟩ := bm σ (Em_refl hR)
        rw [c1] at bx s3
        refine ⟨-4, σ, S, b, bx, s3, rel_core h (by rw [s2]) (fun a k z => s1 a k (by unfold core at z; omega)) ?_⟩
        have hl := h.2.1.2.2.2
        exact ⟨by show S.2.1 0 12 = S.2.1 66 3; rw [s2]; exact hl.1, by show S.2.1 0 13 = S.2.1 66 4; rw [s2]; exact hl.2⟩
      | false =>
        cases c2 : (LV T n p 63 6).testBit q with
        | false =>
          obtain ⟨S, s1, s2, s3⟩ := bm σ (Em_refl hR)
          rw [c1, c2] at bx s3
          refine ⟨-4, σ, S, b, bx, s3, rel_core h (by rw [s2]) (fun a k z => s1 a k (by unfold core at z; omega)) ?_⟩
          have hl := h.2.1.2.2.2
          exact ⟨by show S.2.1 0 12 = S.2.1 66 3; rw [s2]; exact hl.1, by show S.2.1 0 13 = S.2.1 66 4; rw [s2]; exact hl.2⟩
        | true =>
          rw [c1, c2] at bx
          generalize hσ1 : sl (sl σ 0 12 (lN (good / Nat.gcd good (fct (pc 6 R + 1))))) 0 13 (lN (fct (pc 6 R + 1) / Nat.gcd good (fct (pc 6 R + 1)))) = σ1 at bx
          have em1 : Em b σ σ1 := ⟨fun a k z => by rw [← hσ1]; rfl, by rw [← hσ1]; exact hR⟩
          obtain ⟨S, s1, s2, s3⟩ := bm σ1 em1
          rw [c1, c2] at s3
          refine ⟨1, σ1, _, b, bx, s3, rel_core h ?_ (fun a k z => ?_) ?_⟩
          · show S.2.2 = σ.2.2
            rw [s2, ← hσ1]
            rfl
          · show gi (PS S _ _) a k = gi σ a k
            unfold core at z
            rw [PS_out (by omega), s1 a k (by omega), ← hσ1]
            rfl
          · have e1 : gl S 0 12 = lN (good / Nat.gcd good (fct (pc 6 R + 1))) := by
              show S.2.1 0 12 = _
              rw [s2, ← hσ1]
              rfl
            have e2 : gl S 0 13 = lN (fct (pc 6 R + 1) / Nat.gcd good (fct (pc 6 R + 1))) := by
              show S.2.1 0 13 = _
              rw [s2, ← hσ1]
              rfl
            exact ⟨e1, e2⟩
