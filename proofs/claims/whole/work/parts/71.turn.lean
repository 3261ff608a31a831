/-! ===== PURE: turning all tongues alike ===== -/
theorem turn_eq {x t c : Nat} (hx : x < 4) (ht : t < 4) : ((x + c) % 4 = (t + c) % 4) ↔ x = t := by omega
theorem kn_turn {n : Nat} {kd dl dm : Nat → Nat} {no : Bool} {c p t : Nat} (hd : ∀ q, q < n → dl q < 4) (hm : ∀ q, q < n → dm q = (dl q + c) % 4) (hp : p < n) (ht : t < 4) : (kn n kd dm no p).testBit ((t + c) % 4) = (kn n kd dl no p).testBit t := by
  have e : ∀ x y : Nat, x < 4 → y = (x + c) % 4 → (2 ^ y).testBit ((t + c) % 4) = (2 ^ x).testBit t := by
    intro x y hx hy
    rw [tb_pow, tb_pow, hy]
    exact decide_eq_decide.mpr (turn_eq hx ht)
  have e2 : ∀ (f : Bool) (x y : Nat), x < 4 → y = (x + c) % 4 → (if f then 2 ^ y else 0).testBit ((t + c) % 4) = (if f then 2 ^ x else 0).testBit t := by
    intro f x y hx hy
    cases f with
    | false => rw [if_neg Bool.false_ne_true, if_neg Bool.false_ne_true, Nat.zero_testBit, Nat.zero_testBit]
    | true => rw [if_pos rfl, if_pos rfl]; exact e x y hx hy
  rw [kn_alt, kn_alt, Nat.testBit_or, Nat.testBit_or, Nat.testBit_or, Nat.testBit_or, Nat.testBit_or, Nat.testBit_or, e _ _ (hd p hp) (hm p hp), e2 _ _ _ (hd _ (nxt_lt hp)) (hm _ (nxt_lt hp)), e2 _ ((dl p + 1) % 4) ((dm p + 1) % 4) (by omega) (by rw [hm p hp]; omega), e2 _ _ _ (hd _ (prv_lt hp)) (hm _ (prv_lt hp))]
theorem te_turn {n : Nat} {kd dl dm sg : Nat → Nat} {no : Bool} {c p : Nat} (hd : ∀ q, q < n → dl q < 4) (hm : ∀ q, q < n → dm q = (dl q + c) % 4) (hp : p < n) : te n kd dm sg no p = te n kd dl sg no p := by
  unfold te
  refine msk_congr (fun q hq => ?_)
  unfold teB
  have hdm : ∀ q, q < n → dm q < 4 := fun q hq => by rw [hm q hq]; exact Nat.mod_lt _ (by decide)
  have e : decide (kn n kd dm no p &&& kn n kd dm no q ≠ 0) = decide (kn n kd dl no p &&& kn n kd dl no q ≠ 0) := by
    refine decide_eq_decide.mpr ⟨fun h => ?_, fun h => ?_⟩
    · obtain ⟨u, hu⟩ := ne0_tb h
      rw [Nat.testBit_and, Bool.and_eq_true] at hu
      have hu4 : u < 4 := tb_lt (k := 4) (kn_lt hdm hp) hu.1
      have ex : ∃ t, t < 4 ∧ (t + c) % 4 = u := ⟨(u + 4 - c % 4) % 4, by omega, by omega⟩
      obtain ⟨t, ht, rfl⟩ := ex
      rw [kn_turn hd hm hp ht, kn_turn hd hm hq ht] at hu
      refine tb_ne0 (i := t) ?_
      rw [Nat.testBit_and, hu.1, hu.2]
      rfl
    · obtain ⟨t, hu⟩ := ne0_tb h
      rw [Nat.testBit_and, Bool.and_eq_true] at hu
      have ht : t < 4 := tb_lt (k := 4) (kn_lt hd hp) hu.1
      refine tb_ne0 (i := (t + c) % 4) ?_
      rw [Nat.testBit_and, kn_turn hd hm hp ht, kn_turn hd hm hq ht, hu.1, hu.2]
      rfl
  rw [e]
/-- a number's k digits turned -/
def rotk (c : Nat) : Nat → Nat → Nat
  | 0, _ => 0
  | k + 1, d => 4 * rotk c k (d / 4) + (d % 4 + c) % 4
theorem rotk_dig (c : Nat) : ∀ (k d g : Nat), g < k → rotk c k d / 4 ^ g % 4 = (d / 4 ^ g % 4 + c) % 4 := by
  intro k
  induction k with
  | zero => intro d g h; omega
  | succ k ih =>
    intro d g hg
    cases g with
    | zero =>
      rw [rotk, Nat.pow_zero, Nat.div_one, Nat.div_one]
      omega
    | succ g =>
      have e : rotk c (k + 1) d / 4 = rotk c k (d / 4) := by rw [rotk]; omega
      rw [Nat.pow_succ, Nat.mul_comm (4 ^ g) 4, ← Nat.div_div_eq_div_mul, ← Nat.div_div_eq_div_mul, e]
      exact ih (d / 4) g (by omega)
theorem sum4 (Q : Nat → Nat) : ∀ m, fb_sm Q (4 * m) = fb_sm (fun e => Q (4 * e) + Q (4 * e + 1) + Q (4 * e + 2) + Q (4 * e + 3)) m := by
  intro m
  induction m with
  | zero => rfl
  | succ m ih =>
    rw [show 4 * (m + 1) = 4 * m + 1 + 1 + 1 + 1 by omega, fb_sm_succ, fb_sm_succ, fb_sm_succ, fb_sm_succ, ih, fb_sm_succ]
    omega
theorem sum_rot (c : Nat) : ∀ (k : Nat) (Q : Nat → Nat), fb_sm (fun d => Q (rotk c k d)) (4 ^ k) = fb_sm Q (4 ^ k) := by
  intro k
  induction k with
  | zero => intro Q; rfl
  | succ k ih =>
    intro Q
    have e : ∀ d t, t < 4 → rotk c (k + 1) (4 * d + t) = 4 * rotk c k d + (t + c) % 4 := by
      intro d t ht
      rw [rotk, show (4 * d + t) / 4 = d by omega, show (4 * d + t) % 4 = t by omega]
    rw [Nat.pow_succ, Nat.mul_comm, sum4, sum4, ← ih (fun e => Q (4 * e) + Q (4 * e + 1) + Q (4 * e + 2) + Q (4 * e + 3))]
    refine fb_sm_cong (fun d _ => ?_)
    have e0 : rotk c (k + 1) (4 * d) = 4 * rotk c k d + (0 + c) % 4 := e d 0 (by omega)
    rw [e0, e d 1 (by omega), e d 2 (by omega), e d 3 (by omega)]
    rcases (show c % 4 = 0 ∨ c % 4 = 1 ∨ c % 4 = 2 ∨ c % 4 = 3 by omega) with h | h | h | h
    · rw [show (0 + c) % 4 = 0 by omega, show (1 + c) % 4 = 1 by omega, show (2 + c) % 4 = 2 by omega, show (3 + c) % 4 = 3 by omega, show 4 * rotk c k d + 0 = 4 * rotk c k d from rfl]
    · rw [show (0 + c) % 4 = 1 by omega, show (1 + c) % 4 = 2 by omega, show (2 + c) % 4 = 3 by omega, show (3 + c) % 4 = 0 by omega, show 4 * rotk c k d + 0 = 4 * rotk c k d from rfl]
      omega
    · rw [show (0 + c) % 4 = 2 by omega, show (1 + c) % 4 = 3 by omega, show (2 + c) % 4 = 0 by omega, show (3 + c) % 4 = 1 by omega, show 4 * rotk c k d + 0 = 4 * rotk c k d from rfl]
      omega
    · rw [show (0 + c) % 4 = 3 by omega, show (1 + c) % 4 = 0 by omega, show (2 + c) % 4 = 1 by omega, show (3 + c) % 4 = 2 by omega, show 4 * rotk c k d + 0 = 4 * rotk c k d from rfl]
      omega
/-- what does not change by turning comes four times -/
theorem ct_turn {P : Nat → Bool} {k : Nat} (h : ∀ c d, P (rotk c (k + 1) d) = P d) : fb_ct P (4 ^ (k + 1)) = 4 * fb_ct (fun d => P (4 * d)) (4 ^ k) := by
  have hc : ∀ c, c < 4 → fb_sm (fun e => if P (4 * e + c) then 1 else 0) (4 ^ k) = fb_sm (fun e => if P (4 * e) then 1 else 0) (4 ^ k) := by
    intro c hc
    have z := sum_rot (4 - c) k (fun e => if P (4 * e) then 1 else 0)
    rw [← z]
    refine fb_sm_cong (fun d _ => ?_)
    have e : rotk (4 - c) (k + 1) (4 * d + c) = 4 * rotk (4 - c) k d := by
      rw [rotk, show (4 * d + c) / 4 = d by omega, show (4 * d + c) % 4 = c by omega, show (c + (4 - c)) % 4 = 0 by omega, Nat.add_zero]
    rw [← h (4 - c) (4 * d + c), e]
  rw [← fb_sm_ct, ← fb_sm_ct, Nat.pow_succ, Nat.mul_comm, sum4, fb_sm_add, fb_sm_add, fb_sm_add, hc 1 (by omega), hc 2 (by omega), hc 3 (by omega)]
  omega
theorem LV_T {T U : Nat → Nat} {n p M : Nat} (h : ∀ m, m < n → T m = U m) : ∀ k, LV T n p M k = LV U n p M k := by
  have hu : ∀ (S : Nat) (m : Nat), m ≤ n → un (fun m => if S.testBit m && (decide (m = p) || M.testBit m) then T m else 0) m = un (fun m => if S.testBit m && (decide (m = p) || M.testBit m) then U m else 0) m := by
    intro S m
    induction m with
    | zero => intro _; rfl
    | succ m ih => intro hm; rw [un, un, ih (by omega), h m (by omega)]
  intro k
  induction k with
  | zero => rfl
  | succ k ih =>
    show stepM T n p M (LV T n p M k) = stepM U n p M (LV U n p M k)
    rw [ih]
    unfold stepM
    rw [hu _ n (Nat.le_refl n)]
theorem dl_rot {al : Nat → Nat} {n c d p : Nat} (hal : okAl n al) (hp : p < n) : dlOf al (rotk c (grps al n) d) p = (dlOf al d p + c) % 4 := rotk_dig c _ d _ (grp_ltG hal hp)
theorem te_rot {n c d p : Nat} {kd al sg : Nat → Nat} {no : Bool} (hal : okAl n al) (hp : p < n) : te n kd (dlOf al (rotk c (grps al n) d)) sg no p = te n kd (dlOf al d) sg no p := te_turn (c := c) (fun q _ => dlOf_lt) (fun q hq => dl_rot hal hq) hp
theorem grps_pos {al : Nat → Nat} {n : Nat} (hal : okAl n al) (h : 0 < n) : 0 < grps al n := Nat.lt_of_le_of_lt (Nat.zero_le _) (grp_ltG hal h)
/-- the day thought of: its terms -/
def TR (σ τ : Mm) (n : Nat) (sg : Nat → Nat) (no : Bool) : Prop := Ex σ τ ∧ gi τ 13 5 = nI n ∧ gi τ 13 7 = (if no then 1 else 0) ∧ ∀ p, p < n → gi τ 15 p = nI (sg p)
theorem p_terms {N n : Nat} {b : Bool} {σ : Mm} {kd : Nat → Nat} {y : Dy} (hN : 20 ≤ N) (hR : Rf b σ) (hn : n ≤ 6) (h : YX σ 7 n kd y) : ∃ τ, f_X0_takeTermsFrom N 13 7 σ = some τ ∧ TR σ τ n y.2.1 y.2.2.2 ∧ ∀ k, gi τ 35 k = gi σ 35 k := by
  obtain ⟨h1, h2, h3, h4, h5⟩ := h
  let S : Mm := si (si σ 13 5 (nI n)) 13 7 (if y.2.2.2 then 1 else 0)
  have hs : ∀ a k, a ≠ 13 → gi S a k = gi σ a k := fun a k z => by
    show gi (si (si σ 13 5 (nI n)) 13 7 (if y.2.2.2 then 1 else 0)) a k = _
    rw [gi_si, if_neg (by omega), gi_si, if_neg (by omega)]
  have s5 : gi S 13 5 = nI n := by
    show gi (si (si σ 13 5 (nI n)) 13 7 (if y.2.2.2 then 1 else 0)) 13 5 = _
    rw [gi_si, if_neg (by omega), gi_si, if_pos ⟨rfl, rfl⟩]
  have s7 : gi S 13 7 = (if y.2.2.2 then 1 else 0) := by
    show gi (si (si σ 13 5 (nI n)) 13 7 (if y.2.2.2 then 1 else 0)) 13 7 = _
    rw [gi_si, if_pos ⟨rfl, rfl⟩]
  refine ⟨blt S 15 0 n (fun p => nI (y.2.1 p)), ?_, ⟨⟨rfl, fun a k z => by rw [blt_out (by omega), hs a k (by omega)]⟩, by rw [blt_out (by omega)]; exact s5, by rw [blt_out (by omega)]; exact s7, fun p hp => by rw [blt_in hp]⟩, fun k => by rw [blt_out (by omega), hs _ _ (by omega)]⟩
  unfold f_X0_takeTermsFrom
  rw [if_pos OKx.2.2.2.2.1, if_pos OKx.2.2.2.1, h1]
  simp only [lt]
  have e7 : gi (si σ 13 5 (nI n)) 7 7 = (if y.2.2.2 then 1 else 0) := by rw [gi_si, if_neg (by omega)]; exact h2
  rw [e7, if_pos (bz_ite _)]
  have hRS : Rf b S := hR
  have z := loop (fun f i => f_X0_takeTermsFrom_18 N f 13 7 (nI i) (blt S 15 0 i (fun p => nI (y.2.1 p)))) (some (blt S 15 0 n (fun p => nI (y.2.1 p)))) n ?_ ?_ N 0 (by omega) (by omega)
  · rw [blt_0] at z
    exact z
  · intro f
    unfold f_X0_takeTermsFrom_18
    rw [blt_out (by omega), s5, if_pos (nI_le (Nat.le_refl n) (by omega))]
  · intro f i hi A hA
    unfold f_X0_takeTermsFrom_18
    have g9 : gi (blt S 15 0 i (fun p => nI (y.2.1 p))) 9 i = nI (y.2.1 i) := by rw [blt_out (by omega), hs _ _ (by omega)]; exact (h3 i hi).2
    rw [hA, blt_out (by omega), s5, if_neg (nI_ge hi (by omega))]
    simp (disch := omega) only [↓reduceIte, ↓BR (Rf_blt hRS), OKx, inbT, ix_nI, lt, nI_1, g9]
    rw [show nI (y.2.1 i) = (fun p => nI (y.2.1 p)) i from rfl, blt_s0]
theorem p_think {N n d : Nat} {b : Bool} {σ τ : Mm} {kd al sg sh : Nat → Nat} {no : Bool} (hN : 20 ≤ N) (hR : Rf b σ) (hn : n ≤ 6) (hX : PX σ (pl b) n kd al sg) (hsh : ∀ p, p < n → sh p < 2 ^ n) (h : TR σ τ n sh no) (hd : d < 4096) : ∃ ρ, f_X0_thinkOf N 13 (pl b) (nI d) τ = some ρ ∧ TR σ ρ n sh no ∧ YX ρ 13 n kd (dlOf al d, sh, 0, no) ∧ ∀ k, gi ρ 35 k = gi τ 35 k := by
  have hP := pl_cases b
  obtain ⟨h1, h2, h3, h4⟩ := h
  have hRt := Ex_Rf h1 hR
  have hXt := Ex_PX hP h1 hX
  let τ1 : Mm := blt τ 14 0 n (fun p => nI (dlOf al d p))
  have f1 : ∀ a k, a ≠ 14 → gi τ1 a k = gi τ a k := fun a k z => blt_out z
  have hR1 : Rf b τ1 := hRt
  have hX1 : PX τ1 (pl b) n kd al sg := PX_congr (fun a k z1 z2 => f1 a k (by omega)) hXt
  have d1 : f_X0_dealOut N 13 (pl b) (nI d) τ = some τ1 := p_dealOut (by omega) hRt (Or.inr rfl) hP hXt.1 hn (PX_g hn hXt) hd
  have hno : gi τ1 13 7 = (if no then 1 else 0) := (f1 _ _ (by omega)).trans h3
  have h14 : ∀ q, q < n → gi τ1 14 q = nI (dlOf al d q) := fun q hq => blt_in hq
  have h15 : ∀ q, q < n → gi τ1 15 q = nI (sh q) := fun q hq => (f1 _ _ (by omega)).trans (h4 q hq)
  have d2 : f_X0_settle N 13 (pl b) τ1 = some (setl τ1 13 n kd (dlOf al d, sh, 0, no)) := p_settle (y := (dlOf al d, sh, 0, no)) (by omega) hR1 (Or.inr rfl) (PX_PM hP hn hX1) hno (fun q hq => ⟨h14 q hq, dlOf_lt⟩) (fun q hq => ⟨h15 q hq, hsh q hq⟩)
  have f2 : ∀ a k, a < 14 ∨ a = 15 ∨ 18 < a → gi (setl τ1 13 n kd (dlOf al d, sh, 0, no)) a k = gi τ a k := fun a k z => by rw [setl_out (by omega), f1 a k (by omega)]
  refine ⟨setl τ1 13 n kd (dlOf al d, sh, 0, no), ?_, ⟨⟨h1.1, fun a k z => (f2 a k (by omega)).trans (h1.2 a k z)⟩, (f2 _ _ (by omega)).trans h2, (f2 _ _ (by omega)).trans h3, fun p hp => (f2 _ _ (by omega)).trans (h4 p hp)⟩, setl_YX ((f1 _ _ (by omega)).trans h2) hno (fun p hp => ⟨h14 p hp, h15 p hp⟩), fun k => f2 _ _ (by omega)⟩
  unfold f_X0_thinkOf
  rw [if_pos OKx.2.2.2.2.1, if_pos (ok_p hP).1, bVe d1, bVe d2]
theorem p_turnX {N P n : Nat} {σ : Mm} {al : Nat → Nat} (hP : P = 19 ∨ P = 27) (hg : gi σ P 7 = nI (grps al n)) (hn : n ≤ 6) (h0 : 0 < grps al n) : f_X2_dealsUpToTurning N P σ = some (nI (4 ^ (grps al n - 1)), σ) := by
  have := grps_le al n
  have h4 := pow4_le (show grps al n ≤ 6 by omega)
  unfold f_X2_dealsUpToTurning
  rw [if_pos (ok_p hP).1, bIe (p_dealsX (N := N) hP hg hn), show (4 : Int32) = nI 4 from rfl, pk_div (by omega) (by omega) (by omega)]
  have e : 4 ^ grps al n = 4 ^ (grps al n - 1) * 4 := by
    rw [← Nat.pow_succ, show (grps al n - 1).succ = grps al n by omega]
  rw [e, Nat.mul_div_cancel _ (by decide)]
