/-! ===== PURE: lots ===== -/
theorem p_isDA {N n p : Nat} {b : Bool} {σ : Mm} {al : Nat → Nat} (hR : Rf b σ) (hn : n ≤ 6) (ha : ∀ p, p < n → gi σ 74 p = nI (al p) ∧ al p < 2 ^ n) (hp : p < n) : f_X6_isDealtAs N 66 (nI p) σ = some (if ldB al p then 0 else 1, σ) := by
  obtain ⟨a1, a2⟩ := ha p hp
  have h64 := pow6 hn
  unfold f_X6_isDealtAs
  rw [if_pos OKx.2.1]
  simp (disch := omega) only [↓reduceIte, ↓BR hR, OKm, inbT, ix_nI, a1, shl1]
  rw [show (1 : Int32) = nI 1 from rfl, nI_subT (Nat.two_pow_pos p), fa_mask]
  have e : al p % 2 ^ p < 64 := Nat.lt_of_le_of_lt (Nat.mod_le _ _) (by omega)
  unfold ldB
  by_cases c : al p % 2 ^ p = 0
  · rw [c, if_pos (show nI 0 = 0 from rfl), decide_eq_true rfl]
    rfl
  · rw [if_neg (nI_ne0 (by omega) (by omega)), decide_eq_false c]
    rfl
theorem p_first {N n p : Nat} {σ : Mm} {al : Nat → Nat} (hN : 20 ≤ N) (hn : n ≤ 6) (h : okAl n al) (hp : p < n) : f_X6_firstOf N 66 (nI (al p)) σ = some (nI (ldr al p), σ) := by
  obtain ⟨a1, a2, a3⟩ := ldr_spec (h.1 p hp).2
  have h64 := pow6 hn
  have := (h.1 p hp).1
  unfold f_X6_firstOf
  rw [if_pos OKx.2.1]
  refine loop (fun f i => f_X6_firstOf_2 N f (nI (al p)) (nI i) σ) _ (ldr al p) ?_ ?_ N 0 (by omega) (by omega)
  · intro f
    unfold f_X6_firstOf_2
    rw [bIe (p_has (N := N) (by omega) (show ldr al p < 6 by omega)), if10, a1]
    rfl
  · intro f i hi A hA
    unfold f_X6_firstOf_2
    rw [bIe (p_has (N := N) (by omega) (show i < 6 by omega)), if10, a2 i hi, nI_1, hA]
    rfl
/-- the numbers drawn, the digits they give, the number of a deal made of them -/
def lsq (L : Nat) : Nat → Nat
  | 0 => L
  | j + 1 => lsq L j * 48271 % 2147483647
def dgt (L j : Nat) : Nat := lsq L (j + 1) / 8 % 4
def dOr (L : Nat) : Nat → Nat
  | 0 => 0
  | j + 1 => dOr L j ||| dgt L j * 4 ^ j
theorem lsq_lt {L : Nat} (h : L < 2147483647) : ∀ j, lsq L j < 2147483647 := by
  intro j
  cases j with
  | zero => exact h
  | succ j => exact Nat.mod_lt _ (by decide)
theorem lsq_add (L a : Nat) : ∀ j, lsq L (a + j) = lsq (lsq L a) j := by
  intro j
  induction j with
  | zero => rfl
  | succ j ih =>
    show lsq L (a + j) * 48271 % 2147483647 = lsq (lsq L a) j * 48271 % 2147483647
    rw [ih]
theorem dOr_spec (L : Nat) : ∀ j, j ≤ 6 → dOr L j < 4096 ∧ ∀ g, g < 6 → dOr L j / 4 ^ g % 4 = if g < j then dgt L g else 0 := by
  intro j
  induction j with
  | zero => exact fun _ => ⟨show 0 < 4096 by decide, fun g _ => by rw [dOr, Nat.zero_div]; rfl⟩
  | succ j ih =>
    intro hj
    obtain ⟨i1, i2⟩ := ih (by omega)
    have ht : dgt L j < 4 := Nat.mod_lt _ (by decide)
    have e1 : dgt L j * 4 ^ j < 4096 := by
      have : 4 ^ j ≤ 4 ^ 5 := Nat.pow_le_pow_right (by decide) (by omega)
      calc dgt L j * 4 ^ j ≤ 3 * 4 ^ 5 := Nat.mul_le_mul (by omega) this
      _ < 4096 := by decide
    refine ⟨Nat.or_lt_two_pow (n := 12) i1 e1, fun g hg => ?_⟩
    rw [dOr, dig_or, i2 g hg, dig_one _ hg _ (by omega) _ ht]
    by_cases c : g = j
    · subst c
      rw [if_neg (by omega), if_pos rfl, if_pos (by omega), Nat.zero_or]
    · rw [if_neg c, Nat.or_zero]
      by_cases c2 : g < j
      · rw [if_pos c2, if_pos (by omega)]
      · rw [if_neg c2, if_neg (by omega)]
theorem lot_s {l : Nat} (h : l < 2147483647) : (lN l * (48271 : Int64)) - (lN l * (48271 : Int64)) / (2147483647 : Int64) * (2147483647 : Int64) = lN (l * 48271 % 2147483647) := by
  rw [show (48271 : Int64) = lN 48271 from rfl, show (2147483647 : Int64) = lN 2147483647 from rfl, lN_mul, pk_lRem (by omega) (by omega) (by omega)]
theorem lot_d {l : Nat} (h : l < 2147483647) : ((lN l / (8 : Int64)) - (lN l / (8 : Int64)) / (4 : Int64) * (4 : Int64)).toInt32 = nI (l / 8 % 4) := by
  rw [show (8 : Int64) = lN 8 from rfl, show (4 : Int64) = lN 4 from rfl, pk_lDiv (by omega) (by omega) (by omega), pk_lRem (by omega) (by omega) (by omega), lN_i]
theorem grps_s {al : Nat → Nat} {p : Nat} : grps al (p + 1) = grps al p + (if ldB al p then 1 else 0) := by
  unfold grps
  rw [fa_fb, fa_fb, fb_ct_succ]
theorem grps_le (al : Nat → Nat) (n : Nat) : grps al n ≤ n := fa_cnt_le _ n
theorem grp_ltG {al : Nat → Nat} {n p : Nat} (h : okAl n al) (hp : p < n) : grp al p < grps al n := by
  have a3 := (ldr_spec (h.1 p hp).2).2.2
  have hl := (ldB_iff h (show ldr al p < n by omega)).mpr (ldr_idem h hp)
  unfold grp
  have e : grps al (ldr al p + 1) = grps al (ldr al p) + 1 := by rw [grps_s, hl]; rfl
  have : grps al (ldr al p + 1) ≤ grps al n := by
    unfold grps
    rw [fa_fb, fa_fb]
    exact fb_ct_mono _ (by omega)
  omega
theorem dOr_dl {al : Nat → Nat} {n p L : Nat} (h : okAl n al) (hn : n ≤ 6) (hp : p < n) : dlOf al (dOr L (grps al n)) p = dgt L (grp al p) := by
  unfold dlOf
  have := grps_le al n
  rw [(dOr_spec L _ (by omega)).2 _ (grp_lt hn hp), if_pos (grp_ltG h hp)]
theorem p_lot90 {N c n ct L i : Nat} {b : Bool} {τ : Mm} {al : Nat → Nat} (K : Nat → Int32 → Int32 → Int32 → Int64 → Int32 → Mm → Option (Int32 × Mm)) (hN : 100 ≤ N) (hR : Rf b τ) (hg : gi τ (pl b) 7 = nI (grps al n)) (hn : n ≤ 6) (hL : L < 2147483647) {D : Nat} (hD : D = dOr L (grps al n)) {A : Option (Int32 × Mm)}
    (hA : bV (f_X5_act N 0 (0) (nI D) τ) (fun t7 => bR (gr t7 0 4) (okO 0) (fun o8 => bI (f_X0_goes N o8 (0) (nI (n - 1)) (63) t7) (fun r10 t9 => if r10 = 0 then (K 0 (nI c) (nI (n - 1)) (nI ct) (lN (lsq L (grps al n))) (nI (i + 1)) t9) else (K 0 (nI c) (nI (n - 1)) (nI (ct + 1)) (lN (lsq L (grps al n))) (nI (i + 1)) t9)))) = A) :
    f_X5_lots_90 N K N 0 (nI c) (nI (n - 1)) (nI ct) (lN L) (nI i) 0 0 τ = A := by
  have hP := pl_cases b
  have hG := grps_le al n
  refine loop (fun f j => f_X5_lots_90 N K f 0 (nI c) (nI (n - 1)) (nI ct) (lN (lsq L j)) (nI i) (nI (dOr L j)) (nI j) τ) A (grps al n) ?_ ?_ N 0 (by omega) (by omega)
  · intro f
    unfold f_X5_lots_90 f_X5_lots_165
    rw [BRpl hR, if_pos (ok_p hP).1, hg, if_pos (nI_le (Nat.le_refl _) (by omega)), nI_1, nI_1, ← hD]
    exact hA
  · intro f j hj B hB
    unfold f_X5_lots_90
    have hl := lsq_lt hL j
    have e1 : 2 ^ (2 * j) ≤ 2 ^ 10 := Nat.pow_le_pow_right (by decide) (by omega)
    have ht : dgt L j < 4 := Nat.mod_lt _ (by decide)
    have e2 : dgt L j * 2 ^ (2 * j) < 2 ^ 32 := by
      calc dgt L j * 2 ^ (2 * j) ≤ 3 * 2 ^ 10 := Nat.mul_le_mul (by omega) e1
      _ < 2 ^ 32 := by decide
    rw [BRpl hR, if_pos (ok_p hP).1, hg, if_neg (nI_ge hj (by omega)), lot_s hl]
    simp only [lt]
    rw [lot_d (Nat.mod_lt _ (by decide)), show lsq L j * 48271 % 2147483647 / 8 % 4 = dgt L j from rfl, show (2 : Int32) = nI 2 from rfl, pk_mul, pk_shlN _ (2 * j) (sh31 _ (by omega)) e2, nI_or, nI_1, hB, Nat.pow_mul]
    rfl
theorem p_lot70 {N c n ct L i m : Nat} {b : Bool} {τ : Mm} {kd al : Nat → Nat} {y : Dy} (K : Nat → Int32 → Int64 → Int32 → Int32 → Mm → Option (Int32 × Mm)) (hN : 100 ≤ N) (hR : Rf b τ) (h10 : gi τ 66 10 = nI n) (hn : n ≤ 6) (hn0 : 0 < n) (hal : okAl n al) (ha : ∀ p, p < n → gi τ 74 p = nI (al p)) (h12 : gi τ 78 12 = nI m) (hL : L < 2147483647) {ρ : Mm} (hρ : ρ = si (si (blt τ 78 0 n (fun q => nI (dgt L (grp al q)))) 78 12 (nI (m + 1))) 78 13 0) (hMS : MS ρ 78 n kd y) :
    f_X6_lots_70 N K N 66 (nI c) (lN L) (nI ct) (nI i) 0 τ = K 66 (nI c) (lN (lsq L (grps al n))) (nI (ct + (if (LV (te n kd y.1 y.2.1 y.2.2.2) n 0 63 6).testBit (n - 1) then 1 else 0))) (nI (i + 1)) (blt ρ 80 0 n (fun m => nI (te n kd y.1 y.2.1 y.2.2.2 m))) := by
  have h64 := pow6 hn
  have z := loop (fun f p => f_X6_lots_70 N K f 66 (nI c) (lN (lsq L (grps al p))) (nI ct) (nI i) (nI p) (blt τ 78 0 p (fun q => nI (dgt L (grp al q))))) (K 66 (nI c) (lN (lsq L (grps al n))) (nI (ct + (if (LV (te n kd y.1 y.2.1 y.2.2.2) n 0 63 6).testBit (n - 1) then 1 else 0))) (nI (i + 1)) (blt ρ 80 0 n (fun m => nI (te n kd y.1 y.2.1 y.2.2.2 m)))) n ?_ ?_ N 0 (by omega) (by omega)
  · rw [blt_0] at z
    exact z
  · intro f
    unfold f_X6_lots_70 f_X6_lots_202
    have q10 : gi (blt τ 78 0 n (fun q => nI (dgt L (grp al q)))) 66 10 = nI n := by rw [blt_out (by omega)]; exact h10
    have q12 : gi (blt τ 78 0 n (fun q => nI (dgt L (grp al q)))) 78 12 = nI m := by rw [gi_blt, if_neg (by omega)]; exact h12
    have hRρ : Rf b ρ := by rw [hρ]; exact hR
    have hGM := GM_lay hMS
    have hRl : Rf b (blt ρ 80 0 n (fun m => nI (te n kd y.1 y.2.1 y.2.2.2 m))) := hRρ
    have hl10 := hGM.1
    rw [q10, if_pos (nI_le (Nat.le_refl n) (by omega)), show (12 : Int32) = nI 12 from rfl, show (13 : Int32) = nI 13 from rfl]
    simp (disch := omega) only [↓reduceIte, ↓BR (Rf_blt hR), ↓BRs, OKm, inbT, ix_nI, lt, q12, nI_1]
    rw [← hρ, bVe (pm_layTells (by omega) hRρ hMS), bIe (p_everyM (N := N) hl10 hn), bIe (show f_X6_reaches N 66 (0 : Int32) (nI (2 ^ n - 1)) _ = _ from p_reaches (p := 0) (by omega) hRl hGM hn0 (by omega)), hl10, show nI n - (1 : Int32) = nI (n - 1) from nI_subT (b := 1) hn0, LV_all hn, bIe (p_has (N := N) (Nat.lt_of_lt_of_le (LV_lt hGM.2.2.2 hn0 _) h64) (show n - 1 < 6 by omega)), if10, ← LV_stable (T := te n kd y.1 y.2.1 y.2.2.2) (M := 63) hGM.2.2.2 hn0 (show n - 1 ≤ 6 by omega)]
    cases (LV (te n kd y.1 y.2.1 y.2.2.2) n 0 63 6).testBit (n - 1) with
    | false => rw [if_neg Bool.false_ne_true, if_neg Bool.false_ne_true, nI_z]; rfl
    | true => rw [if_pos rfl, if_pos rfl]
  · intro f p hp B hB
    unfold f_X6_lots_70 f_X6_lots_141
    have q10 : gi (blt τ 78 0 p (fun q => nI (dgt L (grp al q)))) 66 10 = nI n := by rw [blt_out (by omega)]; exact h10
    have q74 : ∀ q, q < n → gi (blt τ 78 0 p (fun q => nI (dgt L (grp al q)))) 74 q = nI (al q) ∧ al q < 2 ^ n := fun q hq => ⟨by rw [blt_out (by omega)]; exact ha q hq, (hal.1 q hq).1⟩
    have a3 := (ldr_spec (hal.1 p hp).2).2.2
    rw [q10, if_neg (nI_ge hp (by omega)), bIe (p_isDA (N := N) (Rf_blt hR) hn q74 hp), hB]
    cases hl : ldB al p with
    | true =>
      have e : ldr al p = p := (ldB_iff hal hp).mp hl
      have e2 : grp al p = grps al p := by unfold grp; rw [e]
      rw [if_pos rfl, if_pos rfl, Int64.mul_comm, lot_s (lsq_lt hL _)]
      simp (disch := omega) only [↓reduceIte, ↓BR (Rf_blt hR), OKm, inbT, ix_nI, lt, nI_1]
      rw [lot_d (Nat.mod_lt _ (by decide)), grps_s, hl, if_pos rfl, show lsq L (grps al p) * 48271 % 2147483647 / 8 % 4 = dgt L (grps al p) from rfl, ← e2, show nI (dgt L (grp al p)) = (fun q => nI (dgt L (grp al q))) p from rfl, blt_s0]
      rfl
    | false =>
      have e : ldr al p < p := by
        have : ¬ ldr al p = p := fun q => by rw [(ldB_iff hal hp).mpr q] at hl; exact Bool.noConfusion hl
        omega
      have e2 : grp al (ldr al p) = grp al p := grp_same (ldr_idem hal hp)
      have q78 : gi (blt τ 78 0 p (fun q => nI (dgt L (grp al q)))) 78 (ldr al p) = nI (dgt L (grp al p)) := by rw [blt_in e, e2]
      rw [if_neg Bool.false_ne_true, if_neg (show ¬ (1 : Int32) = 0 by decide)]
      simp (disch := omega) only [↓reduceIte, ↓BR (Rf_blt hR), OKm, inbT, ix_nI, (q74 p hp).1]
      rw [bIe (p_first (N := N) (by omega) hn hal hp)]
      simp (disch := omega) only [↓reduceIte, inbT, ix_nI, q78, lt, nI_1]
      rw [grps_s, hl, if_neg Bool.false_ne_true, show nI (dgt L (grp al p)) = (fun q => nI (dgt L (grp al q))) p from rfl, blt_s0]
      rfl
/-- the mornings by lots -/
def lotW (G L : Nat) : Nat → Dd
  | 0 => []
  | i + 1 => lotW G L i ++ [(0, dOr (lsq L (i * G)) G)]
theorem lotW_len (G L : Nat) : ∀ i, (lotW G L i).length = i := by
  intro i
  induction i with
  | zero => rfl
  | succ i ih => rw [lotW, List.length_append, ih]; rfl
theorem lotW_ok {n G L : Nat} (hG : G ≤ 6) : ∀ i, ∀ w ∈ lotW G L i, okD n w := by
  intro i
  induction i with
  | zero => intro w hw; exact absurd hw (by simp [lotW])
  | succ i ih =>
    intro w hw
    rcases List.mem_append.mp hw with q | q
    · exact ih w q
    · rw [List.mem_singleton.mp q]
      exact ⟨Nat.zero_le 2, fun _ => (dOr_spec _ _ hG).1, fun z => absurd z (show ¬ (0 : Nat) = 1 by decide), fun z => absurd z (show ¬ (0 : Nat) = 2 by decide)⟩
theorem s_lots {N : Nat} (hN : 100 ≤ N) (x s : Int32) : Sim (f_X5_lots N 0 x s) (f_X6_lots N 66 x s) := by
  intro b σ h
  have hR := h.1
  obtain ⟨n, kd, al, sg, ds, kp, w1, w2, w3⟩ := h.2.2.2.2
  have hs := w2.1.1
  have hn := w1.1
  have hP := pl_cases b
  have hl := w1.2.2.2.2.2.1
  have hal := okW_al w1
  have hG := grps_le al n
  -- the arguments
  have ax : (x < 1 ∨ nI 21 ≤ x) ∨ ∃ c, 1 ≤ c ∧ c ≤ 20 ∧ x = nI c := by
    rcases arg2 x 21 (by omega) with (q | q) | ⟨k, hk, rfl⟩
    · exact Or.inl (Or.inl (Int32.lt_trans q (by decide)))
    · exact Or.inl (Or.inr q)
    · by_cases c : k = 0
      · subst c; exact Or.inl (Or.inl (by decide))
      · exact Or.inr ⟨k, by omega, by omega, rfl⟩
  rcases ax with q | ⟨c, c1, c2, rfl⟩
  · refine ⟨-1, σ, σ, b, ?_, ?_, h⟩
    · unfold f_X5_lots
      rw [if_pos OKx.1]
      by_cases d : x < 1
      · rw [if_pos d]
      · rw [if_neg d, if_pos (show (20 : Int32) < x from le_lt6 (n := 20) (by decide) (q.resolve_left d))]
    · unfold f_X6_lots
      rw [if_pos OKx.2.1, bIe (show f_X6_in N x 1 (20 : Int32) σ = some (0, σ) from p_in0 (q.imp id (fun z => le_lt6 (n := 20) (by decide) z)))]
      rfl
  · have pin : ∀ τ, f_X6_in N (nI c) 1 (20 : Int32) τ = some (1, τ) := fun τ => p_in1 (nI_nlt (b := 1) c1 (by omega)) (nI_nlt (a := 20) (b := c) (by omega) (by omega))
    have x1 : ¬ nI c < (1 : Int32) := nI_nlt (b := 1) c1 (by omega)
    have x2 : ¬ (20 : Int32) < nI c := nI_nlt (a := 20) (b := c) (by omega) (by omega)
    have as : (s < 1 ∨ nI 2147483647 ≤ s) ∨ ∃ L, 1 ≤ L ∧ L < 2147483647 ∧ s = nI L := by
      rcases arg2 s 2147483647 (by omega) with (q | q) | ⟨k, hk, rfl⟩
      · exact Or.inl (Or.inl (Int32.lt_trans q (by decide)))
      · exact Or.inl (Or.inr q)
      · by_cases e : k = 0
        · subst e; exact Or.inl (Or.inl (by decide))
        · exact Or.inr ⟨k, by omega, hk, rfl⟩
    rcases as with q | ⟨L, l1, l2, rfl⟩
    · refine ⟨-1, σ, σ, b, ?_, ?_, h⟩
      · unfold f_X5_lots
        rw [if_pos OKx.1, if_neg x1, if_neg x2]
        by_cases d : s < 1
        · rw [if_pos d]
        · have d2 := q.resolve_left d
          rw [if_neg d, if_neg (fun z => by
            have z1 := (lg_cmp_lt _ _).mp z
            rw [show (2147483647 : Int64) = (nI 2147483647).toInt64 from rfl, fa_wide_lt] at z1
            exact absurd z1 (Int32.not_lt.mpr d2))]
      · unfold f_X6_lots
        rw [if_pos OKx.2.1, bIe (pin σ), if_neg (show ¬ (1 : Int32) = 0 by decide), bIe (show f_X6_in N s 1 (2147483646 : Int32) σ = some (0, σ) from p_in0 (q.imp id (fun z => le_lt6 (n := 2147483646) (by decide) z)))]
        rfl
    · have sin : ∀ τ, f_X6_in N (nI L) 1 (2147483646 : Int32) τ = some (1, τ) := fun τ => p_in1 (nI_nlt (b := 1) l1 (by omega)) (nI_nlt (a := 2147483646) (b := L) (by omega) (by omega))
      have s1 : ¬ nI L < (1 : Int32) := nI_nlt (b := 1) l1 (by omega)
      have s2 : lg_cmp (nI L).toInt64 (2147483647 : Int64) < 0 := (lg_cmp_lt _ _).mpr (by
        rw [show (2147483647 : Int64) = (nI 2147483647).toInt64 from rfl, fa_wide_lt]
        exact nI_lt l2 (by omega))
      have bx : f_X5_lots N 0 (nI c) (nI L) σ = if 2 ≤ n then (if ds.length + c ≤ 40 then f_X5_lots_78 N N 0 (nI c) (nI (n - 1)) 0 (lN L) 0 σ else some (-2, σ)) else some (-4, σ) := by
        unfold f_X5_lots
        rw [if_pos OKx.1, if_neg x1, if_neg x2, if_neg s1, if_pos s2, BRpl hR, if_pos (ok_p hP).1, hs]
        by_cases d : 2 ≤ n
        · rw [if_pos (show (2 : Int32) ≤ nI n from nI_le (a := 2) d (by omega)), if_pos d]
          simp (disch := omega) only [↓reduceIte, ↓BR hR, OKx, w2.2.2.2.1.1, nI_add]
          by_cases d2 : ds.length + c ≤ 40
          · rw [if_pos (show nI (ds.length + c) ≤ (40 : Int32) from nI_le (b := 40) d2 (by omega)), if_pos d2]
            change (if okO 2 (pl b) = true then lt (gi σ (pl b) 8 - 1) _ else none) = _
            rw [if_pos (ok_p hP).1, hs, show nI n - (1 : Int32) = nI (n - 1) from nI_subT (b := 1) (by omega), nI_l (by omega)]
            rfl
          · rw [if_neg (show ¬ nI (ds.length + c) ≤ (40 : Int32) from nI_ge (a := 40) (by omega) (by omega)), if_neg d2]
        · rw [if_neg (show ¬ (2 : Int32) ≤ nI n from nI_ge (b := 2) (by omega) (by omega)), if_neg d]
      have bm : ∀ τ, gi τ 66 10 = nI n → gi τ 66 22 = nI ds.length → f_X6_lots N 66 (nI c) (nI L) τ = if 2 ≤ n then (if ds.length + c ≤ 40 then f_X6_lots_57 N N 66 (nI c) (lN L) 0 0 τ else some (-2, τ)) else some (-4, τ) := by
        intro τ t10 t22
        unfold f_X6_lots
        rw [if_pos OKx.2.1, bIe (pin τ), if_neg (show ¬ (1 : Int32) = 0 by decide), bIe (sin τ), if_neg (show ¬ (1 : Int32) = 0 by decide), t10, t22, nI_add, nI_l (by omega)]
        by_cases d : 2 ≤ n
        · rw [if_pos (show (2 : Int32) ≤ nI n from nI_le (a := 2) d (by omega)), if_pos d]
          by_cases d2 : ds.length + c ≤ 40
          · rw [if_pos (show nI (ds.length + c) ≤ (40 : Int32) from nI_le (b := 40) d2 (by omega)), if_pos d2]
            rfl
          · rw [if_neg (show ¬ nI (ds.length + c) ≤ (40 : Int32) from nI_ge (a := 40) (by omega) (by omega)), if_neg d2]
        · rw [if_neg (show ¬ (2 : Int32) ≤ nI n from nI_ge (b := 2) (by omega) (by omega)), if_neg d]
      by_cases d : 2 ≤ n
      · by_cases d2 : ds.length + c ≤ 40
        · rw [if_pos d, if_pos d2] at bx
          let G : Nat := grps al n
          have hG6 : G ≤ 6 := Nat.le_trans hG hn
          let D : Nat → Dd := fun i => ds ++ lotW G L i
          have hDs : ∀ i, D (i + 1) = D i ++ [(0, dOr (lsq L (i * G)) G)] := fun i => by
            show ds ++ (lotW G L i ++ _) = ds ++ lotW G L i ++ _
            rw [List.append_assoc]
          have hDl : ∀ i, (D i).length = ds.length + i := fun i => by
            show (ds ++ lotW G L i).length = _
            rw [List.length_append, lotW_len]
          have hDok : ∀ i, ∀ w ∈ D i, okD n w := fun i w hw => by
            rcases List.mem_append.mp hw with q | q
            · exact w1.2.2.2.2.2.2.1 w q
            · exact lotW_ok hG6 i w q
          have hwok : ∀ i, okD n (0, dOr (lsq L (i * G)) G) := fun i => lotW_ok (L := lsq L (i * G)) hG6 1 _ (by
            show _ ∈ [] ++ [(0, dOr (lsq (lsq L (i * G)) (0 * G)) G)]
            rw [Nat.zero_mul]
            exact List.mem_singleton.mpr rfl)
          let y : Nat → Dy := fun i => rep al sg (D i)
          have hdy : ∀ i, okDy n (D i).length (y i) := fun i => okDy_rep (al := al) (n := n) w1.2.2.1 (D i) (hDok i)
          let go : Nat → Bool := fun i => (LV (te n kd (y (i + 1)).1 (y (i + 1)).2.1 (y (i + 1)).2.2.2) n 0 63 6).testBit (n - 1)
          have hlst : ∀ i, lsq L ((i + 1) * G) = lsq (lsq L (i * G)) G := fun i => by rw [Nat.add_mul, Nat.one_mul, lsq_add]
          -- the class
          have mx : ∀ (f i : Nat) (τ : Mm), i ≤ c → c - i < f → τ.2 = σ.2 → (∀ a k, a < 4 ∨ 12 < a → gi τ a k = gi σ a k) → DX τ 4 (D i) → YX τ 7 n kd (y i) → gi τ 7 6 = nI (y i).2.2.1 → ∃ ρ, f_X5_lots_78 N f 0 (nI c) (nI (n - 1)) (nI (fb_ct go i)) (lN (lsq L (i * G))) (nI i) τ = some (nI (fb_ct go c), ρ) ∧ ρ.2 = σ.2 ∧ (∀ a k, a < 4 ∨ 12 < a → gi ρ a k = gi σ a k) ∧ DX ρ 4 (D c) ∧ YX ρ 7 n kd (y c) ∧ gi ρ 7 6 = nI (y c).2.2.1 := by
            intro f
            induction f with
            | zero => intro i τ _ z; omega
            | succ f ih =>
              intro i τ hi hf e2 ef eD eY em
              unfold f_X5_lots_78
              by_cases e : i = c
              · subst e
                exact ⟨τ, by rw [if_pos (nI_le (Nat.le_refl i) (by omega))], e2, ef, eD, eY, em⟩
              · have hRt : Rf b τ := Rf_eq (by rw [e2]) hR
                have hXt : PX τ (pl b) n kd al sg := PX_congr (fun a k z1 z2 => ef a k (by omega)) w2.1
                obtain ⟨ρ, r1, r2, r3, r4, r5, r6⟩ := p_act (N := N) (w := (0, dOr (lsq L (i * G)) G)) hN hRt hn hXt eD eY em (by rw [hDl]; omega) (hDok i) (hwok i) w1.2.2.1
                rw [← hDs] at r4 r5 r6
                have hRr : Rf b ρ := Rf_eq (by rw [r2]) hRt
                obtain ⟨ρ2, u1, u2⟩ := ih (i + 1) ρ (by omega) (by omega) (r2.trans e2) (fun a k z => (r3 a k z).trans (ef a k z)) r4 r5 r6
                refine ⟨ρ2, ?_, u2⟩
                rw [if_neg (nI_ge (by omega) (by omega))]
                refine p_lot90 (al := al) _ hN hRt hXt.2.1 hn (lsq_lt l2 _) (D := dOr (lsq L (i * G)) G) rfl ?_
                rw [bVe (show f_X5_act N 0 0 (nI (dOr (lsq L (i * G)) G)) τ = some ρ from r1)]
                simp (disch := omega) only [↓reduceIte, ↓BR hRr, OKx]
                rw [bIe (show f_X0_goes N 7 (0 : Int32) (nI (n - 1)) (63 : Int32) ρ = _ from p_goes (p := 0) (M := 63) (by omega) hRr (YX_GX hn (Or.inl rfl) r5) (by omega) (by omega) (by decide)), if10]
                rw [hlst, fb_ct_succ] at u1
                change (if go i = true then _ else _) = _
                cases hgo : go i with
                | false =>
                  rw [hgo, if_neg Bool.false_ne_true] at u1
                  rw [if_neg Bool.false_ne_true]
                  exact u1
                | true =>
                  rw [hgo, if_pos rfl] at u1
                  rw [if_pos rfl]
                  exact u1
          obtain ⟨τ, t1, t2, t3, t4, t5, t6⟩ := mx N 0 σ (by omega) (by omega) rfl (fun _ _ _ => rfl) (by show DX σ 4 (ds ++ []); rw [List.append_nil]; exact w2.2.2.2.1) (by show YX σ 7 n kd (rep al sg (ds ++ [])); rw [List.append_nil]; exact w2.2.1) (by show _ = nI (rep al sg (ds ++ [])).2.2.1; rw [List.append_nil]; exact w2.2.2.1)
          rw [Nat.zero_mul] at t1
          have hRt : Rf b τ := Rf_eq (by rw [t2]) hR
          have w3t : TWm τ n kd al sg ds kp := TWm_congr (σ := σ) hn (fun a k z => t3 a k (by omega)) w3
          -- the reference
          have mm : ∀ (f i : Nat) (ρ : Mm), i ≤ c → c - i < f → ρ.2 = τ.2 → (∀ a k, a ≠ 78 → a ≠ 80 → a ≠ 81 → ¬ (a = 66 ∧ k = 22) → gi ρ a k = gi τ a k) → TWm ρ n kd al sg (D i) kp → ∃ ρ2, f_X6_lots_57 N f 66 (nI c) (lN (lsq L (i * G))) (nI (fb_ct go i)) (nI i) ρ = some (nI (fb_ct go c), ρ2) ∧ ρ2.2 = τ.2 ∧ (∀ a k, a ≠ 78 → a ≠ 80 → a ≠ 81 → ¬ (a = 66 ∧ k = 22) → gi ρ2 a k = gi τ a k) ∧ TWm ρ2 n kd al sg (D c) kp := by
            intro f
            induction f with
            | zero => intro i ρ _ z; omega
            | succ f ih =>
              intro i ρ hi hf e2 ef eT
              unfold f_X6_lots_57
              by_cases e : i = c
              · subst e
                exact ⟨ρ, by rw [if_pos (nI_le (Nat.le_refl i) (by omega))], e2, ef, eT⟩
              · have hRr : Rf b ρ := Rf_eq (by rw [e2]) hRt
                have hlen : (D i).length < 40 := by rw [hDl]; omega
                let ρ1 : Mm := si (si (blt (rm ρ (D i).length) 78 0 n (fun q => nI (dgt (lsq L (i * G)) (grp al q)))) 78 12 (nI ((y i).2.2.1 + 1))) 78 13 0
                have f1 : ∀ a k, a ≠ 78 → gi ρ1 a k = gi (rm ρ (D i).length) a k := fun a k z => by
                  show gi (si (si (blt (rm ρ (D i).length) 78 0 n (fun q => nI (dgt (lsq L (i * G)) (grp al q)))) 78 12 (nI ((y i).2.2.1 + 1))) 78 13 0) a k = _
                  rw [gi_si, if_neg (by omega), gi_si, if_neg (by omega), blt_out z]
                have f8 : ∀ k, k < 12 → gi ρ1 78 k = gi (blt (rm ρ (D i).length) 78 0 n (fun q => nI (dgt (lsq L (i * G)) (grp al q)))) 78 k := fun k z => by
                  show gi (si (si (blt (rm ρ (D i).length) 78 0 n (fun q => nI (dgt (lsq L (i * G)) (grp al q)))) 78 12 (nI ((y i).2.2.1 + 1))) 78 13 0) 78 k = _
                  rw [gi_si, if_neg (by omega), gi_si, if_neg (by omega)]
                have hrep : y (i + 1) = (dlOf al (dOr (lsq L (i * G)) G), (y i).2.1, (y i).2.2.1 + 1, false) := by
                  show rep al sg (D (i + 1)) = _
                  rw [hDs, rep_snoc]
                  rfl
                have hvm : VM n (rep al sg (D i ++ [(0, dOr (lsq L (i * G)) G)])) (gi ρ1 78) := by
                  rw [← hDs]
                  show VM n (y (i + 1)) (gi ρ1 78)
                  rw [hrep]
                  refine ⟨fun p hp => ⟨?_, ?_⟩, ?_, ?_⟩
                  · rw [f8 _ (by omega), blt_in hp]
                    show _ = nI (dlOf al (dOr (lsq L (i * G)) G) p)
                    rw [dOr_dl hal hn hp]
                  · rw [f8 _ (by omega), gi_blt, if_neg (by omega), rm_out (by omega) (by omega)]
                    exact (eT.2.2.2.1.1 p hp).2
                  · show gi (si (si (blt (rm ρ (D i).length) 78 0 n (fun q => nI (dgt (lsq L (i * G)) (grp al q)))) 78 12 (nI ((y i).2.2.1 + 1))) 78 13 0) 78 12 = _
                    rw [gi_si, if_neg (by omega), gi_si, if_pos ⟨rfl, rfl⟩]
                  · show gi (si (si (blt (rm ρ (D i).length) 78 0 n (fun q => nI (dgt (lsq L (i * G)) (grp al q)))) 78 12 (nI ((y i).2.2.1 + 1))) 78 13 0) 78 13 = _
                    rw [gi_si, if_pos ⟨rfl, rfl⟩]
                    rfl
                have hT1 : TWm ρ1 n kd al sg (D (i + 1)) kp := by
                  rw [hDs]
                  exact TWm_rem (σ := ρ) (τ := ρ) hn eT (fun _ _ _ => rfl) (fun a k z => f1 a k (by omega)) hvm
                have hok1 : okW n kd al sg (D (i + 1)) kp := okW_sub w1 (by rw [hDl]; omega) (hDok (i + 1)) w1.2.2.2.2.2.2.2
                have hMS := TW_MS (b := b) hok1 hT1
                let ρ3 : Mm := blt ρ1 80 0 n (fun m => nI (te n kd (y (i + 1)).1 (y (i + 1)).2.1 (y (i + 1)).2.2.2 m))
                obtain ⟨ρ4, u1, u2⟩ := ih (i + 1) ρ3 (by omega) (by omega) (show ρ.2 = τ.2 from e2) (fun a k z1 z2 z3 z4 => by
                  show gi (blt ρ1 80 0 n _) a k = _
                  rw [blt_out z2, f1 a k z1, rm_out z3 z4]
                  exact ef a k z1 z2 z3 z4) (TWm_congr (σ := ρ1) hn (fun a k z => blt_out (by omega)) hT1)
                refine ⟨ρ4, ?_, u2⟩
                rw [if_neg (nI_ge (by omega) (by omega)), bVe (show f_X6_remember N 66 ρ = some (rm ρ (D i).length) from p_rem (by omega) hRr eT.2.2.1 hlen)]
                rw [p_lot70 (y := y (i + 1)) (kd := kd) (al := al) (m := (y i).2.2.1) _ hN (Rf_rm hRr) (by rw [rm_out (by omega) (by omega)]; exact eT.1) hn (by omega) hal (fun p hp => by rw [rm_out (by omega) (by omega)]; exact (eT.2.1 p hp).2) (by rw [rm_out (by omega) (by omega)]; exact eT.2.2.2.1.2.1) (lsq_lt l2 _) (ρ := ρ1) rfl hMS]
                rw [hlst, fb_ct_succ] at u1
                exact u1
          obtain ⟨ρ, r1, r2, r3, r4⟩ := mm N 0 τ (by omega) (by omega) rfl (fun _ _ _ _ _ _ => rfl) (by show TWm τ n kd al sg (ds ++ []) kp; rw [List.append_nil]; exact w3t)
          rw [Nat.zero_mul] at r1
          have hokc : okW n kd al sg (D c) kp := okW_sub w1 (by rw [hDl]; omega) (hDok c) w1.2.2.2.2.2.2.2
          have fx : ∀ a k, a ≤ 65 → gi ρ a k = gi τ a k := fun a k z => r3 a k (by omega) (by omega) (by omega) (by omega)
          have hTx : TWx b ρ n kd al sg (D c) kp := TWx_new (σ := σ) w2 (fun a k z1 z2 => by rw [fx a k z2, t3 a k (by omega)]) (DX_congr (σ := τ) (fun a k z1 z2 => fx a k (by omega)) t4) (YX_congr (σ := τ) (fun a k z1 z2 => fx a k (by omega)) t5) (by rw [fx _ _ (by omega)]; exact t6)
          refine ⟨nI (fb_ct go c), τ, ρ, b, bx.trans t1, ?_, rel_TW h (r2.trans t2) (fun a k z => by rw [r3 a k (by omega) (by omega) (by omega) (by omega), t3 a k (by omega)]) ⟨n, kd, al, sg, _, kp, hokc, hTx, r4⟩⟩
          rw [bm τ w3t.1 w3t.2.2.1, if_pos d, if_pos d2]
          exact r1
        · rw [if_pos d, if_neg d2] at bx
          refine ⟨-2, σ, σ, b, bx, ?_, h⟩
          rw [bm σ w3.1 w3.2.2.1, if_pos d, if_neg d2]
      · rw [if_neg d] at bx
        refine ⟨-4, σ, σ, b, bx, ?_, h⟩
        rw [bm σ w3.1 w3.2.2.1, if_neg d]
