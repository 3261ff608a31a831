/-! ===== PURE: mornings: houses, broken ===== -/
theorem p_needM {N r : Nat} {τ : Mm} (hr : r < 6) {A : Option (Int32 × Mm)} (h : ∀ B, B = f_X6_needMornings N 66 (nI r) 1 τ → B = A) : f_X6_needMornings N 66 (nI r) 1 τ = A := h _ rfl
/-- the calls over mornings: refused on both sides alike, or a row of so many mornings -/
theorem morn {N r n : Nat} {b : Bool} {σ : Mm} {kd al sg : Nat → Nat} {ds : Dd} {kp : Nat → Option Dd} (hN : 100 ≤ N) (h : Rel b σ) (w1 : okW n kd al sg ds kp) (w2 : TWx b σ n kd al sg ds kp) (w3 : TWm σ n kd al sg ds kp) (hr : r < 6) :
    (∃ v σ1 σ2, v < 0 ∧ f_X5_refusedMornings N 0 (37 + 2 * r) σ = some (v, σ1) ∧ f_X6_needMornings N 66 (nI r) 1 σ1 = some (v, σ2) ∧ Rel b σ2) ∨
    (∃ k g, 0 < n ∧ RV σ r (k * n) g ∧ (∀ i, i < k * n → ∃ t, t < 4 ∧ g i = nI t) ∧ f_X5_refusedMornings N 0 (37 + 2 * r) σ = some (0, σ) ∧ f_X5_morningsIn N 0 (37 + 2 * r) σ = some (nI k, σ) ∧ ∀ τ, Em b σ τ → f_X6_needMornings N 66 (nI r) 1 τ = some (0, τ)) := by
  have hR := h.1
  have hs := w2.1.1
  have hn := w1.1
  have hP := pl_cases b
  by_cases a1 : n = 0
  · left
    refine ⟨-4, σ, σ, by decide, ?_, ?_, h⟩
    · unfold f_X5_refusedMornings
      rw [if_pos OKx.1, if_pos (OKr hr).1, BRpl hR, if_pos (ok_p hP).1, hs, a1]
      rfl
    · unfold f_X6_needMornings
      rw [if_pos OKx.2.1, if_neg (show ¬ (1 : Int32) = 0 by decide), bIe (p_isRowMy (N := N) hr), if_neg (show ¬ (1 : Int32) = 0 by decide), w3.1, a1]
      rfl
  · rcases rel_RV h hr with ⟨e1, e2⟩ | ⟨m, g, hv⟩
    · left
      refine ⟨-3, fndX σ 1, fndM (fndX σ 1) 1, by decide, ?_, ?_, rel_find h (by decide)⟩
      · unfold f_X5_refusedMornings
        rw [if_pos OKx.1, if_pos (OKr hr).1, BRpl hR, if_pos (ok_p hP).1, hs, if_neg (nI_ne0 (by omega) (by omega)), e1, if_pos rfl, bIe (p_fnd hR).1]
      · obtain ⟨em, hR'⟩ := Em_fnd (f := 1) hR
        have e2' : gi (fndX σ 1) 68 r = -1 := (em _ _ (by omega)).trans e2
        unfold f_X6_needMornings
        rw [if_pos OKx.2.1, if_neg (show ¬ (1 : Int32) = 0 by decide), bIe (p_isRowMy (N := N) hr), if_neg (show ¬ (1 : Int32) = 0 by decide), em 66 10 (by omega), w3.1, if_neg (nI_ne0 (by omega) (by omega))]
        simp (disch := omega) only [↓reduceIte, ↓BR hR', OKm, inbT, ix_nI, e2', m1_lt]
        rw [bIe (p_mts hR').1]
    · have hv0 := hv
      obtain ⟨_, hm40, hv1, hv2, hv3, hv4⟩ := hv0
      have bx : f_X5_refusedMornings N 0 (37 + 2 * r) σ = if m % n = 0 then (if allb (fun i => tgB 4 (g i)) m then some (0, σ) else some (-3, fndX σ 3)) else some (-3, fndX σ 5) := by
        unfold f_X5_refusedMornings
        rw [if_pos OKx.1, if_pos (OKr hr).1, BRpl hR, if_pos (ok_p hP).1, hs, if_neg (nI_ne0 (by omega) (by omega)), hv1, if_neg (by rw [nI_nm1 (by omega)]; exact id), BRpl hR, if_pos (ok_p hP).1, hs, if_neg (nI_ne0 (by omega) (by omega)), pk_rem (by omega) (by omega) (by omega), bIe (show f_X3_allBelow N (37 + 2 * r) (4 : Int32) σ = _ from p_below (B := 4) hN hR hv), if10, bIe (p_fnd hR).2.2.1, bIe (p_fnd hR).2.2.2.2.1]
        have : m % n < n := Nat.mod_lt _ (by omega)
        by_cases c : m % n = 0
        · rw [if_pos c, c, if_pos (show nI 0 = 0 from rfl)]
        · rw [if_neg c, if_neg (nI_ne0 (by omega) (by omega))]
      have bm : ∀ τ, Em b σ τ → f_X6_needMornings N 66 (nI r) 1 τ = if m % n = 0 then (if allb (fun i => tgB 4 (g i)) m then some (0, τ) else some (-3, fndM τ 3)) else some (-3, fndM τ 5) := by
        intro τ em
        have hRt := em.2
        have t10 : gi τ 66 10 = nI n := (em.1 _ _ (by omega)).trans w3.1
        have g2 : gi τ 68 r = nI m := (em.1 _ _ (by omega)).trans hv2
        have p1 : f_X6_areTongues N 66 (nI r) τ = some (if allb (fun i => tgB 4 (g i)) m then 1 else 0, τ) := p_tongsM (N := N) hN hRt (show RM τ r m g from ⟨hr, hm40, g2, fun i hi => (em.1 _ _ (by omega)).trans (hv4 i hi)⟩)
        unfold f_X6_needMornings
        rw [if_pos OKx.2.1, if_neg (show ¬ (1 : Int32) = 0 by decide), bIe (p_isRowMy (N := N) hr), if_neg (show ¬ (1 : Int32) = 0 by decide), t10, if_neg (nI_ne0 (by omega) (by omega))]
        simp (disch := omega) only [↓reduceIte, ↓BR hRt, OKm, inbT, ix_nI, g2, le0T]
        rw [if_neg (nI_ne0 (by omega) (by omega)), pk_rem (by omega) (by omega) (by omega), bIe p1, if10, bIe (p_mts hRt).2.2.1, bIe (p_mts hRt).2.2.2.2.1]
        have : m % n < n := Nat.mod_lt _ (by omega)
        by_cases c : m % n = 0
        · rw [if_pos c, c, if_pos (show nI 0 = 0 from rfl)]
        · rw [if_neg c, if_neg (nI_ne0 (by omega) (by omega))]
      by_cases c1 : m % n = 0
      · cases c2 : allb (fun i => tgB 4 (g i)) m with
        | false =>
          left
          rw [if_pos c1, c2] at bx
          refine ⟨-3, fndX σ 3, fndM (fndX σ 3) 3, by decide, bx, ?_, rel_find h (by decide)⟩
          rw [bm _ (Em_fnd hR), if_pos c1, c2]
          rfl
        | true =>
          right
          rw [if_pos c1, c2] at bx
          have e : m / n * n = m := Nat.div_mul_cancel (Nat.dvd_of_mod_eq_zero c1)
          refine ⟨m / n, g, by omega, by rw [e]; exact hv, fun i hi => tgB_t (by decide) (allb_iff.mp c2 i (by omega)), bx, ?_, fun τ em => by rw [bm τ em, if_pos c1, c2]; rfl⟩
          unfold f_X5_morningsIn
          rw [if_pos OKx.1, if_pos (OKr hr).1, BRpl hR, if_pos (ok_p hP).1, hs, if_neg (show ¬ nI n ≤ (0 : Int32) from nI_ge (a := 0) (by omega) (by omega)), BRpl hR, if_pos (ok_p hP).1, hs, if_neg (nI_ne0 (by omega) (by omega)), hv1, pk_div (by omega) (by omega) (by omega)]
      · left
        rw [if_neg c1] at bx
        refine ⟨-3, fndX σ 5, fndM (fndX σ 5) 5, by decide, bx, ?_, rel_find h (by decide)⟩
        rw [bm _ (Em_fnd hR), if_neg c1]
theorem BRr {ρ : Type} {b : Bool} {σ : Mm} (hR : Rf b σ) : (∀ chk f, bR (ρ := ρ) (gr σ 0 0) chk f = if chk 1 then f 1 else none) ∧ (∀ j chk f, j < 6 → bR (ρ := ρ) (gr σ 1 j) chk f = if chk (37 + 2 * j) then f (37 + 2 * j) else none) ∧ (∀ j chk f, j < 6 → bR (ρ := ρ) (gr σ (37 + 2 * j) 0) chk f = if chk (38 + 2 * j) then f (38 + 2 * j) else none) := ⟨(BR hR).1, (BR hR).2.2.2.2.2.2.2.2.2.2.1, (BR hR).2.2.2.2.2.2.2.2.2.2.2.2.2.1⟩
theorem mn_lt {i k n p : Nat} (hi : i < k) (hp : p < n) : i * n + p < k * n := by
  have : (i + 1) * n ≤ k * n := Nat.mul_le_mul_right n hi
  rw [Nat.add_mul] at this
  omega
/-- two persons' tongues always alike -/
def alB (g : Nat → Int32) (n k p q : Nat) : Bool := allb (fun i => decide (g (i * n + p) = g (i * n + q))) k
theorem p_alX {N r n k p q : Nat} {b : Bool} {σ : Mm} {g : Nat → Int32} (hN : 100 ≤ N) (hR : Rf b σ) (h : RV σ r (k * n) g) (hp : p < n) (hq : q < n) : f_X3_alwaysAlike N (37 + 2 * r) (nI p) (nI q) (nI n) (nI k) σ = some (if alB g n k p q then 1 else 0, σ) := by
  obtain ⟨h1, h2, h3, h4, h5, h6⟩ := h
  have hk : k ≤ 40 := by
    have : k * 1 ≤ k * n := Nat.mul_le_mul_left k (by omega)
    omega
  unfold f_X3_alwaysAlike alB
  rw [if_pos (OKr h1).1]
  refine loopR (fun f i => f_X3_alwaysAlike_3 N f (37 + 2 * r) (nI p) (nI q) (nI n) (nI k) (nI i) σ) _ k (fun i => allb (fun i => decide (g (i * n + p) = g (i * n + q))) i = true) ?_ ?_ N 0 (by omega) (by omega) rfl
  · intro f hI
    unfold f_X3_alwaysAlike_3
    rw [if_pos (nI_le (Nat.le_refl k) (by omega)), hI]
    rfl
  · intro f i hi hI ih
    have e1 := mn_lt hi hp
    have e2 := mn_lt hi hq
    unfold f_X3_alwaysAlike_3
    rw [if_neg (nI_ge hi (by omega)), pk_mul, nI_add, nI_add]
    simp (disch := omega) only [↓reduceIte, ↓BR hR, OKr, inbT, ix_nI, nI_1]
    rw [h5 _ e1, h5 _ e2]
    by_cases c : g (i * n + p) = g (i * n + q)
    · rw [if_pos c]
      refine ih ?_
      rw [allb, hI, decide_eq_true c]
      rfl
    · rw [if_neg c, allb_f (i := i) (decide_eq_false c) hi]
      rfl
theorem p_alM {N r n k p q : Nat} {b : Bool} {σ : Mm} {g : Nat → Int32} (hN : 100 ≤ N) (hR : Rf b σ) (hs : gi σ 66 10 = nI n) (h : RM σ r (k * n) g) (hp : p < n) (hq : q < n) : f_X6_areAlike N 66 (nI r) (nI p) (nI q) σ = some (if alB g n k p q then 1 else 0, σ) := by
  obtain ⟨h1, h2, h4, h6⟩ := h
  have hk : k ≤ 40 := by
    have : k * 1 ≤ k * n := Nat.mul_le_mul_left k (by omega)
    omega
  unfold f_X6_areAlike alB
  rw [if_pos OKx.2.1]
  have z := loop (fun f i => f_X6_areAlike_6 N f 66 (nI r) (nI p) (nI q) (if allb (fun i => decide (g (i * n + p) = g (i * n + q))) i then 1 else 0) (nI (i * n)) σ) (some (if allb (fun i => decide (g (i * n + p) = g (i * n + q))) k then 1 else 0, σ)) k ?_ ?_ N 0 (by omega) (by omega)
  · rw [Nat.zero_mul] at z
    exact z
  · intro f
    unfold f_X6_areAlike_6
    simp (disch := omega) only [↓reduceIte, ↓BR hR, OKm, inbT, ix_nI, h4]
    rw [if_pos (nI_le (Nat.le_refl _) (by omega)), if_pos (bz_ite _)]
  · intro f i hi A hA
    have e1 := mn_lt hi hp
    have e2 := mn_lt hi hq
    unfold f_X6_areAlike_6 f_X6_areAlike_47 f_X6_areAlike_48
    simp (disch := omega) only [↓reduceIte, ↓BR hR, OKm, inbT, ix_nI, h4]
    rw [hA, if_neg (nI_ge (by omega) (by omega)), if10, nI_add, nI_add, bIe (p_rowAt hR h1 (show i * n + p < 40 by omega)), bIe (p_rowAt hR h1 (show i * n + q < 40 by omega)), h6 _ e1, h6 _ e2, hs, nI_add, show i * n + n = (i + 1) * n by rw [Nat.add_mul]; omega, allb]
    simp only [lt]
    cases allb (fun i => decide (g (i * n + p) = g (i * n + q))) i with
    | false => rfl
    | true =>
      by_cases c : g (i * n + p) = g (i * n + q)
      · rw [if_pos c, decide_eq_true c]; rfl
      · rw [if_neg c, decide_eq_false c]; rfl
theorem alB_sym {g : Nat → Int32} {n k p q : Nat} : alB g n k p q = alB g n k q p := by
  unfold alB
  rw [Bool.eq_iff_iff, allb_iff, allb_iff]
  constructor <;> intro h i hi <;> exact decide_eq_true (of_decide_eq_true (h i hi)).symm
/-- the pairs counted, the members gathered, in both orders -/
def prX (E : Nat → Nat → Bool) (n : Nat) : Nat → Nat := fb_sm (fun p => fb_ct (fun z => decide (p < z) && E p z) n)
def prM (E : Nat → Nat → Bool) : Nat → Nat := fb_sm (fun p => fb_ct (fun z => E p z) p)
theorem fb_sm_ct (P : Nat → Bool) : ∀ n, fb_sm (fun p => if P p then 1 else 0) n = fb_ct P n := by
  intro n
  induction n with
  | zero => rfl
  | succ n ih => rw [fb_sm_succ, fb_ct_succ, ih]
theorem pr_eq {E : Nat → Nat → Bool} (hE : ∀ p q, E p q = E q p) : ∀ n, prX E n n = prM E n := by
  intro n
  induction n with
  | zero => rfl
  | succ n ih =>
    unfold prX prM at *
    have z0 : fb_ct (fun z => decide (n < z) && E n z) (n + 1) = 0 := fb_ct_zero.mpr (fun z hz => by rw [decide_eq_false (by omega)]; rfl)
    rw [fb_sm_succ, fb_sm_succ, ← ih, z0, fb_sm_cong (g := fun p => fb_ct (fun z => decide (p < z) && E p z) n + (if E n p then 1 else 0)) (fun p hp => by
      rw [fb_ct_succ, decide_eq_true (show p < n by omega), Bool.true_and, hE p n]), fb_sm_add, fb_sm_ct]
    rfl
def mbX (E : Nat → Nat → Bool) (n : Nat) : Nat → Nat := un (fun p => un (fun z => if decide (p < z) && E p z then 2 ^ p ||| 2 ^ z else 0) n)
def mbM (E : Nat → Nat → Bool) : Nat → Nat := un (fun p => un (fun z => if E p z then 2 ^ p ||| 2 ^ z else 0) p)
theorem mb_eq {E : Nat → Nat → Bool} (hE : ∀ p q, E p q = E q p) (n : Nat) : mbX E n n = mbM E n := by
  apply Nat.eq_of_testBit_eq
  intro j
  rw [Bool.eq_iff_iff]
  unfold mbX mbM
  rw [un_tb, un_tb]
  constructor
  · rintro ⟨p, hp, h⟩
    rw [un_tb] at h
    obtain ⟨z, hz, h⟩ := h
    cases e : (decide (p < z) && E p z) with
    | false => rw [e, if_neg (by decide), Nat.zero_testBit] at h; exact Bool.noConfusion h
    | true =>
      rw [e, if_pos rfl] at h
      rw [Bool.and_eq_true] at e
      refine ⟨z, hz, un_tb _ _ _ |>.mpr ⟨p, of_decide_eq_true e.1, ?_⟩⟩
      rw [hE z p, e.2, if_pos rfl, Nat.or_comm]
      exact h
  · rintro ⟨p, hp, h⟩
    rw [un_tb] at h
    obtain ⟨z, hz, h⟩ := h
    cases e : E p z with
    | false => rw [e, if_neg (by decide), Nat.zero_testBit] at h; exact Bool.noConfusion h
    | true =>
      rw [e, if_pos rfl] at h
      refine ⟨z, by omega, un_tb _ _ _ |>.mpr ⟨p, hp, ?_⟩⟩
      rw [hE z p, e, decide_eq_true hz, if_pos (by rfl), Nat.or_comm]
      exact h
theorem un_zero {F : Nat → Nat} : ∀ n, (∀ i, i < n → F i = 0) → un F n = 0 := by
  intro n
  induction n with
  | zero => intro _; rfl
  | succ n ih =>
    intro h
    rw [un, ih (fun i hi => h i (by omega)), h n (by omega)]
    rfl
theorem s_houses {N : Nat} (hN : 100 ≤ N) (x : Int32) : Sim (f_X5_houses N 0 x) (f_X6_houses N 66 x) := by
  intro b σ h
  have hR := h.1
  obtain ⟨n, kd, al, sg, ds, kp, w1, w2, w3⟩ := h.2.2.2.2
  have hs := w2.1.1
  have hn := w1.1
  have hP := pl_cases b
  rcases arg2 x 6 (by omega) with q | ⟨r, hr, rfl⟩
  · refine ⟨-1, σ, σ, b, ?_, ?_, h⟩
    · unfold f_X5_houses
      rw [if_pos OKx.1, bIe (p_isRowX (N := N) q)]
      rfl
    · unfold f_X6_houses f_X6_needMornings
      rw [if_pos OKx.2.1, if_pos OKx.2.1, if_neg (show ¬ (1 : Int32) = 0 by decide), bIe (p_isRowM (N := N) q)]
      rfl
  · rcases morn hN h w1 w2 w3 hr with ⟨v, σ1, σ2, hv, m1, m2, m3⟩ | ⟨k, g, n0, hv, ht, m1, m2, m3⟩
    · refine ⟨v, σ1, σ2, b, ?_, ?_, m3⟩
      · unfold f_X5_houses
        rw [if_pos OKx.1, bIe (p_isRowXy (N := N) hr), if_neg (show ¬ (1 : Int32) = 0 by decide)]
        simp (disch := omega) only [↓reduceIte, ↓BR hR, OKx, OKr, inbT, ix_nI]
        rw [bIe m1, if_neg (fun e => by rw [e] at hv; exact absurd hv (by decide))]
      · unfold f_X6_houses
        rw [if_pos OKx.2.1, bIe m2, if_neg (Int32.not_le.mpr hv)]
    · have hE : ∀ p q, alB g n k p q = alB g n k q p := fun p q => alB_sym
      have hk : k ≤ 40 := by
        have : k * 1 ≤ k * n := Nat.mul_le_mul_left k (by omega)
        have := hv.2.1
        omega
      refine ⟨nI (prX (alB g n k) n n), si σ 0 11 (nI (mbX (alB g n k) n n)), si (si σ 0 11 (nI (mbX (alB g n k) n n))) 66 2 (nI (mbX (alB g n k) n n)), b, ?_, ?_, rel_asked h _⟩
      · unfold f_X5_houses
        rw [if_pos OKx.1, bIe (p_isRowXy (N := N) hr), if_neg (show ¬ (1 : Int32) = 0 by decide)]
        simp (disch := omega) only [↓reduceIte, ↓BR hR, OKx, OKr, inbT, ix_nI]
        rw [bIe m1, if_pos rfl]
        simp (disch := omega) only [↓reduceIte, ↓BR hR, OKx, OKr, inbT, ix_nI]
        rw [bIe m2]
        refine loop (fun f p => f_X5_houses_46 N f 0 (nI r) (nI k) (nI (prX (alB g n k) n p)) (nI (mbX (alB g n k) n p)) (nI p) σ) _ n ?_ ?_ N 0 (by omega) (by omega)
        · intro f
          unfold f_X5_houses_46
          rw [BRpl hR, if_pos (ok_p hP).1, hs, if_pos (nI_le (Nat.le_refl n) (by omega))]
          rfl
        · intro f p hp A hA
          unfold f_X5_houses_46
          rw [BRpl hR, if_pos (ok_p hP).1, hs, if_neg (nI_ge hp (by omega)), nI_1]
          simp only [lt]
          have z := loopR (fun u i => f_X5_houses_64 N (f_X5_houses_46 N f) u 0 (nI r) (nI k) (nI (prX (alB g n k) n p + fb_ct (fun z => decide (p < z) && alB g n k p z) i)) (nI (mbX (alB g n k) n p ||| un (fun z => if decide (p < z) && alB g n k p z then 2 ^ p ||| 2 ^ z else 0) i)) (nI p) (nI i) σ) A n (fun i => p < i) ?_ ?_ N (p + 1) (by omega) (by omega) (by omega)
          · rw [fb_ct_zero.mpr (fun z hz => by rw [decide_eq_false (by omega)]; rfl), un_zero (p + 1) (fun z hz => by rw [decide_eq_false (by omega)]; rfl), Nat.add_zero, Nat.or_zero] at z
            exact z
          · intro u _
            unfold f_X5_houses_64
            rw [BRpl hR, if_pos (ok_p hP).1, hs, if_pos (nI_le (Nat.le_refl n) (by omega)), nI_1, hA]
            rfl
          · intro u i hi hpi ih
            have ih := ih (by omega)
            rw [fb_ct_succ, un, decide_eq_true hpi, Bool.true_and] at ih
            unfold f_X5_houses_64 f_X5_houses_120
            rw [BRpl hR, if_pos (ok_p hP).1, hs, if_neg (nI_ge hi (by omega))]
            simp (disch := omega) only [↓reduceIte, ↓BRr hR, OKx, OKr, inbT, ix_nI]
            rw [BRpl hR, if_pos (ok_p hP).1, hs, bIe (p_alX hN hR hv hp hi), if10, nI_1]
            simp only [lt]
            rw [shl1 p (by omega), shl1 i (by omega), nI_or, nI_or, nI_1]
            cases e : alB g n k p i with
            | false =>
              rw [e, if_neg Bool.false_ne_true, if_neg Bool.false_ne_true, Nat.add_zero, Nat.or_zero] at ih
              rw [if_neg Bool.false_ne_true]
              exact ih
            | true =>
              rw [e, if_pos rfl, if_pos rfl, ← Nat.add_assoc, ← Nat.or_assoc] at ih
              rw [if_pos rfl]
              exact ih
      · rw [pr_eq hE, mb_eq hE]
        generalize hτ : si σ 0 11 (nI (mbM (alB g n k) n)) = τ
        have em : Em b σ τ := ⟨fun a j z => by rw [← hτ, gi_si, if_neg (by omega)], by rw [← hτ]; exact hR⟩
        have t10 : gi τ 66 10 = nI n := (em.1 _ _ (by omega)).trans w3.1
        have hRM : RM τ r (k * n) g := ⟨hr, hv.2.1, (em.1 _ _ (by omega)).trans hv.2.2.2.1, fun i hi => (em.1 _ _ (by omega)).trans (hv.2.2.2.2.2 i hi)⟩
        unfold f_X6_houses
        rw [if_pos OKx.2.1, bIe (m3 τ em), if_pos (by decide)]
        refine loop (fun f p => f_X6_houses_21 N f 66 (nI r) (nI (prM (alB g n k) p)) (nI (mbM (alB g n k) p)) (nI p) τ) _ n ?_ ?_ N 0 (by omega) (by omega)
        · intro f
          unfold f_X6_houses_21
          rw [t10, if_pos (nI_le (Nat.le_refl n) (by omega)), bIe (p_gives em.2)]
        · intro f p hp A hA
          unfold f_X6_houses_21
          rw [t10, if_neg (nI_ge hp (by omega))]
          refine loop (fun u i => f_X6_houses_33 N (f_X6_houses_21 N f) u 66 (nI r) (nI (prM (alB g n k) p + fb_ct (fun z => alB g n k p z) i)) (nI (mbM (alB g n k) p ||| un (fun z => if alB g n k p z then 2 ^ p ||| 2 ^ z else 0) i)) (nI p) (nI i) τ) A p ?_ ?_ N 0 (by omega) (by omega) |> Eq.trans ?_
          · rw [un, Nat.or_zero]
            rfl
          · intro u
            unfold f_X6_houses_33
            rw [if_pos (nI_le (Nat.le_refl p) (by omega)), nI_1, hA]
            rfl
          · intro u i hi B hB
            unfold f_X6_houses_33 f_X6_houses_69
            rw [if_neg (nI_ge hi (by omega)), hB, bIe (p_alM hN em.2 t10 hRM hp (by omega)), if10, nI_1, fb_ct_succ, un]
            simp only [lt]
            rw [shl1 p (by omega), shl1 i (by omega), nI_or, nI_or, nI_1]
            cases e : alB g n k p i with
            | false => rw [if_neg Bool.false_ne_true, if_neg Bool.false_ne_true, if_neg Bool.false_ne_true, Nat.or_zero]; rfl
            | true => rw [if_pos rfl, if_pos rfl, if_pos rfl, Nat.or_assoc]; rfl
theorem s_broken {N : Nat} (hN : 100 ≤ N) (x : Int32) : Sim (f_X5_broken N 0 x) (f_X6_broken N 66 x) := by
  intro b σ h
  have hR := h.1
  obtain ⟨n, kd, al, sg, ds, kp, w1, w2, w3⟩ := h.2.2.2.2
  have hs := w2.1.1
  have hn := w1.1
  have hP := pl_cases b
  have hal := okW_al w1
  rcases arg2 x 6 (by omega) with q | ⟨r, hr, rfl⟩
  · refine ⟨-1, σ, σ, b, ?_, ?_, h⟩
    · unfold f_X5_broken
      rw [if_pos OKx.1, bIe (p_isRowX (N := N) q)]
      rfl
    · unfold f_X6_broken f_X6_needMornings
      rw [if_pos OKx.2.1, if_pos OKx.2.1, if_neg (show ¬ (1 : Int32) = 0 by decide), bIe (p_isRowM (N := N) q)]
      rfl
  · rcases morn hN h w1 w2 w3 hr with ⟨v, σ1, σ2, hv, m1, m2, m3⟩ | ⟨k, g, n0, hv, ht, m1, m2, m3⟩
    · refine ⟨v, σ1, σ2, b, ?_, ?_, m3⟩
      · unfold f_X5_broken
        rw [if_pos OKx.1, bIe (p_isRowXy (N := N) hr), if_neg (show ¬ (1 : Int32) = 0 by decide)]
        simp (disch := omega) only [↓reduceIte, ↓BR hR, OKx, OKr, inbT, ix_nI]
        rw [bIe m1, if_neg (fun e => by rw [e] at hv; exact absurd hv (by decide))]
      · unfold f_X6_broken
        rw [if_pos OKx.2.1, bIe m2, if_neg (Int32.not_le.mpr hv)]
    · have hk : k ≤ 40 := by
        have : k * 1 ≤ k * n := Nat.mul_le_mul_left k (by omega)
        have := hv.2.1
        omega
      have main : ∀ d i f f2, i + d = k → d < f → d < f2 → ∃ v, f_X5_broken_40 N f 0 (nI r) (nI k) (nI i) σ = some (v, σ) ∧ f_X6_broken_15 N f2 66 (nI r) (nI (i * n)) σ = some (v, σ) := by
        intro d
        induction d with
        | zero =>
          intro i f f2 e1 e2 e3
          obtain ⟨f, rfl⟩ : ∃ f', f = f' + 1 := ⟨f - 1, by omega⟩
          obtain ⟨f2, rfl⟩ : ∃ f', f2 = f' + 1 := ⟨f2 - 1, by omega⟩
          refine ⟨-9, ?_, ?_⟩
          · unfold f_X5_broken_40
            rw [if_pos (nI_le (by omega) (by omega))]
          · unfold f_X6_broken_15
            simp (disch := omega) only [↓reduceIte, ↓BR hR, OKm, inbT, ix_nI]
            rw [hv.2.2.2.1, show i = k by omega, if_pos (nI_le (Nat.le_refl _) (by have := hv.2.1; omega))]
        | succ d ih =>
          intro i f f2 e1 e2 e3
          obtain ⟨f, rfl⟩ : ∃ f', f = f' + 1 := ⟨f - 1, by omega⟩
          obtain ⟨f2, rfl⟩ : ∃ f', f2 = f' + 1 := ⟨f2 - 1, by omega⟩
          have hi : i < k := by omega
          have hmn : i * n + n ≤ k * n := by
            have : (i + 1) * n ≤ k * n := Nat.mul_le_mul_right n hi
            rw [Nat.add_mul] at this
            omega
          have h40 := hv.2.1
          have p1 := p_agrX (N := N) hN hR hP hs hn (PX_l w2.1 hal) hv hmn
          have p2 := p_agrMM (N := N) hN hR w3.1 hn (TWm_a w3 hal) (RV_RM hv) hmn
          rw [ag_eq hal] at p2
          obtain ⟨v, z1, z2⟩ := ih (i + 1) f f2 (by omega) (by omega) (by omega)
          have bx : f_X5_broken_40 N (f + 1) 0 (nI r) (nI k) (nI i) σ = if agB n al g (i * n) then f_X5_broken_40 N f 0 (nI r) (nI k) (nI (i + 1)) σ else some (nI i, σ) := by
            rw [f_X5_broken_40]
            dsimp only
            rw [if_neg (nI_ge hi (by omega)), BRpl hR, if_pos (ok_p hP).1]
            simp (disch := omega) only [↓reduceIte, ↓BRr hR, OKx, OKr, inbT, ix_nI]
            rw [BRpl hR, if_pos (ok_p hP).1, hs, pk_mul, bIe p1, if10, nI_1]
          have bm : f_X6_broken_15 N (f2 + 1) 66 (nI r) (nI (i * n)) σ = if agB n al g (i * n) then f_X6_broken_15 N f2 66 (nI r) (nI ((i + 1) * n)) σ else some (nI i, σ) := by
            rw [f_X6_broken_15]
            dsimp only
            simp (disch := omega) only [↓reduceIte, ↓BR hR, OKm, inbT, ix_nI]
            rw [hv.2.2.2.1, if_neg (nI_ge (by omega) (by omega)), bIe p2, if10, w3.1, if_neg (nI_ne0 (by omega) (by omega)), nI_add, pk_div (by omega) (by omega) (by omega), Nat.mul_div_cancel _ n0, show i * n + n = (i + 1) * n by rw [Nat.add_mul]; omega]
            rfl
          cases e : agB n al g (i * n) with
          | false => exact ⟨nI i, by rw [bx, e]; rfl, by rw [bm, e]; rfl⟩
          | true => exact ⟨v, by rw [bx, e]; exact z1, by rw [bm, e]; exact z2⟩
      obtain ⟨v, z1, z2⟩ := main k 0 N N (by omega) (by omega) (by omega)
      refine ⟨v, σ, σ, b, ?_, ?_, h⟩
      · unfold f_X5_broken
        rw [if_pos OKx.1, bIe (p_isRowXy (N := N) hr), if_neg (show ¬ (1 : Int32) = 0 by decide)]
        simp (disch := omega) only [↓reduceIte, ↓BR hR, OKx, OKr, inbT, ix_nI]
        rw [bIe m1, if_pos rfl]
        simp (disch := omega) only [↓reduceIte, ↓BR hR, OKx, OKr, inbT, ix_nI]
        rw [bIe m2]
        exact z1
      · unfold f_X6_broken
        rw [if_pos OKx.2.1, bIe (m3 σ (Em_refl hR)), if_pos (by decide)]
        rw [Nat.zero_mul] at z2
        exact z2
