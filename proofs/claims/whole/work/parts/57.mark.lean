/-! ===== PURE: mark, shouted ===== -/
theorem loop {β : Type} (G : Nat → Nat → β) (R : β) (n : Nat) (hend : ∀ f, G (f + 1) n = R) (hstep : ∀ f i, i < n → ∀ A, A = G f (i + 1) → G (f + 1) i = A) : ∀ f i, i ≤ n → n - i < f → G f i = R := by
  intro f
  induction f with
  | zero => intro i _ h; omega
  | succ f ih =>
    intro i h1 h2
    by_cases e : i = n
    · rw [e]; exact hend f
    · rw [hstep f i (by omega) _ rfl]; exact ih (i + 1) (by omega) (by omega)
theorem nI_z (a : Nat) : nI a + 0 = nI a := nI_add a 0
theorem or_z (a : Nat) : nI a ||| (0 : Int32) = nI a := (nI_or a 0).trans (by rw [Nat.or_zero])
theorem isK3 (k : Nat) : isK 3 k = decide (k = 3) := by unfold isK; simp
theorem isK4 (k : Nat) : isK 4 k = decide (k = 4) := by unfold isK; simp
theorem isK5 (k : Nat) : isK 5 k = decide (k = 5) := by unfold isK; simp
theorem bz_ite (c : Bool) : bz (if c then (1 : Int32) else 0) = true := by cases c <;> rfl
theorem if10 {ρ : Type} (c : Bool) (A B : ρ) : (if (if c then (1 : Int32) else 0) = 0 then A else B) = if c then B else A := by
  cases c
  · rfl
  · rw [if_pos rfl, if_neg (show ¬ (1 : Int32) = 0 by decide)]; rfl
theorem p_is {N P n p k : Nat} {b : Bool} {σ : Mm} {kd : Nat → Nat} (hR : Rf b σ) (hP : P = 19 ∨ P = 27) (hm : ∀ k, k < 6 → gi σ (P + 2) k = nI (msk (fun p => isK k (kd p)) n)) (hn : n ≤ 6) (hp : p < n) (hk : k < 6) : f_X2_is N P (nI p) (nI k) σ = some (if isK k (kd p) then 1 else 0, σ) := by
  unfold f_X2_is
  rw [if_pos (ok_p hP).1, (BRp hR hP).2.1, if_pos (ok_p hP).2.2.1, (ok_p hP).2.2.2.2.2.2.2.2.2.1, if_pos (inbT hk (by omega)), ix_nI (by omega), hm k hk, bIe (p_holds (N := N) (msk_lt6 _ hn) (show p < 6 by omega)), msk_tb, decide_eq_true hp, Bool.true_and, if_pos (bz_ite _)]
/-- the plan's part that a day's reading needs -/
def PM (σ : Mm) (P n : Nat) (kd : Nat → Nat) : Prop := (P = 19 ∨ P = 27) ∧ n ≤ 6 ∧ gi σ P 8 = nI n ∧ ∀ k, k < 6 → gi σ (P + 2) k = nI (msk (fun p => isK k (kd p)) n)
theorem PX_PM {σ : Mm} {P n : Nat} {kd al sg : Nat → Nat} (hP : P = 19 ∨ P = 27) (hn : n ≤ 6) (h : PX σ P n kd al sg) : PM σ P n kd := ⟨hP, hn, h.1, h.2.2.1⟩
theorem p_knownBy {N P n p a : Nat} {b : Bool} {σ : Mm} {kd dl : Nat → Nat} (hR : Rf b σ) (hM : PM σ P n kd) (ha : okA 0 a = true ∧ arL a = 6) (hd : ∀ q, q < n → gi σ a q = nI (dl q) ∧ dl q < 4) (hp : p < n) (no : Bool) : f_X2_knownBy N P (nI p) a (if no then 1 else 0) σ = some (nI (kn n kd dl no p), σ) := by
  obtain ⟨hP, hn, hs, hm⟩ := hM
  obtain ⟨a1, a2⟩ := ha
  have e3 : (3 : Int32) = nI 3 := rfl
  have e5 : (5 : Int32) = nI 5 := rfl
  have e4 : (4 : Int32) = nI 4 := rfl
  have l1 : ∀ v : Nat, f_X2_knownBy_69 N P (nI p) a (nI v) σ = some (nI (v ||| (if decide (kd p = 5) then 2 ^ dl (prv n p) else 0)), σ) := by
    intro v
    unfold f_X2_knownBy_69
    rw [e5, bIe (p_is hR hP hm hn hp (by decide)), isK5, if10]
    cases decide (kd p = 5) with
    | false =>
      rw [if_neg (by decide), if_neg (by decide), Nat.or_zero]
    | true =>
      rw [if_pos rfl, if_pos rfl]
      have g : f_X2_knownBy_98 N (nI (prv n p)) a 1 (nI v) σ = some (nI (v ||| 2 ^ dl (prv n p)), σ) := by
        unfold f_X2_knownBy_98
        have h := prv_lt hp
        rw [a2, if_pos (inbT (by omega) (by omega)), ix_nI (by omega), (hd _ h).1]
        simp only [lt]
        have := (hd _ h).2
        rw [shl1 _ (by omega), nI_or]
      by_cases c : p = 0
      · subst c
        rw [if_pos (by decide), hs, show (1 : Int32) = nI 1 from rfl, nI_subT (by omega)]
        exact g
      · rw [if_neg (show ¬ nI p ≤ (0 : Int32) from nI_ge (a := 0) (by omega) (by omega)), show nI p - (1 : Int32) = nI (p - 1) from nI_subT (b := 1) (by omega)]
        rw [show prv n p = p - 1 by unfold prv; rw [if_pos (by omega)]] at g
        rw [show prv n p = p - 1 by unfold prv; rw [if_pos (by omega)]]
        exact g
  have l2 : ∀ v : Nat, f_X2_knownBy_46 N P (nI p) a (nI v) σ = some (nI ((v ||| (if decide (kd p = 3) then 2 ^ ((dl p + 1) % 4) else 0)) ||| (if decide (kd p = 5) then 2 ^ dl (prv n p) else 0)), σ) := by
    intro v
    unfold f_X2_knownBy_46
    rw [e3, bIe (p_is hR hP hm hn hp (by decide)), isK3, if10]
    cases decide (kd p = 3) with
    | false =>
      rw [if_neg (by decide), if_neg (by decide), Nat.or_zero]
      exact l1 v
    | true =>
      have := (hd _ hp).2
      rw [if_pos rfl, if_pos rfl, a2, if_pos (inbT (by omega) (by omega)), ix_nI (by omega), (hd _ hp).1, nI_1, e4, pk_rem (by omega) (by omega) (by omega)]
      simp only [lt]
      rw [shl1 _ (by omega), nI_or]
      exact l1 _
  unfold f_X2_knownBy
  have := (hd _ hp).2
  rw [if_pos (ok_p hP).1, if_pos a1, a2, if_pos (inbT (by omega) (by omega)), ix_nI (by omega), (hd _ hp).1]
  simp only [lt]
  rw [shl1 _ (by omega), kn_alt, if10]
  cases no with
  | false =>
    rw [if_neg (by decide), Bool.false_and, if_neg (by decide), Nat.or_zero]
    exact l2 _
  | true =>
    rw [if_pos rfl, bIe (show f_X2_is N P (nI p) (1 : Int32) σ = _ from p_is (k := 1) hR hP hm hn hp (by decide)), if10, Bool.true_and]
    cases isK 1 (kd p) with
    | false =>
      rw [if_neg (by decide), if_neg (by decide), Nat.or_zero]
      exact l2 _
    | true =>
      rw [if_pos rfl, if_pos rfl, hs, nI_1]
      have g : f_X2_knownBy_41 N P (nI p) a (nI (nxt n p)) a 1 (nI (2 ^ dl p)) σ = some (nI (((2 ^ dl p ||| 2 ^ dl (nxt n p)) ||| (if decide (kd p = 3) then 2 ^ ((dl p + 1) % 4) else 0)) ||| (if decide (kd p = 5) then 2 ^ dl (prv n p) else 0)), σ) := by
        unfold f_X2_knownBy_41
        have h := nxt_lt hp
        rw [a2, if_pos (inbT (by omega) (by omega)), ix_nI (by omega), (hd _ h).1]
        simp only [lt]
        have := (hd _ h).2
        rw [shl1 _ (by omega), nI_or]
        exact l2 _
      by_cases c : p + 1 < n
      · rw [if_neg (nI_ge c (by omega))]
        rw [show nxt n p = p + 1 by unfold nxt; rw [if_pos c]] at g
        rw [show nxt n p = p + 1 by unfold nxt; rw [if_pos c]]
        exact g
      · rw [if_pos (nI_le (by omega) (by omega))]
        rw [show nxt n p = 0 by unfold nxt; rw [if_neg c]] at g
        rw [show nxt n p = 0 by unfold nxt; rw [if_neg c]]
        exact g
theorem p_gain {N P n p a : Nat} {b : Bool} {σ : Mm} {kd dl : Nat → Nat} (hR : Rf b σ) (hM : PM σ P n kd) (ha : okA 0 a = true ∧ arL a = 6) (hd : ∀ q, q < n → gi σ a q = nI (dl q) ∧ dl q < 4) (hp : p < n) : f_X2_gainOf N P (nI p) a σ = some (nI (pc 6 (kn n kd dl true p)) - nI (pc 6 (kn n kd dl false p)), σ) := by
  have k1 := kn_lt (kd := kd) (no := true) (fun q hq => (hd q hq).2) hp
  have k2 := kn_lt (kd := kd) (no := false) (fun q hq => (hd q hq).2) hp
  unfold f_X2_gainOf
  rw [if_pos (ok_p hM.1).1, if_pos ha.1, bIe (show f_X2_knownBy N P (nI p) a (1 : Int32) σ = _ from p_knownBy hR hM ha hd hp true), bIe (p_bitC (N := N) (by omega)), bIe (show f_X2_knownBy N P (nI p) a (0 : Int32) σ = _ from p_knownBy hR hM ha hd hp false), bIe (p_bitC (N := N) (by omega))]
theorem p_tellX {N n p : Nat} {b : Bool} {σ : Mm} {T : Nat → Nat} (hN : 20 ≤ N) (hR : Rf b σ) (h : GX σ 7 n T) (hp : p < n) : f_X0_tellersOf N 7 (nI p) σ = some (nI (fb_ct (fun q => (T q).testBit p) n), σ) := by
  obtain ⟨h1, h2, h3, h4, h5⟩ := h
  have h2 : ∀ m, m < n → gi σ 12 m = nI (T m) := h2
  unfold f_X0_tellersOf
  rw [if_pos (ok_d h5).1]
  refine loop (fun f i => f_X0_tellersOf_4 N f 7 (nI p) (nI (fb_ct (fun q => (T q).testBit p) i)) (nI i) σ) _ n ?_ ?_ N 0 (by omega) (by omega)
  · intro f
    unfold f_X0_tellersOf_4
    rw [h1, if_pos (nI_le (Nat.le_refl n) (by omega))]
  · intro f i hi A hA
    unfold f_X0_tellersOf_4
    rw [hA]
    have := h4 i hi
    have := pow6 h3
    rw [h1, if_neg (nI_ge hi (by omega))]
    simp (disch := omega) only [↓reduceIte, ↓BR hR, OKx, inbT, ix_nI, h2 i hi]
    rw [bIe (p_holds (N := N) (S := T i) (by omega) (show p < 6 by omega)), if10, fb_ct_succ]
    unfold f_X0_tellersOf_28
    cases (T i).testBit p with
    | false => rw [if_neg (by decide), if_neg (by decide), nI_1]; rfl
    | true => rw [if_pos rfl, if_pos rfl, nI_1, nI_1]
theorem p_othX {N n p S : Nat} {b : Bool} {σ : Mm} {K : Nat → Nat} (hN : 20 ≤ N) (hR : Rf b σ) (h1 : gi σ 7 5 = nI n) (hn : n ≤ 6) (h2 : ∀ q, q < n → gi σ 10 q = nI (K q) ∧ K q < 16) (hp : p < n) : f_X0_othersWhoKnow N 7 (nI p) (nI S) σ = some (nI (fb_ct (fun q => decide (q ≠ p) && decide (K q &&& S ≠ 0)) n), σ) := by
  unfold f_X0_othersWhoKnow
  rw [if_pos OKx.2.2.2.1]
  refine loop (fun f i => f_X0_othersWhoKnow_5 N f 7 (nI p) (nI S) (nI (fb_ct (fun q => decide (q ≠ p) && decide (K q &&& S ≠ 0)) i)) (nI i) σ) _ n ?_ ?_ N 0 (by omega) (by omega)
  · intro f
    unfold f_X0_othersWhoKnow_5
    rw [h1, if_pos (nI_le (Nat.le_refl n) (by omega))]
  · intro f i hi A hA
    unfold f_X0_othersWhoKnow_5
    rw [hA]
    rw [h1, if_neg (nI_ge hi (by omega)), fb_ct_succ]
    have hk := (h2 i hi).2
    have hb : K i &&& S < 16 := Nat.lt_of_le_of_lt Nat.and_le_left hk
    by_cases c : i = p
    · subst c
      rw [if_pos rfl]
      unfold f_X0_othersWhoKnow_35
      rw [nI_1, if_neg (by simp)]
      rfl
    · rw [if_neg (fun q => c ((nI_eq (by omega) (by omega)).mp q))]
      simp (disch := omega) only [↓reduceIte, ↓BR hR, OKx, inbT, ix_nI, (h2 i hi).1, nI_and]
      unfold f_X0_othersWhoKnow_35
      by_cases z : K i &&& S = 0
      · rw [z, if_pos (show nI 0 = 0 from rfl), nI_1, if_neg (by simp)]
        rfl
      · rw [if_neg (nI_ne0 (by omega) (by omega)), nI_1, nI_1, if_pos (by simp [c, z])]
theorem p_tellM {N n p : Nat} {b : Bool} {σ : Mm} {kd : Nat → Nat} {y : Dy} (hN : 20 ≤ N) (hR : Rf b σ) (h : MS σ 78 n kd y) (hp : p < n) : f_X6_tellersOf N 66 (nI p) σ = some (nI (fb_ct (fun q => (te n kd y.1 y.2.1 y.2.2.2 q).testBit p) n), σ) := by
  have h1 := h.1
  have hn := h.2.2.2.1
  unfold f_X6_tellersOf
  rw [if_pos OKx.2.1]
  refine loop (fun f i => f_X6_tellersOf_4 N f 66 (nI p) (nI (fb_ct (fun q => (te n kd y.1 y.2.1 y.2.2.2 q).testBit p) i)) (nI i) σ) _ n ?_ ?_ N 0 (by omega) (by omega)
  · intro f
    unfold f_X6_tellersOf_4
    rw [h1, if_pos (nI_le (Nat.le_refl n) (by omega))]
  · intro f i hi A hA
    unfold f_X6_tellersOf_4
    rw [hA]
    rw [h1, if_neg (nI_ge hi (by omega)), fb_ct_succ, te, msk_tb, decide_eq_true hp, Bool.true_and]
    by_cases c : i = p
    · subst c
      rw [if_pos rfl]
      unfold f_X6_tellersOf_35 f_X6_tellersOf_36
      simp only [lt]
      rw [nI_1, if_neg (by simp [teB]), nI_z]
      rfl
    · rw [if_neg (fun q => c ((nI_eq (by omega) (by omega)).mp q))]
      simp (disch := omega) only [↓reduceIte, ↓BR hR, OKm]
      rw [bIe (pm_isTold (N := N) hR h hi hp c), if10]
      unfold f_X6_tellersOf_35 f_X6_tellersOf_36
      simp only [lt]
      cases teB n kd y.1 y.2.1 y.2.2.2 i p with
      | false => rw [if_neg (by decide), if_neg (by decide), nI_1, nI_z]; rfl
      | true => rw [if_pos rfl, if_pos rfl, nI_1, nI_1]
theorem p_othM {N n p S : Nat} {b : Bool} {σ : Mm} {kd : Nat → Nat} {y : Dy} (hN : 20 ≤ N) (hR : Rf b σ) (h : MS σ 78 n kd y) (hp : p < n) : f_X6_othersKnow N 66 (nI p) (nI S) σ = some (nI (fb_ct (fun q => decide (q ≠ p) && decide (kn n kd y.1 y.2.2.2 q &&& S ≠ 0)) n), σ) := by
  have h1 := h.1
  have hn := h.2.2.2.1
  unfold f_X6_othersKnow
  rw [if_pos OKx.2.1]
  refine loop (fun f i => f_X6_othersKnow_5 N f 66 (nI p) (nI S) (nI (fb_ct (fun q => decide (q ≠ p) && decide (kn n kd y.1 y.2.2.2 q &&& S ≠ 0)) i)) (nI i) σ) _ n ?_ ?_ N 0 (by omega) (by omega)
  · intro f
    unfold f_X6_othersKnow_5
    rw [h1, if_pos (nI_le (Nat.le_refl n) (by omega))]
  · intro f i hi A hA
    unfold f_X6_othersKnow_5
    rw [hA]
    rw [h1, if_neg (nI_ge hi (by omega)), fb_ct_succ]
    have hk := kn_lt (kd := kd) (no := y.2.2.2) h.2.2.2.2.2.1 hi
    have hb : kn n kd y.1 y.2.2.2 i &&& S < 16 := Nat.lt_of_le_of_lt Nat.and_le_left hk
    by_cases c : i = p
    · subst c
      rw [if_pos rfl]
      unfold f_X6_othersKnow_40 f_X6_othersKnow_41
      simp only [lt]
      rw [nI_1, if_neg (by simp), nI_z]
      rfl
    · rw [if_neg (fun q => c ((nI_eq (by omega) (by omega)).mp q))]
      simp (disch := omega) only [↓reduceIte, ↓BR hR, OKm]
      rw [bIe (pm_knowsIn (N := N) hR h hi), nI_and]
      unfold f_X6_othersKnow_40 f_X6_othersKnow_41
      simp only [lt]
      by_cases z : kn n kd y.1 y.2.2.2 i &&& S = 0
      · rw [z, if_pos (show nI 0 = 0 from rfl), nI_1, if_neg (by simp), nI_z]
        rfl
      · rw [if_neg (nI_ne0 (by omega) (by omega)), nI_1, nI_1, if_pos (by simp [c, z])]
theorem mkIf {ρ : Type} (A B : ρ) : ∀ k : Nat, 1 ≤ k → k < 6 → ∀ m : Nat, m ≤ 5 → (if nI m = nI k then A else if nI k = (1 : Int32) then (if nI m = (3 : Int32) then A else if nI k = (2 : Int32) then (if nI m = (4 : Int32) then A else B) else B) else if nI k = (2 : Int32) then (if nI m = (4 : Int32) then A else B) else B) = if isK k m then A else B := by
  intro k h1 h2 m h3
  rcases (show k = 1 ∨ k = 2 ∨ k = 3 ∨ k = 4 ∨ k = 5 by omega) with rfl | rfl | rfl | rfl | rfl <;>
  rcases (show m = 0 ∨ m = 1 ∨ m = 2 ∨ m = 3 ∨ m = 4 ∨ m = 5 by omega) with rfl | rfl | rfl | rfl | rfl | rfl <;> rfl
theorem s_mark {N : Nat} (hN : 20 ≤ N) (x w : Int32) : Sim (f_X5_mark N 0 x w) (f_X6_mark N 66 x w) := by
  intro b σ h
  have hR := h.1
  obtain ⟨n, kd, al, sg, ds, kp, w1, w2, w3⟩ := h.2.2.2.2
  have hs := w2.1.1
  have hn := w1.1
  have hP := pl_cases b
  rcases arg2 x n (by omega) with q | ⟨p, hp, rfl⟩
  · refine ⟨-1, σ, σ, b, ?_, ?_, h⟩
    · unfold f_X5_mark
      rw [if_pos OKx.1, BRpl hR, if_pos (ok_p hP).1, bIe (p_hasP0 (N := N) hP (by rw [hs]; exact q))]
      rfl
    · unfold f_X6_mark
      rw [if_pos OKx.2.1, bIe (p_isPer0 (N := N) w3.1 hn q)]
      rfl
  · have hwc : (w < (1 : Int32) ∨ nI 6 ≤ w) ∨ ∃ k : Nat, 1 ≤ k ∧ k < 6 ∧ w = nI k := by
      rcases arg2 w 6 (by omega) with (q | q) | ⟨k, hk, rfl⟩
      · exact Or.inl (Or.inl (Int32.lt_trans q (by decide)))
      · exact Or.inl (Or.inr q)
      · by_cases c : k = 0
        · subst c; exact Or.inl (Or.inl (by decide))
        · exact Or.inr ⟨k, by omega, hk, rfl⟩
    rcases hwc with q | ⟨k, hk1, hk, rfl⟩
    · refine ⟨-1, σ, σ, b, ?_, ?_, h⟩
      · unfold f_X5_mark
        rw [if_pos OKx.1, BRpl hR, if_pos (ok_p hP).1, bIe (p_hasP1 (N := N) hP hs hp hn), if_neg (show ¬ (1 : Int32) = 0 by decide)]
        by_cases c : w < 1
        · rw [if_pos c]
        · rw [if_neg c, if_neg (show ¬ w < (6 : Int32) from Int32.not_lt.mpr (q.resolve_left c))]
      · unfold f_X6_mark
        rw [if_pos OKx.2.1, bIe (p_isPer1 (N := N) w3.1 hn hp), if_neg (show ¬ (1 : Int32) = 0 by decide), bIe (show f_X6_in N w 1 (5 : Int32) σ = some (0, σ) from p_in0 (q.imp id (fun z => le_lt6 (n := 5) (by decide) z)))]
        rfl
    · have hMS := TW_MS (b := b) w1 w3
      have hkd := w1.2.1 p hp
      have hM : PM σ (pl b) n kd := PX_PM hP hn w2.1
      have bx : f_X5_mark N 0 (nI p) (nI k) σ = (if isK k (kd p) then (if nI k = (1) then (bR (gr σ 0 6) (okO 2) (fun o7 => bR (gr σ 0 4) (okO 0) (fun o8 => bR (gr σ o8 0) (okA 0) (fun o9 => bI (f_X2_gainOf N o7 (nI p) o9 σ) (fun r11 t10 => some (r11, t10)))))) else (if nI k = (2) then (bR (gr σ 0 4) (okO 0) (fun o12 => bI (f_X0_tellersOf N o12 (nI p) σ) (fun r14 t13 => some (r14, t13)))) else (if nI k = (3) then (bR (gr σ 0 4) (okO 0) (fun o15 => bR (gr σ 0 4) (okO 0) (fun o16 => bR (gr σ o16 0) (okA 0) (fun o17 => if inb (nI p) (arL o17) then (bI (f_X0_othersWhoKnow N o15 (nI p) ((1) <<< ((((gi σ o17 (ix (nI p))) + (1)) - ((gi σ o17 (ix (nI p))) + (1)) / (4) * (4)) &&& 31)) σ) (fun r19 t18 => some (r19, t18))) else none)))) else (if nI k = (4) then (bR (gr σ 0 4) (okO 0) (fun o20 => bR (gr σ 0 4) (okO 0) (fun o21 => bR (gr σ o21 2) (okA 0) (fun o22 => if inb (nI p) (arL o22) then (bI (f_X0_othersWhoKnow N o20 (nI p) (gi σ o22 (ix (nI p))) σ) (fun r24 t23 => some (r24, t23))) else none)))) else (bR (gr σ 0 4) (okO 0) (fun o25 => bR (gr σ o25 2) (okA 0) (fun o26 => if inb (nI p) (arL o26) then (bI (f_J6_bitCount_0f7a4 N (gi σ o26 (ix (nI p))) σ) (fun r28 t27 => some (r28, t27))) else none))))))) else (some (-3, fndX σ 3))) := by
        unfold f_X5_mark
        rw [if_pos OKx.1, BRpl hR, if_pos (ok_p hP).1, bIe (p_hasP1 (N := N) hP hs hp hn), if_neg (show ¬ (1 : Int32) = 0 by decide), if_neg (show ¬ nI k < (1 : Int32) from nI_nlt (b := 1) hk1 (by omega)), if_pos (show nI k < (6 : Int32) from nI_lt (b := 6) hk (by decide)), BRpl hR, if_pos (ok_p hP).1, bIe (p_is hR hP hM.2.2.2 hn hp hk), if10, bIe (p_fnd hR).2.2.1]
      have bm : f_X6_mark N 66 (nI p) (nI k) σ = (if isK k (kd p) then f_X6_mark_57 N 66 (nI p) (nI k) σ else (some (-3, fndM σ 3))) := by
        unfold f_X6_mark
        rw [if_pos OKx.2.1, bIe (p_isPer1 (N := N) w3.1 hn hp), if_neg (show ¬ (1 : Int32) = 0 by decide), bIe (show f_X6_in N (nI k) 1 (5 : Int32) σ = some (1, σ) from p_in1 (nI_nlt (b := 1) hk1 (by omega)) (nI_nlt (a := 5) (b := k) (by omega) (by omega))), if_neg (show ¬ (1 : Int32) = 0 by decide)]
        simp (disch := omega) only [↓reduceIte, ↓BR hR, OKm, inbT, ix_nI, (w3.2.1 p hp).1, lt]
        unfold f_X6_mark_41 f_X6_mark_51
        rw [mkIf _ _ k hk1 hk _ hkd, bIe (p_mts hR).2.2.1]
      have hdy := okDy_rep (al := al) (n := n) w1.2.2.1 ds w1.2.2.2.2.2.2.1
      have hd : ∀ q, q < n → gi σ 8 q = nI ((rep al sg ds).1 q) ∧ (rep al sg ds).1 q < 4 := fun q hq => ⟨(w2.2.1.2.2.1 q hq).1, hdy.1 q hq⟩
      have hkn : ∀ q, q < n → gi σ 10 q = nI (kn n kd (rep al sg ds).1 (rep al sg ds).2.2.2 q) ∧ kn n kd (rep al sg ds).1 (rep al sg ds).2.2.2 q < 16 := fun q hq => ⟨(w2.2.1.2.2.2.1 q hq).1, kn_lt hdy.1 hq⟩
      cases hi : isK k (kd p) with
      | false =>
        refine ⟨-3, fndX σ 3, fndM (fndX σ 3) 3, b, ?_, ?_, rel_find h (by decide)⟩
        · rw [bx, hi]; rfl
        · -- the reference on the cells as the class left them
          have w3' : TWm (fndX σ 3) n kd al sg ds kp := TWm_congr (σ := σ) hn (fun a k q => by
            simp only [gi_fndX]
            repeat' (first | rw [if_neg (by omega)] | rw [if_pos (by omega)] | rw [if_pos (by simp <;> omega)] | fail)) w3
          have hR' : Rf b (fndX σ 3) := hR
          unfold f_X6_mark
          rw [if_pos OKx.2.1, bIe (p_isPer1 (N := N) w3'.1 hn hp), if_neg (show ¬ (1 : Int32) = 0 by decide), bIe (show f_X6_in N (nI k) 1 (5 : Int32) (fndX σ 3) = some (1, fndX σ 3) from p_in1 (nI_nlt (b := 1) hk1 (by omega)) (nI_nlt (a := 5) (b := k) (by omega) (by omega))), if_neg (show ¬ (1 : Int32) = 0 by decide)]
          simp (disch := omega) only [↓reduceIte, ↓BR hR', OKm, inbT, ix_nI, (w3'.2.1 p hp).1, lt]
          unfold f_X6_mark_41 f_X6_mark_51
          rw [mkIf _ _ k hk1 hk _ hkd, bIe (p_mts hR').2.2.1, hi]
          rfl
      | true =>
        rw [hi, if_pos rfl] at bx bm
        unfold f_X6_mark_57 at bm
        rcases (show k = 1 ∨ k = 2 ∨ k = 3 ∨ k = 4 ∨ k = 5 by omega) with rfl | rfl | rfl | rfl | rfl
        · refine ⟨nI (pc 6 (kn n kd (rep al sg ds).1 true p)) - nI (pc 6 (kn n kd (rep al sg ds).1 false p)), σ, σ, b, ?_, ?_, h⟩
          · rw [bx, if_pos (by rfl), BRpl hR, if_pos (ok_p hP).1]
            simp (disch := omega) only [↓reduceIte, ↓BR hR, OKx]
            rw [bIe (p_gain (N := N) hR hM ⟨by decide, by decide⟩ hd hp)]
          · have k1 := kn_lt (kd := kd) (no := true) hdy.1 hp
            have k2 := kn_lt (kd := kd) (no := false) hdy.1 hp
            rw [bm, if_pos (by rfl)]
            simp (disch := omega) only [↓reduceIte, ↓BR hR, OKm]
            rw [bIe (show f_X6_knows N 66 78 (nI p) (1 : Int32) σ = _ from pm_knows (N := N) hR hMS hp true), bIe (p_bits hN (by omega))]
            simp (disch := omega) only [↓reduceIte, ↓BR hR, OKm]
            rw [bIe (show f_X6_knows N 66 78 (nI p) (0 : Int32) σ = _ from pm_knows (N := N) hR hMS hp false), bIe (p_bits hN (by omega))]
        · refine ⟨nI (fb_ct (fun q => (te n kd (rep al sg ds).1 (rep al sg ds).2.1 (rep al sg ds).2.2.2 q).testBit p) n), σ, σ, b, ?_, ?_, h⟩
          · rw [bx, if_neg (by decide), if_pos (by rfl)]
            simp (disch := omega) only [↓reduceIte, ↓BR hR, OKx]
            rw [bIe (p_tellX hN hR (YX_GX hn (Or.inl rfl) w2.2.1) hp)]
          · rw [bm, if_neg (by decide), if_pos (by rfl), bIe (p_tellM hN hR hMS hp)]
        · refine ⟨nI (fb_ct (fun q => decide (q ≠ p) && decide (kn n kd (rep al sg ds).1 (rep al sg ds).2.2.2 q &&& 2 ^ (((rep al sg ds).1 p + 1) % 4) ≠ 0)) n), σ, σ, b, ?_, ?_, h⟩
          · have := (hd p hp).2
            rw [bx, if_neg (by decide), if_neg (by decide), if_pos (by rfl), show (4 : Int32) = nI 4 from rfl]
            simp (disch := omega) only [↓reduceIte, ↓BR hR, OKx, inbT, ix_nI, (hd p hp).1, nI_1, pk_rem, shl1]
            rw [bIe (p_othX hN hR w2.2.1.1 hn hkn hp)]
          · have := (hd p hp).2
            have z := (hMS.2.2.1.1 p hp).1
            rw [bm, if_neg (by decide), if_neg (by decide), if_pos (by rfl), show (4 : Int32) = nI 4 from rfl]
            simp (disch := omega) only [↓reduceIte, ↓BR hR, OKm, inbT, ix_nI, z, nI_1, pk_rem, shl1]
            rw [bIe (p_othM hN hR hMS hp)]
        · refine ⟨nI (fb_ct (fun q => decide (q ≠ p) && decide (kn n kd (rep al sg ds).1 (rep al sg ds).2.2.2 q &&& kn n kd (rep al sg ds).1 (rep al sg ds).2.2.2 p ≠ 0)) n), σ, σ, b, ?_, ?_, h⟩
          · rw [bx, if_neg (by decide), if_neg (by decide), if_neg (by decide), if_pos (by rfl)]
            simp (disch := omega) only [↓reduceIte, ↓BR hR, OKx, inbT, ix_nI, (hkn p hp).1]
            rw [bIe (p_othX hN hR w2.2.1.1 hn hkn hp)]
          · rw [bm, if_neg (by decide), if_neg (by decide), if_neg (by decide), if_pos (by rfl)]
            simp (disch := omega) only [↓reduceIte, ↓BR hR, OKm]
            rw [bIe (pm_knowsIn (N := N) hR hMS hp), bIe (p_othM hN hR hMS hp)]
        · have k1 := (hkn p hp).2
          refine ⟨nI (pc 6 (kn n kd (rep al sg ds).1 (rep al sg ds).2.2.2 p)), σ, σ, b, ?_, ?_, h⟩
          · rw [bx, if_neg (by decide), if_neg (by decide), if_neg (by decide), if_neg (by decide)]
            simp (disch := omega) only [↓reduceIte, ↓BR hR, OKx, inbT, ix_nI, (hkn p hp).1]
            rw [bIe (p_bitC (N := N) (by omega))]
          · rw [bm, if_neg (by decide), if_neg (by decide), if_neg (by decide), if_neg (by decide)]
            simp (disch := omega) only [↓reduceIte, ↓BR hR, OKm]
            rw [bIe (pm_knowsIn (N := N) hR hMS hp), bIe (p_bits hN (by omega))]
theorem p_und {N o n t : Nat} {b : Bool} {σ : Mm} {kd : Nat → Nat} {y : Dy} (hN : 20 ≤ N) (hR : Rf b σ) (h : MS σ o n kd y) (ht : t < 4) : f_X6_understand N 66 o (nI t) σ = some (nI (he n kd y.1 y.2.2.2 t), σ) := by
  have h1 := h.1
  have hn := h.2.2.2.1
  have ho := ok_o h.2.2.2.2.2.2.2
  unfold f_X6_understand
  rw [if_pos OKx.2.1, if_pos ho.1]
  refine loop (fun f i => f_X6_understand_5 N f 66 o (nI t) (nI (msk (fun q => !(!y.2.2.2 && decide (kd q = 4)) && (kn n kd y.1 y.2.2.2 q).testBit t) i)) (nI i) σ) _ n ?_ ?_ N 0 (by omega) (by omega)
  · intro f
    unfold f_X6_understand_5
    rw [h1, if_pos (nI_le (Nat.le_refl n) (by omega))]
    rfl
  · intro f i hi A hA
    unfold f_X6_understand_5
    rw [hA]
    have hk := kn_lt (kd := kd) (no := y.2.2.2) h.2.2.2.2.2.1 hi
    rw [h1, if_neg (nI_ge hi (by omega)), bIe (pm_isShut (N := N) hR h hi), if10]
    unfold f_X6_understand_46 f_X6_understand_47
    simp only [lt]
    rw [msk]
    cases (!y.2.2.2 && decide (kd i = 4)) with
    | true =>
      rw [if_pos rfl, if_neg (by simp), Nat.or_zero, nI_1, show nI (msk (fun q => !(!y.2.2.2 && decide (kd q = 4)) && (kn n kd y.1 y.2.2.2 q).testBit t) i) ||| (0 : Int32) = nI (msk (fun q => !(!y.2.2.2 && decide (kd q = 4)) && (kn n kd y.1 y.2.2.2 q).testBit t) i) from (nI_or _ 0).trans (by rw [Nat.or_zero])]
    | false =>
      rw [if_neg (by decide), bIe (pm_knowsIn (N := N) hR h hi), bIe (p_has (N := N) (by omega) (show t < 6 by omega)), if10]
      cases (kn n kd y.1 y.2.2.2 i).testBit t with
      | false =>
        rw [if_neg (by decide), if_neg (by simp), Nat.or_zero, nI_1, show nI (msk (fun q => !(!y.2.2.2 && decide (kd q = 4)) && (kn n kd y.1 y.2.2.2 q).testBit t) i) ||| (0 : Int32) = nI (msk (fun q => !(!y.2.2.2 && decide (kd q = 4)) && (kn n kd y.1 y.2.2.2 q).testBit t) i) from (nI_or _ 0).trans (by rw [Nat.or_zero])]
      | true =>
        rw [if_pos rfl, if_pos (by simp), nI_1, shl1 i (by omega), nI_or]
theorem he_lt {n : Nat} {kd dl : Nat → Nat} {no : Bool} {t : Nat} (hn : n ≤ 6) : he n kd dl no t < 64 := msk_lt6 _ hn
theorem p_set0X {N P n : Nat} {σ : Mm} {x : Int32} (hP : P = 19 ∨ P = 27) (hs : gi σ P 8 = nI n) (hn : n ≤ 6) (q : x < 0 ∨ nI (2 ^ n) ≤ x) : f_X2_isSet N P x σ = some (0, σ) := by
  unfold f_X2_isSet
  have := pow6 hn
  have := Nat.two_pow_pos n
  rw [if_pos (ok_p hP).1]
  by_cases c : x < 0
  · rw [if_pos c]
  · rw [if_neg c, bIe (p_everyX (N := N) hP hs hn), if_pos (le_lt6 (n := 2 ^ n - 1) (by omega) (by rw [show 2 ^ n - 1 + 1 = 2 ^ n by omega]; exact q.resolve_left c))]
theorem p_set1X {N P n S : Nat} {σ : Mm} (hP : P = 19 ∨ P = 27) (hs : gi σ P 8 = nI n) (hn : n ≤ 6) (q : S < 2 ^ n) : f_X2_isSet N P (nI S) σ = some (1, σ) := by
  unfold f_X2_isSet
  have := pow6 hn
  rw [if_pos (ok_p hP).1, if_neg (nI_pos (by omega)), bIe (p_everyX (N := N) hP hs hn), if_neg (nI_nlt (by omega) (by omega))]
theorem p_set0M {N n : Nat} {σ : Mm} {x : Int32} (hs : gi σ 66 10 = nI n) (hn : n ≤ 6) (q : x < 0 ∨ nI (2 ^ n) ≤ x) : f_X6_isSet N 66 x σ = some (0, σ) := by
  unfold f_X6_isSet
  have := pow6 hn
  have := Nat.two_pow_pos n
  rw [if_pos OKx.2.1, bIe (p_everyM (N := N) hs hn), bIe (p_in0 (N := N) (q.imp id (fun z => le_lt6 (n := 2 ^ n - 1) (by omega) (by rw [show 2 ^ n - 1 + 1 = 2 ^ n by omega]; exact z))))]
  rfl
theorem p_set1M {N n S : Nat} {σ : Mm} (hs : gi σ 66 10 = nI n) (hn : n ≤ 6) (q : S < 2 ^ n) : f_X6_isSet N 66 (nI S) σ = some (1, σ) := by
  unfold f_X6_isSet
  have := pow6 hn
  rw [if_pos OKx.2.1, bIe (p_everyM (N := N) hs hn), bIe (p_in1 (N := N) (nI_pos (by omega)) (nI_nlt (by omega) (by omega)))]
  rfl
theorem s_shouted {N : Nat} (hN : 20 ≤ N) (x : Int32) : Sim (f_X5_shouted N 0 x) (f_X6_shouted N 66 x) := by
  intro b σ h
  have hR := h.1
  obtain ⟨n, kd, al, sg, ds, kp, w1, w2, w3⟩ := h.2.2.2.2
  have hs := w2.1.1
  have hn := w1.1
  have hP := pl_cases b
  have h64 := pow6 hn
  rcases arg2 x (2 ^ n) (by omega) with q | ⟨S, hS, rfl⟩
  · refine ⟨-1, σ, σ, b, ?_, ?_, h⟩
    · unfold f_X5_shouted
      rw [if_pos OKx.1, BRpl hR, if_pos (ok_p hP).1, bIe (p_set0X (N := N) hP hs hn q)]
      rfl
    · unfold f_X6_shouted
      rw [if_pos OKx.2.1, bIe (p_set0M (N := N) w3.1 hn q)]
      rfl
  · have hMS := TW_MS (b := b) w1 w3
    have z0 : ∀ a : Nat, nI a ||| (0 : Int32) = nI a := fun a => (nI_or a 0).trans (by rw [Nat.or_zero])
    refine ⟨nI (msk (fun t => decide (he n kd (rep al sg ds).1 (rep al sg ds).2.2.2 t = S)) 4), σ, σ, b, ?_, ?_, h⟩
    · unfold f_X5_shouted
      rw [if_pos OKx.1, BRpl hR, if_pos (ok_p hP).1, bIe (p_set1X (N := N) hP hs hn hS), if_neg (show ¬ (1 : Int32) = 0 by decide)]
      refine loop (fun f i => f_X5_shouted_17 N f 0 (nI S) (nI (msk (fun t => decide (he n kd (rep al sg ds).1 (rep al sg ds).2.2.2 t = S)) i)) (nI i) σ) _ 4 ?_ ?_ N 0 (by omega) (by omega)
      · intro f
        unfold f_X5_shouted_17
        rw [show (4 : Int32) = nI 4 from rfl, if_pos (nI_le (Nat.le_refl 4) (by omega))]
      · intro f i hi A hA
        unfold f_X5_shouted_17
        rw [hA]
        have hh : gi σ 11 i = nI (he n kd (rep al sg ds).1 (rep al sg ds).2.2.2 i) := w2.2.1.2.2.2.2 i hi
        have hl : he n kd (rep al sg ds).1 (rep al sg ds).2.2.2 i < 64 := he_lt hn
        rw [show (4 : Int32) = nI 4 from rfl, if_neg (nI_ge hi (by omega))]
        simp (disch := omega) only [↓reduceIte, ↓BR hR, OKx, inbT, ix_nI, hh, lt, shl1, nI_or]
        unfold f_X5_shouted_41
        rw [msk]
        by_cases c : he n kd (rep al sg ds).1 (rep al sg ds).2.2.2 i = S
        · rw [c, if_pos rfl, if_pos (by simp), nI_1]
        · rw [if_neg (fun q => c ((nI_eq (by omega) (by omega)).mp q)), if_neg (by simp [c]), nI_1, Nat.or_zero]
    · unfold f_X6_shouted
      rw [if_pos OKx.2.1, bIe (p_set1M (N := N) w3.1 hn hS), if_neg (show ¬ (1 : Int32) = 0 by decide)]
      refine loop (fun f i => f_X6_shouted_14 N f 66 (nI S) (nI (msk (fun t => decide (he n kd (rep al sg ds).1 (rep al sg ds).2.2.2 t = S)) i)) (nI i) σ) _ 4 ?_ ?_ N 0 (by omega) (by omega)
      · intro f
        unfold f_X6_shouted_14
        rw [show (4 : Int32) = nI 4 from rfl, if_pos (nI_le (Nat.le_refl 4) (by omega))]
      · intro f i hi A hA
        unfold f_X6_shouted_14
        rw [hA]
        have hl : he n kd (rep al sg ds).1 (rep al sg ds).2.2.2 i < 64 := he_lt hn
        rw [show (4 : Int32) = nI 4 from rfl, if_neg (nI_ge hi (by omega))]
        simp (disch := omega) only [↓reduceIte, ↓BR hR, OKm]
        rw [bIe (p_und hN hR hMS hi)]
        unfold f_X6_shouted_40
        simp only [lt]
        rw [msk]
        by_cases c : he n kd (rep al sg ds).1 (rep al sg ds).2.2.2 i = S
        · rw [c, if_pos rfl, if_pos (by simp), nI_1, shl1 i (by omega), nI_or]
        · rw [if_neg (fun q => c ((nI_eq (by omega) (by omega)).mp q)), if_neg (by simp [c]), nI_1, z0, Nat.or_zero]
