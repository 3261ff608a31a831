/-! ===== PURE: person, count ===== -/
theorem p_toldX {N n p k : Nat} {b : Bool} {σ : Mm} {kd al sg : Nat → Nat} {y : Dy} (hR : Rf b σ) (hP : PX σ (pl b) n kd al sg) (hY : YX σ 7 n kd y) (hn : n ≤ 6) (hp : p < n) (hk : k < 5) : f_X5_toldOf N 0 (nI p) (nI k) σ = some (nI (if k = 0 then kd p else if k = 1 then y.1 p else if k = 2 then kn n kd y.1 y.2.2.2 p else if k = 3 then al p else y.2.1 p), σ) := by
  have hpl := pl_cases b
  obtain ⟨q1, q2, q3, q4, q5⟩ := hP.2.2.2 p hp
  obtain ⟨r1, r2⟩ := hY.2.2.1 p hp
  have r3 := (hY.2.2.2.1 p hp).1
  have e0 : (0 : Int32) = nI 0 := rfl
  have e1 : (1 : Int32) = nI 1 := rfl
  have e2 : (2 : Int32) = nI 2 := rfl
  have e3 : (3 : Int32) = nI 3 := rfl
  unfold f_X5_toldOf
  rw [if_pos OKx.1, e0, e1, e2, e3]
  rcases (show k = 0 ∨ k = 1 ∨ k = 2 ∨ k = 3 ∨ k = 4 by omega) with rfl | rfl | rfl | rfl | rfl
  · rw [if_pos rfl, BRpl hR, if_pos (ok_p hpl).1, (BRp hR hpl).1, if_pos (ok_p hpl).2.1, (ok_p hpl).2.2.2.2.2.2.2.2.1, if_pos (inbT (by omega) (by omega)), ix_nI (by omega), q1]
    rfl
  · rw [if_neg (by decide), if_pos rfl]
    simp (disch := omega) only [↓reduceIte, ↓BR hR, OKx, inbT, ix_nI, r1]
    rfl
  · rw [if_neg (by decide), if_neg (by decide), if_pos rfl]
    simp (disch := omega) only [↓reduceIte, ↓BR hR, OKx, inbT, ix_nI, r3]
    rfl
  · rw [if_neg (by decide), if_neg (by decide), if_neg (by decide), if_pos rfl, BRpl hR, if_pos (ok_p hpl).1, (BRp hR hpl).2.2.2.2.1, if_pos (ok_p hpl).2.2.2.2.2.1, (ok_p hpl).2.2.2.2.2.2.2.2.2.2.2.2.1, if_pos (inbT (by omega) (by omega)), ix_nI (by omega), q3]
    rfl
  · rw [if_neg (by decide), if_neg (by decide), if_neg (by decide), if_neg (by decide)]
    simp (disch := omega) only [↓reduceIte, ↓BR hR, OKx, inbT, ix_nI, r2]
    rfl
theorem p_toldM {N n p k : Nat} {b : Bool} {σ : Mm} {kd al : Nat → Nat} {y : Dy} (hR : Rf b σ) (h : MS σ 78 n kd y) (ha : ∀ p, p < n → gi σ 74 p = nI (al p)) (hp : p < n) (hk : k < 5) : f_X6_personTells N 66 (nI p) (nI k) σ = some (nI (if k = 0 then kd p else if k = 1 then y.1 p else if k = 2 then kn n kd y.1 y.2.2.2 p else if k = 3 then al p else y.2.1 p), σ) := by
  have h0 := h
  obtain ⟨h1, h2, h3, h4, h5, h6, h7, h8⟩ := h0
  have e0 : (0 : Int32) = nI 0 := rfl
  have e1 : (1 : Int32) = nI 1 := rfl
  have e2 : (2 : Int32) = nI 2 := rfl
  have e3 : (3 : Int32) = nI 3 := rfl
  have e6 : (6 : Int32) = nI 6 := rfl
  obtain ⟨r1, r2⟩ := h3.1 p hp
  have r1 : gi σ 78 p = nI (y.1 p) := r1
  have r2 : gi σ 78 (6 + p) = nI (y.2.1 p) := r2
  unfold f_X6_personTells
  rw [if_pos OKx.2.1, e0, e1, e2, e3, e6]
  rcases (show k = 0 ∨ k = 1 ∨ k = 2 ∨ k = 3 ∨ k = 4 by omega) with rfl | rfl | rfl | rfl | rfl
  · rw [if_pos rfl]
    simp (disch := omega) only [↓reduceIte, ↓BR hR, OKm, inbT, ix_nI, h2 p hp]
  · rw [if_neg (by decide), if_pos rfl]
    simp (disch := omega) only [↓reduceIte, ↓BR hR, OKm, inbT, ix_nI, r1]
    rfl
  · rw [if_neg (by decide), if_neg (by decide), if_pos rfl]
    simp (disch := omega) only [↓reduceIte, ↓BR hR, OKm]
    rw [bIe (pm_knowsIn (N := N) hR h hp)]
    rfl
  · rw [if_neg (by decide), if_neg (by decide), if_neg (by decide), if_pos rfl]
    simp (disch := omega) only [↓reduceIte, ↓BR hR, OKm, inbT, ix_nI, ha p hp]
    rfl
  · rw [if_neg (by decide), if_neg (by decide), if_neg (by decide), if_neg (by decide)]
    simp (disch := omega) only [↓reduceIte, ↓BR hR, OKm, nI_add, inbT, ix_nI, r2]
    rfl
theorem s_person {N : Nat} (x w : Int32) : Sim (f_X5_person N 0 x w) (f_X6_person N 66 x w) := by
  intro b σ h
  have hR := h.1
  obtain ⟨n, kd, al, sg, ds, kp, w1, w2, w3⟩ := h.2.2.2.2
  have hs := w2.1.1
  have hn := w1.1
  have hP := pl_cases b
  rcases arg2 x n (by omega) with q | ⟨p, hp, rfl⟩
  · refine ⟨-1, σ, σ, b, ?_, ?_, h⟩
    · unfold f_X5_person
      rw [if_pos OKx.1, BRpl hR, if_pos (ok_p hP).1, bIe (p_hasP0 (N := N) hP (by rw [hs]; exact q))]
      rfl
    · unfold f_X6_person
      rw [if_pos OKx.2.1, bIe (p_isPer0 (N := N) w3.1 hn q)]
      rfl
  · rcases arg2 w 5 (by omega) with q | ⟨k, hk, rfl⟩
    · refine ⟨-1, σ, σ, b, ?_, ?_, h⟩
      · unfold f_X5_person
        rw [if_pos OKx.1, BRpl hR, if_pos (ok_p hP).1, bIe (p_hasP1 (N := N) hP hs hp hn), if_neg (show ¬ (1 : Int32) = 0 by decide)]
        by_cases c : w < 0
        · rw [if_pos c]
        · rw [if_neg c, if_neg (show ¬ w < (5 : Int32) from Int32.not_lt.mpr (q.resolve_left c))]
      · unfold f_X6_person
        rw [if_pos OKx.2.1, bIe (p_isPer1 (N := N) w3.1 hn hp), if_neg (show ¬ (1 : Int32) = 0 by decide), bIe (show f_X6_in N w 0 (4 : Int32) σ = some (0, σ) from p_in0 (q.imp id (fun z => le_lt6 (n := 4) (by decide) z)))]
        rfl
    · have hm := TW_MS (b := b) w1 w3
      have tX := p_toldX (N := N) hR w2.1 w2.2.1 hn hp hk
      generalize hv : nI (if k = 0 then kd p else if k = 1 then (rep al sg ds).1 p else if k = 2 then kn n kd (rep al sg ds).1 (rep al sg ds).2.2.2 p else if k = 3 then al p else (rep al sg ds).2.1 p) = v at tX
      refine ⟨1, si σ 0 11 v, si (si σ 0 11 v) 66 2 v, b, ?_, ?_, rel_asked h v⟩
      · unfold f_X5_person
        rw [if_pos OKx.1, BRpl hR, if_pos (ok_p hP).1, bIe (p_hasP1 (N := N) hP hs hp hn), if_neg (show ¬ (1 : Int32) = 0 by decide), if_neg (nI_pos (by omega)), if_pos (show nI k < (5 : Int32) from nI_lt (b := 5) hk (by decide)), bIe tX]
        rfl
      · have hR1 : Rf b (si σ 0 11 v) := hR
        have hm1 : MS (si σ 0 11 v) 78 n kd (rep al sg ds) := MS_congr (σ := σ) (fun a k z => by rw [gi_si, if_neg (by omega)]) hm
        have tM := p_toldM (N := N) (al := al) hR1 hm1 (fun p hp => by rw [gi_si, if_neg (by omega)]; exact (w3.2.1 p hp).2) hp hk
        rw [hv] at tM
        unfold f_X6_person
        rw [if_pos OKx.2.1, bIe (p_isPer1 (N := N) hm1.1 hn hp), if_neg (show ¬ (1 : Int32) = 0 by decide), bIe (show f_X6_in N (nI k) 0 (4 : Int32) (si σ 0 11 v) = some (1, si σ 0 11 v) from p_in1 (nI_pos (by omega)) (nI_nlt (a := 4) (b := k) (by omega) (by omega))), if_neg (show ¬ (1 : Int32) = 0 by decide), bIe tM, bIe (p_gives (N := N) hR1)]
/-- the number of signs -/
def sgs (sg : Nat → Nat) (n : Nat) : Nat := fb_sm (fun p => pc 6 (sg p)) n
theorem sgs_le {sg : Nat → Nat} {n : Nat} (h : n ≤ 6) : sgs sg n ≤ 36 := by
  have := fb_sm_bound (f := fun p => pc 6 (sg p)) (c := 6) (n := n) (fun k _ => pc6_le)
  unfold sgs
  omega
theorem p_signC {N n : Nat} {b : Bool} {σ : Mm} {kd : Nat → Nat} {y : Dy} (hN : 20 ≤ N) (hR : Rf b σ) (hp5 : gi σ 7 5 = nI n) (hsg : ∀ p, p < n → gi σ 9 p = nI (y.2.1 p)) (hn : n ≤ 6) (hs : ∀ p, p < n → y.2.1 p < 2 ^ n) : f_X0_signCount N 7 σ = some (nI (sgs y.2.1 n / 2), σ) := by
  have h6 := pow6 hn
  have key : ∀ (k i : Nat), i ≤ n → n - i < k → f_X0_signCount_4 N k 7 (nI (sgs y.2.1 i)) (nI i) σ = some (nI (sgs y.2.1 n / 2), σ) := by
    intro k
    induction k with
    | zero => intro i _ h; omega
    | succ k ih =>
      intro i hi hk
      have l1 := sgs_le (sg := y.2.1) (n := i) (by omega)
      unfold f_X0_signCount_4
      rw [hp5]
      by_cases e : i = n
      · subst e
        simp (disch := omega) only [↓reduceIte, leT]
        rw [show (2 : Int32) = nI 2 from rfl, pk_div (by omega) (by decide) (by decide)]
      · have hin : i < n := by omega
        have := hs i hin
        simp (disch := omega) only [↓reduceIte, leF, ↓BR hR, OKx, inbT, ix_nI, hsg i hin]
        rw [bIe (p_bitC (N := N) (by omega)), nI_add]
        show f_X0_signCount_4 N k 7 (nI (sgs y.2.1 i + pc 6 (y.2.1 i))) (nI i + 1) σ = _
        rw [nI_1]
        exact ih (i + 1) (by omega) (by omega)
  unfold f_X0_signCount
  rw [if_pos OKx.2.2.2.1]
  exact key N 0 (by omega) (by omega)
theorem p_signM {N n : Nat} {b : Bool} {σ : Mm} {kd : Nat → Nat} {y : Dy} (hN : 20 ≤ N) (hR : Rf b σ) (h : MS σ 78 n kd y) : f_X6_signMany N 66 σ = some (nI (sgs y.2.1 n / 2), σ) := by
  obtain ⟨h1, h2, h3, h4, h5, h6, h7, h8⟩ := h
  have hp6 := pow6 h4
  have key : ∀ (k i : Nat), i ≤ n → n - i < k → f_X6_signMany_4 N k 66 (nI (sgs y.2.1 i)) (nI i) σ = some (nI (sgs y.2.1 n / 2), σ) := by
    intro k
    induction k with
    | zero => intro i _ h; omega
    | succ k ih =>
      intro i hi hk
      have l1 := sgs_le (sg := y.2.1) (n := i) (by omega)
      unfold f_X6_signMany_4
      rw [h1]
      by_cases e : i = n
      · subst e
        simp (disch := omega) only [↓reduceIte, leT]
        rw [show (2 : Int32) = nI 2 from rfl, pk_div (by omega) (by decide) (by decide)]
      · have hin : i < n := by omega
        have := h7 i hin
        have r2 : gi σ 78 (6 + i) = nI (y.2.1 i) := (h3.1 i hin).2
        rw [show (6 : Int32) = nI 6 from rfl]
        simp (disch := omega) only [↓reduceIte, leF, ↓BR hR, OKm, nI_add, inbT, ix_nI, r2]
        rw [bIe (p_bits hN (by omega)), nI_add]
        show f_X6_signMany_4 N k 66 (nI (sgs y.2.1 i + pc 6 (y.2.1 i))) (nI i + 1) σ = _
        rw [nI_1]
        exact ih (i + 1) (by omega) (by omega)
  unfold f_X6_signMany
  rw [if_pos OKx.2.1]
  exact key N 0 (by omega) (by omega)
theorem pc_msk {P : Nat → Bool} {n : Nat} (h : n ≤ 6) : pc 6 (msk P n) = fb_ct P n := by
  unfold pc
  have e := fb_ct_split (fun q => (msk P n).testBit q) n (6 - n)
  rw [show n + (6 - n) = 6 by omega] at e
  rw [e]
  have z : fb_ct (fun k => (msk P n).testBit (n + k)) (6 - n) = 0 := fb_ct_zero.mpr (fun k _ => by
    rw [msk_tb]
    have : ¬ n + k < n := by omega
    simp [this])
  rw [z, Nat.add_zero]
  exact fb_ct_cong (fun k hk => by rw [msk_tb]; simp [hk])
theorem p_there {N : Nat} {b : Bool} {σ : Mm} (hN : 20 ≤ N) (hR : Rf b σ) : f_X5_rowsThere N 0 σ = some (nI (fb_ct (fun r => !decide (gi σ (37 + 2 * r) 1 = -1)) 6), σ) ∧ f_X5_textsThere N 0 σ = some (nI (fb_ct (fun r => !decide (gi σ (49 + 2 * r) 1 = -1)) 4), σ) ∧ f_X5_keptThere N 0 σ = some (nI (fb_ct (fun r => !decide (gi σ (57 + 3 * r) 2 = -1)) 3), σ) := by
  refine ⟨?_, ?_, ?_⟩
  · have key : ∀ (k i : Nat), i ≤ 6 → 6 - i < k → f_X5_rowsThere_4 N k 0 (nI (fb_ct (fun r => !decide (gi σ (37 + 2 * r) 1 = -1)) i)) (nI i) σ = some (nI (fb_ct (fun r => !decide (gi σ (37 + 2 * r) 1 = -1)) 6), σ) := by
      intro k
      induction k with
      | zero => intro i _ h; omega
      | succ k ih =>
        intro i hi hk
        unfold f_X5_rowsThere_4
        rw [show (6 : Int32) = nI 6 from rfl]
        by_cases e : i = 6
        · subst e
          simp (disch := omega) only [↓reduceIte, leT]
        · have hin : i < 6 := by omega
          have ih2 := ih (i + 1) (by omega) (by omega)
          rw [fb_ct_succ] at ih2
          simp (disch := omega) only [↓reduceIte, leF, ↓BR hR, OKx, inbT, ix_nI, OKr hin]
          unfold f_X5_rowsThere_26
          by_cases c : gi σ (37 + 2 * i) 1 = -1
          · rw [if_pos c, nI_1]
            simp only [c, decide_true, Bool.not_true, Bool.false_eq_true, if_false, Nat.add_zero] at ih2
            exact ih2
          · rw [if_neg c, nI_1, nI_1]
            simp only [c, decide_false, Bool.not_false, if_true] at ih2
            exact ih2
    unfold f_X5_rowsThere
    rw [if_pos OKx.1]
    exact key N 0 (by omega) (by omega)
  · have key : ∀ (k i : Nat), i ≤ 4 → 4 - i < k → f_X5_textsThere_4 N k 0 (nI (fb_ct (fun r => !decide (gi σ (49 + 2 * r) 1 = -1)) i)) (nI i) σ = some (nI (fb_ct (fun r => !decide (gi σ (49 + 2 * r) 1 = -1)) 4), σ) := by
      intro k
      induction k with
      | zero => intro i _ h; omega
      | succ k ih =>
        intro i hi hk
        unfold f_X5_textsThere_4
        rw [show (4 : Int32) = nI 4 from rfl]
        by_cases e : i = 4
        · subst e
          simp (disch := omega) only [↓reduceIte, leT]
        · have hin : i < 4 := by omega
          have ih2 := ih (i + 1) (by omega) (by omega)
          rw [fb_ct_succ] at ih2
          simp (disch := omega) only [↓reduceIte, leF, ↓BR hR, OKx, inbT, ix_nI, OKt hin]
          unfold f_X5_textsThere_25
          by_cases c : gi σ (49 + 2 * i) 1 = -1
          · rw [if_pos c, nI_1]
            simp only [c, decide_true, Bool.not_true, Bool.false_eq_true, if_false, Nat.add_zero] at ih2
            exact ih2
          · rw [if_neg c, nI_1, nI_1]
            simp only [c, decide_false, Bool.not_false, if_true] at ih2
            exact ih2
    unfold f_X5_textsThere
    rw [if_pos OKx.1]
    exact key N 0 (by omega) (by omega)
  · have key : ∀ (k i : Nat), i ≤ 3 → 3 - i < k → f_X5_keptThere_4 N k 0 (nI (fb_ct (fun r => !decide (gi σ (57 + 3 * r) 2 = -1)) i)) (nI i) σ = some (nI (fb_ct (fun r => !decide (gi σ (57 + 3 * r) 2 = -1)) 3), σ) := by
      intro k
      induction k with
      | zero => intro i _ h; omega
      | succ k ih =>
        intro i hi hk
        unfold f_X5_keptThere_4
        rw [show (3 : Int32) = nI 3 from rfl]
        by_cases e : i = 3
        · subst e
          simp (disch := omega) only [↓reduceIte, leT]
        · have hin : i < 3 := by omega
          have ih2 := ih (i + 1) (by omega) (by omega)
          rw [fb_ct_succ] at ih2
          simp (disch := omega) only [↓reduceIte, leF, ↓BR hR, OKx, inbT, ix_nI, OKk hin]
          unfold f_X5_keptThere_25
          by_cases c : gi σ (57 + 3 * i) 2 = -1
          · rw [if_pos c, nI_1]
            simp only [c, decide_true, Bool.not_true, Bool.false_eq_true, if_false, Nat.add_zero] at ih2
            exact ih2
          · rw [if_neg c, nI_1, nI_1]
            simp only [c, decide_false, Bool.not_false, if_true] at ih2
            exact ih2
    unfold f_X5_keptThere
    rw [if_pos OKx.1]
    exact key N 0 (by omega) (by omega)
