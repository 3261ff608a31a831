/-! ===== PURE: count, digest ===== -/
/-- what count() tells, out of the reference's cells -/
def cV (τ : Mm) (n : Nat) (kd : Nat → Nat) (y : Dy) (d k : Nat) : Nat :=
  if k = 0 then n else if k = 1 then y.2.2.1 else if k = 2 then (if y.2.2.2 then 1 else 0) else if k = 3 then sgs y.2.1 n / 2 else if k = 4 then d else if k = 5 then fb_ct (fun p => isK 1 (kd p)) n else if k = 6 then fb_ct (fun r => !decide (gi τ 68 r < 0)) 6 else if k = 7 then fb_ct (fun r => !decide (gi τ 71 r < 0)) 4 else fb_ct (fun r => !decide (gi τ 82 r = 0)) 3
theorem p_cntM {N n d k : Nat} {b : Bool} {τ : Mm} {kd : Nat → Nat} {y : Dy} (hN : 20 ≤ N) (hR : Rf b τ) (h : MS τ 78 n kd y) (hd : gi τ 66 22 = nI d) (hk : k < 9) : f_X6_counted N 66 (nI k) τ = some (nI (cV τ n kd y d k), τ) := by
  have h0 := h
  obtain ⟨h1, h2, h3, h4, h5, h6, h7, h8⟩ := h0
  have z12 : gi τ 78 12 = nI y.2.2.1 := h3.2.1
  have z13 : gi τ 78 13 = (if y.2.2.2 then 1 else 0) := h3.2.2
  have e5 : (5 : Int32) = nI 5 := rfl
  have e6 : (6 : Int32) = nI 6 := rfl
  have e7 : (7 : Int32) = nI 7 := rfl
  have e8 : (8 : Int32) = nI 8 := rfl
  have e4 : (4 : Int32) = nI 4 := rfl
  have e3 : (3 : Int32) = nI 3 := rfl
  have e0 : (0 : Int32) = nI 0 := rfl
  -- the last loop
  have l4 : ∀ (f i c : Nat), i ≤ 3 → 3 - i < f → (k ≠ 5 → k ≠ 6 → k ≠ 7 → c = if k = 8 then fb_ct (fun r => !decide (gi τ 82 r = 0)) i else 0) → (k = 5 ∨ k = 6 ∨ k = 7 → c = cV τ n kd y d k) → f_X6_counted_118 N f 66 (nI k) (nI c) (nI i) τ = some (nI (cV τ n kd y d k), τ) := by
    intro f
    induction f with
    | zero => intro i c _ h; omega
    | succ f ih =>
      intro i c hi hf hc1 hc2
      unfold f_X6_counted_118
      rw [e3]
      by_cases e : i = 3
      · subst e
        simp (disch := omega) only [↓reduceIte, leT]
        rcases (show k = 0 ∨ k = 1 ∨ k = 2 ∨ k = 3 ∨ k = 4 ∨ k = 5 ∨ k = 6 ∨ k = 7 ∨ k = 8 by omega) with rfl | rfl | rfl | rfl | rfl | rfl | rfl | rfl | rfl
        · rw [if_pos (by rfl), h1]; rfl
        · rw [if_neg (by decide), if_pos (by rfl), show (12 : Int32) = nI 12 from rfl]
          simp (disch := omega) only [↓reduceIte, ↓BR hR, OKm, inbT, ix_nI, z12]
          rfl
        · rw [if_neg (by decide), if_neg (by decide), if_pos (by rfl), show (13 : Int32) = nI 13 from rfl]
          simp (disch := omega) only [↓reduceIte, ↓BR hR, OKm, inbT, ix_nI, z13]
          unfold cV
          cases y.2.2.2 <;> rfl
        · rw [if_neg (by decide), if_neg (by decide), if_neg (by decide), if_pos (by rfl), bIe (p_signM hN hR h)]
          rfl
        · rw [if_neg (by decide), if_neg (by decide), if_neg (by decide), if_neg (by decide), if_pos (by rfl), hd]
          rfl
        · rw [if_neg (by decide), if_neg (by decide), if_neg (by decide), if_neg (by decide), if_neg (by decide), hc2 (by omega)]
        · rw [if_neg (by decide), if_neg (by decide), if_neg (by decide), if_neg (by decide), if_neg (by decide), hc2 (by omega)]
        · rw [if_neg (by decide), if_neg (by decide), if_neg (by decide), if_neg (by decide), if_neg (by decide), hc2 (by omega)]
        · rw [if_neg (by decide), if_neg (by decide), if_neg (by decide), if_neg (by decide), if_neg (by decide), hc1 (by omega) (by omega) (by omega)]
          rfl
      · have hin : i < 3 := by omega
        have g : ∀ z : Nat, (k ≠ 5 → k ≠ 6 → k ≠ 7 → c + z = if k = 8 then fb_ct (fun r => !decide (gi τ 82 r = 0)) (i + 1) else 0) → (k = 5 ∨ k = 6 ∨ k = 7 → z = 0) → f_X6_counted_144 N (f_X6_counted_118 N f) 66 (nI k) (nI i) (nI z) (nI c) τ = some (nI (cV τ n kd y d k), τ) := fun z hz1 hz2 => by
          unfold f_X6_counted_144
          simp only [lt, nI_add, nI_1]
          exact ih (i + 1) (c + z) (by omega) (by omega) hz1 (fun q => by rw [hz2 q, Nat.add_zero]; exact hc2 q)
        simp (disch := omega) only [↓reduceIte, leF]
        rw [e8]
        by_cases c8 : k = 8
        · subst c8
          have hc := hc1 (by omega) (by omega) (by omega)
          rw [if_pos rfl] at hc
          rw [if_pos rfl]
          simp (disch := omega) only [↓reduceIte, ↓BR hR, OKm, inbT, ix_nI]
          by_cases q : gi τ 82 i = 0
          · rw [if_pos q]
            unfold f_X6_counted_143
            refine g 0 (fun _ _ _ => ?_) (fun q => by omega)
            rw [if_pos rfl, fb_ct_succ, hc]
            simp [q]
          · rw [if_neg q]
            refine g 1 (fun _ _ _ => ?_) (fun q => by omega)
            rw [if_pos rfl, fb_ct_succ, hc]
            simp [q]
        · rw [if_neg (fun q => c8 ((nI_eq (by omega) (by omega)).mp q))]
          unfold f_X6_counted_143
          exact g 0 (fun a1 a2 a3 => by rw [if_neg c8]; have := hc1 a1 a2 a3; rw [if_neg c8] at this; omega) (fun _ => rfl)
  have l3 : ∀ (f i c : Nat), i ≤ 4 → 4 - i < f → (k ≠ 5 → k ≠ 6 → c = if k = 7 then fb_ct (fun r => !decide (gi τ 71 r < 0)) i else 0) → (k = 5 ∨ k = 6 → c = cV τ n kd y d k) → f_X6_counted_82 N f 66 (nI k) (nI c) (nI i) τ = some (nI (cV τ n kd y d k), τ) := by
    intro f
    induction f with
    | zero => intro i c _ h; omega
    | succ f ih =>
      intro i c hi hf hc1 hc2
      unfold f_X6_counted_82
      rw [e4]
      by_cases e : i = 4
      · subst e
        simp (disch := omega) only [↓reduceIte, leT]
        rw [e0]
        refine l4 N 0 c (by omega) (by omega) (fun a1 a2 a3 => ?_) (fun q => ?_)
        · have := hc1 a1 a2
          rw [if_neg a3] at this
          rw [this]
          split <;> rfl
        · rcases q with q | q | q
          · exact hc2 (Or.inl q)
          · exact hc2 (Or.inr q)
          · rw [hc1 (by omega) (by omega), if_pos q, q]
            rfl
      · have hin : i < 4 := by omega
        have g : ∀ z : Nat, (k ≠ 5 → k ≠ 6 → c + z = if k = 7 then fb_ct (fun r => !decide (gi τ 71 r < 0)) (i + 1) else 0) → (k = 5 ∨ k = 6 → z = 0) → f_X6_counted_108 N (f_X6_counted_82 N f) 66 (nI k) (nI i) (nI z) (nI c) τ = some (nI (cV τ n kd y d k), τ) := fun z hz1 hz2 => by
          unfold f_X6_counted_108
          simp only [lt, nI_add, nI_1]
          exact ih (i + 1) (c + z) (by omega) (by omega) hz1 (fun q => by rw [hz2 q, Nat.add_zero]; exact hc2 q)
        simp (disch := omega) only [↓reduceIte, leF]
        rw [e7]
        by_cases c8 : k = 7
        · subst c8
          have hc := hc1 (by omega) (by omega)
          rw [if_pos rfl] at hc
          rw [if_pos rfl]
          simp (disch := omega) only [↓reduceIte, ↓BR hR, OKm, inbT, ix_nI]
          by_cases q : gi τ 71 i < 0
          · rw [if_pos q]
            unfold f_X6_counted_107
            refine g 0 (fun _ _ => ?_) (fun q => by omega)
            rw [if_pos rfl, fb_ct_succ, hc]
            simp [q]
          · rw [if_neg q]
            refine g 1 (fun _ _ => ?_) (fun q => by omega)
            rw [if_pos rfl, fb_ct_succ, hc]
            simp [q]
        · rw [if_neg (fun q => c8 ((nI_eq (by omega) (by omega)).mp q))]
          unfold f_X6_counted_107
          exact g 0 (fun a1 a2 => by rw [if_neg c8]; have := hc1 a1 a2; rw [if_neg c8] at this; omega) (fun _ => rfl)
  have l2 : ∀ (f i c : Nat), i ≤ 6 → 6 - i < f → (k ≠ 5 → c = if k = 6 then fb_ct (fun r => !decide (gi τ 68 r < 0)) i else 0) → (k = 5 → c = cV τ n kd y d k) → f_X6_counted_45 N f 66 (nI k) (nI c) (nI i) τ = some (nI (cV τ n kd y d k), τ) := by
    intro f
    induction f with
    | zero => intro i c _ h; omega
    | succ f ih =>
      intro i c hi hf hc1 hc2
      unfold f_X6_counted_45
      rw [e6]
      by_cases e : i = 6
      · subst e
        simp (disch := omega) only [↓reduceIte, leT]
        rw [e0]
        refine l3 N 0 c (by omega) (by omega) (fun a1 a2 => ?_) (fun q => ?_)
        · have := hc1 a1
          rw [if_neg a2] at this
          rw [this]
          split <;> rfl
        · rcases q with q | q
          · exact hc2 q
          · rw [hc1 (by omega), if_pos q, q]
            rfl
      · have hin : i < 6 := by omega
        have g : ∀ z : Nat, (k ≠ 5 → c + z = if k = 6 then fb_ct (fun r => !decide (gi τ 68 r < 0)) (i + 1) else 0) → (k = 5 → z = 0) → f_X6_counted_72 N (f_X6_counted_45 N f) 66 (nI k) (nI i) (nI z) (nI c) τ = some (nI (cV τ n kd y d k), τ) := fun z hz1 hz2 => by
          unfold f_X6_counted_72
          simp only [lt, nI_add, nI_1]
          exact ih (i + 1) (c + z) (by omega) (by omega) hz1 (fun q => by rw [hz2 q, Nat.add_zero]; exact hc2 q)
        simp (disch := omega) only [↓reduceIte, leF]
        by_cases c8 : k = 6
        · subst c8
          have hc := hc1 (by omega)
          rw [if_pos rfl] at hc
          rw [if_pos rfl]
          simp (disch := omega) only [↓reduceIte, ↓BR hR, OKm, inbT, ix_nI]
          by_cases q : gi τ 68 i < 0
          · rw [if_pos q]
            unfold f_X6_counted_71
            refine g 0 (fun _ => ?_) (fun q => by omega)
            rw [if_pos rfl, fb_ct_succ, hc]
            simp [q]
          · rw [if_neg q]
            refine g 1 (fun _ => ?_) (fun q => by omega)
            rw [if_pos rfl, fb_ct_succ, hc]
            simp [q]
        · rw [if_neg (fun q => c8 ((nI_eq (by omega) (by omega)).mp q))]
          unfold f_X6_counted_71
          exact g 0 (fun a1 => by rw [if_neg c8]; have := hc1 a1; rw [if_neg c8] at this; omega) (fun _ => rfl)
  have l1 : ∀ (f i c : Nat), i ≤ n → n - i < f → (c = if k = 5 then fb_ct (fun p => isK 1 (kd p)) i else 0) → f_X6_counted_4 N f 66 (nI k) (nI c) (nI i) τ = some (nI (cV τ n kd y d k), τ) := by
    intro f
    induction f with
    | zero => intro i c _ h; omega
    | succ f ih =>
      intro i c hi hf hc
      unfold f_X6_counted_4
      rw [h1]
      by_cases e : i = n
      · subst e
        simp (disch := omega) only [↓reduceIte, leT]
        rw [e0]
        refine l2 N 0 c (by omega) (by omega) (fun a1 => ?_) (fun q => ?_)
        · rw [hc, if_neg a1]
          split <;> rfl
        · rw [hc, if_pos q, q]
          rfl
      · have hin : i < n := by omega
        have g : ∀ z : Nat, (c + z = if k = 5 then fb_ct (fun p => isK 1 (kd p)) (i + 1) else 0) → f_X6_counted_35 N (f_X6_counted_4 N f) 66 (nI k) (nI i) (nI z) (nI c) τ = some (nI (cV τ n kd y d k), τ) := fun z hz1 => by
          unfold f_X6_counted_35
          simp only [lt, nI_add, nI_1]
          exact ih (i + 1) (c + z) (by omega) (by omega) hz1
        simp (disch := omega) only [↓reduceIte, leF]
        rw [e5]
        by_cases c8 : k = 5
        · subst c8
          rw [if_pos rfl] at hc
          rw [if_pos rfl]
          simp (disch := omega) only [↓reduceIte, ↓BR hR, OKm, inbT, ix_nI, h2 i hin]
          rw [bIe (pm_isLearner (N := N) (h5 i hin))]
          cases q : isK 1 (kd i) with
          | false =>
            simp only [Bool.false_eq_true, ↓reduceIte]
            unfold f_X6_counted_34
            refine g 0 ?_
            rw [if_pos rfl, fb_ct_succ, hc, q]
            simp
          | true =>
            rw [if_pos rfl, if_neg (show ¬ (1 : Int32) = 0 by decide)]
            refine g 1 ?_
            rw [if_pos rfl, fb_ct_succ, hc, q]
            simp
        · rw [if_neg (fun q => c8 ((nI_eq (by omega) (by omega)).mp q))]
          unfold f_X6_counted_34
          exact g 0 (by rw [if_neg c8]; rw [if_neg c8] at hc; omega)
  unfold f_X6_counted
  rw [if_pos OKx.2.1]
  exact l1 N 0 0 (by omega) (by omega) (by split <;> rfl)
theorem row_neg {x : Int32} (h : x = -1 ∨ ∃ n : Nat, n ≤ 60 ∧ x = nI n) : (decide (x = -1)) = decide (x < 0) := by
  rcases h with rfl | ⟨n, h1, rfl⟩
  · rfl
  · rw [decide_eq_false (by rw [nI_nm1 (by omega)]; exact id), decide_eq_false (nI_pos (by omega))]
theorem p_cntX {N n k : Nat} {b : Bool} {σ : Mm} {kd al sg : Nat → Nat} {ds : Dd} {kp : Nat → Option Dd} (hN : 20 ≤ N) (h : Rel b σ) (w1 : okW n kd al sg ds kp) (w2 : TWx b σ n kd al sg ds kp) (w3 : TWm σ n kd al sg ds kp) (hk : k < 9) : f_X5_counted N 0 (nI k) σ = some (nI (cV σ n kd (rep al sg ds) ds.length k), σ) := by
  have hR := h.1
  have hP := pl_cases b
  have hn := w1.1
  have hdy := okDy_rep (al := al) (n := n) w1.2.2.1 ds w1.2.2.2.2.2.2.1
  obtain ⟨t1, t2, t3⟩ := p_there (N := N) hN hR
  have hy := w2.2.1
  have m1 := w2.1.2.2.1 1 (by decide)
  unfold f_X5_counted
  rw [if_pos OKx.1]
  rcases (show k = 0 ∨ k = 1 ∨ k = 2 ∨ k = 3 ∨ k = 4 ∨ k = 5 ∨ k = 6 ∨ k = 7 ∨ k = 8 by omega) with rfl | rfl | rfl | rfl | rfl | rfl | rfl | rfl | rfl
  · rw [if_pos (by rfl), BRpl hR, if_pos (ok_p hP).1, w2.1.1]
    rfl
  · rw [if_neg (by decide), if_pos (by rfl)]
    simp only [↓reduceIte, ↓BR hR, OKx, w2.2.2.1]
    rfl
  · rw [if_neg (by decide), if_neg (by decide), if_pos (by rfl)]
    simp only [↓reduceIte, ↓BR hR, OKx, hy.2.1]
    unfold cV
    cases (rep al sg ds).2.2.2 <;> rfl
  · rw [if_neg (by decide), if_neg (by decide), if_neg (by decide), if_pos (by rfl)]
    simp only [↓reduceIte, ↓BR hR, OKx]
    rw [bIe (p_signC (kd := kd) hN hR hy.1 (fun p hp => (hy.2.2.1 p hp).2) hn hdy.2.1)]
    rfl
  · rw [if_neg (by decide), if_neg (by decide), if_neg (by decide), if_neg (by decide), if_pos (by rfl)]
    simp only [↓reduceIte, ↓BR hR, OKx, w2.2.2.2.1.1]
    rfl
  · rw [if_neg (by decide), if_neg (by decide), if_neg (by decide), if_neg (by decide), if_neg (by decide), if_pos (by rfl), BRpl hR, if_pos (ok_p hP).1, (BRp hR hP).2.1, if_pos (ok_p hP).2.2.1, (ok_p hP).2.2.2.2.2.2.2.2.2.1, show (1 : Int32) = nI 1 from rfl, if_pos (inbT (by omega) (by omega)), ix_nI (by omega), m1, bIe (p_bitC (N := N) (msk_lt6 _ hn)), pc_msk hn]
    rfl
  · rw [if_neg (by decide), if_neg (by decide), if_neg (by decide), if_neg (by decide), if_neg (by decide), if_neg (by decide), if_pos (by rfl), bIe t1]
    unfold cV
    congr 3
    refine fb_ct_cong (fun r hr => ?_)
    obtain ⟨g1, g2⟩ := h.2.2.1 r hr
    rw [g1, row_neg (g2.imp id (fun ⟨m, q1, q2, _⟩ => ⟨m, by omega, q2⟩))]
  · rw [if_neg (by decide), if_neg (by decide), if_neg (by decide), if_neg (by decide), if_neg (by decide), if_neg (by decide), if_neg (by decide), if_pos (by rfl), bIe t2]
    unfold cV
    congr 3
    refine fb_ct_cong (fun r hr => ?_)
    obtain ⟨g1, g2⟩ := h.2.2.2.1 r hr
    rw [g1, row_neg (g2.imp id (fun ⟨m, q1, q2, _⟩ => ⟨m, by omega, q2⟩))]
  · rw [if_neg (by decide), if_neg (by decide), if_neg (by decide), if_neg (by decide), if_neg (by decide), if_neg (by decide), if_neg (by decide), if_neg (by decide), bIe t3]
    unfold cV
    congr 3
    refine fb_ct_cong (fun r hr => ?_)
    have g1 := w2.2.2.2.2 r hr
    have g2 := w3.2.2.2.2.2 r hr
    cases hkp : kp r with
    | none =>
      rw [hkp] at g1 g2
      rw [show gi σ (57 + 3 * r) 2 = -1 from g1, show gi σ 82 r = 0 from g2]
      rfl
    | some d =>
      rw [hkp] at g1 g2
      have hl := (w1.2.2.2.2.2.2.2 r d hkp).1
      rw [g1.1, g2.1, decide_eq_false (by rw [nI_nm1 (by omega)]; exact id)]
      rfl
theorem s_count {N : Nat} (hN : 20 ≤ N) (x : Int32) : Sim (f_X5_count N 0 x) (f_X6_count N 66 x) := by
  intro b σ h
  have hR := h.1
  obtain ⟨n, kd, al, sg, ds, kp, w1, w2, w3⟩ := h.2.2.2.2
  rcases arg2 x 9 (by omega) with q | ⟨k, hk, rfl⟩
  · refine ⟨-1, σ, σ, b, ?_, ?_, h⟩
    · unfold f_X5_count
      rw [if_pos OKx.1]
      by_cases c : x < 0
      · rw [if_pos c]
      · rw [if_neg c, if_neg (show ¬ x < (9 : Int32) from Int32.not_lt.mpr (q.resolve_left c))]
    · unfold f_X6_count
      rw [if_pos OKx.2.1, bIe (show f_X6_in N x 0 (8 : Int32) σ = some (0, σ) from p_in0 (q.imp id (fun z => le_lt6 (n := 8) (by decide) z)))]
      rfl
  · refine ⟨nI (cV σ n kd (rep al sg ds) ds.length k), σ, σ, b, ?_, ?_, h⟩
    · unfold f_X5_count
      rw [if_pos OKx.1, if_neg (nI_pos (by omega)), if_pos (show nI k < (9 : Int32) from nI_lt (b := 9) hk (by decide)), bIe (p_cntX hN h w1 w2 w3 hk)]
    · unfold f_X6_count
      rw [if_pos OKx.2.1, bIe (show f_X6_in N (nI k) 0 (8 : Int32) σ = some (1, σ) from p_in1 (nI_pos (by omega)) (nI_nlt (a := 8) (b := k) (by omega) (by omega))), if_neg (show ¬ (1 : Int32) = 0 by decide), bIe (p_cntM hN hR (TW_MS (b := b) w1 w3) w3.2.2.1 hk)]
