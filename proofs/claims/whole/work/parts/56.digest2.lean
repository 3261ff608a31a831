/-! ===== PURE: digest ===== -/
def itr (F : Nat → Int64 → Int64) : Nat → Int64 → Int64
  | 0, h => h
  | n + 1, h => F n (itr F n h)
theorem sl_sl {σ : Mm} {a k : Nat} {v w : Int64} : sl (sl σ a k v) a k w = sl σ a k w := by
  refine Prod.ext rfl (Prod.ext (funext fun b => funext fun j => ?_) rfl)
  show gl (sl (sl σ a k v) a k w) b j = gl (sl σ a k w) b j
  simp only [gl_sl]
  split <;> rfl
theorem p_mix {N : Nat} {σ : Mm} {h v : Int64} : f_X6_mix N 66 v (sl σ 66 33 h) = some (sl σ 66 33 (31 * h + v)) := by
  unfold f_X6_mix
  rw [if_pos OKx.2.1]
  simp only [lt]
  rw [sl_sl]
  rfl
theorem rel_sl33 {b : Bool} {σ : Mm} (h : Rel b σ) (v : Int64) : Rel b (sl σ 66 33 v) := ⟨h.1, ⟨h.2.1.1, h.2.1.2.1, h.2.1.2.2.1, h.2.1.2.2.2.1, h.2.1.2.2.2.2⟩, h.2.2.1, h.2.2.2.1, h.2.2.2.2⟩
theorem sz_le {x : Int32} (h : x = -1 ∨ ∃ n : Nat, n ≤ 60 ∧ x = nI n) {i : Nat} (hi : i < 100) : (x ≤ nI i) ↔ (ix x ≤ i) := by
  rcases h with rfl | ⟨n, h1, rfl⟩
  · refine ⟨fun _ => Nat.zero_le _, fun _ => ?_⟩
    rw [fa_le, show (nI i).toInt = i from nI_toInt (by omega)]
    show (-1 : Int) ≤ _
    omega
  · rw [ix_nI (by omega)]
    by_cases c : n ≤ i
    · rw [leT c (by omega), eq_true c]
    · rw [leF (by omega) (by omega), eq_false c]
theorem sz_ix {x : Int32} (h : x = -1 ∨ ∃ n : Nat, n ≤ 60 ∧ x = nI n) : ix x ≤ 60 := by
  rcases h with rfl | ⟨n, h1, rfl⟩
  · exact Nat.zero_le _
  · rw [ix_nI (by omega)]; exact h1
/-- the mixing of a row, a text, a person, the kept -/
def mxL (f : Nat → Int32) : Nat → Int64 → Int64 := itr (fun i h => 31 * h + (f i).toInt64)
theorem mxL_s (f : Nat → Int32) (i : Nat) (h : Int64) : mxL f (i + 1) h = 31 * mxL f i h + (f i).toInt64 := rfl
def rwF (σ : Mm) (r : Nat) (h : Int64) : Int64 := mxL (fun i => gi σ 69 (40 * r + i)) (ix (gi σ 68 r)) (31 * h + (gi σ 68 r).toInt64)
def txF (σ : Mm) (r : Nat) (h : Int64) : Int64 := mxL (fun i => gi σ 72 (60 * r + i)) (ix (gi σ 71 r)) (31 * h + (gi σ 71 r).toInt64)
theorem p_mixR {N r : Nat} {b : Bool} {σ : Mm} {h : Int64} (hN : 100 ≤ N) (hR : Rel b σ) (hr6 : r < 6) : f_X3_mixInto N (37 + 2 * r) h σ = some (rwF σ r h, σ) := by
  obtain ⟨g1, g2⟩ := hR.2.2.1 r hr6
  have g3 : gi σ 68 r = -1 ∨ ∃ n : Nat, n ≤ 60 ∧ gi σ 68 r = nI n := g2.imp id (fun ⟨m, q1, q2, _⟩ => ⟨m, by omega, q2⟩)
  have g4 : ∀ i, i < ix (gi σ 68 r) → i < 40 ∧ gi σ (38 + 2 * r) i = gi σ 69 (40 * r + i) := by
    intro i hi
    rcases g2 with g2 | ⟨n, q1, q2, q3⟩
    · rw [g2] at hi; exact absurd hi (Nat.not_lt_zero i)
    · rw [q2, ix_nI (by omega)] at hi; exact ⟨by omega, q3 i hi⟩
  have l : ∀ (f i : Nat) (h0 : Int64), i ≤ ix (gi σ 68 r) → ix (gi σ 68 r) - i < f → f_X3_mixInto_14 N f (37 + 2 * r) (mxL (fun i => gi σ 69 (40 * r + i)) i h0) (nI i) σ = some (mxL (fun i => gi σ 69 (40 * r + i)) (ix (gi σ 68 r)) h0, σ) := by
    intro f
    induction f with
    | zero => intro i h0 _ q; omega
    | succ f ih =>
      intro i h0 q1 q2
      have q4 := sz_ix g3
      unfold f_X3_mixInto_14
      rw [g1]
      by_cases c : ix (gi σ 68 r) ≤ i
      · rw [if_pos ((sz_le g3 (by omega)).mpr c), show i = ix (gi σ 68 r) by omega]
      · obtain ⟨g5, g6⟩ := g4 i (by omega)
        rw [if_neg (mt (sz_le g3 (by omega)).mp c)]
        simp (disch := omega) only [↓reduceIte, ↓BR hR.1, OKr, inbT, ix_nI, lt, nI_1]
        rw [g6, ← mxL_s (fun i => gi σ 69 (40 * r + i))]
        exact ih (i + 1) h0 (by omega) (by omega)
  unfold f_X3_mixInto
  rw [if_pos (OKr hr6).1]
  simp only [lt]
  rw [g1]
  have := sz_ix g3
  exact l N 0 _ (by omega) (by omega)
theorem p_mixT {N r : Nat} {b : Bool} {σ : Mm} {h : Int64} (hN : 100 ≤ N) (hR : Rel b σ) (hr6 : r < 4) : f_X4_mixInto N (49 + 2 * r) h σ = some (txF σ r h, σ) := by
  obtain ⟨g1, g2⟩ := hR.2.2.2.1 r hr6
  have g3 : gi σ 71 r = -1 ∨ ∃ n : Nat, n ≤ 60 ∧ gi σ 71 r = nI n := g2.imp id (fun ⟨m, q1, q2, _⟩ => ⟨m, by omega, q2⟩)
  have g4 : ∀ i, i < ix (gi σ 71 r) → i < 60 ∧ gi σ (50 + 2 * r) i = gi σ 72 (60 * r + i) := by
    intro i hi
    rcases g2 with g2 | ⟨n, q1, q2, q3⟩
    · rw [g2] at hi; exact absurd hi (Nat.not_lt_zero i)
    · rw [q2, ix_nI (by omega)] at hi; exact ⟨by omega, q3 i hi⟩
  have l : ∀ (f i : Nat) (h0 : Int64), i ≤ ix (gi σ 71 r) → ix (gi σ 71 r) - i < f → f_X4_mixInto_14 N f (49 + 2 * r) (mxL (fun i => gi σ 72 (60 * r + i)) i h0) (nI i) σ = some (mxL (fun i => gi σ 72 (60 * r + i)) (ix (gi σ 71 r)) h0, σ) := by
    intro f
    induction f with
    | zero => intro i h0 _ q; omega
    | succ f ih =>
      intro i h0 q1 q2
      have q4 := sz_ix g3
      unfold f_X4_mixInto_14
      rw [g1]
      by_cases c : ix (gi σ 71 r) ≤ i
      · rw [if_pos ((sz_le g3 (by omega)).mpr c), show i = ix (gi σ 71 r) by omega]
      · obtain ⟨g5, g6⟩ := g4 i (by omega)
        rw [if_neg (mt (sz_le g3 (by omega)).mp c)]
        simp (disch := omega) only [↓reduceIte, ↓BR hR.1, OKt, inbT, ix_nI, lt, nI_1]
        rw [g6, ← mxL_s (fun i => gi σ 72 (60 * r + i))]
        exact ih (i + 1) h0 (by omega) (by omega)
  unfold f_X4_mixInto
  rw [if_pos (OKt hr6).1]
  simp only [lt]
  rw [g1]
  have := sz_ix g3
  exact l N 0 _ (by omega) (by omega)
def psF (n : Nat) (kd al : Nat → Nat) (y : Dy) (p : Nat) : Int64 → Int64 := mxL (fun k => nI (if k = 0 then kd p else if k = 1 then y.1 p else if k = 2 then kn n kd y.1 y.2.2.2 p else if k = 3 then al p else y.2.1 p)) 5
def kpF (kp : Nat → Option Dd) : Nat → Int64 → Int64 := mxL (fun k => match kp k with
  | none => -1
  | some d => nI d.length)
def dgs (σ : Mm) (n : Nat) (kd al sg : Nat → Nat) (ds : Dd) (kp : Nat → Option Dd) : Int64 :=
  itr (txF σ) 4 (itr (rwF σ) 6 (kpF kp 3 (itr (psF n kd al (rep al sg ds)) n (mxL (fun k => nI (cV σ n kd (rep al sg ds) ds.length k)) 9 17))))
theorem p_digX {N n : Nat} {b : Bool} {σ : Mm} {kd al sg : Nat → Nat} {ds : Dd} {kp : Nat → Option Dd} (hN : 100 ≤ N) (h : Rel b σ) (w1 : okW n kd al sg ds kp) (w2 : TWx b σ n kd al sg ds kp) (w3 : TWm σ n kd al sg ds kp) : f_X5_digest N 0 σ = some (dgs σ n kd al sg ds kp, σ) := by
  have hR := h.1
  have hn := w1.1
  have hP := pl_cases b
  have l5 : ∀ (f i : Nat) (h0 : Int64), i ≤ 4 → 4 - i < f → f_X5_digest_137 N f 0 (itr (txF σ) i h0) (nI i) σ = some (itr (txF σ) 4 h0, σ) := by
    intro f
    induction f with
    | zero => intro i h0 _ q; omega
    | succ f ih =>
      intro i h0 q1 q2
      unfold f_X5_digest_137
      rw [show (4 : Int32) = nI 4 from rfl]
      by_cases c : i = 4
      · subst c
        rw [if_pos (nI_le (Nat.le_refl 4) (by decide))]
      · simp (disch := omega) only [↓reduceIte, ↓BR hR, OKx, OKt, inbT, ix_nI, leF]
        rw [bLe (p_mixT hN h (by omega)), nI_1]
        exact ih (i + 1) h0 (by omega) (by omega)
  have l4 : ∀ (f i : Nat) (h0 : Int64), i ≤ 6 → 6 - i < f → f_X5_digest_112 N f 0 (itr (rwF σ) i h0) (nI i) σ = some (itr (txF σ) 4 (itr (rwF σ) 6 h0), σ) := by
    intro f
    induction f with
    | zero => intro i h0 _ q; omega
    | succ f ih =>
      intro i h0 q1 q2
      unfold f_X5_digest_112
      rw [show (6 : Int32) = nI 6 from rfl]
      by_cases c : i = 6
      · subst c
        rw [if_pos (nI_le (Nat.le_refl 6) (by decide))]
        exact l5 N 0 _ (by omega) (by omega)
      · simp (disch := omega) only [↓reduceIte, ↓BR hR, OKx, OKr, inbT, ix_nI, leF]
        rw [bLe (p_mixR hN h (by omega)), nI_1]
        exact ih (i + 1) h0 (by omega) (by omega)
  have l3 : ∀ (f i : Nat) (h0 : Int64), i ≤ 3 → 3 - i < f → f_X5_digest_82 N f 0 (kpF kp i h0) (nI i) σ = some (itr (txF σ) 4 (itr (rwF σ) 6 (kpF kp 3 h0)), σ) := by
    intro f
    induction f with
    | zero => intro i h0 _ q; omega
    | succ f ih =>
      intro i h0 q1 q2
      unfold f_X5_digest_82
      rw [show (3 : Int32) = nI 3 from rfl]
      by_cases c : i = 3
      · subst c
        rw [if_pos (nI_le (Nat.le_refl 3) (by decide))]
        exact l4 N 0 _ (by omega) (by omega)
      · have g1 := w2.2.2.2.2 i (by omega)
        have e : gi σ (57 + 3 * i) 2 = (match kp i with
          | none => -1
          | some d => nI d.length) := by
          cases hk : kp i with
          | none => rw [hk] at g1; exact g1
          | some d => rw [hk] at g1; exact g1.1
        simp (disch := omega) only [↓reduceIte, ↓BR hR, OKx, OKk, inbT, ix_nI, leF, lt, nI_1]
        rw [e]
        exact ih (i + 1) h0 (by omega) (by omega)
  have l2 : ∀ (f p : Nat), p ≤ n → n - p < f → ∀ h0, f_X5_digest_33 N f 0 (itr (psF n kd al (rep al sg ds)) p h0) (nI p) σ = some (itr (txF σ) 4 (itr (rwF σ) 6 (kpF kp 3 (itr (psF n kd al (rep al sg ds)) n h0))), σ) := by
    intro f
    induction f with
    | zero => intro i _ q; omega
    | succ f ih =>
      intro p q1 q2 h0
      unfold f_X5_digest_33
      rw [BRpl hR, if_pos (ok_p hP).1, w2.1.1]
      by_cases c : p = n
      · subst c
        rw [if_pos (nI_le (Nat.le_refl p) (by omega))]
        exact l3 N 0 _ (by omega) (by omega)
      · rw [if_neg (nI_ge (by omega) (by omega))]
        have l1 : ∀ (g i : Nat) (h1 : Int64), i ≤ 5 → 5 - i < g → f_X5_digest_47 N (f_X5_digest_33 N f) g 0 (mxL (fun k => nI (if k = 0 then kd p else if k = 1 then (rep al sg ds).1 p else if k = 2 then kn n kd (rep al sg ds).1 (rep al sg ds).2.2.2 p else if k = 3 then al p else (rep al sg ds).2.1 p)) i h1) (nI p) (nI i) σ = f_X5_digest_33 N f 0 (psF n kd al (rep al sg ds) p h1) (nI (p + 1)) σ := by
          intro g
          induction g with
          | zero => intro i h0 _ q; omega
          | succ g ihg =>
            intro i h1 z1 z2
            unfold f_X5_digest_47
            rw [show (5 : Int32) = nI 5 from rfl]
            by_cases c2 : i = 5
            · subst c2
              rw [if_pos (nI_le (Nat.le_refl 5) (by decide)), nI_1]
              rfl
            · rw [if_neg (nI_ge (by omega) (by omega)), bIe (p_toldX hR w2.1 w2.2.1 hn (by omega) (by omega))]
              simp only [lt]
              rw [nI_1]
              exact ihg (i + 1) h1 (by omega) (by omega)
        exact (l1 N 0 _ (by omega) (by omega)).trans (ih (p + 1) (by omega) (by omega) h0)
  have l0 : ∀ (f i : Nat), i ≤ 9 → 9 - i < f → f_X5_digest_6 N f 0 (mxL (fun k => nI (cV σ n kd (rep al sg ds) ds.length k)) i 17) (nI i) σ = some (dgs σ n kd al sg ds kp, σ) := by
    intro f
    induction f with
    | zero => intro i _ q; omega
    | succ f ih =>
      intro i q1 q2
      unfold f_X5_digest_6
      rw [show (9 : Int32) = nI 9 from rfl]
      by_cases c : i = 9
      · subst c
        rw [if_pos (nI_le (Nat.le_refl 9) (by decide))]
        exact l2 N 0 (by omega) (by omega) _
      · rw [if_neg (nI_ge (by omega) (by omega)), bIe (p_cntX (by omega) h w1 w2 w3 (by omega))]
        simp only [lt]
        rw [nI_1]
        exact ih (i + 1) (by omega) (by omega)
  unfold f_X5_digest
  rw [if_pos OKx.1]
  exact l0 N 0 (by omega) (by omega)
theorem p_byteAt {N : Nat} {b : Bool} {σ : Mm} {j i n : Nat} (hR : Rf b σ) (hj : j < 4) (hi : i < n) (hn : n ≤ 60) (hs : gi σ 71 j = nI n) : f_X6_byteAt N 66 (nI j) (nI i) σ = some (gi σ 72 (60 * j + i), σ) := by
  unfold f_X6_byteAt
  rw [if_pos OKx.2.1, show (60 : Int32) = nI 60 from rfl]
  simp (disch := omega) only [↓reduceIte, ↓BR hR, OKm, inbT, ix_nI, hs, leF, pk_mul, nI_add]
theorem p_digM {N n : Nat} {b : Bool} {σ : Mm} {kd al sg : Nat → Nat} {ds : Dd} {kp : Nat → Option Dd} (hN : 100 ≤ N) (h : Rel b σ) (w1 : okW n kd al sg ds kp) (w2 : TWx b σ n kd al sg ds kp) (w3 : TWm σ n kd al sg ds kp) : f_X6_digest N 66 σ = some (dgs σ n kd al sg ds kp, sl σ 66 33 (dgs σ n kd al sg ds kp)) := by
  have hR : ∀ v, Rf b (sl σ 66 33 v) := fun v => h.1
  have hn := w1.1
  have hM : ∀ v, MS (sl σ 66 33 v) 78 n kd (rep al sg ds) := fun v => TW_MS (b := b) w1 w3
  have l5 : ∀ (f i : Nat) (h0 : Int64), i ≤ 4 → 4 - i < f → f_X6_digest_91 N f 66 (nI i) (sl σ 66 33 (itr (txF σ) i h0)) = some (itr (txF σ) 4 h0, sl σ 66 33 (itr (txF σ) 4 h0)) := by
    intro f
    induction f with
    | zero => intro i h0 _ q; omega
    | succ f ih =>
      intro i h0 q1 q2
      unfold f_X6_digest_91
      rw [show (4 : Int32) = nI 4 from rfl]
      by_cases c : i = 4
      · subst c
        rw [if_pos (nI_le (Nat.le_refl 4) (by decide))]
        rfl
      · simp (disch := omega) only [↓reduceIte, ↓BR (hR _), OKx, OKm, inbT, ix_nI, leF]
        rw [bVe p_mix]
        obtain ⟨g1, g2⟩ := h.2.2.2.1 i (by omega)
        have g3 : gi σ 71 i = -1 ∨ ∃ n : Nat, n ≤ 60 ∧ gi σ 71 i = nI n := g2.imp id (fun ⟨m, q1, q2, _⟩ => ⟨m, by omega, q2⟩)
        have q4 := sz_ix g3
        have l1 : ∀ (g j : Nat) (h1 : Int64), j ≤ ix (gi σ 71 i) → ix (gi σ 71 i) - j < g → f_X6_digest_109 N (f_X6_digest_91 N f) g 66 (nI i) (nI j) (sl σ 66 33 (mxL (fun k => gi σ 72 (60 * i + k)) j h1)) = f_X6_digest_91 N f 66 (nI (i + 1)) (sl σ 66 33 (mxL (fun k => gi σ 72 (60 * i + k)) (ix (gi σ 71 i)) h1)) := by
          intro g
          induction g with
          | zero => intro j h1 _ q; omega
          | succ g ihg =>
            intro j h1 z1 z2
            unfold f_X6_digest_109
            simp (disch := omega) only [↓reduceIte, ↓BR (hR _), OKm, inbT, ix_nI]
            rw [show gi (sl σ 66 33 (mxL (fun k => gi σ 72 (60 * i + k)) j h1)) 71 i = gi σ 71 i from rfl]
            by_cases c2 : ix (gi σ 71 i) ≤ j
            · rw [if_pos ((sz_le g3 (by omega)).mpr c2), show j = ix (gi σ 71 i) by omega, nI_1]
            · rw [if_neg (mt (sz_le g3 (by omega)).mp c2)]
              rcases g3 with g3 | ⟨m, y1, y2⟩
              · rw [g3] at c2
                exact absurd (Nat.zero_le _) c2
              · have y3 : ix (gi σ 71 i) = m := by rw [y2, ix_nI (by omega)]
                rw [bIe (p_byteAt (hR _) (by omega) (show j < m by omega) y1 y2), bVe p_mix, nI_1]
                exact ihg (j + 1) h1 (by omega) (by omega)
        exact (l1 N 0 _ (by omega) (by omega)).trans (ih (i + 1) h0 (by omega) (by omega))
  have l4 : ∀ (f i : Nat) (h0 : Int64), i ≤ 6 → 6 - i < f → f_X6_digest_37 N f 66 (nI i) (sl σ 66 33 (itr (rwF σ) i h0)) = some (itr (txF σ) 4 (itr (rwF σ) 6 h0), sl σ 66 33 (itr (txF σ) 4 (itr (rwF σ) 6 h0))) := by
    intro f
    induction f with
    | zero => intro i h0 _ q; omega
    | succ f ih =>
      intro i h0 q1 q2
      unfold f_X6_digest_37
      rw [show (6 : Int32) = nI 6 from rfl]
      by_cases c : i = 6
      · subst c
        rw [if_pos (nI_le (Nat.le_refl 6) (by decide))]
        exact l5 N 0 _ (by omega) (by omega)
      · simp (disch := omega) only [↓reduceIte, ↓BR (hR _), OKx, OKm, inbT, ix_nI, leF]
        rw [bVe p_mix]
        obtain ⟨g1, g2⟩ := h.2.2.1 i (by omega)
        have g3 : gi σ 68 i = -1 ∨ ∃ n : Nat, n ≤ 60 ∧ gi σ 68 i = nI n := g2.imp id (fun ⟨m, q1, q2, _⟩ => ⟨m, by omega, q2⟩)
        have q4 := sz_ix g3
        have l1 : ∀ (g j : Nat) (h1 : Int64), j ≤ ix (gi σ 68 i) → ix (gi σ 68 i) - j < g → f_X6_digest_56 N (f_X6_digest_37 N f) g 66 (nI i) (nI j) (sl σ 66 33 (mxL (fun k => gi σ 69 (40 * i + k)) j h1)) = f_X6_digest_37 N f 66 (nI (i + 1)) (sl σ 66 33 (mxL (fun k => gi σ 69 (40 * i + k)) (ix (gi σ 68 i)) h1)) := by
          intro g
          induction g with
          | zero => intro j h1 _ q; omega
          | succ g ihg =>
            intro j h1 z1 z2
            unfold f_X6_digest_56
            simp (disch := omega) only [↓reduceIte, ↓BR (hR _), OKm, inbT, ix_nI]
            rw [show gi (sl σ 66 33 (mxL (fun k => gi σ 69 (40 * i + k)) j h1)) 68 i = gi σ 68 i from rfl]
            by_cases c2 : ix (gi σ 68 i) ≤ j
            · rw [if_pos ((sz_le g3 (by omega)).mpr c2), show j = ix (gi σ 68 i) by omega, nI_1]
            · rw [if_neg (mt (sz_le g3 (by omega)).mp c2)]
              rcases g2 with g2 | ⟨m, y1, y2, _⟩
              · rw [g2] at c2
                exact absurd (Nat.zero_le _) c2
              · have y3 : ix (gi σ 68 i) = m := by rw [y2, ix_nI (by omega)]
                rw [bIe (p_rowAt (hR _) (by omega) (by omega)), bVe p_mix, nI_1]
                exact ihg (j + 1) h1 (by omega) (by omega)
        exact (l1 N 0 _ (by omega) (by omega)).trans (ih (i + 1) h0 (by omega) (by omega))
  have l3 : ∀ (f i : Nat) (h0 : Int64), i ≤ 3 → 3 - i < f → f_X6_mixTown_42 N f 66 (nI i) (sl σ 66 33 (kpF kp i h0)) = some (sl σ 66 33 (kpF kp 3 h0)) := by
    intro f
    induction f with
    | zero => intro i h0 _ q; omega
    | succ f ih =>
      intro i h0 q1 q2
      unfold f_X6_mixTown_42
      rw [show (3 : Int32) = nI 3 from rfl]
      by_cases c : i = 3
      · subst c
        rw [if_pos (nI_le (Nat.le_refl 3) (by decide))]
      · have g1 := w3.2.2.2.2.2 i (by omega)
        have l6 : ∀ v : Int64, 31 * kpF kp i h0 + v = kpF kp (i + 1) h0 → f_X6_mixTown_70 N (f_X6_mixTown_42 N f) 66 (nI i) v 66 (sl σ 66 33 (kpF kp i h0)) = some (sl σ 66 33 (kpF kp 3 h0)) := by
          intro v hv
          unfold f_X6_mixTown_70
          rw [bVe p_mix, nI_1, hv]
          exact ih (i + 1) h0 (by omega) (by omega)
        simp (disch := omega) only [↓reduceIte, ↓BR (hR _), OKm, inbT, ix_nI, leF]
        cases hk : kp i with
        | none =>
          rw [hk] at g1
          rw [if_pos (show gi (sl σ 66 33 (kpF kp i h0)) 82 i = 0 from g1)]
          refine l6 _ ?_
          unfold kpF
          rw [mxL_s, hk]
          rfl
        | some d =>
          rw [hk] at g1
          rw [if_neg (show ¬ gi (sl σ 66 33 (kpF kp i h0)) 82 i = 0 by show ¬ gi σ 82 i = 0; rw [g1.1]; decide), show gi (sl σ 66 33 (kpF kp i h0)) 83 i = nI d.length from g1.2.1]
          refine l6 _ ?_
          unfold kpF
          rw [mxL_s, hk]
  have l2 : ∀ (f p : Nat), p ≤ n → n - p < f → ∀ h0, f_X6_mixTown_2 N f 66 (nI p) (sl σ 66 33 (itr (psF n kd al (rep al sg ds)) p h0)) = some (sl σ 66 33 (kpF kp 3 (itr (psF n kd al (rep al sg ds)) n h0))) := by
    intro f
    induction f with
    | zero => intro i _ q; omega
    | succ f ih =>
      intro p q1 q2 h0
      unfold f_X6_mixTown_2
      rw [show gi (sl σ 66 33 (itr (psF n kd al (rep al sg ds)) p h0)) 66 10 = nI n from w3.1]
      by_cases c : p = n
      · subst c
        rw [if_pos (nI_le (Nat.le_refl p) (by omega))]
        exact l3 N 0 _ (by omega) (by omega)
      · rw [if_neg (nI_ge (by omega) (by omega))]
        have l1 : ∀ (g i : Nat) (h1 : Int64), i ≤ 5 → 5 - i < g → f_X6_mixTown_12 N (f_X6_mixTown_2 N f) g 66 (nI p) (nI i) (sl σ 66 33 (mxL (fun k => nI (if k = 0 then kd p else if k = 1 then (rep al sg ds).1 p else if k = 2 then kn n kd (rep al sg ds).1 (rep al sg ds).2.2.2 p else if k = 3 then al p else (rep al sg ds).2.1 p)) i h1)) = f_X6_mixTown_2 N f 66 (nI (p + 1)) (sl σ 66 33 (psF n kd al (rep al sg ds) p h1)) := by
          intro g
          induction g with
          | zero => intro i h0 _ q; omega
          | succ g ihg =>
            intro i h1 z1 z2
            unfold f_X6_mixTown_12
            rw [show (5 : Int32) = nI 5 from rfl]
            by_cases c2 : i = 5
            · subst c2
              rw [if_pos (nI_le (Nat.le_refl 5) (by decide)), nI_1]
              rfl
            · rw [if_neg (nI_ge (by omega) (by omega)), bIe (p_toldM (al := al) (hR _) (hM _) (fun p hp => (w3.2.1 p hp).2) (by omega) (by omega)), bVe p_mix, nI_1]
              exact ihg (i + 1) h1 (by omega) (by omega)
        exact (l1 N 0 _ (by omega) (by omega)).trans (ih (p + 1) (by omega) (by omega) h0)
  have l0 : ∀ (f i : Nat), i ≤ 9 → 9 - i < f → f_X6_digest_9 N f 66 (nI i) (sl σ 66 33 (mxL (fun k => nI (cV σ n kd (rep al sg ds) ds.length k)) i 17)) = some (dgs σ n kd al sg ds kp, sl σ 66 33 (dgs σ n kd al sg ds kp)) := by
    intro f
    induction f with
    | zero => intro i _ q; omega
    | succ f ih =>
      intro i q1 q2
      unfold f_X6_digest_9
      rw [show (9 : Int32) = nI 9 from rfl]
      by_cases c : i = 9
      · subst c
        rw [if_pos (nI_le (Nat.le_refl 9) (by decide)), bVe (show f_X6_mixTown N 66 (sl σ 66 33 (mxL (fun k => nI (cV σ n kd (rep al sg ds) ds.length k)) 9 17)) = some _ from by
          unfold f_X6_mixTown
          rw [if_pos OKx.2.1]
          exact l2 N 0 (by omega) (by omega) _)]
        exact l4 N 0 _ (by omega) (by omega)
      · rw [if_neg (nI_ge (by omega) (by omega)), bIe (p_cntM (d := ds.length) (by omega) (hR _) (hM _) w3.2.2.1 (by omega)), bVe p_mix, nI_1]
        exact ih (i + 1) (by omega) (by omega)
  unfold f_X6_digest
  rw [if_pos OKx.2.1]
  simp only [lt]
  exact l0 N 0 (by omega) (by omega)
theorem s_digest {N : Nat} (hN : 100 ≤ N) : SimL (f_X5_digest N 0) (f_X6_digest N 66) := by
  intro b σ h
  obtain ⟨n, kd, al, sg, ds, kp, w1, w2, w3⟩ := h.2.2.2.2
  exact ⟨dgs σ n kd al sg ds kp, σ, sl σ 66 33 (dgs σ n kd al sg ds kp), b, p_digX hN h w1 w2 w3, p_digM hN h w1 w2 w3, rel_sl33 h _⟩
