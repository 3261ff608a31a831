/-! ===== PURE: keep, on ===== -/
theorem ok_k {o : Nat} (h : o = 4 ∨ ∃ j, j < 3 ∧ o = 57 + 3 * j) : okO 1 o = true ∧ okA 0 (o + 1) = true ∧ okA 0 (o + 2) = true ∧ arL (o + 1) = 40 ∧ arL (o + 2) = 40 := by
  rcases h with rfl | ⟨j, hj, rfl⟩
  · decide
  · rcases (show j = 0 ∨ j = 1 ∨ j = 2 by omega) with rfl | rfl | rfl <;> decide
theorem BRk {ρ : Type} {b : Bool} {σ : Mm} {o : Nat} (hR : Rf b σ) (h : o = 4 ∨ ∃ j, j < 3 ∧ o = 57 + 3 * j) : (∀ chk f, bR (ρ := ρ) (gr σ o 0) chk f = if chk (o + 1) then f (o + 1) else none) ∧ (∀ chk f, bR (ρ := ρ) (gr σ o 1) chk f = if chk (o + 2) then f (o + 2) else none) := by
  rcases h with rfl | ⟨j, hj, rfl⟩
  · exact ⟨(BR hR).2.2.2.2.2.2.2.2.2.2.2.2.2.2.2.2.2.1, (BR hR).2.2.2.2.2.2.2.2.2.2.2.2.2.2.2.2.2.2.1⟩
  · exact ⟨fun chk f => ((BR hR).2.2.2.2.2.2.2.2.2.2.2.2.2.2.2.1 j chk f hj).trans (by rw [show 58 + 3 * j = 57 + 3 * j + 1 by omega]), fun chk f => ((BR hR).2.2.2.2.2.2.2.2.2.2.2.2.2.2.2.2.1 j chk f hj).trans (by rw [show 59 + 3 * j = 57 + 3 * j + 2 by omega])⟩
/-- deeds taken over -/
def tkn (σ : Mm) (o q m : Nat) : Mm := si (blt (blt σ (o + 1) 0 m (gi σ (q + 1))) (o + 2) 0 m (gi σ (q + 2))) o 2 (nI m)
theorem tkn_out {σ : Mm} {o q m a k : Nat} (h : a < o ∨ o + 2 < a) : gi (tkn σ o q m) a k = gi σ a k := by
  unfold tkn
  rw [gi_si, if_neg (by omega), blt_out (by omega), blt_out (by omega)]
theorem p_take {N o q m : Nat} {b : Bool} {σ : Mm} (hN : 100 ≤ N) (hR : Rf b σ) (ho : o = 4 ∨ ∃ j, j < 3 ∧ o = 57 + 3 * j) (hq : q = 4 ∨ ∃ j, j < 3 ∧ q = 57 + 3 * j) (hne : o ≠ q) (hm : gi σ q 2 = nI m) (hl : m ≤ 40) : f_X1_takeFrom N o q σ = some (tkn σ o q m) := by
  have hfar : q + 2 < o ∨ o + 2 < q := by
    rcases ho with h1 | ⟨j, hj, h1⟩ <;> rcases hq with h2 | ⟨i, hi, h2⟩ <;> omega
  unfold f_X1_takeFrom
  rw [if_pos (ok_k ho).1, if_pos (ok_k hq).1]
  have z := loop (fun f i => f_X1_takeFrom_2 N f o q (nI i) (blt (blt σ (o + 1) 0 i (gi σ (q + 1))) (o + 2) 0 i (gi σ (q + 2)))) (some (tkn σ o q m)) m ?_ ?_ N 0 (by omega) (by omega)
  · rw [blt_0, blt_0] at z
    exact z
  · intro f
    unfold f_X1_takeFrom_2
    rw [blt_out (by omega), blt_out (by omega), hm, if_pos (nI_le (Nat.le_refl m) (by omega))]
    rfl
  · intro f i hi A hA
    unfold f_X1_takeFrom_2
    have g1 : gi (blt (blt σ (o + 1) 0 i (gi σ (q + 1))) (o + 2) 0 i (gi σ (q + 2))) (q + 1) i = gi σ (q + 1) i := by rw [blt_out (by omega), blt_out (by omega)]
    have g2 : gi (si (blt (blt σ (o + 1) 0 i (gi σ (q + 1))) (o + 2) 0 i (gi σ (q + 2))) (o + 1) i (gi σ (q + 1) i)) (q + 2) i = gi σ (q + 2) i := by rw [gi_si, if_neg (by omega), blt_out (by omega), blt_out (by omega)]
    rw [blt_out (by omega), blt_out (by omega), hm, if_neg (nI_ge hi (by omega))]
    simp (disch := omega) only [↓reduceIte, ↓BRs, ↓BRk (Rf_blt (Rf_blt hR)) ho, ↓BRk (Rf_blt (Rf_blt hR)) hq, ok_k ho, ok_k hq, inbT, ix_nI, lt, nI_1, g1, g2]
    rw [hA]
    congr 1
    refine mm_ext (fun c j => ?_) rfl
    simp only [gi_si, gi_blt]
    by_cases c9 : c = o + 2
    · subst c9
      by_cases ji : j = i
      · subst ji
        rw [if_pos ⟨rfl, rfl⟩, if_pos (by omega), Nat.sub_zero]
      · by_cases j2 : j < i
        · repeat' (first | rw [if_neg (by omega)] | rw [if_pos (by omega)] | rw [if_pos (by simp <;> omega)] | fail)
        · repeat' (first | rw [if_neg (by omega)] | rw [if_pos (by omega)] | rw [if_pos (by simp <;> omega)] | fail)
    · by_cases c8 : c = o + 1
      · subst c8
        by_cases ji : j = i
        · subst ji
          rw [if_neg (by omega), if_pos ⟨rfl, rfl⟩, if_neg (by omega), if_pos (by omega), Nat.sub_zero]
        · by_cases j2 : j < i
          · repeat' (first | rw [if_neg (by omega)] | rw [if_pos (by omega)] | rw [if_pos (by simp <;> omega)] | fail)
          · repeat' (first | rw [if_neg (by omega)] | rw [if_pos (by omega)] | rw [if_pos (by simp <;> omega)] | fail)
      · repeat' (first | rw [if_neg (by omega)] | rw [if_pos (by omega)] | rw [if_pos (by simp <;> omega)] | fail)
theorem tkn_DX {σ : Mm} {o q : Nat} {ds : Dd} (h : DX σ q ds) : DX (tkn σ o q ds.length) o ds := by
  refine ⟨by unfold tkn; rw [gi_si, if_pos ⟨rfl, rfl⟩], fun i w hw => ?_⟩
  have hi : i < ds.length := by
    apply Classical.byContradiction
    intro hc
    rw [List.getElem?_eq_none (by omega)] at hw
    exact absurd hw (by simp)
  obtain ⟨h1, h2⟩ := h.2 i w hw
  unfold tkn
  rw [gi_si, if_neg (by omega), blt_out (by omega), blt_in hi, gi_si, if_neg (by omega), blt_in hi]
  exact ⟨h1, h2⟩
theorem s_keep {N : Nat} (hN : 700 ≤ N) (x : Int32) : Sim (f_X5_keep N 0 x) (f_X6_keep N 66 x) := by
  intro b σ h
  have hR := h.1
  obtain ⟨n, kd, al, sg, ds, kp, w1, w2, w3⟩ := h.2.2.2.2
  have hs := w2.1.1
  have hn := w1.1
  have hP := pl_cases b
  have hl := w1.2.2.2.2.2.1
  rcases arg2 x 3 (by omega) with q | ⟨k, hk, rfl⟩
  · refine ⟨-1, σ, σ, b, ?_, ?_, h⟩
    · unfold f_X5_keep
      rw [if_pos OKx.1]
      by_cases c : x < 0
      · rw [if_pos c]
      · rw [if_neg c, if_neg (show ¬ x < (3 : Int32) from Int32.not_lt.mpr (q.resolve_left c))]
    · unfold f_X6_keep
      rw [if_pos OKx.2.1, bIe (show f_X6_in N x 0 (2 : Int32) σ = some (0, σ) from p_in0 (q.imp id (fun z => le_lt6 (n := 2) (by decide) z)))]
      rfl
  · by_cases a1 : n = 0
    · refine ⟨-4, σ, σ, b, ?_, ?_, h⟩
      · unfold f_X5_keep
        rw [if_pos OKx.1, if_neg (nI_pos (by omega)), if_pos (show nI k < (3 : Int32) from nI_lt (b := 3) hk (by decide)), BRpl hR, if_pos (ok_p hP).1, hs, a1]
        rfl
      · unfold f_X6_keep
        rw [if_pos OKx.2.1, bIe (show f_X6_in N (nI k) 0 (2 : Int32) σ = some (1, σ) from p_in1 (nI_pos (by omega)) (nI_nlt (a := 2) (b := k) (by omega) (by omega))), if_neg (show ¬ (1 : Int32) = 0 by decide), w3.1, a1]
        rfl
    · have hd := w2.2.2.2.1
      let τ : Mm := tkn σ (57 + 3 * k) 4 ds.length
      have fx : ∀ a j, a < 57 + 3 * k ∨ 59 + 3 * k < a → gi τ a j = gi σ a j := fun a j z => tkn_out (by omega)
      have hRt : Rf b τ := hR
      let τ1 : Mm := si (si τ 82 k 1) 83 k (nI ds.length)
      let τ2 : Mm := blt τ1 84 (14 * k) 14 (gi τ1 78)
      let τ3 : Mm := blt τ2 85 (560 * k) (14 * ds.length) (gi τ2 81)
      have f1 : ∀ a j, ¬ (a = 82 ∧ j = k) → ¬ (a = 83 ∧ j = k) → gi τ1 a j = gi τ a j := fun a j z1 z2 => by
        show gi (si (si τ 82 k 1) 83 k (nI ds.length)) a j = _
        rw [gi_si, if_neg z2, gi_si, if_neg z1]
      have f2 : ∀ a j, a ≠ 84 → gi τ2 a j = gi τ1 a j := fun a j z => blt_out z
      have f3 : ∀ a j, a ≠ 85 → gi τ3 a j = gi τ2 a j := fun a j z => blt_out z
      have fr : ∀ a j, a < 57 ∨ 65 < a → ¬ (82 ≤ a ∧ a ≤ 85) → gi τ3 a j = gi σ a j := fun a j z1 z2 => by rw [f3 a j (by omega), f2 a j (by omega), f1 a j (by omega) (by omega), fx a j (by omega)]
      have hRt1 : Rf b τ1 := hR
      have hRt2 : Rf b τ2 := hR
      let kq : Nat → Option Dd := fun j => if j = k then some ds else kp j
      have hokq : okW n kd al sg ds kq := okW_sub w1 hl w1.2.2.2.2.2.2.1 (fun j d hj => by
        by_cases c : j = k
        · have : some ds = some d := by rw [← hj]; show _ = (if j = k then some ds else kp j); rw [if_pos c]
          cases this
          exact ⟨hl, w1.2.2.2.2.2.2.1⟩
        · refine w1.2.2.2.2.2.2.2 j d ?_
          rw [← hj]
          show _ = (if j = k then some ds else kp j)
          rw [if_neg c])
      have hTx : TWx b τ3 n kd al sg ds kq := by
        obtain ⟨e1, e2, e3, e4, e5⟩ := w2
        refine ⟨PX_congr (fun a j z1 z2 => fr a j (by omega) (by omega)) e1, YX_congr (fun a j z1 z2 => fr a j (by omega) (by omega)) e2, by rw [fr _ _ (by omega) (by omega)]; exact e3, DX_congr (fun a j z1 z2 => fr a j (by omega) (by omega)) e4, fun j hj => ?_⟩
        by_cases c : j = k
        · subst c
          show match (if j = j then some ds else kp j) with
            | none => gi τ3 (57 + 3 * j) 2 = -1
            | some d => DX τ3 (57 + 3 * j) d
          rw [if_pos rfl]
          exact DX_congr (σ := τ) (fun a i z1 z2 => by rw [f3 a i (by omega), f2 a i (by omega), f1 a i (by omega) (by omega)]) (tkn_DX hd)
        · show match (if j = k then some ds else kp j) with
            | none => gi τ3 (57 + 3 * j) 2 = -1
            | some d => DX τ3 (57 + 3 * j) d
          rw [if_neg c]
          have e6 := e5 j hj
          have fj : ∀ a i, 57 + 3 * j ≤ a → a ≤ 57 + 3 * j + 2 → gi τ3 a i = gi σ a i := fun a i z1 z2 => by rw [f3 a i (by omega), f2 a i (by omega), f1 a i (by omega) (by omega), fx a i (by omega)]
          cases hkp : kp j with
          | none =>
            rw [hkp] at e6
            show gi τ3 (57 + 3 * j) 2 = -1
            rw [fj _ _ (by omega) (by omega)]
            exact e6
          | some d =>
            rw [hkp] at e6
            exact DX_congr fj e6
      have h22 : gi τ 66 22 = nI ds.length := by rw [fx _ _ (by omega)]; exact w3.2.2.1
      have hTm : TWm τ3 n kd al sg ds kq := by
        obtain ⟨e1, e2, e3, e4, e5, e6⟩ := w3
        refine ⟨by rw [fr _ _ (by omega) (by omega)]; exact e1, fun p hp => by rw [fr _ _ (by omega) (by omega), fr _ _ (by omega) (by omega)]; exact e2 p hp, by rw [fr _ _ (by omega) (by omega)]; exact e3, VM_congr hn (fun j _ => fr _ _ (by omega) (by omega)) e4, fun i hi => VM_congr hn (fun j _ => fr _ _ (by omega) (by omega)) (e5 i hi), fun j hj => ?_⟩
        by_cases c : j = k
        · subst c
          show match (if j = j then some ds else kp j) with
            | none => gi τ3 82 j = 0
            | some d => gi τ3 82 j = 1 ∧ gi τ3 83 j = nI d.length ∧ VM n (rep al sg d) (fun i => gi τ3 84 (14 * j + i)) ∧ ∀ i, i < d.length → VM n (rep al sg (d.take i)) (fun m => gi τ3 85 (560 * j + (14 * i + m)))
          rw [if_pos rfl]
          refine ⟨?_, ?_, VM_congr hn (fun i hi => ?_) e4, fun i hi => VM_congr hn (fun m hm => ?_) (e5 i hi)⟩
          · rw [f3 _ _ (by omega), f2 _ _ (by omega)]
            show gi (si (si τ 82 j 1) 83 j (nI ds.length)) 82 j = _
            rw [gi_si, if_neg (by omega), gi_si, if_pos ⟨rfl, rfl⟩]
          · rw [f3 _ _ (by omega), f2 _ _ (by omega)]
            show gi (si (si τ 82 j 1) 83 j (nI ds.length)) 83 j = _
            rw [gi_si, if_pos ⟨rfl, rfl⟩]
          · rw [f3 _ _ (by omega)]
            show gi (blt τ1 84 (14 * j) 14 (gi τ1 78)) 84 _ = _
            rw [gi_blt, if_pos (by omega), show 14 * j + i - 14 * j = i by omega, f1 _ _ (by omega) (by omega), fx _ _ (by omega)]
          · show gi (blt τ2 85 (560 * j) (14 * ds.length) (gi τ2 81)) 85 _ = _
            rw [gi_blt, if_pos (by omega), show 560 * j + (14 * i + m) - 560 * j = 14 * i + m by omega, f2 _ _ (by omega), f1 _ _ (by omega) (by omega), fx _ _ (by omega)]
        · show match (if j = k then some ds else kp j) with
            | none => gi τ3 82 j = 0
            | some d => gi τ3 82 j = 1 ∧ gi τ3 83 j = nI d.length ∧ VM n (rep al sg d) (fun i => gi τ3 84 (14 * j + i)) ∧ ∀ i, i < d.length → VM n (rep al sg (d.take i)) (fun m => gi τ3 85 (560 * j + (14 * i + m)))
          rw [if_neg c]
          have e7 := e6 j hj
          have f82 : ∀ a, a = 82 ∨ a = 83 → gi τ3 a j = gi σ a j := fun a z => by rw [f3 _ _ (by omega), f2 _ _ (by omega), f1 _ _ (by omega) (by omega), fx _ _ (by omega)]
          cases hkp : kp j with
          | none =>
            rw [hkp] at e7
            show gi τ3 82 j = 0
            rw [f82 _ (by omega)]
            exact e7
          | some d =>
            rw [hkp] at e7
            obtain ⟨q1, q2, q3, q4⟩ := e7
            have hdl := (w1.2.2.2.2.2.2.2 j d hkp).1
            refine ⟨by rw [f82 _ (by omega)]; exact q1, by rw [f82 _ (by omega)]; exact q2, VM_congr hn (fun i hi => ?_) q3, fun i hi => VM_congr hn (fun m hm => ?_) (q4 i hi)⟩
            · rw [f3 _ _ (by omega)]
              show gi (blt τ1 84 (14 * k) 14 (gi τ1 78)) 84 _ = _
              rw [gi_blt, if_neg (by omega), f1 _ _ (by omega) (by omega), fx _ _ (by omega)]
            · show gi (blt τ2 85 (560 * k) (14 * ds.length) (gi τ2 81)) 85 _ = _
              rw [gi_blt, if_neg (by omega), f2 _ _ (by omega), f1 _ _ (by omega) (by omega), fx _ _ (by omega)]
      refine ⟨nI ds.length, τ, τ3, b, ?_, ?_, rel_TW h rfl (fun a j z => fr a j (by omega) (by omega)) ⟨n, kd, al, sg, ds, kq, hokq, hTx, hTm⟩⟩
      · unfold f_X5_keep
        rw [if_pos OKx.1, if_neg (nI_pos (by omega)), if_pos (show nI k < (3 : Int32) from nI_lt (b := 3) hk (by decide)), BRpl hR, if_pos (ok_p hP).1, hs, if_neg (nI_ne0 (by omega) (by omega))]
        simp (disch := omega) only [↓reduceIte, ↓BR hR, OKx, OKk, inbT, ix_nI]
        rw [bVe (p_take (by omega) hR (Or.inr ⟨k, hk, rfl⟩) (Or.inl rfl) (by omega) hd.1 hl)]
        show bR (gr τ 0 3) (okO 1) _ = _
        simp (disch := omega) only [↓reduceIte, ↓BR hRt, OKx]
        rw [fx _ _ (by omega), hd.1]
      · have e14 : (14 : Int32) = nI 14 := rfl
        unfold f_X6_keep
        rw [if_pos OKx.2.1, bIe (show f_X6_in N (nI k) 0 (2 : Int32) τ = some (1, τ) from p_in1 (nI_pos (by omega)) (nI_nlt (a := 2) (b := k) (by omega) (by omega))), if_neg (show ¬ (1 : Int32) = 0 by decide), fx 66 10 (by omega), w3.1, if_neg (nI_ne0 (by omega) (by omega))]
        have g22 : gi (si τ 82 k 1) 66 22 = nI ds.length := by rw [gi_si, if_neg (by omega)]; exact h22
        simp (disch := omega) only [↓reduceIte, ↓BR hRt, ↓BRs, OKm, inbT, ix_nI, lt, show ((1 : Int32) &&& 1) = 1 from rfl, g22]
        have g22b : gi τ1 66 22 = nI ds.length := by rw [f1 _ _ (by omega) (by omega)]; exact h22
        have l2 : f_X6_keep_71 N N 66 (nI k) 0 τ2 = some (nI ds.length, τ3) := by
          have z := loop (fun f i => f_X6_keep_71 N f 66 (nI k) (nI i) (blt τ2 85 (560 * k) i (gi τ2 81))) (some (nI ds.length, τ3)) (14 * ds.length) ?_ ?_ N 0 (by omega) (by omega)
          · rw [blt_0] at z
            exact z
          · intro f
            unfold f_X6_keep_71
            rw [blt_out (by omega), f2 _ _ (by omega), g22b, e14, pk_mul, if_pos (nI_le (Nat.le_refl _) (by omega))]
          · intro f i hi A hA
            unfold f_X6_keep_71
            have g81 : gi (blt τ2 85 (560 * k) i (gi τ2 81)) 81 i = gi τ2 81 i := blt_out (by omega)
            rw [hA, blt_out (by omega), f2 _ _ (by omega), g22b, e14, pk_mul, if_neg (nI_ge hi (by omega)), show (560 : Int32) = nI 560 from rfl]
            simp (disch := omega) only [↓reduceIte, ↓BR (Rf_blt hRt2), OKm, pk_mul, nI_add, inbT, ix_nI, lt, nI_1, g81]
            rw [blt_s]
        have z := loop (fun f i => f_X6_keep_40 N f 66 (nI k) (nI i) (blt τ1 84 (14 * k) i (gi τ1 78))) (some (nI ds.length, τ3)) 14 ?_ ?_ N 0 (by omega) (by omega)
        · rw [blt_0] at z
          exact z
        · intro f
          unfold f_X6_keep_40
          rw [e14, if_pos (nI_le (Nat.le_refl 14) (by decide))]
          exact l2
        · intro f i hi A hA
          unfold f_X6_keep_40
          have g78 : gi (blt τ1 84 (14 * k) i (gi τ1 78)) 78 i = gi τ1 78 i := blt_out (by omega)
          rw [hA, e14, if_neg (nI_ge hi (by omega))]
          simp (disch := omega) only [↓reduceIte, ↓BR (Rf_blt hRt1), OKm, pk_mul, nI_add, inbT, ix_nI, lt, nI_1, g78]
          rw [blt_s]
