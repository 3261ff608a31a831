/-! ===== PURE: a deed lived, days lived again ===== -/
/-- a day as it stands, not settled -/
def RD (σ : Mm) (n : Nat) (y : Dy) : Prop := gi σ 7 5 = nI n ∧ gi σ 7 7 = (if y.2.2.2 then 1 else 0) ∧ gi σ 7 6 = nI y.2.2.1 ∧ ∀ p, p < n → gi σ 8 p = nI (y.1 p) ∧ gi σ 9 p = nI (y.2.1 p)
/-- nothing but the day has changed -/
def FDy (σ τ : Mm) : Prop := τ.2 = σ.2 ∧ ∀ a k, a < 7 ∨ 12 < a → gi τ a k = gi σ a k
theorem FDy_trans {σ τ ρ : Mm} (h1 : FDy σ τ) (h2 : FDy τ ρ) : FDy σ ρ := ⟨h2.1.trans h1.1, fun a k q => (h2.2 a k q).trans (h1.2 a k q)⟩
theorem FDy_Rf {b : Bool} {σ τ : Mm} (h : FDy σ τ) (hR : Rf b σ) : Rf b τ := Rf_eq (by rw [h.1]) hR
theorem grp_lt {al : Nat → Nat} {n p : Nat} (hn : n ≤ 6) (hp : p < n) : grp al p < 6 := by
  unfold grp grps
  have h1 := fa_cnt_le (ldB al) (ldr al p)
  have h2 := fa_first_le (fun q => (al p).testBit q) p
  unfold ldr at *
  omega
theorem PX_g {σ : Mm} {P n : Nat} {kd al sg : Nat → Nat} (hn : n ≤ 6) (h : PX σ P n kd al sg) : ∀ p, p < n → gi σ (P + 7) p = nI (grp al p) ∧ grp al p < 6 := fun p hp => ⟨(h.2.2.2 p hp).2.2.2.2, grp_lt hn hp⟩
theorem p_live {N P n : Nat} {b : Bool} {σ : Mm} {kd al sg : Nat → Nat} {y : Dy} {w : Nat × Nat} (hN : 20 ≤ N) (hR : Rf b σ) (hP : P = 19 ∨ P = 27) (hn : n ≤ 6) (hX : PX σ P n kd al sg) (hw : okD n w) (hm : y.2.2.1 < 100) (h : RD σ n y) : ∃ τ, f_X0_live N 7 (nI w.1) (nI w.2) P σ = some τ ∧ FDy σ τ ∧ RD τ n (app al y w) := by
  obtain ⟨h1, h2, h3, h4⟩ := h
  obtain ⟨w1, w2⟩ := w
  obtain ⟨k1, k2, k3, k4⟩ := hw
  dsimp only at k1 k2 k3 k4 ⊢
  rcases (show w1 = 0 ∨ w1 = 1 ∨ w1 = 2 by omega) with rfl | rfl | rfl
  · refine ⟨blt (si (si σ 7 6 (nI (y.2.2.1 + 1))) 7 7 0) 8 0 n (fun p => nI (dlOf al w2 p)), ?_, ⟨rfl, fun a k q => ?_⟩, ?_, ?_, ?_, fun p hp => ⟨?_, ?_⟩⟩
    · have hs : gi (si (si σ 7 6 (nI (y.2.2.1 + 1))) 7 7 0) P 8 = nI n := by rw [gi_si, if_neg (by omega), gi_si, if_neg (by omega)]; exact hX.1
      have hg : ∀ p, p < n → gi (si (si σ 7 6 (nI (y.2.2.1 + 1))) 7 7 0) (P + 7) p = nI (grp al p) ∧ grp al p < 6 := fun p hp => by rw [gi_si, if_neg (by omega), gi_si, if_neg (by omega)]; exact PX_g hn hX p hp
      unfold f_X0_live
      rw [if_pos OKx.2.2.2.1, if_pos (ok_p hP).1, if_pos (by rfl), h3, nI_1]
      simp only [lt]
      rw [bVe (p_dealOut (σ := si (si σ 7 6 (nI (y.2.2.1 + 1))) 7 7 0) hN hR (Or.inl rfl) hP hs hn hg (k2 rfl))]
    · rw [blt_out (by omega), gi_si, if_neg (by omega), gi_si, if_neg (by omega)]
    · rw [blt_out (by omega), gi_si, if_neg (by omega), gi_si, if_neg (by omega)]; exact h1
    · rw [blt_out (by omega), gi_si, if_pos (by omega)]; rfl
    · rw [blt_out (by omega), gi_si, if_neg (by omega), gi_si, if_pos (by omega)]; rfl
    · rw [blt_in hp]; rfl
    · rw [blt_out (by omega), gi_si, if_neg (by omega), gi_si, if_neg (by omega)]; exact (h4 p hp).2
  · refine ⟨si σ 7 7 1, ?_, ⟨rfl, fun a k q => ?_⟩, ?_, ?_, ?_, fun p hp => ⟨?_, ?_⟩⟩
    · unfold f_X0_live
      rw [if_pos OKx.2.2.2.1, if_pos (ok_p hP).1, if_neg (by decide), if_pos (by rfl)]
      rfl
    · rw [gi_si, if_neg (by omega)]
    · rw [gi_si, if_neg (by omega)]; exact h1
    · rw [gi_si, if_pos (by omega)]; rfl
    · rw [gi_si, if_neg (by omega)]; exact h3
    · rw [gi_si, if_neg (by omega)]; exact (h4 p hp).1
    · rw [gi_si, if_neg (by omega)]; exact (h4 p hp).2
  · obtain ⟨e1, e2⟩ := k4 rfl
    have d1 : w2 / 6 < 6 := by omega
    have d2 : w2 % 6 < 6 := by omega
    refine ⟨si (si σ 9 (w2 / 6) (nI (y.2.1 (w2 / 6) ||| 2 ^ (w2 % 6)))) 9 (w2 % 6) ((gi (si σ 9 (w2 / 6) (nI (y.2.1 (w2 / 6) ||| 2 ^ (w2 % 6)))) 9 (w2 % 6)) ||| nI (2 ^ (w2 / 6))), ?_, ⟨rfl, fun a k q => ?_⟩, ?_, ?_, ?_, fun p hp => ⟨?_, ?_⟩⟩
    · unfold f_X0_live
      rw [if_pos OKx.2.2.2.1, if_pos (ok_p hP).1, if_neg (by decide), if_neg (by decide), show (6 : Int32) = nI 6 from rfl, pk_rem (by omega) (by omega) (by omega), pk_div (by omega) (by omega) (by omega)]
      simp (disch := omega) only [↓reduceIte, ↓BR hR, ↓BRs, OKx, inbT, ix_nI, lt, shl1, (h4 _ e1).2, nI_or]
    · rw [gi_si, if_neg (by omega), gi_si, if_neg (by omega)]
    · rw [gi_si, if_neg (by omega), gi_si, if_neg (by omega)]; exact h1
    · rw [gi_si, if_neg (by omega), gi_si, if_neg (by omega)]; exact h2
    · rw [gi_si, if_neg (by omega), gi_si, if_neg (by omega)]; exact h3
    · rw [gi_si, if_neg (by omega), gi_si, if_neg (by omega)]; exact (h4 p hp).1
    · show _ = nI (addS y.2.1 (w2 / 6) (w2 % 6) p)
      unfold addS
      rw [gi_si]
      by_cases c : p = w2 % 6
      · rw [if_pos ⟨rfl, c⟩, gi_si]
        by_cases c2 : w2 % 6 = w2 / 6
        · rw [if_pos ⟨rfl, c2⟩, nI_or, if_pos (by omega), show p = w2 / 6 by omega, c2, Nat.or_assoc, Nat.or_self]
        · rw [if_neg (by omega), if_neg (by omega), if_pos c, (h4 _ e2).2, nI_or, c]
      · rw [if_neg (by omega), gi_si]
        by_cases c2 : p = w2 / 6
        · rw [if_pos ⟨rfl, c2⟩, if_pos c2, c2]
        · rw [if_neg (by omega), if_neg c2, if_neg c]
          exact (h4 p hp).2
theorem p_begin7 {N P n : Nat} {b : Bool} {σ : Mm} {kd al sg : Nat → Nat} (hN : 20 ≤ N) (hR : Rf b σ) (hP : P = 19 ∨ P = 27) (hn : n ≤ 6) (hX : PX σ P n kd al sg) : ∃ τ, f_X0_begin N 7 P σ = some τ ∧ FDy σ τ ∧ RD τ n (fun _ => 0, sg, 0, false) := by
  let S0 : Mm := si (si (si σ 7 5 (gi σ P 8)) 7 6 0) 7 7 0
  have hR0 : Rf b S0 := hR
  have hs0 : ∀ a k, a < 7 ∨ 7 < a → gi S0 a k = gi σ a k := fun a k q => by
    show gi (si (si (si σ 7 5 (gi σ P 8)) 7 6 0) 7 7 0) a k = _
    rw [gi_si, if_neg (by omega), gi_si, if_neg (by omega), gi_si, if_neg (by omega)]
  have h5 : gi S0 7 5 = nI n := by
    show gi (si (si (si σ 7 5 (gi σ P 8)) 7 6 0) 7 7 0) 7 5 = _
    rw [gi_si, if_neg (by omega), gi_si, if_neg (by omega), gi_si, if_pos (by omega)]
    exact hX.1
  have h6 : gi S0 7 6 = 0 := by
    show gi (si (si (si σ 7 5 (gi σ P 8)) 7 6 0) 7 7 0) 7 6 = _
    rw [gi_si, if_neg (by omega), gi_si, if_pos (by omega)]
  have h7 : gi S0 7 7 = 0 := by
    show gi (si (si (si σ 7 5 (gi σ P 8)) 7 6 0) 7 7 0) 7 7 = _
    rw [gi_si, if_pos (by omega)]
  refine ⟨blt (blt S0 8 0 n (fun _ => 0)) 9 0 n (fun p => nI (sg p)), ?_, ⟨rfl, fun a k q => ?_⟩, ?_, ?_, ?_, fun p hp => ⟨?_, ?_⟩⟩
  · unfold f_X0_begin
    rw [if_pos OKx.2.2.2.1, if_pos (ok_p hP).1]
    simp only [lt]
    have z := loop (fun f i => f_X0_begin_20 N f 7 P (nI i) (blt (blt S0 8 0 i (fun _ => 0)) 9 0 i (fun p => nI (sg p)))) (some (blt (blt S0 8 0 n (fun _ => 0)) 9 0 n (fun p => nI (sg p)))) n ?_ ?_ N 0 (by omega) (by omega)
    · rw [blt_0, blt_0] at z
      exact z
    · intro f
      unfold f_X0_begin_20
      rw [blt_out (by omega), blt_out (by omega), h5, if_pos (nI_le (Nat.le_refl n) (by omega))]
    · intro f i hi A hA
      unfold f_X0_begin_20
      have g4 : gi (si (blt (blt S0 8 0 i (fun _ => 0)) 9 0 i (fun p => nI (sg p))) 8 i 0) (P + 4) i = nI (sg i) := by
        rw [gi_si, if_neg (by omega), blt_out (by omega), blt_out (by omega), hs0 _ _ (by omega)]
        exact (hX.2.2.2 i hi).2.1
      have hR1 : Rf b (blt (blt S0 8 0 i (fun _ => 0)) 9 0 i (fun p => nI (sg p))) := hR
      have hR2 : Rf b (si (blt (blt S0 8 0 i (fun _ => 0)) 9 0 i (fun p => nI (sg p))) 8 i 0) := hR
      rw [blt_out (by omega), blt_out (by omega), h5, if_neg (nI_ge hi (by omega))]
      simp (disch := omega) only [↓reduceIte, ↓BR hR1, ↓BR hR2, ↓BRp hR2 hP, OKx, ok_p hP, inbT, ix_nI, lt, nI_1, g4]
      rw [hA]
      congr 1
      refine mm_ext (fun c j => ?_) rfl
      simp only [gi_si, gi_blt]
      by_cases c9 : c = 9
      · subst c9
        by_cases ji : j = i
        · subst ji
          rw [if_pos ⟨rfl, rfl⟩, if_pos (by omega), Nat.sub_zero]
        · rw [if_neg (by omega), if_neg (by omega)]
          by_cases j2 : j < i
          · rw [if_pos (by omega), if_pos (by omega)]
          · rw [if_neg (by omega), if_neg (by omega), if_neg (by omega), if_neg (by omega)]
      · rw [if_neg (by omega)]
        by_cases c8 : c = 8
        · subst c8
          by_cases ji : j = i
          · subst ji
            rw [if_pos ⟨rfl, rfl⟩, if_neg (by omega), if_pos (by omega)]
          · by_cases j2 : j < i
            · repeat' (first | rw [if_neg (by omega)] | rw [if_pos (by omega)] | rw [if_pos (by simp <;> omega)] | fail)
            · repeat' (first | rw [if_neg (by omega)] | rw [if_pos (by omega)] | rw [if_pos (by simp <;> omega)] | fail)
        · rw [if_neg (by omega), if_neg (by omega), if_neg (by omega), if_neg (by omega), if_neg (by omega)]
  · rw [blt_out (by omega), blt_out (by omega), hs0 _ _ (by omega)]
  · rw [blt_out (by omega), blt_out (by omega)]; exact h5
  · rw [blt_out (by omega), blt_out (by omega)]; exact h7
  · rw [blt_out (by omega), blt_out (by omega)]; exact h6
  · rw [blt_out (by omega), blt_in hp]; rfl
  · rw [blt_in hp]
theorem PX_FDy {σ τ : Mm} {P n : Nat} {kd al sg : Nat → Nat} (hP : P = 19 ∨ P = 27) (h : FDy σ τ) (hX : PX σ P n kd al sg) : PX τ P n kd al sg := PX_congr (fun a k q1 q2 => h.2 a k (by omega)) hX
theorem DX_FDy {σ τ : Mm} {ds : Dd} (h : FDy σ τ) (hX : DX σ 4 ds) : DX τ 4 ds := DX_congr (fun a k q1 q2 => h.2 a k (by omega)) hX
theorem p_set7 {N P n : Nat} {b : Bool} {σ : Mm} {kd al sg : Nat → Nat} {y : Dy} (hN : 20 ≤ N) (hR : Rf b σ) (hP : P = 19 ∨ P = 27) (hn : n ≤ 6) (hX : PX σ P n kd al sg) (h : RD σ n y) (h1 : ∀ p, p < n → y.1 p < 4) (h2 : ∀ p, p < n → y.2.1 p < 2 ^ n) : ∃ τ, f_X0_settle N 7 P σ = some τ ∧ FDy σ τ ∧ YX τ 7 n kd y ∧ gi τ 7 6 = nI y.2.2.1 := by
  refine ⟨setl σ 7 n kd y, p_settle hN hR (Or.inl rfl) (PX_PM hP hn hX) h.2.1 (fun q hq => ⟨(h.2.2.2 q hq).1, h1 q hq⟩) (fun q hq => ⟨(h.2.2.2 q hq).2, h2 q hq⟩), ⟨rfl, fun a k q => setl_out (by omega)⟩, setl_YX h.1 h.2.1 h.2.2.2, by rw [setl_out (by omega)]; exact h.2.2.1⟩
theorem p_again {N n : Nat} {b : Bool} {σ : Mm} {kd al sg : Nat → Nat} {ds : Dd} (hN : 100 ≤ N) (hR : Rf b σ) (hn : n ≤ 6) (hX : PX σ (pl b) n kd al sg) (hD : DX σ 4 ds) (hl : ds.length ≤ 40) (hok : ∀ w ∈ ds, okD n w) (hsg : ∀ p, p < n → sg p < 2 ^ n) : ∃ τ, f_X5_liveAgain N 0 σ = some τ ∧ FDy σ τ ∧ YX τ 7 n kd (rep al sg ds) ∧ gi τ 7 6 = nI (rep al sg ds).2.2.1 := by
  have hP := pl_cases b
  obtain ⟨τ0, b1, b2, b3⟩ := p_begin7 (N := N) (by omega) hR hP hn hX
  have main : ∀ (f i : Nat) (τ : Mm), i ≤ ds.length → ds.length - i < f → FDy σ τ → RD τ n (rep al sg (ds.take i)) → ∃ ρ, f_X5_liveAgain_13 N f 0 (nI i) τ = some ρ ∧ FDy σ ρ ∧ YX ρ 7 n kd (rep al sg ds) ∧ gi ρ 7 6 = nI (rep al sg ds).2.2.1 := by
    intro f
    induction f with
    | zero => intro i τ _ h; omega
    | succ f ih =>
      intro i τ hi hf hF hD2
      have hRt := FDy_Rf hF hR
      have hXt := PX_FDy hP hF hX
      have hDt := DX_FDy hF hD
      unfold f_X5_liveAgain_13
      simp (disch := omega) only [↓reduceIte, ↓BR hRt, OKx]
      rw [hDt.1]
      by_cases e : i = ds.length
      · rw [if_pos (nI_le (by omega) (by omega))]
        rw [e, List.take_length] at hD2
        have ok := okDy_rep (al := al) hsg ds hok
        obtain ⟨ρ, r1, r2, r3, r4⟩ := p_set7 (N := N) (by omega) hRt hP hn hXt hD2 ok.1 ok.2.1
        refine ⟨ρ, ?_, FDy_trans hF r2, r3, r4⟩
        change (if okO 2 (pl b) = true then bV (f_X0_settle N 7 (pl b) τ) _ else none) = _
        rw [if_pos (ok_p hP).1, bVe r1]
      · have hi2 : i < ds.length := by omega
        have hw : ds[i]? = some ds[i] := List.getElem?_eq_getElem hi2
        have hmem : ds[i] ∈ ds := List.getElem_mem hi2
        have hokt : ∀ w ∈ ds.take i, okD n w := fun w hw2 => hok w (List.mem_of_mem_take hw2)
        have okt := okDy_rep (al := al) hsg (ds.take i) hokt
        have hlt : (ds.take i).length ≤ i := by rw [List.length_take]; omega
        obtain ⟨d1, d2⟩ := hDt.2 i _ hw
        obtain ⟨ρ, r1, r2, r3⟩ := p_live (N := N) (by omega) hRt hP hn hXt (hok _ hmem) (by have := okt.2.2; omega) hD2
        have e2 : rep al sg (ds.take (i + 1)) = app al (rep al sg (ds.take i)) ds[i] := by
          rw [← rep_snoc, List.take_succ_eq_append_getElem hi2]
        rw [← e2] at r3
        obtain ⟨ρ2, s1, s2⟩ := ih (i + 1) ρ (by omega) (by omega) (FDy_trans hF r2) r3
        refine ⟨ρ2, ?_, s2⟩
        rw [if_neg (nI_ge hi2 (by omega))]
        simp (disch := omega) only [↓reduceIte, OKx, inbT, ix_nI]
        rw [show gi τ 5 i = nI (ds[i]).1 from d1, show gi τ 6 i = nI (ds[i]).2 from d2]
        change (if okO 2 (pl b) = true then bV (f_X0_live N 7 (nI (ds[i]).1) (nI (ds[i]).2) (pl b) τ) _ else none) = _
        rw [if_pos (ok_p hP).1, bVe r1, nI_1]
        exact s1
  obtain ⟨ρ, r1, r2⟩ := main N 0 τ0 (by omega) (by omega) b2 b3
  refine ⟨ρ, ?_, r2⟩
  unfold f_X5_liveAgain
  rw [if_pos OKx.1]
  simp (disch := omega) only [↓reduceIte, ↓BR hR, OKx]
  change (if okO 2 (pl b) = true then bV (f_X0_begin N 7 (pl b) σ) _ else none) = _
  rw [if_pos (ok_p hP).1, bVe b1]
  exact r1
