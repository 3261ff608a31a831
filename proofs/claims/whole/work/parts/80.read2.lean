/-! ===== PURE: what is read, on both sides ===== -/
abbrev rS : Type := Nat × (Nat → Nat) × (Nat → Nat) × (Nat → Nat)
def okRS (s : rS) : Prop := s.1 ≤ 6 ∧ (∀ p, p < s.1 → s.2.1 p ≤ 5) ∧ (∀ p, p < 6 → s.2.2.1 p < 2 ^ s.1 ∧ s.2.2.2 p < 2 ^ s.1) ∧ ∀ p q, p < 6 → q < 6 → (s.2.2.1 p).testBit q = (s.2.2.1 q).testBit p
def rCX (σ : Mm) (P : Nat) (s : rS) : Prop := gi σ P 8 = nI s.1 ∧ (∀ p, p < s.1 → gi σ (P + 1) p = nI (s.2.1 p)) ∧ (∀ k, k < 6 → gi σ (P + 2) k = nI (msk (fun p => isK k (s.2.1 p)) s.1)) ∧ ∀ p, p < 6 → gi σ (P + 3) p = nI (s.2.2.1 p) ∧ gi σ (P + 4) p = nI (s.2.2.2 p)
def rCE (σ : Mm) (s : rS) : Prop := gi σ 66 14 = nI s.1 ∧ (∀ p, p < s.1 → gi σ 75 p = nI (s.2.1 p)) ∧ ∀ p, p < 6 → gi σ 76 p = nI (s.2.2.1 p) ∧ gi σ 77 p = nI (s.2.2.2 p)
def rCM (σ : Mm) (i : Nat) (td : Bool) (s : rS) : Prop := gi σ 66 13 = nI i ∧ gi σ 66 15 = (if td then 1 else 0) ∧ rCE σ s
def rTX (σ : Mm) (t L : Nat) (f : Nat → Int32) : Prop := gi σ (49 + 2 * t) 1 = nI L ∧ ∀ j, j < L → gi σ (50 + 2 * t) j = f j
def rTM (σ : Mm) (t L : Nat) (f : Nat → Int32) : Prop := gi σ 71 t = nI L ∧ ∀ j, j < L → gi σ 72 (60 * t + j) = f j
def rFX (P : Nat) (σ τ : Mm) : Prop := τ.2 = σ.2 ∧ ∀ a k, a < P ∨ P + 7 < a → gi τ a k = gi σ a k
def rFM (σ τ : Mm) : Prop := τ.2 = σ.2 ∧ ∀ a k, ¬ (a = 66 ∧ 13 ≤ k ∧ k ≤ 15) → ¬ (75 ≤ a ∧ a ≤ 77) → gi τ a k = gi σ a k
theorem rFX_trans {P : Nat} {σ τ ρ : Mm} (h1 : rFX P σ τ) (h2 : rFX P τ ρ) : rFX P σ ρ := ⟨h2.1.trans h1.1, fun a k q => (h2.2 a k q).trans (h1.2 a k q)⟩
theorem rFM_trans {σ τ ρ : Mm} (h1 : rFM σ τ) (h2 : rFM τ ρ) : rFM σ ρ := ⟨h2.1.trans h1.1, fun a k q r => (h2.2 a k q r).trans (h1.2 a k q r)⟩
theorem rFX_refl {P : Nat} {σ : Mm} : rFX P σ σ := ⟨rfl, fun _ _ _ => rfl⟩
theorem rFM_refl {σ : Mm} : rFM σ σ := ⟨rfl, fun _ _ _ _ => rfl⟩
theorem rFX_Rf {P : Nat} {b : Bool} {σ τ : Mm} (h : rFX P σ τ) (hR : Rf b σ) : Rf b τ := Rf_eq (by rw [h.1]) hR
theorem rFM_Rf {b : Bool} {σ τ : Mm} (h : rFM σ τ) (hR : Rf b σ) : Rf b τ := Rf_eq (by rw [h.1]) hR
theorem rFX_T {P t L : Nat} {σ τ : Mm} {f : Nat → Int32} (hP : P = 19 ∨ P = 27) (h : rFX P σ τ) (hT : rTX σ t L f) : rTX τ t L f := ⟨(h.2 _ _ (by omega)).trans hT.1, fun j hj => (h.2 _ _ (by omega)).trans (hT.2 j hj)⟩
theorem rFM_T {t L : Nat} {σ τ : Mm} {f : Nat → Int32} (h : rFM σ τ) (hT : rTM σ t L f) : rTM τ t L f := ⟨(h.2 _ _ (by omega) (by omega)).trans hT.1, fun j hj => (h.2 _ _ (by omega) (by omega)).trans (hT.2 j hj)⟩
theorem nI_n9 {j : Nat} (hj : j ≤ 1000) : ¬ nI j = (-9 : Int32) := fun z => by
  have := congrArg Int32.toInt z
  rw [nI_toInt (by omega)] at this
  exact absurd this (by show ¬ (j : Int) = -9; omega)
theorem inb_no {x : Int32} {m : Nat} (h : inb x m = false) (hm : m ≤ 1000) : x < 0 ∨ nI m ≤ x := by
  rcases arg2 x m (by omega) with q | ⟨j, hj, rfl⟩
  · exact q
  · rw [inbT hj (by omega)] at h
    exact Bool.noConfusion h
theorem p_byte {N t L j : Nat} {b : Bool} {σ : Mm} {f : Nat → Int32} (hR : Rf b σ) (ht : t < 4) (hL : L ≤ 60) (hT : rTM σ t L f) (hj : j ≤ 1000) : f_X6_byteAt N 66 (nI t) (nI j) σ = some (if j < L then f j else 0, σ) := by
  unfold f_X6_byteAt
  rw [if_pos OKx.2.1]
  simp (disch := omega) only [↓reduceIte, ↓BR hR, OKm, inbT, ix_nI, hT.1]
  by_cases c : j < L
  · rw [if_neg (nI_ge c (by omega)), if_pos c, show (60 : Int32) = nI 60 from rfl, pk_mul, nI_add, if_pos (inbT (by omega) (by omega)), ix_nI (by omega), hT.2 j c]
  · rw [if_pos (nI_le (by omega) (by omega)), if_neg c]
theorem ltE {α ρ : Type} (e : α) (f : α → Option ρ) : lt e f = f e := rfl
/-- two figures behind a letter -/
def tp (f : Nat → Int32) (i : Nat) : Nat := ix (f (i + 1) - 48)
def tq (f : Nat → Int32) (i : Nat) : Nat := ix (f (i + 2) - 48)
def tie1 (f : Nat → Int32) (L i m : Nat) : Bool := decide (i + 1 < L) && inb (f (i + 1) - 48) m
def tie2 (f : Nat → Int32) (L i m : Nat) (h : Nat → Nat) : Bool := (decide (i + 2 < L) && inb (f (i + 2) - 48) m) && (!decide (tp f i = tq f i) && !(h (tp f i)).testBit (tq f i))
theorem p_tieX {N P t L i m c : Nat} {b : Bool} {σ : Mm} {f : Nat → Int32} {h : Nat → Nat} (hR : Rf b σ) (hP : P = 19 ∨ P = 27) (ht : t < 4) (hL : L ≤ 60) (hi : i < L) (hm : m ≤ 6) (hc : c = P + 3 ∨ c = P + 4) (h8 : gi σ P 8 = nI m) (hT : rTX σ t L f) (hh : ∀ x, x < 6 → gi σ c x = nI (h x) ∧ h x < 64) : f_X2_readTie N P (49 + 2 * t) (nI i) c σ = if tie1 f L i m then (if tie2 f L i m h then some (-9, si (si σ c (tp f i) (nI (h (tp f i) ||| 2 ^ tq f i))) c (tq f i) (nI (h (tq f i) ||| 2 ^ tp f i))) else some (nI (i + 2), σ)) else some (nI (i + 1), σ) := by
  have okc : okA 0 c = true ∧ arL c = 6 := by
    rcases hc with rfl | rfl
    · exact ⟨(ok_p hP).2.2.2.1, (ok_p hP).2.2.2.2.2.2.2.2.2.2.1⟩
    · exact ⟨(ok_p hP).2.2.2.2.1, (ok_p hP).2.2.2.2.2.2.2.2.2.2.2.1⟩
  have e2i : nI i + (2 : Int32) = nI (i + 2) := nI_add i 2
  unfold f_X2_readTie f_X2_readTie_97
  rw [if_pos (ok_p hP).1, if_pos (OKt ht).1, if_pos okc.1, nI_1, hT.1, e2i]
  by_cases e1 : i + 1 < L
  · rw [if_pos (nI_lt e1 (by omega)), (BRt hR).2.2 _ _ _ ht, if_pos (OKt ht).2.1, (OKt ht).2.2, if_pos (inbT (by omega) (by omega)), ix_nI (by omega), hT.2 _ e1, ltE]
    cases c1 : inb (f (i + 1) - 48) m with
    | false =>
      have T1 : tie1 f L i m = false := by unfold tie1; rw [c1, Bool.and_false]
      rw [bIe (p_hasP0 (N := N) hP (by rw [h8]; exact inb_no c1 (by omega))), if_pos rfl, T1, if_neg Bool.false_ne_true]
    | true =>
      have T1 : tie1 f L i m = true := by unfold tie1; rw [c1, decide_eq_true e1]; rfl
      obtain ⟨p, hp, ep⟩ := (inb_iff (by omega)).mp c1
      have tpe : tp f i = p := by unfold tp; rw [ep, ix_nI (by omega)]
      rw [ep, bIe (p_hasP1 (N := N) hP h8 hp hm), if_neg (show ¬ (1 : Int32) = 0 by decide), T1, if_pos rfl, hT.1, tpe]
      by_cases e2 : i + 2 < L
      · rw [if_pos (nI_lt e2 (by omega)), (BRt hR).2.2 _ _ _ ht, if_pos (OKt ht).2.1, (OKt ht).2.2, if_pos (inbT (by omega) (by omega)), ix_nI (by omega), hT.2 _ e2, ltE]
        cases c2 : inb (f (i + 2) - 48) m with
        | false =>
          have T2 : tie2 f L i m h = false := by unfold tie2; rw [c2, Bool.and_false]; rfl
          rw [bIe (p_hasP0 (N := N) hP (by rw [h8]; exact inb_no c2 (by omega))), if_pos rfl, T2, if_neg Bool.false_ne_true]
        | true =>
          obtain ⟨q, hq, eq⟩ := (inb_iff (by omega)).mp c2
          have tqe : tq f i = q := by unfold tq; rw [eq, ix_nI (by omega)]
          rw [eq, bIe (p_hasP1 (N := N) hP h8 hq hm), if_neg (show ¬ (1 : Int32) = 0 by decide), tqe]
          by_cases e3 : q = p
          · have T2 : tie2 f L i m h = false := by unfold tie2; rw [tpe, tqe, e3, decide_eq_true rfl]; simp
            rw [if_pos (by rw [e3]), T2, if_neg Bool.false_ne_true]
          · obtain ⟨g1, g2⟩ := hh p (by omega)
            obtain ⟨g3, g4⟩ := hh q (by omega)
            have g5 : gi (si σ c p (nI (h p ||| 2 ^ q))) c q = nI (h q) := by rw [gi_si, if_neg (by omega)]; exact g3
            rw [if_neg (fun z => e3 ((nI_eq (by omega) (by omega)).mp z)), okc.2, if_pos (inbT (by omega) (by omega)), ix_nI (by omega), g1, bIe (p_holds (N := N) g2 (show q < 6 by omega)), if10]
            cases c3 : (h p).testBit q with
            | true =>
              have T2 : tie2 f L i m h = false := by unfold tie2; rw [tpe, tqe, c3]; simp
              rw [if_pos rfl, T2, if_neg Bool.false_ne_true]
            | false =>
              have T2 : tie2 f L i m h = true := by unfold tie2; rw [tpe, tqe, c3, c2, decide_eq_true e2, decide_eq_false (fun z => e3 z.symm)]; rfl
              rw [if_neg Bool.false_ne_true, T2, if_pos rfl]
              simp (disch := omega) only [↓reduceIte, inbT, ix_nI, lt, g1, shl1, nI_or, g5]
      · have T2 : tie2 f L i m h = false := by unfold tie2; rw [decide_eq_false e2]; rfl
        rw [if_neg (nI_nlt (by omega) (by omega)), T2, if_neg Bool.false_ne_true, show L = i + 2 by omega]
  · have T1 : tie1 f L i m = false := by unfold tie1; rw [decide_eq_false e1]; rfl
    rw [if_neg (nI_nlt (by omega) (by omega)), T1, if_neg Bool.false_ne_true, show L = i + 1 by omega]
theorem p_tieM {N t L i m c : Nat} {b : Bool} {σ : Mm} {f : Nat → Int32} {h : Nat → Nat} (hR : Rf b σ) (ht : t < 4) (hL : L ≤ 60) (hi : i < L) (hm : m ≤ 6) (hm0 : 0 < m) (hc : c = 76 ∨ c = 77) (h13 : gi σ 66 13 = nI i) (h14 : gi σ 66 14 = nI m) (hT : rTM σ t L f) (hh : ∀ x, x < 6 → gi σ c x = nI (h x) ∧ h x < 64) : f_X6_readsPair N 66 (nI t) c σ = if tie1 f L i m then (if tie2 f L i m h then some (1, si (si (si (si (si (si σ 66 13 (nI (i + 1))) 66 13 (nI (i + 2))) 66 13 (nI (i + 3))) c (tp f i) (nI (h (tp f i) ||| 2 ^ tq f i))) c (tq f i) (nI (h (tq f i) ||| 2 ^ tp f i))) 66 15 1) else some (0, si (si σ 66 13 (nI (i + 1))) 66 13 (nI (i + 2)))) else some (0, si σ 66 13 (nI (i + 1))) := by
  have okc : okA 0 c = true ∧ arL c = 6 := by rcases hc with rfl | rfl <;> exact ⟨rfl, rfl⟩
  have em : nI m - (1 : Int32) = nI (m - 1) := nI_subT (b := 1) hm0
  have lm : ∀ x : Int32, x < 0 ∨ nI m ≤ x → x < 0 ∨ nI (m - 1) < x := fun x z => z.imp id (fun z => le_lt6 (by omega) (by rw [show m - 1 + 1 = m by omega]; exact z))
  unfold f_X6_readsPair
  rw [if_pos OKx.2.1, if_pos okc.1, h14, if_neg (show ¬ nI m = (0 : Int32) from nI_ne0 hm0 (by omega)), h13, nI_1]
  simp only [lt]
  generalize hS : si σ 66 13 (nI (i + 1)) = S1
  have hR1 : Rf b S1 := by rw [← hS]; exact hR
  have f1 : ∀ a k, ¬ (a = 66 ∧ k = 13) → gi S1 a k = gi σ a k := fun a k z => by rw [← hS, gi_si, if_neg z]
  have a13 : gi S1 66 13 = nI (i + 1) := by rw [← hS, gi_si, if_pos ⟨rfl, rfl⟩]
  have a14 : gi S1 66 14 = nI m := (f1 _ _ (by omega)).trans h14
  have aT : rTM S1 t L f := ⟨(f1 _ _ (by omega)).trans hT.1, fun j hj => (f1 _ _ (by omega)).trans (hT.2 j hj)⟩
  rw [a13, bIe (p_byte (N := N) hR1 ht hL aT (by omega)), a14, em]
  by_cases e1 : i + 1 < L
  · rw [if_pos e1]
    cases c1 : inb (f (i + 1) - 48) m with
    | false =>
      have T1 : tie1 f L i m = false := by unfold tie1; rw [c1, Bool.and_false]
      rw [bIe (p_in0 (N := N) (lm _ (inb_no c1 (by omega)))), if_pos rfl, T1, if_neg Bool.false_ne_true]
    | true =>
      have T1 : tie1 f L i m = true := by unfold tie1; rw [c1, decide_eq_true e1]; rfl
      obtain ⟨p, hp, ep⟩ := (inb_iff (by omega)).mp c1
      have tpe : tp f i = p := by unfold tp; rw [ep, ix_nI (by omega)]
      rw [ep, bIe (p_in1 (N := N) (nI_pos (by omega)) (nI_nlt (by omega) (by omega))), if_neg (show ¬ (1 : Int32) = 0 by decide), T1, if_pos rfl, tpe, a13, nI_1]
      generalize hS2 : si S1 66 13 (nI (i + 1 + 1)) = S2
      have hR2 : Rf b S2 := by rw [← hS2]; exact hR1
      have f2 : ∀ a k, ¬ (a = 66 ∧ k = 13) → gi S2 a k = gi S1 a k := fun a k z => by rw [← hS2, gi_si, if_neg z]
      have b13 : gi S2 66 13 = nI (i + 2) := by rw [← hS2, gi_si, if_pos ⟨rfl, rfl⟩]
      have b14 : gi S2 66 14 = nI m := (f2 _ _ (by omega)).trans a14
      have bT : rTM S2 t L f := ⟨(f2 _ _ (by omega)).trans aT.1, fun j hj => (f2 _ _ (by omega)).trans (aT.2 j hj)⟩
      rw [b13, bIe (p_byte (N := N) hR2 ht hL bT (by omega)), b14, em]
      by_cases e2 : i + 2 < L
      · rw [if_pos e2]
        cases c2 : inb (f (i + 2) - 48) m with
        | false =>
          have T2 : tie2 f L i m h = false := by unfold tie2; rw [c2, Bool.and_false]; rfl
          rw [bIe (p_in0 (N := N) (lm _ (inb_no c2 (by omega)))), if_pos rfl, T2, if_neg Bool.false_ne_true]
        | true =>
          obtain ⟨q, hq, eq⟩ := (inb_iff (by omega)).mp c2
          have tqe : tq f i = q := by unfold tq; rw [eq, ix_nI (by omega)]
          rw [eq, bIe (p_in1 (N := N) (nI_pos (by omega)) (nI_nlt (by omega) (by omega))), if_neg (show ¬ (1 : Int32) = 0 by decide), tqe]
          by_cases e3 : p = q
          · have T2 : tie2 f L i m h = false := by unfold tie2; rw [tpe, tqe, e3, decide_eq_true rfl]; simp
            rw [if_pos (by rw [e3]), T2, if_neg Bool.false_ne_true]
          · obtain ⟨g1, g2⟩ := hh p (by omega)
            obtain ⟨g3, g4⟩ := hh q (by omega)
            have k1 : gi S2 c p = nI (h p) := by rw [f2 _ _ (by omega), f1 _ _ (by omega)]; exact g1
            have k2 : gi S2 c q = nI (h q) := by rw [f2 _ _ (by omega), f1 _ _ (by omega)]; exact g3
            have k3 : gi (si S2 66 13 (nI (i + 2 + 1))) c p = nI (h p) := by rw [gi_si, if_neg (by omega)]; exact k1
            have k4 : gi (si (si S2 66 13 (nI (i + 2 + 1))) c p (nI (h p ||| 2 ^ q))) c q = nI (h q) := by rw [gi_si, if_neg (by omega), gi_si, if_neg (by omega)]; exact k2
            rw [if_neg (fun z => e3 ((nI_eq (by omega) (by omega)).mp z))]
            simp (disch := omega) only [↓reduceIte, okc, inbT, ix_nI, k1]
            rw [bIe (p_has (N := N) g2 (show q < 6 by omega)), if10]
            cases c3 : (h p).testBit q with
            | true =>
              have T2 : tie2 f L i m h = false := by unfold tie2; rw [tpe, tqe, c3]; simp
              rw [if_pos rfl, T2, if_neg Bool.false_ne_true]
            | false =>
              have T2 : tie2 f L i m h = true := by unfold tie2; rw [tpe, tqe, c3, c2, decide_eq_true e2, decide_eq_false e3]; rfl
              rw [if_neg Bool.false_ne_true, T2, if_pos rfl, b13, nI_1]
              simp (disch := omega) only [k3, shl1, nI_or, k4]
      · have T2 : tie2 f L i m h = false := by unfold tie2; rw [decide_eq_false e2]; rfl
        rw [if_neg e2, bIe (p_in0 (N := N) (Or.inl (by decide))), if_pos rfl, T2, if_neg Bool.false_ne_true]
  · have T1 : tie1 f L i m = false := by unfold tie1; rw [decide_eq_false e1]; rfl
    rw [if_neg e1, bIe (p_in0 (N := N) (Or.inl (by decide))), if_pos rfl, T1, if_neg Bool.false_ne_true]
