/-! ===== PURE: a day dealt, learned, settled, lived ===== -/
theorem sh31 : ∀ j : Nat, j < 31 → ((nI j &&& 31).toBitVec.smod 32).toNat = j := by decide
theorem shrN {n j : Nat} (h : n < 2147483648) (hj : j < 31) : nI n >>> (nI j &&& 31) = nI (n / 2 ^ j) := pk_shrN (by omega) _ j (sh31 j hj)
theorem blt_s0 {σ : Mm} {a n : Nat} {g : Nat → Int32} : si (blt σ a 0 n g) a n (g n) = blt σ a 0 (n + 1) g := by
  have h := blt_s (σ := σ) (a := a) (lo := 0) (n := n) (g := g)
  rw [Nat.zero_add] at h
  exact h
theorem blt_out {σ : Mm} {a lo n c j : Nat} {g : Nat → Int32} (h : c ≠ a) : gi (blt σ a lo n g) c j = gi σ c j := by rw [gi_blt, if_neg (fun q => h q.1)]
theorem blt_in {σ : Mm} {a n j : Nat} {g : Nat → Int32} (h : j < n) : gi (blt σ a 0 n g) a j = g j := by rw [gi_blt, if_pos (by omega), Nat.sub_zero]
theorem blt_congr {σ : Mm} {a lo n : Nat} {g h : Nat → Int32} (e : ∀ j, j < n → g j = h j) : blt σ a lo n g = blt σ a lo n h := mm_ext (fun c j => by
  rw [gi_blt, gi_blt]
  by_cases q : c = a ∧ lo ≤ j ∧ j < lo + n
  · rw [if_pos q, if_pos q, e _ (by omega)]
  · rw [if_neg q, if_neg q]) rfl
theorem p_dealOut {N o P n d : Nat} {b : Bool} {σ : Mm} {al : Nat → Nat} (hN : 20 ≤ N) (hR : Rf b σ) (ho : o = 7 ∨ o = 13) (hP : P = 19 ∨ P = 27) (hs : gi σ P 8 = nI n) (hn : n ≤ 6) (hg : ∀ p, p < n → gi σ (P + 7) p = nI (grp al p) ∧ grp al p < 6) (hd : d < 4096) : f_X0_dealOut N o P (nI d) σ = some (blt σ (o + 1) 0 n (fun p => nI (dlOf al d p))) := by
  unfold f_X0_dealOut
  rw [if_pos (ok_d ho).1, if_pos (ok_p hP).1]
  have z := loop (fun f i => f_X0_dealOut_2 N f o P (nI d) (nI i) (blt σ (o + 1) 0 i (fun p => nI (dlOf al d p)))) (some (blt σ (o + 1) 0 n (fun p => nI (dlOf al d p)))) n ?_ ?_ N 0 (by omega) (by omega)
  · rw [blt_0] at z
    exact z
  · intro f
    unfold f_X0_dealOut_2
    rw [blt_out (by omega), hs, if_pos (nI_le (Nat.le_refl n) (by omega))]
  · intro f i hi A hA
    obtain ⟨g1, g2⟩ := hg i hi
    have g3 : gi (blt σ (o + 1) 0 i (fun p => nI (dlOf al d p))) (P + 7) i = nI (grp al i) := by rw [blt_out (by omega)]; exact g1
    unfold f_X0_dealOut_2
    rw [hA, blt_out (by omega), hs, if_neg (nI_ge hi (by omega)), show (4 : Int32) = nI 4 from rfl, show (2 : Int32) = nI 2 from rfl]
    simp (disch := omega) only [↓reduceIte, ↓BRd (Rf_blt hR) ho, ↓BRp (Rf_blt hR) hP, ok_d ho, ok_p hP, inbT, ix_nI, g3, pk_mul, shrN]
    have e : d / 2 ^ (2 * grp al i) < 2147483648 := Nat.lt_of_le_of_lt (Nat.div_le_self _ _) (by omega)
    rw [pk_rem (by omega) (by omega) (by omega), Nat.pow_mul]
    simp only [lt, nI_1]
    rw [show nI (d / (2 ^ 2) ^ grp al i % 4) = (fun p => nI (dlOf al d p)) i from rfl, blt_s0]
/-- knows and hearers laid over -/
def St (σ : Mm) (o i : Nat) (KN F : Nat → Int32) : Mm := blt (blt σ (o + 3) 0 i KN) (o + 4) 0 4 F
theorem St_out {σ : Mm} {o i a k : Nat} {KN F : Nat → Int32} (h1 : a ≠ o + 3) (h2 : a ≠ o + 4) : gi (St σ o i KN F) a k = gi σ a k := by
  unfold St
  rw [blt_out (by omega), blt_out (by omega)]
theorem St_kn {σ : Mm} {o i q : Nat} {KN F : Nat → Int32} (h : q < i) : gi (St σ o i KN F) (o + 3) q = KN q := by
  unfold St
  rw [blt_out (by omega), gi_blt, if_pos (by omega), Nat.sub_zero]
theorem St_he {σ : Mm} {o i t : Nat} {KN F : Nat → Int32} (h : t < 4) : gi (St σ o i KN F) (o + 4) t = F t := by
  unfold St
  rw [gi_blt, if_pos (by omega), Nat.sub_zero]
theorem Rf_St {b : Bool} {σ : Mm} {o i : Nat} {KN F : Nat → Int32} (h : Rf b σ) : Rf b (St σ o i KN F) := h
theorem St_k {σ : Mm} {o i : Nat} {KN F : Nat → Int32} : si (St σ o i KN F) (o + 3) i (KN i) = St σ o (i + 1) KN F := mm_ext (fun c j => by
  unfold St
  simp only [gi_blt, gi_si]
  by_cases q : c = o + 4 ∧ 0 ≤ j ∧ j < 0 + 4
  · rw [if_pos q, if_neg (by omega), if_pos q]
  · rw [if_neg q, if_neg q]
    by_cases z : c = o + 3 ∧ j = i
    · rw [if_pos z, if_pos (by omega), z.2, Nat.sub_zero]
    · rw [if_neg z]
      by_cases z2 : c = o + 3 ∧ 0 ≤ j ∧ j < 0 + i
      · rw [if_pos z2, if_pos (by omega)]
      · rw [if_neg z2, if_neg (by omega)]) rfl
theorem St_h {σ : Mm} {o i t : Nat} {KN F : Nat → Int32} {v : Int32} (ht : t < 4) : si (St σ o i KN F) (o + 4) t v = St σ o i KN (fun u => if u = t then v else F u) := mm_ext (fun c j => by
  unfold St
  simp only [gi_blt, gi_si]
  by_cases q : c = o + 4 ∧ j = t
  · rw [if_pos q, if_pos (by omega), if_pos (by omega)]
  · rw [if_neg q]
    by_cases q2 : c = o + 4 ∧ 0 ≤ j ∧ j < 0 + 4
    · rw [if_pos q2, if_pos q2, if_neg (by omega)]
    · rw [if_neg q2, if_neg q2]) rfl
theorem St_congr {σ : Mm} {o i : Nat} {KN F G : Nat → Int32} (h : ∀ t, t < 4 → F t = G t) : St σ o i KN F = St σ o i KN G := by
  unfold St
  exact blt_congr h
theorem PM_congr {σ τ : Mm} {P n : Nat} {kd : Nat → Nat} (h : ∀ a k, P ≤ a → a ≤ P + 7 → gi τ a k = gi σ a k) (hm : PM σ P n kd) : PM τ P n kd := by
  obtain ⟨h1, h2, h3, h4⟩ := hm
  exact ⟨h1, h2, by rw [h _ _ (by omega) (by omega)]; exact h3, fun k hk => by rw [h _ _ (by omega) (by omega)]; exact h4 k hk⟩
def hB (n : Nat) (kd dl : Nat → Nat) (no : Bool) (t q : Nat) : Bool := !(!no && decide (kd q = 4)) && (kn n kd dl no q).testBit t
theorem p_learn {N o P n : Nat} {b : Bool} {σ : Mm} {kd dl : Nat → Nat} {no : Bool} (hN : 20 ≤ N) (hR : Rf b σ) (ho : o = 7 ∨ o = 13) (hM : PM σ P n kd) (hno : gi σ o 7 = (if no then 1 else 0)) (hd : ∀ q, q < n → gi σ (o + 1) q = nI (dl q) ∧ dl q < 4) : f_X0_learn N o P σ = some (St σ o n (fun q => nI (kn n kd dl no q)) (fun t => nI (he n kd dl no t))) := by
  have hP := hM.1
  have hn := hM.2.1
  have hs := hM.2.2.1
  have e4 : (4 : Int32) = nI 4 := rfl
  have hPo : ∀ {i F}, PM (St σ o i (fun q => nI (kn n kd dl no q)) F) P n kd := fun {i F} => PM_congr (fun a k q1 q2 => St_out (by omega) (by omega)) hM
  have hdo : ∀ {i F}, ∀ q, q < n → gi (St σ o i (fun q => nI (kn n kd dl no q)) F) (o + 1) q = nI (dl q) ∧ dl q < 4 := fun {i F} q hq => ⟨by rw [St_out (by omega) (by omega)]; exact (hd q hq).1, (hd q hq).2⟩
  have hkl : ∀ q, q < n → kn n kd dl no q < 16 := fun q hq => kn_lt (fun q hq => (hd q hq).2) hq
  -- one person's tongues
  have l70 : ∀ (K : Nat → Nat → Int32 → Mm → Option Mm) (i : Nat), i < n → (!no && decide (kd i = 4)) = false → f_X0_learn_68 N K o P (nI i) (St σ o (i + 1) (fun q => nI (kn n kd dl no q)) (fun t => nI (msk (hB n kd dl no t) i))) = K o P (nI (i + 1)) (St σ o (i + 1) (fun q => nI (kn n kd dl no q)) (fun t => nI (msk (hB n kd dl no t) (i + 1)))) := by
    intro K i hi hsh
    unfold f_X0_learn_68
    have hbi : ∀ t, hB n kd dl no t i = (kn n kd dl no i).testBit t := fun t => by unfold hB; rw [hsh]; rfl
    refine loop (fun f t => f_X0_learn_70 N K f o P (nI i) (nI t) (St σ o (i + 1) (fun q => nI (kn n kd dl no q)) (fun u => nI (msk (hB n kd dl no u) (if u < t then i + 1 else i))))) _ 4 ?_ ?_ N 0 (by omega) (by omega)
    · intro f
      unfold f_X0_learn_70 f_X0_learn_106
      rw [e4, if_pos (nI_le (Nat.le_refl 4) (by decide)), nI_1]
      rw [St_congr (G := fun t => nI (msk (hB n kd dl no t) (i + 1))) (fun t ht => by rw [if_pos ht])]
    · intro f t ht A hA
      unfold f_X0_learn_70 f_X0_learn_100
      have g3 : gi (St σ o (i + 1) (fun q => nI (kn n kd dl no q)) (fun u => nI (msk (hB n kd dl no u) (if u < t then i + 1 else i)))) (o + 3) i = nI (kn n kd dl no i) := St_kn (by omega)
      have g4 : gi (St σ o (i + 1) (fun q => nI (kn n kd dl no q)) (fun u => nI (msk (hB n kd dl no u) (if u < t then i + 1 else i)))) (o + 4) t = nI (msk (hB n kd dl no t) i) := (St_he ht).trans (by rw [if_neg (by omega)])
      have := hkl i hi
      rw [hA, e4, if_neg (nI_ge ht (by omega))]
      simp (disch := omega) only [↓reduceIte, ↓BRd (Rf_St hR) ho, ok_d ho, inbT, ix_nI, g3]
      rw [bIe (p_holds (N := N) (by omega) (show t < 6 by omega)), if10]
      simp (disch := omega) only [↓reduceIte, ↓BRd (Rf_St hR) ho, ok_d ho, inbT, ix_nI, g4, lt, nI_1, shl1, nI_or]
      cases hk : (kn n kd dl no i).testBit t with
      | false =>
        rw [if_neg (by decide)]
        refine congrArg _ (St_congr (fun u hu => ?_))
        by_cases c : u = t
        · subst c
          rw [if_neg (by omega), if_pos (by omega), msk, hbi, hk, if_neg (by decide), Nat.or_zero]
        · by_cases c2 : u < t
          · rw [if_pos c2, if_pos (by omega)]
          · rw [if_neg c2, if_neg (by omega)]
      | true =>
        rw [if_pos rfl, St_h ht]
        refine congrArg _ (St_congr (fun u hu => ?_))
        by_cases c : u = t
        · subst c
          rw [if_pos rfl, if_pos (by omega), msk, hbi, hk, if_pos rfl]
        · rw [if_neg c]
          by_cases c2 : u < t
          · rw [if_pos c2, if_pos (by omega)]
          · rw [if_neg c2, if_neg (by omega)]
  have l22 : ∀ f i, i ≤ n → n - i < f → f_X0_learn_22 N f o P (nI i) (St σ o i (fun q => nI (kn n kd dl no q)) (fun t => nI (msk (hB n kd dl no t) i))) = some (St σ o n (fun q => nI (kn n kd dl no q)) (fun t => nI (he n kd dl no t))) := by
    refine loop (fun f i => f_X0_learn_22 N f o P (nI i) (St σ o i (fun q => nI (kn n kd dl no q)) (fun t => nI (msk (hB n kd dl no t) i)))) _ n ?_ ?_
    · intro f
      unfold f_X0_learn_22
      rw [St_out (by omega) (by omega), hs, if_pos (nI_le (Nat.le_refl n) (by omega))]
      rfl
    · intro f i hi A hA
      unfold f_X0_learn_22
      have g7 : ∀ {F}, gi (St σ o i (fun q => nI (kn n kd dl no q)) F) o 7 = (if no then 1 else 0) := fun {F} => by rw [St_out (by omega) (by omega)]; exact hno
      have g8 : ∀ {F}, gi (St σ o (i + 1) (fun q => nI (kn n kd dl no q)) F) o 7 = (if no then 1 else 0) := fun {F} => by rw [St_out (by omega) (by omega)]; exact hno
      rw [hA, St_out (by omega) (by omega), hs, if_neg (nI_ge hi (by omega))]
      simp (disch := omega) only [↓reduceIte, ↓BRd (Rf_St hR) ho, ok_d ho]
      rw [g7, bIe (p_knownBy (Rf_St hR) hPo ⟨by rcases ho with rfl | rfl <;> decide, by rcases ho with rfl | rfl <;> decide⟩ hdo hi no)]
      simp (disch := omega) only [↓reduceIte, inbT, ix_nI, lt]
      rw [show nI (kn n kd dl no i) = (fun q => nI (kn n kd dl no q)) i from rfl, St_k, g8, if10]
      cases hno2 : no with
      | true =>
        subst hno2
        rw [if_pos rfl]
        exact l70 _ i hi rfl
      | false =>
        subst hno2
        rw [if_neg (by decide), e4, bIe (p_is (Rf_St hR) hP hPo.2.2.2 hn hi (by decide)), if10, isK4]
        cases hsi : decide (kd i = 4) with
        | false =>
          rw [if_neg (by decide)]
          exact l70 _ i hi (by rw [hsi]; rfl)
        | true =>
          rw [if_pos rfl]
          unfold f_X0_learn_106
          rw [nI_1]
          refine congrArg _ (St_congr (fun t ht => ?_))
          rw [msk, show hB n kd dl false t i = false by unfold hB; rw [hsi]; rfl, if_neg (by decide), Nat.or_zero]
  have l2 : ∀ f i, i ≤ 4 → 4 - i < f → f_X0_learn_2 N f o P (nI i) (blt σ (o + 4) 0 i (fun _ => 0)) = some (St σ o n (fun q => nI (kn n kd dl no q)) (fun t => nI (he n kd dl no t))) := by
    refine loop (fun f i => f_X0_learn_2 N f o P (nI i) (blt σ (o + 4) 0 i (fun _ => 0))) _ 4 ?_ ?_
    · intro f
      unfold f_X0_learn_2
      rw [e4, if_pos (nI_le (Nat.le_refl 4) (by decide))]
      have z := l22 N 0 (by omega) (by omega)
      unfold St at z
      rw [blt_0] at z
      exact z
    · intro f i hi A hA
      unfold f_X0_learn_2
      rw [hA, e4, if_neg (nI_ge hi (by omega))]
      simp (disch := omega) only [↓reduceIte, ↓BRd (Rf_blt hR) ho, ok_d ho, inbT, ix_nI, lt, nI_1]
      rw [show (0 : Int32) = (fun _ => (0 : Int32)) i from rfl, blt_s0]
  unfold f_X0_learn
  rw [if_pos (ok_d ho).1, if_pos (ok_p hP).1]
  have z := l2 N 0 (by omega) (by omega)
  rw [blt_0] at z
  exact z
theorem p_hoa {N o S : Nat} {b : Bool} {σ : Mm} {H : Nat → Nat} (hN : 20 ≤ N) (hR : Rf b σ) (ho : o = 7 ∨ o = 13) (hH : ∀ t, t < 4 → gi σ (o + 4) t = nI (H t)) (hS : S < 16) : f_X0_hearersOfAny N o (nI S) σ = some (nI (un (fun t => if S.testBit t then H t else 0) 4), σ) := by
  unfold f_X0_hearersOfAny
  rw [if_pos (ok_d ho).1]
  refine loop (fun f t => f_X0_hearersOfAny_4 N f o (nI S) (nI (un (fun t => if S.testBit t then H t else 0) t)) (nI t) σ) _ 4 ?_ ?_ N 0 (by omega) (by omega)
  · intro f
    unfold f_X0_hearersOfAny_4
    rw [show (4 : Int32) = nI 4 from rfl, if_pos (nI_le (Nat.le_refl 4) (by decide))]
  · intro f t ht A hA
    unfold f_X0_hearersOfAny_4 f_X0_hearersOfAny_26
    rw [hA, show (4 : Int32) = nI 4 from rfl, if_neg (nI_ge ht (by omega)), bIe (p_holds (N := N) (by omega) (show t < 6 by omega)), if10, un]
    simp (disch := omega) only [↓reduceIte, ↓BRd hR ho, ok_d ho, inbT, ix_nI, hH t ht, lt, nI_1, nI_or]
    cases S.testBit t with
    | false => rw [if_neg (by decide), if_neg (by decide), Nat.or_zero]
    | true => rw [if_pos rfl, if_pos rfl]
theorem ne0_tb {x : Nat} (h : x ≠ 0) : ∃ i, x.testBit i = true := Classical.byContradiction (fun hc => h (Nat.eq_of_testBit_eq (fun i => by
  cases e : x.testBit i with
  | false => simp
  | true => exact absurd ⟨i, e⟩ hc)))
theorem tb_ne0 {x i : Nat} (h : x.testBit i = true) : x ≠ 0 := fun e => by rw [e, Nat.zero_testBit] at h; exact Bool.noConfusion h
theorem tb_lt {x k i : Nat} (h : x < 2 ^ k) (hi : x.testBit i = true) : i < k := Classical.byContradiction (fun hc => by
  rw [Nat.testBit_lt_two_pow (Nat.lt_of_lt_of_le h (Nat.pow_le_pow_right (by decide) (by omega)))] at hi
  exact Bool.noConfusion hi)
theorem te_eq {n p : Nat} {kd dl sg : Nat → Nat} {no : Bool} (hn : n ≤ 6) (hp : p < n) (hd : ∀ q, q < n → dl q < 4) (hs : sg p < 2 ^ n) : anb (sg p ||| (if isK 2 (kd p) then 0 else un (fun t => if (kn n kd dl no p).testBit t then he n kd dl no t else 0) 4)) (2 ^ p) = te n kd dl sg no p := by
  have hu : un (fun t => if (kn n kd dl no p).testBit t then he n kd dl no t else 0) 4 < 2 ^ n := un_lt 4 (fun t _ => by
    split
    · exact msk_lt _ n
    · exact Nat.two_pow_pos n)
  have ha : (sg p ||| (if isK 2 (kd p) then 0 else un (fun t => if (kn n kd dl no p).testBit t then he n kd dl no t else 0) 4)) < 2 ^ n := Nat.or_lt_two_pow hs (by
    split
    · exact Nat.two_pow_pos n
    · exact hu)
  refine eq_msk (Nat.lt_pow_two_of_testBit _ (fun i hi => ?_)) (fun q hq => ?_)
  · unfold anb
    rw [msk_tb, Nat.testBit_lt_two_pow (Nat.lt_of_lt_of_le ha (Nat.pow_le_pow_right (by decide) hi))]
    simp
  · rw [anb_tb (by omega), Nat.testBit_or, tb_pow]
    unfold teB
    by_cases c : p = q
    · simp [c]
    · have e1 : (!decide (p = q)) = true := by simp [c]
      have e2 : decide (p ≠ q) = true := by simp [c]
      rw [e1, e2, Bool.and_true, Bool.true_and]
      congr 1
      cases isK 2 (kd p) with
      | true => rw [if_pos rfl, Nat.zero_testBit]; rfl
      | false =>
        rw [if_neg (by decide), Bool.not_false, Bool.true_and, Bool.eq_iff_iff, un_tb]
        constructor
        · rintro ⟨t, ht, h⟩
          cases e : (kn n kd dl no p).testBit t with
          | false => rw [e, if_neg (by decide), Nat.zero_testBit] at h; exact Bool.noConfusion h
          | true =>
            rw [e, if_pos rfl, he, msk_tb, Bool.and_eq_true, Bool.and_eq_true] at h
            rw [Bool.and_eq_true]
            refine ⟨h.2.1, decide_eq_true (tb_ne0 (i := t) ?_)⟩
            rw [Nat.testBit_and, e, h.2.2]
            rfl
        · intro h
          rw [Bool.and_eq_true] at h
          obtain ⟨t, ht⟩ := ne0_tb (of_decide_eq_true h.2)
          rw [Nat.testBit_and, Bool.and_eq_true] at ht
          have hk : kn n kd dl no p < 2 ^ 4 := kn_lt hd hp
          refine ⟨t, tb_lt hk ht.1, ?_⟩
          rw [if_pos ht.1, he, msk_tb, decide_eq_true hq, h.1, ht.2]
          rfl
/-- a day settled -/
def setl (σ : Mm) (o n : Nat) (kd : Nat → Nat) (y : Dy) : Mm := blt (St σ o n (fun q => nI (kn n kd y.1 y.2.2.2 q)) (fun t => nI (he n kd y.1 y.2.2.2 t))) (o + 5) 0 n (fun q => nI (te n kd y.1 y.2.1 y.2.2.2 q))
theorem setl_out {σ : Mm} {o n a k : Nat} {kd : Nat → Nat} {y : Dy} (h : a < o + 3 ∨ o + 5 < a) : gi (setl σ o n kd y) a k = gi σ a k := by
  unfold setl
  rw [blt_out (by omega), St_out (by omega) (by omega)]
theorem setl_YX {σ : Mm} {o n : Nat} {kd : Nat → Nat} {y : Dy} (h1 : gi σ o 5 = nI n) (h2 : gi σ o 7 = (if y.2.2.2 then 1 else 0)) (h3 : ∀ p, p < n → gi σ (o + 1) p = nI (y.1 p) ∧ gi σ (o + 2) p = nI (y.2.1 p)) : YX (setl σ o n kd y) o n kd y := by
  refine ⟨by rw [setl_out (by omega)]; exact h1, by rw [setl_out (by omega)]; exact h2, fun p hp => by rw [setl_out (by omega), setl_out (by omega)]; exact h3 p hp, fun p hp => ⟨?_, ?_⟩, fun t ht => ?_⟩
  · unfold setl
    rw [blt_out (by omega), St_kn hp]
  · unfold setl
    rw [gi_blt, if_pos (by omega), Nat.sub_zero]
  · unfold setl
    rw [blt_out (by omega), St_he ht]
theorem p_settle {N o P n : Nat} {b : Bool} {σ : Mm} {kd : Nat → Nat} {y : Dy} (hN : 20 ≤ N) (hR : Rf b σ) (ho : o = 7 ∨ o = 13) (hM : PM σ P n kd) (hno : gi σ o 7 = (if y.2.2.2 then 1 else 0)) (hd : ∀ q, q < n → gi σ (o + 1) q = nI (y.1 q) ∧ y.1 q < 4) (hs : ∀ q, q < n → gi σ (o + 2) q = nI (y.2.1 q) ∧ y.2.1 q < 2 ^ n) : f_X0_settle N o P σ = some (setl σ o n kd y) := by
  have hP := hM.1
  have hn := hM.2.1
  have h64 := pow6 hn
  have hdd : ∀ q, q < n → y.1 q < 4 := fun q hq => (hd q hq).2
  unfold f_X0_settle
  rw [if_pos (ok_d ho).1, if_pos (ok_p hP).1, bVe (p_learn hN hR ho hM hno hd)]
  have z := loop (fun f i => f_X0_settle_7 N f o P (nI i) (blt (St σ o n (fun q => nI (kn n kd y.1 y.2.2.2 q)) (fun t => nI (he n kd y.1 y.2.2.2 t))) (o + 5) 0 i (fun q => nI (te n kd y.1 y.2.1 y.2.2.2 q)))) (some (setl σ o n kd y)) n ?_ ?_ N 0 (by omega) (by omega)
  · rw [blt_0] at z
    exact z
  · intro f
    unfold f_X0_settle_7
    rw [blt_out (by omega), St_out (by omega) (by omega), hM.2.2.1, if_pos (nI_le (Nat.le_refl n) (by omega))]
    rfl
  · intro f i hi A hA
    have hPo : ∀ {F}, PM (blt (St σ o n (fun q => nI (kn n kd y.1 y.2.2.2 q)) (fun t => nI (he n kd y.1 y.2.2.2 t))) (o + 5) 0 i F) P n kd := fun {F} => PM_congr (fun a k q1 q2 => by rw [blt_out (by omega), St_out (by omega) (by omega)]) hM
    generalize hU : blt (St σ o n (fun q => nI (kn n kd y.1 y.2.2.2 q)) (fun t => nI (he n kd y.1 y.2.2.2 t))) (o + 5) 0 i (fun q => nI (te n kd y.1 y.2.1 y.2.2.2 q)) = U
    have hRU : Rf b U := by rw [← hU]; exact hR
    have hPU : PM U P n kd := by rw [← hU]; exact hPo
    have g2 : gi U (o + 2) i = nI (y.2.1 i) := by rw [← hU, blt_out (by omega), St_out (by omega) (by omega)]; exact (hs i hi).1
    have g3 : gi U (o + 3) i = nI (kn n kd y.1 y.2.2.2 i) := by rw [← hU, blt_out (by omega), St_kn hi]
    have g4 : ∀ t, t < 4 → gi U (o + 4) t = nI (he n kd y.1 y.2.2.2 t) := fun t ht => by rw [← hU, blt_out (by omega), St_he ht]
    have hk : kn n kd y.1 y.2.2.2 i < 16 := kn_lt hdd hi
    have hte := te_eq (kd := kd) (no := y.2.2.2) hn hi hdd (hs i hi).2
    have fin : ∀ v : Nat, v < 64 → anb v (2 ^ i) = te n kd y.1 y.2.1 y.2.2.2 i → f_X0_settle_44 N (f_X0_settle_7 N f) o P (nI i) (nI v) U = A := by
      intro v hv he
      unfold f_X0_settle_44
      have : 2 ^ i < 64 := by
        have := Nat.pow_lt_pow_right (a := 2) (by decide) (show i < 6 by omega)
        omega
      simp (disch := omega) only [↓reduceIte, ↓BRd hRU ho, ok_d ho, inbT, ix_nI, lt, nI_1, shl1]
      rw [andnot6 _ hv _ this, he, ← hU, show nI (te n kd y.1 y.2.1 y.2.2.2 i) = (fun q => nI (te n kd y.1 y.2.1 y.2.2.2 q)) i from rfl, blt_s0, hA]
    unfold f_X0_settle_7
    rw [hPU.2.2.1, if_neg (nI_ge hi (by omega))]
    simp (disch := omega) only [↓reduceIte, ↓BRd hRU ho, ok_d ho, inbT, ix_nI, lt, g2]
    rw [show (2 : Int32) = nI 2 from rfl, bIe (p_is hRU hP hPU.2.2.2 hn hi (by decide)), if10]
    have hs2 := (hs i hi).2
    cases hm : isK 2 (kd i) with
    | true =>
      rw [hm, if_pos rfl, Nat.or_zero] at hte
      rw [if_pos rfl]
      exact fin _ (by omega) hte
    | false =>
      rw [hm, if_neg (by decide)] at hte
      rw [if_neg (by decide)]
      simp (disch := omega) only [↓reduceIte, ↓BRd hRU ho, ok_d ho, inbT, ix_nI, g3]
      rw [bIe (p_hoa hN hRU ho g4 hk)]
      simp only [lt, nI_or]
      have hu : un (fun t => if (kn n kd y.1 y.2.2.2 i).testBit t then he n kd y.1 y.2.2.2 t else 0) 4 < 2 ^ 6 := un_lt 4 (fun t _ => by
        split
        · exact msk_lt6 _ hn
        · decide)
      exact fin _ (Nat.or_lt_two_pow (n := 6) (by omega) hu) hte
