/-! ===== PURE: houses that have one in common ===== -/
theorem RC_sym {h : Nat → Nat} {n x y : Nat} (hn : n ≤ 6) (hT : ∀ m, m < n → h m < 2 ^ n) (hs : ∀ p q, p < 6 → q < 6 → (h p).testBit q = (h q).testBit p) (hr : RC h n x y) : RC h n y x := by
  obtain ⟨k, hk⟩ := hr
  induction k generalizing y with
  | zero => rw [LV_zero hk]; exact RC_refl
  | succ k ih =>
    rcases stepM_tb.mp hk with q | ⟨z, hz, q1, q2, q3⟩
    · exact ih q
    · have hy : y < n := tb_lt (hT z hz) q3
      exact RC_front hn hy (by rw [hs y z (by omega) (by omega)]; exact q3) (ih q1)
def alS (h : Nat → Nat) (n p : Nat) : Nat := LV h n p 63 6
theorem alS_ok {h : Nat → Nat} {n : Nat} (hn : n ≤ 6) (hT : ∀ m, m < n → h m < 2 ^ n) (hs : ∀ p q, p < 6 → q < 6 → (h p).testBit q = (h q).testBit p) : okAl n (alS h n) := by
  refine ⟨fun p hp => ⟨LV_lt hT hp 6, LV_p⟩, fun p q hp hq hb => ?_⟩
  have hpq : RC h n p q := (RC_6 hT hn hp).mpr hb
  have hqp := RC_sym hn hT hs hpq
  apply Nat.eq_of_testBit_eq
  intro i
  rw [Bool.eq_iff_iff]
  unfold alS
  rw [← RC_6 hT hn hq, ← RC_6 hT hn hp]
  exact ⟨fun z => RC_trans hn hpq z, fun z => RC_trans hn hqp z⟩
/-- what stands while houses are joined: by rounds, by PERSONS, by pairs -/
def sI (h : Nat → Nat) (n k : Nat) (A : Nat → Nat) : Prop := (∀ p, p < n → ∀ x, (A p).testBit x = true → RC h n p x) ∧ (∀ p, p < n → ∀ x, (LV h n p 63 (k + 1)).testBit x = true → (A p).testBit x = true) ∧ ∀ p, p < n → A p < 2 ^ n
def sJ (h : Nat → Nat) (n k p0 : Nat) (A : Nat → Nat) : Prop := sI h n k A ∧ ∀ p, p < p0 → ∀ x, (LV h n p 63 (k + 2)).testBit x = true → (A p).testBit x = true
def sK (h : Nat → Nat) (n k p0 q0 : Nat) (A : Nat → Nat) : Prop := sJ h n k p0 A ∧ ∀ q, q < q0 → (LV h n p0 63 (k + 1)).testBit q = true → ∀ x, (h q).testBit x = true → (A p0).testBit x = true
def sU (A : Nat → Nat) (p q : Nat) : Nat → Nat := fun x => if x = p then A p ||| (if (A p).testBit q then A q else 0) else A x
theorem sU_ge {A : Nat → Nat} {p q y x : Nat} (h : (A y).testBit x = true) : (sU A p q y).testBit x = true := by
  unfold sU
  split
  · next e => rw [Nat.testBit_or, ← e, h]; rfl
  · exact h
theorem sI_0 {h : Nat → Nat} {n : Nat} (hn : n ≤ 6) (hT : ∀ m, m < n → h m < 2 ^ n) : sI h n 0 (fun p => h p ||| 2 ^ p) := by
  refine ⟨fun p hp x hx => ?_, fun p hp x hx => ?_, fun p hp => Nat.or_lt_two_pow (hT p hp) (Nat.pow_lt_pow_right (by decide) hp)⟩
  · have hx : (h p ||| 2 ^ p).testBit x = true := hx
    rw [Nat.testBit_or, Bool.or_eq_true, tb_pow] at hx
    rcases hx with q | q
    · exact RC_end hn RC_refl hp q
    · rw [← of_decide_eq_true q]
      exact RC_refl
  · show (h p ||| 2 ^ p).testBit x = true
    rw [Nat.testBit_or, Bool.or_eq_true, tb_pow]
    rcases stepM_tb.mp hx with q | ⟨z, hz, q1, q2, q3⟩
    · exact Or.inr (decide_eq_true (LV_zero q).symm)
    · rw [LV_zero q1] at q3
      exact Or.inl q3
theorem sK_step {h : Nat → Nat} {n k p q : Nat} {A : Nat → Nat} (hn : n ≤ 6) (hp : p < n) (hq : q < n) (hA : sK h n k p q A) : sK h n k p (q + 1) (sU A p q) := by
  obtain ⟨⟨⟨i1, i2, i3⟩, j⟩, kk⟩ := hA
  refine ⟨⟨⟨fun y hy x hx => ?_, fun y hy x hx => sU_ge (i2 y hy x hx), fun y hy => ?_⟩, fun y hy x hx => sU_ge (j y hy x hx)⟩, fun y hy hb x hx => ?_⟩
  · unfold sU at hx
    by_cases e : y = p
    · rw [if_pos e, Nat.testBit_or, Bool.or_eq_true] at hx
      rw [e]
      rcases hx with hx | hx
      · exact i1 p hp x hx
      · by_cases c : (A p).testBit q = true
        · rw [if_pos c] at hx
          exact RC_trans hn (i1 p hp q c) (i1 q hq x hx)
        · rw [if_neg c, Nat.zero_testBit] at hx
          exact Bool.noConfusion hx
    · rw [if_neg e] at hx
      exact i1 y hy x hx
  · unfold sU
    split
    · refine Nat.or_lt_two_pow (i3 p hp) ?_
      split
      · exact i3 q hq
      · exact Nat.two_pow_pos n
    · exact i3 y hy
  · by_cases e : y < q
    · exact sU_ge (kk y e hb x hx)
    · have e : y = q := by omega
      rw [e] at hb hx
      have c := i2 p hp q hb
      unfold sU
      rw [if_pos rfl, if_pos c, Nat.testBit_or, Bool.or_eq_true]
      refine Or.inr (i2 q hq x ?_)
      exact LV_le (show 1 ≤ k + 1 by omega) (stepM_tb.mpr (Or.inr ⟨q, hq, LV_p, Or.inl rfl, hx⟩))
theorem sK_end {h : Nat → Nat} {n k p : Nat} {A : Nat → Nat} (hp : p < n) (hA : sK h n k p n A) : sJ h n k (p + 1) A := by
  refine ⟨hA.1.1, fun y hy x hx => ?_⟩
  by_cases e : y < p
  · exact hA.1.2 y e x hx
  · have e : y = p := by omega
    rw [e] at hx ⊢
    rcases stepM_tb.mp hx with q | ⟨z, hz, q1, q2, q3⟩
    · exact hA.1.1.2.1 p hp x q
    · exact hA.2 z hz q1 x q3
theorem sJ_end {h : Nat → Nat} {n k : Nat} {A : Nat → Nat} (hA : sJ h n k n A) : sI h n (k + 1) A := ⟨hA.1.1, hA.2, hA.1.2.2⟩
theorem sJ_0 {h : Nat → Nat} {n k : Nat} {A : Nat → Nat} (hA : sI h n k A) : sJ h n k 0 A := ⟨hA, fun p hp => absurd hp (Nat.not_lt_zero p)⟩
theorem sK_0 {h : Nat → Nat} {n k p : Nat} {A : Nat → Nat} (hA : sJ h n k p A) : sK h n k p 0 A := ⟨hA, fun q hq => absurd hq (Nat.not_lt_zero q)⟩
theorem sI_al {h : Nat → Nat} {n k : Nat} {A : Nat → Nat} (hn : n ≤ 6) (hT : ∀ m, m < n → h m < 2 ^ n) (hk : n ≤ k) (hA : sI h n k A) : ∀ p, p < n → A p = alS h n p := by
  intro p hp
  apply Nat.eq_of_testBit_eq
  intro i
  rw [Bool.eq_iff_iff]
  unfold alS
  constructor
  · exact fun z => (RC_6 hT hn hp).mp (hA.1 p hp i z)
  · intro z
    refine hA.2.1 p hp i ?_
    rw [LV_stable hT hp (show n - 1 ≤ k + 1 by omega), ← LV_stable hT hp (show n - 1 ≤ 6 by omega)]
    exact z
/-- the cells of the joined ones -/
def rXJ (c n : Nat) (τ σ : Mm) (A : Nat → Nat) : Prop := σ.2 = τ.2 ∧ (∀ a k, a ≠ c → gi σ a k = gi τ a k) ∧ ∀ p, p < n → gi σ c p = nI (A p)
theorem rXJ_u {c n p q : Nat} {τ σ : Mm} {A : Nat → Nat} (h : rXJ c n τ σ A) : rXJ c n τ (si σ c p (nI (A p ||| (if (A p).testBit q then A q else 0)))) (sU A p q) := by
  refine ⟨h.1, fun a k z => by rw [gi_si, if_neg (by omega)]; exact h.2.1 a k z, fun x hx => ?_⟩
  unfold sU
  rw [gi_si]
  by_cases e : x = p
  · rw [if_pos ⟨rfl, e⟩, if_pos e]
  · rw [if_neg (by omega), if_neg e]
    exact h.2.2 x hx
theorem sU_no {A : Nat → Nat} {p q : Nat} (h : (A p).testBit q = false) : sU A p q = A := by
  funext x
  unfold sU
  rw [h, if_neg Bool.false_ne_true, Nat.or_zero]
  split
  · next e => rw [e]
  · rfl
section JX
variable {N P n : Nat} {b : Bool} {τ : Mm} {h : Nat → Nat}
theorem jx54 {k p : Nat} {v : Int32} {K34 : Nat → Int32 → Mm → Option Mm} {K44 : Nat → Int32 → Int32 → Mm → Option Mm} (hR : Rf b τ) (hP : P = 19 ∨ P = 27) (h8 : gi τ P 8 = nI n) (hn : n ≤ 6) (hp : p < n) : ∀ (f q : Nat) (σ : Mm) (A : Nat → Nat), q ≤ n → n - q < f → rXJ (P + 5) n τ σ A → sK h n k p q A → ∃ σ2 A2, rXJ (P + 5) n τ σ2 A2 ∧ sJ h n k (p + 1) A2 ∧ f_X2_joinHouses_54 N K34 K44 f P v (nI p) (nI q) σ = K44 P v (nI (p + 1)) σ2 := by
  intro f
  induction f with
  | zero => intro q σ A _ z; omega
  | succ f ih =>
    intro q σ A hq hf hX hK
    have hRs : Rf b σ := Rf_eq (by rw [hX.1]) hR
    have g8 : gi σ P 8 = nI n := (hX.2.1 _ _ (by omega)).trans h8
    unfold f_X2_joinHouses_54 f_X2_joinHouses_90
    rw [g8]
    by_cases e : q = n
    · rw [if_pos (nI_le (by omega) (by omega)), nI_1]
      rw [e] at hK
      exact ⟨σ, A, hX, sK_end hp hK, rfl⟩
    · have hq : q < n := by omega
      have h64 := pow6 hn
      have a1 := hK.1.1.2.2 p hp
      have gp := hX.2.2 p hp
      have gq := hX.2.2 q hq
      rw [if_neg (nI_ge hq (by omega))]
      simp (disch := omega) only [↓reduceIte, ↓BRp hRs hP, ok_p hP, inbT, ix_nI, gp]
      rw [bIe (p_holds (N := N) (by omega) (show q < 6 by omega)), if10, nI_1]
      have hst := sK_step hn hp hq hK
      cases c : (A p).testBit q with
      | false =>
        rw [sU_no c] at hst
        rw [if_neg Bool.false_ne_true]
        exact ih (q + 1) σ A hq (by omega) hX hst
      | true =>
        have hu := rXJ_u (p := p) (q := q) hX
        rw [c, if_pos rfl] at hu
        rw [if_pos rfl]
        simp (disch := omega) only [↓reduceIte, ↓BRp hRs hP, ok_p hP, inbT, ix_nI, gp, gq, nI_or, lt]
        exact ih (q + 1) _ _ hq (by omega) hu hst
theorem jx44 {k : Nat} {K34 : Nat → Int32 → Mm → Option Mm} (hN : 20 ≤ N) (hR : Rf b τ) (hP : P = 19 ∨ P = 27) (h8 : gi τ P 8 = nI n) (hn : n ≤ 6) : ∀ (f p : Nat) (σ : Mm) (A : Nat → Nat), p ≤ n → n - p < f → rXJ (P + 5) n τ σ A → sJ h n k p A → ∃ σ2 A2, rXJ (P + 5) n τ σ2 A2 ∧ sI h n (k + 1) A2 ∧ f_X2_joinHouses_44 N K34 f P (nI k) (nI p) σ = K34 P (nI (k + 1)) σ2 := by
  intro f
  induction f with
  | zero => intro p σ A _ z; omega
  | succ f ih =>
    intro p σ A hp hf hX hJ
    have g8 : gi σ P 8 = nI n := (hX.2.1 _ _ (by omega)).trans h8
    unfold f_X2_joinHouses_44
    rw [g8]
    by_cases e : p = n
    · rw [if_pos (nI_le (by omega) (by omega)), nI_1]
      rw [e] at hJ
      exact ⟨σ, A, hX, sJ_end hJ, rfl⟩
    · have hp : p < n := by omega
      rw [if_neg (nI_ge hp (by omega))]
      obtain ⟨σ2, A2, q1, q2, q3⟩ := jx54 (N := N) (v := nI k) (K34 := K34) (K44 := f_X2_joinHouses_44 N K34 f) hR hP h8 hn hp N 0 σ A (by omega) (by omega) hX (sK_0 hJ)
      obtain ⟨σ3, A3, r1, r2, r3⟩ := ih (p + 1) σ2 A2 hp (by omega) q1 q2
      exact ⟨σ3, A3, r1, r2, q3.trans r3⟩
theorem jx34 (hN : 20 ≤ N) (hR : Rf b τ) (hP : P = 19 ∨ P = 27) (h8 : gi τ P 8 = nI n) (hn : n ≤ 6) : ∀ (f k : Nat) (σ : Mm) (A : Nat → Nat), k ≤ n → n - k < f → rXJ (P + 5) n τ σ A → sI h n k A → ∃ σ2 A2, rXJ (P + 5) n τ σ2 A2 ∧ sI h n n A2 ∧ f_X2_joinHouses_34 N f P (nI k) σ = f_X2_joinHouses_115 N N P 0 (si σ2 P 7 0) := by
  intro f
  induction f with
  | zero => intro k σ A _ z; omega
  | succ f ih =>
    intro k σ A hk hf hX hI
    have g8 : gi σ P 8 = nI n := (hX.2.1 _ _ (by omega)).trans h8
    unfold f_X2_joinHouses_34
    rw [g8]
    by_cases e : k = n
    · rw [if_pos (nI_le (by omega) (by omega))]
      rw [e] at hI
      exact ⟨σ, A, hX, hI, rfl⟩
    · have hk : k < n := by omega
      rw [if_neg (nI_ge hk (by omega))]
      obtain ⟨σ2, A2, q1, q2, q3⟩ := jx44 (N := N) (K34 := f_X2_joinHouses_34 N f) hN hR hP h8 hn N 0 σ A (by omega) (by omega) hX (sJ_0 hI)
      obtain ⟨σ3, A3, r1, r2, r3⟩ := ih (k + 1) σ2 A2 hk (by omega) q1 q2
      exact ⟨σ3, A3, r1, r2, q3.trans r3⟩
end JX
theorem p_leastX {N p : Nat} {σ : Mm} {al : Nat → Nat} (hN : 20 ≤ N) (hp : p < 6) (ha : al p < 64) (hb : (al p).testBit p = true) : f_X2_leastOf N (nI (al p)) (nI p) σ = some (nI (ldr al p), σ) := by
  obtain ⟨a1, a2, a3⟩ := ldr_spec hb
  unfold f_X2_leastOf
  refine loop (fun f i => f_X2_leastOf_2 N f (nI (al p)) (nI p) (nI i) σ) _ (ldr al p) ?_ ?_ N 0 (by omega) (by omega)
  · intro f
    unfold f_X2_leastOf_2
    by_cases c : ldr al p = p
    · rw [if_pos (nI_le (by omega) (by omega)), c]
    · rw [if_neg (nI_ge (by omega) (by omega)), bIe (p_holds (N := N) ha (show ldr al p < 6 by omega)), if10, if_pos a1]
  · intro f i hi A hA
    unfold f_X2_leastOf_2
    rw [hA, if_neg (nI_ge (by omega) (by omega)), bIe (p_holds (N := N) ha (show i < 6 by omega)), if10, a2 i hi, if_neg Bool.false_ne_true, nI_1]
theorem p_grps {N P n : Nat} {b : Bool} {τ : Mm} {al : Nat → Nat} (hN : 20 ≤ N) (hR : Rf b τ) (hP : P = 19 ∨ P = 27) (h8 : gi τ P 8 = nI n) (hn : n ≤ 6) (hal : okAl n al) (h5 : ∀ p, p < n → gi τ (P + 5) p = nI (al p)) : ∀ (f p : Nat) (σ : Mm), p ≤ n → n - p < f → σ.2 = τ.2 → (∀ a k, a ≠ P + 6 → a ≠ P + 7 → ¬ (a = P ∧ k = 7) → gi σ a k = gi τ a k) → gi σ P 7 = nI (grps al p) → (∀ q, q < p → gi σ (P + 6) q = nI (ldr al q) ∧ gi σ (P + 7) q = nI (grp al q)) → ∃ ρ, f_X2_joinHouses_115 N f P (nI p) σ = some ρ ∧ ρ.2 = τ.2 ∧ (∀ a k, a ≠ P + 6 → a ≠ P + 7 → ¬ (a = P ∧ k = 7) → gi ρ a k = gi τ a k) ∧ gi ρ P 7 = nI (grps al n) ∧ ∀ q, q < n → gi ρ (P + 6) q = nI (ldr al q) ∧ gi ρ (P + 7) q = nI (grp al q) := by
  intro f
  induction f with
  | zero => intro p σ _ z; omega
  | succ f ih =>
    intro p σ hp hf e2 ef e7 eq
    have hRs : Rf b σ := Rf_eq (by rw [e2]) hR
    have g8 : gi σ P 8 = nI n := (ef _ _ (by omega) (by omega) (by omega)).trans h8
    unfold f_X2_joinHouses_115 f_X2_joinHouses_179
    rw [g8]
    by_cases e : p = n
    · rw [if_pos (nI_le (by omega) (by omega))]
      rw [e] at e7 eq
      exact ⟨σ, rfl, e2, ef, e7, eq⟩
    · have hp : p < n := by omega
      have h64 := pow6 hn
      obtain ⟨l1, l2, l3⟩ := ldr_spec (hal.1 p hp).2
      have ha := (hal.1 p hp).1
      have g5 : gi σ (P + 5) p = nI (al p) := (ef _ _ (by omega) (by omega) (by omega)).trans (h5 p hp)
      let σ1 : Mm := si σ (P + 6) p (nI (ldr al p))
      have hR1 : Rf b σ1 := hRs
      have k6 : gi σ1 (P + 6) p = nI (ldr al p) := by
        show gi (si σ (P + 6) p (nI (ldr al p))) (P + 6) p = _
        rw [gi_si, if_pos ⟨rfl, rfl⟩]
      have f1 : ∀ a k, ¬ (a = P + 6 ∧ k = p) → gi σ1 a k = gi σ a k := fun a k z => by
        show gi (si σ (P + 6) p (nI (ldr al p))) a k = _
        rw [gi_si, if_neg z]
      have k7 : gi σ1 P 7 = nI (grps al p) := (f1 _ _ (by omega)).trans e7
      have hs1 : si σ (P + 6) p (nI (ldr al p)) = σ1 := rfl
      rw [if_neg (nI_ge hp (by omega))]
      simp (disch := omega) only [↓reduceIte, ↓BRp hRs hP, ok_p hP, inbT, ix_nI, g5]
      rw [bIe (p_leastX (N := N) hN (by omega) (by omega) (hal.1 p hp).2)]
      simp (disch := omega) only [lt, hs1, ↓reduceIte, ↓BRp hR1 hP, ok_p hP, inbT, ix_nI, k6, k7, nI_1]
      by_cases c : ldr al p = p
      · have hl := (ldB_iff hal hp).mpr c
        rw [if_pos (by rw [c])]
        refine ih (p + 1) _ hp (by omega) e2 (fun a k z1 z2 z3 => ?_) ?_ (fun q hq => ⟨?_, ?_⟩)
        · rw [gi_si, if_neg (by omega), gi_si, if_neg (by omega), f1 _ _ (by omega)]
          exact ef a k z1 z2 z3
        · rw [gi_si, if_neg (by omega), gi_si, if_pos ⟨rfl, rfl⟩, grps_s, hl, if_pos rfl]
        · rw [gi_si, if_neg (by omega), gi_si, if_neg (by omega)]
          by_cases c2 : q = p
          · rw [c2]; exact k6
          · rw [f1 _ _ (by omega)]; exact (eq q (by omega)).1
        · rw [gi_si]
          by_cases c2 : q = p
          · rw [if_pos ⟨rfl, c2⟩, c2]
            unfold grp
            rw [c]
          · rw [if_neg (by omega), gi_si, if_neg (by omega), f1 _ _ (by omega)]
            exact (eq q (by omega)).2
      · have hl : ldB al p = false := by
          cases z : ldB al p with
          | false => rfl
          | true => exact absurd ((ldB_iff hal hp).mp z) c
        have hlt : ldr al p < p := by omega
        have gk : gi σ1 (P + 7) (ldr al p) = nI (grp al p) := by
          rw [f1 _ _ (by omega), (eq _ hlt).2]
          unfold grp
          rw [ldr_idem hal hp]
        rw [if_neg (fun z => c ((nI_eq (by omega) (by omega)).mp z))]
        simp (disch := omega) only [↓reduceIte, inbT, ix_nI, gk]
        refine ih (p + 1) _ hp (by omega) e2 (fun a k z1 z2 z3 => ?_) ?_ (fun q hq => ⟨?_, ?_⟩)
        · rw [gi_si, if_neg (by omega), f1 _ _ (by omega)]
          exact ef a k z1 z2 z3
        · rw [gi_si, if_neg (by omega), k7, grps_s, hl, if_neg Bool.false_ne_true, Nat.add_zero]
        · rw [gi_si, if_neg (by omega)]
          by_cases c2 : q = p
          · rw [c2]; exact k6
          · rw [f1 _ _ (by omega)]; exact (eq q (by omega)).1
        · rw [gi_si]
          by_cases c2 : q = p
          · rw [if_pos ⟨rfl, c2⟩, c2]
          · rw [if_neg (by omega), f1 _ _ (by omega)]
            exact (eq q (by omega)).2
theorem p_join {N P : Nat} {b : Bool} {τ : Mm} {s : rS} (hN : 100 ≤ N) (hR : Rf b τ) (hP : P = 19 ∨ P = 27) (hok : okRS s) (hC : rCX τ P s) : ∃ ρ, f_X2_joinHouses N P τ = some ρ ∧ rFX P τ ρ ∧ PX ρ P s.1 s.2.1 (alS s.2.2.1 s.1) s.2.2.2 := by
  obtain ⟨h6, hk, hh, hs⟩ := hok
  obtain ⟨c1, c2, c3, c4⟩ := hC
  have hT : ∀ m, m < s.1 → s.2.2.1 m < 2 ^ s.1 := fun m hm => (hh m (by omega)).1
  have hal := alS_ok h6 hT hs
  let σ1 : Mm := blt τ (P + 5) 0 s.1 (fun p => nI (s.2.2.1 p ||| 2 ^ p))
  have X1 : rXJ (P + 5) s.1 τ σ1 (fun p => s.2.2.1 p ||| 2 ^ p) := ⟨rfl, fun a k z => blt_out z, fun p hp => blt_in hp⟩
  obtain ⟨σ2, A, x1, x2, x3⟩ := jx34 (N := N) (by omega) hR hP c1 h6 N 0 σ1 _ (by omega) (by omega) X1 (sI_0 h6 hT)
  have hA := sI_al h6 hT (Nat.le_refl _) x2
  let σ3 : Mm := si σ2 P 7 0
  have f3 : ∀ a k, a ≠ P + 5 → ¬ (a = P ∧ k = 7) → gi σ3 a k = gi τ a k := fun a k z1 z2 => by
    show gi (si σ2 P 7 0) a k = _
    rw [gi_si, if_neg z2]
    exact x1.2.1 a k z1
  have hR3 : Rf b σ3 := Rf_eq (show σ2.2.2 = τ.2.2 by rw [x1.1]) hR
  obtain ⟨ρ, r1, r2, r3, r4, r5⟩ := p_grps (N := N) (τ := σ3) (al := alS s.2.2.1 s.1) (by omega) hR3 hP ((f3 _ _ (by omega) (by omega)).trans c1) h6 hal (fun p hp => by
    show gi (si σ2 P 7 0) (P + 5) p = _
    rw [gi_si, if_neg (by omega), x1.2.2 p hp, hA p hp]) N 0 σ3 (by omega) (by omega) rfl (fun _ _ _ _ _ => rfl) (by
    show gi (si σ2 P 7 0) P 7 = _
    rw [gi_si, if_pos ⟨rfl, rfl⟩]
    rfl) (fun q hq => absurd hq (Nat.not_lt_zero q))
  refine ⟨ρ, ?_, ⟨r2.trans x1.1, fun a k z => by rw [r3 _ _ (by omega) (by omega) (by omega), f3 _ _ (by omega) (by omega)]⟩, ?_⟩
  · unfold f_X2_joinHouses
    rw [if_pos (ok_p hP).1]
    refine (loop (fun f i => f_X2_joinHouses_2 N f P (nI i) (blt τ (P + 5) 0 i (fun p => nI (s.2.2.1 p ||| 2 ^ p)))) (some ρ) s.1 ?_ ?_ N 0 (by omega) (by omega)) ▸ ?_
    · intro f
      unfold f_X2_joinHouses_2
      rw [blt_out (by omega), c1, if_pos (nI_le (Nat.le_refl _) (by omega))]
      exact x3.trans r1
    · intro f i hi B hB
      unfold f_X2_joinHouses_2
      have hRi : Rf b (blt τ (P + 5) 0 i (fun p => nI (s.2.2.1 p ||| 2 ^ p))) := hR
      have g3 : gi (blt τ (P + 5) 0 i (fun p => nI (s.2.2.1 p ||| 2 ^ p))) (P + 3) i = nI (s.2.2.1 i) := by rw [blt_out (by omega)]; exact (c4 i (by omega)).1
      rw [hB, blt_out (by omega), c1, if_neg (nI_ge hi (by omega))]
      simp (disch := omega) only [↓reduceIte, ↓BRp hRi hP, ok_p hP, inbT, ix_nI, g3, shl1, nI_or, lt, nI_1]
      rw [blt_s0 (g := fun p => nI (s.2.2.1 p ||| 2 ^ p))]
    · rw [blt_0]
      rfl
  · refine ⟨by rw [r3 _ _ (by omega) (by omega) (by omega), f3 _ _ (by omega) (by omega)]; exact c1, r4, fun k hk => by rw [r3 _ _ (by omega) (by omega) (by omega), f3 _ _ (by omega) (by omega)]; exact c3 k hk, fun p hp => ⟨by rw [r3 _ _ (by omega) (by omega) (by omega), f3 _ _ (by omega) (by omega)]; exact c2 p hp, by rw [r3 _ _ (by omega) (by omega) (by omega), f3 _ _ (by omega) (by omega)]; exact (c4 p (by omega)).2, ?_, (r5 p hp).1, (r5 p hp).2⟩⟩
    rw [r3 _ _ (by omega) (by omega) (by omega)]
    show gi (si σ2 P 7 0) (P + 5) p = _
    rw [gi_si, if_neg (by omega), x1.2.2 p hp, hA p hp]
