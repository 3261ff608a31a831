/-! ===== PURE: signs, the reference ===== -/
/-- the reference's cells behind layDeals: all tells by all deals lie at 87 -/
def LD (ρ : Mm) (n : Nat) (al : Nat → Nat) (T : Nat → Nat → Nat) : Prop := gi ρ 66 10 = nI n ∧ (∀ p, p < n → gi ρ 74 p = nI (al p)) ∧ ∀ d, d < 4 ^ grps al n → ∀ x, x < n → gi ρ 87 (6 * d + x) = nI (T d x)
def SI (ρ τ : Mm) : Prop := τ.2 = ρ.2 ∧ ∀ a k, a ≠ 80 → a ≠ 88 → gi τ a k = gi ρ a k
theorem SI_trans {ρ τ υ : Mm} (h : SI ρ τ) (e : υ.2 = τ.2) (f : ∀ a k, a ≠ 80 → a ≠ 88 → gi υ a k = gi τ a k) : SI ρ υ := ⟨e.trans h.1, fun a k z1 z2 => (f a k z1 z2).trans (h.2 a k z1 z2)⟩
theorem LD_SI {ρ τ : Mm} {n : Nat} {al : Nat → Nat} {T : Nat → Nat → Nat} (h : LD ρ n al T) (s : SI ρ τ) : LD τ n al T := ⟨(s.2 _ _ (by omega) (by omega)).trans h.1, fun p hp => (s.2 _ _ (by omega) (by omega)).trans (h.2.1 p hp), fun d hd x hx => (s.2 _ _ (by omega) (by omega)).trans (h.2.2 d hd x hx)⟩
theorem p_layD {N n : Nat} {b : Bool} {σ : Mm} {kd al : Nat → Nat} {y : Dy} (hN : 5000 ≤ N) (hR : Rf b σ) (hal : okAl n al) (ha : ∀ p, p < n → gi σ 74 p = nI (al p)) (hM : MS σ 78 n kd y) : ∃ ρ, f_X6_layDeals N 66 σ = some ρ ∧ ρ.2 = σ.2 ∧ (∀ a k, a ≠ 79 → a ≠ 80 → a ≠ 87 → gi ρ a k = gi σ a k) ∧ LD ρ n al (fun d => te n kd (dlOf al d) y.2.1 y.2.2.2) := by
  have hn := hM.2.2.2.1
  have hG := grps_le al n
  have h4 := pow4_le (show grps al n ≤ 6 by omega)
  have main : ∀ (f d : Nat) (τ : Mm), d ≤ 4 ^ grps al n → 4 ^ grps al n - d < f → τ.2 = σ.2 → (∀ a k, a ≠ 79 → a ≠ 80 → a ≠ 87 → gi τ a k = gi σ a k) → (∀ e, e < d → ∀ x, x < n → gi τ 87 (6 * e + x) = nI (te n kd (dlOf al e) y.2.1 y.2.2.2 x)) → ∃ ρ, f_X6_layDeals_2 N f 66 (nI d) τ = some ρ ∧ ρ.2 = σ.2 ∧ (∀ a k, a ≠ 79 → a ≠ 80 → a ≠ 87 → gi ρ a k = gi σ a k) ∧ LD ρ n al (fun d => te n kd (dlOf al d) y.2.1 y.2.2.2) := by
    intro f
    induction f with
    | zero => intro d τ _ z; omega
    | succ f ih =>
      intro d τ hd hf e2 ef e87
      have hRt : Rf b τ := Rf_eq (by rw [e2]) hR
      have t10 : gi τ 66 10 = nI n := (ef _ _ (by omega) (by omega) (by omega)).trans hM.1
      have t74 : ∀ p, p < n → gi τ 74 p = nI (al p) := fun p hp => (ef _ _ (by omega) (by omega) (by omega)).trans (ha p hp)
      unfold f_X6_layDeals_2
      rw [bIe (p_many (by omega) hRt t10 hn (fun p hp => ⟨t74 p hp, (hal.1 p hp).1⟩))]
      by_cases e : d = 4 ^ grps al n
      · subst e
        exact ⟨τ, by rw [if_pos (nI_le (Nat.le_refl _) (by omega))], e2, ef, t10, t74, e87⟩
      · have hd2 : d < 4 ^ grps al n := by omega
        have hMt : MS τ 78 n kd y := MS_congr (σ := σ) (fun a k z => ef _ _ (by omega) (by omega) (by omega)) hM
        have hM2 := dlt_MS (al := al) (d := d) hMt
        let T : Nat → Nat := te n kd (dlOf al d) y.2.1 y.2.2.2
        let S : Mm := blt (dlt τ n al d) 80 0 n (fun m => nI (T m))
        have hRS : Rf b S := hRt
        have s80 : ∀ x, x < n → gi S 80 x = nI (T x) := fun x hx => blt_in hx
        have fS : ∀ a k, a ≠ 79 → a ≠ 80 → gi S a k = gi τ a k := fun a k z1 z2 => by
          show gi (blt (dlt τ n al d) 80 0 n _) a k = _
          rw [blt_out z2, dlt_out z1]
        let U : Mm := blt S 87 (6 * d) n (gi S 80)
        obtain ⟨ρ, r1, r2⟩ := ih (d + 1) U (by omega) (by omega) e2 (fun a k z1 z2 z3 => by
          show gi (blt S 87 (6 * d) n (gi S 80)) a k = _
          rw [blt_out z3, fS a k z1 z2]
          exact ef a k z1 z2 z3) (fun c hc x hx => by
          show gi (blt S 87 (6 * d) n (gi S 80)) 87 (6 * c + x) = _
          rw [gi_blt]
          by_cases cc : c = d
          · subst cc
            rw [if_pos (by omega), show 6 * c + x - 6 * c = x by omega]
            exact s80 x hx
          · rw [if_neg (by omega), fS _ _ (by omega) (by omega)]
            exact e87 c (by omega) x hx)
        refine ⟨ρ, ?_, r2⟩
        rw [if_neg (nI_ge hd2 (by omega)), bVe (p_deals (by omega) hRt t10 hn hal t74 (by omega))]
        simp (disch := omega) only [↓reduceIte, ↓BR (Rf_dlt hRt), OKm]
        rw [bVe (show f_X6_layTells N 66 79 (dlt τ n al d) = some S from pm_layTells (by omega) (Rf_dlt hRt) hM2)]
        have z := loop (fun k i => f_X6_layDeals_25 N (f_X6_layDeals_2 N f) k 66 (nI d) (nI i) (blt S 87 (6 * d) i (gi S 80))) (some ρ) n ?_ ?_ N 0 (by omega) (by omega)
        · rw [blt_0] at z
          exact z
        · intro k
          unfold f_X6_layDeals_25
          rw [blt_out (by omega), fS _ _ (by omega) (by omega), t10, if_pos (nI_le (Nat.le_refl n) (by omega)), nI_1]
          exact r1
        · intro k i hi A hA
          unfold f_X6_layDeals_25
          have g80 : gi (blt S 87 (6 * d) i (gi S 80)) 80 i = gi S 80 i := blt_out (by omega)
          rw [hA, blt_out (by omega), fS _ _ (by omega) (by omega), t10, if_neg (nI_ge hi (by omega)), show (6 : Int32) = nI 6 from rfl]
          simp (disch := omega) only [↓reduceIte, ↓BR (Rf_blt hRS), OKm, inbT, ix_nI, pk_mul, nI_add, lt, nI_1, g80]
          rw [blt_s]
  unfold f_X6_layDeals
  rw [if_pos OKx.2.1]
  exact main N 0 σ (Nat.zero_le _) (by omega) rfl (fun _ _ _ _ _ => rfl) (fun e he => by omega)
theorem p_noS {N : Nat} {b : Bool} {τ : Mm} (hN : 20 ≤ N) (hR : Rf b τ) : f_X6_noSigns N 66 τ = some (blt τ 88 0 6 (fun _ => 0)) := by
  unfold f_X6_noSigns
  rw [if_pos OKx.2.1]
  have z := loop (fun f i => f_X6_noSigns_2 N f 66 (nI i) (blt τ 88 0 i (fun _ => 0))) (some (blt τ 88 0 6 (fun _ => 0))) 6 ?_ ?_ N 0 (by omega) (by omega)
  · rw [blt_0] at z
    exact z
  · intro f
    unfold f_X6_noSigns_2
    rw [show (6 : Int32) = nI 6 from rfl, if_pos (nI_le (Nat.le_refl 6) (by decide))]
  · intro f i hi A hA
    unfold f_X6_noSigns_2
    rw [hA, show (6 : Int32) = nI 6 from rfl, if_neg (nI_ge hi (by omega))]
    simp (disch := omega) only [↓reduceIte, ↓BR (Rf_blt hR), OKm, inbT, ix_nI, lt, nI_1]
    rw [show (0 : Int32) = (fun _ => (0 : Int32)) i from rfl, blt_s0]
theorem p_layS {N n d : Nat} {b : Bool} {τ : Mm} {T S : Nat → Nat} (hN : 20 ≤ N) (hR : Rf b τ) (hs : gi τ 66 10 = nI n) (hn : n ≤ 6) (hd : d < 4096) (h87 : ∀ x, x < n → gi τ 87 (6 * d + x) = nI (T x)) (h88 : ∀ x, x < n → gi τ 88 x = nI (S x)) : f_X6_laySets N 66 (nI d) τ = some (blt τ 80 0 n (fun x => nI (T x ||| S x))) := by
  unfold f_X6_laySets
  rw [if_pos OKx.2.1]
  have z := loop (fun f i => f_X6_laySets_2 N f 66 (nI d) (nI i) (blt τ 80 0 i (fun x => nI (T x ||| S x)))) (some (blt τ 80 0 n (fun x => nI (T x ||| S x)))) n ?_ ?_ N 0 (by omega) (by omega)
  · rw [blt_0] at z
    exact z
  · intro f
    unfold f_X6_laySets_2
    rw [blt_out (by omega), hs, if_pos (nI_le (Nat.le_refl n) (by omega))]
  · intro f i hi A hA
    unfold f_X6_laySets_2
    have g87 : gi (blt τ 80 0 i (fun x => nI (T x ||| S x))) 87 (6 * d + i) = nI (T i) := (blt_out (by omega)).trans (h87 i hi)
    have g88 : gi (blt τ 80 0 i (fun x => nI (T x ||| S x))) 88 i = nI (S i) := (blt_out (by omega)).trans (h88 i hi)
    rw [hA, blt_out (by omega), hs, if_neg (nI_ge hi (by omega)), show (6 : Int32) = nI 6 from rfl]
    simp (disch := omega) only [↓reduceIte, ↓BR (Rf_blt hR), OKm, inbT, ix_nI, pk_mul, nI_add, lt, nI_1, g87, g88, nI_or]
    rw [show nI (T i ||| S i) = (fun x => nI (T x ||| S x)) i from rfl, blt_s0]
/-- an order goes by every deal, with more signs -/
def GA (T : Nat → Nat → Nat) (S : Nat → Nat) (n p D q : Nat) : Bool := allb (fun d => (LV (fun x => T d x ||| S x) n p 63 6).testBit q) D
theorem p_goesA {N n p q : Nat} {b : Bool} {ρ τ : Mm} {al : Nat → Nat} {T : Nat → Nat → Nat} {S : Nat → Nat} (hN : 5000 ≤ N) (hR : Rf b ρ) (hn : n ≤ 6) (hal : okAl n al) (hL : LD ρ n al T) (hT : ∀ d x, T d x < 2 ^ n) (hS : ∀ x, x < n → gi τ 88 x = nI (S x) ∧ S x < 2 ^ n) (hp : p < n) (hq : q < n) (h : SI ρ τ) : ∃ υ, f_X6_goesAlways N 66 (nI p) (nI q) τ = some (if GA T S n p (4 ^ grps al n) q then 1 else 0, υ) ∧ SI ρ υ ∧ ∀ x, gi υ 88 x = gi τ 88 x := by
  have h64 := pow6 hn
  have hG := grps_le al n
  have h4 := pow4_le (show grps al n ≤ 6 by omega)
  have main : ∀ (f d : Nat) (τ : Mm), d ≤ 4 ^ grps al n → 4 ^ grps al n - d < f → SI ρ τ → (∀ x, x < n → gi τ 88 x = nI (S x) ∧ S x < 2 ^ n) → allb (fun d => (LV (fun x => T d x ||| S x) n p 63 6).testBit q) d = true → ∃ υ, f_X6_goesAlways_2 N f 66 (nI p) (nI q) (nI d) τ = some (if GA T S n p (4 ^ grps al n) q then 1 else 0, υ) ∧ SI ρ υ ∧ ∀ x, gi υ 88 x = gi τ 88 x := by
    intro f
    induction f with
    | zero => intro d τ _ z; omega
    | succ f ih =>
      intro d τ hd hf hsi hS hI
      have hRt : Rf b τ := Rf_eq (by rw [hsi.1]) hR
      obtain ⟨l1, l2, l3⟩ := LD_SI hL hsi
      unfold f_X6_goesAlways_2
      rw [bIe (p_many (by omega) hRt l1 hn (fun p hp => ⟨l2 p hp, (hal.1 p hp).1⟩))]
      by_cases e : d = 4 ^ grps al n
      · subst e
        refine ⟨τ, ?_, hsi, fun _ => rfl⟩
        unfold GA
        rw [if_pos (nI_le (Nat.le_refl _) (by omega)), hI]
        rfl
      · have hd2 : d < 4 ^ grps al n := by omega
        let U : Nat → Nat := fun x => T d x ||| S x
        let τ2 : Mm := blt τ 80 0 n (fun x => nI (U x))
        have hU : ∀ m, m < n → U m < 2 ^ n := fun m hm => Nat.or_lt_two_pow (hT d m) (hS m hm).2
        have hGM : GM τ2 n U := ⟨(blt_out (by omega)).trans l1, fun m hm => blt_in hm, hn, hU⟩
        have hR2 : Rf b τ2 := hRt
        have hsi2 : SI ρ τ2 := SI_trans hsi rfl (fun a k z1 z2 => blt_out z1)
        have hLv : LV U n p 63 (n - 1) < 64 := Nat.lt_of_lt_of_le (LV_lt hU hp _) h64
        have st : LV U n p 63 6 = LV U n p 63 (n - 1) := LV_stable hU hp (show n - 1 ≤ 6 by omega)
        rw [if_neg (nI_ge hd2 (by omega)), bVe (show f_X6_laySets N 66 (nI d) τ = some τ2 from p_layS (by omega) hRt l1 hn (by omega) (l3 d hd2) (fun x hx => (hS x hx).1)), bIe (p_everyM (N := N) hGM.1 hn), bIe (p_reaches (by omega) hR2 hGM hp (by omega)), LV_all hn, bIe (p_has (N := N) hLv (show q < 6 by omega)), if10, ← st, nI_1]
        cases c : (LV U n p 63 6).testBit q with
        | false =>
          refine ⟨τ2, ?_, hsi2, fun x => blt_out (by omega)⟩
          unfold GA
          rw [if_neg Bool.false_ne_true, allb_f (i := d) c hd2]
          rfl
        | true =>
          obtain ⟨υ, u1, u2, u3⟩ := ih (d + 1) τ2 (by omega) (by omega) hsi2 (fun x hx => ⟨(blt_out (by omega)).trans (hS x hx).1, (hS x hx).2⟩) (by rw [allb, hI]; exact c)
          exact ⟨υ, by rw [if_pos rfl]; exact u1, u2, fun x => (u3 x).trans (blt_out (by omega))⟩
  unfold f_X6_goesAlways
  rw [if_pos OKx.2.1]
  exact main N 0 τ (Nat.zero_le _) (by omega) h hS rfl
/-- a pair as the reference numbers it -/
def cd : Option (Nat × Nat) → Int32
  | none => -9
  | some (a, b) => nI (6 * a + b)
def ap (o : Option (Nat × Nat)) (S : Nat → Nat) : Nat → Nat := match o with
  | none => S
  | some (a, b) => addS S a b
def okP (n : Nat) (o : Option (Nat × Nat)) : Prop := ∀ a b, o = some (a, b) → a < b ∧ b < n
theorem ap_lt {n : Nat} {o : Option (Nat × Nat)} {S : Nat → Nat} (ho : okP n o) (h : ∀ x, x < n → S x < 2 ^ n) : ∀ x, x < n → ap o S x < 2 ^ n := by
  intro x hx
  cases o with
  | none => exact h x hx
  | some w =>
    obtain ⟨a, b⟩ := w
    obtain ⟨h1, h2⟩ := ho a b rfl
    show addS S a b x < _
    unfold addS
    split
    · exact Nat.or_lt_two_pow (h x hx) (Nat.pow_lt_pow_right (by decide) h2)
    · split
      · exact Nat.or_lt_two_pow (h x hx) (Nat.pow_lt_pow_right (by decide) (by omega))
      · exact h x hx
theorem p_adds {N n : Nat} {b : Bool} {ρ τ : Mm} {o : Option (Nat × Nat)} {S : Nat → Nat} (hR : Rf b ρ) (hn : n ≤ 6) (ho : okP n o) (h : SI ρ τ) (hS : ∀ x, x < n → gi τ 88 x = nI (S x)) : ∃ υ, f_X6_adds N 66 (cd o) τ = some υ ∧ SI ρ υ ∧ ∀ x, x < n → gi υ 88 x = nI (ap o S x) := by
  have hRt : Rf b τ := Rf_eq (by rw [h.1]) hR
  cases o with
  | none =>
    refine ⟨τ, ?_, h, hS⟩
    unfold f_X6_adds
    rw [if_pos OKx.2.1]
    rfl
  | some w =>
    obtain ⟨a, c⟩ := w
    obtain ⟨h1, h2⟩ := ho a c rfl
    have e1 : (6 * a + c) / 6 = a := by omega
    have e2 : (6 * a + c) % 6 = c := by omega
    have g1 := hS a (by omega)
    have g2 : gi (si τ 88 a (nI (S a ||| 2 ^ c))) 88 c = nI (S c) := by rw [gi_si, if_neg (by omega)]; exact hS c h2
    refine ⟨si (si τ 88 a (nI (S a ||| 2 ^ c))) 88 c (nI (S c ||| 2 ^ a)), ?_, SI_trans h rfl (fun x k z1 z2 => by rw [gi_si, if_neg (by omega), gi_si, if_neg (by omega)]), fun x hx => ?_⟩
    · rw [show cd (some (a, c)) = nI (6 * a + c) from rfl]
      unfold f_X6_adds
      rw [if_pos OKx.2.1, if_neg (show ¬ nI (6 * a + c) = (-9 : Int32) from fun z => by
        have := congrArg Int32.toInt z
        rw [nI_toInt (by omega)] at this
        exact absurd this (by show ¬ ((6 * a + c : Nat) : Int) = -9; omega)), show (6 : Int32) = nI 6 from rfl, pk_rem (by omega) (by omega) (by omega), pk_div (by omega) (by omega) (by omega), e1, e2]
      simp (disch := omega) only [↓reduceIte, ↓BR hRt, ↓BRs, OKm, inbT, ix_nI, lt, shl1, g1, g2, nI_or]
    · show _ = nI (addS S a c x)
      unfold addS
      rw [gi_si]
      by_cases c1 : x = c
      · rw [if_pos ⟨rfl, c1⟩, if_neg (by omega), if_pos c1, c1]
      · rw [if_neg (fun z => c1 z.2), gi_si]
        by_cases c2 : x = a
        · rw [if_pos ⟨rfl, c2⟩, if_pos c2, c2]
        · rw [if_neg (fun z => c2 z.2), if_neg c2, if_neg c1]
          exact hS x hx
theorem p_goesW {N n p q : Nat} {b : Bool} {ρ τ : Mm} {al : Nat → Nat} {T : Nat → Nat → Nat} {o1 o2 : Option (Nat × Nat)} (hN : 5000 ≤ N) (hR : Rf b ρ) (hn : n ≤ 6) (hal : okAl n al) (hL : LD ρ n al T) (hT : ∀ d x, T d x < 2 ^ n) (h1 : okP n o1) (h2 : okP n o2) (hp : p < n) (hq : q < n) (h : SI ρ τ) : ∃ υ, f_X6_goesWith N 66 (cd o1) (cd o2) (nI p) (nI q) τ = some (if GA T (ap o2 (ap o1 (fun _ => 0))) n p (4 ^ grps al n) q then 1 else 0, υ) ∧ SI ρ υ := by
  have hRt : Rf b τ := Rf_eq (by rw [h.1]) hR
  have z : ∀ x, x < n → (fun _ => 0 : Nat → Nat) x < 2 ^ n := fun x _ => Nat.two_pow_pos n
  obtain ⟨τ1, a1, a2, a3⟩ := p_adds (N := N) (S := fun _ => 0) (τ := blt τ 88 0 6 (fun _ => 0)) hR hn h1 (SI_trans h rfl (fun a k z1 z2 => blt_out z2)) (fun x hx => by rw [blt_in (by omega)]; rfl)
  obtain ⟨τ2, b1, b2, b3⟩ := p_adds (N := N) hR hn h2 a2 a3
  obtain ⟨υ, c1, c2, _⟩ := p_goesA hN hR hn hal hL hT (fun x hx => ⟨b3 x hx, ap_lt h2 (ap_lt h1 z) x hx⟩) hp hq b2
  refine ⟨υ, ?_, c2⟩
  unfold f_X6_goesWith
  rw [if_pos OKx.2.1, bVe (p_noS (by omega) hRt), bVe a1, bVe b1, bIe c1, if_pos (bz_ite _)]
def moreB (n p q j : Nat) : Bool := decide (j / 6 < j % 6) && (decide (j % 6 < n) && (!(decide (j / 6 = p) && decide (j % 6 = q)) && !(decide (j / 6 = q) && decide (j % 6 = p))))
theorem p_more {N n p q j : Nat} {τ : Mm} (hs : gi τ 66 10 = nI n) (hn : n ≤ 6) (hp : p < n) (hq : q < n) (hj : j < 36) : f_X6_isMore N 66 (nI j) (nI p) (nI q) τ = some (if moreB n p q j then 1 else 0, τ) := by
  unfold f_X6_isMore f_X6_isMore_40 f_X6_isMore_52 moreB
  rw [if_pos OKx.2.1, show (6 : Int32) = nI 6 from rfl, pk_rem (by omega) (by omega) (by omega), pk_div (by omega) (by omega) (by omega), hs]
  simp only [lt]
  simp only [nI_dec (show j / 6 < 100 by omega) (show p < 100 by omega), nI_dec (show j / 6 < 100 by omega) (show q < 100 by omega), nI_dec (show j % 6 < 100 by omega) (show p < 100 by omega), nI_dec (show j % 6 < 100 by omega) (show q < 100 by omega)]
  by_cases c1 : j / 6 < j % 6
  · rw [if_neg (nI_ge c1 (by omega)), decide_eq_true c1, Bool.true_and]
    by_cases c2 : j % 6 < n
    · rw [if_neg (nI_ge c2 (by omega)), decide_eq_true c2, Bool.true_and]
      by_cases c3 : j / 6 = p <;> by_cases c4 : j % 6 = q <;> by_cases c5 : j / 6 = q <;> by_cases c6 : j % 6 = p <;> simp [c3, c4, c5, c6] <;> (try omega)
    · rw [if_pos (nI_le (by omega) (by omega)), decide_eq_false c2]
      rfl
  · rw [if_pos (nI_le (by omega) (by omega)), decide_eq_false c1]
    rfl
