/-! ===== PURE: signs ===== -/
/-- what the reference's search for signs needs of the town -/
theorem p_least {N n p q : Nat} {b : Bool} {ρ τ : Mm} {al : Nat → Nat} {T : Nat → Nat → Nat} (hN : 5000 ≤ N) (hR : Rf b ρ) (hn : n ≤ 6) (hal : okAl n al) (hL : LD ρ n al T) (hT : ∀ d x, T d x < 2 ^ n) (hp : p < n) (hq : q < n) (h : SI ρ τ) :
    ∃ v υ, f_X6_leastSigns N 66 (nI p) (nI q) τ = some (v, υ) ∧ SI ρ υ ∧ ((v = 0 ∧ GA T (fun _ => 0) n p (4 ^ grps al n) q = true) ∨ (GA T (fun _ => 0) n p (4 ^ grps al n) q = false ∧ ((v = 1 ∧ ∃ j, j < 36 ∧ moreB n p q j = true ∧ GA T (s1 (j / 6) (j % 6)) n p (4 ^ grps al n) q = true) ∨ ((∀ j, j < 36 → moreB n p q j = true → GA T (s1 (j / 6) (j % 6)) n p (4 ^ grps al n) q = false) ∧ ((v = 2 ∧ ∃ i, i < 36 ∧ moreB n p q i = true) ∨ (v = -9 ∧ ∀ i j, i < j → j < 36 → moreB n p q i = true → moreB n p q j = true → GA T (addS (s1 (i / 6) (i % 6)) (j / 6) (j % 6)) n p (4 ^ grps al n) q = false)))))) := by
  have e36 : (36 : Int32) = nI 36 := rfl
  have ht10 : ∀ {τ}, SI ρ τ → gi τ 66 10 = nI n := fun {τ} s => (s.2 _ _ (by omega) (by omega)).trans hL.1
  have hno : okP n none := fun a b e => by cases e
  have hok : ∀ j, moreB n p q j = true → okP n (some (j / 6, j % 6)) := by
    intro j hj a b e
    unfold moreB at hj
    simp only [Bool.and_eq_true, decide_eq_true_eq] at hj
    cases e
    exact ⟨hj.1, hj.2.1⟩
  have hcd : ∀ j, cd (some (j / 6, j % 6)) = nI j := fun j => by
    show nI (6 * (j / 6) + j % 6) = nI j
    rw [show 6 * (j / 6) + j % 6 = j by omega]
  -- the pairs of signs
  have l66 : ∀ (K : Nat → Int32 → Int32 → Int32 → Mm → Option (Int32 × Mm)) (i : Nat), i < 36 → ∀ (f j : Nat) (τ : Mm), i < j → j ≤ 36 → 36 - j < f → SI ρ τ → ∃ υ, SI ρ υ ∧ ((f_X6_leastSigns_66 N K f 66 (nI p) (nI q) (nI i) (nI j) τ = some (2, υ) ∧ moreB n p q i = true) ∨ (f_X6_leastSigns_66 N K f 66 (nI p) (nI q) (nI i) (nI j) τ = K 66 (nI p) (nI q) (nI (i + 1)) υ ∧ ∀ j2, j ≤ j2 → j2 < 36 → moreB n p q i = true → moreB n p q j2 = true → GA T (addS (s1 (i / 6) (i % 6)) (j2 / 6) (j2 % 6)) n p (4 ^ grps al n) q = false)) := by
    intro K i hi f
    induction f with
    | zero => intro j τ _ _ z; omega
    | succ f ih =>
      intro j τ hij hj hf hsi
      unfold f_X6_leastSigns_66 f_X6_leastSigns_108
      rw [e36]
      by_cases e : j = 36
      · subst e
        exact ⟨τ, hsi, Or.inr ⟨by rw [if_pos (nI_le (Nat.le_refl 36) (by decide)), nI_1], fun j2 z1 z2 => by omega⟩⟩
      · rw [if_neg (nI_ge (show j < 36 by omega) (by omega)), bIe (p_more (N := N) (ht10 hsi) hn hp hq hi), if10, nI_1]
        cases m1 : moreB n p q i with
        | false =>
          obtain ⟨υ, u1, u2⟩ := ih (j + 1) τ (by omega) (by omega) (by omega) hsi
          rw [if_neg Bool.false_ne_true]
          rcases u2 with ⟨_, z⟩ | ⟨z1, z2⟩
          · rw [m1] at z; exact Bool.noConfusion z
          · exact ⟨υ, u1, Or.inr ⟨z1, fun j2 _ _ z => Bool.noConfusion z⟩⟩
        | true =>
          rw [if_pos rfl, bIe (p_more (N := N) (ht10 hsi) hn hp hq (show j < 36 by omega)), if10]
          cases m2 : moreB n p q j with
          | false =>
            obtain ⟨υ, u1, u2⟩ := ih (j + 1) τ (by omega) (by omega) (by omega) hsi
            rw [if_neg Bool.false_ne_true]
            rcases u2 with ⟨z1, z⟩ | ⟨z1, z2⟩
            · exact ⟨υ, u1, Or.inl ⟨z1, rfl⟩⟩
            · refine ⟨υ, u1, Or.inr ⟨z1, fun j2 y1 y2 y3 y4 => ?_⟩⟩
              by_cases c : j2 = j
              · rw [c, m2] at y4; exact Bool.noConfusion y4
              · exact z2 j2 (by omega) y2 m1 y4
          | true =>
            obtain ⟨τ2, g1, g2⟩ := p_goesW (N := N) (τ := τ) hN hR hn hal hL hT (hok i m1) (hok j m2) hp hq hsi
            rw [hcd, hcd] at g1
            rw [if_pos rfl, bIe g1, if10]
            cases m3 : GA T (ap (some (j / 6, j % 6)) (ap (some (i / 6, i % 6)) (fun _ => 0))) n p (4 ^ grps al n) q with
            | true =>
              rw [if_pos rfl]
              exact ⟨τ2, g2, Or.inl ⟨rfl, rfl⟩⟩
            | false =>
              obtain ⟨υ, u1, u2⟩ := ih (j + 1) τ2 (by omega) (by omega) (by omega) g2
              rw [if_neg Bool.false_ne_true]
              rcases u2 with ⟨z1, z⟩ | ⟨z1, z2⟩
              · exact ⟨υ, u1, Or.inl ⟨z1, rfl⟩⟩
              · refine ⟨υ, u1, Or.inr ⟨z1, fun j2 y1 y2 y3 y4 => ?_⟩⟩
                by_cases c : j2 = j
                · rw [c]; exact m3
                · exact z2 j2 (by omega) y2 m1 y4
  have l55 : ∀ (f i : Nat) (τ : Mm), i ≤ 36 → 36 - i < f → SI ρ τ → ∃ v υ, f_X6_leastSigns_55 N f 66 (nI p) (nI q) (nI i) τ = some (v, υ) ∧ SI ρ υ ∧ ((v = 2 ∧ ∃ i, i < 36 ∧ moreB n p q i = true) ∨ (v = -9 ∧ ∀ i2 j, i ≤ i2 → i2 < j → j < 36 → moreB n p q i2 = true → moreB n p q j = true → GA T (addS (s1 (i2 / 6) (i2 % 6)) (j / 6) (j % 6)) n p (4 ^ grps al n) q = false)) := by
    intro f
    induction f with
    | zero => intro i τ _ z; omega
    | succ f ih =>
      intro i τ hi hf hsi
      unfold f_X6_leastSigns_55
      rw [e36]
      by_cases e : i = 36
      · subst e
        exact ⟨-9, τ, by rw [if_pos (nI_le (Nat.le_refl 36) (by decide))], hsi, Or.inr ⟨rfl, fun i2 j z1 z2 z3 => by omega⟩⟩
      · rw [if_neg (nI_ge (show i < 36 by omega) (by omega)), nI_1]
        simp only [lt]
        obtain ⟨υ, u1, u2⟩ := l66 (f_X6_leastSigns_55 N f) i (by omega) N (i + 1) τ (by omega) (by omega) (by omega) hsi
        rcases u2 with ⟨z1, z2⟩ | ⟨z1, z2⟩
        · exact ⟨2, υ, z1, u1, Or.inl ⟨rfl, i, by omega, z2⟩⟩
        · obtain ⟨v, ω, o1, o2, o3⟩ := ih (i + 1) υ (by omega) (by omega) u1
          refine ⟨v, ω, z1.trans o1, o2, ?_⟩
          rcases o3 with o3 | ⟨o3, o4⟩
          · exact Or.inl o3
          · refine Or.inr ⟨o3, fun i2 j y1 y2 y3 y4 y5 => ?_⟩
            by_cases c : i2 = i
            · subst c; exact z2 j (by omega) y3 y4 y5
            · exact o4 i2 j (by omega) y2 y3 y4 y5
  have l17 : ∀ (f i : Nat) (τ : Mm), i ≤ 36 → 36 - i < f → SI ρ τ → (∀ j, j < i → moreB n p q j = true → GA T (s1 (j / 6) (j % 6)) n p (4 ^ grps al n) q = false) → ∃ v υ, f_X6_leastSigns_17 N f 66 (nI p) (nI q) (nI i) τ = some (v, υ) ∧ SI ρ υ ∧ ((v = 1 ∧ ∃ j, j < 36 ∧ moreB n p q j = true ∧ GA T (s1 (j / 6) (j % 6)) n p (4 ^ grps al n) q = true) ∨ ((∀ j, j < 36 → moreB n p q j = true → GA T (s1 (j / 6) (j % 6)) n p (4 ^ grps al n) q = false) ∧ ((v = 2 ∧ ∃ i, i < 36 ∧ moreB n p q i = true) ∨ (v = -9 ∧ ∀ i j, i < j → j < 36 → moreB n p q i = true → moreB n p q j = true → GA T (addS (s1 (i / 6) (i % 6)) (j / 6) (j % 6)) n p (4 ^ grps al n) q = false)))) := by
    intro f
    induction f with
    | zero => intro i τ _ z; omega
    | succ f ih =>
      intro i τ hi hf hsi hI
      unfold f_X6_leastSigns_17 f_X6_leastSigns_47
      rw [e36]
      by_cases e : i = 36
      · subst e
        rw [if_pos (nI_le (Nat.le_refl 36) (by decide))]
        obtain ⟨v, υ, u1, u2, u3⟩ := l55 N 0 τ (by omega) (by omega) hsi
        refine ⟨v, υ, u1, u2, Or.inr ⟨hI, ?_⟩⟩
        rcases u3 with u3 | ⟨u3, u4⟩
        · exact Or.inl u3
        · exact Or.inr ⟨u3, fun i j => u4 i j (Nat.zero_le i)⟩
      · rw [if_neg (nI_ge (show i < 36 by omega) (by omega)), bIe (p_more (N := N) (ht10 hsi) hn hp hq (show i < 36 by omega)), if10, nI_1]
        cases m1 : moreB n p q i with
        | false =>
          rw [if_neg Bool.false_ne_true]
          exact ih (i + 1) τ (by omega) (by omega) hsi (fun j hj z => by
            by_cases c : j = i
            · rw [c, m1] at z; exact Bool.noConfusion z
            · exact hI j (by omega) z)
        | true =>
          obtain ⟨τ2, g1, g2⟩ := p_goesW (N := N) (τ := τ) hN hR hn hal hL hT (hok i m1) hno hp hq hsi
          rw [hcd] at g1
          rw [if_pos rfl, bIe (show f_X6_goesWith N 66 (nI i) (-9) (nI p) (nI q) τ = _ from g1), if10]
          cases m3 : GA T (ap none (ap (some (i / 6, i % 6)) (fun _ => 0))) n p (4 ^ grps al n) q with
          | true =>
            rw [if_pos rfl]
            exact ⟨1, τ2, rfl, g2, Or.inl ⟨rfl, i, by omega, m1, m3⟩⟩
          | false =>
            rw [if_neg Bool.false_ne_true]
            exact ih (i + 1) τ2 (by omega) (by omega) g2 (fun j hj z => by
              by_cases c : j = i
              · rw [c]; exact m3
              · exact hI j (by omega) z)
  obtain ⟨τ2, g1, g2⟩ := p_goesW (N := N) (τ := τ) hN hR hn hal hL hT hno hno hp hq h
  unfold f_X6_leastSigns
  rw [if_pos OKx.2.1, bIe (show f_X6_goesWith N 66 (-9) (-9) (nI p) (nI q) τ = _ from g1), if10]
  cases m0 : GA T (ap none (ap none (fun _ => 0))) n p (4 ^ grps al n) q with
  | true =>
    rw [if_pos rfl]
    exact ⟨0, τ2, rfl, g2, Or.inl ⟨rfl, m0⟩⟩
  | false =>
    rw [if_neg Bool.false_ne_true]
    obtain ⟨v, υ, u1, u2, u3⟩ := l17 N 0 τ2 (by omega) (by omega) g2 (fun j hj => by omega)
    exact ⟨v, υ, u1, u2, Or.inr ⟨m0, u3⟩⟩
/-- one sign more does by every deal -/
theorem GA_one {T : Nat → Nat → Nat} {n p q a c D : Nat} (hn : n ≤ 6) (hT : ∀ d x, T d x < 2 ^ n) (hp : p < n) (hq : q < n) (ha : a < n) (hc : c < n) (hac : a ≠ c) : GA T (s1 a c) n p D q = true ↔ ∀ d, d < D → okk (T d) n p q a c = true := by
  unfold GA
  rw [allb_iff]
  have hs : ∀ x, x < n → s1 a c x < 2 ^ n := fun x hx => by
    apply Nat.lt_pow_two_of_testBit
    intro i hi
    cases e : (s1 a c x).testBit i with
    | false => rfl
    | true => rcases (s1_tb hac).mp e with ⟨_, z⟩ | ⟨_, z⟩ <;> omega
  refine forall_congr' (fun d => forall_congr' (fun hd => ?_))
  rw [← RC_6 (T := fun x => T d x ||| s1 a c x) (fun m hm => Nat.or_lt_two_pow (hT d m) (hs m hm)) hn hp, RC_one hn ha hc hac]
  unfold okk
  rw [Bool.or_eq_true, Bool.or_eq_true, Bool.and_eq_true, Bool.and_eq_true, RC_6 (fun m _ => hT d m) hn hp, RC_6 (fun m _ => hT d m) hn hp, RC_6 (fun m _ => hT d m) hn hp, rout_iff hn (fun m _ => hT d m) hc, rout_iff hn (fun m _ => hT d m) ha]
  constructor
  · rintro (z | z | ⟨z1, z2⟩)
    · exact Or.inl z
    · exact Or.inr (Or.inl z)
    · exact Or.inr (Or.inr ⟨z2, z1⟩)
  · rintro (z | z | ⟨z1, z2⟩)
    · exact Or.inl z
    · exact Or.inr (Or.inl z)
    · exact Or.inr (Or.inr ⟨z2, z1⟩)
theorem okk_sym {T : Nat → Nat} {n p q x y : Nat} : okk T n p q x y = okk T n p q y x := by
  unfold okk
  cases (LV T n p 63 6).testBit q <;> cases (LV T n p 63 6).testBit x <;> cases (rout T n q n).testBit y <;> cases (rout T n q n).testBit x <;> cases (LV T n p 63 6).testBit y <;> rfl
theorem rin_T {T U : Nat → Nat} {n A : Nat} (h : ∀ m, m < n → T m = U m) : ∀ i, i ≤ n → rin T A i = rin U A i := by
  intro i
  induction i with
  | zero => intro _; rfl
  | succ i ih => intro hi; rw [rin, rin, ih (by omega), h i (by omega)]
theorem rout_T {T U : Nat → Nat} {n q : Nat} (h : ∀ m, m < n → T m = U m) : ∀ k, rout T n q k = rout U n q k := by
  intro k
  induction k with
  | zero => rfl
  | succ k ih => rw [rout, rout, ih, rin_T h n (Nat.le_refl n)]
theorem okk_T {T U : Nat → Nat} {n p q x y : Nat} (h : ∀ m, m < n → T m = U m) : okk T n p q x y = okk U n p q x y := by
  unfold okk
  rw [LV_T h, rout_T h]
theorem addS_l {S : Nat → Nat} {a c : Nat} : (addS S a c a).testBit c = true := by
  unfold addS
  rw [if_pos rfl, fb_bit_set, decide_eq_true rfl, Bool.or_true]
theorem addS_r {S : Nat → Nat} {a c : Nat} (h : a ≠ c) : (addS S a c c).testBit a = true := by
  unfold addS
  rw [if_neg (fun z => h z.symm), if_pos rfl, fb_bit_set, decide_eq_true rfl, Bool.or_true]
theorem addS_k {S : Nat → Nat} {a c x y : Nat} (h : (S x).testBit y = true) : (addS S a c x).testBit y = true := by
  unfold addS
  split
  · rw [Nat.testBit_or, h]; rfl
  · split
    · rw [Nat.testBit_or, h]; rfl
    · exact h
/-- the number of the pair {x, y} -/
def prn (x y : Nat) : Nat := if x < y then 6 * x + y else 6 * y + x
theorem prn_b {S : Nat → Nat} {x y : Nat} (hx : x < 6) (hy : y < 6) (h : x ≠ y) : (addS S (prn x y / 6) (prn x y % 6) x).testBit y = true ∧ (addS S (prn x y / 6) (prn x y % 6) y).testBit x = true := by
  unfold prn
  by_cases c : x < y
  · rw [if_pos c, show (6 * x + y) / 6 = x by omega, show (6 * x + y) % 6 = y by omega]
    exact ⟨addS_l, addS_r h⟩
  · rw [if_neg c, show (6 * y + x) / 6 = y by omega, show (6 * y + x) % 6 = x by omega]
    exact ⟨addS_r (fun z => h z.symm), addS_l⟩
theorem prn_more {n p q x y : Nat} (hn : n ≤ 6) (hx : x < n) (hy : y < n) (h : x ≠ y) (h1 : ¬ (x = p ∧ y = q)) (h2 : ¬ (x = q ∧ y = p)) : prn x y < 36 ∧ moreB n p q (prn x y) = true := by
  unfold prn moreB
  by_cases c : x < y
  · rw [if_pos c, show (6 * x + y) / 6 = x by omega, show (6 * x + y) % 6 = y by omega]
    refine ⟨by omega, ?_⟩
    simp [c, hy]
    omega
  · rw [if_neg c, show (6 * y + x) / 6 = y by omega, show (6 * y + x) % 6 = x by omega]
    refine ⟨by omega, ?_⟩
    simp [show y < x by omega, hx]
    omega
theorem s_signs {N : Nat} (hN : 5000 ≤ N) (x z : Int32) : Sim (f_X5_signs N 0 x z) (f_X6_signs N 66 x z) := by
  intro b σ h
  have hR := h.1
  obtain ⟨n, kd, al, sg, ds, kp, w1, w2, w3⟩ := h.2.2.2.2
  have hs := w2.1.1
  have hn := w1.1
  have hP := pl_cases b
  have h64 := pow6 hn
  have hal := okW_al w1
  have hMS := TW_MS (b := b) w1 w3
  have hdy := okDy_rep (al := al) (n := n) w1.2.2.1 ds w1.2.2.2.2.2.2.1
  rcases arg_two x z hn with q | ⟨p, q, hp, hq, hpq, rfl, rfl⟩
  · refine ⟨-1, σ, σ, b, ?_, ?_, h⟩
    · unfold f_X5_signs
      rw [if_pos OKx.1, bIe (two_x0 (N := N) hR hs hn q)]
      rfl
    · unfold f_X6_signs
      rw [if_pos OKx.2.1, bIe (two_m0 (N := N) w3.1 hn q)]
      rfl
  · obtain ⟨g, hg⟩ : ∃ g, grps al n = g + 1 := ⟨grps al n - 1, by have := grps_pos hal (show 0 < n by omega); omega⟩
    let T : Nat → Nat → Nat := fun d => te n kd (dlOf al d) (rep al sg ds).2.1 (rep al sg ds).2.2.2
    let T4 : Nat → Nat → Nat := fun e => T (4 * e)
    have hT : ∀ d x, T d x < 2 ^ n := fun d x => te_lt
    have hrot : ∀ c d m, m < n → T (rotk c (g + 1) d) m = T d m := fun c d m hm => by
      show te n kd (dlOf al (rotk c (g + 1) d)) _ _ m = _
      rw [← hg]
      exact te_rot hal hm
    obtain ⟨ρx, x1, x2⟩ := p_sgX (N := N) (T := T4) hN hR hn w2.1 w2.2.1 rfl rfl hdy.2.1 hal hg hp hq hpq rfl
    generalize hA : nI (pc 6 (ALw T4 n p (4 ^ g)) - 1) = A at x1
    generalize hσ1 : si ρx 0 11 A = σ1 at x1
    have hR1 : Rf b σ1 := by rw [← hσ1]; exact (show Rf b ρx from Ex_Rf x2 hR)
    have f1 : ∀ a k, 66 ≤ a → gi σ1 a k = gi σ a k := fun a k z => by rw [← hσ1, gi_si, if_neg (by omega), x2.2 a k (by omega)]
    obtain ⟨ρ, l1, l2, l3, l4⟩ := p_layD (N := N) hN hR1 hal (fun p hp => (f1 _ _ (by omega)).trans (w3.2.1 p hp).2) (MS_congr (σ := σ) (fun a k z => f1 a k (by omega)) hMS)
    have hRρ : Rf b ρ := Rf_eq (by rw [l2]) hR1
    -- sure ones
    have hsure : ∀ k, k < n → (GA T (fun _ => 0) n p (4 ^ grps al n) k = true ↔ ∀ e, e < 4 ^ g → (LV (T4 e) n p 63 6).testBit k = true) := by
      intro k hk
      unfold GA
      rw [allb_iff, hg, ← all_turn (P := fun d => (LV (T d) n p 63 6).testBit k = true) (fun c d => by rw [LV_T (hrot c d)])]
      refine forall_congr' (fun d => forall_congr' (fun hd => ?_))
      rw [LV_T (T := fun x => T d x ||| (fun _ => 0) x) (U := T d) (fun m _ => Nat.or_zero _)]
    have hP0 : ∀ k, k < n → (ALw T4 n p (4 ^ g)).testBit k = GA T (fun _ => 0) n p (4 ^ grps al n) k := by
      intro k hk
      rw [Bool.eq_iff_iff, hsure k hk]
      unfold ALw
      rw [msk_tb, decide_eq_true hk, Bool.true_and, allb_iff]
    have hcnt : pc 6 (ALw T4 n p (4 ^ g)) - 1 = fb_ct (fun k => if k = p then false else GA T (fun _ => 0) n p (4 ^ grps al n) k) n := by
      have e1 : pc 6 (ALw T4 n p (4 ^ g)) = fb_ct (fun k => GA T (fun _ => 0) n p (4 ^ grps al n) k) n := by
        unfold ALw
        rw [pc_msk hn]
        refine fb_ct_cong (fun k hk => ?_)
        rw [← hP0 k hk]
        unfold ALw
        rw [msk_tb, decide_eq_true hk, Bool.true_and]
      have e2 := fb_ct_upd (fun k => GA T (fun _ => 0) n p (4 ^ grps al n) k) false hp
      have e3 : GA T (fun _ => 0) n p (4 ^ grps al n) p = true := by rw [← hP0 p hp]; exact AL_p hp
      rw [e3] at e2
      simp only [if_true, Bool.false_eq_true, if_false] at e2
      omega
    -- the reference
    have hsi0 : SI ρ (blt ρ 88 0 6 (fun _ => 0)) := ⟨rfl, fun a k z1 z2 => blt_out z2⟩
    have mm : ∀ (f k : Nat) (τ : Mm), k ≤ n → n - k < f → SI ρ τ → (∀ x, x < n → gi τ 88 x = 0) → ∃ v υ, f_X6_signs_24 N f 66 (nI p) (nI q) (nI (fb_ct (fun k => if k = p then false else GA T (fun _ => 0) n p (4 ^ grps al n) k) k)) (nI k) τ = some (v, si υ 66 2 A) ∧ SI ρ υ ∧ v = sgV T4 n p q (4 ^ g) := by
      intro f
      induction f with
      | zero => intro k τ _ z; omega
      | succ f ih =>
        intro k τ hk hf hsi h88
        have hRt : Rf b τ := Rf_eq (by rw [hsi.1]) hRρ
        have t10 : gi τ 66 10 = nI n := (hsi.2 _ _ (by omega) (by omega)).trans l4.1
        unfold f_X6_signs_24 f_X6_signs_54 f_X6_signs_55
        rw [t10]
        by_cases e : k = n
        · subst e
          obtain ⟨v, υ, u1, u2, u3⟩ := p_least (N := N) hN hRρ hn hal l4 hT hp hq hsi
          refine ⟨v, υ, ?_, u2, ?_⟩
          · rw [if_pos (nI_le (Nat.le_refl k) (by omega)), bIe u1, bIe (p_gives (Rf_eq (by rw [u2.1]) hRρ)), ← hcnt, hA]
          · unfold sgV
            rw [hP0 q hq]
            -- which pairs help
            have hone : ∀ a c, a < k → c < k → a ≠ c → (GA T (s1 a c) k p (4 ^ grps al k) q = true ↔ ∀ e, e < 4 ^ g → okk (T4 e) k p q a c = true) := by
              intro a c ha hc hac
              rw [GA_one hn hT hp hq ha hc hac, hg, all_turn (P := fun d => okk (T d) k p q a c = true) (fun c2 d => by rw [okk_T (hrot c2 d)])]
            rcases u3 with ⟨rfl, z⟩ | ⟨z0, ⟨rfl, j, j1, j2, j3⟩ | ⟨z1, z2⟩⟩
            · rw [z, if_pos rfl]
            · rw [z0, if_neg Bool.false_ne_true]
              have hm := j2
              unfold moreB at hm
              simp only [Bool.and_eq_true, decide_eq_true_eq, Bool.not_eq_true', Bool.and_eq_false_imp] at hm
              obtain ⟨m1, m2, m3, m4⟩ := hm
              have ho := (hone (j / 6) (j % 6) (by omega) m2 (by omega)).mp j3
              have hb : (HP T4 k p q (4 ^ g) (j / 6)).testBit (j % 6) = true := by
                unfold HP
                rw [msk_tb, decide_eq_true m2, Bool.true_and, Bool.and_eq_true]
                refine ⟨?_, allb_iff.mpr ho⟩
                unfold bas
                simp only [Bool.and_eq_true, decide_eq_true_eq, Bool.not_eq_true', Bool.and_eq_false_imp]
                exact ⟨by omega, m3, m4⟩
              rw [allb_f (i := j / 6) (decide_eq_false (tb_ne0 hb)) (by omega), if_neg Bool.false_ne_true]
            · rw [z0, if_neg Bool.false_ne_true]
              have hz : allb (fun x => decide (HP T4 k p q (4 ^ g) x = 0)) k = true := by
                refine allb_iff.mpr (fun x hx => decide_eq_true ?_)
                apply Classical.byContradiction
                intro hc
                obtain ⟨y, hy⟩ := ne0_tb hc
                unfold HP at hy
                rw [msk_tb, Bool.and_eq_true, Bool.and_eq_true] at hy
                obtain ⟨y1, y2, y3⟩ := hy
                have y1 := of_decide_eq_true y1
                unfold bas at y2
                simp only [Bool.and_eq_true, decide_eq_true_eq, Bool.not_eq_true', Bool.and_eq_false_imp] at y2
                obtain ⟨q1, q2, q3⟩ := y2
                have hm := prn_more (p := p) (q := q) hn hx y1 (fun e => q1 e.symm) (fun ⟨e1, e2⟩ => by have := q2 e1; simp [e2] at this) (fun ⟨e1, e2⟩ => by have := q3 e1; simp [e2] at this)
                have hf := z1 _ hm.1 hm.2
                have ht : GA T (s1 (prn x y / 6) (prn x y % 6)) k p (4 ^ grps al k) q = true := by
                  unfold prn
                  by_cases c : x < y
                  · rw [if_pos c, show (6 * x + y) / 6 = x by omega, show (6 * x + y) % 6 = y by omega]
                    exact (hone x y hx y1 (by omega)).mpr (allb_iff.mp y3)
                  · rw [if_neg c, show (6 * y + x) / 6 = y by omega, show (6 * y + x) % 6 = x by omega]
                    exact (hone y x y1 hx (by omega)).mpr (fun e he => by rw [okk_sym]; exact allb_iff.mp y3 e he)
                rw [hf] at ht
                exact Bool.noConfusion ht
              rw [hz, if_pos rfl]
              rcases z2 with ⟨rfl, i, i1, i2⟩ | ⟨rfl, z3⟩
              · -- a pair is left, so there are three
                unfold moreB at i2
                simp only [Bool.and_eq_true, decide_eq_true_eq, Bool.not_eq_true', Bool.and_eq_false_imp, decide_eq_false_iff_not] at i2
                obtain ⟨m1, m2, m3, m4⟩ := i2
                rw [if_neg (by omega)]
              · -- with a third one two signs do
                by_cases c : k ≤ 2
                · rw [if_pos c]
                · exfalso
                  obtain ⟨r, r1, r2, r3⟩ : ∃ r, r < k ∧ r ≠ p ∧ r ≠ q := by
                    by_cases c0 : 0 ≠ p ∧ 0 ≠ q
                    · exact ⟨0, by omega, c0.1, c0.2⟩
                    · by_cases c1 : 1 ≠ p ∧ 1 ≠ q
                      · exact ⟨1, by omega, c1.1, c1.2⟩
                      · exact ⟨2, by omega, by omega, by omega⟩
                  have a1 := prn_more (p := p) (q := q) hn hp r1 (fun e => r2 e.symm) (fun ⟨_, e⟩ => r3 e) (fun ⟨e, _⟩ => hpq e)
                  have a2 := prn_more (p := p) (q := q) hn r1 hq r3 (fun ⟨e, _⟩ => r2 e) (fun ⟨e, _⟩ => r3 e)
                  have hne : prn p r ≠ prn r q := by
                    unfold prn
                    split <;> split <;> omega
                  have hall : ∀ (S : Nat → Nat), (S p).testBit r = true → (S r).testBit q = true → GA T S k p (4 ^ grps al k) q = true ∨ ¬ (∀ x, x < k → S x < 2 ^ k) := by
                    intro S s1 s2
                    by_cases hS : ∀ x, x < k → S x < 2 ^ k
                    · left
                      refine allb_iff.mpr (fun d hd => ?_)
                      refine (RC_6 (fun m hm => Nat.or_lt_two_pow (hT d m) (hS m hm)) hn hp).mp ?_
                      refine RC_two hn hp r1 ?_ ?_
                      · rw [Nat.testBit_or, s1, Bool.or_true]
                      · rw [Nat.testBit_or, s2, Bool.or_true]
                    · exact Or.inr hS
                  have hlt : ∀ i j, moreB k p q i = true → moreB k p q j = true → ∀ x, x < k → addS (s1 (i / 6) (i % 6)) (j / 6) (j % 6) x < 2 ^ k := by
                    intro i j hi hj
                    have ok : ∀ j, moreB k p q j = true → okP k (some (j / 6, j % 6)) := by
                      intro j hj a b e
                      unfold moreB at hj
                      simp only [Bool.and_eq_true, decide_eq_true_eq] at hj
                      cases e
                      exact ⟨hj.1, hj.2.1⟩
                    exact ap_lt (o := some (j / 6, j % 6)) (ok j hj) (ap_lt (o := some (i / 6, i % 6)) (S := fun _ => 0) (ok i hi) (fun x _ => Nat.two_pow_pos k))
                  by_cases c3 : prn p r < prn r q
                  · have hf := z3 _ _ c3 a2.1 a1.2 a2.2
                    rcases hall (addS (s1 (prn p r / 6) (prn p r % 6)) (prn r q / 6) (prn r q % 6)) (addS_k (prn_b (by omega) (by omega) (fun e => r2 e.symm)).1) (prn_b (by omega) (by omega) r3).1 with ht | ht
                    · exact Bool.noConfusion (hf.symm.trans ht)
                    · exact ht (hlt _ _ a1.2 a2.2)
                  · have hf := z3 _ _ (show prn r q < prn p r by omega) a1.1 a2.2 a1.2
                    rcases hall (addS (s1 (prn r q / 6) (prn r q % 6)) (prn p r / 6) (prn p r % 6)) (prn_b (by omega) (by omega) (fun e => r2 e.symm)).1 (addS_k (prn_b (by omega) (by omega) r3).1) with ht | ht
                    · exact Bool.noConfusion (hf.symm.trans ht)
                    · exact ht (hlt _ _ a2.2 a1.2)
        · have hk2 : k < n := by omega
          rw [if_neg (nI_ge hk2 (by omega))]
          by_cases c : k = p
          · subst c
            obtain ⟨v, υ, u1, u2⟩ := ih (k + 1) τ (by omega) (by omega) hsi h88
            refine ⟨v, υ, ?_, u2⟩
            rw [fb_ct_succ, if_pos rfl, if_neg Bool.false_ne_true] at u1
            rw [if_pos rfl, nI_1]
            simp only [lt]
            rw [nI_z]
            exact u1
          · obtain ⟨τ2, g1, g2, g3⟩ := p_goesA (N := N) (S := fun _ => 0) hN hRρ hn hal l4 hT (fun x hx => ⟨(h88 x hx).trans rfl, Nat.two_pow_pos n⟩) hp hk2 hsi
            obtain ⟨v, υ, u1, u2⟩ := ih (k + 1) τ2 (by omega) (by omega) g2 (fun x hx => (g3 x).trans (h88 x hx))
            refine ⟨v, υ, ?_, u2⟩
            rw [fb_ct_succ, if_neg c] at u1
            rw [if_neg (fun z => c ((nI_eq (by omega) (by omega)).mp z)), bIe g1, if10, nI_1]
            simp only [lt]
            cases hG : GA T (fun _ => 0) n p (4 ^ grps al n) k with
            | false =>
              rw [hG, if_neg Bool.false_ne_true] at u1
              rw [if_neg Bool.false_ne_true, nI_z, nI_1]
              exact u1
            | true =>
              rw [hG, if_pos rfl] at u1
              rw [if_pos rfl, nI_1]
              exact u1
    obtain ⟨v, υ, u1, u2, u3⟩ := mm N 0 (blt ρ 88 0 6 (fun _ => 0)) (by omega) (by omega) hsi0 (fun x hx => blt_in (by omega))
    refine ⟨sgV T4 n p q (4 ^ g), σ1, si υ 66 2 A, b, x1, ?_, ?_⟩
    · unfold f_X6_signs
      rw [if_pos OKx.2.1, bIe (two_m1 (N := N) ((f1 _ _ (by omega)).trans w3.1) hn hp hq hpq), if_neg (show ¬ (1 : Int32) = 0 by decide), bVe l1, bVe (p_noS (by omega) hRρ), ← u3]
      exact u1
    · have hra := rel_asked h A
      refine rel_core hra ?_ (fun a k z => ?_) ?_
      · show υ.2.2 = σ.2.2
        rw [u2.1, l2, ← hσ1]
        show ρx.2.2 = σ.2.2
        rw [x2.1]
      · unfold core at z
        rw [gi_si, gi_si]
        by_cases c : a = 66 ∧ k = 2
        · rw [if_pos c, if_pos c]
        · rw [if_neg c, if_neg c, u2.2 a k (by omega) (by omega), l3 a k (by omega) (by omega) (by omega), ← hσ1, gi_si, gi_si]
          by_cases c2 : a = 0 ∧ k = 11
          · rw [if_pos c2, if_pos c2]
          · rw [if_neg c2, if_neg c2, x2.2 a k (by omega)]
      · have e2 : υ.2 = σ.2 := by
          rw [u2.1, l2, ← hσ1]
          show ρx.2 = σ.2
          exact x2.1
        have hl := h.2.1.2.2.2
        refine ⟨?_, ?_⟩
        · show υ.2.1 0 12 = υ.2.1 66 3
          rw [e2]; exact hl.1
        · show υ.2.1 0 13 = υ.2.1 66 4
          rw [e2]; exact hl.2
