/-! ===== PURE: order ===== -/
def dst (T : Nat → Nat) (n q x k : Nat) : Bool := (LV T n x 63 k).testBit q && allb (fun i => !(LV T n x 63 i).testBit q) k
theorem dst_iff {T : Nat → Nat} {n q x k : Nat} : dst T n q x k = true ↔ (LV T n x 63 k).testBit q = true ∧ ∀ i, i < k → (LV T n x 63 i).testBit q = false := by
  unfold dst
  rw [Bool.and_eq_true, allb_iff]
  constructor
  · rintro ⟨h1, h2⟩
    exact ⟨h1, fun i hi => by simpa using h2 i hi⟩
  · rintro ⟨h1, h2⟩
    exact ⟨h1, fun i hi => by rw [h2 i hi]; rfl⟩
theorem dst_one {T : Nat → Nat} {n q x j k : Nat} (h1 : dst T n q x j = true) (h2 : dst T n q x k = true) : j = k := by
  obtain ⟨a1, a2⟩ := dst_iff.mp h1
  obtain ⟨b1, b2⟩ := dst_iff.mp h2
  apply Classical.byContradiction
  intro hc
  rcases Nat.lt_or_gt_of_ne hc with h | h
  · rw [b2 j h] at a1; exact Bool.noConfusion a1
  · rw [a2 k h] at b1; exact Bool.noConfusion b1
theorem dst_0 {T : Nat → Nat} {n q x : Nat} (h : dst T n q x 0 = true) : x = q := (LV_zero (dst_iff.mp h).1).symm
theorem dst_next {T : Nat → Nat} {n q x j : Nat} (hn : n ≤ 6) (hT : ∀ m, m < n → T m < 2 ^ n) (hx : x < n) (h : dst T n q x (j + 1) = true) : ∃ m, m < n ∧ ((T x).testBit m && dst T n q m j) = true := by
  obtain ⟨a1, a2⟩ := dst_iff.mp h
  rcases LV_front hn hT hx j q a1 with e | ⟨m, m1, m2, m3⟩
  · have := a2 0 (by omega)
    rw [e] at this
    have h0 : (LV T n x 63 0).testBit x = true := LV_p
    rw [h0] at this
    exact Bool.noConfusion this
  · refine ⟨m, m1, ?_⟩
    rw [m2, Bool.true_and]
    refine dst_iff.mpr ⟨m3, fun i hi => ?_⟩
    cases e : (LV T n m 63 i).testBit q with
    | false => rfl
    | true =>
      have := LV_back hn hx m2 m1 e
      rw [a2 (i + 1) (by omega)] at this
      exact Bool.noConfusion this
/-- the way: the least next one, step by step -/
def wy (T : Nat → Nat) (n q s p : Nat) : Nat → Nat
  | 0 => p
  | k + 1 => fa_first (fun m => (T (wy T n q s p k)).testBit m && dst T n q m (s - (k + 1))) n
theorem first_yes {P : Nat → Bool} {n : Nat} (h : ∃ m, m < n ∧ P m = true) : fa_first P n < n ∧ P (fa_first P n) = true ∧ ∀ j, j < fa_first P n → P j = false := by
  have h1 := fa_first_le P n
  have hlt : fa_first P n < n := by
    apply Classical.byContradiction
    intro hc
    obtain ⟨m, m1, m2⟩ := h
    rw [fa_first_no P n m (by omega)] at m2
    exact Bool.noConfusion m2
  exact ⟨hlt, fa_first_yes P n hlt, fun j hj => fa_first_no P n j hj⟩
theorem wy_ok {T : Nat → Nat} {n q s p : Nat} (hn : n ≤ 6) (hT : ∀ m, m < n → T m < 2 ^ n) (hp : p < n) (h : dst T n q p s = true) : ∀ k, k ≤ s → wy T n q s p k < n ∧ dst T n q (wy T n q s p k) (s - k) = true := by
  intro k
  induction k with
  | zero => exact fun _ => ⟨hp, h⟩
  | succ k ih =>
    intro hk
    obtain ⟨i1, i2⟩ := ih (by omega)
    rw [show s - k = (s - (k + 1)) + 1 by omega] at i2
    obtain ⟨h1, h2, _⟩ := first_yes (dst_next hn hT i1 i2)
    rw [Bool.and_eq_true] at h2
    exact ⟨h1, h2.2⟩
theorem wy_s {T : Nat → Nat} {n q s p : Nat} (hn : n ≤ 6) (hT : ∀ m, m < n → T m < 2 ^ n) (hp : p < n) (h : dst T n q p s = true) : wy T n q s p s = q := by
  have := (wy_ok hn hT hp h s (Nat.le_refl s)).2
  rw [Nat.sub_self] at this
  exact dst_0 this
theorem wy_first {T : Nat → Nat} {n q s p k : Nat} (hn : n ≤ 6) (hT : ∀ m, m < n → T m < 2 ^ n) (hp : p < n) (h : dst T n q p s = true) (hk : k + 1 ≤ s) : wy T n q s p (k + 1) < n ∧ ((T (wy T n q s p k)).testBit (wy T n q s p (k + 1)) && dst T n q (wy T n q s p (k + 1)) (s - (k + 1))) = true ∧ ∀ j, j < wy T n q s p (k + 1) → ((T (wy T n q s p k)).testBit j && dst T n q j (s - (k + 1))) = false := by
  obtain ⟨i1, i2⟩ := wy_ok hn hT hp h k (by omega)
  rw [show s - k = (s - (k + 1)) + 1 by omega] at i2
  exact first_yes (dst_next hn hT i1 i2)
theorem p_few {N n x q : Nat} {b : Bool} {σ : Mm} {T : Nat → Nat} (hN : 20 ≤ N) (hR : Rf b σ) (h : GX σ 7 n T) (hx : x < n) (hq : q < n) (hxq : x ≠ q) : (∃ k, 1 ≤ k ∧ k ≤ 5 ∧ dst T n q x k = true ∧ f_X0_fewestMouths N 7 (nI x) (nI q) σ = some (nI (k - 1), σ)) ∨ ((∀ i, (LV T n x 63 i).testBit q = false) ∧ f_X0_fewestMouths N 7 (nI x) (nI q) σ = some (-9, σ)) := by
  have hn := h.2.2.1
  have hT := h.2.2.2.1
  have h64 := pow6 hn
  have l0 : (LV T n x 63 0).testBit q = false := by
    show (2 ^ x).testBit q = false
    rw [tb_pow]
    exact decide_eq_false hxq
  have main : ∀ (f m : Nat), m ≤ 5 → 5 - m < f → (∀ i, i ≤ m → (LV T n x 63 i).testBit q = false) → (∃ k, 1 ≤ k ∧ k ≤ 5 ∧ dst T n q x k = true ∧ f_X0_fewestMouths_2 N f 7 (nI x) (nI q) (nI m) σ = some (nI (k - 1), σ)) ∨ ((∀ i, (LV T n x 63 i).testBit q = false) ∧ f_X0_fewestMouths_2 N f 7 (nI x) (nI q) (nI m) σ = some (-9, σ)) := by
    intro f
    induction f with
    | zero => intro m _ z; omega
    | succ f ih =>
      intro m hm hf hI
      unfold f_X0_fewestMouths_2
      rw [show (4 : Int32) = nI 4 from rfl]
      by_cases e : m = 5
      · subst e
        right
        refine ⟨fun i => ?_, by rw [if_pos (nI_lt (by omega) (by omega))]⟩
        by_cases c : i ≤ 5
        · exact hI i c
        · rw [LV_stable hT hx (show n - 1 ≤ i by omega), ← LV_stable hT hx (show n - 1 ≤ 5 by omega)]
          exact hI 5 (by omega)
      · have hl : LV T n x 63 (m + 1) < 64 := Nat.lt_of_lt_of_le (LV_lt hT hx _) h64
        rw [if_neg (nI_nlt (by omega) (by omega)), nI_1, bIe (show f_X0_reached N 7 (nI x) (63 : Int32) (nI (m + 1)) σ = _ from p_reached (M := 63) (by omega) hR h hx (by decide) (by omega)), bIe (p_holds (N := N) hl (show q < 6 by omega)), if10]
        cases c : (LV T n x 63 (m + 1)).testBit q with
        | true =>
          left
          exact ⟨m + 1, by omega, by omega, dst_iff.mpr ⟨c, fun i hi => hI i (by omega)⟩, rfl⟩
        | false =>
          rw [if_neg Bool.false_ne_true]
          exact ih (m + 1) (by omega) (by omega) (fun i hi => by
            by_cases e2 : i = m + 1
            · rw [e2]; exact c
            · exact hI i (by omega))
  unfold f_X0_fewestMouths
  rw [if_pos OKx.2.2.2.1]
  exact main N 0 (by omega) (by omega) (fun i hi => by rw [show i = 0 by omega]; exact l0)
/-- the least one, sought from above -/
def nd (P : Nat → Bool) (n : Nat) : Nat → Nat
  | 0 => 0
  | i + 1 => if P (n - 1 - i) then n - 1 - i else nd P n i
theorem nd_ok {P : Nat → Bool} {n : Nat} : ∀ i, i ≤ n → (∃ m, n - i ≤ m ∧ m < n ∧ P m = true) → n - i ≤ nd P n i ∧ nd P n i < n ∧ P (nd P n i) = true ∧ ∀ m, n - i ≤ m → m < nd P n i → P m = false := by
  intro i
  induction i with
  | zero => rintro _ ⟨m, m1, m2, _⟩; omega
  | succ i ih =>
    intro hi hm
    rw [nd]
    cases c : P (n - 1 - i) with
    | true =>
      rw [if_pos rfl]
      exact ⟨by omega, by omega, c, fun m m1 m2 => by omega⟩
    | false =>
      rw [if_neg Bool.false_ne_true]
      obtain ⟨m, m1, m2, m3⟩ := hm
      have hne : m ≠ n - 1 - i := fun e => by rw [e, c] at m3; exact Bool.noConfusion m3
      obtain ⟨a1, a2, a3, a4⟩ := ih (by omega) ⟨m, by omega, m2, m3⟩
      refine ⟨by omega, a2, a3, fun z z1 z2 => ?_⟩
      by_cases e : z = n - 1 - i
      · rw [e]; exact c
      · exact a4 z (by omega) z2
theorem nd_first {P : Nat → Bool} {n : Nat} (h : ∃ m, m < n ∧ P m = true) : nd P n n = fa_first P n := by
  obtain ⟨h1, h2, h3⟩ := first_yes h
  obtain ⟨m, m1, m2⟩ := h
  obtain ⟨a1, a2, a3, a4⟩ := nd_ok n (Nat.le_refl n) ⟨m, by omega, m1, m2⟩
  exact fb_first_one (p := fun j => P j = true) a3 (fun k hk => by rw [a4 k (by omega) hk]; decide) h2 (fun k hk => by rw [h3 k hk]; decide)
theorem m1_add (j : Nat) : nI j + (-1) = nI j - 1 := by
  rw [Int32.sub_eq_add_neg]
theorem rel_order {b : Bool} {σ τ : Mm} {r m : Nat} (h : Rel b σ) (hr : r < 6) (hm : m ≤ 40) (e : τ.2 = σ.2) (f : ∀ a k, a ≠ 37 + 2 * r → a ≠ 38 + 2 * r → a ≠ 80 → a ≠ 86 → ¬ (a = 68 ∧ k = r) → ¬ (a = 69 ∧ 40 * r ≤ k ∧ k < 40 * r + 40) → gi τ a k = gi σ a k) (h1 : gi τ (37 + 2 * r) 1 = nI m) (h2 : gi τ 68 r = nI m) (h3 : ∀ i, i < m → gi τ (38 + 2 * r) i = gi τ 69 (40 * r + i)) : Rel b τ := by
  refine ⟨Rf_eq (by rw [e]) h.1, RelC_congr (σ := σ) (fun a k q => by unfold inC at q; exact f a k (by omega) (by omega) (by omega) (by omega) (by omega) (by omega)) (fun k => ⟨by unfold gl; rw [e], by unfold gl; rw [e]⟩) h.2.1, fun s hs => ?_, RelT_congr (σ := σ) (fun a k q => by unfold inT at q; exact f a k (by omega) (by omega) (by omega) (by omega) (by omega) (by omega)) h.2.2.2.1, TW_congr (σ := σ) (fun a k q => by unfold inW at q; exact f a k (by omega) (by omega) (by omega) (by omega) (by omega) (by omega)) h.2.2.2.2⟩
  by_cases c : s = r
  · subst c
    exact ⟨h1.trans h2.symm, Or.inr ⟨m, hm, h2, h3⟩⟩
  · obtain ⟨g1, g2⟩ := h.2.2.1 s hs
    have e1 : gi τ (37 + 2 * s) 1 = gi σ (37 + 2 * s) 1 := f _ _ (by omega) (by omega) (by omega) (by omega) (by omega) (by omega)
    have e2 : gi τ 68 s = gi σ 68 s := f _ _ (by omega) (by omega) (by omega) (by omega) (by omega) (by omega)
    rw [e1, e2]
    refine ⟨g1, g2.imp id (fun ⟨k, k1, k2, k3⟩ => ⟨k, k1, k2, fun i hi => ?_⟩)⟩
    rw [f _ _ (by omega) (by omega) (by omega) (by omega) (by omega) (by omega), f 69 _ (by omega) (by omega) (by omega) (by omega) (by omega) (by omega)]
    exact k3 i hi
theorem s_order {N : Nat} (hN : 100 ≤ N) (x z w : Int32) : Sim (f_X5_order N 0 x z w) (f_X6_order N 66 x z w) := by
  intro b σ h
  have hR := h.1
  obtain ⟨n, kd, al, sg, ds, kp, w1, w2, w3⟩ := h.2.2.2.2
  have hs := w2.1.1
  have hn := w1.1
  have hP := pl_cases b
  have h64 := pow6 hn
  have hMS := TW_MS (b := b) w1 w3
  rcases arg_two x z hn with q | ⟨p, q, hp, hq, hpq, rfl, rfl⟩
  · refine ⟨-1, σ, σ, b, ?_, ?_, h⟩
    · unfold f_X5_order
      rw [if_pos OKx.1, bIe (two_x0 (N := N) hR hs hn q)]
      rfl
    · unfold f_X6_order
      rw [if_pos OKx.2.1, bIe (two_m0 (N := N) w3.1 hn q)]
      rfl
  · rcases arg2 w 6 (by omega) with c | ⟨r, hr, rfl⟩
    · refine ⟨-1, σ, σ, b, ?_, ?_, h⟩
      · unfold f_X5_order
        rw [if_pos OKx.1, bIe (two_x1 (N := N) hR hs hn hp hq hpq), if_neg (show ¬ (1 : Int32) = 0 by decide), bIe (p_isRowX (N := N) c)]
        rfl
      · unfold f_X6_order
        rw [if_pos OKx.2.1, bIe (two_m1 (N := N) w3.1 hn hp hq hpq), if_neg (show ¬ (1 : Int32) = 0 by decide), bIe (p_isRowM (N := N) c)]
        rfl
    · let T := te n kd (rep al sg ds).1 (rep al sg ds).2.1 (rep al sg ds).2.2.2
      have hGX : GX σ 7 n T := YX_GX hn (Or.inl rfl) w2.2.1
      have hT : ∀ m, m < n → T m < 2 ^ n := hGX.2.2.2.1
      rcases p_few (N := N) (by omega) hR hGX hp hq hpq with ⟨s, s1, s2, s3, s4⟩ | ⟨s1, s2⟩
      · -- there is a way
        let W : Nat → Nat := wy T n q s p
        have hW := wy_ok hn hT hp s3
        have hWs : W s = q := wy_s hn hT hp s3
        -- the class writes it
        let τ0 : Mm := fil (si σ (37 + 2 * r) 1 (nI (s + 1))) (38 + 2 * r) 0 (s + 1) 0
        let τ1 : Mm := si (si τ0 (38 + 2 * r) 0 (nI p)) (38 + 2 * r) s (nI q)
        have f0 : ∀ a k, a ≠ 37 + 2 * r → a ≠ 38 + 2 * r → gi τ1 a k = gi σ a k := fun a k z1 z2 => by
          show gi (si (si (fil (si σ (37 + 2 * r) 1 (nI (s + 1))) (38 + 2 * r) 0 (s + 1) 0) (38 + 2 * r) 0 (nI p)) (38 + 2 * r) s (nI q)) a k = _
          rw [gi_si, if_neg (by omega), gi_si, if_neg (by omega), gi_fil, if_neg (by omega), gi_si, if_neg (by omega)]
        have mx : ∀ (f i : Nat) (τ : Mm), 1 ≤ i → i ≤ s → s - i < f → τ.2 = σ.2 → (∀ a k, a ≠ 37 + 2 * r → a ≠ 38 + 2 * r → gi τ a k = gi σ a k) → gi τ (37 + 2 * r) 1 = nI (s + 1) → (∀ k, k < i ∨ k = s → gi τ (38 + 2 * r) k = nI (W k)) → ∃ ρ, f_X5_writeWay_32 N f 0 (nI q) (nI (s - 1)) (37 + 2 * r) (nI (W (i - 1))) (nI i) τ = some ρ ∧ ρ.2 = σ.2 ∧ (∀ a k, a ≠ 37 + 2 * r → a ≠ 38 + 2 * r → gi ρ a k = gi σ a k) ∧ gi ρ (37 + 2 * r) 1 = nI (s + 1) ∧ ∀ k, k ≤ s → gi ρ (38 + 2 * r) k = nI (W k) := by
          intro f
          induction f with
          | zero => intro i τ _ _ z; omega
          | succ f ih =>
            intro i τ hi1 hi hf e2 ef e1 eW
            unfold f_X5_writeWay_32
            by_cases e : i = s
            · subst e
              refine ⟨τ, by rw [if_pos (nI_lt (by omega) (by omega))], e2, ef, e1, fun k hk => eW k (by omega)⟩
            · have hRt : Rf b τ := Rf_eq (by rw [e2]) hR
              have t8 : gi τ (pl b) 8 = nI n := (ef _ _ (by omega) (by omega)).trans hs
              have hGt : GX τ 7 n T := ⟨(ef _ _ (by omega) (by omega)).trans hGX.1, fun m hm => (ef _ _ (by omega) (by omega)).trans (hGX.2.1 m hm), hn, hT, Or.inl rfl⟩
              have t12 : ∀ m, m < n → gi τ 12 m = nI (T m) := hGt.2.1
              obtain ⟨hWi, hdi⟩ := hW (i - 1) (by omega)
              have hWi : W (i - 1) < n := hWi
              let P : Nat → Bool := fun m => (T (W (i - 1))).testBit m && dst T n q m (s - i)
              have hPe : ∃ m, m < n ∧ P m = true := by
                rw [show s - (i - 1) = (s - i) + 1 by omega] at hdi
                exact dst_next hn hT hWi hdi
              have hnx : nd P n n = W i := by
                rw [nd_first hPe]
                show _ = wy T n q s p i
                obtain ⟨j, rfl⟩ : ∃ j, i = j + 1 := ⟨i - 1, by omega⟩
                rfl
              let ρ0 : Mm := si τ (38 + 2 * r) i (nI (W i))
              obtain ⟨ρ, r1, r2⟩ := ih (i + 1) ρ0 (by omega) (by omega) (by omega) e2 (fun a k z1 z2 => by
                show gi (si τ (38 + 2 * r) i (nI (W i))) a k = _
                rw [gi_si, if_neg (by omega)]
                exact ef a k z1 z2) (by
                show gi (si τ (38 + 2 * r) i (nI (W i))) (37 + 2 * r) 1 = _
                rw [gi_si, if_neg (by omega)]
                exact e1) (fun k hk => by
                show gi (si τ (38 + 2 * r) i (nI (W i))) (38 + 2 * r) k = _
                rw [gi_si]
                by_cases c : k = i
                · rw [if_pos ⟨rfl, c⟩, c]
                · rw [if_neg (by omega)]
                  exact eW k (by omega))
              refine ⟨ρ, ?_, r2⟩
              rw [if_neg (nI_nlt (by omega) (by omega)), BRpl hRt, if_pos (ok_p hP).1, t8]
              simp only [lt]
              -- the search from above
              refine loop (fun k j => f_X5_writeWay_52 N (f_X5_writeWay_32 N f) k 0 (nI q) (nI (s - 1)) (37 + 2 * r) (nI (W (i - 1))) (nI i) (nI (nd P n j)) (nI (n - j) - 1) τ) _ n ?_ ?_ N 0 (by omega) (by omega)
              · intro k
                unfold f_X5_writeWay_52
                rw [Nat.sub_self, if_pos (show nI 0 - 1 < 0 by decide), hnx]
                simp (disch := omega) only [↓reduceIte, ↓BRr hRt, OKr, inbT, ix_nI, lt, nI_1]
                rw [show i + 1 - 1 = i by omega] at r1
                exact r1
              · intro k j hj A hA
                unfold f_X5_writeWay_52 f_X5_writeWay_85 f_X5_writeWay_86 f_X5_writeWay_114
                have hm : n - 1 - j < n := by omega
                have ht := hT (W (i - 1)) hWi
                rw [show nI (n - j) - 1 = nI (n - 1 - j) from (nI_subT (b := 1) (by omega)).trans (by rw [show n - j - 1 = n - 1 - j by omega]), if_neg (nI_pos (by omega)), m1_add, hA, show n - (j + 1) = n - 1 - j by omega, nd]
                by_cases c : n - 1 - j = q
                · have hPq : P (n - 1 - j) = false := by
                    show (_ && dst T n q (n - 1 - j) (s - i)) = false
                    rw [Bool.and_eq_false_iff]
                    right
                    cases e5 : dst T n q (n - 1 - j) (s - i) with
                    | false => rfl
                    | true =>
                      have h0 : dst T n q (n - 1 - j) 0 = true := dst_iff.mpr ⟨by rw [c]; exact LV_p, fun i hi => by omega⟩
                      have := dst_one h0 e5
                      omega
                  rw [if_pos (by rw [c]), if_pos rfl, hPq, if_neg Bool.false_ne_true]
                · rw [if_neg (fun z => c ((nI_eq (by omega) (by omega)).mp z))]
                  simp (disch := omega) only [↓reduceIte, ↓BR hRt, OKx, inbT, ix_nI, t12 _ hWi]
                  rw [bIe (p_holds (N := N) (by omega) (show n - 1 - j < 6 by omega)), if10]
                  cases c2 : (T (W (i - 1))).testBit (n - 1 - j) with
                  | false =>
                    have hPq : P (n - 1 - j) = false := by show (_ && _) = false; rw [c2]; rfl
                    rw [if_neg Bool.false_ne_true, hPq, if_neg Bool.false_ne_true]
                  | true =>
                    have hPd : P (n - 1 - j) = dst T n q (n - 1 - j) (s - i) := by show (_ && _) = _; rw [c2, Bool.true_and]
                    rw [if_pos rfl, if_neg (show ¬ (1 : Int32) = 0 by decide), hPd]
                    simp (disch := omega) only [↓reduceIte, ↓(BR hRt).2.2.2.2.1, OKx]
                    rw [nI_subT (by omega)]
                    rcases p_few (N := N) (by omega) hRt hGt hm hq c with ⟨k3, k31, k32, k33, k34⟩ | ⟨k31, k32⟩
                    · rw [bIe k34]
                      by_cases c3 : k3 = s - i
                      · rw [if_pos (by rw [c3, show s - i - 1 = s - 1 - i by omega]), ← c3, k33, if_pos rfl]
                      · rw [if_neg (fun z => c3 (by have := (nI_eq (by omega) (by omega)).mp z; omega))]
                        have : dst T n q (n - 1 - j) (s - i) = false := by
                          cases e5 : dst T n q (n - 1 - j) (s - i) with
                          | false => rfl
                          | true => exact absurd (dst_one k33 e5) c3
                        rw [this, if_neg Bool.false_ne_true]
                    · rw [bIe k32, if_neg (show ¬ (-9 : Int32) = nI (s - 1 - i) from fun z => by
                        have := congrArg Int32.toInt z
                        rw [nI_toInt (by omega)] at this
                        exact absurd this (by show ¬ (-9 : Int) = ((s - 1 - i : Nat) : Int); omega))]
                      have : dst T n q (n - 1 - j) (s - i) = false := by
                        unfold dst
                        rw [k31, Bool.false_and]
                      rw [this, if_neg Bool.false_ne_true]
        obtain ⟨τ, t1, t2, t3, t4, t5⟩ := mx N 1 τ1 (by omega) (by omega) (by omega) rfl f0 (by
          show gi (si (si (fil (si σ (37 + 2 * r) 1 (nI (s + 1))) (38 + 2 * r) 0 (s + 1) 0) (38 + 2 * r) 0 (nI p)) (38 + 2 * r) s (nI q)) (37 + 2 * r) 1 = _
          rw [gi_si, if_neg (by omega), gi_si, if_neg (by omega), gi_fil, if_neg (by omega), gi_si, if_pos ⟨rfl, rfl⟩]) (fun k hk => by
          show gi (si (si (fil (si σ (37 + 2 * r) 1 (nI (s + 1))) (38 + 2 * r) 0 (s + 1) 0) (38 + 2 * r) 0 (nI p)) (38 + 2 * r) s (nI q)) (38 + 2 * r) k = _
          by_cases c : k = s
          · rw [c, gi_si, if_pos ⟨rfl, rfl⟩, hWs]
          · rw [gi_si, if_neg (by omega), gi_si, if_pos (by omega), show k = 0 by omega]
            rfl)
        have hRt : Rf b τ := Rf_eq (by rw [t2]) hR
        have em : ∀ a k, 66 ≤ a → gi τ a k = gi σ a k := fun a k z => t3 a k (by omega) (by omega)
        -- the reference writes it
        let S : Mm := blt τ 80 0 n (fun m => nI (T m))
        have hMt : MS τ 78 n kd (rep al sg ds) := MS_congr (σ := σ) (fun a k z => em a k (by omega)) hMS
        have hGM : GM S n T := GM_lay hMt
        have hRS : Rf b S := hRt
        have mm : ∀ (f i : Nat) (υ : Mm), 1 ≤ i → i ≤ s + 1 → s + 1 - i < f → υ.2 = S.2 → (∀ a k, a ≠ 86 → gi υ a k = gi S a k) → (∀ k, k < i → gi υ 86 k = nI (W k)) → ∃ ω, f_X6_order_54 N f 66 (nI q) (nI r) (nI s) (nI i) υ = some (nI (s - 1), ω) ∧ ω.2 = S.2 ∧ (∀ a k, a ≠ 86 → ¬ (a = 68 ∧ k = r) → ¬ (a = 69 ∧ 40 * r ≤ k ∧ k < 40 * r + 40) → gi ω a k = gi S a k) ∧ gi ω 68 r = nI (s + 1) ∧ ∀ k, k ≤ s → gi ω 69 (40 * r + k) = nI (W k) := by
          intro f
          induction f with
          | zero => intro i υ _ _ z; omega
          | succ f ih =>
            intro i υ hi1 hi hf e2 ef eW
            have hRu : Rf b υ := Rf_eq (by rw [e2]) hRS
            unfold f_X6_order_54
            by_cases e : i = s + 1
            · subst e
              let υ1 : Mm := si υ 68 r (nI (s + 1))
              have hR1 : Rf b υ1 := hRu
              let V : Nat → Int32 := fun k => if k < s + 1 then nI (W k) else 0
              have g86 : ∀ k, gi υ1 86 k = gi υ 86 k := fun k => by
                show gi (si υ 68 r _) 86 k = _
                rw [gi_si, if_neg (by omega)]
              have lay : f_X6_layRow N 66 (nI r) 86 (nI (s + 1)) υ = some (blt υ1 69 (40 * r) 40 V) := by
                unfold f_X6_layRow
                rw [if_pos OKx.2.1, if_pos (show okA 0 86 = true by decide)]
                simp (disch := omega) only [↓reduceIte, ↓BR hRu, OKm, inbT, ix_nI, lt]
                have z := loop (fun k j => f_X6_layRow_10 N k 66 (nI r) 86 (nI (s + 1)) (nI j) (blt υ1 69 (40 * r) j V)) (some (blt υ1 69 (40 * r) 40 V)) 40 ?_ ?_ N 0 (by omega) (by omega)
                · rw [blt_0] at z
                  exact z
                · intro k
                  unfold f_X6_layRow_10
                  rw [show (40 : Int32) = nI 40 from rfl, if_pos (nI_le (Nat.le_refl 40) (by decide))]
                · intro k j hj A hA
                  have fin : ∀ v, v = V j → f_X6_layRow_42 N (f_X6_layRow_10 N k) 66 (nI r) 86 (nI (s + 1)) (nI j) v (nI (40 * r + j)) 69 (blt υ1 69 (40 * r) j V) = A := by
                    intro v hv
                    unfold f_X6_layRow_42
                    simp (disch := omega) only [↓reduceIte, OKm, inbT, ix_nI, lt, nI_1]
                    rw [hv, blt_s, hA]
                  unfold f_X6_layRow_10
                  rw [show (40 : Int32) = nI 40 from rfl, if_neg (nI_ge hj (by omega))]
                  simp (disch := omega) only [↓reduceIte, ↓BR (Rf_blt hR1), OKm, pk_mul, nI_add]
                  by_cases c : j < s + 1
                  · rw [if_neg (nI_ge c (by omega)), if_pos (inbT (by omega) (by omega)), ix_nI (by omega), blt_out (by omega), g86, eW j c]
                    exact fin _ (by show _ = (if j < s + 1 then nI (W j) else 0); rw [if_pos c])
                  · rw [if_pos (nI_le (by omega) (by omega))]
                    exact fin _ (by show _ = (if j < s + 1 then nI (W j) else 0); rw [if_neg c])
              refine ⟨blt υ1 69 (40 * r) 40 V, ?_, e2, fun a k z1 z2 z3 => ?_, ?_, fun k hk => ?_⟩
              · rw [if_pos (nI_lt (by omega) (by omega))]
                simp (disch := omega) only [↓reduceIte, ↓BR hRu, OKm, nI_1]
                rw [bVe lay, show nI s - (1 : Int32) = nI (s - 1) from nI_subT (b := 1) s1]
              · rw [gi_blt, if_neg (by omega)]
                show gi (si υ 68 r _) a k = _
                rw [gi_si, if_neg z2]
                exact ef a k z1
              · rw [blt_out (by omega)]
                show gi (si υ 68 r _) 68 r = _
                rw [gi_si, if_pos ⟨rfl, rfl⟩]
              · rw [gi_blt, if_pos (by omega), show 40 * r + k - 40 * r = k by omega]
                show (if k < s + 1 then nI (W k) else 0) = _
                rw [if_pos (by omega)]
            · obtain ⟨hWi, hdi⟩ := hW (i - 1) (by omega)
              have hWi : W (i - 1) < n := hWi
              have hwf := wy_first (k := i - 1) hn hT hp s3 (by omega)
              rw [show i - 1 + 1 = i by omega] at hwf
              obtain ⟨v1, v2, v3⟩ := hwf
              have hGu : GM υ n T := ⟨(ef _ _ (by omega)).trans hGM.1, fun m hm => (ef _ _ (by omega)).trans (hGM.2.1 m hm), hn, hT⟩
              have ht := hT (W (i - 1)) hWi
              have u86 := eW (i - 1) (by omega)
              have stq : ∀ j, j < n → ∃ rr, f_X6_stepsOf N 66 (nI j) (nI q) υ = some (rr, υ) ∧ (rr = nI (s - i) ↔ dst T n q j (s - i) = true) := by
                intro j hj
                obtain ⟨rr, r1, r2⟩ := p_stepsOf (N := N) (by omega) hRu hGu hj hq
                refine ⟨rr, r1, ?_⟩
                rcases r2 with ⟨k, k1, rfl, k3, k4⟩ | ⟨rfl, k3⟩
                · have hd : dst T n q j k = true := dst_iff.mpr ⟨k3, k4⟩
                  constructor
                  · intro z
                    rw [← (nI_eq (by omega) (by omega)).mp z]
                    exact hd
                  · intro z
                    rw [dst_one hd z]
                · constructor
                  · intro z
                    have := congrArg Int32.toInt z
                    rw [nI_toInt (by omega)] at this
                    exact absurd this (by show ¬ (-9 : Int) = ((s - i : Nat) : Int); omega)
                  · intro z
                    have := (dst_iff.mp z).1
                    rw [k3] at this
                    exact Bool.noConfusion this
              let υ1 : Mm := si υ 86 i (nI (W i))
              obtain ⟨ω, o1, o2⟩ := ih (i + 1) υ1 (by omega) (by omega) (by omega) e2 (fun a k z => by
                show gi (si υ 86 i _) a k = _
                rw [gi_si, if_neg (by omega)]
                exact ef a k z) (fun k hk => by
                show gi (si υ 86 i _) 86 k = _
                rw [gi_si]
                by_cases c : k = i
                · rw [if_pos ⟨rfl, c⟩, c]
                · rw [if_neg (by omega)]
                  exact eW k (by omega))
              refine ⟨ω, ?_, o2⟩
              rw [if_neg (nI_nlt (by omega) (by omega))]
              have hi1' : nI i - (1 : Int32) = nI (i - 1) := nI_subT (b := 1) hi1
              have vw : W i < n := v1
              refine loop (fun k j => f_X6_order_64 N (f_X6_order_54 N f) k 66 (nI q) (nI r) (nI s) (nI i) (nI j) υ) _ (W i) ?_ ?_ N 0 (by omega) (by omega)
              · intro k
                unfold f_X6_order_64
                rw [hi1', nI_subT (show i ≤ s by omega)]
                simp (disch := omega) only [↓reduceIte, ↓BR hRu, OKm, inbT, ix_nI, u86, hGu.2.1 _ hWi]
                rw [bIe (p_has (N := N) (by omega) (show W i < 6 by omega)), if10]
                rw [Bool.and_eq_true] at v2
                rw [if_pos v2.1]
                obtain ⟨rr, q1, q2⟩ := stq (W i) v1
                rw [bIe q1, if_pos (q2.mpr v2.2)]
                simp (disch := omega) only [↓reduceIte, ↓BR hRu, OKm, inbT, ix_nI, lt, nI_1]
                exact o1
              · intro k j hj A hA
                unfold f_X6_order_64 f_X6_order_101
                rw [hi1', nI_subT (show i ≤ s by omega), hA]
                simp (disch := omega) only [↓reduceIte, ↓BR hRu, OKm, inbT, ix_nI, u86, hGu.2.1 _ hWi]
                rw [bIe (p_has (N := N) (by omega) (show j < 6 by omega)), if10, nI_1]
                have hf := v3 j hj
                cases c : (T (W (i - 1))).testBit j with
                | false => rw [if_neg Bool.false_ne_true, nI_1]
                | true =>
                  have c' : (T (wy T n q s p (i - 1))).testBit j = true := c
                  rw [c', Bool.true_and] at hf
                  obtain ⟨rr, q1, q2⟩ := stq j (by omega)
                  rw [if_pos rfl, bIe q1, if_neg (fun z => by rw [q2.mp z] at hf; exact Bool.noConfusion hf), nI_1]
        obtain ⟨ω, o1, o2, o3, o4, o5⟩ := mm N 1 (si S 86 0 (nI p)) (by omega) (by omega) (by omega) rfl (fun a k z => by rw [gi_si, if_neg (by omega)]) (fun k hk => by rw [gi_si, if_pos (by omega), show k = 0 by omega]; rfl)
        refine ⟨nI (s - 1), τ, ω, b, ?_, ?_, ?_⟩
        · unfold f_X5_order
          rw [if_pos OKx.1, bIe (two_x1 (N := N) hR hs hn hp hq hpq), if_neg (show ¬ (1 : Int32) = 0 by decide), bIe (p_isRowXy (N := N) hr), if_neg (show ¬ (1 : Int32) = 0 by decide)]
          simp (disch := omega) only [↓reduceIte, ↓BR hR, OKx]
          rw [bIe s4, if_neg (show ¬ nI (s - 1) = (-9 : Int32) from fun z => by
            have := congrArg Int32.toInt z
            rw [nI_toInt (by omega)] at this
            exact absurd this (by show ¬ ((s - 1 : Nat) : Int) = -9; omega))]
          simp (disch := omega) only [↓reduceIte, ↓BR hR, OKx, OKr, inbT, ix_nI]
          have wwy : f_X5_writeWay N 0 (nI p) (nI q) (nI (s - 1)) (37 + 2 * r) σ = some τ := by
            unfold f_X5_writeWay
            have hR0 : Rf b τ0 := hR
            have ht0 : τ0 = fil (si σ (37 + 2 * r) 1 (nI (s + 1))) (38 + 2 * r) 0 (s + 1) 0 := rfl
            rw [if_pos OKx.1, if_pos (OKr hr).1, show (2 : Int32) = nI 2 from rfl, nI_add, show s - 1 + 2 = s + 1 by omega, bVe (p_begin hN hR hr (by omega)), ← ht0, nI_1, show s - 1 + 1 = s by omega, show (0 : Int32) = nI 0 from rfl]
            simp (disch := omega) only [↓reduceIte, ↓BRr hR0, ↓BRs, OKr, inbT, ix_nI, lt]
            exact t1
          rw [bVe wwy]
        · unfold f_X6_order
          obtain ⟨rr, r1, r2⟩ := p_stepsOf (N := N) (by omega) hRS hGM hp hq
          have hrr : rr = nI s := by
            rcases r2 with ⟨k, k1, rfl, k3, k4⟩ | ⟨rfl, k3⟩
            · rw [dst_one (dst_iff.mpr ⟨k3, k4⟩) s3]
            · have := (dst_iff.mp s3).1
              rw [k3] at this
              exact Bool.noConfusion this
          subst hrr
          rw [if_pos OKx.2.1, bIe (two_m1 (N := N) ((em _ _ (by omega)).trans w3.1) hn hp hq hpq), if_neg (show ¬ (1 : Int32) = 0 by decide), bIe (p_isRowMy (N := N) hr), if_neg (show ¬ (1 : Int32) = 0 by decide)]
          simp (disch := omega) only [↓reduceIte, ↓BR hRt, OKm]
          rw [bVe (show f_X6_layTells N 66 78 τ = some S from pm_layTells (by omega) hRt hMt), bIe r1, if_neg (show ¬ nI s = (-9 : Int32) from fun z => by
            have := congrArg Int32.toInt z
            rw [nI_toInt (by omega)] at this
            exact absurd this (by show ¬ (s : Int) = -9; omega)), show (0 : Int32) = nI 0 from rfl]
          simp (disch := omega) only [↓reduceIte, ↓BR hRS, OKm, inbT, ix_nI, lt]
          exact o1
        · have fS : ∀ a k, a ≠ 80 → gi S a k = gi τ a k := fun a k z => blt_out z
          refine rel_order (m := s + 1) h hr (by omega) (o2.trans t2) (fun a k z1 z2 z3 z4 z5 z6 => by rw [o3 a k z4 z5 z6, fS a k z3, t3 a k z1 z2]) (by rw [o3 _ _ (by omega) (by omega) (by omega), fS _ _ (by omega)]; exact t4) o4 (fun i hi => by rw [o5 i (by omega), o3 _ _ (by omega) (by omega) (by omega), fS _ _ (by omega)]; exact t5 i (by omega))
      · -- there is none
        let S : Mm := blt σ 80 0 n (fun m => nI (T m))
        have hGM : GM S n T := GM_lay hMS
        have hRS : Rf b S := hR
        refine ⟨-9, σ, S, b, ?_, ?_, rel_lay80 h _ _⟩
        · unfold f_X5_order
          rw [if_pos OKx.1, bIe (two_x1 (N := N) hR hs hn hp hq hpq), if_neg (show ¬ (1 : Int32) = 0 by decide), bIe (p_isRowXy (N := N) hr), if_neg (show ¬ (1 : Int32) = 0 by decide)]
          simp (disch := omega) only [↓reduceIte, ↓BR hR, OKx]
          rw [bIe s2, if_pos rfl]
        · unfold f_X6_order
          obtain ⟨rr, r1, r2⟩ := p_stepsOf (N := N) (by omega) hRS hGM hp hq
          have hrr : rr = -9 := by
            rcases r2 with ⟨k, k1, rfl, k3, k4⟩ | ⟨e, k3⟩
            · rw [s1 k] at k3; exact Bool.noConfusion k3
            · exact e
          subst hrr
          rw [if_pos OKx.2.1, bIe (two_m1 (N := N) w3.1 hn hp hq hpq), if_neg (show ¬ (1 : Int32) = 0 by decide), bIe (p_isRowMy (N := N) hr), if_neg (show ¬ (1 : Int32) = 0 by decide)]
          simp (disch := omega) only [↓reduceIte, ↓BR hR, OKm]
          rw [bVe (show f_X6_layTells N 66 78 σ = some S from pm_layTells (by omega) hR hMS), bIe r1, if_pos rfl]
