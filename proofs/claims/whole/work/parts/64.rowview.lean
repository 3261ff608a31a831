/-! ===== PURE: what both sides read of a row ===== -/
theorem loopR {β : Type} (G : Nat → Nat → β) (R : β) (n : Nat) (I : Nat → Prop) (hend : ∀ f, I n → G (f + 1) n = R) (hstep : ∀ f i, i < n → I i → (I (i + 1) → G f (i + 1) = R) → G (f + 1) i = R) : ∀ f i, i ≤ n → n - i < f → I i → G f i = R := by
  intro f
  induction f with
  | zero => intro i _ h; omega
  | succ f ih =>
    intro i h1 h2 h3
    by_cases e : i = n
    · rw [e] at h3 ⊢; exact hend f h3
    · exact hstep f i (by omega) h3 (fun h => ih (i + 1) (by omega) (by omega) h)
/-- the row r as it lies on both sides: its size, its places -/
def RV (σ : Mm) (r m : Nat) (g : Nat → Int32) : Prop := r < 6 ∧ m ≤ 40 ∧ gi σ (37 + 2 * r) 1 = nI m ∧ gi σ 68 r = nI m ∧ (∀ i, i < m → gi σ (38 + 2 * r) i = g i) ∧ ∀ i, i < m → gi σ 69 (40 * r + i) = g i
theorem rel_RV {b : Bool} {σ : Mm} {r : Nat} (h : Rel b σ) (hr : r < 6) : (gi σ (37 + 2 * r) 1 = -1 ∧ gi σ 68 r = -1) ∨ ∃ m g, RV σ r m g := by
  obtain ⟨h1, h2⟩ := h.2.2.1 r hr
  rcases h2 with h2 | ⟨m, q1, q2, q3⟩
  · exact Or.inl ⟨h1.trans h2, h2⟩
  · exact Or.inr ⟨m, fun i => gi σ 69 (40 * r + i), hr, q1, h1.trans q2, q2, q3, fun _ _ => rfl⟩
/-- the row on the reference's side alone -/
def RM (σ : Mm) (r m : Nat) (g : Nat → Int32) : Prop := r < 6 ∧ m ≤ 40 ∧ gi σ 68 r = nI m ∧ ∀ i, i < m → gi σ 69 (40 * r + i) = g i
theorem RV_RM {σ : Mm} {r m : Nat} {g : Nat → Int32} (h : RV σ r m g) : RM σ r m g := ⟨h.1, h.2.1, h.2.2.2.1, h.2.2.2.2.2⟩
/-- an int from 0 to B - 1 -/
def tgB (B : Nat) (x : Int32) : Bool := decide (¬ x < 0) && decide (x < nI B)
theorem tgB_t {B : Nat} {x : Int32} (hB : B < 2147483648) (h : tgB B x = true) : ∃ t, t < B ∧ x = nI t := by
  unfold tgB at h
  rw [Bool.and_eq_true] at h
  obtain ⟨h1, h2⟩ := h
  rcases arg2 x B hB with (q | q) | q
  · exact absurd q (of_decide_eq_true h1)
  · exact absurd (of_decide_eq_true h2) (Int32.not_lt.mpr q)
  · exact q
theorem tgB_n {B t : Nat} (hB : B < 2147483648) (h : t < B) : tgB B (nI t) = true := by
  unfold tgB
  rw [decide_eq_true (nI_pos (by omega)), decide_eq_true (nI_lt h (by omega))]
  rfl
theorem p_inB {N B : Nat} {σ : Mm} {x : Int32} (hB : B < 2147483647) : f_X6_in N x 0 (nI B) σ = some (if tgB (B + 1) x then 1 else 0, σ) := by
  rcases arg2 x (B + 1) (by omega) with q | ⟨t, ht, rfl⟩
  · rw [p_in0 (N := N) (q.imp id (fun z => le_lt6 (by omega) z))]
    have : tgB (B + 1) x = false := by
      unfold tgB
      rcases q with q | q
      · rw [decide_eq_false (fun z => z q)]; rfl
      · rw [decide_eq_false (p := x < nI (B + 1)) (Int32.not_lt.mpr q), Bool.and_false]
    rw [this]
    rfl
  · rw [p_in1 (N := N) (nI_pos (by omega)) (nI_nlt (by omega) (by omega)), tgB_n (by omega) ht]
    rfl
theorem p_below {N B r m : Nat} {b : Bool} {σ : Mm} {g : Nat → Int32} (hN : 100 ≤ N) (hR : Rf b σ) (h : RV σ r m g) : f_X3_allBelow N (37 + 2 * r) (nI B) σ = some (if allb (fun i => tgB B (g i)) m then 1 else 0, σ) := by
  obtain ⟨h1, h2, h3, h4, h5, h6⟩ := h
  unfold f_X3_allBelow
  rw [if_pos (OKr h1).1]
  refine loopR (fun f i => f_X3_allBelow_2 N f (37 + 2 * r) (nI B) (nI i) σ) _ m (fun i => allb (fun i => tgB B (g i)) i = true) ?_ ?_ N 0 (by omega) (by omega) rfl
  · intro f hI
    unfold f_X3_allBelow_2
    rw [h3, if_pos (nI_le (Nat.le_refl m) (by omega)), hI]
    rfl
  · intro f i hi hI ih
    unfold f_X3_allBelow_2
    rw [h3, if_neg (nI_ge hi (by omega))]
    simp (disch := omega) only [↓reduceIte, ↓BR hR, OKr, inbT, ix_nI, h5 i hi, nI_1]
    by_cases c1 : g i < 0
    · rw [if_pos c1, allb_f (i := i) (by show (decide (¬ g i < 0) && _) = false; rw [decide_eq_false (fun z => z c1)]; rfl) hi]
      rfl
    · rw [if_neg c1]
      by_cases c2 : g i < nI B
      · rw [if_pos c2]
        refine ih ?_
        rw [allb, hI]
        show (true && (decide (¬ g i < 0) && decide (g i < nI B))) = true
        rw [decide_eq_true c1, decide_eq_true c2]
        rfl
      · rw [if_neg c2, allb_f (i := i) (by show (_ && decide (g i < nI B)) = false; rw [decide_eq_false c2, Bool.and_false]) hi]
        rfl
theorem p_tongsM {N r m : Nat} {b : Bool} {σ : Mm} {g : Nat → Int32} (hN : 100 ≤ N) (hR : Rf b σ) (h : RM σ r m g) : f_X6_areTongues N 66 (nI r) σ = some (if allb (fun i => tgB 4 (g i)) m then 1 else 0, σ) := by
  obtain ⟨h1, h2, h4, h6⟩ := h
  unfold f_X6_areTongues
  rw [if_pos OKx.2.1]
  refine loop (fun f i => f_X6_areTongues_4 N f 66 (nI r) (if allb (fun i => tgB 4 (g i)) i then 1 else 0) (nI i) σ) _ m ?_ ?_ N 0 (by omega) (by omega)
  · intro f
    unfold f_X6_areTongues_4
    simp (disch := omega) only [↓reduceIte, ↓BR hR, OKm, inbT, ix_nI, h4]
    rw [if_pos (nI_le (Nat.le_refl m) (by omega)), if_pos (bz_ite _)]
  · intro f i hi A hA
    unfold f_X6_areTongues_4 f_X6_areTongues_36 f_X6_areTongues_37
    simp (disch := omega) only [↓reduceIte, ↓BR hR, OKm, inbT, ix_nI, h4]
    rw [hA, if_neg (nI_ge hi (by omega)), if10, bIe (p_rowAt hR h1 (by omega)), h6 i hi, show (3 : Int32) = nI 3 from rfl, bIe (p_inB (N := N) (by decide)), if10, nI_1, allb]
    cases allb (fun i => tgB 4 (g i)) i with
    | false => rfl
    | true => cases tgB (3 + 1) (g i) <;> rfl
/-- houses agree from the place s on -/
def agB (n : Nat) (al : Nat → Nat) (g : Nat → Int32) (s : Nat) : Bool := allb (fun p => decide (g (s + p) = g (s + ldr al p))) n
theorem p_agrX {N P n r m s : Nat} {b : Bool} {σ : Mm} {g : Nat → Int32} {al : Nat → Nat} (hN : 100 ≤ N) (hR : Rf b σ) (hP : P = 19 ∨ P = 27) (hs : gi σ P 8 = nI n) (hn : n ≤ 6) (hl : ∀ p, p < n → gi σ (P + 6) p = nI (ldr al p) ∧ ldr al p ≤ p) (h : RV σ r m g) (hm : s + n ≤ m) : f_X2_agrees N P (38 + 2 * r) (nI s) σ = some (if agB n al g s then 1 else 0, σ) := by
  obtain ⟨h1, h2, h3, h4, h5, h6⟩ := h
  unfold f_X2_agrees agB
  rw [if_pos (ok_p hP).1, if_pos (OKr h1).2.1]
  refine loopR (fun f i => f_X2_agrees_2 N f P (38 + 2 * r) (nI s) (nI i) σ) _ n (fun i => allb (fun p => decide (g (s + p) = g (s + ldr al p))) i = true) ?_ ?_ N 0 (by omega) (by omega) rfl
  · intro f hI
    unfold f_X2_agrees_2
    rw [hs, if_pos (nI_le (Nat.le_refl n) (by omega)), hI]
    rfl
  · intro f i hi hI ih
    obtain ⟨l1, l2⟩ := hl i hi
    unfold f_X2_agrees_2
    rw [hs, if_neg (nI_ge hi (by omega)), nI_add]
    simp (disch := omega) only [↓reduceIte, ↓BRp hR hP, ok_p hP, OKr, inbT, ix_nI, l1, nI_add, nI_1]
    rw [h5 (s + i) (by omega), h5 (s + ldr al i) (by omega)]
    by_cases c : g (s + i) = g (s + ldr al i)
    · rw [if_pos c]
      refine ih ?_
      rw [allb, hI, decide_eq_true c]
      rfl
    · rw [if_neg c, allb_f (i := i) (decide_eq_false c) hi]
      rfl
def agM (n : Nat) (al : Nat → Nat) (g : Nat → Int32) (s : Nat) : Bool := allb (fun p => allb (fun q => !(al p).testBit q || decide (g (s + p) = g (s + q))) n) n
theorem p_agrMM {N n r m s : Nat} {b : Bool} {σ : Mm} {g : Nat → Int32} {al : Nat → Nat} (hN : 100 ≤ N) (hR : Rf b σ) (hs : gi σ 66 10 = nI n) (hn : n ≤ 6) (ha : ∀ p, p < n → gi σ 74 p = nI (al p) ∧ al p < 2 ^ n) (h : RM σ r m g) (hm : s + n ≤ m) : f_X6_agrees N 66 (nI r) (nI s) σ = some (if agM n al g s then 1 else 0, σ) := by
  obtain ⟨h1, h2, h4, h6⟩ := h
  have h64 := pow6 hn
  unfold f_X6_agrees agM
  rw [if_pos OKx.2.1]
  refine loop (fun f i => f_X6_agrees_5 N f 66 (nI r) (nI s) (if allb (fun p => allb (fun q => !(al p).testBit q || decide (g (s + p) = g (s + q))) n) i then 1 else 0) (nI i) σ) _ n ?_ ?_ N 0 (by omega) (by omega)
  · intro f
    unfold f_X6_agrees_5
    rw [hs, if_pos (nI_le (Nat.le_refl n) (by omega)), if_pos (bz_ite _)]
  · intro f p hp A hA
    obtain ⟨a1, a2⟩ := ha p hp
    unfold f_X6_agrees_5
    rw [hA, hs, if_neg (nI_ge hp (by omega))]
    have z := loop (fun k q => f_X6_agrees_17 N (f_X6_agrees_5 N f) k 66 (nI r) (nI s) (if allb (fun p => allb (fun q => !(al p).testBit q || decide (g (s + p) = g (s + q))) n) p && allb (fun q => !(al p).testBit q || decide (g (s + p) = g (s + q))) q then 1 else 0) (nI p) (nI q) σ) (f_X6_agrees_5 N f 66 (nI r) (nI s) (if allb (fun p => allb (fun q => !(al p).testBit q || decide (g (s + p) = g (s + q))) n) (p + 1) then 1 else 0) (nI (p + 1)) σ) n ?_ ?_ N 0 (by omega) (by omega)
    · rw [show (allb (fun p => allb (fun q => !(al p).testBit q || decide (g (s + p) = g (s + q))) n) p && allb (fun q => !(al p).testBit q || decide (g (s + p) = g (s + q))) 0) = allb (fun p => allb (fun q => !(al p).testBit q || decide (g (s + p) = g (s + q))) n) p from Bool.and_true _] at z
      exact z
    · intro k
      unfold f_X6_agrees_17
      rw [hs, if_pos (nI_le (Nat.le_refl n) (by omega)), nI_1]
      rfl
    · intro k q hq B hB
      unfold f_X6_agrees_17 f_X6_agrees_66 f_X6_agrees_70 f_X6_agrees_71
      rw [hB, hs, if_neg (nI_ge hq (by omega)), if10]
      simp (disch := omega) only [↓reduceIte, ↓BR hR, OKm, inbT, ix_nI, a1]
      rw [bIe (p_has (N := N) (by omega) (show q < 6 by omega)), if10, nI_add, nI_add, bIe (p_rowAt hR h1 (show s + p < 40 by omega)), bIe (p_rowAt hR h1 (show s + q < 40 by omega)), h6 _ (by omega), h6 _ (by omega), nI_1]
      show _ = f_X6_agrees_17 N (f_X6_agrees_5 N f) k 66 (nI r) (nI s) (if allb (fun p => allb (fun q => !(al p).testBit q || decide (g (s + p) = g (s + q))) n) p && (allb (fun q => !(al p).testBit q || decide (g (s + p) = g (s + q))) q && (!(al p).testBit q || decide (g (s + p) = g (s + q)))) then 1 else 0) (nI p) (nI (q + 1)) σ
      cases allb (fun p => allb (fun q => !(al p).testBit q || decide (g (s + p) = g (s + q))) n) p <;> cases allb (fun q => !(al p).testBit q || decide (g (s + p) = g (s + q))) q <;> cases (al p).testBit q <;> try rfl
      by_cases c : g (s + p) = g (s + q)
      · rw [if_pos c, decide_eq_true c]; rfl
      · rw [if_neg c, decide_eq_false c]; rfl
/-- the least one dealt alike -/
theorem ldr_spec {al : Nat → Nat} {p : Nat} (h : (al p).testBit p = true) : (al p).testBit (ldr al p) = true ∧ (∀ j, j < ldr al p → (al p).testBit j = false) ∧ ldr al p ≤ p := by
  unfold ldr
  have h1 := fa_first_le (fun q => (al p).testBit q) p
  refine ⟨?_, fun j hj => fa_first_no (fun q => (al p).testBit q) p j hj, h1⟩
  by_cases c : fa_first (fun q => (al p).testBit q) p < p
  · exact fa_first_yes (fun q => (al p).testBit q) p c
  · rw [show fa_first (fun q => (al p).testBit q) p = p by omega]
    exact h
/-- what okW says of those dealt alike -/
def okAl (n : Nat) (al : Nat → Nat) : Prop := (∀ p, p < n → al p < 2 ^ n ∧ (al p).testBit p = true) ∧ (∀ p q, p < n → q < n → (al p).testBit q = true → al q = al p)
theorem ldr_same {al : Nat → Nat} {n p q : Nat} (h : okAl n al) (hp : p < n) (hq : q < n) (e : al p = al q) : ldr al p = ldr al q := by
  obtain ⟨a1, a2, a3⟩ := ldr_spec (h.1 p hp).2
  obtain ⟨b1, b2, b3⟩ := ldr_spec (h.1 q hq).2
  refine fb_first_one (p := fun j => (al p).testBit j = true) a1 (fun k hk => by rw [a2 k hk]; decide) (by rw [e]; exact b1) (fun k hk => by rw [e, b2 k hk]; decide)
theorem ag_eq {n : Nat} {al : Nat → Nat} {g : Nat → Int32} {s : Nat} (h : okAl n al) : agM n al g s = agB n al g s := by
  rw [Bool.eq_iff_iff]
  unfold agM agB
  constructor
  · intro q
    refine allb_iff.mpr (fun p hp => ?_)
    have := allb_iff.mp (allb_iff.mp q p hp) (ldr al p) (by have := (ldr_spec (h.1 p hp).2).2.2; omega)
    rw [(ldr_spec (h.1 p hp).2).1] at this
    simpa using this
  · intro q
    refine allb_iff.mpr (fun p hp => allb_iff.mpr (fun r hr => ?_))
    cases e : (al p).testBit r with
    | false => rfl
    | true =>
      have e1 := of_decide_eq_true (allb_iff.mp q p hp)
      have e2 := of_decide_eq_true (allb_iff.mp q r hr)
      rw [ldr_same h hr hp (h.2 p r hp hr e)] at e2
      rw [decide_eq_true (e1.trans e2.symm)]
      rfl
theorem fa_fb (p : Nat → Bool) : ∀ n, fa_cnt p n = fb_ct p n := by
  intro n
  induction n with
  | zero => rfl
  | succ n ih =>
    rw [fb_ct_succ]
    cases h : p n with
    | false => rw [fa_cnt_no h, ih]; rfl
    | true => rw [fa_cnt_yes h, ih]; rfl
theorem mod_tb {x k : Nat} (h : ∀ j, j < k → x.testBit j = false) : x % 2 ^ k = 0 := by
  apply Nat.eq_of_testBit_eq
  intro i
  rw [Nat.testBit_mod_two_pow, Nat.zero_testBit]
  by_cases c : i < k
  · rw [h i c, Bool.and_false]
  · rw [decide_eq_false c]; rfl
theorem ldB_iff {al : Nat → Nat} {n p : Nat} (h : okAl n al) (hp : p < n) : ldB al p = true ↔ ldr al p = p := by
  obtain ⟨a1, a2, a3⟩ := ldr_spec (h.1 p hp).2
  unfold ldB
  rw [decide_eq_true_iff]
  constructor
  · intro e
    apply Classical.byContradiction
    intro hc
    have : (al p % 2 ^ p).testBit (ldr al p) = true := by
      rw [Nat.testBit_mod_two_pow, a1, decide_eq_true (by omega)]
      rfl
    rw [e, Nat.zero_testBit] at this
    exact Bool.noConfusion this
  · intro e
    rw [e] at a2
    exact mod_tb a2
theorem ldr_idem {al : Nat → Nat} {n p : Nat} (h : okAl n al) (hp : p < n) : ldr al (ldr al p) = ldr al p := by
  obtain ⟨a1, a2, a3⟩ := ldr_spec (h.1 p hp).2
  exact ldr_same h (by omega) hp (h.2 p _ hp (by omega) a1)
theorem grp_inj {al : Nat → Nat} {n p q : Nat} (h : okAl n al) (hp : p < n) (hq : q < n) (e : grp al p = grp al q) : ldr al p = ldr al q := by
  have a3 := (ldr_spec (h.1 p hp).2).2.2
  have b3 := (ldr_spec (h.1 q hq).2).2.2
  unfold grp grps at e
  rw [fa_fb, fa_fb] at e
  exact fb_ct_kth_one ((ldB_iff h (by omega)).mpr (ldr_idem h hp)) ((ldB_iff h (by omega)).mpr (ldr_idem h hq)) e
theorem grp_same {al : Nat → Nat} {p q : Nat} (e : ldr al p = ldr al q) : grp al p = grp al q := by
  unfold grp
  rw [e]
theorem dig_one : ∀ g, g < 6 → ∀ h, h < 6 → ∀ t, t < 4 → t * 4 ^ h / 4 ^ g % 4 = if g = h then t else 0 := by decide
theorem dig_or (a b g : Nat) : (a ||| b) / 4 ^ g % 4 = (a / 4 ^ g % 4) ||| (b / 4 ^ g % 4) := by
  rw [show (4 : Nat) ^ g = 2 ^ (2 * g) by rw [Nat.pow_mul], ← Nat.shiftRight_eq_div_pow, ← Nat.shiftRight_eq_div_pow, ← Nat.shiftRight_eq_div_pow, Nat.shiftRight_or_distrib]
  exact Nat.or_mod_two_pow (n := 2)
/-- the number of a deal -/
def dnum (al t : Nat → Nat) : Nat → Nat
  | 0 => 0
  | i + 1 => dnum al t i ||| t i * 4 ^ grp al i
theorem dnum_spec {al t : Nat → Nat} {n : Nat} (h : okAl n al) (hn : n ≤ 6) (ht : ∀ p, p < n → t p < 4) (hag : ∀ p, p < n → t p = t (ldr al p)) : ∀ i, i ≤ n → dnum al t i < 4096 ∧ ∀ p, p < n → ((∃ q, q < i ∧ grp al q = grp al p) → dlOf al (dnum al t i) p = t p) ∧ ((¬ ∃ q, q < i ∧ grp al q = grp al p) → dlOf al (dnum al t i) p = 0) := by
  intro i
  induction i with
  | zero => exact fun _ => ⟨show 0 < 4096 by decide, fun p hp => ⟨fun ⟨q, hq, _⟩ => absurd hq (by omega), fun _ => by unfold dlOf dnum; rw [Nat.zero_div]⟩⟩
  | succ i ih =>
    intro hi
    obtain ⟨i1, i2⟩ := ih (by omega)
    have hgi : grp al i < 6 := grp_lt hn (by omega)
    have hti := ht i (by omega)
    have e1 : t i * 4 ^ grp al i < 4096 := by
      have : 4 ^ grp al i ≤ 4 ^ 5 := Nat.pow_le_pow_right (by decide) (by omega)
      calc t i * 4 ^ grp al i ≤ 3 * 4 ^ 5 := Nat.mul_le_mul (by omega) this
      _ < 4096 := by decide
    refine ⟨Nat.or_lt_two_pow (n := 12) i1 e1, fun p hp => ?_⟩
    obtain ⟨j1, j2⟩ := i2 p hp
    have hgp : grp al p < 6 := grp_lt hn hp
    have e2 : dlOf al (dnum al t (i + 1)) p = dlOf al (dnum al t i) p ||| (if grp al p = grp al i then t i else 0) := by
      unfold dlOf
      rw [dnum, dig_or, dig_one _ hgp _ hgi _ hti]
    rw [e2]
    by_cases c : grp al p = grp al i
    · have e3 : t i = t p := by rw [hag i (by omega), hag p hp, grp_inj h hp (by omega) c]
      rw [if_pos c, e3]
      refine ⟨fun _ => ?_, fun q => absurd ⟨i, by omega, c.symm⟩ q⟩
      by_cases d : ∃ q, q < i ∧ grp al q = grp al p
      · rw [j1 d, Nat.or_self]
      · rw [j2 d, Nat.zero_or]
    · rw [if_neg c, Nat.or_zero]
      refine ⟨fun ⟨q, q1, q2⟩ => j1 ⟨q, ?_, q2⟩, fun q => j2 (fun ⟨z, z1, z2⟩ => q ⟨z, by omega, z2⟩)⟩
      by_cases e : q = i
      · subst e; exact absurd q2.symm c
      · omega
theorem p_dnum {N P n r m : Nat} {b : Bool} {σ : Mm} {g : Nat → Int32} {al t : Nat → Nat} (hN : 100 ≤ N) (hR : Rf b σ) (hP : P = 19 ∨ P = 27) (hs : gi σ P 8 = nI n) (hn : n ≤ 6) (hg : ∀ p, p < n → gi σ (P + 7) p = nI (grp al p) ∧ grp al p < 6) (h : RV σ r m g) (hm : n ≤ m) (ht : ∀ p, p < n → g p = nI (t p) ∧ t p < 4) : f_X2_dealNumber N P (38 + 2 * r) σ = some (nI (dnum al t n), σ) := by
  obtain ⟨h1, h2, h3, h4, h5, h6⟩ := h
  unfold f_X2_dealNumber
  rw [if_pos (ok_p hP).1, if_pos (OKr h1).2.1]
  refine loop (fun f i => f_X2_dealNumber_4 N f P (38 + 2 * r) (nI (dnum al t i)) (nI i) σ) _ n ?_ ?_ N 0 (by omega) (by omega)
  · intro f
    unfold f_X2_dealNumber_4
    rw [hs, if_pos (nI_le (Nat.le_refl n) (by omega))]
  · intro f i hi A hA
    obtain ⟨g1, g2⟩ := hg i hi
    obtain ⟨t1, t2⟩ := ht i hi
    unfold f_X2_dealNumber_4
    rw [hA, hs, if_neg (nI_ge hi (by omega)), show (2 : Int32) = nI 2 from rfl]
    have e1 : 2 ^ (2 * grp al i) ≤ 2 ^ 10 := Nat.pow_le_pow_right (by decide) (by omega)
    have e2 : t i * 2 ^ (2 * grp al i) < 2 ^ 32 := by
      calc t i * 2 ^ (2 * grp al i) ≤ 3 * 2 ^ 10 := Nat.mul_le_mul (by omega) e1
      _ < 2 ^ 32 := by decide
    simp (disch := omega) only [↓reduceIte, ↓BRp hR hP, ok_p hP, OKr, inbT, ix_nI, g1, h5 i (by omega), t1, pk_mul, lt, nI_1]
    rw [pk_shlN _ (2 * grp al i) (sh31 _ (by omega)) e2, nI_or, Nat.pow_mul]
    rfl
