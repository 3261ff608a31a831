/-! ===== PURE: signs, the class ===== -/
def okk (T : Nat → Nat) (n p q x y : Nat) : Bool := (LV T n p 63 6).testBit q || (((LV T n p 63 6).testBit x && (rout T n q n).testBit y) || ((rout T n q n).testBit x && (LV T n p 63 6).testBit y))
def bas (p q x y : Nat) : Bool := decide (y ≠ x) && (!(decide (x = p) && decide (y = q)) && !(decide (x = q) && decide (y = p)))
def HP (T : Nat → Nat → Nat) (n p q d x : Nat) : Nat := msk (fun y => bas p q x y && allb (fun e => okk (T e) n p q x y) d) n
def ALw (T : Nat → Nat → Nat) (n p d : Nat) : Nat := msk (fun y => allb (fun e => (LV (T e) n p 63 6).testBit y) d) n
theorem anb_lt2 {a b n : Nat} (hn : n ≤ 6) (h : a < 2 ^ n) : anb a b < 2 ^ n := by
  apply Nat.lt_pow_two_of_testBit
  intro i hi
  unfold anb
  rw [msk_tb, Nat.testBit_lt_two_pow (Nat.lt_of_lt_of_le h (Nat.pow_le_pow_right (by decide) hi))]
  simp
theorem pw6 {p : Nat} (h : p < 6) : 2 ^ p < 64 := by
  have := Nat.pow_lt_pow_right (a := 2) (by decide) h
  omega
theorem p_allow {N n p q : Nat} {b : Bool} {τ : Mm} {T : Nat → Nat → Nat} (hN : 20 ≤ N) (hR : Rf b τ) (hs : gi τ (pl b) 8 = nI n) (hn : n ≤ 6) (hp : p < n) (hq : q < n) (hpq : p ≠ q) : ∃ ρ, f_X5_allowSigns N 0 (nI p) (nI q) τ = some ρ ∧ ρ.2 = τ.2 ∧ (∀ a k, a ≠ 35 → gi ρ a k = gi τ a k) ∧ ∀ x, x < n → gi ρ 35 x = nI (HP T n p q 0 x) := by
  have hP := pl_cases b
  have h64 := pow6 hn
  let W : Nat → Int32 := fun x => nI (anb (2 ^ n - 1) (2 ^ x))
  let τ1 : Mm := blt τ 35 0 n W
  let τ2 : Mm := si τ1 35 p (nI (anb (anb (2 ^ n - 1) (2 ^ p)) (2 ^ q)))
  have e1 : gi τ1 35 p = nI (anb (2 ^ n - 1) (2 ^ p)) := blt_in hp
  have e2 : gi τ2 35 q = nI (anb (2 ^ n - 1) (2 ^ q)) := by
    show gi (si τ1 35 p _) 35 q = _
    rw [gi_si, if_neg (by omega)]
    exact blt_in hq
  have tb : ∀ x y, y < n → (anb (2 ^ n - 1) (2 ^ x)).testBit y = decide (y ≠ x) := fun x y hy => by
    rw [anb_tb (by omega), full_tb hy, tb_pow, Bool.true_and]
    by_cases c : x = y
    · subst c; simp
    · have c2 : y ≠ x := fun z => c z.symm
      rw [decide_eq_false c, decide_eq_true c2]; rfl
  have l1 : anb (2 ^ n - 1) (2 ^ p) < 2 ^ n := anb_lt2 hn (by have := Nat.two_pow_pos n; omega)
  have l2 : anb (2 ^ n - 1) (2 ^ q) < 2 ^ n := anb_lt2 hn (by have := Nat.two_pow_pos n; omega)
  refine ⟨si τ2 35 q (nI (anb (anb (2 ^ n - 1) (2 ^ q)) (2 ^ p))), ?_, rfl, fun a k z => ?_, fun x hx => ?_⟩
  · unfold f_X5_allowSigns
    rw [if_pos OKx.1]
    have z := loop (fun f i => f_X5_allowSigns_2 N f 0 (nI p) (nI q) (nI i) (blt τ 35 0 i W)) (some (si τ2 35 q (nI (anb (anb (2 ^ n - 1) (2 ^ q)) (2 ^ p))))) n ?_ ?_ N 0 (by omega) (by omega)
    · rw [blt_0] at z
      exact z
    · intro f
      unfold f_X5_allowSigns_2
      rw [BRpl (Rf_blt hR), if_pos (ok_p hP).1, blt_out (by omega), hs, if_pos (nI_le (Nat.le_refl n) (by omega))]
      have e1' : gi (blt τ 35 0 n W) 35 p = nI (anb (2 ^ n - 1) (2 ^ p)) := e1
      have e2' : gi (si (blt τ 35 0 n W) 35 p (nI (anb (anb (2 ^ n - 1) (2 ^ p)) (2 ^ q)))) 35 q = nI (anb (2 ^ n - 1) (2 ^ q)) := e2
      simp (disch := omega) only [↓reduceIte, ↓(BR (Rf_blt hR)).2.2.2.2.2.2.2.2.1, ↓BRs, OKx, inbT, ix_nI, lt, shl1, e1']
      rw [andnot6 _ (by omega) _ (pw6 (by omega))]
      simp (disch := omega) only [↓reduceIte, ↓(BR (Rf_blt hR)).2.2.2.2.2.2.2.2.1, ↓BRs, OKx, inbT, ix_nI, lt, shl1, e2']
      rw [andnot6 _ (by omega) _ (pw6 (by omega))]
    · intro f i hi A hA
      unfold f_X5_allowSigns_2
      have hs2 : gi (blt τ 35 0 i W) (pl b) 8 = nI n := by rw [blt_out (by omega)]; exact hs
      rw [BRpl (Rf_blt hR), if_pos (ok_p hP).1, hs2, if_neg (nI_ge hi (by omega))]
      simp (disch := omega) only [↓reduceIte, ↓(BR (Rf_blt hR)).2.2.2.2.2.2.2.2.1, OKx]
      rw [BRpl (Rf_blt hR), if_pos (ok_p hP).1, bIe (p_everyX (N := N) hP hs2 hn)]
      simp (disch := omega) only [↓reduceIte, inbT, ix_nI, lt, shl1, nI_1]
      rw [andnot6 _ (by omega) _ (pw6 (by omega)), hA, show nI (anb (2 ^ n - 1) (2 ^ i)) = W i from rfl, blt_s0]
  · rw [gi_si, if_neg (by omega)]
    show gi (si τ1 35 p _) a k = _
    rw [gi_si, if_neg (by omega)]
    exact blt_out z
  · have key : ∀ v, v < 2 ^ n → (∀ y, y < n → v.testBit y = bas p q x y) → v = HP T n p q 0 x := fun v hv h => eq_msk hv (fun y hy => by rw [h y hy]; exact (Bool.and_true _).symm)
    rw [gi_si]
    by_cases c : x = q
    · rw [if_pos ⟨rfl, c⟩, c]
      rw [key (anb (anb (2 ^ n - 1) (2 ^ q)) (2 ^ p)) (anb_lt2 hn l2) (fun y hy => by
        rw [anb_tb (by omega), tb q y hy, tb_pow, c]
        unfold bas
        have h1 : decide (q = p) = false := decide_eq_false (fun z => hpq z.symm)
        have h2 : decide (q = q) = true := decide_eq_true rfl
        have h3 : decide (p = y) = decide (y = p) := decide_eq_decide.mpr ⟨Eq.symm, Eq.symm⟩
        rw [h1, h2, h3]
        cases decide (y = p) <;> cases decide (y ≠ q) <;> rfl), c]
    · rw [if_neg (fun z => c z.2)]
      show gi (si τ1 35 p _) 35 x = _
      rw [gi_si]
      by_cases c2 : x = p
      · rw [if_pos ⟨rfl, c2⟩, c2]
        rw [key (anb (anb (2 ^ n - 1) (2 ^ p)) (2 ^ q)) (anb_lt2 hn l1) (fun y hy => by
          rw [anb_tb (by omega), tb p y hy, tb_pow, c2]
          unfold bas
          have h1 : decide (p = q) = false := decide_eq_false hpq
          have h2 : decide (p = p) = true := decide_eq_true rfl
          have h3 : decide (q = y) = decide (y = q) := decide_eq_decide.mpr ⟨Eq.symm, Eq.symm⟩
          rw [h1, h2, h3]
          cases decide (y = q) <;> cases decide (y ≠ p) <;> rfl), c2]
      · rw [if_neg (fun z => c2 z.2)]
        have e3 : gi τ1 35 x = nI (anb (2 ^ n - 1) (2 ^ x)) := blt_in hx
        rw [e3, key (anb (2 ^ n - 1) (2 ^ x)) (anb_lt2 hn (by have := Nat.two_pow_pos n; omega)) (fun y hy => by
          rw [tb x y hy]
          unfold bas
          rw [decide_eq_false c2, decide_eq_false c]
          simp)]
def prt (R H x : Nat) : Nat := (if R.testBit x then H else 0) ||| (if H.testBit x then R else 0)
theorem p_drop {N n R H : Nat} {b : Bool} {τ : Mm} {V : Nat → Nat} (hN : 20 ≤ N) (hR : Rf b τ) (hs : gi τ (pl b) 8 = nI n) (hn : n ≤ 6) (hr : R < 64) (hh : H < 64) (hv : ∀ x, x < n → gi τ 35 x = nI (V x)) : f_X5_dropUselessSigns N 0 (nI R) (nI H) τ = some (blt τ 35 0 n (fun x => nI (V x &&& prt R H x))) := by
  have hP := pl_cases b
  unfold f_X5_dropUselessSigns
  rw [if_pos OKx.1]
  have z := loop (fun f i => f_X5_dropUselessSigns_2 N f 0 (nI R) (nI H) (nI i) (blt τ 35 0 i (fun x => nI (V x &&& prt R H x)))) (some (blt τ 35 0 n (fun x => nI (V x &&& prt R H x)))) n ?_ ?_ N 0 (by omega) (by omega)
  · rw [blt_0] at z
    exact z
  · intro f
    unfold f_X5_dropUselessSigns_2
    rw [BRpl (Rf_blt hR), if_pos (ok_p hP).1, blt_out (by omega), hs, if_pos (nI_le (Nat.le_refl n) (by omega))]
  · intro f i hi A hA
    have g35 : gi (blt τ 35 0 i (fun x => nI (V x &&& prt R H x))) 35 i = nI (V i) := by rw [gi_blt, if_neg (by omega)]; exact hv i hi
    have fin : ∀ v, v = prt R H i → f_X5_dropUselessSigns_42 N (f_X5_dropUselessSigns_2 N f) 0 (nI R) (nI H) (nI i) (nI v) (blt τ 35 0 i (fun x => nI (V x &&& prt R H x))) = A := by
      intro v e
      unfold f_X5_dropUselessSigns_42
      simp (disch := omega) only [↓reduceIte, ↓(BR (Rf_blt hR)).2.2.2.2.2.2.2.2.1, OKx, inbT, ix_nI, lt, nI_1, g35, nI_and]
      rw [e, hA, show nI (V i &&& prt R H i) = (fun x => nI (V x &&& prt R H x)) i from rfl, blt_s0]
    have mid : ∀ v, v = (if R.testBit i then H else 0) → f_X5_dropUselessSigns_26 N (f_X5_dropUselessSigns_2 N f) 0 (nI R) (nI H) (nI i) (nI v) (blt τ 35 0 i (fun x => nI (V x &&& prt R H x))) = A := by
      intro v e
      unfold f_X5_dropUselessSigns_26
      rw [bIe (p_holds (N := N) hh (show i < 6 by omega)), if10]
      simp only [lt]
      rw [nI_or]
      cases c : H.testBit i with
      | false =>
        rw [if_neg Bool.false_ne_true]
        exact fin v (by unfold prt; rw [c, if_neg Bool.false_ne_true, Nat.or_zero]; exact e)
      | true =>
        rw [if_pos rfl]
        exact fin _ (by unfold prt; rw [c, if_pos rfl, e])
    unfold f_X5_dropUselessSigns_2
    rw [BRpl (Rf_blt hR), if_pos (ok_p hP).1, blt_out (by omega), hs, if_neg (nI_ge hi (by omega)), bIe (p_holds (N := N) hr (show i < 6 by omega)), if10]
    cases c : R.testBit i with
    | false =>
      rw [if_neg Bool.false_ne_true]
      exact mid 0 (by rw [c]; rfl)
    | true =>
      rw [if_pos rfl]
      exact mid H (by rw [c, if_pos rfl])
theorem p_left {N n : Nat} {b : Bool} {τ : Mm} {V : Nat → Nat} (hN : 20 ≤ N) (hR : Rf b τ) (hs : gi τ (pl b) 8 = nI n) (hn : n ≤ 6) (hv : ∀ x, x < n → gi τ 35 x = nI (V x) ∧ V x < 64) : f_X5_isSignLeft N 0 τ = some (if allb (fun x => decide (V x = 0)) n then 0 else 1, τ) := by
  have hP := pl_cases b
  unfold f_X5_isSignLeft
  rw [if_pos OKx.1]
  refine loopR (fun f i => f_X5_isSignLeft_2 N f 0 (nI i) τ) _ n (fun i => allb (fun x => decide (V x = 0)) i = true) ?_ ?_ N 0 (by omega) (by omega) rfl
  · intro f hI
    unfold f_X5_isSignLeft_2
    rw [BRpl hR, if_pos (ok_p hP).1, hs, if_pos (nI_le (Nat.le_refl n) (by omega)), hI]
    rfl
  · intro f i hi hI ih
    obtain ⟨v1, v2⟩ := hv i hi
    unfold f_X5_isSignLeft_2
    rw [BRpl hR, if_pos (ok_p hP).1, hs, if_neg (nI_ge hi (by omega))]
    simp (disch := omega) only [↓reduceIte, ↓(BR hR).2.2.2.2.2.2.2.2.1, OKx, inbT, ix_nI, nI_1, v1]
    by_cases c : V i = 0
    · rw [c, if_pos (show nI 0 = 0 from rfl)]
      refine ih ?_
      rw [allb, hI, decide_eq_true c]
      rfl
    · rw [if_neg (nI_ne0 (by omega) (by omega)), allb_f (i := i) (decide_eq_false c) hi]
      rfl
theorem HP_s {T : Nat → Nat → Nat} {n p q d x : Nat} (hp : p < n) (hq : q < n) (hn : n ≤ 6) (hT : ∀ m, m < n → T d m < 2 ^ n) : HP T n p q (d + 1) x = if (LV (T d) n p 63 6).testBit q then HP T n p q d x else HP T n p q d x &&& prt (LV (T d) n p 63 6) (rout (T d) n q n) x := by
  cases c : (LV (T d) n p 63 6).testBit q with
  | true =>
    rw [if_pos rfl]
    unfold HP
    refine msk_congr (fun y hy => ?_)
    rw [allb, show okk (T d) n p q x y = true by unfold okk; rw [c]; rfl, Bool.and_true]
  | false =>
    rw [if_neg Bool.false_ne_true]
    symm
    unfold HP
    refine eq_msk (Nat.lt_of_le_of_lt Nat.and_le_left (msk_lt _ n)) (fun y hy => ?_)
    rw [Nat.testBit_and, msk_tb, decide_eq_true hy, Bool.true_and, allb, ← Bool.and_assoc]
    congr 1
    unfold prt okk
    rw [c, Bool.false_or, Nat.testBit_or]
    cases (LV (T d) n p 63 6).testBit x <;> cases (rout (T d) n q n).testBit x <;> simp
theorem AL_s {T : Nat → Nat → Nat} {n p d : Nat} (hp : p < n) (hT : ∀ m, m < n → T d m < 2 ^ n) : ALw T n p d &&& LV (T d) n p 63 6 = ALw T n p (d + 1) := by
  unfold ALw
  refine eq_msk (Nat.lt_of_le_of_lt Nat.and_le_left (msk_lt _ n)) (fun y hy => ?_)
  rw [Nat.testBit_and, msk_tb, decide_eq_true hy, Bool.true_and, allb]
theorem AL_0 {T : Nat → Nat → Nat} {n p : Nat} : ALw T n p 0 = 2 ^ n - 1 := by
  symm
  unfold ALw
  refine eq_msk (by have := Nat.two_pow_pos n; omega) (fun y hy => ?_)
  rw [full_tb hy]
  rfl
theorem AL_p {T : Nat → Nat → Nat} {n p d : Nat} (hp : p < n) : (ALw T n p d).testBit p = true := by
  unfold ALw
  rw [msk_tb, decide_eq_true hp, Bool.true_and]
  exact allb_iff.mpr (fun e _ => LV_p)
/-- the class's answer -/
def sgV (T : Nat → Nat → Nat) (n p q D : Nat) : Int32 := if (ALw T n p D).testBit q then 0 else if allb (fun x => decide (HP T n p q D x = 0)) n then (if n ≤ 2 then -9 else 2) else 1
theorem p_sgX {N n p q g : Nat} {b : Bool} {σ : Mm} {kd al sg sh : Nat → Nat} {no : Bool} {y : Dy} (hN : 5000 ≤ N) (hR : Rf b σ) (hn : n ≤ 6) (hX : PX σ (pl b) n kd al sg) (hY : YX σ 7 n kd y) (hsh : sh = y.2.1) (hno : no = y.2.2.2) (hsl : ∀ p, p < n → sh p < 2 ^ n) (hal : okAl n al) (hg : grps al n = g + 1) (hp : p < n) (hq : q < n) (hpq : p ≠ q) {T : Nat → Nat → Nat} (hT : T = fun e => te n kd (dlOf al (4 * e)) sh no) :
    ∃ ρ, f_X5_signs N 0 (nI p) (nI q) σ = some (sgV T n p q (4 ^ g), si ρ 0 11 (nI (pc 6 (ALw T n p (4 ^ g)) - 1))) ∧ Ex σ ρ := by
  have hP := pl_cases b
  have h64 := pow6 hn
  have hG := grps_le al n
  have h4 := pow4_le (show g + 1 ≤ 6 by omega)
  have h4g : 4 ^ (g + 1) = 4 * 4 ^ g := by rw [Nat.pow_succ, Nat.mul_comm]
  have hTl : ∀ e, ∀ m, m < n → T e m < 2 ^ n := fun e m _ => by rw [hT]; exact te_lt
  subst hsh hno
  obtain ⟨τ0, k1, k2, _⟩ := p_terms (N := N) (by omega) hR hn hY
  have hR0 := Ex_Rf k2.1 hR
  have hX0 := Ex_PX hP k2.1 hX
  obtain ⟨τ1, a1, a2, a3, a4⟩ := p_allow (N := N) (T := T) (by omega) hR0 hX0.1 hn hp hq hpq
  have k3 : TR σ τ1 n y.2.1 y.2.2.2 := ⟨⟨a2.trans k2.1.1, fun a k z => (a3 a k (by omega)).trans (k2.1.2 a k z)⟩, (a3 _ _ (by omega)).trans k2.2.1, (a3 _ _ (by omega)).trans k2.2.2.1, fun p hp => (a3 _ _ (by omega)).trans (k2.2.2.2 p hp)⟩
  have hVl : ∀ d x, HP T n p q d x < 64 := fun d x => msk_lt6 _ hn
  have mx : ∀ (f d : Nat) (τ : Mm), d ≤ 4 ^ g → 4 ^ g - d < f → TR σ τ n y.2.1 y.2.2.2 → (∀ x, x < n → gi τ 35 x = nI (HP T n p q d x)) → ∃ ρ, f_X5_signs_48 N f 0 (nI p) (nI q) (nI (ALw T n p d)) (nI (4 ^ g)) (nI d) τ = some (sgV T n p q (4 ^ g), si ρ 0 11 (nI (pc 6 (ALw T n p (4 ^ g)) - 1))) ∧ Ex σ ρ := by
    intro f
    induction f with
    | zero => intro d τ _ z; omega
    | succ f ih =>
      intro d τ hd hf hE hV
      have hRt := Ex_Rf hE.1 hR
      have hXt := Ex_PX hP hE.1 hX
      have hal64 : ∀ d, ALw T n p d < 64 := fun d => msk_lt6 _ hn
      unfold f_X5_signs_48
      by_cases e : d = 4 ^ g
      · subst e
        refine ⟨τ, ?_, hE.1⟩
        have hpc : 0 < pc 6 (ALw T n p (4 ^ g)) := pc_pos (by omega) (AL_p hp)
        rw [if_pos (nI_le (Nat.le_refl _) (by omega)), bIe (p_bitC (N := N) (hal64 _)), show nI (pc 6 (ALw T n p (4 ^ g))) - (1 : Int32) = nI (pc 6 (ALw T n p (4 ^ g)) - 1) from nI_subT (b := 1) hpc]
        simp only [lt]
        generalize hτ' : si τ 0 11 (nI (pc 6 (ALw T n p (4 ^ g)) - 1)) = τ'
        have hRt' : Rf b τ' := by rw [← hτ']; exact hRt
        have s8 : gi τ' (pl b) 8 = nI n := by rw [← hτ', gi_si, if_neg (by omega)]; exact hXt.1
        rw [bIe (p_holds (N := N) (hal64 _) (show q < 6 by omega)), if10]
        unfold sgV
        cases (ALw T n p (4 ^ g)).testBit q with
        | true => rfl
        | false =>
          rw [if_neg Bool.false_ne_true, if_neg Bool.false_ne_true, bIe (p_left (V := HP T n p q (4 ^ g)) (by omega) hRt' s8 hn (fun x hx => ⟨by rw [← hτ', gi_si, if_neg (by omega)]; exact hV x hx, hVl _ _⟩))]
          cases allb (fun x => decide (HP T n p q (4 ^ g) x = 0)) n with
          | false =>
            rw [if_neg Bool.false_ne_true, if_neg Bool.false_ne_true, if_neg (show ¬ (1 : Int32) = 0 by decide)]
          | true =>
            rw [if_pos rfl, if_pos rfl, if_pos rfl, BRpl hRt', if_pos (ok_p hP).1, s8]
            by_cases c : n ≤ 2
            · rw [if_pos (show nI n ≤ (2 : Int32) from nI_le (b := 2) c (by omega)), if_pos c]
            · rw [if_neg (show ¬ nI n ≤ (2 : Int32) from nI_ge (a := 2) (by omega) (by omega)), if_neg c]
      · have hd2 : d < 4 ^ g := by omega
        obtain ⟨ρ1, r1, r2, r3, r4⟩ := p_think (N := N) (d := d * 4) (by omega) hR hn hX hsl hE (by omega)
        have hR1 := Ex_Rf r2.1 hR
        have hX1 := Ex_PX hP r2.1 hX
        have hGX : GX ρ1 13 n (T d) := by
          have := YX_GX hn (Or.inr rfl) r3
          rw [hT]
          show GX ρ1 13 n (te n kd (dlOf al (4 * d)) y.2.1 y.2.2.2)
          rw [Nat.mul_comm 4 d]
          exact this
        have hV1 : ∀ x, x < n → gi ρ1 35 x = nI (HP T n p q d x) := fun x hx => (r4 x).trans (hV x hx)
        have hL : LV (T d) n p 63 6 < 64 := Nat.lt_of_lt_of_le (LV_lt (hTl d) hp _) h64
        have hH : rout (T d) n q n < 64 := Nat.lt_of_lt_of_le (rout_lt hq _) h64
        rw [if_neg (nI_ge hd2 (by omega)), show (4 : Int32) = nI 4 from rfl, pk_mul]
        simp (disch := omega) only [↓reduceIte, ↓(BR hRt).2.2.2.2.2.1, OKx]
        rw [BRpl hRt, if_pos (ok_p hP).1, bVe r1]
        simp (disch := omega) only [↓reduceIte, ↓(BR hR1).2.2.2.2.2.1, OKx]
        rw [bIe (show f_X0_reached N 13 (nI p) (63 : Int32) (6 : Int32) ρ1 = _ from p_reached (M := 63) (st := 6) (by omega) hR1 hGX hp (by decide) (by omega)), nI_and, AL_s hp (hTl d)]
        simp only [lt]
        rw [bIe (p_holds (N := N) hL (show q < 6 by omega)), if10]
        unfold f_X5_signs_112
        cases c : (LV (T d) n p 63 6).testBit q with
        | true =>
          obtain ⟨ρ, u1, u2⟩ := ih (d + 1) ρ1 (by omega) (by omega) r2 (fun x hx => by rw [HP_s hp hq hn (hTl d), c, if_pos rfl]; exact hV1 x hx)
          refine ⟨ρ, ?_, u2⟩
          rw [if_pos rfl, nI_1]
          exact u1
        | false =>
          let ρ2 : Mm := blt ρ1 35 0 n (fun x => nI (HP T n p q d x &&& prt (LV (T d) n p 63 6) (rout (T d) n q n) x))
          have f2 : ∀ a k, a ≠ 35 → gi ρ2 a k = gi ρ1 a k := fun a k z => blt_out z
          obtain ⟨ρ, u1, u2⟩ := ih (d + 1) ρ2 (by omega) (by omega) ⟨⟨r2.1.1, fun a k z => (f2 a k (by omega)).trans (r2.1.2 a k z)⟩, (f2 _ _ (by omega)).trans r2.2.1, (f2 _ _ (by omega)).trans r2.2.2.1, fun p hp => (f2 _ _ (by omega)).trans (r2.2.2.2 p hp)⟩ (fun x hx => by
            show gi (blt ρ1 35 0 n _) 35 x = _
            rw [blt_in hx, HP_s hp hq hn (hTl d), c, if_neg Bool.false_ne_true])
          refine ⟨ρ, ?_, u2⟩
          rw [if_neg Bool.false_ne_true]
          simp (disch := omega) only [↓reduceIte, ↓(BR hR1).2.2.2.2.2.1, OKx]
          rw [bIe (p_reaching (by omega) hR1 hGX hq), bVe (p_drop (by omega) hR1 hX1.1 hn hL hH hV1), nI_1]
          exact u1
  obtain ⟨ρ, u1, u2⟩ := mx N 0 τ1 (Nat.zero_le _) (by omega) k3 a4
  refine ⟨ρ, ?_, u2⟩
  have hR1 : Rf b τ1 := Ex_Rf k3.1 hR
  have hX1 := Ex_PX hP k3.1 hX
  unfold f_X5_signs
  rw [if_pos OKx.1, bIe (two_x1 (N := N) hR hX.1 hn hp hq hpq), if_neg (show ¬ (1 : Int32) = 0 by decide)]
  simp (disch := omega) only [↓reduceIte, ↓(BR hR).2.2.2.2.2.1, ↓(BR hR).2.2.2.2.1, OKx]
  rw [bVe k1, bVe a1, BRpl hR1, if_pos (ok_p hP).1, bIe (p_everyX (N := N) hP hX1.1 hn), BRpl hR1, if_pos (ok_p hP).1, bIe (p_turnX (N := N) hP hX1.2.1 hn (by omega)), show grps al n - 1 = g by omega]
  rw [AL_0] at u1
  exact u1
