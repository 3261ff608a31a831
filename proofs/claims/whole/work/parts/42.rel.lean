/-! ===== PURE: the relation between the class's cells and the reference's ===== -/
/-- a day as a stretch of 14 ints -/
def VM (n : Nat) (y : Dy) (f : Nat → Int32) : Prop := (∀ p, p < n → f p = nI (y.1 p) ∧ f (6 + p) = nI (y.2.1 p)) ∧ f 12 = nI y.2.2.1 ∧ f 13 = (if y.2.2.2 then 1 else 0)
abbrev Dd : Type := List (Nat × Nat)
/-- what can be of a TOWN -/
def okW (n : Nat) (kd al sg : Nat → Nat) (ds : Dd) (kp : Nat → Option Dd) : Prop :=
  n ≤ 6 ∧ (∀ p, p < n → kd p ≤ 5) ∧ (∀ p, p < n → sg p < 2 ^ n) ∧ (∀ p, p < n → al p < 2 ^ n ∧ (al p).testBit p = true) ∧ (∀ p q, p < n → q < n → (al p).testBit q = true → al q = al p) ∧
  ds.length ≤ 40 ∧ (∀ w ∈ ds, okD n w) ∧ (∀ k d, kp k = some d → d.length ≤ 40 ∧ ∀ w ∈ d, okD n w)
/-- the class's cells: a list of deeds at the cells o, o + 1, o + 2 -/
def DX (σ : Mm) (o : Nat) (ds : Dd) : Prop := gi σ o 2 = nI ds.length ∧ ∀ (i : Nat) (w : Nat × Nat), ds[i]? = some w → gi σ (o + 1) i = nI w.1 ∧ gi σ (o + 2) i = nI w.2
/-- the class's cells: a plan at the cells P .. P + 7 -/
def PX (σ : Mm) (P n : Nat) (kd al sg : Nat → Nat) : Prop :=
  gi σ P 8 = nI n ∧ gi σ P 7 = nI (grps al n) ∧ (∀ k, k < 6 → gi σ (P + 2) k = nI (msk (fun p => isK k (kd p)) n)) ∧
  ∀ p, p < n → gi σ (P + 1) p = nI (kd p) ∧ gi σ (P + 4) p = nI (sg p) ∧ gi σ (P + 5) p = nI (al p) ∧ gi σ (P + 6) p = nI (ldr al p) ∧ gi σ (P + 7) p = nI (grp al p)
/-- the class's cells: a day at the cells o .. o + 5, settled -/
def YX (σ : Mm) (o n : Nat) (kd : Nat → Nat) (y : Dy) : Prop :=
  gi σ o 5 = nI n ∧ gi σ o 7 = (if y.2.2.2 then 1 else 0) ∧ (∀ p, p < n → gi σ (o + 1) p = nI (y.1 p) ∧ gi σ (o + 2) p = nI (y.2.1 p)) ∧
  (∀ p, p < n → gi σ (o + 3) p = nI (kn n kd y.1 y.2.2.2 p) ∧ gi σ (o + 5) p = nI (te n kd y.1 y.2.1 y.2.2.2 p)) ∧ ∀ t, t < 4 → gi σ (o + 4) t = nI (he n kd y.1 y.2.2.2 t)
def pl (b : Bool) : Nat := if b then 27 else 19
def TWx (b : Bool) (σ : Mm) (n : Nat) (kd al sg : Nat → Nat) (ds : Dd) (kp : Nat → Option Dd) : Prop :=
  PX σ (pl b) n kd al sg ∧ YX σ 7 n kd (rep al sg ds) ∧ gi σ 7 6 = nI (rep al sg ds).2.2.1 ∧ DX σ 4 ds ∧ ∀ k, k < 3 → match kp k with
    | none => gi σ (57 + 3 * k) 2 = -1
    | some d => DX σ (57 + 3 * k) d
def TWm (σ : Mm) (n : Nat) (kd al sg : Nat → Nat) (ds : Dd) (kp : Nat → Option Dd) : Prop :=
  gi σ 66 10 = nI n ∧ (∀ p, p < n → gi σ 73 p = nI (kd p) ∧ gi σ 74 p = nI (al p)) ∧ gi σ 66 22 = nI ds.length ∧ VM n (rep al sg ds) (gi σ 78) ∧
  (∀ i, i < ds.length → VM n (rep al sg (ds.take i)) (fun k => gi σ 81 (14 * i + k))) ∧ ∀ k, k < 3 → match kp k with
    | none => gi σ 82 k = 0
    | some d => gi σ 82 k = 1 ∧ gi σ 83 k = nI d.length ∧ VM n (rep al sg d) (fun j => gi σ 84 (14 * k + j)) ∧ ∀ i, i < d.length → VM n (rep al sg (d.take i)) (fun j => gi σ 85 (560 * k + (14 * i + j)))
/-- both sides hold the same TOWN -/
def TW (b : Bool) (σ : Mm) : Prop := ∃ (n : Nat) (kd al sg : Nat → Nat) (ds : Dd) (kp : Nat → Option Dd), okW n kd al sg ds kp ∧ TWx b σ n kd al sg ds kp ∧ TWm σ n kd al sg ds kp
def RelC (σ : Mm) : Prop := gi σ 0 10 = gi σ 66 0 ∧ (∀ f, f < 6 → gi σ 36 f = gi σ 67 f) ∧ gi σ 0 11 = gi σ 66 2 ∧ gl σ 0 12 = gl σ 66 3 ∧ gl σ 0 13 = gl σ 66 4
def RelR (σ : Mm) : Prop := ∀ r, r < 6 → gi σ (37 + 2 * r) 1 = gi σ 68 r ∧ (gi σ 68 r = -1 ∨ ∃ n, n ≤ 40 ∧ gi σ 68 r = nI n ∧ ∀ i, i < n → gi σ (38 + 2 * r) i = gi σ 69 (40 * r + i))
def RelT (σ : Mm) : Prop := ∀ t, t < 4 → gi σ (49 + 2 * t) 1 = gi σ 71 t ∧ (gi σ 71 t = -1 ∨ ∃ n, n ≤ 60 ∧ gi σ 71 t = nI n ∧ ∀ i, i < n → gi σ (50 + 2 * t) i = gi σ 72 (60 * t + i))
def Rel (b : Bool) (σ : Mm) : Prop := Rf b σ ∧ RelC σ ∧ RelR σ ∧ RelT σ ∧ TW b σ
/-- which places each part looks at -/
def inW (a k : Nat) : Prop := (4 ≤ a ∧ a ≤ 12) ∨ (19 ≤ a ∧ a ≤ 34) ∨ (57 ≤ a ∧ a ≤ 65) ∨ a = 73 ∨ a = 74 ∨ a = 78 ∨ (81 ≤ a ∧ a ≤ 85) ∨ (a = 66 ∧ (k = 10 ∨ k = 22))
def inR (a : Nat) : Prop := (37 ≤ a ∧ a ≤ 48) ∨ a = 68 ∨ a = 69
def inT (a : Nat) : Prop := (49 ≤ a ∧ a ≤ 56) ∨ a = 71 ∨ a = 72
def inC (a k : Nat) : Prop := a = 36 ∨ a = 67 ∨ (a = 0 ∧ (k = 10 ∨ k = 11)) ∨ (a = 66 ∧ (k = 0 ∨ k = 2))
theorem VM_congr {n : Nat} {y : Dy} {f g : Nat → Int32} (hn : n ≤ 6) (h : ∀ k, k < 14 → g k = f k) (hf : VM n y f) : VM n y g := by
  obtain ⟨h1, h2, h3⟩ := hf
  refine ⟨fun p hp => ?_, by rw [h 12 (by omega)]; exact h2, by rw [h 13 (by omega)]; exact h3⟩
  rw [h p (by omega), h (6 + p) (by omega)]
  exact h1 p hp
theorem DX_congr {σ τ : Mm} {o : Nat} {ds : Dd} (h : ∀ a k, o ≤ a → a ≤ o + 2 → gi τ a k = gi σ a k) (hd : DX σ o ds) : DX τ o ds := by
  refine ⟨by rw [h o 2 (by omega) (by omega)]; exact hd.1, fun i w hw => ?_⟩
  rw [h (o + 1) i (by omega) (by omega), h (o + 2) i (by omega) (by omega)]
  exact hd.2 i w hw
theorem PX_congr {σ τ : Mm} {P n : Nat} {kd al sg : Nat → Nat} (h : ∀ a k, P ≤ a → a ≤ P + 7 → gi τ a k = gi σ a k) (hp : PX σ P n kd al sg) : PX τ P n kd al sg := by
  obtain ⟨h1, h2, h3, h4⟩ := hp
  refine ⟨by rw [h _ _ (by omega) (by omega)]; exact h1, by rw [h _ _ (by omega) (by omega)]; exact h2, fun k hk => by rw [h _ _ (by omega) (by omega)]; exact h3 k hk, fun p hp => ?_⟩
  rw [h (P + 1) p (by omega) (by omega), h (P + 4) p (by omega) (by omega), h (P + 5) p (by omega) (by omega), h (P + 6) p (by omega) (by omega), h (P + 7) p (by omega) (by omega)]
  exact h4 p hp
theorem YX_congr {σ τ : Mm} {o n : Nat} {kd : Nat → Nat} {y : Dy} (h : ∀ a k, o ≤ a → a ≤ o + 5 → gi τ a k = gi σ a k) (hy : YX σ o n kd y) : YX τ o n kd y := by
  obtain ⟨h1, h2, h3, h4, h5⟩ := hy
  refine ⟨by rw [h _ _ (by omega) (by omega)]; exact h1, by rw [h _ _ (by omega) (by omega)]; exact h2, fun p hp => ?_, fun p hp => ?_, fun t ht => ?_⟩
  · rw [h (o + 1) p (by omega) (by omega), h (o + 2) p (by omega) (by omega)]
    exact h3 p hp
  · rw [h (o + 3) p (by omega) (by omega), h (o + 5) p (by omega) (by omega)]
    exact h4 p hp
  · rw [h (o + 4) t (by omega) (by omega)]
    exact h5 t ht
theorem pl_cases (b : Bool) : pl b = 19 ∨ pl b = 27 := by cases b <;> simp [pl]
theorem TWx_congr {b : Bool} {σ τ : Mm} {n : Nat} {kd al sg : Nat → Nat} {ds : Dd} {kp : Nat → Option Dd} (h : ∀ a k, (4 ≤ a ∧ a ≤ 12) ∨ (pl b ≤ a ∧ a ≤ pl b + 7) ∨ (57 ≤ a ∧ a ≤ 65) → gi τ a k = gi σ a k) (hw : TWx b σ n kd al sg ds kp) : TWx b τ n kd al sg ds kp := by
  obtain ⟨h1, h2, h3, h4, h5⟩ := hw
  refine ⟨PX_congr (fun a k q1 q2 => h a k (by omega)) h1, YX_congr (fun a k q1 q2 => h a k (by omega)) h2, by rw [h 7 6 (by omega)]; exact h3, DX_congr (fun a k q1 q2 => h a k (by omega)) h4, fun k hk => ?_⟩
  have h6 := h5 k hk
  cases hkp : kp k with
  | none =>
    rw [hkp] at h6
    show gi τ (57 + 3 * k) 2 = -1
    rw [h (57 + 3 * k) 2 (by omega)]
    exact h6
  | some d =>
    rw [hkp] at h6
    exact DX_congr (fun a j q1 q2 => h a j (by omega)) h6
theorem TWm_congr {σ τ : Mm} {n : Nat} {kd al sg : Nat → Nat} {ds : Dd} {kp : Nat → Option Dd} (hn : n ≤ 6) (h : ∀ a k, a = 73 ∨ a = 74 ∨ a = 78 ∨ (81 ≤ a ∧ a ≤ 85) ∨ (a = 66 ∧ (k = 10 ∨ k = 22)) → gi τ a k = gi σ a k) (hw : TWm σ n kd al sg ds kp) : TWm τ n kd al sg ds kp := by
  obtain ⟨h1, h2, h3, h4, h5, h6⟩ := hw
  refine ⟨by rw [h 66 10 (by omega)]; exact h1, fun p hp => by rw [h 73 p (by omega), h 74 p (by omega)]; exact h2 p hp, by rw [h 66 22 (by omega)]; exact h3, VM_congr hn (fun k _ => h 78 k (by omega)) h4, fun i hi => VM_congr hn (fun k _ => h 81 _ (by omega)) (h5 i hi), fun k hk => ?_⟩
  have h7 := h6 k hk
  cases hkp : kp k with
  | none =>
    rw [hkp] at h7
    show gi τ 82 k = 0
    rw [h 82 k (by omega)]
    exact h7
  | some d =>
    rw [hkp] at h7
    obtain ⟨g1, g2, g3, g4⟩ := h7
    exact ⟨by rw [h 82 k (by omega)]; exact g1, by rw [h 83 k (by omega)]; exact g2, VM_congr hn (fun j _ => h 84 _ (by omega)) g3, fun i hi => VM_congr hn (fun j _ => h 85 _ (by omega)) (g4 i hi)⟩
theorem TW_congr {b : Bool} {σ τ : Mm} (h : ∀ a k, inW a k → gi τ a k = gi σ a k) (hw : TW b σ) : TW b τ := by
  obtain ⟨n, kd, al, sg, ds, kp, h1, h2, h3⟩ := hw
  have hp := pl_cases b
  exact ⟨n, kd, al, sg, ds, kp, h1, TWx_congr (fun a k q => h a k (by unfold inW; omega)) h2, TWm_congr h1.1 (fun a k q => h a k (by unfold inW; omega)) h3⟩
theorem RelR_congr {σ τ : Mm} (h : ∀ a k, inR a → gi τ a k = gi σ a k) (hw : RelR σ) : RelR τ := by
  intro r hr
  obtain ⟨h1, h2⟩ := hw r hr
  rw [h (37 + 2 * r) 1 (by unfold inR; omega), h 68 r (by unfold inR; omega)]
  refine ⟨h1, ?_⟩
  rcases h2 with h2 | ⟨n, g1, g2, g3⟩
  · exact Or.inl h2
  · exact Or.inr ⟨n, g1, g2, fun i hi => by rw [h (38 + 2 * r) i (by unfold inR; omega), h 69 _ (by unfold inR; omega)]; exact g3 i hi⟩
theorem RelT_congr {σ τ : Mm} (h : ∀ a k, inT a → gi τ a k = gi σ a k) (hw : RelT σ) : RelT τ := by
  intro r hr
  obtain ⟨h1, h2⟩ := hw r hr
  rw [h (49 + 2 * r) 1 (by unfold inT; omega), h 71 r (by unfold inT; omega)]
  refine ⟨h1, ?_⟩
  rcases h2 with h2 | ⟨n, g1, g2, g3⟩
  · exact Or.inl h2
  · exact Or.inr ⟨n, g1, g2, fun i hi => by rw [h (50 + 2 * r) i (by unfold inT; omega), h 72 _ (by unfold inT; omega)]; exact g3 i hi⟩
theorem RelC_congr {σ τ : Mm} (h : ∀ a k, inC a k → gi τ a k = gi σ a k) (hl : ∀ k, gl τ 0 k = gl σ 0 k ∧ gl τ 66 k = gl σ 66 k) (hw : RelC σ) : RelC τ := by
  obtain ⟨h1, h2, h3, h4, h5⟩ := hw
  refine ⟨by rw [h 0 10 (by unfold inC; omega), h 66 0 (by unfold inC; omega)]; exact h1, fun f hf => by rw [h 36 f (by unfold inC; omega), h 67 f (by unfold inC; omega)]; exact h2 f hf, by rw [h 0 11 (by unfold inC; omega), h 66 2 (by unfold inC; omega)]; exact h3, by rw [(hl 12).1, (hl 3).2]; exact h4, by rw [(hl 13).1, (hl 4).2]; exact h5⟩
/-- two calls answer alike, and leave alike what they left -/
def Sim (fx fm : Mm → Option (Int32 × Mm)) : Prop := ∀ (b : Bool) (σ : Mm), Rel b σ → ∃ (v : Int32) (σ1 σ2 : Mm) (b2 : Bool), fx σ = some (v, σ1) ∧ fm σ1 = some (v, σ2) ∧ Rel b2 σ2
def SimL (fx fm : Mm → Option (Int64 × Mm)) : Prop := ∀ (b : Bool) (σ : Mm), Rel b σ → ∃ (v : Int64) (σ1 σ2 : Mm) (b2 : Bool), fx σ = some (v, σ1) ∧ fm σ1 = some (v, σ2) ∧ Rel b2 σ2
/-- a finding on both sides -/
theorem rel_find {b : Bool} {σ : Mm} (h : Rel b σ) {f : Nat} (hf : f < 6) : Rel b (fndM (fndX σ f) f) := by
  obtain ⟨h1, h2, h3, h4, h5⟩ := h
  refine ⟨h1, ?_, RelR_congr (σ := σ) (fun a k q => ?_) h3, RelT_congr (σ := σ) (fun a k q => ?_) h4, TW_congr (σ := σ) (fun a k q => ?_) h5⟩
  · obtain ⟨c1, c2, c3, c4, c5⟩ := h2
    refine ⟨?_, fun g hg => ?_, ?_, c4, c5⟩
    · simp [gi_fndX, gi_fndM]
    · by_cases e : g = f
      · subst e
        simp [gi_fndX, gi_fndM, c2 g hg]
      · simp [gi_fndX, gi_fndM, e, c2 g hg]
    · simp [gi_fndX, gi_fndM, c3]
  · unfold inR at q
    simp only [gi_fndX, gi_fndM]
    repeat' (first | rw [if_neg (by omega)] | rw [if_pos (by omega)] | rw [if_pos (by simp <;> omega)] | fail)
  · unfold inT at q
    simp only [gi_fndX, gi_fndM]
    repeat' (first | rw [if_neg (by omega)] | rw [if_pos (by omega)] | rw [if_pos (by simp <;> omega)] | fail)
  · unfold inW at q
    simp only [gi_fndX, gi_fndM]
    repeat' (first | rw [if_neg (by omega)] | rw [if_pos (by omega)] | rw [if_pos (by simp <;> omega)] | fail)
