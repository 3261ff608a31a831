/-! ===== PURE: the mathematical town ===== -/
/-- the mask of those below n of whom P holds -/
def msk (P : Nat → Bool) : Nat → Nat
  | 0 => 0
  | n + 1 => msk P n ||| (if P n then 2 ^ n else 0)
theorem tb_pow (a b : Nat) : (2 ^ a).testBit b = decide (a = b) := Nat.testBit_two_pow
theorem tb_ite (c : Bool) (a b : Nat) : (if c then 2 ^ a else 0).testBit b = (c && decide (a = b)) := by
  cases c <;> simp [Nat.testBit_two_pow]
theorem msk_tb (P : Nat → Bool) (n q : Nat) : (msk P n).testBit q = (decide (q < n) && P q) := by
  induction n with
  | zero => simp [msk]
  | succ n ih =>
    unfold msk
    rw [Nat.testBit_or, ih, tb_ite]
    by_cases h1 : q < n
    · have h2 : ¬ n = q := by omega
      have h3 : q < n + 1 := by omega
      simp [h1, h2, h3]
    · by_cases h2 : n = q
      · subst h2; simp
      · have h3 : ¬ q < n + 1 := by omega
        simp [h1, h2, h3]
theorem msk_lt (P : Nat → Bool) (n : Nat) : msk P n < 2 ^ n := by
  apply Nat.lt_pow_two_of_testBit
  intro i hi
  rw [msk_tb]
  have : ¬ i < n := by omega
  simp [this]
theorem msk_lt6 (P : Nat → Bool) {n : Nat} (h : n ≤ 6) : msk P n < 64 := Nat.lt_of_lt_of_le (msk_lt P n) (by
  calc 2 ^ n ≤ 2 ^ 6 := Nat.pow_le_pow_right (by decide) h
  _ = 64 := by decide)
theorem msk_congr {P Q : Nat → Bool} {n : Nat} (h : ∀ p, p < n → P p = Q p) : msk P n = msk Q n := by
  apply Nat.eq_of_testBit_eq
  intro i
  rw [msk_tb, msk_tb]
  by_cases hi : i < n
  · rw [h i hi]
  · simp [hi]
theorem eq_msk {x n : Nat} {P : Nat → Bool} (h1 : x < 2 ^ n) (h2 : ∀ q, q < n → x.testBit q = P q) : x = msk P n := by
  apply Nat.eq_of_testBit_eq
  intro i
  rw [msk_tb]
  by_cases hi : i < n
  · rw [h2 i hi]; simp [hi]
  · rw [Nat.testBit_lt_two_pow (Nat.lt_of_lt_of_le h1 (Nat.pow_le_pow_right (by decide) (by omega)))]
    simp [hi]
/-- a PERSON of the kind kd IS of the kind k -/
def isK (k kd : Nat) : Bool := decide (kd = k) || decide (k = 0) || (decide (k = 1) && decide (kd = 3)) || (decide (k = 2) && decide (kd = 4))
def nxt (n p : Nat) : Nat := if p + 1 < n then p + 1 else 0
def prv (n p : Nat) : Nat := if 0 < p then p - 1 else n - 1
/-- what a PERSON KNOWS -/
def kn (n : Nat) (kd dl : Nat → Nat) (no : Bool) (p : Nat) : Nat :=
  2 ^ dl p ||| (if no && isK 1 (kd p) then 2 ^ dl (nxt n p) else 0) ||| (if decide (kd p = 3) then 2 ^ ((dl p + 1) % 4) else 0) ||| (if decide (kd p = 5) then 2 ^ dl (prv n p) else 0)
/-- who understands a shout -/
def he (n : Nat) (kd dl : Nat → Nat) (no : Bool) (t : Nat) : Nat := msk (fun q => !(!no && decide (kd q = 4)) && (kn n kd dl no q).testBit t) n
def teB (n : Nat) (kd dl sg : Nat → Nat) (no : Bool) (p q : Nat) : Bool := decide (p ≠ q) && ((sg p).testBit q || (!isK 2 (kd p) && (!(!no && decide (kd q = 4)) && decide ((kn n kd dl no p) &&& (kn n kd dl no q) ≠ 0))))
/-- whom a PERSON TELLS -/
def te (n : Nat) (kd dl sg : Nat → Nat) (no : Bool) (p : Nat) : Nat := msk (teB n kd dl sg no p) n
theorem pow4 {x : Nat} (h : x < 4) : 2 ^ x < 16 := by
  rcases (show x = 0 ∨ x = 1 ∨ x = 2 ∨ x = 3 by omega) with rfl | rfl | rfl | rfl <;> decide
theorem nxt_lt {n p : Nat} (h : p < n) : nxt n p < n := by
  unfold nxt
  split <;> omega
theorem prv_lt {n p : Nat} (h : p < n) : prv n p < n := by
  unfold prv
  split <;> omega
theorem or16 {a b : Nat} (ha : a < 16) (hb : b < 16) : a ||| b < 16 := Nat.or_lt_two_pow (n := 4) ha hb
theorem kn_lt {n : Nat} {kd dl : Nat → Nat} {no : Bool} {p : Nat} (hd : ∀ q, q < n → dl q < 4) (hp : p < n) : kn n kd dl no p < 16 := by
  unfold kn
  have h1 := pow4 (hd p hp)
  have h2 := pow4 (hd _ (nxt_lt hp))
  have h3 := pow4 (hd _ (prv_lt hp))
  have h4 : 2 ^ ((dl p + 1) % 4) < 16 := pow4 (Nat.mod_lt _ (by decide))
  refine or16 (or16 (or16 h1 ?_) ?_) ?_
  · split
    · exact h2
    · decide
  · split
    · exact h4
    · decide
  · split
    · exact h3
    · decide
/-- the leader of those dealt alike, the leaders in order, the number of a group -/
def ldB (al : Nat → Nat) (p : Nat) : Bool := decide (al p % 2 ^ p = 0)
def ldr (al : Nat → Nat) (p : Nat) : Nat := fa_first (fun q => (al p).testBit q) p
def grps (al : Nat → Nat) (n : Nat) : Nat := fa_cnt (ldB al) n
def grp (al : Nat → Nat) (p : Nat) : Nat := grps al (ldr al p)
/-- a TOWN's day: dealt, signs, morning, noon -/
abbrev Dy : Type := (Nat → Nat) × (Nat → Nat) × Nat × Bool
def dlOf (al : Nat → Nat) (d p : Nat) : Nat := d / 4 ^ grp al p % 4
def addS (sg : Nat → Nat) (p q : Nat) : Nat → Nat := fun x => (if x = p then sg x ||| 2 ^ q else if x = q then sg x ||| 2 ^ p else sg x)
def app (al : Nat → Nat) (y : Dy) (w : Nat × Nat) : Dy :=
  if w.1 = 0 then (dlOf al w.2, y.2.1, y.2.2.1 + 1, false) else if w.1 = 1 then (y.1, y.2.1, y.2.2.1, true) else (y.1, addS y.2.1 (w.2 / 6) (w.2 % 6), y.2.2.1, y.2.2.2)
def rep (al sg : Nat → Nat) (ds : List (Nat × Nat)) : Dy := ds.foldl (app al) (fun _ => 0, sg, 0, false)
theorem rep_snoc (al sg : Nat → Nat) (ds : List (Nat × Nat)) (w : Nat × Nat) : rep al sg (ds ++ [w]) = app al (rep al sg ds) w := by
  unfold rep
  rw [List.foldl_append]
  rfl
/-- deeds that can be -/
def okD (n : Nat) (w : Nat × Nat) : Prop := w.1 ≤ 2 ∧ (w.1 = 0 → w.2 < 4096) ∧ (w.1 = 1 → w.2 = 0) ∧ (w.1 = 2 → w.2 / 6 < n ∧ w.2 % 6 < n)
def okDy (n : Nat) (k : Nat) (y : Dy) : Prop := (∀ p, p < n → y.1 p < 4) ∧ (∀ p, p < n → y.2.1 p < 2 ^ n) ∧ y.2.2.1 ≤ k
theorem okDy_app {n k : Nat} {al : Nat → Nat} {y : Dy} {w : Nat × Nat} (hw : okD n w) (h : okDy n k y) : okDy n (k + 1) (app al y w) := by
  obtain ⟨h1, h2, h3⟩ := h
  unfold app
  split
  · exact ⟨fun p _ => Nat.mod_lt _ (by decide), h2, by show y.2.2.1 + 1 ≤ _; omega⟩
  · split
    · exact ⟨h1, h2, by show y.2.2.1 ≤ _; omega⟩
    · refine ⟨h1, fun p hp => ?_, by show y.2.2.1 ≤ _; omega⟩
      have hs : w.1 = 2 := by have := hw.1; omega
      obtain ⟨e1, e2⟩ := hw.2.2.2 hs
      show addS _ _ _ _ < _
      unfold addS
      split
      · exact Nat.or_lt_two_pow (h2 p hp) (Nat.pow_lt_pow_right (by decide) e2)
      · split
        · exact Nat.or_lt_two_pow (h2 p hp) (Nat.pow_lt_pow_right (by decide) e1)
        · exact h2 p hp
theorem okDy_fold {n : Nat} {al : Nat → Nat} : ∀ (ds : List (Nat × Nat)) (k : Nat) (y : Dy), (∀ w ∈ ds, okD n w) → okDy n k y → okDy n (k + ds.length) (ds.foldl (app al) y) := by
  intro ds
  induction ds with
  | nil => intro k y _ h; exact h
  | cons w ds ih =>
    intro k y hw h
    have h2 := ih (k + 1) (app al y w) (fun v hv => hw v (by simp [hv])) (okDy_app (hw w (by simp)) h)
    rw [List.length_cons, show k + (ds.length + 1) = k + 1 + ds.length by omega]
    exact h2
theorem okDy_rep {n : Nat} {al sg : Nat → Nat} (hs : ∀ p, p < n → sg p < 2 ^ n) (ds : List (Nat × Nat)) (h : ∀ w ∈ ds, okD n w) : okDy n ds.length (rep al sg ds) := by
  have h1 := okDy_fold (al := al) ds 0 (fun _ => 0, sg, 0, false) h ⟨fun _ _ => by show 0 < 4; decide, hs, Nat.zero_le _⟩
  rw [Nat.zero_add] at h1
  exact h1
