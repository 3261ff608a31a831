/-! ===== PURE: a TEXT is read ===== -/
theorem BRt {ρ : Type} {b : Bool} {σ : Mm} (hR : Rf b σ) : (∀ chk f, bR (ρ := ρ) (gr σ 0 1) chk f = if chk 2 then f 2 else none) ∧ (∀ j chk f, j < 4 → bR (ρ := ρ) (gr σ 2 j) chk f = if chk (49 + 2 * j) then f (49 + 2 * j) else none) ∧ (∀ j chk f, j < 4 → bR (ρ := ρ) (gr σ (49 + 2 * j) 0) chk f = if chk (50 + 2 * j) then f (50 + 2 * j) else none) := ⟨(BR hR).2.1, (BR hR).2.2.2.2.2.2.2.2.2.2.2.1, (BR hR).2.2.2.2.2.2.2.2.2.2.2.2.2.2.1⟩
theorem p_kx {N k : Nat} {x : Int32} {σ : Mm} (hN : 10 ≤ N) (hk : k < 6) (h : letC k = x) (hb : ∀ j, j < k → letC j ≠ x) : f_X2_kindOf N x σ = some (nI k, σ) := by
  unfold f_X2_kindOf
  refine loop (fun f i => f_X2_kindOf_2 N f x (nI i) σ) _ k ?_ ?_ N 0 (by omega) (by omega)
  · intro f
    unfold f_X2_kindOf_2
    rw [show (6 : Int32) = nI 6 from rfl, if_neg (nI_ge hk (by omega)), if_pos (inbT hk (by omega)), ix_nI (by omega), if_pos h]
  · intro f i hi A hA
    unfold f_X2_kindOf_2
    rw [show (6 : Int32) = nI 6 from rfl, if_neg (nI_ge (show i < 6 by omega) (by omega)), if_pos (inbT (show i < 6 by omega) (by omega)), ix_nI (by omega), if_neg (hb i hi), nI_1, hA]
theorem p_k0 {N : Nat} {x : Int32} {σ : Mm} (hN : 10 ≤ N) (hb : ∀ j, j < 6 → letC j ≠ x) : f_X2_kindOf N x σ = some (-9, σ) := by
  unfold f_X2_kindOf
  refine loop (fun f i => f_X2_kindOf_2 N f x (nI i) σ) _ 6 ?_ ?_ N 0 (by omega) (by omega)
  · intro f
    unfold f_X2_kindOf_2
    rw [show (6 : Int32) = nI 6 from rfl, if_pos (nI_le (Nat.le_refl 6) (by decide))]
  · intro f i hi A hA
    unfold f_X2_kindOf_2
    rw [show (6 : Int32) = nI 6 from rfl, if_neg (nI_ge hi (by omega)), if_pos (inbT hi (by omega)), ix_nI (by omega), if_neg (hb i hi), nI_1, hA]
theorem kind_cases (x : Int32) : (∃ k, k ≤ 5 ∧ x ≠ 97 ∧ x ≠ 103 ∧ (∀ N σ, 10 ≤ N → f_X2_kindOf N x σ = some (nI k, σ)) ∧ ∀ N σ, f_X6_kindOf N x σ = some (nI k, σ)) ∨ ((∀ N σ, 10 ≤ N → f_X2_kindOf N x σ = some (-9, σ)) ∧ ∀ N σ, f_X6_kindOf N x σ = some (-9, σ)) := by
  by_cases h0 : x = 112
  · subst h0
    exact Or.inl ⟨0, by decide, by decide, by decide, fun N σ hN => p_kx hN (by decide) rfl (by decide), fun N σ => rfl⟩
  by_cases h1 : x = 108
  · subst h1
    exact Or.inl ⟨1, by decide, by decide, by decide, fun N σ hN => p_kx hN (by decide) rfl (by decide), fun N σ => rfl⟩
  by_cases h2 : x = 109
  · subst h2
    exact Or.inl ⟨2, by decide, by decide, by decide, fun N σ hN => p_kx hN (by decide) rfl (by decide), fun N σ => rfl⟩
  by_cases h3 : x = 100
  · subst h3
    exact Or.inl ⟨3, by decide, by decide, by decide, fun N σ hN => p_kx hN (by decide) rfl (by decide), fun N σ => rfl⟩
  by_cases h4 : x = 115
  · subst h4
    exact Or.inl ⟨4, by decide, by decide, by decide, fun N σ hN => p_kx hN (by decide) rfl (by decide), fun N σ => rfl⟩
  by_cases h5 : x = 116
  · subst h5
    exact Or.inl ⟨5, by decide, by decide, by decide, fun N σ hN => p_kx hN (by decide) rfl (by decide), fun N σ => rfl⟩
  refine Or.inr ⟨fun N σ hN => p_k0 hN (fun j hj => ?_), fun N σ => ?_⟩
  · rcases (show j = 0 ∨ j = 1 ∨ j = 2 ∨ j = 3 ∨ j = 4 ∨ j = 5 by omega) with rfl | rfl | rfl | rfl | rfl | rfl
    · exact fun e => h0 e.symm
    · exact fun e => h1 e.symm
    · exact fun e => h2 e.symm
    · exact fun e => h3 e.symm
    · exact fun e => h4 e.symm
    · exact fun e => h5 e.symm
  · unfold f_X6_kindOf f_X6_kindOf_96
    simp only [h0, h1, h2, h3, h4, h5, ↓reduceIte, ite_self]
/-- a PERSON comes: those of each KIND -/
def rAP (N P m : Nat) (b : Bool) (v : Int32) (c : Nat) (q : Nat → Bool) : Prop := ∀ (f : Nat) (σ : Mm) (A : Nat → Nat), 10 - c ≤ f → Rf b σ → gi σ P 8 = nI m → (∀ j, j < 6 → gi σ (P + 2) j = nI (A j)) → ∃ τ, f_X2_addPerson_14 N f P v (nI c) σ = some τ ∧ τ.2 = σ.2 ∧ (∀ a j, ¬ (a = P ∧ j = 8) → ¬ (a = P + 2 ∧ j < 6) → gi τ a j = gi σ a j) ∧ gi τ P 8 = nI (m + 1) ∧ ∀ j, j < 6 → gi τ (P + 2) j = nI (if q j then A j ||| 2 ^ m else A j)
theorem rAP_base {N P m c : Nat} {b : Bool} (hc : c ≤ 6) : rAP N P m b (-1) c (fun _ => false) := by
  intro f σ A hf hR h8 hA
  obtain ⟨f, rfl⟩ : ∃ g, f = g + 1 := ⟨f - 1, by omega⟩
  refine ⟨si σ P 8 (nI (m + 1)), ?_, rfl, fun a j z1 z2 => by rw [gi_si, if_neg z1], by rw [gi_si, if_pos ⟨rfl, rfl⟩], fun j hj => ?_⟩
  · unfold f_X2_addPerson_14 f_X2_addPerson_51
    rw [if_pos (show (-1 : Int32) < 0 by decide), h8, nI_1, ite_self]
    rfl
  · rw [gi_si, if_neg (by omega), hA j hj]
    rfl
theorem rAP_step {N P m c k : Nat} {b : Bool} {v : Int32} {q : Nat → Bool} (hP : P = 19 ∨ P = 27) (hc : c < 6) (hk : k < 6) (hm : m < 6) (hv : besC k = v) (h : rAP N P m b v (c + 1) q) (hq : q k = false) : rAP N P m b (nI k) c (fun j => decide (j = k) || q j) := by
  intro f σ A hf hR h8 hA
  obtain ⟨f, rfl⟩ : ∃ g, f = g + 1 := ⟨f - 1, by omega⟩
  obtain ⟨τ, t1, t2, t3, t4, t5⟩ := h f (si σ (P + 2) k (nI (A k ||| 2 ^ m))) (fun j => if j = k then A k ||| 2 ^ m else A j) (by omega) hR (by rw [gi_si, if_neg (by omega)]; exact h8) (fun j hj => by
    rw [gi_si]
    by_cases e : j = k
    · rw [if_pos ⟨rfl, e⟩, if_pos e]
    · rw [if_neg (by omega), if_neg e]
      exact hA j hj)
  refine ⟨τ, ?_, t2, fun a j z1 z2 => by rw [t3 a j z1 z2, gi_si, if_neg (by omega)], t4, fun j hj => ?_⟩
  · unfold f_X2_addPerson_14
    rw [show (6 : Int32) = nI 6 from rfl, if_neg (nI_ge hc (by omega)), if_neg (nI_pos (by omega))]
    simp (disch := omega) only [↓reduceIte, ↓BRp hR hP, ok_p hP, inbT, ix_nI, lt, hA k hk, h8, shl1, nI_or, hv, nI_1]
    exact t1
  · rw [t5 j hj]
    by_cases e : j = k
    · subst e
      simp [hq]
    · simp [e]
theorem rAP_all {N P m k : Nat} {b : Bool} (hP : P = 19 ∨ P = 27) (hm : m < 6) (hk : k ≤ 5) : ∃ q, rAP N P m b (nI k) 0 q ∧ ∀ j, j < 6 → q j = isK j k := by
  have a0 : ∀ c, c < 6 → rAP N P m b (nI 0) c (fun j => decide (j = 0) || false) := fun c hc => rAP_step (k := 0) (v := -1) hP hc (by decide) hm rfl (rAP_base (by omega)) rfl
  have a1 : ∀ c, c < 5 → rAP N P m b (nI 1) c (fun j => decide (j = 1) || (decide (j = 0) || false)) := fun c hc => rAP_step (k := 1) (v := nI 0) hP (by omega) (by decide) hm rfl (a0 (c + 1) (by omega)) rfl
  have a2 : ∀ c, c < 5 → rAP N P m b (nI 2) c (fun j => decide (j = 2) || (decide (j = 0) || false)) := fun c hc => rAP_step (k := 2) (v := nI 0) hP (by omega) (by decide) hm rfl (a0 (c + 1) (by omega)) rfl
  rcases (show k = 0 ∨ k = 1 ∨ k = 2 ∨ k = 3 ∨ k = 4 ∨ k = 5 by omega) with rfl | rfl | rfl | rfl | rfl | rfl
  · exact ⟨_, a0 0 (by decide), by decide⟩
  · exact ⟨_, a1 0 (by decide), by decide⟩
  · exact ⟨_, a2 0 (by decide), by decide⟩
  · exact ⟨_, rAP_step (k := 3) (v := nI 1) hP (by decide) (by decide) hm rfl (a1 1 (by decide)) rfl, by decide⟩
  · exact ⟨_, rAP_step (k := 4) (v := nI 2) hP (by decide) (by decide) hm rfl (a2 1 (by decide)) rfl, by decide⟩
  · exact ⟨_, rAP_step (k := 5) (v := nI 0) hP (by decide) (by decide) hm rfl (a0 1 (by decide)) rfl, by decide⟩
theorem p_addP {N P m k : Nat} {b : Bool} {σ : Mm} {kd : Nat → Nat} (hN : 20 ≤ N) (hR : Rf b σ) (hP : P = 19 ∨ P = 27) (hm : m < 6) (hk : k ≤ 5) (h8 : gi σ P 8 = nI m) (hA : ∀ j, j < 6 → gi σ (P + 2) j = nI (msk (fun p => isK j (kd p)) m)) : ∃ τ, f_X2_addPerson N P (nI k) σ = some τ ∧ τ.2 = σ.2 ∧ (∀ a j, ¬ (a = P ∧ j = 8) → ¬ (a = P + 1 ∧ j = m) → ¬ (a = P + 2 ∧ j < 6) → gi τ a j = gi σ a j) ∧ gi τ P 8 = nI (m + 1) ∧ gi τ (P + 1) m = nI k ∧ ∀ j, j < 6 → gi τ (P + 2) j = nI (msk (fun p => isK j (if p = m then k else kd p)) (m + 1)) := by
  obtain ⟨q, q1, q2⟩ := rAP_all (N := N) (b := b) hP hm hk
  obtain ⟨τ, t1, t2, t3, t4, t5⟩ := q1 N (si σ (P + 1) m (nI k)) (fun j => msk (fun p => isK j (kd p)) m) (by omega) hR (by rw [gi_si, if_neg (by omega)]; exact h8) (fun j hj => by rw [gi_si, if_neg (by omega)]; exact hA j hj)
  refine ⟨τ, ?_, t2, fun a j z1 z2 z3 => by rw [t3 a j z1 z3, gi_si, if_neg z2], t4, by rw [t3 _ _ (by omega) (by omega), gi_si, if_pos ⟨rfl, rfl⟩], fun j hj => ?_⟩
  · unfold f_X2_addPerson
    rw [if_pos (ok_p hP).1]
    simp (disch := omega) only [↓reduceIte, ↓BRp hR hP, ok_p hP, h8, inbT, ix_nI, lt]
    exact t1
  · rw [t5 j hj, q2 j hj]
    congr 1
    show _ = msk (fun p => isK j (if p = m then k else kd p)) m ||| (if isK j (if m = m then k else kd m) then 2 ^ m else 0)
    rw [if_pos rfl, msk_congr (P := fun p => isK j (if p = m then k else kd p)) (Q := fun p => isK j (kd p)) (fun p hp => by rw [if_neg (by omega)])]
    cases isK j k with
    | true => rfl
    | false => rw [if_neg Bool.false_ne_true, if_neg Bool.false_ne_true, Nat.or_zero]
