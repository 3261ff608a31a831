/-! ===== PURE: sign, undo, keep, on ===== -/
def rm (τ : Mm) (m : Nat) : Mm := si (blt τ 81 (14 * m) 14 (gi τ 78)) 66 22 (nI (m + 1))
theorem rm_out {τ : Mm} {m a k : Nat} (h1 : a ≠ 81) (h2 : ¬ (a = 66 ∧ k = 22)) : gi (rm τ m) a k = gi τ a k := by
  unfold rm
  rw [gi_si, if_neg h2, blt_out h1]
theorem Rf_rm {b : Bool} {τ : Mm} {m : Nat} (h : Rf b τ) : Rf b (rm τ m) := h
theorem TWm_rem {σ τ ρ : Mm} {n : Nat} {kd al sg : Nat → Nat} {ds : Dd} {kp : Nat → Option Dd} {w : Nat × Nat} (hn : n ≤ 6) (h : TWm σ n kd al sg ds kp) (f : ∀ a k, 66 ≤ a → gi τ a k = gi σ a k) (g : ∀ a k, (a = 66 ∧ (k = 10 ∨ k = 22)) ∨ a = 73 ∨ a = 74 ∨ (81 ≤ a ∧ a ≤ 85) → gi ρ a k = gi (rm τ ds.length) a k) (hv : VM n (rep al sg (ds ++ [w])) (gi ρ 78)) : TWm ρ n kd al sg (ds ++ [w]) kp := by
  refine TWm_add hn h (fun a k q => ?_) ?_ (fun k hk => ?_) (fun j hj => ?_) hv
  · rw [g a k (by omega), rm_out (by omega) (by omega), f a k (by omega)]
  · rw [g _ _ (by omega)]
    unfold rm
    rw [gi_si, if_pos ⟨rfl, rfl⟩]
  · rw [g _ _ (by omega)]
    unfold rm
    rw [gi_si, if_neg (by omega), gi_blt, if_pos (by omega), show 14 * ds.length + k - 14 * ds.length = k by omega, f _ _ (by omega)]
  · rw [g _ _ (by omega)]
    unfold rm
    rw [gi_si, if_neg (by omega), gi_blt, if_neg (by omega), f _ _ (by omega)]
theorem lt40 {m : Nat} (h : m ≤ 40) : (nI m < (40 : Int32) ↔ m < 40) ∧ (nI m = (40 : Int32) ↔ ¬ m < 40) := by
  by_cases c : m < 40
  · exact ⟨⟨fun _ => c, fun _ => nI_lt (b := 40) c (by decide)⟩, ⟨fun q => absurd ((nI_eq (a := m) (b := 40) (by omega) (by omega)).mp q) (by omega), fun q => absurd c q⟩⟩
  · exact ⟨⟨fun q => absurd q (nI_nlt (b := 40) (by omega) (by omega)), fun q => absurd q c⟩, ⟨fun _ => c, fun _ => by rw [show m = 40 by omega]; rfl⟩⟩
theorem s_sign {N : Nat} (hN : 100 ≤ N) (x y : Int32) : Sim (f_X5_sign N 0 x y) (f_X6_sign N 66 x y) := by
  intro b σ h
  have hR := h.1
  obtain ⟨n, kd, al, sg, ds, kp, w1, w2, w3⟩ := h.2.2.2.2
  have hs := w2.1.1
  have hn := w1.1
  have hP := pl_cases b
  have h64 := pow6 hn
  have hMS := TW_MS (b := b) w1 w3
  have hdy := okDy_rep (al := al) (n := n) w1.2.2.1 ds w1.2.2.2.2.2.2.1
  have hl := w1.2.2.2.2.2.1
  rcases arg_two x y hn with q | ⟨p, q, hp, hq, hpq, rfl, rfl⟩
  · refine ⟨-1, σ, σ, b, ?_, ?_, h⟩
    · unfold f_X5_sign
      rw [if_pos OKx.1, bIe (two_x0 (N := N) hR hs hn q)]
      rfl
    · unfold f_X6_sign
      rw [if_pos OKx.2.1, bIe (two_m0 (N := N) w3.1 hn q)]
      rfl
  · have s1 : gi σ 9 p = nI ((rep al sg ds).2.1 p) := (w2.2.1.2.2.1 p hp).2
    have s2 := hdy.2.1 p hp
    have bx : f_X5_sign N 0 (nI p) (nI q) σ = if ((rep al sg ds).2.1 p).testBit q then some (-4, σ) else if ds.length < 40 then (bV (f_X5_act N 0 (2) (nI (p * 6 + q)) σ) (fun t8 => bR (gr t8 0 4) (okO 0) (fun o9 => bI (f_X0_signCount N o9 t8) (fun r11 t10 => some (r11, t10))))) else some (-2, σ) := by
      unfold f_X5_sign
      rw [if_pos OKx.1, bIe (two_x1 (N := N) hR hs hn hp hq hpq), if_neg (show ¬ (1 : Int32) = 0 by decide)]
      simp (disch := omega) only [↓reduceIte, ↓BR hR, OKx, inbT, ix_nI, s1]
      rw [bIe (p_holds (N := N) (by omega) (show q < 6 by omega)), if10]
      simp (disch := omega) only [↓reduceIte, ↓BR hR, OKx]
      rw [w2.2.2.2.1.1, show (6 : Int32) = nI 6 from rfl, pk_mul, nI_add]
      cases ((rep al sg ds).2.1 p).testBit q with
      | true => rfl
      | false =>
        rw [if_neg Bool.false_ne_true, if_neg Bool.false_ne_true]
        by_cases c : ds.length < 40
        · rw [if_pos ((lt40 hl).1.mpr c), if_pos c]
        · rw [if_neg (mt (lt40 hl).1.mp c), if_neg c]
    have bm : ∀ τ, (∀ a k, 66 ≤ a → gi τ a k = gi σ a k) → Rf b τ → f_X6_sign N 66 (nI p) (nI q) τ = if ((rep al sg ds).2.1 p).testBit q then some (-4, τ) else if ds.length < 40 then bI (f_X6_signMany N 66 (si (si (rm τ ds.length) 78 (6 + p) (nI ((rep al sg ds).2.1 p ||| 2 ^ q))) 78 (6 + q) (nI ((rep al sg ds).2.1 q ||| 2 ^ p)))) (fun r12 t11 => some (r12, t11)) else some (-2, τ) := by
      intro τ f hRt
      have v1 : ∀ p, p < n → gi τ 78 (6 + p) = nI ((rep al sg ds).2.1 p) := fun p hp => (f _ _ (by omega)).trans (w3.2.2.2.1.1 p hp).2
      unfold f_X6_sign
      rw [if_pos OKx.2.1, bIe (two_m1 (N := N) ((f _ _ (by omega)).trans w3.1) hn hp hq hpq), if_neg (show ¬ (1 : Int32) = 0 by decide), show (6 : Int32) = nI 6 from rfl]
      simp (disch := omega) only [↓reduceIte, ↓BR hRt, OKm, nI_add, inbT, ix_nI, v1 p hp]
      rw [bIe (p_has (N := N) (by omega) (show q < 6 by omega)), if10, (f 66 22 (by omega)).trans w3.2.2.1]
      cases ((rep al sg ds).2.1 p).testBit q with
      | true => rfl
      | false =>
        rw [if_neg Bool.false_ne_true, if_neg Bool.false_ne_true]
        by_cases c : ds.length < 40
        · rw [if_neg (fun z => (lt40 hl).2.mp z c), if_pos c, bVe (show f_X6_remember N 66 τ = some (rm τ ds.length) from p_rem (by omega) hRt ((f 66 22 (by omega)).trans w3.2.2.1) c)]
          have r1 : ∀ p, p < n → gi (rm τ ds.length) 78 (6 + p) = nI ((rep al sg ds).2.1 p) := fun p hp => by rw [rm_out (by omega) (by omega)]; exact v1 p hp
          have r2 : gi (si (rm τ ds.length) 78 (6 + p) (nI ((rep al sg ds).2.1 p ||| 2 ^ q))) 78 (6 + q) = nI ((rep al sg ds).2.1 q) := by rw [gi_si, if_neg (by omega)]; exact r1 q hq
          simp (disch := omega) only [↓reduceIte, ↓BR (Rf_rm hRt), ↓BRs, OKm, inbT, ix_nI, r1 p hp, lt, shl1, nI_or, r2]
        · rw [if_pos ((lt40 hl).2.mpr c), if_neg c]
    cases hh : ((rep al sg ds).2.1 p).testBit q with
    | true =>
      rw [hh, if_pos rfl] at bx
      refine ⟨-4, σ, σ, b, bx, ?_, h⟩
      rw [bm σ (fun _ _ _ => rfl) hR, hh]
      rfl
    | false =>
      rw [hh, if_neg (by decide)] at bx
      by_cases a3 : ds.length < 40
      · rw [if_pos a3] at bx
        have e1 : (p * 6 + q) / 6 = p := by omega
        have e2 : (p * 6 + q) % 6 = q := by omega
        have hw : okD n (2, p * 6 + q) := ⟨Nat.le_refl 2, fun z => absurd z (show ¬ (2 : Nat) = 0 by decide), fun z => absurd z (show ¬ (2 : Nat) = 1 by decide), fun _ => by dsimp only; rw [e1, e2]; exact ⟨hp, hq⟩⟩
        obtain ⟨τ, t1, t2, t3, t4, t5, t6⟩ := p_act (N := N) (w := (2, p * 6 + q)) hN hR hn w2.1 w2.2.2.2.1 w2.2.1 w2.2.2.1 a3 w1.2.2.2.2.2.2.1 hw w1.2.2.1
        have hRt : Rf b τ := Rf_eq (by rw [t2]) hR
        have hrep : rep al sg (ds ++ [(2, p * 6 + q)]) = ((rep al sg ds).1, addS (rep al sg ds).2.1 p q, (rep al sg ds).2.2.1, (rep al sg ds).2.2.2) := by
          rw [rep_snoc]
          unfold app
          rw [if_neg (show ¬ (2 : Nat) = 0 by decide), if_neg (show ¬ (2 : Nat) = 1 by decide), show ((2 : Nat), p * 6 + q).2 / 6 = p from e1, show ((2 : Nat), p * 6 + q).2 % 6 = q from e2]
        have hok2 := okW_add w1 a3 hw
        have hdy2 := okDy_rep (al := al) (n := n) w1.2.2.1 _ hok2.2.2.2.2.2.2.1
        have hb := bm τ (fun a k z => t3 a k (by omega)) hRt
        rw [hh, if_neg (by decide), if_pos a3] at hb
        generalize hρ : si (si (rm τ ds.length) 78 (6 + p) (nI ((rep al sg ds).2.1 p ||| 2 ^ q))) 78 (6 + q) (nI ((rep al sg ds).2.1 q ||| 2 ^ p)) = ρ at hb
        have fr : ∀ a k, ¬ (a = 78 ∧ k = 6 + p) → ¬ (a = 78 ∧ k = 6 + q) → gi ρ a k = gi (rm τ ds.length) a k := fun a k z1 z2 => by rw [← hρ, gi_si, if_neg z2, gi_si, if_neg z1]
        have hRρ : Rf b ρ := by rw [← hρ]; exact hRt
        have e22 : ρ.2 = σ.2 := by rw [← hρ]; exact t2
        have hv : VM n (rep al sg (ds ++ [(2, p * 6 + q)])) (gi ρ 78) := by
          rw [hrep]
          obtain ⟨v1, v2, v3⟩ := w3.2.2.2.1
          refine ⟨fun r hr => ⟨?_, ?_⟩, ?_, ?_⟩
          · rw [fr _ _ (by omega) (by omega), rm_out (by omega) (by omega), t3 _ _ (by omega)]
            exact (v1 r hr).1
          · show _ = nI (addS (rep al sg ds).2.1 p q r)
            unfold addS
            by_cases c1 : r = p
            · subst c1
              rw [if_pos rfl, ← hρ, gi_si, if_neg (by omega), gi_si, if_pos ⟨rfl, rfl⟩]
            · rw [if_neg c1]
              by_cases c2 : r = q
              · subst c2
                rw [if_pos rfl, ← hρ, gi_si, if_pos ⟨rfl, rfl⟩]
              · rw [if_neg c2, fr _ _ (by omega) (by omega), rm_out (by omega) (by omega), t3 _ _ (by omega)]
                exact (v1 r hr).2
          · rw [fr _ _ (by omega) (by omega), rm_out (by omega) (by omega), t3 _ _ (by omega)]
            exact v2
          · rw [fr _ _ (by omega) (by omega), rm_out (by omega) (by omega), t3 _ _ (by omega)]
            exact v3
        have hTm : TWm ρ n kd al sg (ds ++ [(2, p * 6 + q)]) kp := TWm_rem (σ := σ) (τ := τ) hn w3 (fun a k z => t3 a k (by omega)) (fun a k z => fr a k (by omega) (by omega)) hv
        have fx : ∀ a k, a ≤ 65 → gi ρ a k = gi τ a k := fun a k z => by rw [fr a k (by omega) (by omega), rm_out (by omega) (by omega)]
        have hTx : TWx b ρ n kd al sg (ds ++ [(2, p * 6 + q)]) kp := TWx_new (σ := σ) w2 (fun a k z1 z2 => by rw [fx a k z2, t3 a k (by omega)]) (DX_congr (σ := τ) (fun a k z1 z2 => fx a k (by omega)) t4) (YX_congr (σ := τ) (fun a k z1 z2 => fx a k (by omega)) t5) (by rw [fx _ _ (by omega)]; exact t6)
        have hMS2 := TW_MS (b := b) hok2 hTm
        refine ⟨nI (sgs (rep al sg (ds ++ [(2, p * 6 + q)])).2.1 n / 2), τ, ρ, b, ?_, ?_, rel_TW h e22 (fun a k z => by rw [fr a k (by omega) (by omega), rm_out (by omega) (by omega), t3 a k (by omega)]) ⟨n, kd, al, sg, _, kp, hok2, hTx, hTm⟩⟩
        · rw [bx, bVe (show f_X5_act N 0 2 (nI (p * 6 + q)) σ = some τ from t1)]
          simp (disch := omega) only [↓reduceIte, ↓BR hRt, OKx]
          rw [bIe (p_signC (kd := kd) (by omega) hRt t5.1 (fun p hp => (t5.2.2.1 p hp).2) hn hdy2.2.1)]
        · rw [hb, bIe (p_signM (by omega) hRρ hMS2)]
      · rw [if_neg a3] at bx
        refine ⟨-2, σ, σ, b, bx, ?_, h⟩
        rw [bm σ (fun _ _ _ => rfl) hR, hh, if_neg (by decide), if_neg a3]
theorem okW_sub {n : Nat} {kd al sg : Nat → Nat} {ds dt : Dd} {kp kq : Nat → Option Dd} (h : okW n kd al sg ds kp) (h1 : dt.length ≤ 40) (h2 : ∀ w ∈ dt, okD n w) (h3 : ∀ k d, kq k = some d → d.length ≤ 40 ∧ ∀ w ∈ d, okD n w) : okW n kd al sg dt kq := ⟨h.1, h.2.1, h.2.2.1, h.2.2.2.1, h.2.2.2.2.1, h1, h2, h3⟩
theorem s_undo {N : Nat} (hN : 100 ≤ N) (x : Int32) : Sim (f_X5_undo N 0 x) (f_X6_undo N 66 x) := by
  intro b σ h
  have hR := h.1
  obtain ⟨n, kd, al, sg, ds, kp, w1, w2, w3⟩ := h.2.2.2.2
  have hn := w1.1
  have hP := pl_cases b
  have hl := w1.2.2.2.2.2.1
  rcases arg2 x (ds.length + 1) (by omega) with q | ⟨m, hm, rfl⟩
  · refine ⟨-1, σ, σ, b, ?_, ?_, h⟩
    · unfold f_X5_undo
      rw [if_pos OKx.1]
      simp (disch := omega) only [↓reduceIte, ↓BR hR, OKx]
      rw [w2.2.2.2.1.1]
      by_cases c : x < 0
      · rw [if_pos c]
      · rw [if_neg c, if_neg (Int32.not_le.mpr (le_lt6 (by omega) (q.resolve_left c)))]
    · unfold f_X6_undo
      rw [if_pos OKx.2.1, w3.2.2.1, bIe (p_in0 (N := N) (q.imp id (fun z => le_lt6 (by omega) z)))]
      rfl
  · have hle : m ≤ ds.length := by omega
    let σ1 : Mm := si σ 4 2 (nI m)
    have f1 : ∀ a k, a ≠ 4 → gi σ1 a k = gi σ a k := fun a k z => by
      show gi (si σ 4 2 (nI m)) a k = _
      rw [gi_si, if_neg (by omega)]
    have hX1 : PX σ1 (pl b) n kd al sg := PX_congr (fun a k z1 z2 => f1 a k (by omega)) w2.1
    have hlen : (ds.take m).length = m := by rw [List.length_take]; omega
    have hD1 : DX σ1 4 (ds.take m) := by
      refine ⟨?_, fun i v hv => ?_⟩
      · show gi (si σ 4 2 (nI m)) 4 2 = _
        rw [gi_si, if_pos ⟨rfl, rfl⟩, hlen]
      · rw [f1 _ _ (by omega), f1 _ _ (by omega)]
        refine w2.2.2.2.1.2 i v ?_
        rw [List.getElem?_take] at hv
        split at hv
        · exact hv
        · exact absurd hv (by simp)
    have hok : ∀ w ∈ ds.take m, okD n w := fun w hw => w1.2.2.2.2.2.2.1 w (List.mem_of_mem_take hw)
    obtain ⟨τ, t1, t2, t3, t4⟩ := p_again hN (show Rf b σ1 from hR) hn hX1 hD1 (by omega) hok w1.2.2.1
    have hRt : Rf b τ := FDy_Rf t2 (show Rf b σ1 from hR)
    have fm : ∀ a k, 12 < a → gi τ a k = gi σ a k := fun a k z => by rw [t2.2 a k (by omega), f1 a k (by omega)]
    let τ1 : Mm := if m < ds.length then blt τ 78 0 14 (fun k => gi τ 81 (14 * m + k)) else τ
    let τ2 : Mm := si τ1 66 22 (nI m)
    have g1 : ∀ a k, a ≠ 78 → gi τ1 a k = gi τ a k := fun a k z => by
      show gi (if m < ds.length then blt τ 78 0 14 (fun k => gi τ 81 (14 * m + k)) else τ) a k = _
      split
      · rw [blt_out z]
      · rfl
    have g2 : ∀ a k, ¬ (a = 66 ∧ k = 22) → gi τ2 a k = gi τ1 a k := fun a k z => by
      show gi (si τ1 66 22 (nI m)) a k = _
      rw [gi_si, if_neg z]
    have g3 : τ2.2 = σ.2 := by
      show (si τ1 66 22 (nI m)).2 = _
      show τ1.2 = _
      show (if m < ds.length then blt τ 78 0 14 (fun k => gi τ 81 (14 * m + k)) else τ).2 = _
      split
      · exact t2.1
      · exact t2.1
    have hTx : TWx b τ2 n kd al sg (ds.take m) kp := TWx_new (σ := σ) w2 (fun a k z1 z2 => by rw [g2 a k (by omega), g1 a k (by omega), fm a k (by omega)]) (DX_congr (σ := τ) (fun a k z1 z2 => by rw [g2 a k (by omega), g1 a k (by omega)]) (DX_FDy t2 hD1)) (YX_congr (σ := τ) (fun a k z1 z2 => by rw [g2 a k (by omega), g1 a k (by omega)]) t3) (by rw [g2 _ _ (by omega), g1 _ _ (by omega)]; exact t4)
    have hv : VM n (rep al sg (ds.take m)) (gi τ2 78) := by
      by_cases c : m < ds.length
      · refine VM_congr hn (fun k hk => ?_) (w3.2.2.2.2.1 m c)
        rw [g2 _ _ (by omega)]
        show gi (if m < ds.length then blt τ 78 0 14 (fun k => gi τ 81 (14 * m + k)) else τ) 78 k = _
        rw [if_pos c, blt_in hk, fm _ _ (by omega)]
      · rw [show m = ds.length by omega, List.take_length]
        refine VM_congr hn (fun k hk => ?_) w3.2.2.2.1
        rw [g2 _ _ (by omega)]
        show gi (if m < ds.length then blt τ 78 0 14 (fun k => gi τ 81 (14 * m + k)) else τ) 78 k = _
        rw [if_neg c, fm _ _ (by omega)]
    have fr : ∀ a k, 66 < a → a ≠ 78 → gi τ2 a k = gi σ a k := fun a k z1 z2 => by rw [g2 a k (by omega), g1 a k (by omega), fm a k (by omega)]
    have hTm : TWm τ2 n kd al sg (ds.take m) kp := by
      obtain ⟨h1, h2, h3, h4, h5, h6⟩ := w3
      refine ⟨by rw [g2 _ _ (by omega), g1 _ _ (by omega), fm _ _ (by omega)]; exact h1, fun p hp => by rw [fr _ _ (by omega) (by omega), fr _ _ (by omega) (by omega)]; exact h2 p hp, ?_, hv, fun i hi => ?_, fun k hk => ?_⟩
      · show gi (si τ1 66 22 (nI m)) 66 22 = _
        rw [gi_si, if_pos ⟨rfl, rfl⟩, hlen]
      · rw [hlen] at hi
        rw [List.take_take, show min i m = i by omega]
        exact VM_congr hn (fun k hk => fr _ _ (by omega) (by omega)) (h5 i (by omega))
      · have h7 := h6 k hk
        cases hkp : kp k with
        | none =>
          rw [hkp] at h7
          show gi τ2 82 k = 0
          rw [fr 82 k (by omega) (by omega)]
          exact h7
        | some d =>
          rw [hkp] at h7
          obtain ⟨e1, e2, e3, e4⟩ := h7
          exact ⟨by rw [fr 82 k (by omega) (by omega)]; exact e1, by rw [fr 83 k (by omega) (by omega)]; exact e2, VM_congr hn (fun j _ => fr 84 _ (by omega) (by omega)) e3, fun i hi => VM_congr hn (fun j _ => fr 85 _ (by omega) (by omega)) (e4 i hi)⟩
    refine ⟨nI (ds.length - m), τ, τ2, b, ?_, ?_, rel_TW h g3 (fun a k z => by rw [g2 a k (by omega), g1 a k (by omega), t2.2 a k (by omega), f1 a k (by omega)]) ⟨n, kd, al, sg, _, kp, okW_sub w1 (by omega) hok w1.2.2.2.2.2.2.2, hTx, hTm⟩⟩
    · unfold f_X5_undo
      rw [if_pos OKx.1]
      simp (disch := omega) only [↓reduceIte, ↓BR hR, OKx]
      rw [w2.2.2.2.1.1, if_neg (nI_pos (by omega)), if_pos (nI_le hle (by omega))]
      simp only [lt]
      rw [nI_subT hle, bVe (show f_X5_liveAgain N 0 (si σ 4 2 (nI m)) = some τ from t1)]
    · have h22 : gi τ 66 22 = nI ds.length := by rw [fm _ _ (by omega)]; exact w3.2.2.1
      unfold f_X6_undo
      rw [if_pos OKx.2.1, h22, bIe (p_in1 (N := N) (nI_pos (by omega)) (nI_nlt hle (by omega))), if_neg (show ¬ (1 : Int32) = 0 by decide), h22, nI_subT hle]
      simp only [lt]
      by_cases c : m < ds.length
      · have z := loop (fun f i => f_X6_undo_23 N f 66 (nI m) (nI (ds.length - m)) (nI i) (blt τ 78 0 i (fun k => gi τ 81 (14 * m + k)))) (some (nI (ds.length - m), τ2)) 14 ?_ ?_ N 0 (by omega) (by omega)
        · rw [blt_0] at z
          exact z
        · intro f
          unfold f_X6_undo_23 f_X6_undo_56
          rw [show (14 : Int32) = nI 14 from rfl, if_pos (nI_le (Nat.le_refl 14) (by decide))]
          simp only [lt]
          show some (nI (ds.length - m), si (blt τ 78 0 14 (fun k => gi τ 81 (14 * m + k))) 66 22 (nI m)) = some (nI (ds.length - m), si (if m < ds.length then blt τ 78 0 14 (fun k => gi τ 81 (14 * m + k)) else τ) 66 22 (nI m))
          rw [if_pos c]
        · intro f i hi A hA
          unfold f_X6_undo_23
          have e81 : gi (blt τ 78 0 i (fun k => gi τ 81 (14 * m + k))) 81 (14 * m + i) = gi τ 81 (14 * m + i) := blt_out (by omega)
          rw [hA, show (14 : Int32) = nI 14 from rfl, if_neg (nI_ge hi (by omega)), if_neg (show ¬ nI (ds.length - m) ≤ (0 : Int32) from nI_ge (a := 0) (by omega) (by omega))]
          simp (disch := omega) only [↓reduceIte, ↓BR (Rf_blt hRt), OKm, pk_mul, nI_add, inbT, ix_nI, lt, nI_1, e81]
          rw [show gi τ 81 (14 * m + i) = (fun k => gi τ 81 (14 * m + k)) i from rfl, blt_s0]
      · obtain ⟨N', rfl⟩ : ∃ N', N = N' + 1 := ⟨N - 1, by omega⟩
        unfold f_X6_undo_23 f_X6_undo_56
        rw [show (14 : Int32) = nI 14 from rfl, if_neg (show ¬ nI 14 ≤ (0 : Int32) by decide), if_pos (show nI (ds.length - m) ≤ (0 : Int32) by rw [show ds.length - m = 0 by omega]; decide)]
        simp only [lt]
        show some (nI (ds.length - m), si τ 66 22 (nI m)) = some (nI (ds.length - m), si (if m < ds.length then blt τ 78 0 14 (fun k => gi τ 81 (14 * m + k)) else τ) 66 22 (nI m))
        rw [if_neg c]
