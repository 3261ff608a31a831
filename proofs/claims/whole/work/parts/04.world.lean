/-! ===== THE WORLD: every cell that the law's run makes has a number a (in the order of making) and lies at the address B + a; its shape is fixed ahead; what it holds is a memory ===== -/
/-- a memory: ints (also bytes, booleans), longs, references, each by cell and place -/
abbrev Mm : Type := (Nat → Nat → Int32) × (Nat → Nat → Int64) × (Nat → Nat → Option Nat)
def gi (σ : Mm) (a k : Nat) : Int32 := σ.1 a k
def gl (σ : Mm) (a k : Nat) : Int64 := σ.2.1 a k
def gr (σ : Mm) (a k : Nat) : Option Nat := σ.2.2 a k
def si (σ : Mm) (a k : Nat) (v : Int32) : Mm := (fun b j => if b = a ∧ j = k then v else σ.1 b j, σ.2.1, σ.2.2)
def sl (σ : Mm) (a k : Nat) (v : Int64) : Mm := (σ.1, fun b j => if b = a ∧ j = k then v else σ.2.1 b j, σ.2.2)
def sr (σ : Mm) (a k : Nat) (v : Option Nat) : Mm := (σ.1, σ.2.1, fun b j => if b = a ∧ j = k then v else σ.2.2 b j)
/-- a cell made anew: all is 0 there -/
def sz0 (σ : Mm) (a : Nat) : Mm := (fun b j => if b = a then 0 else σ.1 b j, fun b j => if b = a then 0 else σ.2.1 b j, fun b j => if b = a then none else σ.2.2 b j)
/-- how many cells there are behind the two constructors -/
abbrev NT : Nat := 89
/-- the shapes: an object of a class (by its number), or an array (code of its elements' type, length). Codes: 0 int, 1 byte, 2 boolean, 3 Row, 4 Text, 5 Deeds -/
def SHL : List (Nat ⊕ (Nat × Nat)) :=
  [.inl 5, .inr (3, 6), .inr (4, 4), .inr (5, 3), .inl 1, .inr (0, 40), .inr (0, 40),
   .inl 0, .inr (0, 6), .inr (0, 6), .inr (0, 6), .inr (0, 4), .inr (0, 6),
   .inl 0, .inr (0, 6), .inr (0, 6), .inr (0, 6), .inr (0, 4), .inr (0, 6),
   .inl 2, .inr (0, 6), .inr (0, 6), .inr (0, 6), .inr (0, 6), .inr (0, 6), .inr (0, 6), .inr (0, 6),
   .inl 2, .inr (0, 6), .inr (0, 6), .inr (0, 6), .inr (0, 6), .inr (0, 6), .inr (0, 6), .inr (0, 6),
   .inr (0, 6), .inr (0, 6),
   .inl 3, .inr (0, 40), .inl 3, .inr (0, 40), .inl 3, .inr (0, 40), .inl 3, .inr (0, 40), .inl 3, .inr (0, 40), .inl 3, .inr (0, 40),
   .inl 4, .inr (1, 60), .inl 4, .inr (1, 60), .inl 4, .inr (1, 60), .inl 4, .inr (1, 60),
   .inl 1, .inr (0, 40), .inr (0, 40), .inl 1, .inr (0, 40), .inr (0, 40), .inl 1, .inr (0, 40), .inr (0, 40),
   .inl 6, .inr (0, 6), .inr (0, 6), .inr (0, 240), .inr (0, 40), .inr (0, 4), .inr (1, 240), .inr (0, 6), .inr (0, 6), .inr (0, 6), .inr (0, 6), .inr (0, 6),
   .inr (0, 14), .inr (0, 14), .inr (0, 6), .inr (0, 560), .inr (2, 3), .inr (0, 3), .inr (0, 42), .inr (0, 1680), .inr (0, 6), .inr (0, 24576), .inr (0, 6)]
def shp (a : Nat) : Nat ⊕ (Nat × Nat) := SHL.getD a (.inl 99)
def shO (a : Nat) : Nat := match shp a with
  | .inl c => c
  | .inr _ => 99
def arT (a : Nat) : Nat := match shp a with
  | .inl _ => 99
  | .inr x => x.1
def arL (a : Nat) : Nat := match shp a with
  | .inl _ => 0
  | .inr x => x.2
def okO (ci a : Nat) : Bool := decide (a < NT) && decide (shp a = .inl ci)
def okA (t a : Nat) : Bool := decide (a < NT) && decide (arT a = t)
/-- the place of an index -/
abbrev ix (i : Int32) : Nat := i.toNatClampNeg
def inb (i : Int32) (n : Nat) : Bool := decide (0 ≤ i.toInt) && decide (i.toInt < n)
theorem inb_in {i : Int32} {n : Nat} (h : inb i n = true) : vp_in i n := by
  unfold inb at h
  rw [Bool.and_eq_true, decide_eq_true_eq, decide_eq_true_eq] at h
  exact vp_in_iff.mpr h
/-- the combinators that the methods' own functions are made of -/
def bI {ρ : Type} (x : Option (Int32 × Mm)) (k : Int32 → Mm → Option ρ) : Option ρ := match x with
  | none => none
  | some r => k r.1 r.2
def bL {ρ : Type} (x : Option (Int64 × Mm)) (k : Int64 → Mm → Option ρ) : Option ρ := match x with
  | none => none
  | some r => k r.1 r.2
def bV {ρ : Type} (x : Option Mm) (k : Mm → Option ρ) : Option ρ := match x with
  | none => none
  | some r => k r
def bR {ρ : Type} (x : Option Nat) (chk : Nat → Bool) (k : Nat → Option ρ) : Option ρ := match x with
  | none => none
  | some b => if chk b then k b else none
def lt {α ρ : Type} (e : α) (f : α → Option ρ) : Option ρ := f e
def bz (v : Int32) : Bool := decide (v = 0) || decide (v = 1)
theorem bz_nar {v : Int32} (h : bz v = true) : narrow .boolean (.int v) = .int v := by
  unfold bz at h
  rw [Bool.or_eq_true, decide_eq_true_eq, decide_eq_true_eq] at h
  rcases h with rfl | rfl <;> rfl
/-- the environment: the base address, the array classes by code, classes and slots of the vm, the two static arrays' addresses -/
abbrev XE : Type := Nat × (Nat → ClassId) × va_G × Nat × Nat
abbrev XE.B (E : XE) : Nat := E.1
abbrev XE.cA (E : XE) : Nat → ClassId := E.2.1
abbrev XE.D (E : XE) : va_G := E.2.2.1
abbrev XE.tL (E : XE) : Nat := E.2.2.2.1
abbrev XE.tB (E : XE) : Nat := E.2.2.2.2
def nFl : Nat → Nat := fun c => match c with
  | 0 => 8 | 1 => 3 | 2 => 9 | 3 => 2 | 4 => 2 | 5 => 14 | 6 => 34 | _ => 0
def tyF : Nat → Nat → FieldType := fun c => match c with
  | 0 => tyX0 | 1 => tyX1 | 2 => tyX2 | 3 => tyX3 | 4 => tyX4 | 5 => tyX5 | _ => tyX6
def xfv (E : XE) (t : FieldType) (σ : Mm) (a i : Nat) : Value := match t with
  | .int => .int (gi σ a i)
  | .boolean => .int (gi σ a i)
  | .long => .long (gl σ a i)
  | _ => va_rf ((gr σ a i).map (fun b => E.B + b))
def xcel (E : XE) (σ : Mm) (a : Nat) : va_E := match shp a with
  | .inl ci => .inr (ci, (List.range (nFl ci)).map (fun i => xfv E (tyF ci i) σ a i))
  | .inr x => .inl (E.cA x.1, x.2, if x.1 < 3 then .inl (gi σ a) else .inr (.inr (.inr (.inr (fun i => (gr σ a i).map (fun b => E.B + b))))))
def wld (E : XE) (N : Nat) (σ : Mm) : va_W := (List.range N).map (fun a => (E.B + a, xcel E σ a))
abbrev xtys (E : XE) : List (ClassId × FieldType) := [(E.cA 0, .int), (E.cA 1, .byte), (E.cA 2, .boolean), (E.cA 3, .object RX3), (E.cA 4, .object RX4), (E.cA 5, .object RX1)]
def xA (E : XE) : Nat → Prop := fun q => E.B ≤ q
def letC : Nat → Int32 := fun i => match i with
  | 0 => 112 | 1 => 108 | 2 => 109 | 3 => 100 | 4 => 115 | 5 => 116 | _ => 0
def besC : Nat → Int32 := fun i => match i with
  | 0 => -1 | 1 => 0 | 2 => 0 | 3 => 1 | 4 => 2 | 5 => 0 | _ => 0
/-- the links between nest mates: they are warm, but no good words -/
def nstW : List Cond := [.methodLinkNest RX5 27 yX1_init RX5, .methodLinkNest RX5 34 yX0_init RX5, .methodLinkNest RX5 44 yX2_init RX5, .methodLinkNest RX5 73 yX3_init RX5, .methodLinkNest RX5 74 yX4_init RX5, .methodLinkNest RX0 68 yX5_holds RX5, .methodLinkNest RX2 78 yX5_holds RX5, .methodLinkNest RX3 23 yX5_holds RX5, .fieldLinkNest RX2 67 "TonguesDealt" "LETTERS" "[C" "TonguesDealt", .fieldLinkNest RX2 71 "TonguesDealt" "BESIDES" "[I" "TonguesDealt", .arrayOver (.object RX3), .arrayOver (.object RX4), .arrayOver (.object RX1)]
/-- what holds of the vm, of the static arrays, at any time -/
def xK (E : XE) (U : State) : Prop := (∀ w ∈ goodL, va_Nw w U) ∧ (∀ w ∈ nstW, va_Nw w U) ∧ va_K E.D vwCl (xtys E) U
def xZ (E : XE) (U : State) (H : Heap) : Prop := va_Z "TonguesDealt" "LETTERS" "[C" (.ref E.tL) (xA E) U H ∧ va_T .char E.tL 6 (fun i => .int (letC i)) (xA E) U H ∧ va_Z "TonguesDealt" "BESIDES" "[I" (.ref E.tB) (xA E) U H ∧ va_T .int E.tB 6 (fun i => .int (besC i)) (xA E) U H
