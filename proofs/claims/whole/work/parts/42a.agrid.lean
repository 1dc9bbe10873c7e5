/-! ===== level 2: what a griddle is read as ===== -/
section AGRID
variable {tx : Nat → Nat} {L : Nat}
abbrev Cod : Type := List (Nat × Nat)
/-- a draft: how many, names, kinds, widths, which lie up, the two laws -/
abbrev Dr : Type := Nat × (Nat → List Nat) × (Nat → Nat) × (Nat → Nat) × (Nat → Bool) × Option Cod × Option Cod
abbrev Dr.n (D : Dr) : Nat := D.1
abbrev Dr.nm (D : Dr) : Nat → List Nat := D.2.1
abbrev Dr.kd (D : Dr) : Nat → Nat := D.2.2.1
abbrev Dr.wd (D : Dr) : Nat → Nat := D.2.2.2.1
abbrev Dr.up (D : Dr) : Nat → Bool := D.2.2.2.2.1
abbrev Dr.bars (D : Dr) : Option Cod := D.2.2.2.2.2.1
abbrev Dr.costs (D : Dr) : Option Cod := D.2.2.2.2.2.2
def Dr.none : Dr := (0, fun _ => [], fun _ => 0, fun _ => 0, fun _ => false, Option.none, Option.none)
def Dr.push (D : Dr) (l : List Nat) (k w : Nat) (u : Bool) : Dr := (D.n + 1, fun i => if i = D.n then l else D.nm i, fun i => if i = D.n then k else D.kd i, fun i => if i = D.n then w else D.wd i, fun i => if i = D.n then u else D.up i, D.bars, D.costs)
def Dr.law (D : Dr) (b : Bool) : Option Cod := if b = true then D.bars else D.costs
def Dr.tell (D : Dr) (b : Bool) (c : Cod) : Dr := (D.n, D.nm, D.kd, D.wd, D.up, if b = true then some c else D.bars, if b = true then D.costs else some c)
def Dr.hasNm (D : Dr) (l : List Nat) : Bool := decide (0 < cn D.n (fun i => decide (D.nm i = l)))
def Dr.hasWd (D : Dr) (w : Nat) : Bool := decide (0 < cn D.n (fun i => decide (D.wd i = w)))
def DrO (D : Dr) : Prop := D.n ≤ 5 ∧ NmO D.n D.nm ∧ (∀ i, i < D.n → D.kd i < 4) ∧ (∀ i, i < D.n → 1 ≤ D.wd i ∧ D.wd i < 31) ∧ ∀ i j, i < D.n → j < D.n → D.wd i = D.wd j → i = j
theorem cn_not {n : Nat} {p : Nat → Bool} (h : ¬ 0 < cn n p) : ∀ i, i < n → p i = false := fun i hi => by
  by_cases c : p i = true
  · exact absurd (cn_pos.mpr ⟨i, hi, c⟩) h
  · exact eq_false_of_ne_true c
theorem DrO.push {D : Dr} {l : List Nat} {k w : Nat} {u : Bool} (h : DrO D) (hn : D.n < 5) (hl : WdO l) (hnl : D.hasNm l = false) (hk : k < 4) (hw : 1 ≤ w ∧ w ≤ 30) (hnw : D.hasWd w = false) : DrO (D.push l k w u) := by
  obtain ⟨h1, ⟨h2, h3⟩, h4, h5, h6⟩ := h
  have n1 := cn_not (of_decide_eq_false hnl)
  have n2 := cn_not (of_decide_eq_false hnw)
  refine ⟨by show D.n + 1 ≤ 5; omega, ⟨fun i hi => ?_, fun i j hi hj e => ?_⟩, fun i hi => ?_, fun i hi => ?_, fun i j hi hj e => ?_⟩
  · have hi' : i < D.n + 1 := hi
    show WdO (if i = D.n then l else D.nm i)
    by_cases c : i = D.n
    · rw [if_pos c]; exact hl
    · rw [if_neg c]; exact h2 i (by omega)
  · have hi' : i < D.n + 1 := hi
    have hj' : j < D.n + 1 := hj
    have e' : (if i = D.n then l else D.nm i) = (if j = D.n then l else D.nm j) := e
    by_cases c : i = D.n
    · by_cases c2 : j = D.n
      · omega
      · rw [if_pos c, if_neg c2] at e'
        exact absurd e'.symm (of_decide_eq_false (n1 j (by omega)))
    · by_cases c2 : j = D.n
      · rw [if_neg c, if_pos c2] at e'
        exact absurd e' (of_decide_eq_false (n1 i (by omega)))
      · rw [if_neg c, if_neg c2] at e'
        exact h3 i j (by omega) (by omega) e'
  · have hi' : i < D.n + 1 := hi
    show (if i = D.n then k else D.kd i) < 4
    by_cases c : i = D.n
    · rw [if_pos c]; exact hk
    · rw [if_neg c]; exact h4 i (by omega)
  · have hi' : i < D.n + 1 := hi
    show 1 ≤ (if i = D.n then w else D.wd i) ∧ (if i = D.n then w else D.wd i) < 31
    by_cases c : i = D.n
    · rw [if_pos c]; omega
    · rw [if_neg c]; exact h5 i (by omega)
  · have hi' : i < D.n + 1 := hi
    have hj' : j < D.n + 1 := hj
    have e' : (if i = D.n then w else D.wd i) = (if j = D.n then w else D.wd j) := e
    by_cases c : i = D.n
    · by_cases c2 : j = D.n
      · omega
      · rw [if_pos c, if_neg c2] at e'
        exact absurd e'.symm (of_decide_eq_false (n2 j (by omega)))
    · by_cases c2 : j = D.n
      · rw [if_neg c, if_pos c2] at e'
        exact absurd e' (of_decide_eq_false (n2 i (by omega)))
      · rw [if_neg c, if_neg c2] at e'
        exact h6 i j (by omega) (by omega) e'
def isNm (tx : Nat → Nat) (L j : Nat) : Bool := decide (tK tx L j = 1) && (decide (wI tx L j = 0) || decide (15 ≤ wI tx L j))
abbrev tW (tx : Nat → Nat) (L j : Nat) : List Nat := tWd tx L (tSt tx L j)
abbrev tN (tx : Nat → Nat) (L j : Nat) : Nat := tNm tx L (tSt tx L j)
abbrev GSt : Type := Nat × Dr
/-- behind the word cake, at token j -/
def aCake (tx : Nat → Nat) (L : Nat) (D : Dr) (j : Nat) : GSt ⊕ Nat :=
  if D.n = 5 then .inr (er tx L 5 j)
  else if ¬ isNm tx L (j + 1) = true then .inr (er tx L 1 (j + 1))
  else if D.hasNm (tW tx L (j + 1)) = true then .inr (er tx L 3 (j + 1))
  else if ¬ (8 ≤ wI tx L (j + 2) ∧ wI tx L (j + 2) ≤ 11) then .inr (er tx L 1 (j + 2))
  else if ¬ isW tx L (j + 3) 2 = true then .inr (er tx L 1 (j + 3))
  else if ¬ tK tx L (j + 4) = 2 then .inr (er tx L 1 (j + 4))
  else if ¬ (1 ≤ tN tx L (j + 4) ∧ tN tx L (j + 4) ≤ 30) then .inr (er tx L 4 (j + 4))
  else if D.hasWd (tN tx L (j + 4)) = true then .inr (er tx L 3 (j + 4))
  else if ¬ (wI tx L (j + 5) = 6 ∨ wI tx L (j + 5) = 7) then .inr (er tx L 1 (j + 5))
  else if ¬ isS tx L (j + 6) 59 = true then .inr (er tx L 1 (j + 6))
  else .inl (j + 7, D.push (tW tx L (j + 1)) (wI tx L (j + 2) - 8) (tN tx L (j + 4)) (decide (wI tx L (j + 5) = 7)))
def aLaw (tx : Nat → Nat) (L : Nat) (D : Dr) (b : Bool) (j : Nat) : GSt ⊕ Nat := match D.law b with
  | some _ => .inr (er tx L 3 j)
  | Option.none => match aWhole tx L (aPN tx L 8 0) (j + 1, []) with
    | .inr e => .inr e
    | .inl t => if isS tx L t.1 59 = true then .inl (t.1 + 1, D.tell b t.2) else .inr (er tx L 1 t.1)
def aStm (tx : Nat → Nat) (L : Nat) (s : GSt) : GSt ⊕ Nat := if isW tx L s.1 1 = true then aCake tx L s.2 s.1 else if isW tx L s.1 3 = true then aLaw tx L s.2 true s.1 else if isW tx L s.1 4 = true then aLaw tx L s.2 false s.1 else .inr (er tx L 1 s.1)
def aGL (tx : Nat → Nat) (L : Nat) : Nat → GSt → GSt ⊕ Nat
  | 0, s => .inl s
  | f + 1, s => if tK tx L s.1 = 0 then .inl s else match aStm tx L s with
    | .inl t => aGL tx L f t
    | .inr e => .inr e
/-- which lie up, as bits -/
def upN (up : Nat → Bool) : Nat → Nat
  | 0 => 0
  | i + 1 => if up i = true then upN up i ||| 2 ^ i else upN up i
theorem upN_lt {up : Nat → Bool} : ∀ n, upN up n < 2 ^ n
  | 0 => by rw [upN]; decide
  | n + 1 => by
    have h := upN_lt (up := up) n
    have h2 : 2 ^ n < 2 ^ (n + 1) := Nat.pow_lt_pow_succ (by omega)
    rw [upN]
    split
    · exact Nat.or_lt_two_pow (by omega) h2
    · omega
theorem upN_congr {up up' : Nat → Bool} : ∀ n, (∀ i, i < n → up i = up' i) → upN up n = upN up' n
  | 0, _ => rfl
  | n + 1, h => by rw [upN, upN, h n (by omega), upN_congr n (fun i hi => h i (by omega))]
theorem upN_bit {up : Nat → Bool} : ∀ n k, (upN up n).testBit k = (decide (k < n) && up k)
  | 0, k => by rw [upN, Nat.zero_testBit]; rfl
  | n + 1, k => by
    have ih := upN_bit (up := up) n k
    rw [upN]
    by_cases c : up n = true
    · rw [if_pos c, Nat.testBit_or, ih, Nat.testBit_two_pow]
      by_cases e : n = k
      · subst e; simp [c]
      · by_cases e2 : k < n
        · rw [decide_eq_true e2, decide_eq_true (show k < n + 1 by omega), decide_eq_false e, Bool.or_false]
        · rw [decide_eq_false e2, decide_eq_false (show ¬ k < n + 1 by omega), decide_eq_false e]; rfl
    · rw [if_neg c, ih]
      by_cases e : k = n
      · subst e
        rw [eq_false_of_ne_true c]; simp
      · by_cases e2 : k < n
        · rw [decide_eq_true e2, decide_eq_true (show k < n + 1 by omega)]
        · rw [decide_eq_false e2, decide_eq_false (show ¬ k < n + 1 by omega)]
end AGRID
