/-! ===== level 2: what was seen ===== -/
section SEEN
variable {n q : Nat} {μ ν : Mem} {a b : Int} {cl : Nat → Nat × Nat × Bool}
/-- how the class writes a clue: a place, a cake (5: whether it lies up), whether so -/
def clC (x : Nat × Nat × Bool) : Nat := (x.1 * 8 + (if x.2.1 = 5 then 0 else x.2.1 + 1)) * 2 + (if x.2.2 = true then 1 else 0)
def SC (k q : Nat) (cl : Nat → Nat × Nat × Bool) (μ : Mem) : Prop := μ k 4 = q ∧ ∀ i, i < q → μ (k + 1) i = clC (cl i)
def SR (B q : Nat) (cl : Nat → Nat × Nat × Bool) (μ : Mem) : Prop := μ 88 (B + 3) = q ∧ ∀ i, i < q → μ 88 (B + 4 + 3 * i) = (cl i).1 ∧ μ 88 (B + 4 + 3 * i + 1) = (cl i).2.1 ∧ μ 88 (B + 4 + 3 * i + 2) = b2i (cl i).2.2
def SO (n q : Nat) (cl : Nat → Nat × Nat × Bool) : Prop := q ≤ 8 ∧ ∀ i, i < q → (cl i).1 < n ∧ ((cl i).2.1 < n ∨ (cl i).2.1 = 5)
/-- one more -/
def clP (q : Nat) (cl : Nat → Nat × Nat × Bool) (x : Nat × Nat × Bool) (i : Nat) : Nat × Nat × Bool := if i = q then x else cl i
theorem SO.push {x : Nat × Nat × Bool} (h : SO n q cl) (hq : q < 8) (h1 : x.1 < n) (h2 : x.2.1 < n ∨ x.2.1 = 5) : SO n (q + 1) (clP q cl x) := by
  refine ⟨by omega, fun i hi => ?_⟩
  unfold clP
  by_cases e : i = q
  · rw [if_pos e]; exact ⟨h1, h2⟩
  · rw [if_neg e]; exact h.2 i (by omega)
/-- what may change -/
def Sf (μ ν : Mem) : Prop := (∀ x, x ≠ 41 → x ≠ 42 → ν x = μ x) ∧ ∀ j, j ≠ 4 → ν 41 j = μ 41 j
theorem addClue_ok {x : Nat × Nat × Bool} {is : Bool} (hS : SC 41 q cl μ) (hq : q ≤ 8) (hx : ((a * 8 + b) + 1) * 2 + (if is = true then 1 else 0) = (clC x : Int)) :
    (fX5_addClue 41 a b is μ).1 = decide (q < 8) ∧ Sf μ (fX5_addClue 41 a b is μ).2 ∧ (if q < 8 then SC 41 (q + 1) (clP q cl x) (fX5_addClue 41 a b is μ).2 else (fX5_addClue 41 a b is μ).2 = μ) := by
  obtain ⟨s1, s2⟩ := hS
  unfold fX5_addClue
  simp only [lt]
  rw [s1, w32_n (a := q) (by omega), show w32 8 = 8 from by decide, hx]
  by_cases h : q < 8
  · rw [if_pos (show (q : Int) < 8 by omega), if_pos h, put_n q rfl (L := 8) rfl h (by omega)]
    refine ⟨(decide_eq_true h).symm, ⟨fun y y1 y2 => ?_, fun j hj => ?_⟩, ?_, fun i hi => ?_⟩
    · dsimp only
      rw [upd2_ne y1, upd2_ne y2]
    · dsimp only
      rw [upd2_nj hj, upd2_ne (by omega)]
    · dsimp only
      rw [upd2_at, upd2_ne (by omega), s1]; push_cast; rfl
    · dsimp only
      rw [upd2_ne (by omega)]
      unfold clP
      by_cases e : i = q
      · rw [if_pos e, e, upd2_at]
      · rw [if_neg e, upd2_nj e]; exact s2 i (by omega)
  · rw [if_neg (show ¬ (q : Int) < 8 by omega), if_neg h]
    exact ⟨(decide_eq_false h).symm, ⟨fun _ _ _ => rfl, fun _ _ => rfl⟩, rfl⟩
theorem isPlace_ok (hn : n < 6) (h1 : μ 25 1 = n) (ha : Nz a) : fX11_isPlace a μ = decide (0 ≤ a ∧ a < n) := by
  unfold fX11_isPlace
  simp only [lt]
  rw [h1, nz_w ha, w32_n (a := n) (by omega)]
  by_cases q0 : a < 0
  · rw [if_pos q0, decide_eq_false (by omega)]
  · rw [if_neg q0]
    by_cases q1 : a < n
    · rw [if_pos q1, decide_eq_true (by omega)]
    · rw [if_neg q1, decide_eq_false (by omega)]
theorem see_ok {is : Bool} (hn : n < 6) (h1 : μ 25 1 = n) (hS : SC 41 q cl μ) (hq : q ≤ 8) (ha : Nz a) (hb : Nz b) :
    (fX11_see a b is μ).1 = decide ((0 ≤ a ∧ a < n) ∧ (0 ≤ b ∧ b < n) ∧ q < 8) ∧ Sf μ (fX11_see a b is μ).2 ∧ (if (0 ≤ a ∧ a < n) ∧ (0 ≤ b ∧ b < n) ∧ q < 8 then SC 41 (q + 1) (clP q cl (a.toNat, b.toNat, is)) (fX11_see a b is μ).2 else (fX11_see a b is μ).2 = μ) := by
  unfold fX11_see
  simp only [lt]
  rw [isPlace_ok hn h1 ha, h1, nz_w hb, w32_n (a := n) (by omega)]
  have no : ¬ ((0 ≤ a ∧ a < n) ∧ (0 ≤ b ∧ b < n) ∧ q < 8) → ((false, μ) : Bool × Mem).1 = decide ((0 ≤ a ∧ a < n) ∧ (0 ≤ b ∧ b < n) ∧ q < 8) ∧ Sf μ ((false, μ) : Bool × Mem).2 ∧ (if (0 ≤ a ∧ a < n) ∧ (0 ≤ b ∧ b < n) ∧ q < 8 then SC 41 (q + 1) (clP q cl (a.toNat, b.toNat, is)) ((false, μ) : Bool × Mem).2 else ((false, μ) : Bool × Mem).2 = μ) := fun h => by
    rw [if_neg h, decide_eq_false h]
    exact ⟨rfl, ⟨fun _ _ _ => rfl, fun _ _ => rfl⟩, rfl⟩
  by_cases q0 : 0 ≤ a ∧ a < n
  · rw [if_pos (decide_eq_true q0)]
    by_cases q1 : b < 0
    · rw [if_pos q1]
      exact no (fun k => by omega)
    · rw [if_neg q1]
      by_cases q2 : b < n
      · rw [if_pos q2]
        have hx : ((a * 8 + b) + 1) * 2 + (if is = true then 1 else 0) = (clC (a.toNat, b.toNat, is) : Int) := by
          unfold clC
          dsimp only
          rw [if_neg (show ¬ b.toNat = 5 by omega)]
          cases is <;> simp <;> omega
        obtain ⟨g1, g2, g3⟩ := addClue_ok (a := a) (b := b) (is := is) hS hq hx
        have hv : (if (fX5_addClue 41 a b is μ).1 = true then true else false) = (fX5_addClue 41 a b is μ).1 := by cases (fX5_addClue 41 a b is μ).1 <;> rfl
        rw [hv]
        dsimp only
        by_cases q3 : q < 8
        · have hall : (0 ≤ a ∧ a < n) ∧ (0 ≤ b ∧ b < n) ∧ q < 8 := ⟨q0, ⟨by omega, q2⟩, q3⟩
          rw [if_pos hall, decide_eq_true hall]
          rw [if_pos q3] at g3
          rw [decide_eq_true q3] at g1
          exact ⟨g1, g2, g3⟩
        · have hall : ¬ ((0 ≤ a ∧ a < n) ∧ (0 ≤ b ∧ b < n) ∧ q < 8) := fun k => q3 k.2.2
          rw [if_neg hall, decide_eq_false hall]
          rw [if_neg q3] at g3
          rw [decide_eq_false q3] at g1
          exact ⟨g1, g2, g3⟩
      · rw [if_neg q2]
        exact no (fun k => by omega)
  · rw [if_neg (by rw [decide_eq_false q0]; decide)]
    exact no (fun k => q0 k.1)
theorem lies_ok {is : Bool} (hn : n < 6) (h1 : μ 25 1 = n) (hS : SC 41 q cl μ) (hq : q ≤ 8) (ha : Nz a) :
    (fX11_lies a is μ).1 = decide ((0 ≤ a ∧ a < n) ∧ q < 8) ∧ Sf μ (fX11_lies a is μ).2 ∧ (if (0 ≤ a ∧ a < n) ∧ q < 8 then SC 41 (q + 1) (clP q cl (a.toNat, 5, is)) (fX11_lies a is μ).2 else (fX11_lies a is μ).2 = μ) := by
  unfold fX11_lies
  simp only [lt]
  rw [isPlace_ok hn h1 ha]
  by_cases q0 : 0 ≤ a ∧ a < n
  · rw [if_pos (decide_eq_true q0)]
    have hx : ((a * 8 + (-1)) + 1) * 2 + (if is = true then 1 else 0) = (clC (a.toNat, 5, is) : Int) := by
      unfold clC
      dsimp only
      rw [if_pos rfl]
      cases is <;> simp <;> omega
    obtain ⟨g1, g2, g3⟩ := addClue_ok (a := a) (b := -1) (is := is) hS hq hx
    have hv : (if (fX5_addClue 41 a (-1) is μ).1 = true then true else false) = (fX5_addClue 41 a (-1) is μ).1 := by cases (fX5_addClue 41 a (-1) is μ).1 <;> rfl
    rw [hv]
    dsimp only
    by_cases q3 : q < 8
    · rw [if_pos ⟨q0, q3⟩, decide_eq_true (⟨q0, q3⟩ : (0 ≤ a ∧ a < n) ∧ q < 8)]
      rw [if_pos q3] at g3
      rw [decide_eq_true q3] at g1
      exact ⟨g1, g2, g3⟩
    · have hall : ¬ ((0 ≤ a ∧ a < n) ∧ q < 8) := fun k => q3 k.2
      rw [if_neg hall, decide_eq_false hall]
      rw [if_neg q3] at g3
      rw [decide_eq_false q3] at g1
      exact ⟨g1, g2, g3⟩
  · have hall : ¬ ((0 ≤ a ∧ a < n) ∧ q < 8) := fun k => q0 k.1
    rw [if_neg (by rw [decide_eq_false q0]; decide), if_neg hall, decide_eq_false hall]
    exact ⟨rfl, ⟨fun _ _ _ => rfl, fun _ _ => rfl⟩, rfl⟩
/-- in the reference -/
def Sr (μ ν : Mem) : Prop := (∀ x, x ≠ 88 → ν x = μ x) ∧ ∀ j, (j < 3 ∨ 28 ≤ j) → ν 88 j = μ 88 j
theorem sees_r {is : Bool} (hn : n < 6) (h1 : μ 81 0 = n) (hS : SR 0 q cl μ) (hq : q ≤ 8) (ha : Nz a) (hb : Nz b) :
    Ok (fX12_sees a b (b2i is) μ) (fun o => o.1 = decide ((0 ≤ a ∧ a < n) ∧ ((0 ≤ b ∧ b < n) ∨ b = 5) ∧ q < 8) ∧ Sr μ o.2 ∧ (if (0 ≤ a ∧ a < n) ∧ ((0 ≤ b ∧ b < n) ∨ b = 5) ∧ q < 8 then SR 0 (q + 1) (clP q cl (a.toNat, b.toNat, is)) o.2 else o.2 = μ)) := by
  obtain ⟨s1, s2⟩ := hS
  rw [Nat.zero_add] at s1
  have no : ¬ ((0 ≤ a ∧ a < n) ∧ ((0 ≤ b ∧ b < n) ∨ b = 5) ∧ q < 8) → Ok (some (false, μ)) (fun o : Bool × Mem => o.1 = decide ((0 ≤ a ∧ a < n) ∧ ((0 ≤ b ∧ b < n) ∨ b = 5) ∧ q < 8) ∧ Sr μ o.2 ∧ (if (0 ≤ a ∧ a < n) ∧ ((0 ≤ b ∧ b < n) ∨ b = 5) ∧ q < 8 then SR 0 (q + 1) (clP q cl (a.toNat, b.toNat, is)) o.2 else o.2 = μ)) := fun h => by
    rw [Ok_some, if_neg h, decide_eq_false h]
    exact ⟨rfl, ⟨fun _ _ => rfl, fun _ _ => rfl⟩, rfl⟩
  have j36 : (0 ≤ a ∧ a < n) → ((0 ≤ b ∧ b < n) ∨ b = 5) → Ok (fX12_sees_j36 a b (b2i is) μ) (fun o : Bool × Mem => o.1 = decide ((0 ≤ a ∧ a < n) ∧ ((0 ≤ b ∧ b < n) ∨ b = 5) ∧ q < 8) ∧ Sr μ o.2 ∧ (if (0 ≤ a ∧ a < n) ∧ ((0 ≤ b ∧ b < n) ∨ b = 5) ∧ q < 8 then SR 0 (q + 1) (clP q cl (a.toNat, b.toNat, is)) o.2 else o.2 = μ)) := fun k1 k2 => by
    unfold fX12_sees_j36
    simp only [lt]
    rw [s1, w32_n (a := q) (by omega), show w32 8 = 8 from by decide]
    by_cases q8 : (q : Int) = 8
    · rw [if_pos q8]
      exact no (fun k => by omega)
    · rw [if_neg q8]
      have hall : (0 ≤ a ∧ a < n) ∧ ((0 ≤ b ∧ b < n) ∨ b = 5) ∧ q < 8 := ⟨k1, k2, by omega⟩
      have e1 : (4 : Int) + 3 * (q : Int) = ((4 + 3 * q : Nat) : Int) := by push_cast; rfl
      have e2 : ((4 + 3 * q : Nat) : Int) + 1 = ((4 + 3 * q + 1 : Nat) : Int) := by push_cast; rfl
      have e3 : ((4 + 3 * q : Nat) : Int) + 2 = ((4 + 3 * q + 2 : Nat) : Int) := by push_cast; rfl
      rw [e1, e2, e3, w32_n (a := 4 + 3 * q) (by omega), w32_n (a := 4 + 3 * q + 1) (by omega), w32_n (a := 4 + 3 * q + 2) (by omega), gd_pos (by omega), gd_pos (by omega), gd_pos (by omega), Int.toNat_natCast, Int.toNat_natCast, Int.toNat_natCast, Ok_some, if_pos hall, decide_eq_true hall]
      refine ⟨rfl, ⟨fun x hx => ?_, fun j hj => ?_⟩, ?_, fun i hi => ?_⟩
      · dsimp only
        rw [upd2_ne hx, upd2_ne hx, upd2_ne hx, upd2_ne hx]
      · dsimp only
        rw [upd2_nj (by omega), upd2_nj (by omega), upd2_nj (by omega), upd2_nj (by omega)]
      · dsimp only
        rw [Nat.zero_add, upd2_at, upd2_nj (by omega), upd2_nj (by omega), upd2_nj (by omega), s1]; push_cast; rfl
      · dsimp only
        rw [Nat.zero_add]
        unfold clP
        by_cases e : i = q
        · subst e
          rw [if_pos rfl]
          refine ⟨?_, ?_, ?_⟩
          · rw [upd2_nj (by omega), upd2_nj (by omega), upd2_nj (by omega), upd2_at]; dsimp only; omega
          · rw [upd2_nj (by omega), upd2_nj (by omega), upd2_at]; dsimp only; omega
          · rw [upd2_nj (by omega), upd2_at]
        · rw [if_neg e]
          obtain ⟨t1, t2, t3⟩ := s2 i (by omega)
          rw [Nat.zero_add] at t1 t2 t3
          refine ⟨?_, ?_, ?_⟩
          · rw [upd2_nj (by omega), upd2_nj (by omega), upd2_nj (by omega), upd2_nj (by omega)]; exact t1
          · rw [upd2_nj (by omega), upd2_nj (by omega), upd2_nj (by omega), upd2_nj (by omega)]; exact t2
          · rw [upd2_nj (by omega), upd2_nj (by omega), upd2_nj (by omega), upd2_nj (by omega)]; exact t3
  unfold fX12_sees
  simp only [lt]
  rw [h1, within_r (lo := 0) (hi := (n : Int) - 1) ha ⟨by decide, by decide⟩ ⟨by omega, by omega⟩, within_r (lo := 0) (hi := 5) hb ⟨by decide, by decide⟩ ⟨by decide, by decide⟩, nz_w hb, w32_n (a := n) (by omega), show w32 5 = 5 from by decide]
  by_cases q0 : 0 ≤ a ∧ a < n
  · rw [if_pos (decide_eq_true (show 0 ≤ a ∧ a ≤ (n : Int) - 1 by omega))]
    by_cases q1 : 0 ≤ b ∧ b ≤ 5
    · rw [if_pos (decide_eq_true q1)]
      by_cases q2 : b < 5
      · rw [if_pos q2]
        by_cases q3 : b < n
        · rw [if_pos q3]; exact j36 q0 (Or.inl ⟨q1.1, q3⟩)
        · rw [if_neg q3]; exact no (fun k => by omega)
      · rw [if_neg q2]; exact j36 q0 (Or.inr (by omega))
    · rw [if_neg (by rw [decide_eq_false q1]; decide)]
      exact no (fun k => by omega)
  · rw [if_neg (by rw [decide_eq_false (show ¬ (0 ≤ a ∧ a ≤ (n : Int) - 1) by omega)]; decide)]
    exact no (fun k => q0 k.1)
end SEEN
