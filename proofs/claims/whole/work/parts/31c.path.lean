/-! ===== level 2: the path, and what is kept for undo ===== -/
section PATH
variable {n g : Nat} {kd wd : Nat → Nat} {BE CE : LawF} {μ ν : Mem} {c : Nat} {a w : Int}
/-- cells of a row, copied -/
def cpy (F T m : Nat) (μ : Mem) : Mem := fun x j => if x = 88 ∧ T ≤ j ∧ j < T + m then μ 88 (F + (j - T)) else μ x j
theorem cpy_in {F T m j : Nat} (h : j < m) : cpy F T m μ 88 (T + j) = μ 88 (F + j) := by
  unfold cpy
  rw [if_pos ⟨rfl, by omega, by omega⟩, Nat.add_sub_cancel_left]
theorem cpy_out {F T m j : Nat} (h : j < T ∨ T + m ≤ j) : cpy F T m μ 88 j = μ 88 j := by
  unfold cpy
  rw [if_neg (by omega)]
theorem cpy_ne {F T m x : Nat} (h : x ≠ 88) : cpy F T m μ x = μ x := by
  funext j
  unfold cpy
  rw [if_neg (by omega)]
theorem copies_r {F T m : Nat} (hF : F + m ≤ 588) (hT : T + m ≤ 588) (hd : F + m ≤ T ∨ T + m ≤ F) : fX12_copies (F : Int) (T : Int) (m : Int) μ = some (cpy F T m μ) := by
  apply Ok_val
  unfold fX12_copies
  refine Ok.bind ?_
  refine loop_FU m (fun (i : Nat) (s : Int × Mem) => s.1 = (i : Int) ∧ s.2 = cpy F T i μ) 0 ⟨rfl, ?_⟩ (by omega) (by omega) ?_ ?_
  · funext x j
    unfold cpy
    rw [if_neg (by omega)]
  · rintro i ⟨x, ρ⟩ hi ⟨e1, e2⟩
    dsimp only at e1 e2 ⊢
    subst e1 e2
    unfold fX12_copies_b3
    simp only [lt]
    have e1 : (F : Int) + (i : Int) = ((F + i : Nat) : Int) := by push_cast; rfl
    have e2 : (T : Int) + (i : Int) = ((T + i : Nat) : Int) := by push_cast; rfl
    rw [e1, e2, w32_n (a := i) (by omega), w32_n (a := m) (by omega), w32_n (a := F + i) (by omega), w32_n (a := T + i) (by omega), if_pos (by omega), gd_pos (by omega), gd_pos (by omega), Int.toNat_natCast, Int.toNat_natCast, Ok_some]
    refine ⟨by push_cast; rfl, ?_⟩
    dsimp only
    rw [cpy_out (j := F + i) (by omega)]
    funext x j
    by_cases hx : x = 88
    · subst hx
      by_cases hj : j = T + i
      · subst hj
        rw [upd2_at, cpy_in (by omega)]
      · rw [upd2_nj hj]
        unfold cpy
        by_cases q : T ≤ j ∧ j < T + i
        · rw [if_pos ⟨rfl, q⟩, if_pos ⟨rfl, by omega⟩]
        · rw [if_neg (fun k => q k.2), if_neg (fun k => q ⟨k.2.1, by omega⟩)]
    · rw [upd2_ne hx, cpy_ne hx, cpy_ne hx]
  · rintro ⟨x, ρ⟩ ⟨e1, e2⟩
    dsimp only at e1 e2 ⊢
    subst e1 e2
    unfold fX12_copies_b3
    rw [w32_n (a := m) (by omega), if_neg (by omega), Ok_some]
    show Ok _ _
    rw [Ok_some]
/-- one more is kept -/
def Kp (D : Nat) (μ ν : Mem) : Prop := ν 75 20 = ((D - (if D = 16 then 1 else 0) + 1 : Nat) : Int) ∧ (∀ i j, i < D - (if D = 16 then 1 else 0) → j < 3 → ν 88 (28 * (5 + i) + j) = μ 88 (28 * (5 + (i + (if D = 16 then 1 else 0))) + j)) ∧ (∀ j, j < 3 → ν 88 (28 * (5 + (D - (if D = 16 then 1 else 0))) + j) = μ 88 j) ∧ (∀ j, j < 140 → ν 88 j = μ 88 j) ∧ (∀ x, x ≠ 75 → x ≠ 88 → ν x = μ x) ∧ ∀ j, j ≠ 20 → ν 75 j = μ 75 j
theorem kj52_r {D : Nat} (hD : D ≤ 15) (h : μ 75 20 = D) : Ok (fX12_keeps_j52 μ) (fun ν => ν = upd2 (cpy 0 (28 * (5 + D)) 3 μ) 75 20 ((D + 1 : Nat) : Int)) := by
  unfold fX12_keeps_j52
  simp only [lt]
  have e1 : (28 : Int) * (5 + (D : Int)) = ((28 * (5 + D) : Nat) : Int) := by push_cast; rfl
  have := copies_r (μ := μ) (F := 0) (T := 28 * (5 + D)) (m := 3) (by omega) (by omega) (by omega)
  rw [h, e1]
  rw [show ((0 : Nat) : Int) = 0 from rfl, show ((3 : Nat) : Int) = 3 from rfl] at this
  rw [this, Option.bind_some, cpy_ne (by omega), h, Ok_some]
  push_cast; rfl
theorem keeps_r {D : Nat} (hD : D ≤ 16) (h : μ 75 20 = D) : Ok (fX12_keeps μ) (Kp D μ) := by
  unfold fX12_keeps
  simp only [lt]
  rw [h, w32_n (a := D) (by omega), show w32 16 = 16 from by decide]
  by_cases q : D = 16
  · subst q
    rw [if_pos (by decide)]
    refine Ok.then (loop_FU (Q := fun ν : Mem => (∀ x, x ≠ 88 → ν x = μ x) ∧ (∀ j, j < 140 → ν 88 j = μ 88 j) ∧ ∀ i j, i < 15 → j < 3 → ν 88 (28 * (5 + i) + j) = μ 88 (28 * (5 + (i + 1)) + j)) 16 (fun (v : Nat) (s : Int × Mem) => 1 ≤ v ∧ s.1 = (v : Int) ∧ (∀ x, x ≠ 88 → s.2 x = μ x) ∧ (∀ j, j < 140 → s.2 88 j = μ 88 j) ∧ (∀ i j, i + 1 < v → j < 3 → s.2 88 (28 * (5 + i) + j) = μ 88 (28 * (5 + (i + 1)) + j)) ∧ ∀ i j, v ≤ i → i < 16 → j < 3 → s.2 88 (28 * (5 + i) + j) = μ 88 (28 * (5 + i) + j)) 1 ⟨by omega, rfl, fun _ _ => rfl, fun _ _ => rfl, fun i j h1 => absurd h1 (by omega), fun _ _ _ _ _ => rfl⟩ (by omega) (by omega) ?_ ?_) ?_
    · rintro v ⟨x, ρ⟩ hv ⟨h1, e1, h2, h3, h4, h5⟩
      dsimp only at e1 h2 h3 h4 h5 ⊢
      subst e1
      unfold fX12_keeps_b11
      have e1 : (28 : Int) * (5 + (v : Int)) = ((28 * (5 + v) : Nat) : Int) := by push_cast; rfl
      have e2 : (28 : Int) * ((5 + (v : Int)) - 1) = ((28 * (5 + (v - 1)) : Nat) : Int) := by omega
      have hcp := copies_r (μ := ρ) (F := 28 * (5 + v)) (T := 28 * (5 + (v - 1))) (m := 3) (by omega) (by omega) (by omega)
      rw [show ((3 : Nat) : Int) = 3 from rfl] at hcp
      rw [w32_n (a := v) (by omega), show w32 16 = 16 from by decide, if_pos (by omega), e1, e2, hcp, Option.bind_some, Ok_some]
      refine ⟨by omega, by push_cast; rfl, fun x hx => ?_, fun j hj => ?_, fun i j hi hj => ?_, fun i j hi hi2 hj => ?_⟩
      · dsimp only
        rw [cpy_ne hx]; exact h2 x hx
      · dsimp only
        rw [cpy_out (by omega)]; exact h3 j hj
      · dsimp only
        by_cases e : i = v - 1
        · subst e
          have : v - 1 + 1 = v := by omega
          rw [cpy_in hj, this]
          exact h5 v j (by omega) (by omega) hj
        · rw [cpy_out (by omega)]
          exact h4 i j (by omega) hj
      · dsimp only
        rw [cpy_out (by omega)]
        exact h5 i j (by omega) hi2 hj
    · rintro ⟨x, ρ⟩ ⟨h1, e1, h2, h3, h4, h5⟩
      dsimp only at e1 h2 h3 h4 h5 ⊢
      subst e1
      unfold fX12_keeps_b11
      rw [show w32 ((16 : Nat) : Int) = 16 from by decide, show w32 16 = 16 from by decide, if_neg (by decide), Ok_some]
      exact ⟨h2, h3, fun i j hi hj => h4 i j (by omega) hj⟩
    · rintro ρ ⟨h2, h3, h4⟩
      have e75 : ρ 75 20 = 16 := by rw [h2 75 (by omega), h]; rfl
      rw [e75]
      have hb : upd2 ρ 75 20 (16 - 1) 75 20 = ((15 : Nat) : Int) := upd2_at
      refine Ok.imp (kj52_r (by omega) hb) ?_
      rintro ν rfl
      refine ⟨by rw [upd2_at]; rfl, fun i j hi hj => ?_, fun j hj => ?_, fun j hj => ?_, fun x hx1 hx2 => ?_, fun j hj => ?_⟩
      · rw [if_pos rfl] at hi ⊢
        rw [upd2_ne (by omega), cpy_out (by omega), upd2_ne (by omega)]
        exact h4 i j hi hj
      · rw [if_pos rfl, upd2_ne (by omega)]
        show cpy 0 (28 * (5 + 15)) 3 _ 88 (28 * (5 + 15) + j) = _
        rw [cpy_in hj, upd2_ne (by omega), Nat.zero_add]
        exact h3 j (by omega)
      · rw [upd2_ne (by omega), cpy_out (by omega), upd2_ne (by omega)]
        exact h3 j hj
      · rw [upd2_ne hx1, cpy_ne hx2, upd2_ne hx1]
        exact h2 x hx2
      · rw [upd2_nj hj, cpy_ne (by omega), upd2_nj hj, h2 75 (by omega)]
  · rw [if_neg (by omega)]
    refine Ok.imp (kj52_r (by omega) h) ?_
    rintro ν rfl
    unfold Kp
    rw [if_neg q]
    refine ⟨by rw [upd2_at]; rfl, fun i j hi hj => ?_, fun j hj => ?_, fun j hj => ?_, fun x hx1 hx2 => ?_, fun j hj => ?_⟩
    · rw [upd2_ne (by omega), cpy_out (by omega)]
      rfl
    · rw [upd2_ne (by omega)]
      show cpy 0 (28 * (5 + D)) 3 _ 88 (28 * (5 + D) + j) = _
      rw [cpy_in hj, Nat.zero_add]
    · rw [upd2_ne (by omega), cpy_out (by omega)]
    · rw [upd2_ne hx1, cpy_ne hx2]
    · rw [upd2_nj hj, cpy_ne (by omega)]
end PATH
