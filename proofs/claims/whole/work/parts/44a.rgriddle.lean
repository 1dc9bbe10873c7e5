/-! ===== level 2: the reference's griddle ===== -/
section RGRIDDLE
variable {μ ν : Mem} {kd wd : Nat → Nat} {n : Nat} {tx : Nat → Nat} {L : Nat}
theorem stands_ok : Ok (fX12_standsAsAlways 20 μ) (fun ν => (∀ x, x ≠ 81 → ν x = μ x) ∧ (∀ j, j < 20 → ν 81 j = μ 81 j) ∧ ν 81 20 = 0 ∧ ν 81 21 = -1 ∧ ν 81 22 = -1) := by
  unfold fX12_standsAsAlways
  refine Ok.then (loop_FU (Q := fun ν : Mem => (∀ x, x ≠ 81 → ν x = μ x) ∧ (∀ j, j < 20 → ν 81 j = μ 81 j) ∧ ∀ j, j < 20 → ν 81 (20 + j) = 0) 20 (fun (i : Nat) (s : Int × Mem) => s.1 = (i : Int) ∧ (∀ x, x ≠ 81 → s.2 x = μ x) ∧ (∀ j, j < 20 → s.2 81 j = μ 81 j) ∧ ∀ j, j < i → s.2 81 (20 + j) = 0) 0 ⟨rfl, fun _ _ => rfl, fun _ _ => rfl, fun j hj => absurd hj (by omega)⟩ (by omega) (by omega) ?_ ?_) ?_
  · rintro i ⟨a, ρ⟩ hi ⟨e1, hD, hE, hR⟩
    dsimp only at e1 hD hE hR ⊢
    subst e1
    unfold fX12_standsAsAlways_b2
    simp only [lt]
    have e : (20 : Int) + (i : Int) = ((20 + i : Nat) : Int) := by push_cast; rfl
    rw [e, w32_n (a := i) (by omega), show w32 20 = 20 from by decide, w32_n (a := 20 + i) (by omega), if_pos (by omega), gd_pos (by omega), Int.toNat_natCast, Ok_some]
    refine ⟨by push_cast; rfl, fun x hx => ?_, fun j hj => ?_, fun j hj => ?_⟩
    · dsimp only
      rw [upd2_ne hx]; exact hD x hx
    · dsimp only
      rw [upd2_nj (by omega)]; exact hE j hj
    · dsimp only
      by_cases q : j = i
      · rw [q, upd2_at]
      · rw [upd2_nj (by omega)]; exact hR j (by omega)
  · rintro ⟨a, ρ⟩ ⟨e1, hD, hE, hR⟩
    dsimp only at e1 hD hE hR ⊢
    subst e1
    unfold fX12_standsAsAlways_b2
    rw [show w32 ((20 : Nat) : Int) = 20 from by decide, show w32 20 = 20 from by decide, if_neg (by omega), Ok_some]
    exact ⟨hD, hE, hR⟩
  · rintro ρ ⟨hD, hE, hR⟩
    simp only [lt]
    rw [show w32 (20 + 1) = 21 from by decide, show w32 (20 + 1 + 1) = 22 from by decide, gd_pos (by omega), gd_pos (by omega), Ok_some]
    refine ⟨fun x hx => ?_, fun j hj => ?_, ?_, ?_, ?_⟩
    · rw [upd2_ne hx, upd2_ne hx]; exact hD x hx
    · rw [upd2_nj (by show j ≠ 22; omega), upd2_nj (by show j ≠ 21; omega)]; exact hE j hj
    · rw [upd2_nj (by show 20 ≠ 22; omega), upd2_nj (by show 20 ≠ 21; omega)]; exact hR 0 (by omega)
    · rw [upd2_nj (by show 21 ≠ 22; omega)]; exact upd2_at
    · exact upd2_at
/-- the reference begins -/
def RB (kd : Nat → Nat) (n c : Nat) (ν : Mem) : Prop := ν 75 22 = nu kd n c ∧ ν 88 0 = nu kd n c ∧ ν 88 1 = 0 ∧ ν 88 2 = 0 ∧ ν 88 3 = 0 ∧ ν 84 0 = 0 ∧ ν 75 16 = 0 ∧ ν 75 20 = 0 ∧ ν 75 26 = 0 ∧ ∀ m, m < 4 → ν 89 m = 0
def Bf (μ ν : Mem) : Prop := (∀ x, x ≠ 75 → x ≠ 84 → x ≠ 88 → x ≠ 89 → x ≠ 90 → x ≠ 91 → ν x = μ x) ∧ ∀ j, j ≠ 16 → j ≠ 20 → j ≠ 22 → j ≠ 26 → ν 75 j = μ 75 j
theorem begins_ok {up : Nat → Bool} (hn : n < 6) (hR : Rg kd wd n μ) (hup : ∀ k, k < n → μ 81 (5 + 3 * k) = b2i (up k)) : Ok (fX12_begins μ) (fun ν => RB kd n (tdN kd n (upN up n)) ν ∧ Bf μ ν) := by
  unfold fX12_begins
  refine Ok.then (loop_FU (Q := fun ν : Mem => (∀ x, x ≠ 90 → x ≠ 91 → ν x = μ x) ∧ ∀ j, j < n → ν 90 j = j ∧ ν 91 j = b2i (sd kd j && up j)) n (fun (i : Nat) (s : Int × Mem) => s.1 = (i : Int) ∧ (∀ x, x ≠ 90 → x ≠ 91 → s.2 x = μ x) ∧ ∀ j, j < i → s.2 90 j = j ∧ s.2 91 j = b2i (sd kd j && up j)) 0 ⟨rfl, fun _ _ _ => rfl, fun j hj => absurd hj (by omega)⟩ (by omega) (by omega) ?_ ?_) ?_
  · rintro i ⟨a, ρ⟩ hi ⟨e1, hD, hI⟩
    dsimp only at e1 hD hI ⊢
    subst e1
    have e81 : upd2 ρ 90 i (i : Int) 81 = μ 81 := by rw [upd2_ne (by omega)]; exact hD 81 (by omega) (by omega)
    have hR2 : Rg kd wd n (upd2 ρ 90 i (i : Int)) := hR.same e81
    unfold fX12_begins_b2
    simp only [lt]
    rw [hD 81 (by omega) (by omega), hR.1, w32_n (a := i) (by omega), w32_n (a := n) (by omega), if_pos (by omega), gd_pos (by omega), Int.toNat_natCast, side_r hn hR2 hi, Option.bind_some]
    have fin : ∀ v : Int, v = b2i (sd kd i && up i) → Ok (some (.inl ((i : Int) + 1, upd2 (upd2 ρ 90 i (i : Int)) 91 i v) : (Int × Mem) ⊕ Mem)) (Sum.elim (fun s : Int × Mem => s.1 = ((i + 1 : Nat) : Int) ∧ (∀ x, x ≠ 90 → x ≠ 91 → s.2 x = μ x) ∧ ∀ j, j < i + 1 → s.2 90 j = j ∧ s.2 91 j = b2i (sd kd j && up j)) (fun ν : Mem => (∀ x, x ≠ 90 → x ≠ 91 → ν x = μ x) ∧ ∀ j, j < n → ν 90 j = j ∧ ν 91 j = b2i (sd kd j && up j))) := fun v hv => by
      rw [Ok_some]
      refine ⟨by push_cast; rfl, fun x h1 h2 => ?_, fun j hj => ?_⟩
      · dsimp only
        rw [upd2_ne h2, upd2_ne h1]; exact hD x h1 h2
      · dsimp only
        rw [upd2_ne (show (90 : Nat) ≠ 91 by omega)]
        by_cases q : j = i
        · rw [q, upd2_at, upd2_at]; exact ⟨rfl, hv⟩
        · rw [upd2_nj q, upd2_nj q, upd2_ne (show (91 : Nat) ≠ 90 by omega)]; exact hI j (by omega)
    by_cases hs : sd kd i = true
    · rw [if_pos hs, show (2 : Int) = ((2 : Nat) : Int) from rfl, cakeOf_r (by omega) (by omega), Option.bind_some, gd_pos (by omega), show 3 + 3 * i + 2 = 5 + 3 * i by omega, e81, hup i hi]
      refine fin _ ?_
      rw [hs, Bool.true_and]
      cases up i <;> rfl
    · rw [if_neg hs, gd_pos (by omega)]
      refine fin _ ?_
      rw [eq_false_of_ne_true hs]; rfl
  · rintro ⟨a, ρ⟩ ⟨e1, hD, hI⟩
    dsimp only at e1 hD hI ⊢
    subst e1
    unfold fX12_begins_b2
    rw [hD 81 (by omega) (by omega), hR.1, w32_n (a := n) (by omega), if_neg (by omega), Ok_some]
    exact ⟨hD, hI⟩
  · rintro ρ ⟨hD, hI⟩
    have hRρ : Rg kd wd n ρ := hR.same (hD 81 (by omega) (by omega))
    have hL : Ly kd n (tdN kd n (upN up n)) ρ := by
      refine ⟨fun i hi => ?_, fun k hk => ?_⟩
      · unfold tdN
        rw [cd_div, (hI i hi).1]
        unfold pA
        rw [(id_facts n hn).2.2, List.getD_eq_getElem?_getD, List.getElem?_range hi]
        rfl
      · unfold tdN
        rw [uC_cd hk, (hI k hk).2, upN_bit, decide_eq_true hk, Bool.true_and]
    rw [number_r hn hRρ (tdN_lt hn) hL, Option.bind_some]
    simp only [lt]
    generalize hz : nu kd n (tdN kd n (upN up n)) = z
    refine Ok.then (loop_FU (Q := fun ν : Mem => ((ν 75 22 = z ∧ ν 88 0 = z ∧ ν 88 1 = 0 ∧ ν 88 2 = 0 ∧ ν 88 3 = 0 ∧ ν 84 0 = 0 ∧ ν 75 16 = 0 ∧ ν 75 20 = 0 ∧ ν 75 26 = 0) ∧ Bf μ ν) ∧ ∀ m, m < 4 → ν 89 m = 0) 4 (fun (i : Nat) (s : Int × Mem) => s.1 = (i : Int) ∧ ((s.2 75 22 = z ∧ s.2 88 0 = z ∧ s.2 88 1 = 0 ∧ s.2 88 2 = 0 ∧ s.2 88 3 = 0 ∧ s.2 84 0 = 0 ∧ s.2 75 16 = 0 ∧ s.2 75 20 = 0 ∧ s.2 75 26 = 0) ∧ Bf μ s.2) ∧ ∀ m, m < i → s.2 89 m = 0) 0 ⟨rfl, ⟨?_, ?_⟩, fun j hj => absurd hj (by omega)⟩ (by omega) (by omega) ?_ ?_) ?_
    · dsimp only
      refine ⟨?_, ?_, ?_, ?_, ?_, ?_, ?_, ?_, ?_⟩
      · rw [upd2_nj (by omega), upd2_nj (by omega), upd2_nj (by omega), upd2_ne (by omega), upd2_ne (by omega), upd2_ne (by omega), upd2_ne (by omega), upd2_ne (by omega), upd2_at]
      · rw [upd2_ne (by omega), upd2_ne (by omega), upd2_ne (by omega), upd2_ne (by omega), upd2_nj (by omega), upd2_nj (by omega), upd2_nj (by omega), upd2_at, upd2_at]
      · rw [upd2_ne (by omega), upd2_ne (by omega), upd2_ne (by omega), upd2_ne (by omega), upd2_nj (by omega), upd2_nj (by omega), upd2_at]
      · rw [upd2_ne (by omega), upd2_ne (by omega), upd2_ne (by omega), upd2_ne (by omega), upd2_nj (by omega), upd2_at]
      · rw [upd2_ne (by omega), upd2_ne (by omega), upd2_ne (by omega), upd2_ne (by omega), upd2_at]
      · rw [upd2_ne (by omega), upd2_ne (by omega), upd2_ne (by omega), upd2_at]
      · rw [upd2_nj (by omega), upd2_nj (by omega), upd2_at]
      · rw [upd2_nj (by omega), upd2_at]
      · exact upd2_at
    · dsimp only
      refine ⟨fun x h1 h2 h3 h4 h5 h6 => ?_, fun j h1 h2 h3 h4 => ?_⟩
      · rw [upd2_ne h1, upd2_ne h1, upd2_ne h1, upd2_ne h2, upd2_ne h3, upd2_ne h3, upd2_ne h3, upd2_ne h3, upd2_ne h1]; exact hD x h5 h6
      · rw [upd2_nj h4, upd2_nj h2, upd2_nj h1, upd2_ne (by omega), upd2_ne (by omega), upd2_ne (by omega), upd2_ne (by omega), upd2_ne (by omega), upd2_nj h3, hD 75 (by omega) (by omega)]
    · rintro i ⟨a, θ⟩ hi ⟨e1, hB, hI2⟩
      dsimp only at e1 hB hI2 ⊢
      subst e1
      unfold fX12_begins_b115
      simp only [lt]
      rw [w32_n (a := i) (by omega), show w32 4 = 4 from by decide, if_pos (by omega), gd_pos (by omega), Int.toNat_natCast, Ok_some]
      refine ⟨by push_cast; rfl, ⟨?_, fun x h1 h2 h3 h4 h5 h6 => ?_, fun j h1 h2 h3 h4 => ?_⟩, fun m hm => ?_⟩
      · dsimp only
        rw [upd2_ne (show (75 : Nat) ≠ 89 by omega), upd2_ne (show (88 : Nat) ≠ 89 by omega), upd2_ne (show (84 : Nat) ≠ 89 by omega)]
        exact hB.1
      · dsimp only
        rw [upd2_ne h4]; exact hB.2.1 x h1 h2 h3 h4 h5 h6
      · dsimp only
        rw [upd2_ne (by omega)]; exact hB.2.2 j h1 h2 h3 h4
      · dsimp only
        by_cases q : m = i
        · rw [q, upd2_at]
        · rw [upd2_nj q]; exact hI2 m (by omega)
    · rintro ⟨a, θ⟩ ⟨e1, hB, hI2⟩
      dsimp only at e1 hB hI2 ⊢
      subst e1
      unfold fX12_begins_b115
      rw [show w32 ((4 : Nat) : Int) = 4 from by decide, show w32 4 = 4 from by decide, if_neg (by omega), Ok_some]
      exact ⟨hB, hI2⟩
    · rintro θ ⟨⟨⟨b1, b2, b3, b4, b5, b6, b7, b8, b9⟩, hB⟩, hI2⟩
      rw [Ok_some]
      unfold RB
      rw [hz]
      exact ⟨⟨b1, b2, b3, b4, b5, b6, b7, b8, b9, hI2⟩, hB⟩
end RGRIDDLE
