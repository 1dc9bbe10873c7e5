/-! ===== level 2: the first memory ===== -/
section FIRST
theorem stands0_ok {μ : Mem} : Ok (fX12_standsAsAlways 0 μ) (fun ν => (∀ x, x ≠ 81 → ν x = μ x) ∧ ν 81 0 = 0 ∧ ν 81 1 = -1 ∧ ν 81 2 = -1) := by
  unfold fX12_standsAsAlways
  refine Ok.then (loop_FU (Q := fun ν : Mem => (∀ x, x ≠ 81 → ν x = μ x) ∧ ∀ j, j < 20 → ν 81 j = 0) 20 (fun (i : Nat) (s : Int × Mem) => s.1 = (i : Int) ∧ (∀ x, x ≠ 81 → s.2 x = μ x) ∧ ∀ j, j < i → s.2 81 j = 0) 0 ⟨rfl, fun _ _ => rfl, fun j hj => absurd hj (by omega)⟩ (by omega) (by omega) ?_ ?_) ?_
  · rintro i ⟨a, ρ⟩ hi ⟨e1, hD, hR⟩
    dsimp only at e1 hD hR ⊢
    subst e1
    unfold fX12_standsAsAlways_b2
    simp only [lt]
    rw [Int.zero_add, w32_n (a := i) (by omega), show w32 20 = 20 from by decide, if_pos (by omega), gd_pos (by omega), Int.toNat_natCast, Ok_some]
    refine ⟨by push_cast; rfl, fun x hx => ?_, fun j hj => ?_⟩
    · dsimp only
      rw [upd2_ne hx]; exact hD x hx
    · dsimp only
      by_cases q : j = i
      · rw [q, upd2_at]
      · rw [upd2_nj q]; exact hR j (by omega)
  · rintro ⟨a, ρ⟩ ⟨e1, hD, hR⟩
    dsimp only at e1 hD hR ⊢
    subst e1
    unfold fX12_standsAsAlways_b2
    rw [show w32 ((20 : Nat) : Int) = 20 from by decide, show w32 20 = 20 from by decide, if_neg (by omega), Ok_some]
    exact ⟨hD, hR⟩
  · rintro ρ ⟨hD, hR⟩
    simp only [lt]
    rw [show w32 (0 + 1) = 1 from by decide, show w32 (0 + 1 + 1) = 2 from by decide, gd_pos (by omega), gd_pos (by omega), Ok_some]
    refine ⟨fun x hx => ?_, ?_, ?_, ?_⟩
    · rw [upd2_ne hx, upd2_ne hx]; exact hD x hx
    · rw [upd2_nj (by show 0 ≠ 2; omega), upd2_nj (by show 0 ≠ 1; omega)]; exact hR 0 (by omega)
    · rw [upd2_nj (by show 1 ≠ 2; omega)]; exact upd2_at
    · exact upd2_at
/-- the class learns the empty griddle -/
theorem first_learn : Ok (fX7_learn 5 (ups us_S (ups us_A0 dfl))) (fun ν => Gc 5 0 (fun _ => 0) (fun _ => 0) ν ∧ Tb (fun _ => 0) (fun _ => 0) 0 (lawF none 0) (lawF none 1) ν ∧ Lr 5 (ups us_S (ups us_A0 dfl)) ν ∧ ∃ g : Nat, ν 25 4 = g ∧ Gl (fun _ => 0) (fun _ => 0) 0 g) := by
  refine learn_ok (by omega) (Or.inl rfl) (by decide) (fun k hk => absurd hk (Nat.not_lt_zero k)) (fun k hk => absurd hk (Nat.not_lt_zero k)) (fun i j hi _ _ => absurd hi (Nat.not_lt_zero i)) (lk_d (by decide) (by decide)) (lk_d (by decide) (by decide)) (lawF_nz ⟨by decide, by decide⟩ (fun c h => (by cases h))) (lawF_nz ⟨by decide, by decide⟩ (fun c h => (by cases h)))
end FIRST
