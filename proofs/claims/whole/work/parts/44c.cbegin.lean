/-! ===== level 2: the class begins anew ===== -/
section CBEGIN
variable {μ ν : Mem} {kd wd : Nat → Nat} {n : Nat} {BE CE : LawF}
def CB (c : Nat) (ν : Mem) : Prop := (ν 39 1 = 0 ∧ ν 0 6 = -1 ∧ ν 41 1 = c ∧ ν 41 2 = 0 ∧ ν 41 3 = 0 ∧ ν 41 4 = 0 ∧ ν 0 11 = 0) ∧ (∀ m, m < 4 → ν (57 + 2 * m) 0 = 0) ∧ (∀ k bk b, stB k bk b → ν k 5 = 0) ∧ ν 53 2 = 0 ∧ ν 55 2 = 0
def CBf (μ ν : Mem) : Prop := (∀ x, (x ≠ 0 ∧ x < 46 ∧ x ≠ 27 ∧ x ≠ 39 ∧ x ≠ 41) ∨ 75 ≤ x → ν x = μ x) ∧ (∀ j, j ≠ 6 → j ≠ 11 → ν 0 j = μ 0 j) ∧ ∀ k bk b, stB k bk b → ∀ j, j ≠ 5 → ν k j = μ k j
theorem beginAnew_ok {told ups : Nat} (hn : n < 6) (hG : Gc told n kd wd μ) (hT : Tb kd wd n BE CE μ) (hu : μ told 4 = ups) (hub : ups < 1000000) : Ok (fX11_beginAnew μ) (fun ν => CB (tdN kd n ups) ν ∧ CBf μ ν) := by
  have hto := hG.1
  unfold fX11_beginAnew fX4_clear fX5_begin fX8_forget fX0_forget fX1_forget
  simp only [lt]
  generalize h2 : upd2 (upd2 μ 39 1 0) 0 6 (-1) = μ2
  have x2 : ∀ x, x ≠ 39 → x ≠ 0 → μ2 x = μ x := fun x q1 q2 => by rw [← h2, upd2_ne q2, upd2_ne q1]
  have a39 : μ2 39 1 = 0 := by rw [← h2, upd2_ne (by omega), upd2_at]
  have a06 : μ2 0 6 = -1 := by rw [← h2, upd2_at]
  have a0j : ∀ j, j ≠ 6 → μ2 0 j = μ 0 j := fun j q => by rw [← h2, upd2_nj q, upd2_ne (by omega)]
  have e25 : μ2 25 = μ 25 := x2 25 (by omega) (by omega)
  refine Ok.then (told_ok (ups := ups) hn (hG.of (congrFun e25 0) (congrFun e25 1) (x2 _ (by omega) (by omega)) (x2 _ (by omega) (by omega)) (x2 _ (by omega) (by omega))) (hT.of2 (fun j _ => congrFun e25 j) (fun x q1 q2 q3 => x2 x (by omega) (by omega))) (by rw [x2 told (by omega) (by omega)]; exact hu) hub) ?_
  rintro ⟨v, μ3⟩ ⟨hv, x3⟩
  dsimp only at hv x3 ⊢
  subst hv
  generalize h5 : upd2 (upd2 (upd2 (upd2 (upd2 μ3 41 1 (tdN kd n ups : Int)) 41 2 0) 41 3 0) 41 4 0) 0 11 0 = μ5
  have x5 : ∀ x, x ≠ 41 → x ≠ 0 → μ5 x = μ3 x := fun x q1 q2 => by rw [← h5, upd2_ne q2, upd2_ne q1, upd2_ne q1, upd2_ne q1, upd2_ne q1]
  have y0 : ∀ j, j ≠ 11 → μ5 0 j = μ3 0 j := fun j q => by rw [← h5, upd2_nj q, upd2_ne (by omega), upd2_ne (by omega), upd2_ne (by omega), upd2_ne (by omega)]
  have y11 : μ5 0 11 = 0 := by rw [← h5, upd2_at]
  have y1 : μ5 41 1 = tdN kd n ups := by rw [← h5, upd2_ne (by omega), upd2_nj (by omega), upd2_nj (by omega), upd2_nj (by omega), upd2_at]
  have y2 : μ5 41 2 = 0 := by rw [← h5, upd2_ne (by omega), upd2_nj (by omega), upd2_nj (by omega), upd2_at]
  have y3 : μ5 41 3 = 0 := by rw [← h5, upd2_ne (by omega), upd2_nj (by omega), upd2_at]
  have y4 : μ5 41 4 = 0 := by rw [← h5, upd2_ne (by omega), upd2_at]
  refine Ok.then (loop_FU (Q := fun ν : Mem => (∀ x, ¬ (57 ≤ x ∧ x ≤ 63) → ν x = μ5 x) ∧ ∀ m, m < 4 → ν (57 + 2 * m) 0 = 0) 4 (fun (i : Nat) (s : Int × Mem) => s.1 = (i : Int) ∧ (∀ x, ¬ (57 ≤ x ∧ x ≤ 63) → s.2 x = μ5 x) ∧ ∀ m, m < i → s.2 (57 + 2 * m) 0 = 0) 0 ⟨rfl, fun _ _ => rfl, fun j hj => absurd hj (by omega)⟩ (by omega) (by omega) ?_ ?_) ?_
  · rintro i ⟨a, ρ⟩ hi ⟨e1, hD, hI⟩
    dsimp only at e1 hD hI ⊢
    subst e1
    unfold fX11_beginAnew_b33 fX5_clear
    simp only [lt]
    rw [w32_n (a := i) (by omega), show w32 4 = 4 from by decide, if_pos (by omega), gd_pos (by omega), Int.toNat_natCast, Ok_some]
    refine ⟨by push_cast; rfl, fun x hx => ?_, fun m hm => ?_⟩
    · dsimp only
      rw [upd2_ne (by omega)]; exact hD x hx
    · dsimp only
      by_cases q : m = i
      · rw [q, upd2_at]
      · rw [upd2_ne (by omega)]; exact hI m (by omega)
  · rintro ⟨a, ρ⟩ ⟨e1, hD, hI⟩
    dsimp only at e1 hD hI ⊢
    subst e1
    unfold fX11_beginAnew_b33
    rw [show w32 ((4 : Nat) : Int) = 4 from by decide, show w32 4 = 4 from by decide, if_neg (by omega), Ok_some]
    exact ⟨hD, hI⟩
  rintro ρ1 ⟨r1, r2⟩
  generalize h6 : upd2 ρ1 46 5 0 = μ6
  have x6 : ∀ x, x ≠ 46 → μ6 x = ρ1 x := fun x q => by rw [← h6, upd2_ne q]
  have z6 : ∀ x j, j ≠ 5 → μ6 x j = ρ1 x j := fun x j q => by
    rw [← h6]
    by_cases e : x = 46
    · subst e; rw [upd2_nj q]
    · rw [upd2_ne e]
  have w6 : μ6 46 5 = 0 := by rw [← h6, upd2_at]
  refine Ok.then (loop_FU (Q := fun ν : Mem => (∀ x, ¬ (65 ≤ x ∧ x ≤ 73) → ν x = μ6 x) ∧ (∀ x j, j ≠ 5 → ν x j = μ6 x j) ∧ ∀ m, m < 5 → ν (65 + 2 * m) 5 = 0) 5 (fun (i : Nat) (s : Int × Mem) => s.1 = (i : Int) ∧ (∀ x, ¬ (65 ≤ x ∧ x ≤ 73) → s.2 x = μ6 x) ∧ (∀ x j, j ≠ 5 → s.2 x j = μ6 x j) ∧ ∀ m, m < i → s.2 (65 + 2 * m) 5 = 0) 0 ⟨rfl, fun _ _ => rfl, fun _ _ _ => rfl, fun j hj => absurd hj (by omega)⟩ (by omega) (by omega) ?_ ?_) ?_
  · rintro i ⟨a, ρ⟩ hi ⟨e1, hD, hE, hI⟩
    dsimp only at e1 hD hE hI ⊢
    subst e1
    unfold fX11_beginAnew_b66 fX8_forget
    simp only [lt]
    rw [w32_n (a := i) (by omega), show w32 5 = 5 from by decide, if_pos (by omega), gd_pos (by omega), Int.toNat_natCast, Ok_some]
    refine ⟨by push_cast; rfl, fun x hx => ?_, fun x j hj => ?_, fun m hm => ?_⟩
    · dsimp only
      rw [upd2_ne (by omega)]; exact hD x hx
    · dsimp only
      by_cases e : x = 65 + 2 * i
      · rw [e, upd2_nj hj]; exact hE _ j hj
      · rw [upd2_ne e]; exact hE x j hj
    · dsimp only
      by_cases q : m = i
      · rw [q, upd2_at]
      · rw [upd2_ne (by omega)]; exact hI m (by omega)
  · rintro ⟨a, ρ⟩ ⟨e1, hD, hE, hI⟩
    dsimp only at e1 hD hE hI ⊢
    subst e1
    unfold fX11_beginAnew_b66
    rw [show w32 ((5 : Nat) : Int) = 5 from by decide, show w32 5 = 5 from by decide, if_neg (by omega), Ok_some]
    exact ⟨hD, hE, hI⟩
  rintro ρ2 ⟨t1, t2, t3⟩
  rw [Ok_some]
  generalize h7 : upd2 (upd2 (upd2 (upd2 ρ2 49 5 0) 51 5 0) 53 2 0) 55 2 0 = μ7
  have x7 : ∀ x, x ≠ 49 → x ≠ 51 → x ≠ 53 → x ≠ 55 → μ7 x = ρ2 x := fun x q1 q2 q3 q4 => by rw [← h7, upd2_ne q4, upd2_ne q3, upd2_ne q2, upd2_ne q1]
  have u49 : μ7 49 5 = 0 := by rw [← h7, upd2_ne (by omega), upd2_ne (by omega), upd2_ne (by omega), upd2_at]
  have u51 : μ7 51 5 = 0 := by rw [← h7, upd2_ne (by omega), upd2_ne (by omega), upd2_at]
  have u53 : μ7 53 2 = 0 := by rw [← h7, upd2_ne (by omega), upd2_at]
  have u55 : μ7 55 2 = 0 := by rw [← h7, upd2_at]
  have v49 : ∀ j, j ≠ 5 → μ7 49 j = ρ2 49 j := fun j q => by rw [← h7, upd2_ne (by omega), upd2_ne (by omega), upd2_ne (by omega), upd2_nj q]
  have v51 : ∀ j, j ≠ 5 → μ7 51 j = ρ2 51 j := fun j q => by rw [← h7, upd2_ne (by omega), upd2_ne (by omega), upd2_nj q, upd2_ne (by omega)]
  -- all the rows but a few
  have low : ∀ x, ¬ (57 ≤ x ∧ x ≤ 63) → ¬ (65 ≤ x ∧ x ≤ 73) → x ≠ 46 → x ≠ 49 → x ≠ 51 → x ≠ 53 → x ≠ 55 → μ7 x = μ5 x := fun x q1 q2 q3 q4 q5 q6 q7 => by rw [x7 x q4 q5 q6 q7, t1 x q2, x6 x q3, r1 x q1]
  have l0 : μ7 0 = μ5 0 := low 0 (by omega) (by omega) (by omega) (by omega) (by omega) (by omega) (by omega)
  have l39 : μ7 39 = μ5 39 := low 39 (by omega) (by omega) (by omega) (by omega) (by omega) (by omega) (by omega)
  have l41 : μ7 41 = μ5 41 := low 41 (by omega) (by omega) (by omega) (by omega) (by omega) (by omega) (by omega)
  have m5 : ∀ x, x ≠ 41 → x ≠ 0 → x ≠ 27 → x ≠ 39 → μ5 x = μ x := fun x q1 q2 q3 q4 => by rw [x5 x q1 q2, x3 x q3, x2 x q4 q2]
  refine ⟨⟨⟨?_, ?_, ?_, ?_, ?_, ?_, ?_⟩, fun m hm => ?_, fun k bk b hk => ?_, u53, u55⟩, fun x hx => ?_, fun j q1 q2 => ?_, fun k bk b hk j hj => ?_⟩
  · rw [l39, x5 39 (by omega) (by omega), x3 39 (by omega)]; exact a39
  · rw [l0, y0 6 (by omega), x3 0 (by omega)]; exact a06
  · rw [l41]; exact y1
  · rw [l41]; exact y2
  · rw [l41]; exact y3
  · rw [l41]; exact y4
  · rw [l0]; exact y11
  · rw [x7 _ (by omega) (by omega) (by omega) (by omega), t1 _ (by omega), x6 _ (by omega)]; exact r2 m hm
  · rcases hk with h | h | h | ⟨i, hi, h⟩
    · rw [h.1, x7 _ (by omega) (by omega) (by omega) (by omega), t1 _ (by omega)]; exact w6
    · rw [h.1]; exact u49
    · rw [h.1]; exact u51
    · rw [h.1, x7 _ (by omega) (by omega) (by omega) (by omega)]; exact t3 i hi
  · rw [low x (by omega) (by omega) (by omega) (by omega) (by omega) (by omega) (by omega)]; exact m5 x (by omega) (by omega) (by omega) (by omega)
  · rw [l0, y0 j q2, x3 0 (by omega)]; exact a0j j q1
  · have base : ∀ x, stB k bk b → x = k → μ5 x j = μ x j := fun x hk e => by
      have := (stB_is hk).1
      have := isSt_b this
      rw [m5 x (by omega) (by omega) (by omega) (by omega)]
    have hb := base k hk rfl
    rw [← hb]
    rcases hk with h | h | h | ⟨i, hi, h⟩
    · rw [h.1, x7 _ (by omega) (by omega) (by omega) (by omega), t1 _ (by omega), z6 _ j hj, r1 _ (by omega)]
    · rw [h.1, v49 j hj, t1 _ (by omega), x6 _ (by omega), r1 _ (by omega)]
    · rw [h.1, v51 j hj, t1 _ (by omega), x6 _ (by omega), r1 _ (by omega)]
    · rw [h.1, x7 _ (by omega) (by omega) (by omega) (by omega), t2 _ j hj, x6 _ (by omega), r1 _ (by omega)]
end CBEGIN
