/-! ===== level 2: marks ===== -/
section MARK
variable {n q k o m : Nat} {kd : Nat → Nat} {μ ν : Mem} {a t s : Int} {c : Nat} {cl : Nat → Nat × Nat × Bool} {back : Bool}
/-- a moment, in the class and in the reference -/
def MC (k c : Nat) (t s : Int) (q : Nat) (cl : Nat → Nat × Nat × Bool) (μ : Mem) : Prop := μ k 1 = c ∧ μ k 2 = t ∧ μ k 3 = s ∧ SC k q cl μ
def MR (kd : Nat → Nat) (n B c : Nat) (t s : Int) (q : Nat) (cl : Nat → Nat × Nat × Bool) (μ : Mem) : Prop := μ 88 B = nu kd n c ∧ μ 88 (B + 1) = t ∧ μ 88 (B + 2) = s ∧ SR B q cl μ
theorem MR_cpy {F T : Nat} (h : MR kd n F c t s q cl μ) (hq : q ≤ 8) : MR kd n T c t s q cl (cpy F T 28 μ) := by
  obtain ⟨h1, h2, h3, h4, h5⟩ := h
  have e : ∀ j, j < 28 → cpy F T 28 μ 88 (T + j) = μ 88 (F + j) := fun j hj => cpy_in hj
  have e0 := e 0 (by omega)
  rw [Nat.add_zero, Nat.add_zero] at e0
  refine ⟨by rw [e0]; exact h1, by rw [e 1 (by omega)]; exact h2, by rw [e 2 (by omega)]; exact h3, by rw [e 3 (by omega)]; exact h4, fun i hi => ?_⟩
  obtain ⟨g1, g2, g3⟩ := h5 i hi
  have r0 := e (4 + 3 * i) (by omega)
  have r1 := e (4 + 3 * i + 1) (by omega)
  have r2 := e (4 + 3 * i + 2) (by omega)
  have s0 : T + (4 + 3 * i) = T + 4 + 3 * i := by omega
  have s1 : F + (4 + 3 * i) = F + 4 + 3 * i := by omega
  have s2 : T + (4 + 3 * i + 1) = T + 4 + 3 * i + 1 := by omega
  have s3 : F + (4 + 3 * i + 1) = F + 4 + 3 * i + 1 := by omega
  have s4 : T + (4 + 3 * i + 2) = T + 4 + 3 * i + 2 := by omega
  have s5 : F + (4 + 3 * i + 2) = F + 4 + 3 * i + 2 := by omega
  rw [s0, s1] at r0
  rw [s2, s3] at r1
  rw [s4, s5] at r2
  rw [r0, r1, r2]
  exact ⟨g1, g2, g3⟩
theorem MR_out {F T B : Nat} (h : MR kd n B c t s q cl μ) (hq : q ≤ 8) (hd : B + 28 ≤ T ∨ T + 28 ≤ B) : MR kd n B c t s q cl (cpy F T 28 μ) := by
  obtain ⟨h1, h2, h3, h4, h5⟩ := h
  have e : ∀ j, j < 28 → cpy F T 28 μ 88 (B + j) = μ 88 (B + j) := fun j hj => cpy_out (by omega)
  have e0 := e 0 (by omega)
  rw [Nat.add_zero] at e0
  refine ⟨by rw [e0]; exact h1, by rw [e 1 (by omega)]; exact h2, by rw [e 2 (by omega)]; exact h3, by rw [e 3 (by omega)]; exact h4, fun i hi => ?_⟩
  rw [cpy_out (by omega), cpy_out (by omega), cpy_out (by omega)]
  exact h5 i hi
theorem become_ok (hk : alen (k + 1) = 8) (ho : alen (o + 1) = 8) (h1 : k ≠ o) (h2 : k + 1 ≠ o) (h3 : o + 1 ≠ k) (h : MC o c t s q cl μ) (hq : q ≤ 8) : Ok (fX5_become k o μ) (fun ν => ν k 0 = 1 ∧ MC k c t s q cl ν ∧ ∀ x, x ≠ k → x ≠ k + 1 → ν x = μ x) := by
  obtain ⟨m1, m2, m3, m4, m5⟩ := h
  unfold fX5_become
  simp only [lt]
  generalize hμ5 : upd2 (upd2 (upd2 (upd2 (upd2 μ k 0 1) k 1 (upd2 μ k 0 1 o 1)) k 2 (upd2 (upd2 μ k 0 1) k 1 (upd2 μ k 0 1 o 1) o 2)) k 3 (upd2 (upd2 (upd2 μ k 0 1) k 1 (upd2 μ k 0 1 o 1)) k 2 (upd2 (upd2 μ k 0 1) k 1 (upd2 μ k 0 1 o 1) o 2) o 3)) k 4 (upd2 (upd2 (upd2 (upd2 μ k 0 1) k 1 (upd2 μ k 0 1 o 1)) k 2 (upd2 (upd2 μ k 0 1) k 1 (upd2 μ k 0 1 o 1) o 2)) k 3 (upd2 (upd2 (upd2 μ k 0 1) k 1 (upd2 μ k 0 1 o 1)) k 2 (upd2 (upd2 μ k 0 1) k 1 (upd2 μ k 0 1 o 1) o 2) o 3) o 4) = μ5
  have hne : o ≠ k := fun e => h1 e.symm
  have hm : upd2 (upd2 (upd2 (upd2 (upd2 μ k 0 1) k 1 (c : Int)) k 2 t) k 3 s) k 4 (q : Int) = μ5 := by
    rw [← hμ5]
    simp only [upd2_ne hne, m1, m2, m3, m4]
  have hx : ∀ x, x ≠ k → μ5 x = μ x := fun x hx => by rw [← hm, upd2_ne hx, upd2_ne hx, upd2_ne hx, upd2_ne hx, upd2_ne hx]
  have k0 : μ5 k 0 = 1 := by rw [← hm, upd2_nj (by omega), upd2_nj (by omega), upd2_nj (by omega), upd2_nj (by omega), upd2_at]
  have k1 : μ5 k 1 = c := by rw [← hm, upd2_nj (by omega), upd2_nj (by omega), upd2_nj (by omega), upd2_at]
  have k2 : μ5 k 2 = t := by rw [← hm, upd2_nj (by omega), upd2_nj (by omega), upd2_at]
  have k3 : μ5 k 3 = s := by rw [← hm, upd2_nj (by omega), upd2_at]
  have k4 : μ5 k 4 = q := by rw [← hm, upd2_at]
  refine Ok.bind ?_
  refine Ok.imp (loop_FU (Q := fun ν : Mem => (∀ x, x ≠ k + 1 → ν x = μ5 x) ∧ ∀ i, i < q → ν (k + 1) i = clC (cl i)) q (fun (i : Nat) (s : Int × Mem) => s.1 = (i : Int) ∧ (∀ x, x ≠ k + 1 → s.2 x = μ5 x) ∧ ∀ j, j < i → s.2 (k + 1) j = clC (cl j)) 0 ⟨rfl, fun _ _ => rfl, fun j hj => absurd hj (by omega)⟩ (by omega) (by omega) ?_ ?_) ?_
  · rintro i ⟨x, ρ⟩ hi ⟨e1, hD, hC⟩
    dsimp only at e1 hD hC ⊢
    subst e1
    unfold fX5_become_b39
    simp only [lt]
    rw [hD k (by omega), k4, w32_n (a := i) (by omega), w32_n (a := q) (by omega), if_pos (by omega), at_n i rfl ho (by omega) (by omega), put_n i rfl hk (by omega) (by omega), hD (o + 1) (by omega), hx (o + 1) h3, m5 i hi, Ok_some]
    refine ⟨by push_cast; rfl, fun x hx => ?_, fun j hj => ?_⟩
    · dsimp only
      rw [upd2_ne hx]; exact hD x hx
    · dsimp only
      by_cases e : j = i
      · rw [e, upd2_at]
      · rw [upd2_nj e]; exact hC j (by omega)
  · rintro ⟨x, ρ⟩ ⟨e1, hD, hC⟩
    dsimp only at e1 hD hC ⊢
    subst e1
    unfold fX5_become_b39
    rw [hD k (by omega), k4, w32_n (a := q) (by omega), if_neg (by omega), Ok_some]
    exact ⟨hD, hC⟩
  · rintro ρ ⟨hD, hC⟩
    rw [Ok_some]
    have hk1 : ρ k = μ5 k := hD k (by omega)
    exact ⟨by rw [hk1]; exact k0, ⟨by rw [hk1]; exact k1, by rw [hk1]; exact k2, by rw [hk1]; exact k3, by rw [hk1]; exact k4, hC⟩, fun x x1 x2 => by rw [hD x x2, hx x x1]⟩
theorem al_mo (h : m < 4) : alen (57 + 2 * m + 1) = 8 := by
  have : m = 0 ∨ m = 1 ∨ m = 2 ∨ m = 3 := by omega
  rcases this with rfl | rfl | rfl | rfl <;> rfl
theorem mark_no (ha : Nz a) (h : ¬ (0 ≤ a ∧ a < 4)) : fX11_mark a back μ = some (false, μ) := by
  unfold fX11_mark
  rw [nz_w ha, show w32 4 = 4 from by decide]
  by_cases q0 : a < 0
  · rw [if_pos q0]
  · rw [if_neg q0, if_neg (by omega)]
theorem mark_lay (hm : m < 4) (h : MC 41 c t s q cl μ) (hq : q ≤ 8) : Ok (fX11_mark (m : Int) false μ) (fun o => o.1 = true ∧ o.2 (57 + 2 * m) 0 = 1 ∧ MC (57 + 2 * m) c t s q cl o.2 ∧ ∀ x, x ≠ 57 + 2 * m → x ≠ 57 + 2 * m + 1 → o.2 x = μ x) := by
  unfold fX11_mark
  simp only [lt]
  rw [w32_n (a := m) (by omega), show w32 4 = 4 from by decide, if_neg (by omega), if_pos (by omega), if_neg (by decide), Int.toNat_natCast]
  refine Ok.then (become_ok (al_mo hm) (o := 41) rfl (by omega) (by omega) (by omega) h hq) ?_
  rintro ν ⟨g1, g2, g3⟩
  rw [Ok_some]
  exact ⟨rfl, g1, g2, g3⟩
theorem mark_none (hm : m < 4) (h : μ (57 + 2 * m) 0 = 0) : fX11_mark (m : Int) true μ = some (false, μ) := by
  unfold fX11_mark
  simp only [lt]
  rw [w32_n (a := m) (by omega), show w32 4 = 4 from by decide, if_neg (by omega), if_pos (by omega), if_pos trivial, Int.toNat_natCast, if_neg (by rw [h]; decide)]
theorem mark_back (hm : m < 4) (h0 : μ (57 + 2 * m) 0 = 1) (h : MC (57 + 2 * m) c t s q cl μ) (hq : q ≤ 8) : Ok (fX11_mark (m : Int) true μ) (fun o => o.1 = true ∧ o.2 0 11 = 0 ∧ MC 41 c t s q cl o.2 ∧ (∀ x, x ≠ 0 → x ≠ 41 → x ≠ 42 → o.2 x = μ x) ∧ ∀ j, j ≠ 11 → o.2 0 j = μ 0 j) := by
  unfold fX11_mark
  simp only [lt]
  rw [w32_n (a := m) (by omega), show w32 4 = 4 from by decide, if_neg (by omega), if_pos (by omega), if_pos trivial, Int.toNat_natCast, if_pos (by rw [h0]; decide)]
  refine Ok.then (become_ok (k := 41) rfl (al_mo hm) (by omega) (by omega) (by omega) h hq) ?_
  rintro ν ⟨g1, ⟨g2, g3, g4, g5, g6⟩, g7⟩
  rw [Ok_some]
  refine ⟨rfl, (by dsimp only; rw [upd2_at]), ⟨?_, ?_, ?_, ?_, fun i hi => ?_⟩, fun x x0 x1 x2 => ?_, fun j hj => ?_⟩
  · dsimp only
    rw [upd2_ne (by omega)]; exact g2
  · dsimp only
    rw [upd2_ne (by omega)]; exact g3
  · dsimp only
    rw [upd2_ne (by omega)]; exact g4
  · dsimp only
    rw [upd2_ne (by omega)]; exact g5
  · dsimp only
    rw [upd2_ne (by omega)]; exact g6 i hi
  · dsimp only
    rw [upd2_ne x0, g7 x x1 x2]
  · dsimp only
    rw [upd2_nj hj, g7 0 (by omega) (by omega)]
end MARK
