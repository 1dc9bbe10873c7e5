/-! ===== level 2: the reference's griddle is taken over ===== -/
section RGR2
variable {μ ν : Mem} {tx : Nat → Nat} {L : Nat}
theorem DrO.none : DrO Dr.none := ⟨by show 0 ≤ 5; omega, ⟨fun i hi => absurd hi (Nat.not_lt_zero i), fun i j hi _ _ => absurd hi (Nat.not_lt_zero i)⟩, fun i hi => absurd hi (Nat.not_lt_zero i), fun i hi => absurd hi (Nat.not_lt_zero i), fun i j hi _ _ => absurd hi (Nat.not_lt_zero i)⟩
theorem LwO.none : LwO Dr.none := ⟨fun c h => (by cases h), fun c h => (by cases h)⟩
theorem copy81_ok : Ok (loopN (fun s => fX12_griddle_b81 s.1 s.2) FU (0, μ)) (fun ν => (∀ x, x ≠ 81 → ν x = μ x) ∧ ∀ j, j < 20 → ν 81 j = μ 81 (20 + j)) := by
  refine loop_FU 20 (fun (i : Nat) (s : Int × Mem) => s.1 = (i : Int) ∧ (∀ x, x ≠ 81 → s.2 x = μ x) ∧ (∀ j, 20 ≤ j → s.2 81 j = μ 81 j) ∧ ∀ j, j < i → s.2 81 j = μ 81 (20 + j)) 0 ⟨rfl, fun _ _ => rfl, fun _ _ => rfl, fun j hj => absurd hj (by omega)⟩ (by omega) (by omega) ?_ ?_
  · rintro i ⟨a, ρ⟩ hi ⟨e1, hD, hE, hR⟩
    dsimp only at e1 hD hE hR ⊢
    subst e1
    unfold fX12_griddle_b81
    simp only [lt]
    have e : (20 : Int) + (i : Int) = ((20 + i : Nat) : Int) := by push_cast; rfl
    rw [e, w32_n (a := i) (by omega), show w32 20 = 20 from by decide, w32_n (a := 20 + i) (by omega), if_pos (by omega), gd_pos (by omega), gd_pos (by omega), Int.toNat_natCast, Int.toNat_natCast, Ok_some]
    refine ⟨by push_cast; rfl, fun x hx => ?_, fun j hj => ?_, fun j hj => ?_⟩
    · dsimp only
      rw [upd2_ne hx]; exact hD x hx
    · dsimp only
      rw [upd2_nj (by omega)]; exact hE j hj
    · dsimp only
      by_cases q : j = i
      · rw [q, upd2_at]; exact hE _ (by omega)
      · rw [upd2_nj (by omega)]; exact hR j (by omega)
  · rintro ⟨a, ρ⟩ ⟨e1, hD, hE, hR⟩
    dsimp only at e1 hD hE hR ⊢
    subst e1
    unfold fX12_griddle_b81
    rw [show w32 ((20 : Nat) : Int) = 20 from by decide, show w32 20 = 20 from by decide, if_neg (by omega), Ok_some]
    exact ⟨hD, hR⟩
theorem copy82_ok {t : Nat} (h : μ 75 12 = t) (ht : t ≤ 1000) : Ok (loopN (fun s => fX12_griddle_b110 s.1 s.2) FU (0, μ)) (fun ν => (∀ x, x ≠ 82 → ν x = μ x) ∧ ∀ j, j < t → ν 82 j = μ 82 (1100 + j)) := by
  refine loop_FU t (fun (i : Nat) (s : Int × Mem) => s.1 = (i : Int) ∧ (∀ x, x ≠ 82 → s.2 x = μ x) ∧ (∀ j, 1100 ≤ j → s.2 82 j = μ 82 j) ∧ ∀ j, j < i → s.2 82 j = μ 82 (1100 + j)) 0 ⟨rfl, fun _ _ => rfl, fun _ _ => rfl, fun j hj => absurd hj (by omega)⟩ (by omega) (by omega) ?_ ?_
  · rintro i ⟨a, ρ⟩ hi ⟨e1, hD, hE, hR⟩
    dsimp only at e1 hD hE hR ⊢
    subst e1
    unfold fX12_griddle_b110
    simp only [lt]
    have e : (1100 : Int) + (i : Int) = ((1100 + i : Nat) : Int) := by omega
    rw [e, hD 75 (by omega), h, w32_n (a := i) (by omega), w32_n (a := t) (by omega), w32_n (a := 1100 + i) (by omega), if_pos (by omega), gd_pos (by omega), gd_pos (by omega), Int.toNat_natCast, Int.toNat_natCast, Ok_some]
    refine ⟨by push_cast; rfl, fun x hx => ?_, fun j hj => ?_, fun j hj => ?_⟩
    · dsimp only
      rw [upd2_ne hx]; exact hD x hx
    · dsimp only
      rw [upd2_nj (by omega)]; exact hE j hj
    · dsimp only
      by_cases q : j = i
      · rw [q, upd2_at]; exact hE _ (by omega)
      · rw [upd2_nj (by omega)]; exact hR j (by omega)
  · rintro ⟨a, ρ⟩ ⟨e1, hD, hE, hR⟩
    dsimp only at e1 hD hE hR ⊢
    subst e1
    unfold fX12_griddle_b110
    rw [hD 75 (by omega), h, if_neg (by omega), Ok_some]
    exact ⟨hD, hR⟩
theorem copy83_ok : Ok (loopN (fun s => fX12_griddle_b142 s.1 s.2) FU (0, μ)) (fun ν => (∀ x, x ≠ 83 → ν x = μ x) ∧ ∀ j, j < 5 → ν 83 j = μ 83 (5 + j)) := by
  refine loop_FU 5 (fun (i : Nat) (s : Int × Mem) => s.1 = (i : Int) ∧ (∀ x, x ≠ 83 → s.2 x = μ x) ∧ (∀ j, 5 ≤ j → s.2 83 j = μ 83 j) ∧ ∀ j, j < i → s.2 83 j = μ 83 (5 + j)) 0 ⟨rfl, fun _ _ => rfl, fun _ _ => rfl, fun j hj => absurd hj (by omega)⟩ (by omega) (by omega) ?_ ?_
  · rintro i ⟨a, ρ⟩ hi ⟨e1, hD, hE, hR⟩
    dsimp only at e1 hD hE hR ⊢
    subst e1
    unfold fX12_griddle_b142
    simp only [lt]
    have e : (5 : Int) + (i : Int) = ((5 + i : Nat) : Int) := by push_cast; rfl
    rw [e, w32_n (a := i) (by omega), show w32 5 = 5 from by decide, w32_n (a := 5 + i) (by omega), if_pos (by omega), gd_pos (by omega), gd_pos (by omega), Int.toNat_natCast, Int.toNat_natCast, Ok_some]
    refine ⟨by push_cast; rfl, fun x hx => ?_, fun j hj => ?_, fun j hj => ?_⟩
    · dsimp only
      rw [upd2_ne hx]; exact hD x hx
    · dsimp only
      rw [upd2_nj (by omega)]; exact hE j hj
    · dsimp only
      by_cases q : j = i
      · rw [q, upd2_at]; exact hE _ (by omega)
      · rw [upd2_nj (by omega)]; exact hR j (by omega)
  · rintro ⟨a, ρ⟩ ⟨e1, hD, hE, hR⟩
    dsimp only at e1 hD hE hR ⊢
    subst e1
    unfold fX12_griddle_b142
    rw [show w32 ((5 : Nat) : Int) = 5 from by decide, show w32 5 = 5 from by decide, if_neg (by omega), Ok_some]
    exact ⟨hD, hR⟩
/-- the draft is the griddle -/
def RS2 (D : Dr) (ν : Mem) : Prop := Rg D.kd D.wd D.n ν ∧ RLw 1 (lawF D.bars 0) 0 ν ∧ RLw 2 (lawF D.costs 1) 1 ν ∧ NmR D.n D.nm ν ∧ RB D.kd D.n (tdN D.kd D.n (upN D.up D.n)) ν
/-- the fault leaves the griddle -/
def RF2 (μ ν : Mem) : Prop := (∀ x, x ≠ 75 → x ≠ 77 → x ≠ 78 → x ≠ 79 → x ≠ 81 → x ≠ 82 → x ≠ 83 → ν x = μ x) ∧ (∀ j, j ≠ 0 → j ≠ 2 → j ≠ 3 → j ≠ 7 → j ≠ 8 → j ≠ 12 → ν 75 j = μ 75 j) ∧ (∀ j, j < 20 → ν 81 j = μ 81 j) ∧ (∀ i, i < 1100 → ν 82 i = μ 82 i) ∧ ∀ i, i < 5 → ν 83 i = μ 83 i
theorem rlw_of {i tot : Nat} {o : Option Cod} {dv : Int} (h : LwR (20 + i) o tot μ) (ht : tot ≤ 1000) (hO : ∀ c, o = some c → CodO c) (e1 : ν 81 i = μ 81 (20 + i)) (e2 : ∀ j, j < tot → ν 82 j = μ 82 (1100 + j)) : RLw i (lawF o dv) dv ν := by
  cases o with
  | none => exact Or.inl ⟨e1.trans h, fun _ _ _ _ => rfl⟩
  | some c =>
    obtain ⟨b, h1, h2, h3, h4⟩ := h
    refine Or.inr ⟨b, e1.trans h1, by omega, wk_r (hO c rfl) (by omega) (by omega) (CdA.of h2 (fun i hi => e2 i (by omega))) ?_⟩
    rw [e2 _ (by omega), ← Nat.add_assoc]; exact h3
/-- the laws are short -/
def LnO (D : Dr) : Prop := (∀ c, D.bars = some c → c.length ≤ 1000) ∧ ∀ c, D.costs = some c → c.length ≤ 1000
theorem LwR.len {i tot : Nat} {o : Option Cod} (h : LwR i o tot μ) (ht : tot ≤ 1000) : ∀ c, o = some c → c.length ≤ 1000 := by
  intro c hc
  subst hc
  obtain ⟨b, h1, h2, h3, h4⟩ := h
  omega
theorem rgriddle_ok (hO : TxO L tx) (hT : TxR L tx μ) (h8 : W80 μ) : Ok (fX12_griddle μ) (fun o => (∀ x, x < 75 ∨ x = 76 ∨ x = 80 ∨ x = 92 ∨ 96 ≤ x → o.2 x = μ x) ∧ o.2 75 2 = 0 ∧ match aGL tx L (L + 2) (0, Dr.none) with
    | .inr e => o.1 = (e : Int) ∧ e ≠ 0 ∧ e < 20000 ∧ RF2 μ o.2
    | .inl s => o.1 = 0 ∧ DrO s.2 ∧ LwO s.2 ∧ LnO s.2 ∧ RS2 s.2 o.2) := by
  unfold fX12_griddle
  simp only [lt]
  refine Ok.then (cutAll_ok (μ := upd2 μ 75 0 0) hO (by rw [upd2_nj (by omega)]; exact hT.1) (fun i hi => by rw [upd2_ne (by omega)]; exact hT.2 i hi)) ?_
  rintro μ2 ⟨k1, k2, k3, k4, k5, k6⟩
  generalize h3 : upd2 μ2 75 12 0 = μ3
  have x3 : ∀ x, x ≠ 75 → μ3 x = μ2 x := fun x hx => by rw [← h3, upd2_ne hx]
  have j3 : ∀ j, j ≠ 12 → μ3 75 j = μ2 75 j := fun j hj => by rw [← h3, upd2_nj hj]
  have e312 : μ3 75 12 = 0 := by rw [← h3, upd2_at]
  refine Ok.then stands_ok ?_
  rintro μ4 ⟨s1, s2, s3, s4, s5⟩
  have hTk : Tk tx L μ4 := fun j hj => (k1 j hj).same (by rw [s1 77 (by omega), x3 77 (by omega)]) (by rw [s1 78 (by omega), x3 78 (by omega)]) (by rw [s1 79 (by omega), x3 79 (by omega)])
  have h84 : W80 μ4 := fun w hw => by rw [s1 80 (by omega), x3 80 (by omega), k5 80 (by omega) (by omega) (by omega) (by omega), upd2_ne (by omega)]; exact h8 w hw
  have hRG : RG tx L 0 (0, Dr.none) μ4 := by
    refine ⟨⟨⟨hTk, h84, hO.1⟩, fun i hi => absurd hi (Nat.not_lt_zero i), ?_, ?_, ?_, trivial⟩, Nat.le_refl _, ⟨s3, fun i hi => absurd hi (Nat.not_lt_zero i), s4, s5⟩, DrO.none⟩
    · rw [s1 75 (by omega), j3 7 (by omega)]; exact k3
    · rw [s1 75 (by omega), j3 8 (by omega)]; exact k4
    · rw [s1 75 (by omega)]; exact e312
  have hx : ∀ x, x ≠ 75 → x ≠ 77 → x ≠ 78 → x ≠ 79 → x ≠ 81 → μ4 x = μ x := fun x q1 q2 q3 q4 q5 => by rw [s1 x q5, x3 x q1, k5 x q1 q2 q3 q4, upd2_ne q1]
  have hj : ∀ j, j ≠ 0 → j ≠ 2 → j ≠ 3 → j ≠ 7 → j ≠ 8 → j ≠ 12 → μ4 75 j = μ 75 j := fun j q0 q2 q3 q7 q8 q12 => by rw [s1 75 (by omega), j3 j q12, k6 j q2 q3 q7 q8, upd2_nj q0]
  have h42 : μ4 75 2 = 0 := by rw [s1 75 (by omega), j3 2 (by omega)]; exact k2
  refine Ok.then (rgl_ok hRG rfl) ?_
  rintro θ ⟨hOut, hRf⟩
  have hLw : ∀ t, aGL tx L (L + 2) (0, Dr.none) = .inl t → LwO t.2 := fun t ht => aGL_lw _ _ _ LwO.none ht
  have hθx : ∀ x, x ≠ 75 → x ≠ 77 → x ≠ 78 → x ≠ 79 → x ≠ 81 → x ≠ 82 → x ≠ 83 → θ x = μ x := fun x q1 q2 q3 q4 q5 q6 q7 => by rw [hRf.1 x q1 q5 q6 q7]; exact hx x q1 q2 q3 q4 q5
  have hθj : ∀ j, j ≠ 0 → j ≠ 2 → j ≠ 3 → j ≠ 7 → j ≠ 8 → j ≠ 12 → θ 75 j = μ 75 j := fun j q0 q2 q3 q7 q8 q12 => by rw [hRf.2.1 j q7 q8 q12]; exact hj j q0 q2 q3 q7 q8 q12
  have hθ2 : θ 75 2 = 0 := by rw [hRf.2.1 2 (by omega) (by omega) (by omega)]; exact h42
  cases hr : aGL tx L (L + 2) (0, Dr.none) with
  | inr e =>
    rw [hr] at hOut
    obtain ⟨-, g8, ⟨ge0, geb⟩, -⟩ := hOut
    unfold fX12_griddle_j67
    rw [g8, w32_n (by omega), if_neg (by omega), Ok_some]
    refine ⟨fun x hx2 => hθx x (by omega) (by omega) (by omega) (by omega) (by omega) (by omega) (by omega), hθ2, rfl, ge0, geb, hθx, hθj, fun j hj2 => ?_, fun i hi => ?_, fun i hi => ?_⟩
    · show θ 81 j = _
      rw [hRf.2.2.1 j hj2, s2 j hj2, x3 81 (by omega), k5 81 (by omega) (by omega) (by omega) (by omega), upd2_ne (by omega)]
    · show θ 82 i = _
      rw [hRf.2.2.2.1 i hi]; exact congrFun (hx 82 (by omega) (by omega) (by omega) (by omega) (by omega)) i
    · show θ 83 i = _
      rw [hRf.2.2.2.2 i hi]; exact congrFun (hx 83 (by omega) (by omega) (by omega) (by omega) (by omega)) i
  | inl s =>
    rw [hr] at hOut
    obtain ⟨tot, ⟨⟨-, gR, -, g8, g12, -⟩, gt, ⟨d1, d2, d3, d4⟩, dO⟩⟩ := hOut
    have hsb := gR.b hO.1
    dsimp only at hsb
    have ht : tot ≤ 1000 := by omega
    have hLs := hLw s hr
    have hn : s.2.n < 6 := by have := dO.1; omega
    unfold fX12_griddle_j67
    rw [g8, show w32 0 = 0 from by decide, if_pos (by omega)]
    refine Ok.then copy81_ok ?_
    rintro ρ1 ⟨a1, a2⟩
    refine Ok.then (copy82_ok (t := tot) (by rw [a1 75 (by omega)]; exact g12) ht) ?_
    rintro ρ2 ⟨b1, b2⟩
    refine Ok.then copy83_ok ?_
    rintro ρ3 ⟨c1, c2⟩
    have f81 : ∀ j, j < 20 → ρ3 81 j = θ 81 (20 + j) := fun j hj2 => by rw [c1 81 (by omega), b1 81 (by omega)]; exact a2 j hj2
    have f82 : ∀ j, j < tot → ρ3 82 j = θ 82 (1100 + j) := fun j hj2 => by rw [c1 82 (by omega), b2 j hj2, a1 82 (by omega)]
    have f83 : ∀ j, j < 5 → ρ3 83 j = θ 83 (5 + j) := fun j hj2 => by rw [c2 j hj2, b1 83 (by omega), a1 83 (by omega)]
    have fx : ∀ x, x ≠ 81 → x ≠ 82 → x ≠ 83 → ρ3 x = θ x := fun x q1 q2 q3 => by rw [c1 x q3, b1 x q2, a1 x q1]
    have hRg : Rg s.2.kd s.2.wd s.2.n ρ3 := by
      refine ⟨(f81 0 (by omega)).trans d1, fun k hk => ?_⟩
      obtain ⟨q1, q2, q3, q4⟩ := d2 k hk
      obtain ⟨-, -, o3, o4, -⟩ := dO
      refine ⟨?_, o3 k hk, ?_, (o4 k hk).2⟩
      · rw [f81 _ (by omega), show 20 + (3 + 3 * k) = 23 + 3 * k by omega]; exact q1
      · rw [f81 _ (by omega), show 20 + (4 + 3 * k) = 24 + 3 * k by omega]; exact q2
    refine Ok.then (begins_ok (up := s.2.up) hn hRg (fun k hk => by rw [f81 _ (by omega), show 20 + (5 + 3 * k) = 25 + 3 * k by omega]; exact (d2 k hk).2.2.1)) ?_
    rintro ω ⟨hRB, hB⟩
    rw [Ok_some]
    have w81 : ω 81 = ρ3 81 := hB.1 81 (by omega) (by omega) (by omega) (by omega) (by omega) (by omega)
    have w82 : ω 82 = ρ3 82 := hB.1 82 (by omega) (by omega) (by omega) (by omega) (by omega) (by omega)
    have w83 : ω 83 = ρ3 83 := hB.1 83 (by omega) (by omega) (by omega) (by omega) (by omega) (by omega)
    refine ⟨fun x hx2 => ?_, ?_, rfl, dO, hLs, ⟨d3.len ht, d4.len ht⟩, hRg.same w81, rlw_of (i := 1) d3 ht hLs.1 ?_ ?_, rlw_of (i := 2) d4 ht hLs.2 ?_ ?_, fun k hk => ?_, hRB⟩
    · show ω x = μ x
      rw [hB.1 x (by omega) (by omega) (by omega) (by omega) (by omega) (by omega), fx x (by omega) (by omega) (by omega)]
      exact hθx x (by omega) (by omega) (by omega) (by omega) (by omega) (by omega) (by omega)
    · show ω 75 2 = 0
      rw [hB.2 2 (by omega) (by omega) (by omega) (by omega), fx 75 (by omega) (by omega) (by omega)]; exact hθ2
    · show ω 81 1 = _
      rw [w81]; exact f81 1 (by omega)
    · intro j hj2
      show ω 82 j = _
      rw [w82]; exact f82 j hj2
    · show ω 81 2 = _
      rw [w81]; exact f81 2 (by omega)
    · intro j hj2
      show ω 82 j = _
      rw [w82]; exact f82 j hj2
    · show ω 83 k = _
      rw [w83, f83 k (by omega)]; exact (d2 k hk).2.2.2
end RGR2
