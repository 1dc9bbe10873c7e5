/-! ===== level 2: plan ===== -/
section SPLAN
variable {p : Pm} {μ ν : Mem} {tx : Nat → Nat} {L n : Nat}
theorem becomeP_ok {P : Nat} {pl : Nat → Nat} (hP : P ≤ 40) (h4 : ∀ i, i < P → μ 4 i = pl i) : Ok (fX4_become 4 (P : Int) μ) (fun ν => PLc P pl ν ∧ ∀ x, x ≠ 39 → x ≠ 40 → ν x = μ x) := by
  unfold fX4_become
  simp only [lt]
  have hm : imin (P : Int) 40 = P := by
    unfold imin
    rw [show w32 40 = 40 from by decide, w32_n (by omega)]
    by_cases q : (40 : Int) < P
    · omega
    · rw [if_neg q]
  rw [hm]
  refine Ok.bind ?_
  refine loop_FU P (fun (i : Nat) (s : Int × Mem) => s.1 = (i : Int) ∧ s.2 39 1 = P ∧ (∀ x, x ≠ 39 → x ≠ 40 → s.2 x = μ x) ∧ ∀ j, j < i → s.2 40 j = pl j) 0 ⟨rfl, (by show upd2 μ 39 1 _ 39 1 = _; exact upd2_at), fun x q _ => upd2_ne q, fun j hj => absurd hj (by omega)⟩ (by omega) (by omega) ?_ ?_
  · rintro i ⟨a, ρ⟩ hi ⟨e1, e39, hD, hI⟩
    dsimp only at e1 e39 hD hI ⊢
    subst e1
    unfold fX4_become_b12
    simp only [lt]
    rw [e39, w32_n (a := i) (by omega), w32_n (a := P) (by omega), if_pos (by omega), at_n i rfl (L := 40) rfl (by omega) (by omega), put_n i rfl (L := 40) rfl (by omega) (by omega), Ok_some]
    refine ⟨by push_cast; rfl, ?_, fun x q1 q2 => ?_, fun j hj => ?_⟩
    · dsimp only
      rw [upd2_ne (by omega)]; exact e39
    · dsimp only
      rw [upd2_ne q2]; exact hD x q1 q2
    · dsimp only
      by_cases e : j = i
      · rw [e, upd2_at, hD 4 (by omega) (by omega)]; exact h4 i hi
      · rw [upd2_nj e]; exact hI j (by omega)
  · rintro ⟨a, ρ⟩ ⟨e1, e39, hD, hI⟩
    dsimp only at e1 e39 hD hI ⊢
    subst e1
    unfold fX4_become_b12
    rw [e39, w32_n (a := P) (by omega), if_neg (by omega), Ok_some]
    show Ok _ _
    rw [Ok_some]
    exact ⟨⟨e39, hI⟩, hD⟩
theorem cplan_ok (hn : n < 6) (h25 : μ 25 1 = n) (hO : TxO L tx) (hT : TxC L tx μ) : Ok (fX11_plan μ) (fun o => o.2 1 1 = 0 ∧ (∀ x, x ≠ 1 → x ≠ 3 → x ≠ 4 → x ≠ 39 → x ≠ 40 → o.2 x = μ x) ∧ match aPlL tx L n (L + 2) (0, 0, fun _ => 0) with
    | .inr e => o.1 = (e : Int) ∧ o.2 39 = μ 39 ∧ o.2 40 = μ 40
    | .inl s => o.1 = 0 ∧ PLc s.2.1 s.2.2 o.2) := by
  unfold fX11_plan fX6_readPlan fX6_begin
  simp only [lt]
  rw [h25]
  generalize h2 : upd2 (upd2 (upd2 μ 3 1 0) 3 3 0) 3 4 0 = μ2
  have x2 : ∀ x, x ≠ 3 → μ2 x = μ x := fun x q => by rw [← h2, upd2_ne q, upd2_ne q, upd2_ne q]
  have e31 : μ2 3 1 = 0 := by rw [← h2, upd2_nj (by omega), upd2_nj (by omega), upd2_at]
  have e33 : μ2 3 3 = 0 := by rw [← h2, upd2_nj (by omega), upd2_at]
  have hTX : TX tx L μ2 := ⟨by rw [x2 1 (by omega)]; exact hT.1, fun i hi => by rw [x2 2 (by omega)]; exact hT.2 i hi, hO⟩
  rw [Option.bind_assoc, Option.bind_assoc]
  refine Ok.then (rewind_ok hTX) ?_
  rintro μ3 ⟨hC, hTf⟩
  rw [Option.bind_some, Option.bind_assoc]
  have hCP : CP tx L (0, 0, fun _ => 0) μ3 := ⟨⟨hC, fun i hi => absurd hi (Nat.not_lt_zero i), (congrFun (hTf 3 (by omega)) 1).trans e31⟩, (congrFun (hTf 3 (by omega)) 3).trans e33, fun i hi => absurd hi (Nat.not_lt_zero i), Nat.zero_le _⟩
  refine Ok.then (cpl_ok hn hCP rfl) ?_
  rintro θ ⟨hOut, hF⟩
  have fx : ∀ x, x ≠ 1 → x ≠ 3 → x ≠ 4 → θ x = μ x := fun x q1 q3 q4 => by rw [hF x q1 q3 q4, hTf x q1, x2 x q3]
  unfold fX6_finish fX9_clear
  simp only [lt]
  rw [Option.bind_some]
  generalize hω : upd2 θ 1 1 0 = ω
  have y : ∀ x, x ≠ 1 → ω x = θ x := fun x q => by rw [← hω, upd2_ne q]
  have y1 : ω 1 1 = 0 := by rw [← hω, upd2_at]
  rw [y 3 (by omega)]
  cases hr : aPlL tx L n (L + 2) (0, 0, fun _ => 0) with
  | inr e =>
    rw [hr] at hOut
    obtain ⟨⟨-, e1⟩, e2, e3⟩ := hOut
    rw [e1]
    dsimp only
    rw [w32_n (by omega), if_neg (by omega), Ok_some]
    exact ⟨y1, fun x q1 q3 q4 _ _ => (y x q1).trans (fx x q1 q3 q4), rfl, (y 39 (by omega)).trans (fx 39 (by omega) (by omega) (by omega)), (y 40 (by omega)).trans (fx 40 (by omega) (by omega) (by omega))⟩
  | inl s =>
    rw [hr] at hOut
    obtain ⟨⟨-, -, e1⟩, e3, e4, eb⟩ := hOut
    rw [e1]
    dsimp only
    rw [show w32 0 = 0 from by decide, if_pos rfl, show ω 3 3 = (s.2.1 : Int) from (congrFun (y 3 (by omega)) 3).trans e3]
    refine Ok.then (becomeP_ok eb (fun i hi => by rw [y 4 (by omega)]; exact e4 i hi)) ?_
    rintro ω2 ⟨b1, b2⟩
    rw [Ok_some]
    refine ⟨?_, fun x q1 q3 q4 q39 q40 => ?_, rfl, b1⟩
    · show ω2 1 1 = 0
      rw [b2 1 (by omega) (by omega)]; exact y1
    · show ω2 x = _
      rw [b2 x q39 q40, y x q1]; exact fx x q1 q3 q4
def RFp (μ ν : Mem) : Prop := (∀ x, x ≠ 75 → x ≠ 77 → x ≠ 78 → x ≠ 79 → x ≠ 84 → ν x = μ x) ∧ ∀ j, j ≠ 0 → j ≠ 2 → j ≠ 3 → j ≠ 7 → j ≠ 8 → ν 75 j = μ 75 j
theorem rplan_ok (hn : n < 6) (h81 : μ 81 0 = n) (hO : TxO L tx) (hT : TxR L tx μ) (h8 : W80 μ) : Ok (fX12_plan μ) (fun o => o.2 75 2 = 0 ∧ RFp μ o.2 ∧ match aPlL tx L n (L + 2) (0, 0, fun _ => 0) with
    | .inr e => o.1 = (e : Int) ∧ ∀ i, i < 41 → o.2 84 i = μ 84 i
    | .inl s => o.1 = 0 ∧ PLr s.2.1 s.2.2 o.2) := by
  unfold fX12_plan
  simp only [lt]
  refine Ok.then (cutAll_ok (μ := upd2 μ 75 0 0) hO (by rw [upd2_nj (by omega)]; exact hT.1) (fun i hi => by rw [upd2_ne (by omega)]; exact hT.2 i hi)) ?_
  rintro μ2 ⟨k1, k2, k3, k4, k5, k6⟩
  have hx : ∀ x, x ≠ 75 → x ≠ 77 → x ≠ 78 → x ≠ 79 → μ2 x = μ x := fun x q1 q2 q3 q4 => by rw [k5 x q1 q2 q3 q4, upd2_ne q1]
  have hj : ∀ j, j ≠ 0 → j ≠ 2 → j ≠ 3 → j ≠ 7 → j ≠ 8 → μ2 75 j = μ 75 j := fun j q0 q2 q3 q7 q8 => by rw [k6 j q2 q3 q7 q8, upd2_nj q0]
  have hRP : RP tx L (0, 0, fun _ => 0) μ2 := ⟨⟨⟨k1, fun w hw => by rw [hx 80 (by omega) (by omega) (by omega) (by omega)]; exact h8 w hw, hO.1⟩, fun i hi => absurd hi (Nat.not_lt_zero i), k3, k4⟩, fun i hi => absurd hi (Nat.not_lt_zero i), Nat.zero_le _⟩
  refine Ok.then (rpl_ok hn (by rw [hx 81 (by omega) (by omega) (by omega) (by omega)]; exact h81) hRP rfl rfl) ?_
  rintro ⟨v, θ⟩ ⟨hOut, hF⟩
  dsimp only at hOut hF ⊢
  have t2 : θ 75 2 = 0 := (hF.2.1 2 (by omega) (by omega)).trans k2
  have fR : RFp μ θ := ⟨fun x q1 q2 q3 q4 q5 => (hF.1 x q1 q5).trans (hx x q1 q2 q3 q4), fun j q0 q2 q3 q7 q8 => (hF.2.1 j q7 q8).trans (hj j q0 q2 q3 q7 q8)⟩
  unfold fX12_plan_j101
  simp only [lt]
  cases hr : aPlL tx L n (L + 2) (0, 0, fun _ => 0) with
  | inr e =>
    rw [hr] at hOut
    have hE : RE tx L e θ := hOut
    rw [if_neg hE.pos, Ok_some]
    refine ⟨t2, fR, hE.2.1, fun i hi => ?_⟩
    show θ 84 i = _
    rw [hF.2.2 i hi, hx 84 (by omega) (by omega) (by omega) (by omega)]
  | inl s =>
    rw [hr] at hOut
    obtain ⟨hv, hT1, h84, hb⟩ := hOut
    dsimp only at hv hT1 h84
    subst hv
    rw [if_pos (show w32 (θ 75 8) ≤ 0 by rw [hT1.2.2.2]; decide)]
    refine Ok.then (loop_FU (Q := fun ν : Mem => (∀ x, x ≠ 84 → ν x = θ x) ∧ ν 84 0 = s.2.1 ∧ ∀ j, j < s.2.1 → ν 84 (1 + j) = s.2.2 j) s.2.1 (fun (i : Nat) (t : Int × Mem) => t.1 = (i : Int) ∧ (∀ x, x ≠ 84 → t.2 x = θ x) ∧ t.2 84 0 = s.2.1 ∧ (∀ j, 41 ≤ j → t.2 84 j = θ 84 j) ∧ ∀ j, j < i → t.2 84 (1 + j) = s.2.2 j) 0 ⟨rfl, fun x q => upd2_ne q, (by show upd2 θ 84 0 _ 84 0 = _; exact upd2_at), fun j hj => upd2_nj (by omega), fun j hj => absurd hj (by omega)⟩ (by omega) (by omega) ?_ ?_) ?_
    · rintro i ⟨a, ρ⟩ hi ⟨e1, hD, e0, hE, hI⟩
      dsimp only at e1 hD e0 hE hI ⊢
      subst e1
      unfold fX12_plan_b122
      simp only [lt]
      have ev : (41 : Int) + (i : Int) = ((41 + i : Nat) : Int) := by omega
      have ew : (1 : Int) + (i : Int) = ((1 + i : Nat) : Int) := by omega
      rw [ev, ew, w32_n (a := i) (by omega), w32_n (a := s.2.1) (by omega), w32_n (a := 41 + i) (by omega), w32_n (a := 1 + i) (by omega), if_pos (by omega), gd_pos (by omega), gd_pos (by omega), Int.toNat_natCast, Int.toNat_natCast, Ok_some]
      refine ⟨by push_cast; rfl, fun x hx2 => ?_, ?_, fun j hj2 => ?_, fun j hj2 => ?_⟩
      · dsimp only
        rw [upd2_ne hx2]; exact hD x hx2
      · dsimp only
        rw [upd2_nj (by omega)]; exact e0
      · dsimp only
        rw [upd2_nj (by omega)]; exact hE j hj2
      · dsimp only
        by_cases e : j = i
        · rw [e, upd2_at, hE _ (by omega)]; exact h84 i hi
        · rw [upd2_nj (by omega)]; exact hI j (by omega)
    · rintro ⟨a, ρ⟩ ⟨e1, hD, e0, hE, hI⟩
      dsimp only at e1 hD e0 hE hI ⊢
      subst e1
      unfold fX12_plan_b122
      rw [w32_n (a := s.2.1) (by omega), if_neg (by omega), Ok_some]
      exact ⟨hD, e0, hI⟩
    · rintro ρ ⟨hD, e0, hI⟩
      rw [Ok_some]
      refine ⟨?_, ⟨fun x q1 q2 q3 q4 q5 => (hD x q5).trans (fR.1 x q1 q2 q3 q4 q5), fun j q0 q2 q3 q7 q8 => (congrFun (hD 75 (by omega)) j).trans (fR.2 j q0 q2 q3 q7 q8)⟩, rfl, e0, hI⟩
      show ρ 75 2 = 0
      rw [hD 75 (by omega)]; exact t2
end SPLAN
