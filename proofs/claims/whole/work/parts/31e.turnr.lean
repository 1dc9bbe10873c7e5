/-! ===== level 2: to turn, and to undo, in the reference ===== -/
section TURNR
variable {n g : Nat} {kd wd : Nat → Nat} {BE CE : LawF} {μ ν : Mem} {c D : Nat} {a t s : Int} {ms cs : Nat → Nat} {ps ts ss : Nat → Int}
/-- what may change -/
def Ur (μ ν : Mem) : Prop := (∀ x, x ≠ 75 → x ≠ 86 → x ≠ 87 → x ≠ 88 → x ≠ 90 → x ≠ 91 → ν x = μ x) ∧ (∀ j, 3 ≤ j → j < 140 → ν 88 j = μ 88 j) ∧ (∀ j, j ≠ 0 → j ≠ 20 → ν 75 j = μ 75 j) ∧ ν 75 0 = 0
theorem Ur_dk (h : Dk (upd2 μ 75 0 0) ν) : Ur μ ν := by
  refine ⟨fun x x1 x2 x3 _ x4 x5 => ?_, fun j _ _ => ?_, fun j j1 _ => ?_, ?_⟩
  · rw [h x x2 x3 x4 x5, upd2_ne x1]
  · rw [h 88 (by omega) (by omega) (by omega) (by omega), upd2_ne (by omega)]
  · rw [h 75 (by omega) (by omega) (by omega) (by omega), upd2_nj j1]
  · rw [h 75 (by omega) (by omega) (by omega) (by omega), upd2_at]
theorem PR.same (h : PR kd n c t s D cs ts ss μ) (e1 : ν 88 = μ 88) (e2 : ν 75 20 = μ 75 20) : PR kd n c t s D cs ts ss ν := by
  unfold PR at h ⊢
  rw [e1, e2]; exact h
theorem turn_r (h : Rr kd wd n BE CE g μ) (hc : c < NN kd n) (hP : PR kd n c t s D cs ts ss μ) (hA : PA n (NN kd n) (tnC kd n) c t s D ms cs ps ts ss) (ha : Nz a) :
    Ok (fX12_turn a μ) (fun o => Ur μ o.2 ∧ o.1 = (if caB kd wd n BE c a = true then coI kd wd n CE c a else -1) ∧ (if caB kd wd n BE c a = true then PR kd n (tnC kd n c a.toNat) (t + 1) (s + coI kd wd n CE c a) (D - dr D + 1) (fun i => if i ≤ D - dr D then cs (i + dr D) else tnC kd n c a.toNat) (fun i => if i ≤ D - dr D then ts (i + dr D) else t + 1) (fun i => if i ≤ D - dr D then ss (i + dr D) else s + coI kd wd n CE c a) o.2 else PR kd n c t s D cs ts ss o.2)) := by
  have hn := h.1.1
  obtain ⟨a0, a1, a2, a3, -⟩ := hA
  obtain ⟨d1, d2, d3⟩ := dr_b a0
  have hp := h.gp
  unfold fX12_turn
  simp only [lt]
  generalize hμ1 : upd2 μ 75 0 0 = μ1
  have hR1 : Rr kd wd n BE CE g μ1 := h.same (by rw [← hμ1, upd2_ne (by omega)]) (by rw [← hμ1, upd2_ne (by omega)])
  have e881 : μ1 88 = μ 88 := by rw [← hμ1, upd2_ne (by omega)]
  have e751 : μ1 75 20 = μ 75 20 := by rw [← hμ1, upd2_nj (by omega)]
  have hP1 := hP.same e881 e751
  rw [hP1.1]
  refine Ok.then (hR1.lay hc) ?_
  rintro θ ⟨hL, hDk⟩
  have hR := hR1.dk hDk
  rw [hR.2.1.1, within_r (lo := 1) (hi := (n : Int)) ha ⟨by decide, by decide⟩ (nz_c (k := n) (by omega))]
  have hno : ∀ θ' : Mem, Dk μ1 θ' → caB kd wd n BE c a = false → Ok (some ((-1 : Int), θ')) (fun o => Ur μ o.2 ∧ o.1 = (if caB kd wd n BE c a = true then coI kd wd n CE c a else -1) ∧ (if caB kd wd n BE c a = true then PR kd n (tnC kd n c a.toNat) (t + 1) (s + coI kd wd n CE c a) (D - dr D + 1) (fun i => if i ≤ D - dr D then cs (i + dr D) else tnC kd n c a.toNat) (fun i => if i ≤ D - dr D then ts (i + dr D) else t + 1) (fun i => if i ≤ D - dr D then ss (i + dr D) else s + coI kd wd n CE c a) o.2 else PR kd n c t s D cs ts ss o.2)) := fun θ' hD' hf => by
    rw [Ok_some, hf]
    refine ⟨Ur_dk (by rw [hμ1]; exact hD'), (if_neg (by decide)).symm, ?_⟩
    rw [if_neg (by decide)]
    exact hP1.same (hD' 88 (by omega) (by omega) (by omega) (by omega)) (by dsimp only; rw [hD' 75 (by omega) (by omega) (by omega) (by omega)])
  by_cases q : 1 ≤ a ∧ a ≤ (n : Int)
  · rw [if_pos (decide_eq_true q)]
    have hco : coI kd wd n CE c a = (prC kd wd n CE c a.toNat : Int) := by unfold coI; rw [if_pos q]
    obtain ⟨m, rfl⟩ : ∃ m : Nat, a = m := ⟨a.toNat, by omega⟩
    have hca : caB kd wd n BE c (m : Int) = opC kd wd n BE c m := by unfold caB; rw [decide_eq_true q, Bool.true_and, Int.toNat_natCast]
    refine Ok.then (hR.may hc (by omega) (by omega) hL) ?_
    rintro ⟨o1, θ2⟩ ⟨ho, hL2, hD2⟩
    dsimp only at ho hL2 hD2 ⊢
    subst ho
    have hDk2 := hDk.tr hD2
    by_cases hop : opC kd wd n BE c m = true
    · rw [if_pos hop]
      rw [← hca] at hop
      simp only [if_pos hop]
      rw [hco, Int.toNat_natCast]
      have hR2 := hR.dk hD2
      have e88 : θ2 88 = μ 88 := by rw [hDk2 88 (by omega) (by omega) (by omega) (by omega), e881]
      have e75 : ∀ j, j ≠ 0 → θ2 75 j = μ 75 j := fun j hj => by rw [hDk2 75 (by omega) (by omega) (by omega) (by omega), ← hμ1, upd2_nj hj]
      have e750 : θ2 75 0 = 0 := by rw [hDk2 75 (by omega) (by omega) (by omega) (by omega), ← hμ1, upd2_at]
      refine Ok.then (keeps_r a0 (by rw [e75 20 (by omega)]; exact hP.2.2.2.1)) ?_
      rintro ν hk
      have edr : (if D = 16 then 1 else 0) = dr D := rfl
      unfold Kp at hk
      simp only [edr] at hk
      obtain ⟨k1, k2, k3, k4, k5, k6⟩ := hk
      have hR3 : Rr kd wd n BE CE g ν := hR2.same (k5 81 (by omega) (by omega)) (k5 82 (by omega) (by omega))
      have hL3 : Ly kd n c ν := hL2.same (k5 90 (by omega) (by omega)) (k5 91 (by omega) (by omega))
      refine Ok.then (hR3.cost hc (by omega) hL3) ?_
      rintro ⟨o1, θ3⟩ ⟨ho, hL4, hD3⟩
      dsimp only at ho hL4 hD3 ⊢
      subst ho
      have hR4 := hR3.dk hD3
      refine Ok.then (hR4.turn hc (by omega) (by omega) hL4) ?_
      rintro θ4 ⟨hL5, hD4⟩
      have hR5 := hR4.dk hD4
      have hd := (hp.2.2.2 c m hc (by omega) (by omega)).1
      have hD34 := hD3.tr hD4
      have f88 : θ4 88 = ν 88 := hD34 88 (by omega) (by omega) (by omega) (by omega)
      have f75 : θ4 75 = ν 75 := hD34 75 (by omega) (by omega) (by omega) (by omega)
      have g1 : θ4 88 1 = t := by rw [f88, k4 1 (by omega), e88]; exact hP.2.1
      have g2 : θ4 88 2 = s := by rw [f88, k4 2 (by omega), e88]; exact hP.2.2.1
      rw [hR5.num hd hL5, Option.bind_some, Ok_some]
      rw [upd2_nj (i := 0) (j := 1) (by omega), g1, upd2_nj (i := 1) (j := 2) (by omega), upd2_nj (i := 0) (j := 2) (by omega), g2]
      have hout : ∀ j, 3 ≤ j → upd2 (upd2 (upd2 θ4 88 0 (nu kd n (tnC kd n c m) : Int)) 88 1 (t + 1)) 88 2 (s + (prC kd wd n CE c m : Int)) 88 j = ν 88 j := fun j hj => by
        rw [upd2_nj (by omega), upd2_nj (by omega), upd2_nj (by omega), f88]
      have hox : ∀ x, x ≠ 88 → upd2 (upd2 (upd2 θ4 88 0 (nu kd n (tnC kd n c m) : Int)) 88 1 (t + 1)) 88 2 (s + (prC kd wd n CE c m : Int)) x = θ4 x := fun x hx => by
        rw [upd2_ne hx, upd2_ne hx, upd2_ne hx]
      refine ⟨⟨fun x x1 x2 x3 x4 x5 x6 => ?_, fun j j1 j2 => ?_, fun j j1 j2 => ?_, ?_⟩, rfl, ?_, ?_, ?_, ?_, fun i hi => ?_⟩
      · dsimp only
        rw [hox x x4, hD34 x x2 x3 x5 x6, k5 x x1 x4, hDk2 x x2 x3 x5 x6, ← hμ1, upd2_ne x1]
      · dsimp only
        rw [hout j j1, k4 j j2, e88]
      · dsimp only
        rw [hox 75 (by omega), f75, k6 j j2, e75 j j1]
      · dsimp only
        rw [hox 75 (by omega), f75, k6 0 (by omega), e750]
      · dsimp only
        rw [upd2_nj (by omega), upd2_nj (by omega), upd2_at]
      · dsimp only
        rw [upd2_nj (by omega), upd2_at]
      · dsimp only
        rw [upd2_at]
      · dsimp only
        rw [hox 75 (by omega), f75, k1]
      · dsimp only
        rw [hout _ (by omega), hout _ (by omega), hout _ (by omega), if_pos (by omega), if_pos (by omega), if_pos (by omega)]
        by_cases e : i < D - dr D
        · have r0 := k2 i 0 e (by omega)
          have r1 := k2 i 1 e (by omega)
          have r2 := k2 i 2 e (by omega)
          rw [Nat.add_zero, Nat.add_zero] at r0
          rw [r0, r1, r2, e88]
          exact hP.2.2.2.2 (i + dr D) (by omega)
        · have e2 : i = D - dr D := by omega
          have e3 : i + dr D = D := by omega
          rw [e3, a1, a2, a3, e2]
          have r0 := k3 0 (by omega)
          have r1 := k3 1 (by omega)
          have r2 := k3 2 (by omega)
          rw [Nat.add_zero] at r0
          rw [r0, r1, r2, e88]
          exact ⟨hP.1, hP.2.1, hP.2.2.1⟩
    · rw [if_neg hop]
      exact hno θ2 hDk2 (by rw [hca]; simpa using hop)
  · rw [if_neg (by rw [decide_eq_false q]; decide)]
    exact hno θ hDk (by unfold caB; rw [decide_eq_false q]; rfl)
theorem undo_r (hP : PR kd n c t s D cs ts ss μ) (hD : D ≤ 16) :
    Ok (fX12_undo μ) (fun o => Ur μ o.2 ∧ o.1 = decide (0 < D) ∧ (if 0 < D then PR kd n (cs (D - 1)) (ts (D - 1)) (ss (D - 1)) (D - 1) cs ts ss o.2 else PR kd n c t s D cs ts ss o.2)) := by
  obtain ⟨p1, p2, p3, p4, p5⟩ := hP
  unfold fX12_undo
  simp only [lt]
  generalize hμ1 : upd2 μ 75 0 0 = μ1
  have e20 : μ1 75 20 = (D : Int) := by rw [← hμ1, upd2_nj (by omega)]; exact p4
  have e88 : μ1 88 = μ 88 := by rw [← hμ1, upd2_ne (by omega)]
  rw [e20, w32_n (a := D) (by omega)]
  by_cases q : 0 < D
  · obtain ⟨E, rfl⟩ : ∃ E, D = E + 1 := ⟨D - 1, by omega⟩
    have e1 : ((E + 1 : Nat) : Int) - 1 = (E : Int) := by push_cast; omega
    rw [if_neg (by omega), e1]
    simp only [if_pos q, Nat.add_sub_cancel]
    generalize hμ3 : upd2 μ1 75 20 (E : Int) = μ3
    have e320 : μ3 75 20 = (E : Int) := by rw [← hμ3, upd2_at]
    have e388 : μ3 88 = μ 88 := by rw [← hμ3, upd2_ne (by omega), e88]
    have e4 : (28 : Int) * (5 + (E : Int)) = ((28 * (5 + E) : Nat) : Int) := by push_cast; rfl
    have hcp := copies_r (μ := μ3) (F := 28 * (5 + E)) (T := 0) (m := 3) (by omega) (by omega) (by omega)
    rw [show ((0 : Nat) : Int) = 0 from rfl, show ((3 : Nat) : Int) = 3 from rfl] at hcp
    rw [e320, e4, hcp, Option.bind_some, Ok_some]
    obtain ⟨r0, r1, r2⟩ := p5 E (by omega)
    have c0 : cpy (28 * (5 + E)) 0 3 μ3 88 0 = μ3 88 (28 * (5 + E) + 0) := cpy_in (T := 0) (j := 0) (by omega)
    have c1 : cpy (28 * (5 + E)) 0 3 μ3 88 1 = μ3 88 (28 * (5 + E) + 1) := cpy_in (T := 0) (j := 1) (by omega)
    have c2 : cpy (28 * (5 + E)) 0 3 μ3 88 2 = μ3 88 (28 * (5 + E) + 2) := cpy_in (T := 0) (j := 2) (by omega)
    refine ⟨⟨fun x x1 x2 x3 x4 x5 x6 => ?_, fun j j1 j2 => ?_, fun j j1 j2 => ?_, ?_⟩, (decide_eq_true q).symm, ?_, ?_, ?_, ?_, fun i hi => ?_⟩
    · dsimp only
      rw [cpy_ne x4, ← hμ3, upd2_ne x1, ← hμ1, upd2_ne x1]
    · dsimp only
      rw [cpy_out (by omega), e388]
    · dsimp only
      rw [cpy_ne (by omega), ← hμ3, upd2_nj j2, ← hμ1, upd2_nj j1]
    · dsimp only
      rw [cpy_ne (by omega), ← hμ3, upd2_nj (by omega), ← hμ1, upd2_at]
    · dsimp only
      rw [c0, e388]; exact r0
    · dsimp only
      rw [c1, e388]; exact r1
    · dsimp only
      rw [c2, e388]; exact r2
    · dsimp only
      rw [cpy_ne (by omega), e320]
    · dsimp only
      rw [cpy_out (by omega), cpy_out (by omega), cpy_out (by omega), e388]
      exact p5 i (by omega)
  · rw [if_pos (by omega), Ok_some]
    simp only [if_neg q]
    exact ⟨Ur_dk (by rw [hμ1]; exact Dk.rf), (decide_eq_false q).symm, by rw [e88]; exact p1, by rw [e88]; exact p2, by rw [e88]; exact p3, e20, fun i hi => by rw [e88]; exact p5 i hi⟩
end TURNR
