/-! ===== level 2: the reference reads a plan ===== -/
section RPLAN
variable {tx : Nat → Nat} {L n : Nat} {μ ν : Mem}
theorem Tk3.fx (h : Tk tx L μ ∧ W80 μ ∧ L ≤ 1000) (e : ∀ x, x = 77 ∨ x = 78 ∨ x = 79 ∨ x = 80 → ν x = μ x) : Tk tx L ν ∧ W80 ν ∧ L ≤ 1000 := ⟨fun j hj => (h.1 j hj).same (by rw [e 77 (by omega)]) (by rw [e 78 (by omega)]) (by rw [e 79 (by omega)]), fun w hw => by rw [e 80 (by omega)]; exact h.2.1 w hw, h.2.2⟩
theorem RS.fx {j : Nat} (h : RS tx L 0 (j, []) μ) (e : ∀ x, x = 75 ∨ x = 77 ∨ x = 78 ∨ x = 79 ∨ x = 80 → ν x = μ x) : RS tx L 0 (j, []) ν := ⟨Tk3.fx h.1 (fun x hx => e x (by omega)), h.2.1, by rw [e 75 (by omega)]; exact h.2.2.1, by rw [e 75 (by omega)]; exact h.2.2.2.1, by rw [e 75 (by omega)]; exact h.2.2.2.2.1, trivial⟩
theorem RErr.fx {e : Nat} (h : RErr tx L 0 e 0 μ) (q : ∀ x, x = 75 ∨ x = 77 ∨ x = 78 ∨ x = 79 ∨ x = 80 → ν x = μ x) : RErr tx L 0 e 0 ν := by
  obtain ⟨h1, h2, h3, j, k, h4⟩ := h
  exact ⟨Tk3.fx h1 (fun x hx => q x (by omega)), by rw [q 75 (by omega)]; exact h2, h3, j, k, by rw [q 75 (by omega)]; exact h4⟩
def Rp (μ ν : Mem) : Prop := (∀ x, x ≠ 75 → x ≠ 82 → x ≠ 84 → ν x = μ x) ∧ (∀ j, j ≠ 7 → j ≠ 8 → j ≠ 12 → ν 75 j = μ 75 j) ∧ (∀ i, i < 1100 → ν 82 i = μ 82 i) ∧ ∀ i, i < 41 → ν 84 i = μ 84 i
theorem Rp.rf : Rp μ μ := ⟨fun _ _ _ _ => rfl, fun _ _ _ _ => rfl, fun _ _ => rfl, fun _ _ => rfl⟩
theorem Rp.tr {a b c : Mem} (h1 : Rp a b) (h2 : Rp b c) : Rp a c := ⟨fun x q1 q2 q3 => (h2.1 x q1 q2 q3).trans (h1.1 x q1 q2 q3), fun j a b c => (h2.2.1 j a b c).trans (h1.2.1 j a b c), fun j a => (h2.2.2.1 j a).trans (h1.2.2.1 j a), fun j a => (h2.2.2.2 j a).trans (h1.2.2.2 j a)⟩
theorem Pr.rp (h : Pr 0 μ ν) : Rp μ ν := ⟨fun x q1 q2 _ => h.1 x q1 q2, h.2.1, fun i hi => h.2.2 i (by omega), fun i _ => by rw [h.1 84 (by omega) (by omega)]⟩
theorem Rp.put {i : Nat} {v : Int} (hi : 41 ≤ i) : Rp μ (upd2 μ 84 i v) := ⟨fun x _ _ q => upd2_ne q, fun j _ _ _ => by rw [upd2_ne (by omega)], fun j _ => by rw [upd2_ne (by omega)], fun j hj => upd2_nj (by omega)⟩
def RP (tx : Nat → Nat) (L : Nat) (s : PlS) (μ : Mem) : Prop := RS tx L 0 (s.1, []) μ ∧ (∀ i, i < s.2.1 → μ 84 (41 + i) = s.2.2 i) ∧ s.2.1 ≤ 40
def OutQ (tx : Nat → Nat) (L : Nat) (r : PlS ⊕ Nat) (o : Int × Mem) : Prop := match r with
  | .inl s => o.1 = s.2.1 ∧ RP tx L s o.2
  | .inr e => RErr tx L 0 e 0 o.2
theorem rturn_ok {s : PlS} (hn : n < 6) (h81 : μ 81 0 = n) (h : RP tx L s μ) (h0 : tK tx L s.1 ≠ 0) : Ok (fX12_plan_b11 (s.2.1 : Int) μ) (fun r => ∃ o, r = .inl o ∧ OutQ tx L (aTurn tx L n s) o ∧ Rp μ o.2) := by
  obtain ⟨hR, h84, hb⟩ := h
  have hjb := hR.b
  have h8 := hR.2.2.2.1
  have h7 : μ 75 7 = (s.1 : Int) := hR.2.2.1
  have h77 : μ 77 s.1 = tKd tx L (tSt tx L s.1) := hR.tk.1
  have hkb := tKd_b (tx := tx) (L := L) (s := tSt tx L s.1)
  dsimp only at hjb
  have c0' : ¬ tKd tx L (tSt tx L s.1) = 0 := h0
  unfold fX12_plan_b11
  simp only [lt]
  rw [if_pos (show w32 (μ 75 8) = 0 by rw [h8]; decide), h7, w32_n (a := s.1) (by omega), gd_pos (by omega), Int.toNat_natCast, h77, w32_n (a := tKd tx L (tSt tx L s.1)) (by omega), if_neg (by omega)]
  have w6 := isWord_r (w := 6) hR (by omega)
  rw [show ci 6 = 5 from by decide, show ((6 : Nat) : Int) = 6 from rfl] at w6
  dsimp only at w6
  rw [w6, Option.bind_some]
  unfold aTurn
  by_cases c1 : isW tx L s.1 5 = true
  rotate_left
  · rw [if_neg c1, if_pos c1]
    refine Ok.then (rwrong_ok (w := 1) (m := 0) hR (by omega) (by show 0 + 0 + 0 ≤ s.1; omega)) ?_
    rintro ν ⟨g1, g2⟩
    rw [rtake_e g1, Option.bind_some, Ok_some]
    exact ⟨_, rfl, g1, g2.rp⟩
  rw [if_pos c1, if_neg (show ¬ ¬ isW tx L s.1 5 = true from fun q => q c1), w32_n (a := s.2.1) (by omega), show w32 40 = 40 from by decide]
  by_cases c2 : s.2.1 = 40
  · rw [if_pos (show (s.2.1 : Int) = 40 by omega), if_pos c2]
    refine Ok.then (rwrong_ok (w := 5) (m := 0) hR (by omega) (by show 0 + 0 + 0 ≤ s.1; omega)) ?_
    rintro ν ⟨g1, g2⟩
    rw [rtake_e g1, Option.bind_some, Ok_some]
    exact ⟨_, rfl, g1, g2.rp⟩
  rw [if_neg (show ¬ (s.2.1 : Int) = 40 by omega), if_neg c2]
  have hnx := hR.next (isW_pos c1).1
  dsimp only at hnx
  rw [h7] at hnx
  have e81 : upd2 μ 75 7 ((s.1 : Int) + 1) 81 0 = n := by rw [upd2_ne (by omega)]; exact h81
  rw [e81, show (1 : Int) = ((1 : Nat) : Int) from rfl]
  have ev : (41 : Int) + (s.2.1 : Int) = ((41 + s.2.1 : Nat) : Int) := by omega
  refine Ok.then (takeNumber_ok (lo := 1) (hi := n) hnx (by omega) (by omega)) ?_
  rintro ⟨v, μ11⟩ ⟨p1, hcase⟩
  dsimp only at p1 hcase ⊢
  have pp : Pr 0 μ μ11 := Pr.tr .p7 p1
  rw [ev, w32_n (a := 41 + s.2.1) (by omega), gd_pos (by omega), Int.toNat_natCast]
  rcases hcase with ⟨c3, c4, rfl, g1⟩ | ⟨g1, hno⟩
  rotate_left
  · have hE := RErr.fx (ν := upd2 μ11 84 (41 + s.2.1) v) g1 (fun x hx => upd2_ne (by omega))
    rw [rtake_e hE, Option.bind_some, Ok_some]
    refine ⟨_, rfl, ?_, pp.rp.tr (Rp.put (by omega))⟩
    by_cases c3 : tK tx L (s.1 + 1) = 2
    · rw [if_neg (show ¬ ¬ tK tx L (s.1 + 1) = 2 from fun q => q c3)] at hE ⊢
      rw [if_pos (fun q => hno ⟨c3, q⟩)]
      exact hE
    · rw [if_pos c3] at hE ⊢
      exact hE
  rw [if_neg (show ¬ ¬ tK tx L (s.1 + 1) = 2 from fun q => q c3), if_neg (show ¬ ¬ (1 ≤ tN tx L (s.1 + 1) ∧ tN tx L (s.1 + 1) ≤ n) from fun q => q c4)]
  have hS := RS.fx (ν := upd2 μ11 84 (41 + s.2.1) (tN tx L (s.1 + 1) : Int)) g1 (fun x hx => upd2_ne (by omega))
  have pq : Rp μ (upd2 μ11 84 (41 + s.2.1) (tN tx L (s.1 + 1) : Int)) := pp.rp.tr (Rp.put (by omega))
  rw [show (59 : Int) = ((59 : Nat) : Int) from rfl]
  refine Ok.then (rtake_ok (c := 59) (m := 0) hS (by omega) (by show 0 + 0 + 0 ≤ s.1 + 1 + 1; omega)) ?_
  rintro μ14 ⟨g14, p14⟩
  rw [Ok_some]
  refine ⟨_, rfl, ?_, pq.tr p14.rp⟩
  dsimp only at g14
  by_cases c6 : isS tx L (s.1 + 2) 59 = true
  · rw [if_pos c6] at g14
    rw [if_neg (show ¬ ¬ isS tx L (s.1 + 2) 59 = true from fun q => q c6)]
    refine ⟨by push_cast; rfl, g14, fun i hi => ?_, by show s.2.1 + 1 ≤ 40; omega⟩
    have hi' : i < s.2.1 + 1 := hi
    show μ14 84 (41 + i) = ((if i = s.2.1 then tN tx L (s.1 + 1) else s.2.2 i : Nat) : Int)
    rw [p14.1 84 (by omega) (by omega)]
    by_cases e : i = s.2.1
    · rw [if_pos e, e, upd2_at]
    · rw [if_neg e, upd2_nj (by omega), pp.1 84 (by omega) (by omega)]; exact h84 i (by omega)
  · rw [if_neg c6] at g14
    rw [if_pos c6]
    exact g14
theorem rpl_ok {s : PlS} (hn : n < 6) (h81 : μ 81 0 = n) (h : RP tx L s μ) (h0 : s.1 = 0) (hv0 : s.2.1 = 0) : Ok (loopN (fun s => fX12_plan_b11 s.1 s.2) FU (0, μ)) (fun o => OutQ tx L (aPlL tx L n (L + 2) s) o ∧ Rp μ o.2) := by
  refine loop_I (Q := fun o : Int × Mem => OutQ tx L (aPlL tx L n (L + 2) s) o ∧ Rp μ o.2) _ (fun t : Int × Mem => if t.2 75 8 = 0 then 2001 - (t.2 75 7).toNat else 0) (fun t : Int × Mem => Rp μ t.2 ∧ ((∃ (f : Nat) (u : PlS), t.1 = u.2.1 ∧ RP tx L u t.2 ∧ L + 2 ≤ f + u.1 ∧ aPlL tx L n f u = aPlL tx L n (L + 2) s) ∨ ∃ e, RErr tx L 0 e 0 t.2 ∧ aPlL tx L n (L + 2) s = .inr e)) ⟨.rf, Or.inl ⟨L + 2, s, by rw [hv0]; rfl, h, by omega, rfl⟩⟩ (by split <;> omega) ?_
  rintro ⟨v, ρ⟩ ⟨hP, hcase⟩
  dsimp only at hP hcase ⊢
  rcases hcase with ⟨f, u, rfl, hu, hf, ha⟩ | ⟨e, hE, ha⟩
  rotate_left
  · unfold fX12_plan_b11
    have e8 := hE.2.1
    have e0 := hE.2.2.1
    rw [if_neg (show ¬ w32 (ρ 75 8) = 0 by rw [e8, w32_n (by omega)]; omega), Ok_some]
    refine ⟨?_, hP⟩
    rw [ha]; exact hE
  have huL := hu.1.2.1.leL
  have hub := hu.1.b
  have h8 := hu.1.2.2.2.1
  have h7 : ρ 75 7 = (u.1 : Int) := hu.1.2.2.1
  have h77 : ρ 77 u.1 = tKd tx L (tSt tx L u.1) := hu.1.tk.1
  have hkb := tKd_b (tx := tx) (L := L) (s := tSt tx L u.1)
  dsimp only at huL hub
  obtain ⟨f', rfl⟩ : ∃ f', f = f' + 1 := ⟨f - 1, by omega⟩
  have hm0 : (if ρ 75 8 = 0 then 2001 - (ρ 75 7).toNat else 0) = 2001 - u.1 := by
    rw [if_pos h8, h7, Int.toNat_natCast]
  rw [hm0]
  rw [aPlL] at ha
  by_cases c0 : tK tx L u.1 = 0
  · have c0' : tKd tx L (tSt tx L u.1) = 0 := c0
    unfold fX12_plan_b11
    rw [if_pos (show w32 (ρ 75 8) = 0 by rw [h8]; decide), h7, w32_n (a := u.1) (by omega), gd_pos (by omega), Int.toNat_natCast, h77, w32_n (a := tKd tx L (tSt tx L u.1)) (by omega)]
    rw [if_pos c0] at ha
    rw [if_pos (by omega), Ok_some]
    refine ⟨?_, hP⟩
    rw [← ha]; exact ⟨rfl, hu⟩
  rw [if_neg c0] at ha
  refine Ok.imp (rturn_ok hn (by rw [hP.1 81 (by omega) (by omega) (by omega)]; exact h81) hu c0) ?_
  rintro r ⟨⟨v2, ρ2⟩, rfl, hO, hR2⟩
  dsimp only at hO hR2
  cases hst : aTurn tx L n u with
  | inr e =>
    rw [hst] at ha hO
    have hE : RErr tx L 0 e 0 ρ2 := hO
    have e8 := hE.2.1
    have e0 := hE.2.2.1
    refine ⟨⟨hP.tr hR2, Or.inr ⟨e, hE, ha.symm⟩⟩, ?_⟩
    dsimp only
    rw [if_neg (by rw [e8]; omega)]
    omega
  | inl t =>
    rw [hst] at ha hO
    obtain ⟨k1, k2⟩ := aTurn_g hu.1.2.1 hst
    obtain ⟨hv2, hO2⟩ := hO
    have htb := hO2.1.b
    have t7 : ρ2 75 7 = (t.1 : Int) := hO2.1.2.2.1
    refine ⟨⟨hP.tr hR2, Or.inl ⟨f', t, hv2, hO2, by omega, ha⟩⟩, ?_⟩
    dsimp only at htb ⊢
    rw [if_pos hO2.1.2.2.2.1, t7, Int.toNat_natCast]
    omega
end RPLAN
