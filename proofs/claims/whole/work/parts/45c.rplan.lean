/-! ===== level 2: the reference reads a plan ===== -/
section RPLAN
variable {tx : Nat → Nat} {L n : Nat} {μ ν : Mem}
def RpF (μ ν : Mem) : Prop := (∀ x, x ≠ 75 → x ≠ 84 → ν x = μ x) ∧ (∀ j, j ≠ 7 → j ≠ 8 → ν 75 j = μ 75 j) ∧ ∀ i, i < 41 → ν 84 i = μ 84 i
theorem RpF.rf : RpF μ μ := ⟨fun _ _ _ => rfl, fun _ _ _ => rfl, fun _ _ => rfl⟩
theorem RpF.tr {a b c : Mem} (h1 : RpF a b) (h2 : RpF b c) : RpF a c := ⟨fun x q1 q3 => (h2.1 x q1 q3).trans (h1.1 x q1 q3), fun j a b => (h2.2.1 j a b).trans (h1.2.1 j a b), fun j a => (h2.2.2 j a).trans (h1.2.2 j a)⟩
theorem Pt.rpF (h : Pt μ ν) : RpF μ ν := ⟨fun x q1 _ => h.1 x q1, h.2, fun i _ => by rw [h.1 84 (by omega)]⟩
theorem RpF.put {i : Nat} {v : Int} (hi : 41 ≤ i) : RpF μ (upd2 μ 84 i v) := ⟨fun x _ q => upd2_ne q, fun j _ _ => by rw [upd2_ne (by omega)], fun j hj => upd2_nj (by omega)⟩
def RP (tx : Nat → Nat) (L : Nat) (s : PlS) (μ : Mem) : Prop := RT tx L s.1 μ ∧ (∀ i, i < s.2.1 → μ 84 (41 + i) = s.2.2 i) ∧ s.2.1 ≤ 40
def OutQ (tx : Nat → Nat) (L : Nat) (r : PlS ⊕ Nat) (o : Int × Mem) : Prop := match r with
  | .inl s => o.1 = s.2.1 ∧ RP tx L s o.2
  | .inr e => RE tx L e o.2
theorem rturn_ok {s : PlS} (hn : n < 6) (h81 : μ 81 0 = n) (h : RP tx L s μ) (h0 : tK tx L s.1 ≠ 0) : Ok (fX12_plan_b11 (s.2.1 : Int) μ) (fun r => ∃ o, r = .inl o ∧ OutQ tx L (aTurn tx L n s) o ∧ RpF μ o.2) := by
  obtain ⟨hR, h84, hb⟩ := h
  have hjb := hR.b
  have h8 := hR.2.2.2
  have h7 : μ 75 7 = (s.1 : Int) := hR.2.2.1
  have h77 : μ 77 s.1 = tKd tx L (tSt tx L s.1) := hR.tk.1
  have hkb := tKd_b (tx := tx) (L := L) (s := tSt tx L s.1)
  have c0' : ¬ tKd tx L (tSt tx L s.1) = 0 := h0
  unfold fX12_plan_b11
  simp only [lt]
  rw [if_pos (show w32 (μ 75 8) = 0 by rw [h8]; decide), h7, w32_n (a := s.1) (by omega), gd_pos (by omega), Int.toNat_natCast, h77, w32_n (a := tKd tx L (tSt tx L s.1)) (by omega), if_neg (by omega)]
  have w6 := isWord_t (w := 6) hR (by omega)
  rw [show ci 6 = 5 from by decide, show ((6 : Nat) : Int) = 6 from rfl] at w6
  rw [w6, Option.bind_some]
  unfold aTurn
  by_cases c1 : isW tx L s.1 5 = true
  rotate_left
  · rw [if_neg c1, if_pos c1]
    refine Ok.then (wrong_t (w := 1) hR (by omega)) ?_
    rintro ν ⟨g1, g2⟩
    rw [take_te g1, Option.bind_some, Ok_some]
    exact ⟨_, rfl, g1, g2.rpF⟩
  rw [if_pos c1, if_neg (show ¬ ¬ isW tx L s.1 5 = true from fun q => q c1), w32_n (a := s.2.1) (by omega), show w32 40 = 40 from by decide]
  by_cases c2 : s.2.1 = 40
  · rw [if_pos (show (s.2.1 : Int) = 40 by omega), if_pos c2]
    refine Ok.then (wrong_t (w := 5) hR (by omega)) ?_
    rintro ν ⟨g1, g2⟩
    rw [take_te g1, Option.bind_some, Ok_some]
    exact ⟨_, rfl, g1, g2.rpF⟩
  rw [if_neg (show ¬ (s.2.1 : Int) = 40 by omega), if_neg c2]
  have hnx := hR.next (isW_pos c1).1
  rw [h7] at hnx
  have e81 : upd2 μ 75 7 ((s.1 : Int) + 1) 81 0 = n := by rw [upd2_ne (by omega)]; exact h81
  rw [e81, show (1 : Int) = ((1 : Nat) : Int) from rfl]
  have ev : (41 : Int) + (s.2.1 : Int) = ((41 + s.2.1 : Nat) : Int) := by omega
  rw [show ((1 : Nat) : Int) = 1 from rfl] at *
  refine Ok.then (number_t (lo := 1) (hi := n) hnx (by omega)) ?_
  rintro ⟨v, μ11⟩ ⟨p1, hcase⟩
  dsimp only at p1 hcase ⊢
  have pp : Pt μ μ11 := Pt.tr .p7 p1
  rw [ev, w32_n (a := 41 + s.2.1) (by omega), gd_pos (by omega), Int.toNat_natCast]
  rcases hcase with ⟨c3, c4, rfl, g1⟩ | ⟨g1, hno⟩
  rotate_left
  · have hE := RE.fx (ν := upd2 μ11 84 (41 + s.2.1) v) g1 (fun x hx => upd2_ne (by omega))
    rw [take_te hE, Option.bind_some, Ok_some]
    refine ⟨_, rfl, ?_, pp.rpF.tr (RpF.put (by omega))⟩
    by_cases c3 : tK tx L (s.1 + 1) = 2
    · rw [if_neg (show ¬ ¬ tK tx L (s.1 + 1) = 2 from fun q => q c3)] at hE ⊢
      rw [if_pos (fun q => hno ⟨c3, q⟩)]
      exact hE
    · rw [if_pos c3] at hE ⊢
      exact hE
  rw [if_neg (show ¬ ¬ tK tx L (s.1 + 1) = 2 from fun q => q c3), if_neg (show ¬ ¬ (1 ≤ tN tx L (s.1 + 1) ∧ tN tx L (s.1 + 1) ≤ n) from fun q => q c4)]
  have hS := RT.fx (ν := upd2 μ11 84 (41 + s.2.1) (tN tx L (s.1 + 1) : Int)) g1 (fun x hx => upd2_ne (by omega))
  have pq : RpF μ (upd2 μ11 84 (41 + s.2.1) (tN tx L (s.1 + 1) : Int)) := pp.rpF.tr (RpF.put (by omega))
  rw [show (59 : Int) = ((59 : Nat) : Int) from rfl]
  refine Ok.then (take_t (c := 59) hS (by omega)) ?_
  rintro μ14 ⟨g14, p14⟩
  rw [Ok_some]
  refine ⟨_, rfl, ?_, pq.tr p14.rpF⟩
  rcases g14 with ⟨c6, g14⟩ | ⟨c6, g14⟩
  · rw [if_neg (show ¬ ¬ isS tx L (s.1 + 2) 59 = true from fun q => q c6)]
    refine ⟨by push_cast; rfl, g14, fun i hi => ?_, by show s.2.1 + 1 ≤ 40; omega⟩
    have hi' : i < s.2.1 + 1 := hi
    show μ14 84 (41 + i) = ((if i = s.2.1 then tN tx L (s.1 + 1) else s.2.2 i : Nat) : Int)
    rw [p14.1 84 (by omega)]
    by_cases e : i = s.2.1
    · rw [if_pos e, e, upd2_at]
    · rw [if_neg e, upd2_nj (by omega), pp.1 84 (by omega)]; exact h84 i (by omega)
  · rw [if_pos (show ¬ isS tx L (s.1 + 2) 59 = true from c6)]
    exact g14
theorem rpl_ok {s : PlS} (hn : n < 6) (h81 : μ 81 0 = n) (h : RP tx L s μ) (h0 : s.1 = 0) (hv0 : s.2.1 = 0) : Ok (loopN (fun s => fX12_plan_b11 s.1 s.2) FU (0, μ)) (fun o => OutQ tx L (aPlL tx L n (L + 2) s) o ∧ RpF μ o.2) := by
  refine loop_I (Q := fun o : Int × Mem => OutQ tx L (aPlL tx L n (L + 2) s) o ∧ RpF μ o.2) _ (fun t : Int × Mem => if t.2 75 8 = 0 then 2001 - (t.2 75 7).toNat else 0) (fun t : Int × Mem => RpF μ t.2 ∧ ((∃ (f : Nat) (u : PlS), t.1 = u.2.1 ∧ RP tx L u t.2 ∧ L + 2 ≤ f + u.1 ∧ aPlL tx L n f u = aPlL tx L n (L + 2) s) ∨ ∃ e, RE tx L e t.2 ∧ aPlL tx L n (L + 2) s = .inr e)) ⟨.rf, Or.inl ⟨L + 2, s, by rw [hv0]; rfl, h, by omega, rfl⟩⟩ (by split <;> omega) ?_
  rintro ⟨v, ρ⟩ ⟨hP, hcase⟩
  dsimp only at hP hcase ⊢
  rcases hcase with ⟨f, u, rfl, hu, hf, ha⟩ | ⟨e, hE, ha⟩
  rotate_left
  · unfold fX12_plan_b11
    rw [if_neg hE.ne, Ok_some]
    refine ⟨?_, hP⟩
    rw [ha]; exact hE
  have huL := hu.1.2.1.leL
  have hub := hu.1.b
  have h8 := hu.1.2.2.2
  have h7 : ρ 75 7 = (u.1 : Int) := hu.1.2.2.1
  have h77 : ρ 77 u.1 = tKd tx L (tSt tx L u.1) := hu.1.tk.1
  have hkb := tKd_b (tx := tx) (L := L) (s := tSt tx L u.1)
  obtain ⟨f', rfl⟩ : ∃ f', f = f' + 1 := ⟨f - 1, by omega⟩
  have hm0 : (if ρ 75 8 = 0 then 2001 - (ρ 75 7).toNat else 0) = 2001 - u.1 := by
    rw [if_pos h8, h7, Int.toNat_natCast]
  rw [hm0]
  rw [aPlL] at ha
  by_cases c0 : tK tx L u.1 = 0
  · have c0' : tKd tx L (tSt tx L u.1) = 0 := c0
    unfold fX12_plan_b11
    rw [if_pos (show w32 (ρ 75 8) = 0 by rw [h8]; decide), h7, w32_n (a := u.1) (by omega), gd_pos (by omega), Int.toNat_natCast, h77, w32_n (a := tKd tx L (tSt tx L u.1)) (by omega)]
    rw [if_pos c0] at ha
    rw [if_pos (by omega), Ok_some]
    refine ⟨?_, hP⟩
    rw [← ha]; exact ⟨rfl, hu⟩
  rw [if_neg c0] at ha
  refine Ok.imp (rturn_ok hn (by rw [hP.1 81 (by omega) (by omega)]; exact h81) hu c0) ?_
  rintro r ⟨⟨v2, ρ2⟩, rfl, hO, hR2⟩
  dsimp only at hO hR2
  cases hst : aTurn tx L n u with
  | inr e =>
    rw [hst] at ha hO
    have hE : RE tx L e ρ2 := hO
    refine ⟨⟨hP.tr hR2, Or.inr ⟨e, hE, ha.symm⟩⟩, ?_⟩
    dsimp only
    rw [if_neg (by rw [hE.2.1]; have := hE.2.2; omega)]
    omega
  | inl t =>
    rw [hst] at ha hO
    obtain ⟨k1, k2⟩ := aTurn_g hu.1.2.1 hst
    obtain ⟨hv2, hO2⟩ := hO
    have htb := hO2.1.b
    have t7 : ρ2 75 7 = (t.1 : Int) := hO2.1.2.2.1
    refine ⟨⟨hP.tr hR2, Or.inl ⟨f', t, hv2, hO2, by omega, ha⟩⟩, ?_⟩
    dsimp only
    rw [if_pos hO2.1.2.2.2, t7, Int.toNat_natCast]
    omega
theorem aPlL_po : ∀ f (s t : PlS), PO n s.2.1 s.2.2 → aPlL tx L n f s = .inl t → PO n t.2.1 t.2.2
  | 0, s, t, h, ht => by cases ht; exact h
  | f + 1, s, t, h, ht => by
    unfold aPlL at ht
    split at ht
    · cases ht; exact h
    · cases hst : aTurn tx L n s with
      | inr e => rw [hst] at ht; cases ht
      | inl u =>
        rw [hst] at ht
        refine aPlL_po f u t ?_ ht
        unfold aTurn at hst
        repeat (split at hst; · cases hst)
        rename_i q1 q2 q3 q4 q5
        cases hst
        have w4 : 1 ≤ tN tx L (s.1 + 1) ∧ tN tx L (s.1 + 1) ≤ n := Decidable.not_not.mp q4
        refine ⟨by have := h.1; show s.2.1 + 1 ≤ 40; omega, fun i hi => ?_⟩
        have hi' : i < s.2.1 + 1 := hi
        show 1 ≤ (if i = s.2.1 then tN tx L (s.1 + 1) else s.2.2 i) ∧ (if i = s.2.1 then tN tx L (s.1 + 1) else s.2.2 i) ≤ n
        by_cases e : i = s.2.1
        · rw [if_pos e]; exact w4
        · rw [if_neg e]; exact h.2 i (by omega)
end RPLAN
