/-! ===== level 2: the class reads a plan ===== -/
section CPLAN
variable {tx : Nat → Nat} {L n : Nat} {μ ν : Mem}
/-- where the reader stands: token, how many turns, which -/
abbrev PlS : Type := Nat × Nat × (Nat → Nat)
def aTurn (tx : Nat → Nat) (L n : Nat) (s : PlS) : PlS ⊕ Nat :=
  if ¬ isW tx L s.1 5 = true then .inr (er tx L 1 s.1)
  else if s.2.1 = 40 then .inr (er tx L 5 s.1)
  else if ¬ tK tx L (s.1 + 1) = 2 then .inr (er tx L 1 (s.1 + 1))
  else if ¬ (1 ≤ tN tx L (s.1 + 1) ∧ tN tx L (s.1 + 1) ≤ n) then .inr (er tx L 4 (s.1 + 1))
  else if ¬ isS tx L (s.1 + 2) 59 = true then .inr (er tx L 1 (s.1 + 2))
  else .inl (s.1 + 3, s.2.1 + 1, fun i => if i = s.2.1 then tN tx L (s.1 + 1) else s.2.2 i)
def aPlL (tx : Nat → Nat) (L n : Nat) : Nat → PlS → PlS ⊕ Nat
  | 0, s => .inl s
  | f + 1, s => if tK tx L s.1 = 0 then .inl s else match aTurn tx L n s with
    | .inl t => aPlL tx L n f t
    | .inr e => .inr e
theorem aTurn_g {s t : PlS} (hs : Rch tx L s.1) (h : aTurn tx L n s = .inl t) : s.1 + 2 ≤ t.1 ∧ Rch tx L t.1 := by
  unfold aTurn at h
  repeat (split at h; · cases h)
  rename_i q1 q2 q3 q4 q5
  cases h
  have w1 : isW tx L s.1 5 = true := Decidable.not_not.mp q1
  have w2 : tK tx L (s.1 + 1) = 2 := Decidable.not_not.mp q3
  have w3 : isS tx L (s.1 + 2) 59 = true := Decidable.not_not.mp q5
  have r1 := hs.next (isW_pos w1).1
  have r2 := r1.next (tK_pos (by omega))
  have r3 := r2.next (isS_pos w3).1
  exact ⟨by show s.1 + 2 ≤ s.1 + 3; omega, r3⟩
/-- the class stands at a token -/
def CT (tx : Nat → Nat) (L j : Nat) (μ : Mem) : Prop := Cur tx L j μ ∧ Rch tx L j ∧ μ 3 1 = 0
def Tw (μ ν : Mem) : Prop := (∀ x, x ≠ 1 → x ≠ 3 → ν x = μ x) ∧ ∀ j, j ≠ 1 → ν 3 j = μ 3 j
theorem Tw.tr {a b c : Mem} (h1 : Tw a b) (h2 : Tw b c) : Tw a c := ⟨fun x q1 q2 => (h2.1 x q1 q2).trans (h1.1 x q1 q2), fun j q => (h2.2 j q).trans (h1.2 j q)⟩
theorem tstep_ok {j : Nat} (h : CT tx L j μ) (hj : tSt tx L j < L) : Ok (fX9_step μ) (fun ν => CT tx L (j + 1) ν ∧ Tw μ ν) := by
  obtain ⟨h1, h2, h3⟩ := h
  refine Ok.imp (step_ok h1 hj) ?_
  rintro ν ⟨g1, g2⟩
  exact ⟨⟨g1, h2.next hj, (congrFun (g2 3 (by omega)) 1).trans h3⟩, fun x q _ => g2 x q, fun j _ => congrFun (g2 3 (by omega)) j⟩
theorem twrong_ok {j w : Nat} (h : CT tx L j μ) (hw : 1 ≤ w ∧ w ≤ 5) : (fX6_wrong (w : Int) μ).1 = false ∧ CEr tx L (er tx L w j) (fX6_wrong (w : Int) μ).2 ∧ (er tx L w j ≠ 0 ∧ er tx L w j < 20000) ∧ Tw μ (fX6_wrong (w : Int) μ).2 := by
  obtain ⟨h1, h2, h3⟩ := h
  unfold fX6_wrong
  simp only [lt]
  rw [h3, if_pos (by decide), h1.2.1]
  refine ⟨rfl, ⟨⟨?_, fun i hi => ?_, h1.1.2.2⟩, ?_⟩, ⟨er_pos (by omega), er_lt h1.1.2.2.1 hw.2⟩, fun x q1 q2 => ?_, fun j hj => ?_⟩
  · dsimp only; rw [upd2_ne (by omega)]; exact h1.1.1
  · dsimp only; rw [upd2_ne (by omega)]; exact h1.1.2.1 i hi
  · dsimp only; rw [upd2_at]; unfold er; push_cast; rfl
  · dsimp only; rw [upd2_ne q2]
  · dsimp only; rw [upd2_nj hj]
/-- the class has read s -/
def CP (tx : Nat → Nat) (L : Nat) (s : PlS) (μ : Mem) : Prop := CT tx L s.1 μ ∧ μ 3 3 = s.2.1 ∧ (∀ i, i < s.2.1 → μ 4 i = s.2.2 i) ∧ s.2.1 ≤ 40
def OutP (tx : Nat → Nat) (L : Nat) (r : PlS ⊕ Nat) (μ : Mem) : Prop := match r with
  | .inl s => CP tx L s μ
  | .inr e => CEr tx L e μ ∧ e ≠ 0 ∧ e < 20000
def Fp (μ ν : Mem) : Prop := ∀ x, x ≠ 1 → x ≠ 3 → x ≠ 4 → ν x = μ x
theorem Fp.tr {a b c : Mem} (h1 : Fp a b) (h2 : Fp b c) : Fp a c := fun x q1 q2 q3 => (h2 x q1 q2 q3).trans (h1 x q1 q2 q3)
theorem Tw.fp (h : Tw μ ν) : Fp μ ν := fun x q1 q2 _ => h.1 x q1 q2
theorem cturn_ok {s : PlS} (hn : n < 6) (h : CP tx L s μ) : Ok (fX6_readTurn (n : Int) μ) (fun o => OutP tx L (aTurn tx L n s) o.2 ∧ Fp μ o.2) := by
  obtain ⟨h1, h3, h4, hb⟩ := h
  have hL := h1.1.1.2.2.1
  unfold fX6_readTurn
  simp only [lt]
  rw [show (1005 : Nat) = 1000 + 5 from rfl, isWord_v h1.1 (by omega), Option.bind_some, h3]
  unfold aTurn
  by_cases c1 : isW tx L s.1 5 = true
  rotate_left
  · rw [if_neg c1, if_pos c1, Ok_some]
    obtain ⟨w1, w2, w3, w4⟩ := twrong_ok (w := 1) h1 (by omega)
    exact ⟨⟨w2, w3⟩, w4.fp⟩
  rw [if_pos c1, if_neg (show ¬ ¬ isW tx L s.1 5 = true from fun q => q c1), w32_n (a := s.2.1) (by omega), show w32 40 = 40 from by decide]
  by_cases c2 : s.2.1 = 40
  · rw [if_neg (show ¬ (s.2.1 : Int) < 40 by omega), if_pos c2, Ok_some]
    obtain ⟨w1, w2, w3, w4⟩ := twrong_ok (w := 5) h1 (by omega)
    exact ⟨⟨w2, w3⟩, w4.fp⟩
  rw [if_pos (show (s.2.1 : Int) < 40 by omega), if_neg c2]
  refine Ok.then (tstep_ok h1 (isW_pos c1).1) ?_
  rintro μ4 ⟨g1, g2⟩
  rw [is_nm g1.1]
  by_cases c3 : tK tx L (s.1 + 1) = 2
  rotate_left
  · rw [if_neg (by rw [decide_eq_false c3]; decide), if_pos c3, Ok_some]
    obtain ⟨w1, w2, w3, w4⟩ := twrong_ok (w := 1) g1 (by omega)
    exact ⟨⟨w2, w3⟩, (g2.tr w4).fp⟩
  have hvb := tNm_b c3
  have hv' : μ4 1 5 = (tN tx L (s.1 + 1) : Int) := (g1.1.2.2.2.2.2.1 c3).2
  rw [if_pos (decide_eq_true c3), if_neg (show ¬ ¬ tK tx L (s.1 + 1) = 2 from fun q => q c3), hv', w32_n (a := tN tx L (s.1 + 1)) (by omega), w32_1, w32_n (a := n) (by omega)]
  by_cases c4 : 1 ≤ tN tx L (s.1 + 1) ∧ tN tx L (s.1 + 1) ≤ n
  rotate_left
  · rw [if_pos c4]
    obtain ⟨w1, w2, w3, w4⟩ := twrong_ok (w := 4) g1 (by omega)
    by_cases c5 : (tN tx L (s.1 + 1) : Int) < 1
    · rw [if_pos c5, Ok_some]
      exact ⟨⟨w2, w3⟩, (g2.tr w4).fp⟩
    · rw [if_neg c5, if_neg (by omega), Ok_some]
      exact ⟨⟨w2, w3⟩, (g2.tr w4).fp⟩
  rw [if_neg (show ¬ ¬ (1 ≤ tN tx L (s.1 + 1) ∧ tN tx L (s.1 + 1) ≤ n) from fun q => q c4), if_neg (show ¬ (tN tx L (s.1 + 1) : Int) < 1 by omega), if_pos (show (tN tx L (s.1 + 1) : Int) ≤ n by omega)]
  have e33 : μ4 3 3 = s.2.1 := (g2.2 3 (by omega)).trans h3
  unfold fX6_keep
  simp only [lt]
  rw [e33, put_n s.2.1 rfl (L := 40) rfl (by omega) (by omega)]
  have e33' : upd2 μ4 4 s.2.1 (tN tx L (s.1 + 1) : Int) 3 3 = s.2.1 := by rw [upd2_ne (by omega)]; exact e33
  rw [e33']
  generalize h9 : upd2 (upd2 μ4 4 s.2.1 (tN tx L (s.1 + 1) : Int)) 3 3 ((s.2.1 : Int) + 1) = μ9
  have x9 : ∀ x, x ≠ 3 → x ≠ 4 → μ9 x = μ4 x := fun x q1 q2 => by rw [← h9, upd2_ne q1, upd2_ne q2]
  have g9 : CT tx L (s.1 + 1) μ9 := by
    refine ⟨?_, g1.2.1, ?_⟩
    · have := g1.1
      unfold Cur At TX at this ⊢
      rw [x9 1 (by omega) (by omega), x9 2 (by omega) (by omega)]; exact this
    · rw [← h9, upd2_nj (by omega), upd2_ne (by omega)]; exact g1.2.2
  have f9 : Fp μ μ9 := fun x q1 q2 q3 => (x9 x q2 q3).trans (g2.1 x q1 q2)
  have k3 : μ9 3 3 = ((s.2.1 + 1 : Nat) : Int) := by rw [← h9, upd2_at]; push_cast; rfl
  have k4 : ∀ i, i < s.2.1 + 1 → μ9 4 i = ((if i = s.2.1 then tN tx L (s.1 + 1) else s.2.2 i : Nat) : Int) := fun i hi => by
    rw [← h9, upd2_ne (by omega)]
    by_cases e : i = s.2.1
    · rw [if_pos e, e, upd2_at]
    · rw [if_neg e, upd2_nj e, g2.1 4 (by omega) (by omega)]; exact h4 i (by omega)
  refine Ok.then (tstep_ok g9 (tK_pos (by omega))) ?_
  rintro μ10 ⟨g10, t10⟩
  have f10 : Fp μ μ10 := f9.tr t10.fp
  unfold fX6_skipSign
  simp only [lt]
  rw [show (59 : Int) = ((59 : Nat) : Int) from rfl, is_sg g10.1 (by omega)]
  by_cases c6 : isS tx L (s.1 + 2) 59 = true
  rotate_left
  · rw [if_neg c6, if_pos c6, Option.bind_some, Ok_some]
    obtain ⟨w1, w2, w3, w4⟩ := twrong_ok (w := 1) g10 (by omega)
    exact ⟨⟨w2, w3⟩, f10.tr w4.fp⟩
  rw [if_pos c6, if_neg (show ¬ ¬ isS tx L (s.1 + 2) 59 = true from fun q => q c6), Option.bind_assoc]
  refine Ok.then (tstep_ok g10 (isS_pos c6).1) ?_
  rintro μ11 ⟨g11, t11⟩
  rw [Option.bind_some, Ok_some]
  refine ⟨⟨g11, ?_, fun i hi => ?_, by show s.2.1 + 1 ≤ 40; omega⟩, f10.tr t11.fp⟩
  · exact (t11.2 3 (by omega)).trans ((t10.2 3 (by omega)).trans k3)
  · exact (congrFun (t11.1 4 (by omega) (by omega)) i).trans ((congrFun (t10.1 4 (by omega) (by omega)) i).trans (k4 i hi))
theorem cpl_ok {s : PlS} (hn : n < 6) (h : CP tx L s μ) (h0 : s.1 = 0) : Ok (loopN (fun s => fX6_readPlan_b6 (n : Int) s.1 s.2) FU (0, μ)) (fun o => OutP tx L (aPlL tx L n (L + 2) s) o ∧ Fp μ o) := by
  refine loop_I (Q := fun o : Mem => OutP tx L (aPlL tx L n (L + 2) s) o ∧ Fp μ o) _ (fun t : Int × Mem => 2000 - t.1.toNat) (fun t : Int × Mem => ∃ v : Nat, t.1 = v ∧ v ≤ 501 ∧ Fp μ t.2 ∧ ((∃ (f : Nat) (u : PlS), 2 * v ≤ u.1 ∧ CP tx L u t.2 ∧ L + 2 ≤ f + u.1 ∧ aPlL tx L n f u = aPlL tx L n (L + 2) s) ∨ ∃ e, CEr tx L e t.2 ∧ (e ≠ 0 ∧ e < 20000) ∧ aPlL tx L n (L + 2) s = .inr e)) ⟨0, rfl, by omega, fun _ _ _ _ => rfl, Or.inl ⟨L + 2, s, by omega, h, by omega, rfl⟩⟩ (by show 2000 - _ < _; omega) ?_
  rintro ⟨t1, ρ⟩ ⟨v, e1, hv, hP, hcase⟩
  dsimp only at e1 hP hcase ⊢
  subst e1
  unfold fX6_readPlan_b6
  rw [w32_n (a := v) (by omega), show w32 1000 = 1000 from by decide, if_pos (by omega)]
  rcases hcase with ⟨f, u, hvu, hu, hf, ha⟩ | ⟨e, hE, he0, ha⟩
  rotate_left
  · have hne : ¬ w32 (ρ 3 1) = 0 := by
      rw [hE.2, w32_n (by omega)]; omega
    rw [if_neg hne, Ok_some]
    refine ⟨?_, hP⟩
    rw [ha]; exact ⟨hE, he0⟩
  have huL := hu.1.2.1.leL
  have hub := hu.1.2.1.b hu.1.1.1.2.2.1
  obtain ⟨f', rfl⟩ : ∃ f', f = f' + 1 := ⟨f - 1, by omega⟩
  rw [aPlL] at ha
  rw [hu.1.2.2, if_pos (show w32 0 = 0 from by decide), is_end hu.1.1]
  by_cases c0 : tK tx L u.1 = 0
  · rw [if_pos c0] at ha
    rw [if_pos (decide_eq_true c0), Ok_some]
    refine ⟨?_, hP⟩
    rw [← ha]; exact hu
  rw [if_neg c0] at ha
  rw [if_neg (by rw [decide_eq_false c0]; decide)]
  refine Ok.then (cturn_ok hn hu) ?_
  rintro ⟨b, ρ2⟩ ⟨hO, hG2⟩
  dsimp only at hO hG2 ⊢
  rw [Ok_some]
  refine ⟨⟨v + 1, by push_cast; rfl, by omega, hP.tr hG2, ?_⟩, by dsimp only; omega⟩
  dsimp only
  cases hst : aTurn tx L n u with
  | inr e =>
    rw [hst] at ha hO
    exact Or.inr ⟨e, hO.1, hO.2, ha.symm⟩
  | inl t =>
    rw [hst] at ha hO
    obtain ⟨k1, k2⟩ := aTurn_g hu.1.2.1 hst
    exact Or.inl ⟨f', t, by omega, hO, by omega, ha⟩
end CPLAN
