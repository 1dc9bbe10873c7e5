/-! ===== level 2: the class reads laws, and a whole griddle ===== -/
section CGRID2
variable {tx : Nat → Nat} {L g : Nat} {μ ν : Mem}
def lwk (g : Nat) (b : Bool) : Nat := if b = true then g + 4 else g + 7
theorem lwk_ok {b : Bool} (hg : gOk g) : kOk (lwk g b) := by
  unfold gOk at hg
  unfold kOk lwk
  rcases hg with rfl | rfl <;> cases b <;> decide
theorem law_c {D : Dr} {b : Bool} (h : DrC g D μ) : LwC (lwk g b) (D.law b) μ := by
  cases b with
  | true => exact h.2.2.2.1
  | false => exact h.2.2.2.2
theorem tell_c {D : Dr} {b : Bool} {c : Cod} (hg : gOk g) (h : DrC g D μ) (e : ∀ x, g ≤ x → x ≤ g + 9 → x ≠ lwk g b → x ≠ lwk g b + 1 → ν x = μ x) (hl : LwC (lwk g b) (some c) ν) : DrC g (D.tell b c) ν := by
  unfold gOk at hg
  obtain ⟨h1, h2, h3, h4, h5⟩ := h
  have hb : lwk g b = g + 4 ∨ lwk g b = g + 7 := by cases b; exact Or.inr rfl; exact Or.inl rfl
  refine ⟨by rw [e g (by omega) (by omega) (by omega) (by omega)]; exact h1, fun i hi => ?_, by rw [e g (by omega) (by omega) (by omega) (by omega)]; exact h3, ?_, ?_⟩
  · rw [e (g + 1) (by omega) (by omega) (by omega) (by omega), e (g + 2) (by omega) (by omega) (by omega) (by omega), e (g + 3) (by omega) (by omega) (by omega) (by omega)]
    exact h2 i hi
  · cases b with
    | true => exact hl
    | false =>
      have hb2 : lwk g false = g + 7 := rfl
      exact h4.same (e _ (by omega) (by omega) (by omega) (by omega)) (e _ (by omega) (by omega) (by omega) (by omega))
  · cases b with
    | false => exact hl
    | true =>
      have hb2 : lwk g true = g + 4 := rfl
      exact h5.same (e _ (by omega) (by omega) (by omega) (by omega)) (e _ (by omega) (by omega) (by omega) (by omega))
theorem claw_ok {j : Nat} {D : Dr} {b : Bool} (hg : gOk g) (h : CG tx L g (j, D) μ) (hj : tSt tx L j < L) : Ok (fX6_readLaw (lwk g b) μ) (fun o => OutG tx L g (aLaw tx L D b j) o.2 ∧ Gf g μ o.2) := by
  obtain ⟨h1, h2, h3, h4, h5⟩ := id h
  dsimp only at h1 h2 h4 h5
  have hL := h1.1.2.2.1
  have hk := lwk_ok (b := b) hg
  have hlw := law_c (b := b) h4
  have hgb := hg
  unfold gOk at hgb
  have hb : lwk g b = g + 4 ∨ lwk g b = g + 7 := by cases b; exact Or.inr rfl; exact Or.inl rfl
  unfold fX6_readLaw aLaw
  simp only [lt]
  cases hlaw : D.law b with
  | some c =>
    rw [hlaw] at hlw
    rw [hlw.1, if_pos (by decide), Ok_some]
    obtain ⟨w1, w2, w3⟩ := gwrong_ok (w := 3) hg h (by omega)
    exact ⟨w2, w3⟩
  | none =>
    rw [hlaw] at hlw
    obtain ⟨l5, l3⟩ := hlw
    rw [l5, if_neg (by decide)]
    unfold fX3_tell
    simp only [lt]
    generalize hμt : upd2 μ (lwk g b) 5 1 = μt
    have et : ∀ x, x ≠ lwk g b → μt x = μ x := fun x q => by rw [← hμt, upd2_ne q]
    have t5 : μt (lwk g b) 5 = 1 := by rw [← hμt, upd2_at]
    have tj : ∀ i, i ≠ 5 → μt (lwk g b) i = μ (lwk g b) i := fun i q => by rw [← hμt, upd2_nj q]
    have hcs : CS tx L (lwk g b) (j, []) μt := by
      refine ⟨?_, h2, by rw [et 3 (by omega)]; exact h3, by rw [tj 3 (by omega)]; exact l3, trivial⟩
      unfold Cur At TX at h1 ⊢
      rw [et 1 (by omega), et 2 (by omega)]; exact h1
    refine Ok.then (cstep_ok hk hcs hj) ?_
    rintro μ3 ⟨c1, c2⟩
    unfold fX6_readWholeC
    have hN := cpartN_ok (tx := tx) hk hL 8 0 (by omega) (by omega)
    rw [show ((0 : Nat) : Int) = 0 from rfl] at hN
    refine Ok.then (cwhole_ok (rpC := fX6_readPartN 8) (d := 0) hk hL hN (aPN_g 8 0) (j + 1, []) μ3 c1 (by show 0 ≤ j + 1; omega)) ?_
    rintro ⟨b4, μ4⟩ ⟨c3, c4⟩
    dsimp only at c3 c4 ⊢
    have hgd := aWhole_g (aPN_g (tx := tx) (L := L) 8 0) (j + 1, []) (h2.next hj)
    -- the frame of all
    have fr : ∀ ν, Pf (lwk g b) μt ν → Gf g μ ν := fun ν hP => ⟨fun x q1 q2 q3 => (hP.1 x q1 q2 (by omega) (by omega)).trans (et x (by omega)), fun i hi => (hP.2.1 i hi).trans (by rw [et 3 (by omega)]), fun i i3 i5 => by
      by_cases q : g + 4 = lwk g b
      · rw [q]; exact (hP.2.2 i i3).trans (tj i i5)
      · rw [hP.1 (g + 4) (by omega) (by omega) q (by omega), et _ q], fun i i3 i5 => by
      by_cases q : g + 7 = lwk g b
      · rw [q]; exact (hP.2.2 i i3).trans (tj i i5)
      · rw [hP.1 (g + 7) (by omega) (by omega) q (by omega), et _ q]⟩
    cases hr : aWhole tx L (aPN tx L 8 0) (j + 1, []) with
    | inr e =>
      rw [hr] at c3 hgd
      obtain ⟨e1, e2⟩ := c3
      dsimp only at e1
      subst e1
      rw [if_neg (by decide), Ok_some]
      exact ⟨⟨e2, hgd.1, hgd.2 hL⟩, fr _ (c2.tr c4)⟩
    | inl t =>
      rw [hr] at c3
      obtain ⟨e1, e2⟩ := c3
      dsimp only at e1 e2
      subst e1
      rw [if_pos rfl, show (59 : Int) = ((59 : Nat) : Int) from rfl]
      refine Ok.then (cskip_ok hk e2 (by omega)) ?_
      rintro ⟨b6, μ6⟩ ⟨c5, c6⟩
      dsimp only at c5 c6 ⊢
      rw [Ok_some]
      have hP := (c2.tr c4).tr c6
      refine ⟨?_, fr _ hP⟩
      by_cases c8 : isS tx L t.1 59 = true
      · rw [if_pos c8] at c5 ⊢
        obtain ⟨-, e6⟩ := c5
        obtain ⟨k1, k2, k3, k4, k5⟩ := e6
        refine ⟨k1, k2, k3, ?_, h5⟩
        exact tell_c (b := b) hg h4 (fun x q1 q2 q3 q4 => (hP.1 x (by omega) (by omega) q3 q4).trans (et x q3)) ⟨(hP.2.2 5 (by omega)).trans t5, k4, k5⟩
      · rw [if_neg c8] at c5 ⊢
        obtain ⟨-, e6⟩ := c5
        exact ⟨e6, er_pos (by omega), er_lt hL (by omega)⟩
/-- what is so of every statement -/
theorem aStm_g {s t : GSt} (hs : Rch tx L s.1) (h : aStm tx L s = .inl t) : s.1 + 2 ≤ t.1 ∧ Rch tx L t.1 := by
  have cake : aCake tx L s.2 s.1 = .inl t → isW tx L s.1 1 = true → s.1 + 2 ≤ t.1 ∧ Rch tx L t.1 := fun h c => by
    unfold aCake at h
    repeat (split at h; · cases h)
    rename_i q1 q2 q3 q4 q5 q6 q7 q8 q9 q10
    cases h
    have r1 := hs.next (isW_pos c).1
    have w1 : isNm tx L (s.1 + 1) = true := by
      by_cases c : isNm tx L (s.1 + 1) = true
      · exact c
      · exact absurd c q2
    unfold isNm at w1
    rw [Bool.and_eq_true, decide_eq_true_eq] at w1
    have r2 := r1.next (tK_pos (tx := tx) (L := L) (j := s.1 + 1) (fun q => by omega))
    have w2 : 8 ≤ wI tx L (s.1 + 2) := by
      by_cases c : 8 ≤ wI tx L (s.1 + 2) ∧ wI tx L (s.1 + 2) ≤ 11
      · exact c.1
      · exact absurd c q4
    have r3 := r2.next (wI_pos (tx := tx) (L := L) (j := s.1 + 2) (by omega))
    have w3 : isW tx L (s.1 + 3) 2 = true := by
      by_cases c : isW tx L (s.1 + 3) 2 = true
      · exact c
      · exact absurd c q5
    have r4 := r3.next (isW_pos w3).1
    have w4 : tK tx L (s.1 + 4) = 2 := by
      by_cases c : tK tx L (s.1 + 4) = 2
      · exact c
      · exact absurd c q6
    have r5 := r4.next (tK_pos (tx := tx) (L := L) (j := s.1 + 4) (fun q => by omega))
    have w5 : wI tx L (s.1 + 5) = 6 ∨ wI tx L (s.1 + 5) = 7 := by
      by_cases c : wI tx L (s.1 + 5) = 6 ∨ wI tx L (s.1 + 5) = 7
      · exact c
      · exact absurd c q9
    have r6 := r5.next (wI_pos (tx := tx) (L := L) (j := s.1 + 5) (by omega))
    have w6 : isS tx L (s.1 + 6) 59 = true := by
      by_cases c : isS tx L (s.1 + 6) 59 = true
      · exact c
      · exact absurd c q10
    have r7 := r6.next (isS_pos w6).1
    exact ⟨by show s.1 + 2 ≤ s.1 + 7; omega, r7⟩
  have law : ∀ b, aLaw tx L s.2 b s.1 = .inl t → tSt tx L s.1 < L → s.1 + 2 ≤ t.1 ∧ Rch tx L t.1 := fun b h hp => by
    unfold aLaw at h
    cases hlaw : s.2.law b with
    | some c => rw [hlaw] at h; cases h
    | none =>
      rw [hlaw] at h
      dsimp only at h
      have hgd := aWhole_g (aPN_g (tx := tx) (L := L) 8 0) (s.1 + 1, []) (hs.next hp)
      cases hr : aWhole tx L (aPN tx L 8 0) (s.1 + 1, []) with
      | inr e => rw [hr] at h; cases h
      | inl u =>
        rw [hr] at h hgd
        dsimp only at h
        obtain ⟨k1, k2, k3, k4⟩ := hgd
        dsimp only at k1
        by_cases c : isS tx L u.1 59 = true
        · rw [if_pos c] at h
          cases h
          exact ⟨by show s.1 + 2 ≤ u.1 + 1; omega, k2.next (isS_pos c).1⟩
        · rw [if_neg c] at h; cases h
  unfold aStm at h
  by_cases c1 : isW tx L s.1 1 = true
  · rw [if_pos c1] at h; exact cake h c1
  rw [if_neg c1] at h
  by_cases c3 : isW tx L s.1 3 = true
  · rw [if_pos c3] at h; exact law _ h (isW_pos c3).1
  rw [if_neg c3] at h
  by_cases c4 : isW tx L s.1 4 = true
  · rw [if_pos c4] at h; exact law _ h (isW_pos c4).1
  · rw [if_neg c4] at h; cases h
theorem cgl_ok {s : GSt} (hg : gOk g) (h : CG tx L g s μ) (h0 : s.1 = 0) : Ok (loopN (fun s => fX6_readGriddle_b10 g s.1 s.2) FU (0, μ)) (fun o => OutG tx L g (aGL tx L (L + 2) s) o ∧ Gf g μ o) := by
  refine loop_I (Q := fun o : Mem => OutG tx L g (aGL tx L (L + 2) s) o ∧ Gf g μ o) _ (fun t : Int × Mem => 2000 - t.1.toNat) (fun t : Int × Mem => ∃ v : Nat, t.1 = v ∧ v ≤ 501 ∧ Gf g μ t.2 ∧ ((∃ (f : Nat) (u : GSt), 2 * v ≤ u.1 ∧ CG tx L g u t.2 ∧ L + 2 ≤ f + u.1 ∧ aGL tx L f u = aGL tx L (L + 2) s) ∨ ∃ e, CEr tx L e t.2 ∧ (e ≠ 0 ∧ e < 20000) ∧ aGL tx L (L + 2) s = .inr e)) ⟨0, rfl, by omega, .rf, Or.inl ⟨L + 2, s, by omega, h, by omega, rfl⟩⟩ (by show 2000 - _ < _; omega) ?_
  rintro ⟨t1, ρ⟩ ⟨v, e1, hv, hP, hcase⟩
  dsimp only at e1 hP hcase ⊢
  subst e1
  unfold fX6_readGriddle_b10
  simp only [lt]
  rw [w32_n (a := v) (by omega), show w32 1000 = 1000 from by decide, if_pos (by omega)]
  rcases hcase with ⟨f, u, hvu, hu, hf, ha⟩ | ⟨e, hE, he0, ha⟩
  rotate_left
  · have hne : ¬ w32 (ρ 3 1) = 0 := by
      rw [hE.2, w32_n (by omega)]; omega
    rw [if_neg hne, Ok_some]
    refine ⟨?_, hP⟩
    rw [ha]; exact ⟨hE, he0⟩
  have huL := hu.2.1.leL
  have hub := hu.2.1.b hu.1.1.2.2.1
  obtain ⟨f', rfl⟩ : ∃ f', f = f' + 1 := ⟨f - 1, by omega⟩
  rw [aGL] at ha
  rw [hu.2.2.1, if_pos (show w32 0 = 0 from by decide), is_end hu.1]
  by_cases c0 : tK tx L u.1 = 0
  · rw [if_pos c0] at ha
    rw [if_pos (decide_eq_true c0), Ok_some]
    refine ⟨?_, hP⟩
    rw [← ha]; exact hu
  rw [if_neg c0] at ha
  rw [if_neg (by rw [decide_eq_false c0]; decide)]
  have hp := tK_pos c0
  have hge := tSt_ge u.1 hp
  -- behind a statement
  have fin : ∀ ρ2 : Mem, OutG tx L g (aStm tx L u) ρ2 → Gf g ρ ρ2 → Ok (some (.inl ((v : Int) + 1, ρ2) : (Int × Mem) ⊕ Mem)) (Sum.elim (fun s2 => (∃ v : Nat, s2.1 = v ∧ v ≤ 501 ∧ Gf g μ s2.2 ∧ ((∃ (f : Nat) (u : GSt), 2 * v ≤ u.1 ∧ CG tx L g u s2.2 ∧ L + 2 ≤ f + u.1 ∧ aGL tx L f u = aGL tx L (L + 2) s) ∨ ∃ e, CEr tx L e s2.2 ∧ (e ≠ 0 ∧ e < 20000) ∧ aGL tx L (L + 2) s = .inr e)) ∧ 2000 - s2.1.toNat < 2000 - ((v : Nat) : Int).toNat) (fun o => OutG tx L g (aGL tx L (L + 2) s) o ∧ Gf g μ o)) := fun ρ2 hO hG2 => by
    rw [Ok_some]
    refine ⟨⟨v + 1, by push_cast; rfl, by omega, hP.tr hG2, ?_⟩, by dsimp only; omega⟩
    dsimp only
    cases hst : aStm tx L u with
    | inr e =>
      rw [hst] at ha hO
      exact Or.inr ⟨e, hO.1, hO.2, ha.symm⟩
    | inl t =>
      rw [hst] at ha hO
      obtain ⟨k1, k2⟩ := aStm_g hu.2.1 hst
      exact Or.inl ⟨f', t, by omega, hO, by omega, ha⟩
  rw [show (1001 : Nat) = 1000 + 1 from rfl, show (1003 : Nat) = 1000 + 3 from rfl, show (1004 : Nat) = 1000 + 4 from rfl, isWord_v hu.1 (by omega), isWord_v hu.1 (by omega), isWord_v hu.1 (by omega), Option.bind_some, Option.bind_some, Option.bind_some]
  by_cases c1 : isW tx L u.1 1 = true
  · have hs : aStm tx L u = aCake tx L u.2 u.1 := by unfold aStm; rw [if_pos c1]
    rw [if_pos c1]
    refine Ok.then (ccake_ok (D := u.2) hg hu hp) ?_
    rintro ⟨b, ρ2⟩ ⟨g1, g2⟩
    exact fin ρ2 (by rw [hs]; exact g1) g2
  rw [if_neg c1]
  by_cases c3 : isW tx L u.1 3 = true
  · have hs : aStm tx L u = aLaw tx L u.2 true u.1 := by unfold aStm; rw [if_neg c1, if_pos c3]
    rw [if_pos c3]
    refine Ok.then (claw_ok (D := u.2) (b := true) hg hu hp) ?_
    rintro ⟨b, ρ2⟩ ⟨g1, g2⟩
    exact fin ρ2 (by rw [hs]; exact g1) g2
  rw [if_neg c3]
  by_cases c4 : isW tx L u.1 4 = true
  · have hs : aStm tx L u = aLaw tx L u.2 false u.1 := by unfold aStm; rw [if_neg c1, if_neg c3, if_pos c4]
    rw [if_pos c4]
    refine Ok.then (claw_ok (D := u.2) (b := false) hg hu hp) ?_
    rintro ⟨b, ρ2⟩ ⟨g1, g2⟩
    exact fin ρ2 (by rw [hs]; exact g1) g2
  · have hs : aStm tx L u = .inr (er tx L 1 u.1) := by unfold aStm; rw [if_neg c1, if_neg c3, if_neg c4]
    rw [if_neg c4]
    obtain ⟨w1, w2, w3⟩ := gwrong_ok (D := u.2) (w := 1) hg hu (by omega)
    exact fin _ (by rw [hs]; exact w2) w3
end CGRID2
