/-! ===== level 2: the class's wish ===== -/
section CWISH2
variable {tx : Nat → Nat} {L n g : Nat} {nm : Nat → List Nat} {μ ν : Mem} {kd wd : Nat → Nat} {BE CE : LawF}
theorem aWsL_o (hn : n < 6) : ∀ f (s t : WSt), WO n s → s.2.1 + f ≤ n → aWsL tx L n nm f s = .inl t → WO n t ∧ t.2.1 = s.2.1 + f
  | 0, s, t, h, _, ht => by cases ht; exact ⟨h, rfl⟩
  | f + 1, s, t, h, hf, ht => by
    unfold aWsL at ht
    cases hst : aWish1 tx L n nm s with
    | inr e => rw [hst] at ht; cases ht
    | inl u =>
      rw [hst] at ht
      obtain ⟨h1, h2⟩ := aWish1_o hn (by omega) h hst
      obtain ⟨h3, h4⟩ := aWsL_o hn f u t h1 (by omega) ht
      exact ⟨h3, by omega⟩
theorem WO.zero : WO n (0, 0, fun _ => 0, 0, 0) := ⟨Nat.zero_le _, by show 0 < 64; omega, by show 0 < 64; omega, fun m hm => absurd hm (Nat.not_lt_zero m), fun a b ha _ _ => absurd ha (Nat.not_lt_zero a), fun k hk => hk⟩
theorem cws_ok (hn : n < 6) (hgo : gOk g) (hg0 : μ g 0 = n) (hgr : ∀ i, i < n → μ (g + 1) i = (pkW 32 (nm i) : Int)) (hNm : NmO n nm) (h : CWs tx L n (0, 0, fun _ => 0, 0, 0) μ) : Ok (loopN (fun s => fX6_readWish_b8 g s.1 s.2.1 s.2.2) FU (0, 0, μ)) (fun o => Fp μ o ∧ match aWsL tx L n nm n (0, 0, fun _ => 0, 0, 0) with
    | .inl t => CWs tx L n t o
    | .inr e => CEr tx L e o ∧ e ≠ 0 ∧ e < 20000) := by
  have hgb := hgo
  unfold gOk at hgb
  generalize hR : aWsL tx L n nm n (0, 0, fun _ => 0, 0, 0) = R
  refine loop_I (Q := fun o : Mem => Fp μ o ∧ match (generalizing := false) R with
    | .inl t => CWs tx L n t o
    | .inr e => CEr tx L e o ∧ e ≠ 0 ∧ e < 20000) ((0 : Int), (0 : Int), μ) (fun t : Int × Int × Mem => 10 - t.2.1.toNat) (fun t : Int × Int × Mem => ∃ i : Nat, t.2.1 = i ∧ i ≤ n ∧ Fp μ t.2.2 ∧ ((∃ u : WSt, u.2.1 = i ∧ t.1 = u.2.2.2.1 ∧ CWs tx L n u t.2.2 ∧ aWsL tx L n nm (n - i) u = R) ∨ ∃ e, CEr tx L e t.2.2 ∧ (e ≠ 0 ∧ e < 20000) ∧ R = .inr e)) (by exact ⟨0, rfl, Nat.zero_le _, fun _ _ _ _ => rfl, Or.inl ⟨(0, 0, fun _ => 0, 0, 0), rfl, rfl, h, hR⟩⟩) (by show 10 - _ < _; omega) ?_
  rintro ⟨v2, v3, ρ⟩ ⟨i, e1, hi, hP, hcase⟩
  dsimp only at e1 hP hcase ⊢
  subst e1
  have eg : ρ g = μ g := hP g (by omega) (by omega) (by omega)
  have eg1 : ρ (g + 1) = μ (g + 1) := hP _ (by omega) (by omega) (by omega)
  unfold fX6_readWish_b8
  rw [eg, hg0, w32_n (a := i) (by omega), w32_n (a := n) (by omega)]
  rcases hcase with ⟨u, rfl, rfl, hu, ha⟩ | ⟨e, hE, he0, ha⟩
  rotate_left
  · have hne : ¬ w32 (ρ 3 1) = 0 := by
      rw [hE.2, w32_n (by omega)]; omega
    have hq : Ok (some (.inr ρ : (Int × Int × Mem) ⊕ Mem)) (Sum.elim (fun s2 => (∃ i : Nat, s2.2.1 = i ∧ i ≤ n ∧ Fp μ s2.2.2 ∧ ((∃ u : WSt, u.2.1 = i ∧ s2.1 = u.2.2.2.1 ∧ CWs tx L n u s2.2.2 ∧ aWsL tx L n nm (n - i) u = R) ∨ ∃ e, CEr tx L e s2.2.2 ∧ (e ≠ 0 ∧ e < 20000) ∧ R = .inr e)) ∧ 10 - s2.2.1.toNat < 10 - ((i : Nat) : Int).toNat) (fun o : Mem => Fp μ o ∧ match (generalizing := false) R with
      | .inl t => CWs tx L n t o
      | .inr e => CEr tx L e o ∧ e ≠ 0 ∧ e < 20000)) := by
      rw [Ok_some, ha]
      exact ⟨hP, hE, he0⟩
    by_cases c : (i : Int) < n
    · rw [if_pos c, if_neg hne]; exact hq
    · rw [if_neg c]; exact hq
  by_cases hin : u.2.1 = n
  · rw [if_neg (by omega), Ok_some]
    rw [hin, Nat.sub_self] at ha
    rw [← ha]
    exact ⟨hP, hu⟩
  have hlt : u.2.1 < n := by omega
  rw [if_pos (by omega), if_pos (show w32 (ρ 3 1) = 0 by rw [hu.1.2.2]; decide)]
  obtain ⟨f', hf'⟩ : ∃ f', n - u.2.1 = f' + 1 := ⟨n - u.2.1 - 1, by omega⟩
  rw [hf', aWsL] at ha
  refine Ok.then (cwished_ok hn hgo (by rw [eg]; exact hg0) (fun k hk => by rw [eg1]; exact hgr k hk) hNm hu hlt) ?_
  rintro ⟨b, ρ2⟩ ⟨hF, hO⟩
  dsimp only at hF hO ⊢
  simp only [lt]
  rw [Ok_some]
  refine ⟨⟨u.2.1 + 1, by push_cast; rfl, by omega, hP.tr hF, ?_⟩, by dsimp only; omega⟩
  dsimp only
  cases hst : aWish1 tx L n nm u with
  | inr e =>
    rw [hst] at ha hO
    exact Or.inr ⟨e, hO.1, hO.2, ha.symm⟩
  | inl t =>
    rw [hst] at ha hO
    obtain ⟨k1, k2⟩ := aWish1_o hn hlt hu.2.2.2.2 hst
    exact Or.inl ⟨t, k2, hO.1, hO.2, by rw [show n - (u.2.1 + 1) = f' by omega]; exact ha⟩
theorem cwish_ok {told : Nat} (hn : n < 6) (h02 : μ 0 2 = told) (hG : Gc told n kd wd μ) (hT : Tb kd wd n BE CE μ) (hgr : ∀ i, i < n → μ (told + 1) i = (pkW 32 (nm i) : Int)) (hNm : NmO n nm) (hO : TxO L tx) (hTx : TxC L tx μ) : Ok (fX11_wish μ) (fun o => o.2 1 1 = 0 ∧ (∀ x, x ≠ 0 → x ≠ 1 → x ≠ 3 → x ≠ 4 → o.2 x = μ x) ∧ (∀ j, j ≠ 6 → o.2 0 j = μ 0 j) ∧ match aWish tx L n nm with
    | .inr e => o.1 = (e : Int) ∧ o.2 0 6 = μ 0 6
    | .inl s => o.1 = 0 ∧ s.2.1 = n ∧ WO n s ∧ ∃ r, r < fac n ∧ (∀ i, i < n → pA n r i = s.2.2.1 i) ∧ o.2 0 6 = (cd kd n r (fun k => s.2.2.2.2.testBit k) : Int)) := by
  have hto := hG.1
  have hgo : gOk told := hto
  unfold fX11_wish fX6_readWish fX6_begin
  simp only [lt]
  rw [h02, gd_pos (by omega), Int.toNat_natCast]
  generalize h2 : upd2 (upd2 (upd2 μ 3 1 0) 3 3 0) 3 4 0 = μ2
  have x2 : ∀ x, x ≠ 3 → μ2 x = μ x := fun x q => by rw [← h2, upd2_ne q, upd2_ne q, upd2_ne q]
  have e31 : μ2 3 1 = 0 := by rw [← h2, upd2_nj (by omega), upd2_nj (by omega), upd2_at]
  have e33 : μ2 3 3 = 0 := by rw [← h2, upd2_nj (by omega), upd2_at]
  have e34 : μ2 3 4 = 0 := by rw [← h2, upd2_at]
  have hTX : TX tx L μ2 := ⟨by rw [x2 1 (by omega)]; exact hTx.1, fun i hi => by rw [x2 2 (by omega)]; exact hTx.2 i hi, hO⟩
  rw [Option.bind_assoc, Option.bind_assoc]
  refine Ok.then (rewind_ok hTX) ?_
  rintro μ3 ⟨hC, hTf⟩
  rw [Option.bind_some, Option.bind_assoc]
  have x3 : ∀ x, x ≠ 1 → x ≠ 3 → μ3 x = μ x := fun x q1 q3 => (hTf x q1).trans (x2 x q3)
  have hCW : CWs tx L n (0, 0, fun _ => 0, 0, 0) μ3 := ⟨⟨hC, fun i hi => absurd hi (Nat.not_lt_zero i), (congrFun (hTf 3 (by omega)) 1).trans e31⟩, (congrFun (hTf 3 (by omega)) 3).trans e33, fun i hi => absurd hi (Nat.not_lt_zero i), (congrFun (hTf 3 (by omega)) 4).trans e34, WO.zero⟩
  refine Ok.then (cws_ok hn hgo (by rw [x3 told (by omega) (by omega)]; exact hG.2.2.2.1) (fun i hi => by rw [x3 (told + 1) (by omega) (by omega)]; exact hgr i hi) hNm hCW) ?_
  rintro θ ⟨hF, hm⟩
  have fx : ∀ x, x ≠ 1 → x ≠ 3 → x ≠ 4 → θ x = μ x := fun x q1 q3 q4 => (hF x q1 q3 q4).trans (x3 x q1 q3)
  -- a fault, whatever stands there
  have bad : ∀ (θ2 : Mem) (e : Nat), (∀ x, x ≠ 1 → x ≠ 3 → x ≠ 4 → θ2 x = μ x) → θ2 3 1 = e → (e ≠ 0 ∧ e < 20000) → Ok (if w32 ((upd2 θ2 1 1 0) 3 1) = 0 then (fX7_stackOf 4 ((upd2 θ2 1 1 0) 3 4) (upd2 θ2 1 1 0)).bind fun v5 => some (((upd2 θ2 1 1 0) 3 1), upd2 (upd2 θ2 1 1 0) 0 6 v5) else some (((upd2 θ2 1 1 0) 3 1), upd2 θ2 1 1 0)) (fun o => o.2 1 1 = 0 ∧ (∀ x, x ≠ 0 → x ≠ 1 → x ≠ 3 → x ≠ 4 → o.2 x = μ x) ∧ (∀ j, j ≠ 6 → o.2 0 j = μ 0 j) ∧ o.1 = (e : Int) ∧ o.2 0 6 = μ 0 6) := fun θ2 e f2 h31 he => by
    have e3 : upd2 θ2 1 1 0 3 1 = e := by rw [upd2_ne (by omega)]; exact h31
    have e0 : upd2 θ2 1 1 0 0 = μ 0 := by rw [upd2_ne (by omega)]; exact f2 0 (by omega) (by omega) (by omega)
    rw [e3, w32_n (by omega), if_neg (by omega), Ok_some]
    exact ⟨(by show upd2 θ2 1 1 0 1 1 = 0; exact upd2_at), fun x q0 q1 q3 q4 => (by show upd2 θ2 1 1 0 x = μ x; rw [upd2_ne q1]; exact f2 x q1 q3 q4), fun j _ => congrFun e0 j, rfl, congrFun e0 6⟩
  unfold fX6_readWish_j38 fX6_finish fX9_clear
  simp only [lt]
  unfold aWish
  cases hr : aWsL tx L n nm n (0, 0, fun _ => 0, 0, 0) with
  | inr e =>
    rw [hr] at hm
    obtain ⟨⟨-, h31⟩, he⟩ := hm
    dsimp only
    by_cases c : fX9_is 101 θ = true
    · rw [if_pos c, Option.bind_some]
      exact bad θ e fx h31 he
    · have hw : fX6_wrong 1 θ = (false, θ) := by
        unfold fX6_wrong
        rw [h31, if_neg (by rw [w32_n (by omega)]; omega)]
      rw [if_neg c, hw, Option.bind_some]
      exact bad θ e fx h31 he
  | inl s =>
    rw [hr] at hm
    obtain ⟨hS1, hS3, hS4, hSU, hSO⟩ := hm
    have hsn := (aWsL_o (tx := tx) (L := L) (nm := nm) hn n _ s WO.zero (by show 0 + n ≤ n; omega) hr).2
    have hsn' : s.2.1 = n := by rw [hsn]; show 0 + n = n; omega
    rw [is_end hS1.1]
    dsimp only
    by_cases c : tK tx L s.1 = 0
    rotate_left
    · rw [if_neg (show ¬ decide (tK tx L s.1 = 0) = true by rw [decide_eq_false c]; decide), if_neg c, Option.bind_some]
      obtain ⟨w1, ⟨w2, w3⟩, w4, w5⟩ := twrong_ok (w := 1) hS1 (by omega)
      exact bad _ _ (fun x q1 q3 q4 => (w5.1 x q1 q3).trans (fx x q1 q3 q4)) w3 w4
    · rw [if_pos (show decide (tK tx L s.1 = 0) = true by exact decide_eq_true c), if_pos c, Option.bind_some]
      generalize hω : upd2 θ 1 1 0 = ω
      have y : ∀ x, x ≠ 1 → ω x = θ x := fun x q => by rw [← hω, upd2_ne q]
      have y1 : ω 1 1 = 0 := by rw [← hω, upd2_at]
      have z31 : ω 3 1 = 0 := (congrFun (y 3 (by omega)) 1).trans hS1.2.2
      have z34 : ω 3 4 = s.2.2.2.2 := (congrFun (y 3 (by omega)) 4).trans hSU
      have zx : ∀ x, x ≠ 1 → x ≠ 3 → x ≠ 4 → ω x = μ x := fun x q1 q3 q4 => (y x q1).trans (fx x q1 q3 q4)
      obtain ⟨r, hr1, hr2⟩ := perm_all (p := s.2.2.1) hn (fun i hi => (hSO.2.2.2.1 i (by omega)).1) (fun i j hi hj e => hSO.2.2.2.2.1 i j (by omega) (by omega) e)
      have hT2 := hT.of2 (ν := ω) (fun j _ => congrFun (zx 25 (by omega) (by omega) (by omega)) j) (fun x q1 q2 q3 => zx x (by omega) (by omega) (by omega))
      have hUb := hSO.2.2.1
      have hst := stackOf_ok (row := 4) (L := 40) (ups := s.2.2.2.2) (r := r) hn hT2.1 hT2.2.1 (by omega) rfl (by omega) (by omega) hr1 (fun i hi => by rw [y 4 (by omega), hS4 i (by omega), hr2 i hi])
      rw [z31]
      dsimp only
      rw [show w32 0 = 0 from by decide, if_pos rfl, z34, hst, Option.bind_some, Ok_some]
      refine ⟨?_, fun x q0 q1 q3 q4 => ?_, fun j hj => ?_, rfl, hsn', hSO, r, hr1, hr2, ?_⟩
      · show upd2 ω 0 6 (cd kd n r (fun k => s.2.2.2.2.testBit k) : Int) 1 1 = 0
        rw [upd2_ne (by omega)]; exact y1
      · show upd2 ω 0 6 (cd kd n r (fun k => s.2.2.2.2.testBit k) : Int) x = μ x
        rw [upd2_ne q0]; exact zx x q1 q3 q4
      · show upd2 ω 0 6 (cd kd n r (fun k => s.2.2.2.2.testBit k) : Int) 0 j = μ 0 j
        rw [upd2_nj hj]; exact congrFun (zx 0 (by omega) (by omega) (by omega)) j
      · show upd2 ω 0 6 (cd kd n r (fun k => s.2.2.2.2.testBit k) : Int) 0 6 = (cd kd n r (fun k => s.2.2.2.2.testBit k) : Int)
        exact upd2_at
end CWISH2
