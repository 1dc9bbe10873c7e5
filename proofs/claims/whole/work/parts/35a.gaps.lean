/-! ===== level 2: the stack's number, its pairs, its gaps ===== -/
section GAPS
variable {n g told : Nat} {kd wd : Nat → Nat} {BE CE : LawF} {μ ν : Mem} {c : Nat}
theorem in_c {i : Nat} (hn : n < 6) (hT : Tb kd wd n BE CE μ) (hc : c < NN kd n) (hi : i < n) : fX7_cakeIn (c : Int) (i : Int) μ = (pA n (c / 2 ^ ix kd n) i : Int) := by
  rw [cakeIn_ok hn hT hc ⟨by omega, by omega⟩]
  unfold thI
  rw [if_pos (by omega), Int.toNat_natCast]
theorem side_c {k : Nat} (hn : n < 6) (hG : Gc told n kd wd μ) (hk : k < n) : fX2_hasSide told (k : Int) μ = sd kd k := hasSide_ok hG.1 (by omega) (hG.2.2.2.2.1 k hk)
theorem rank_c {k : Nat} (hn : n < 6) (hG : Gc told n kd wd μ) (hk : k < n) : fX2_rankOf told (k : Int) μ = some (rk wd n k : Int) := rankOf_ok hG.1 hn hG.2.2.2.1 hG.2.2.2.2.2 hk
theorem nth_ok (hn : n < 6) (hG : Gc told n kd wd μ) (hT : Tb kd wd n BE CE μ) (hc : c < NN kd n) (h41 : μ 41 1 = c) : fX11_nth μ = some (nu kd n c : Int) := by
  have hN := NN_le (kd := kd) hn
  have hd := div_lt (kd := kd) hc
  have hto := hG.1
  have hx := ix_le (kd := kd) (k := n)
  unfold fX11_nth
  apply Ok_val
  refine Ok.bind ?_
  unfold fX7_numberOf
  simp only [lt]
  rw [h41, hT.2.1.1, i_shr_n (by omega) (by omega)]
  refine Ok.bind ?_
  refine loop_FU n (fun (i : Nat) (s : Int × Int) => s.1 = (nuL kd (pA n (c / 2 ^ ix kd n)) (uC kd c) (c / 2 ^ ix kd n) i : Int) ∧ s.2 = (i : Int)) 0 ⟨rfl, rfl⟩ (by omega) (by omega) ?_ ?_
  · rintro i ⟨x, y⟩ hi ⟨e1, e2⟩
    dsimp only at e1 e2 ⊢
    subst e1 e2
    have hpb := pA_lt hn hd hi
    unfold fX7_numberOf_b9
    simp only [lt]
    rw [hT.1, w32_n (a := i) (by omega), w32_n (a := n) (by omega), if_pos (by omega), in_c hn hT hc hi, hG.2.1, gd_pos (by omega), Int.toNat_natCast, side_c hn hG hpb, isUp_ok hn hT hc hpb]
    by_cases hs : sd kd (pA n (c / 2 ^ ix kd n) i) = true
    · rw [if_pos hs, Ok_some]
      refine ⟨?_, by push_cast; rfl⟩
      dsimp only
      rw [nuL, if_pos hs]
      cases uC kd c (pA n (c / 2 ^ ix kd n) i) <;> push_cast <;> simp <;> omega
    · rw [if_neg hs, Ok_some]
      refine ⟨?_, by push_cast; rfl⟩
      dsimp only
      rw [nuL, if_neg hs]
  · rintro ⟨x, y⟩ ⟨e1, e2⟩
    dsimp only at e1 e2 ⊢
    subst e1 e2
    unfold fX7_numberOf_b9
    rw [hT.1, w32_n (a := n) (by omega), if_neg (by omega), Ok_some]
    show Ok _ _
    rw [Ok_some]
    show Ok _ _
    rw [Ok_some]
    rfl
theorem nth_r (h88 : μ 88 0 = nu kd n c) : (fX12_nth μ).1 = (nu kd n c : Int) ∧ (fX12_nth μ).2 = upd2 μ 75 0 0 := by
  unfold fX12_nth
  simp only [lt]
  rw [upd2_ne (by omega)]
  exact ⟨h88, trivial⟩
/-- the pairs from place i -/
def prN (kd wd : Nat → Nat) (n c i : Nat) : Nat := cn n (fun j => decide (i < j) && decide (wd (pA n (c / 2 ^ ix kd n) j) < wd (pA n (c / 2 ^ ix kd n) i)))
def prI (kd wd : Nat → Nat) (n c m : Nat) : Nat := sm m (prN kd wd n c)
theorem prI_b {m : Nat} : prI kd wd n c m ≤ m * n := by
  unfold prI
  induction m with
  | zero => exact Nat.zero_le _
  | succ m ih =>
    have : prN kd wd n c m ≤ n := cn_le
    rw [sm, Nat.succ_mul]; omega
theorem cn_from {i : Nat} {p : Nat → Bool} : cn (i + 1) (fun j => decide (i < j) && p j) = 0 := cn_none (fun j hj => by rw [decide_eq_false (by omega)]; rfl)
theorem pairs_ok (hn : n < 6) (hG : Gc told n kd wd μ) (hT : Tb kd wd n BE CE μ) (hc : c < NN kd n) (h41 : μ 41 1 = c) : fX11_pairs μ = some (prI kd wd n c n : Int) := by
  have hN := NN_le (kd := kd) hn
  have hd := div_lt (kd := kd) hc
  have hto := hG.1
  have al3 := al_G3 hto
  have hwv : ∀ i, i < n → fX11_at (told + 3) (fX7_cakeIn (c : Int) (i : Int) μ) μ = (wd (pA n (c / 2 ^ ix kd n) i) : Int) ∧ wd (pA n (c / 2 ^ ix kd n) i) < 31 := fun i hi => by
    have hpb := pA_lt hn hd hi
    rw [in_c hn hT hc hi, at_n _ rfl al3 (by omega) (by omega)]
    exact hG.2.2.2.2.2 _ hpb
  unfold fX11_pairs
  apply Ok_val
  refine Ok.bind ?_
  unfold fX7_pairsIn
  rw [h41]
  refine Ok.bind ?_
  refine loop_FU n (fun (i : Nat) (s : Int × Int) => s.1 = (prI kd wd n c i : Int) ∧ s.2 = (i : Int)) 0 ⟨rfl, rfl⟩ (by omega) (by omega) ?_ ?_
  · rintro i ⟨x, y⟩ hi ⟨e1, e2⟩
    dsimp only at e1 e2 ⊢
    subst e1 e2
    have hpr : prI kd wd n c (i + 1) = prI kd wd n c i + prN kd wd n c i := rfl
    unfold fX7_pairsIn_b4
    simp only [lt]
    rw [hT.1, w32_n (a := i) (by omega), w32_n (a := n) (by omega), if_pos (by omega)]
    refine Ok.then (loop_FU (Q := fun o : Int => o = (prI kd wd n c (i + 1) : Int)) n (fun (j : Nat) (s : Int × Int) => i < j ∧ s.1 = ((prI kd wd n c i + cn j (fun j => decide (i < j) && decide (wd (pA n (c / 2 ^ ix kd n) j) < wd (pA n (c / 2 ^ ix kd n) i))) : Nat) : Int) ∧ s.2 = (j : Int)) (i + 1) ⟨by omega, by dsimp only; rw [cn_from]; rfl, by push_cast; rfl⟩ (by omega) (by omega) ?_ ?_) ?_
    · rintro j ⟨x, y⟩ hj ⟨hij, e1, e2⟩
      dsimp only at e1 e2 ⊢
      subst e1 e2
      unfold fX7_pairsIn_b17
      simp only [lt]
      obtain ⟨v1, b1⟩ := hwv i hi
      obtain ⟨v2, b2⟩ := hwv j hj
      rw [hT.1, w32_n (a := j) (by omega), w32_n (a := n) (by omega), if_pos (by omega), hG.2.1, gd_pos (by omega), gd_pos (by omega), Int.toNat_natCast, v1, v2, w32_n (by omega), w32_n (by omega), Ok_some]
      refine ⟨by omega, ?_, by push_cast; rfl⟩
      dsimp only
      rw [cn_succ, decide_eq_true hij, Bool.true_and]
      by_cases e : wd (pA n (c / 2 ^ ix kd n) j) < wd (pA n (c / 2 ^ ix kd n) i)
      · rw [if_pos (by omega), if_pos (decide_eq_true e)]; push_cast; omega
      · rw [if_neg (by omega), if_neg (by rw [decide_eq_false e]; decide)]; push_cast; omega
    · rintro ⟨x, y⟩ ⟨hij, e1, e2⟩
      dsimp only at e1 e2 ⊢
      subst e1 e2
      unfold fX7_pairsIn_b17
      rw [hT.1, w32_n (a := n) (by omega), if_neg (by omega), Ok_some]
      rfl
    · intro o ho
      rw [Ok_some]
      exact ⟨ho, by push_cast; rfl⟩
  · rintro ⟨x, y⟩ ⟨e1, e2⟩
    dsimp only at e1 e2 ⊢
    subst e1 e2
    unfold fX7_pairsIn_b4
    rw [hT.1, w32_n (a := n) (by omega), if_neg (by omega), Ok_some]
    show Ok _ _
    rw [Ok_some]
    show Ok _ _
    rw [Ok_some]
theorem pairs_r (h : Rr kd wd n BE CE g μ) (hc : c < NN kd n) (h88 : μ 88 0 = nu kd n c) : Ok (fX12_pairs μ) (fun o => o.1 = (prI kd wd n c n : Int) ∧ Dk (upd2 μ 75 0 0) o.2) := by
  have hn := h.1.1
  have hd := div_lt (kd := kd) hc
  unfold fX12_pairs
  simp only [lt]
  rw [upd2_ne (by omega), h88]
  refine Ok.then (h.put.lay hc) ?_
  rintro θ ⟨gL, gD⟩
  have hθ := (h.put.dk gD).2.1
  refine Ok.bind ?_
  refine loop_FU n (fun (i : Nat) (s : Int × Int × Mem) => s.1 = (prI kd wd n c i : Int) ∧ s.2.1 = (i : Int) ∧ s.2.2 = θ) 0 ⟨rfl, rfl, rfl⟩ (by omega) (by omega) ?_ ?_
  · rintro i ⟨x, y, ρ⟩ hi ⟨e1, e2, e3⟩
    dsimp only at e1 e2 e3 ⊢
    subst e1 e2 e3
    unfold fX12_pairs_b19
    simp only [lt]
    rw [hθ.1, w32_n (a := i) (by omega), w32_n (a := n) (by omega), if_pos (by omega)]
    refine Ok.then (loop_FU (Q := fun o : Int × Mem => o.1 = (prI kd wd n c (i + 1) : Int) ∧ o.2 = ρ) n (fun (j : Nat) (s : Int × Int × Mem) => i < j ∧ s.1 = ((prI kd wd n c i + cn j (fun j => decide (i < j) && decide (wd (pA n (c / 2 ^ ix kd n) j) < wd (pA n (c / 2 ^ ix kd n) i))) : Nat) : Int) ∧ s.2.1 = (j : Int) ∧ s.2.2 = ρ) (i + 1) ⟨by omega, by dsimp only; rw [cn_from]; rfl, by push_cast; rfl, rfl⟩ (by omega) (by omega) ?_ ?_) ?_
    · rintro j ⟨x, y, σ⟩ hj ⟨hij, e1, e2, e3⟩
      dsimp only at e1 e2 e3 ⊢
      subst e1 e2 e3
      have p1 := pA_lt hn hd hi
      have p2 := pA_lt hn hd hj
      have b1 := (hθ.2 _ p1).2.2.2
      have b2 := (hθ.2 _ p2).2.2.2
      unfold fX12_pairs_b31
      simp only [lt]
      rw [hθ.1, w32_n (a := j) (by omega), w32_n (a := n) (by omega), if_pos (by omega), gd_pos (by omega), Int.toNat_natCast, gL.1 j hj, wide_r hn hθ p2, Option.bind_some, w32_n (a := i) (by omega), gd_pos (by omega), Int.toNat_natCast, gL.1 i hi, wide_r hn hθ p1, Option.bind_some, w32_n (by omega), w32_n (by omega), Ok_some]
      refine ⟨by omega, ?_, by push_cast; rfl, rfl⟩
      dsimp only
      rw [cn_succ, decide_eq_true hij, Bool.true_and]
      by_cases e : wd (pA n (c / 2 ^ ix kd n) j) < wd (pA n (c / 2 ^ ix kd n) i)
      · rw [if_pos (by omega), if_pos (decide_eq_true e)]; push_cast; omega
      · rw [if_neg (by omega), if_neg (by rw [decide_eq_false e]; decide)]; push_cast; omega
    · rintro ⟨x, y, σ⟩ ⟨hij, e1, e2, e3⟩
      dsimp only at e1 e2 e3 ⊢
      subst e1 e2 e3
      unfold fX12_pairs_b31
      rw [hθ.1, w32_n (a := n) (by omega), if_neg (by omega), Ok_some]
      exact ⟨rfl, rfl⟩
    · rintro ⟨o, σ⟩ ⟨e1, e2⟩
      dsimp only at e1 e2 ⊢
      rw [Ok_some]
      exact ⟨e1, by push_cast; rfl, e2⟩
  · rintro ⟨x, y, ρ⟩ ⟨e1, e2, e3⟩
    dsimp only at e1 e2 e3 ⊢
    subst e1 e2 e3
    unfold fX12_pairs_b19
    rw [hθ.1, w32_n (a := n) (by omega), if_neg (by omega), Ok_some]
    show Ok _ _
    rw [Ok_some]
    exact ⟨rfl, gD⟩
/-- may a cake lie so -/
def myB (kd : Nat → Nat) (c k : Nat) (u : Bool) : Bool := if sd kd k = true then uC kd c k == u else true
def gpB (kd wd : Nat → Nat) (n c i : Nat) : Bool :=
  if i + 1 < n then !((decide (rk wd n (pA n (c / 2 ^ ix kd n) (i + 1)) = rk wd n (pA n (c / 2 ^ ix kd n) i) + 1) && (myB kd c (pA n (c / 2 ^ ix kd n) i) false && myB kd c (pA n (c / 2 ^ ix kd n) (i + 1)) false)) || (decide (rk wd n (pA n (c / 2 ^ ix kd n) i) = rk wd n (pA n (c / 2 ^ ix kd n) (i + 1)) + 1) && (myB kd c (pA n (c / 2 ^ ix kd n) i) true && myB kd c (pA n (c / 2 ^ ix kd n) (i + 1)) true)))
  else !(decide (rk wd n (pA n (c / 2 ^ ix kd n) i) + 1 = n) && myB kd c (pA n (c / 2 ^ ix kd n) i) false)
def gpN (kd wd : Nat → Nat) (n c : Nat) : Nat := cn n (gpB kd wd n c)
theorem gpB_in {i : Nat} (hl : i + 1 < n) : gpB kd wd n c i = !((decide (rk wd n (pA n (c / 2 ^ ix kd n) (i + 1)) = rk wd n (pA n (c / 2 ^ ix kd n) i) + 1) && (myB kd c (pA n (c / 2 ^ ix kd n) i) false && myB kd c (pA n (c / 2 ^ ix kd n) (i + 1)) false)) || (decide (rk wd n (pA n (c / 2 ^ ix kd n) i) = rk wd n (pA n (c / 2 ^ ix kd n) (i + 1)) + 1) && (myB kd c (pA n (c / 2 ^ ix kd n) i) true && myB kd c (pA n (c / 2 ^ ix kd n) (i + 1)) true))) := by
  unfold gpB
  rw [if_pos hl]
theorem gpB_last {i : Nat} (hl : ¬ i + 1 < n) : gpB kd wd n c i = !(decide (rk wd n (pA n (c / 2 ^ ix kd n) i) + 1 = n) && myB kd c (pA n (c / 2 ^ ix kd n) i) false) := by
  unfold gpB
  rw [if_neg hl]
theorem may_ok {k : Nat} {u : Bool} (hn : n < 6) (hG : Gc told n kd wd μ) (hT : Tb kd wd n BE CE μ) (hc : c < NN kd n) (hk : k < n) : fX7_mayLie (c : Int) (k : Int) u μ = some (myB kd c k u) := by
  have hto := hG.1
  unfold fX7_mayLie myB
  simp only [lt]
  rw [hG.2.1, gd_pos (by omega), Int.toNat_natCast, side_c hn hG hk, isUp_ok hn hT hc hk, b2i_eq]
theorem gap_ok {i : Nat} (hn : n < 6) (hG : Gc told n kd wd μ) (hT : Tb kd wd n BE CE μ) (hc : c < NN kd n) (hi : i < n) : fX7_isGap (c : Int) (i : Int) μ = some (gpB kd wd n c i) := by
  have hto := hG.1
  have hd := div_lt (kd := kd) hc
  have p1 := pA_lt hn hd hi
  have r1 := rk_lt (wd := wd) p1
  have ei : (i : Int) + 1 = ((i + 1 : Nat) : Int) := by push_cast; rfl
  unfold fX7_isGap
  simp only [lt]
  rw [in_c hn hT hc hi, hG.2.1, gd_pos (by omega), Int.toNat_natCast, rank_c hn hG p1, Option.bind_some, hT.1, ei, w32_n (a := i + 1) (by omega), w32_n (a := n) (by omega)]
  unfold gpB
  by_cases hl : i + 1 < n
  · have p2 := pA_lt hn hd hl
    have r2 := rk_lt (wd := wd) p2
    rw [if_pos (by omega), if_pos hl, gd_pos (by omega), in_c hn hT hc hl, rank_c hn hG p2, Option.bind_some]
    generalize hA : pA n (c / 2 ^ ix kd n) i = A at p1 r1 ⊢
    generalize hB : pA n (c / 2 ^ ix kd n) (i + 1) = B at p2 r2 ⊢
    rw [w32_n (a := rk wd n B) (by omega), w32_eq (x := (rk wd n A : Int) - 1) (by omega) (by omega), w32_eq (x := (rk wd n A : Int) + 1) (by omega) (by omega)]
    by_cases u1 : rk wd n A = rk wd n B + 1
    · have hne : ¬ rk wd n B = rk wd n A + 1 := by omega
      rw [if_pos (show (rk wd n B : Int) = (rk wd n A : Int) - 1 by omega), if_pos (show true = true from rfl), if_pos (show true = true from rfl), may_ok hn hG hT hc p1, Option.bind_some, may_ok hn hG hT hc p2, Option.bind_some, decide_eq_false hne, decide_eq_true u1]
      cases myB kd c A true <;> cases myB kd c B true <;> rfl
    · rw [if_neg (show ¬ (rk wd n B : Int) = (rk wd n A : Int) - 1 by omega), if_neg (show ¬ false = true by decide), decide_eq_false u1]
      by_cases u2 : rk wd n B = rk wd n A + 1
      · rw [if_pos (show (rk wd n B : Int) = (rk wd n A : Int) + 1 by omega), if_pos (show true = true from rfl), may_ok hn hG hT hc p1, Option.bind_some, may_ok hn hG hT hc p2, Option.bind_some, decide_eq_true u2]
        cases myB kd c A false <;> cases myB kd c B false <;> rfl
      · rw [if_neg (show ¬ (rk wd n B : Int) = (rk wd n A : Int) + 1 by omega), if_neg (show ¬ false = true by decide), decide_eq_false u2]
        rfl
  · rw [if_neg (by omega), if_neg hl, w32_eq (x := (rk wd n (pA n (c / 2 ^ ix kd n) i) : Int) + 1) (by omega) (by omega)]
    by_cases u1 : rk wd n (pA n (c / 2 ^ ix kd n) i) + 1 = n
    · rw [if_pos (by omega), may_ok hn hG hT hc p1, Option.bind_some, decide_eq_true u1]
      cases myB kd c (pA n (c / 2 ^ ix kd n) i) false <;> rfl
    · rw [if_neg (by omega), decide_eq_false u1]; rfl
theorem gaps_ok (hn : n < 6) (hG : Gc told n kd wd μ) (hT : Tb kd wd n BE CE μ) (hc : c < NN kd n) : fX7_gapsIn (c : Int) μ = some (gpN kd wd n c : Int) := by
  unfold fX7_gapsIn gpN
  apply Ok_val
  refine Ok.bind ?_
  refine loop_FU n (fun (i : Nat) (s : Int × Int) => s.1 = ((cn i (gpB kd wd n c) : Nat) : Int) ∧ s.2 = (i : Int)) 0 ⟨rfl, rfl⟩ (by omega) (by omega) ?_ ?_
  · rintro i ⟨x, y⟩ hi ⟨e1, e2⟩
    dsimp only at e1 e2 ⊢
    subst e1 e2
    unfold fX7_gapsIn_b4
    simp only [lt]
    rw [hT.1, w32_n (a := i) (by omega), w32_n (a := n) (by omega), if_pos (by omega), gap_ok hn hG hT hc hi, Option.bind_some, Ok_some]
    refine ⟨?_, by push_cast; rfl⟩
    dsimp only
    rw [cn_succ, b2n]; push_cast; rfl
  · rintro ⟨x, y⟩ ⟨e1, e2⟩
    dsimp only at e1 e2 ⊢
    subst e1 e2
    unfold fX7_gapsIn_b4
    rw [hT.1, w32_n (a := n) (by omega), if_neg (by omega), Ok_some]
    show Ok _ _
    rw [Ok_some]
theorem gapsc_ok (hn : n < 6) (hG : Gc told n kd wd μ) (hT : Tb kd wd n BE CE μ) (hc : c < NN kd n) (h41 : μ 41 1 = c) : fX11_gaps μ = some (gpN kd wd n c : Int) := by
  unfold fX11_gaps
  rw [h41, gaps_ok hn hG hT hc, Option.bind_some]
end GAPS
section GAPSR
variable {n g : Nat} {kd wd : Nat → Nat} {BE CE : LawF} {μ ν : Mem} {c : Nat}
theorem rk_next {a b : Nat} (hw : ∀ i j, i < n → j < n → wd i = wd j → i = j) (ha : a < n) (hb : b < n) : rk wd n a = rk wd n b + 1 ↔ wd b < wd a ∧ ∀ x, x < n → wd x ≤ wd b ∨ wd a ≤ wd x := by
  constructor
  · intro h
    have hlt : wd b < wd a := by
      by_cases q : wd b < wd a
      · exact q
      · have : rk wd n a ≤ rk wd n b := cn_mono (fun i _ hi => by
          have := of_decide_eq_true hi
          exact decide_eq_true (by omega))
        omega
    refine ⟨hlt, fun x hx => ?_⟩
    by_cases q1 : wd x ≤ wd b
    · exact Or.inl q1
    · by_cases q2 : wd a ≤ wd x
      · exact Or.inr q2
      · have h1 := rk_mono (wd := wd) (n := n) hb (show wd b < wd x by omega)
        have h2 := rk_mono (wd := wd) (n := n) hx (show wd x < wd a by omega)
        omega
  · rintro ⟨h1, h2⟩
    exact cn_set hb (decide_eq_false (by omega)) (decide_eq_true h1) (fun i hi hne => by
      have hni : wd i ≠ wd b := fun e => hne (hw i b hi hb e)
      rcases h2 i hi with q | q
      · rw [decide_eq_true (by omega), decide_eq_true (by omega)]
      · rw [decide_eq_false (by omega), decide_eq_false (by omega)])
theorem rk_last {a : Nat} (hw : ∀ i j, i < n → j < n → wd i = wd j → i = j) (ha : a < n) : rk wd n a + 1 = n ↔ ∀ x, x < n → wd x ≤ wd a := by
  constructor
  · intro h x hx
    by_cases q : wd x ≤ wd a
    · exact q
    · have h1 := rk_mono (wd := wd) (n := n) ha (show wd a < wd x by omega)
      have h2 := rk_lt (wd := wd) hx
      omega
  · intro h
    have := cn_set (n := n) (j := a) (p := fun i => decide (wd i < wd a)) (q := fun _ => true) ha (decide_eq_false (by omega)) rfl (fun i hi hne => by
      have hni : wd i ≠ wd a := fun e => hne (hw i a hi ha e)
      have := h i hi
      exact decide_eq_true (by omega))
    rw [cn_all (fun _ _ => rfl)] at this
    exact this.symm
theorem next_r {a b : Nat} (h : Rr kd wd n BE CE g μ) (ha : a < n) (hb : b < n) : fX12_isNextWider (a : Int) (b : Int) μ = some (decide (rk wd n a = rk wd n b + 1)) := by
  have hn := h.1.1
  have hw := h.1.2.1
  have hR := h.2.1
  have ba := (hR.2 a ha).2.2.2
  have bb := (hR.2 b hb).2.2.2
  apply Ok_val
  unfold fX12_isNextWider
  simp only [lt]
  rw [wide_r hn hR ha, Option.bind_some, wide_r hn hR hb, Option.bind_some, w32_n (by omega), w32_n (by omega)]
  refine Ok.bind ?_
  refine loop_FU n (fun (i : Nat) (s : Bool × Int) => (s.1 = true ↔ wd b < wd a ∧ ∀ x, x < i → wd x ≤ wd b ∨ wd a ≤ wd x) ∧ s.2 = (i : Int)) 0 ⟨?_, rfl⟩ (by omega) (by omega) ?_ ?_
  · dsimp only
    by_cases q : wd a ≤ wd b
    · rw [if_pos (by omega)]
      exact ⟨fun h => absurd h (by decide), fun h => absurd h.1 (by omega)⟩
    · rw [if_neg (by omega)]
      exact ⟨fun _ => ⟨by omega, fun x hx => absurd hx (by omega)⟩, fun _ => rfl⟩
  · rintro i ⟨v, y⟩ hi ⟨e1, e2⟩
    dsimp only at e1 e2 ⊢
    subst e2
    have bi := (hR.2 i hi).2.2.2
    unfold fX12_isNextWider_b24
    simp only [lt]
    rw [hR.1, w32_n (a := i) (by omega), w32_n (a := n) (by omega), if_pos (by omega)]
    by_cases hv : v = true
    · obtain ⟨h1, h2⟩ := e1.mp hv
      rw [if_pos hv, wide_r hn hR hi, Option.bind_some, wide_r hn hR hb, Option.bind_some, w32_n (by omega), w32_n (by omega)]
      by_cases q : wd i ≤ wd b
      · rw [if_pos (by omega)]
        unfold fX12_isNextWider_j69
        rw [Ok_some]
        refine ⟨⟨fun _ => ⟨h1, fun x hx => ?_⟩, fun _ => rfl⟩, by push_cast; rfl⟩
        by_cases e : x = i
        · subst e; exact Or.inl q
        · exact h2 x (by omega)
      · rw [if_neg (by omega), Option.bind_some, wide_r hn hR ha, Option.bind_some, w32_n (by omega), w32_n (by omega), Ok_some]
        refine ⟨?_, by push_cast; rfl⟩
        dsimp only
        by_cases q2 : wd i < wd a
        · rw [if_pos (by omega)]
          refine ⟨fun h => absurd h (by decide), fun h => ?_⟩
          have := h.2 i (by omega)
          omega
        · rw [if_neg (by omega)]
          refine ⟨fun _ => ⟨h1, fun x hx => ?_⟩, fun _ => rfl⟩
          by_cases e : x = i
          · subst e; exact Or.inr (by omega)
          · exact h2 x (by omega)
    · rw [if_neg hv, Ok_some]
      refine ⟨⟨fun h => absurd h Bool.false_ne_true, fun h => ?_⟩, by push_cast; rfl⟩
      exact absurd (e1.mpr ⟨h.1, fun x hx => h.2 x (by omega)⟩) hv
  · rintro ⟨v, y⟩ ⟨e1, e2⟩
    dsimp only at e1 e2 ⊢
    subst e2
    unfold fX12_isNextWider_b24
    rw [hR.1, w32_n (a := n) (by omega), if_neg (by omega), Ok_some]
    show Ok _ _
    rw [Ok_some]
    rw [← rk_next hw ha hb] at e1
    cases v
    · exact (decide_eq_false (fun q => absurd (e1.mpr q) (by decide))).symm
    · exact (decide_eq_true (e1.mp rfl)).symm
theorem liesBy_r {k : Nat} {u : Bool} (h : Rr kd wd n BE CE g μ) (hL : Ly kd n c μ) (hk : k < n) : fX12_liesBy (k : Int) u μ = some (myB kd c k u) := by
  have hn := h.1.1
  unfold fX12_liesBy myB
  simp only [lt]
  rw [side_r hn h.2.1 hk, Option.bind_some]
  by_cases hs : sd kd k = true
  · rw [if_pos hs, if_pos hs, w32_n (a := k) (by omega), gd_pos (by omega), Int.toNat_natCast, hL.2 k hk, b2i_ne, b2i_eq]
  · rw [if_neg hs, if_neg hs]
theorem gaps_r (h : Rr kd wd n BE CE g μ) (hc : c < NN kd n) (h88 : μ 88 0 = nu kd n c) : Ok (fX12_gapsNow μ) (fun o => o.1 = (gpN kd wd n c : Int) ∧ Dk μ o.2) := by
  have hn := h.1.1
  have hw := h.1.2.1
  have hd := div_lt (kd := kd) hc
  unfold fX12_gapsNow
  rw [h88]
  refine Ok.then (h.lay hc) ?_
  rintro θ ⟨gL, gD⟩
  have hθ := h.dk gD
  have hR := hθ.2.1
  refine Ok.bind ?_
  refine loop_FU n (fun (i : Nat) (s : Int × Int × Mem) => s.1 = ((cn i (gpB kd wd n c) : Nat) : Int) ∧ s.2.1 = (i : Int) ∧ s.2.2 = θ) 0 ⟨rfl, rfl, rfl⟩ (by omega) (by omega) ?_ ?_
  · rintro i ⟨x, y, ρ⟩ hi ⟨e1, e2, e3⟩
    dsimp only at e1 e2 e3 ⊢
    subst e1 e2 e3
    have p1 := pA_lt hn hd hi
    have ei : (i : Int) + 1 = ((i + 1 : Nat) : Int) := by push_cast; rfl
    -- the last part: b = no gap
    have fin : ∀ b : Bool, b = !gpB kd wd n c i → Ok (fX12_gapsNow_j171 ((cn i (gpB kd wd n c) : Nat) : Int) (i : Int) b ρ) (Sum.elim (fun s => s.1 = ((cn (i + 1) (gpB kd wd n c) : Nat) : Int) ∧ s.2.1 = ((i + 1 : Nat) : Int) ∧ s.2.2 = ρ) (fun o => Ok (some (o.1, o.2)) (fun o => o.1 = ((gpN kd wd n c : Nat) : Int) ∧ Dk μ o.2))) := fun b hb => by
      unfold fX12_gapsNow_j171
      simp only [lt]
      rw [Ok_some]
      refine ⟨?_, by push_cast; rfl, rfl⟩
      dsimp only
      rw [cn_succ, hb]
      cases gpB kd wd n c i <;> push_cast <;> simp
    unfold fX12_gapsNow_b14
    simp only [lt]
    rw [hR.1, w32_n (a := i) (by omega), w32_n (a := n) (by omega), if_pos (by omega), gd_pos (by omega), Int.toNat_natCast, gL.1 i hi, ei, w32_n (a := i + 1) (by omega)]
    by_cases hl : i + 1 < n
    · have p2 := pA_lt hn hd hl
      rw [if_pos (by omega), gd_pos (by omega), Int.toNat_natCast, gL.1 (i + 1) hl, next_r hθ p2 p1, Option.bind_some]
      have hg := gpB_in (kd := kd) (wd := wd) (c := c) hl
      generalize pA n (c / 2 ^ ix kd n) i = A at p1 hg ⊢
      generalize pA n (c / 2 ^ ix kd n) (i + 1) = B at p2 hg ⊢
      have j78 : (decide (rk wd n B = rk wd n A + 1) && (myB kd c A false && myB kd c B false)) = false → Ok (fX12_gapsNow_j78 ((cn i (gpB kd wd n c) : Nat) : Int) (i : Int) (A : Int) (B : Int) ρ) (Sum.elim (fun s => s.1 = ((cn (i + 1) (gpB kd wd n c) : Nat) : Int) ∧ s.2.1 = ((i + 1 : Nat) : Int) ∧ s.2.2 = ρ) (fun o => Ok (some (o.1, o.2)) (fun o => o.1 = ((gpN kd wd n c : Nat) : Int) ∧ Dk μ o.2))) := fun hz => by
        rw [hz, Bool.false_or] at hg
        have hg' : gpB kd wd n c i = !(decide (rk wd n A = rk wd n B + 1) && (myB kd c A true && myB kd c B true)) := hg
        unfold fX12_gapsNow_j78 fX12_gapsNow_j111 fX12_gapsNow_j112
        simp only [lt]
        rw [next_r hθ p1 p2, Option.bind_some, liesBy_r hθ gL p1, liesBy_r hθ gL p2]
        by_cases u : rk wd n A = rk wd n B + 1
        · rw [decide_eq_true u] at hg' ⊢
          rw [if_pos (show true = true from rfl), Option.bind_some]
          by_cases u2 : myB kd c A true = true
          · rw [if_pos u2, Option.bind_some]
            refine fin _ ?_
            rw [hg', u2]
            cases myB kd c B true <;> rfl
          · rw [if_neg u2]
            refine fin _ ?_
            rw [hg', eq_false_of_ne_true u2]; rfl
        · rw [decide_eq_false u] at hg' ⊢
          rw [if_neg (show ¬ false = true by decide)]
          refine fin _ ?_
          rw [hg']; rfl
      rw [liesBy_r hθ gL p1, liesBy_r hθ gL p2]
      by_cases u : rk wd n B = rk wd n A + 1
      · rw [decide_eq_true u, if_pos (show true = true from rfl), Option.bind_some]
        by_cases u2 : myB kd c A false = true
        · rw [if_pos u2, Option.bind_some]
          by_cases u3 : myB kd c B false = true
          · rw [if_pos u3]
            unfold fX12_gapsNow_j107 fX12_gapsNow_j112
            refine fin _ ?_
            rw [decide_eq_true u, u2, u3] at hg
            rw [hg]; rfl
          · rw [if_neg u3]
            exact j78 (by rw [eq_false_of_ne_true u3, Bool.and_false, Bool.and_false])
        · rw [if_neg u2]
          exact j78 (by rw [eq_false_of_ne_true u2, Bool.false_and, Bool.and_false])
      · rw [decide_eq_false u, if_neg (show ¬ false = true by decide)]
        exact j78 (by rw [decide_eq_false u]; rfl)
    · rw [if_neg (by omega), liesBy_r hθ gL p1, Option.bind_some]
      have hg := gpB_last (kd := kd) (wd := wd) (c := c) hl
      generalize pA n (c / 2 ^ ix kd n) i = A at p1 hg ⊢
      have bA := (hR.2 A p1).2.2.2
      refine Ok.then (loop_FU (Q := fun o : Bool × Mem => o.1 = (decide (rk wd n A + 1 = n) && myB kd c A false) ∧ o.2 = ρ) n (fun (j : Nat) (s : Bool × Int × Mem) => (s.1 = true ↔ myB kd c A false = true ∧ ∀ x, x < j → wd x ≤ wd A) ∧ s.2.1 = (j : Int) ∧ s.2.2 = ρ) 0 ⟨⟨fun h => ⟨h, fun x hx => absurd hx (by omega)⟩, fun h => h.1⟩, rfl, rfl⟩ (by omega) (by omega) ?_ ?_) ?_
      · rintro j ⟨v, y, σ⟩ hj ⟨e1, e2, e3⟩
        dsimp only at e1 e2 e3 ⊢
        subst e2 e3
        have bj := (hR.2 j hj).2.2.2
        unfold fX12_gapsNow_b128
        simp only [lt]
        rw [hR.1, w32_n (a := j) (by omega), w32_n (a := n) (by omega), if_pos (by omega)]
        by_cases hv : v = true
        · obtain ⟨h1, h2⟩ := e1.mp hv
          rw [if_pos hv, wide_r hn hR hj, Option.bind_some, wide_r hn hR p1, Option.bind_some, w32_n (by omega), w32_n (by omega), Ok_some]
          refine ⟨?_, by push_cast; rfl, rfl⟩
          dsimp only
          by_cases q : wd j ≤ wd A
          · rw [if_pos (by omega)]
            refine ⟨fun _ => ⟨h1, fun x hx => ?_⟩, fun _ => rfl⟩
            by_cases e : x = j
            · subst e; exact q
            · exact h2 x (by omega)
          · rw [if_neg (by omega)]
            refine ⟨fun h => absurd h (by decide), fun h => ?_⟩
            have := h.2 j (by omega)
            omega
        · rw [if_neg hv, Ok_some]
          refine ⟨⟨fun h => absurd h Bool.false_ne_true, fun h => ?_⟩, by push_cast; rfl, rfl⟩
          exact absurd (e1.mpr ⟨h.1, fun x hx => h.2 x (by omega)⟩) hv
      · rintro ⟨v, y, σ⟩ ⟨e1, e2, e3⟩
        dsimp only at e1 e2 e3 ⊢
        subst e2 e3
        unfold fX12_gapsNow_b128
        rw [hR.1, w32_n (a := n) (by omega), if_neg (by omega), Ok_some]
        refine ⟨?_, rfl⟩
        dsimp only
        rw [← rk_last hw p1] at e1
        cases v
        · by_cases q : rk wd n A + 1 = n
          · rw [decide_eq_true q, Bool.true_and]
            by_cases q2 : myB kd c A false = true
            · exact absurd (e1.mpr ⟨q2, q⟩) (by decide)
            · exact (eq_false_of_ne_true q2).symm
          · rw [decide_eq_false q]; rfl
        · obtain ⟨q1, q2⟩ := e1.mp rfl
          rw [decide_eq_true q2, q1]; rfl
      · rintro ⟨v, σ⟩ ⟨e1, e2⟩
        dsimp only at e1 e2 ⊢
        subst e1 e2
        refine fin _ ?_
        rw [hg, Bool.not_not]
  · rintro ⟨x, y, ρ⟩ ⟨e1, e2, e3⟩
    dsimp only at e1 e2 e3 ⊢
    subst e1 e2 e3
    unfold fX12_gapsNow_b14
    rw [hR.1, w32_n (a := n) (by omega), if_neg (by omega), Ok_some]
    show Ok _ _
    rw [Ok_some]
    exact ⟨rfl, gD⟩
theorem gapsr_r (h : Rr kd wd n BE CE g μ) (hc : c < NN kd n) (h88 : μ 88 0 = nu kd n c) : Ok (fX12_gaps μ) (fun o => o.1 = (gpN kd wd n c : Int) ∧ Dk (upd2 μ 75 0 0) o.2) := by
  unfold fX12_gaps
  simp only [lt]
  refine Ok.then (gaps_r h.put hc (by rw [upd2_ne (by omega)]; exact h88)) ?_
  rintro ⟨x, ν⟩ ⟨e1, hD⟩
  rw [Ok_some]
  exact ⟨e1, hD⟩
end GAPSR
