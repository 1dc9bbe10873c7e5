/-! ===== level 2: marks, clues and open turns in the reference ===== -/
section MARKR
variable {n g q m : Nat} {kd wd : Nat → Nat} {BE CE : LawF} {μ ν : Mem} {a b : Int} {c : Nat} {cl : Nat → Nat × Nat × Bool} {back : Bool}
theorem markr_no (ha : Nz a) (h : ¬ (0 ≤ a ∧ a < 4)) : fX12_mark a back μ = some (false, upd2 μ 75 0 0) := by
  unfold fX12_mark
  simp only [lt]
  rw [within_r (lo := 0) (hi := 3) ha ⟨by decide, by decide⟩ ⟨by decide, by decide⟩, if_neg (by rw [decide_eq_false (show ¬ (0 ≤ a ∧ a ≤ 3) by omega)]; decide)]
theorem markr_lay (hm : m < 4) : fX12_mark (m : Int) false μ = some (true, upd2 (cpy 0 (28 * (1 + m)) 28 (upd2 (upd2 μ 75 0 0) 89 m 1)) 75 20 (μ 75 20)) := by
  unfold fX12_mark fX12_mark_j29
  simp only [lt]
  have e1 : (28 : Int) * (1 + (m : Int)) = ((28 * (1 + m) : Nat) : Int) := by push_cast; rfl
  have hcp := copies_r (μ := upd2 (upd2 μ 75 0 0) 89 m 1) (F := 0) (T := 28 * (1 + m)) (m := 28) (by omega) (by omega) (by omega)
  rw [show ((0 : Nat) : Int) = 0 from rfl, show ((28 : Nat) : Int) = 28 from rfl] at hcp
  rw [within_r (lo := 0) (hi := 3) (nz_c (k := m) (by omega)) ⟨by decide, by decide⟩ ⟨by decide, by decide⟩, if_pos (decide_eq_true (by omega)), if_neg (show ¬ false = true by decide), w32_n (a := m) (by omega), gd_pos (by omega), Int.toNat_natCast, if_neg (show ¬ false = true by decide), if_neg (show ¬ false = true by decide), e1, hcp, Option.bind_some, if_neg (show ¬ false = true by decide), cpy_ne (by omega), upd2_ne (by omega), upd2_nj (by omega)]
theorem markr_none (hm : m < 4) (h : μ 89 m = 0) : fX12_mark (m : Int) true μ = some (false, upd2 μ 75 0 0) := by
  unfold fX12_mark
  simp only [lt]
  rw [within_r (lo := 0) (hi := 3) (nz_c (k := m) (by omega)) ⟨by decide, by decide⟩ ⟨by decide, by decide⟩, if_pos (decide_eq_true (by omega)), if_pos trivial, w32_n (a := m) (by omega), gd_pos (by omega), Int.toNat_natCast, if_neg (by rw [upd2_ne (by omega), h]; decide)]
theorem markr_back (hm : m < 4) (h : μ 89 m = 1) : fX12_mark (m : Int) true μ = some (true, upd2 (cpy (28 * (1 + m)) 0 28 (upd2 (upd2 μ 75 0 0) 89 m 1)) 75 20 0) := by
  unfold fX12_mark fX12_mark_j29
  simp only [lt]
  have e1 : (28 : Int) * (1 + (m : Int)) = ((28 * (1 + m) : Nat) : Int) := by push_cast; rfl
  have hcp := copies_r (μ := upd2 (upd2 μ 75 0 0) 89 m 1) (F := 28 * (1 + m)) (T := 0) (m := 28) (by omega) (by omega) (by omega)
  rw [show ((0 : Nat) : Int) = 0 from rfl, show ((28 : Nat) : Int) = 28 from rfl] at hcp
  rw [within_r (lo := 0) (hi := 3) (nz_c (k := m) (by omega)) ⟨by decide, by decide⟩ ⟨by decide, by decide⟩, if_pos (decide_eq_true (by omega)), if_pos trivial, w32_n (a := m) (by omega), gd_pos (by omega), Int.toNat_natCast, if_pos (by rw [upd2_ne (by omega), h]; decide), gd_pos (by omega), if_pos trivial, if_pos trivial, e1, hcp, Option.bind_some, if_pos trivial]
/-- see and lies -/
theorem see_r {is : Bool} (hn : n < 6) (h1 : μ 81 0 = n) (hS : SR 0 q cl μ) (hq : q ≤ 8) (ha : Nz a) (hb : Nz b) :
    Ok (fX12_see a b is μ) (fun o => o.1 = decide ((0 ≤ a ∧ a < n) ∧ (0 ≤ b ∧ b < n) ∧ q < 8) ∧ Sr (upd2 μ 75 0 0) o.2 ∧ (if (0 ≤ a ∧ a < n) ∧ (0 ≤ b ∧ b < n) ∧ q < 8 then SR 0 (q + 1) (clP q cl (a.toNat, b.toNat, is)) o.2 else o.2 = upd2 μ 75 0 0)) := by
  unfold fX12_see
  simp only [lt]
  have hS1 : SR 0 q cl (upd2 μ 75 0 0) := by
    unfold SR at hS ⊢
    rw [upd2_ne (show (88 : Nat) ≠ 75 by omega)]; exact hS
  have h11 : upd2 μ 75 0 0 81 0 = n := by rw [upd2_ne (by omega)]; exact h1
  generalize upd2 μ 75 0 0 = μ1 at hS1 h11 ⊢
  rw [nz_w hb, show w32 5 = 5 from by decide]
  by_cases q5 : b = 5
  · have no : ¬ ((0 ≤ a ∧ a < n) ∧ (0 ≤ b ∧ b < n) ∧ q < 8) := fun k => by omega
    rw [if_pos q5, Ok_some, if_neg no, decide_eq_false no]
    exact ⟨rfl, ⟨fun _ _ => rfl, fun _ _ => rfl⟩, rfl⟩
  · rw [if_neg q5, show (if is = true then true else false) = is from by cases is <;> rfl]
    refine Ok.then (sees_r (is := is) hn h11 hS1 hq ha hb) ?_
    rintro ⟨o1, ρ⟩ ⟨g1, g2, g3⟩
    dsimp only at g1 g2 g3 ⊢
    rw [Ok_some]
    have hiff : ((0 ≤ a ∧ a < n) ∧ ((0 ≤ b ∧ b < n) ∨ b = 5) ∧ q < 8) ↔ ((0 ≤ a ∧ a < n) ∧ (0 ≤ b ∧ b < n) ∧ q < 8) := by
      constructor
      · rintro ⟨k1, k2, k3⟩
        rcases k2 with k2 | k2
        · exact ⟨k1, k2, k3⟩
        · exact absurd k2 q5
      · rintro ⟨k1, k2, k3⟩; exact ⟨k1, Or.inl k2, k3⟩
    by_cases hall : (0 ≤ a ∧ a < n) ∧ (0 ≤ b ∧ b < n) ∧ q < 8
    · rw [if_pos (hiff.mpr hall)] at g3
      rw [decide_eq_true (hiff.mpr hall)] at g1
      rw [if_pos hall, decide_eq_true hall, g1]
      exact ⟨rfl, g2, g3⟩
    · rw [if_neg (fun k => hall (hiff.mp k))] at g3
      rw [decide_eq_false (fun k => hall (hiff.mp k))] at g1
      rw [if_neg hall, decide_eq_false hall, g1]
      exact ⟨rfl, g2, g3⟩
theorem lies_r {is : Bool} (hn : n < 6) (h1 : μ 81 0 = n) (hS : SR 0 q cl μ) (hq : q ≤ 8) (ha : Nz a) :
    Ok (fX12_lies a is μ) (fun o => o.1 = decide ((0 ≤ a ∧ a < n) ∧ q < 8) ∧ Sr (upd2 μ 75 0 0) o.2 ∧ (if (0 ≤ a ∧ a < n) ∧ q < 8 then SR 0 (q + 1) (clP q cl (a.toNat, 5, is)) o.2 else o.2 = upd2 μ 75 0 0)) := by
  unfold fX12_lies
  simp only [lt]
  have hS1 : SR 0 q cl (upd2 μ 75 0 0) := by
    unfold SR at hS ⊢
    rw [upd2_ne (show (88 : Nat) ≠ 75 by omega)]; exact hS
  have h11 : upd2 μ 75 0 0 81 0 = n := by rw [upd2_ne (by omega)]; exact h1
  generalize upd2 μ 75 0 0 = μ1 at hS1 h11 ⊢
  rw [show (if is = true then true else false) = is from by cases is <;> rfl]
  refine Ok.then (sees_r (b := 5) (is := is) hn h11 hS1 hq ha ⟨by decide, by decide⟩) ?_
  rintro ⟨o1, ρ⟩ ⟨g1, g2, g3⟩
  dsimp only at g1 g2 g3 ⊢
  rw [Ok_some]
  have hiff : ((0 ≤ a ∧ a < n) ∧ ((0 ≤ (5 : Int) ∧ (5 : Int) < n) ∨ (5 : Int) = 5) ∧ q < 8) ↔ ((0 ≤ a ∧ a < n) ∧ q < 8) := ⟨fun k => ⟨k.1, k.2.2⟩, fun k => ⟨k.1, Or.inr rfl, k.2⟩⟩
  by_cases hall : (0 ≤ a ∧ a < n) ∧ q < 8
  · rw [if_pos (hiff.mpr hall)] at g3
    rw [decide_eq_true (hiff.mpr hall)] at g1
    rw [if_pos hall, decide_eq_true hall]
    exact ⟨g1, g2, g3⟩
  · rw [if_neg (fun k => hall (hiff.mp k))] at g3
    rw [decide_eq_false (fun k => hall (hiff.mp k))] at g1
    rw [if_neg hall, decide_eq_false hall]
    exact ⟨g1, g2, g3⟩
/-- the open turns, as bits -/
def obN (op : Nat → Nat → Bool) (c : Nat) : Nat → Nat
  | 0 => 0
  | i + 1 => if op c (i + 1) = true then obN op c i ||| 2 ^ i else obN op c i
theorem obN_lt {op : Nat → Nat → Bool} {c : Nat} : ∀ i, obN op c i < 2 ^ i
  | 0 => by rw [obN]; decide
  | i + 1 => by
    have h := obN_lt (op := op) (c := c) i
    have h2 : 2 ^ i < 2 ^ (i + 1) := Nat.pow_lt_pow_succ (by omega)
    rw [obN]
    split
    · exact Nat.or_lt_two_pow (by omega) h2
    · omega
theorem openBits_ok (hn : n < 6) (hT : Tb kd wd n BE CE μ) (hc : c < NN kd n) (h41 : μ 41 1 = c) : fX11_openBits μ = some (obN (opC kd wd n BE) c n : Int) := by
  apply Ok_val
  unfold fX11_openBits
  refine Ok.bind ?_
  refine loop_FU (n + 1) (fun (i : Nat) (s : Int × Int) => 1 ≤ i ∧ s.1 = (obN (opC kd wd n BE) c (i - 1) : Int) ∧ s.2 = (i : Int)) 1 ⟨by omega, rfl, rfl⟩ (by omega) (by omega) ?_ ?_
  · rintro i ⟨x, y⟩ hi ⟨hi1, e1, e2⟩
    dsimp only at e1 e2 ⊢
    subst e1 e2
    obtain ⟨k, rfl⟩ : ∃ k, i = k + 1 := ⟨i - 1, by omega⟩
    have hk : k + 1 - 1 = k := by omega
    have hk2 : k + 1 + 1 - 1 = k + 1 := by omega
    have hb := obN_lt (op := opC kd wd n BE) (c := c) k
    have hp := two_pow_5 (a := k) (by omega)
    have ek : ((k + 1 : Nat) : Int) - 1 = (k : Int) := by push_cast; omega
    unfold fX11_openBits_b4
    simp only [lt]
    rw [hT.1, h41, w32_n (a := k + 1) (by omega), w32_n (a := n) (by omega), if_pos (by omega), isOpen_ok hn hT hc hi1 (by omega), hk, ek]
    by_cases ho : opC kd wd n BE c (k + 1) = true
    · rw [if_pos ho, i_shl1 (by omega), i_or_n (by omega) (by omega), Ok_some]
      refine ⟨by omega, ?_, by push_cast; rfl⟩
      dsimp only
      rw [hk2, obN, if_pos ho]
    · rw [if_neg ho, Ok_some]
      refine ⟨by omega, ?_, by push_cast; rfl⟩
      dsimp only
      rw [hk2, obN, if_neg ho]
  · rintro ⟨x, y⟩ ⟨hi1, e1, e2⟩
    dsimp only at e1 e2 ⊢
    subst e1 e2
    unfold fX11_openBits_b4
    rw [hT.1, w32_n (a := n + 1) (by omega), w32_n (a := n) (by omega), if_neg (by omega), Ok_some]
    show Ok _ _
    rw [Ok_some, Nat.add_sub_cancel]
theorem turnsNow_r (h : Rr kd wd n BE CE g μ) (hc : c < NN kd n) (h88 : μ 88 0 = nu kd n c) : Ok (fX12_turnsNow μ) (fun o => o.1 = (obN (opC kd wd n BE) c n : Int) ∧ Dk μ o.2) := by
  have hn := h.1.1
  unfold fX12_turnsNow
  rw [h88]
  refine Ok.then (h.lay hc) ?_
  rintro θ ⟨hL, hD⟩
  have hR := h.dk hD
  refine Ok.bind ?_
  refine Ok.imp (loop_FU (Q := fun o : Int × Mem => o.1 = (obN (opC kd wd n BE) c n : Int) ∧ Dk μ o.2) (n + 1) (fun (i : Nat) (s : Int × Int × Mem) => 1 ≤ i ∧ s.1 = (obN (opC kd wd n BE) c (i - 1) : Int) ∧ s.2.1 = (i : Int) ∧ Dk μ s.2.2 ∧ Ly kd n c s.2.2) 1 ⟨by omega, rfl, rfl, hD, hL⟩ (by omega) (by omega) ?_ ?_) ?_
  · rintro i ⟨x, y, ρ⟩ hi ⟨hi1, e1, e2, hDρ, hLρ⟩
    dsimp only at e1 e2 hDρ hLρ ⊢
    subst e1 e2
    obtain ⟨k, rfl⟩ : ∃ k, i = k + 1 := ⟨i - 1, by omega⟩
    have hk : k + 1 - 1 = k := by omega
    have hk2 : k + 1 + 1 - 1 = k + 1 := by omega
    have hb := obN_lt (op := opC kd wd n BE) (c := c) k
    have hp := two_pow_5 (a := k) (by omega)
    have ek : ((k + 1 : Nat) : Int) - 1 = (k : Int) := by push_cast; omega
    have hRρ := h.dk hDρ
    unfold fX12_turnsNow_b14
    simp only [lt]
    rw [hRρ.2.1.1, w32_n (a := k + 1) (by omega), w32_n (a := n) (by omega), if_pos (by omega), hk]
    refine Ok.then (hRρ.may hc hi1 (by omega) hLρ) ?_
    rintro ⟨o1, θ2⟩ ⟨ho1, hL2, hD2⟩
    dsimp only at ho1 hL2 hD2 ⊢
    subst ho1
    rw [ek, Ok_some]
    refine ⟨by omega, ?_, by push_cast; rfl, hDρ.tr hD2, hL2⟩
    dsimp only
    rw [hk2, obN]
    by_cases ho : opC kd wd n BE c (k + 1) = true
    · rw [if_pos ho, if_pos ho, i_shl1 (by omega), i_or_n (by omega) (by omega)]
    · have := i_or_n (a := obN (opC kd wd n BE) c k) (b := 0) (by omega) (by omega)
      rw [show ((0 : Nat) : Int) = 0 from rfl, Nat.or_zero] at this
      rw [if_neg ho, if_neg ho, this]
  · rintro ⟨x, y, ρ⟩ ⟨hi1, e1, e2, hDρ, hLρ⟩
    dsimp only at e1 e2 hDρ hLρ ⊢
    subst e1 e2
    have hRρ := h.dk hDρ
    unfold fX12_turnsNow_b14
    rw [hRρ.2.1.1, w32_n (a := n + 1) (by omega), w32_n (a := n) (by omega), if_neg (by omega), Ok_some]
    exact ⟨by dsimp only; rw [Nat.add_sub_cancel], hDρ⟩
  · rintro ⟨x, ρ⟩ hq
    rw [Ok_some]
    exact hq
end MARKR
