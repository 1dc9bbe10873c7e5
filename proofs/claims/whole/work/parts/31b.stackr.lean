/-! ===== level 2: what the reference reads off a stack ===== -/
section STACKR
variable {n g : Nat} {kd wd : Nat → Nat} {BE CE : LawF} {μ ν : Mem} {c : Nat} {a w : Int}
theorem within_r {x lo hi : Int} (hx : Nz x) (hl : Nz lo) (hh : Nz hi) : fX12_within x lo hi = decide (lo ≤ x ∧ x ≤ hi) := by
  unfold fX12_within
  simp only [lt]
  rw [nz_w hx, nz_w hl, nz_w hh]
  by_cases q0 : x < lo
  · rw [if_pos q0, decide_eq_false (by omega)]
  · rw [if_neg q0]
    by_cases q1 : x ≤ hi
    · rw [if_pos q1, decide_eq_true (by omega)]
    · rw [if_neg q1, decide_eq_false (by omega)]
theorem nz_c {k : Nat} (h : k < 2147483648) : Nz (k : Int) := ⟨by omega, by omega⟩
theorem find_r {k : Nat} (h : Rr kd wd n BE CE g μ) (hc : c < NN kd n) (hL : Ly kd n c μ) (hk : k < n) : loopN (fun s => fX12_cake_b40 (k : Int) w s.1 s.2) FU (0, μ) = some ((posA n (c / 2 ^ ix kd n) k : Int), μ) := by
  have hn := h.1.1
  have hd := div_lt (kd := kd) hc
  have hpl := posA_lt hn hd hk
  have hpp := pA_posA hn hd hk
  apply Ok_val
  refine loop_FU n (fun (i : Nat) (s : Int × Mem) => s.1 = (i : Int) ∧ s.2 = μ ∧ i ≤ posA n (c / 2 ^ ix kd n) k) 0 ⟨rfl, rfl, by omega⟩ (by omega) (by omega) ?_ ?_
  · rintro i ⟨x, ρ⟩ hi ⟨e1, e2, hi2⟩
    dsimp only at e1 e2 ⊢
    subst e1 e2
    have hpb := pA_lt hn hd hi
    unfold fX12_cake_b40
    rw [w32_n (a := i) (by omega), gd_pos (by omega), Int.toNat_natCast, hL.1 i hi, w32_n (a := pA n (c / 2 ^ ix kd n) i) (by omega), w32_n (a := k) (by omega)]
    by_cases e : i = posA n (c / 2 ^ ix kd n) k
    · rw [if_pos (by rw [e, hpp]), Ok_some, e]
      rfl
    · have : pA n (c / 2 ^ ix kd n) i ≠ k := fun q => e (pA_inj hn hd hi hpl (by rw [hpp]; exact q))
      rw [if_neg (by omega), Ok_some]
      exact ⟨by push_cast; rfl, rfl, by omega⟩
  · rintro ⟨x, ρ⟩ ⟨e1, e2, hi2⟩
    omega
theorem cake_r (h : Rr kd wd n BE CE g μ) (hc : c < NN kd n) (h88 : μ 88 0 = nu kd n c) (ha : Nz a) (hw : Nz w) : Ok (fX12_cake a w μ) (fun o => o.1 = ckI kd wd n c a w ∧ Dk (upd2 μ 75 0 0) o.2) := by
  have hn := h.1.1
  unfold fX12_cake ckI
  simp only [lt]
  generalize hμ1 : upd2 μ 75 0 0 = μ1
  have hR1 : Rr kd wd n BE CE g μ1 := h.same (by rw [← hμ1, upd2_ne (by omega)]) (by rw [← hμ1, upd2_ne (by omega)])
  have h881 : μ1 88 0 = nu kd n c := by rw [← hμ1, upd2_ne (by omega)]; exact h88
  rw [nz_w ha, nz_w hw, hR1.2.1.1, w32_n (a := n) (by omega), h881, within_r (lo := 0) (hi := 3) hw ⟨by decide, by decide⟩ ⟨by decide, by decide⟩, show w32 2 = 2 from by decide]
  by_cases q0 : a < 0
  · rw [if_pos q0, if_neg (by omega), Ok_some]
    exact ⟨rfl, Dk.rf⟩
  · rw [if_neg q0]
    by_cases q1 : a < n
    · rw [if_pos q1, if_pos (show 0 ≤ a ∧ a < (n : Int) by omega)]
      obtain ⟨k, rfl⟩ : ∃ k : Nat, a = k := ⟨a.toNat, by omega⟩
      have hk : k < n := by omega
      rw [Int.toNat_natCast]
      by_cases hwr : 0 ≤ w ∧ w ≤ 3
      · rw [if_pos (decide_eq_true hwr)]
        refine Ok.then (hR1.lay hc) ?_
        rintro θ ⟨hL, hD⟩
        have hR := hR1.dk hD
        rw [find_r hR hc hL hk, Option.bind_some]
        dsimp only
        have hw4 : w = 0 ∨ w = 1 ∨ w = 2 ∨ w = 3 := by omega
        rcases hw4 with rfl | rfl | rfl | rfl
        · rw [if_pos (by decide), if_pos rfl, kind_r hn hR.2.1 hk, Option.bind_some, Ok_some]
          exact ⟨rfl, hD⟩
        · rw [if_pos (by decide), if_neg (by decide), if_pos rfl, wide_r hn hR.2.1 hk, Option.bind_some, Ok_some]
          exact ⟨rfl, hD⟩
        · rw [if_neg (by decide), if_pos rfl, if_neg (by decide), if_neg (by decide), if_pos rfl, Ok_some]
          exact ⟨rfl, hD⟩
        · rw [if_neg (show ¬ (3 : Int) < 2 by decide), if_neg (show ¬ (3 : Int) = 2 by decide), gd_pos (by omega), Ok_some]
          refine ⟨?_, hD⟩
          show (if (θ 91 k != 0) = true then (1 : Int) else 0) = (if uC kd c k = true then 1 else 0)
          simp only [hL.2 k hk, b2i_ne]
      · rw [if_neg (by rw [decide_eq_false hwr]; decide), if_neg (by omega), if_neg (by omega), if_neg (by omega), if_neg (by omega), Ok_some]
        exact ⟨rfl, Dk.rf⟩
    · rw [if_neg q1, if_neg (show ¬ (0 ≤ a ∧ a < (n : Int)) by omega), Ok_some]
      exact ⟨rfl, Dk.rf⟩
theorem there_r (h : Rr kd wd n BE CE g μ) (hc : c < NN kd n) (h88 : μ 88 0 = nu kd n c) (ha : Nz a) : Ok (fX12_there a μ) (fun o => o.1 = thI kd n c a ∧ Dk (upd2 μ 75 0 0) o.2) := by
  have hn := h.1.1
  unfold fX12_there thI
  simp only [lt]
  generalize hμ1 : upd2 μ 75 0 0 = μ1
  have hR1 : Rr kd wd n BE CE g μ1 := h.same (by rw [← hμ1, upd2_ne (by omega)]) (by rw [← hμ1, upd2_ne (by omega)])
  have h881 : μ1 88 0 = nu kd n c := by rw [← hμ1, upd2_ne (by omega)]; exact h88
  rw [h881]
  refine Ok.then (hR1.lay hc) ?_
  rintro θ ⟨hL, hD⟩
  have hR := hR1.dk hD
  rw [hR.2.1.1, within_r (lo := 0) (hi := (n : Int) - 1) ha ⟨by decide, by decide⟩ ⟨by omega, by omega⟩]
  by_cases q : 0 ≤ a ∧ a < (n : Int)
  · obtain ⟨k, rfl⟩ : ∃ k : Nat, a = k := ⟨a.toNat, by omega⟩
    rw [if_pos (decide_eq_true (by omega)), if_pos q, w32_n (a := k) (by omega), gd_pos (by omega), Int.toNat_natCast, hL.1 k (by omega), Ok_some]
    exact ⟨rfl, hD⟩
  · rw [if_neg (by rw [decide_eq_false (by omega)]; decide), if_neg q, Ok_some]
    exact ⟨rfl, hD⟩
theorem can_r (h : Rr kd wd n BE CE g μ) (hc : c < NN kd n) (h88 : μ 88 0 = nu kd n c) (ha : Nz a) : Ok (fX12_can a μ) (fun o => o.1 = caB kd wd n BE c a ∧ Dk (upd2 μ 75 0 0) o.2) := by
  have hn := h.1.1
  unfold fX12_can caB
  simp only [lt]
  generalize hμ1 : upd2 μ 75 0 0 = μ1
  have hR1 : Rr kd wd n BE CE g μ1 := h.same (by rw [← hμ1, upd2_ne (by omega)]) (by rw [← hμ1, upd2_ne (by omega)])
  have h881 : μ1 88 0 = nu kd n c := by rw [← hμ1, upd2_ne (by omega)]; exact h88
  rw [h881]
  refine Ok.then (hR1.lay hc) ?_
  rintro θ ⟨hL, hD⟩
  have hR := hR1.dk hD
  rw [hR.2.1.1, within_r (lo := 1) (hi := (n : Int)) ha ⟨by decide, by decide⟩ (nz_c (k := n) (by omega))]
  by_cases q : 1 ≤ a ∧ a ≤ (n : Int)
  · obtain ⟨k, rfl⟩ : ∃ k : Nat, a = k := ⟨a.toNat, by omega⟩
    rw [if_pos (decide_eq_true (by omega)), decide_eq_true q, Bool.true_and, Int.toNat_natCast]
    refine Ok.then (hR.may hc (by omega) (by omega) hL) ?_
    rintro ⟨o1, θ2⟩ ⟨ho, hL2, hD2⟩
    dsimp only at ho hL2 hD2 ⊢
    subst ho
    rw [Ok_some]
    refine ⟨?_, hD.tr hD2⟩
    dsimp only
    cases opC kd wd n BE c k <;> rfl
  · rw [if_neg (by rw [decide_eq_false (by omega)]; decide), decide_eq_false q, Ok_some]
    exact ⟨rfl, hD⟩
theorem cost_r2 (h : Rr kd wd n BE CE g μ) (hc : c < NN kd n) (h88 : μ 88 0 = nu kd n c) (ha : Nz a) : Ok (fX12_cost a μ) (fun o => o.1 = coI kd wd n CE c a ∧ Dk (upd2 μ 75 0 0) o.2) := by
  have hn := h.1.1
  unfold fX12_cost coI
  simp only [lt]
  generalize hμ1 : upd2 μ 75 0 0 = μ1
  have hR1 : Rr kd wd n BE CE g μ1 := h.same (by rw [← hμ1, upd2_ne (by omega)]) (by rw [← hμ1, upd2_ne (by omega)])
  have h881 : μ1 88 0 = nu kd n c := by rw [← hμ1, upd2_ne (by omega)]; exact h88
  rw [h881]
  refine Ok.then (hR1.lay hc) ?_
  rintro θ ⟨hL, hD⟩
  have hR := hR1.dk hD
  rw [hR.2.1.1, within_r (lo := 1) (hi := (n : Int)) ha ⟨by decide, by decide⟩ (nz_c (k := n) (by omega))]
  by_cases q : 1 ≤ a ∧ a ≤ (n : Int)
  · obtain ⟨k, rfl⟩ : ∃ k : Nat, a = k := ⟨a.toNat, by omega⟩
    rw [if_pos (decide_eq_true (by omega)), if_pos q, Int.toNat_natCast]
    refine Ok.then (hR.cost hc (by omega) hL) ?_
    rintro ⟨o1, θ2⟩ ⟨ho, hL2, hD2⟩
    dsimp only at ho hL2 hD2 ⊢
    rw [Ok_some]
    exact ⟨ho, hD.tr hD2⟩
  · rw [if_neg (by rw [decide_eq_false (by omega)]; decide), if_neg q, Ok_some]
    exact ⟨rfl, hD⟩
theorem srvd_r (h : Rr kd wd n BE CE g μ) (hc : c < NN kd n) (h88 : μ 88 0 = nu kd n c) : Ok (fX12_served μ) (fun o => o.1 = decide (c = g) ∧ Dk (upd2 μ 75 0 0) o.2) := by
  unfold fX12_served
  simp only [lt]
  generalize hμ1 : upd2 μ 75 0 0 = μ1
  have hR1 : Rr kd wd n BE CE g μ1 := h.same (by rw [← hμ1, upd2_ne (by omega)]) (by rw [← hμ1, upd2_ne (by omega)])
  have h881 : μ1 88 0 = nu kd n c := by rw [← hμ1, upd2_ne (by omega)]; exact h88
  rw [h881]
  refine Ok.then (hR1.lay hc) ?_
  rintro θ ⟨hL, hD⟩
  have hR := hR1.dk hD
  rw [hR.srv hc hL, Option.bind_some, Ok_some]
  exact ⟨rfl, hD⟩
end STACKR
