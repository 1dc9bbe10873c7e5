/-! ===== level 2: rests, the good guards; both say the same ===== -/
section RESTG
variable {μ ν : Mem} {a b c d : Int}
theorem rsF_m (h : d < 0) : ∀ q, rsF a b c d q = -1
  | 0 => rfl
  | q + 1 => by
    rw [rsF_s, if_neg (fun k => by have := k.2; omega)]
    exact rsF_m h q
theorem j174_t (hd : w32 d = d) {x y : Int} (hy : w32 y = y) : fX12_rests_j174 a b c d true x y ν = some (if 0 ≤ d ∧ y < 0 then (0, upd2 ν 75 0 1) else (if d < 0 then x else y, upd2 ν 75 0 0)) := by
  unfold fX12_rests_j174
  simp only [lt]
  rw [if_pos trivial, hd, hy]
  by_cases q1 : d < 0
  · simp only [if_pos q1, upd2_at]
    rw [if_pos (show w32 (b2i false) ≤ 0 by decide), if_neg (show ¬ (0 ≤ d ∧ y < 0) by omega)]
    rfl
  · simp only [if_neg q1]
    by_cases q2 : y < 0
    · simp only [if_pos q2, upd2_at]
      rw [if_neg (show ¬ w32 (b2i true) ≤ 0 by decide), if_pos (show 0 ≤ d ∧ y < 0 by omega)]
      rfl
    · simp only [if_neg q2, upd2_at]
      rw [if_pos (show w32 (b2i false) ≤ 0 by decide), if_neg (show ¬ (0 ≤ d ∧ y < 0) by omega)]
      rfl
theorem rest_both (hd : w32 d = d) : ∃ (v : Int) (t : Bool), (∀ μ : Mem, fX11_rests a b c d μ = some (v, t)) ∧ ∀ ν : Mem, fX12_rests a b c d ν = some (v, upd2 ν 75 0 (b2i t)) := by
  by_cases hg : fX11_isDigit a = true ∧ fX11_isDigit b = true ∧ fX11_isDigit c = true ∧ ¬ w32 d < w32 (-1)
  · obtain ⟨g1, g2, g3, g4⟩ := hg
    have h4 : ¬ d < -1 := by rw [hd, show w32 (-1) = -1 from by decide] at g4; exact g4
    have hf := rsF_b (a := a) (b := b) (c := c) (d := d) 4
    have e1 : ∀ μ : Mem, fX11_rests a b c d μ = some (if 0 ≤ rsF a b c d 4 then (rsF a b c d 4, false) else if d = -1 then ((cn 4 (rsB a b c) : Int), false) else (0, true)) := fun μ => by
      unfold fX11_rests
      rw [if_pos g1, if_pos g2, if_pos g3, if_neg g4]
      exact Ok_val (rloop_c hd (by omega))
    have e2 : ∀ ν : Mem, fX12_rests a b c d ν = fX12_rests_j174 a b c d true (cn 4 (rsB a b c) : Int) (rsF a b c d 4) ν := fun ν => by
      unfold fX12_rests
      simp only [lt]
      rw [dig_eq, dig_eq, dig_eq, if_pos g1, if_pos g2, if_pos g3, if_neg g4, Ok_val (rloop_r hd), Option.bind_some]
      try rfl
    have e3 : ∀ ν : Mem, fX12_rests a b c d ν = some (if 0 ≤ d ∧ rsF a b c d 4 < 0 then (0, upd2 ν 75 0 1) else (if d < 0 then (cn 4 (rsB a b c) : Int) else rsF a b c d 4, upd2 ν 75 0 0)) := fun ν => (e2 ν).trans (j174_t hd (w32_eq (by omega) (by omega)))
    by_cases q1 : d < 0
    · have q2 : d = -1 := by omega
      have q3 := rsF_m (a := a) (b := b) (c := c) q1 4
      refine ⟨(cn 4 (rsB a b c) : Int), false, fun μ => ?_, fun ν => ?_⟩
      · rw [e1, q3, if_neg (show ¬ (0 : Int) ≤ -1 by decide), if_pos q2]
      · rw [e3, if_neg (show ¬ (0 ≤ d ∧ rsF a b c d 4 < 0) by omega), if_pos q1]; rfl
    · by_cases q2 : 0 ≤ rsF a b c d 4
      · refine ⟨rsF a b c d 4, false, fun μ => ?_, fun ν => ?_⟩
        · rw [e1, if_pos q2]
        · rw [e3, if_neg (show ¬ (0 ≤ d ∧ rsF a b c d 4 < 0) by omega), if_neg q1]; rfl
      · refine ⟨0, true, fun μ => ?_, fun ν => ?_⟩
        · rw [e1, if_neg q2, if_neg (show ¬ d = -1 by omega)]
        · rw [e3, if_pos (show 0 ≤ d ∧ rsF a b c d 4 < 0 by omega)]; rfl
  · have e1 : ∀ μ : Mem, fX11_rests a b c d μ = some (0, true) := fun μ => by
      unfold fX11_rests
      by_cases q1 : fX11_isDigit a = true
      · rw [if_pos q1]
        by_cases q2 : fX11_isDigit b = true
        · rw [if_pos q2]
          by_cases q3 : fX11_isDigit c = true
          · rw [if_pos q3]
            by_cases q4 : w32 d < w32 (-1)
            · rw [if_pos q4]
            · exact absurd ⟨q1, q2, q3, q4⟩ hg
          · rw [if_neg q3]
        · rw [if_neg q2]
      · rw [if_neg q1]
    exact ⟨0, true, e1, fun ν => rest_bad (e1 ν) hg⟩
/-- cell 96 is nobody's -/
theorem Core.q96 {p : Pm} (h : Core p μ) (hD : ∀ x, x ≠ 96 → ν x = μ x) : Core p ν := by
  have hto := h.gc.1
  have e := hD
  exact ⟨h.gc.of (by rw [e 25 (by omega)]) (by rw [e 25 (by omega)]) (e _ (by omega)) (e _ (by omega)) (e _ (by omega)), h.tb.of2 (fun j hj => by rw [e 25 (by omega)]) (fun x h1 h2 h3 => e x (by omega)), by rw [e 25 (by omega)]; exact h.g4, by rw [e 0 (by omega)]; exact h.o2, by rw [e 0 (by omega)]; exact h.o3, by rw [e _ (by omega)]; exact h.up, h.ub, h.rr.same (e 81 (by omega)) (e 82 (by omega)), by rw [e 75 (by omega)]; exact h.d22, h.cN, h.pa, h.pc.same (e 41 (by omega)) (e 0 (by omega)) (e 44 (by omega)) (e 45 (by omega)), h.pR.same (e 88 (by omega)) (by rw [e 75 (by omega)]), h.sc.same (e 41 (by omega)) (e 42 (by omega)), h.sr.same (e 88 (by omega)), h.so, h.po, h.plc.same (e 39 (by omega)) (e 40 (by omega)), h.plr.same (e 84 (by omega)), by unfold WiC; rw [e 0 (by omega)]; exact h.wc, h.wr.same (by rw [e 75 (by omega)]) (e 85 (by omega)), h.wo, fun m hm => (h.mc m hm).same (e _ (by omega)) (e _ (by omega)), fun m hm => (h.mr m hm).same (e 89 (by omega)) (e 88 (by omega)), h.mo, h.tc.same (e 1 (by omega)) (e 2 (by omega)), h.tr.same (by rw [e 75 (by omega)]) (e 76 (by omega)), h.to, fun k hk => by rw [e _ (by omega)]; exact h.nc k hk, fun k hk => by rw [e 83 (by omega)]; exact h.nr k hk, h.no, fun w hw => by rw [e 80 (by omega)]; exact h.w8 w hw, by unfold Df0; rw [e 9 (by omega), e 12 (by omega), e 19 (by omega), e 22 (by omega)]; exact h.df⟩
theorem GW.q96 {z : Int} (hG : GW μ) : GW (upd2 μ 96 0 z) := by
  obtain ⟨p, h1, h2, h3⟩ := hG
  exact ⟨p, h1.q96 (fun x hx => upd2_ne (by omega)), h2.same ⟨by rw [upd2_ne (by omega)], by rw [upd2_ne (by omega)]⟩ (fun x _ _ => upd2_ne (by omega)), h3.same (by rw [upd2_ne (by omega)]) (upd2_ne (by omega))⟩
theorem GW.q750 {z : Int} (hG : GW μ) : GW (upd2 μ 75 0 z) := by
  obtain ⟨p, h1, h2, h3⟩ := hG
  have hQ : Qr μ (upd2 μ 75 0 z) := ⟨fun x hx => upd2_ne (by omega), fun j h0 _ _ => upd2_nj h0⟩
  exact ⟨p, h1.qr hQ, h2.qr hQ, h3.same (upd2_nj (by omega)) (upd2_ne (by omega))⟩
end RESTG
