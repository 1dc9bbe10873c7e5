/-! ===== level 2: wish, from the invariant ===== -/
section SWISH2
variable {p : Pm} {μ ν : Mem}
theorem WiR.same2 {kd : Nat → Nat} {n : Nat} {w : Option Nat} (hn : n < 6) (h : WiR kd n w μ) (e1 : ν 75 16 = μ 75 16) (e2 : ∀ i, i < 10 → ν 85 i = μ 85 i) : WiR kd n w ν := by
  cases w with
  | none => exact e1.trans h
  | some t =>
    refine ⟨e1.trans h.1, h.2.1, fun i hi => ?_⟩
    rw [e2 _ (by omega), e2 _ (by omega)]; exact h.2.2 i hi
theorem s_wish (hG : GW μ) : S_wish GW μ := by
  obtain ⟨p, hA⟩ := hG
  obtain ⟨h, hC, hT⟩ := id hA
  have hn := h.hn
  have hc := cwish_ok (tx := p.tx) (L := p.L) (nm := p.nm) hn h.o2 h.gc h.tb h.nc h.no h.to h.tc
  have rg : ∀ μ1 : Mem, (∀ x, 75 ≤ x → μ1 x = μ x) → _ := fun μ1 hc1 => rwish_ok (μ := μ1) (n := p.n) (nm := p.nm) hn (by rw [hc1 81 (by omega)]; exact h.rr.2.1.1) (fun i hi => by rw [hc1 83 (by omega)]; exact h.nr i hi) h.no h.to (h.tr.same (congrFun (hc1 75 (by omega)) 2) (hc1 76 (by omega))) (fun w hw => by rw [hc1 80 (by omega)]; exact h.w8 w hw)
  -- how it ends, either way
  have fin : ∀ (μ1 ν : Mem) (w : Option Nat), (∀ x, x ≠ 0 → x ≠ 1 → x ≠ 3 → x ≠ 4 → μ1 x = μ x) → (∀ j, j ≠ 6 → μ1 0 j = μ 0 j) → μ1 1 1 = 0 → RFw μ1 ν → ν 75 2 = 0 → WiC w ν → WiR p.kd p.n w ν → (∀ t, w = some t → t < p.N) → GW ν := fun μ1 ν w c2 c0 c1 hR d2 wc wr wo => by
    have eN : ∀ x, x ≠ 0 → x ≠ 1 → x ≠ 3 → x ≠ 4 → x ≠ 75 → x ≠ 77 → x ≠ 78 → x ≠ 79 → x ≠ 85 → ν x = μ x := fun x q0 q1 q3 q4 q75 q77 q78 q79 q85 => (hR.1 x q75 q77 q78 q79 q85).trans (c2 x q0 q1 q3 q4)
    have e5 : ∀ j, j ≠ 0 → j ≠ 2 → j ≠ 3 → j ≠ 7 → j ≠ 8 → j ≠ 16 → ν 75 j = μ 75 j := fun j q0 q2 q3 q7 q8 q16 => (hR.2 j q0 q2 q3 q7 q8 q16).trans (congrFun (c2 75 (by omega) (by omega) (by omega) (by omega)) j)
    have e0 : ∀ j, j ≠ 6 → ν 0 j = μ 0 j := fun j q => (congrFun (hR.1 0 (by omega) (by omega) (by omega) (by omega) (by omega)) j).trans (c0 j q)
    have e25 : ν 25 = μ 25 := eN 25 (by omega) (by omega) (by omega) (by omega) (by omega) (by omega) (by omega) (by omega) (by omega)
    refine ⟨p.wsh w, h.wsh eN e0 e5 wc wr wo ?_ d2, hC.same ⟨congrFun e25 15, congrFun e25 16⟩ (fun x h1 h2 => eN x (by omega) (by omega) (by omega) (by omega) (by omega) (by omega) (by omega) (by omega) (by omega)), hT.same (e5 26 (by omega) (by omega) (by omega) (by omega) (by omega) (by omega)) (eN 92 (by omega) (by omega) (by omega) (by omega) (by omega) (by omega) (by omega) (by omega) (by omega))⟩
    rw [hR.1 1 (by omega) (by omega) (by omega) (by omega) (by omega)]; exact c1
  cases hr : aWish p.tx p.L p.n p.nm with
  | inr e =>
    rw [hr] at hc rg
    obtain ⟨μ1, e0, μ2, e1, e2⟩ := movedO (μ := μ) (f := fX11_wish μ) (r := fX12_wish) (v := (e : Int)) (by
      refine hc.imp ?_
      rintro ⟨v, μ1⟩ ⟨c1, c2, c0, rfl, c06⟩
      dsimp only at c1 c2 c0 c06 ⊢
      have hc1 : ∀ x, 75 ≤ x → μ1 x = μ x := fun x hx => c2 x (by omega) (by omega) (by omega) (by omega)
      refine ⟨hc1, rfl, (rg μ1 hc1).imp ?_⟩
      rintro ⟨v2, ν⟩ ⟨d2, hR, rfl, d16, d85⟩
      dsimp only at d2 hR d16 d85 ⊢
      refine ⟨rfl, fun x hx => hR.1 x (by omega) (by omega) (by omega) (by omega) (by omega), fin μ1 ν p.w c2 c0 c1 hR d2 ?_ ?_ h.wo⟩
      · exact (congrFun (hR.1 0 (by omega) (by omega) (by omega) (by omega) (by omega)) 6).trans (c06.trans h.wc)
      · exact h.wr.same2 hn (d16.trans (congrFun (hc1 75 (by omega)) 16)) (fun i hi => (d85 i hi).trans (congrFun (hc1 85 (by omega)) i)))
    exact ⟨_, μ1, e0, _, μ2, e1, rfl, e2⟩
  | inl s =>
    rw [hr] at hc rg
    obtain ⟨μ1, e0, μ2, e1, e2⟩ := movedO (μ := μ) (f := fX11_wish μ) (r := fX12_wish) (v := (0 : Int)) (by
      refine hc.imp ?_
      rintro ⟨v, μ1⟩ ⟨c1, c2, c0, rfl, hsn, hWO, r, hr1, hr2, c06⟩
      dsimp only at c1 c2 c0 c06 ⊢
      have hc1 : ∀ x, 75 ≤ x → μ1 x = μ x := fun x hx => c2 x (by omega) (by omega) (by omega) (by omega)
      refine ⟨hc1, rfl, (rg μ1 hc1).imp ?_⟩
      rintro ⟨v2, ν⟩ ⟨d2, hR, rfl, d16, d85⟩
      dsimp only at d2 hR d16 d85 ⊢
      have hlt : cd p.kd p.n r (fun k => s.2.2.2.2.testBit k) < p.N := cd_lt hr1
      refine ⟨rfl, fun x hx => hR.1 x (by omega) (by omega) (by omega) (by omega) (by omega), fin μ1 ν (some (cd p.kd p.n r (fun k => s.2.2.2.2.testBit k))) c2 c0 c1 hR d2 ?_ ?_ (fun t ht => by cases ht; exact hlt)⟩
      · exact (congrFun (hR.1 0 (by omega) (by omega) (by omega) (by omega) (by omega)) 6).trans c06
      · refine ⟨d16, hlt, fun i hi => ?_⟩
        obtain ⟨a1, a2⟩ := d85 i (by omega)
        have hwi := (hWO.2.2.2.1 i (by omega)).1
        rw [cd_div, hr2 i hi]
        refine ⟨a1, fun hsd => ?_⟩
        rw [a2, uC_cd hwi, hsd, Bool.true_and])
    exact ⟨_, μ1, e0, _, μ2, e1, rfl, e2⟩
end SWISH2
