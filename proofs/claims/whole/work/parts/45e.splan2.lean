/-! ===== level 2: plan, from the invariant ===== -/
section SPLAN2
variable {p : Pm} {μ ν : Mem}
def Pm.pln (p : Pm) (P : Nat) (pl : Nat → Nat) : Pm := Pm.of p.n p.g p.told p.ups p.kd p.wd p.BE p.CE p.c p.t p.s p.D p.ms p.cs p.ps p.ts p.ss p.q p.cl P pl p.w p.mk 0 p.tx p.nm
theorem Core.pln {P : Nat} {pl : Nat → Nat} (h : Core p μ) (e : ∀ x, x ≠ 1 → x ≠ 3 → x ≠ 4 → x ≠ 39 → x ≠ 40 → x ≠ 75 → x ≠ 77 → x ≠ 78 → x ≠ 79 → x ≠ 84 → ν x = μ x) (e5 : ∀ j, j ≠ 0 → j ≠ 2 → j ≠ 3 → j ≠ 7 → j ≠ 8 → ν 75 j = μ 75 j) (po : PO p.n P pl) (plc : PLc P pl ν) (plr : PLr P pl ν) (h11 : ν 1 1 = 0) (h2 : ν 75 2 = 0) : Core (p.pln P pl) ν := by
  have hto := h.gc.1
  have el : ∀ x, (x = 0 ∨ (5 ≤ x ∧ x < 39) ∨ (41 ≤ x ∧ x < 75) ∨ x = 76 ∨ (80 ≤ x ∧ x < 84) ∨ 85 ≤ x) → ν x = μ x := fun x hx => e x (by omega) (by omega) (by omega) (by omega) (by omega) (by omega) (by omega) (by omega) (by omega) (by omega)
  have e25 := el 25 (by omega)
  have e0 := el 0 (by omega)
  have e41 := el 41 (by omega)
  have e88 := el 88 (by omega)
  exact ⟨h.gc.of (congrFun e25 0) (congrFun e25 1) (el _ (by omega)) (el _ (by omega)) (el _ (by omega)), h.tb.of2 (fun j hj => congrFun e25 j) (fun x h1 h2 h3 => el x (by omega)), (congrFun e25 4).trans h.g4, (congrFun e0 2).trans h.o2, (congrFun e0 3).trans h.o3, (congrFun (el p.told (by omega)) 4).trans h.up, h.ub, h.rr.same (el 81 (by omega)) (el 82 (by omega)), (e5 22 (by omega) (by omega) (by omega) (by omega) (by omega)).trans h.d22, h.cN, h.pa, h.pc.same e41 e0 (el 44 (by omega)) (el 45 (by omega)), h.pR.same e88 (e5 20 (by omega) (by omega) (by omega) (by omega) (by omega)), h.sc.same e41 (el 42 (by omega)), h.sr.same e88, h.so, po, plc, plr, (congrFun e0 6).trans h.wc, h.wr.same (e5 16 (by omega) (by omega) (by omega) (by omega) (by omega)) (el 85 (by omega)), h.wo, fun m hm => (h.mc m hm).same (el _ (by omega)) (el _ (by omega)), fun m hm => (h.mr m hm).same (el 89 (by omega)) e88, h.mo, ⟨h11, fun i hi => absurd hi (Nat.not_lt_zero i)⟩, ⟨h2, fun i hi => absurd hi (Nat.not_lt_zero i)⟩, ⟨Nat.zero_le _, fun i hi => absurd hi (Nat.not_lt_zero i)⟩, fun k hk => (congrFun (el (p.told + 1) (by omega)) k).trans (h.nc k hk), fun k hk => by rw [el 83 (by omega)]; exact h.nr k hk, h.no, fun w hw => by rw [el 80 (by omega)]; exact h.w8 w hw, by unfold Df0; rw [el 9 (by omega), el 12 (by omega), el 19 (by omega), el 22 (by omega)]; exact h.df⟩
theorem s_plan (hG : GW μ) : S_plan GW μ := by
  obtain ⟨p, hA⟩ := hG
  obtain ⟨h, hC, hT⟩ := id hA
  have hc := cplan_ok h.hn h.gc.2.2.1 h.to h.tc
  have rg : ∀ μ1 : Mem, (∀ x, 75 ≤ x → μ1 x = μ x) → _ := fun μ1 hc1 => rplan_ok (μ := μ1) h.hn (by rw [hc1 81 (by omega)]; exact h.rr.2.1.1) h.to (h.tr.same (congrFun (hc1 75 (by omega)) 2) (hc1 76 (by omega))) (fun w hw => by rw [hc1 80 (by omega)]; exact h.w8 w hw)
  -- how it ends, either way
  have fin : ∀ (μ1 ν : Mem) (P : Nat) (pl : Nat → Nat), (∀ x, x ≠ 1 → x ≠ 3 → x ≠ 4 → x ≠ 39 → x ≠ 40 → μ1 x = μ x) → μ1 1 1 = 0 → RFp μ1 ν → ν 75 2 = 0 → PO p.n P pl → PLc P pl ν → PLr P pl ν → GW ν := fun μ1 ν P pl c2 c1 hR d2 po plc plr => by
    have eN : ∀ x, x ≠ 1 → x ≠ 3 → x ≠ 4 → x ≠ 39 → x ≠ 40 → x ≠ 75 → x ≠ 77 → x ≠ 78 → x ≠ 79 → x ≠ 84 → ν x = μ x := fun x q1 q3 q4 q39 q40 q75 q77 q78 q79 q84 => (hR.1 x q75 q77 q78 q79 q84).trans (c2 x q1 q3 q4 q39 q40)
    have e5 : ∀ j, j ≠ 0 → j ≠ 2 → j ≠ 3 → j ≠ 7 → j ≠ 8 → ν 75 j = μ 75 j := fun j q0 q2 q3 q7 q8 => (hR.2 j q0 q2 q3 q7 q8).trans (congrFun (c2 75 (by omega) (by omega) (by omega) (by omega) (by omega)) j)
    have e25 : ν 25 = μ 25 := eN 25 (by omega) (by omega) (by omega) (by omega) (by omega) (by omega) (by omega) (by omega) (by omega) (by omega)
    refine ⟨p.pln P pl, h.pln eN e5 po plc plr ?_ d2, hC.same ⟨congrFun e25 15, congrFun e25 16⟩ (fun x h1 h2 => eN x (by omega) (by omega) (by omega) (by omega) (by omega) (by omega) (by omega) (by omega) (by omega) (by omega)), hT.same (e5 26 (by omega) (by omega) (by omega) (by omega) (by omega)) (eN 92 (by omega) (by omega) (by omega) (by omega) (by omega) (by omega) (by omega) (by omega) (by omega) (by omega))⟩
    rw [hR.1 1 (by omega) (by omega) (by omega) (by omega) (by omega)]; exact c1
  cases hr : aPlL p.tx p.L p.n (p.L + 2) (0, 0, fun _ => 0) with
  | inr e =>
    rw [hr] at hc rg
    obtain ⟨μ1, e0, μ2, e1, e2⟩ := movedO (μ := μ) (f := fX11_plan μ) (r := fX12_plan) (v := (e : Int)) (by
      refine hc.imp ?_
      rintro ⟨v, μ1⟩ ⟨c1, c2, rfl, c39, c40⟩
      dsimp only at c1 c2 c39 c40 ⊢
      have hc1 : ∀ x, 75 ≤ x → μ1 x = μ x := fun x hx => c2 x (by omega) (by omega) (by omega) (by omega) (by omega)
      refine ⟨hc1, rfl, (rg μ1 hc1).imp ?_⟩
      rintro ⟨v2, ν⟩ ⟨d2, hR, rfl, d84⟩
      dsimp only at d2 hR d84 ⊢
      refine ⟨rfl, fun x hx => hR.1 x (by omega) (by omega) (by omega) (by omega) (by omega), fin μ1 ν p.P p.pl c2 c1 hR d2 h.po ?_ ?_⟩
      · exact h.plc.same ((hR.1 39 (by omega) (by omega) (by omega) (by omega) (by omega)).trans c39) ((hR.1 40 (by omega) (by omega) (by omega) (by omega) (by omega)).trans c40)
      · have hP := h.po.1
        have e84 : μ1 84 = μ 84 := hc1 84 (by omega)
        exact ⟨(d84 0 (by omega)).trans ((congrFun e84 0).trans h.plr.1), fun i hi => (d84 (1 + i) (by omega)).trans ((congrFun e84 _).trans (h.plr.2 i hi))⟩)
    exact ⟨_, μ1, e0, _, μ2, e1, rfl, e2⟩
  | inl s =>
    rw [hr] at hc rg
    have hpo := aPlL_po (p.L + 2) _ _ (⟨Nat.zero_le _, fun i hi => absurd hi (Nat.not_lt_zero i)⟩ : PO p.n ((0, 0, fun _ => 0) : PlS).2.1 ((0, 0, fun _ => 0) : PlS).2.2) hr
    obtain ⟨μ1, e0, μ2, e1, e2⟩ := movedO (μ := μ) (f := fX11_plan μ) (r := fX12_plan) (v := (0 : Int)) (by
      refine hc.imp ?_
      rintro ⟨v, μ1⟩ ⟨c1, c2, rfl, cP⟩
      dsimp only at c1 c2 cP ⊢
      have hc1 : ∀ x, 75 ≤ x → μ1 x = μ x := fun x hx => c2 x (by omega) (by omega) (by omega) (by omega) (by omega)
      refine ⟨hc1, rfl, (rg μ1 hc1).imp ?_⟩
      rintro ⟨v2, ν⟩ ⟨d2, hR, rfl, dP⟩
      dsimp only at d2 hR dP ⊢
      exact ⟨rfl, fun x hx => hR.1 x (by omega) (by omega) (by omega) (by omega) (by omega), fin μ1 ν s.2.1 s.2.2 c2 c1 hR d2 hpo (cP.same (hR.1 39 (by omega) (by omega) (by omega) (by omega) (by omega)) (hR.1 40 (by omega) (by omega) (by omega) (by omega) (by omega))) dP⟩)
    exact ⟨_, μ1, e0, _, μ2, e1, rfl, e2⟩
end SPLAN2
