/-! ===== level 2: griddle ===== -/
section SGRIDDLE
variable {p : Pm} {μ ν : Mem}
theorem RLw.same2 {slot : Nat} {f : LawF} {dv : Int} (h : RLw slot f dv μ) (e1 : ν 81 slot = μ 81 slot) (e2 : ∀ i, i < 1100 → ν 82 i = μ 82 i) : RLw slot f dv ν := by
  rcases h with ⟨h1, h2⟩ | ⟨p, h1, h2, h3⟩
  · exact Or.inl ⟨e1.trans h1, h2⟩
  · exact Or.inr ⟨p, e1.trans h1, h2, fun μ' e => h3 μ' (fun i hi => (e i hi).trans (e2 i hi))⟩
theorem Rg.same2 {kd wd : Nat → Nat} {n : Nat} (hn : n < 6) (h : Rg kd wd n μ) (e : ∀ j, j < 20 → ν 81 j = μ 81 j) : Rg kd wd n ν := by
  refine ⟨(e 0 (by omega)).trans h.1, fun k hk => ?_⟩
  rw [e _ (by omega), e _ (by omega)]; exact h.2 k hk
/-- a fault: the text is gone, nothing else -/
theorem Core.fault {μ1 : Mem} (h : Core p μ) (hF : CF2 (20 - p.told) μ μ1) (h11 : μ1 1 1 = 0) (hd : Df0 μ1) (hx : ∀ x, x < 75 → ν x = μ1 x) (hR : RF2 μ1 ν) (h2 : ν 75 2 = 0) (hc : ∀ x, 75 ≤ x → μ1 x = μ x) : Core (p.tex 0 p.tx) ν := by
  have hto := h.gc.1
  have hn := h.hn
  have lo : ∀ x, x < 75 → x ≠ 1 → x ≠ 3 → ¬ (20 - p.told ≤ x ∧ x ≤ 20 - p.told + 9) → ν x = μ x := fun x q1 q2 q3 q4 => (hx x q1).trans (hF.1 x q2 q3 q4)
  have hi : ∀ x, 75 ≤ x → x ≠ 75 → x ≠ 77 → x ≠ 78 → x ≠ 79 → x ≠ 81 → x ≠ 82 → x ≠ 83 → ν x = μ x := fun x q q1 q2 q3 q4 q5 q6 q7 => (hR.1 x q1 q2 q3 q4 q5 q6 q7).trans (hc x q)
  have h5 : ∀ j, j ≠ 0 → j ≠ 2 → j ≠ 3 → j ≠ 7 → j ≠ 8 → j ≠ 12 → ν 75 j = μ 75 j := fun j q0 q2 q3 q7 q8 q12 => (hR.2.1 j q0 q2 q3 q7 q8 q12).trans (congrFun (hc 75 (by omega)) j)
  have h81 : ∀ j, j < 20 → ν 81 j = μ 81 j := fun j q => (hR.2.2.1 j q).trans (congrFun (hc 81 (by omega)) j)
  have h82 : ∀ j, j < 1100 → ν 82 j = μ 82 j := fun j q => (hR.2.2.2.1 j q).trans (congrFun (hc 82 (by omega)) j)
  have h83 : ∀ j, j < 5 → ν 83 j = μ 83 j := fun j q => (hR.2.2.2.2 j q).trans (congrFun (hc 83 (by omega)) j)
  have e25 : ν 25 = μ 25 := lo 25 (by omega) (by omega) (by omega) (by omega)
  have e0 : ν 0 = μ 0 := lo 0 (by omega) (by omega) (by omega) (by omega)
  have e41 : ν 41 = μ 41 := lo 41 (by omega) (by omega) (by omega) (by omega)
  have e88 : ν 88 = μ 88 := hi 88 (by omega) (by omega) (by omega) (by omega) (by omega) (by omega) (by omega) (by omega)
  have e89 : ν 89 = μ 89 := hi 89 (by omega) (by omega) (by omega) (by omega) (by omega) (by omega) (by omega) (by omega)
  have e84 : ν 84 = μ 84 := hi 84 (by omega) (by omega) (by omega) (by omega) (by omega) (by omega) (by omega) (by omega)
  have e85 : ν 85 = μ 85 := hi 85 (by omega) (by omega) (by omega) (by omega) (by omega) (by omega) (by omega) (by omega)
  have e80 : ν 80 = μ 80 := hi 80 (by omega) (by omega) (by omega) (by omega) (by omega) (by omega) (by omega) (by omega)
  exact ⟨h.gc.of (congrFun e25 0) (congrFun e25 1) (lo _ (by omega) (by omega) (by omega) (by omega)) (lo _ (by omega) (by omega) (by omega) (by omega)) (lo _ (by omega) (by omega) (by omega) (by omega)), h.tb.of2 (fun j hj => congrFun e25 j) (fun x h1 h2 h3 => lo x (by omega) (by omega) (by omega) (by omega)), (congrFun e25 4).trans h.g4, (congrFun e0 2).trans h.o2, (congrFun e0 3).trans h.o3, (congrFun (lo p.told (by omega) (by omega) (by omega) (by omega)) 4).trans h.up, h.ub, ⟨h.rr.1, h.rr.2.1.same2 hn h81, h.rr.2.2.1.same2 (h81 1 (by omega)) h82, h.rr.2.2.2.same2 (h81 2 (by omega)) h82⟩, (h5 22 (by omega) (by omega) (by omega) (by omega) (by omega) (by omega)).trans h.d22, h.cN, h.pa, h.pc.same e41 e0 (lo 44 (by omega) (by omega) (by omega) (by omega)) (lo 45 (by omega) (by omega) (by omega) (by omega)), h.pR.same e88 (h5 20 (by omega) (by omega) (by omega) (by omega) (by omega) (by omega)), h.sc.same e41 (lo 42 (by omega) (by omega) (by omega) (by omega)), h.sr.same e88, h.so, h.po, h.plc.same (lo 39 (by omega) (by omega) (by omega) (by omega)) (lo 40 (by omega) (by omega) (by omega) (by omega)), h.plr.same e84, (congrFun e0 6).trans h.wc, h.wr.same (h5 16 (by omega) (by omega) (by omega) (by omega) (by omega) (by omega)) e85, h.wo, fun m hm => (h.mc m hm).same (lo _ (by omega) (by omega) (by omega) (by omega)) (lo _ (by omega) (by omega) (by omega) (by omega)), fun m hm => (h.mr m hm).same e89 e88, h.mo, ⟨(congrFun (hx 1 (by omega)) 1).trans h11, fun i hi => absurd hi (Nat.not_lt_zero i)⟩, ⟨h2, fun i hi => absurd hi (Nat.not_lt_zero i)⟩, ⟨Nat.zero_le _, fun i hi => absurd hi (Nat.not_lt_zero i)⟩, fun k hk => (congrFun (lo (p.told + 1) (by omega) (by omega) (by omega) (by omega)) k).trans (h.nc k hk), fun k hk => (h83 k (by show k < 5; have : k < p.n := hk; omega)).trans (h.nr k hk), h.no, fun w hw => by rw [e80]; exact h.w8 w hw, by unfold Df0 at hd ⊢; rw [hx 9 (by omega), hx 12 (by omega), hx 19 (by omega), hx 22 (by omega)]; exact hd⟩
/-- a new griddle -/
def Pm.new (g gl : Nat) (D : Dr) (tx : Nat → Nat) : Pm := Pm.of D.n gl g (upN D.up D.n) D.kd D.wd (lawF D.bars 0) (lawF D.costs 1) (tdN D.kd D.n (upN D.up D.n)) 0 0 0 (fun _ => 0) (fun _ => tdN D.kd D.n (upN D.up D.n)) (fun _ => 0) (fun _ => 0) (fun _ => 0) 0 (fun _ => (0, 0, false)) 0 (fun _ => 0) none (fun _ => none) 0 tx D.nm
theorem Core.new {g gl : Nat} {D : Dr} {tx : Nat → Nat} {μ1 : Mem} (hD : DrO D) (hL : LwO D) (hC : CS2 g gl D μ1) (h11 : μ1 1 1 = 0) (hd : Df0 μ1) (hx : ∀ x, x < 75 → ν x = μ1 x) (hR : RS2 D ν) (h2 : ν 75 2 = 0) (h8 : W80 ν) : Core (Pm.new g gl D tx) ν := by
  obtain ⟨hGc, hTb, hg4, hGl, h02, h03, hu, hNm, ⟨b1, b2, b3, b4, b5, b6, b7⟩, hmk, -, -, -⟩ := hC
  obtain ⟨r1, r2, r3, r4, r22, q0, q1, q2, q3, q84, q16, q20, q26, q89⟩ := hR
  have hto := hGc.1
  have hn : D.n < 6 := by have := hD.1; omega
  have hup := upN_lt (up := D.up) D.n
  have hp5 := two_pow_5 hn
  have e25 := hx 25 (by omega)
  have e0 := hx 0 (by omega)
  have e41 := hx 41 (by omega)
  exact ⟨hGc.of (congrFun e25 0) (congrFun e25 1) (hx _ (by show g < 75; omega)) (hx _ (by show g + 2 < 75; omega)) (hx _ (by show g + 3 < 75; omega)), hTb.of2 (fun j _ => congrFun e25 j) (fun x h1 h2 h3 => hx x (by omega)), (congrFun e25 4).trans hg4, (congrFun e0 2).trans h02, (congrFun e0 3).trans h03, (congrFun (hx g (by omega)) 4).trans hu, (by show upN D.up D.n < 1000000; omega), ⟨⟨hn, hD.2.2.2.2, hGl, lawF_nz ⟨by decide, by decide⟩ hL.1, lawF_nz ⟨by decide, by decide⟩ hL.2⟩, r1, r2, r3⟩, r22, tdN_lt hn, ⟨Nat.zero_le _, rfl, rfl, rfl, fun i hi => absurd hi (Nat.not_lt_zero i)⟩, ⟨(congrFun e41 1).trans b3, (congrFun e41 2).trans b4, (congrFun e41 3).trans b5, (congrFun e0 11).trans b7, fun i hi => absurd hi (Nat.not_lt_zero i)⟩, ⟨q0, q1, q2, q20, fun i hi => absurd hi (Nat.not_lt_zero i)⟩, ⟨(congrFun e41 4).trans b6, fun i hi => absurd hi (Nat.not_lt_zero i)⟩, ⟨q3, fun i hi => absurd hi (Nat.not_lt_zero i)⟩, ⟨Nat.zero_le _, fun i hi => absurd hi (Nat.not_lt_zero i)⟩, ⟨Nat.zero_le _, fun i hi => absurd hi (Nat.not_lt_zero i)⟩, ⟨(congrFun (hx 39 (by omega)) 1).trans b1, fun i hi => absurd hi (Nat.not_lt_zero i)⟩, ⟨q84, fun i hi => absurd hi (Nat.not_lt_zero i)⟩, (congrFun e0 6).trans b2, q16, fun t ht => (by cases ht), fun m hm => (congrFun (hx (57 + 2 * m) (by omega)) 0).trans (hmk m hm), fun m hm => q89 m hm, fun m hm => trivial, ⟨(congrFun (hx 1 (by omega)) 1).trans h11, fun i hi => absurd hi (Nat.not_lt_zero i)⟩, ⟨h2, fun i hi => absurd hi (Nat.not_lt_zero i)⟩, ⟨Nat.zero_le _, fun i hi => absurd hi (Nat.not_lt_zero i)⟩, fun k hk => (congrFun (hx (g + 1) (by omega)) k).trans (hNm k hk), r4, hD.2.1, h8, by unfold Df0 at hd ⊢; rw [hx 9 (by omega), hx 12 (by omega), hx 19 (by omega), hx 22 (by omega)]; exact hd⟩
theorem s_griddle (hG : GW μ) : S_griddle GW μ := by
  obtain ⟨p, hA⟩ := hG
  obtain ⟨h, hC, hT⟩ := id hA
  have hl : ∀ s, aGL p.tx p.L (p.L + 2) (0, Dr.none) = .inl s → LwO s.2 ∧ LnO s.2 := by
    intro s hs
    obtain ⟨o, -, -, -, hm⟩ := rgriddle_ok h.to h.tr h.w8
    rw [hs] at hm
    exact ⟨hm.2.2.1, hm.2.2.2.1⟩
  have hto := h.gc.1
  have hc := cgriddle_ok h.gc.1 h.o2 h.o3 h.df h.to h.tc hl
  have rg : ∀ μ1 : Mem, (∀ x, 75 ≤ x → μ1 x = μ x) → _ := fun μ1 hc1 => rgriddle_ok (μ := μ1) h.to (h.tr.same (congrFun (hc1 75 (by omega)) 2) (hc1 76 (by omega))) (fun w hw => by rw [hc1 80 (by omega)]; exact h.w8 w hw)
  cases hr : aGL p.tx p.L (p.L + 2) (0, Dr.none) with
  | inr e =>
    rw [hr] at hc rg
    obtain ⟨μ1, e0, μ2, e1, e2⟩ := movedO (μ := μ) (f := fX11_griddle μ) (r := fX12_griddle) (v := (e : Int)) (by
      refine hc.imp ?_
      rintro ⟨v, μ1⟩ ⟨c1, c2, c3, c4, rfl, n0, nb, hF⟩
      dsimp only at c1 c2 c3 c4 hF ⊢
      refine ⟨c1, rfl, (rg μ1 c1).imp ?_⟩
      rintro ⟨v2, ν⟩ ⟨d1, d2, rfl, -, -, hR⟩
      dsimp only at d1 d2 hR ⊢
      refine ⟨rfl, fun x hx => d1 x (by omega), p.tex 0 p.tx, h.fault hF c2 c3 (fun x hx => d1 x (by omega)) hR d2 c1, ?_, ?_⟩
      · refine hC.same ⟨?_, ?_⟩ (fun x h1 h2 => ?_)
        · rw [d1 25 (by omega), hF.1 25 (by omega) (by omega) (by omega)]
        · rw [d1 25 (by omega), hF.1 25 (by omega) (by omega) (by omega)]
        · rw [d1 x (by omega), hF.1 x (by omega) (by omega) (by omega)]
      · exact hT.same ((hR.2.1 26 (by omega) (by omega) (by omega) (by omega) (by omega) (by omega)).trans (congrFun (c1 75 (by omega)) 26)) ((d1 92 (by omega)).trans (c1 92 (by omega))))
    exact ⟨_, μ1, e0, _, μ2, e1, rfl, e2⟩
  | inl s =>
    rw [hr] at hc rg
    obtain ⟨μ1, e0, μ2, e1, e2⟩ := movedO (μ := μ) (f := fX11_griddle μ) (r := fX12_griddle) (v := (0 : Int)) (by
      refine hc.imp ?_
      rintro ⟨v, μ1⟩ ⟨c1, c2, c3, c4, rfl, dO, gl, hS, k25, kst⟩
      dsimp only at c1 c2 c3 c4 hS k25 kst ⊢
      refine ⟨c1, rfl, (rg μ1 c1).imp ?_⟩
      rintro ⟨v2, ν⟩ ⟨d1, d2, rfl, -, dL, -, hR⟩
      dsimp only at d1 d2 hR ⊢
      refine ⟨rfl, fun x hx => d1 x (by omega), Pm.new (20 - p.told) gl s.2 p.tx, Core.new dO dL hS c2 c3 (fun x hx => d1 x (by omega)) hR d2 (fun w hw => by rw [d1 80 (by omega), c1 80 (by omega)]; exact h.w8 w hw), ?_, ?_⟩
      · obtain ⟨-, -, -, -, -, -, -, -, -, -, w5, w53, w55⟩ := hS
        refine ⟨?_, fun k bk b hk => ?_, fun q => absurd ?_ q, fun q => absurd ?_ q⟩
        · rw [d1 25 (by omega), k25 15 (by omega), k25 16 (by omega)]; exact hC.sck
        · have kb := isSt_b (stB_is hk).1
          rw [d1 k (by omega), kst k bk b hk 1 (by omega), kst k bk b hk 2 (by omega)]
          obtain ⟨a1, a2, -⟩ := hC.st k bk b hk
          refine ⟨a1, a2, fun q => absurd ?_ q⟩
          rw [d1 k (by omega)]; exact w5 k bk b hk
        · rw [d1 53 (by omega)]; exact w53
        · rw [d1 55 (by omega)]; exact w55
      · have q26 : ν 75 26 = 0 := hR.2.2.2.2.2.2.2.2.2.2.2.2.1
        refine ⟨Or.inl q26, fun q => ?_, fun q => ?_, fun q => ?_⟩
        · rw [q26] at q; exact absurd q (by decide)
        · rw [q26] at q; exact absurd q (by decide)
        · rw [q26] at q; exact absurd q (by decide))
    exact ⟨_, μ1, e0, _, μ2, e1, rfl, e2⟩
end SGRIDDLE
