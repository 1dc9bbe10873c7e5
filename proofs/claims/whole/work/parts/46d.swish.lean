/-! ===== level 2: wish ===== -/
section SWISH
variable {tx : Nat → Nat} {L n : Nat} {nm : Nat → List Nat} {p : Pm} {μ ν : Mem}
theorem rws_ok (hn : n < 6) (h81 : μ 81 0 = n) (h83 : ∀ i, i < n → μ 83 i = (pkW 37 (nm i) : Int)) (hNm : NmO n nm) (h : RWs tx L (0, 0, fun _ => 0, 0, 0) μ) : Ok (loopN (fun s => fX12_wish_b13 s.1 s.2.1 s.2.2) FU (0, 0, μ)) (fun o => RwF μ o ∧ match aWsL tx L n nm n (0, 0, fun _ => 0, 0, 0) with
    | .inl t => RWs tx L t o
    | .inr e => RE tx L e o) := by
  generalize hR : aWsL tx L n nm n (0, 0, fun _ => 0, 0, 0) = R
  refine loop_I (Q := fun o : Mem => RwF μ o ∧ match (generalizing := false) R with
    | .inl t => RWs tx L t o
    | .inr e => RE tx L e o) ((0 : Int), (0 : Int), μ) (fun t : Int × Int × Mem => 10 - t.2.1.toNat) (fun t : Int × Int × Mem => ∃ i : Nat, t.2.1 = i ∧ i ≤ n ∧ RwF μ t.2.2 ∧ ((∃ u : WSt, u.2.1 = i ∧ t.1 = u.2.2.2.1 ∧ RWs tx L u t.2.2 ∧ WO n u ∧ aWsL tx L n nm (n - i) u = R) ∨ ∃ e, RE tx L e t.2.2 ∧ R = .inr e)) (by exact ⟨0, rfl, Nat.zero_le _, .rf, Or.inl ⟨(0, 0, fun _ => 0, 0, 0), rfl, rfl, h, WO.zero, hR⟩⟩) (by show 10 - _ < _; omega) ?_
  rintro ⟨v2, v3, ρ⟩ ⟨i, e1, hi, hP, hcase⟩
  dsimp only at e1 hP hcase ⊢
  subst e1
  have e81 : ρ 81 = μ 81 := hP.1 81 (by omega) (by omega)
  have e83 : ρ 83 = μ 83 := hP.1 83 (by omega) (by omega)
  have r81 : ρ 81 0 = n := by rw [e81]; exact h81
  rcases hcase with ⟨u, rfl, rfl, hu, hO, ha⟩ | ⟨e, hE, ha⟩
  rotate_left
  · have hq : Ok (some (.inr ρ : (Int × Int × Mem) ⊕ Mem)) (Sum.elim (fun s2 => (∃ i : Nat, s2.2.1 = i ∧ i ≤ n ∧ RwF μ s2.2.2 ∧ ((∃ u : WSt, u.2.1 = i ∧ s2.1 = u.2.2.2.1 ∧ RWs tx L u s2.2.2 ∧ WO n u ∧ aWsL tx L n nm (n - i) u = R) ∨ ∃ e, RE tx L e s2.2.2 ∧ R = .inr e)) ∧ 10 - s2.2.1.toNat < 10 - ((i : Nat) : Int).toNat) (fun o : Mem => RwF μ o ∧ match (generalizing := false) R with
      | .inl t => RWs tx L t o
      | .inr e => RE tx L e o)) := by
      rw [Ok_some, ha]
      exact ⟨hP, hE⟩
    unfold fX12_wish_b13
    rw [r81, w32_n (a := i) (by omega), w32_n (a := n) (by omega)]
    by_cases c : (i : Int) < n
    · rw [if_pos c, if_neg hE.ne]; exact hq
    · rw [if_neg c]; exact hq
  by_cases hin : u.2.1 = n
  · unfold fX12_wish_b13
    rw [r81, w32_n (a := u.2.1) (by omega), w32_n (a := n) (by omega), if_neg (by omega), Ok_some]
    rw [hin, Nat.sub_self] at ha
    rw [← ha]
    exact ⟨hP, hu⟩
  have hlt : u.2.1 < n := by omega
  obtain ⟨f', hf'⟩ : ∃ f', n - u.2.1 = f' + 1 := ⟨n - u.2.1 - 1, by omega⟩
  rw [hf', aWsL] at ha
  refine Ok.imp (rwish1_ok hn r81 (fun k hk => by rw [e83]; exact h83 k hk) hNm hu hO hlt) ?_
  rintro r ⟨⟨v2', v3', ρ2⟩, rfl, k1, hF, hm⟩
  dsimp only at k1 hF hm
  subst k1
  refine ⟨⟨u.2.1 + 1, rfl, by omega, hP.tr hF, ?_⟩, by dsimp only; omega⟩
  dsimp only
  cases hst : aWish1 tx L n nm u with
  | inr e =>
    rw [hst] at ha hm
    exact Or.inr ⟨e, hm, ha.symm⟩
  | inl t =>
    rw [hst] at ha hm
    obtain ⟨o1, o2⟩ := aWish1_o hn hlt hO hst
    exact Or.inl ⟨t, o2, hm.1, hm.2, o1, by rw [show n - (u.2.1 + 1) = f' by omega]; exact ha⟩
def RFw (μ ν : Mem) : Prop := (∀ x, x ≠ 75 → x ≠ 77 → x ≠ 78 → x ≠ 79 → x ≠ 85 → ν x = μ x) ∧ ∀ j, j ≠ 0 → j ≠ 2 → j ≠ 3 → j ≠ 7 → j ≠ 8 → j ≠ 16 → ν 75 j = μ 75 j
theorem rwish_ok (hn : n < 6) (h81 : μ 81 0 = n) (h83 : ∀ i, i < n → μ 83 i = (pkW 37 (nm i) : Int)) (hNm : NmO n nm) (hO : TxO L tx) (hT : TxR L tx μ) (h8 : W80 μ) : Ok (fX12_wish μ) (fun o => o.2 75 2 = 0 ∧ RFw μ o.2 ∧ match aWish tx L n nm with
    | .inr e => o.1 = (e : Int) ∧ o.2 75 16 = μ 75 16 ∧ ∀ i, i < 10 → o.2 85 i = μ 85 i
    | .inl s => o.1 = 0 ∧ o.2 75 16 = 1 ∧ ∀ m, m < s.2.1 → o.2 85 (2 * m) = s.2.2.1 m ∧ o.2 85 (2 * m + 1) = b2i (s.2.2.2.2.testBit (s.2.2.1 m))) := by
  unfold fX12_wish
  simp only [lt]
  refine Ok.then (cutAll_ok (μ := upd2 μ 75 0 0) hO (by rw [upd2_nj (by omega)]; exact hT.1) (fun i hi => by rw [upd2_ne (by omega)]; exact hT.2 i hi)) ?_
  rintro μ2 ⟨k1, k2, k3, k4, k5, k6⟩
  have hx : ∀ x, x ≠ 75 → x ≠ 77 → x ≠ 78 → x ≠ 79 → μ2 x = μ x := fun x q1 q2 q3 q4 => by rw [k5 x q1 q2 q3 q4, upd2_ne q1]
  have hj : ∀ j, j ≠ 0 → j ≠ 2 → j ≠ 3 → j ≠ 7 → j ≠ 8 → μ2 75 j = μ 75 j := fun j q0 q2 q3 q7 q8 => by rw [k6 j q2 q3 q7 q8, upd2_nj q0]
  have hRW : RWs tx L (0, 0, fun _ => 0, 0, 0) μ2 := ⟨⟨⟨k1, fun w hw => by rw [hx 80 (by omega) (by omega) (by omega) (by omega)]; exact h8 w hw, hO.1⟩, fun i hi => absurd hi (Nat.not_lt_zero i), k3, k4⟩, fun i hi => absurd hi (Nat.not_lt_zero i)⟩
  refine Ok.then (rws_ok hn (by rw [hx 81 (by omega) (by omega) (by omega) (by omega)]; exact h81) (fun i hi => by rw [hx 83 (by omega) (by omega) (by omega) (by omega)]; exact h83 i hi) hNm hRW) ?_
  rintro θ ⟨hF, hm⟩
  have t2 : θ 75 2 = 0 := (hF.2.1 2 (by omega) (by omega)).trans k2
  have fx : ∀ x, x ≠ 75 → x ≠ 77 → x ≠ 78 → x ≠ 79 → x ≠ 85 → θ x = μ x := fun x q1 q2 q3 q4 q5 => (hF.1 x q1 q5).trans (hx x q1 q2 q3 q4)
  have fj : ∀ j, j ≠ 0 → j ≠ 2 → j ≠ 3 → j ≠ 7 → j ≠ 8 → θ 75 j = μ 75 j := fun j q0 q2 q3 q7 q8 => (hF.2.1 j q7 q8).trans (hj j q0 q2 q3 q7 q8)
  have f85 : ∀ i, i < 10 → θ 85 i = μ 85 i := fun i hi => (hF.2.2 i hi).trans (by rw [hx 85 (by omega) (by omega) (by omega) (by omega)])
  -- a fault
  have bad : ∀ (θ2 : Mem) (e : Nat), RE tx L e θ2 → Pt θ θ2 → Ok (fX12_wish_j185 θ2) (fun o => o.2 75 2 = 0 ∧ RFw μ o.2 ∧ o.1 = (e : Int) ∧ o.2 75 16 = μ 75 16 ∧ ∀ i, i < 10 → o.2 85 i = μ 85 i) := fun θ2 e hE hPt => by
    unfold fX12_wish_j185
    rw [if_neg hE.pos, Ok_some]
    refine ⟨?_, ⟨fun x q1 q2 q3 q4 q5 => (hPt.1 x q1).trans (fx x q1 q2 q3 q4 q5), fun j q0 q2 q3 q7 q8 _ => (hPt.2 j q7 q8).trans (fj j q0 q2 q3 q7 q8)⟩, hE.2.1, ?_, fun i hi => ?_⟩
    · exact (hPt.2 2 (by omega) (by omega)).trans t2
    · exact (hPt.2 16 (by omega) (by omega)).trans (fj 16 (by omega) (by omega) (by omega) (by omega) (by omega))
    · exact (congrFun (hPt.1 85 (by omega)) i).trans (f85 i hi)
  unfold fX12_wish_j161 aWish
  cases hr : aWsL tx L n nm n (0, 0, fun _ => 0, 0, 0) with
  | inr e =>
    rw [hr] at hm
    rw [if_neg hm.ne]
    exact bad θ e hm .rf
  | inl s =>
    rw [hr] at hm
    obtain ⟨hRT, h85⟩ := hm
    have hb := hRT.b
    have hsn := (aWsL_o (tx := tx) (L := L) (nm := nm) hn n _ s WO.zero (by show 0 + n ≤ n; omega) hr).2
    have hsn' : s.2.1 = n := by rw [hsn]; show 0 + n = n; omega
    have h77 : θ 77 s.1 = tKd tx L (tSt tx L s.1) := hRT.tk.1
    have hkb := tKd_b (tx := tx) (L := L) (s := tSt tx L s.1)
    rw [if_pos (show w32 (θ 75 8) = 0 by rw [hRT.2.2.2]; decide), hRT.2.2.1, w32_n (a := s.1) (by omega), gd_pos (by omega), Int.toNat_natCast, h77, w32_n (a := tKd tx L (tSt tx L s.1)) (by omega)]
    dsimp only
    by_cases c : tK tx L s.1 = 0
    rotate_left
    · have c' : ¬ tKd tx L (tSt tx L s.1) = 0 := c
      rw [if_neg (by omega), if_neg c]
      refine Ok.then (wrong_t (w := 1) hRT (by omega)) ?_
      rintro ω ⟨g1, g2⟩
      exact bad ω _ g1 g2
    · have c' : tKd tx L (tSt tx L s.1) = 0 := c
      rw [if_pos (by omega), if_pos c]
      unfold fX12_wish_j185
      simp only [lt]
      rw [if_pos (show w32 (θ 75 8) ≤ 0 by rw [hRT.2.2.2]; decide)]
      refine Ok.then (loop_FU (Q := fun ν : Mem => (∀ x, x ≠ 75 → x ≠ 85 → ν x = θ x) ∧ ν 75 = upd2 θ 75 16 1 75 ∧ ∀ j, j < 10 → ν 85 j = θ 85 (10 + j)) 10 (fun (i : Nat) (t : Int × Mem) => t.1 = (i : Int) ∧ (∀ x, x ≠ 75 → x ≠ 85 → t.2 x = θ x) ∧ t.2 75 = upd2 θ 75 16 1 75 ∧ (∀ j, 10 ≤ j → t.2 85 j = θ 85 j) ∧ ∀ j, j < i → t.2 85 j = θ 85 (10 + j)) 0 ⟨rfl, fun x q _ => upd2_ne q, rfl, fun j hj => (by show upd2 θ 75 16 1 85 j = θ 85 j; rw [upd2_ne (by omega)]), fun j hj => absurd hj (by omega)⟩ (by omega) (by omega) ?_ ?_) ?_
      · rintro i ⟨a, ρ⟩ hi ⟨e1, hD, e75, hE, hI⟩
        dsimp only at e1 hD e75 hE hI ⊢
        subst e1
        unfold fX12_wish_b204
        simp only [lt]
        have ev : (10 : Int) + (i : Int) = ((10 + i : Nat) : Int) := by omega
        rw [ev, w32_n (a := i) (by omega), show w32 10 = 10 from by decide, w32_n (a := 10 + i) (by omega), if_pos (by omega), gd_pos (by omega), gd_pos (by omega), Int.toNat_natCast, Int.toNat_natCast, Ok_some]
        refine ⟨by push_cast; rfl, fun x q1 q2 => ?_, ?_, fun j hj2 => ?_, fun j hj2 => ?_⟩
        · dsimp only
          rw [upd2_ne q2]; exact hD x q1 q2
        · dsimp only
          rw [upd2_ne (by omega)]; exact e75
        · dsimp only
          rw [upd2_nj (by omega)]; exact hE j hj2
        · dsimp only
          by_cases e : j = i
          · rw [e, upd2_at]; exact hE _ (by omega)
          · rw [upd2_nj e]; exact hI j (by omega)
      · rintro ⟨a, ρ⟩ ⟨e1, hD, e75, hE, hI⟩
        dsimp only at e1 hD e75 hE hI ⊢
        subst e1
        unfold fX12_wish_b204
        rw [show w32 ((10 : Nat) : Int) = 10 from by decide, show w32 10 = 10 from by decide, if_neg (by omega), Ok_some]
        exact ⟨hD, e75, hI⟩
      · rintro ρ ⟨hD, e75, hI⟩
        rw [Ok_some]
        refine ⟨?_, ⟨fun x q1 q2 q3 q4 q5 => (hD x q1 q5).trans (fx x q1 q2 q3 q4 q5), fun j q0 q2 q3 q7 q8 q16 => ?_⟩, rfl, ?_, fun m hm2 => ?_⟩
        · show ρ 75 2 = 0
          rw [e75, upd2_nj (by omega)]; exact t2
        · show ρ 75 j = μ 75 j
          rw [e75, upd2_nj q16]; exact fj j q0 q2 q3 q7 q8
        · show ρ 75 16 = 1
          rw [e75, upd2_at]
        · show ρ 85 (2 * m) = _ ∧ ρ 85 (2 * m + 1) = _
          rw [hI _ (by omega), hI _ (by omega), show 10 + (2 * m + 1) = 11 + 2 * m by omega]
          exact h85 m hm2
def Pm.wsh (p : Pm) (w : Option Nat) : Pm := Pm.of p.n p.g p.told p.ups p.kd p.wd p.BE p.CE p.c p.t p.s p.D p.ms p.cs p.ps p.ts p.ss p.q p.cl p.P p.pl w p.mk 0 p.tx p.nm
theorem Core.wsh {w : Option Nat} (h : Core p μ) (e : ∀ x, x ≠ 0 → x ≠ 1 → x ≠ 3 → x ≠ 4 → x ≠ 75 → x ≠ 77 → x ≠ 78 → x ≠ 79 → x ≠ 85 → ν x = μ x) (e0 : ∀ j, j ≠ 6 → ν 0 j = μ 0 j) (e5 : ∀ j, j ≠ 0 → j ≠ 2 → j ≠ 3 → j ≠ 7 → j ≠ 8 → j ≠ 16 → ν 75 j = μ 75 j) (wc : WiC w ν) (wr : WiR p.kd p.n w ν) (wo : ∀ t, w = some t → t < p.N) (h11 : ν 1 1 = 0) (h2 : ν 75 2 = 0) : Core (p.wsh w) ν := by
  have hto := h.gc.1
  have el : ∀ x, ((5 ≤ x ∧ x < 75) ∨ x = 76 ∨ (80 ≤ x ∧ x < 85) ∨ 86 ≤ x) → ν x = μ x := fun x hx => e x (by omega) (by omega) (by omega) (by omega) (by omega) (by omega) (by omega) (by omega) (by omega)
  have e25 := el 25 (by omega)
  have e41 := el 41 (by omega)
  have e88 := el 88 (by omega)
  obtain ⟨pc1, pc2, pc3, pc4, pc5⟩ := h.pc
  exact ⟨h.gc.of (congrFun e25 0) (congrFun e25 1) (el _ (by omega)) (el _ (by omega)) (el _ (by omega)), h.tb.of2 (fun j hj => congrFun e25 j) (fun x h1 h2 h3 => el x (by omega)), (congrFun e25 4).trans h.g4, (e0 2 (by omega)).trans h.o2, (e0 3 (by omega)).trans h.o3, (congrFun (el p.told (by omega)) 4).trans h.up, h.ub, h.rr.same (el 81 (by omega)) (el 82 (by omega)), (e5 22 (by omega) (by omega) (by omega) (by omega) (by omega) (by omega)).trans h.d22, h.cN, h.pa, ⟨(congrFun e41 1).trans pc1, (congrFun e41 2).trans pc2, (congrFun e41 3).trans pc3, (e0 11 (by omega)).trans pc4, fun i hi => by rw [el 44 (by omega), el 45 (by omega)]; exact pc5 i hi⟩, h.pR.same e88 (e5 20 (by omega) (by omega) (by omega) (by omega) (by omega) (by omega)), h.sc.same e41 (el 42 (by omega)), h.sr.same e88, h.so, h.po, h.plc.same (el 39 (by omega)) (el 40 (by omega)), h.plr.same (el 84 (by omega)), wc, wr, wo, fun m hm => (h.mc m hm).same (el _ (by omega)) (el _ (by omega)), fun m hm => (h.mr m hm).same (el 89 (by omega)) e88, h.mo, ⟨h11, fun i hi => absurd hi (Nat.not_lt_zero i)⟩, ⟨h2, fun i hi => absurd hi (Nat.not_lt_zero i)⟩, ⟨Nat.zero_le _, fun i hi => absurd hi (Nat.not_lt_zero i)⟩, fun k hk => (congrFun (el (p.told + 1) (by omega)) k).trans (h.nc k hk), fun k hk => by rw [el 83 (by omega)]; exact h.nr k hk, h.no, fun w hw => by rw [el 80 (by omega)]; exact h.w8 w hw, by unfold Df0; rw [el 9 (by omega), el 12 (by omega), el 19 (by omega), el 22 (by omega)]; exact h.df⟩
end SWISH
