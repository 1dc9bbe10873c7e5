/-! ===== level 2: marks, put together ===== -/
section CALLS7
variable {p : Pm} {μ ν : Mem} {a : Int} {back : Bool}
theorem PR.off {kd : Nat → Nat} {n c : Nat} {t s : Int} {D : Nat} {cs : Nat → Nat} {ts ss : Nat → Int} (h : PR kd n c t s D cs ts ss μ) (e20 : ν 75 20 = μ 75 20) (e : ∀ j, (j < 3 ∨ 140 ≤ j) → ν 88 j = μ 88 j) : PR kd n c t s D cs ts ss ν := by
  obtain ⟨c1, c2, c3, c4, c5⟩ := h
  refine ⟨(e 0 (by omega)).trans c1, (e 1 (by omega)).trans c2, (e 2 (by omega)).trans c3, e20.trans c4, fun i hi => ?_⟩
  obtain ⟨b1, b2, b3⟩ := c5 i hi
  exact ⟨(e _ (by omega)).trans b1, (e _ (by omega)).trans b2, (e _ (by omega)).trans b3⟩
theorem mk_keep (hA : GA p μ) : (∃ (μ1 : Mem), some ((false, μ) : Bool × Mem) = some (false, μ1) ∧ ∃ (μ2 : Mem), some ((false, upd2 (LR 0 75 μ μ1) 75 0 0) : Bool × Mem) = some (false, μ2) ∧ GW (LR 75 96 (LR 0 75 μ μ1) μ2)) := by
  have e1 : LR 0 75 μ μ = μ := LR_c (fun x hx => rfl)
  refine ⟨μ, rfl, _, rfl, ?_⟩
  rw [e1, LR_r (fun x hx => upd2_ne (by omega))]
  exact ⟨p, hA.qr (.dk0 Dk.rf) (hA.2.2.dk0 Dk.rf)⟩
theorem s_mark (hG : GW μ) : S_mark GW a back μ := fun ha => by
  obtain ⟨p, hA⟩ := hG
  have h := hA.1
  by_cases hr : 0 ≤ a ∧ a < 4
  rotate_left
  · obtain ⟨μ1, e0, μ2, e1, e2⟩ := mk_keep hA
    exact ⟨false, μ1, (mark_no ha hr).trans e0, false, μ2, (markr_no ha hr).trans e1, rfl, e2⟩
  obtain ⟨m, rfl⟩ : ∃ m : Nat, a = m := ⟨a.toNat, by omega⟩
  have hm : m < 4 := by omega
  have hMC : MC 41 p.c p.t p.s p.q p.cl μ := ⟨h.pc.1, h.pc.2.1, h.pc.2.2.1, h.sc⟩
  have hMR : MR p.kd p.n 0 p.c p.t p.s p.q p.cl μ := ⟨h.pR.1, h.pR.2.1, h.pR.2.2.1, h.sr⟩
  cases back with
  | false =>
    obtain ⟨μ1, e0, μ2, e1, e2⟩ := movedO (μ := μ) (f := fX11_mark (m : Int) false μ) (r := fX12_mark (m : Int) false) (v := true) (by
      refine Ok.imp (mark_lay hm hMC h.so.1) ?_
      rintro ⟨x, ν⟩ ⟨g1, g2, g3, g4⟩
      dsimp only at g1 g2 g3 g4 ⊢
      refine ⟨fun x hx => g4 x (by omega) (by omega), g1, ?_⟩
      rw [markr_lay hm, Ok_some]
      dsimp only
      generalize hρ : upd2 (upd2 ν 75 0 0) 89 m 1 = ρ
      have r88 : ρ 88 = μ 88 := by rw [← hρ, upd2_ne (by omega), upd2_ne (by omega), g4 88 (by omega) (by omega)]
      have r75 : ∀ j, j ≠ 0 → ρ 75 j = μ 75 j := fun j hj => by rw [← hρ, upd2_ne (by omega), upd2_nj hj, g4 75 (by omega) (by omega)]
      have r89 : ∀ j, j ≠ m → ρ 89 j = μ 89 j := fun j hj => by rw [← hρ, upd2_nj hj, upd2_ne (by omega), g4 89 (by omega) (by omega)]
      have r89m : ρ 89 m = 1 := by rw [← hρ, upd2_at]
      have rx : ∀ x, x ≠ 75 → x ≠ 89 → ρ x = ν x := fun x x1 x2 => by rw [← hρ, upd2_ne x2, upd2_ne x1]
      generalize hθ : upd2 (cpy 0 (28 * (1 + m)) 28 ρ) 75 20 (ν 75 20) = θ
      have t88 : θ 88 = cpy 0 (28 * (1 + m)) 28 ρ 88 := by rw [← hθ, upd2_ne (by omega)]
      have tx : ∀ x, x ≠ 75 → x ≠ 88 → θ x = ρ x := fun x x1 x2 => by rw [← hθ, upd2_ne x1, cpy_ne x2]
      have t75 : ∀ j, j ≠ 0 → θ 75 j = μ 75 j := fun j hj => by
        rw [← hθ]
        by_cases e : j = 20
        · rw [e, upd2_at, g4 75 (by omega) (by omega)]
        · rw [upd2_nj e, cpy_ne (by omega), r75 j hj]
      have tlo : ∀ x, x < 75 → θ x = ν x := fun x hx => (tx x (by omega) (by omega)).trans (rx x (by omega) (by omega))
      have hMf : Mf μ θ := ⟨fun x a1 a2 a3 a4 a5 a6 a7 a8 a9 b1 b2 b3 b4 => by rw [tx x a7 b1, rx x a7 b2, g4 x (by omega) (by omega)], fun j hj => by rw [tlo 0 (by omega), g4 0 (by omega) (by omega)], fun j j0 _ => t75 j j0⟩
      have hSRρ : SR 0 p.q p.cl ρ := h.sr.same r88
      have hMRρ : MR p.kd p.n 0 p.c p.t p.s p.q p.cl ρ := by
        unfold MR at hMR ⊢
        rw [r88]; exact ⟨hMR.1, hMR.2.1, hMR.2.2.1, hSRρ⟩
      refine ⟨rfl, fun x hx => ?_, _, Mf.ga hA hMf h.cN h.pa (h.pc.same ((tlo 41 (by omega)).trans (g4 41 (by omega) (by omega))) ((tlo 0 (by omega)).trans (g4 0 (by omega) (by omega))) ((tlo 44 (by omega)).trans (g4 44 (by omega) (by omega))) ((tlo 45 (by omega)).trans (g4 45 (by omega) (by omega)))) (h.pR.off (t75 20 (by omega)) (fun j hj => by rw [t88, cpy_out (by omega), r88])) (h.sc.same ((tlo 41 (by omega)).trans (g4 41 (by omega) (by omega))) ((tlo 42 (by omega)).trans (g4 42 (by omega) (by omega)))) ?_ h.so (mk := fun i => if i = m then some (p.c, p.t, p.s, p.q, p.cl) else p.mk i) (fun i hi => ?_) (fun i hi => ?_) (fun i hi => ?_)⟩
      · rcases hx with hx | hx
        · exact tlo x hx
        · exact (tx x (by omega) (by omega)).trans (rx x (by omega) (by omega))
      · exact ((MR_out hMRρ h.so.1 (by omega)).2.2.2).same t88
      · by_cases e : i = m
        · subst e
          rw [if_pos rfl]
          exact ⟨(congrFun (tlo _ (by omega)) 0).trans g2, g3.same (tlo _ (by omega)) (tlo _ (by omega))⟩
        · rw [if_neg e]
          exact ((h.mc i hi).same (g4 _ (by omega) (by omega)) (g4 _ (by omega) (by omega))).same (tlo _ (by omega)) (tlo _ (by omega))
      · by_cases e : i = m
        · subst e
          rw [if_pos rfl]
          have := MR_cpy (T := 28 * (1 + i)) hMRρ h.so.1
          exact ⟨(congrFun (tx 89 (by omega) (by omega)) i).trans r89m, MR.off this h.so.1 (fun j _ _ => congrFun t88 j)⟩
        · rw [if_neg e]
          have hmr := h.mr i hi
          have hmo := h.mo i hi
          revert hmr hmo
          cases p.mk i with
          | none => intro hmr _; exact (congrFun (tx 89 (by omega) (by omega)) i).trans ((r89 i e).trans hmr)
          | some y =>
            obtain ⟨c, t, s, q, cl⟩ := y
            intro hmr hmo
            exact ⟨(congrFun (tx 89 (by omega) (by omega)) i).trans ((r89 i e).trans hmr.1), MR.off hmr.2 hmo.2.1 (fun j j1 j2 => by rw [t88, cpy_out (by omega), r88])⟩
      · by_cases e : i = m
        · subst e
          rw [if_pos rfl]
          exact ⟨h.cN, h.so⟩
        · rw [if_neg e]
          exact h.mo i hi)
    exact ⟨true, μ1, e0, true, μ2, e1, rfl, e2⟩
  | true =>
    have hmc := h.mc m hm
    have hmr := h.mr m hm
    have hmo := h.mo m hm
    revert hmc hmr hmo
    cases hmk : p.mk m with
    | none =>
      intro hmc hmr _
      obtain ⟨μ1, e0, μ2, e1, e2⟩ := mk_keep hA
      have hμ1 : μ1 = μ := by injection e0 with e; injection e with e3 e4; exact e4.symm
      subst hμ1
      have e3 : LR 0 75 μ1 μ1 = μ1 := LR_c (fun x hx => rfl)
      refine ⟨false, μ1, mark_none hm hmc, false, μ2, ?_, rfl, e2⟩
      rw [e3] at e1 ⊢
      exact (markr_none hm hmr).trans e1
    | some y =>
      obtain ⟨c, t, s, q, cl⟩ := y
      intro hmc hmr hmo
      obtain ⟨hc0, hcM⟩ := hmc
      obtain ⟨hr0, hrM⟩ := hmr
      obtain ⟨μ1, e0, μ2, e1, e2⟩ := movedO (μ := μ) (f := fX11_mark (m : Int) true μ) (r := fX12_mark (m : Int) true) (v := true) (by
        refine Ok.imp (mark_back hm hc0 hcM hmo.2.1) ?_
        rintro ⟨x, ν⟩ ⟨g1, g2, g3, g4, g5⟩
        dsimp only at g1 g2 g3 g4 g5 ⊢
        have n89 : ν 89 m = 1 := by rw [g4 89 (by omega) (by omega) (by omega)]; exact hr0
        refine ⟨fun x hx => g4 x (by omega) (by omega) (by omega), g1, ?_⟩
        rw [markr_back hm n89, Ok_some]
        dsimp only
        generalize hρ : upd2 (upd2 ν 75 0 0) 89 m 1 = ρ
        have r88 : ρ 88 = μ 88 := by rw [← hρ, upd2_ne (by omega), upd2_ne (by omega), g4 88 (by omega) (by omega) (by omega)]
        have r75 : ∀ j, j ≠ 0 → ρ 75 j = μ 75 j := fun j hj => by rw [← hρ, upd2_ne (by omega), upd2_nj hj, g4 75 (by omega) (by omega) (by omega)]
        have r89 : ∀ j, ρ 89 j = μ 89 j := fun j => by
          rw [← hρ]
          by_cases e : j = m
          · rw [e, upd2_at, hr0]
          · rw [upd2_nj e, upd2_ne (by omega), g4 89 (by omega) (by omega) (by omega)]
        have rx : ∀ x, x ≠ 75 → x ≠ 89 → ρ x = ν x := fun x x1 x2 => by rw [← hρ, upd2_ne x2, upd2_ne x1]
        generalize hθ : upd2 (cpy (28 * (1 + m)) 0 28 ρ) 75 20 0 = θ
        have t88 : θ 88 = cpy (28 * (1 + m)) 0 28 ρ 88 := by rw [← hθ, upd2_ne (by omega)]
        have tx : ∀ x, x ≠ 75 → x ≠ 88 → θ x = ρ x := fun x x1 x2 => by rw [← hθ, upd2_ne x1, cpy_ne x2]
        have t75 : ∀ j, j ≠ 0 → j ≠ 20 → θ 75 j = μ 75 j := fun j hj h20 => by rw [← hθ, upd2_nj h20, cpy_ne (by omega), r75 j hj]
        have t20 : θ 75 20 = 0 := by rw [← hθ, upd2_at]
        have tlo : ∀ x, x < 75 → θ x = ν x := fun x hx => (tx x (by omega) (by omega)).trans (rx x (by omega) (by omega))
        have hMf : Mf μ θ := ⟨fun x a1 a2 a3 a4 a5 a6 a7 a8 a9 b1 b2 b3 b4 => by rw [tx x a7 b1, rx x a7 b2, g4 x a1 a2 a3], fun j hj => (congrFun (tlo 0 (by omega)) j).trans (g5 j hj), fun j j0 j1 => t75 j j0 j1⟩
        have hMRρ : MR p.kd p.n (28 * (1 + m)) c t s q cl ρ := MR.off hrM hmo.2.1 (fun j _ _ => congrFun r88 j)
        have hMRθ : MR p.kd p.n 0 c t s q cl θ := MR.off (MR_cpy (T := 0) hMRρ hmo.2.1) hmo.2.1 (fun j _ _ => congrFun t88 j)
        have hMCθ : MC 41 c t s q cl θ := g3.same (tlo 41 (by omega)) (tlo 42 (by omega))
        refine ⟨rfl, fun x hx => ?_, _, Mf.ga hA hMf hmo.1 (D := 0) (ms := fun _ => 0) (cs := fun _ => c) (ps := fun _ => 0) (ts := fun _ => t) (ss := fun _ => s) ⟨by omega, rfl, rfl, rfl, fun i hi => absurd hi (by omega)⟩ ⟨hMCθ.1, hMCθ.2.1, hMCθ.2.2.1, (congrFun (tlo 0 (by omega)) 11).trans g2, fun i hi => absurd hi (by omega)⟩ ⟨hMRθ.1, hMRθ.2.1, hMRθ.2.2.1, t20, fun i hi => absurd hi (by omega)⟩ hMCθ.2.2.2 hMRθ.2.2.2 hmo.2 (mk := p.mk) (fun i hi => ?_) (fun i hi => ?_) h.mo⟩
        · rcases hx with hx | hx
          · exact tlo x hx
          · exact (tx x (by omega) (by omega)).trans (rx x (by omega) (by omega))
        · exact ((h.mc i hi).same (g4 _ (by omega) (by omega) (by omega)) (g4 _ (by omega) (by omega) (by omega))).same (tlo _ (by omega)) (tlo _ (by omega))
        · have hmr := h.mr i hi
          have hmo := h.mo i hi
          revert hmr hmo
          have t89 : θ 89 i = μ 89 i := (congrFun (tx 89 (by omega) (by omega)) i).trans (r89 i)
          cases p.mk i with
          | none => intro hmr _; exact t89.trans hmr
          | some y =>
            obtain ⟨c, t, s, q, cl⟩ := y
            intro hmr hmo
            exact ⟨t89.trans hmr.1, MR.off hmr.2 hmo.2.1 (fun j j1 j2 => by rw [t88, cpy_out (by omega), r88])⟩)
      exact ⟨true, μ1, e0, true, μ2, e1, rfl, e2⟩
end CALLS7
