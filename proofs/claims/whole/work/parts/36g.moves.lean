/-! ===== level 2: calls that move ===== -/
section CALLS6
variable {p : Pm} {μ ν : Mem} {a b w : Int} {is : Bool}
/-- the same, but for the moment and the marks -/
def Pm.mv (p : Pm) (c : Nat) (t s : Int) (D : Nat) (ms cs : Nat → Nat) (ps ts ss : Nat → Int) (q : Nat) (cl : Nat → Nat × Nat × Bool) (mk : Nat → Option (Nat × Int × Int × Nat × (Nat → Nat × Nat × Bool))) : Pm := Pm.of p.n p.g p.told p.ups p.kd p.wd p.BE p.CE c t s D ms cs ps ts ss q cl p.P p.pl p.w mk p.L p.tx p.nm
def Mf (μ ν : Mem) : Prop := (∀ x, x ≠ 0 → x ≠ 41 → x ≠ 42 → x ≠ 44 → x ≠ 45 → ¬ (57 ≤ x ∧ x ≤ 64) → x ≠ 75 → x ≠ 86 → x ≠ 87 → x ≠ 88 → x ≠ 89 → x ≠ 90 → x ≠ 91 → ν x = μ x) ∧ (∀ j, j ≠ 11 → ν 0 j = μ 0 j) ∧ ∀ j, j ≠ 0 → j ≠ 20 → ν 75 j = μ 75 j
theorem Mf.ga {c : Nat} {t s : Int} {D : Nat} {ms cs : Nat → Nat} {ps ts ss : Nat → Int} {q : Nat} {cl : Nat → Nat × Nat × Bool} {mk : Nat → Option (Nat × Int × Int × Nat × (Nat → Nat × Nat × Bool))} (hG : GA p μ) (hM : Mf μ ν) (hc : c < p.N) (hpa : PA p.n p.N p.tn c t s D ms cs ps ts ss) (hpc : PC c t s D ms ps ν) (hpr : PR p.kd p.n c t s D cs ts ss ν) (hsc : SC 41 q cl ν) (hsr : SR 0 q cl ν) (hso : SO p.n q cl) (hmc : ∀ m, m < 4 → MkC m (mk m) ν) (hmr : ∀ m, m < 4 → MkR p.kd p.n m (mk m) ν) (hmo : ∀ m, m < 4 → MkO p.N p.n (mk m)) : GA (p.mv c t s D ms cs ps ts ss q cl mk) ν := by
  obtain ⟨h, hC, hT⟩ := hG
  have hto := h.gc.1
  have e : ∀ x, (x ≠ 0 ∧ x ≠ 41 ∧ x ≠ 42 ∧ x ≠ 44 ∧ x ≠ 45 ∧ ¬ (57 ≤ x ∧ x ≤ 64) ∧ x ≠ 75 ∧ x ≠ 86 ∧ x ≠ 87 ∧ x ≠ 88 ∧ x ≠ 89 ∧ x ≠ 90 ∧ x ≠ 91) → ν x = μ x := fun x ⟨a1, a2, a3, a4, a5, a6, a7, a8, a9, b1, b2, b3, b4⟩ => hM.1 x a1 a2 a3 a4 a5 a6 a7 a8 a9 b1 b2 b3 b4
  have e25 := e 25 (by omega)
  refine ⟨⟨h.gc.of (congrFun e25 0) (congrFun e25 1) (e _ (by omega)) (e _ (by omega)) (e _ (by omega)), h.tb.of2 (fun j hj => congrFun e25 j) (fun x h1 h2 h3 => e x (by omega)), (congrFun e25 4).trans h.g4, (hM.2.1 2 (by omega)).trans h.o2, (hM.2.1 3 (by omega)).trans h.o3, (congrFun (e p.told (by omega)) 4).trans h.up, h.ub, h.rr.same (e 81 (by omega)) (e 82 (by omega)), (hM.2.2 22 (by omega) (by omega)).trans h.d22, hc, hpa, hpc, hpr, hsc, hsr, hso, h.po, h.plc.same (e 39 (by omega)) (e 40 (by omega)), h.plr.same (e 84 (by omega)), (hM.2.1 6 (by omega)).trans h.wc, h.wr.same (hM.2.2 16 (by omega) (by omega)) (e 85 (by omega)), h.wo, hmc, hmr, hmo, h.tc.same (e 1 (by omega)) (e 2 (by omega)), h.tr.same (hM.2.2 2 (by omega) (by omega)) (e 76 (by omega)), h.to, fun k hk => (congrFun (e (p.told + 1) (by omega)) k).trans (h.nc k hk), fun k hk => by rw [e 83 (by omega)]; exact h.nr k hk, h.no, fun w hw => by rw [e 80 (by omega)]; exact h.w8 w hw, by unfold Df0; rw [e 9 (by omega), e 12 (by omega), e 19 (by omega), e 22 (by omega)]; exact h.df⟩, ⟨?_, fun k bk b hk => ?_, ?_, ?_⟩, ?_⟩
  · have := hC.sck
    rw [e25]; exact this
  · obtain ⟨a1, a2, a3⟩ := hC.st k bk b hk
    have kk : k = 46 ∨ k = 49 ∨ k = 51 ∨ (65 ≤ k ∧ k ≤ 73) := by
      unfold stB at hk
      rcases hk with q | q | q | ⟨i, hi, q⟩ <;> omega
    have e1 := e k (by omega)
    have e2 := e (k + 1) (by omega)
    rw [e1]
    exact ⟨a1, a2, a3.same e1 e2⟩
  · have := hC.bi
    unfold BiO at this ⊢
    rw [e 53 (by omega), e 54 (by omega)]; exact this
  · have := hC.co
    unfold CoO at this ⊢
    rw [e 55 (by omega), e 56 (by omega)]; exact this
  · exact hT.same (hM.2.2 26 (by omega) (by omega)) (e 92 (by omega))
theorem moved {α : Type} {f : α × Mem} {r : Mem → Option (α × Mem)} {v : α} (h1 : ∀ x, 75 ≤ x → f.2 x = μ x) (hv : f.1 = v) (hR : Ok (r f.2) (fun o => o.1 = v ∧ (∀ x, x < 75 ∨ 96 ≤ x → o.2 x = f.2 x) ∧ GW o.2)) : ∃ (μ1 : Mem), f = (v, μ1) ∧ ∃ (μ2 : Mem), r (LR 0 75 μ μ1) = some (v, μ2) ∧ GW (LR 75 96 (LR 0 75 μ μ1) μ2) := by
  obtain ⟨v1, μ1⟩ := f
  dsimp only at h1 hv hR
  subst hv
  obtain ⟨⟨v2, μ2⟩, hr, e2, h2, hg⟩ := hR
  dsimp only at e2 h2 hg
  subst e2
  refine ⟨μ1, rfl, μ2, by rw [LR_c h1]; exact hr, ?_⟩
  rw [LR_c h1, LR_r h2]; exact hg
theorem movedO {α : Type} {f : Option (α × Mem)} {r : Mem → Option (α × Mem)} {v : α} (hC : Ok f (fun o => (∀ x, 75 ≤ x → o.2 x = μ x) ∧ o.1 = v ∧ Ok (r o.2) (fun q => q.1 = v ∧ (∀ x, x < 75 ∨ 96 ≤ x → q.2 x = o.2 x) ∧ GW q.2))) : ∃ (μ1 : Mem), f = some (v, μ1) ∧ ∃ (μ2 : Mem), r (LR 0 75 μ μ1) = some (v, μ2) ∧ GW (LR 75 96 (LR 0 75 μ μ1) μ2) := by
  obtain ⟨o, hf, h1, h2, h3⟩ := hC
  obtain ⟨μ1, e0, μ2, e1, e2⟩ := moved h1 h2 h3
  exact ⟨μ1, by rw [hf, e0], μ2, e1, e2⟩
theorem Uf.sc {q : Nat} {cl : Nat → Nat × Nat × Bool} (h : SC 41 q cl μ) (hU : Uf μ ν) : SC 41 q cl ν := ⟨(hU.2.2 4 (by omega) (by omega) (by omega)).trans h.1, fun i hi => by rw [hU.1 42 (by omega) (by omega) (by omega) (by omega)]; exact h.2 i hi⟩
theorem Ur.sr {q : Nat} {cl : Nat → Nat × Nat × Bool} (h : SR 0 q cl μ) (hq : q ≤ 8) (hU : Ur μ ν) : SR 0 q cl ν := ⟨(hU.2.1 3 (by omega) (by omega)).trans h.1, fun i hi => by
  obtain ⟨a1, a2, a3⟩ := h.2 i hi
  exact ⟨(hU.2.1 _ (by omega) (by omega)).trans a1, (hU.2.1 _ (by omega) (by omega)).trans a2, (hU.2.1 _ (by omega) (by omega)).trans a3⟩⟩
theorem MR.off {kd : Nat → Nat} {n B c : Nat} {t s : Int} {q : Nat} {cl : Nat → Nat × Nat × Bool} (h : MR kd n B c t s q cl μ) (hq : q ≤ 8) (e : ∀ j, B ≤ j → j < B + 28 → ν 88 j = μ 88 j) : MR kd n B c t s q cl ν := by
  obtain ⟨h1, h2, h3, h4, h5⟩ := h
  refine ⟨(e _ (by omega) (by omega)).trans h1, (e _ (by omega) (by omega)).trans h2, (e _ (by omega) (by omega)).trans h3, (e _ (by omega) (by omega)).trans h4, fun i hi => ?_⟩
  obtain ⟨a1, a2, a3⟩ := h5 i hi
  exact ⟨(e _ (by omega) (by omega)).trans a1, (e _ (by omega) (by omega)).trans a2, (e _ (by omega) (by omega)).trans a3⟩
theorem MkR.off {kd : Nat → Nat} {N n m : Nat} {o : Option (Nat × Int × Int × Nat × (Nat → Nat × Nat × Bool))} (h : MkR kd n m o μ) (hm : m < 4) (ho : MkO N n o) (e1 : ν 89 = μ 89) (e : ∀ j, 3 ≤ j → j < 140 → ν 88 j = μ 88 j) : MkR kd n m o ν := by
  cases o with
  | none => show ν 89 m = 0; rw [e1]; exact h
  | some y =>
    obtain ⟨c, t, s, q, cl⟩ := y
    exact ⟨by rw [e1]; exact h.1, MR.off h.2 ho.2.1 (fun j j1 j2 => e j (by omega) (by omega))⟩
/-- turn and undo, put together -/
theorem Uf.Mf {θ : Mem} (h1 : Uf μ ν) (h2 : Ur ν θ) : Mf μ θ := ⟨fun x a1 a2 a3 a4 a5 a6 a7 a8 a9 b1 b2 b3 b4 => (h2.1 x a7 a8 a9 b1 b3 b4).trans (h1.1 x a1 a2 a4 a5), fun j hj => by rw [h2.1 0 (by omega) (by omega) (by omega) (by omega) (by omega) (by omega)]; exact h1.2.1 j hj, fun j j0 j1 => (h2.2.2.1 j j0 j1).trans (congrFun (h1.1 75 (by omega) (by omega) (by omega) (by omega)) j)⟩
theorem Uf.ga {θ : Mem} {c : Nat} {t s : Int} {D : Nat} {ms cs : Nat → Nat} {ps ts ss : Nat → Int} (hG : GA p μ) (h1 : Uf μ ν) (h2 : Ur ν θ) (hc : c < p.N) (hpa : PA p.n p.N p.tn c t s D ms cs ps ts ss) (hpc : PC c t s D ms ps ν) (hpr : PR p.kd p.n c t s D cs ts ss θ) : GW θ := by
  have e : ∀ x, x < 75 ∨ x = 89 → θ x = ν x := fun x hx => h2.1 x (by omega) (by omega) (by omega) (by omega) (by omega) (by omega)
  have hsc := Uf.sc hG.1.sc h1
  have hsr : SR 0 p.q p.cl ν := hG.1.sr.same (h1.1 88 (by omega) (by omega) (by omega) (by omega))
  refine ⟨_, Mf.ga hG (h1.Mf h2) hc hpa (hpc.same (e 41 (by omega)) (e 0 (by omega)) (e 44 (by omega)) (e 45 (by omega))) hpr (hsc.same (e 41 (by omega)) (e 42 (by omega))) (Ur.sr hsr hG.1.so.1 h2) hG.1.so (mk := p.mk) (fun m hm => ?_) (fun m hm => ?_) hG.1.mo⟩
  · exact ((hG.1.mc m hm).same (h1.1 _ (by omega) (by omega) (by omega) (by omega)) (h1.1 _ (by omega) (by omega) (by omega) (by omega))).same (e _ (by omega)) (e _ (by omega))
  · exact MkR.off ((hG.1.mr m hm).same (h1.1 89 (by omega) (by omega) (by omega) (by omega)) (h1.1 88 (by omega) (by omega) (by omega) (by omega))) hm (hG.1.mo m hm) (e 89 (by omega)) h2.2.1
theorem Uf.ref (hG : Core p μ) (h1 : Uf μ ν) : Rr p.kd p.wd p.n p.BE p.CE p.g ν ∧ PR p.kd p.n p.c p.t p.s p.D p.cs p.ts p.ss ν := ⟨hG.rr.same (h1.1 81 (by omega) (by omega) (by omega) (by omega)) (h1.1 82 (by omega) (by omega) (by omega) (by omega)), hG.pR.same (h1.1 88 (by omega) (by omega) (by omega) (by omega)) (congrFun (h1.1 75 (by omega) (by omega) (by omega) (by omega)) 20)⟩
theorem s_turn (hG : GW μ) : S_turn GW a μ := fun ha => by
  obtain ⟨p, hA⟩ := hG
  have h := hA.1
  obtain ⟨μ1, e0, μ2, e1, e2⟩ := movedO (μ := μ) (f := fX11_turn a μ) (r := fX12_turn a) (v := if caB p.kd p.wd p.n p.BE p.c a = true then coI p.kd p.wd p.n p.CE p.c a else -1) (by
    refine Ok.imp (turn_ok h.hn h.tb h.cN ha h.pc h.pa.1) ?_
    rintro ⟨x, ν⟩ ⟨g1, g2, g3⟩
    dsimp only at g1 g2 g3 ⊢
    refine ⟨fun x hx => g1.1 x (by omega) (by omega) (by omega) (by omega), g2, ?_⟩
    obtain ⟨r1, r2⟩ := Uf.ref h g1
    refine Ok.imp (turn_r r1 h.cN r2 h.pa ha) ?_
    rintro ⟨y, θ⟩ ⟨k1, k2, k3⟩
    dsimp only at k1 k2 k3 ⊢
    refine ⟨k2, fun x hx => k1.1 x (by omega) (by omega) (by omega) (by omega) (by omega) (by omega), ?_⟩
    by_cases q : caB p.kd p.wd p.n p.BE p.c a = true
    · rw [if_pos q] at g3 k3
      have hq : 1 ≤ a ∧ a ≤ p.n := by
        unfold caB at q
        rw [Bool.and_eq_true] at q
        exact of_decide_eq_true q.1
      exact Uf.ga hA g1 k1 (tnC_lt h.hn h.cN (by omega)) (h.pa.push h.cN (by omega) (by omega)) g3 k3
    · rw [if_neg q] at g3 k3
      exact Uf.ga hA g1 k1 h.cN h.pa g3 k3)
  exact ⟨_, μ1, e0, _, μ2, e1, rfl, e2⟩
theorem s_undo (hG : GW μ) : S_undo GW μ := by
  obtain ⟨p, hA⟩ := hG
  have h := hA.1
  obtain ⟨g1, g2, g3⟩ := undo_ok h.hn h.tb h.cN h.pc h.pa
  obtain ⟨μ1, e0, μ2, e1, e2⟩ := moved (μ := μ) (f := fX11_undo μ) (r := fX12_undo) (v := decide (0 < p.D)) (fun x hx => g1.1 x (by omega) (by omega) (by omega) (by omega)) g2 (by
    obtain ⟨r1, r2⟩ := Uf.ref h g1
    refine Ok.imp (undo_r r2 h.pa.1) ?_
    rintro ⟨y, θ⟩ ⟨k1, k2, k3⟩
    dsimp only at k1 k2 k3 ⊢
    refine ⟨k2, fun x hx => k1.1 x (by omega) (by omega) (by omega) (by omega) (by omega) (by omega), ?_⟩
    by_cases q : 0 < p.D
    · rw [if_pos q] at g3 k3
      have hpa := h.pa
      obtain ⟨D', hD'⟩ : ∃ D', p.D = D' + 1 := ⟨p.D - 1, by omega⟩
      rw [hD'] at hpa g3 k3
      rw [Nat.add_sub_cancel] at g3 k3
      obtain ⟨p1, p2, p3, -⟩ := hpa.pop (fun c m hc _ hm => tnC_tnC h.hn hc hm)
      exact Uf.ga hA g1 k1 p3 p1 g3 k3
    · rw [if_neg q] at g3 k3
      exact Uf.ga hA g1 k1 h.cN h.pa (by rw [g3]; exact h.pc) k3)
  exact ⟨_, μ1, e0, _, μ2, e1, rfl, e2⟩
/-- see and lies, put together -/
theorem Sf.Mf {θ : Mem} (h1 : Sf μ ν) (h2 : Sr (upd2 ν 75 0 0) θ) : Mf μ θ := ⟨fun x a1 a2 a3 a4 a5 a6 a7 a8 a9 b1 b2 b3 b4 => by rw [h2.1 x b1, upd2_ne a7]; exact h1.1 x a2 a3, fun j hj => by rw [h2.1 0 (by omega), upd2_ne (by omega), h1.1 0 (by omega) (by omega)], fun j j0 j1 => by rw [h2.1 75 (by omega), upd2_nj j0, h1.1 75 (by omega) (by omega)]⟩
theorem Sf.ga {θ : Mem} {q : Nat} {cl : Nat → Nat × Nat × Bool} (hG : GA p μ) (h1 : Sf μ ν) (h2 : Sr (upd2 ν 75 0 0) θ) (hsc : SC 41 q cl ν) (hsr : SR 0 q cl θ) (hso : SO p.n q cl) : GW θ := by
  have e : ∀ x, x < 75 ∨ x = 89 → θ x = ν x := fun x hx => by rw [h2.1 x (by omega), upd2_ne (by omega)]
  have e88 : ∀ j, (j < 3 ∨ 28 ≤ j) → θ 88 j = μ 88 j := fun j hj => by rw [h2.2 j hj, upd2_ne (by omega), h1.1 88 (by omega) (by omega)]
  have e20 : θ 75 20 = μ 75 20 := by rw [h2.1 75 (by omega), upd2_nj (by omega), h1.1 75 (by omega) (by omega)]
  have hpc : PC p.c p.t p.s p.D p.ms p.ps ν := by
    obtain ⟨c1, c2, c3, c4, c5⟩ := hG.1.pc
    exact ⟨(h1.2 1 (by omega)).trans c1, (h1.2 2 (by omega)).trans c2, (h1.2 3 (by omega)).trans c3, (congrFun (h1.1 0 (by omega) (by omega)) 11).trans c4, fun i hi => by rw [h1.1 44 (by omega) (by omega), h1.1 45 (by omega) (by omega)]; exact c5 i hi⟩
  have hpr : PR p.kd p.n p.c p.t p.s p.D p.cs p.ts p.ss θ := by
    obtain ⟨c1, c2, c3, c4, c5⟩ := hG.1.pR
    refine ⟨(e88 0 (by omega)).trans c1, (e88 1 (by omega)).trans c2, (e88 2 (by omega)).trans c3, e20.trans c4, fun i hi => ?_⟩
    obtain ⟨b1, b2, b3⟩ := c5 i hi
    exact ⟨(e88 _ (by omega)).trans b1, (e88 _ (by omega)).trans b2, (e88 _ (by omega)).trans b3⟩
  refine ⟨_, Mf.ga hG (h1.Mf h2) hG.1.cN hG.1.pa (hpc.same (e 41 (by omega)) (e 0 (by omega)) (e 44 (by omega)) (e 45 (by omega))) hpr (hsc.same (e 41 (by omega)) (e 42 (by omega))) hsr hso (mk := p.mk) (fun m hm => ?_) (fun m hm => ?_) hG.1.mo⟩
  · exact ((hG.1.mc m hm).same (h1.1 _ (by omega) (by omega)) (h1.1 _ (by omega) (by omega))).same (e _ (by omega)) (e _ (by omega))
  · have hmr := hG.1.mr m hm
    have hmo := hG.1.mo m hm
    revert hmr hmo
    have e89 : θ 89 = μ 89 := by rw [e 89 (by omega), h1.1 89 (by omega) (by omega)]
    cases p.mk m with
    | none => intro hmr _; show θ 89 m = 0; rw [e89]; exact hmr
    | some y =>
      obtain ⟨c, t, s, q, cl⟩ := y
      intro hmr hmo
      exact ⟨by rw [e89]; exact hmr.1, MR.off hmr.2 hmo.2.1 (fun j j1 j2 => e88 j (by omega))⟩
theorem s_see (hG : GW μ) : S_see GW a b is μ := fun ha hb => by
  obtain ⟨p, hA⟩ := hG
  have h := hA.1
  obtain ⟨g1, g2, g3⟩ := see_ok (is := is) h.hn h.tb.1 h.sc h.so.1 ha hb
  obtain ⟨μ1, e0, μ2, e1, e2⟩ := moved (μ := μ) (f := fX11_see a b is μ) (r := fX12_see a b is) (fun x hx => g2.1 x (by omega) (by omega)) g1 (by
    have h81 : (fX11_see a b is μ).2 81 0 = p.n := (congrFun (g2.1 81 (by omega) (by omega)) 0).trans h.rr.2.1.1
    refine Ok.imp (see_r (is := is) h.hn h81 (h.sr.same (g2.1 88 (by omega) (by omega))) h.so.1 ha hb) ?_
    rintro ⟨y, θ⟩ ⟨k1, k2, k3⟩
    dsimp only at k1 k2 k3 ⊢
    refine ⟨k1, fun x hx => by rw [k2.1 x (by omega), upd2_ne (by omega)], ?_⟩
    by_cases q : (0 ≤ a ∧ a < p.n) ∧ (0 ≤ b ∧ b < p.n) ∧ p.q < 8
    · rw [if_pos q] at g3 k3
      exact Sf.ga hA g2 k2 g3 k3 (h.so.push q.2.2 (by dsimp only; omega) (by dsimp only; omega))
    · rw [if_neg q] at g3 k3
      refine Sf.ga hA g2 k2 (by rw [g3]; exact h.sc) ?_ h.so
      rw [k3]
      exact (h.sr.same (g2.1 88 (by omega) (by omega))).put)
  exact ⟨_, μ1, e0, _, μ2, e1, rfl, e2⟩
theorem s_lies (hG : GW μ) : S_lies GW a is μ := fun ha => by
  obtain ⟨p, hA⟩ := hG
  have h := hA.1
  obtain ⟨g1, g2, g3⟩ := lies_ok (is := is) h.hn h.tb.1 h.sc h.so.1 ha
  obtain ⟨μ1, e0, μ2, e1, e2⟩ := moved (μ := μ) (f := fX11_lies a is μ) (r := fX12_lies a is) (fun x hx => g2.1 x (by omega) (by omega)) g1 (by
    have h81 : (fX11_lies a is μ).2 81 0 = p.n := (congrFun (g2.1 81 (by omega) (by omega)) 0).trans h.rr.2.1.1
    refine Ok.imp (lies_r (is := is) h.hn h81 (h.sr.same (g2.1 88 (by omega) (by omega))) h.so.1 ha) ?_
    rintro ⟨y, θ⟩ ⟨k1, k2, k3⟩
    dsimp only at k1 k2 k3 ⊢
    refine ⟨k1, fun x hx => by rw [k2.1 x (by omega), upd2_ne (by omega)], ?_⟩
    by_cases q : (0 ≤ a ∧ a < p.n) ∧ p.q < 8
    · rw [if_pos q] at g3 k3
      exact Sf.ga hA g2 k2 g3 k3 (h.so.push q.2 (by dsimp only; omega) (Or.inr rfl))
    · rw [if_neg q] at g3 k3
      refine Sf.ga hA g2 k2 (by rw [g3]; exact h.sc) ?_ h.so
      rw [k3]
      exact (h.sr.same (g2.1 88 (by omega) (by omega))).put)
  exact ⟨_, μ1, e0, _, μ2, e1, rfl, e2⟩
end CALLS6
