/-! ===== level 2: cooks, chance, count ===== -/
section CALLS5
variable {p : Pm} {μ ν : Mem} {a b w : Int} {ev : Bool}
abbrev Pm.ck (p : Pm) (e : Nat → Int) : Prop := IsK p.N p.n p.tn p.op p.g e
theorem cooks_q (hG : GA p μ) : Ok (fX1_learn μ) (fun ν => Qc μ ν ∧ GA p ν ∧ ∃ e, (∀ c, c < p.N → ν 56 c = e c) ∧ p.ck e) := by
  obtain ⟨h, hC, hT⟩ := id hG
  obtain ⟨x, y, hx, hy, hxy, x1, x2⟩ := hC.sck
  have hxb := isCt_b hx
  refine Ok.imp (cooks_ok hx x1 h.gp h.gr hC.co) ?_
  rintro ν ⟨f1, f2, f3, f4⟩
  have hQ : Qc μ ν := ⟨fun z hz => f1 z (by omega) (by omega) (by omega) (by omega), fun j _ _ => congrFun (f1 25 (by omega) (by omega) (by omega) (by omega)) j⟩
  refine ⟨hQ, ⟨h.qc hQ, ⟨?_, fun k bk b hk => ?_, ?_, fun _ => f4⟩, hT.qc hQ⟩, _, fun c hc => rfl, f4⟩
  · rw [f1 25 (by omega) (by omega) (by omega) (by omega)]; exact hC.sck
  · obtain ⟨a1, a2, a3⟩ := hC.st k bk b hk
    have kk : k = 46 ∨ k = 49 ∨ k = 51 ∨ (65 ≤ k ∧ k ≤ 73) := by
      unfold stB at hk
      rcases hk with q | q | q | ⟨i, hi, q⟩ <;> omega
    have e1 := f1 k (by omega) (by omega) (by omega) (by omega)
    have e2 := f1 (k + 1) (by omega) (by omega) (by omega) (by omega)
    rw [e1]
    exact ⟨a1, a2, a3.same e1 e2⟩
  · have := hC.bi
    unfold BiO at this ⊢
    rw [f1 53 (by omega) (by omega) (by omega) (by omega), f1 54 (by omega) (by omega) (by omega) (by omega)]; exact this
theorem cooksr_q (hG : GA p ν) : Ok (fX12_laysCooks (upd2 ν 75 0 0)) (fun θ => Qr ν θ ∧ Tt p θ ∧ ∃ e, TK p.kd p.n e θ ∧ p.ck e) := by
  obtain ⟨h, hC, hT⟩ := id hG
  have hQ1 : Qr ν (upd2 ν 75 0 0) := .dk0 Dk.rf
  have hT1 : Tt p (upd2 ν 75 0 0) := hT.dk0 Dk.rf
  have hw : w32 (upd2 ν 75 0 0 75 26) = upd2 ν 75 0 0 75 26 := by
    rcases hT1.1 with e | e | e | e <;> rw [e] <;> decide
  by_cases e : upd2 ν 75 0 0 75 26 = 3
  · unfold fX12_laysCooks
    rw [hw, w32_3, if_pos e, Ok_some]
    exact ⟨hQ1, hT1, hT1.2.2.2 e⟩
  · refine Ok.imp (cooks_r h.rr.put (by rw [hw]; exact e)) ?_
    rintro θ ⟨hD, e, hF, hI⟩
    have e75 : θ 75 = upd2 (upd2 ν 75 0 0) 75 26 3 75 := hD 75 (by omega) (by omega) (by omega) (by omega) (by omega) (by omega) (by omega)
    have h26 : θ 75 26 = 3 := by rw [e75, upd2_at]
    refine ⟨⟨fun x hx => ?_, fun j j0 j1 j2 => ?_⟩, ⟨Or.inr (Or.inr (Or.inr h26)), fun q => ?_, fun q => ?_, fun _ => ⟨e, hF, hI⟩⟩, e, hF, hI⟩
    · rw [hD x (by omega) (by omega) (by omega) (by omega) (by omega) (by omega) (by omega), upd2_ne (by omega), upd2_ne (by omega)]
    · rw [e75, upd2_nj j1, upd2_nj j0]
    · rw [h26] at q; omega
    · rw [h26] at q; omega
theorem s_wins (hG : GW μ) : S_wins GW a μ := fun ha => by
  obtain ⟨p, hA⟩ := hG
  have hN := hA.1.gp.2.1
  obtain ⟨v, μ1, e0, μ2, e1, e2⟩ := bothK (f := fX11_wins a μ) (r := fX12_wins a) (fun v => ∃ e, p.ck e ∧ v = if a = 0 then wnI (e p.c) else if a = 1 then e p.c else -2) hA (by
    unfold fX11_wins
    refine Ok.then (cooks_q hA) ?_
    rintro ν ⟨g1, g2, e, g4, g5⟩
    rw [nz_w ha, g2.1.h41]
    by_cases q0 : a = 0
    · rw [if_pos q0, Ok_some]
      refine ⟨⟨e, g5, ?_⟩, g1, g2.2.1⟩
      rw [if_pos q0]
      exact winnerOf_ok hN g5 g4 hA.1.cN
    rw [if_neg q0]
    by_cases q1 : a = 1
    · rw [if_pos q1, Ok_some]
      refine ⟨⟨e, g5, ?_⟩, g1, g2.2.1⟩
      rw [if_neg q0, if_pos q1]
      have := hA.1.cN
      dsimp only
      rw [at_n p.c rfl (L := 3840) rfl (by omega) (by omega), g4 _ hA.1.cN]
    · rw [if_neg q1, Ok_some]
      refine ⟨⟨e, g5, ?_⟩, g1, g2.2.1⟩
      rw [if_neg q0, if_neg q1]) (by
    rintro v ⟨e, he, rfl⟩ ν hν
    unfold fX12_wins
    simp only [lt]
    rw [within_r ha ⟨by omega, by omega⟩ ⟨by omega, by omega⟩, nz_w ha]
    by_cases q : 0 ≤ a ∧ a ≤ 1
    · rw [if_pos (decide_eq_true q)]
      refine Ok.then (cooksr_q hν) ?_
      rintro θ ⟨q1, q2, e', hK, hI⟩
      have hθ := hν.1.qr q1
      obtain ⟨n1, n2⟩ := hθ.rr.nul hθ.cN
      have hb := hI.1 _ hθ.cN
      obtain ⟨w1, w2⟩ := wins_v hb
      rw [hθ.h88, w32_n (by omega), gd_pos (by omega), Int.toNat_natCast, hK _ hθ.cN, w1, w2, hI.uniq hθ.gp he _ hθ.cN, Ok_some]
      refine ⟨?_, q1, q2⟩
      dsimp only
      by_cases q0 : a = 0
      · rw [if_pos q0, if_pos q0]
      · rw [if_neg q0, if_neg q0, if_pos (by omega)]
    · rw [if_neg (by rw [decide_eq_false q]; decide), if_neg (by omega), if_neg (by omega), Ok_some]
      exact ⟨rfl, .dk0 Dk.rf, hν.2.2.dk0 Dk.rf⟩)
  exact ⟨v, μ1, e0, v, μ2, e1, rfl, e2⟩
theorem s_his (hG : GW μ) : S_his GW μ := by
  obtain ⟨p, hA⟩ := hG
  have hN := hA.1.gp.2.1
  have hn := hA.1.hn
  obtain ⟨v, μ1, e0, μ2, e1, e2⟩ := bothK (f := fX11_his μ) (r := fX12_his) (fun v => ∃ e, p.ck e ∧ v = btI p.n p.tn p.op e p.c) hA (by
    unfold fX11_his
    refine Ok.then (cooks_q hA) ?_
    rintro ν ⟨g1, g2, e, g4, g5⟩
    rw [g2.1.h41, bestTurn_ok g2.1.gp g2.1.gr g5 g4 hA.1.cN, Option.bind_some, Ok_some]
    exact ⟨⟨e, g5, rfl⟩, g1, g2.2.1⟩) (by
    rintro v ⟨e, he, rfl⟩ ν hν
    unfold fX12_his
    simp only [lt]
    refine Ok.then (cooksr_q hν) ?_
    rintro θ ⟨q1, q2, e', hK, hI⟩
    have hθ := hν.1.qr q1
    obtain ⟨n1, n2⟩ := hθ.rr.nul hθ.cN
    rw [hθ.h88]
    refine Ok.then (hθ.rr.lay hθ.cN) ?_
    rintro τ ⟨tL, tD⟩
    have hQτ : Qr ν τ := q1.tr ⟨fun x hx => tD x (by omega) (by omega) (by omega) (by omega), fun j _ _ _ => congrFun (tD 75 (by omega) (by omega) (by omega) (by omega)) j⟩
    have hTτ : Tt p τ := q2.same (congrFun (tD 75 (by omega) (by omega) (by omega) (by omega)) 26) (tD 92 (by omega) (by omega) (by omega) (by omega))
    have hRτ := hθ.rr.dk tD
    rw [hRτ.srv hθ.cN tL, Option.bind_some]
    by_cases hcg : p.c = p.g
    · rw [decide_eq_true hcg, if_pos rfl, Ok_some]
      refine ⟨?_, hQτ, hTτ⟩
      dsimp only
      have h0 : e p.c = 0 := (he.2.1 _ hA.1.cN).mpr (endB_iff.mpr (Or.inl hcg))
      unfold btI
      rw [if_pos h0]
    rw [decide_eq_false hcg, if_neg (show ¬ false = true by decide)]
    have hl := leads_r (b := 0) (by omega) hRτ hθ.cN
    rw [show ((0 : Nat) : Int) = 0 from rfl] at hl
    refine Ok.then hl ?_
    rintro χ ⟨cD, cL⟩
    have hRχ := hRτ.dl cD
    have hKχ : TK p.kd p.n e' χ := TK.dl (fun c hc => by rw [tD 92 (by omega) (by omega) (by omega) (by omega)]; exact hK c hc) cD
    rw [w32_n (by omega), gd_pos (by omega), Int.toNat_natCast, hKχ _ hθ.cN, hRχ.2.1.1, his_r hRχ hKχ hI cL hθ.cN hcg, Option.bind_some, Ok_some]
    refine ⟨btI_congr hθ.gp (hI.uniq hθ.gp he) hθ.cN, hQτ.tr ⟨fun x hx => cD x (by omega) (by omega) (by omega) (by omega) (by omega) (by omega), fun j _ _ _ => congrFun (cD 75 (by omega) (by omega) (by omega) (by omega) (by omega) (by omega)) j⟩, hTτ.same (congrFun (cD 75 (by omega) (by omega) (by omega) (by omega) (by omega) (by omega)) 26) (cD 92 (by omega) (by omega) (by omega) (by omega) (by omega) (by omega))⟩)
  exact ⟨v, μ1, e0, v, μ2, e1, rfl, e2⟩
theorem s_chance (hG : GW μ) : S_chance GW a ev μ := fun ha => by
  obtain ⟨p, hA⟩ := hG
  have hn := hA.1.hn
  obtain ⟨μ1, e0, μ2, e1, e2⟩ := both (f := fX11_chance a ev μ) (r := fX12_chance a ev) (v := if (1 ≤ a ∧ a ≤ 6) ∧ 1 ≤ p.n then chI p.n a.toNat (Vw p.n p.tn p.op ev p.g a.toNat p.c) else -1) hA (by
    by_cases q : (1 ≤ a ∧ a ≤ 6) ∧ 1 ≤ p.n
    · obtain ⟨x, y, hx, hy, hxy, x1, x2⟩ := hA.2.1.sck
      obtain ⟨T, rfl⟩ : ∃ T : Nat, a = T := ⟨a.toNat, by omega⟩
      rw [Int.toNat_natCast, if_pos q]
      refine Ok.imp (chance_ok hx hy hxy x1 x2 hA.1.gp hA.1.gr hA.1.cN hA.1.h41 q.2 (by omega) (by omega)) ?_
      rintro ⟨o, θ⟩ ⟨o1, o2, x', y', o3⟩
      dsimp only at o1 o2 o3 ⊢
      have e : ∀ x, x ≠ 36 → x ≠ 37 → x ≠ 25 → θ x = μ x := fun x q1 q2 q3 => by funext j; exact o2 x j q1 q2 (Or.inl q3)
      refine ⟨o1, ⟨fun x hx => ?_, fun j j1 j2 => o2 25 j (by omega) (by omega) (Or.inr ⟨j1, j2⟩)⟩, ⟨⟨x', y', o3⟩, fun k bk b hk => ?_, ?_, ?_⟩⟩
      · by_cases hx5 : x = 25
        · omega
        · exact e x (by omega) (by omega) hx5
      · obtain ⟨a1, a2, a3⟩ := hA.2.1.st k bk b hk
        have kk : k = 46 ∨ k = 49 ∨ k = 51 ∨ (65 ≤ k ∧ k ≤ 73) := by
          unfold stB at hk
          rcases hk with q | q | q | ⟨i, hi, q⟩ <;> omega
        have e1 := e k (by omega) (by omega) (by omega)
        have e2 := e (k + 1) (by omega) (by omega) (by omega)
        rw [e1]
        exact ⟨a1, a2, a3.same e1 e2⟩
      · have := hA.2.1.bi
        unfold BiO at this ⊢
        rw [e 53 (by omega) (by omega) (by omega), e 54 (by omega) (by omega) (by omega)]; exact this
      · have := hA.2.1.co
        unfold CoO at this ⊢
        rw [e 55 (by omega) (by omega) (by omega), e 56 (by omega) (by omega) (by omega)]; exact this
    · have hkeep : Ok (some ((-1, μ) : Int × Mem)) (fun o => o.1 = (if (1 ≤ a ∧ a ≤ 6) ∧ 1 ≤ p.n then chI p.n a.toNat (Vw p.n p.tn p.op ev p.g a.toNat p.c) else -1) ∧ Qc μ o.2 ∧ Caches p o.2) := by
        rw [Ok_some, if_neg q]
        exact ⟨rfl, Qc.rf, hA.2.1⟩
      unfold fX11_chance
      simp only [lt]
      rw [nz_w ha, w32_1, show w32 6 = 6 from by decide, hA.1.tb.1, w32_n (a := p.n) (by omega)]
      by_cases c1 : a < 1
      · rw [if_pos c1]; exact hkeep
      rw [if_neg c1]
      by_cases c2 : a ≤ 6
      · rw [if_pos c2, if_pos (by omega)]; exact hkeep
      · rw [if_neg c2]; exact hkeep) (by
    intro ν hν
    by_cases q : (1 ≤ a ∧ a ≤ 6) ∧ 1 ≤ p.n
    · obtain ⟨T, rfl⟩ : ∃ T : Nat, a = T := ⟨a.toNat, by omega⟩
      rw [Int.toNat_natCast, if_pos q]
      exact Ok.imp (chance_r hν.1.rr hν.1.cN hν.1.h88 q.2 (by omega) (by omega)) (fun o r => ⟨r.1, .dk0 r.2, hν.2.2.dk0 r.2⟩)
    · have hkeep : Ok (some ((-1, upd2 ν 75 0 0) : Int × Mem)) (fun o => o.1 = (if (1 ≤ a ∧ a ≤ 6) ∧ 1 ≤ p.n then chI p.n a.toNat (Vw p.n p.tn p.op ev p.g a.toNat p.c) else -1) ∧ Qr ν o.2 ∧ Tt p o.2) := by
        rw [Ok_some, if_neg q]
        exact ⟨rfl, .dk0 Dk.rf, hν.2.2.dk0 Dk.rf⟩
      unfold fX12_chance
      simp only [lt]
      rw [within_r ha ⟨by omega, by omega⟩ ⟨by omega, by omega⟩, upd2_ne (by omega), hν.1.rr.2.1.1, w32_n (a := p.n) (by omega)]
      by_cases c1 : 1 ≤ a ∧ a ≤ 6
      · rw [if_pos (decide_eq_true c1), if_pos (by omega)]; exact hkeep
      · rw [if_neg (by rw [decide_eq_false c1]; decide)]; exact hkeep)
  exact ⟨_, μ1, e0, _, μ2, e1, rfl, e2⟩
def cntI (p : Pm) (a : Int) : Int := if a = 0 then (p.n : Int) else if a = 1 then (p.N : Int) else if a = 2 then p.t else if a = 3 then p.s else if a = 4 then (obN p.op p.c p.n : Int) else if a = 5 then (p.P : Int) else if a = 6 then (match p.w with
  | none => 0
  | some _ => (p.n : Int)) else if a = 7 then (p.q : Int) else if a = 8 then (p.D : Int) else if a = 9 then (p.L : Int) else -1
theorem s_count (hG : GW μ) : S_count GW a μ := fun ha => by
  obtain ⟨p, hA⟩ := hG
  obtain ⟨h, hC, hT⟩ := id hA
  have hn := h.hn
  have hcl : fX11_count a μ = some (cntI p a) := by
    unfold fX11_count cntI
    simp only [lt]
    rw [nz_w ha, h.tb.1, all_n hn h.tb.2.1, h.pc.2.1, h.pc.2.2.1, h.plc.1, h.sc.1, h.pc.2.2.2.1, h.tc.1]
    have hob := openBits_ok hn h.tb h.cN h.h41
    have hwi : (if w32 (μ 0 6) = w32 (-1) then (0 : Int) else (p.n : Int)) = (match p.w with
        | none => 0
        | some _ => (p.n : Int)) := by
      have hwc := h.wc
      have hwo := h.wo
      have hN := h.gp.2.1
      unfold WiC at hwc
      rw [hwc]
      cases e : p.w with
      | none => rfl
      | some t =>
        have ht := hwo t e
        dsimp only
        rw [w32_n (by omega), w32_m1, if_neg (by omega)]
    rw [hob, Option.bind_some, hwi]
    repeat' split
    all_goals rfl
  have hrf : Ok (fX12_count a μ) (fun o => o.1 = cntI p a ∧ Dk (upd2 μ 75 0 0) o.2) := by
    have hp := h.pR.2
    have u : ∀ x, x ≠ 75 → upd2 μ 75 0 0 x = μ x := fun x hx => upd2_ne hx
    have hwi : (if ((upd2 μ 75 0 0 75 16) != 0) = true then ((p.n : Nat) : Int) else 0) = (match p.w with
        | none => 0
        | some _ => (p.n : Int)) := by
      have hwr := h.wr
      unfold WiR at hwr
      rw [upd2_nj (by omega)]
      cases e : p.w with
      | none =>
        rw [e] at hwr
        dsimp only at hwr ⊢
        rw [hwr, if_neg (by decide)]
      | some t =>
        rw [e] at hwr
        dsimp only at hwr ⊢
        rw [hwr.1, if_pos (by decide)]
    have hs3 : upd2 μ 75 0 0 88 3 = p.q := by rw [u 88 (by omega)]; exact h.sr.1
    unfold fX12_count cntI
    simp only [lt]
    have h81 : upd2 μ 75 0 0 81 0 = p.n := by rw [u 81 (by omega)]; exact h.rr.2.1.1
    rw [nz_w ha, h81, hwi, hs3, h.rr.put.stk, Option.bind_some]
    by_cases c0 : a = 0
    · rw [if_pos c0, if_pos c0, Ok_some]; exact ⟨rfl, Dk.rf⟩
    rw [if_neg c0, if_neg c0]
    by_cases c1 : a = 1
    · rw [if_pos c1, if_pos c1, Ok_some]; exact ⟨rfl, Dk.rf⟩
    rw [if_neg c1, if_neg c1]
    by_cases c2 : a = 2
    · rw [if_pos c2, if_pos c2, Ok_some]; exact ⟨by dsimp only; rw [u 88 (by omega)]; exact hp.1, Dk.rf⟩
    rw [if_neg c2, if_neg c2]
    by_cases c3 : a = 3
    · rw [if_pos c3, if_pos c3, Ok_some]; exact ⟨by dsimp only; rw [u 88 (by omega)]; exact hp.2.1, Dk.rf⟩
    rw [if_neg c3, if_neg c3]
    by_cases c4 : a = 4
    · rw [if_pos c4, if_pos c4]
      refine Ok.then (turnsNow_r h.rr.put h.cN (by rw [u 88 (by omega)]; exact h.h88)) ?_
      rintro ⟨x, θ⟩ ⟨e1, e2⟩
      rw [Ok_some]
      exact ⟨e1, e2⟩
    rw [if_neg c4, if_neg c4]
    by_cases c5 : a = 5
    · rw [if_pos c5, if_pos c5, Ok_some]; exact ⟨by dsimp only; rw [u 84 (by omega)]; exact h.plr.1, Dk.rf⟩
    rw [if_neg c5, if_neg c5]
    by_cases c6 : a = 6
    · rw [if_pos c6, if_pos c6, Ok_some]; exact ⟨rfl, Dk.rf⟩
    rw [if_neg c6, if_neg c6]
    by_cases c7 : a = 7
    · rw [if_pos c7, if_pos c7, Ok_some]; exact ⟨rfl, Dk.rf⟩
    rw [if_neg c7, if_neg c7]
    by_cases c8 : a = 8
    · rw [if_pos c8, if_pos c8, Ok_some]; exact ⟨by dsimp only; rw [upd2_nj (by omega)]; exact hp.2.2.1, Dk.rf⟩
    rw [if_neg c8, if_neg c8]
    by_cases c9 : a = 9
    · rw [if_pos c9, if_pos c9, Ok_some]; exact ⟨by dsimp only; rw [upd2_nj (by omega)]; exact h.tr.1, Dk.rf⟩
    rw [if_neg c9, if_neg c9, Ok_some]
    exact ⟨rfl, Dk.rf⟩
  obtain ⟨μ2, e1, e2⟩ := pureC (r := fX12_count a) hA (Ok.imp hrf (fun o q => ⟨q.1, .dk0 q.2, hT.dk0 q.2⟩))
  exact ⟨_, μ, ⟨hcl, rfl⟩, _, μ2, e1, rfl, e2⟩
end CALLS5
