/-! ===== level 2: calls over the tables ===== -/
section CALLS2
variable {p : Pm} {μ ν : Mem} {a b w : Int}
theorem bothK {α : Type} {f : Option (α × Mem)} {r : Mem → Option (α × Mem)} (K : α → Prop) (hG : GA p μ) (hC : Ok f (fun o => K o.1 ∧ Qc μ o.2 ∧ Caches p o.2)) (hR : ∀ v, K v → ∀ ν, GA p ν → Ok (r ν) (fun o => o.1 = v ∧ Qr ν o.2 ∧ Tt p o.2)) :
    ∃ (v : α) (μ1 : Mem), f = some (v, μ1) ∧ ∃ (μ2 : Mem), r (LR 0 75 μ μ1) = some (v, μ2) ∧ GW (LR 75 96 (LR 0 75 μ μ1) μ2) := by
  obtain ⟨⟨v1, μ1⟩, hf, hK, hQ, hCa⟩ := hC
  dsimp only at hK hQ hCa
  obtain ⟨m1, e1, m2, e2⟩ := both (f := f) (r := r) (v := v1) hG ⟨(v1, μ1), hf, rfl, hQ, hCa⟩ (hR v1 hK)
  exact ⟨v1, m1, e1, m2, e2⟩
/-- the class learns one of its tables -/
theorem learn_q {k b : Nat} {bk : Bool} {t : Int} (hk : stB k bk b) (ht : t = -1 ∨ ∃ t' : Nat, t = t' ∧ t' < p.N) (hG : GA p μ) :
    Ok (fX8_learn k t μ) (fun ν => Qc μ ν ∧ GA p ν ∧ ν k 4 = t ∧ StI p.N p.n p.tn (eS p.tn p.op bk b) k t ν) := by
  obtain ⟨h, hC, hT⟩ := id hG
  obtain ⟨i1, i2⟩ := stB_is hk
  obtain ⟨c1, c2, c3⟩ := hC.st k bk b hk
  refine Ok.imp (steps_learn_ok i1 h.gp h.gr c1 i2 c2 ht c3) ?_
  rintro ν ⟨f1, f2, f3, f4, f5⟩
  obtain ⟨k1, k2⟩ := isSt_b i1
  have kk : k = 46 ∨ k = 49 ∨ k = 51 ∨ (65 ≤ k ∧ k ≤ 73) := by
    unfold stB at hk
    rcases hk with q | q | q | ⟨i, hi, q⟩ <;> omega
  have hQ : Qc μ ν := ⟨fun x hx => f1 x (by omega) (by omega) (by omega), fun j _ _ => congrFun (f1 25 (by omega) (by omega) (by omega)) j⟩
  refine ⟨hQ, ⟨h.qc hQ, ⟨?_, fun k' bk' b' hk' => ?_, ?_, ?_⟩, hT.qc hQ⟩, f4, f5⟩
  · rw [f1 25 (by omega) (by omega) (by omega)]; exact hC.sck
  · by_cases e : k' = k
    · subst e
      have eb : bk' = bk ∧ b' = b := by
        unfold stB at hk hk'
        rcases hk with ⟨q1, q2, q3⟩ | ⟨q1, q2, q3⟩ | ⟨q1, q2, q3⟩ | ⟨i, hi, q1, q2, q3⟩ <;> rcases hk' with ⟨r1, r2, r3⟩ | ⟨r1, r2, r3⟩ | ⟨r1, r2, r3⟩ | ⟨j, hj, r1, r2, r3⟩ <;> first | omega | (refine ⟨by rw [r2, q2], by omega⟩)
      obtain ⟨rfl, rfl⟩ := eb
      refine ⟨by rw [f2 2 (by omega)]; exact c1, by rw [f2 1 (by omega)]; exact c2, fun _ => ?_⟩
      rw [f4]; exact f5
    · obtain ⟨d1, d2, d3⟩ := hC.st k' bk' b' hk'
      have kk' : (k' ≠ k ∧ k' ≠ k + 1 ∧ k' + 1 ≠ k ∧ k' + 1 ≠ k + 1) ∧ 46 ≤ k' := by
        unfold stB at hk hk'
        rcases hk with q | q | q | ⟨i, hi, q⟩ <;> rcases hk' with r | r | r | ⟨j, hj, r⟩ <;> omega
      have e1 := f1 k' (by omega) (by omega) (by omega)
      have e2 := f1 (k' + 1) (by omega) (by omega) (by omega)
      rw [e1]
      exact ⟨d1, d2, d3.same e1 e2⟩
  · have := hC.bi
    unfold BiO at this ⊢
    rw [f1 53 (by omega) (by omega) (by omega), f1 54 (by omega) (by omega) (by omega)]; exact this
  · have := hC.co
    unfold CoO at this ⊢
    rw [f1 55 (by omega) (by omega) (by omega), f1 56 (by omega) (by omega) (by omega)]; exact this
theorem rw_of {k t' : Nat} {E : Nat → Nat → Bool} (hN : p.N ≤ 3840) (h : IsD p.N p.n p.tn E t' (fun c => ν (k + 1) c)) : Rw p.N k (fun c => ν (k + 1) c) ν := fun c hc => ⟨rfl, (h.1 c hc).1, by have := (h.1 c hc).2; omega⟩
theorem st46 : stB 46 true 0 := Or.inl ⟨rfl, rfl, rfl⟩
theorem st49 : stB 49 true 0 := Or.inr (Or.inl ⟨rfl, rfl, rfl⟩)
theorem st51 : stB 51 false 0 := Or.inr (Or.inr (Or.inl ⟨rfl, rfl, rfl⟩))
abbrev Pm.dist (p : Pm) (b t : Nat) (f : Nat → Int) : Prop := IsD p.N p.n p.tn (eS p.tn p.op true b) t f
theorem served_q (hG : GA p μ) : Ok (fX11_servedSteps μ) (fun ν => Qc μ ν ∧ GA p ν ∧ ν 46 4 = (p.g : Nat) ∧ ∃ f, Rw p.N 46 f ν ∧ p.dist 0 p.g f) := by
  have hN := hG.1.gp.2.1
  have hgN := hG.1.gN
  unfold fX11_servedSteps
  rw [hG.1.g4]
  refine Ok.then (learn_q st46 (Or.inr ⟨p.g, rfl, hgN⟩) hG) ?_
  rintro ν ⟨g1, g2, g3, g4⟩
  rw [Ok_some]
  rcases g4 with ⟨t', e, ht, hD⟩ | ⟨e, -⟩
  · have : t' = p.g := by omega
    subst this
    exact ⟨g1, g2, g3, _, rw_of hN hD, hD⟩
  · omega
/-- the reference lays its table of the fewest -/
theorem fewest_q (hG : GA p ν) : Ok (fX12_laysFewest (upd2 ν 75 0 0)) (fun θ => Qr ν θ ∧ Tt p θ ∧ ∃ P W, TM p.kd p.n P W θ ∧ LF p.N p.n p.tn p.op 0 p.g P W) := by
  obtain ⟨h, hC, hT⟩ := id hG
  have hn := h.hn
  have hQ1 : Qr ν (upd2 ν 75 0 0) := .dk0 Dk.rf
  have hT1 : Tt p (upd2 ν 75 0 0) := hT.dk0 Dk.rf
  unfold fX12_laysFewest
  simp only [lt]
  have hw : w32 (upd2 ν 75 0 0 75 26) = upd2 ν 75 0 0 75 26 := by
    rcases hT1.1 with e | e | e | e <;> rw [e] <;> decide
  rw [hw, w32_1]
  by_cases e : upd2 ν 75 0 0 75 26 = 1
  · rw [if_pos e, Ok_some]
    exact ⟨hQ1, hT1, hT1.2.1 e⟩
  · rw [if_neg e]
    have hf := fewest_r (toWish := false) (b := 0) (t := p.g) (μ := upd2 ν 75 0 0) (by omega) h.rr.put h.gN (by rw [if_neg (show ¬ false = true by decide)])
    rw [show ((0 : Nat) : Int) = 0 from rfl] at hf
    refine Ok.then hf ?_
    rintro θ ⟨hD, P, W, hM, hL⟩
    rw [Ok_some]
    have hM2 : TM p.kd p.n P W (upd2 θ 75 26 1) := fun c hc => by rw [upd2_ne (by omega)]; exact hM c hc
    refine ⟨⟨fun x hx => ?_, fun j j0 j1 j2 => ?_⟩, ⟨Or.inr (Or.inl upd2_at), fun _ => ⟨P, W, hM2, hL⟩, fun q => ?_, fun q => ?_⟩, P, W, hM2, hL⟩
    · rw [upd2_ne (by omega), hD x (by omega) (by omega) (by omega) (by omega) (by omega), upd2_ne (by omega)]
    · rw [upd2_nj j1, hD 75 (by omega) (by omega) (by omega) (by omega) (by omega), upd2_nj j0]
    · rw [upd2_at] at q; omega
    · rw [upd2_at] at q; omega
theorem dist_eq {b t : Nat} {f : Nat → Int} {P W : Nat → Nat} (h : Core p μ) (hf : p.dist b t f) (hL : LF p.N p.n p.tn p.op b t P W) : ∀ c, c < p.N → (P c : Int) - 1 = f c := fun c hc => (LF.dist h.gp hL).uniq h.gp hf c hc
theorem nxB_congr {tn : Nat → Nat → Nat} {op : Nat → Nat → Bool} {f g : Nat → Int} {c m : Nat} (h1 : g c = f c) (h2 : g (tn c m) = f (tn c m)) : nxB tn op g c m = nxB tn op f c m := by
  unfold nxB
  rw [h1, h2]
theorem ftI_congr {n : Nat} {tn : Nat → Nat → Nat} {op : Nat → Nat → Bool} {f g : Nat → Int} {c : Nat} (h1 : g c = f c) (h2 : ∀ m, 1 ≤ m → m ≤ n → g (tn c m) = f (tn c m)) : ftI n tn op g c = ftI n tn op f c := by
  unfold ftI
  rw [lst_congr (p := nxB tn op g c) (q := nxB tn op f c) (fun i i1 i2 => nxB_congr h1 (h2 i i1 (by omega))), h1]
theorem s_least (hG : GW μ) : S_least GW μ := by
  obtain ⟨p, hA⟩ := hG
  have hN := hA.1.gp.2.1
  obtain ⟨v, μ1, e0, μ2, e1, e2⟩ := bothK (f := fX11_least μ) (r := fX12_least) (fun v => ∃ f, p.dist 0 p.g f ∧ v = f p.c) hA (by
    unfold fX11_least
    refine Ok.then (served_q hA) ?_
    rintro ν ⟨g1, g2, -, f, g4, g5⟩
    rw [Ok_some]
    refine ⟨⟨f, g5, ?_⟩, g1, g2.2.1⟩
    rw [g2.1.h41]
    exact rw_at (Or.inl rfl) hN g4 hA.1.cN) (by
    rintro v ⟨f, hf, rfl⟩ ν hν
    unfold fX12_least
    simp only [lt]
    refine Ok.then (fewest_q hν) ?_
    rintro θ ⟨q1, q2, P, W, hM, hL⟩
    have hθ := hν.1.qr q1
    rw [hθ.h88, least_r hθ.rr hM (hL.tb hθ.hn) hθ.cN, Option.bind_some, Ok_some]
    exact ⟨dist_eq hθ hf hL _ hθ.cN, q1, q2⟩)
  exact ⟨v, μ1, e0, v, μ2, e1, rfl, e2⟩
theorem s_never (hG : GW μ) : S_never GW μ := by
  obtain ⟨p, hA⟩ := hG
  obtain ⟨v, μ1, e0, μ2, e1, e2⟩ := bothK (f := fX11_never μ) (r := fX12_never) (fun v => ∃ f, p.dist 0 p.g f ∧ v = ((cn p.N (fun c => decide (f c = -1)) : Nat) : Int)) hA (by
    unfold fX11_never
    refine Ok.then (served_q hA) ?_
    rintro ν ⟨g1, g2, -, f, g4, g5⟩
    have := stacksAt_ok (a := -1) (Or.inl rfl) g2.1.gp g2.1.gr g4
    rw [this, Option.bind_some, Ok_some, w32_m1]
    exact ⟨⟨f, g5, rfl⟩, g1, g2.2.1⟩) (by
    rintro v ⟨f, hf, rfl⟩ ν hν
    unfold fX12_never
    simp only [lt]
    refine Ok.then (fewest_q hν) ?_
    rintro θ ⟨q1, q2, P, W, hM, hL⟩
    have hθ := hν.1.qr q1
    rw [never_r hθ.rr hM (hL.tb hθ.hn), Option.bind_some, Ok_some]
    refine ⟨?_, q1, q2⟩
    dsimp only
    rw [cn_congr (fun c hc => ?_)]
    have := dist_eq hθ hf hL c hc
    by_cases e : P c = 0
    · rw [decide_eq_true e, decide_eq_true (by omega)]
    · rw [decide_eq_false e, decide_eq_false (by omega)])
  exact ⟨v, μ1, e0, v, μ2, e1, rfl, e2⟩
theorem s_spread (hG : GW μ) : S_spread GW a μ := fun ha => by
  obtain ⟨p, hA⟩ := hG
  obtain ⟨v, μ1, e0, μ2, e1, e2⟩ := bothK (f := fX11_spread a μ) (r := fX12_spread a) (fun v => ((0 ≤ a ∧ a ≤ 60) → ∃ f, p.dist 0 p.g f ∧ v = ((cn p.N (fun c => decide (f c = a)) : Nat) : Int)) ∧ (¬ (0 ≤ a ∧ a ≤ 60) → v = -1)) hA (by
    unfold fX11_spread
    rw [nz_w ha, show w32 60 = 60 from by decide]
    by_cases q0 : a < 0
    · rw [if_pos q0, Ok_some]
      exact ⟨⟨fun h => absurd h (by omega), fun _ => rfl⟩, Qc.rf, hA.2.1⟩
    rw [if_neg q0]
    by_cases q1 : a ≤ 60
    · rw [if_pos q1]
      refine Ok.then (served_q hA) ?_
      rintro ν ⟨g1, g2, -, f, g4, g5⟩
      rw [stacksAt_ok (a := a) (Or.inl rfl) g2.1.gp g2.1.gr g4, Option.bind_some, Ok_some, nz_w ha]
      exact ⟨⟨fun _ => ⟨f, g5, rfl⟩, fun h => absurd ⟨by omega, q1⟩ h⟩, g1, g2.2.1⟩
    · rw [if_neg q1, Ok_some]
      exact ⟨⟨fun h => absurd h (by omega), fun _ => rfl⟩, Qc.rf, hA.2.1⟩) (by
    intro v hv ν hν
    unfold fX12_spread
    simp only [lt]
    rw [within_r ha ⟨by omega, by omega⟩ ⟨by omega, by omega⟩]
    by_cases q : 0 ≤ a ∧ a ≤ 60
    · obtain ⟨f, hf, rfl⟩ := hv.1 q
      rw [if_pos (decide_eq_true q)]
      refine Ok.then (fewest_q hν) ?_
      rintro θ ⟨q1, q2, P, W, hM, hL⟩
      have hθ := hν.1.qr q1
      rw [spread_r hθ.rr hM (hL.tb hθ.hn), Option.bind_some, Ok_some, nz_w ha]
      refine ⟨?_, q1, q2⟩
      dsimp only
      rw [cn_congr (fun c hc => ?_)]
      rw [dist_eq hθ hf hL c hc]
    · obtain rfl := hv.2 q
      rw [if_neg (by rw [decide_eq_false q]; decide), Ok_some]
      exact ⟨rfl, .dk0 Dk.rf, hν.2.2.dk0 Dk.rf⟩)
  exact ⟨v, μ1, e0, v, μ2, e1, rfl, e2⟩
theorem s_hard (hG : GW μ) : S_hard GW a μ := fun ha => by
  obtain ⟨p, hA⟩ := hG
  have hNb := hA.1.gp.2.1
  obtain ⟨v, μ1, e0, μ2, e1, e2⟩ := bothK (f := fX11_hard a μ) (r := fX12_hard a) (fun v => (a = 0 → ∃ f, p.dist 0 p.g f ∧ v = ((mx p.N (fun c => (f c).toNat) : Nat) : Int)) ∧ (a = 1 → ∃ f, p.dist 0 p.g f ∧ v = ((cn p.N (fun c => decide (f c = ((mx p.N (fun c => (f c).toNat) : Nat) : Int))) : Nat) : Int)) ∧ (a ≠ 0 → a ≠ 1 → v = -1)) hA (by
    unfold fX11_hard
    refine Ok.then (served_q hA) ?_
    rintro ν ⟨g1, g2, -, f, g4, g5⟩
    have hm := most_ok (Or.inl rfl) g2.1.gp g2.1.gr g4
    have hmb : mx p.N (fun c => (f c).toNat) ≤ 4000 := mx_le (fun c hc => by have := (g4 c hc).2; omega)
    rw [nz_w ha]
    by_cases q0 : a = 0
    · rw [if_pos q0, hm, Option.bind_some, Ok_some]
      exact ⟨⟨fun _ => ⟨f, g5, rfl⟩, fun h => absurd h (by omega), fun h => absurd q0 h⟩, g1, g2.2.1⟩
    rw [if_neg q0]
    by_cases q1 : a = 1
    · rw [if_pos q1, hm, Option.bind_some, stacksAt_ok (Or.inl rfl) g2.1.gp g2.1.gr g4, Option.bind_some, Ok_some, w32_n (by omega)]
      exact ⟨⟨fun h => absurd h q0, fun _ => ⟨f, g5, rfl⟩, fun _ h => absurd q1 h⟩, g1, g2.2.1⟩
    · rw [if_neg q1, Ok_some]
      exact ⟨⟨fun h => absurd h q0, fun h => absurd h q1, fun _ _ => rfl⟩, g1, g2.2.1⟩) (by
    intro v hv ν hν
    unfold fX12_hard
    simp only [lt]
    rw [within_r ha ⟨by omega, by omega⟩ ⟨by omega, by omega⟩, nz_w ha]
    by_cases q : 0 ≤ a ∧ a ≤ 1
    · rw [if_pos (decide_eq_true q)]
      refine Ok.then (fewest_q hν) ?_
      rintro θ ⟨q1, q2, P, W, hM, hL⟩
      have hθ := hν.1.qr q1
      rw [hard_r hθ.rr hM (hL.tb hθ.hn), Option.bind_some]
      dsimp only
      have hmm : ∀ f, p.dist 0 p.g f → mx p.N (fun c => ((P c : Int) - 1).toNat) = mx p.N (fun c => (f c).toNat) := fun f hf => mx_congr (fun c hc => by rw [dist_eq hθ hf hL c hc])
      by_cases q0 : a = 0
      · obtain ⟨f, hf, rfl⟩ := hv.1 q0
        rw [if_pos q0, Ok_some, hmm f hf]
        exact ⟨rfl, q1, q2⟩
      · have qa : a = 1 := by omega
        obtain ⟨f, hf, rfl⟩ := hv.2.1 qa
        have hmb : mx p.N (fun c => (f c).toNat) ≤ 4000 := mx_le (fun c hc => by have := (hf.1 c hc).2; omega)
        rw [if_neg q0, hmm f hf, spread_r hθ.rr hM (hL.tb hθ.hn), Option.bind_some, Ok_some, w32_n (by omega)]
        refine ⟨?_, q1, q2⟩
        dsimp only
        rw [cn_congr (fun c hc => ?_)]
        rw [dist_eq hθ hf hL c hc]
    · obtain rfl := hv.2.2 (by omega) (by omega)
      rw [if_neg (by rw [decide_eq_false q]; decide), Ok_some]
      exact ⟨rfl, .dk0 Dk.rf, hν.2.2.dk0 Dk.rf⟩)
  exact ⟨v, μ1, e0, v, μ2, e1, rfl, e2⟩
theorem s_sharp (hG : GW μ) : S_sharp GW μ := by
  obtain ⟨p, hA⟩ := hG
  have hN := hA.1.gp.2.1
  have hgb : gpN p.kd p.wd p.n p.c ≤ p.n := cn_le
  have hn := hA.1.hn
  obtain ⟨v, μ1, e0, μ2, e1, e2⟩ := bothK (f := fX11_sharp μ) (r := fX12_sharp) (fun v => ∃ f, p.dist 0 p.g f ∧ v = decide (f p.c = (gpN p.kd p.wd p.n p.c : Int))) hA (by
    unfold fX11_sharp
    simp only [lt]
    refine Ok.then (served_q hA) ?_
    rintro ν ⟨g1, g2, -, f, g4, g5⟩
    have hb := (g4 _ hA.1.cN).2
    rw [g2.1.h41, gaps_ok hn g2.1.gc g2.1.tb hA.1.cN, Option.bind_some, rw_at (Or.inl rfl) hN g4 hA.1.cN, w32_eq (by omega) (by omega), w32_n (by omega), Ok_some]
    refine ⟨⟨f, g5, ?_⟩, g1, g2.2.1⟩
    dsimp only
    by_cases e : f p.c = (gpN p.kd p.wd p.n p.c : Int)
    · rw [if_pos e, decide_eq_true e]
    · rw [if_neg e, decide_eq_false e]) (by
    rintro v ⟨f, hf, rfl⟩ ν hν
    unfold fX12_sharp
    simp only [lt]
    refine Ok.then (fewest_q hν) ?_
    rintro θ ⟨q1, q2, P, W, hM, hL⟩
    have hθ := hν.1.qr q1
    have hb := hf.1 _ hA.1.cN
    rw [hθ.h88, least_r hθ.rr hM (hL.tb hθ.hn) hθ.cN, Option.bind_some, dist_eq hθ hf hL _ hθ.cN]
    refine Ok.then (gaps_r hθ.rr hθ.cN hθ.h88) ?_
    rintro ⟨x, τ⟩ ⟨e1, hD⟩
    dsimp only at e1 hD ⊢
    subst e1
    rw [w32_eq (by omega) (by omega), w32_n (by omega), Ok_some]
    refine ⟨?_, q1.tr ⟨fun x hx => hD x (by omega) (by omega) (by omega) (by omega), fun j _ _ _ => congrFun (hD 75 (by omega) (by omega) (by omega) (by omega)) j⟩, q2.same (congrFun (hD 75 (by omega) (by omega) (by omega) (by omega)) 26) (hD 92 (by omega) (by omega) (by omega) (by omega))⟩
    dsimp only
    by_cases e : f p.c = (gpN p.kd p.wd p.n p.c : Int)
    · rw [if_pos e, decide_eq_true e]
    · rw [if_neg e, decide_eq_false e])
  exact ⟨v, μ1, e0, v, μ2, e1, rfl, e2⟩
theorem s_ways (hG : GW μ) : S_ways GW μ := by
  obtain ⟨p, hA⟩ := hG
  have hN := hA.1.gp.2.1
  obtain ⟨v, μ1, e0, μ2, e1, e2⟩ := bothK (f := fX11_ways μ) (r := fX12_ways) (fun v => ∃ f, p.dist 0 p.g f ∧ v = (if f p.c = -1 then 0 else ((min CW (pfN p.n p.tn p.op f (f p.c).toNat p.c) : Nat) : Int))) hA (by
    unfold fX11_ways
    refine Ok.then (served_q hA) ?_
    rintro ν ⟨g1, g2, g3, f, g4, g5⟩
    obtain ⟨x, y, hx, hy, hxy, x1, x2⟩ := g2.2.1.sck
    rw [g2.1.h41]
    refine Ok.then (rowsOf_ok (Or.inl rfl) hx x1 g2.1.gp g2.1.gr g4 hA.1.gN g3 g5 hA.1.cN) ?_
    rintro ⟨o, θ⟩ ⟨o1, o2⟩
    dsimp only at o1 o2 ⊢
    rw [Ok_some]
    have hxb := isCt_b hx
    refine ⟨⟨f, g5, o1⟩, g1.tr ⟨fun z hz => o2 z (by omega), fun j _ _ => congrFun (o2 25 (by omega)) j⟩, g2.2.1.same ⟨congrFun (o2 25 (by omega)) 15, congrFun (o2 25 (by omega)) 16⟩ (fun z _ _ => o2 z (by omega))⟩) (by
    rintro v ⟨f, hf, rfl⟩ ν hν
    unfold fX12_ways
    simp only [lt]
    refine Ok.then (fewest_q hν) ?_
    rintro θ ⟨q1, q2, P, W, hM, hL⟩
    have hθ := hν.1.qr q1
    obtain ⟨n1, n2⟩ := hθ.rr.nul hθ.cN
    have hb := hL.tb hθ.hn p.c hθ.cN
    have hCW : CW < 2147483648 := by decide
    rw [hθ.h88, w32_n (by omega), gd_pos (by omega), Int.toNat_natCast, way_r hθ.rr hM hθ.cN hb.1 hb.2, l_2i_n (by omega), Ok_some]
    refine ⟨?_, q1, q2⟩
    dsimp only
    have hd := dist_eq hθ hf hL _ hθ.cN
    by_cases e : P p.c = 0
    · rw [if_pos (by omega), hL.2.2.2.2.1 _ hθ.cN e]; rfl
    · obtain ⟨j, hj⟩ : ∃ j, P p.c = j + 1 := ⟨P p.c - 1, by omega⟩
      have hw := hL.ways hθ.gp j p.c hθ.cN hj
      rw [if_neg (by omega), hw]
      have hj2 : (f p.c).toNat = j := by omega
      rw [hj2]
      have hpf : ∀ (i d : Nat), d < p.N → pfN p.n p.tn p.op (fun c => (P c : Int) - 1) i d = pfN p.n p.tn p.op f i d := by
        intro i
        induction i with
        | zero => intro d _; rfl
        | succ i ih =>
          intro d hd'
          unfold pfN
          refine sm_congr (fun m hm => ?_)
          have ht := (hθ.gp.2.2.2 d (m + 1) hd' (by omega) (by omega)).1
          have e1 : nxB p.tn p.op (fun c => (P c : Int) - 1) d (m + 1) = nxB p.tn p.op f d (m + 1) := nxB_congr (dist_eq hθ hf hL d hd') (dist_eq hθ hf hL _ ht)
          rw [e1, ih _ ht]
      rw [hpf j p.c hθ.cN])
  exact ⟨v, μ1, e0, v, μ2, e1, rfl, e2⟩
end CALLS2
