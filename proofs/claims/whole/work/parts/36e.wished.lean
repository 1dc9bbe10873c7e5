/-! ===== level 2: without, needed, the wished, the rim, the cooks, chance, count ===== -/
section CALLS4
variable {p : Pm} {μ ν : Mem} {a b w : Int} {ev : Bool}
theorem StI.row {k t : Nat} {E : Nat → Nat → Bool} (hN : p.N ≤ 3840) (ht : t < p.N) (h : StI p.N p.n p.tn E k (t : Int) ν) : ∃ f, Rw p.N k f ν ∧ IsD p.N p.n p.tn E t f := by
  rcases h with ⟨t', e, ht', hD⟩ | ⟨e, -⟩
  · have : t' = t := by omega
    subst this
    exact ⟨_, rw_of hN hD, hD⟩
  · omega
theorem st65 {i : Nat} (hi : i < 5) : stB (65 + 2 * i) true (i + 1) := Or.inr (Or.inr (Or.inr ⟨i, hi, rfl, rfl, rfl⟩))
theorem lw_q {m : Nat} (hm1 : 1 ≤ m) (hm : m ≤ p.n) (hG : GA p μ) : Ok (fX11_leastWithout (m : Int) μ) (fun o => (∃ f, p.dist m p.g f ∧ o.1 = f p.c) ∧ Qc μ o.2 ∧ GA p o.2) := by
  have hN := hG.1.gp.2.1
  have hn := hG.1.hn
  obtain ⟨i, rfl⟩ : ∃ i, m = i + 1 := ⟨m - 1, by omega⟩
  have e : ((i + 1 : Nat) : Int) - 1 = (i : Int) := by push_cast; omega
  unfold fX11_leastWithout
  simp only [lt]
  rw [e, w32_n (a := i) (by omega), show w32 5 = 5 from by decide, if_neg (by omega), if_pos (by omega), Int.toNat_natCast, hG.1.g4]
  refine Ok.then (learn_q (st65 (i := i) (by omega)) (Or.inr ⟨p.g, rfl, hG.1.gN⟩) hG) ?_
  rintro ν ⟨g1, g2, g3, g4⟩
  obtain ⟨f, f1, f2⟩ := StI.row hN hG.1.gN g4
  rw [gd_pos (by omega), Ok_some]
  refine ⟨⟨f, f2, ?_⟩, g1, g2⟩
  dsimp only
  rw [g2.1.h41]
  exact rw_at (stB_is (st65 (i := i) (by omega))).1 hN f1 hG.1.cN
/-- the reference's table of the fewest, one left out or to the wished -/
theorem tofew_q {m t : Nat} {tw : Bool} (hm : m < 9) (ht : t < p.N) (hw : if tw = true then p.w = some t else t = p.g) (hG : GA p ν) (h26 : ν 75 26 = 0) : Ok (fX12_fewest tw (m : Int) ν) (fun θ => Qr ν θ ∧ Tt p θ ∧ θ 75 26 = 0 ∧ ∃ P W, TM p.kd p.n P W θ ∧ LF p.N p.n p.tn p.op m t P W) := by
  obtain ⟨h, hC, hT⟩ := id hG
  have hw' : if tw = true then Wi p.kd p.n t ν else t = p.g := by
    cases tw with
    | false => exact hw
    | true =>
      have := h.wr
      rw [show p.w = some t from hw] at this
      exact this.2
  refine Ok.imp (fewest_r hm h.rr ht hw') ?_
  rintro θ ⟨hD, P, W, hM, hL⟩
  have e75 : θ 75 = ν 75 := hD 75 (by omega) (by omega) (by omega) (by omega) (by omega)
  have e26 : θ 75 26 = 0 := by rw [e75]; exact h26
  refine ⟨⟨fun x hx => hD x (by omega) (by omega) (by omega) (by omega) (by omega), fun j _ _ _ => by rw [e75]⟩, ⟨Or.inl e26, fun q => ?_, fun q => ?_, fun q => ?_⟩, e26, P, W, hM, hL⟩ <;> (rw [e26] at q; omega)
theorem GA.z26 (hG : GA p ν) : GA p (upd2 (upd2 ν 75 0 0) 75 26 0) ∧ (upd2 (upd2 ν 75 0 0) 75 26 0) 75 26 = 0 ∧ Qr ν (upd2 (upd2 ν 75 0 0) 75 26 0) := by
  have e26 : (upd2 (upd2 ν 75 0 0) 75 26 0) 75 26 = 0 := upd2_at
  have hQ : Qr ν (upd2 (upd2 ν 75 0 0) 75 26 0) := ⟨fun x hx => by rw [upd2_ne (by omega), upd2_ne (by omega)], fun j j0 j1 _ => by rw [upd2_nj j1, upd2_nj j0]⟩
  refine ⟨⟨hG.1.qr hQ, hG.2.1.qr hQ, ⟨Or.inl e26, fun q => ?_, fun q => ?_, fun q => ?_⟩⟩, e26, hQ⟩ <;> (rw [e26] at q; omega)
theorem GA.qr (hG : GA p μ) (hQ : Qr μ ν) (hT : Tt p ν) : GA p ν := ⟨hG.1.qr hQ, hG.2.1.qr hQ, hT⟩
theorem s_without (hG : GW μ) : S_without GW a μ := fun ha => by
  obtain ⟨p, hA⟩ := hG
  have hN := hA.1.gp.2.1
  have hn := hA.1.hn
  obtain ⟨v, μ1, e0, μ2, e1, e2⟩ := bothK (f := fX11_without a μ) (r := fX12_without a) (fun v => ((1 ≤ a ∧ a ≤ p.n) → ∃ f, p.dist a.toNat p.g f ∧ v = f p.c) ∧ (¬ (1 ≤ a ∧ a ≤ p.n) → v = -1)) hA (by
    unfold fX11_without
    rw [isTurn_ok hn hA.1.tb.1 ha]
    by_cases q : 1 ≤ a ∧ a ≤ p.n
    · rw [if_pos (decide_eq_true q)]
      obtain ⟨m, rfl⟩ : ∃ m : Nat, a = m := ⟨a.toNat, by omega⟩
      refine Ok.then (lw_q (m := m) (by omega) (by omega) hA) ?_
      rintro ⟨x, ν⟩ ⟨⟨f, f1, f2⟩, g1, g2⟩
      rw [Ok_some, Int.toNat_natCast]
      exact ⟨⟨fun _ => ⟨f, f1, f2⟩, fun h => absurd q h⟩, g1, g2.2.1⟩
    · rw [if_neg (by rw [decide_eq_false q]; decide), Ok_some]
      exact ⟨⟨fun h => absurd h q, fun _ => rfl⟩, Qc.rf, hA.2.1⟩) (by
    intro v hv ν hν
    unfold fX12_without
    simp only [lt]
    have h81 : upd2 ν 75 0 0 81 0 = p.n := by rw [upd2_ne (by omega)]; exact hν.1.rr.2.1.1
    rw [h81, within_r ha ⟨by omega, by omega⟩ ⟨by omega, by omega⟩]
    by_cases q : 1 ≤ a ∧ a ≤ p.n
    · obtain ⟨f, hf, rfl⟩ := hv.1 q
      rw [if_pos (decide_eq_true q)]
      obtain ⟨m, rfl⟩ : ∃ m : Nat, a = m := ⟨a.toNat, by omega⟩
      rw [Int.toNat_natCast] at hf
      obtain ⟨z1, z2, z3⟩ := hν.z26
      refine Ok.then (tofew_q (m := m) (t := p.g) (tw := false) (by omega) hν.1.gN rfl z1 z2) ?_
      rintro θ ⟨q1, q2, -, P, W, hM, hL⟩
      have hθ := (z1.1.qr q1)
      rw [hθ.h88, least_r hθ.rr hM (hL.tb hn) hθ.cN, Option.bind_some, Ok_some]
      exact ⟨dist_eq hθ hf hL _ hθ.cN, z3.tr q1, q2⟩
    · obtain rfl := hv.2 q
      rw [if_neg (by rw [decide_eq_false q]; decide), Ok_some]
      exact ⟨rfl, .dk0 Dk.rf, hν.2.2.dk0 Dk.rf⟩)
  exact ⟨v, μ1, e0, v, μ2, e1, rfl, e2⟩
theorem obN_congr {op op' : Nat → Nat → Bool} {c : Nat} : ∀ {i : Nat}, (∀ m, 1 ≤ m → m ≤ i → op c m = op' c m) → obN op c i = obN op' c i
  | 0, _ => rfl
  | i + 1, h => by
    rw [obN, obN, h (i + 1) (by omega) (by omega), obN_congr (fun m h1 h2 => h m h1 (by omega))]
theorem s_needed (hG : GW μ) : S_needed GW μ := by
  obtain ⟨p, hA⟩ := hG
  have hN := hA.1.gp.2.1
  have hn := hA.1.hn
  obtain ⟨v, μ1, e0, μ2, e1, e2⟩ := bothK (f := fX11_needed μ) (r := fX12_needed) (fun v => ∃ f, p.dist 0 p.g f ∧ ((f p.c = -1 ∧ v = -1) ∨ (f p.c ≠ -1 ∧ ∃ fm : Nat → Nat → Int, (∀ m, 1 ≤ m → m ≤ p.n → p.dist m p.g (fm m)) ∧ v = (obN (fun c m => decide (fm m c = -1)) p.c p.n : Int)))) hA (by
    unfold fX11_needed
    refine Ok.then (served_q hA) ?_
    rintro ν ⟨g1, g2, -, f, g4, g5⟩
    have hb := (g4 _ hA.1.cN).2
    rw [g2.1.h41, rw_at (Or.inl rfl) hN g4 hA.1.cN, w32_m1, w32_eq (x := f p.c) (by omega) (by omega)]
    by_cases q : f p.c = -1
    · rw [if_pos q, Ok_some]
      exact ⟨⟨f, g5, Or.inl ⟨q, rfl⟩⟩, g1, g2.2.1⟩
    rw [if_neg q]
    refine Ok.bind ?_
    refine loop_FU (p.n + 1) (fun (i : Nat) (s : Int × Int × Mem) => 1 ≤ i ∧ s.2.1 = (i : Int) ∧ Qc μ s.2.2 ∧ GA p s.2.2 ∧ ∃ fm : Nat → Nat → Int, (∀ m, 1 ≤ m → m < i → p.dist m p.g (fm m)) ∧ s.1 = (obN (fun c m => decide (fm m c = -1)) p.c (i - 1) : Int)) 1 ⟨by omega, rfl, g1, g2, fun _ _ => 0, fun m _ h2 => absurd h2 (by omega), rfl⟩ (by omega) (by omega) ?_ ?_
    · rintro i ⟨x, y, ρ⟩ hi ⟨hi1, e1, hQ, hGρ, fm, hfm, e2⟩
      dsimp only at e1 hQ hGρ e2 ⊢
      subst e1 e2
      obtain ⟨k, rfl⟩ : ∃ k, i = k + 1 := ⟨i - 1, by omega⟩
      have hk : k + 1 - 1 = k := by omega
      have hk2 : k + 1 + 1 - 1 = k + 1 := by omega
      have ek : ((k + 1 : Nat) : Int) - 1 = (k : Int) := by push_cast; omega
      unfold fX11_needed_b24
      simp only [lt]
      rw [hGρ.1.tb.1, w32_n (a := k + 1) (by omega), w32_n (a := p.n) (by omega), if_pos (by omega), hk, ek]
      refine Ok.then (lw_q (m := k + 1) (by omega) (by omega) hGρ) ?_
      rintro ⟨x, τ⟩ ⟨⟨f', f1, f2⟩, k1, k2⟩
      dsimp only at f2 k1 k2 ⊢
      subst f2
      have hfb := f1.1 _ hA.1.cN
      have hbn := obN_lt (op := fun c m => decide (fm m c = -1)) (c := p.c) k
      have hp2 := two_pow_5 (a := k) (by omega)
      rw [w32_m1, w32_eq (x := f' p.c) (by omega) (by omega)]
      have hfm' : ∀ m, 1 ≤ m → m < k + 1 + 1 → p.dist m p.g ((fun m => if m = k + 1 then f' else fm m) m) := fun m m1 m2 => by
        by_cases e : m = k + 1
        · dsimp only
          rw [if_pos e, e]; exact f1
        · dsimp only
          rw [if_neg e]; exact hfm m m1 (by omega)
      have hold : obN (fun c m => decide ((if m = k + 1 then f' else fm m) c = -1)) p.c k = obN (fun c m => decide (fm m c = -1)) p.c k := obN_congr (fun m m1 m2 => by
        rw [if_neg (by omega)])
      have hnew : obN (fun c m => decide ((if m = k + 1 then f' else fm m) c = -1)) p.c (k + 1) = if f' p.c = -1 then obN (fun c m => decide (fm m c = -1)) p.c k ||| 2 ^ k else obN (fun c m => decide (fm m c = -1)) p.c k := by
        rw [obN, hold]
        rw [if_pos (show k + 1 = k + 1 from rfl)]
        by_cases e : f' p.c = -1
        · rw [if_pos (decide_eq_true e), if_pos e]
        · rw [if_neg (by rw [decide_eq_false e]; decide), if_neg e]
      by_cases e : f' p.c = -1
      · rw [if_pos e, i_shl1 (by omega), i_or_n (by omega) (by omega), Ok_some]
        refine ⟨by omega, by push_cast; rfl, hQ.tr k1, k2, fun m => if m = k + 1 then f' else fm m, hfm', ?_⟩
        rw [hk2, hnew, if_pos e]
      · rw [if_neg e, Ok_some]
        refine ⟨by omega, by push_cast; rfl, hQ.tr k1, k2, fun m => if m = k + 1 then f' else fm m, hfm', ?_⟩
        rw [hk2, hnew, if_neg e]
    · rintro ⟨x, y, ρ⟩ ⟨hi1, e1, hQ, hGρ, fm, hfm, e2⟩
      dsimp only at e1 hQ hGρ e2 ⊢
      subst e1 e2
      unfold fX11_needed_b24
      rw [hGρ.1.tb.1, w32_n (a := p.n + 1) (by omega), w32_n (a := p.n) (by omega), if_neg (by omega), Ok_some]
      show Ok _ _
      rw [Ok_some]
      exact ⟨⟨f, g5, Or.inr ⟨q, fm, fun m m1 m2 => hfm m m1 (by omega), by dsimp only; rw [Nat.add_sub_cancel]⟩⟩, hQ, hGρ.2.1⟩) (by
    rintro v ⟨f, hf, hv⟩ ν hν
    unfold fX12_needed
    simp only [lt]
    refine Ok.then (fewest_q hν) ?_
    rintro θ ⟨q1, q2, P, W, hM, hL⟩
    have hGθ := hν.qr q1 q2
    have hb := hf.1 _ hA.1.cN
    rw [hGθ.1.h88, least_r hGθ.1.rr hM (hL.tb hn) hA.1.cN, Option.bind_some, dist_eq hGθ.1 hf hL _ hA.1.cN, w32_eq (x := f p.c) (by omega) (by omega)]
    rcases hv with ⟨hv, rfl⟩ | ⟨hv, fm, hfm, rfl⟩
    · rw [if_pos (by omega), Ok_some]
      exact ⟨rfl, q1, q2⟩
    rw [if_neg (by omega)]
    have hz : GA p (upd2 θ 75 26 0) ∧ (upd2 θ 75 26 0) 75 26 = 0 ∧ Qr θ (upd2 θ 75 26 0) := by
      have e26 : (upd2 θ 75 26 0) 75 26 = 0 := upd2_at
      have hQ : Qr θ (upd2 θ 75 26 0) := ⟨fun x hx => upd2_ne (by omega), fun j _ j1 _ => upd2_nj j1⟩
      refine ⟨⟨hGθ.1.qr hQ, hGθ.2.1.qr hQ, ⟨Or.inl e26, fun q => ?_, fun q => ?_, fun q => ?_⟩⟩, e26, hQ⟩ <;> (rw [e26] at q; omega)
    obtain ⟨z1, z2, z3⟩ := hz
    refine Ok.bind ?_
    refine loop_FU (p.n + 1) (fun (i : Nat) (s : Int × Int × Mem) => 1 ≤ i ∧ s.1 = (obN (fun c m => decide (fm m c = -1)) p.c (i - 1) : Int) ∧ s.2.1 = (i : Int) ∧ Qr ν s.2.2 ∧ GA p s.2.2 ∧ s.2.2 75 26 = 0) 1 ⟨by omega, rfl, rfl, q1.tr z3, z1, z2⟩ (by omega) (by omega) ?_ ?_
    · rintro i ⟨x, y, ρ⟩ hi ⟨hi1, e1, e2, hQ, hGρ, h26⟩
      dsimp only at e1 e2 hQ hGρ h26 ⊢
      subst e1 e2
      obtain ⟨k, rfl⟩ : ∃ k, i = k + 1 := ⟨i - 1, by omega⟩
      have hk : k + 1 - 1 = k := by omega
      have hk2 : k + 1 + 1 - 1 = k + 1 := by omega
      have ek : ((k + 1 : Nat) : Int) - 1 = (k : Int) := by push_cast; omega
      have hbn := obN_lt (op := fun c m => decide (fm m c = -1)) (c := p.c) k
      have hp2 := two_pow_5 (a := k) (by omega)
      unfold fX12_needed_b33
      simp only [lt]
      rw [hGρ.1.rr.2.1.1, w32_n (a := k + 1) (by omega), w32_n (a := p.n) (by omega), if_pos (by omega), hk, ek]
      refine Ok.then (tofew_q (m := k + 1) (t := p.g) (tw := false) (by omega) hA.1.gN rfl hGρ h26) ?_
      rintro τ ⟨r1, r2, r3, P', W', hM', hL'⟩
      have hGτ := hGρ.qr r1 r2
      have hfk := hfm (k + 1) (by omega) (by omega)
      have hfb := hfk.1 _ hA.1.cN
      rw [hGτ.1.h88, least_r hGτ.1.rr hM' (hL'.tb hn) hA.1.cN, Option.bind_some, dist_eq hGτ.1 hfk hL' _ hA.1.cN, w32_eq (x := fm (k + 1) p.c) (by omega) (by omega), Ok_some]
      refine ⟨by omega, ?_, by push_cast; rfl, hQ.tr r1, hGτ, r3⟩
      dsimp only
      rw [hk2, obN]
      by_cases e : fm (k + 1) p.c = -1
      · rw [if_pos (by omega), if_pos (decide_eq_true e), i_shl1 (by omega), i_or_n (by omega) (by omega)]
      · have hz := i_or_n (a := obN (fun c m => decide (fm m c = -1)) p.c k) (b := 0) (by omega) (by omega)
        rw [show ((0 : Nat) : Int) = 0 from rfl, Nat.or_zero] at hz
        rw [if_neg (by omega), if_neg (by rw [decide_eq_false e]; decide), hz]
    · rintro ⟨x, y, ρ⟩ ⟨hi1, e1, e2, hQ, hGρ, h26⟩
      dsimp only at e1 e2 hQ hGρ h26 ⊢
      subst e1 e2
      unfold fX12_needed_b33
      rw [hGρ.1.rr.2.1.1, w32_n (a := p.n + 1) (by omega), w32_n (a := p.n) (by omega), if_neg (by omega), Ok_some]
      show Ok _ _
      rw [Ok_some]
      exact ⟨by dsimp only; rw [Nat.add_sub_cancel], hQ, hGρ.2.2⟩)
  exact ⟨v, μ1, e0, v, μ2, e1, rfl, e2⟩
/-- the wished stack's distances -/
abbrev Pm.wd1 (p : Pm) (f : Nat → Int) : Prop := match p.w with
  | none => ∀ c, c < p.N → f c = -1
  | some t => p.dist 0 t f
theorem wish_q (hG : GA p μ) : Ok (fX11_wishSteps μ) (fun ν => Qc μ ν ∧ GA p ν ∧ ∃ f, Rw p.N 49 f ν ∧ p.wd1 f) := by
  have hN := hG.1.gp.2.1
  have hwc := hG.1.wc
  have hwo := hG.1.wo
  unfold WiC at hwc
  unfold fX11_wishSteps Pm.wd1
  rw [hwc]
  cases e : p.w with
  | none =>
    dsimp only
    refine Ok.then (learn_q st49 (Or.inl rfl) hG) ?_
    rintro ν ⟨g1, g2, g3, g4⟩
    rw [Ok_some]
    rcases g4 with ⟨t', e, ht, hD⟩ | ⟨-, hr⟩
    · omega
    · exact ⟨g1, g2, fun _ => -1, fun c hc => ⟨hr c hc, by dsimp only; omega, by dsimp only; omega⟩, fun _ _ => rfl⟩
  | some t =>
    dsimp only
    have ht := hwo t e
    refine Ok.then (learn_q st49 (Or.inr ⟨t, rfl, ht⟩) hG) ?_
    rintro ν ⟨g1, g2, g3, g4⟩
    obtain ⟨f, f1, f2⟩ := StI.row hN ht g4
    rw [Ok_some]
    exact ⟨g1, g2, f, f1, f2⟩
theorem s_far (hG : GW μ) : S_far GW μ := by
  obtain ⟨p, hA⟩ := hG
  have hN := hA.1.gp.2.1
  have hn := hA.1.hn
  obtain ⟨v, μ1, e0, μ2, e1, e2⟩ := bothK (f := fX11_far μ) (r := fX12_far) (fun v => ∃ f, p.wd1 f ∧ v = f p.c) hA (by
    unfold fX11_far
    refine Ok.then (wish_q hA) ?_
    rintro ν ⟨g1, g2, f, g4, g5⟩
    rw [Ok_some, g2.1.h41]
    exact ⟨⟨f, g5, rw_at (Or.inr (Or.inl rfl)) hN g4 hA.1.cN⟩, g1, g2.2.1⟩) (by
    rintro v ⟨f, hf, rfl⟩ ν hν
    have hwr := hν.1.wr
    unfold fX12_far
    simp only [lt]
    rw [upd2_nj (by omega)]
    unfold Pm.wd1 at hf
    unfold WiR at hwr
    cases e : p.w with
    | none =>
      rw [e] at hf hwr
      dsimp only at hf hwr
      rw [hwr, if_neg (by decide), Ok_some]
      exact ⟨(hf _ hA.1.cN).symm, .dk0 Dk.rf, hν.2.2.dk0 Dk.rf⟩
    | some t =>
      rw [e] at hf hwr
      dsimp only at hf hwr
      have ht := hA.1.wo t e
      obtain ⟨z1, z2, z3⟩ := hν.z26
      rw [hwr.1, if_pos (by decide)]
      have hfe := tofew_q (m := 0) (t := t) (tw := true) (by omega) ht e z1 z2
      rw [show ((0 : Nat) : Int) = 0 from rfl] at hfe
      refine Ok.then hfe ?_
      rintro θ ⟨q1, q2, -, P, W, hM, hL⟩
      have hθ := z1.1.qr q1
      rw [hθ.h88, least_r hθ.rr hM (hL.tb hn) hA.1.cN, Option.bind_some, Ok_some]
      exact ⟨dist_eq hθ hf hL _ hA.1.cN, z3.tr q1, q2⟩)
  exact ⟨v, μ1, e0, v, μ2, e1, rfl, e2⟩
theorem s_toward (hG : GW μ) : S_toward GW μ := by
  obtain ⟨p, hA⟩ := hG
  have hN := hA.1.gp.2.1
  have hn := hA.1.hn
  obtain ⟨v, μ1, e0, μ2, e1, e2⟩ := bothK (f := fX11_toward μ) (r := fX12_toward) (fun v => ∃ f, p.wd1 f ∧ v = ftI p.n p.tn p.op f p.c) hA (by
    unfold fX11_toward
    refine Ok.then (wish_q hA) ?_
    rintro ν ⟨g1, g2, f, g4, g5⟩
    rw [g2.1.h41, firstTurn_ok (Or.inr (Or.inl rfl)) g2.1.gp g2.1.gr g4 hA.1.cN, Option.bind_some, Ok_some]
    exact ⟨⟨f, g5, rfl⟩, g1, g2.2.1⟩) (by
    rintro v ⟨f, hf, rfl⟩ ν hν
    have hwr := hν.1.wr
    unfold fX12_toward
    simp only [lt]
    rw [upd2_nj (by omega)]
    unfold Pm.wd1 at hf
    unfold WiR at hwr
    cases e : p.w with
    | none =>
      rw [e] at hf hwr
      dsimp only at hf hwr
      rw [hwr, if_neg (by decide), Ok_some]
      refine ⟨?_, .dk0 Dk.rf, hν.2.2.dk0 Dk.rf⟩
      unfold ftI
      rw [hf _ hA.1.cN]
      rfl
    | some t =>
      rw [e] at hf hwr
      dsimp only at hf hwr
      have ht := hA.1.wo t e
      obtain ⟨z1, z2, z3⟩ := hν.z26
      rw [hwr.1, if_pos (by decide)]
      have hfe := tofew_q (m := 0) (t := t) (tw := true) (by omega) ht e z1 z2
      rw [show ((0 : Nat) : Int) = 0 from rfl] at hfe
      refine Ok.then hfe ?_
      rintro θ ⟨q1, q2, -, P, W, hM, hL⟩
      have hθ := z1.1.qr q1
      have hfg := dist_eq hθ hf hL
      rw [hθ.h88]
      refine Ok.then (nearer_r (b := 0) (t := 0) hθ.rr hM (hL.tb hn) hA.1.cN) ?_
      rintro ⟨o, τ⟩ ⟨o1, o2, o3⟩
      dsimp only at o1 o2 o3 ⊢
      rw [Ok_some]
      refine ⟨?_, (z3.tr q1).tr ⟨fun x hx => o2 x (by omega) (by omega) (by omega) (by omega) (by omega) (by omega), fun j _ _ _ => congrFun (o2 75 (by omega) (by omega) (by omega) (by omega) (by omega) (by omega)) j⟩, q2.same (congrFun (o2 75 (by omega) (by omega) (by omega) (by omega) (by omega) (by omega)) 26) (o2 92 (by omega) (by omega) (by omega) (by omega) (by omega) (by omega))⟩
      dsimp only
      rw [o1]
      exact ftI_congr (hfg _ hA.1.cN) (fun m m1 m2 => hfg _ (hθ.gp.2.2.2 p.c m hA.1.cN m1 m2).1))
  exact ⟨v, μ1, e0, v, μ2, e1, rfl, e2⟩
/-- the distances from the stack that stands -/
abbrev Pm.rm (p : Pm) (f : Nat → Int) : Prop := IsD p.N p.n p.tn (eS p.tn p.op false 0) p.c f
theorem now_q (hG : GA p μ) : Ok (fX11_nowSteps μ) (fun ν => Qc μ ν ∧ GA p ν ∧ ∃ f, Rw p.N 51 f ν ∧ p.rm f) := by
  have hN := hG.1.gp.2.1
  unfold fX11_nowSteps
  rw [hG.1.h41]
  refine Ok.then (learn_q st51 (Or.inr ⟨p.c, rfl, hG.1.cN⟩) hG) ?_
  rintro ν ⟨g1, g2, g3, g4⟩
  obtain ⟨f, f1, f2⟩ := StI.row hN hG.1.cN g4
  rw [Ok_some]
  exact ⟨g1, g2, f, f1, f2⟩
theorem reach_q (hG : GA p ν) : Ok (fX12_reaches (upd2 ν 75 0 0)) (fun o => Qr ν o.2 ∧ Tt p o.2 ∧ ∃ R, TR p.kd p.n R o.2 ∧ p.rm (fun c => (R c : Int) - 1) ∧ o.1 = ((mx p.N (fun c => ((R c : Int) - 1).toNat) : Nat) : Int)) := by
  refine Ok.imp (reaches_r hG.1.rr.put hG.1.cN (by rw [upd2_ne (by omega)]; exact hG.1.h88)) ?_
  rintro ⟨x, θ⟩ ⟨hD, R, h1, h2, h3⟩
  dsimp only at hD h1 h2 h3 ⊢
  have e75 : θ 75 = upd2 (upd2 ν 75 0 0) 75 26 0 75 := hD 75 (by omega) (by omega) (by omega) (by omega) (by omega) (by omega) (by omega)
  have e26 : θ 75 26 = 0 := by rw [e75, upd2_at]
  refine ⟨⟨fun x hx => ?_, fun j j0 j1 _ => ?_⟩, ⟨Or.inl e26, fun q => ?_, fun q => ?_, fun q => ?_⟩, R, h1, h2, h3⟩
  · rw [hD x (by omega) (by omega) (by omega) (by omega) (by omega) (by omega) (by omega), upd2_ne (by omega), upd2_ne (by omega)]
  · rw [e75, upd2_nj j1, upd2_nj j0]
  · rw [e26] at q; omega
  · rw [e26] at q; omega
  · rw [e26] at q; omega
theorem s_rim (hG : GW μ) : S_rim GW μ := by
  obtain ⟨p, hA⟩ := hG
  obtain ⟨v, μ1, e0, μ2, e1, e2⟩ := bothK (f := fX11_rim μ) (r := fX12_rim) (fun v => ∃ f, p.rm f ∧ v = ((mx p.N (fun c => (f c).toNat) : Nat) : Int)) hA (by
    unfold fX11_rim
    refine Ok.then (now_q hA) ?_
    rintro ν ⟨g1, g2, f, g4, g5⟩
    rw [most_ok (Or.inr (Or.inr (Or.inl rfl))) g2.1.gp g2.1.gr g4, Option.bind_some, Ok_some]
    exact ⟨⟨f, g5, rfl⟩, g1, g2.2.1⟩) (by
    rintro v ⟨f, hf, rfl⟩ ν hν
    unfold fX12_rim
    simp only [lt]
    refine Ok.then (reach_q hν) ?_
    rintro ⟨x, θ⟩ ⟨q1, q2, R, h1, h2, h3⟩
    dsimp only at q1 q2 h1 h2 h3 ⊢
    rw [Ok_some]
    refine ⟨?_, q1, q2⟩
    dsimp only
    rw [h3, mx_congr (fun c hc => by rw [h2.uniq hA.1.gp hf c hc])])
  exact ⟨v, μ1, e0, v, μ2, e1, rfl, e2⟩
theorem s_reached (hG : GW μ) : S_reached GW a μ := fun ha => by
  obtain ⟨p, hA⟩ := hG
  have hN := hA.1.gp.2.1
  obtain ⟨v, μ1, e0, μ2, e1, e2⟩ := bothK (f := fX11_reached a μ) (r := fX12_reached a) (fun v => ((0 ≤ a ∧ a ≤ 60) → ∃ f, p.rm f ∧ v = ((cn p.N (fun c => decide (0 ≤ f c) && decide (f c ≤ a)) : Nat) : Int)) ∧ (¬ (0 ≤ a ∧ a ≤ 60) → v = -1)) hA (by
    unfold fX11_reached
    rw [nz_w ha, show w32 60 = 60 from by decide]
    by_cases q0 : a < 0
    · rw [if_pos q0, Ok_some]
      exact ⟨⟨fun h => absurd h (by omega), fun _ => rfl⟩, Qc.rf, hA.2.1⟩
    rw [if_neg q0]
    by_cases q1 : a ≤ 60
    · rw [if_pos q1]
      refine Ok.then (now_q hA) ?_
      rintro ν ⟨g1, g2, f, g4, g5⟩
      rw [within_ok (a := a) (Or.inr (Or.inr (Or.inl rfl))) g2.1.gp g2.1.gr g4, Option.bind_some, Ok_some, nz_w ha]
      exact ⟨⟨fun _ => ⟨f, g5, rfl⟩, fun h => absurd ⟨by omega, q1⟩ h⟩, g1, g2.2.1⟩
    · rw [if_neg q1, Ok_some]
      exact ⟨⟨fun h => absurd h (by omega), fun _ => rfl⟩, Qc.rf, hA.2.1⟩) (by
    intro v hv ν hν
    unfold fX12_reached
    simp only [lt]
    rw [within_r ha ⟨by omega, by omega⟩ ⟨by omega, by omega⟩]
    by_cases q : 0 ≤ a ∧ a ≤ 60
    · obtain ⟨f, hf, rfl⟩ := hv.1 q
      rw [if_pos (decide_eq_true q)]
      refine Ok.then (reach_q hν) ?_
      rintro ⟨x, θ⟩ ⟨q1, q2, R, h1, h2, h3⟩
      dsimp only at q1 q2 h1 h2 h3 ⊢
      rw [reached_r q (hν.1.qr q1).rr h1 (fun c hc => by have := h2.1 c hc; dsimp only at this; omega), Option.bind_some, Ok_some]
      refine ⟨?_, q1, q2⟩
      dsimp only
      rw [cn_congr (fun c hc => ?_)]
      rw [h2.uniq hA.1.gp hf c hc]
    · obtain rfl := hv.2 q
      rw [if_neg (by rw [decide_eq_false q]; decide), Ok_some]
      exact ⟨rfl, .dk0 Dk.rf, hν.2.2.dk0 Dk.rf⟩)
  exact ⟨v, μ1, e0, v, μ2, e1, rfl, e2⟩
end CALLS4
