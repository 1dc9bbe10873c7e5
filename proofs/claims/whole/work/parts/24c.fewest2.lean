/-! ===== level 2: the reference's fewest, level by level ===== -/
section FEW3
variable {n g : Nat} {kd wd : Nat → Nat} {BE CE : LawF} {μ ν : Mem} {c : Nat}
/-- what was looked at: all stacks of lesser numbers, of this one the turns below m0 -/
def dn (kd : Nat → Nat) (n c m0 : Nat) (q m : Nat) : Bool := decide (nu kd n q < nu kd n c) || (decide (q = c) && decide (m < m0))
theorem okS_eq {op : Nat → Nat → Bool} {b d m : Nat} : okS op b d m = (decide (m ≠ b) && op d m) := rfl
/-- one turn of one stack of the level -/
theorem fewest3 {b t L m : Nat} {P W p w : Nat → Nat} {more : Bool} {tw : Bool} (hb9 : b < 9) (h : Rr kd wd n BE CE g μ) (hI : LI (NN kd n) n (tnC kd n) (opC kd wd n BE) b t L P W) (hc : c < NN kd n) (hPc : P c = L) (hm1 : 1 ≤ m) (hm : m ≤ n) (hT : TM kd n p w μ) (hF : FI (NN kd n) n (tnC kd n) (opC kd wd n BE) b L P W (dn kd n c m) p w) (hmore : more = true ↔ ∃ d, d < NN kd n ∧ P d = 0 ∧ p d ≠ 0) :
    Ok (fX12_fewest_b81 tw (b : Int) ((L + 1 : Nat) : Int) (nu kd n c : Int) more (m : Int) μ) (Sum.elim (fun s => s.2.1 = ((m + 1 : Nat) : Int) ∧ Df μ s.2.2 ∧ ∃ p' w', TM kd n p' w' s.2.2 ∧ FI (NN kd n) n (tnC kd n) (opC kd wd n BE) b L P W (dn kd n c (m + 1)) p' w' ∧ (s.1 = true ↔ ∃ d, d < NN kd n ∧ P d = 0 ∧ p' d ≠ 0)) (fun _ => False)) := by
  have hp := h.gp
  have hn := h.1.1
  obtain ⟨hnu, hN⟩ := h.nul hc
  obtain ⟨a1, a2, a3, a4, ⟨a5, a6, a7, a8⟩, a9, a10⟩ := hI
  have hLN : L ≤ NN kd n := Nat.le_trans a9 cn_le
  have hPc0 : P c ≠ 0 := by omega
  have pv : ∀ d, d < NN kd n → P d ≠ 0 → p d = P d ∧ w d = W d := fun d hd hx => by
    have := hF d hd; rw [if_pos hx, if_pos hx] at this; exact this
  have pb : ∀ d, d < NN kd n → p d ≤ L + 1 ∧ w d ≤ CW := fun d hd => by
    have h2 := hF d hd
    by_cases e : P d = 0
    · have hP2 : ¬ P d ≠ 0 := by simp [e]
      rw [if_neg hP2, if_neg hP2] at h2
      refine ⟨?_, by rw [h2.2]; exact Nat.min_le_left _ _⟩
      have := h2.1
      split at this <;> omega
    · rw [if_pos e, if_pos e] at h2
      have := a1 d hd
      exact ⟨by omega, by rw [h2.2]; exact a7 d hd⟩
  have pw0 : ∀ d, d < NN kd n → p d = 0 → w d = 0 := fun d hd hx => by
    by_cases e : P d = 0
    · have h2 := hF d hd
      have hP2 : ¬ P d ≠ 0 := by simp [e]
      rw [if_neg hP2, if_neg hP2] at h2
      by_cases hh : hsB n (tnC kd n) (opC kd wd n BE) b L P (dn kd n c m) d = true
      · rw [if_pos hh] at h2; omega
      · rw [h2.2, sgN_zero (by simpa using hh)]; rfl
    · have := (pv d hd e).1; omega
  have hDo : ∀ c' m', (c' ≠ c ∨ m' ≠ m) → dn kd n c (m + 1) c' m' = dn kd n c m c' m' := fun c' m' hx => by
    unfold dn
    by_cases e : c' = c
    · have : m' ≠ m := by
        rcases hx with q | q
        · exact absurd e q
        · exact q
      have e2 : decide (m' < m + 1) = decide (m' < m) := by simp; omega
      rw [e2]
    · simp [e]
  have hD0 : dn kd n c m c m = false := by unfold dn; simp
  have hD1 : dn kd n c (m + 1) c m = true := by unfold dn; simp
  obtain ⟨hd, hdd, -, -⟩ := hp.2.2.2 c m hc hm1 hm
  have same : ∀ θ : Mem, Df μ θ → TM kd n p w θ → (okS (opC kd wd n BE) b (tnC kd n c m) m = false ∨ P (tnC kd n c m) ≠ 0) → Ok (some (Sum.inl (more, (m : Int) + 1, θ) : (Bool × Int × Mem) ⊕ (Bool × Mem))) (Sum.elim (fun s => s.2.1 = ((m + 1 : Nat) : Int) ∧ Df μ s.2.2 ∧ ∃ p' w', TM kd n p' w' s.2.2 ∧ FI (NN kd n) n (tnC kd n) (opC kd wd n BE) b L P W (dn kd n c (m + 1)) p' w' ∧ (s.1 = true ↔ ∃ d, d < NN kd n ∧ P d = 0 ∧ p' d ≠ 0)) (fun _ => False)) := fun θ hD hTθ hx => by
    rw [Ok_some]
    exact ⟨by push_cast; rfl, hD, p, w, hTθ, hF.same hp hc hm1 hm hDo hx, hmore⟩
  unfold fX12_fewest_b81
  rw [h.2.1.1, w32_n (a := m) (by omega), w32_n (a := n) (by omega), if_pos (by omega), part_r h hT hc (by have := pb c hc; omega) (pb c hc).2, Option.bind_some]
  have e1 : ((L + 1 : Nat) : Int) - 1 = (L : Int) := by omega
  have hpc := (pv c hc hPc0).1
  rw [e1, w32_n (a := p c) (by omega), w32_n (a := L) (by omega), if_pos (by omega)]
  refine Ok.then (h.lay hc) ?_
  rintro θ1 ⟨hL1, hK1⟩
  have hR1 := h.dk hK1
  refine Ok.then (hR1.turn hc hm1 hm hL1) ?_
  rintro θ2 ⟨hL2, hK2⟩
  have hR2 := hR1.dk hK2
  have hK12 := hK1.tr hK2
  rw [w32_n (a := b) (by omega)]
  by_cases hmb : m = b
  · rw [if_pos (by omega)]
    exact same θ2 hK12.df (hT.dk hK12) (Or.inl (by unfold okS; simp [hmb]))
  · rw [if_neg (by omega)]
    refine Ok.then (hR2.may hd hm1 hm hL2) ?_
    rintro ⟨o1, θ3⟩ ⟨ho, hL3, hK3⟩
    dsimp only at ho hL3 hK3 ⊢
    subst ho
    have hR3 := hR2.dk hK3
    have hK13 := hK12.tr hK3
    have hT3 := hT.dk hK13
    by_cases hop : opC kd wd n BE (tnC kd n c m) m = true
    · obtain ⟨hnud, -⟩ := hR3.nul hd
      have hwc : l_div (θ3 92 (nu kd n c)) 4096 = (W c : Int) := by
        rw [way_r hR3 hT3 hc (by have := pb c hc; omega) (pb c hc).2, (pv c hc hPc0).2]
      have hok : okS (opC kd wd n BE) b (tnC kd n c m) m = true := by unfold okS; rw [hop]; simp [hmb]
      rw [if_pos hop, hR3.num hd hL3, Option.bind_some, w32_n (a := nu kd n c) (by omega), gd_pos (by omega), Int.toNat_natCast, hwc, ways_r hR3 hT3 hd (by have := pb _ hd; omega) (pb _ hd).2 (pw0 _ hd) (by omega) (a7 c hc), Option.bind_some]
      simp only [lt]
      by_cases hPd : P (tnC kd n c m) = 0
      · have hor : p (tnC kd n c m) = 0 ∨ p (tnC kd n c m) = L + 1 := by
          have h2 := (hF _ hd).1
          have hP2 : ¬ P (tnC kd n c m) ≠ 0 := by simp [hPd]
          rw [if_neg hP2] at h2
          split at h2 <;> omega
        rw [if_pos hor, Ok_some]
        refine ⟨by push_cast; rfl, hK13.df.tr Df.put, _, _, TM.put hn hT3 hd rfl, FI.step hp hc hm1 hm hF hDo hD0 hD1 hok hPd hPc, ?_⟩
        dsimp only
        have hm2 : (if decide (p (tnC kd n c m) = 0) = true then true else if more = true then true else false) = (decide (p (tnC kd n c m) = 0) || more) := by
          cases more <;> by_cases q : p (tnC kd n c m) = 0 <;> simp [q]
        rw [hm2]
        constructor
        · intro hx
          by_cases q : p (tnC kd n c m) = 0
          · exact ⟨_, hd, hPd, by rw [if_pos rfl]; omega⟩
          · have : more = true := by simpa [q] using hx
            obtain ⟨d0, g1, g2, g3⟩ := hmore.mp this
            exact ⟨d0, g1, g2, by split <;> omega⟩
        · rintro ⟨d0, g1, g2, g3⟩
          by_cases q : p (tnC kd n c m) = 0
          · simp [q]
          · have : more = true := hmore.mpr (by
              by_cases e : d0 = tnC kd n c m
              · exact ⟨_, hd, hPd, q⟩
              · rw [if_neg e] at g3
                exact ⟨d0, g1, g2, g3⟩)
            simp [this]
      · have hpd := (pv _ hd hPd).1
        have hPL := a1 _ hd
        have hm2 : (if decide (p (tnC kd n c m) = 0) = true then true else if more = true then true else false) = more := by
          have : ¬ p (tnC kd n c m) = 0 := by omega
          cases more <;> simp [this]
        rw [hm2, if_neg (show ¬ (p (tnC kd n c m) = 0 ∨ p (tnC kd n c m) = L + 1) by omega)]
        exact same θ3 hK13.df hT3 (Or.inr hPd)
    · rw [if_neg hop]
      exact same θ3 hK13.df hT3 (Or.inl (by unfold okS; simp [hop]))
/-- all turns of one stack -/
theorem fewest4 {b t L : Nat} {P W p w : Nat → Nat} {more : Bool} {tw : Bool} (hb9 : b < 9) (h : Rr kd wd n BE CE g μ) (hI : LI (NN kd n) n (tnC kd n) (opC kd wd n BE) b t L P W) (hc : c < NN kd n) (hT : TM kd n p w μ) (hF : FI (NN kd n) n (tnC kd n) (opC kd wd n BE) b L P W (fun q _ => decide (nu kd n q < nu kd n c)) p w) (hmore : more = true ↔ ∃ d, d < NN kd n ∧ P d = 0 ∧ p d ≠ 0) :
    Ok (loopN (fun s => fX12_fewest_b81 tw (b : Int) ((L + 1 : Nat) : Int) (nu kd n c : Int) s.1 s.2.1 s.2.2) FU (more, 1, μ)) (fun o => Df μ o.2 ∧ ∃ p' w', TM kd n p' w' o.2 ∧ FI (NN kd n) n (tnC kd n) (opC kd wd n BE) b L P W (fun q _ => decide (nu kd n q < nu kd n c + 1)) p' w' ∧ (o.1 = true ↔ ∃ d, d < NN kd n ∧ P d = 0 ∧ p' d ≠ 0)) := by
  have hp := h.gp
  have hn := h.1.1
  have htn : ∀ c m, c < NN kd n → 1 ≤ m → m ≤ n → tnC kd n c m < NN kd n := fun c m hc h1 h2 => (hp.2.2.2 c m hc h1 h2).1
  obtain ⟨hnu, hN⟩ := h.nul hc
  have hLN : L ≤ NN kd n := Nat.le_trans hI.2.2.2.2.2.1 cn_le
  by_cases hPc : P c = L
  · refine loop_FU (n + 1) (fun (m : Nat) (s : Bool × Int × Mem) => 1 ≤ m ∧ s.2.1 = (m : Int) ∧ Df μ s.2.2 ∧ ∃ p' w', TM kd n p' w' s.2.2 ∧ FI (NN kd n) n (tnC kd n) (opC kd wd n BE) b L P W (dn kd n c m) p' w' ∧ (s.1 = true ↔ ∃ d, d < NN kd n ∧ P d = 0 ∧ p' d ≠ 0)) 1 ⟨by omega, rfl, Df.rf, p, w, hT, ?_, hmore⟩ (by omega) (by omega) ?_ ?_
    · refine hF.cong htn (fun q m hq h1 h2 h3 => ?_)
      unfold dn
      have : ¬ m < 1 := by omega
      simp [this]
    · rintro m ⟨mo, a, θ⟩ hm ⟨hm1, e1, hD, p', w', hT', hF', hm'⟩
      dsimp only at e1 hD hT' hm' ⊢
      subst e1
      refine Ok.imp (fewest3 hb9 (h.df hD) hI hc hPc hm1 (by omega) hT' hF' hm') ?_
      rintro (⟨m2, a2, θ2⟩ | r) hx
      · obtain ⟨g1, g2, p2, w2, g3, g4, g5⟩ := hx
        dsimp only at g1 g2 g3 g5 ⊢
        exact ⟨by omega, g1, hD.tr g2, p2, w2, g3, g4, g5⟩
      · exact absurd hx (fun q => q)
    · rintro ⟨mo, a, θ⟩ ⟨hm1, e1, hD, p', w', hT', hF', hm'⟩
      dsimp only at e1 hD hT' hm' ⊢
      subst e1
      have hR := h.df hD
      unfold fX12_fewest_b81
      rw [hR.2.1.1, w32_n (a := n + 1) (by omega), w32_n (a := n) (by omega), if_neg (by omega), Ok_some]
      refine ⟨hD, p', w', hT', hF'.cong htn (fun q m hq h1 h2 h3 => ?_), hm'⟩
      unfold dn
      by_cases e : q = c
      · subst e; simp; omega
      · have : nu kd n q ≠ nu kd n c := fun e2 => e (nu_inj hn hq hc e2)
        simp [e]; omega
  · have hpc : p c ≠ L ∧ p c < 4096 ∧ w c ≤ CW := by
      have h2 := hF c hc
      have h3 := hI.1 c hc
      have hL1 := hI.2.2.2.2.2.2
      by_cases e : P c = 0
      · have hP2 : ¬ P c ≠ 0 := by simp [e]
        rw [if_neg hP2, if_neg hP2] at h2
        refine ⟨?_, ?_, by rw [h2.2]; exact Nat.min_le_left _ _⟩
        · have := h2.1
          split at this <;> omega
        · have := h2.1
          split at this <;> omega
      · rw [if_pos e, if_pos e] at h2
        exact ⟨by omega, by omega, by rw [h2.2]; exact hI.2.2.2.2.1.2.2.1 c hc⟩
    refine ⟨(more, μ), ?_, Df.rf, p, w, hT, hF.cong htn (fun q m hq h1 h2 h3 => ?_), hmore⟩
    · have hF1 : FU = 999999999 + 1 := rfl
      rw [hF1, loopN]
      have hbody : fX12_fewest_b81 tw (b : Int) ((L + 1 : Nat) : Int) (nu kd n c : Int) more 1 μ = some (.inr (more, μ)) := by
        unfold fX12_fewest_b81
        by_cases hn0 : 1 ≤ n
        · have e1 : ((L + 1 : Nat) : Int) - 1 = (L : Int) := by omega
          rw [h.2.1.1, w32_1, w32_n (a := n) (by omega), if_pos (by omega), part_r h hT hc hpc.2.1 hpc.2.2, Option.bind_some, e1, w32_n (a := p c) (by omega), w32_n (a := L) (by omega), if_neg (by omega)]
        · rw [h.2.1.1, w32_1, w32_n (a := n) (by omega), if_neg (by omega)]
      dsimp only
      rw [hbody]
    · have : q ≠ c := fun e => hPc (by rw [← e]; exact h3)
      have : nu kd n q ≠ nu kd n c := fun e2 => this (nu_inj hn hq hc e2)
      simp; omega
/-- fewest, whole -/
theorem fewest_r {toWish : Bool} {b t : Nat} (hb9 : b < 9) (h : Rr kd wd n BE CE g μ) (htN : t < NN kd n) (ht : if toWish = true then Wi kd n t μ else t = g) : Ok (fX12_fewest toWish (b : Int) μ) (fun ν => Df μ ν ∧ ∃ P W, TM kd n P W ν ∧ LF (NN kd n) n (tnC kd n) (opC kd wd n BE) b t P W) := by
  have hp := h.gp
  have hn := h.1.1
  have hN := NN_le (kd := kd) hn
  unfold fX12_fewest
  refine Ok.then (fewest1 h ht) ?_
  rintro ν1 ⟨hD1, hT1⟩
  refine Ok.bind ?_
  have hI1 : LI (NN kd n) n (tnC kd n) (opC kd wd n BE) b t 1 (fun c => if c = t then 1 else 0) (fun c => if c = t then 1 else 0) := by
    refine ⟨fun c _ => ?_, fun c _ => ?_, fun c _ hx => ?_, fun c m _ _ _ _ h1 h2 => ?_, ⟨fun c _ hx => hx, ?_, fun c _ => ?_, fun c _ hx => ?_⟩, ?_, by omega⟩
    · dsimp only; split <;> omega
    · by_cases e : c = t <;> simp [e]
    · dsimp only at hx; split at hx <;> omega
    · dsimp only at h1 h2; omega
    · simp
    · have hCW : CW = 2000000000 := rfl
      dsimp only; split <;> omega
    · dsimp only at hx; split at hx <;> omega
    · have : 0 < cn (NN kd n) (fun c => decide ((if c = t then 1 else 0) ≠ 0)) := cn_pos.mpr ⟨t, htN, by simp⟩
      exact this
  refine Ok.imp (loop_I (Q := fun ν : Mem => Df μ ν ∧ ∃ P W, TM kd n P W ν ∧ LF (NN kd n) n (tnC kd n) (opC kd wd n BE) b t P W) _ (fun s : Bool × Int × Mem => 5000 - s.2.1.toNat) (fun s : Bool × Int × Mem => Df μ s.2.2 ∧ ∃ (L : Nat) (P W : Nat → Nat), s.2.1 = ((L + 1 : Nat) : Int) ∧ L ≤ NN kd n + 1 ∧ TM kd n P W s.2.2 ∧ ((s.1 = true ∧ LI (NN kd n) n (tnC kd n) (opC kd wd n BE) b t L P W) ∨ (s.1 = false ∧ LF (NN kd n) n (tnC kd n) (opC kd wd n BE) b t P W))) ⟨hD1, 1, _, _, rfl, by omega, hT1, Or.inl ⟨rfl, hI1⟩⟩ (by show 5000 - _ < _; omega) ?_) ?_
  · rintro ⟨mo, a, θ⟩ ⟨hD, L, P, W, e1, hLb, hT, hcase⟩
    dsimp only at e1 hD hT hcase ⊢
    subst e1
    have hR := h.df hD
    unfold fX12_fewest_b60
    rcases hcase with ⟨e2, hI⟩ | ⟨e2, hF⟩
    · subst e2
      have hLN : L ≤ NN kd n := Nat.le_trans hI.2.2.2.2.2.1 cn_le
      rw [if_pos rfl]
      refine Ok.bind ?_
      refine Ok.imp (loop_FU (Q := fun o : Bool × Mem => Df μ o.2 ∧ ∃ p' w', TM kd n p' w' o.2 ∧ FI (NN kd n) n (tnC kd n) (opC kd wd n BE) b L P W (fun q _ => decide (nu kd n q < NN kd n)) p' w' ∧ (o.1 = true ↔ ∃ d, d < NN kd n ∧ P d = 0 ∧ p' d ≠ 0)) (NN kd n) (fun (i : Nat) (s : Bool × Int × Mem) => s.2.1 = (i : Int) ∧ Df μ s.2.2 ∧ ∃ p' w', TM kd n p' w' s.2.2 ∧ FI (NN kd n) n (tnC kd n) (opC kd wd n BE) b L P W (fun q _ => decide (nu kd n q < i)) p' w' ∧ (s.1 = true ↔ ∃ d, d < NN kd n ∧ P d = 0 ∧ p' d ≠ 0)) 0 ⟨rfl, hD, P, W, hT, FI.init hI.2.2.2.2.1.1 (fun c m => by simp), ?_⟩ (by omega) (by omega) ?_ ?_) ?_
      · simp
      · rintro i ⟨mo, a, ρ⟩ hi ⟨e3, hD', p', w', hT', hF', hm'⟩
        dsimp only at e3 hD' hT' hm' ⊢
        subst e3
        obtain ⟨c, hc, rfl⟩ := nu_all hn hi
        have hR' := h.df hD'
        unfold fX12_fewest_b69
        rw [hR'.stk, Option.bind_some, w32_n (a := nu kd n c) (by omega), w32_n (a := NN kd n) (by omega), if_pos (by omega)]
        refine Ok.bind ?_
        refine Ok.imp (fewest4 hb9 hR' hI hc hT' hF' hm') ?_
        rintro ⟨m2, ρ2⟩ ⟨g1, p2, w2, g2, g3, g4⟩
        dsimp only at g1 g2 g4 ⊢
        rw [Ok_some]
        exact ⟨by push_cast; rfl, hD'.tr g1, p2, w2, g2, g3, g4⟩
      · rintro ⟨mo, a, ρ⟩ ⟨e3, hD', p', w', hT', hF', hm'⟩
        dsimp only at e3 hD' hT' hm' ⊢
        subst e3
        have hR' := h.df hD'
        unfold fX12_fewest_b69
        rw [hR'.stk, Option.bind_some, w32_n (a := NN kd n) (by omega), if_neg (by omega), Ok_some]
        exact ⟨hD', p', w', hT', hF', hm'⟩
      · rintro ⟨mo, ρ⟩ ⟨hD', p', w', hT', hF', hm'⟩
        dsimp only at hD' hT' hm' ⊢
        rw [Ok_some]
        have hlev := FI.lev hp htN hI hF' (fun c m hc _ _ => by simp [nu_lt hn hc])
        refine ⟨⟨hD', L + 1, p', w', by push_cast; rfl, by omega, hT', ?_⟩, ?_⟩
        · by_cases hm : mo = true
          · exact Or.inl ⟨hm, hlev.1 (hm'.mp hm)⟩
          · exact Or.inr ⟨by simpa using hm, hlev.2 (fun q => hm (hm'.mpr q))⟩
        · show 5000 - (((L + 1 : Nat) : Int) + 1).toNat < 5000 - ((L + 1 : Nat) : Int).toNat
          omega
    · subst e2
      rw [if_neg (by decide), Ok_some]
      exact ⟨hD, P, W, hT, hF⟩
  · rintro ν hν
    rw [Ok_some]
    exact hν
end FEW3
