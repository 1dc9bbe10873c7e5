/-! ===== level 2: plans in the reference ===== -/
section PLANR
variable {n g P : Nat} {kd wd : Nat → Nat} {BE CE : LawF} {μ ν : Mem} {c : Nat} {pl : Nat → Nat}
theorem PLr.dk (h : PLr P pl μ) (hD : Dk μ ν) : PLr P pl ν := h.same (hD 84 (by omega) (by omega) (by omega) (by omega))
theorem PLr.put {v : Int} (h : PLr P pl μ) : PLr P pl (upd2 μ 75 0 v) := h.same (upd2_ne (by omega))
theorem Rr.put {v : Int} (h : Rr kd wd n BE CE g μ) : Rr kd wd n BE CE g (upd2 μ 75 0 v) := h.same (upd2_ne (by omega)) (upd2_ne (by omega))
theorem one_add_w {i : Nat} (h : i < 1000) : w32 (1 + (i : Int)) = ((1 + i : Nat) : Int) := by rw [w32_eq (by omega) (by omega)]; push_cast; rfl
theorem judged_r {ups : Nat} {w : Int} (h : Rr kd wd n BE CE g μ) (h22 : μ 75 22 = nu kd n (tdN kd n ups)) (hP : PO n P pl) (hPL : PLr P pl μ) (hw : Nz w) :
    Ok (fX12_judged w μ) (fun o => o.1 = (if 0 ≤ w ∧ w ≤ 2 then jdgI (jdg kd wd n BE CE g pl (tdN kd n ups) P) w else -2) ∧ Dk (upd2 μ 75 0 0) o.2) := by
  have hn := h.1.1
  have hN := NN_le (kd := kd) hn
  have hP1 := hP.1
  unfold fX12_judged
  simp only [lt]
  rw [within_r hw ⟨by omega, by omega⟩ ⟨by omega, by omega⟩]
  by_cases q0 : 0 ≤ w ∧ w ≤ 2
  rotate_left
  · rw [if_neg (by rw [decide_eq_false q0]; decide), if_neg q0, Ok_some]
    exact ⟨rfl, Dk.rf⟩
  rw [if_pos (decide_eq_true q0), if_pos q0, upd2_nj (by omega), h22]
  have hcN := tdN_lt (kd := kd) (ups := ups) hn
  generalize tdN kd n ups = c0 at hcN ⊢
  refine Ok.then (h.put.lay hcN) ?_
  rintro μ3 ⟨hL3, hD3⟩
  have hJ := jdg_ok (wd := wd) (BE := BE) (CE := CE) (g := g) hn hcN hP
  refine Ok.then (loop_FU (Q := fun o : Int × Int × Int × Mem => o.1 = (jdg kd wd n BE CE g pl c0 P).2.1 ∧ o.2.1 = (jdg kd wd n BE CE g pl c0 P).2.2.1 ∧ o.2.2.1 = ((jdg kd wd n BE CE g pl c0 P).2.2.2 : Int) ∧ Dk (upd2 μ 75 0 0) o.2.2.2) P (fun (i : Nat) (s : Int × Int × Int × Int × Mem) => s.1 = (jdg kd wd n BE CE g pl c0 i).2.1 ∧ s.2.1 = (jdg kd wd n BE CE g pl c0 i).2.2.1 ∧ s.2.2.1 = ((jdg kd wd n BE CE g pl c0 i).2.2.2 : Int) ∧ s.2.2.2.1 = (i : Int) ∧ Dk (upd2 μ 75 0 0) s.2.2.2.2 ∧ Ly kd n (jdg kd wd n BE CE g pl c0 i).1 s.2.2.2.2) 0 ⟨rfl, rfl, rfl, rfl, hD3, hL3⟩ (by omega) (by omega) ?_ ?_) ?_
  · rintro i ⟨x2, x3, x4, x5, ρ⟩ hi ⟨e2, e3, e4, e5, hD, hL⟩
    dsimp only at e2 e3 e4 e5 hD hL ⊢
    subst e2 e3 e4 e5
    obtain ⟨a1, a2, a3, a4⟩ := hJ i (by omega)
    obtain ⟨b1, -⟩ := hJ (i + 1) (by omega)
    have hp := hP.2 i hi
    have hρ := h.put.dk hD
    have hPρ := hPL.put.dk hD
    have hs : jdg kd wd n BE CE g pl c0 (i + 1) = (let J := jdg kd wd n BE CE g pl c0 i
      let o := opC kd wd n BE J.1 (pl i)
      let d := if o = true then tnC kd n J.1 (pl i) else J.1
      (d, if o = true then J.2.1 else if J.2.1 = -1 then (i : Int) else J.2.1, if J.2.2.1 = -1 ∧ d = g then (i : Int) else J.2.2.1, if o = true then J.2.2.2 + prC kd wd n CE J.1 (pl i) else J.2.2.2)) := rfl
    rw [hs] at b1 ⊢
    generalize jdg kd wd n BE CE g pl c0 i = J at a1 a2 a3 a4 b1 hs hL ⊢
    obtain ⟨j1, j2, j3, j4⟩ := J
    dsimp only at a1 a2 a3 a4 b1 hL ⊢
    have fin : ∀ (d : Nat) (x s : Int) (θ : Mem), d < NN kd n → Ly kd n d θ → Dk (upd2 μ 75 0 0) θ → Ok (fX12_judged_j97 w x j3 s (i : Int) θ) (Sum.elim (fun t => t.1 = x ∧ t.2.1 = (if j3 = -1 ∧ d = g then (i : Int) else j3) ∧ t.2.2.1 = s ∧ t.2.2.2.1 = ((i + 1 : Nat) : Int) ∧ Dk (upd2 μ 75 0 0) t.2.2.2.2 ∧ Ly kd n d t.2.2.2.2) (fun _ => False)) := fun d x s θ hd hLd hDd => by
      unfold fX12_judged_j97
      simp only [lt]
      rw [(h.put.dk hDd).srv hd hLd, Option.bind_some, w32_eq (x := j3) (by omega) (by omega)]
      by_cases hd' : d = g
      · rw [decide_eq_true hd', if_pos rfl]
        by_cases h3 : j3 = -1
        · rw [if_pos (show j3 < 0 by omega), Ok_some, if_pos ⟨h3, hd'⟩]
          exact ⟨rfl, rfl, rfl, by push_cast; rfl, hDd, hLd⟩
        · rw [if_neg (show ¬ j3 < 0 by omega), Ok_some, if_neg (fun h => h3 h.1)]
          exact ⟨rfl, rfl, rfl, by push_cast; rfl, hDd, hLd⟩
      · rw [decide_eq_false hd', if_neg (show ¬ false = true by decide), Ok_some, if_neg (fun h => hd' h.2)]
        exact ⟨rfl, rfl, rfl, by push_cast; rfl, hDd, hLd⟩
    unfold fX12_judged_b35
    simp only [lt]
    rw [hPρ.1, w32_n (a := i) (by omega), w32_n (a := P) (by omega), if_pos (by omega), one_add_w (by omega), gd_pos (by omega), Int.toNat_natCast, hPρ.2 i hi]
    refine Ok.then (hρ.may a1 hp.1 hp.2 hL) ?_
    rintro ⟨o, θ⟩ ⟨e1, gL, gD⟩
    dsimp only at e1 gL gD ⊢
    subst e1
    have hDθ := hD.tr gD
    by_cases ho : opC kd wd n BE j1 (pl i) = true
    · rw [if_pos ho, if_pos ho, if_pos ho, if_pos ho]
      rw [if_pos ho] at b1
      refine Ok.then ((h.put.dk hDθ).cost a1 hp.2 gL) ?_
      rintro ⟨o, τ⟩ ⟨e1, kL, kD⟩
      dsimp only at e1 kL kD ⊢
      subst e1
      have hDτ := hDθ.tr kD
      refine Ok.then ((h.put.dk hDτ).turn a1 hp.1 hp.2 kL) ?_
      rintro σ ⟨sL, sD⟩
      refine Ok.imp (fin _ j2 _ σ b1 sL (hDτ.tr sD)) ?_
      rintro (t | t) ht
      · obtain ⟨t1, t2, t3, t4, t5, t6⟩ := ht
        exact ⟨t1, t2, by rw [t3]; push_cast; rfl, t4, t5, t6⟩
      · exact ht.elim
    · rw [if_neg ho, if_neg ho, if_neg ho, if_neg ho, w32_eq (x := j2) (by omega) (by omega)]
      by_cases h2 : j2 = -1
      · rw [if_pos h2, if_pos (show j2 < 0 by omega)]
        refine Ok.imp (fin _ (i : Int) _ θ a1 gL hDθ) ?_
        rintro (t | t) ht
        · exact ht
        · exact ht.elim
      · rw [if_neg h2, if_neg (show ¬ j2 < 0 by omega)]
        refine Ok.imp (fin _ j2 _ θ a1 gL hDθ) ?_
        rintro (t | t) ht
        · exact ht
        · exact ht.elim
  · rintro ⟨x2, x3, x4, x5, ρ⟩ ⟨e2, e3, e4, e5, hD, hL⟩
    dsimp only at e2 e3 e4 e5 hD hL ⊢
    subst e2 e3 e4 e5
    have hPρ := hPL.put.dk hD
    unfold fX12_judged_b35
    rw [hPρ.1, w32_n (a := P) (by omega), if_neg (by omega), Ok_some]
    exact ⟨rfl, rfl, rfl, hD⟩
  · rintro ⟨x1, x2, x3, ρ⟩ ⟨e1, e2, e3, hD⟩
    dsimp only at e1 e2 e3 hD ⊢
    subst e1 e2 e3
    rw [nz_w hw, w32_1, Ok_some]
    exact ⟨rfl, hD⟩
theorem endOf_r {lo : Int} (h : Rr kd wd n BE CE g μ) (hP : PO n P pl) (hPL : PLr P pl μ) (hc : c < NN kd n) (hlo : Nz lo) : Ok (fX12_endOf (nu kd n c : Int) lo μ) (fun o => o.1 = (nu kd n (dfN kd wd n BE pl lo c P) : Int) ∧ Dk μ o.2) := by
  have hn := h.1.1
  have hP1 := hP.1
  unfold fX12_endOf
  refine Ok.then (h.lay hc) ?_
  rintro μ1 ⟨hL1, hD1⟩
  refine Ok.then (loop_FU (Q := fun ν : Mem => Dk μ ν ∧ Ly kd n (dfN kd wd n BE pl lo c P) ν) P (fun (i : Nat) (s : Int × Mem) => s.1 = (i : Int) ∧ Dk μ s.2 ∧ Ly kd n (dfN kd wd n BE pl lo c i) s.2) 0 ⟨rfl, hD1, hL1⟩ (by omega) (by omega) ?_ ?_) ?_
  · rintro i ⟨a, ρ⟩ hi ⟨e1, hD, hL⟩
    dsimp only at e1 hD hL ⊢
    subst e1
    have hp := hP.2 i hi
    have hd := dfN_lt (wd := wd) (BE := BE) (lo := lo) hn hP hc i (by omega)
    have hρ := h.dk hD
    have hPρ := hPL.dk hD
    unfold fX12_endOf_b7
    rw [hPρ.1, w32_n (a := i) (by omega), w32_n (a := P) (by omega), if_pos (by omega), nz_w hlo, dfN]
    by_cases hl : (i : Int) = lo
    · rw [if_pos hl, if_pos hl, Ok_some]
      exact ⟨by push_cast; rfl, hD, hL⟩
    · rw [if_neg hl, if_neg hl, one_add_w (by omega), gd_pos (by omega), Int.toNat_natCast, hPρ.2 i hi]
      refine Ok.then (hρ.may hd hp.1 hp.2 hL) ?_
      rintro ⟨o, θ⟩ ⟨e1, gL, gD⟩
      dsimp only at e1 gL gD ⊢
      subst e1
      have hDθ := hD.tr gD
      by_cases ho : opC kd wd n BE (dfN kd wd n BE pl lo c i) (pl i) = true
      · rw [if_pos ho, if_pos ho, gd_pos (by omega), (hPL.dk hDθ).2 i hi]
        refine Ok.then ((h.dk hDθ).turn hd hp.1 hp.2 gL) ?_
        rintro τ ⟨kL, kD⟩
        rw [Ok_some]
        exact ⟨by push_cast; rfl, hDθ.tr kD, kL⟩
      · rw [if_neg ho, if_neg ho, Ok_some]
        exact ⟨by push_cast; rfl, hDθ, gL⟩
  · rintro ⟨a, ρ⟩ ⟨e1, hD, hL⟩
    dsimp only at e1 hD hL ⊢
    subst e1
    have hPρ := hPL.dk hD
    unfold fX12_endOf_b7
    rw [hPρ.1, w32_n (a := P) (by omega), if_neg (by omega), Ok_some]
    exact ⟨hD, hL⟩
  · rintro ρ ⟨hD, hL⟩
    rw [(h.dk hD).num (dfN_lt hn hP hc P (Nat.le_refl _)) hL, Option.bind_some, Ok_some]
    exact ⟨rfl, hD⟩
theorem ends_r (h : Rr kd wd n BE CE g μ) (hP : PO n P pl) (hPL : PLr P pl μ) (hc : c < NN kd n) (h88 : μ 88 0 = nu kd n c) : Ok (fX12_ends μ) (fun o => o.1 = decide (dfN kd wd n BE pl (-1) c P = g) ∧ Dk (upd2 μ 75 0 0) o.2) := by
  have hn := h.1.1
  have hd := dfN_lt (wd := wd) (BE := BE) (lo := -1) hn hP hc P (Nat.le_refl _)
  unfold fX12_ends
  simp only [lt]
  rw [upd2_ne (by omega), h88]
  refine Ok.then (endOf_r h.put hP hPL.put hc ⟨by omega, by omega⟩) ?_
  rintro ⟨x, ν⟩ ⟨e1, hD⟩
  dsimp only at e1 hD ⊢
  subst e1
  refine Ok.then ((h.put.dk hD).lay hd) ?_
  rintro θ ⟨gL, gD⟩
  rw [(h.put.dk (hD.tr gD)).srv hd gL, Option.bind_some, Ok_some]
  exact ⟨rfl, hD.tr gD⟩
theorem spare_r {ups : Nat} (h : Rr kd wd n BE CE g μ) (h22 : μ 75 22 = nu kd n (tdN kd n ups)) (hP : PO n P pl) (hPL : PLr P pl μ) :
    Ok (fX12_spare μ) (fun o => o.1 = (spN kd wd n BE pl P (tdN kd n ups) : Int) ∧ Dk (upd2 μ 75 0 0) o.2) := by
  have hn := h.1.1
  have hN := NN_le (kd := kd) hn
  have hP1 := hP.1
  have hcN := tdN_lt (kd := kd) (ups := ups) hn
  unfold fX12_spare
  simp only [lt]
  rw [upd2_nj (by omega), h22]
  unfold spN
  generalize tdN kd n ups = c0 at h22 hcN ⊢
  refine Ok.then (endOf_r h.put hP hPL.put hcN ⟨by omega, by omega⟩) ?_
  rintro ⟨x, ν⟩ ⟨e1, hD⟩
  dsimp only at e1 hD ⊢
  subst e1
  have hdm := dfN_lt (wd := wd) (BE := BE) (lo := -1) hn hP hcN P (Nat.le_refl _)
  have hdml := nu_lt hn hdm
  refine Ok.bind ?_
  refine loop_FU P (fun (i : Nat) (s : Int × Int × Mem) => s.1 = ((cn i (fun i => decide (dfN kd wd n BE pl (i : Int) c0 P = dfN kd wd n BE pl (-1) c0 P)) : Nat) : Int) ∧ s.2.1 = (i : Int) ∧ Dk (upd2 μ 75 0 0) s.2.2) 0 ⟨rfl, rfl, hD⟩ (by omega) (by omega) ?_ ?_
  · rintro i ⟨a, b, ρ⟩ hi ⟨e1, e2, hDρ⟩
    dsimp only at e1 e2 hDρ ⊢
    subst e1 e2
    have hPρ := hPL.put.dk hDρ
    have h22ρ : ρ 75 22 = nu kd n c0 := by rw [hDρ 75 (by omega) (by omega) (by omega) (by omega), upd2_nj (by omega)]; exact h22
    unfold fX12_spare_b19
    simp only [lt]
    rw [hPρ.1, w32_n (a := i) (by omega), w32_n (a := P) (by omega), if_pos (by omega), h22ρ]
    refine Ok.then (endOf_r (h.put.dk hDρ) hP hPρ hcN ⟨by omega, by omega⟩) ?_
    rintro ⟨x, θ⟩ ⟨e1, hDθ⟩
    dsimp only at e1 hDθ ⊢
    subst e1
    have hdi := dfN_lt (wd := wd) (BE := BE) (lo := (i : Int)) hn hP hcN P (Nat.le_refl _)
    have hdil := nu_lt hn hdi
    rw [w32_n (by omega), w32_n (by omega)]
    by_cases e : dfN kd wd n BE pl (i : Int) c0 P = dfN kd wd n BE pl (-1) c0 P
    · rw [if_pos (by rw [e]), Ok_some]
      refine ⟨?_, by push_cast; rfl, hDρ.tr hDθ⟩
      dsimp only
      rw [cn_succ, if_pos (decide_eq_true e)]; push_cast; rfl
    · have e' : ¬ ((nu kd n (dfN kd wd n BE pl (i : Int) c0 P) : Nat) : Int) = ((nu kd n (dfN kd wd n BE pl (-1) c0 P) : Nat) : Int) := fun q => e (nu_inj hn hdi hdm (by omega))
      rw [if_neg e', Ok_some]
      refine ⟨?_, by push_cast; rfl, hDρ.tr hDθ⟩
      dsimp only
      rw [cn_succ, if_neg (by rw [decide_eq_false e]; decide)]; rfl
  · rintro ⟨a, b, ρ⟩ ⟨e1, e2, hDρ⟩
    dsimp only at e1 e2 hDρ ⊢
    subst e1 e2
    have hPρ := hPL.put.dk hDρ
    unfold fX12_spare_b19
    rw [hPρ.1, w32_n (a := P) (by omega), if_neg (by omega), Ok_some]
    show Ok _ _
    rw [Ok_some]
    exact ⟨rfl, hDρ⟩
/-- one doing of the plan -/
theorem round_r {k : Nat} (h : Rr kd wd n BE CE g μ) (hP : PO n P pl) (hPL : PLr P pl μ) (hc : c < NN kd n) (hL : Ly kd n c μ) {s : Nat} (hsN : s < NN kd n) (h88 : μ 88 0 = nu kd n s) :
    Ok (loopN (fun s => fX12_again_b25 (k : Int) s.1 s.2) FU (0, μ)) (fun o => match dwN kd wd n BE pl P 0 c with
      | none => ∃ ν, o = .inr (-1, ν) ∧ Dk μ ν
      | some d => ∃ ν, (if d = s then o = .inr ((k : Int), ν) else o = .inl (((k + 1 : Nat) : Int), ν)) ∧ Dk μ ν ∧ Ly kd n d ν ∧ d < NN kd n) := by
  have hn := h.1.1
  have hN := NN_le (kd := kd) hn
  have hP1 := hP.1
  have hsl := nu_lt hn hsN
  refine loop_FU P (fun (i : Nat) (t : Int × Mem) => ∃ d, t.1 = (i : Int) ∧ Dk μ t.2 ∧ Ly kd n d t.2 ∧ d < NN kd n ∧ dwN kd wd n BE pl P 0 c = dwN kd wd n BE pl (P - i) i d) 0 ⟨c, rfl, Dk.rf, hL, hc, by rw [Nat.sub_zero]⟩ (by omega) (by omega) ?_ ?_
  · rintro i ⟨a, ρ⟩ hi ⟨d, e1, hD, hLd, hd, hs⟩
    dsimp only at e1 hD hLd ⊢
    subst e1
    have hp := hP.2 i hi
    have hρ := h.dk hD
    have hPρ := hPL.dk hD
    have h1 : P - i = (P - (i + 1)) + 1 := by omega
    rw [h1, dwN] at hs
    unfold fX12_again_b25
    rw [hPρ.1, w32_n (a := i) (by omega), w32_n (a := P) (by omega), if_pos (by omega), one_add_w (by omega), gd_pos (by omega), Int.toNat_natCast, hPρ.2 i hi]
    refine Ok.then (hρ.may hd hp.1 hp.2 hLd) ?_
    rintro ⟨o, θ⟩ ⟨e1, gL, gD⟩
    dsimp only at e1 gL gD ⊢
    subst e1
    have hDθ := hD.tr gD
    by_cases ho : opC kd wd n BE d (pl i) = true
    · rw [if_pos ho] at hs
      rw [if_pos ho, gd_pos (by omega), (hPL.dk hDθ).2 i hi]
      refine Ok.then ((h.dk hDθ).turn hd hp.1 hp.2 gL) ?_
      rintro τ ⟨kL, kD⟩
      rw [Ok_some]
      exact ⟨_, by push_cast; rfl, hDθ.tr kD, kL, tnC_lt hn hd hp.2, hs⟩
    · rw [if_neg ho] at hs
      rw [if_neg ho, Ok_some, hs]
      exact ⟨θ, rfl, hDθ⟩
  · rintro ⟨a, ρ⟩ ⟨d, e1, hD, hLd, hd, hs⟩
    dsimp only at e1 hD hLd ⊢
    subst e1
    have hρ := h.dk hD
    have hPρ := hPL.dk hD
    have hdl := nu_lt hn hd
    rw [Nat.sub_self, dwN] at hs
    have h88ρ : ρ 88 0 = nu kd n s := by rw [hD 88 (by omega) (by omega) (by omega) (by omega)]; exact h88
    unfold fX12_again_b25
    rw [hPρ.1, w32_n (a := P) (by omega), if_neg (by omega), hρ.num hd hLd, Option.bind_some, h88ρ, w32_n (by omega), w32_n (by omega), hs]
    by_cases e : d = s
    · rw [if_pos (by rw [e]), Ok_some]
      dsimp only [Sum.elim]
      exact ⟨ρ, by rw [if_pos e], hD, hLd, hd⟩
    · have e' : ¬ ((nu kd n d : Nat) : Int) = ((nu kd n s : Nat) : Int) := fun q => e (nu_inj hn hd hsN (by omega))
      rw [if_neg e', Ok_some]
      dsimp only [Sum.elim]
      exact ⟨ρ, by rw [if_neg e]; push_cast; rfl, hD, hLd, hd⟩
theorem again_r (h : Rr kd wd n BE CE g μ) (hP : PO n P pl) (hPL : PLr P pl μ) (hc : c < NN kd n) (h88 : μ 88 0 = nu kd n c) : Ok (fX12_again μ) (fun o => o.1 = agI kd wd n BE pl P c 60 1 c ∧ Dk (upd2 μ 75 0 0) o.2) := by
  have hn := h.1.1
  unfold fX12_again
  simp only [lt]
  rw [upd2_ne (by omega), h88]
  refine Ok.then (h.put.lay hc) ?_
  rintro μ2 ⟨hL2, hD2⟩
  refine loop_FU 61 (fun (k : Nat) (t : Int × Mem) => ∃ d : Nat, t.1 = (k : Int) ∧ d < NN kd n ∧ Dk (upd2 μ 75 0 0) t.2 ∧ Ly kd n d t.2 ∧ agI kd wd n BE pl P c 60 1 c = agI kd wd n BE pl P c (61 - k) k d) 1 ⟨c, rfl, hc, hD2, hL2, rfl⟩ (by omega) (by omega) ?_ ?_
  · rintro k ⟨a, ρ⟩ hk ⟨d, e1, hd, hD, hL, hs⟩
    dsimp only at e1 hD hL ⊢
    subst e1
    have h88ρ : ρ 88 0 = nu kd n c := by rw [hD 88 (by omega) (by omega) (by omega) (by omega), upd2_ne (by omega)]; exact h88
    unfold fX12_again_b17
    rw [w32_n (a := k) (by omega), show w32 60 = 60 from by decide, if_pos (by omega)]
    have h1 : 61 - k = (61 - (k + 1)) + 1 := by omega
    rw [h1, agI_s (f := 61 - (k + 1))] at hs
    refine Ok.imp (round_r (k := k) (h.put.dk hD) hP (hPL.put.dk hD) hd hL hc h88ρ) ?_
    intro o ho
    generalize dwN kd wd n BE pl P 0 d = w at hs ho
    cases w with
    | none =>
      dsimp only at hs ho
      obtain ⟨θ, rfl, hDθ⟩ := ho
      exact ⟨hs.symm, hD.tr hDθ⟩
    | some e =>
      dsimp only at hs ho
      obtain ⟨θ, ho, hDθ, hLθ, heN⟩ := ho
      by_cases hec : e = c
      · rw [if_pos hec] at hs ho
        subst ho
        exact ⟨hs.symm, hD.tr hDθ⟩
      · rw [if_neg hec] at hs ho
        subst ho
        exact ⟨e, rfl, heN, hD.tr hDθ, hLθ, hs⟩
  · rintro ⟨a, ρ⟩ ⟨d, e1, hd, hD, hL, hs⟩
    dsimp only at e1 hD hL ⊢
    subst e1
    unfold fX12_again_b17
    rw [show w32 ((61 : Nat) : Int) = 61 from by decide, show w32 60 = 60 from by decide, if_neg (by omega), Ok_some]
    exact ⟨hs.symm, hD⟩
theorem ring_r {a b : Nat} (h : Rr kd wd n BE CE g μ) (hc : c < NN kd n) (h88 : μ 88 0 = nu kd n c) (hL : Ly kd n c μ) (ha : 1 ≤ a ∧ a ≤ n) (hb : 1 ≤ b ∧ b ≤ n) : Ok (loopN (fun s => fX12_ring_b43 (a : Int) (b : Int) s.1 s.2) FU (1, μ)) (fun o => o.1 = rgI kd wd n BE a b c 120 1 c ∧ Dk μ o.2) := by
  have hn := h.1.1
  have hN := NN_le (kd := kd) hn
  have hcl := nu_lt hn hc
  refine loop_FU 121 (fun (k : Nat) (s : Int × Mem) => ∃ d : Nat, s.1 = (k : Int) ∧ d < NN kd n ∧ Dk μ s.2 ∧ Ly kd n d s.2 ∧ rgI kd wd n BE a b c 120 1 c = rgI kd wd n BE a b c (121 - k) k d) 1 ⟨c, rfl, hc, Dk.rf, hL, rfl⟩ (by omega) (by omega) ?_ ?_
  · rintro k ⟨x, ρ⟩ hk ⟨d, e1, hd, hD, hLd, hs⟩
    dsimp only at e1 hD hLd ⊢
    subst e1
    have hm : 1 ≤ (if k % 2 = 1 then a else b) ∧ (if k % 2 = 1 then a else b) ≤ n := by split <;> omega
    have hv : (if ((k % 2 : Nat) : Int) = 1 then (a : Int) else (b : Int)) = ((if k % 2 = 1 then a else b : Nat) : Int) := by split <;> split <;> omega
    unfold fX12_ring_b43
    simp only [lt]
    rw [w32_n (a := k) (by omega), show w32 120 = 120 from by decide, if_pos (by omega), rem_2 (by omega), w32_n (a := k % 2) (by omega), w32_1, hv]
    have h1 : 121 - k = (121 - (k + 1)) + 1 := by omega
    rw [h1, rgI_s (f := 121 - (k + 1))] at hs
    generalize (if k % 2 = 1 then a else b) = m at hm hs ⊢
    have ht := tnC_lt (kd := kd) hn hd hm.2
    have htl := nu_lt hn ht
    refine Ok.then ((h.dk hD).may hd hm.1 hm.2 hLd) ?_
    rintro ⟨o, θ⟩ ⟨e1, gL, gD⟩
    dsimp only at e1 gL gD ⊢
    subst e1
    have hDθ := hD.tr gD
    by_cases ho : opC kd wd n BE d m = true
    · rw [if_pos ho] at hs
      rw [if_pos ho]
      refine Ok.then ((h.dk hDθ).turn hd hm.1 hm.2 gL) ?_
      rintro τ ⟨kL, kD⟩
      have hDτ := hDθ.tr kD
      by_cases h2 : k % 2 = 0
      · have h88τ : τ 88 0 = nu kd n c := by rw [hDτ 88 (by omega) (by omega) (by omega) (by omega)]; exact h88
        rw [if_pos (show ((k % 2 : Nat) : Int) = 0 by omega), (h.dk hDτ).num ht kL, Option.bind_some, h88τ, w32_n (by omega), w32_n (by omega)]
        by_cases h3 : tnC kd n d m = c
        · rw [if_pos ⟨h2, h3⟩] at hs
          rw [if_pos (by rw [h3]), Ok_some]
          exact ⟨hs.symm, hDτ⟩
        · have e' : ¬ ((nu kd n (tnC kd n d m) : Nat) : Int) = ((nu kd n c : Nat) : Int) := fun q => h3 (nu_inj hn ht hc (by omega))
          rw [if_neg (fun h => h3 h.2)] at hs
          rw [if_neg e', Ok_some]
          exact ⟨_, by push_cast; rfl, ht, hDτ, kL, hs⟩
      · rw [if_neg (fun h => h2 h.1)] at hs
        rw [if_neg (show ¬ ((k % 2 : Nat) : Int) = 0 by omega), Ok_some]
        exact ⟨_, by push_cast; rfl, ht, hDτ, kL, hs⟩
    · rw [if_neg ho] at hs
      rw [if_neg ho, Ok_some]
      exact ⟨hs.symm, hDθ⟩
  · rintro ⟨x, ρ⟩ ⟨d, e1, hd, hD, hLd, hs⟩
    dsimp only at e1 hD hLd ⊢
    subst e1
    unfold fX12_ring_b43
    rw [show w32 ((121 : Nat) : Int) = 121 from by decide, show w32 120 = 120 from by decide, if_neg (by omega), Ok_some]
    exact ⟨hs.symm, hD⟩
theorem ringr_r {a b : Int} (h : Rr kd wd n BE CE g μ) (hc : c < NN kd n) (h88 : μ 88 0 = nu kd n c) (ha : Nz a) (hb : Nz b) : Ok (fX12_ring a b μ) (fun o => o.1 = ringI kd wd n BE a b c ∧ Dk (upd2 μ 75 0 0) o.2) := by
  have hn := h.1.1
  unfold fX12_ring ringI
  simp only [lt]
  have h81 : upd2 μ 75 0 0 81 0 = n := by rw [upd2_ne (by omega)]; exact h.2.1.1
  rw [h81, within_r ha ⟨by omega, by omega⟩ ⟨by omega, by omega⟩, within_r hb ⟨by omega, by omega⟩ ⟨by omega, by omega⟩]
  by_cases qa : 1 ≤ a ∧ a ≤ n
  · rw [if_pos (decide_eq_true qa)]
    by_cases qb : 1 ≤ b ∧ b ≤ n
    · rw [if_pos (decide_eq_true qb), if_pos ⟨qa, qb⟩, upd2_ne (by omega), h88]
      refine Ok.then (h.put.lay hc) ?_
      rintro θ ⟨gL, gD⟩
      have ea : a = (a.toNat : Int) := by omega
      have eb : b = (b.toNat : Int) := by omega
      have h88θ : θ 88 0 = nu kd n c := by rw [gD 88 (by omega) (by omega) (by omega) (by omega), upd2_ne (by omega)]; exact h88
      have := ring_r (a := a.toNat) (b := b.toNat) (h.put.dk gD) hc h88θ gL (by omega) (by omega)
      rw [← ea, ← eb] at this
      exact Ok.imp this (fun o ho => ⟨ho.1, gD.tr ho.2⟩)
    · rw [if_neg (by rw [decide_eq_false qb]; decide), if_neg (fun h => qb h.2), Ok_some]
      exact ⟨rfl, Dk.rf⟩
  · rw [if_neg (by rw [decide_eq_false qa]; decide), if_neg (fun h => qa h.1), Ok_some]
    exact ⟨rfl, Dk.rf⟩
end PLANR
