/-! ===== level 2: how far one comes, in the reference ===== -/
section REACH
variable {n g : Nat} {kd wd : Nat → Nat} {BE CE : LawF} {μ ν : Mem} {c : Nat}
/-- the edges the other way round -/
def opR (tn : Nat → Nat → Nat) (op : Nat → Nat → Bool) (d m : Nat) : Bool := op (tn d m) m
/-- the table holds parts alone -/
def TR (kd : Nat → Nat) (n : Nat) (p : Nat → Nat) (μ : Mem) : Prop := ∀ c, c < NN kd n → μ 92 (nu kd n c) = (p c : Int)
def Dw (μ ν : Mem) : Prop := ∀ x, x ≠ 86 → x ≠ 87 → x ≠ 90 → x ≠ 91 → x ≠ 92 → x ≠ 93 → x ≠ 94 → ν x = μ x
theorem Dw.rf : Dw μ μ := fun _ _ _ _ _ _ _ _ => rfl
theorem Dw.tr {a b c : Mem} (h1 : Dw a b) (h2 : Dw b c) : Dw a c := fun x q1 q2 q3 q4 q5 q6 q7 => (h2 x q1 q2 q3 q4 q5 q6 q7).trans (h1 x q1 q2 q3 q4 q5 q6 q7)
theorem Dl.dw (h : Dl μ ν) : Dw μ ν := fun x q1 q2 q3 q4 _ q6 q7 => h x q1 q2 q3 q4 q6 q7
theorem Df.dw (h : Df μ ν) : Dw μ ν := fun x q1 q2 q3 q4 q5 _ _ => h x q1 q2 q3 q4 q5
theorem Rr.dw (h : Rr kd wd n BE CE g μ) (hD : Dw μ ν) : Rr kd wd n BE CE g ν := h.same (hD 81 (by omega) (by omega) (by omega) (by omega) (by omega) (by omega) (by omega)) (hD 82 (by omega) (by omega) (by omega) (by omega) (by omega) (by omega) (by omega))
theorem TR.dl {p : Nat → Nat} (h : TR kd n p μ) (hD : Dl μ ν) : TR kd n p ν := fun c hc => by rw [hD 92 (by omega) (by omega) (by omega) (by omega) (by omega) (by omega)]; exact h c hc
theorem TR.put {p : Nat → Nat} {a : Nat} (hn : n < 6) (hT : TR kd n p μ) (hc : c < NN kd n) : TR kd n (fun d => if d = c then a else p d) (upd2 μ 92 (nu kd n c) (a : Int)) := by
  intro d hd
  rw [upd2_self]
  dsimp only
  by_cases e : d = c
  · subst e; rw [if_pos rfl, if_pos rfl]
  · rw [if_neg (fun q => e (nu_inj hn hd hc q)), if_neg e]; exact hT d hd
theorem reach4 {t L : Nat} {P W p w : Nat → Nat} {more : Bool} {cc : Int} (h : Rr kd wd n BE CE g μ) (hLd : Ld kd wd n BE CE 0 c μ) (hI : LI (NN kd n) n (tnC kd n) (opR (tnC kd n) (opC kd wd n BE)) 0 t L P W) (hc : c < NN kd n) (hPc : P c = L) (hT : TR kd n p μ) (hF : FI (NN kd n) n (tnC kd n) (opR (tnC kd n) (opC kd wd n BE)) 0 L P W (fun q _ => decide (nu kd n q < nu kd n c)) p w) (hmore : more = true ↔ ∃ d, d < NN kd n ∧ P d = 0 ∧ p d ≠ 0) :
    Ok (loopN (fun s => fX12_reaches_b84 (L : Int) cc s.1 s.2.1 s.2.2) FU (more, 1, μ)) (fun o => Df μ o.2 ∧ ∃ p' w', TR kd n p' o.2 ∧ FI (NN kd n) n (tnC kd n) (opR (tnC kd n) (opC kd wd n BE)) 0 L P W (fun q _ => decide (nu kd n q < nu kd n c + 1)) p' w' ∧ (o.1 = true ↔ ∃ d, d < NN kd n ∧ P d = 0 ∧ p' d ≠ 0)) := by
  have hp := h.gp
  have hn := h.1.1
  have htn : ∀ c m, c < NN kd n → 1 ≤ m → m ≤ n → tnC kd n c m < NN kd n := fun c m hc h1 h2 => (hp.2.2.2 c m hc h1 h2).1
  obtain ⟨hnu, hN⟩ := h.nul hc
  have hLN : L ≤ NN kd n := Nat.le_trans hI.2.2.2.2.2.1 cn_le
  have hL1 := hI.2.2.2.2.2.2
  have hPc0 : P c ≠ 0 := by omega
  refine loop_FU (n + 1) (fun (m : Nat) (s : Bool × Int × Mem) => 1 ≤ m ∧ s.2.1 = (m : Int) ∧ Df μ s.2.2 ∧ ∃ p' w', TR kd n p' s.2.2 ∧ FI (NN kd n) n (tnC kd n) (opR (tnC kd n) (opC kd wd n BE)) 0 L P W (dn kd n c m) p' w' ∧ (s.1 = true ↔ ∃ d, d < NN kd n ∧ P d = 0 ∧ p' d ≠ 0)) 1 ⟨by omega, rfl, Df.rf, p, w, hT, ?_, hmore⟩ (by omega) (by omega) ?_ ?_
  · refine hF.cong htn (fun q m hq h1 h2 h3 => ?_)
    unfold dn
    have : ¬ m < 1 := by omega
    simp [this]
  · rintro m ⟨mo, a, θ⟩ hm ⟨hm1, e1, hD, p', w', hT', hF', hm'⟩
    dsimp only at e1 hD hT' hm' ⊢
    subst e1
    have hR := h.df hD
    obtain ⟨hd, hdd, -, -⟩ := hp.2.2.2 c m hc hm1 (by omega)
    obtain ⟨hnud, -⟩ := h.nul hd
    obtain ⟨l1, -⟩ := hLd m hm1 (by omega)
    have l1' : θ 93 m = (if (decide (m ≠ 0) && opC kd wd n BE c m) = true then (nu kd n (tnC kd n c m) : Int) else -1) := by rw [hD 93 (by omega) (by omega) (by omega) (by omega) (by omega)]; exact l1
    have hDo : ∀ c' m', (c' ≠ c ∨ m' ≠ m) → dn kd n c (m + 1) c' m' = dn kd n c m c' m' := fun c' m' hx => by
      unfold dn
      by_cases e : c' = c
      · have : m' ≠ m := by
          rcases hx with q | q
          · exact absurd e q
          · exact q
        have e2 : decide (m' < m + 1) = decide (m' < m) := by simp; omega
        rw [e2]
      · simp [e]
    have hD0 : dn kd n c m c m = false := by unfold dn; simp
    have hD1 : dn kd n c (m + 1) c m = true := by unfold dn; simp
    have hok : okS (opR (tnC kd n) (opC kd wd n BE)) 0 (tnC kd n c m) m = opC kd wd n BE c m := by
      unfold okS opR
      rw [hdd]
      have : m ≠ 0 := by omega
      simp [this]
    have pv : ∀ d, d < NN kd n → P d ≠ 0 → p' d = P d := fun d hd hx => by
      have := hF' d hd; rw [if_pos hx, if_pos hx] at this; exact this.1
    have hmb : (if w32 (b2i mo) = 0 then false else true) = mo := by cases mo <;> rfl
    have j148 : ∀ (isn : Bool) (ρ : Mem), fX12_reaches_j148 (L : Int) cc (b2i mo) (m : Int) isn ρ = some (.inl (mo || isn, (m : Int) + 1, ρ)) := fun isn ρ => by
      unfold fX12_reaches_j148
      simp only [lt]
      cases mo <;> cases isn <;> rfl
    have same : (okS (opR (tnC kd n) (opC kd wd n BE)) 0 (tnC kd n c m) m = false ∨ P (tnC kd n c m) ≠ 0) → Ok (some (Sum.inl (mo || false, (m : Int) + 1, θ) : (Bool × Int × Mem) ⊕ (Bool × Mem))) (Sum.elim (fun s => 1 ≤ m + 1 ∧ s.2.1 = ((m + 1 : Nat) : Int) ∧ Df μ s.2.2 ∧ ∃ p' w', TR kd n p' s.2.2 ∧ FI (NN kd n) n (tnC kd n) (opR (tnC kd n) (opC kd wd n BE)) 0 L P W (dn kd n c (m + 1)) p' w' ∧ (s.1 = true ↔ ∃ d, d < NN kd n ∧ P d = 0 ∧ p' d ≠ 0)) (fun o => Df μ o.2 ∧ ∃ p' w', TR kd n p' o.2 ∧ FI (NN kd n) n (tnC kd n) (opR (tnC kd n) (opC kd wd n BE)) 0 L P W (fun q _ => decide (nu kd n q < nu kd n c + 1)) p' w' ∧ (o.1 = true ↔ ∃ d, d < NN kd n ∧ P d = 0 ∧ p' d ≠ 0))) := fun hx => by
      rw [Ok_some, Bool.or_false]
      exact ⟨by omega, by push_cast; rfl, hD, p', w', hT', hF'.same hp hc hm1 (by omega) hDo hx, hm'⟩
    unfold fX12_reaches_b84
    rw [hR.2.1.1, w32_n (a := m) (by omega), w32_n (a := n) (by omega), if_pos (by omega), gd_pos (by omega), Int.toNat_natCast, l1']
    by_cases hop : opC kd wd n BE c m = true
    · have e5 : (decide (m ≠ 0) && opC kd wd n BE c m) = true := by rw [hop]; simp; omega
      rw [if_pos e5, w32_n (a := nu kd n (tnC kd n c m)) (by omega), if_neg (by omega), gd_pos (by omega), gd_pos (by omega), Int.toNat_natCast, hT' _ hd]
      have hpd : p' (tnC kd n c m) ≤ L + 1 := by
        have h2 := (hF' _ hd).1
        have h3 := hI.1 _ hd
        split at h2
        · omega
        · split at h2 <;> omega
      have hw0 : w64 0 = 0 := by decide
      rw [w64_nn (by omega), hw0]
      simp only [lt]
      by_cases q : p' (tnC kd n c m) = 0
      · rw [show (if ((p' (tnC kd n c m) : Nat) : Int) = 0 then true else false) = true from if_pos (by omega), if_pos rfl, gd_pos (by omega), gd_pos (by omega), j148]
        have hP0 : P (tnC kd n c m) = 0 := by
          apply Classical.byContradiction
          intro hx
          have := pv _ hd hx
          omega
        have e6 : w32 ((L : Int) + 1) = ((L + 1 : Nat) : Int) := by
          have : (L : Int) + 1 = ((L + 1 : Nat) : Int) := by push_cast; rfl
          rw [this, w32_n (by omega)]
        rw [e6, Bool.or_true, Ok_some]
        refine ⟨by omega, by push_cast; rfl, hD.tr Df.put, _, _, TR.put hn hT' hd, FI.step hp hc hm1 (by omega) hF' hDo hD0 hD1 (by rw [hok]; exact hop) hP0 hPc, ?_⟩
        constructor
        · intro _; exact ⟨_, hd, hP0, by rw [if_pos rfl]; omega⟩
        · intro _; rfl
      · rw [show (if ((p' (tnC kd n c m) : Nat) : Int) = 0 then true else false) = false from if_neg (by omega), if_neg (by decide), j148]
        by_cases hP0 : P (tnC kd n c m) = 0
        · have hp1 : p' (tnC kd n c m) = L + 1 := by
            have h2 := (hF' _ hd).1
            have hP2 : ¬ P (tnC kd n c m) ≠ 0 := by simp [hP0]
            rw [if_neg hP2] at h2
            split at h2 <;> omega
          have hst := FI.step hp hc hm1 (by omega) hF' hDo hD0 hD1 (by rw [hok]; exact hop) hP0 hPc
          have hsame : (fun d => if d = tnC kd n c m then L + 1 else p' d) = p' := by
            funext d
            by_cases e : d = tnC kd n c m
            · rw [if_pos e, e, hp1]
            · rw [if_neg e]
          rw [hsame] at hst
          rw [Bool.or_false, Ok_some]
          exact ⟨by omega, by push_cast; rfl, hD, p', _, hT', hst, hm'⟩
        · exact same (Or.inr hP0)
    · have e5 : ¬ (decide (m ≠ 0) && opC kd wd n BE c m) = true := by simp [hop]
      rw [if_neg e5, if_pos (by decide)]
      unfold fX12_reaches_j124 fX12_reaches_j125
      rw [if_neg (by decide), j148]
      exact same (Or.inl (by rw [hok]; simpa using hop))
  · rintro ⟨mo, a, θ⟩ ⟨hm1, e1, hD, p', w', hT', hF', hm'⟩
    dsimp only at e1 hD hT' hm' ⊢
    subst e1
    have hR := h.df hD
    unfold fX12_reaches_b84
    rw [hR.2.1.1, w32_n (a := n + 1) (by omega), w32_n (a := n) (by omega), if_neg (by omega), Ok_some]
    refine ⟨hD, p', w', hT', hF'.cong htn (fun q m hq h1 h2 h3 => ?_), hm'⟩
    unfold dn
    by_cases e : q = c
    · subst e; simp; omega
    · have : nu kd n q ≠ nu kd n c := fun e2 => e (nu_inj hn hq hc e2)
      simp [e]; omega
theorem reaches_r {t : Nat} (h : Rr kd wd n BE CE g μ) (ht : t < NN kd n) (h88 : μ 88 0 = nu kd n t) : Ok (fX12_reaches μ) (fun o => Dw (upd2 μ 75 26 0) o.2 ∧ ∃ R, TR kd n R o.2 ∧ IsD (NN kd n) n (tnC kd n) (eS (tnC kd n) (opC kd wd n BE) false 0) t (fun c => (R c : Int) - 1) ∧ o.1 = ((mx (NN kd n) (fun c => ((R c : Int) - 1).toNat) : Nat) : Int)) := by
  have hp := h.gp
  have hn := h.1.1
  have hN := NN_le (kd := kd) hn
  obtain ⟨hnut, -⟩ := h.nul ht
  unfold fX12_reaches
  simp only [lt]
  generalize hμ2 : upd2 μ 75 26 0 = μ2
  have hR2 : Rr kd wd n BE CE g μ2 := h.same (by rw [← hμ2, upd2_ne (by omega)]) (by rw [← hμ2, upd2_ne (by omega)])
  refine Ok.then (loop_FU (Q := fun ν : Mem => Df μ2 ν ∧ TR kd n (fun _ => 0) ν) (NN kd n) (fun (i : Nat) (s : Int × Mem) => s.1 = (i : Int) ∧ Df μ2 s.2 ∧ ∀ c, c < NN kd n → nu kd n c < i → s.2 92 (nu kd n c) = 0) 0 ⟨rfl, Df.rf, fun c _ hx => absurd hx (by omega)⟩ (by omega) (by omega) ?_ ?_) ?_
  · rintro i ⟨a, θ⟩ hi ⟨e1, hD, hT⟩
    dsimp only at e1 hD hT ⊢
    subst e1
    have hR := hR2.df hD
    unfold fX12_reaches_b7
    simp only [lt]
    rw [hR.stk, Option.bind_some, w32_n (a := i) (by omega), w32_n (a := NN kd n) (by omega), if_pos (by omega), gd_pos (by omega), Int.toNat_natCast, Ok_some]
    refine ⟨by push_cast; rfl, hD.tr Df.put, fun c' hc' hl => ?_⟩
    dsimp only
    rw [upd2_self]
    by_cases e : nu kd n c' = i
    · rw [if_pos e]
    · rw [if_neg e]; exact hT c' hc' (by omega)
  · rintro ⟨a, θ⟩ ⟨e1, hD, hT⟩
    dsimp only at e1 hD hT ⊢
    subst e1
    have hR := hR2.df hD
    unfold fX12_reaches_b7
    rw [hR.stk, Option.bind_some, w32_n (a := NN kd n) (by omega), if_neg (by omega), Ok_some]
    exact ⟨hD, fun c hc => hT c hc (nu_lt hn hc)⟩
  rintro ν4 ⟨hD4, hT4⟩
  have h884 : ν4 88 0 = nu kd n t := by rw [hD4 88 (by omega) (by omega) (by omega) (by omega) (by omega), ← hμ2, upd2_ne (by omega)]; exact h88
  rw [h884, w32_n (a := nu kd n t) (by omega), gd_pos (by omega), Int.toNat_natCast]
  have hT5 : TR kd n (fun d => if d = t then 1 else 0) (upd2 ν4 92 (nu kd n t) 1) := TR.put (a := 1) hn hT4 ht
  have hD5 : Df μ2 (upd2 ν4 92 (nu kd n t) 1) := hD4.tr Df.put
  generalize upd2 ν4 92 (nu kd n t) 1 = ν5 at hT5 hD5
  have hI1 : LI (NN kd n) n (tnC kd n) (opR (tnC kd n) (opC kd wd n BE)) 0 t 1 (fun c => if c = t then 1 else 0) (fun c => if c = t then 1 else 0) := by
    refine ⟨fun c _ => ?_, fun c _ => ?_, fun c _ hx => ?_, fun c m _ _ _ _ h1 h2 => ?_, ⟨fun c _ hx => hx, ?_, fun c _ => ?_, fun c _ hx => ?_⟩, ?_, by omega⟩
    · dsimp only; split <;> omega
    · by_cases e : c = t <;> simp [e]
    · dsimp only at hx; split at hx <;> omega
    · dsimp only at h1 h2; omega
    · simp
    · have hCW : CW = 2000000000 := rfl
      dsimp only; split <;> omega
    · dsimp only at hx; split at hx <;> omega
    · have : 0 < cn (NN kd n) (fun c => decide ((if c = t then 1 else 0) ≠ 0)) := cn_pos.mpr ⟨t, ht, by simp⟩
      exact this
  refine Ok.then (loop_I (Q := fun o : Int × Mem => Dw μ2 o.2 ∧ ∃ (L : Nat) (P W : Nat → Nat), o.1 = (L : Int) ∧ TR kd n P o.2 ∧ LF (NN kd n) n (tnC kd n) (opR (tnC kd n) (opC kd wd n BE)) 0 t P W ∧ (∀ c, c < NN kd n → P c ≤ L) ∧ ∃ c, c < NN kd n ∧ P c = L ∧ 1 ≤ L) _ (fun s : Bool × Int × Mem => 5000 - s.2.1.toNat) (fun s : Bool × Int × Mem => Dw μ2 s.2.2 ∧ ∃ (L : Nat) (P W : Nat → Nat), L ≤ NN kd n + 1 ∧ TR kd n P s.2.2 ∧ 1 ≤ L ∧ (∃ c, c < NN kd n ∧ P c = L) ∧ ((s.1 = true ∧ s.2.1 = (L : Int) - 1 ∧ LI (NN kd n) n (tnC kd n) (opR (tnC kd n) (opC kd wd n BE)) 0 t L P W) ∨ (s.1 = false ∧ s.2.1 = (L : Int) ∧ LF (NN kd n) n (tnC kd n) (opR (tnC kd n) (opC kd wd n BE)) 0 t P W ∧ ∀ c, c < NN kd n → P c ≤ L))) ⟨hD5.dw, 1, _, _, by omega, hT5, by omega, ⟨t, ht, by simp⟩, Or.inl ⟨rfl, by dsimp only; omega, hI1⟩⟩ (by show 5000 - _ < _; omega) ?_) ?_
  · rintro ⟨mo, a, θ⟩ ⟨hD, L, P, W, hLb, hT, hL1, ⟨cx, hcx, hPcx⟩, hcase⟩
    dsimp only at hD hT hcase ⊢
    have hR := hR2.dw hD
    unfold fX12_reaches_b44
    rcases hcase with ⟨e2, e1, hI⟩ | ⟨e2, e1, hF, hle⟩
    · subst e2 e1
      have hLN : L ≤ NN kd n := Nat.le_trans hI.2.2.2.2.2.1 cn_le
      have eL : (L : Int) - 1 + 1 = (L : Int) := by omega
      rw [if_pos rfl, eL]
      refine Ok.bind ?_
      refine Ok.imp (loop_FU (Q := fun o : Bool × Mem => Dw μ2 o.2 ∧ ∃ p' w', TR kd n p' o.2 ∧ FI (NN kd n) n (tnC kd n) (opR (tnC kd n) (opC kd wd n BE)) 0 L P W (fun q _ => decide (nu kd n q < NN kd n)) p' w' ∧ (o.1 = true ↔ ∃ d, d < NN kd n ∧ P d = 0 ∧ p' d ≠ 0)) (NN kd n) (fun (i : Nat) (s : Bool × Int × Mem) => s.2.1 = (i : Int) ∧ Dw μ2 s.2.2 ∧ ∃ p' w', TR kd n p' s.2.2 ∧ FI (NN kd n) n (tnC kd n) (opR (tnC kd n) (opC kd wd n BE)) 0 L P W (fun q _ => decide (nu kd n q < i)) p' w' ∧ (s.1 = true ↔ ∃ d, d < NN kd n ∧ P d = 0 ∧ p' d ≠ 0)) 0 ⟨rfl, hD, P, W, hT, FI.init hI.2.2.2.2.1.1 (fun c m => by simp), ?_⟩ (by omega) (by omega) ?_ ?_) ?_
      · simp
      · rintro i ⟨mo, a, ρ⟩ hi ⟨e3, hD', p', w', hT', hF', hm'⟩
        dsimp only at e3 hD' hT' hm' ⊢
        subst e3
        obtain ⟨c, hc, rfl⟩ := nu_all hn hi
        have hR' := hR2.dw hD'
        have htn : ∀ c m, c < NN kd n → 1 ≤ m → m ≤ n → tnC kd n c m < NN kd n := fun c m hc h1 h2 => (hp.2.2.2 c m hc h1 h2).1
        have hpc : p' c ≤ L + 1 ∧ (p' c = L ↔ P c = L) := by
          have h2 := (hF' c hc).1
          have h3 := hI.1 c hc
          by_cases e : P c = 0
          · have hP2 : ¬ P c ≠ 0 := by simp [e]
            rw [if_neg hP2] at h2
            split at h2 <;> omega
          · rw [if_pos e] at h2; omega
        unfold fX12_reaches_b55
        rw [hR'.stk, Option.bind_some, w32_n (a := nu kd n c) (by omega), w32_n (a := NN kd n) (by omega), if_pos (by omega), gd_pos (by omega), Int.toNat_natCast, hT' c hc, w32_n (a := L) (by omega), w64_nn (by omega), w64_nn (by omega)]
        by_cases hPc : P c = L
        · rw [if_pos (by omega)]
          refine Ok.then (leads_r (b := 0) (by omega) hR' hc) ?_
          rintro ρ1 ⟨hD1, hLd⟩
          refine Ok.bind ?_
          refine Ok.imp (reach4 (hR'.dl hD1) hLd hI hc hPc (hT'.dl hD1) hF' hm') ?_
          rintro ⟨m2, ρ2⟩ ⟨g1, p2, w2, g2, g3, g4⟩
          dsimp only at g1 g2 g4 ⊢
          rw [Ok_some]
          exact ⟨by push_cast; rfl, (hD'.tr hD1.dw).tr g1.dw, p2, w2, g2, g3, g4⟩
        · rw [if_neg (by omega), Ok_some]
          refine ⟨by push_cast; rfl, hD', p', w', hT', hF'.cong htn (fun q m hq h1 h2 h3 => ?_), hm'⟩
          have : q ≠ c := fun e => hPc (by rw [← e]; exact h3)
          have : nu kd n q ≠ nu kd n c := fun e2 => this (nu_inj hn hq hc e2)
          simp; omega
      · rintro ⟨mo, a, ρ⟩ ⟨e3, hD', p', w', hT', hF', hm'⟩
        dsimp only at e3 hD' hT' hm' ⊢
        subst e3
        have hR' := hR2.dw hD'
        unfold fX12_reaches_b55
        rw [hR'.stk, Option.bind_some, w32_n (a := NN kd n) (by omega), if_neg (by omega), Ok_some]
        exact ⟨hD', p', w', hT', hF', hm'⟩
      · rintro ⟨mo, ρ⟩ ⟨hD', p', w', hT', hF', hm'⟩
        dsimp only at hD' hT' hm' ⊢
        rw [Ok_some]
        have hlev := FI.lev hp ht hI hF' (fun c m hc _ _ => by simp [nu_lt hn hc])
        by_cases hm : mo = true
        · obtain ⟨d0, k1, k2, k3⟩ := hm'.mp hm
          have hd0 : p' d0 = L + 1 := by
            have h2 := (hF' d0 k1).1
            have hP2 : ¬ P d0 ≠ 0 := by simp [k2]
            rw [if_neg hP2] at h2
            split at h2 <;> omega
          exact ⟨⟨hD', L + 1, p', w', by omega, hT', by omega, ⟨d0, k1, hd0⟩, Or.inl ⟨hm, by push_cast; omega, hlev.1 (hm'.mp hm)⟩⟩, by show 5000 - (L : Int).toNat < 5000 - ((L : Int) - 1).toNat; omega⟩
        · have hno : ¬ ∃ d, d < NN kd n ∧ P d = 0 ∧ p' d ≠ 0 := fun q => hm (hm'.mpr q)
          have hpe : ∀ d, d < NN kd n → p' d = P d := fun d hd => by
            by_cases e : P d = 0
            · have : ¬ p' d ≠ 0 := fun q => hno ⟨d, hd, e, q⟩
              omega
            · have h2 := (hF' d hd).1
              rw [if_pos e] at h2; exact h2
          exact ⟨⟨hD', L, p', w', by omega, hT', hL1, ⟨cx, hcx, by rw [hpe cx hcx]; exact hPcx⟩, Or.inr ⟨by simpa using hm, rfl, hlev.2 hno, fun c hc => by rw [hpe c hc]; exact hI.1 c hc⟩⟩, by show 5000 - (L : Int).toNat < 5000 - ((L : Int) - 1).toNat; omega⟩
    · subst e2 e1
      rw [if_neg (by decide), Ok_some]
      exact ⟨hD, L, P, W, rfl, hT, hF, hle, cx, hcx, hPcx, hL1⟩
  · rintro ⟨o1, ν⟩ ⟨hD, L, P, W, e1, hT, hF, hle, cx, hcx, hPcx, hL1⟩
    dsimp only at e1 hD hT ⊢
    subst e1
    rw [Ok_some]
    have hdist := hF.dist hp
    refine ⟨hD, P, hT, ?_, ?_⟩
    · refine ⟨hdist.1, hdist.2.1, fun c m hc h1 h2 hE => hdist.2.2.1 c m hc h1 h2 ?_, fun c hc hpos => ?_⟩
      · have hdd := (hp.2.2.2 c m hc h1 h2).2.1
        unfold eS opR
        unfold eS at hE
        rw [if_pos rfl, hdd]
        rw [if_neg (by decide)] at hE
        exact hE
      · obtain ⟨m, g1, g2, g3, g4⟩ := hdist.2.2.2 c hc hpos
        obtain ⟨hd, hdd, -, -⟩ := hp.2.2.2 c m hc g1 g2
        refine ⟨m, g1, g2, ?_, g4⟩
        unfold eS opR at g3
        unfold eS
        rw [if_pos rfl, hdd] at g3
        rw [if_neg (by decide)]
        exact g3
    · dsimp only
      have h1 : mx (NN kd n) (fun c => ((P c : Int) - 1).toNat) = L - 1 := by
        apply Nat.le_antisymm
        · exact mx_le (fun i hi => by have := hle i hi; omega)
        · have := mx_ge (n := NN kd n) (i := cx) (f := fun c => ((P c : Int) - 1).toNat) hcx
          rw [hPcx] at this
          omega
      rw [h1]; omega
theorem reached_r {a : Int} {R : Nat → Nat} (ha : 0 ≤ a ∧ a ≤ 60) (h : Rr kd wd n BE CE g μ) (hT : TR kd n R μ) (hB : ∀ c, c < NN kd n → R c ≤ 4000) : loopN (fun s => fX12_reached_b26 a s.1 s.2.1 s.2.2) FU (0, 0, μ) = some (((cn (NN kd n) (fun c => decide (0 ≤ (R c : Int) - 1) && decide ((R c : Int) - 1 ≤ a)) : Nat) : Int), μ) := by
  have hn := h.1.1
  have hN := NN_le (kd := kd) hn
  apply Ok_val
  rw [← cn_ui hn]
  refine loop_FU (NN kd n) (fun (i : Nat) (s : Int × Int × Mem) => s.1 = ((cn i (fun i => decide (0 ≤ (R (ui kd n i) : Int) - 1) && decide ((R (ui kd n i) : Int) - 1 ≤ a)) : Nat) : Int) ∧ s.2.1 = (i : Int) ∧ s.2.2 = μ) 0 ⟨rfl, rfl, rfl⟩ (by omega) (by omega) ?_ ?_
  · rintro i ⟨x, y, θ⟩ hi ⟨e1, e2, e3⟩
    dsimp only at e1 e2 e3 ⊢
    subst e1 e2 e3
    obtain ⟨d, hd, rfl⟩ := nu_all hn hi
    have b1 := hB d hd
    have hw0 : w64 0 = 0 := by decide
    unfold fX12_reached_b26 fX12_reached_j64
    simp only [lt]
    rw [h.stk, Option.bind_some, w32_n (a := nu kd n d) (by omega), w32_n (a := NN kd n) (by omega), if_pos (by omega), gd_pos (by omega), gd_pos (by omega), Int.toNat_natCast, hT d hd, w64_nn (by omega), hw0, w32_eq (x := a + 1) (by omega) (by omega), w64_s (x := a + 1) (by omega) (by omega)]
    by_cases q : R d = 0
    · rw [if_pos (by omega), Ok_some]
      refine ⟨?_, by push_cast; rfl, rfl⟩
      dsimp only
      rw [cn_succ, ui_nu hn hd, if_neg (by rw [Bool.and_eq_true]; rintro ⟨k, _⟩; have := of_decide_eq_true k; omega)]; push_cast; omega
    · rw [if_neg (by omega), Ok_some]
      refine ⟨?_, by push_cast; rfl, rfl⟩
      dsimp only
      rw [cn_succ, ui_nu hn hd]
      have h0 : 0 ≤ (R d : Int) - 1 := by omega
      by_cases q2 : (R d : Int) ≤ a + 1
      · have q3 : (R d : Int) - 1 ≤ a := by omega
        rw [if_pos q2, if_pos (by rw [Bool.and_eq_true]; exact ⟨decide_eq_true h0, decide_eq_true q3⟩)]; push_cast; rfl
      · have q3 : ¬ (R d : Int) - 1 ≤ a := by omega
        rw [if_neg q2, if_neg (by rw [Bool.and_eq_true]; rintro ⟨_, k⟩; exact q3 (of_decide_eq_true k))]; rfl
  · rintro ⟨x, y, θ⟩ ⟨e1, e2, e3⟩
    dsimp only at e1 e2 e3 ⊢
    subst e1 e2 e3
    unfold fX12_reached_b26
    rw [h.stk, Option.bind_some, w32_n (a := NN kd n) (by omega), if_neg (by omega), Ok_some]
    rfl
end REACH
