/-! ===== level 2: the reference's table of the fewest turns ===== -/
section FEW1
variable {N n goal t b : Nat} {tn : Nat → Nat → Nat} {op : Nat → Nat → Bool} {P W p w : Nat → Nat} {L : Nat} {D D' : Nat → Nat → Bool}
theorem FI.cong (htn : ∀ c m, c < N → 1 ≤ m → m ≤ n → tn c m < N) (H : FI N n tn op b L P W D p w) (h : ∀ c m, c < N → 1 ≤ m → m ≤ n → P c = L → D' c m = D c m) : FI N n tn op b L P W D' p w := by
  intro d hd
  have hct : ∀ i, i < n → ctB tn op b L P D' d i = ctB tn op b L P D d i := fun i hi => by
    unfold ctB
    by_cases e : P (tn d (i + 1)) = L
    · rw [h _ _ (htn d (i + 1) hd (by omega) (by omega)) (by omega) (by omega) e]
    · simp [e]
  have g1 : hsB n tn op b L P D' d = hsB n tn op b L P D d := by unfold hsB; rw [cn_congr hct]
  have g2 : sgN n tn op b L P W D' d = sgN n tn op b L P W D d := by unfold sgN; exact sm_congr (fun i hi => by rw [hct i hi])
  rw [g1, g2]; exact H d hd
theorem FI.init (ha : ∀ c, c < N → P c = 0 → W c = 0) (hD : ∀ c m, D c m = false) : FI N n tn op b L P W D P W := by
  intro d hd
  have hct : ∀ i, i < n → ctB tn op b L P D d i = false := fun i hi => by unfold ctB; rw [hD]; simp
  have g1 : hsB n tn op b L P D d = false := by unfold hsB; rw [cn_none hct]; rfl
  rw [g1, sgN_zero g1]
  by_cases e : P d = 0
  · have hP2 : ¬ P d ≠ 0 := by simp [e]
    rw [if_neg hP2, if_neg hP2, e, ha d hd e]; exact ⟨rfl, rfl⟩
  · rw [if_pos e, if_pos e]; exact ⟨rfl, rfl⟩
end FEW1
section FEW
variable {n g : Nat} {kd wd : Nat → Nat} {BE CE : LawF} {μ ν : Mem} {c : Nat}
/-- the reference's griddle, whole -/
def Rr (kd wd : Nat → Nat) (n : Nat) (BE CE : LawF) (g : Nat) (μ : Mem) : Prop := (n < 6 ∧ (∀ i j, i < n → j < n → wd i = wd j → i = j) ∧ Gl kd wd n g ∧ FN BE ∧ FN CE) ∧ Rg kd wd n μ ∧ RLw 1 BE 0 μ ∧ RLw 2 CE 1 μ
theorem Rr.same (h : Rr kd wd n BE CE g μ) (e1 : ν 81 = μ 81) (e2 : ν 82 = μ 82) : Rr kd wd n BE CE g ν := ⟨h.1, h.2.1.same e1, h.2.2.1.same e1 e2, h.2.2.2.same e1 e2⟩
theorem Rr.gp (h : Rr kd wd n BE CE g μ) : Gp (NN kd n) n g (tnC kd n) (prC kd wd n CE) := Gp_of h.1.1 h.1.2.2.1
/-- all but the reference's desk -/
def Dk (μ ν : Mem) : Prop := ∀ x, x ≠ 86 → x ≠ 87 → x ≠ 90 → x ≠ 91 → ν x = μ x
theorem Dk.rf : Dk μ μ := fun _ _ _ _ _ => rfl
theorem Dk.tr {a b c : Mem} (h1 : Dk a b) (h2 : Dk b c) : Dk a c := fun x q1 q2 q3 q4 => (h2 x q1 q2 q3 q4).trans (h1 x q1 q2 q3 q4)
theorem Rr.dk (h : Rr kd wd n BE CE g μ) (hD : Dk μ ν) : Rr kd wd n BE CE g ν := h.same (hD 81 (by omega) (by omega) (by omega) (by omega)) (hD 82 (by omega) (by omega) (by omega) (by omega))
theorem Rr.lay (h : Rr kd wd n BE CE g μ) (hc : c < NN kd n) : Ok (fX12_lays (nu kd n c : Int) μ) (fun ν => Ly kd n c ν ∧ Dk μ ν) := Ok.imp (lays_r h.1.1 h.2.1 hc) (fun _ q => ⟨q.1, fun x _ _ h3 h4 => q.2 x h3 h4⟩)
theorem Rr.turn {m : Nat} (h : Rr kd wd n BE CE g μ) (hc : c < NN kd n) (hm1 : 1 ≤ m) (hm : m ≤ n) (hL : Ly kd n c μ) : Ok (fX12_turns (m : Int) μ) (fun ν => Ly kd n (tnC kd n c m) ν ∧ Dk μ ν) := Ok.imp (turns_r h.1.1 h.2.1 hc hm1 hm hL) (fun _ q => ⟨q.1, fun x _ _ h3 h4 => q.2 x h3 h4⟩)
theorem Rr.may {m : Nat} (h : Rr kd wd n BE CE g μ) (hc : c < NN kd n) (hm1 : 1 ≤ m) (hm : m ≤ n) (hL : Ly kd n c μ) : Ok (fX12_mayTurn (m : Int) μ) (fun o => o.1 = opC kd wd n BE c m ∧ Ly kd n c o.2 ∧ Dk μ o.2) := Ok.imp (may_r h.1.1 h.2.1 h.2.2.1 h.1.2.2.2.1 hc hm1 hm hL) (fun _ q => ⟨q.1, hL.same (q.2 90 (by omega) (by omega)) (q.2 91 (by omega) (by omega)), fun x h1 h2 _ _ => q.2 x h1 h2⟩)
theorem Rr.cost {m : Nat} (h : Rr kd wd n BE CE g μ) (hc : c < NN kd n) (hm : m ≤ n) (hL : Ly kd n c μ) : Ok (fX12_costOf (m : Int) μ) (fun o => o.1 = prC kd wd n CE c m ∧ Ly kd n c o.2 ∧ Dk μ o.2) := Ok.imp (cost_r h.1.1 h.2.1 h.2.2.2 h.1.2.2.2.2 hc hm hL) (fun _ q => ⟨q.1, hL.same (q.2 90 (by omega) (by omega)) (q.2 91 (by omega) (by omega)), fun x h1 h2 _ _ => q.2 x h1 h2⟩)
theorem Rr.num (h : Rr kd wd n BE CE g μ) (hc : c < NN kd n) (hL : Ly kd n c μ) : fX12_numberNow μ = some (nu kd n c : Int) := number_r h.1.1 h.2.1 hc hL
theorem Rr.srv (h : Rr kd wd n BE CE g μ) (hc : c < NN kd n) (hL : Ly kd n c μ) : fX12_isServed μ = some (decide (c = g)) := served_r h.1.1 h.2.1 h.1.2.1 hc h.1.2.2.1 hL
theorem Rr.stk (h : Rr kd wd n BE CE g μ) : fX12_stacks μ = some (NN kd n : Int) := stacks_r h.1.1 h.2.1
theorem Rr.nul (h : Rr kd wd n BE CE g μ) (hc : c < NN kd n) : nu kd n c < NN kd n ∧ NN kd n ≤ 3840 := ⟨nu_lt h.1.1 hc, NN_le h.1.1⟩
theorem Wi.same {w : Nat} (h : Wi kd n w μ) (e : ν 85 = μ 85) : Wi kd n w ν := ⟨h.1, fun i hi => by rw [e]; exact h.2 i hi⟩
/-- the table holds parts and ways -/
def TM (kd : Nat → Nat) (n : Nat) (p w : Nat → Nat) (μ : Mem) : Prop := ∀ c, c < NN kd n → μ 92 (nu kd n c) = ((p c + 4096 * w c : Nat) : Int)
theorem part_r {p w : Nat → Nat} (h : Rr kd wd n BE CE g μ) (hT : TM kd n p w μ) (hc : c < NN kd n) (hp : p c < 4096) (hw : w c ≤ CW) : fX12_partOf (nu kd n c : Int) μ = some (p c : Int) := by
  obtain ⟨h1, h2⟩ := h.nul hc
  have hw2 : w c ≤ 2000000000 := hw
  unfold fX12_partOf
  have e4 : (4096 : Int) = ((4096 : Nat) : Int) := rfl
  rw [w32_n (by omega), gd_pos (by omega), Int.toNat_natCast, hT c hc, e4, l_rem_n (by omega) (by omega)]
  have : (p c + 4096 * w c) % 4096 = p c := by omega
  rw [this, l_2i_n (by omega)]
theorem way_r {p w : Nat → Nat} (h : Rr kd wd n BE CE g μ) (hT : TM kd n p w μ) (hc : c < NN kd n) (hp : p c < 4096) (hw : w c ≤ CW) : l_div (μ 92 (nu kd n c)) 4096 = (w c : Int) := by
  have hw2 : w c ≤ 2000000000 := hw
  have e4 : (4096 : Int) = ((4096 : Nat) : Int) := rfl
  rw [hT c hc, e4, l_div_n (by omega) (by omega)]
  congr 1
  omega
/-- one place of the table is written -/
theorem TM.put {p w : Nat → Nat} {v : Int} {a b' : Nat} (hn : n < 6) (hT : TM kd n p w μ) (hc : c < NN kd n) (hv : v = ((a + 4096 * b' : Nat) : Int)) : TM kd n (fun d => if d = c then a else p d) (fun d => if d = c then b' else w d) (upd2 μ 92 (nu kd n c) v) := by
  intro d hd
  rw [upd2_self]
  dsimp only
  by_cases e : d = c
  · subst e; rw [if_pos rfl, if_pos rfl, if_pos rfl, hv]
  · rw [if_neg (fun q => e (nu_inj hn hd hc q)), if_neg e, if_neg e]; exact hT d hd
theorem ways_r {p w : Nat → Nat} {L v : Nat} (h : Rr kd wd n BE CE g μ) (hT : TM kd n p w μ) (hc : c < NN kd n) (hp : p c < 4096) (hw : w c ≤ CW) (hpw : p c = 0 → w c = 0) (hL : L < 4095) (hv : v ≤ CW) :
    fX12_waysOn (nu kd n c : Int) ((L + 1 : Nat) : Int) (v : Int) μ = some (decide (p c = 0), if p c = 0 ∨ p c = L + 1 then upd2 μ 92 (nu kd n c) ((L + 1 + 4096 * min CW (v + w c) : Nat) : Int) else μ) := by
  obtain ⟨h1, h2⟩ := h.nul hc
  have hw2 : w c ≤ 2000000000 := hw
  have hv2 : v ≤ 2000000000 := hv
  have hway := way_r h hT hc hp hw
  have hw0 : w64 0 = 0 := by decide
  have hwC : w64 2000000000 = 2000000000 := by decide
  have j32 : ∀ bb : Bool, fX12_waysOn_j32 (nu kd n c : Int) ((L + 1 : Nat) : Int) (v : Int) bb μ = some (bb, upd2 μ 92 (nu kd n c) ((L + 1 + 4096 * min CW (v + w c) : Nat) : Int)) := fun bb => by
    unfold fX12_waysOn_j32
    simp only [lt]
    rw [w32_n (a := nu kd n c) (by omega), gd_pos (by omega), gd_pos (by omega), Int.toNat_natCast, hway, w32_n (a := L + 1) (by omega), hwC]
    have e1 : (v : Int) + (w c : Int) = ((v + w c : Nat) : Int) := by push_cast; rfl
    rw [e1, w64_nn (by omega)]
    have e2 : (if ((v + w c : Nat) : Int) ≤ 2000000000 then ((v + w c : Nat) : Int) else 2000000000) = ((min CW (v + w c) : Nat) : Int) := by
      by_cases q : v + w c ≤ 2000000000
      · rw [if_pos (by omega), Nat.min_eq_right (by exact q)]
      · rw [if_neg (by omega), Nat.min_eq_left (by show 2000000000 ≤ _; omega)]; rfl
    rw [e2]
    congr 3
  unfold fX12_waysOn
  simp only [lt]
  rw [w32_n (a := nu kd n c) (by omega), gd_pos (by omega), Int.toNat_natCast, hT c hc, w64_nn (by omega), hw0]
  by_cases e0 : p c = 0
  · have e1 : ((p c + 4096 * w c : Nat) : Int) = 0 := by rw [e0, hpw e0]; rfl
    rw [if_pos e1, if_pos rfl, j32, if_pos (Or.inl e0)]
    simp [e0]
  · have e1 : ¬ ((p c + 4096 * w c : Nat) : Int) = 0 := by omega
    rw [if_neg e1, if_neg (by decide), part_r h hT hc hp hw, Option.bind_some, w32_n (a := p c) (by omega), w32_n (a := L + 1) (by omega)]
    by_cases e2 : p c = L + 1
    · rw [if_pos (by omega), j32, if_pos (Or.inr e2)]
      simp [e0]
    · rw [if_neg (by omega), if_neg (by omega)]
      simp [e0]
/-- what fewest leaves as it was -/
def Df (μ ν : Mem) : Prop := ∀ x, x ≠ 86 → x ≠ 87 → x ≠ 90 → x ≠ 91 → x ≠ 92 → ν x = μ x
theorem Df.rf : Df μ μ := fun _ _ _ _ _ _ => rfl
theorem Df.tr {a b c : Mem} (h1 : Df a b) (h2 : Df b c) : Df a c := fun x q1 q2 q3 q4 q5 => (h2 x q1 q2 q3 q4 q5).trans (h1 x q1 q2 q3 q4 q5)
theorem Dk.df (h : Dk μ ν) : Df μ ν := fun x q1 q2 q3 q4 _ => h x q1 q2 q3 q4
theorem Df.put {i : Nat} {v : Int} : Df μ (upd2 μ 92 i v) := fun x _ _ _ _ q => upd2_ne q
theorem Rr.df (h : Rr kd wd n BE CE g μ) (hD : Df μ ν) : Rr kd wd n BE CE g ν := h.same (hD 81 (by omega) (by omega) (by omega) (by omega) (by omega)) (hD 82 (by omega) (by omega) (by omega) (by omega) (by omega))
theorem TM.dk {p w : Nat → Nat} (h : TM kd n p w μ) (hD : Dk μ ν) : TM kd n p w ν := fun c hc => by rw [hD 92 (by omega) (by omega) (by omega) (by omega)]; exact h c hc
/-- the first round: what is there -/
theorem fewest1 {toWish : Bool} {b t : Nat} (h : Rr kd wd n BE CE g μ) (ht : if toWish = true then Wi kd n t μ else t = g) : Ok (loopN (fun s => fX12_fewest_b2 toWish (b : Int) s.1 s.2) FU (0, μ)) (fun ν => Df μ ν ∧ TM kd n (fun c => if c = t then 1 else 0) (fun c => if c = t then 1 else 0) ν) := by
  have hN := NN_le (kd := kd) h.1.1
  refine loop_FU (NN kd n) (fun (i : Nat) (s : Int × Mem) => s.1 = (i : Int) ∧ Df μ s.2 ∧ ∀ c, c < NN kd n → nu kd n c < i → s.2 92 (nu kd n c) = (if c = t then 4097 else 0)) 0 ⟨rfl, Df.rf, fun c _ hx => absurd hx (by omega)⟩ (by omega) (by omega) ?_ ?_
  · rintro i ⟨a, θ⟩ hi ⟨e1, hD, hT⟩
    dsimp only at e1 hD hT ⊢
    subst e1
    obtain ⟨c, hc, rfl⟩ := nu_all h.1.1 hi
    have hR := h.df hD
    unfold fX12_fewest_b2
    rw [hR.stk, Option.bind_some, w32_n (a := nu kd n c) (by omega), w32_n (a := NN kd n) (by omega), if_pos (by omega)]
    refine Ok.then (hR.lay hc) ?_
    rintro θ1 ⟨hL1, hD1⟩
    have hR1 := hR.dk hD1
    have fin : ∀ v : Int, v = (if c = t then 4097 else 0) → Ok (some (Sum.inl ((nu kd n c : Int) + 1, upd2 θ1 92 (nu kd n c) v) : (Int × Mem) ⊕ Mem)) (Sum.elim (fun s => s.1 = ((nu kd n c + 1 : Nat) : Int) ∧ Df μ s.2 ∧ ∀ c', c' < NN kd n → nu kd n c' < nu kd n c + 1 → s.2 92 (nu kd n c') = (if c' = t then 4097 else 0)) (fun ν => Df μ ν ∧ TM kd n (fun c => if c = t then 1 else 0) (fun c => if c = t then 1 else 0) ν)) := fun v hv => by
      rw [Ok_some]
      refine ⟨by push_cast; rfl, (hD.tr hD1.df).tr Df.put, fun c' hc' hl => ?_⟩
      dsimp only
      rw [upd2_self]
      by_cases e : nu kd n c' = nu kd n c
      · have := nu_inj h.1.1 hc' hc e
        subst this
        rw [if_pos rfl, hv]
      · rw [if_neg e, hD1 92 (by omega) (by omega) (by omega) (by omega)]
        exact hT c' hc' (by omega)
    simp only [lt]
    cases toWish
    · rw [if_neg (by decide)] at ht ⊢
      subst ht
      rw [hR1.srv hc hL1, Option.bind_some, gd_pos (by omega), Int.toNat_natCast]
      exact fin _ (by by_cases e : c = t <;> simp [e])
    · rw [if_pos rfl] at ht ⊢
      rw [wished_r h.1.1 hR1.2.1 hc (ht.same ((hD.tr hD1.df) 85 (by omega) (by omega) (by omega) (by omega) (by omega))) hL1, Option.bind_some, gd_pos (by omega), Int.toNat_natCast]
      exact fin _ (by by_cases e : c = t <;> simp [e])
  · rintro ⟨a, θ⟩ ⟨e1, hD, hT⟩
    dsimp only at e1 hD hT ⊢
    subst e1
    have hR := h.df hD
    unfold fX12_fewest_b2
    rw [hR.stk, Option.bind_some, w32_n (a := NN kd n) (by omega), if_neg (by omega), Ok_some]
    refine ⟨hD, fun c hc => ?_⟩
    rw [hT c hc (nu_lt h.1.1 hc)]
    by_cases e : c = t <;> simp [e]
end FEW
