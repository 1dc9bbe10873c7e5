/-! ===== level 2: what is read off the least sums ===== -/
section BREAD
variable {N n goal : Nat} {tn : Nat → Nat → Nat} {op : Nat → Nat → Bool} {pr : Nat → Nat → Nat} {F : Nat → Int} {μ : Mem}
def nbB (tn : Nat → Nat → Nat) (op : Nat → Nat → Bool) (pr : Nat → Nat → Nat) (F : Nat → Int) (c m : Nat) : Bool := op c m && (decide (F (tn c m) ≠ -1) && decide (F (tn c m) + pr c m = F c))
def fbI (n : Nat) (tn : Nat → Nat → Nat) (op : Nat → Nat → Bool) (pr : Nat → Nat → Nat) (F : Nat → Int) (c : Nat) : Int := if 0 < F c then lst (nbB tn op pr F c) n 1 else -1
theorem fb_some {c : Nat} (hC : IsC N n tn op pr goal F) (hc : c < N) (h0 : 0 < F c) : ∃ m : Nat, fbI n tn op pr F c = m ∧ 1 ≤ m ∧ m ≤ n ∧ nbB tn op pr F c m = true := by
  unfold fbI
  rw [if_pos h0]
  rcases hC.2.2.2 c hc (by omega) with q | ⟨m, h1, h2, h3, h4, h5⟩
  · subst q; have := hC.2.1; omega
  · obtain ⟨j, g1, g2, g3, g4⟩ := lst_some (p := nbB tn op pr F c) (f := n) (m := 1) (i := m) h1 (by omega) (by unfold nbB; rw [h3]; simp [h4]; omega)
    exact ⟨j, g1, g2, by omega, g4⟩
theorem fb_less {c m : Nat} (hp : Gp N n goal tn pr) (hc : c < N) (h1 : 1 ≤ m) (h2 : m ≤ n) (h : nbB tn op pr F c m = true) : F (tn c m) + 1 ≤ F c ∧ F (tn c m) ≠ -1 := by
  unfold nbB at h
  simp only [Bool.and_eq_true, decide_eq_true_eq] at h
  have := (hp.2.2.2 c m hc h1 h2).2.2.1
  omega
/-- the i-th turn of the first cheapest row -/
def eB (n : Nat) (tn : Nat → Nat → Nat) (op : Nat → Nat → Bool) (pr : Nat → Nat → Nat) (F : Nat → Int) : Nat → Nat → Int
  | 0, c => fbI n tn op pr F c
  | i + 1, c => if 0 < F c then eB n tn op pr F i (tn c (fbI n tn op pr F c).toNat) else -1
theorem eB_done {i c : Nat} (h : ¬ 0 < F c) : eB n tn op pr F i c = -1 := by
  cases i with
  | zero => unfold eB fbI; rw [if_neg h]
  | succ i => rw [eB, if_neg h]
/-- a cheapest row's sums get less at each turn: no stack comes twice, so it has fewer turns than there are stacks -/
theorem eB_short (hp : Gp N n goal tn pr) (hC : IsC N n tn op pr goal F) : ∀ (i c : Nat), c < N → eB n tn op pr F i c ≠ -1 → i < cn N (fun d => decide (0 < F d) && decide (F d ≤ F c)) := by
  intro i
  induction i with
  | zero =>
    intro c hc h
    by_cases h0 : 0 < F c
    · exact cn_pos.mpr ⟨c, hc, by rw [decide_eq_true h0, decide_eq_true (show F c ≤ F c by omega)]; rfl⟩
    · exact absurd (eB_done h0) h
  | succ i ih =>
    intro c hc h
    by_cases h0 : 0 < F c
    · obtain ⟨m, f1, f2, f3, f4⟩ := fb_some hC hc h0
      obtain ⟨l1, l2⟩ := fb_less hp hc f2 f3 f4
      have hd := (hp.2.2.2 c m hc f2 f3).1
      rw [eB, if_pos h0, f1, Int.toNat_natCast] at h
      have h1 := ih (tn c m) hd h
      have h2 : cn N (fun d => decide (0 < F d) && decide (F d ≤ F (tn c m))) + 1 ≤ cn N (fun d => decide (0 < F d) && decide (F d ≤ F c)) := by
        refine cn_lt hc ?_ ?_ ?_
        · rw [decide_eq_false (show ¬ F c ≤ F (tn c m) by omega), Bool.and_false]
        · rw [decide_eq_true h0, decide_eq_true (show F c ≤ F c by omega)]; rfl
        · intro d _ hd2
          rw [Bool.and_eq_true, decide_eq_true_eq, decide_eq_true_eq] at hd2
          rw [decide_eq_true hd2.1, decide_eq_true (show F d ≤ F c by omega)]; rfl
      omega
    · exact absurd (eB_done h0) h
theorem eB_far {i c : Nat} (hp : Gp N n goal tn pr) (hC : IsC N n tn op pr goal F) (hc : c < N) (hi : 3840 ≤ i) : eB n tn op pr F i c = -1 := by
  by_cases h : eB n tn op pr F i c = -1
  · exact h
  · have h1 := eB_short hp hC i c hc h
    have h2 : cn N (fun d => decide (0 < F d) && decide (F d ≤ F c)) ≤ N := cn_le
    have hN := hp.2.1
    omega
/-- the class's row is F -/
def Br (N : Nat) (F : Nat → Int) (μ : Mem) : Prop := ∀ c, c < N → μ 54 c = F c
theorem br_at {c : Nat} (hN : N ≤ 3840) (h : Br N F μ) (hc : c < N) : fX11_at 54 (c : Int) μ = F c := by
  rw [at_n c rfl (L := 3840) rfl (by omega) (by omega)]; exact h c hc
theorem mostSum_ok (hp : Gp N n goal tn pr) (hg : Gr N n goal tn op pr μ) (h : Br N F μ) (hC : IsC N n tn op pr goal F) : fX0_mostSum μ = some (mx N (fun c => (F c).toNat) : Int) := by
  have hN := hp.2.1
  have hmb : ∀ i, i ≤ N → mx i (fun c => (F c).toNat) ≤ 34560 := fun i hi => mx_le (fun j hj => by have := (hC.1 j (by omega)).2; omega)
  apply Ok_val
  unfold fX0_mostSum
  refine Ok.bind ?_
  refine loop_FU N (fun (i : Nat) (s : Int × Int) => s.1 = ((mx i (fun c => (F c).toNat) : Nat) : Int) ∧ s.2 = (i : Int)) 0 ⟨rfl, rfl⟩ (by omega) (by omega) ?_ ?_
  · rintro i ⟨x, y⟩ hi ⟨e1, e2⟩
    dsimp only at e1 e2 ⊢
    subst e1 e2
    have hb := hC.1 i hi
    have hm := hmb i (by omega)
    unfold fX0_mostSum_b4
    simp only [lt]
    rw [hg.2.2.1, w32_n (a := i) (by omega), w32_n (a := N) (by omega), if_pos (by omega), br_at hN h hi, imax_n (by omega) (by omega), Ok_some]
    refine ⟨?_, by push_cast; rfl⟩
    dsimp only
    rw [mx]
    omega
  · rintro ⟨x, y⟩ ⟨e1, e2⟩
    dsimp only at e1 e2 ⊢
    subst e1 e2
    unfold fX0_mostSum_b4
    rw [hg.2.2.1, w32_n (a := N) (by omega), if_neg (by omega), Ok_some]
    show Ok _ _
    rw [Ok_some]
theorem bfirst_ok {c : Nat} (hp : Gp N n goal tn pr) (hg : Gr N n goal tn op pr μ) (h : Br N F μ) (hC : IsC N n tn op pr goal F) (hc : c < N) : fX0_firstTurn (c : Int) μ = some (fbI n tn op pr F c) := by
  have hN := hp.2.1
  have hn := hp.1
  have b1 := hC.1 c hc
  apply Ok_val
  unfold fX0_firstTurn
  simp only [lt]
  rw [br_at hN h hc]
  refine Ok.imp (loop_F (T := Nat × Nat) (fun t => ((t.2 : Nat) : Int)) (fun t => t.1) (fun t => t.1 + t.2 = n + 1 ∧ 1 ≤ t.2) (fun t r => r = if 0 < F c then lst (nbB tn op pr F c) t.1 t.2 else -1) (n, 1) ⟨rfl, Nat.le_refl _⟩ (by show n < _; omega) ?_) (fun r hr => hr)
  rintro ⟨x, m⟩ ⟨hi, hm1⟩
  dsimp only at hi hm1 ⊢
  unfold fX0_firstTurn_b11
  rw [w32_eq (x := F c) (by omega) (by omega)]
  by_cases h0 : 0 < F c
  · rw [if_neg (by omega)]
    simp only [if_pos h0]
    rw [hg.1, w32_n (a := m) (by omega), w32_n (a := n) (by omega)]
    cases x with
    | zero =>
      rw [if_neg (by omega), Ok_some]
      rfl
    | succ x =>
      obtain ⟨t1, t2, t3⟩ := hg.2.2.2 c m hc hm1 (by omega)
      obtain ⟨hd, -, -, -⟩ := hp.2.2.2 c m hc hm1 (by omega)
      have hp9 := (hp.2.2.2 c m hc hm1 (by omega)).2.2.2
      have b2 := hC.1 _ hd
      rw [if_pos (by omega), t1, t2, t3, br_at hN h hd]
      simp only [lt]
      rw [w32_eq (x := F (tn c m)) (by omega) (by omega), w32_m1, w32_eq (x := F (tn c m) + (pr c m : Int)) (by omega) (by omega)]
      have key : ∀ o : Option (Int ⊕ Int), (nbB tn op pr F c m = true → o = some (.inr (m : Int))) → (nbB tn op pr F c m = false → o = some (.inl ((m : Int) + 1))) → Ok o (Sum.elim (fun s => ∃ t' : Nat × Nat, s = ((t'.2 : Nat) : Int) ∧ (t'.1 + t'.2 = n + 1 ∧ 1 ≤ t'.2) ∧ t'.1 < x + 1 ∧ ∀ r : Int, (r = lst (nbB tn op pr F c) t'.1 t'.2) → r = lst (nbB tn op pr F c) (x + 1) m) (fun r => r = lst (nbB tn op pr F c) (x + 1) m)) := fun o h1 h2 => by
        cases hb : nbB tn op pr F c m
        · rw [h2 hb, Ok_some]
          refine ⟨(x, m + 1), by push_cast; rfl, ⟨by dsimp only; omega, by dsimp only; omega⟩, by dsimp only; omega, fun r hr => ?_⟩
          rw [lst, hb, if_neg (by decide)]; exact hr
        · rw [h1 hb, Ok_some]
          show _ = lst _ _ _
          rw [lst, hb, if_pos rfl]
      refine key _ (fun hb => ?_) (fun hb => ?_)
      · unfold nbB at hb
        simp only [Bool.and_eq_true, decide_eq_true_eq] at hb
        rw [if_neg hb.2.1, if_pos hb.2.2, if_pos rfl, if_pos hb.1]
      · unfold nbB at hb
        by_cases q1 : F (tn c m) = -1
        · rw [if_pos q1, if_neg (by decide)]
        · rw [if_neg q1]
          by_cases q2 : F (tn c m) + (pr c m : Int) = F c
          · rw [if_pos q2, if_pos rfl]
            have : op c m = false := by simpa [q1, q2] using hb
            rw [this, if_neg (by decide)]
          · rw [if_neg q2, if_neg (by decide)]
  · rw [if_pos (by omega), Ok_some]
    simp only [if_neg h0]
    rfl
theorem bwalk_ok {c i : Nat} (hi : i < 2147483648) (hp : Gp N n goal tn pr) (hg : Gr N n goal tn op pr μ) (h : Br N F μ) (hC : IsC N n tn op pr goal F) (hc : c < N) : Ok (loopN (fun s => fX11_bill_b30 (i : Int) s.1 s.2.1 s.2.2) FU ((c : Int), 0, μ)) (fun o => o.2 = μ ∧ ∃ d : Nat, o.1 = d ∧ d < N ∧ fbI n tn op pr F d = eB n tn op pr F i c) := by
  have hN := hp.2.1
  have hn := hp.1
  refine loop_F (T := Nat × Nat) (fun t => (((t.1 : Nat) : Int), ((t.2 : Nat) : Int), μ)) (fun t => (F t.1).toNat) (fun t => t.1 < N ∧ t.2 ≤ i) (fun t (o : Int × Mem) => o.2 = μ ∧ ∃ d : Nat, o.1 = d ∧ d < N ∧ fbI n tn op pr F d = eB n tn op pr F (i - t.2) t.1) (c, 0) ⟨hc, Nat.zero_le _⟩ (by show (F c).toNat < _; have := hC.1 c hc; omega) ?_
  rintro ⟨d, j⟩ ⟨hd, hj⟩
  dsimp only at hd hj ⊢
  have b1 := hC.1 d hd
  unfold fX11_bill_b30
  rw [w32_n (a := j) (by omega), w32_n (a := i) (by omega), br_at hN h hd, w32_eq (x := F d) (by omega) (by omega)]
  by_cases hji : j < i
  · rw [if_pos (by omega)]
    by_cases h0 : 0 < F d
    · obtain ⟨m, f1, f2, f3, f4⟩ := fb_some hC hd h0
      obtain ⟨l1, l2⟩ := fb_less hp hd f2 f3 f4
      obtain ⟨t1, -, -⟩ := hg.2.2.2 d m hd f2 f3
      obtain ⟨hd2, -, -, -⟩ := hp.2.2.2 d m hd f2 f3
      have b2 := hC.1 _ hd2
      rw [if_neg (by omega), bfirst_ok hp hg h hC hd, Option.bind_some]
      simp only [lt]
      rw [f1, t1, Ok_some]
      refine ⟨(tn d m, j + 1), by push_cast; rfl, ⟨hd2, by dsimp only; omega⟩, by dsimp only; omega, fun o ho => ?_⟩
      refine ⟨ho.1, ?_⟩
      obtain ⟨d', g1, g2, g3⟩ := ho.2
      refine ⟨d', g1, g2, ?_⟩
      dsimp only at g3
      rw [g3]
      have e1 : i - j = (i - (j + 1)) + 1 := by omega
      rw [e1, eB, if_pos h0, f1, Int.toNat_natCast]
    · rw [if_pos (by omega), Ok_some]
      refine ⟨rfl, d, rfl, hd, ?_⟩
      rw [eB_done h0]
      unfold fbI; rw [if_neg h0]
  · rw [if_neg (by omega), Ok_some]
    refine ⟨rfl, d, rfl, hd, ?_⟩
    have : i - j = 0 := by omega
    rw [this]; rfl
end BREAD
section BREADR
variable {n g : Nat} {kd wd : Nat → Nat} {BE CE : LawF} {μ ν : Mem} {c : Nat} {F : Nat → Int}
theorem TC.dl (h : TC kd n F μ) (hD : Dl μ ν) : TC kd n F ν := fun c hc => by rw [hD 92 (by omega) (by omega) (by omega) (by omega) (by omega) (by omega)]; exact h c hc
/-- the reference's first turn of the cheapest row -/
theorem bnear_r {i0 a5 : Int} (h : Rr kd wd n BE CE g μ) (hT : TC kd n F μ) (hC : IsC (NN kd n) n (tnC kd n) (opC kd wd n BE) (prC kd wd n CE) g F) (hLd : Ld kd wd n BE CE 0 c μ) (hc : c < NN kd n) (h0 : 0 < F c) : loopN (fun s => fX12_bill_b56 i0 (nu kd n c : Int) a5 s.1 s.2.1 s.2.2) FU ((-1), (n : Int), μ) = some (fbI n (tnC kd n) (opC kd wd n BE) (prC kd wd n CE) F c, μ) := by
  have hn := h.1.1
  have hp := h.gp
  apply Ok_val
  refine Ok.imp (loop_I (Q := fun o : Int × Mem => o = (fbI n (tnC kd n) (opC kd wd n BE) (prC kd wd n CE) F c, μ)) _ (fun s : Int × Int × Mem => s.2.1.toNat) (fun s : Int × Int × Mem => ∃ m : Nat, s.2.1 = (m : Int) ∧ m ≤ n ∧ s.2.2 = μ ∧ s.1 = lst (nbB (tnC kd n) (opC kd wd n BE) (prC kd wd n CE) F c) (n - m) (m + 1)) ⟨n, rfl, by omega, rfl, by rw [Nat.sub_self]; rfl⟩ (by show (n : Int).toNat < _; omega) ?_) (fun _ q => q)
  rintro ⟨a, b', ρ⟩ ⟨m, e1, hm, e2, e3⟩
  dsimp only at e1 e2 e3 ⊢
  subst e1 e2 e3
  unfold fX12_bill_b56
  rw [w32_n (a := m) (by omega), w32_1]
  by_cases hm0 : m = 0
  · subst hm0
    rw [if_pos (by omega), Ok_some]
    show _ = _
    unfold fbI
    rw [if_pos h0]
    rfl
  · have hnext : ∀ v : Int, v = lst (nbB (tnC kd n) (opC kd wd n BE) (prC kd wd n CE) F c) (n - (m - 1)) (m - 1 + 1) → Ok (some (Sum.inl (v, (m : Int) + (-1), ρ) : (Int × Int × Mem) ⊕ (Int × Mem))) (Sum.elim (fun s2 => (∃ m : Nat, s2.2.1 = (m : Int) ∧ m ≤ n ∧ s2.2.2 = ρ ∧ s2.1 = lst (nbB (tnC kd n) (opC kd wd n BE) (prC kd wd n CE) F c) (n - m) (m + 1)) ∧ s2.2.1.toNat < (m : Int).toNat) (fun o => o = (fbI n (tnC kd n) (opC kd wd n BE) (prC kd wd n CE) F c, ρ))) := fun v hv => by
      rw [Ok_some]
      exact ⟨⟨m - 1, by dsimp only; omega, by omega, rfl, hv⟩, by dsimp only; omega⟩
    have hL1 : n - (m - 1) = (n - m) + 1 := by omega
    have hL2 : m - 1 + 1 = m := by omega
    rw [hL1, hL2] at hnext
    obtain ⟨l1, l2⟩ := hLd m (by omega) hm
    obtain ⟨hd, -, hp1, hp9⟩ := hp.2.2.2 c m hc (by omega) hm
    obtain ⟨hnud, hN⟩ := h.nul hd
    obtain ⟨hnuc, -⟩ := h.nul hc
    have b1 := hC.1 c hc
    have b2 := hC.1 _ hd
    have hw0 : w64 0 = 0 := by decide
    rw [if_neg (by omega), gd_pos (by omega), Int.toNat_natCast, l1, l2]
    by_cases hop : opC kd wd n BE c m = true
    · have e5 : (decide (m ≠ 0) && opC kd wd n BE c m) = true := by rw [hop]; simp [hm0]
      rw [if_pos e5, w32_n (a := nu kd n (tnC kd n c m)) (by omega), if_neg (by omega), gd_pos (by omega), gd_pos (by omega), Int.toNat_natCast, hT _ hd, w64_s (x := F (tnC kd n c m) + 1) (by omega) (by omega), hw0]
      by_cases q1 : F (tnC kd n c m) = -1
      · rw [if_pos (by omega)]
        exact hnext _ (by rw [lst, if_neg (by unfold nbB; simp [q1])])
      · rw [if_neg (by omega), gd_pos (by omega), gd_pos (by omega), gd_pos (by omega), w32_n (a := nu kd n c) (by omega), gd_pos (by omega), Int.toNat_natCast, hT c hc, w32_n (by omega), w64_s (x := F (tnC kd n c m) + 1 + (prC kd wd n CE c m : Int)) (by omega) (by omega), w64_s (x := F c + 1) (by omega) (by omega)]
        simp only [lt]
        refine hnext _ ?_
        rw [lst]
        unfold nbB
        by_cases q2 : F (tnC kd n c m) + (prC kd wd n CE c m : Int) = F c
        · rw [if_pos (by omega), if_pos (by simp [hop, q1, q2])]
        · rw [if_neg (by omega), if_neg (by simp [q2])]
    · have e5 : ¬ (decide (m ≠ 0) && opC kd wd n BE c m) = true := by simp [hop]
      rw [if_neg e5, if_pos (by decide)]
      exact hnext _ (by rw [lst, if_neg (by unfold nbB; simp [hop])])
theorem bwalk_r {i : Nat} (hi : i < 2147483648) (h : Rr kd wd n BE CE g μ) (hT : TC kd n F μ) (hC : IsC (NN kd n) n (tnC kd n) (opC kd wd n BE) (prC kd wd n CE) g F) (hc : c < NN kd n) : Ok (loopN (fun s => fX12_bill_b21 (i : Int) s.1 s.2.1 s.2.2.1 s.2.2.2) FU ((nu kd n c : Int), (-1), 0, μ)) (fun o => o.1 = eB n (tnC kd n) (opC kd wd n BE) (prC kd wd n CE) F i c ∧ Dl μ o.2) := by
  have hn := h.1.1
  have hp := h.gp
  have hN := NN_le (kd := kd) hn
  refine loop_I (Q := fun o : Int × Mem => o.1 = eB n (tnC kd n) (opC kd wd n BE) (prC kd wd n CE) F i c ∧ Dl μ o.2) _ (fun s : Int × Int × Int × Mem => 40000 - s.2.2.1.toNat) (fun s : Int × Int × Int × Mem => ∃ j : Nat, s.2.2.1 = (j : Int) ∧ j ≤ i + 1 ∧ j ≤ 34562 ∧ Dl μ s.2.2.2 ∧ ((∃ d : Nat, s.1 = (nu kd n d : Int) ∧ d < NN kd n ∧ (j : Int) + F d ≤ 34560 ∧ j ≤ i ∧ eB n (tnC kd n) (opC kd wd n BE) (prC kd wd n CE) F (i - j) d = eB n (tnC kd n) (opC kd wd n BE) (prC kd wd n CE) F i c) ∨ (j = i + 1 ∧ s.2.1 = eB n (tnC kd n) (opC kd wd n BE) (prC kd wd n CE) F i c))) ⟨0, rfl, by omega, by omega, Dl.rf, Or.inl ⟨c, rfl, hc, by have := hC.1 c hc; omega, by omega, rfl⟩⟩ (by show 40000 - _ < _; omega) ?_
  rintro ⟨a, b, cc, ρ⟩ ⟨j, e1, hj, hj2, hD, hcase⟩
  dsimp only at e1 hD hcase ⊢
  subst e1
  unfold fX12_bill_b21
  rw [w32_n (a := j) (by omega), w32_n (a := i) (by omega)]
  rcases hcase with ⟨d, e2, hd, hFj, hji, hE⟩ | ⟨e2, e3⟩
  · subst e2
    have hR := h.dl hD
    have hTρ := hT.dl hD
    obtain ⟨hnud, -⟩ := hR.nul hd
    have b1 := hC.1 d hd
    have hw2 : w64 2 = 2 := by decide
    rw [if_pos (by omega), w32_n (a := nu kd n d) (by omega), gd_pos (by omega), Int.toNat_natCast, hTρ d hd, w64_s (x := F d + 1) (by omega) (by omega), hw2]
    by_cases h0 : 0 < F d
    · obtain ⟨m, f1, f2, f3, f4⟩ := fb_some hC hd h0
      obtain ⟨l1, l2⟩ := fb_less hp hd f2 f3 f4
      obtain ⟨hd2, -, -, -⟩ := hp.2.2.2 d m hd f2 f3
      rw [if_neg (by omega)]
      refine Ok.then (leads_r (b := 0) (by omega) hR hd) ?_
      rintro θ ⟨hDθ, hLd⟩
      have hRθ := hR.dl hDθ
      simp only [lt]
      rw [hRθ.2.1.1, bnear_r hRθ (hTρ.dl hDθ) hC hLd hd h0, Option.bind_some]
      dsimp only
      have hop : opC kd wd n BE d m = true := by
        unfold nbB at f4
        simp only [Bool.and_eq_true] at f4
        exact f4.1
      have e5 : (decide (m ≠ 0) && opC kd wd n BE d m) = true := by rw [hop]; simp; omega
      rw [f1, w32_n (a := m) (by omega), gd_pos (by omega), Int.toNat_natCast, (hLd m f2 f3).1, if_pos e5, Ok_some]
      refine ⟨⟨j + 1, by push_cast; rfl, by omega, by omega, hD.tr hDθ, ?_⟩, by dsimp only; omega⟩
      by_cases hl : j = i
      · refine Or.inr ⟨by omega, ?_⟩
        dsimp only
        rw [← hE, hl, Nat.sub_self, eB, f1]
      · refine Or.inl ⟨tnC kd n d m, rfl, hd2, by omega, by omega, ?_⟩
        rw [← hE]
        have e1 : i - j = (i - (j + 1)) + 1 := by omega
        rw [e1, eB, if_pos h0, f1, Int.toNat_natCast]
    · rw [if_pos (by omega), Ok_some]
      refine ⟨?_, hD⟩
      dsimp only
      rw [← hE, eB_done h0]
  · rw [if_neg (by omega), Ok_some]
    exact ⟨e3, hD⟩
theorem dear_r (h : Rr kd wd n BE CE g μ) (hT : TC kd n F μ) (hC : IsC (NN kd n) n (tnC kd n) (opC kd wd n BE) (prC kd wd n CE) g F) : loopN (fun s => fX12_dear_b13 s.1 s.2.1 s.2.2) FU (0, 0, μ) = some (((mx (NN kd n) (fun c => (F c + 1).toNat) : Nat) : Int), μ) := by
  have hn := h.1.1
  have hN := NN_le (kd := kd) hn
  apply Ok_val
  rw [← mx_ui hn]
  have hmb : ∀ i, i ≤ NN kd n → mx i (fun i => (F (ui kd n i) + 1).toNat) ≤ 34561 := fun i hi => mx_le (fun j hj => by
    obtain ⟨d, hd, rfl⟩ := nu_all hn (q := j) (kd := kd) (by omega)
    rw [ui_nu hn hd]
    have := (hC.1 d hd).2; omega)
  refine loop_FU (NN kd n) (fun (i : Nat) (s : Int × Int × Mem) => s.1 = ((mx i (fun i => (F (ui kd n i) + 1).toNat) : Nat) : Int) ∧ s.2.1 = (i : Int) ∧ s.2.2 = μ) 0 ⟨rfl, rfl, rfl⟩ (by omega) (by omega) ?_ ?_
  · rintro i ⟨x, y, θ⟩ hi ⟨e1, e2, e3⟩
    dsimp only at e1 e2 e3 ⊢
    subst e1 e2 e3
    have hm := hmb i (by omega)
    obtain ⟨d, hd, rfl⟩ := nu_all hn hi
    have b1 := hC.1 d hd
    unfold fX12_dear_b13
    simp only [lt]
    rw [h.stk, Option.bind_some, w32_n (a := nu kd n d) (by omega), w32_n (a := NN kd n) (by omega), if_pos (by omega), gd_pos (by omega), gd_pos (by omega), Int.toNat_natCast, hT d hd, w64_s (x := F d + 1) (by omega) (by omega), w64_nn (by omega)]
    have hmx : mx (nu kd n d + 1) (fun i => (F (ui kd n i) + 1).toNat) = max (mx (nu kd n d) (fun i => (F (ui kd n i) + 1).toNat)) (F d + 1).toNat := by
      rw [mx, ui_nu hn hd]
    by_cases q : F d + 1 ≤ (mx (nu kd n d) (fun i => (F (ui kd n i) + 1).toNat) : Int)
    · rw [if_pos q, Ok_some]
      refine ⟨?_, by push_cast; rfl, rfl⟩
      dsimp only
      rw [hmx]; omega
    · rw [if_neg q, Ok_some]
      refine ⟨?_, by push_cast; rfl, rfl⟩
      dsimp only
      rw [hmx]; omega
  · rintro ⟨x, y, θ⟩ ⟨e1, e2, e3⟩
    dsimp only at e1 e2 e3 ⊢
    subst e1 e2 e3
    unfold fX12_dear_b13
    rw [h.stk, Option.bind_some, w32_n (a := NN kd n) (by omega), if_neg (by omega), Ok_some]
    rfl
end BREADR
