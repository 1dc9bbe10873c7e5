/-! ===== level 2: who wins, and his best turn ===== -/
section WINS
variable {N n goal : Nat} {tn : Nat → Nat → Nat} {op : Nat → Nat → Bool} {pr : Nat → Nat → Nat} {e : Nat → Int} {μ : Mem} {c : Nat}
/-- the turn that keeps the win, or puts the loss off -/
def bxB (tn : Nat → Nat → Nat) (op : Nat → Nat → Bool) (e : Nat → Int) (c m : Nat) : Bool := op c m && decide (e (tn c m) = if e c = -1 then -1 else e c - 1)
def btI (n : Nat) (tn : Nat → Nat → Nat) (op : Nat → Nat → Bool) (e : Nat → Int) (c : Nat) : Int := if e c = 0 then -1 else lst (bxB tn op e c) n 1
def wnI (x : Int) : Int := if x = -1 then 2 else x % 2
theorem btI_congr {e' : Nat → Int} (hp : Gp N n goal tn pr) (h : ∀ c, c < N → e c = e' c) (hc : c < N) : btI n tn op e c = btI n tn op e' c := by
  unfold btI
  rw [h c hc, lst_congr (fun m h1 h2 => ?_)]
  unfold bxB
  rw [h c hc, h _ (hp.2.2.2 c m hc h1 (by omega)).1]
theorem winnerOf_ok (hN : N ≤ 3840) (h : IsK N n tn op goal e) (hT : ∀ c, c < N → μ 56 c = e c) (hc : c < N) : fX1_winnerOf (c : Int) μ = wnI (e c) := by
  have b := h.1 c hc
  unfold fX1_winnerOf wnI
  simp only [lt]
  rw [at_n c rfl (L := 3840) rfl (by omega) (by omega), hT c hc, w32_eq (x := e c) (by omega) (by omega), w32_m1]
  by_cases q : e c = -1
  · rw [if_pos q, if_pos q]
  · rw [if_neg q, if_neg q]
    obtain ⟨a, ha⟩ : ∃ a : Nat, e c = a := ⟨(e c).toNat, by omega⟩
    rw [ha]
    have := i_rem_n (a := a) (b := 2) (by omega) (by omega)
    rw [show ((2 : Nat) : Int) = 2 from rfl] at this
    rw [this]; omega
theorem bestTurn_ok (hp : Gp N n goal tn pr) (hg : Gr N n goal tn op pr μ) (h : IsK N n tn op goal e) (hT : ∀ c, c < N → μ 56 c = e c) (hc : c < N) : fX1_bestTurn (c : Int) μ = some (btI n tn op e c) := by
  have hN := hp.2.1
  have hn := hp.1
  have b := h.1 c hc
  have hat : ∀ d, d < N → fX11_at 56 (d : Int) μ = e d := fun d hd => by
    rw [at_n d rfl (L := 3840) rfl (by omega) (by omega)]; exact hT d hd
  apply Ok_val
  unfold fX1_bestTurn
  simp only [lt]
  rw [hat c hc, w32_eq (x := e c) (by omega) (by omega), w32_m1]
  refine Ok.imp (loop_F (T := Nat × Nat) (fun t => ((t.2 : Nat) : Int)) (fun t => t.1) (fun t => t.1 + t.2 = n + 1 ∧ 1 ≤ t.2) (fun t r => r = if e c = 0 then -1 else lst (bxB tn op e c) t.1 t.2) (n, 1) ⟨rfl, Nat.le_refl _⟩ (by show n < _; omega) ?_) (fun r hr => hr)
  rintro ⟨x, m⟩ ⟨hi, hm1⟩
  dsimp only at hi hm1 ⊢
  unfold fX1_bestTurn_b25
  rw [w32_eq (x := e c) (by omega) (by omega)]
  by_cases h0 : e c = 0
  · rw [if_pos h0, Ok_some]
    simp only [if_pos h0]
    rfl
  · rw [if_neg h0]
    simp only [if_neg h0]
    rw [hg.1, w32_n (a := m) (by omega), w32_n (a := n) (by omega)]
    cases x with
    | zero =>
      rw [if_neg (by omega), Ok_some]
      rfl
    | succ x =>
      obtain ⟨h1, h2, -⟩ := hg.2.2.2 c m hc hm1 (by omega)
      obtain ⟨hd, -, -, -⟩ := hp.2.2.2 c m hc hm1 (by omega)
      have bd := h.1 _ hd
      rw [if_pos (by omega), lst]
      have hnx : bxB tn op e c m = false → Ok (some (Sum.inl ((m : Int) + 1) : Int ⊕ Int)) (Sum.elim (fun s2 => ∃ t' : Nat × Nat, s2 = ((t'.2 : Nat) : Int) ∧ (t'.1 + t'.2 = n + 1 ∧ 1 ≤ t'.2) ∧ t'.1 < x + 1 ∧ ∀ r : Int, (r = lst (bxB tn op e c) t'.1 t'.2) → r = if bxB tn op e c m = true then (m : Int) else lst (bxB tn op e c) x (m + 1)) (fun r => r = if bxB tn op e c m = true then (m : Int) else lst (bxB tn op e c) x (m + 1))) := fun hx => by
        rw [Ok_some]
        refine ⟨(x, m + 1), by push_cast; rfl, ⟨by dsimp only; omega, by dsimp only; omega⟩, by dsimp only; omega, fun r hr => ?_⟩
        rw [hx, if_neg (by decide)]; exact hr
      rw [h2]
      by_cases ho : op c m = true
      · rw [if_pos ho, h1]
        simp only [lt]
        rw [hat _ hd, w32_eq (x := e (tn c m)) (by omega) (by omega), w32_eq (x := if e c = -1 then -1 else e c - 1) (by split <;> omega) (by split <;> omega)]
        by_cases q : e (tn c m) = if e c = -1 then -1 else e c - 1
        · have hb : bxB tn op e c m = true := by unfold bxB; rw [ho, decide_eq_true q]; rfl
          rw [if_pos q, Ok_some]
          dsimp only [Sum.elim]
          rw [if_pos hb]
        · rw [if_neg q]
          exact hnx (by unfold bxB; rw [decide_eq_false q]; simp)
      · rw [if_neg ho]
        exact hnx (by unfold bxB; simp [ho])
end WINS
section WINSR
variable {n g : Nat} {kd wd : Nat → Nat} {BE CE : LawF} {μ ν : Mem} {c : Nat} {e : Nat → Int}
/-- how the code of a turn is looked for -/
theorem kc_best {x y : Int} (hx : -1 ≤ x ∧ x < 4000) (hx0 : x ≠ 0) (hy : -1 ≤ y ∧ y < 4000) : (if w64 (kc x) = w64 0 then (if w64 (kc y) = w64 0 then true else false) else if w64 (l_rem (kc x) 2) = w64 1 then (if w64 (kc y) = w64 ((kc x - 2) + (-1)) then true else false) else (if w64 (kc y) = w64 ((kc x - 2) + 1) then true else false)) = decide (y = if x = -1 then -1 else x - 1) := by
  have hw0 : w64 0 = 0 := by decide
  have hw1 : w64 1 = 1 := by decide
  obtain ⟨x0, x1, x2⟩ := kc_b hx
  obtain ⟨y0, y1, y2⟩ := kc_b hy
  obtain ⟨a, ha⟩ : ∃ a : Nat, kc x = a := ⟨(kc x).toNat, by omega⟩
  have e2 : (2 : Int) = ((2 : Nat) : Int) := rfl
  have hr : l_rem (kc x) 2 = ((a % 2 : Nat) : Int) := by rw [ha, e2, l_rem_n (by omega) (by omega)]
  have dd : ∀ (p q : Prop) [Decidable p] [Decidable q], (p ↔ q) → (if p then true else false) = decide q := fun p q _ _ hpq => by
    by_cases k : p
    · rw [if_pos k, decide_eq_true (hpq.mp k)]
    · rw [if_neg k, decide_eq_false (fun r => k (hpq.mpr r))]
  rw [hr, hw0, hw1, w64_s (x := kc x) (by omega) (by omega), w64_s (x := kc y) (by omega) (by omega), w64_s (x := ((a % 2 : Nat) : Int)) (by omega) (by omega), w64_s (x := kc x - 2 + (-1)) (by omega) (by omega), w64_s (x := kc x - 2 + 1) (by omega) (by omega)]
  by_cases q : x = -1
  · rw [if_pos (x2.mpr q)]
    refine dd _ _ ?_
    rw [if_pos q]; exact y2
  · rw [if_neg (fun k => q (x2.mp k))]
    unfold kc at ha
    rw [if_neg q] at ha
    have hkx : kc x = 2 * (x + 1) + x % 2 := by unfold kc; rw [if_neg q]
    have hky : kc y = if y = -1 then 0 else 2 * (y + 1) + y % 2 := rfl
    by_cases k : ((a % 2 : Nat) : Int) = 1
    · rw [if_pos k]
      refine dd _ _ ?_
      rw [if_neg q, hkx, hky]
      split <;> omega
    · rw [if_neg k]
      refine dd _ _ ?_
      rw [if_neg q, hkx, hky]
      split <;> omega
theorem his_r (h : Rr kd wd n BE CE g μ) (hT : TK kd n e μ) (hK : IsK (NN kd n) n (tnC kd n) (opC kd wd n BE) g e) (hLd : Ld kd wd n BE CE 0 c μ) (hc : c < NN kd n) (hcg : c ≠ g) :
    loopN (fun s => fX12_his_b52 (kc (e c)) s.1 s.2.1 s.2.2) FU (-1, (n : Int), μ) = some (btI n (tnC kd n) (opC kd wd n BE) e c, μ) := by
  have hn := h.1.1
  have hp := h.gp
  have hb := hK.1 c hc
  apply Ok_val
  refine loop_I (Q := fun o : Int × Mem => o = (btI n (tnC kd n) (opC kd wd n BE) e c, μ)) _ (fun s : Int × Int × Mem => s.2.1.toNat) (fun s : Int × Int × Mem => ∃ m : Nat, s.2.1 = (m : Int) ∧ m ≤ n ∧ s.2.2 = μ ∧ s.1 = lst (bxB (tnC kd n) (opC kd wd n BE) e c) (n - m) (m + 1)) ⟨n, rfl, by omega, rfl, ?_⟩ (by show (n : Int).toNat < _; omega) ?_
  · rw [Nat.sub_self]; rfl
  · rintro ⟨a, b', ρ⟩ ⟨m, e1, hm, e2, e3⟩
    dsimp only at e1 e2 e3 ⊢
    subst e1 e2 e3
    unfold fX12_his_b52
    rw [w32_n (a := m) (by omega), w32_1]
    by_cases hm0 : m = 0
    · subst hm0
      rw [if_pos (by omega), Ok_some]
      dsimp only [Sum.elim]
      unfold btI
      by_cases h0 : e c = 0
      · rw [if_pos h0, lst_none (fun i h1 h2 => ?_)]
        unfold bxB
        rcases endB_iff.mp ((hK.2.1 c hc).mp h0) with k | k
        · exact absurd k hcg
        · rw [k i h1 (by omega)]; rfl
      · rw [if_neg h0]; rfl
    · rw [if_neg (by omega)]
      have hnext : ∀ v : Int, v = lst (bxB (tnC kd n) (opC kd wd n BE) e c) (n - (m - 1)) (m - 1 + 1) → Ok (some (Sum.inl (v, (m : Int) + (-1), ρ) : (Int × Int × Mem) ⊕ (Int × Mem))) (Sum.elim (fun s2 => (∃ m : Nat, s2.2.1 = (m : Int) ∧ m ≤ n ∧ s2.2.2 = ρ ∧ s2.1 = lst (bxB (tnC kd n) (opC kd wd n BE) e c) (n - m) (m + 1)) ∧ s2.2.1.toNat < (m : Int).toNat) (fun o => o = (btI n (tnC kd n) (opC kd wd n BE) e c, ρ))) := fun v hv => by
        rw [Ok_some]
        exact ⟨⟨m - 1, by dsimp only; omega, by omega, rfl, hv⟩, by dsimp only; omega⟩
      have hL1 : n - (m - 1) = (n - m) + 1 := by omega
      have hL2 : m - 1 + 1 = m := by omega
      rw [hL1, hL2, lst] at hnext
      obtain ⟨l1, -⟩ := hLd m (by omega) hm
      obtain ⟨hd, -, -, -⟩ := hp.2.2.2 c m hc (by omega) hm
      obtain ⟨hnud, hN⟩ := h.nul hd
      rw [gd_pos (by omega), Int.toNat_natCast, l1]
      by_cases hop : opC kd wd n BE c m = true
      · have e5 : (decide (m ≠ 0) && opC kd wd n BE c m) = true := by rw [hop]; simp [hm0]
        have h0 : e c ≠ 0 := fun k => by
          rcases endB_iff.mp ((hK.2.1 c hc).mp k) with r | r
          · exact hcg r
          · rw [r m (by omega) hm] at hop; exact absurd hop (by decide)
        rw [if_pos e5, w32_n (a := nu kd n (tnC kd n c m)) (by omega), if_neg (by omega), gd_pos (by omega), gd_pos (by omega), Int.toNat_natCast, hT _ hd]
        unfold fX12_his_j86
        simp only [lt]
        rw [w32_n (a := m) (by omega), gd_pos (by omega), Int.toNat_natCast, l1, if_pos e5, w32_n (a := nu kd n (tnC kd n c m)) (by omega), if_neg (show ¬ ((nu kd n (tnC kd n c m) : Nat) : Int) < 0 by omega), kc_best hb h0 (hK.1 _ hd)]
        refine hnext _ ?_
        unfold bxB
        rw [hop, Bool.true_and]
      · have e5 : ¬ (decide (m ≠ 0) && opC kd wd n BE c m) = true := by simp [hop]
        rw [if_neg e5, if_pos (by decide)]
        unfold fX12_his_j86
        simp only [lt]
        rw [w32_n (a := m) (by omega), gd_pos (by omega), Int.toNat_natCast, l1, if_neg e5, if_pos (show w32 (-1) < 0 by decide), if_neg (show ¬ false = true by decide)]
        refine hnext _ ?_
        rw [if_neg (by unfold bxB; simp [hop])]
/-- what wins answers -/
theorem wins_v {x : Int} (hx : -1 ≤ x ∧ x < 4000) : (if w64 (kc x) = w64 0 then (2 : Int) else l_2i (l_rem (kc x) 2)) = wnI x ∧ (if w64 (kc x) = w64 0 then (-1 : Int) else l_2i (l_div (kc x) 2) - 1) = x := by
  have hw0 : w64 0 = 0 := by decide
  obtain ⟨x0, x1, x2⟩ := kc_b hx
  obtain ⟨a, ha⟩ : ∃ a : Nat, kc x = a := ⟨(kc x).toNat, by omega⟩
  have e2 : (2 : Int) = ((2 : Nat) : Int) := rfl
  have hr : l_rem (kc x) 2 = ((a % 2 : Nat) : Int) := by rw [ha, e2, l_rem_n (by omega) (by omega)]
  have hd : l_div (kc x) 2 = ((a / 2 : Nat) : Int) := by rw [ha, e2, l_div_n (by omega) (by omega)]
  rw [hr, hd, hw0, w64_s (x := kc x) (by omega) (by omega), l_2i_n (by omega), l_2i_n (by omega)]
  unfold wnI
  by_cases q : x = -1
  · rw [if_pos (x2.mpr q), if_pos (x2.mpr q), if_pos q]
    exact ⟨rfl, q.symm⟩
  · rw [if_neg (fun k => q (x2.mp k)), if_neg (fun k => q (x2.mp k)), if_neg q]
    unfold kc at ha
    rw [if_neg q] at ha
    omega
theorem hard_r {a : Int} {P W : Nat → Nat} (h : Rr kd wd n BE CE g μ) (hT : TM kd n P W μ) (hB : Tb2 kd n P W) : loopN (fun s => fX12_hard_b24 a s.1 s.2.1 s.2.2) FU (0, 0, μ) = some (((mx (NN kd n) (fun c => ((P c : Int) - 1).toNat) : Nat) : Int), μ) := by
  have hn := h.1.1
  have hN := NN_le (kd := kd) hn
  apply Ok_val
  rw [← mx_ui hn]
  have hmb : ∀ i, i ≤ NN kd n → mx i (fun i => ((P (ui kd n i) : Int) - 1).toNat) ≤ 4096 := fun i hi => mx_le (fun j hj => by
    obtain ⟨c, hc, rfl⟩ := nu_all (kd := kd) hn (show j < NN kd n by omega)
    rw [ui_nu hn hc]
    have := hB c hc
    omega)
  refine loop_FU (NN kd n) (fun (i : Nat) (s : Int × Int × Mem) => s.1 = ((mx i (fun i => ((P (ui kd n i) : Int) - 1).toNat) : Nat) : Int) ∧ s.2.1 = (i : Int) ∧ s.2.2 = μ) 0 ⟨rfl, rfl, rfl⟩ (by omega) (by omega) ?_ ?_
  · rintro i ⟨x, y, θ⟩ hi ⟨e1, e2, e3⟩
    dsimp only at e1 e2 e3 ⊢
    subst e1 e2 e3
    obtain ⟨c, hc, rfl⟩ := nu_all hn hi
    have hPc := hB c hc
    have hm := hmb (nu kd n c) (by omega)
    have hs : mx (nu kd n c + 1) (fun i => ((P (ui kd n i) : Int) - 1).toNat) = max (mx (nu kd n c) (fun i => ((P (ui kd n i) : Int) - 1).toNat)) ((P c : Int) - 1).toNat := by rw [mx, ui_nu hn hc]
    generalize mx (nu kd n c) (fun i => ((P (ui kd n i) : Int) - 1).toNat) = mm at hm hs ⊢
    unfold fX12_hard_b24
    rw [h.stk, Option.bind_some, w32_n (a := nu kd n c) (by omega), w32_n (a := NN kd n) (by omega), if_pos (by omega), least_r h hT hB hc, Option.bind_some, w32_eq (x := (P c : Int) - 1) (by omega) (by omega), w32_n (a := mm) (by omega)]
    by_cases q : (P c : Int) - 1 ≤ (mm : Int)
    · rw [if_pos q, Ok_some]
      refine ⟨?_, by push_cast; rfl, rfl⟩
      dsimp only
      rw [hs]; omega
    · rw [if_neg q, Option.bind_some, Ok_some]
      refine ⟨?_, by push_cast; rfl, rfl⟩
      dsimp only
      rw [hs]; omega
  · rintro ⟨x, y, θ⟩ ⟨e1, e2, e3⟩
    dsimp only at e1 e2 e3 ⊢
    subst e1 e2 e3
    unfold fX12_hard_b24
    rw [h.stk, Option.bind_some, w32_n (a := NN kd n) (by omega), if_neg (by omega), Ok_some]
    rfl
end WINSR
