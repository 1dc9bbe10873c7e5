/-! ===== level 2: to turn, and to undo ===== -/
section TURN
variable {n g : Nat} {kd wd : Nat → Nat} {BE CE : LawF} {μ ν : Mem} {c D : Nat} {a t s : Int} {ms cs : Nat → Nat} {ps ts ss : Nat → Int}
/-- how many are let go of when one more is kept -/
def dr (D : Nat) : Nat := if D = 16 then 1 else 0
theorem dr_b (h : D ≤ 16) : dr D ≤ 1 ∧ D - dr D ≤ 15 ∧ dr D ≤ D := by
  unfold dr
  split <;> omega
/-- the way back -/
def PA (n N : Nat) (tn : Nat → Nat → Nat) (c : Nat) (t s : Int) (D : Nat) (ms cs : Nat → Nat) (ps ts ss : Nat → Int) : Prop :=
  D ≤ 16 ∧ cs D = c ∧ ts D = t ∧ ss D = s ∧ ∀ i, i < D → 1 ≤ ms i ∧ ms i ≤ n ∧ cs i < N ∧ tn (cs i) (ms i) = cs (i + 1) ∧ ts (i + 1) = ts i + 1 ∧ ss (i + 1) = ss i + ps i
def PC (c : Nat) (t s : Int) (D : Nat) (ms : Nat → Nat) (ps : Nat → Int) (μ : Mem) : Prop := μ 41 1 = c ∧ μ 41 2 = t ∧ μ 41 3 = s ∧ μ 0 11 = D ∧ ∀ i, i < D → μ 44 i = ms i ∧ μ 45 i = ps i
def PR (kd : Nat → Nat) (n c : Nat) (t s : Int) (D : Nat) (cs : Nat → Nat) (ts ss : Nat → Int) (μ : Mem) : Prop := μ 88 0 = nu kd n c ∧ μ 88 1 = t ∧ μ 88 2 = s ∧ μ 75 20 = D ∧ ∀ i, i < D → μ 88 (28 * (5 + i)) = nu kd n (cs i) ∧ μ 88 (28 * (5 + i) + 1) = ts i ∧ μ 88 (28 * (5 + i) + 2) = ss i
/-- one turn further -/
def pushN (D : Nat) (f : Nat → Nat) (v : Nat) (i : Nat) : Nat := if i < D - dr D then f (i + dr D) else v
def pushI (D : Nat) (f : Nat → Int) (v : Int) (i : Nat) : Int := if i < D - dr D then f (i + dr D) else v
theorem PA.push {N m : Nat} {p : Int} {tn : Nat → Nat → Nat} (h : PA n N tn c t s D ms cs ps ts ss) (hc : c < N) (h1 : 1 ≤ m) (h2 : m ≤ n) : PA n N tn (tn c m) (t + 1) (s + p) (D - dr D + 1) (pushN D ms m) (fun i => if i ≤ D - dr D then cs (i + dr D) else tn c m) (pushI D ps p) (fun i => if i ≤ D - dr D then ts (i + dr D) else t + 1) (fun i => if i ≤ D - dr D then ss (i + dr D) else s + p) := by
  obtain ⟨a0, a1, a2, a3, a4⟩ := h
  obtain ⟨d1, d2, d3⟩ := dr_b a0
  refine ⟨by omega, ?_, ?_, ?_, fun i hi => ?_⟩
  · dsimp only
    rw [if_neg (by omega)]
  · dsimp only
    rw [if_neg (by omega)]
  · dsimp only
    rw [if_neg (by omega)]
  · dsimp only
    unfold pushN pushI
    by_cases e : i = D - dr D
    · have e2 : i + dr D = D := by omega
      have k1 : ¬ i < D - dr D := by omega
      have k2 : i ≤ D - dr D := by omega
      have k3 : ¬ i + 1 ≤ D - dr D := by omega
      simp only [if_neg k1, if_pos k2, if_neg k3]
      rw [e2, a1, a2, a3]
      exact ⟨h1, h2, hc, rfl, rfl, rfl⟩
    · have e2 : i + 1 + dr D = i + dr D + 1 := by omega
      have k1 : i < D - dr D := by omega
      have k2 : i ≤ D - dr D := by omega
      have k3 : i + 1 ≤ D - dr D := by omega
      simp only [if_pos k1, if_pos k2, if_pos k3]
      rw [e2]
      exact a4 (i + dr D) (by omega)
theorem PA.pop {N : Nat} {tn : Nat → Nat → Nat} (h : PA n N tn c t s (D + 1) ms cs ps ts ss) (hinv : ∀ c m, c < N → 1 ≤ m → m ≤ n → tn (tn c m) m = c) : PA n N tn (cs D) (ts D) (ss D) D ms cs ps ts ss ∧ tn c (ms D) = cs D ∧ cs D < N ∧ 1 ≤ ms D ∧ ms D ≤ n ∧ t + (-1) = ts D ∧ s + (-(ps D)) = ss D := by
  obtain ⟨a0, a1, a2, a3, a4⟩ := h
  obtain ⟨b1, b2, b3, b4, b5, b6⟩ := a4 D (by omega)
  refine ⟨⟨by omega, rfl, rfl, rfl, fun i hi => a4 i (by omega)⟩, ?_, b3, b1, b2, by omega, by omega⟩
  rw [← a1, ← b4]
  exact hinv _ _ b3 b1 b2
/-- what the class keeps -/
theorem kj69_ok {m p : Int} (hD : D ≤ 15) (h : μ 0 11 = D) : fX11_keepForUndo_j69 m p μ = some (upd2 (upd2 (upd2 μ 44 D m) 45 D p) 0 11 ((D + 1 : Nat) : Int)) := by
  unfold fX11_keepForUndo_j69
  simp only [lt]
  have e1 : fX11_put 44 (μ 0 11) m μ = upd2 μ 44 D m := put_n D h (L := 16) rfl (by omega) (by omega)
  have h1 : upd2 μ 44 D m 0 11 = D := by rw [upd2_ne (by omega)]; exact h
  have e2 : fX11_put 45 (upd2 μ 44 D m 0 11) p (upd2 μ 44 D m) = upd2 (upd2 μ 44 D m) 45 D p := put_n D h1 (L := 16) rfl (by omega) (by omega)
  have h2 : upd2 (upd2 μ 44 D m) 45 D p 0 11 = D := by rw [upd2_ne (by omega)]; exact h1
  rw [e1, e2, h2]
  push_cast; rfl
def Kc (D : Nat) (m p : Int) (μ ν : Mem) : Prop := ν 0 11 = ((D - dr D + 1 : Nat) : Int) ∧ (∀ i, i < D - dr D → ν 44 i = μ 44 (i + dr D) ∧ ν 45 i = μ 45 (i + dr D)) ∧ ν 44 (D - dr D) = m ∧ ν 45 (D - dr D) = p ∧ (∀ x, x ≠ 0 → x ≠ 44 → x ≠ 45 → ν x = μ x) ∧ ∀ j, j ≠ 11 → ν 0 j = μ 0 j
theorem kloop_ok {m p : Int} : Ok (loopN (fun s => fX11_keepForUndo_b11 m p s.1 s.2) FU (1, μ)) (fun ν : Mem => (∀ x, x ≠ 44 → x ≠ 45 → ν x = μ x) ∧ ∀ i, i < 15 → ν 44 i = μ 44 (i + 1) ∧ ν 45 i = μ 45 (i + 1)) := by
  refine loop_FU 16 (fun (v : Nat) (s : Int × Mem) => 1 ≤ v ∧ s.1 = (v : Int) ∧ (∀ x, x ≠ 44 → x ≠ 45 → s.2 x = μ x) ∧ (∀ i, i + 1 < v → s.2 44 i = μ 44 (i + 1) ∧ s.2 45 i = μ 45 (i + 1)) ∧ ∀ i, v ≤ i → s.2 44 i = μ 44 i ∧ s.2 45 i = μ 45 i) 1 ⟨by omega, rfl, fun _ _ _ => rfl, fun i h1 => absurd h1 (by omega), fun _ _ => ⟨rfl, rfl⟩⟩ (by omega) (by omega) ?_ ?_
  · rintro v ⟨x, ρ⟩ hv ⟨h1, e1, h2, h3, h4⟩
    dsimp only at e1 h2 h3 h4 ⊢
    subst e1
    unfold fX11_keepForUndo_b11
    simp only [lt]
    have e1 : (v : Int) - 1 = ((v - 1 : Nat) : Int) := by omega
    rw [e1, w32_n (a := v) (by omega), show w32 16 = 16 from by decide, w32_n (a := v - 1) (by omega), if_pos (by omega), if_pos (by omega), gd_pos (by omega), gd_pos (by omega), gd_pos (by omega), gd_pos (by omega), Int.toNat_natCast, Int.toNat_natCast, Ok_some]
    refine ⟨by omega, by push_cast; rfl, fun x h44 h45 => ?_, fun i hi => ?_, fun i hi => ?_⟩
    · dsimp only
      rw [upd2_ne h45, upd2_ne h44]; exact h2 x h44 h45
    · dsimp only
      by_cases e : i = v - 1
      · subst e
        have e2 : v - 1 + 1 = v := by omega
        rw [upd2_ne (by omega), upd2_at, upd2_at, upd2_ne (by omega), e2]
        exact h4 v (by omega)
      · rw [upd2_ne (by omega), upd2_nj e, upd2_nj e, upd2_ne (by omega)]
        exact h3 i (by omega)
    · dsimp only
      rw [upd2_ne (by omega), upd2_nj (by omega), upd2_nj (by omega), upd2_ne (by omega)]
      exact h4 i (by omega)
  · rintro ⟨x, ρ⟩ ⟨h1, e1, h2, h3, h4⟩
    dsimp only at e1 h2 h3 h4 ⊢
    subst e1
    unfold fX11_keepForUndo_b11
    rw [show w32 ((16 : Nat) : Int) = 16 from by decide, show w32 16 = 16 from by decide, if_neg (by decide), Ok_some]
    exact ⟨h2, fun i hi => h3 i (by omega)⟩
theorem ltE {α β : Type} (a : α) (f : α → β) : lt a f = f a := rfl
theorem kj63_eq {m p : Int} {ρ : Mem} : fX11_keepForUndo_j63 m p ρ = fX11_keepForUndo_j69 m p (upd2 ρ 0 11 15) := by
  unfold fX11_keepForUndo_j63
  rw [ltE]
theorem kb_15 {ρ : Mem} {x : Int} (hx : x = 15) : upd2 ρ 0 11 x 0 11 = ((15 : Nat) : Int) := by rw [upd2_at, hx]; rfl
theorem kc_16 : ((15 + 1 : Nat) : Int) = 16 := by decide
theorem kj63_ok {m p x : Int} {ρ : Mem} (hx : x = 15) : fX11_keepForUndo_j69 m p (upd2 ρ 0 11 x) = some (upd2 (upd2 (upd2 (upd2 ρ 0 11 x) 44 15 m) 45 15 p) 0 11 ((15 + 1 : Nat) : Int)) := kj69_ok (Nat.le_refl 15) (kb_15 hx)
theorem keep16_ok {m p : Int} (h : μ 0 11 = 16) : Ok (fX11_keepForUndo m p μ) (Kc 16 m p μ) := by
  have hj : ∀ ρ : Mem, fX11_keepForUndo_j63 m p ρ = some (upd2 (upd2 (upd2 (upd2 ρ 0 11 15) 44 15 m) 45 15 p) 0 11 16) := fun ρ => by
    rw [kj63_eq, kj63_ok rfl, kc_16]
  have hr : fX11_keepForUndo m p μ = (loopN (fun s => fX11_keepForUndo_b11 m p s.1 s.2) FU (1, μ)).bind fun q14 => fX11_keepForUndo_j63 m p q14 := by
    unfold fX11_keepForUndo
    rw [h, if_neg (by decide)]
  rw [hr]
  refine Ok.then kloop_ok ?_
  rintro ρ ⟨h2, h3⟩
  rw [hj, Ok_some]
  have ed : 16 - dr 16 = 15 := by decide
  have ed1 : dr 16 = 1 := by decide
  refine ⟨?_, fun i hi => ?_, ?_, ?_, fun x h0 h44 h45 => ?_, fun j hj => ?_⟩
  · rw [ed, upd2_at]; rfl
  · rw [ed] at hi
    rw [ed1]
    constructor
    · rw [upd2_ne (by omega), upd2_ne (by omega), upd2_nj (by omega), upd2_ne (by omega)]
      exact (h3 i (by omega)).1
    · rw [upd2_ne (by omega), upd2_nj (by omega), upd2_ne (by omega), upd2_ne (by omega)]
      exact (h3 i (by omega)).2
  · rw [ed, upd2_ne (by omega), upd2_ne (by omega), upd2_at]
  · rw [ed, upd2_ne (by omega), upd2_at]
  · rw [upd2_ne h0, upd2_ne h45, upd2_ne h44, upd2_ne h0]
    exact h2 x h44 h45
  · rw [upd2_nj hj, upd2_ne (by omega), upd2_ne (by omega), upd2_nj hj, h2 0 (by omega) (by omega)]
theorem keep15_ok {m p : Int} (hD : D < 16) (h : μ 0 11 = D) : Ok (fX11_keepForUndo m p μ) (Kc D m p μ) := by
  have ed : dr D = 0 := if_neg (by omega)
  unfold fX11_keepForUndo
  rw [h, w32_n (a := D) (by omega), show w32 16 = 16 from by decide, if_pos (by omega), kj69_ok (by omega) h, Ok_some]
  unfold Kc
  rw [ed, Nat.sub_zero]
  refine ⟨by rw [upd2_at], fun i hi => ?_, ?_, ?_, fun x h0 h44 h45 => ?_, fun j hj => ?_⟩
  · constructor
    · rw [upd2_ne (by omega), upd2_ne (by omega), upd2_nj (by omega), Nat.add_zero]
    · rw [upd2_ne (by omega), upd2_nj (by omega), upd2_ne (by omega), Nat.add_zero]
  · rw [upd2_ne (by omega), upd2_ne (by omega), upd2_at]
  · rw [upd2_ne (by omega), upd2_at]
  · rw [upd2_ne h0, upd2_ne h45, upd2_ne h44]
  · rw [upd2_nj hj, upd2_ne (by omega), upd2_ne (by omega)]
theorem keep_ok {m p : Int} (hD : D ≤ 16) (h : μ 0 11 = D) : Ok (fX11_keepForUndo m p μ) (Kc D m p μ) := by
  by_cases q : D = 16
  · rw [q] at h ⊢
    exact keep16_ok h
  · exact keep15_ok (by omega) h
/-- what may change when a turn is made or undone -/
def Uf (μ ν : Mem) : Prop := (∀ x, x ≠ 0 → x ≠ 41 → x ≠ 44 → x ≠ 45 → ν x = μ x) ∧ (∀ j, j ≠ 11 → ν 0 j = μ 0 j) ∧ ∀ j, j ≠ 1 → j ≠ 2 → j ≠ 3 → ν 41 j = μ 41 j
theorem turn_ok (hn : n < 6) (hT : Tb kd wd n BE CE μ) (hc : c < NN kd n) (ha : Nz a) (hP : PC c t s D ms ps μ) (hD : D ≤ 16) :
    Ok (fX11_turn a μ) (fun o => Uf μ o.2 ∧ o.1 = (if caB kd wd n BE c a = true then coI kd wd n CE c a else -1) ∧ (if caB kd wd n BE c a = true then PC (tnC kd n c a.toNat) (t + 1) (s + coI kd wd n CE c a) (D - dr D + 1) (pushN D ms a.toNat) (pushI D ps (coI kd wd n CE c a)) o.2 else PC c t s D ms ps o.2)) := by
  obtain ⟨p1, p2, p3, p4, p5⟩ := hP
  obtain ⟨d1, d2, d3⟩ := dr_b hD
  unfold fX11_turn
  simp only [lt]
  rw [p1, open_ok hn hT hc ha]
  by_cases q : caB kd wd n BE c a = true
  · have q2 : 1 ≤ a ∧ a ≤ n := by
      unfold caB at q
      rw [Bool.and_eq_true] at q
      exact of_decide_eq_true q.1
    have hco : coI kd wd n CE c a = (prC kd wd n CE c a.toNat : Int) := by unfold coI; rw [if_pos q2]
    obtain ⟨m, rfl⟩ : ∃ m : Nat, a = m := ⟨a.toNat, by omega⟩
    rw [if_pos q]
    simp only [if_pos q]
    rw [hco, Int.toNat_natCast, priceOf_ok hn hT hc (by omega) (by omega), turned_ok hn hT hc (by omega) (by omega)]
    generalize hμ4 : fX5_move 41 (tnC kd n c m : Int) 1 (prC kd wd n CE c m : Int) μ = μ4
    have hm : upd2 (upd2 (upd2 μ 41 1 (tnC kd n c m : Int)) 41 2 (t + 1)) 41 3 (s + (prC kd wd n CE c m : Int)) = μ4 := by
      rw [← hμ4]
      unfold fX5_move
      simp only [lt]
      rw [upd2_nj (by omega), p2, upd2_nj (by omega), upd2_nj (by omega), p3]
    have h4x : ∀ x, x ≠ 41 → μ4 x = μ x := fun x hx => by rw [← hm, upd2_ne hx, upd2_ne hx, upd2_ne hx]
    refine Ok.then (keep_ok (m := (m : Int)) (p := (prC kd wd n CE c m : Int)) hD (by rw [h4x 0 (by omega)]; exact p4)) ?_
    rintro ν ⟨k1, k2, k3, k4, k5, k6⟩
    rw [Ok_some]
    have e41 : ν 41 = μ4 41 := k5 41 (by omega) (by omega) (by omega)
    refine ⟨⟨fun x x0 x1 x2 x3 => ?_, fun j hj => ?_, fun j j1 j2 j3 => ?_⟩, rfl, ?_, ?_, ?_, k1, fun i hi => ?_⟩
    · dsimp only
      rw [k5 x x0 x2 x3, h4x x x1]
    · dsimp only
      rw [k6 j hj, h4x 0 (by omega)]
    · dsimp only
      rw [e41, ← hm, upd2_nj j3, upd2_nj j2, upd2_nj j1]
    · dsimp only
      rw [e41, ← hm, upd2_nj (by omega), upd2_nj (by omega), upd2_at]
    · dsimp only
      rw [e41, ← hm, upd2_nj (by omega), upd2_at]
    · dsimp only
      rw [e41, ← hm, upd2_at]
    · dsimp only
      unfold pushN pushI
      by_cases e : i < D - dr D
      · rw [if_pos e, if_pos e, (k2 i e).1, (k2 i e).2, h4x 44 (by omega), h4x 45 (by omega)]
        exact p5 (i + dr D) (by omega)
      · have : i = D - dr D := by omega
        rw [if_neg e, if_neg e, this]
        exact ⟨k3, k4⟩
  · rw [if_neg q, Ok_some]
    simp only [if_neg q]
    exact ⟨⟨fun _ _ _ _ _ => rfl, fun _ _ => rfl, fun _ _ _ _ => rfl⟩, trivial, p1, p2, p3, p4, p5⟩
theorem undo_ok (hn : n < 6) (hT : Tb kd wd n BE CE μ) (hc : c < NN kd n) (hP : PC c t s D ms ps μ) (hA : PA n (NN kd n) (tnC kd n) c t s D ms cs ps ts ss) :
    Uf μ (fX11_undo μ).2 ∧ (fX11_undo μ).1 = decide (0 < D) ∧ (if 0 < D then PC (cs (D - 1)) (ts (D - 1)) (ss (D - 1)) (D - 1) ms ps (fX11_undo μ).2 else (fX11_undo μ).2 = μ) := by
  obtain ⟨p1, p2, p3, p4, p5⟩ := hP
  have hD := hA.1
  unfold fX11_undo
  simp only [lt]
  rw [p4, w32_n (a := D) (by omega)]
  by_cases q : 0 < D
  · obtain ⟨E, rfl⟩ : ∃ E, D = E + 1 := ⟨D - 1, by omega⟩
    obtain ⟨hA2, b1, b2, b3, b4, b5, b6⟩ := PA.pop hA (fun c m h1 _ h3 => tnC_tnC hn h1 h3)
    have e1 : ((E + 1 : Nat) : Int) - 1 = (E : Int) := by push_cast; omega
    rw [if_neg (by omega), if_pos q, e1, Nat.add_sub_cancel]
    generalize hμ2 : upd2 μ 0 11 (E : Int) = μ2
    have hx : ∀ x, x ≠ 0 → μ2 x = μ x := fun x hx => by rw [← hμ2, upd2_ne hx]
    have h11 : μ2 0 11 = (E : Int) := by rw [← hμ2, upd2_at]
    have hT2 : fX7_turned (c : Int) ((ms E : Nat) : Int) μ2 = (cs E : Nat) := by
      rw [← b1, ← turned_ok hn hT hc b3 b4]
      unfold fX7_turned fX7_turnEntry
      simp only [lt]
      rw [at_same (hx 29 (by omega)), at_same (hx 31 (by omega)), hx 25 (by omega)]
    rw [h11, hx 41 (by omega), p1, at_n E rfl (L := 16) rfl (by omega) (by omega), at_n E rfl (L := 16) rfl (by omega) (by omega), hx 44 (by omega), hx 45 (by omega), (p5 E (by omega)).1, (p5 E (by omega)).2, hT2]
    generalize hμ4 : fX5_move 41 (cs E : Int) (-1) (-ps E) μ2 = μ4
    have hm : upd2 (upd2 (upd2 μ2 41 1 (cs E : Int)) 41 2 (ts E)) 41 3 (ss E) = μ4 := by
      rw [← hμ4]
      unfold fX5_move
      simp only [lt]
      rw [upd2_nj (by omega), hx 41 (by omega), p2, upd2_nj (by omega), upd2_nj (by omega), hx 41 (by omega), p3, b5, b6]
    have h4x : ∀ x, x ≠ 41 → μ4 x = μ2 x := fun x hx => by rw [← hm, upd2_ne hx, upd2_ne hx, upd2_ne hx]
    refine ⟨⟨fun x x0 x1 x2 x3 => ?_, fun j hj => ?_, fun j j1 j2 j3 => ?_⟩, (decide_eq_true q).symm, ?_, ?_, ?_, ?_, fun i hi => ?_⟩
    · dsimp only
      rw [h4x x x1, hx x x0]
    · dsimp only
      rw [h4x 0 (by omega), ← hμ2, upd2_nj hj]
    · dsimp only
      rw [← hm, upd2_nj j3, upd2_nj j2, upd2_nj j1, hx 41 (by omega)]
    · dsimp only
      rw [← hm, upd2_nj (by omega), upd2_nj (by omega), upd2_at]
    · dsimp only
      rw [← hm, upd2_nj (by omega), upd2_at]
    · dsimp only
      rw [← hm, upd2_at]
    · dsimp only
      rw [h4x 0 (by omega), h11]
    · dsimp only
      rw [h4x 44 (by omega), h4x 45 (by omega), hx 44 (by omega), hx 45 (by omega)]
      exact p5 i (by omega)
  · rw [if_pos (by omega), if_neg q]
    exact ⟨⟨fun _ _ _ _ _ => rfl, fun _ _ => rfl, fun _ _ _ _ => rfl⟩, (decide_eq_false q).symm, rfl⟩
end TURN
