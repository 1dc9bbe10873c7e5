/-! ===== level 2: the same in the reference ===== -/
section TALLYR
variable {n g q : Nat} {kd wd : Nat → Nat} {BE CE : LawF} {μ ν : Mem} {c : Nat} {cl : Nat → Nat × Nat × Bool}
theorem SR.same {B : Nat} (h : SR B q cl μ) (e : ν 88 = μ 88) : SR B q cl ν := ⟨by rw [e]; exact h.1, fun i hi => by rw [e]; exact h.2 i hi⟩
/-- what may change -/
def Dt (μ ν : Mem) : Prop := ∀ x, x ≠ 90 → x ≠ 91 → x ≠ 95 → ν x = μ x
theorem Rr.dt (h : Rr kd wd n BE CE g μ) (hD : Dt μ ν) : Rr kd wd n BE CE g ν := h.same (hD 81 (by omega) (by omega) (by omega)) (hD 82 (by omega) (by omega) (by omega))
def TyR (f : Nat → Nat → Bool → Nat) (μ : Mem) : Prop := ∀ p k u, p < 5 → k < 5 → μ 95 (10 * p + (2 * k + (if u = true then 1 else 0))) = (f p k u : Int)
/-- a stack's own entries -/
def atN (kd : Nat → Nat) (n p k : Nat) (u : Bool) (c : Nat) : Bool := decide (p < n) && atB kd n p k u c
theorem addr_ok {f : Nat → Nat → Bool → Nat} {x1 x2 : Int} (h : Rr kd wd n BE CE g μ) (hc : c < NN kd n) (hL : Ly kd n c μ) (hf : TyR f μ) :
    Ok (loopN (fun s => fX12_talliesNow_b50 x1 x2 s.1 s.2) FU (0, μ)) (fun ν => (∀ x, x ≠ 95 → ν x = μ x) ∧ TyR (fun p k u => f p k u + (if atN kd n p k u c = true then 1 else 0)) ν) := by
  have hn := h.1.1
  have hd := div_lt (kd := kd) hc
  have hRg := h.2.1
  refine loop_FU n (fun (i : Nat) (s : Int × Mem) => s.1 = (i : Int) ∧ (∀ x, x ≠ 95 → s.2 x = μ x) ∧ TyR (fun p k u => f p k u + (if (decide (p < i) && atB kd n p k u c) = true then 1 else 0)) s.2) 0 ⟨rfl, fun _ _ => rfl, fun p k u hp hk => ?_⟩ (by omega) (by omega) ?_ ?_
  · dsimp only
    rw [decide_eq_false (Nat.not_lt_zero p), Bool.false_and, if_neg (show ¬ false = true by decide)]; exact hf p k u hp hk
  · rintro i ⟨a, ρ⟩ hi ⟨e1, hD, hR⟩
    dsimp only at e1 hD hR ⊢
    subst e1
    have hLρ := hL.same (hD 90 (by omega)) (hD 91 (by omega))
    have h81 : ρ 81 0 = n := by rw [hD 81 (by omega)]; exact hRg.1
    have hpb := pA_lt hn hd hi
    unfold fX12_talliesNow_b50
    simp only [lt]
    rw [h81, w32_n (a := i) (by omega), w32_n (a := n) (by omega), if_pos (by omega), gd_pos (by omega), gd_pos (by omega), Int.toNat_natCast, hLρ.1 i hi, w32_n (a := pA n (c / 2 ^ ix kd n) i) (by omega), gd_pos (by omega), Int.toNat_natCast, hLρ.2 _ hpb, b2i_ne]
    generalize hk : pA n (c / 2 ^ ix kd n) i = k at hpb
    generalize hu : uC kd c k = u
    have hent : (10 * (i : Int)) + (2 * (k : Int)) + (if u = true then 1 else 0) = ((10 * i + (2 * k + (if u = true then 1 else 0)) : Nat) : Int) := by cases u <;> push_cast <;> simp <;> omega
    have hlt : 10 * i + (2 * k + (if u = true then 1 else 0)) < 50 := by split <;> omega
    have hval := hR i k u (by omega) (by omega)
    rw [hent, w32_n (a := 10 * i + (2 * k + (if u = true then 1 else 0))) (by omega), gd_pos (by omega), gd_pos (by omega), Int.toNat_natCast, hval, Ok_some]
    refine ⟨by push_cast; rfl, fun x hx => ?_, fun p k' u' hp hk' => ?_⟩
    · dsimp only
      rw [upd2_ne hx]; exact hD x hx
    · dsimp only
      rw [upd2_self]
      by_cases e : 10 * p + (2 * k' + (if u' = true then 1 else 0)) = 10 * i + (2 * k + (if u = true then 1 else 0))
      · have e' : p = i ∧ k' = k ∧ u' = u := by
          have : (if u' = true then 1 else 0) = (if u = true then 1 else 0) ∧ p = i ∧ k' = k := by
            cases u <;> cases u' <;> simp at e ⊢ <;> omega
          refine ⟨this.2.1, this.2.2, ?_⟩
          have h3 := this.1
          revert h3
          cases u <;> cases u' <;> decide
        obtain ⟨rfl, rfl, rfl⟩ := e'
        have hat : atB kd n p k' u' c = true := by
          unfold atB
          rw [hk, hu]; simp
        rw [if_pos rfl, hat, if_neg (show ¬ ((decide (p < p) && true) = true) by simp), if_pos (show (decide (p < p + 1) && true) = true by simp)]
        push_cast; rfl
      · rw [if_neg e]
        have hv := hR p k' u' hp hk'
        rw [hv]
        by_cases hpi : p = i
        · subst hpi
          have : atB kd n p k' u' c = false := by
            unfold atB
            rw [hk]
            by_cases e2 : k = k'
            · subst e2
              rw [hu]
              have : u ≠ u' := fun e3 => e (by rw [e3])
              cases u <;> cases u' <;> simp at this ⊢
            · simp [e2]
          rw [this]; simp
        · have : decide (p < i + 1) = decide (p < i) := by
            by_cases e3 : p < i
            · rw [decide_eq_true e3, decide_eq_true (by omega)]
            · rw [decide_eq_false e3, decide_eq_false (by omega)]
          rw [this]
  · rintro ⟨a, ρ⟩ ⟨e1, hD, hR⟩
    dsimp only at e1 hD hR ⊢
    subst e1
    have h81 : ρ 81 0 = n := by rw [hD 81 (by omega)]; exact hRg.1
    unfold fX12_talliesNow_b50
    rw [h81, w32_n (a := n) (by omega), if_neg (by omega), Ok_some]
    exact ⟨hD, hR⟩
def tzN (kd : Nat → Nat) (n q : Nat) (cl : Nat → Nat × Nat × Bool) (p k : Nat) (u : Bool) : Nat := cn (NN kd n) (fun c => ftB kd n c q cl && atN kd n p k u c)
theorem clear_r : Ok (loopN (fun s => fX12_talliesNow_b2 s.1 s.2) FU (0, μ)) (fun ν => (∀ x, x ≠ 95 → ν x = μ x) ∧ ∀ j, j < 50 → ν 95 j = 0) := by
  refine loop_FU 50 (fun (i : Nat) (s : Int × Mem) => s.1 = (i : Int) ∧ (∀ x, x ≠ 95 → s.2 x = μ x) ∧ ∀ j, j < i → s.2 95 j = 0) 0 ⟨rfl, fun _ _ => rfl, fun j hj => absurd hj (by omega)⟩ (by omega) (by omega) ?_ ?_
  · rintro i ⟨a, ρ⟩ hi ⟨e1, hD, hR⟩
    dsimp only at e1 hD hR ⊢
    subst e1
    unfold fX12_talliesNow_b2
    simp only [lt]
    rw [w32_n (a := i) (by omega), show w32 50 = 50 from by decide, if_pos (by omega), gd_pos (by omega), Int.toNat_natCast, Ok_some]
    refine ⟨by push_cast; rfl, fun x hx => ?_, fun j hj => ?_⟩
    · dsimp only
      rw [upd2_ne hx]; exact hD x hx
    · dsimp only
      rw [upd2_self]
      by_cases e : j = i
      · rw [if_pos e]
      · rw [if_neg e]; exact hR j (by omega)
  · rintro ⟨a, ρ⟩ ⟨e1, hD, hR⟩
    dsimp only at e1 hD hR ⊢
    subst e1
    unfold fX12_talliesNow_b2
    rw [show w32 ((50 : Nat) : Int) = 50 from by decide, show w32 50 = 50 from by decide, if_neg (by omega), Ok_some]
    exact ⟨hD, hR⟩
theorem tallies_r (h : Rr kd wd n BE CE g μ) (hS : SR 0 q cl μ) (hO : SO n q cl) :
    Ok (fX12_talliesNow μ) (fun o => o.1 = ((cn (NN kd n) (fun c => ftB kd n c q cl) : Nat) : Int) ∧ Dt μ o.2 ∧ TyR (tzN kd n q cl) o.2) := by
  have hn := h.1.1
  have hN := NN_le (kd := kd) hn
  unfold fX12_talliesNow
  refine Ok.then clear_r ?_
  rintro μ1 ⟨hD1, hz⟩
  refine Ok.bind ?_
  have hgoal : ∀ o : Int × Mem, (o.1 = ((cn (NN kd n) (fun i => ftB kd n (ui kd n i) q cl) : Nat) : Int) ∧ Dt μ o.2 ∧ TyR (fun p k u => cn (NN kd n) (fun i => ftB kd n (ui kd n i) q cl && atN kd n p k u (ui kd n i))) o.2) → (o.1 = ((cn (NN kd n) (fun c => ftB kd n c q cl) : Nat) : Int) ∧ Dt μ o.2 ∧ TyR (tzN kd n q cl) o.2) := fun o ho => by
    refine ⟨?_, ho.2.1, fun p k u hp hk => ?_⟩
    · rw [ho.1, cn_ui hn (p := fun c => ftB kd n c q cl)]
    · have := ho.2.2 p k u hp hk
      dsimp only at this
      rw [this, cn_ui hn (p := fun c => ftB kd n c q cl && atN kd n p k u c)]
      rfl
  refine Ok.imp (loop_FU (Q := fun o : Int × Mem => o.1 = ((cn (NN kd n) (fun i => ftB kd n (ui kd n i) q cl) : Nat) : Int) ∧ Dt μ o.2 ∧ TyR (fun p k u => cn (NN kd n) (fun i => ftB kd n (ui kd n i) q cl && atN kd n p k u (ui kd n i))) o.2) (NN kd n) (fun (i : Nat) (s : Int × Int × Mem) => s.1 = ((cn i (fun i => ftB kd n (ui kd n i) q cl) : Nat) : Int) ∧ s.2.1 = (i : Int) ∧ Dt μ s.2.2 ∧ TyR (fun p k u => cn i (fun i => ftB kd n (ui kd n i) q cl && atN kd n p k u (ui kd n i))) s.2.2) 0 ⟨rfl, rfl, fun x _ _ q => hD1 x q, fun p k u hp hk => ?_⟩ (by omega) (by omega) ?_ ?_) ?_
  · dsimp only
    have hlt : 10 * p + (2 * k + (if u = true then 1 else 0)) < 50 := by split <;> omega
    rw [hz _ hlt]; rfl
  · rintro i ⟨x, y, ρ⟩ hi ⟨e1, e2, hD, hR⟩
    dsimp only at e1 e2 hD hR ⊢
    subst e1 e2
    have hρ := h.dt hD
    have hcb : cn i (fun i => ftB kd n (ui kd n i) q cl) ≤ i := cn_le
    obtain ⟨c, hc, rfl⟩ := nu_all hn hi
    have hui := ui_nu hn hc
    unfold fX12_talliesNow_b25
    rw [hρ.stk, Option.bind_some, w32_n (a := nu kd n c) (by omega), w32_n (a := NN kd n) (by omega), if_pos (by omega)]
    refine Ok.then (lays_r hn hρ.2.1 hc) ?_
    rintro θ ⟨gL, gD⟩
    have hDθ : Dt μ θ := fun x q1 q2 q3 => (gD x q1 q2).trans (hD x q1 q2 q3)
    have hθ := h.dt hDθ
    have hSθ := hS.same (hDθ 88 (by omega) (by omega) (by omega))
    have hRθ : TyR (fun p k u => cn (nu kd n c) (fun i => ftB kd n (ui kd n i) q cl && atN kd n p k u (ui kd n i))) θ := fun p k u hp hk => by rw [gD 95 (by omega) (by omega)]; exact hR p k u hp hk
    rw [asSeen_r hθ hc gL hSθ hO, Option.bind_some]
    by_cases hh : ftB kd n c q cl = true
    · rw [if_pos hh]
      refine Ok.then (addr_ok hθ hc gL hRθ) ?_
      rintro τ ⟨g1, g2⟩
      rw [Ok_some]
      refine ⟨?_, by push_cast; rfl, fun x q1 q2 q3 => (g1 x q3).trans (hDθ x q1 q2 q3), fun p k u hp hk => ?_⟩
      · dsimp only
        rw [cn_succ, hui, if_pos hh]; push_cast; rfl
      · have := g2 p k u hp hk
        dsimp only at this ⊢
        rw [this, cn_succ, hui, hh, Bool.true_and]
    · rw [if_neg hh, Ok_some]
      refine ⟨?_, by push_cast; rfl, hDθ, fun p k u hp hk => ?_⟩
      · dsimp only
        rw [cn_succ, hui, if_neg hh]; rfl
      · have := hRθ p k u hp hk
        dsimp only at this ⊢
        rw [this, cn_succ, hui, eq_false_of_ne_true hh, Bool.false_and]; rfl
  · rintro ⟨x, y, ρ⟩ ⟨e1, e2, hD, hR⟩
    dsimp only at e1 e2 hD hR ⊢
    subst e1 e2
    have hρ := h.dt hD
    unfold fX12_talliesNow_b25
    rw [hρ.stk, Option.bind_some, w32_n (a := NN kd n) (by omega), if_neg (by omega), Ok_some]
    exact ⟨rfl, hD, hR⟩
  · intro o ho
    rw [Ok_some]
    exact hgoal o ho
theorem SR.put {B : Nat} {v : Int} (h : SR B q cl μ) : SR B q cl (upd2 μ 75 0 v) := h.same (upd2_ne (by omega))
theorem fit_r (h : Rr kd wd n BE CE g μ) (hS : SR 0 q cl μ) (hO : SO n q cl) :
    Ok (fX12_fit μ) (fun o => o.1 = ((cn (NN kd n) (fun c => ftB kd n c q cl) : Nat) : Int) ∧ Dt (upd2 μ 75 0 0) o.2) := by
  unfold fX12_fit
  simp only [lt]
  refine Ok.then (tallies_r (h.same (upd2_ne (by omega)) (upd2_ne (by omega))) hS.put hO) ?_
  rintro ⟨x, ν⟩ ⟨e1, hD, -⟩
  rw [Ok_some]
  exact ⟨e1, hD⟩
theorem tz_ty {p k : Nat} {u : Bool} (hp : p < n) : tzN kd n q cl p k u = tyN kd n q cl p k u := cn_congr (fun c _ => by
  unfold tyB atN
  rw [decide_eq_true hp, Bool.true_and])
theorem tz_0 {p k : Nat} {u : Bool} (hn : n < 6) (hp : p < n) (hk : n ≤ k) : tzN kd n q cl p k u = 0 := cn_none (fun c hc => by
  have := pA_lt hn (div_lt (kd := kd) hc) hp
  unfold atN atB
  rw [show decide (pA n (c / 2 ^ ix kd n) p = k) = false from decide_eq_false (by omega)]
  simp)
/-- the first ten entries of a place, up to j -/
def mzN (kd : Nat → Nat) (n q : Nat) (cl : Nat → Nat × Nat × Bool) (p j : Nat) : Nat := mx j (fun e => tzN kd n q cl p (e / 2) (decide (e % 2 = 1)))
theorem mz_mt {p : Nat} (hn : n < 6) (hp : p < n) : mzN kd n q cl p 10 = mtN kd n q cl p := by
  apply Nat.le_antisymm
  · refine mx_le (fun e he => ?_)
    by_cases hk : e / 2 < n
    · rw [tz_ty hp]
      have := mx_ge (n := n) (f := fun k => max (tyN kd n q cl p k false) (tyN kd n q cl p k true)) hk
      unfold mtN
      cases decide (e % 2 = 1) <;> omega
    · rw [tz_0 hn hp (by omega)]; omega
  · refine mx_le (fun k hk => ?_)
    have h1 := mx_ge (n := 10) (f := fun e => tzN kd n q cl p (e / 2) (decide (e % 2 = 1))) (i := 2 * k) (by omega)
    have h2 := mx_ge (n := 10) (f := fun e => tzN kd n q cl p (e / 2) (decide (e % 2 = 1))) (i := 2 * k + 1) (by omega)
    rw [show 2 * k / 2 = k by omega, decide_eq_false (show ¬ (2 * k % 2 = 1) by omega), tz_ty hp] at h1
    rw [show (2 * k + 1) / 2 = k by omega, decide_eq_true (show (2 * k + 1) % 2 = 1 by omega), tz_ty hp] at h2
    unfold mzN
    omega
theorem mostr_r {p : Nat} {a b : Int} (hn : n < 6) (hR : TyR (tzN kd n q cl) μ) (hp : p < n) : loopN (fun s => fX12_look_b28 a b (p : Int) s.1 s.2.1 s.2.2) FU (0, 0, μ) = some ((mtN kd n q cl p : Int), μ) := by
  have hN := NN_le (kd := kd) hn
  have tzl : ∀ e, tzN kd n q cl p (e / 2) (decide (e % 2 = 1)) ≤ NN kd n := fun e => cn_le
  rw [← mz_mt hn hp]
  apply Ok_val
  refine loop_FU 10 (fun (i : Nat) (s : Int × Int × Mem) => s.1 = ((mzN kd n q cl p i : Nat) : Int) ∧ s.2.1 = (i : Int) ∧ s.2.2 = μ) 0 ⟨rfl, rfl, rfl⟩ (by omega) (by omega) ?_ ?_
  · rintro i ⟨x, y, ρ⟩ hi ⟨e1, e2, e3⟩
    dsimp only at e1 e2 e3 ⊢
    subst e1 e2 e3
    have b1 := tzl i
    have b2 : mzN kd n q cl p i ≤ NN kd n := mx_le (fun e _ => tzl e)
    have ei : (10 * (p : Int)) + (i : Int) = ((10 * p + i : Nat) : Int) := by push_cast; rfl
    have hv := hR p (i / 2) (decide (i % 2 = 1)) (by omega) (by omega)
    have he : 10 * p + (2 * (i / 2) + (if decide (i % 2 = 1) = true then 1 else 0)) = 10 * p + i := by
      by_cases e : i % 2 = 1
      · rw [decide_eq_true e, if_pos rfl]; omega
      · rw [decide_eq_false e, if_neg (by decide)]; omega
    rw [he] at hv
    have hs : mzN kd n q cl p (i + 1) = max (mzN kd n q cl p i) (tzN kd n q cl p (i / 2) (decide (i % 2 = 1))) := rfl
    unfold fX12_look_b28
    simp only [lt]
    rw [w32_n (a := i) (by omega), show w32 10 = 10 from by decide, if_pos (by omega), ei, w32_n (a := 10 * p + i) (by omega), gd_pos (by omega), gd_pos (by omega), Int.toNat_natCast, hv, w32_n (a := tzN kd n q cl p (i / 2) (decide (i % 2 = 1))) (by omega), w32_n (a := mzN kd n q cl p i) (by omega)]
    by_cases hl : tzN kd n q cl p (i / 2) (decide (i % 2 = 1)) ≤ mzN kd n q cl p i
    · rw [if_pos (by omega), Ok_some]
      refine ⟨?_, by push_cast; rfl, rfl⟩
      dsimp only
      rw [hs]; omega
    · rw [if_neg (by omega), Ok_some]
      refine ⟨?_, by push_cast; rfl, rfl⟩
      dsimp only
      rw [hs]; omega
  · rintro ⟨x, y, ρ⟩ ⟨e1, e2, e3⟩
    dsimp only at e1 e2 e3 ⊢
    subst e1 e2 e3
    unfold fX12_look_b28
    rw [show w32 ((10 : Nat) : Int) = 10 from by decide, show w32 10 = 10 from by decide, if_neg (by omega), Ok_some]
    rfl
theorem look_r (h : Rr kd wd n BE CE g μ) (hS : SR 0 q cl μ) (hO : SO n q cl) :
    Ok (fX12_look μ) (fun o => o.1 = (lookI n (mtN kd n q cl) (cn (NN kd n) (fun c => ftB kd n c q cl)) n).1 ∧ Dt (upd2 μ 75 0 0) o.2) := by
  have hn := h.1.1
  have hN := NN_le (kd := kd) hn
  unfold fX12_look
  simp only [lt]
  refine Ok.then (tallies_r (h.same (upd2_ne (by omega)) (upd2_ne (by omega))) hS.put hO) ?_
  rintro ⟨F, ν⟩ ⟨e1, hD, hR⟩
  dsimp only at e1 hD hR ⊢
  subst e1
  have hF : cn (NN kd n) (fun c => ftB kd n c q cl) ≤ NN kd n := cn_le
  generalize cn (NN kd n) (fun c => ftB kd n c q cl) = F at hF ⊢
  have h1 : ν 81 0 = n := by rw [hD 81 (by omega) (by omega) (by omega), upd2_ne (by omega)]; exact h.2.1.1
  refine Ok.bind ?_
  refine loop_FU n (fun (i : Nat) (s : Int × Int × Int × Mem) => s.1 = ((lookI n (mtN kd n q cl) F i).2 : Int) ∧ s.2.1 = (lookI n (mtN kd n q cl) F i).1 ∧ s.2.2.1 = (i : Int) ∧ s.2.2.2 = ν) 0 ⟨rfl, rfl, rfl, rfl⟩ (by omega) (by omega) ?_ ?_
  · rintro i ⟨x, y, z, ρ⟩ hi ⟨e1, e2, e3, e4⟩
    dsimp only at e1 e2 e3 e4 ⊢
    subst e1 e2 e3 e4
    have hb := lookI_b (n := n) (M := mtN kd n q cl) (F := F) i
    have hm := mtN_le (kd := kd) (n := n) (q := q) (cl := cl) (p := i)
    unfold fX12_look_b14
    simp only [lt]
    rw [h1, w32_n (a := i) (by omega), w32_n (a := n) (by omega), if_pos (by omega), mostr_r hn hR hi, Option.bind_some]
    dsimp only
    rw [w32_n (a := mtN kd n q cl i) (by omega), w32_n (a := (lookI n (mtN kd n q cl) F i).2) (by omega)]
    by_cases hl : mtN kd n q cl i < (lookI n (mtN kd n q cl) F i).2
    · have e : lookI n (mtN kd n q cl) F (i + 1) = ((i : Int), mtN kd n q cl i) := by rw [lookI, if_pos hl]
      rw [if_pos (by omega), if_pos (by omega), Ok_some]
      show _ ∧ _ ∧ _ ∧ _
      rw [e]
      exact ⟨rfl, rfl, by push_cast; rfl, rfl⟩
    · have e : lookI n (mtN kd n q cl) F (i + 1) = lookI n (mtN kd n q cl) F i := by rw [lookI, if_neg hl]
      rw [if_neg (by omega), if_neg (by omega), Ok_some]
      show _ ∧ _ ∧ _ ∧ _
      rw [e]
      exact ⟨rfl, rfl, by push_cast; rfl, rfl⟩
  · rintro ⟨x, y, z, ρ⟩ ⟨e1, e2, e3, e4⟩
    dsimp only at e1 e2 e3 e4 ⊢
    subst e1 e2 e3 e4
    unfold fX12_look_b14
    rw [h1, w32_n (a := n) (by omega), if_neg (by omega), Ok_some]
    show Ok _ _
    rw [Ok_some]
    exact ⟨rfl, hD⟩
end TALLYR
