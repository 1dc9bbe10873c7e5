/-! ===== level 2: what the reference reads off its table ===== -/
section REFREAD
variable {n g : Nat} {kd wd : Nat → Nat} {BE CE : LawF} {μ ν : Mem} {c : Nat}
/-- the class's number of the reference's -/
def ui (kd : Nat → Nat) (n i : Nat) : Nat := sm (NN kd n) (fun c => if nu kd n c = i then c else 0)
theorem ui_nu (hn : n < 6) (hc : c < NN kd n) : ui kd n (nu kd n c) = c := by
  unfold ui
  rw [sm_one hc (fun d hd hne => if_neg (fun e => hne (nu_inj hn hd hc e))), if_pos rfl]
theorem cn_ui (hn : n < 6) {p : Nat → Bool} : cn (NN kd n) (fun i => p (ui kd n i)) = cn (NN kd n) p := by
  rw [← cn_perm (π := nu kd n) (p := fun i => p (ui kd n i)) (fun _ hi => nu_lt hn hi) (fun _ _ hi hj h => nu_inj hn hi hj h)]
  exact cn_congr (fun c hc => by rw [ui_nu hn hc])
theorem mx_ui (hn : n < 6) {p : Nat → Nat} : mx (NN kd n) (fun i => p (ui kd n i)) = mx (NN kd n) p := by
  rw [← mx_perm (π := nu kd n) (f := fun i => p (ui kd n i)) (fun _ hi => nu_lt hn hi) (fun _ _ hi hj h => nu_inj hn hi hj h)]
  exact mx_congr (fun c hc => by rw [ui_nu hn hc])
/-- what leadsFrom lays down -/
def Ld (kd wd : Nat → Nat) (n : Nat) (BE CE : LawF) (b c : Nat) (μ : Mem) : Prop := ∀ m, 1 ≤ m → m ≤ n → μ 93 m = (if (decide (m ≠ b) && opC kd wd n BE c m) = true then (nu kd n (tnC kd n c m) : Int) else -1) ∧ μ 94 m = prC kd wd n CE c m
def Dl (μ ν : Mem) : Prop := ∀ x, x ≠ 86 → x ≠ 87 → x ≠ 90 → x ≠ 91 → x ≠ 93 → x ≠ 94 → ν x = μ x
theorem Dl.rf : Dl μ μ := fun _ _ _ _ _ _ _ => rfl
theorem Dl.tr {a b c : Mem} (h1 : Dl a b) (h2 : Dl b c) : Dl a c := fun x q1 q2 q3 q4 q5 q6 => (h2 x q1 q2 q3 q4 q5 q6).trans (h1 x q1 q2 q3 q4 q5 q6)
theorem Dk.dl (h : Dk μ ν) : Dl μ ν := fun x q1 q2 q3 q4 _ _ => h x q1 q2 q3 q4
theorem Rr.dl (h : Rr kd wd n BE CE g μ) (hD : Dl μ ν) : Rr kd wd n BE CE g ν := h.same (hD 81 (by omega) (by omega) (by omega) (by omega) (by omega) (by omega)) (hD 82 (by omega) (by omega) (by omega) (by omega) (by omega) (by omega))
theorem leads_r {b : Nat} (hb9 : b < 9) (h : Rr kd wd n BE CE g μ) (hc : c < NN kd n) : Ok (fX12_leadsFrom (nu kd n c : Int) (b : Int) μ) (fun ν => Dl μ ν ∧ Ld kd wd n BE CE b c ν) := by
  have hn := h.1.1
  have hp := h.gp
  unfold fX12_leadsFrom
  refine Ok.bind ?_
  refine Ok.imp (loop_FU (Q := fun ν : Mem => Dl μ ν ∧ Ld kd wd n BE CE b c ν) (n + 1) (fun (i : Nat) (s : Int × Mem) => 1 ≤ i ∧ s.1 = (i : Int) ∧ Dl μ s.2 ∧ ∀ m, 1 ≤ m → m < i → s.2 93 m = (if (decide (m ≠ b) && opC kd wd n BE c m) = true then (nu kd n (tnC kd n c m) : Int) else -1) ∧ s.2 94 m = prC kd wd n CE c m) 1 ⟨by omega, rfl, Dl.rf, fun m h1 h2 => absurd h2 (by omega)⟩ (by omega) (by omega) ?_ ?_) ?_
  · rintro i ⟨a, θ⟩ hi ⟨hi1, e1, hD, hT⟩
    dsimp only at e1 hD hT ⊢
    subst e1
    have hR := h.dl hD
    obtain ⟨hd, -, -, -⟩ := hp.2.2.2 c i hc hi1 (by omega)
    unfold fX12_leadsFrom_b2
    simp only [lt]
    rw [hR.2.1.1, w32_n (a := i) (by omega), w32_n (a := n) (by omega), if_pos (by omega), gd_pos (by omega), Int.toNat_natCast]
    have hR1 : Rr kd wd n BE CE g (upd2 θ 93 i (-1)) := hR.same (upd2_ne (by omega)) (upd2_ne (by omega))
    refine Ok.then (hR1.lay hc) ?_
    rintro θ1 ⟨hL1, hK1⟩
    have hR2 := hR1.dk hK1
    refine Ok.then (hR2.cost hc (by omega) hL1) ?_
    rintro ⟨o1, θ2⟩ ⟨ho, hL2, hK2⟩
    dsimp only at ho hL2 hK2 ⊢
    subst ho
    have hR3 := hR2.dk hK2
    have hK12 := hK1.tr hK2
    rw [gd_pos (by omega), w32_n (a := b) (by omega)]
    have hR4 : Rr kd wd n BE CE g (upd2 θ2 94 i (prC kd wd n CE c i : Int)) := hR3.same (upd2_ne (by omega)) (upd2_ne (by omega))
    have hL4 : Ly kd n c (upd2 θ2 94 i (prC kd wd n CE c i : Int)) := hL2.same (upd2_ne (by omega)) (upd2_ne (by omega))
    have base : ∀ (ρ : Mem) (v : Int), (∀ x, x ≠ 86 → x ≠ 87 → x ≠ 90 → x ≠ 91 → ρ x = (upd2 θ2 94 i (prC kd wd n CE c i : Int)) x ∨ (x = 93 ∧ ρ 93 = upd2 θ2 93 i v 93)) → ρ 93 i = v → v = (if (decide (i ≠ b) && opC kd wd n BE c i) = true then (nu kd n (tnC kd n c i) : Int) else -1) → Ok (some (Sum.inl ((i : Int) + 1, ρ) : (Int × Mem) ⊕ Mem)) (Sum.elim (fun s => 1 ≤ i + 1 ∧ s.1 = ((i + 1 : Nat) : Int) ∧ Dl μ s.2 ∧ ∀ m, 1 ≤ m → m < i + 1 → s.2 93 m = (if (decide (m ≠ b) && opC kd wd n BE c m) = true then (nu kd n (tnC kd n c m) : Int) else -1) ∧ s.2 94 m = prC kd wd n CE c m) (fun ν => Dl μ ν ∧ Ld kd wd n BE CE b c ν)) := fun ρ v hρ hv1 hv2 => by
      have h94 : ρ 94 = upd2 θ2 94 i (prC kd wd n CE c i : Int) 94 := by
        rcases hρ 94 (by omega) (by omega) (by omega) (by omega) with q | q
        · exact q
        · exact absurd q.1 (by omega)
      have h93 : ∀ m, m ≠ i → ρ 93 m = θ 93 m := fun m hm => by
        have hθ : θ2 93 m = θ 93 m := by rw [hK12 93 (by omega) (by omega) (by omega) (by omega), upd2_nj hm]
        rcases hρ 93 (by omega) (by omega) (by omega) (by omega) with q | q
        · rw [q, upd2_ne (by omega)]; exact hθ
        · rw [q.2, upd2_nj hm]; exact hθ
      rw [Ok_some]
      refine ⟨by omega, by push_cast; rfl, fun x q1 q2 q3 q4 q5 q6 => ?_, fun m hm1 hm2 => ?_⟩
      · dsimp only
        rcases hρ x q1 q2 q3 q4 with q | q
        · rw [q, upd2_ne q6, hK12 x q1 q2 q3 q4, upd2_ne q5]; exact hD x q1 q2 q3 q4 q5 q6
        · exact absurd q.1 q5
      · dsimp only
        by_cases e : m = i
        · subst e
          exact ⟨by rw [hv1, hv2], by rw [h94, upd2_at]⟩
        · refine ⟨by rw [h93 m e]; exact (hT m hm1 (by omega)).1, ?_⟩
          rw [h94, upd2_nj e, hK12 94 (by omega) (by omega) (by omega) (by omega), upd2_ne (by omega)]
          exact (hT m hm1 (by omega)).2
    have hold : (upd2 θ2 94 i (prC kd wd n CE c i : Int)) 93 i = -1 := by
      rw [upd2_ne (by omega), hK12 93 (by omega) (by omega) (by omega) (by omega), upd2_at]
    by_cases hib : i = b
    · rw [if_pos (by omega)]
      exact base _ (-1) (fun x _ _ _ _ => Or.inl rfl) hold (by simp [hib])
    · rw [if_neg (by omega)]
      refine Ok.then (hR4.may hc hi1 (by omega) hL4) ?_
      rintro ⟨o1, θ3⟩ ⟨ho, hL5, hK5⟩
      dsimp only at ho hL5 hK5 ⊢
      subst ho
      have hR5 := hR4.dk hK5
      by_cases hop : opC kd wd n BE c i = true
      · rw [if_pos hop]
        refine Ok.then (hR5.turn hc hi1 (by omega) hL5) ?_
        rintro θ4 ⟨hL6, hK6⟩
        have hR6 := hR5.dk hK6
        rw [hR6.num hd hL6, Option.bind_some, gd_pos (by omega)]
        have hK56 := hK5.tr hK6
        refine base _ (nu kd n (tnC kd n c i) : Int) (fun x q1 q2 q3 q4 => ?_) upd2_at (by simp [hib, hop])
        by_cases e : x = 93
        · subst e
          refine Or.inr ⟨rfl, ?_⟩
          funext m
          rw [upd2_self, upd2_self, hK56 93 (by omega) (by omega) (by omega) (by omega), upd2_ne (by omega)]
        · exact Or.inl (by rw [upd2_ne e]; exact hK56 x q1 q2 q3 q4)
      · rw [if_neg hop]
        refine base _ (-1) (fun x q1 q2 q3 q4 => Or.inl (hK5 x q1 q2 q3 q4)) ?_ (by simp [hop])
        rw [hK5 93 (by omega) (by omega) (by omega) (by omega)]; exact hold
  · rintro ⟨a, θ⟩ ⟨hi1, e1, hD, hT⟩
    dsimp only at e1 hD hT ⊢
    subst e1
    have hR := h.dl hD
    unfold fX12_leadsFrom_b2
    rw [hR.2.1.1, w32_n (a := n + 1) (by omega), w32_n (a := n) (by omega), if_neg (by omega), Ok_some]
    exact ⟨hD, fun m h1 h2 => hT m h1 (by omega)⟩
  · rintro ν hν
    rw [Ok_some]
    exact hν
theorem TM.dl {p w : Nat → Nat} (h : TM kd n p w μ) (hD : Dl μ ν) : TM kd n p w ν := fun c hc => by rw [hD 92 (by omega) (by omega) (by omega) (by omega) (by omega) (by omega)]; exact h c hc
/-- bounds of a table -/
def Tb2 (kd : Nat → Nat) (n : Nat) (p w : Nat → Nat) : Prop := ∀ c, c < NN kd n → p c < 4096 ∧ w c ≤ CW
theorem LF.tb {P W : Nat → Nat} {b t : Nat} (hn : n < 6) (h : LF (NN kd n) n (tnC kd n) (opC kd wd n BE) b t P W) : Tb2 kd n P W := fun c hc => ⟨by have := h.1 c hc; have := NN_le (kd := kd) hn; omega, h.2.2.2.2.2.2.1 c hc⟩
theorem least_r {p w : Nat → Nat} (h : Rr kd wd n BE CE g μ) (hT : TM kd n p w μ) (hB : Tb2 kd n p w) (hc : c < NN kd n) : fX12_leastOf (nu kd n c : Int) μ = some ((p c : Int) - 1) := by
  unfold fX12_leastOf
  rw [part_r h hT hc (hB c hc).1 (hB c hc).2, Option.bind_some]
theorem nearer_r {P W : Nat → Nat} {b t : Nat} (h : Rr kd wd n BE CE g μ) (hT : TM kd n P W μ) (hB : Tb2 kd n P W) (hc : c < NN kd n) : Ok (fX12_nearer (nu kd n c : Int) μ) (fun o => o.1 = ftI n (tnC kd n) (opC kd wd n BE) (fun c => (P c : Int) - 1) c ∧ Dl μ o.2 ∧ Ld kd wd n BE CE 0 c o.2) := by
  have hn := h.1.1
  have hp := h.gp
  unfold fX12_nearer
  refine Ok.then (leads_r (b := 0) (by omega) h hc) ?_
  rintro θ ⟨hD, hLd⟩
  have hR := h.dl hD
  have hTθ := hT.dl hD
  simp only [lt]
  rw [hR.2.1.1]
  refine Ok.bind ?_
  refine Ok.imp (loop_I (Q := fun o : Int × Mem => o.1 = ftI n (tnC kd n) (opC kd wd n BE) (fun c => (P c : Int) - 1) c ∧ o.2 = θ) _ (fun s : Int × Int × Mem => s.2.1.toNat) (fun s : Int × Int × Mem => ∃ m : Nat, s.2.1 = (m : Int) ∧ m ≤ n ∧ s.2.2 = θ ∧ s.1 = (if 0 < (P c : Int) - 1 then lst (nxB (tnC kd n) (opC kd wd n BE) (fun c => (P c : Int) - 1) c) (n - m) (m + 1) else -1)) ⟨n, rfl, by omega, rfl, ?_⟩ (by show (n : Int).toNat < _; omega) ?_) ?_
  · rw [Nat.sub_self]
    dsimp only
    split <;> rfl
  · rintro ⟨a, b', ρ⟩ ⟨m, e1, hm, e2, e3⟩
    dsimp only at e1 e2 e3 ⊢
    subst e1 e2 e3
    unfold fX12_nearer_b13
    rw [w32_n (a := m) (by omega), w32_1]
    by_cases hm0 : m = 0
    · subst hm0
      rw [if_pos (by omega), Ok_some]
      exact ⟨rfl, rfl⟩
    · have hnext : ∀ v : Int, v = (if 0 < (P c : Int) - 1 then lst (nxB (tnC kd n) (opC kd wd n BE) (fun c => (P c : Int) - 1) c) (n - (m - 1)) (m - 1 + 1) else -1) → Ok (some (Sum.inl (v, (m : Int) + (-1), ρ) : (Int × Int × Mem) ⊕ (Int × Mem))) (Sum.elim (fun s2 => (∃ m : Nat, s2.2.1 = (m : Int) ∧ m ≤ n ∧ s2.2.2 = ρ ∧ s2.1 = (if 0 < (P c : Int) - 1 then lst (nxB (tnC kd n) (opC kd wd n BE) (fun c => (P c : Int) - 1) c) (n - m) (m + 1) else -1)) ∧ s2.2.1.toNat < (m : Int).toNat) (fun o => o.1 = ftI n (tnC kd n) (opC kd wd n BE) (fun c => (P c : Int) - 1) c ∧ o.2 = ρ)) := fun v hv => by
        rw [Ok_some]
        exact ⟨⟨m - 1, by dsimp only; omega, by omega, rfl, hv⟩, by dsimp only; omega⟩
      have hL1 : n - (m - 1) = (n - m) + 1 := by omega
      have hL2 : m - 1 + 1 = m := by omega
      rw [hL1, hL2] at hnext
      obtain ⟨l1, -⟩ := hLd m (by omega) hm
      obtain ⟨hd, -, -, -⟩ := hp.2.2.2 c m hc (by omega) hm
      obtain ⟨hnud, hN⟩ := h.nul hd
      have hPc := hB c hc
      have hPd := hB _ hd
      rw [if_neg (by omega), part_r hR hTθ hc hPc.1 hPc.2, Option.bind_some, w32_n (a := P c) (by omega)]
      by_cases h0 : 0 < (P c : Int) - 1
      · simp only [if_pos h0] at hnext ⊢
        rw [if_neg (by omega), gd_pos (by omega), Int.toNat_natCast, l1]
        by_cases hop : opC kd wd n BE c m = true
        · have e5 : (decide (m ≠ 0) && opC kd wd n BE c m) = true := by rw [hop]; simp [hm0]
          rw [if_pos e5, w32_n (a := nu kd n (tnC kd n c m)) (by omega), if_neg (by omega), gd_pos (by omega), part_r hR hTθ hd hPd.1 hPd.2, Option.bind_some, Option.bind_some]
          simp only [lt]
          rw [w32_n (a := P (tnC kd n c m)) (by omega), w32_eq (x := (P c : Int) - 1) (by omega) (by omega)]
          refine hnext _ ?_
          rw [lst]
          unfold nxB
          rw [hop, Bool.true_and]
          by_cases e6 : (P (tnC kd n c m) : Int) = (P c : Int) - 1
          · rw [if_pos e6, if_pos (by simp; omega)]
          · rw [if_neg e6, if_neg (by simp; omega)]
        · have e5 : ¬ (decide (m ≠ 0) && opC kd wd n BE c m) = true := by simp [hop]
          rw [if_neg e5, if_pos (by decide)]
          refine hnext _ ?_
          rw [lst, if_neg (by unfold nxB; simp [hop])]
      · simp only [if_neg h0] at hnext ⊢
        rw [if_pos (by omega)]
        exact hnext _ rfl
  · rintro ⟨a, ρ⟩ ⟨h1, h2⟩
    dsimp only at h1 h2 ⊢
    subst h2
    rw [Ok_some]
    exact ⟨h1, hD, hLd⟩
theorem never_r {P W : Nat → Nat} (h : Rr kd wd n BE CE g μ) (hT : TM kd n P W μ) (hB : Tb2 kd n P W) : loopN (fun s => fX12_never_b13 s.1 s.2.1 s.2.2) FU (0, 0, μ) = some (((cn (NN kd n) (fun c => decide (P c = 0)) : Nat) : Int), μ) := by
  have hn := h.1.1
  have hN := NN_le (kd := kd) hn
  apply Ok_val
  rw [← cn_ui hn]
  refine loop_FU (NN kd n) (fun (i : Nat) (s : Int × Int × Mem) => s.1 = ((cn i (fun i => decide (P (ui kd n i) = 0)) : Nat) : Int) ∧ s.2.1 = (i : Int) ∧ s.2.2 = μ) 0 ⟨rfl, rfl, rfl⟩ (by omega) (by omega) ?_ ?_
  · rintro i ⟨x, y, θ⟩ hi ⟨e1, e2, e3⟩
    dsimp only at e1 e2 e3 ⊢
    subst e1 e2 e3
    obtain ⟨c, hc, rfl⟩ := nu_all hn hi
    have hPc := hB c hc
    unfold fX12_never_b13
    simp only [lt]
    rw [h.stk, Option.bind_some, w32_n (a := nu kd n c) (by omega), w32_n (a := NN kd n) (by omega), if_pos (by omega), least_r h hT hB hc, Option.bind_some, w32_eq (x := (P c : Int) - 1) (by omega) (by omega), Ok_some]
    refine ⟨?_, by push_cast; rfl, rfl⟩
    dsimp only
    rw [cn_succ, ui_nu hn hc]
    by_cases e : P c = 0
    · rw [if_pos (by omega), if_pos (by simp [e])]; push_cast; rfl
    · rw [if_neg (by omega), if_neg (by simp [e])]; rfl
  · rintro ⟨x, y, θ⟩ ⟨e1, e2, e3⟩
    dsimp only at e1 e2 e3 ⊢
    subst e1 e2 e3
    unfold fX12_never_b13
    rw [h.stk, Option.bind_some, w32_n (a := NN kd n) (by omega), if_neg (by omega), Ok_some]
    rfl
theorem spread_r {P W : Nat → Nat} {a : Int} (h : Rr kd wd n BE CE g μ) (hT : TM kd n P W μ) (hB : Tb2 kd n P W) : fX12_spreadOf a μ = some (cn (NN kd n) (fun c => decide ((P c : Int) - 1 = w32 a)) : Int) := by
  have hn := h.1.1
  have hN := NN_le (kd := kd) hn
  apply Ok_val
  unfold fX12_spreadOf
  refine Ok.bind ?_
  rw [← cn_ui hn]
  refine loop_FU (NN kd n) (fun (i : Nat) (s : Int × Int) => s.1 = ((cn i (fun i => decide ((P (ui kd n i) : Int) - 1 = w32 a)) : Nat) : Int) ∧ s.2 = (i : Int)) 0 ⟨rfl, rfl⟩ (by omega) (by omega) ?_ ?_
  · rintro i ⟨x, y⟩ hi ⟨e1, e2⟩
    dsimp only at e1 e2 ⊢
    subst e1 e2
    obtain ⟨c, hc, rfl⟩ := nu_all hn hi
    have hPc := hB c hc
    unfold fX12_spreadOf_b4
    simp only [lt]
    rw [h.stk, Option.bind_some, w32_n (a := nu kd n c) (by omega), w32_n (a := NN kd n) (by omega), if_pos (by omega), least_r h hT hB hc, Option.bind_some, w32_eq (x := (P c : Int) - 1) (by omega) (by omega), Ok_some]
    refine ⟨?_, by push_cast; rfl⟩
    dsimp only
    rw [cn_succ, ui_nu hn hc]
    by_cases e : (P c : Int) - 1 = w32 a
    · rw [if_pos e, if_pos (by simp [e])]; push_cast; rfl
    · rw [if_neg e, if_neg (by simp [e])]; rfl
  · rintro ⟨x, y⟩ ⟨e1, e2⟩
    dsimp only at e1 e2 ⊢
    subst e1 e2
    unfold fX12_spreadOf_b4
    rw [h.stk, Option.bind_some, w32_n (a := NN kd n) (by omega), if_neg (by omega), Ok_some]
    show Ok _ _
    rw [Ok_some]
end REFREAD
