/-! ===== level 2: by chance, in the reference ===== -/
/-- whether the digits of i lead to being served -/
def HB (n : Nat) (tn : Nat → Nat → Nat) (op : Nat → Nat → Bool) (ev : Bool) (g : Nat) : Nat → Nat → Bool → Nat → Bool
  | 0, c, fl, _ => if ev = true then fl else decide (c = g)
  | k + 1, c, fl, i => HB n tn op ev g k (stp tn op false g c (i % n + 1)) (fl || decide (stp tn op false g c (i % n + 1) = g)) (i / n)
theorem stp_f {tn : Nat → Nat → Nat} {op : Nat → Nat → Bool} {ev : Bool} {g s m : Nat} (h : ev = false ∨ s ≠ g) : stp tn op ev g s m = stp tn op false g s m := by
  unfold stp
  rcases h with rfl | h
  · rfl
  · simp [h]
theorem Vw_g {n : Nat} {tn : Nat → Nat → Nat} {op : Nat → Nat → Bool} {g : Nat} : ∀ k, Vw n tn op true g k g = n ^ k
  | 0 => by rw [Vw, if_pos rfl, Nat.pow_zero]
  | k + 1 => by
    rw [Vw, sm_congr (g := fun _ => n ^ k) (fun d _ => ?_), sm_const, Nat.pow_succ, Nat.mul_comm]
    have : stp tn op true g g (d + 1) = g := by unfold stp; simp
    rw [this, Vw_g k]
theorem HB_sum {n : Nat} {tn : Nat → Nat → Nat} {op : Nat → Nat → Bool} {ev : Bool} {g : Nat} (hn : 0 < n) : ∀ (k c : Nat) (fl : Bool), (ev = true → c = g → fl = true) → cn (n ^ k) (HB n tn op ev g k c fl) = if (ev && fl) = true then n ^ k else Vw n tn op ev g k c
  | 0, c, fl, h => by
    unfold cn
    rw [Nat.pow_zero, sm, sm, HB, Vw]
    cases ev
    · simp
    · cases fl
      · have : c ≠ g := fun q => absurd (h rfl q) (by decide)
        simp [this]
      · simp
  | k + 1, c, fl, h => by
    have hd : cn (n ^ (k + 1)) (HB n tn op ev g (k + 1) c fl) = sm n (fun d => cn (n ^ k) (HB n tn op ev g k (stp tn op false g c (d + 1)) (fl || decide (stp tn op false g c (d + 1) = g)))) := by
      unfold cn
      rw [Nat.pow_succ, ← sm_comm, ← sm_digits (F := fun d j => if HB n tn op ev g k (stp tn op false g c (d + 1)) (fl || decide (stp tn op false g c (d + 1) = g)) j = true then 1 else 0) hn]
      exact sm_congr (fun i _ => by rw [HB])
    rw [hd, sm_congr (fun d _ => HB_sum hn k _ _ (fun _ q => by rw [decide_eq_true q, Bool.or_true]))]
    cases ev
    · simp only [Bool.false_and]
      rw [if_neg (by decide), Vw]
      exact sm_congr (fun d _ => by rw [if_neg (by decide)])
    · cases fl
      · have hcg : c ≠ g := fun q => absurd (h rfl q) (by decide)
        simp only [Bool.true_and, Bool.false_or]
        rw [if_neg (by decide), Vw]
        refine sm_congr (fun d _ => ?_)
        rw [stp_f (ev := true) (Or.inr hcg)]
        by_cases q : stp tn op false g c (d + 1) = g
        · rw [if_pos (decide_eq_true q), q, Vw_g]
        · rw [if_neg (by simpa using q)]
      · simp only [Bool.true_and, Bool.true_or]
        rw [if_pos trivial, sm_congr (g := fun _ => n ^ k) (fun d _ => if_pos trivial), sm_const, Nat.pow_succ, Nat.mul_comm]
section CHANCER
variable {n g : Nat} {kd wd : Nat → Nat} {BE CE : LawF} {μ ν : Mem} {c : Nat} {ev : Bool}
theorem walk_r {T c i : Nat} {a b d : Int} (hT : T ≤ 6) (hi : i ≤ 20000) (hn1 : 1 ≤ n) (h : Rr kd wd n BE CE g μ) (hc : c < NN kd n) (hL : Ly kd n c μ) :
    Ok (loopN (fun s => fX12_chance_b83 (T : Int) ev a b d s.1 s.2.1 s.2.2.1 s.2.2.2) FU (decide (c = g), (i : Int), 0, μ)) (fun o => Dk μ o.2 ∧ (if ev = true then o.1 = HB n (tnC kd n) (opC kd wd n BE) ev g T c (decide (c = g)) i else ∃ c', c' < NN kd n ∧ Ly kd n c' o.2 ∧ decide (c' = g) = HB n (tnC kd n) (opC kd wd n BE) ev g T c (decide (c = g)) i)) := by
  have hn := h.1.1
  have hp := h.gp
  have h0 : ∀ (k c : Nat) (fl : Bool) (i : Nat), k = 0 → HB n (tnC kd n) (opC kd wd n BE) ev g k c fl i = if ev = true then fl else decide (c = g) := fun k c fl i e => by subst e; rw [HB]
  refine loop_FU T (fun (t : Nat) (s : Bool × Int × Int × Mem) => ∃ (c' i' : Nat), c' < NN kd n ∧ i' ≤ 20000 ∧ s.2.1 = (i' : Int) ∧ s.2.2.1 = (t : Int) ∧ Dk μ s.2.2.2 ∧ Ly kd n c' s.2.2.2 ∧ (s.1 = false → c' ≠ g) ∧ HB n (tnC kd n) (opC kd wd n BE) ev g (T - t) c' s.1 i' = HB n (tnC kd n) (opC kd wd n BE) ev g T c (decide (c = g)) i) 0 ⟨c, i, hc, hi, rfl, rfl, Dk.rf, hL, fun q => by simpa using q, by rw [Nat.sub_zero]⟩ (by omega) (by omega) ?_ ?_
  · rintro t ⟨fl, x, y, ρ⟩ ht ⟨c', i', hc', hi', e1, e2, hD, hL', hfl, hH⟩
    dsimp only at e1 e2 hD hL' hfl hH ⊢
    subst e1 e2
    have hR := h.dk hD
    have hm : i' % n < n := Nat.mod_lt _ (by omega)
    have eT : T - t = (T - (t + 1)) + 1 := by omega
    rw [eT, HB] at hH
    have hdl : i' / n ≤ 20000 := Nat.le_trans (Nat.div_le_self _ _) hi'
    have hst : stp (tnC kd n) (opC kd wd n BE) false g c' (i' % n + 1) = if opC kd wd n BE c' (i' % n + 1) = true then tnC kd n c' (i' % n + 1) else c' := by
      unfold stp; simp
    have j124 : ∀ (c2 : Nat) (θ : Mem), c2 < NN kd n → stp (tnC kd n) (opC kd wd n BE) false g c' (i' % n + 1) = c2 → Dk μ θ → Ly kd n c2 θ → Ok (fX12_chance_j124 (T : Int) ev a b d fl ((i' / n : Nat) : Int) (t : Int) θ) (Sum.elim (fun s => ∃ (c' i' : Nat), c' < NN kd n ∧ i' ≤ 20000 ∧ s.2.1 = (i' : Int) ∧ s.2.2.1 = ((t + 1 : Nat) : Int) ∧ Dk μ s.2.2.2 ∧ Ly kd n c' s.2.2.2 ∧ (s.1 = false → c' ≠ g) ∧ HB n (tnC kd n) (opC kd wd n BE) ev g (T - (t + 1)) c' s.1 i' = HB n (tnC kd n) (opC kd wd n BE) ev g T c (decide (c = g)) i) (fun o => Dk μ o.2 ∧ (if ev = true then o.1 = HB n (tnC kd n) (opC kd wd n BE) ev g T c (decide (c = g)) i else ∃ c', c' < NN kd n ∧ Ly kd n c' o.2 ∧ decide (c' = g) = HB n (tnC kd n) (opC kd wd n BE) ev g T c (decide (c = g)) i))) := fun c2 θ hc2 hs hDθ hLθ => by
      rw [hs] at hH
      unfold fX12_chance_j124
      cases fl
      · rw [if_neg (by decide), (h.dk hDθ).srv hc2 hLθ, Option.bind_some]
        simp only [lt]
        rw [show (if decide (c2 = g) = true then true else false) = decide (c2 = g) from by cases decide (c2 = g) <;> rfl, Ok_some]
        refine ⟨c2, i' / n, hc2, hdl, rfl, by push_cast; rfl, hDθ, hLθ, fun q => by simpa using q, ?_⟩
        rw [Bool.false_or] at hH
        exact hH
      · rw [if_pos rfl]
        unfold fX12_chance_j136
        rw [Ok_some]
        refine ⟨c2, i' / n, hc2, hdl, rfl, by push_cast; rfl, hDθ, hLθ, fun q => absurd (show true = false from q) (by decide), ?_⟩
        rw [Bool.true_or] at hH
        exact hH
    unfold fX12_chance_b83
    simp only [lt]
    rw [w32_n (a := t) (by omega), w32_n (a := T) (by omega), if_pos (by omega), hR.2.1.1, w32_n (a := n) (by omega), gd_pos (by omega), gd_pos (by omega), i_rem_n (by omega) (by omega), i_div_n (by omega) (by omega)]
    have em : ((i' % n : Nat) : Int) + 1 = ((i' % n + 1 : Nat) : Int) := by push_cast; rfl
    rw [em]
    refine Ok.then (hR.may hc' (by omega) (by omega) hL') ?_
    rintro ⟨o1, θ⟩ ⟨ho, hLθ, hDθ⟩
    dsimp only at ho hLθ hDθ ⊢
    subst ho
    have hRθ := hR.dk hDθ
    by_cases hop : opC kd wd n BE c' (i' % n + 1) = true
    · rw [if_pos hop]
      refine Ok.then (hRθ.turn hc' (by omega) (by omega) hLθ) ?_
      rintro θ2 ⟨hL2, hD2⟩
      exact j124 _ θ2 (hp.2.2.2 c' _ hc' (by omega) (by omega)).1 (by rw [hst, if_pos hop]) ((hD.tr hDθ).tr hD2) hL2
    · rw [if_neg hop]
      exact j124 c' θ hc' (by rw [hst, if_neg hop]) (hD.tr hDθ) hLθ
  · rintro ⟨fl, x, y, ρ⟩ ⟨c', i', hc', hi', e1, e2, hD, hL', hfl, hH⟩
    dsimp only at e1 e2 hD hL' hfl hH ⊢
    subst e1 e2
    unfold fX12_chance_b83
    rw [w32_n (a := T) (by omega), if_neg (by omega), Ok_some]
    rw [h0 _ _ _ _ (Nat.sub_self T)] at hH
    refine ⟨hD, ?_⟩
    cases ev
    · rw [if_neg (by decide)] at hH ⊢
      exact ⟨c', hc', hL', hH⟩
    · rw [if_pos rfl] at hH ⊢
      exact hH
theorem chance_r {c T : Nat} (h : Rr kd wd n BE CE g μ) (hc : c < NN kd n) (h88 : μ 88 0 = nu kd n c) (hn1 : 1 ≤ n) (hT1 : 1 ≤ T) (hT : T ≤ 6) :
    Ok (fX12_chance (T : Int) ev μ) (fun o => o.1 = chI n T (Vw n (tnC kd n) (opC kd wd n BE) ev g T c) ∧ Dk (upd2 μ 75 0 0) o.2) := by
  have hn := h.1.1
  have hpp : 0 < n ^ T := Nat.pow_pos (by omega)
  have hpb := pow_b (i := T) hn (Nat.le_refl _) hT
  have hwi : fX12_within (T : Int) 1 6 = true := by
    unfold fX12_within
    rw [w32_n (a := T) (by omega), w32_1, show w32 6 = 6 from by decide]
    simp only [lt]
    rw [if_neg (by omega), if_pos (by omega)]
  unfold fX12_chance
  simp only [lt]
  generalize hμ1 : upd2 μ 75 0 0 = μ1
  have hR1 : Rr kd wd n BE CE g μ1 := h.same (by rw [← hμ1, upd2_ne (by omega)]) (by rw [← hμ1, upd2_ne (by omega)])
  have h881 : μ1 88 0 = nu kd n c := by rw [← hμ1, upd2_ne (by omega)]; exact h88
  rw [if_pos hwi, hR1.2.1.1, w32_n (a := n) (by omega), if_neg (by omega)]
  have hpw : loopN (fun s => fX12_chance_b29 (T : Int) ev s.1 s.2.1 s.2.2) FU (1, 0, μ1) = some (((n ^ T : Nat) : Int), μ1) := by
    apply Ok_val
    refine loop_FU T (fun (i : Nat) (s : Int × Int × Mem) => s.1 = ((n ^ i : Nat) : Int) ∧ s.2.1 = (i : Int) ∧ s.2.2 = μ1) 0 ⟨rfl, rfl, rfl⟩ (by omega) (by omega) ?_ ?_
    · rintro i ⟨x, y, θ⟩ hi ⟨e1, e2, e3⟩
      dsimp only at e1 e2 e3 ⊢
      subst e1 e2 e3
      unfold fX12_chance_b29
      simp only [lt]
      rw [w32_n (a := i) (by omega), w32_n (a := T) (by omega), if_pos (by omega), hR1.2.1.1, Ok_some]
      refine ⟨?_, by push_cast; rfl, rfl⟩
      dsimp only
      rw [Nat.pow_succ]; push_cast; rfl
    · rintro ⟨x, y, θ⟩ ⟨e1, e2, e3⟩
      dsimp only at e1 e2 e3 ⊢
      subst e1 e2 e3
      unfold fX12_chance_b29
      rw [w32_n (a := T) (by omega), if_neg (by omega), Ok_some]
      rfl
  rw [hpw, Option.bind_some]
  dsimp only
  have hsum := HB_sum (n := n) (tn := tnC kd n) (op := opC kd wd n BE) (ev := ev) (g := g) (by omega) T c (decide (c = g)) (fun _ q => decide_eq_true q)
  have hsum2 : cn (n ^ T) (HB n (tnC kd n) (opC kd wd n BE) ev g T c (decide (c = g))) = Vw n (tnC kd n) (opC kd wd n BE) ev g T c := by
    rw [hsum]
    by_cases q : c = g
    · cases ev
      · rw [if_neg (by simp)]
      · rw [if_pos (by rw [decide_eq_true q]; rfl), q, Vw_g]
    · rw [if_neg (by simp [q])]
  refine Ok.then (loop_FU (Q := fun o : Int × Mem => o.1 = ((Vw n (tnC kd n) (opC kd wd n BE) ev g T c : Nat) : Int) ∧ Dk μ1 o.2) (n ^ T) (fun (i : Nat) (s : Int × Int × Mem) => s.1 = ((cn i (HB n (tnC kd n) (opC kd wd n BE) ev g T c (decide (c = g))) : Nat) : Int) ∧ s.2.1 = (i : Int) ∧ Dk μ1 s.2.2) 0 ⟨rfl, rfl, Dk.rf⟩ (by omega) (by omega) ?_ ?_) ?_
  · rintro i ⟨x, y, θ⟩ hi ⟨e1, e2, hD⟩
    dsimp only at e1 e2 hD ⊢
    subst e1 e2
    have hR := hR1.dk hD
    have h88θ : θ 88 0 = nu kd n c := by rw [hD 88 (by omega) (by omega) (by omega) (by omega)]; exact h881
    unfold fX12_chance_b54
    simp only [lt]
    rw [w32_n (a := i) (by omega), w32_n (a := n ^ T) (by omega), if_pos (by omega), h88θ]
    refine Ok.then (hR.lay hc) ?_
    rintro θ1 ⟨hL1, hD1⟩
    have hR2 := hR.dk hD1
    rw [hR2.srv hc hL1, Option.bind_some]
    refine Ok.then (walk_r (ev := ev) hT (by omega) hn1 hR2 hc hL1) ?_
    rintro ⟨fl, θ2⟩ ⟨hD2, hres⟩
    dsimp only at hD2 hres ⊢
    have hfin : ∀ bb : Bool, bb = HB n (tnC kd n) (opC kd wd n BE) ev g T c (decide (c = g)) i → Ok (some (Sum.inl (((cn i (HB n (tnC kd n) (opC kd wd n BE) ev g T c (decide (c = g))) : Nat) : Int) + (if bb = true then 1 else 0), (i : Int) + 1, θ2) : (Int × Int × Mem) ⊕ (Int × Mem))) (Sum.elim (fun s => s.1 = ((cn (i + 1) (HB n (tnC kd n) (opC kd wd n BE) ev g T c (decide (c = g))) : Nat) : Int) ∧ s.2.1 = ((i + 1 : Nat) : Int) ∧ Dk μ1 s.2.2) (fun o => o.1 = ((Vw n (tnC kd n) (opC kd wd n BE) ev g T c : Nat) : Int) ∧ Dk μ1 o.2)) := fun bb hbb => by
      rw [Ok_some]
      refine ⟨?_, by push_cast; rfl, (hD.tr hD1).tr hD2⟩
      dsimp only
      rw [cn_succ, ← hbb]
      cases bb <;> rfl
    cases ev
    · rw [if_neg (by decide)] at hres ⊢
      obtain ⟨c', hc', hL', hh⟩ := hres
      rw [(hR2.dk hD2).srv hc' hL', Option.bind_some]
      exact hfin _ hh
    · rw [if_pos rfl] at hres ⊢
      exact hfin _ hres
  · rintro ⟨x, y, θ⟩ ⟨e1, e2, hD⟩
    dsimp only at e1 e2 hD ⊢
    subst e1 e2
    unfold fX12_chance_b54
    rw [w32_n (a := n ^ T) (by omega), if_neg (by omega), Ok_some]
    exact ⟨by rw [hsum2], hD⟩
  · rintro ⟨x, θ⟩ ⟨e1, hD⟩
    dsimp only at e1 hD ⊢
    subst e1
    rw [w32_n (a := n ^ T) (by omega), w64_nn (a := n ^ T) (by omega), gd_pos (by omega), Ok_some]
    exact ⟨rfl, hD⟩
end CHANCER
