/-! ===== level 2: the reference's table of the least sums ===== -/
section BILLR
variable {n g : Nat} {kd wd : Nat → Nat} {BE CE : LawF} {μ ν : Mem} {c : Nat}
/-- the table holds sums and 1 -/
def TC (kd : Nat → Nat) (n : Nat) (F : Nat → Int) (μ : Mem) : Prop := ∀ c, c < NN kd n → μ 92 (nu kd n c) = F c + 1
theorem TC.dk {F : Nat → Int} (h : TC kd n F μ) (hD : Dk μ ν) : TC kd n F ν := fun c hc => by rw [hD 92 (by omega) (by omega) (by omega) (by omega)]; exact h c hc
theorem TC.put {F : Nat → Int} {v a : Int} (hn : n < 6) (hT : TC kd n F μ) (hc : c < NN kd n) (hv : v = a + 1) : TC kd n (fun d => if d = c then a else F d) (upd2 μ 92 (nu kd n c) v) := by
  intro d hd
  rw [upd2_self]
  dsimp only
  by_cases e : d = c
  · subst e; rw [if_pos rfl, if_pos rfl, hv]
  · rw [if_neg (fun q => e (nu_inj hn hd hc q)), if_neg e]; exact hT d hd
theorem w64_s {x : Int} (h1 : -1000000 ≤ x) (h2 : x < 1000000) : w64 x = x := w64_eq (by omega) (by omega)
/-- one turn of one stack of the level -/
theorem cheap3 {d m : Nat} {v : Nat} {F : Nat → Int} {top : Int} (h : Rr kd wd n BE CE g μ) (hd : d < NN kd n) (hm1 : 1 ≤ m) (hm : m ≤ n) (hT : TC kd n F μ) (hFb : ∀ c, c < NN kd n → -1 ≤ F c ∧ F c ≤ 34560) (hFd : F d = v) (htop : 0 ≤ top ∧ top ≤ 34560) (hI : BI (NN kd n) n (tnC kd n) (opC kd wd n BE) (prC kd wd n CE) g (nu kd n) v (nu kd n d) m F) (hle : ∀ c, c < NN kd n → F c ≤ top) :
    Ok (fX12_laysCheap_b78 ((v + 1 : Nat) : Int) (nu kd n d : Int) (top + 1) (m : Int) μ) (Sum.elim (fun s => s.2.1 = ((m + 1 : Nat) : Int) ∧ Df μ s.2.2 ∧ ∃ F', TC kd n F' s.2.2 ∧ BI (NN kd n) n (tnC kd n) (opC kd wd n BE) (prC kd wd n CE) g (nu kd n) v (nu kd n d) (m + 1) F' ∧ F' d = v ∧ (∀ c, c < NN kd n → F' c ≤ s.1 - 1) ∧ (s.1 - 1 = top ∨ (top ≤ s.1 - 1 ∧ s.1 - 1 ≤ v + 9)) ∧ ∀ x0, cB (NN kd n) F' (nu kd n) v x0 = cB (NN kd n) F (nu kd n) v x0) (fun _ => False)) := by
  have hp := h.gp
  have hn := h.1.1
  obtain ⟨hnud, hN⟩ := h.nul hd
  have hvb : v ≤ 34560 := by have := (hFb d hd).2; omega
  obtain ⟨hc, hcc, -, -⟩ := hp.2.2.2 d m hd hm1 hm
  obtain ⟨-, -, hp1, hp9⟩ := hp.2.2.2 (tnC kd n d m) m hc hm1 hm
  obtain ⟨hnuc, -⟩ := h.nul hc
  obtain ⟨st1, st2⟩ := hI.step hp (fun i j hi hj q => nu_inj hn hi hj q) (by omega) hd hm1 hm hFd rfl
  unfold fX12_laysCheap_b78
  rw [h.2.1.1, w32_n (a := m) (by omega), w32_n (a := n) (by omega), if_pos (by omega), w32_n (a := nu kd n d) (by omega), gd_pos (by omega), Int.toNat_natCast, hT d hd, hFd, w64_s (x := (v : Int) + 1) (by omega) (by omega), w64_nn (by omega), if_pos (by omega)]
  refine Ok.then (h.lay hd) ?_
  rintro θ1 ⟨hL1, hK1⟩
  have hR1 := h.dk hK1
  refine Ok.then (hR1.turn hd hm1 hm hL1) ?_
  rintro θ2 ⟨hL2, hK2⟩
  have hR2 := hR1.dk hK2
  refine Ok.then (hR2.may hc hm1 hm hL2) ?_
  rintro ⟨o1, θ3⟩ ⟨ho, hL3, hK3⟩
  dsimp only at ho hL3 hK3 ⊢
  subst ho
  have hR3 := hR2.dk hK3
  have hK13 := (hK1.tr hK2).tr hK3
  by_cases hop : opC kd wd n BE (tnC kd n d m) m = true
  · rw [if_pos hop, hR3.num hc hL3, Option.bind_some]
    refine Ok.then (hR3.cost hc hm hL3) ?_
    rintro ⟨o1, θ4⟩ ⟨ho, hL4, hK4⟩
    dsimp only at ho hL4 hK4 ⊢
    subst ho
    have hK14 := hK13.tr hK4
    have hT4 := hT.dk hK14
    have hFc := hFb _ hc
    simp only [lt]
    have e1 : ((v + 1 : Nat) : Int) + w32 (prC kd wd n CE (tnC kd n d m) m : Int) = (v : Int) + prC kd wd n CE (tnC kd n d m) m + 1 := by
      rw [w32_n (by omega)]; push_cast; omega
    have j180 : ∀ (a : Int), (a = (v : Int) + prC kd wd n CE (tnC kd n d m) m ∧ (F (tnC kd n d m) = -1 ∨ (v : Int) + prC kd wd n CE (tnC kd n d m) m < F (tnC kd n d m))) ∨ (a = F (tnC kd n d m) ∧ ¬ (F (tnC kd n d m) = -1 ∨ (v : Int) + prC kd wd n CE (tnC kd n d m) m < F (tnC kd n d m))) → Ok (fX12_laysCheap_j180 ((v + 1 : Nat) : Int) (nu kd n d : Int) (top + 1) (m : Int) ((v : Int) + prC kd wd n CE (tnC kd n d m) m + 1) (a + 1) (nu kd n (tnC kd n d m) : Int) θ4) (Sum.elim (fun s => s.2.1 = ((m + 1 : Nat) : Int) ∧ Df μ s.2.2 ∧ ∃ F', TC kd n F' s.2.2 ∧ BI (NN kd n) n (tnC kd n) (opC kd wd n BE) (prC kd wd n CE) g (nu kd n) v (nu kd n d) (m + 1) F' ∧ F' d = v ∧ (∀ c, c < NN kd n → F' c ≤ s.1 - 1) ∧ (s.1 - 1 = top ∨ (top ≤ s.1 - 1 ∧ s.1 - 1 ≤ v + 9)) ∧ ∀ x0, cB (NN kd n) F' (nu kd n) v x0 = cB (NN kd n) F (nu kd n) v x0) (fun _ => False)) := fun a ha => by
      unfold fX12_laysCheap_j180
      simp only [lt]
      have hmost : (if w64 ((v : Int) + prC kd wd n CE (tnC kd n d m) m + 1) ≤ w64 (top + 1) then top + 1 else (v : Int) + prC kd wd n CE (tnC kd n d m) m + 1) = max top ((v : Int) + prC kd wd n CE (tnC kd n d m) m) + 1 := by
        rw [w64_s (by omega) (by omega), w64_s (by omega) (by omega)]
        split <;> omega
      rw [w32_n (by omega), gd_pos (by omega), Int.toNat_natCast, hmost, Ok_some]
      have hT5 := TC.put (a := a) hn hT4 hc rfl
      rcases ha with ⟨q1, q2⟩ | ⟨q1, q2⟩
      · subst q1
        have hdc : d ≠ tnC kd n d m := fun e => by
          rw [← e] at q2 hp1
          rcases q2 with q | q <;> omega
        refine ⟨by push_cast; rfl, hK14.df.tr Df.put, _, hT5, st1 hop q2, by rw [if_neg hdc]; exact hFd, fun x hx => ?_, ?_, fun x0 => cB_upd (by omega) (by rcases q2 with q | q <;> omega) (by omega)⟩
        · have := hle x hx
          dsimp only
          split <;> omega
        · dsimp only; omega
      · have hsame : (fun x => if x = tnC kd n d m then a else F x) = F := by
          funext x
          by_cases e : x = tnC kd n d m
          · rw [if_pos e, q1, e]
          · rw [if_neg e]
        rw [hsame] at hT5
        refine ⟨by push_cast; rfl, hK14.df.tr Df.put, F, hT5, st2 (fun q => q2 q.2), hFd, fun x hx => ?_, ?_, fun _ => rfl⟩
        · have := hle x hx
          dsimp only
          omega
        · dsimp only; omega
    have hw0 : w64 0 = 0 := by decide
    rw [e1, w32_n (a := nu kd n (tnC kd n d m)) (by omega), gd_pos (by omega), Int.toNat_natCast, gd_pos (by omega), gd_pos (by omega)]
    unfold fX12_laysCheap_j168
    refine Ok.ite (fun c1 => ?_) (fun c1 => ?_)
    · rw [hT4 _ hc, w64_s (x := F (tnC kd n d m) + 1) (by omega) (by omega), hw0] at c1
      exact j180 _ (Or.inl ⟨rfl, Or.inl (by omega)⟩)
    · rw [hT4 _ hc, w64_s (x := F (tnC kd n d m) + 1) (by omega) (by omega), hw0] at c1
      refine Ok.ite (fun c2 => ?_) (fun c2 => ?_)
      · rw [hT4 _ hc, w64_s (x := F (tnC kd n d m) + 1) (by omega) (by omega), w64_s (x := (v : Int) + prC kd wd n CE (tnC kd n d m) m + 1) (by omega) (by omega)] at c2
        exact j180 _ (Or.inl ⟨rfl, Or.inr (by omega)⟩)
      · rw [hT4 _ hc, w64_s (x := F (tnC kd n d m) + 1) (by omega) (by omega), w64_s (x := (v : Int) + prC kd wd n CE (tnC kd n d m) m + 1) (by omega) (by omega)] at c2
        rw [hT4 _ hc]
        exact j180 _ (Or.inr ⟨rfl, by omega⟩)
  · rw [if_neg hop, Ok_some]
    refine ⟨by push_cast; rfl, hK13.df, F, hT.dk hK13, st2 (fun q => hop q.1), hFd, fun x hx => ?_, ?_, fun _ => rfl⟩
    · have := hle x hx; dsimp only; omega
    · dsimp only; omega
theorem BI.bnd {F : Nat → Int} {v top : Int} {x0 m0 : Nat} {r : Nat → Nat} {N goal : Nat} {tn : Nat → Nat → Nat} {op : Nat → Nat → Bool} {pr : Nat → Nat → Nat} (hI : BI N n tn op pr goal r v x0 m0 F) (h : ∀ c, c < N → F c ≤ top) (ht : top ≤ 34560) : ∀ c, c < N → -1 ≤ F c ∧ F c ≤ 34560 := fun c hc => by
  have := h c hc
  rcases hI.1 c hc with q | q <;> omega
/-- all turns of one stack -/
theorem cheap4 {d : Nat} {v : Nat} {F : Nat → Int} {top : Int} (h : Rr kd wd n BE CE g μ) (hd : d < NN kd n) (hT : TC kd n F μ) (hvb : v ≤ 34560) (ht0 : 0 ≤ top) (hI : BI (NN kd n) n (tnC kd n) (opC kd wd n BE) (prC kd wd n CE) g (nu kd n) v (nu kd n d) 1 F) (hB : BT (NN kd n) F (nu kd n) v (nu kd n d) top) :
    Ok (loopN (fun s => fX12_laysCheap_b78 ((v + 1 : Nat) : Int) (nu kd n d : Int) s.1 s.2.1 s.2.2) FU (top + 1, 1, μ)) (fun o => Df μ o.2 ∧ top ≤ o.1 - 1 ∧ ∃ F', TC kd n F' o.2 ∧ BI (NN kd n) n (tnC kd n) (opC kd wd n BE) (prC kd wd n CE) g (nu kd n) v (nu kd n d + 1) 1 F' ∧ BT (NN kd n) F' (nu kd n) v (nu kd n d + 1) (o.1 - 1)) := by
  have hp := h.gp
  have hn := h.1.1
  obtain ⟨hnud, hN⟩ := h.nul hd
  have hcl := cB_le (N := NN kd n) (F := F) (r := nu kd n) (v := (v : Int)) (x0 := nu kd n d)
  have htb : top ≤ 34560 := by have := hB.2.1; omega
  have hcn0 : cB (NN kd n) F (nu kd n) v (nu kd n d) ≤ cB (NN kd n) F (nu kd n) v (nu kd n d + 1) := by
    unfold cB cbP
    refine cn_mono (fun j hj h => ?_)
    simp only [Bool.or_eq_true, Bool.and_eq_true, decide_eq_true_eq] at h ⊢
    omega
  by_cases hFd : F d = v
  · have hcn : cB (NN kd n) F (nu kd n) v (nu kd n d + 1) = cB (NN kd n) F (nu kd n) v (nu kd n d) + 1 := by
      unfold cB cbP
      refine cn_set (j := d) hd ?_ ?_ (fun i hi hne => ?_)
      · simp [hFd]
      · simp [hFd]
      · have hne2 : nu kd n i ≠ nu kd n d := fun q => hne (nu_inj hn hi hd q)
        have : decide (nu kd n i < nu kd n d + 1) = decide (nu kd n i < nu kd n d) := by rw [decide_eq_decide]; omega
        simp only [this]
    have hmono : cB (NN kd n) F (nu kd n) v 0 ≤ cB (NN kd n) F (nu kd n) v (nu kd n d) := by
      unfold cB cbP
      refine cn_mono (fun i hi h => ?_)
      simp only [Bool.or_eq_true, Bool.and_eq_true, decide_eq_true_eq] at h ⊢
      omega
    have hcl3 := cB_le (N := NN kd n) (F := F) (r := nu kd n) (v := (v : Int)) (x0 := nu kd n d + 1)
    refine loop_FU (n + 1) (fun (m : Nat) (s : Int × Int × Mem) => 1 ≤ m ∧ s.2.1 = (m : Int) ∧ Df μ s.2.2 ∧ (s.1 - 1 = top ∨ (top ≤ s.1 - 1 ∧ s.1 - 1 ≤ v + 9)) ∧ ∃ F', TC kd n F' s.2.2 ∧ BI (NN kd n) n (tnC kd n) (opC kd wd n BE) (prC kd wd n CE) g (nu kd n) v (nu kd n d) m F' ∧ F' d = v ∧ (∀ c, c < NN kd n → F' c ≤ s.1 - 1) ∧ ∀ x0, cB (NN kd n) F' (nu kd n) v x0 = cB (NN kd n) F (nu kd n) v x0) 1 ⟨by omega, rfl, Df.rf, Or.inl (by dsimp only; omega), F, hT, hI, hFd, fun c hc => by have := hB.1 c hc; dsimp only; omega, fun _ => rfl⟩ (by omega) (by omega) ?_ ?_
    · rintro m ⟨a, b, ν⟩ hm ⟨hm1, e1, hD, hab, F', hT', hI', hFd', hle', hcB⟩
      dsimp only at e1 hD hab hT' hle' ⊢
      subst e1
      obtain ⟨tp, rfl⟩ : ∃ tp, a = tp + 1 := ⟨a - 1, by omega⟩
      have e9 : tp + 1 - 1 = tp := by omega
      rw [e9] at hab hle'
      have hb1 := hB.2.1
      have hb2 := hB.2.2
      have htp : tp ≤ 34560 := by omega
      refine Ok.imp (cheap3 (h.df hD) hd hm1 (by omega) hT' (hI'.bnd hle' htp) hFd' ⟨by omega, htp⟩ hI' hle') ?_
      rintro (⟨m2, a2, θ2⟩ | r) hx
      · obtain ⟨g1, g2, F2, g3, g4, g5, g6, g7, g8⟩ := hx
        dsimp only at g1 g2 g3 g6 g7 ⊢
        exact ⟨by omega, g1, hD.tr g2, by dsimp only; omega, F2, g3, g4, g5, g6, fun x0 => (g8 x0).trans (hcB x0)⟩
      · exact absurd hx (fun q => q)
    · rintro ⟨a, b, ν⟩ ⟨hm1, e1, hD, hab, F', hT', hI', hFd', hle', hcB⟩
      dsimp only at e1 hD hab hT' hle' ⊢
      subst e1
      have hR := h.df hD
      unfold fX12_laysCheap_b78
      rw [hR.2.1.1, w32_n (a := n + 1) (by omega), w32_n (a := n) (by omega), if_neg (by omega), Ok_some]
      refine ⟨hD, by dsimp only; omega, F', hT', hI'.next, hle', ?_, by rw [hcB]; exact hB.2.2⟩
      rw [hcB, hcn]
      have := hB.2.1
      have := hB.2.2
      dsimp only
      omega
  · have hbd := hI.bnd hB.1 htb d hd
    have hsk := hI.skip hp (fun e he q => by rw [nu_inj hn he hd q]; exact hFd)
    refine ⟨(top + 1, μ), ?_, Df.rf, by dsimp only; omega, F, hT, hsk, fun c hc => by have := hB.1 c hc; dsimp only; omega, by have := hB.2.1; dsimp only; omega, hB.2.2⟩
    have hF1 : FU = 999999999 + 1 := rfl
    rw [hF1, loopN]
    have hbody : fX12_laysCheap_b78 ((v + 1 : Nat) : Int) (nu kd n d : Int) (top + 1) 1 μ = some (.inr (top + 1, μ)) := by
      unfold fX12_laysCheap_b78
      by_cases hn0 : 1 ≤ n
      · rw [h.2.1.1, w32_1, w32_n (a := n) (by omega), if_pos (by omega), w32_n (a := nu kd n d) (by omega), gd_pos (by omega), Int.toNat_natCast, hT d hd, w64_s (x := F d + 1) (by omega) (by omega), w64_nn (by omega), if_neg (by omega)]
      · rw [h.2.1.1, w32_1, w32_n (a := n) (by omega), if_neg (by omega)]
    dsimp only
    rw [hbody]
/-- laysCheap, whole, where it is not laid yet -/
theorem cheap_r (h : Rr kd wd n BE CE g μ) (h26 : w32 (μ 75 26) ≠ 2) : Ok (fX12_laysCheap μ) (fun ν => Df (upd2 μ 75 26 2) ν ∧ ∃ F, TC kd n F ν ∧ IsC (NN kd n) n (tnC kd n) (opC kd wd n BE) (prC kd wd n CE) g F) := by
  have hp := h.gp
  have hn := h.1.1
  have hN := NN_le (kd := kd) hn
  have hw2 := w32_2
  unfold fX12_laysCheap
  simp only [lt]
  rw [hw2, if_neg h26]
  generalize hμ2 : upd2 μ 75 26 2 = μ2
  have hR2 : Rr kd wd n BE CE g μ2 := h.same (by rw [← hμ2, upd2_ne (by omega)]) (by rw [← hμ2, upd2_ne (by omega)])
  refine Ok.then (loop_FU (Q := fun ν : Mem => Df μ2 ν ∧ TC kd n (fun c => if c = g then 0 else -1) ν) (NN kd n) (fun (i : Nat) (s : Int × Mem) => s.1 = (i : Int) ∧ Df μ2 s.2 ∧ ∀ c, c < NN kd n → nu kd n c < i → s.2 92 (nu kd n c) = (if c = g then 1 else 0)) 0 ⟨rfl, Df.rf, fun c _ hx => absurd hx (by omega)⟩ (by omega) (by omega) ?_ ?_) ?_
  · rintro i ⟨a, θ⟩ hi ⟨e1, hD, hT⟩
    dsimp only at e1 hD hT ⊢
    subst e1
    obtain ⟨c, hc, rfl⟩ := nu_all hn hi
    have hR := hR2.df hD
    unfold fX12_laysCheap_b16
    rw [hR.stk, Option.bind_some, w32_n (a := nu kd n c) (by omega), w32_n (a := NN kd n) (by omega), if_pos (by omega)]
    refine Ok.then (hR.lay hc) ?_
    rintro θ1 ⟨hL1, hD1⟩
    have hR1 := hR.dk hD1
    simp only [lt]
    rw [hR1.srv hc hL1, Option.bind_some, gd_pos (by omega), Int.toNat_natCast, Ok_some]
    refine ⟨by push_cast; rfl, (hD.tr hD1.df).tr Df.put, fun c' hc' hl => ?_⟩
    dsimp only
    rw [upd2_self]
    by_cases e : nu kd n c' = nu kd n c
    · have := nu_inj hn hc' hc e
      subst this
      rw [if_pos rfl]
      by_cases e : c' = g <;> simp [e]
    · rw [if_neg e, hD1 92 (by omega) (by omega) (by omega) (by omega)]
      exact hT c' hc' (by omega)
  · rintro ⟨a, θ⟩ ⟨e1, hD, hT⟩
    dsimp only at e1 hD hT ⊢
    subst e1
    have hR := hR2.df hD
    unfold fX12_laysCheap_b16
    rw [hR.stk, Option.bind_some, w32_n (a := NN kd n) (by omega), if_neg (by omega), Ok_some]
    refine ⟨hD, fun c hc => ?_⟩
    rw [hT c hc (nu_lt hn hc)]
    by_cases e : c = g <;> simp [e]
  rintro ν4 ⟨hD4, hT4⟩
  refine Ok.bind ?_
  refine Ok.imp (loop_I (Q := fun ν : Mem => Df μ2 ν ∧ ∃ F, TC kd n F ν ∧ IsC (NN kd n) n (tnC kd n) (opC kd wd n BE) (prC kd wd n CE) g F) _ (fun s : Int × Int × Mem => 40000 - s.2.1.toNat) (fun s : Int × Int × Mem => ∃ (v : Nat) (top : Int) (F : Nat → Int), s.1 = top + 1 ∧ s.2.1 = ((v + 1 : Nat) : Int) ∧ v ≤ 34561 ∧ 0 ≤ top ∧ top ≤ 34560 ∧ Df μ2 s.2.2 ∧ TC kd n F s.2.2 ∧ BI (NN kd n) n (tnC kd n) (opC kd wd n BE) (prC kd wd n CE) g (nu kd n) v 0 1 F ∧ (∀ c, c < NN kd n → F c ≤ top) ∧ top ≤ 9 * (cB (NN kd n) F (nu kd n) v 0 : Int)) ⟨0, 0, _, rfl, rfl, by omega, by omega, by omega, hD4, hT4, BI.init hp.2.2.1, fun c hc => (BT.init (r := nu kd n) hp.2.2.1).1 c hc, by omega⟩ (by show 40000 - _ < _; omega) ?_) ?_
  · rintro ⟨a, b, ν⟩ ⟨v, top, F, e0, e1, hvb, ht0, htb, hD, hT, hI, hle, hT2⟩
    dsimp only at e0 e1 hD hT ⊢
    subst e0 e1
    unfold fX12_laysCheap_b57
    rw [w64_nn (by omega), w64_s (x := top + 1) (by omega) (by omega)]
    by_cases hvt : (v : Int) ≤ top
    · rw [if_pos (by omega)]
      refine Ok.bind ?_
      refine Ok.imp (loop_FU (Q := fun o : Int × Mem => Df μ2 o.2 ∧ ∃ F', TC kd n F' o.2 ∧ BI (NN kd n) n (tnC kd n) (opC kd wd n BE) (prC kd wd n CE) g (nu kd n) v (NN kd n) 1 F' ∧ BT (NN kd n) F' (nu kd n) v (NN kd n) (o.1 - 1) ∧ top ≤ o.1 - 1) (NN kd n) (fun (i : Nat) (s : Int × Int × Mem) => s.2.1 = (i : Int) ∧ Df μ2 s.2.2 ∧ ∃ F', TC kd n F' s.2.2 ∧ BI (NN kd n) n (tnC kd n) (opC kd wd n BE) (prC kd wd n CE) g (nu kd n) v i 1 F' ∧ BT (NN kd n) F' (nu kd n) v i (s.1 - 1) ∧ top ≤ s.1 - 1) 0 ⟨rfl, hD, F, hT, hI, ⟨fun c hc => by have := hle c hc; dsimp only; omega, by dsimp only; omega, by omega⟩, by dsimp only; omega⟩ (by omega) (by omega) ?_ ?_) ?_
      · rintro i ⟨a, b, ρ⟩ hi ⟨e2, hD', F', hT', hI', hB', htt⟩
        dsimp only at e2 hD' hT' hB' htt ⊢
        subst e2
        obtain ⟨d, hd, rfl⟩ := nu_all hn hi
        have hRρ := hR2.df hD'
        obtain ⟨tp, rfl⟩ : ∃ tp, a = tp + 1 := ⟨a - 1, by omega⟩
        have e9 : tp + 1 - 1 = tp := by omega
        rw [e9] at hB' htt
        have hcl := cB_le (N := NN kd n) (F := F') (r := nu kd n) (v := (v : Int)) (x0 := 0)
        unfold fX12_laysCheap_b66
        rw [hRρ.stk, Option.bind_some, w32_n (a := nu kd n d) (by omega), w32_n (a := NN kd n) (by omega), if_pos (by omega)]
        refine Ok.bind ?_
        refine Ok.imp (cheap4 hRρ hd hT' (by have := hB'.2.2; omega) (by omega) hI' hB') ?_
        rintro ⟨o1, θ⟩ ⟨g1, g2, F2, g3, g4, g5⟩
        dsimp only at g1 g2 g3 g5 ⊢
        rw [Ok_some]
        exact ⟨by push_cast; rfl, hD'.tr g1, F2, g3, g4, g5, by dsimp only; omega⟩
      · rintro ⟨a, b, ρ⟩ ⟨e2, hD', F', hT', hI', hB', htt⟩
        dsimp only at e2 hD' hT' hB' htt ⊢
        subst e2
        have hRρ := hR2.df hD'
        unfold fX12_laysCheap_b66
        rw [hRρ.stk, Option.bind_some, w32_n (a := NN kd n) (by omega), if_neg (by omega), Ok_some]
        exact ⟨hD', F', hT', hI', hB', htt⟩
      · rintro ⟨a, ρ⟩ ⟨hD', F', hT', hI', hB', htt⟩
        dsimp only at hD' hT' hB' htt ⊢
        have hcl := cB_le (N := NN kd n) (F := F') (r := nu kd n) (v := (v : Int)) (x0 := NN kd n)
        have hb1 := hB'.2.1
        simp only [lt]
        rw [Ok_some]
        refine ⟨⟨v + 1, a - 1, F', by dsimp only; omega, by push_cast; rfl, by omega, by omega, by omega, hD', hT', hI'.lev hp (fun d hd => nu_lt hn hd), hB'.1, ?_⟩, by dsimp only; omega⟩
        have hsame : cB (NN kd n) F' (nu kd n) v (NN kd n) = cB (NN kd n) F' (nu kd n) ((v + 1 : Nat) : Int) 0 := by
          unfold cB cbP
          refine cn_congr (fun j hj => ?_)
          have q := hI'.1 j hj
          have q2 := nu_lt (kd := kd) hn hj
          rw [Bool.eq_iff_iff]
          simp only [Bool.or_eq_true, Bool.and_eq_true, decide_eq_true_eq]
          omega
        rw [← hsame]
        exact hB'.2.1
    · rw [if_neg (by omega), Ok_some]
      exact ⟨hD, F, hT, hI.fin hp hle (by omega) (by omega)⟩
  · rintro ν hν
    rw [Ok_some]
    exact hν
end BILLR
