/-! ===== level 2: the reference's table of two cooks ===== -/
section COOKT
variable {n g : Nat} {kd wd : Nat → Nat} {BE CE : LawF} {μ ν : Mem} {c : Nat} {e : Nat → Int}
def TK (kd : Nat → Nat) (n : Nat) (e : Nat → Int) (μ : Mem) : Prop := ∀ c, c < NN kd n → μ 92 (nu kd n c) = kc (e c)
theorem TK.dl (h : TK kd n e μ) (hD : Dl μ ν) : TK kd n e ν := fun c hc => by rw [hD 92 (by omega) (by omega) (by omega) (by omega) (by omega) (by omega)]; exact h c hc
theorem kc_b {x : Int} (h : -1 ≤ x ∧ x < 4000) : 0 ≤ kc x ∧ kc x < 9000 ∧ (kc x = 0 ↔ x = -1) := by
  unfold kc
  by_cases q : x = -1
  · rw [if_pos q]; omega
  · rw [if_neg q]; omega
/-- what the code makes of a value in the table -/
theorem kc_told {x : Int} {l : Nat} (h : -1 ≤ x ∧ x < 4000) (hl : l < 5000) : (if w64 (kc x) ≤ w64 0 then false else if w64 ((l_div (kc x) 2) - 1) < w64 (w32 (l : Int)) then true else false) = (decide (0 ≤ x) && decide (x < l)) ∧ (0 ≤ x → w64 (l_rem (kc x) 2) = x % 2) := by
  have hw0 : w64 0 = 0 := by decide
  obtain ⟨k0, k1, k2⟩ := kc_b h
  obtain ⟨a, ha⟩ : ∃ a : Nat, kc x = a := ⟨(kc x).toNat, by omega⟩
  have e2 : (2 : Int) = ((2 : Nat) : Int) := rfl
  rw [ha, w64_nn (by omega), hw0, e2, l_div_n (by omega) (by omega), l_rem_n (by omega) (by omega), w32_n (a := l) (by omega), w64_nn (a := l) (by omega), w64_s (x := ((a / 2 : Nat) : Int) - 1) (by omega) (by omega), w64_nn (a := a % 2) (by omega)]
  unfold kc at ha
  by_cases q : x = -1
  · rw [if_pos q] at ha
    rw [if_pos (by omega)]
    refine ⟨?_, fun k => by omega⟩
    have : ¬ 0 ≤ x := by omega
    simp [this]
  · rw [if_neg q] at ha
    have h0 : 0 ≤ x := by omega
    have hdiv : ((a / 2 : Nat) : Int) - 1 = x := by omega
    rw [if_neg (by omega), hdiv]
    refine ⟨?_, fun _ => by omega⟩
    by_cases k : x < l
    · rw [if_pos k]; simp [h0, k]
    · rw [if_neg k]; simp [k]
/-- the two questions of one stack -/
theorem cook3 {l : Nat} {es : Nat → Int} {v18 : Bool} {v19 : Int} (hl : l < 5000) (h : Rr kd wd n BE CE g μ) (hT : TK kd n es μ) (hes : ∀ d, d < NN kd n → -1 ≤ es d ∧ es d < 4000) (hee : ∀ d, d < NN kd n → es d = e d ∨ (e d = -1 ∧ es d = l)) (hLd : Ld kd wd n BE CE 0 c μ) (hc : c < NN kd n) :
    loopN (fun s => fX12_laysCooks_b109 (l : Int) v18 v19 s.1 s.2.1 s.2.2.1 s.2.2.2) FU (false, true, 1, μ) = some (decide (0 < cn n (wnB (tnC kd n) (opC kd wd n BE) e l c)), decide (cn n (nlB (tnC kd n) (opC kd wd n BE) e l c) = 0), μ) := by
  have hn := h.1.1
  have hp := h.gp
  apply Ok_val
  refine loop_FU (n + 1) (fun (m : Nat) (s : Bool × Bool × Int × Mem) => 1 ≤ m ∧ s.1 = decide (0 < cn (m - 1) (wnB (tnC kd n) (opC kd wd n BE) e l c)) ∧ s.2.1 = decide (cn (m - 1) (nlB (tnC kd n) (opC kd wd n BE) e l c) = 0) ∧ s.2.2.1 = (m : Int) ∧ s.2.2.2 = μ) 1 ⟨by omega, rfl, rfl, rfl, rfl⟩ (by omega) (by omega) ?_ ?_
  · rintro m ⟨a, b, m', ρ⟩ hm ⟨hm1, e1, e2, e3, e4⟩
    dsimp only at e1 e2 e3 e4 ⊢
    subst e1 e2 e3 e4
    obtain ⟨hd, -, -, -⟩ := hp.2.2.2 c m hc hm1 (by omega)
    obtain ⟨hnud, hN⟩ := h.nul hd
    obtain ⟨l1, -⟩ := hLd m hm1 (by omega)
    obtain ⟨k, rfl⟩ : ∃ k, m = k + 1 := ⟨m - 1, by omega⟩
    have hw0 : w64 0 = 0 := by decide
    have hw1 : w64 1 = 1 := by decide
    have hk1 : k + 1 - 1 = k := by omega
    have hk2 : k + 1 + 1 - 1 = k + 1 := by omega
    have j144 : ∀ (W Lo : Bool) (w : Int) (td ev od : Bool), (if w64 w ≤ w64 0 then false else if w64 ((l_div w 2) - 1) < w64 (w32 (l : Int)) then true else false) = td → (td = true → (if w64 (l_rem w 2) = w64 0 then true else false) = ev ∧ (if w64 (l_rem w 2) = w64 1 then true else false) = od) → fX12_laysCooks_j144 (l : Int) v18 v19 W Lo ((k + 1 : Nat) : Int) w ρ = some (.inl (W || (td && ev), Lo && (!opC kd wd n BE c (k + 1) || (td && od)), ((k + 1 : Nat) : Int) + 1, ρ)) := fun W Lo w td ev od hv37 hpar => by
      have hlead : (if w32 (ρ 93 (w32 ((k + 1 : Nat) : Int)).toNat) < 0 then true else if td = true then (if w64 (l_rem w 2) = w64 1 then true else false) else false) = (!opC kd wd n BE c (k + 1) || (td && od)) := by
        rw [w32_n (a := k + 1) (by omega), Int.toNat_natCast, l1]
        by_cases hop : opC kd wd n BE c (k + 1) = true
        · have e5 : (decide (k + 1 ≠ 0) && opC kd wd n BE c (k + 1)) = true := by rw [hop]; simp
          rw [if_pos e5, w32_n (a := nu kd n (tnC kd n c (k + 1))) (by omega), if_neg (by omega), hop]
          cases td
          · rw [if_neg (by decide)]; rfl
          · rw [if_pos rfl, (hpar rfl).2]; rfl
        · have hop2 : opC kd wd n BE c (k + 1) = false := by simpa using hop
          have e5 : ¬ (decide (k + 1 ≠ 0) && opC kd wd n BE c (k + 1)) = true := by simp [hop]
          rw [if_neg e5, if_pos (by decide), hop2]; rfl
      have hwin : (if W = true then true else if td = true then (if w64 (l_rem w 2) = w64 0 then true else false) else false) = (W || (td && ev)) := by
        cases W
        · cases td
          · rfl
          · rw [if_neg (show ¬ false = true by decide), if_pos (show true = true from rfl), (hpar rfl).1]; rfl
        · rfl
      unfold fX12_laysCooks_j144
      simp only [lt]
      rw [hv37, hwin, hlead]
      cases Lo
      · rw [if_neg (by decide)]; rfl
      · rw [if_pos rfl, w32_n (a := k + 1) (by omega), gd_pos (by omega)]; rfl
    have fin : ∀ (x y : Bool), x = wnB (tnC kd n) (opC kd wd n BE) e l c k → y = (!nlB (tnC kd n) (opC kd wd n BE) e l c k) → Ok (some (Sum.inl (decide (0 < cn (k + 1 - 1) (wnB (tnC kd n) (opC kd wd n BE) e l c)) || x, decide (cn (k + 1 - 1) (nlB (tnC kd n) (opC kd wd n BE) e l c) = 0) && y, ((k + 1 : Nat) : Int) + 1, ρ) : (Bool × Bool × Int × Mem) ⊕ (Bool × Bool × Mem))) (Sum.elim (fun s => 1 ≤ k + 1 + 1 ∧ s.1 = decide (0 < cn (k + 1 + 1 - 1) (wnB (tnC kd n) (opC kd wd n BE) e l c)) ∧ s.2.1 = decide (cn (k + 1 + 1 - 1) (nlB (tnC kd n) (opC kd wd n BE) e l c) = 0) ∧ s.2.2.1 = ((k + 1 + 1 : Nat) : Int) ∧ s.2.2.2 = ρ) (fun o => o = (decide (0 < cn n (wnB (tnC kd n) (opC kd wd n BE) e l c)), decide (cn n (nlB (tnC kd n) (opC kd wd n BE) e l c) = 0), ρ))) := fun x y hx hy => by
      rw [Ok_some, hk1, hk2, cn_succ, cn_succ]
      refine ⟨by omega, ?_, ?_, by push_cast; rfl, rfl⟩
      · dsimp only
        rw [hx]
        cases wnB (tnC kd n) (opC kd wd n BE) e l c k <;> simp
      · dsimp only
        rw [hy]
        cases nlB (tnC kd n) (opC kd wd n BE) e l c k <;> simp
    unfold fX12_laysCooks_b109
    rw [h.2.1.1, w32_n (a := k + 1) (by omega), w32_n (a := n) (by omega), if_pos (by omega), gd_pos (by omega), Int.toNat_natCast, l1]
    by_cases hop : opC kd wd n BE c (k + 1) = true
    · have e5 : (decide (k + 1 ≠ 0) && opC kd wd n BE c (k + 1)) = true := by rw [hop]; simp
      obtain ⟨t1, t2⟩ := kc_told (hes _ hd) hl
      rw [if_pos e5, w32_n (a := nu kd n (tnC kd n c (k + 1))) (by omega), if_neg (by omega), gd_pos (by omega), gd_pos (by omega), Int.toNat_natCast, hT _ hd]
      have hpar2 : (decide (0 ≤ es (tnC kd n c (k + 1))) && decide (es (tnC kd n c (k + 1)) < l)) = true → (if w64 (l_rem (kc (es (tnC kd n c (k + 1)))) 2) = w64 0 then true else false) = decide (e (tnC kd n c (k + 1)) % 2 = 0) ∧ (if w64 (l_rem (kc (es (tnC kd n c (k + 1)))) 2) = w64 1 then true else false) = decide (e (tnC kd n c (k + 1)) % 2 = 1) := fun hb => by
        simp only [Bool.and_eq_true, decide_eq_true_eq] at hb
        have hE : es (tnC kd n c (k + 1)) = e (tnC kd n c (k + 1)) := by
          rcases hee _ hd with q | ⟨-, q⟩
          · exact q
          · omega
        rw [t2 hb.1, hw0, hw1, hE]
        constructor
        · by_cases q : e (tnC kd n c (k + 1)) % 2 = 0
          · rw [if_pos q]; simp [q]
          · rw [if_neg q]; simp [q]
        · by_cases q : e (tnC kd n c (k + 1)) % 2 = 1
          · rw [if_pos q]; simp [q]
          · rw [if_neg q]; simp [q]
      have htd : (decide (0 ≤ es (tnC kd n c (k + 1))) && decide (es (tnC kd n c (k + 1)) < l)) = tdB e l (tnC kd n c (k + 1)) := by
        unfold tdB
        rcases hee _ hd with q | ⟨q1, q2⟩
        · rw [q]
        · rw [q1, q2]
          have : ¬ (l : Int) < l := by omega
          simp
      rw [j144 _ _ _ _ _ _ t1 hpar2, htd]
      exact fin _ _ (by unfold wnB; rw [hop]; rfl) (by unfold nlB; rw [hop]; simp)
    · have hop2 : opC kd wd n BE c (k + 1) = false := by simpa using hop
      have e5 : ¬ (decide (k + 1 ≠ 0) && opC kd wd n BE c (k + 1)) = true := by simp [hop]
      rw [if_neg e5, if_pos (by decide), j144 _ _ 0 false false false (if_pos (by decide)) (fun q => absurd q (by decide))]
      exact fin _ _ (by unfold wnB; rw [hop2]; rfl) (by unfold nlB; rw [hop2]; rfl)
  · rintro ⟨a, b, m', ρ⟩ ⟨hm1, e1, e2, e3, e4⟩
    dsimp only at e1 e2 e3 e4 ⊢
    subst e1 e2 e3 e4
    unfold fX12_laysCooks_b109
    rw [h.2.1.1, w32_n (a := n + 1) (by omega), w32_n (a := n) (by omega), if_neg (by omega), Ok_some]
    rfl
/-- a level's numbers are of one kind -/
theorem lev_par {N n' goal l c : Nat} {tn : Nat → Nat → Nat} {op : Nat → Nat → Bool} (H : LK2 N n' tn op goal l e ∨ (l = 0 ∧ ∀ d, d < N → e d ≤ 0)) (htn : ∀ m, 1 ≤ m → m ≤ n' → tn c m < N) (hc : c < N) (hx : e c = -1) : (0 < cn n' (wnB tn op e l c) → l % 2 = 1) ∧ (¬ 0 < cn n' (wnB tn op e l c) → cn n' (nlB tn op e l c) = 0 → l % 2 = 0) := by
  rcases H with H | ⟨rfl, hz⟩
  · obtain ⟨h1, h2, h3, h4, h5, h6, h7⟩ := H
    obtain ⟨k1, m0, m1, m2, m3, m4⟩ := h5 c hc hx
    constructor
    · intro hw
      obtain ⟨m, g1, g2, g3, g4, g5, g6⟩ := wnB_iff.mp hw
      have := k1 m g1 g2 g3 g4 g6
      omega
    · intro _ hz
      have := nlB_iff.mp hz m0 m1 m2 m3
      omega
  · constructor
    · intro hw
      obtain ⟨m, g1, g2, g3, g4, g5, g6⟩ := wnB_iff.mp hw
      omega
    · intro _ _; omega
theorem cook4 {l : Nat} {more : Bool} (hl : l < 4000) (h : Rr kd wd n BE CE g μ) (hT : TK kd n e μ) (he : ∀ d, d < NN kd n → -1 ≤ e d ∧ e d < 4000) (H : LK2 (NN kd n) n (tnC kd n) (opC kd wd n BE) g l e ∨ (l = 0 ∧ ∀ d, d < NN kd n → e d ≤ 0)) : Ok (loopN (fun s => fX12_laysCooks_b75 (l : Int) s.1 s.2.1 s.2.2) FU (more, 0, μ)) (fun o => Dw μ o.2 ∧ TK kd n (upK n (tnC kd n) (opC kd wd n BE) e l) o.2 ∧ (o.1 = true ↔ more = true ∨ ∃ c, c < NN kd n ∧ e c = -1 ∧ seB n (tnC kd n) (opC kd wd n BE) e l c = true)) := by
  have hn := h.1.1
  have hp := h.gp
  have hN := NN_le (kd := kd) hn
  refine loop_FU (NN kd n) (fun (i : Nat) (s : Bool × Int × Mem) => s.2.1 = (i : Int) ∧ Dw μ s.2.2 ∧ TK kd n (fun c => if nu kd n c < i then upK n (tnC kd n) (opC kd wd n BE) e l c else e c) s.2.2 ∧ (s.1 = true ↔ more = true ∨ ∃ c, c < NN kd n ∧ nu kd n c < i ∧ e c = -1 ∧ seB n (tnC kd n) (opC kd wd n BE) e l c = true)) 0 ⟨rfl, Dw.rf, fun c hc => by dsimp only; rw [if_neg (by omega)]; exact hT c hc, by simp⟩ (by omega) (by omega) ?_ ?_
  · rintro i ⟨mo, a, ρ⟩ hi ⟨e1, hD, hTρ, hmo⟩
    dsimp only at e1 hD hTρ hmo ⊢
    subst e1
    obtain ⟨c, hc, rfl⟩ := nu_all hn hi
    have hR := h.dw hD
    have hupb : ∀ d, d < NN kd n → (-1 ≤ upK n (tnC kd n) (opC kd wd n BE) e l d ∧ upK n (tnC kd n) (opC kd wd n BE) e l d < 4000) ∧ (upK n (tnC kd n) (opC kd wd n BE) e l d = e d ∨ (e d = -1 ∧ upK n (tnC kd n) (opC kd wd n BE) e l d = l)) := fun d hd => by
      have := he d hd
      unfold upK
      by_cases q : e d = -1
      · rw [if_pos q]
        split
        · exact ⟨by omega, Or.inr ⟨q, rfl⟩⟩
        · exact ⟨by omega, Or.inl q.symm⟩
      · rw [if_neg q]; exact ⟨by omega, Or.inl rfl⟩
    have hcur := hTρ c hc
    dsimp only at hcur
    rw [if_neg (by omega)] at hcur
    have hec := he c hc
    obtain ⟨k0, k1, k2⟩ := kc_b hec
    have hw0 : w64 0 = 0 := by decide
    unfold fX12_laysCooks_b75
    simp only [lt]
    rw [hR.stk, Option.bind_some, w32_n (a := nu kd n c) (by omega), w32_n (a := NN kd n) (by omega), if_pos (by omega), gd_pos (by omega), Int.toNat_natCast, hcur, w64_s (x := kc (e c)) (by omega) (by omega), hw0]
    by_cases hx : e c = -1
    · rw [if_pos (k2.mpr hx)]
      refine Ok.then (leads_r (b := 0) (by omega) hR hc) ?_
      rintro θ ⟨hDθ, hLd⟩
      have hRθ := hR.dl hDθ
      have hTθ := hTρ.dl hDθ
      have hck := cook3 (v18 := mo) (v19 := ((nu kd n c : Nat) : Int)) (e := e) (l := l) (by omega) hRθ hTθ (fun d hd => by
        split
        · exact (hupb d hd).1
        · exact he d hd) (fun d hd => by
        split
        · exact (hupb d hd).2
        · exact Or.inl rfl) hLd hc
      rw [hck, Option.bind_some]
      dsimp only
      obtain ⟨pr1, pr2⟩ := lev_par (c := c) H (fun m q1 q2 => (hp.2.2.2 c m hc q1 q2).1) hc hx
      have hl1 : w32 ((l : Int) + 1) = (l : Int) + 1 := w32_eq (by omega) (by omega)
      have hv : (if decide (0 < cn n (wnB (tnC kd n) (opC kd wd n BE) e l c)) = true then (if decide (0 < cn n (wnB (tnC kd n) (opC kd wd n BE) e l c)) = true then ((2 * (w32 ((l : Int) + 1))) + 1) else ((2 * (w32 ((l : Int) + 1))) + 0)) else if decide (cn n (nlB (tnC kd n) (opC kd wd n BE) e l c) = 0) = true then (if decide (0 < cn n (wnB (tnC kd n) (opC kd wd n BE) e l c)) = true then ((2 * (w32 ((l : Int) + 1))) + 1) else ((2 * (w32 ((l : Int) + 1))) + 0)) else 0) = kc (upK n (tnC kd n) (opC kd wd n BE) e l c) := by
        rw [hl1]
        unfold upK seB kc
        rw [if_pos hx]
        by_cases q1 : 0 < cn n (wnB (tnC kd n) (opC kd wd n BE) e l c)
        · have := pr1 q1
          rw [decide_eq_true q1, if_pos rfl, if_pos rfl, Bool.true_or, if_pos rfl, if_neg (by omega)]
          omega
        · by_cases q2 : cn n (nlB (tnC kd n) (opC kd wd n BE) e l c) = 0
          · have := pr2 q1 q2
            rw [decide_eq_false q1, decide_eq_true q2, if_neg (by decide), if_pos rfl, if_neg (by decide), Bool.false_or, if_pos rfl, if_neg (by omega)]
            omega
          · rw [decide_eq_false q1, decide_eq_false q2, if_neg (by decide), if_neg (by decide), Bool.false_or, if_neg (show ¬ false = true by decide), if_pos rfl]
      have hm2 : (if mo = true then true else if decide (0 < cn n (wnB (tnC kd n) (opC kd wd n BE) e l c)) = true then true else if decide (cn n (nlB (tnC kd n) (opC kd wd n BE) e l c) = 0) = true then true else false) = (mo || seB n (tnC kd n) (opC kd wd n BE) e l c) := by
        unfold seB
        cases mo <;> cases decide (0 < cn n (wnB (tnC kd n) (opC kd wd n BE) e l c)) <;> cases decide (cn n (nlB (tnC kd n) (opC kd wd n BE) e l c) = 0) <;> rfl
      rw [hv, hm2, gd_pos (by omega), Ok_some]
      refine ⟨by push_cast; rfl, (hD.tr hDθ.dw).tr Df.put.dw, fun d hd => ?_, ?_⟩
      · dsimp only
        rw [upd2_self]
        by_cases q : nu kd n d = nu kd n c
        · have := nu_inj hn hd hc q
          subst this
          rw [if_pos rfl, if_pos (by omega)]
        · rw [if_neg q, hTθ d hd]
          dsimp only
          by_cases q2 : nu kd n d < nu kd n c
          · rw [if_pos q2, if_pos (by omega)]
          · rw [if_neg q2, if_neg (by omega)]
      · dsimp only
        rw [Bool.or_eq_true, hmo]
        constructor
        · rintro ((k | ⟨d, d1, d2, d3, d4⟩) | k)
          · exact Or.inl k
          · exact Or.inr ⟨d, d1, by omega, d3, d4⟩
          · exact Or.inr ⟨c, hc, by omega, hx, k⟩
        · rintro (k | ⟨d, d1, d2, d3, d4⟩)
          · exact Or.inl (Or.inl k)
          · by_cases q : d = c
            · subst q; exact Or.inr d4
            · have : nu kd n d ≠ nu kd n c := fun r => q (nu_inj hn d1 hc r)
              exact Or.inl (Or.inr ⟨d, d1, by omega, d3, d4⟩)
    · rw [if_neg (fun q => hx (k2.mp q)), Ok_some]
      refine ⟨by push_cast; rfl, hD, fun d hd => ?_, ?_⟩
      · dsimp only
        rw [hTρ d hd]
        dsimp only
        by_cases q : nu kd n d = nu kd n c
        · have := nu_inj hn hd hc q
          subst this
          rw [if_neg (by omega), if_pos (by omega)]
          unfold upK
          rw [if_neg hx]
        · by_cases q2 : nu kd n d < nu kd n c
          · rw [if_pos q2, if_pos (by omega)]
          · rw [if_neg q2, if_neg (by omega)]
      · dsimp only
        rw [hmo]
        constructor
        · rintro (k | ⟨d, d1, d2, d3, d4⟩)
          · exact Or.inl k
          · exact Or.inr ⟨d, d1, by omega, d3, d4⟩
        · rintro (k | ⟨d, d1, d2, d3, d4⟩)
          · exact Or.inl k
          · by_cases q : d = c
            · subst q; exact absurd d3 hx
            · have : nu kd n d ≠ nu kd n c := fun r => q (nu_inj hn d1 hc r)
              exact Or.inr ⟨d, d1, by omega, d3, d4⟩
  · rintro ⟨mo, a, ρ⟩ ⟨e1, hD, hTρ, hmo⟩
    dsimp only at e1 hD hTρ hmo ⊢
    subst e1
    have hR := h.dw hD
    unfold fX12_laysCooks_b75
    rw [hR.stk, Option.bind_some, w32_n (a := NN kd n) (by omega), if_neg (by omega), Ok_some]
    refine ⟨hD, fun d hd => ?_, ?_⟩
    · dsimp only
      rw [hTρ d hd]
      dsimp only
      rw [if_pos (nu_lt hn hd)]
    · dsimp only
      rw [hmo]
      constructor
      · rintro (k | ⟨d, d1, d2, d3, d4⟩)
        · exact Or.inl k
        · exact Or.inr ⟨d, d1, d3, d4⟩
      · rintro (k | ⟨d, d1, d3, d4⟩)
        · exact Or.inl k
        · exact Or.inr ⟨d, d1, nu_lt hn d1, d3, d4⟩
/-- laysCooks, whole, where it is not laid yet -/
theorem cooks_r (h : Rr kd wd n BE CE g μ) (h26 : w32 (μ 75 26) ≠ 3) : Ok (fX12_laysCooks μ) (fun ν => Dw (upd2 μ 75 26 3) ν ∧ ∃ e, TK kd n e ν ∧ IsK (NN kd n) n (tnC kd n) (opC kd wd n BE) g e) := by
  have hp := h.gp
  have hn := h.1.1
  have hN := NN_le (kd := kd) hn
  have hw3 := w32_3
  unfold fX12_laysCooks
  simp only [lt]
  rw [hw3, if_neg h26]
  generalize hμ2 : upd2 μ 75 26 3 = μ2
  have hR2 : Rr kd wd n BE CE g μ2 := h.same (by rw [← hμ2, upd2_ne (by omega)]) (by rw [← hμ2, upd2_ne (by omega)])
  refine Ok.then (loop_FU (Q := fun ν : Mem => Df μ2 ν ∧ TK kd n (fun c => if c = g then 0 else -1) ν) (NN kd n) (fun (i : Nat) (s : Int × Mem) => s.1 = (i : Int) ∧ Df μ2 s.2 ∧ ∀ c, c < NN kd n → nu kd n c < i → s.2 92 (nu kd n c) = (if c = g then 2 else 0)) 0 ⟨rfl, Df.rf, fun c _ hx => absurd hx (by omega)⟩ (by omega) (by omega) ?_ ?_) ?_
  · rintro i ⟨a, θ⟩ hi ⟨e1, hD, hT⟩
    dsimp only at e1 hD hT ⊢
    subst e1
    obtain ⟨c, hc, rfl⟩ := nu_all hn hi
    have hR := hR2.df hD
    unfold fX12_laysCooks_b16
    rw [hR.stk, Option.bind_some, w32_n (a := nu kd n c) (by omega), w32_n (a := NN kd n) (by omega), if_pos (by omega)]
    refine Ok.then (hR.lay hc) ?_
    rintro θ1 ⟨hL1, hD1⟩
    have hR1 := hR.dk hD1
    simp only [lt]
    rw [hR1.srv hc hL1, Option.bind_some, gd_pos (by omega), Int.toNat_natCast, Ok_some]
    refine ⟨by push_cast; rfl, (hD.tr hD1.df).tr Df.put, fun c' hc' hl => ?_⟩
    dsimp only
    rw [upd2_self]
    by_cases e : nu kd n c' = nu kd n c
    · have := nu_inj hn hc' hc e
      subst this
      rw [if_pos rfl]
      by_cases e : c' = g <;> simp [e]
    · rw [if_neg e, hD1 92 (by omega) (by omega) (by omega) (by omega)]
      exact hT c' hc' (by omega)
  · rintro ⟨a, θ⟩ ⟨e1, hD, hT⟩
    dsimp only at e1 hD hT ⊢
    subst e1
    have hR := hR2.df hD
    unfold fX12_laysCooks_b16
    rw [hR.stk, Option.bind_some, w32_n (a := NN kd n) (by omega), if_neg (by omega), Ok_some]
    refine ⟨hD, fun c hc => ?_⟩
    rw [hT c hc (nu_lt hn hc)]
    by_cases e : c = g <;> simp [e, kc]
  rintro ν4 ⟨hD4, hT4⟩
  refine Ok.bind ?_
  refine Ok.imp (loop_I (Q := fun ν : Mem => Dw μ2 ν ∧ ∃ e, TK kd n e ν ∧ IsK (NN kd n) n (tnC kd n) (opC kd wd n BE) g e) _ (fun s : Bool × Int × Mem => 5000 - s.2.1.toNat) (fun s : Bool × Int × Mem => Dw μ2 s.2.2 ∧ ∃ (l : Nat) (e : Nat → Int), s.2.1 = (l : Int) ∧ l ≤ NN kd n + 1 ∧ TK kd n e s.2.2 ∧ (∀ d, d < NN kd n → -1 ≤ e d ∧ e d < 4000) ∧ ((s.1 = true ∧ l = 0 ∧ ∀ d, d < NN kd n → e d = if d = g then 0 else -1) ∨ (s.1 = true ∧ LK2 (NN kd n) n (tnC kd n) (opC kd wd n BE) g l e) ∨ (s.1 = false ∧ IsK (NN kd n) n (tnC kd n) (opC kd wd n BE) g e))) ⟨hD4.dw, 0, _, rfl, by omega, hT4, fun d _ => by split <;> omega, Or.inl ⟨rfl, rfl, fun d _ => rfl⟩⟩ (by show 5000 - _ < _; omega) ?_) ?_
  · rintro ⟨mo, a, θ⟩ ⟨hD, l, e, e1, hlb, hT, he, hcase⟩
    dsimp only at e1 hD hT hcase ⊢
    subst e1
    have hR := hR2.dw hD
    unfold fX12_laysCooks_b59
    simp only [lt]
    rcases hcase with ⟨e2, rfl, hz⟩ | ⟨e2, hK⟩ | ⟨e2, hK⟩
    · subst e2
      rw [if_pos rfl]
      refine Ok.bind ?_
      refine Ok.imp (cook4 (l := 0) (e := e) (by omega) hR hT he (Or.inr ⟨rfl, fun d hd => by rw [hz d hd]; split <;> omega⟩)) ?_
      rintro ⟨m2, ρ⟩ ⟨g1, g2, g3⟩
      dsimp only at g1 g2 g3 ⊢
      rw [Ok_some]
      have hm2 : m2 = true := g3.mpr (Or.inl (by rw [w32_n (by omega)]; rfl))
      have hLK := LK2.first (n := n) (op := opC kd wd n BE) hp hz
      exact ⟨⟨hD.tr g1, 1, _, rfl, by omega, g2, fun d hd => by have := hLK.1 d hd; omega, Or.inr (Or.inl ⟨hm2, hLK⟩)⟩, by show 5000 - (((0 : Nat) : Int) + 1).toNat < 5000 - ((0 : Nat) : Int).toNat; omega⟩
    · subst e2
      have hl1 := hK.2.2.2.2.2.1
      have hlN : l ≤ NN kd n := Nat.le_trans hK.2.2.2.2.2.2 cn_le
      rw [if_pos rfl]
      refine Ok.bind ?_
      refine Ok.imp (cook4 (l := l) (e := e) (by omega) hR hT he (Or.inl hK)) ?_
      rintro ⟨m2, ρ⟩ ⟨g1, g2, g3⟩
      dsimp only at g1 g2 g3 ⊢
      rw [Ok_some]
      have hl0 : (if w32 (l : Int) = 0 then true else false) = false := by rw [w32_n (by omega), if_neg (by omega)]
      rw [hl0] at g3
      obtain ⟨u1, u2⟩ := hK.up hp
      by_cases hm : m2 = true
      · have hex : ∃ c, c < NN kd n ∧ e c = -1 ∧ seB n (tnC kd n) (opC kd wd n BE) e l c = true := by
          rcases g3.mp hm with k | k
          · exact absurd k (by decide)
          · exact k
        have hLK := u1 hex
        exact ⟨⟨hD.tr g1, l + 1, _, by push_cast; rfl, by omega, g2, fun d hd => by have := hLK.1 d hd; omega, Or.inr (Or.inl ⟨hm, hLK⟩)⟩, by show 5000 - ((l : Int) + 1).toNat < 5000 - (l : Int).toNat; omega⟩
      · have hno : ¬ ∃ c, c < NN kd n ∧ e c = -1 ∧ seB n (tnC kd n) (opC kd wd n BE) e l c = true := fun q => hm (g3.mpr (Or.inr q))
        obtain ⟨v1, v2⟩ := u2 hno
        exact ⟨⟨hD.tr g1, l + 1, e, by push_cast; rfl, by omega, fun d hd => by dsimp only; rw [g2 d hd, v1 d hd], he, Or.inr (Or.inr ⟨by simpa using hm, v2⟩)⟩, by show 5000 - ((l : Int) + 1).toNat < 5000 - (l : Int).toNat; omega⟩
    · subst e2
      rw [if_neg (by decide), Ok_some]
      exact ⟨hD, e, hT, hK⟩
  · rintro ν hν
    rw [Ok_some]
    exact hν
end COOKT
