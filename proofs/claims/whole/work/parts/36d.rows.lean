/-! ===== level 2: rows, bills, wishes, rims ===== -/
section CALLS3
variable {p : Pm} {μ ν : Mem} {a b w : Int}
/-- the next turn of the first row -/
theorem ft_some {f : Nat → Int} {t c : Nat} (hf : p.dist 0 t f) (hg : Gp p.N p.n p.g p.tn p.pr) (hc : c < p.N) (h0 : 0 < f c) : ∃ m : Nat, ftI p.n p.tn p.op f c = m ∧ 1 ≤ m ∧ m ≤ p.n ∧ f (p.tn c m) = f c - 1 ∧ p.op c m = true := by
  obtain ⟨m, m1, m2, m3, m4⟩ := hf.2.2.2 c hc h0
  have hE : p.op c m = true := by
    unfold eS at m3
    rw [Bool.and_eq_true] at m3
    have := m3.2
    rw [if_pos rfl, (hg.2.2.2 c m hc m1 m2).2.1] at this
    exact this
  obtain ⟨j, j1, j2, j3, j4⟩ := lst_some (p := nxB p.tn p.op f c) (f := p.n) (m := 1) (i := m) m1 (by omega) (by unfold nxB; rw [hE, m4]; simp)
  unfold nxB at j4
  rw [Bool.and_eq_true] at j4
  refine ⟨j, ?_, j2, by omega, of_decide_eq_true j4.2, j4.1⟩
  unfold ftI
  rw [if_pos h0]; exact j1
def wk (n : Nat) (tn : Nat → Nat → Nat) (op : Nat → Nat → Bool) (f : Nat → Int) (c : Nat) : Nat → Nat
  | 0 => c
  | j + 1 => tn (wk n tn op f c j) (ftI n tn op f (wk n tn op f c j)).toNat
theorem wk_b {f : Nat → Int} {t c : Nat} (hf : p.dist 0 t f) (hg : Gp p.N p.n p.g p.tn p.pr) (hc : c < p.N) : ∀ j : Nat, (j : Int) ≤ f c → wk p.n p.tn p.op f c j < p.N ∧ f (wk p.n p.tn p.op f c j) = f c - j
  | 0, _ => ⟨hc, by unfold wk; omega⟩
  | j + 1, h => by
    obtain ⟨h1, h2⟩ := wk_b hf hg hc j (by omega)
    obtain ⟨m, e, m1, m2, m3, m4⟩ := ft_some hf hg h1 (by omega)
    unfold wk
    rw [e, Int.toNat_natCast]
    exact ⟨(hg.2.2.2 _ m h1 m1 m2).1, by rw [m3, h2]; push_cast; omega⟩
theorem wk_congr {f g : Nat → Int} {t c : Nat} (hf : p.dist 0 t f) (hg : Gp p.N p.n p.g p.tn p.pr) (hc : c < p.N) (hfg : ∀ c, c < p.N → g c = f c) : ∀ j : Nat, (j : Int) ≤ f c → wk p.n p.tn p.op g c j = wk p.n p.tn p.op f c j ∧ ftI p.n p.tn p.op g (wk p.n p.tn p.op f c j) = ftI p.n p.tn p.op f (wk p.n p.tn p.op f c j) := fun j hj => by
  have hft : ∀ d, d < p.N → ftI p.n p.tn p.op g d = ftI p.n p.tn p.op f d := fun d hd => ftI_congr (hfg d hd) (fun m m1 m2 => hfg _ (hg.2.2.2 d m hd m1 m2).1)
  induction j with
  | zero => exact ⟨rfl, hft c hc⟩
  | succ j ih =>
    obtain ⟨i1, i2⟩ := ih (by omega)
    obtain ⟨h1, -⟩ := wk_b hf hg hc (j + 1) hj
    refine ⟨?_, hft _ h1⟩
    show p.tn _ _ = p.tn _ _
    rw [i1, i2]
theorem s_row (hG : GW μ) : S_row GW a μ := fun ha => by
  obtain ⟨p, hA⟩ := hG
  have hN := hA.1.gp.2.1
  have hn := hA.1.hn
  obtain ⟨v, μ1, e0, μ2, e1, e2⟩ := bothK (f := fX11_row a μ) (r := fX12_row a) (fun v => ∃ f, p.dist 0 p.g f ∧ v = (if 0 ≤ a ∧ a < f p.c then ftI p.n p.tn p.op f (wk p.n p.tn p.op f p.c a.toNat) else -1)) hA (by
    unfold fX11_row
    refine Ok.then (served_q hA) ?_
    rintro ν ⟨g1, g2, -, f, g4, g5⟩
    simp only [lt]
    have hb := (g4 _ hA.1.cN).2
    have hgp := g2.1.gp
    rw [nz_w ha, g2.1.h41, rw_at (Or.inl rfl) hN g4 hA.1.cN, w32_eq (x := f p.c) (by omega) (by omega)]
    by_cases q0 : a < 0
    · rw [if_pos q0, Ok_some]
      exact ⟨⟨f, g5, by rw [if_neg (by omega)]⟩, g1, g2.2.1⟩
    rw [if_neg q0]
    by_cases q1 : a < f p.c
    rotate_left
    · rw [if_neg q1, Ok_some]
      exact ⟨⟨f, g5, by rw [if_neg (by omega)]⟩, g1, g2.2.1⟩
    rw [if_pos q1]
    obtain ⟨A, rfl⟩ : ∃ A : Nat, a = A := ⟨a.toNat, by omega⟩
    refine Ok.then (loop_FU (Q := fun o : Int × Mem => o.1 = (wk p.n p.tn p.op f p.c A : Int) ∧ o.2 = ν) A (fun (i : Nat) (s : Int × Int × Mem) => s.1 = (wk p.n p.tn p.op f p.c i : Int) ∧ s.2.1 = (i : Int) ∧ s.2.2 = ν) 0 ⟨rfl, rfl, rfl⟩ (by omega) (by omega) ?_ ?_) ?_
    · rintro i ⟨x, y, ρ⟩ hi ⟨e1, e2, e3⟩
      dsimp only at e1 e2 e3 ⊢
      subst e1 e2 e3
      obtain ⟨h1, h2⟩ := wk_b g5 hgp hA.1.cN i (by omega)
      obtain ⟨m, e, m1, m2, m3, m4⟩ := ft_some g5 hgp h1 (by omega)
      have ht := g2.1.gr.2.2.2 _ m h1 m1 m2
      have hw : wk p.n p.tn p.op f p.c (i + 1) = p.tn (wk p.n p.tn p.op f p.c i) m := by
        rw [wk, e, Int.toNat_natCast]
      unfold fX11_row_b31
      simp only [lt]
      rw [w32_n (a := i) (by omega), w32_n (a := A) (by omega), if_pos (by omega), firstTurn_ok (Or.inl rfl) hgp g2.1.gr g4 h1, e, Option.bind_some, ht.1, Ok_some]
      exact ⟨by dsimp only; rw [hw], by push_cast; rfl, rfl⟩
    · rintro ⟨x, y, ρ⟩ ⟨e1, e2, e3⟩
      dsimp only at e1 e2 e3 ⊢
      subst e1 e2 e3
      unfold fX11_row_b31
      rw [w32_n (a := A) (by omega), if_neg (by omega), Ok_some]
      exact ⟨rfl, rfl⟩
    · rintro ⟨x, ρ⟩ ⟨e1, e2⟩
      dsimp only at e1 e2 ⊢
      subst e1 e2
      obtain ⟨h1, h2⟩ := wk_b g5 hgp hA.1.cN A (by omega)
      rw [firstTurn_ok (Or.inl rfl) hgp g2.1.gr g4 h1, Option.bind_some, Ok_some]
      exact ⟨⟨f, g5, by rw [if_pos (by omega), Int.toNat_natCast]⟩, g1, g2.2.1⟩) (by
    rintro v ⟨f, hf, rfl⟩ ν hν
    unfold fX12_row
    simp only [lt]
    refine Ok.then (fewest_q hν) ?_
    rintro θ ⟨q1, q2, P, W, hM, hL⟩
    have hθ := hν.1.qr q1
    have hgp := hθ.gp
    have hB := hL.tb hn
    have hb := hf.1 _ hA.1.cN
    have hfg := dist_eq hθ hf hL
    rw [nz_w ha, hθ.h88]
    by_cases q0 : a < 0
    · rw [if_pos q0, if_neg (by omega), Ok_some]
      exact ⟨rfl, q1, q2⟩
    rw [if_neg q0, least_r hθ.rr hM hB hθ.cN, Option.bind_some, hfg _ hθ.cN, w32_eq (x := f p.c) (by omega) (by omega)]
    by_cases c1 : a < f p.c
    rotate_left
    · rw [if_neg c1, if_neg (by omega), Ok_some]
      exact ⟨rfl, q1, q2⟩
    rw [if_pos c1, if_pos (by omega)]
    obtain ⟨A, rfl⟩ : ∃ A : Nat, a = A := ⟨a.toNat, by omega⟩
    rw [Int.toNat_natCast]
    refine Ok.then (loop_FU (Q := fun o : Int × Mem => o.1 = (nu p.kd p.n (wk p.n p.tn p.op f p.c A) : Int) ∧ Dl θ o.2) A (fun (i : Nat) (s : Int × Int × Mem) => s.1 = (nu p.kd p.n (wk p.n p.tn p.op f p.c i) : Int) ∧ s.2.1 = (i : Int) ∧ Dl θ s.2.2) 0 ⟨rfl, rfl, Dl.rf⟩ (by omega) (by omega) ?_ ?_) ?_
    · rintro i ⟨x, y, ρ⟩ hi ⟨e1, e2, hD⟩
      dsimp only at e1 e2 hD ⊢
      subst e1 e2
      obtain ⟨h1, h2⟩ := wk_b hf hgp hA.1.cN i (by omega)
      obtain ⟨m, e, m1, m2, m3, m4⟩ := ft_some hf hgp h1 (by omega)
      have hw : wk p.n p.tn p.op f p.c (i + 1) = p.tn (wk p.n p.tn p.op f p.c i) m := by
        rw [wk, e, Int.toNat_natCast]
      obtain ⟨-, w2⟩ := wk_congr (g := fun c => (P c : Int) - 1) hf hgp hA.1.cN hfg i (by omega)
      unfold fX12_row_b33
      simp only [lt]
      rw [w32_n (a := i) (by omega), w32_n (a := A) (by omega), if_pos (by omega)]
      refine Ok.then (nearer_r (b := 0) (t := 0) (hθ.rr.dl hD) (hM.dl hD) hB h1) ?_
      rintro ⟨o, τ⟩ ⟨o1, o2, o3⟩
      dsimp only at o1 o2 o3 ⊢
      rw [o1, w2, e, w32_n (by omega), gd_pos (by omega), Int.toNat_natCast, (o3 m m1 m2).1, if_pos (by rw [Bool.and_eq_true]; exact ⟨decide_eq_true (by omega), m4⟩), Ok_some]
      exact ⟨by dsimp only; rw [hw], by push_cast; rfl, hD.tr o2⟩
    · rintro ⟨x, y, ρ⟩ ⟨e1, e2, hD⟩
      dsimp only at e1 e2 hD ⊢
      subst e1 e2
      unfold fX12_row_b33
      rw [w32_n (a := A) (by omega), if_neg (by omega), Ok_some]
      exact ⟨rfl, hD⟩
    · rintro ⟨x, ρ⟩ ⟨e1, hD⟩
      dsimp only at e1 hD ⊢
      subst e1
      obtain ⟨h1, h2⟩ := wk_b hf hgp hA.1.cN A (by omega)
      obtain ⟨-, w2⟩ := wk_congr (g := fun c => (P c : Int) - 1) hf hgp hA.1.cN hfg A (by omega)
      refine Ok.then (nearer_r (b := 0) (t := 0) (hθ.rr.dl hD) (hM.dl hD) hB h1) ?_
      rintro ⟨o, τ⟩ ⟨o1, o2, o3⟩
      dsimp only at o1 o2 o3 ⊢
      rw [Ok_some]
      have hDD := hD.tr o2
      refine ⟨o1.trans w2, q1.tr ⟨fun x hx => hDD x (by omega) (by omega) (by omega) (by omega) (by omega) (by omega), fun j _ _ _ => congrFun (hDD 75 (by omega) (by omega) (by omega) (by omega) (by omega) (by omega)) j⟩, q2.same (congrFun (hDD 75 (by omega) (by omega) (by omega) (by omega) (by omega) (by omega)) 26) (hDD 92 (by omega) (by omega) (by omega) (by omega) (by omega) (by omega))⟩)
  exact ⟨v, μ1, e0, v, μ2, e1, rfl, e2⟩
/-- the class's bills -/
abbrev Pm.bill (p : Pm) (F : Nat → Int) : Prop := IsC p.N p.n p.tn p.op p.pr p.g F
theorem bills_q (hG : GA p μ) : Ok (fX0_learn μ) (fun ν => Qc μ ν ∧ GA p ν ∧ ∃ F, Br p.N F ν ∧ p.bill F) := by
  obtain ⟨h, hC, hT⟩ := id hG
  refine Ok.imp (bills_ok h.gp h.gr hC.bi) ?_
  rintro ν ⟨f1, f2, f3, f4⟩
  have hQ : Qc μ ν := ⟨fun x hx => f1 x (by omega) (by omega), fun j _ _ => congrFun (f1 25 (by omega) (by omega)) j⟩
  refine ⟨hQ, ⟨h.qc hQ, ⟨?_, fun k bk b hk => ?_, fun _ => f4, ?_⟩, hT.qc hQ⟩, _, fun c hc => rfl, f4⟩
  · rw [f1 25 (by omega) (by omega)]; exact hC.sck
  · obtain ⟨a1, a2, a3⟩ := hC.st k bk b hk
    have kk : k = 46 ∨ k = 49 ∨ k = 51 ∨ (65 ≤ k ∧ k ≤ 73) := by
      unfold stB at hk
      rcases hk with q | q | q | ⟨i, hi, q⟩ <;> omega
    have e1 := f1 k (by omega) (by omega)
    have e2 := f1 (k + 1) (by omega) (by omega)
    rw [e1]
    exact ⟨a1, a2, a3.same e1 e2⟩
  · have := hC.co
    unfold CoO at this ⊢
    rw [f1 55 (by omega) (by omega), f1 56 (by omega) (by omega)]; exact this
theorem cheap_q (hG : GA p ν) : Ok (fX12_laysCheap (upd2 ν 75 0 0)) (fun θ => Qr ν θ ∧ Tt p θ ∧ ∃ F, TC p.kd p.n F θ ∧ p.bill F) := by
  obtain ⟨h, hC, hT⟩ := id hG
  have hQ1 : Qr ν (upd2 ν 75 0 0) := .dk0 Dk.rf
  have hT1 : Tt p (upd2 ν 75 0 0) := hT.dk0 Dk.rf
  have hw : w32 (upd2 ν 75 0 0 75 26) = upd2 ν 75 0 0 75 26 := by
    rcases hT1.1 with e | e | e | e <;> rw [e] <;> decide
  by_cases e : upd2 ν 75 0 0 75 26 = 2
  · unfold fX12_laysCheap
    rw [hw, w32_2, if_pos e, Ok_some]
    exact ⟨hQ1, hT1, hT1.2.2.1 e⟩
  · refine Ok.imp (cheap_r h.rr.put (by rw [hw]; exact e)) ?_
    rintro θ ⟨hD, F, hF, hI⟩
    have h26 : θ 75 26 = 2 := by rw [hD 75 (by omega) (by omega) (by omega) (by omega) (by omega), upd2_at]
    refine ⟨⟨fun x hx => ?_, fun j j0 j1 j2 => ?_⟩, ⟨Or.inr (Or.inr (Or.inl h26)), fun q => ?_, fun _ => ⟨F, hF, hI⟩, fun q => ?_⟩, F, hF, hI⟩
    · rw [hD x (by omega) (by omega) (by omega) (by omega) (by omega), upd2_ne (by omega), upd2_ne (by omega)]
    · rw [hD 75 (by omega) (by omega) (by omega) (by omega) (by omega), upd2_nj j1, upd2_nj j0]
    · rw [h26] at q; omega
    · rw [h26] at q; omega
theorem l_2i_p {x : Int} (h0 : 0 ≤ x) (h1 : x < 2147483648) : l_2i x = x := by
  obtain ⟨k, rfl⟩ : ∃ k : Nat, x = k := ⟨x.toNat, by omega⟩
  exact l_2i_n (by omega)
theorem s_cheap (hG : GW μ) : S_cheap GW μ := by
  obtain ⟨p, hA⟩ := hG
  have hN := hA.1.gp.2.1
  obtain ⟨v, μ1, e0, μ2, e1, e2⟩ := bothK (f := fX11_cheap μ) (r := fX12_cheap) (fun v => ∃ F, p.bill F ∧ v = F p.c) hA (by
    unfold fX11_cheap
    refine Ok.then (bills_q hA) ?_
    rintro ν ⟨g1, g2, F, g4, g5⟩
    rw [g2.1.h41, br_at hN g4 hA.1.cN, Ok_some]
    exact ⟨⟨F, g5, rfl⟩, g1, g2.2.1⟩) (by
    rintro v ⟨f, hf, rfl⟩ ν hν
    unfold fX12_cheap
    simp only [lt]
    refine Ok.then (cheap_q hν) ?_
    rintro θ ⟨q1, q2, F, hF, hI⟩
    have hθ := hν.1.qr q1
    obtain ⟨n1, n2⟩ := hθ.rr.nul hθ.cN
    have hb := hI.1 _ hθ.cN
    have hu := hI.uniq hθ.gp hf p.c hθ.cN
    rw [hθ.h88, w32_n (by omega), gd_pos (by omega), Int.toNat_natCast, hF _ hθ.cN, l_2i_p (by omega) (by omega), Ok_some]
    exact ⟨by dsimp only; omega, q1, q2⟩)
  exact ⟨v, μ1, e0, v, μ2, e1, rfl, e2⟩
theorem s_dear (hG : GW μ) : S_dear GW μ := by
  obtain ⟨p, hA⟩ := hG
  have hN := hA.1.gp.2.1
  obtain ⟨v, μ1, e0, μ2, e1, e2⟩ := bothK (f := fX11_dear μ) (r := fX12_dear) (fun v => ∃ F, p.bill F ∧ v = ((mx p.N (fun c => (F c).toNat) : Nat) : Int)) hA (by
    unfold fX11_dear
    refine Ok.then (bills_q hA) ?_
    rintro ν ⟨g1, g2, F, g4, g5⟩
    rw [mostSum_ok g2.1.gp g2.1.gr g4 g5, Option.bind_some, Ok_some]
    exact ⟨⟨F, g5, rfl⟩, g1, g2.2.1⟩) (by
    rintro v ⟨f, hf, rfl⟩ ν hν
    unfold fX12_dear
    simp only [lt]
    refine Ok.then (cheap_q hν) ?_
    rintro θ ⟨q1, q2, F, hF, hI⟩
    have hθ := hν.1.qr q1
    have hmb : mx (NN p.kd p.n) (fun c => (F c + 1).toNat) ≤ 40000 := mx_le (fun c hc => by have := hI.1 c hc; omega)
    rw [dear_r hθ.rr hF hI, Option.bind_some]
    dsimp only
    rw [l_2i_n (by omega), Ok_some]
    refine ⟨?_, q1, q2⟩
    dsimp only
    have hfF : ∀ c, c < p.N → F c = f c := hI.uniq hθ.gp hf
    have h1 : mx p.N (fun c => (F c + 1).toNat) = mx p.N (fun c => (f c).toNat) + 1 := by
      apply Nat.le_antisymm
      · refine mx_le (fun c hc => ?_)
        have := mx_ge (f := fun c => (f c).toNat) hc
        have h2 := hI.1 c hc
        have h3 := hfF c hc
        omega
      · have hg := mx_ge (f := fun c => (F c + 1).toNat) hθ.gN
        rw [hI.2.1] at hg
        rcases mx_at (n := p.N) (f := fun c => (f c).toNat) with e | ⟨i, hi, e⟩
        · rw [e]; omega
        · have h2 := mx_ge (f := fun c => (F c + 1).toNat) hi
          have h3 := hfF i hi
          have h4 := hI.1 i hi
          rw [← e]
          omega
    rw [h1]; push_cast; omega)
  exact ⟨v, μ1, e0, v, μ2, e1, rfl, e2⟩
theorem fb_congr {F G : Nat → Int} {c : Nat} (hg : Gp p.N p.n p.g p.tn p.pr) (h : ∀ c, c < p.N → F c = G c) (hc : c < p.N) : fbI p.n p.tn p.op p.pr F c = fbI p.n p.tn p.op p.pr G c := by
  unfold fbI
  rw [h c hc]
  have := lst_congr (p := nbB p.tn p.op p.pr F c) (q := nbB p.tn p.op p.pr G c) (f := p.n) (m := 1) (fun i h1 h2 => by
    unfold nbB
    rw [h c hc, h _ (hg.2.2.2 c i hc h1 (by omega)).1])
  rw [this]
theorem s_bill (hG : GW μ) : S_bill GW a μ := fun ha => by
  obtain ⟨p, hA⟩ := hG
  have hN := hA.1.gp.2.1
  have hn := hA.1.hn
  have hab := ha
  unfold Nz at hab
  obtain ⟨v, μ1, e0, μ2, e1, e2⟩ := bothK (f := fX11_bill a μ) (r := fX12_bill a) (fun v => ∃ F, p.bill F ∧ v = (if 0 ≤ a then eB p.n p.tn p.op p.pr F a.toNat p.c else -1)) hA (by
    unfold fX11_bill
    refine Ok.then (bills_q hA) ?_
    rintro ν ⟨g1, g2, F, g4, g5⟩
    simp only [lt]
    rw [nz_w ha, g2.1.h41]
    by_cases q0 : a < 0
    · rw [if_pos q0, Ok_some]
      exact ⟨⟨F, g5, by rw [if_neg (by omega)]⟩, g1, g2.2.1⟩
    rw [if_neg q0]
    rw [show w32 3840 = 3840 from by decide]
    by_cases q1 : 3840 ≤ a
    · rw [if_neg (show ¬ a < 3840 by omega), Ok_some]
      exact ⟨⟨F, g5, by rw [if_pos (show 0 ≤ a by omega), eB_far g2.1.gp g5 g2.1.cN (by omega)]⟩, g1, g2.2.1⟩
    rw [if_pos (show a < 3840 by omega)]
    obtain ⟨A, rfl⟩ : ∃ A : Nat, a = A := ⟨a.toNat, by omega⟩
    refine Ok.then (bwalk_ok (by omega) g2.1.gp g2.1.gr g4 g5 hA.1.cN) ?_
    rintro ⟨x, ρ⟩ ⟨e1, d, e2, e3, e4⟩
    dsimp only at e1 e2 ⊢
    subst e1 e2
    unfold fX11_bill_j69
    rw [bfirst_ok g2.1.gp g2.1.gr g4 g5 e3, Option.bind_some, Ok_some]
    refine ⟨⟨F, g5, ?_⟩, g1, g2.2.1⟩
    dsimp only
    rw [if_pos (by omega), Int.toNat_natCast, e4]) (by
    rintro v ⟨f, hf, rfl⟩ ν hν
    unfold fX12_bill
    simp only [lt]
    refine Ok.then (cheap_q hν) ?_
    rintro θ ⟨q1, q2, F, hF, hI⟩
    have hθ := hν.1.qr q1
    rw [hθ.h88]
    by_cases q0 : 0 ≤ a
    · obtain ⟨A, rfl⟩ : ∃ A : Nat, a = A := ⟨a.toNat, by omega⟩
      rw [if_pos q0, Int.toNat_natCast]
      refine Ok.imp (bwalk_r (by omega) hθ.rr hF hI hθ.cN) ?_
      rintro ⟨o, τ⟩ ⟨o1, hDD⟩
      dsimp only at o1 hDD ⊢
      refine ⟨?_, q1.tr ⟨fun x hx => hDD x (by omega) (by omega) (by omega) (by omega) (by omega) (by omega), fun j _ _ _ => congrFun (hDD 75 (by omega) (by omega) (by omega) (by omega) (by omega) (by omega)) j⟩, q2.same (congrFun (hDD 75 (by omega) (by omega) (by omega) (by omega) (by omega) (by omega)) 26) (hDD 92 (by omega) (by omega) (by omega) (by omega) (by omega) (by omega))⟩
      rw [o1]
      have he : ∀ (i d : Nat), d < p.N → eB p.n p.tn p.op p.pr F i d = eB p.n p.tn p.op p.pr f i d := by
        intro i
        induction i with
        | zero =>
          intro d hd
          have hfc := fb_congr hθ.gp (hI.uniq hθ.gp hf) hd
          unfold eB
          exact hfc
        | succ i ih =>
          intro d hd
          have hfc := fb_congr hθ.gp (hI.uniq hθ.gp hf) hd
          have hdF := hI.uniq hθ.gp hf d hd
          unfold eB
          rw [hdF, hfc]
          by_cases h0 : 0 < f d
          · obtain ⟨m, m0, m1, m2, m3⟩ := fb_some hf hd h0
            rw [m0, Int.toNat_natCast]
            rw [ih _ (hθ.gp.2.2.2 d m hd m1 m2).1]
          · rw [if_neg h0, if_neg h0]
      exact he A p.c hθ.cN
    · rw [if_neg q0]
      refine loop_FU 0 (fun (_ : Nat) (s : Int × Int × Int × Mem) => s = ((nu p.kd p.n p.c : Int), -1, 0, θ)) 0 rfl (by omega) (by omega) (fun i s hi _ => absurd hi (by omega)) ?_
      rintro s rfl
      unfold fX12_bill_b21
      rw [nz_w ha, show w32 0 = 0 from by decide, if_neg (by omega), Ok_some]
      exact ⟨rfl, q1, q2⟩)
  exact ⟨v, μ1, e0, v, μ2, e1, rfl, e2⟩
end CALLS3
