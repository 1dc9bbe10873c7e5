/-! ===== level 2: the reference reads an expression ===== -/
section RPARSE
variable {tx : Nat → Nat} {L base m : Nat} {μ ν : Mem}
def CdR (base : Nat) : List (Nat × Nat) → Mem → Prop
  | [], _ => True
  | o :: c, μ => μ 82 (1100 + base + c.length) = ((o.1 + 16 * o.2 : Nat) : Int) ∧ CdR base c μ
theorem CdR.same {c : List (Nat × Nat)} (h : CdR base c μ) (e : ∀ i, i < 1100 + base + c.length → ν 82 i = μ 82 i) : CdR base c ν := by
  induction c with
  | nil => trivial
  | cons o c ih => exact ⟨by rw [e _ (by rw [List.length_cons]; omega)]; exact h.1, ih h.2 (fun i hi => e i (by rw [List.length_cons]; omega))⟩
/-- the reference stands at token s.1 and has written s.2 -/
def RS (tx : Nat → Nat) (L base : Nat) (s : PSt) (μ : Mem) : Prop := (Tk tx L μ ∧ W80 μ ∧ L ≤ 1000) ∧ Rch tx L s.1 ∧ μ 75 7 = s.1 ∧ μ 75 8 = 0 ∧ μ 75 12 = ((base + s.2.length : Nat) : Int) ∧ CdR base s.2 μ
/-- a fault is found -/
def RErr (tx : Nat → Nat) (L base e m : Nat) (μ : Mem) : Prop := (Tk tx L μ ∧ W80 μ ∧ L ≤ 1000) ∧ μ 75 8 = e ∧ (e ≠ 0 ∧ e < 20000) ∧ ∃ j k : Nat, μ 75 7 = j ∧ j ≤ 1000 ∧ μ 75 12 = k ∧ base ≤ k ∧ k + m ≤ j
def Pr (base : Nat) (μ ν : Mem) : Prop := (∀ x, x ≠ 75 → x ≠ 82 → ν x = μ x) ∧ (∀ j, j ≠ 7 → j ≠ 8 → j ≠ 12 → ν 75 j = μ 75 j) ∧ ∀ i, i < 1100 + base → ν 82 i = μ 82 i
def OutR (tx : Nat → Nat) (L base m : Nat) (r : PRz) (μ : Mem) : Prop := match r with
  | .inl s => RS tx L base s μ
  | .inr e => RErr tx L base e m μ
theorem Pr.rf : Pr base μ μ := ⟨fun _ _ _ => rfl, fun _ _ _ _ => rfl, fun _ _ => rfl⟩
theorem Pr.tr {a b c : Mem} (h1 : Pr base a b) (h2 : Pr base b c) : Pr base a c := ⟨fun x q1 q2 => (h2.1 x q1 q2).trans (h1.1 x q1 q2), fun j a b c => (h2.2.1 j a b c).trans (h1.2.1 j a b c), fun i hi => (h2.2.2 i hi).trans (h1.2.2 i hi)⟩
theorem Pr.p7 {v : Int} : Pr base μ (upd2 μ 75 7 v) := ⟨fun x q _ => upd2_ne q, fun j q _ _ => upd2_nj q, fun i _ => by rw [upd2_ne (by omega)]⟩
theorem Pr.p8 {v : Int} : Pr base μ (upd2 μ 75 8 v) := ⟨fun x q _ => upd2_ne q, fun j _ q _ => upd2_nj q, fun i _ => by rw [upd2_ne (by omega)]⟩
theorem Tk3.pr (h : Tk tx L μ ∧ W80 μ ∧ L ≤ 1000) (hP : Pr base μ ν) : Tk tx L ν ∧ W80 ν ∧ L ≤ 1000 := ⟨fun j hj => (h.1 j hj).same (by rw [hP.1 77 (by omega) (by omega)]) (by rw [hP.1 78 (by omega) (by omega)]) (by rw [hP.1 79 (by omega) (by omega)]), fun w hw => by rw [hP.1 80 (by omega) (by omega)]; exact h.2.1 w hw, h.2.2⟩
theorem RS.b {s : PSt} (h : RS tx L base s μ) : s.1 ≤ 1000 := h.2.1.b h.1.2.2
/-- the token that stands there -/
theorem RS.tk {s : PSt} (h : RS tx L base s μ) : TkJ tx L s.1 μ := h.1.1 _ h.2.1
theorem isSign_v {s : PSt} {c : Nat} (h : RS tx L base s μ) (hc : c < 127) : fX12_isSign (c : Int) μ = some (isS tx L s.1 c) := by
  have hb := h.b
  obtain ⟨t1, -, -, -, t5⟩ := h.tk
  obtain ⟨-, h2, h7, h8, -, -⟩ := h
  unfold fX12_isSign
  simp only [lt]
  rw [h8, if_pos (by decide), h7, w32_n (a := s.1) (by omega), gd_pos (by omega), gd_pos (by omega), Int.toNat_natCast, t1]
  have hk := tKd_b (tx := tx) (L := L) (s := tSt tx L s.1)
  rw [w32_n (by omega), show w32 3 = 3 from by decide]
  unfold isS
  by_cases q : tK tx L s.1 = 3
  · have hx : tx (tSt tx L s.1) < 127 := by
      have := sg_b (sg_of q)
      omega
    have hq : tKd tx L (tSt tx L s.1) = 3 := q
    rw [if_pos (by omega), t5 q, w32_n (a := c) (by omega), w64_eq (by omega) (by omega), w64_eq (by omega) (by omega), decide_eq_true q, Bool.true_and]
    by_cases e : tx (tSt tx L s.1) = c
    · rw [if_pos (by omega), decide_eq_true e]
    · rw [if_neg (by omega), decide_eq_false e]
  · have hq : ¬ tKd tx L (tSt tx L s.1) = 3 := q
    rw [if_neg (by omega), decide_eq_false q, Bool.false_and]
theorem isSign_e {e : Nat} {c : Int} (h : RErr tx L base e m μ) : fX12_isSign c μ = some false := by
  obtain ⟨-, h8, he, -⟩ := h
  unfold fX12_isSign
  rw [h8, if_neg (by rw [w32_n (by omega)]; omega)]
theorem isWord_r {s : PSt} {w : Nat} (h : RS tx L base s μ) (hw : w < 18) : fX12_isWord (w : Int) μ = some (isW tx L s.1 (ci w)) := by
  have hb := h.b
  obtain ⟨t1, -, t3, -, -⟩ := h.tk
  obtain ⟨⟨-, h80, -⟩, h2, h7, h8, -, -⟩ := h
  obtain ⟨c1, c2, c3⟩ := ci_ok w hw
  unfold fX12_isWord
  simp only [lt]
  rw [h8, if_pos (by decide), h7, w32_n (a := s.1) (by omega), gd_pos (by omega), gd_pos (by omega), Int.toNat_natCast, t1]
  have hk := tKd_b (tx := tx) (L := L) (s := tSt tx L s.1)
  rw [w32_n (by omega), w32_1]
  unfold isW
  by_cases q : tK tx L s.1 = 1
  · have hq : tKd tx L (tSt tx L s.1) = 1 := q
    have hwd := tWd_o hq
    have b1 := (pkW_b hwd).2
    have hk2 := kw_o (ci w) c1 c2
    have b2 := (pkW_b hk2).2
    rw [if_pos (by omega), w32_n (a := w) (by omega), gd_pos (by omega), Int.toNat_natCast, t3 q, h80 w hw, c3, w64_eq (by omega) (by omega), w64_eq (by omega) (by omega), decide_eq_true q, Bool.true_and]
    by_cases e : pkW 37 (tWd tx L (tSt tx L s.1)) = pkW 37 (kwC.getD (ci w) [])
    · have hl := pkW_inj (by omega) _ _ hwd.2.2 hk2.2.2 e
      rw [if_pos (by omega), decide_eq_true ((idx_is c1 c2).mpr hl)]
    · rw [if_neg (by omega), decide_eq_false (fun hi => e (by rw [(idx_is c1 c2).mp hi]))]
  · have hq : ¬ tKd tx L (tSt tx L s.1) = 1 := q
    rw [if_neg (by omega), decide_eq_false q, Bool.false_and]
theorem isWord_e {e : Nat} {w : Int} (h : RErr tx L base e m μ) : fX12_isWord w μ = some false := by
  obtain ⟨-, h8, he, -⟩ := h
  unfold fX12_isWord
  rw [h8, if_neg (by rw [w32_n (by omega)]; omega)]
/-- one token on -/
theorem RS.next {s : PSt} (h : RS tx L base s μ) (hp : tSt tx L s.1 < L) : RS tx L base (s.1 + 1, s.2) (upd2 μ 75 7 (μ 75 7 + 1)) := by
  obtain ⟨h1, h2, h7, h8, h12, hc⟩ := h
  exact ⟨Tk3.pr (base := base) h1 .p7, h2.next hp, by rw [upd2_at, h7]; push_cast; rfl, by rw [upd2_nj (by omega)]; exact h8, by rw [upd2_nj (by omega)]; exact h12, hc.same (fun i _ => by rw [upd2_ne (by omega)])⟩
theorem RS.stay {s : PSt} (h : RS tx L base s μ) : RS tx L base s (upd2 μ 75 7 (μ 75 7 + 0)) := by
  obtain ⟨h1, h2, h7, h8, h12, hc⟩ := h
  exact ⟨Tk3.pr (base := base) h1 .p7, h2, by rw [upd2_at, h7]; omega, by rw [upd2_nj (by omega)]; exact h8, by rw [upd2_nj (by omega)]; exact h12, hc.same (fun i _ => by rw [upd2_ne (by omega)])⟩
theorem RErr.stay {e : Nat} (h : RErr tx L base e m μ) : RErr tx L base e m (upd2 μ 75 7 (μ 75 7 + 0)) := by
  obtain ⟨h1, h8, he, j, k, h7, hj, h12, hbk, hk⟩ := h
  exact ⟨Tk3.pr (base := 0) h1 .p7, by rw [upd2_nj (by omega)]; exact h8, he, j, k, by rw [upd2_at, h7]; omega, hj, by rw [upd2_nj (by omega)]; exact h12, hbk, hk⟩
theorem er_lt {j w : Nat} (hL : L ≤ 1000) (hw : w ≤ 5) : er tx L w j < 20000 := by
  have := tSt_le (tx := tx) (L := L) j
  unfold er; omega
theorem rwrong_ok {s : PSt} {w : Nat} (h : RS tx L base s μ) (hw : 1 ≤ w ∧ w ≤ 5) (hm : base + s.2.length + m ≤ s.1) : Ok (fX12_wrong (w : Int) μ) (fun ν => RErr tx L base (er tx L w s.1) m ν ∧ Pr base μ ν) := by
  have hb := h.b
  obtain ⟨-, t2, -, -, -⟩ := h.tk
  obtain ⟨h1, h2, h7, h8, h12, hc⟩ := h
  unfold fX12_wrong
  simp only [lt]
  rw [h8, if_pos (by decide), h7, w32_n (a := s.1) (by omega), gd_pos (by omega), Int.toNat_natCast, t2, Ok_some]
  refine ⟨⟨Tk3.pr (base := base) h1 .p8, by rw [upd2_at]; unfold er; push_cast; rfl, ⟨er_pos (by omega), er_lt h1.2.2 hw.2⟩, s.1, base + s.2.length, by rw [upd2_nj (by omega)]; exact h7, hb, by rw [upd2_nj (by omega)]; exact h12, by omega, hm⟩, .p8⟩
theorem rwrong_e {e : Nat} {w : Int} (h : RErr tx L base e m μ) : fX12_wrong w μ = some μ := by
  obtain ⟨-, h8, he, -⟩ := h
  unfold fX12_wrong
  rw [h8, if_neg (by rw [w32_n (by omega)]; omega)]
theorem rtake_ok {s : PSt} {c : Nat} (h : RS tx L base s μ) (hc : c < 127) (hm : base + s.2.length + m ≤ s.1) : Ok (fX12_takeSign (c : Int) μ) (fun ν => OutR tx L base m (if isS tx L s.1 c = true then .inl (s.1 + 1, s.2) else .inr (er tx L 1 s.1)) ν ∧ Pr base μ ν) := by
  unfold fX12_takeSign
  simp only [lt]
  rw [isSign_v h hc, Option.bind_some]
  by_cases q : isS tx L s.1 c = true
  · rw [if_pos q, if_pos q, Ok_some]
    exact ⟨h.next (isS_pos q).1, .p7⟩
  · rw [if_neg q, if_neg q]
    refine Ok.then (rwrong_ok (w := 1) h (by omega) hm) ?_
    rintro ν ⟨g1, g2⟩
    rw [Ok_some]
    exact ⟨g1, g2⟩
theorem rtake_e {e : Nat} {c : Int} (h : RErr tx L base e m μ) : fX12_takeSign c μ = some μ := by
  unfold fX12_takeSign
  rw [isSign_e h, Option.bind_some, if_neg (by decide), rwrong_e h, Option.bind_some]
theorem rhas_ok {s : PSt} {c : Nat} (h : RS tx L base s μ) (hc : c < 127) : Ok (fX12_hasSign (c : Int) μ) (fun o => o.1 = isS tx L s.1 c ∧ RS tx L base (if isS tx L s.1 c = true then (s.1 + 1, s.2) else s) o.2 ∧ Pr base μ o.2) := by
  unfold fX12_hasSign
  simp only [lt]
  rw [isSign_v h hc, Option.bind_some, Ok_some]
  by_cases q : isS tx L s.1 c = true
  · rw [if_pos q, if_pos q]
    exact ⟨rfl, h.next (isS_pos q).1, .p7⟩
  · rw [if_neg q, if_neg q]
    exact ⟨rfl, h.stay, .p7⟩
theorem rhas_e {e : Nat} {c : Int} (h : RErr tx L base e m μ) : Ok (fX12_hasSign c μ) (fun o => o.1 = false ∧ RErr tx L base e m o.2 ∧ Pr base μ o.2) := by
  unfold fX12_hasSign
  simp only [lt]
  rw [isSign_e h, Option.bind_some, Ok_some]
  exact ⟨rfl, h.stay, .p7⟩
theorem rhasW_ok {s : PSt} {w : Nat} (h : RS tx L base s μ) (hw : w < 18) : Ok (fX12_hasWord (w : Int) μ) (fun o => o.1 = isW tx L s.1 (ci w) ∧ RS tx L base (if isW tx L s.1 (ci w) = true then (s.1 + 1, s.2) else s) o.2 ∧ Pr base μ o.2) := by
  unfold fX12_hasWord
  simp only [lt]
  rw [isWord_r h hw, Option.bind_some, Ok_some]
  by_cases q : isW tx L s.1 (ci w) = true
  · rw [if_pos q, if_pos q]
    exact ⟨rfl, h.next (isW_pos q).1, .p7⟩
  · rw [if_neg q, if_neg q]
    exact ⟨rfl, h.stay, .p7⟩
theorem emit_v {c a : Nat} {k : Nat} (h12 : μ 75 12 = k) (hk : k ≤ 1000) : fX12_emit (c : Int) (a : Int) μ = some (upd2 (upd2 μ 82 (1100 + k) ((c + 16 * a : Nat) : Int)) 75 12 ((k + 1 : Nat) : Int)) := by
  unfold fX12_emit
  simp only [lt]
  have e : (1100 : Int) + (k : Int) = ((1100 + k : Nat) : Int) := by omega
  have e1 : (c : Int) + 16 * (a : Int) = ((c + 16 * a : Nat) : Int) := by omega
  have e2 : (k : Int) + 1 = ((k + 1 : Nat) : Int) := by omega
  rw [h12, e, w32_n (a := 1100 + k) (by omega), gd_pos (by omega), Int.toNat_natCast, upd2_ne (by omega), h12, e1, e2]
theorem remit_ok {s : PSt} {c a : Nat} (h : RS tx L base s μ) (hl : base + s.2.length ≤ 1000) : Ok (fX12_emit (c : Int) (a : Int) μ) (fun ν => RS tx L base (psh (c, a) s) ν ∧ Pr base μ ν) := by
  obtain ⟨h1, h2, h7, h8, h12, hc⟩ := h
  rw [emit_v h12 hl, Ok_some]
  have hP : Pr base μ (upd2 (upd2 μ 82 (1100 + (base + s.2.length)) ((c + 16 * a : Nat) : Int)) 75 12 ((base + s.2.length + 1 : Nat) : Int)) := ⟨fun x q1 q2 => by rw [upd2_ne q1, upd2_ne q2], fun j _ _ q => by rw [upd2_nj q, upd2_ne (by omega)], fun i hi => by rw [upd2_ne (by omega), upd2_nj (by omega)]⟩
  refine ⟨⟨Tk3.pr h1 hP, h2, ?_, ?_, ?_, ?_, ?_⟩, hP⟩
  · rw [upd2_nj (by omega), upd2_ne (by omega)]; exact h7
  · rw [upd2_nj (by omega), upd2_ne (by omega)]; exact h8
  · unfold psh
    rw [upd2_at, List.length_cons]
    rfl
  · rw [upd2_ne (by omega), show 1100 + base + s.2.length = 1100 + (base + s.2.length) by omega, upd2_at]
  · exact hc.same (fun i hi => by rw [upd2_ne (by omega), upd2_nj (by omega)])
theorem remit_e {e c a : Nat} (h : RErr tx L base e (m + 1) μ) : Ok (fX12_emit (c : Int) (a : Int) μ) (fun ν => RErr tx L base e m ν ∧ Pr base μ ν) := by
  obtain ⟨h1, h8, he, j, k, h7, hj, h12, hbk, hk⟩ := h
  rw [emit_v h12 (by omega), Ok_some]
  have hP : Pr base μ (upd2 (upd2 μ 82 (1100 + k) ((c + 16 * a : Nat) : Int)) 75 12 ((k + 1 : Nat) : Int)) := ⟨fun x q1 q2 => by rw [upd2_ne q1, upd2_ne q2], fun j _ _ q => by rw [upd2_nj q, upd2_ne (by omega)], fun i hi => by rw [upd2_ne (by omega), upd2_nj (by omega)]⟩
  exact ⟨⟨Tk3.pr h1 hP, by rw [upd2_nj (by omega), upd2_ne (by omega)]; exact h8, he, j, k + 1, by rw [upd2_nj (by omega), upd2_ne (by omega)]; exact h7, hj, upd2_at, by omega, by omega⟩, hP⟩
/-- what reads one thing -/
def RlF (tx : Nat → Nat) (L base : Nat) (f : Mem → Option Mem) (a : PSt → PRz) : Prop := ∀ s μ m, RS tx L base s μ → base + s.2.length + m ≤ s.1 → Ok (f μ) (fun o => OutR tx L base m (a s) o ∧ Pr base μ o)
theorem RErr.less {e m' : Nat} (h : RErr tx L base e m μ) (hm : m' ≤ m) : RErr tx L base e m' μ := by
  obtain ⟨h1, h8, he, j, k, h7, hj, h12, hbk, hk⟩ := h
  exact ⟨h1, h8, he, j, k, h7, hj, h12, hbk, by omega⟩
theorem OutR.less {r : PRz} {m' : Nat} (h : OutR tx L base m r μ) (hm : m' ≤ m) : OutR tx L base m' r μ := by
  cases r with
  | inl s => exact h
  | inr e => exact RErr.less h hm
theorem loopR_ok {body : Mem → Option (Mem ⊕ Mem)} {aL : Nat → PSt → PRz} {test : PSt → Bool} {nx : PSt → PRz} (h0 : ∀ f s, aL (f + 1) s = if test s = true then bnd (nx s) (aL f) else .inl s)
    (hb : ∀ s μ, RS tx L base s μ → base + s.2.length + m ≤ s.1 → if test s = true then Ok (body μ) (fun r => ∃ θ, r = .inl θ ∧ Pr base μ θ ∧ OutR tx L base m (nx s) θ) else Ok (body μ) (fun r => ∃ θ, r = .inr θ ∧ Pr base μ θ ∧ RS tx L base s θ))
    (he : ∀ e μ, RErr tx L base e m μ → Ok (body μ) (fun r => ∃ θ, r = .inr θ ∧ Pr base μ θ ∧ RErr tx L base e m θ))
    (hg : ∀ s, Rch tx L s.1 → test s = true → Gd tx L 1 s (nx s)) (s : PSt) (h : RS tx L base s μ) (hl : base + s.2.length + m ≤ s.1) :
    Ok (loopN body FU μ) (fun o => OutR tx L base m (aL (L + 1) s) o ∧ Pr base μ o) := by
  refine loop_I (Q := fun o : Mem => OutR tx L base m (aL (L + 1) s) o ∧ Pr base μ o) _ (fun t : Mem => if t 75 8 = 0 then 2001 - (t 75 7).toNat else 0) (fun t : Mem => Pr base μ t ∧ ((∃ (f : Nat) (u : PSt), RS tx L base u t ∧ base + u.2.length + m ≤ u.1 ∧ L + 1 ≤ f + u.1 ∧ aL f u = aL (L + 1) s) ∨ ∃ e, RErr tx L base e m t ∧ aL (L + 1) s = .inr e)) ⟨.rf, Or.inl ⟨L + 1, s, h, hl, by omega, rfl⟩⟩ (by split <;> omega) ?_
  rintro ρ ⟨hP, hcase⟩
  rcases hcase with ⟨f, u, hu, hul, hf, ha⟩ | ⟨e, hE, ha⟩
  · have huL := hu.2.1.leL
    have hub := hu.b
    obtain ⟨f', rfl⟩ : ∃ f', f = f' + 1 := ⟨f - 1, by have := hu.1.2.2; omega⟩
    have hbv := hb u ρ hu hul
    rw [h0] at ha
    have hm0 : (if ρ 75 8 = 0 then 2001 - (ρ 75 7).toNat else 0) = 2001 - u.1 := by
      rw [if_pos hu.2.2.2.1, hu.2.2.1, Int.toNat_natCast]
    rw [hm0]
    by_cases c : test u = true
    · rw [if_pos c] at ha hbv
      refine Ok.imp hbv ?_
      rintro r ⟨θ, rfl, g1, g2⟩
      have hgu := hg u hu.2.1 c
      cases hn : nx u with
      | inr e =>
        rw [hn] at ha g2
        refine ⟨⟨hP.tr g1, Or.inr ⟨e, g2, ha.symm⟩⟩, ?_⟩
        have hne := g2.2.1
        have he0 := g2.2.2.1
        rw [if_neg (by rw [hne]; omega)]
        omega
      | inl t =>
        rw [hn] at ha g2 hgu
        obtain ⟨k1, k2, k3, k4⟩ := hgu
        refine ⟨⟨hP.tr g1, Or.inl ⟨f', t, g2, by omega, by omega, ha⟩⟩, ?_⟩
        have g2' : RS tx L base t θ := g2
        have htb := g2'.b
        rw [if_pos g2'.2.2.2.1, g2'.2.2.1, Int.toNat_natCast]
        omega
    · rw [if_neg c] at ha hbv
      refine Ok.imp hbv ?_
      rintro r ⟨θ, rfl, g1, g2⟩
      refine ⟨?_, hP.tr g1⟩
      rw [← ha]
      exact g2
  · refine Ok.imp (he e ρ hE) ?_
    rintro r ⟨θ, rfl, g1, g2⟩
    refine ⟨?_, hP.tr g1⟩
    rw [ha]
    exact g2
/-- one operand behind a sign that is taken, and the step -/
theorem roper_ok {f : Mem → Option Mem} {a : PSt → PRz} {s : PSt} {c : Nat} {β : Type} {g : Mem → β} (hf : RlF tx L base f a) (hg : GdF tx L 1 a) (hp : tSt tx L s.1 < L) (hs : Rch tx L s.1) (h : RS tx L base (s.1 + 1, s.2) μ) (hl : base + s.2.length + m ≤ s.1) :
    Ok ((f μ).bind fun μ4 => (fX12_emit (c : Int) ((0 : Nat) : Int) μ4).bind fun μ5 => some (g μ5)) (fun r => ∃ θ, r = g θ ∧ Pr base μ θ ∧ OutR tx L base m (bnd (a (s.1 + 1, s.2)) (fun t => .inl (psh (c, 0) t))) θ) := by
  refine Ok.then (hf (s.1 + 1, s.2) μ (m + 1) h (by dsimp only; omega)) ?_
  rintro μ4 ⟨g1, g2⟩
  have hgs := hg (s.1 + 1, s.2) (hs.next hp)
  cases hr : a (s.1 + 1, s.2) with
  | inr e =>
    rw [hr] at g1
    refine Ok.then (remit_e g1) ?_
    rintro μ5 ⟨g3, g4⟩
    rw [Ok_some]
    exact ⟨μ5, rfl, g2.tr g4, g3⟩
  | inl t =>
    rw [hr] at g1 hgs
    obtain ⟨k1, k2, k3, k4⟩ := hgs.tok t rfl
    have g1' : RS tx L base t μ4 := g1
    have hb := g1'.b
    refine Ok.then (remit_ok g1' (by omega)) ?_
    rintro μ5 ⟨g3, g4⟩
    rw [Ok_some]
    exact ⟨μ5, rfl, g2.tr g4, g3⟩
variable {rpR : Int → Mem → Option Mem} {rp : PSt → PRz} {d : Int}
theorem rprod_ok (hf : RlF tx L base (rpR d) rp) (hg : GdF tx L 1 rp) : RlF tx L base (fX12_products rpR d) (aProd tx L rp) := fun s μ m h hl => by
  unfold fX12_products aProd
  refine Ok.then (hf s μ m h hl) ?_
  rintro μ1 ⟨g1, g2⟩
  have hgs := hg s h.2.1
  have hloop : ∀ (aR : PRz), (match rp s with | .inl t => aPL tx L rp (L + 1) t | .inr e => .inr e) = aR → Ok (loopN (fun s => fX12_products_b5 rpR d s) FU μ1) (fun o => OutR tx L base m aR o ∧ Pr base μ1 o) := by
    rintro aR rfl
    have herr : ∀ e ρ, RErr tx L base e m ρ → Ok (fX12_products_b5 rpR d ρ) (fun r => ∃ θ, r = .inr θ ∧ Pr base ρ θ ∧ RErr tx L base e m θ) := fun e ρ hE => by
      unfold fX12_products_b5
      refine Ok.then (rhas_e hE) ?_
      rintro ⟨b, θ⟩ ⟨e1, e2, e3⟩
      dsimp only at e1 e2 e3 ⊢
      subst e1
      rw [if_neg (by decide), Ok_some]
      exact ⟨θ, rfl, e3, e2⟩
    cases hr : rp s with
    | inr e =>
      rw [hr] at g1
      refine loop_I (Q := fun o : Mem => OutR tx L base m (.inr e) o ∧ Pr base μ1 o) _ (fun _ => 0) (fun t : Mem => t = μ1) rfl (by omega) ?_
      rintro t rfl
      refine Ok.imp (herr e t g1) ?_
      rintro r ⟨θ, rfl, e3, e2⟩
      exact ⟨e2, e3⟩
    | inl t =>
      rw [hr] at g1 hgs
      obtain ⟨k1, k2, k3, k4⟩ := hgs
      refine loopR_ok (body := fun μ => fX12_products_b5 rpR d μ) (aL := aPL tx L rp) (test := fun s => isS tx L s.1 42) (nx := fun s => bnd (rp (s.1 + 1, s.2)) (fun t => .inl (psh (6, 0) t))) (fun f s => aPL_s) ?_ herr ?_ t g1 (by omega)
      · intro s μ h hl
        have hh := rhas_ok (c := 42) h (by omega)
        by_cases c : isS tx L s.1 42 = true
        · rw [if_pos c]
          unfold fX12_products_b5
          refine Ok.then hh ?_
          rintro ⟨b, θ⟩ ⟨e1, e2, e3⟩
          dsimp only at e1 e2 e3 ⊢
          rw [if_pos c] at e2
          rw [e1, if_pos c]
          refine Ok.imp (roper_ok (c := 6) (m := m) hf hg (isS_pos c).1 h.2.1 e2 hl) ?_
          rintro r ⟨θ2, r1, r2, r3⟩
          exact ⟨θ2, r1, e3.tr r2, r3⟩
        · rw [if_neg c]
          unfold fX12_products_b5
          refine Ok.then hh ?_
          rintro ⟨b, θ⟩ ⟨e1, e2, e3⟩
          dsimp only at e1 e2 e3 ⊢
          rw [if_neg c] at e2
          rw [e1, if_neg c, Ok_some]
          exact ⟨θ, rfl, e3, e2⟩
      · intro s hs c
        exact ((hg (s.1 + 1, s.2) (hs.next (isS_pos c).1)).op (s := s)).less (by omega)
  refine Ok.then (hloop _ rfl) ?_
  rintro μ2 ⟨q1, q2⟩
  rw [Ok_some]
  refine ⟨?_, g2.tr q2⟩
  cases hr : rp s with
  | inr e => rw [hr] at q1; exact q1
  | inl t => rw [hr] at q1; exact q1
end RPARSE
