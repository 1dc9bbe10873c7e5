/-! ===== level 2: the reference reads an expression ===== -/
section RPARSE
variable {tx : Nat → Nat} {L base m : Nat} {μ ν : Mem}
def CdR (base : Nat) : List (Nat × Nat) → Mem → Prop
  | [], _ => True
  | o :: c, μ => μ 82 (1100 + base + c.length) = ((o.1 + 16 * o.2 : Nat) : Int) ∧ CdR base c μ
theorem CdR.same {c : List (Nat × Nat)} (h : CdR base c μ) (e : ∀ i, i < 1100 + base + c.length → ν 82 i = μ 82 i) : CdR base c ν := by
  induction c with
  | nil => trivial
  | cons o c ih => exact ⟨by rw [e _ (by rw [List.length_cons]; omega)]; exact h.1, ih h.2 (fun i hi => e i (by rw [List.length_cons]; omega))⟩
/-- the reference stands at token s.1 and has written s.2 -/
def RS (tx : Nat → Nat) (L base : Nat) (s : PSt) (μ : Mem) : Prop := (Tk tx L μ ∧ W80 μ ∧ L ≤ 1000) ∧ Rch tx L s.1 ∧ μ 75 7 = s.1 ∧ μ 75 8 = 0 ∧ μ 75 12 = ((base + s.2.length : Nat) : Int) ∧ CdR base s.2 μ
/-- a fault is found -/
def RErr (tx : Nat → Nat) (L e m : Nat) (μ : Mem) : Prop := (Tk tx L μ ∧ W80 μ ∧ L ≤ 1000) ∧ μ 75 8 = e ∧ (e ≠ 0 ∧ e < 20000) ∧ ∃ j k : Nat, μ 75 7 = j ∧ j ≤ 1000 ∧ μ 75 12 = k ∧ k + m ≤ j
def Pr (base : Nat) (μ ν : Mem) : Prop := (∀ x, x ≠ 75 → x ≠ 82 → ν x = μ x) ∧ (∀ j, j ≠ 7 → j ≠ 8 → j ≠ 12 → ν 75 j = μ 75 j) ∧ ∀ i, i < 1100 + base → ν 82 i = μ 82 i
def OutR (tx : Nat → Nat) (L base m : Nat) (r : PRz) (μ : Mem) : Prop := match r with
  | .inl s => RS tx L base s μ
  | .inr e => RErr tx L e m μ
theorem Pr.rf : Pr base μ μ := ⟨fun _ _ _ => rfl, fun _ _ _ _ => rfl, fun _ _ => rfl⟩
theorem Pr.tr {a b c : Mem} (h1 : Pr base a b) (h2 : Pr base b c) : Pr base a c := ⟨fun x q1 q2 => (h2.1 x q1 q2).trans (h1.1 x q1 q2), fun j a b c => (h2.2.1 j a b c).trans (h1.2.1 j a b c), fun i hi => (h2.2.2 i hi).trans (h1.2.2 i hi)⟩
theorem Pr.p7 {v : Int} : Pr base μ (upd2 μ 75 7 v) := ⟨fun x q _ => upd2_ne q, fun j q _ _ => upd2_nj q, fun i _ => by rw [upd2_ne (by omega)]⟩
theorem Pr.p8 {v : Int} : Pr base μ (upd2 μ 75 8 v) := ⟨fun x q _ => upd2_ne q, fun j _ q _ => upd2_nj q, fun i _ => by rw [upd2_ne (by omega)]⟩
theorem Tk3.pr (h : Tk tx L μ ∧ W80 μ ∧ L ≤ 1000) (hP : Pr base μ ν) : Tk tx L ν ∧ W80 ν ∧ L ≤ 1000 := ⟨fun j hj => (h.1 j hj).same (by rw [hP.1 77 (by omega) (by omega)]) (by rw [hP.1 78 (by omega) (by omega)]) (by rw [hP.1 79 (by omega) (by omega)]), fun w hw => by rw [hP.1 80 (by omega) (by omega)]; exact h.2.1 w hw, h.2.2⟩
theorem RS.b {s : PSt} (h : RS tx L base s μ) : s.1 ≤ 1000 := h.2.1.b h.1.2.2
/-- the token that stands there -/
theorem RS.tk {s : PSt} (h : RS tx L base s μ) : TkJ tx L s.1 μ := h.1.1 _ h.2.1
theorem isSign_v {s : PSt} {c : Nat} (h : RS tx L base s μ) (hc : c < 127) : fX12_isSign (c : Int) μ = some (isS tx L s.1 c) := by
  have hb := h.b
  obtain ⟨t1, -, -, -, t5⟩ := h.tk
  obtain ⟨-, h2, h7, h8, -, -⟩ := h
  unfold fX12_isSign
  simp only [lt]
  rw [h8, if_pos (by decide), h7, w32_n (a := s.1) (by omega), gd_pos (by omega), gd_pos (by omega), Int.toNat_natCast, t1]
  have hk : tKd tx L (tSt tx L s.1) ≤ 4 := by unfold tKd; repeat' split; all_goals omega
  rw [w32_n (by omega), show w32 3 = 3 from by decide]
  unfold isS
  by_cases q : tK tx L s.1 = 3
  · have hx : tx (tSt tx L s.1) < 127 := by
      have := sg_b (sg_of q)
      omega
    have hq : tKd tx L (tSt tx L s.1) = 3 := q
    rw [if_pos (by omega), t5 q, w32_n (a := c) (by omega), w64_eq (by omega) (by omega), w64_eq (by omega) (by omega), decide_eq_true q, Bool.true_and]
    by_cases e : tx (tSt tx L s.1) = c
    · rw [if_pos (by omega), decide_eq_true e]
    · rw [if_neg (by omega), decide_eq_false e]
  · have hq : ¬ tKd tx L (tSt tx L s.1) = 3 := q
    rw [if_neg (by omega), decide_eq_false q, Bool.false_and]
theorem isSign_e {e : Nat} {c : Int} (h : RErr tx L e m μ) : fX12_isSign c μ = some false := by
  obtain ⟨-, h8, he, -⟩ := h
  unfold fX12_isSign
  rw [h8, if_neg (by rw [w32_n (by omega)]; omega)]
theorem isWord_r {s : PSt} {w : Nat} (h : RS tx L base s μ) (hw : w < 18) : fX12_isWord (w : Int) μ = some (isW tx L s.1 (ci w)) := by
  have hb := h.b
  obtain ⟨t1, -, t3, -, -⟩ := h.tk
  obtain ⟨⟨-, h80, -⟩, h2, h7, h8, -, -⟩ := h
  obtain ⟨c1, c2, c3⟩ := ci_ok w hw
  unfold fX12_isWord
  simp only [lt]
  rw [h8, if_pos (by decide), h7, w32_n (a := s.1) (by omega), gd_pos (by omega), gd_pos (by omega), Int.toNat_natCast, t1]
  have hk : tKd tx L (tSt tx L s.1) ≤ 4 := by unfold tKd; repeat' split; all_goals omega
  rw [w32_n (by omega), w32_1]
  unfold isW
  by_cases q : tK tx L s.1 = 1
  · have hq : tKd tx L (tSt tx L s.1) = 1 := q
    have hwd := tWd_o hq
    have b1 := (pkW_b hwd).2
    have hk2 := kw_o (ci w) c1 c2
    have b2 := (pkW_b hk2).2
    rw [if_pos (by omega), w32_n (a := w) (by omega), gd_pos (by omega), Int.toNat_natCast, t3 q, h80 w hw, c3, w64_eq (by omega) (by omega), w64_eq (by omega) (by omega), decide_eq_true q, Bool.true_and]
    by_cases e : pkW 37 (tWd tx L (tSt tx L s.1)) = pkW 37 (kwC.getD (ci w) [])
    · have hl := pkW_inj (by omega) _ _ hwd.2.2 hk2.2.2 e
      rw [if_pos (by omega), decide_eq_true ((idx_is c1 c2).mpr hl)]
    · rw [if_neg (by omega), decide_eq_false (fun hi => e (by rw [(idx_is c1 c2).mp hi]))]
  · have hq : ¬ tKd tx L (tSt tx L s.1) = 1 := q
    rw [if_neg (by omega), decide_eq_false q, Bool.false_and]
theorem isWord_e {e : Nat} {w : Int} (h : RErr tx L e m μ) : fX12_isWord w μ = some false := by
  obtain ⟨-, h8, he, -⟩ := h
  unfold fX12_isWord
  rw [h8, if_neg (by rw [w32_n (by omega)]; omega)]
/-- one token on -/
theorem RS.next {s : PSt} (h : RS tx L base s μ) (hp : tSt tx L s.1 < L) : RS tx L base (s.1 + 1, s.2) (upd2 μ 75 7 (μ 75 7 + 1)) := by
  obtain ⟨h1, h2, h7, h8, h12, hc⟩ := h
  exact ⟨Tk3.pr (base := base) h1 .p7, h2.next hp, by rw [upd2_at, h7]; push_cast; rfl, by rw [upd2_nj (by omega)]; exact h8, by rw [upd2_nj (by omega)]; exact h12, hc.same (fun i _ => by rw [upd2_ne (by omega)])⟩
theorem RS.stay {s : PSt} (h : RS tx L base s μ) : RS tx L base s (upd2 μ 75 7 (μ 75 7 + 0)) := by
  obtain ⟨h1, h2, h7, h8, h12, hc⟩ := h
  exact ⟨Tk3.pr (base := base) h1 .p7, h2, by rw [upd2_at, h7]; omega, by rw [upd2_nj (by omega)]; exact h8, by rw [upd2_nj (by omega)]; exact h12, hc.same (fun i _ => by rw [upd2_ne (by omega)])⟩
theorem RErr.stay {e : Nat} (h : RErr tx L e m μ) : RErr tx L e m (upd2 μ 75 7 (μ 75 7 + 0)) := by
  obtain ⟨h1, h8, he, j, k, h7, hj, h12, hk⟩ := h
  exact ⟨Tk3.pr (base := 0) h1 .p7, by rw [upd2_nj (by omega)]; exact h8, he, j, k, by rw [upd2_at, h7]; omega, hj, by rw [upd2_nj (by omega)]; exact h12, hk⟩
theorem er_lt {j w : Nat} (hL : L ≤ 1000) (hw : w ≤ 5) : er tx L w j < 20000 := by
  have := tSt_le (tx := tx) (L := L) j
  unfold er; omega
theorem rwrong_ok {s : PSt} {w : Nat} (h : RS tx L base s μ) (hw : 1 ≤ w ∧ w ≤ 5) (hm : base + s.2.length + m ≤ s.1) : Ok (fX12_wrong (w : Int) μ) (fun ν => RErr tx L (er tx L w s.1) m ν ∧ Pr base μ ν) := by
  have hb := h.b
  obtain ⟨-, t2, -, -, -⟩ := h.tk
  obtain ⟨h1, h2, h7, h8, h12, hc⟩ := h
  unfold fX12_wrong
  simp only [lt]
  rw [h8, if_pos (by decide), h7, w32_n (a := s.1) (by omega), gd_pos (by omega), Int.toNat_natCast, t2, Ok_some]
  refine ⟨⟨Tk3.pr (base := base) h1 .p8, by rw [upd2_at]; unfold er; push_cast; rfl, ⟨er_pos (by omega), er_lt h1.2.2 hw.2⟩, s.1, base + s.2.length, by rw [upd2_nj (by omega)]; exact h7, hb, by rw [upd2_nj (by omega)]; exact h12, hm⟩, .p8⟩
theorem rwrong_e {e : Nat} {w : Int} (h : RErr tx L e m μ) : fX12_wrong w μ = some μ := by
  obtain ⟨-, h8, he, -⟩ := h
  unfold fX12_wrong
  rw [h8, if_neg (by rw [w32_n (by omega)]; omega)]
theorem rtake_ok {s : PSt} {c : Nat} (h : RS tx L base s μ) (hc : c < 127) (hm : base + s.2.length + m ≤ s.1) : Ok (fX12_takeSign (c : Int) μ) (fun ν => OutR tx L base m (if isS tx L s.1 c = true then .inl (s.1 + 1, s.2) else .inr (er tx L 1 s.1)) ν ∧ Pr base μ ν) := by
  unfold fX12_takeSign
  simp only [lt]
  rw [isSign_v h hc, Option.bind_some]
  by_cases q : isS tx L s.1 c = true
  · rw [if_pos q, if_pos q, Ok_some]
    exact ⟨h.next (isS_pos q).1, .p7⟩
  · rw [if_neg q, if_neg q]
    refine Ok.then (rwrong_ok (w := 1) h (by omega) hm) ?_
    rintro ν ⟨g1, g2⟩
    rw [Ok_some]
    exact ⟨g1, g2⟩
theorem rtake_e {e : Nat} {c : Int} (h : RErr tx L e m μ) : fX12_takeSign c μ = some μ := by
  unfold fX12_takeSign
  rw [isSign_e h, Option.bind_some, if_neg (by decide), rwrong_e h, Option.bind_some]
theorem rhas_ok {s : PSt} {c : Nat} (h : RS tx L base s μ) (hc : c < 127) : Ok (fX12_hasSign (c : Int) μ) (fun o => o.1 = isS tx L s.1 c ∧ RS tx L base (if isS tx L s.1 c = true then (s.1 + 1, s.2) else s) o.2 ∧ Pr base μ o.2) := by
  unfold fX12_hasSign
  simp only [lt]
  rw [isSign_v h hc, Option.bind_some, Ok_some]
  by_cases q : isS tx L s.1 c = true
  · rw [if_pos q, if_pos q]
    exact ⟨rfl, h.next (isS_pos q).1, .p7⟩
  · rw [if_neg q, if_neg q]
    exact ⟨rfl, h.stay, .p7⟩
theorem rhas_e {e : Nat} {c : Int} (h : RErr tx L e m μ) : Ok (fX12_hasSign c μ) (fun o => o.1 = false ∧ RErr tx L e m o.2 ∧ Pr base μ o.2) := by
  unfold fX12_hasSign
  simp only [lt]
  rw [isSign_e h, Option.bind_some, Ok_some]
  exact ⟨rfl, h.stay, .p7⟩
theorem rhasW_ok {s : PSt} {w : Nat} (h : RS tx L base s μ) (hw : w < 18) : Ok (fX12_hasWord (w : Int) μ) (fun o => o.1 = isW tx L s.1 (ci w) ∧ RS tx L base (if isW tx L s.1 (ci w) = true then (s.1 + 1, s.2) else s) o.2 ∧ Pr base μ o.2) := by
  unfold fX12_hasWord
  simp only [lt]
  rw [isWord_r h hw, Option.bind_some, Ok_some]
  by_cases q : isW tx L s.1 (ci w) = true
  · rw [if_pos q, if_pos q]
    exact ⟨rfl, h.next (isW_pos q).1, .p7⟩
  · rw [if_neg q, if_neg q]
    exact ⟨rfl, h.stay, .p7⟩
theorem emit_v {c a : Nat} {k : Nat} (h12 : μ 75 12 = k) (hk : k ≤ 1000) : fX12_emit (c : Int) (a : Int) μ = some (upd2 (upd2 μ 82 (1100 + k) ((c + 16 * a : Nat) : Int)) 75 12 ((k + 1 : Nat) : Int)) := by
  unfold fX12_emit
  simp only [lt]
  have e : (1100 : Int) + (k : Int) = ((1100 + k : Nat) : Int) := by push_cast; rfl
  rw [h12, e, w32_n (a := 1100 + k) (by omega), gd_pos (by omega), Int.toNat_natCast, upd2_ne (by omega), h12]
  push_cast
  rfl
theorem remit_ok {s : PSt} {c a : Nat} (h : RS tx L base s μ) (hl : base + s.2.length ≤ 1000) : Ok (fX12_emit (c : Int) (a : Int) μ) (fun ν => RS tx L base (psh (c, a) s) ν ∧ Pr base μ ν) := by
  obtain ⟨h1, h2, h7, h8, h12, hc⟩ := h
  rw [emit_v h12 hl, Ok_some]
  have hP : Pr base μ (upd2 (upd2 μ 82 (1100 + (base + s.2.length)) ((c + 16 * a : Nat) : Int)) 75 12 ((base + s.2.length + 1 : Nat) : Int)) := ⟨fun x q1 q2 => by rw [upd2_ne q1, upd2_ne q2], fun j _ _ q => by rw [upd2_nj q, upd2_ne (by omega)], fun i hi => by rw [upd2_ne (by omega), upd2_nj (by omega)]⟩
  refine ⟨⟨Tk3.pr h1 hP, h2, ?_, ?_, ?_, ?_, ?_⟩, hP⟩
  · rw [upd2_nj (by omega), upd2_ne (by omega)]; exact h7
  · rw [upd2_nj (by omega), upd2_ne (by omega)]; exact h8
  · unfold psh
    rw [upd2_at, List.length_cons]
    rfl
  · rw [upd2_ne (by omega), show 1100 + base + s.2.length = 1100 + (base + s.2.length) by omega, upd2_at]
  · exact hc.same (fun i hi => by rw [upd2_ne (by omega), upd2_nj (by omega)])
theorem remit_e {e c a : Nat} (h : RErr tx L e (m + 1) μ) (hb : ∀ k : Nat, μ 75 12 = k → base ≤ k) : Ok (fX12_emit (c : Int) (a : Int) μ) (fun ν => RErr tx L e m ν ∧ Pr base μ ν) := by
  obtain ⟨h1, h8, he, j, k, h7, hj, h12, hk⟩ := h
  have hbk := hb k h12
  rw [emit_v h12 (by omega), Ok_some]
  have hP : Pr base μ (upd2 (upd2 μ 82 (1100 + k) ((c + 16 * a : Nat) : Int)) 75 12 ((k + 1 : Nat) : Int)) := ⟨fun x q1 q2 => by rw [upd2_ne q1, upd2_ne q2], fun j _ _ q => by rw [upd2_nj q, upd2_ne (by omega)], fun i hi => by rw [upd2_ne (by omega), upd2_nj (by omega)]⟩
  exact ⟨⟨Tk3.pr h1 hP, by rw [upd2_nj (by omega), upd2_ne (by omega)]; exact h8, he, j, k + 1, by rw [upd2_nj (by omega), upd2_ne (by omega)]; exact h7, hj, upd2_at, by omega⟩, hP⟩
end RPARSE
