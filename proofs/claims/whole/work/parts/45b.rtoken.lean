/-! ===== level 2: the reference at a token, whatever was written ===== -/
section RTOKEN
variable {tx : Nat → Nat} {L : Nat} {μ ν : Mem}
def RT (tx : Nat → Nat) (L j : Nat) (μ : Mem) : Prop := (Tk tx L μ ∧ W80 μ ∧ L ≤ 1000) ∧ Rch tx L j ∧ μ 75 7 = j ∧ μ 75 8 = 0
def RE (tx : Nat → Nat) (L e : Nat) (μ : Mem) : Prop := (Tk tx L μ ∧ W80 μ ∧ L ≤ 1000) ∧ μ 75 8 = e ∧ (e ≠ 0 ∧ e < 20000)
def Pt (μ ν : Mem) : Prop := (∀ x, x ≠ 75 → ν x = μ x) ∧ ∀ j, j ≠ 7 → j ≠ 8 → ν 75 j = μ 75 j
theorem Pt.rf : Pt μ μ := ⟨fun _ _ => rfl, fun _ _ _ => rfl⟩
theorem Pt.tr {a b c : Mem} (h1 : Pt a b) (h2 : Pt b c) : Pt a c := ⟨fun x q => (h2.1 x q).trans (h1.1 x q), fun j a b => (h2.2 j a b).trans (h1.2 j a b)⟩
theorem Pt.p7 {v : Int} : Pt μ (upd2 μ 75 7 v) := ⟨fun x q => upd2_ne q, fun j q _ => upd2_nj q⟩
theorem Pt.p8 {v : Int} : Pt μ (upd2 μ 75 8 v) := ⟨fun x q => upd2_ne q, fun j _ q => upd2_nj q⟩
theorem Tk3.fx (h : Tk tx L μ ∧ W80 μ ∧ L ≤ 1000) (e : ∀ x, x = 77 ∨ x = 78 ∨ x = 79 ∨ x = 80 → ν x = μ x) : Tk tx L ν ∧ W80 ν ∧ L ≤ 1000 := ⟨fun j hj => (h.1 j hj).same (by rw [e 77 (by omega)]) (by rw [e 78 (by omega)]) (by rw [e 79 (by omega)]), fun w hw => by rw [e 80 (by omega)]; exact h.2.1 w hw, h.2.2⟩
theorem RT.rs {j : Nat} (h : RT tx L j μ) : RS tx L 0 (j, []) (upd2 μ 75 12 0) := ⟨Tk3.fx h.1 (fun x hx => upd2_ne (by omega)), h.2.1, by rw [upd2_nj (by omega)]; exact h.2.2.1, by rw [upd2_nj (by omega)]; exact h.2.2.2, upd2_at, trivial⟩
theorem RT.b {j : Nat} (h : RT tx L j μ) : j ≤ 1000 := h.2.1.b h.1.2.2
theorem RT.tk {j : Nat} (h : RT tx L j μ) : TkJ tx L j μ := h.1.1 _ h.2.1
theorem RT.fx {j : Nat} (h : RT tx L j μ) (e : ∀ x, x = 75 ∨ x = 77 ∨ x = 78 ∨ x = 79 ∨ x = 80 → ν x = μ x) : RT tx L j ν := ⟨Tk3.fx h.1 (fun x hx => e x (by omega)), h.2.1, by rw [e 75 (by omega)]; exact h.2.2.1, by rw [e 75 (by omega)]; exact h.2.2.2⟩
theorem RE.fx {e : Nat} (h : RE tx L e μ) (q : ∀ x, x = 75 ∨ x = 77 ∨ x = 78 ∨ x = 79 ∨ x = 80 → ν x = μ x) : RE tx L e ν := ⟨Tk3.fx h.1 (fun x hx => q x (by omega)), by rw [q 75 (by omega)]; exact h.2.1, h.2.2⟩
theorem RE.ne {e : Nat} (h : RE tx L e μ) : ¬ w32 (μ 75 8) = 0 := by
  have h2 := h.2.2
  rw [h.2.1, w32_n (by omega)]; omega
theorem RE.pos {e : Nat} (h : RE tx L e μ) : ¬ w32 (μ 75 8) ≤ 0 := by
  have h2 := h.2.2
  rw [h.2.1, w32_n (by omega)]; omega
theorem isSign_t {j c : Nat} (h : RT tx L j μ) (hc : c < 127) : fX12_isSign (c : Int) μ = some (isS tx L j c) := by
  rw [← isSign_v h.rs hc]
  have e8 : upd2 μ 75 12 0 75 8 = μ 75 8 := upd2_nj (by omega)
  have e7 : upd2 μ 75 12 0 75 7 = μ 75 7 := upd2_nj (by omega)
  have e77 : upd2 μ 75 12 0 77 = μ 77 := upd2_ne (by omega)
  have e79 : upd2 μ 75 12 0 79 = μ 79 := upd2_ne (by omega)
  unfold fX12_isSign
  rw [e8, e7, e77, e79]
theorem isWord_t {j w : Nat} (h : RT tx L j μ) (hw : w < 18) : fX12_isWord (w : Int) μ = some (isW tx L j (ci w)) := by
  rw [← isWord_r h.rs hw]
  have e8 : upd2 μ 75 12 0 75 8 = μ 75 8 := upd2_nj (by omega)
  have e7 : upd2 μ 75 12 0 75 7 = μ 75 7 := upd2_nj (by omega)
  have e77 : upd2 μ 75 12 0 77 = μ 77 := upd2_ne (by omega)
  have e79 : upd2 μ 75 12 0 79 = μ 79 := upd2_ne (by omega)
  have e80 : upd2 μ 75 12 0 80 = μ 80 := upd2_ne (by omega)
  unfold fX12_isWord
  rw [e8, e7, e77, e79, e80]
theorem RT.next {j : Nat} (h : RT tx L j μ) (hp : tSt tx L j < L) : RT tx L (j + 1) (upd2 μ 75 7 (μ 75 7 + 1)) := ⟨Tk3.fx h.1 (fun x hx => upd2_ne (by omega)), h.2.1.next hp, by rw [upd2_at, h.2.2.1]; push_cast; rfl, by rw [upd2_nj (by omega)]; exact h.2.2.2⟩
theorem wrong_t {j w : Nat} (h : RT tx L j μ) (hw : 1 ≤ w ∧ w ≤ 5) : Ok (fX12_wrong (w : Int) μ) (fun ν => RE tx L (er tx L w j) ν ∧ Pt μ ν) := by
  have hb := h.b
  obtain ⟨-, t2, -, -, -⟩ := h.tk
  obtain ⟨h1, h2, h7, h8⟩ := h
  unfold fX12_wrong
  simp only [lt]
  rw [h8, if_pos (by decide), h7, w32_n (a := j) (by omega), gd_pos (by omega), Int.toNat_natCast, t2, Ok_some]
  exact ⟨⟨Tk3.fx h1 (fun x hx => upd2_ne (by omega)), by rw [upd2_at]; unfold er; push_cast; rfl, ⟨er_pos (by omega), er_lt h1.2.2 hw.2⟩⟩, .p8⟩
theorem wrong_te {e : Nat} {w : Int} (h : RE tx L e μ) : fX12_wrong w μ = some μ := by
  unfold fX12_wrong
  rw [if_neg h.ne]
theorem isSign_te {e : Nat} {c : Int} (h : RE tx L e μ) : fX12_isSign c μ = some false := by
  unfold fX12_isSign
  rw [if_neg h.ne]
theorem take_t {j c : Nat} (h : RT tx L j μ) (hc : c < 127) : Ok (fX12_takeSign (c : Int) μ) (fun ν => ((isS tx L j c = true ∧ RT tx L (j + 1) ν) ∨ (¬ isS tx L j c = true ∧ RE tx L (er tx L 1 j) ν)) ∧ Pt μ ν) := by
  unfold fX12_takeSign
  simp only [lt]
  rw [isSign_t h hc, Option.bind_some]
  by_cases q : isS tx L j c = true
  · rw [if_pos q, Ok_some]
    exact ⟨Or.inl ⟨q, h.next (isS_pos q).1⟩, .p7⟩
  · rw [if_neg q]
    refine Ok.then (wrong_t (w := 1) h (by omega)) ?_
    rintro ν ⟨g1, g2⟩
    rw [Ok_some]
    exact ⟨Or.inr ⟨q, g1⟩, g2⟩
theorem take_te {e : Nat} {c : Int} (h : RE tx L e μ) : fX12_takeSign c μ = some μ := by
  unfold fX12_takeSign
  rw [isSign_te h, Option.bind_some, if_neg (by decide), wrong_te h, Option.bind_some]
theorem number_t {j lo hi : Nat} (h : RT tx L j μ) (hh : lo < 1000 ∧ hi < 1000) : Ok (fX12_takeNumber (lo : Int) (hi : Int) μ) (fun o => Pt μ o.2 ∧ ((tK tx L j = 2 ∧ (lo ≤ tN tx L j ∧ tN tx L j ≤ hi) ∧ o.1 = (tN tx L j : Int) ∧ RT tx L (j + 1) o.2) ∨ (RE tx L (if ¬ tK tx L j = 2 then er tx L 1 j else er tx L 4 j) o.2 ∧ ¬ (tK tx L j = 2 ∧ (lo ≤ tN tx L j ∧ tN tx L j ≤ hi))))) := by
  have hb := h.b
  have h77 : μ 77 j = tKd tx L (tSt tx L j) := h.tk.1
  have hkb := tKd_b (tx := tx) (L := L) (s := tSt tx L j)
  have h8 := h.2.2.2
  have h7 : μ 75 7 = (j : Int) := h.2.2.1
  have j70e : ∀ {e : Nat} {ν : Mem} {lo hi : Int}, RE tx L e ν → Ok (fX12_takeNumber_j70 lo hi ν) (fun o => o.2 = ν) := fun {e ν lo hi} hE => by
    unfold fX12_takeNumber_j70
    rw [if_neg hE.pos, Ok_some]
  unfold fX12_takeNumber
  rw [h8, if_pos (by decide), h7, w32_n (a := j) (by omega), gd_pos (by omega), Int.toNat_natCast, h77, w32_n (a := tKd tx L (tSt tx L j)) (by omega), w32_2]
  by_cases c : tK tx L j = 2
  rotate_left
  · have hq : ¬ tKd tx L (tSt tx L j) = 2 := c
    rw [if_neg (by omega)]
    refine Ok.then (wrong_t (w := 1) h (by omega)) ?_
    rintro ν ⟨g1, g2⟩
    refine Ok.imp (j70e g1) ?_
    rintro ⟨a, b⟩ rfl
    exact ⟨g2, Or.inr ⟨by rw [if_pos c]; exact g1, fun q => c q.1⟩⟩
  have hq : tKd tx L (tSt tx L j) = 2 := c
  have hvb := tNm_b c
  have h79 : μ 79 j = (tN tx L j : Int) := h.tk.2.2.2.1 c
  rw [if_pos (by omega)]
  unfold fX12_takeNumber_j28
  rw [h8, if_pos (by decide), h7, w32_n (a := j) (by omega), gd_pos (by omega), gd_pos (by omega), Int.toNat_natCast, h79, w64_eq (x := (tN tx L j : Int)) (by omega) (by omega), w32_n (a := lo) (by omega), w32_n (a := hi) (by omega), w64_eq (x := (lo : Int)) (by omega) (by omega), w64_eq (x := (hi : Int)) (by omega) (by omega)]
  have bad : Ok (fX12_takeNumber_j65 (lo : Int) (hi : Int) μ) (fun o => Pt μ o.2 ∧ RE tx L (er tx L 4 j) o.2) := by
    unfold fX12_takeNumber_j65
    refine Ok.then (wrong_t (w := 4) h (by omega)) ?_
    rintro ν ⟨g1, g2⟩
    refine Ok.imp (j70e g1) ?_
    rintro ⟨a, b⟩ rfl
    exact ⟨g2, g1⟩
  by_cases c1 : tN tx L j < lo
  · rw [if_pos (by omega)]
    refine Ok.imp bad (fun o q => ⟨q.1, Or.inr ⟨by rw [if_neg (fun k => k c)]; exact q.2, fun q => by omega⟩⟩)
  rw [if_neg (by omega)]
  by_cases c2 : tN tx L j ≤ hi
  rotate_left
  · rw [if_neg (by omega)]
    refine Ok.imp bad (fun o q => ⟨q.1, Or.inr ⟨by rw [if_neg (fun k => k c)]; exact q.2, fun q => by omega⟩⟩)
  rw [if_pos (by omega)]
  unfold fX12_takeNumber_j70
  simp only [lt]
  have e7 : upd2 μ 75 7 ((j : Int) + 1) 75 7 - 1 = (j : Int) := by rw [upd2_at]; omega
  rw [h8, if_pos (by decide), h7, e7, w32_n (a := j) (by omega), gd_pos (by omega), Int.toNat_natCast, upd2_ne (by omega), h79, l_2i_n (by omega), Ok_some]
  have hnx := h.next (tK_pos (tx := tx) (L := L) (j := j) (by omega))
  rw [h7] at hnx
  exact ⟨.p7, Or.inl ⟨c, ⟨by omega, c2⟩, rfl, hnx⟩⟩
end RTOKEN
