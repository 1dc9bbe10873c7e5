/-! ===== level 2: the reference reads a wish ===== -/
section RWISH
variable {tx : Nat → Nat} {L n : Nat} {nm : Nat → List Nat} {μ ν : Mem}
theorem isWord_12 {w : Int} : fX12_isWord w (upd2 μ 75 12 0) = fX12_isWord w μ := by
  have e8 : upd2 μ 75 12 0 75 8 = μ 75 8 := upd2_nj (by omega)
  have e7 : upd2 μ 75 12 0 75 7 = μ 75 7 := upd2_nj (by omega)
  have e77 : upd2 μ 75 12 0 77 = μ 77 := upd2_ne (by omega)
  have e79 : upd2 μ 75 12 0 79 = μ 79 := upd2_ne (by omega)
  have e80 : upd2 μ 75 12 0 80 = μ 80 := upd2_ne (by omega)
  unfold fX12_isWord
  rw [e8, e7, e77, e79, e80]
theorem wordHere_12 {a b : Int} : fX12_wordHere a b (upd2 μ 75 12 0) = fX12_wordHere a b μ := by
  unfold fX12_wordHere fX12_wordHere_b5
  simp only [isWord_12]
theorem wordHere_t {j fr mn : Nat} (h : RT tx L j μ) (hm : fr + mn ≤ 18) : fX12_wordHere (fr : Int) (mn : Int) μ = some (lstW (fun v => decide (wI tx L j = ci (fr + v))) mn) := by
  rw [← wordHere_12]
  exact wordHere_i h.rs hm
theorem isName_t {j : Nat} (h : RT tx L j μ) : fX12_isName μ = some (isNm tx L j) := by
  rw [← isName_r h.rs]
  have e8 : upd2 μ 75 12 0 75 8 = μ 75 8 := upd2_nj (by omega)
  have e7 : upd2 μ 75 12 0 75 7 = μ 75 7 := upd2_nj (by omega)
  have e77 : upd2 μ 75 12 0 77 = μ 77 := upd2_ne (by omega)
  unfold fX12_isName
  rw [e8, e7, e77, wordHere_12]
theorem RE.p7 {e : Nat} {v : Int} (h : RE tx L e μ) : RE tx L e (upd2 μ 75 7 v) := ⟨Tk3.fx h.1 (fun x hx => upd2_ne (by omega)), by rw [upd2_nj (by omega)]; exact h.2.1, h.2.2⟩
theorem takeOne_t {j fr mn : Nat} {W : Int} (h : RT tx L j μ) (hW : fX12_wordHere (fr : Int) (mn : Int) μ = some W) (hWb : -1 ≤ W ∧ W < 100) (hp : 0 ≤ W → tSt tx L j < L) : Ok (fX12_takeOne (fr : Int) (mn : Int) μ) (fun o => Pt μ o.2 ∧ ((0 ≤ W ∧ o.1 = W ∧ RT tx L (j + 1) o.2) ∨ (W < 0 ∧ RE tx L (er tx L 1 j) o.2))) := by
  have h8 := h.2.2.2
  unfold fX12_takeOne
  rw [h8, if_pos (by decide), hW, Option.bind_some]
  unfold fX12_takeOne_j17
  rw [h8, if_pos (by decide), w32_eq (x := W) (by omega) (by omega)]
  by_cases c : W < 0
  · rw [if_pos c]
    refine Ok.then (wrong_t (w := 1) h (by omega)) ?_
    rintro ν ⟨g1, g2⟩
    unfold fX12_takeOne_j34
    simp only [lt]
    rw [upd2_nj (show (8 : Nat) ≠ 7 by omega), if_neg g1.pos, if_neg g1.pos, Ok_some]
    exact ⟨g2.tr .p7, Or.inr ⟨c, g1.p7⟩⟩
  · rw [if_neg c]
    unfold fX12_takeOne_j34
    simp only [lt]
    have hpo : w32 (μ 75 8) ≤ 0 := by rw [h8]; decide
    rw [upd2_nj (show (8 : Nat) ≠ 7 by omega), if_pos hpo, if_pos hpo, Ok_some]
    exact ⟨.p7, Or.inl ⟨by omega, rfl, h.next (hp (by omega))⟩⟩
def RwF (μ ν : Mem) : Prop := (∀ x, x ≠ 75 → x ≠ 85 → ν x = μ x) ∧ (∀ j, j ≠ 7 → j ≠ 8 → ν 75 j = μ 75 j) ∧ ∀ i, i < 10 → ν 85 i = μ 85 i
theorem RwF.rf : RwF μ μ := ⟨fun _ _ _ => rfl, fun _ _ _ => rfl, fun _ _ => rfl⟩
theorem RwF.tr {a b c : Mem} (h1 : RwF a b) (h2 : RwF b c) : RwF a c := ⟨fun x q1 q3 => (h2.1 x q1 q3).trans (h1.1 x q1 q3), fun j a b => (h2.2.1 j a b).trans (h1.2.1 j a b), fun j a => (h2.2.2 j a).trans (h1.2.2 j a)⟩
theorem Pt.rwF (h : Pt μ ν) : RwF μ ν := ⟨fun x q1 _ => h.1 x q1, h.2, fun i _ => by rw [h.1 85 (by omega)]⟩
theorem RwF.put {i : Nat} {v : Int} (hi : 10 ≤ i) : RwF μ (upd2 μ 85 i v) := ⟨fun x _ q => upd2_ne q, fun j _ _ => by rw [upd2_ne (by omega)], fun j hj => upd2_nj (by omega)⟩
def RWs (tx : Nat → Nat) (L : Nat) (s : WSt) (μ : Mem) : Prop := RT tx L s.1 μ ∧ ∀ m, m < s.2.1 → μ 85 (10 + 2 * m) = s.2.2.1 m ∧ μ 85 (11 + 2 * m) = b2i (s.2.2.2.2.testBit (s.2.2.1 m))
theorem j101_te {e i : Nat} {v w : Int} (h : RE tx L e μ) : fX12_wish_j101 v (i : Int) w μ = some (.inl (v, ((i + 1 : Nat) : Int), μ)) := by
  unfold fX12_wish_j101
  rw [if_neg h.ne]
  push_cast; rfl
theorem j80_te {e i : Nat} {v w : Int} (h : RE tx L e μ) : fX12_wish_j80 v (i : Int) w μ = some (.inl (v, ((i + 1 : Nat) : Int), μ)) := by
  unfold fX12_wish_j80
  rw [if_neg h.ne]; exact j101_te h
theorem j60_te {e i : Nat} {v w : Int} (h : RE tx L e μ) : fX12_wish_j60 v (i : Int) w μ = some (.inl (v, ((i + 1 : Nat) : Int), μ)) := by
  unfold fX12_wish_j60
  rw [if_neg h.ne]; exact j80_te h
theorem j40_te {e i : Nat} {v : Int} (h : RE tx L e μ) : fX12_wish_j40 v (i : Int) μ = some (.inl (v, ((i + 1 : Nat) : Int), μ)) := by
  unfold fX12_wish_j40
  rw [if_neg h.pos]; exact j60_te h
theorem wIs_lt {j : Nat} : wI tx L j < 19 := wI_lt
theorem rwish1_ok {s : WSt} (hn : n < 6) (h81 : μ 81 0 = n) (h83 : ∀ i, i < n → μ 83 i = (pkW 37 (nm i) : Int)) (hNm : NmO n nm) (h : RWs tx L s μ) (hO : WO n s) (hi : s.2.1 < n) : Ok (fX12_wish_b13 (s.2.2.2.1 : Int) (s.2.1 : Int) μ) (fun r => ∃ o, r = .inl o ∧ o.2.1 = ((s.2.1 + 1 : Nat) : Int) ∧ RwF μ o.2.2 ∧ match aWish1 tx L n nm s with
    | .inl t => o.1 = t.2.2.2.1 ∧ RWs tx L t o.2.2
    | .inr e => RE tx L e o.2.2) := by
  obtain ⟨hR, h85⟩ := h
  have hjb := hR.b
  have h8 := hR.2.2.2
  have h7 : μ 75 7 = (s.1 : Int) := hR.2.2.1
  unfold fX12_wish_b13
  rw [h81, w32_n (a := s.2.1) (by omega), w32_n (a := n) (by omega), if_pos (by omega), if_pos (show w32 (μ 75 8) = 0 by rw [h8]; decide), isName_t hR, Option.bind_some]
  unfold aWish1
  by_cases c1 : isNm tx L s.1 = true
  rotate_left
  · rw [if_neg c1, if_pos c1]
    refine Ok.then (wrong_t (w := 1) hR (by omega)) ?_
    rintro ν ⟨g1, g2⟩
    rw [j40_te g1, Ok_some]
    exact ⟨_, rfl, rfl, g2.rwF, g1⟩
  rw [if_pos c1, if_neg (show ¬ ¬ isNm tx L s.1 = true from fun q => q c1)]
  have hk1 : tKd tx L (tSt tx L s.1) = 1 := by
    unfold isNm at c1
    rw [Bool.and_eq_true, decide_eq_true_eq] at c1
    exact c1.1
  have h79 : μ 79 s.1 = (pkW 37 (tW tx L s.1) : Int) := hR.tk.2.2.1 hk1
  have hna := nameAt_r (n := n) (fr := 0) (nm := nm) h7 hjb h79 (by omega) (fun i hi2 => by rw [Nat.zero_add]; exact h83 i hi2) hNm.1 (tWd_o hk1)
  rw [show ((0 : Nat) : Int) = 0 from rfl] at hna
  unfold fX12_wish_j40
  rw [if_pos (show w32 (μ 75 8) ≤ 0 by rw [h8]; decide), h81, hna, Option.bind_some]
  unfold fX12_wish_j60
  rw [if_pos (show w32 (μ 75 8) = 0 by rw [h8]; decide)]
  rcases lstW_neg (p := fun k => decide (nm k = tW tx L s.1)) n with ⟨hl, -⟩ | ⟨k, hk, hl, -⟩
  · rw [hl, w32_m1, if_pos (by decide), if_pos (by decide)]
    refine Ok.then (wrong_t (w := 2) hR (by omega)) ?_
    rintro ν ⟨g1, g2⟩
    rw [j101_te g1, Ok_some]
    exact ⟨_, rfl, rfl, g2.rwF, g1⟩
  rw [hl, w32_n (a := k) (by omega), if_neg (show ¬ (k : Int) < 0 by omega), if_neg (show ¬ (k : Int) < 0 by omega), Int.toNat_natCast]
  unfold fX12_wish_j80
  rw [if_pos (show w32 (μ 75 8) = 0 by rw [h8]; decide)]
  by_cases c3 : s.2.2.2.1.testBit k = true
  · rw [if_pos ((bit_t hO.2.1 (by omega)).mpr c3), if_pos c3]
    refine Ok.then (wrong_t (w := 3) hR (by omega)) ?_
    rintro ν ⟨g1, g2⟩
    rw [j101_te g1, Ok_some]
    exact ⟨_, rfl, rfl, g2.rwF, g1⟩
  rw [if_neg (fun q => c3 ((bit_t hO.2.1 (by omega)).mp q)), if_neg c3]
  have h2p := two_pow_5 (a := k) (by omega)
  have hVb := hO.2.1
  have hnj := hR.next (show tSt tx L s.1 < L from tK_pos (by show tKd tx L (tSt tx L s.1) ≠ 0; omega))
  unfold fX12_wish_j101
  simp only [lt]
  have e10 : (10 : Int) + 2 * (s.2.1 : Int) = ((10 + 2 * s.2.1 : Nat) : Int) := by omega
  have e11 : (11 : Int) + 2 * (s.2.1 : Int) = ((11 + 2 * s.2.1 : Nat) : Int) := by omega
  rw [if_pos (show w32 (μ 75 8) = 0 by rw [h8]; decide), e10, e11, w32_n (a := 10 + 2 * s.2.1) (by omega), w32_n (a := 11 + 2 * s.2.1) (by omega), gd_pos (by omega), Int.toNat_natCast, Int.toNat_natCast, i_shl1 (by omega), i_or_n (by omega) (by omega)]
  generalize h28 : upd2 (upd2 μ 75 7 (μ 75 7 + 1)) 85 (10 + 2 * s.2.1) (k : Int) = μ28
  have g28 : RT tx L (s.1 + 1) μ28 := by
    rw [← h28]; exact RT.fx hnj (fun x hx => upd2_ne (by omega))
  have f28 : RwF μ μ28 := by
    rw [← h28]; exact (Pt.rwF .p7).tr (RwF.put (by omega))
  have v28 : μ28 85 (10 + 2 * s.2.1) = k := by rw [← h28, upd2_at]
  have o28 : ∀ j, j ≠ 10 + 2 * s.2.1 → μ28 85 j = μ 85 j := fun j q => by rw [← h28, upd2_nj q, upd2_ne (by omega)]
  have hw := wI_lt (tx := tx) (L := L) (j := s.1 + 1)
  have hwh := wordHere_t (fr := 2) (mn := 2) g28 (by omega)
  rw [wh_lie _ hw] at hwh
  have h22 : ((2 : Nat) : Int) = 2 := rfl
  have hT1 := takeOne_t (fr := 2) (mn := 2) g28 hwh (by repeat' split
                                                        all_goals omega) (fun q => wI_pos (by
    intro q0
    rw [q0] at q
    exact absurd q (by decide)))
  rw [h22] at hT1
  refine Ok.then hT1 ?_
  rintro ⟨v, μ29⟩ ⟨p1, hcase⟩
  dsimp only at p1 hcase ⊢
  rw [gd_pos (by omega), Ok_some]
  have fr : RwF μ (upd2 μ29 85 (11 + 2 * s.2.1) (1 - v)) := (f28.tr p1.rwF).tr (RwF.put (by omega))
  refine ⟨_, rfl, by push_cast; rfl, fr, ?_⟩
  rcases hcase with ⟨w1, w2, g29⟩ | ⟨w1, g29⟩
  rotate_left
  · have c4 : ¬ (wI tx L (s.1 + 1) = 6 ∨ wI tx L (s.1 + 1) = 7) := by
      intro q
      rcases q with q | q <;> rw [q] at w1 <;> exact absurd w1 (by decide)
    rw [if_pos c4]
    exact RE.fx g29 (fun x hx => upd2_ne (by omega))
  have c4 : wI tx L (s.1 + 1) = 6 ∨ wI tx L (s.1 + 1) = 7 := by
    by_cases q7 : wI tx L (s.1 + 1) = 7
    · exact Or.inr q7
    · by_cases q6 : wI tx L (s.1 + 1) = 6
      · exact Or.inl q6
      · rw [if_neg q7, if_neg q6] at w1; omega
  rw [if_neg (show ¬ ¬ (wI tx L (s.1 + 1) = 6 ∨ wI tx L (s.1 + 1) = 7) from fun q => q c4)]
  have hUk : s.2.2.2.2.testBit k = false := eq_false_of_ne_true (fun q => c3 (hO.2.2.2.2.2 k q))
  refine ⟨rfl, RT.fx g29 (fun x hx => upd2_ne (by omega)), fun m hm => ?_⟩
  have hm' : m < s.2.1 + 1 := hm
  dsimp only
  have hbit : ∀ a : Nat, (if wI tx L (s.1 + 1) = 7 then s.2.2.2.2 ||| 2 ^ k else s.2.2.2.2).testBit a = (s.2.2.2.2.testBit a || (decide (wI tx L (s.1 + 1) = 7) && decide (k = a))) := fun a => by
    by_cases q : wI tx L (s.1 + 1) = 7
    · rw [if_pos q, or_bit, decide_eq_true q, Bool.true_and]
    · rw [if_neg q, decide_eq_false q, Bool.false_and, Bool.or_false]
  rw [hbit, upd2_nj (show 10 + 2 * m ≠ 11 + 2 * s.2.1 by omega), p1.1 85 (by omega)]
  by_cases e : m = s.2.1
  · rw [if_pos e, e, upd2_at, v28, hUk, decide_eq_true rfl, Bool.and_true, Bool.false_or, w2]
    refine ⟨rfl, ?_⟩
    by_cases q : wI tx L (s.1 + 1) = 7
    · rw [if_pos q, decide_eq_true q]; rfl
    · rw [if_neg q, if_pos (c4.resolve_right q), decide_eq_false q]; rfl
  · rw [if_neg e, upd2_nj (by omega), p1.1 85 (by omega), o28 _ (by omega), o28 _ (by omega)]
    obtain ⟨a1, a2⟩ := h85 m (by omega)
    have hne : k ≠ s.2.2.1 m := fun q => c3 (by rw [q]; exact (hO.2.2.2.1 m (by omega)).2)
    rw [decide_eq_false hne, Bool.and_false, Bool.or_false]
    exact ⟨a1, a2⟩
end RWISH
