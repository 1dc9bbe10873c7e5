/-! ===== level 2: the reference reads a cake ===== -/
section RGRID
variable {tx : Nat → Nat} {L tot : Nat} {μ ν : Mem}
def LwR (i : Nat) (o : Option Cod) (tot : Nat) (μ : Mem) : Prop := match o with
  | Option.none => μ 81 i = -1
  | some c => ∃ b : Nat, μ 81 i = b ∧ CdR b c μ ∧ μ 82 (1100 + b + c.length) = 0 ∧ b + c.length + 1 ≤ tot
def DrR (D : Dr) (tot : Nat) (μ : Mem) : Prop := μ 81 20 = D.n ∧ (∀ i, i < D.n → μ 81 (23 + 3 * i) = D.kd i ∧ μ 81 (24 + 3 * i) = D.wd i ∧ μ 81 (25 + 3 * i) = b2i (D.up i) ∧ μ 83 (5 + i) = (pkW 37 (D.nm i) : Int)) ∧ LwR 21 D.bars tot μ ∧ LwR 22 D.costs tot μ
def RG (tx : Nat → Nat) (L tot : Nat) (s : GSt) (μ : Mem) : Prop := RS tx L tot (s.1, []) μ ∧ tot ≤ s.1 ∧ DrR s.2 tot μ ∧ DrO s.2
def Rf (μ ν : Mem) : Prop := (∀ x, x ≠ 75 → x ≠ 81 → x ≠ 82 → x ≠ 83 → ν x = μ x) ∧ (∀ j, j ≠ 7 → j ≠ 8 → j ≠ 12 → ν 75 j = μ 75 j) ∧ (∀ j, j < 20 → ν 81 j = μ 81 j) ∧ (∀ i, i < 1100 → ν 82 i = μ 82 i) ∧ ∀ i, i < 5 → ν 83 i = μ 83 i
theorem Rf.rf : Rf μ μ := ⟨fun _ _ _ _ _ => rfl, fun _ _ _ _ => rfl, fun _ _ => rfl, fun _ _ => rfl, fun _ _ => rfl⟩
theorem Rf.tr {a b c : Mem} (h1 : Rf a b) (h2 : Rf b c) : Rf a c := ⟨fun x q1 q2 q3 q4 => (h2.1 x q1 q2 q3 q4).trans (h1.1 x q1 q2 q3 q4), fun j a b c => (h2.2.1 j a b c).trans (h1.2.1 j a b c), fun j a => (h2.2.2.1 j a).trans (h1.2.2.1 j a), fun j a => (h2.2.2.2.1 j a).trans (h1.2.2.2.1 j a), fun j a => (h2.2.2.2.2 j a).trans (h1.2.2.2.2 j a)⟩
theorem Pr.rfr (h : Pr tot μ ν) : Rf μ ν := ⟨fun x q1 _ q3 _ => h.1 x q1 q3, h.2.1, fun j _ => by rw [h.1 81 (by omega) (by omega)], fun i hi => h.2.2 i (by omega), fun i _ => by rw [h.1 83 (by omega) (by omega)]⟩
theorem LwR.pr {i : Nat} {o : Option Cod} (h : LwR i o tot μ) (hP : Pr tot μ ν) : LwR i o tot ν := by
  have e81 : ν 81 = μ 81 := hP.1 81 (by omega) (by omega)
  cases o with
  | none => show ν 81 i = -1; rw [e81]; exact h
  | some c =>
    obtain ⟨b, h1, h2, h3, h4⟩ := h
    exact ⟨b, by rw [e81]; exact h1, h2.same (fun k hk => hP.2.2 k (by omega)), by rw [hP.2.2 _ (by omega)]; exact h3, h4⟩
theorem DrR.pr {D : Dr} (h : DrR D tot μ) (hP : Pr tot μ ν) : DrR D tot ν := by
  have e81 : ν 81 = μ 81 := hP.1 81 (by omega) (by omega)
  have e83 : ν 83 = μ 83 := hP.1 83 (by omega) (by omega)
  obtain ⟨h1, h2, h3, h4⟩ := h
  exact ⟨by rw [e81]; exact h1, fun i hi => by rw [e81, e83]; exact h2 i hi, h3.pr hP, h4.pr hP⟩
theorem RG.mv {j j' : Nat} {D : Dr} (h : RG tx L tot (j, D) μ) (hP : Pr tot μ ν) (hS : RS tx L tot (j', []) ν) (hj : j ≤ j') : RG tx L tot (j', D) ν := by
  obtain ⟨h1, h2, h3, h4⟩ := h
  dsimp only at h2 h3 h4
  exact ⟨hS, by dsimp only; omega, h3.pr hP, h4⟩
theorem isName_r {j : Nat} (h : RS tx L tot (j, []) μ) : fX12_isName μ = some (isNm tx L j) := by
  have hb := h.b
  have hw := wI_lt (tx := tx) (L := L) (j := j)
  have h77 : μ 77 j = tKd tx L (tSt tx L j) := h.tk.1
  have hkb := tKd_b (tx := tx) (L := L) (s := tSt tx L j)
  have hwh := wordHere_i (fr := 0) (mn := 14) h (by omega)
  have h8 := h.2.2.2.1
  have h7 : μ 75 7 = (j : Int) := h.2.2.1
  dsimp only at hb hwh
  rw [show ((0 : Nat) : Int) = 0 from rfl, show ((14 : Nat) : Int) = 14 from rfl] at hwh
  unfold fX12_isName isNm
  simp only [lt]
  rw [h8, if_pos (by decide), h7, w32_n (a := j) (by omega), gd_pos (by omega), Int.toNat_natCast, h77, w32_n (a := tKd tx L (tSt tx L j)) (by omega), w32_1]
  by_cases q : tK tx L j = 1
  · have hq : tKd tx L (tSt tx L j) = 1 := q
    rw [if_pos (by omega), hwh, Option.bind_some, decide_eq_true q, Bool.true_and]
    generalize wI tx L j = i at hw
    have key : ∀ i, i < 19 → (if w32 (lstW (fun v => decide (i = ci (0 + v))) 14) < 0 then true else false) = (decide (i = 0) || decide (15 ≤ i)) := by decide
    rw [key i hw]
  · have hq : ¬ tKd tx L (tSt tx L j) = 1 := q
    rw [if_neg (by omega), decide_eq_false q]; rfl
theorem nameAt_r {n fr j : Nat} {nm : Nat → List Nat} {l : List Nat} (h7 : μ 75 7 = (j : Int)) (hj : j ≤ 1000) (h79 : μ 79 j = (pkW 37 l : Int)) (hf : fr + n ≤ 10) (hr : ∀ i, i < n → μ 83 (fr + i) = (pkW 37 (nm i) : Int)) (ho : ∀ i, i < n → WdO (nm i)) (hl : WdO l) : fX12_nameAt (fr : Int) (n : Int) μ = some (lstW (fun i => decide (nm i = l)) n) := by
  have hlb := (pkW_b hl).2
  apply Ok_val
  unfold fX12_nameAt
  refine Ok.bind ?_
  refine loop_FU n (fun (i : Nat) (t : Int × Int) => t.1 = lstW (fun i => decide (nm i = l)) i ∧ t.2 = (i : Int)) 0 ⟨rfl, rfl⟩ (by omega) (by omega) ?_ ?_
  · rintro i ⟨a, b⟩ hi ⟨e1, e2⟩
    dsimp only at e1 e2 ⊢
    subst e1 e2
    have hib := (pkW_b (ho i hi)).2
    have e0 : (fr : Int) + (i : Int) = ((fr + i : Nat) : Int) := by push_cast; rfl
    unfold fX12_nameAt_b5
    simp only [lt]
    rw [w32_n (a := i) (by omega), w32_n (a := n) (by omega), if_pos (by omega), e0, w32_n (a := fr + i) (by omega), gd_pos (by omega), h7, w32_n (a := j) (by omega), gd_pos (by omega), Int.toNat_natCast, Int.toNat_natCast, hr i hi, h79, w64_eq (by omega) (by omega), w64_eq (by omega) (by omega), Ok_some]
    refine ⟨?_, by push_cast; rfl⟩
    dsimp only
    rw [lstW]
    by_cases e : nm i = l
    · rw [if_pos (by rw [e]), if_pos (decide_eq_true e)]
    · have hne : ¬ pkW 37 (nm i) = pkW 37 l := fun q => e (pkW_inj (by omega) _ _ (ho i hi).2.2 hl.2.2 q)
      rw [if_neg (by omega), if_neg (by rw [decide_eq_false e]; decide)]
  · rintro ⟨a, b⟩ ⟨e1, e2⟩
    dsimp only at e1 e2 ⊢
    subst e1 e2
    unfold fX12_nameAt_b5
    rw [w32_n (a := n) (by omega), if_neg (by omega), Ok_some]
    show Ok _ _
    rw [Ok_some]
theorem lstW_neg {p : Nat → Bool} : ∀ n, (lstW p n = -1 ∧ ∀ i, i < n → p i = false) ∨ ∃ i, i < n ∧ lstW p n = (i : Int) ∧ p i = true
  | 0 => Or.inl ⟨rfl, fun i hi => absurd hi (by omega)⟩
  | n + 1 => by
    rw [lstW]
    by_cases c : p n = true
    · rw [if_pos c]; exact Or.inr ⟨n, by omega, rfl, c⟩
    · rw [if_neg c]
      rcases lstW_neg (p := p) n with ⟨h1, h2⟩ | ⟨i, h1, h2, h3⟩
      · refine Or.inl ⟨h1, fun i hi => ?_⟩
        by_cases e : i = n
        · rw [e]; exact eq_false_of_ne_true c
        · exact h2 i (by omega)
      · exact Or.inr ⟨i, by omega, h2, h3⟩
/-- what is taken -/
theorem takeOne_ok {j fr mn : Nat} {W : Int} (h : RS tx L tot (j, []) μ) (hm : tot ≤ j) (hW : fX12_wordHere (fr : Int) (mn : Int) μ = some W) (hWb : -1 ≤ W ∧ W < 100) (hp : 0 ≤ W → tSt tx L j < L) : Ok (fX12_takeOne (fr : Int) (mn : Int) μ) (fun o => Pr tot μ o.2 ∧ ((0 ≤ W ∧ o.1 = W ∧ RS tx L tot (j + 1, []) o.2) ∨ (W < 0 ∧ RErr tx L tot (er tx L 1 j) 0 o.2))) := by
  have h8 := h.2.2.2.1
  unfold fX12_takeOne
  rw [h8, if_pos (by decide), hW, Option.bind_some]
  unfold fX12_takeOne_j17
  rw [h8, if_pos (by decide), w32_eq (x := W) (by omega) (by omega)]
  by_cases c : W < 0
  · rw [if_pos c]
    refine Ok.then (rwrong_ok (w := 1) (m := 0) h (by omega) (by show tot + 0 + 0 ≤ j; omega)) ?_
    rintro ν ⟨g1, g2⟩
    have e8 := g1.2.1
    have e0 := g1.2.2.1
    unfold fX12_takeOne_j34
    simp only [lt]
    have hne : ¬ w32 (ν 75 8) ≤ 0 := by rw [e8, w32_n (by omega)]; omega
    rw [upd2_nj (show (8 : Nat) ≠ 7 by omega), if_neg hne, if_neg hne, Ok_some]
    exact ⟨g2.tr .p7, Or.inr ⟨c, g1.stay⟩⟩
  · rw [if_neg c]
    unfold fX12_takeOne_j34
    simp only [lt]
    have hpo : w32 (μ 75 8) ≤ 0 := by rw [h8]; decide
    rw [upd2_nj (show (8 : Nat) ≠ 7 by omega), if_pos hpo, if_pos hpo, Ok_some]
    exact ⟨.p7, Or.inl ⟨by omega, rfl, h.next (hp (by omega))⟩⟩
theorem takeOne_e {e m base : Nat} {fr mn : Int} (h : RErr tx L base e m μ) : Ok (fX12_takeOne fr mn μ) (fun o => RErr tx L base e m o.2 ∧ Pr base μ o.2) := by
  have e8 := h.2.1
  have e0 := h.2.2.1
  have hne : ¬ w32 (e : Int) ≤ 0 := by rw [w32_n (by omega)]; omega
  have hne2 : ¬ w32 (e : Int) = 0 := by rw [w32_n (by omega)]; omega
  unfold fX12_takeOne
  rw [e8, if_neg hne]
  unfold fX12_takeOne_j17
  rw [e8, if_neg hne2]
  unfold fX12_takeOne_j34
  simp only [lt]
  rw [upd2_nj (show (8 : Nat) ≠ 7 by omega), e8, if_neg hne, if_neg hne, Ok_some]
  exact ⟨h.stay, .p7⟩
theorem takeWord_ok {j w : Nat} (h : RS tx L tot (j, []) μ) (hm : tot ≤ j) (hw : w < 18) : Ok (fX12_takeWord (w : Int) μ) (fun o => Pr tot μ o ∧ ((isW tx L j (ci w) = true ∧ RS tx L tot (j + 1, []) o) ∨ (isW tx L j (ci w) = false ∧ RErr tx L tot (er tx L 1 j) 0 o))) := by
  unfold fX12_takeWord
  refine Ok.then (rhasW_ok h hw) ?_
  rintro ⟨b, θ⟩ ⟨e1, e2, e3⟩
  dsimp only at e1 e2 e3 ⊢
  subst e1
  by_cases c : isW tx L j (ci w) = true
  · rw [if_pos c] at e2
    rw [if_pos c, Ok_some]
    exact ⟨e3, Or.inl ⟨c, e2⟩⟩
  · rw [if_neg c] at e2
    rw [if_neg c]
    refine Ok.then (rwrong_ok (w := 1) (m := 0) e2 (by omega) (by show tot + 0 + 0 ≤ j; omega)) ?_
    rintro ν ⟨g1, g2⟩
    rw [Ok_some]
    exact ⟨e3.tr g2, Or.inr ⟨eq_false_of_ne_true c, g1⟩⟩
theorem takeWord_e {e m base : Nat} {w : Int} (h : RErr tx L base e m μ) : Ok (fX12_takeWord w μ) (fun o => RErr tx L base e m o ∧ Pr base μ o) := by
  unfold fX12_takeWord fX12_hasWord
  simp only [lt]
  rw [isWord_e h, Option.bind_some, Option.bind_some, if_neg (show ¬ false = true by decide), if_neg (show ¬ false = true by decide), rwrong_e h.stay, Option.bind_some, Ok_some]
  exact ⟨h.stay, .p7⟩
theorem takeNumber_ok {j lo hi : Nat} (h : RS tx L tot (j, []) μ) (hm : tot ≤ j) (hh : lo < 1000 ∧ hi < 1000) : Ok (fX12_takeNumber (lo : Int) (hi : Int) μ) (fun o => Pr tot μ o.2 ∧ ((tK tx L j = 2 ∧ (lo ≤ tN tx L j ∧ tN tx L j ≤ hi) ∧ o.1 = (tN tx L j : Int) ∧ RS tx L tot (j + 1, []) o.2) ∨ (RErr tx L tot (if ¬ tK tx L j = 2 then er tx L 1 j else er tx L 4 j) 0 o.2 ∧ ¬ (tK tx L j = 2 ∧ (lo ≤ tN tx L j ∧ tN tx L j ≤ hi))))) := by
  have hb := h.b
  have h77 : μ 77 j = tKd tx L (tSt tx L j) := h.tk.1
  have hkb := tKd_b (tx := tx) (L := L) (s := tSt tx L j)
  have h8 := h.2.2.2.1
  have h7 : μ 75 7 = (j : Int) := h.2.2.1
  dsimp only at hb
  have j70e : ∀ {e : Nat} {ν : Mem} {lo hi : Int}, RErr tx L tot e 0 ν → Ok (fX12_takeNumber_j70 lo hi ν) (fun o => o.2 = ν) := fun {e ν lo hi} hE => by
    unfold fX12_takeNumber_j70
    have e0 := hE.2.2.1
    rw [hE.2.1, if_neg (by rw [w32_n (by omega)]; omega), Ok_some]
  unfold fX12_takeNumber
  rw [h8, if_pos (by decide), h7, w32_n (a := j) (by omega), gd_pos (by omega), Int.toNat_natCast, h77, w32_n (a := tKd tx L (tSt tx L j)) (by omega), w32_2]
  by_cases c : tK tx L j = 2
  rotate_left
  · have hq : ¬ tKd tx L (tSt tx L j) = 2 := c
    rw [if_neg (by omega)]
    refine Ok.then (rwrong_ok (w := 1) (m := 0) h (by omega) (by show tot + 0 + 0 ≤ j; omega)) ?_
    rintro ν ⟨g1, g2⟩
    refine Ok.imp (j70e g1) ?_
    rintro ⟨a, b⟩ rfl
    exact ⟨g2, Or.inr ⟨by rw [if_pos c]; exact g1, fun q => c q.1⟩⟩
  have hq : tKd tx L (tSt tx L j) = 2 := c
  have hvb := tNm_b c
  have h79 : μ 79 j = (tN tx L j : Int) := h.tk.2.2.2.1 c
  rw [if_pos (by omega)]
  unfold fX12_takeNumber_j28
  rw [h8, if_pos (by decide), h7, w32_n (a := j) (by omega), gd_pos (by omega), gd_pos (by omega), Int.toNat_natCast, h79, w64_eq (x := (tN tx L j : Int)) (by omega) (by omega), w32_n (a := lo) (by omega), w32_n (a := hi) (by omega), w64_eq (x := (lo : Int)) (by omega) (by omega), w64_eq (x := (hi : Int)) (by omega) (by omega)]
  have bad : Ok (fX12_takeNumber_j65 (lo : Int) (hi : Int) μ) (fun o => Pr tot μ o.2 ∧ RErr tx L tot (er tx L 4 j) 0 o.2) := by
    unfold fX12_takeNumber_j65
    refine Ok.then (rwrong_ok (w := 4) (m := 0) h (by omega) (by show tot + 0 + 0 ≤ j; omega)) ?_
    rintro ν ⟨g1, g2⟩
    refine Ok.imp (j70e g1) ?_
    rintro ⟨a, b⟩ rfl
    exact ⟨g2, g1⟩
  by_cases c1 : tN tx L j < lo
  · rw [if_pos (by omega)]
    refine Ok.imp bad (fun o q => ⟨q.1, Or.inr ⟨by rw [if_neg (fun k => k c)]; exact q.2, fun q => by omega⟩⟩)
  rw [if_neg (by omega)]
  by_cases c2 : tN tx L j ≤ hi
  rotate_left
  · rw [if_neg (by omega)]
    refine Ok.imp bad (fun o q => ⟨q.1, Or.inr ⟨by rw [if_neg (fun k => k c)]; exact q.2, fun q => by omega⟩⟩)
  rw [if_pos (by omega)]
  unfold fX12_takeNumber_j70
  simp only [lt]
  have e7 : upd2 μ 75 7 ((j : Int) + 1) 75 7 - 1 = (j : Int) := by rw [upd2_at]; omega
  rw [h8, if_pos (by decide), h7, e7, w32_n (a := j) (by omega), gd_pos (by omega), Int.toNat_natCast, upd2_ne (by omega), h79, l_2i_n (by omega), Ok_some]
  have hnx := h.next (tK_pos (tx := tx) (L := L) (j := j) (by omega))
  rw [h7] at hnx
  exact ⟨.p7, Or.inl ⟨c, ⟨by omega, c2⟩, rfl, hnx⟩⟩
theorem takeNumber_e {e m base : Nat} {lo hi : Int} (h : RErr tx L base e m μ) : fX12_takeNumber lo hi μ = some (0, μ) := by
  have e8 := h.2.1
  have e0 := h.2.2.1
  have hne : ¬ w32 (e : Int) ≤ 0 := by rw [w32_n (by omega)]; omega
  have hne2 : ¬ w32 (e : Int) = 0 := by rw [w32_n (by omega)]; omega
  unfold fX12_takeNumber fX12_takeNumber_j28 fX12_takeNumber_j70
  rw [e8, if_neg hne2, if_neg hne2, if_neg hne]
end RGRID
