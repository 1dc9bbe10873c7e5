/-! ===== level 2: the reference reads sums, tests, wholes, parts ===== -/
section RPARSE2
variable {tx : Nat → Nat} {L base m : Nat} {μ ν : Mem} {rpR : Int → Mem → Option Mem} {rp : PSt → PRz} {d : Int}
theorem rsum_ok (hf : RlF tx L base (rpR d) rp) (hg : GdF tx L 1 rp) : RlF tx L base (fX12_sums rpR d) (aSum tx L rp) := fun s μ m h hl => by
  have hfp := rprod_ok hf hg
  have hgp := aProd_g hg
  unfold fX12_sums aSum
  refine Ok.then (hfp s μ m h hl) ?_
  rintro μ1 ⟨g1, g2⟩
  have hgs := hgp s h.2.1
  have hloop : ∀ (aR : PRz), (match aProd tx L rp s with | .inl t => aSL tx L rp (L + 1) t | .inr e => .inr e) = aR → Ok (loopN (fun s => fX12_sums_b5 rpR d s) FU μ1) (fun o => OutR tx L base m aR o ∧ Pr base μ1 o) := by
    rintro aR rfl
    have herr : ∀ e ρ, RErr tx L base e m ρ → Ok (fX12_sums_b5 rpR d ρ) (fun r => ∃ θ, r = .inr θ ∧ Pr base ρ θ ∧ RErr tx L base e m θ) := fun e ρ hE => by
      unfold fX12_sums_b5
      rw [isSign_e hE, isSign_e hE, Option.bind_some, Option.bind_some, if_neg (by decide), if_neg (by decide), Ok_some]
      exact ⟨ρ, rfl, .rf, hE⟩
    cases hr : aProd tx L rp s with
    | inr e =>
      rw [hr] at g1
      refine loop_I (Q := fun o : Mem => OutR tx L base m (.inr e) o ∧ Pr base μ1 o) _ (fun _ => 0) (fun t : Mem => t = μ1) rfl (by omega) ?_
      rintro t rfl
      refine Ok.imp (herr e t g1) ?_
      rintro r ⟨θ, rfl, e3, e2⟩
      exact ⟨e2, e3⟩
    | inl t =>
      rw [hr] at g1 hgs
      obtain ⟨k1, k2, k3, k4⟩ := hgs
      refine loopR_ok (body := fun μ => fX12_sums_b5 rpR d μ) (aL := aSL tx L rp) (test := fun s => isS tx L s.1 43 || isS tx L s.1 45) (nx := fun s => bnd (aProd tx L rp (s.1 + 1, s.2)) (fun t => .inl (psh (if isS tx L s.1 43 = true then 4 else 5, 0) t))) (fun f s => aSL_s) ?_ herr ?_ t g1 (by omega)
      · intro s μ h hl
        have hgo : tSt tx L s.1 < L → Ok (fX12_sums_j23 rpR d μ) (fun r => ∃ θ, r = .inl θ ∧ Pr base μ θ ∧ OutR tx L base m (bnd (aProd tx L rp (s.1 + 1, s.2)) (fun t => .inl (psh (if isS tx L s.1 43 = true then 4 else 5, 0) t))) θ) := fun hp => by
          unfold fX12_sums_j23
          simp only [lt]
          rw [show (43 : Int) = ((43 : Nat) : Int) from rfl, isSign_v h (by omega), Option.bind_some]
          have e0 : (if isS tx L s.1 43 = true then (4 : Int) else 5) = ((if isS tx L s.1 43 = true then 4 else 5 : Nat) : Int) := by split <;> rfl
          rw [e0]
          refine Ok.imp (roper_ok (c := if isS tx L s.1 43 = true then 4 else 5) (m := m) hfp hgp hp h.2.1 (h.next hp) hl) ?_
          rintro r ⟨θ2, r1, r2, r3⟩
          exact ⟨θ2, r1, Pr.p7.tr r2, r3⟩
        unfold fX12_sums_b5
        rw [show (43 : Int) = ((43 : Nat) : Int) from rfl, show (45 : Int) = ((45 : Nat) : Int) from rfl, isSign_v h (by omega), isSign_v h (by omega), Option.bind_some, Option.bind_some]
        by_cases c : isS tx L s.1 43 = true
        · rw [if_pos (show (isS tx L s.1 43 || isS tx L s.1 45) = true by rw [c]; rfl), if_pos c]
          exact hgo (isS_pos c).1
        · by_cases c2 : isS tx L s.1 45 = true
          · rw [if_pos (show (isS tx L s.1 43 || isS tx L s.1 45) = true by rw [c2, Bool.or_true]), if_neg c, if_pos c2]
            exact hgo (isS_pos c2).1
          · rw [if_neg (show ¬ (isS tx L s.1 43 || isS tx L s.1 45) = true by rw [Bool.or_eq_true]; rintro (q | q); exact c q; exact c2 q), if_neg c, if_neg c2, Ok_some]
            exact ⟨μ, rfl, .rf, h⟩
      · intro s hs c
        have hp : tSt tx L s.1 < L := by
          rw [Bool.or_eq_true] at c
          rcases c with c | c
          · exact (isS_pos c).1
          · exact (isS_pos c).1
        exact ((hgp (s.1 + 1, s.2) (hs.next hp)).op (s := s)).less (by omega)
  refine Ok.then (hloop _ rfl) ?_
  rintro μ2 ⟨q1, q2⟩
  rw [Ok_some]
  refine ⟨?_, g2.tr q2⟩
  cases hr : aProd tx L rp s with
  | inr e => rw [hr] at q1; exact q1
  | inl t => rw [hr] at q1; exact q1
theorem rtest_ok (hf : RlF tx L base (rpR d) rp) (hg : GdF tx L 1 rp) : RlF tx L base (fX12_test rpR d) (aTest tx L rp) := fun s μ m h hl => by
  have hfp := rsum_ok hf hg
  have hgp := aSum_g hg
  unfold fX12_test aTest
  refine Ok.then (hfp s μ m h hl) ?_
  rintro μ1 ⟨g1, g2⟩
  have hgs := hgp s h.2.1
  cases hr : aSum tx L rp s with
  | inr e =>
    rw [hr] at g1
    have g1' : RErr tx L base e m μ1 := g1
    rw [isSign_e g1', Option.bind_some]
    refine Ok.then (rhas_e g1') ?_
    rintro ⟨b, θ⟩ ⟨e1, e2, e3⟩
    dsimp only at e1 e2 e3 ⊢
    subst e1
    rw [if_neg (by decide)]
    refine Ok.then (rhas_e e2) ?_
    rintro ⟨b, θ2⟩ ⟨e4, e5, e6⟩
    dsimp only at e4 e5 e6 ⊢
    subst e4
    rw [if_neg (by decide), Ok_some]
    exact ⟨e5, (g2.tr e3).tr e6⟩
  | inl t =>
    rw [hr] at g1 hgs
    have g1' : RS tx L base t μ1 := g1
    obtain ⟨k1, k2, k3, k4⟩ := hgs
    show Ok _ (fun o => OutR tx L base m (if (isS tx L t.1 60 || isS tx L t.1 61) = true then bnd (aSum tx L rp (t.1 + 1, t.2)) (fun u => .inl (psh (if isS tx L t.1 60 = true then 7 else 8, 0) u)) else .inl t) o ∧ Pr base μ o)
    have hgo : tSt tx L t.1 < L → ∀ θ, RS tx L base (t.1 + 1, t.2) θ → Pr base μ1 θ → Ok (fX12_test_j30 rpR d (isS tx L t.1 60) θ) (fun o => OutR tx L base m (bnd (aSum tx L rp (t.1 + 1, t.2)) (fun u => .inl (psh (if isS tx L t.1 60 = true then 7 else 8, 0) u))) o ∧ Pr base μ o) := fun hp θ hθ hP => by
      unfold fX12_test_j30
      simp only [lt]
      have e0 : (if isS tx L t.1 60 = true then (7 : Int) else 8) = ((if isS tx L t.1 60 = true then 7 else 8 : Nat) : Int) := by split <;> rfl
      rw [e0]
      refine Ok.imp (roper_ok (c := if isS tx L t.1 60 = true then 7 else 8) (m := m) (g := fun x => x) hfp hgp hp k2 hθ (by omega)) ?_
      rintro r ⟨θ2, r1, r2, r3⟩
      subst r1
      exact ⟨r3, (g2.tr hP).tr r2⟩
    rw [show (60 : Int) = ((60 : Nat) : Int) from rfl, show (61 : Int) = ((61 : Nat) : Int) from rfl, isSign_v g1' (by omega), Option.bind_some]
    refine Ok.then (rhas_ok (c := 60) g1' (by omega)) ?_
    rintro ⟨b, θ⟩ ⟨e1, e2, e3⟩
    dsimp only at e1 e2 e3 ⊢
    subst e1
    by_cases c : isS tx L t.1 60 = true
    · rw [if_pos c] at e2
      rw [if_pos c, if_pos (show (isS tx L t.1 60 || isS tx L t.1 61) = true by rw [c]; rfl)]
      exact hgo (isS_pos c).1 θ e2 e3
    · rw [if_neg c] at e2
      rw [if_neg c]
      refine Ok.then (rhas_ok (c := 61) e2 (by omega)) ?_
      rintro ⟨b, θ2⟩ ⟨e4, e5, e6⟩
      dsimp only at e4 e5 e6 ⊢
      subst e4
      by_cases c2 : isS tx L t.1 61 = true
      · rw [if_pos c2] at e5
        rw [if_pos c2, if_pos (show (isS tx L t.1 60 || isS tx L t.1 61) = true by rw [c2, Bool.or_true])]
        exact hgo (isS_pos c2).1 θ2 e5 (e3.tr e6)
      · rw [if_neg c2] at e5
        rw [if_neg c2, if_neg (show ¬ (isS tx L t.1 60 || isS tx L t.1 61) = true by rw [Bool.or_eq_true]; rintro (q | q); exact c q; exact c2 q), Ok_some]
        exact ⟨e5, (g2.tr e3).tr e6⟩
theorem rwhole_ok (hf : RlF tx L base (rpR d) rp) (hg : GdF tx L 1 rp) : RlF tx L base (fX12_whole rpR d) (aWhole tx L rp) := fun s μ m h hl => by
  have hfp := rtest_ok hf hg
  have hgp := aTest_g hg
  have hc12 : ci 12 = 13 := by decide
  have hc13 : ci 13 = 14 := by decide
  unfold fX12_whole aWhole
  refine Ok.then (hfp s μ m h hl) ?_
  rintro μ1 ⟨g1, g2⟩
  have hgs := hgp s h.2.1
  have hloop : ∀ (aR : PRz), (match aTest tx L rp s with | .inl t => aWL tx L rp (L + 1) t | .inr e => .inr e) = aR → Ok (loopN (fun s => fX12_whole_b5 rpR d s) FU μ1) (fun o => OutR tx L base m aR o ∧ Pr base μ1 o) := by
    rintro aR rfl
    have herr : ∀ e ρ, RErr tx L base e m ρ → Ok (fX12_whole_b5 rpR d ρ) (fun r => ∃ θ, r = .inr θ ∧ Pr base ρ θ ∧ RErr tx L base e m θ) := fun e ρ hE => by
      unfold fX12_whole_b5
      rw [isWord_e hE, isWord_e hE, Option.bind_some, Option.bind_some, if_neg (by decide), if_neg (by decide), Ok_some]
      exact ⟨ρ, rfl, .rf, hE⟩
    cases hr : aTest tx L rp s with
    | inr e =>
      rw [hr] at g1
      refine loop_I (Q := fun o : Mem => OutR tx L base m (.inr e) o ∧ Pr base μ1 o) _ (fun _ => 0) (fun t : Mem => t = μ1) rfl (by omega) ?_
      rintro t rfl
      refine Ok.imp (herr e t g1) ?_
      rintro r ⟨θ, rfl, e3, e2⟩
      exact ⟨e2, e3⟩
    | inl t =>
      rw [hr] at g1 hgs
      obtain ⟨k1, k2, k3, k4⟩ := hgs
      refine loopR_ok (body := fun μ => fX12_whole_b5 rpR d μ) (aL := aWL tx L rp) (test := fun s => isW tx L s.1 13 || isW tx L s.1 14) (nx := fun s => bnd (aTest tx L rp (s.1 + 1, s.2)) (fun t => .inl (psh (if isW tx L s.1 13 = true then 9 else 10, 0) t))) (fun f s => aWL_s) ?_ herr ?_ t g1 (by omega)
      · intro s μ h hl
        have w12 := isWord_r (w := 12) h (by omega)
        have w13 := isWord_r (w := 13) h (by omega)
        rw [hc12] at w12
        rw [hc13] at w13
        rw [show ((12 : Nat) : Int) = 12 from rfl] at w12
        rw [show ((13 : Nat) : Int) = 13 from rfl] at w13
        have hgo : tSt tx L s.1 < L → Ok (fX12_whole_j23 rpR d μ) (fun r => ∃ θ, r = .inl θ ∧ Pr base μ θ ∧ OutR tx L base m (bnd (aTest tx L rp (s.1 + 1, s.2)) (fun t => .inl (psh (if isW tx L s.1 13 = true then 9 else 10, 0) t))) θ) := fun hp => by
          unfold fX12_whole_j23
          simp only [lt]
          rw [w12, Option.bind_some]
          have e0 : (if isW tx L s.1 13 = true then (9 : Int) else 10) = ((if isW tx L s.1 13 = true then 9 else 10 : Nat) : Int) := by split <;> rfl
          rw [e0]
          refine Ok.imp (roper_ok (c := if isW tx L s.1 13 = true then 9 else 10) (m := m) hfp hgp hp h.2.1 (h.next hp) hl) ?_
          rintro r ⟨θ2, r1, r2, r3⟩
          exact ⟨θ2, r1, Pr.p7.tr r2, r3⟩
        unfold fX12_whole_b5
        rw [w12, w13, Option.bind_some, Option.bind_some]
        by_cases c : isW tx L s.1 13 = true
        · rw [if_pos (show (isW tx L s.1 13 || isW tx L s.1 14) = true by rw [c]; rfl), if_pos c]
          exact hgo (isW_pos c).1
        · by_cases c2 : isW tx L s.1 14 = true
          · rw [if_pos (show (isW tx L s.1 13 || isW tx L s.1 14) = true by rw [c2, Bool.or_true]), if_neg c, if_pos c2]
            exact hgo (isW_pos c2).1
          · rw [if_neg (show ¬ (isW tx L s.1 13 || isW tx L s.1 14) = true by rw [Bool.or_eq_true]; rintro (q | q); exact c q; exact c2 q), if_neg c, if_neg c2, Ok_some]
            exact ⟨μ, rfl, .rf, h⟩
      · intro s hs c
        have hp : tSt tx L s.1 < L := by
          rw [Bool.or_eq_true] at c
          rcases c with c | c
          · exact (isW_pos c).1
          · exact (isW_pos c).1
        exact ((hgp (s.1 + 1, s.2) (hs.next hp)).op (s := s)).less (by omega)
  refine Ok.then (hloop _ rfl) ?_
  rintro μ2 ⟨q1, q2⟩
  rw [Ok_some]
  refine ⟨?_, g2.tr q2⟩
  cases hr : aTest tx L rp s with
  | inr e => rw [hr] at q1; exact q1
  | inl t => rw [hr] at q1; exact q1
/-- the last of many words that stands there -/
def lstW (p : Nat → Bool) : Nat → Int
  | 0 => -1
  | i + 1 => if p i = true then (i : Int) else lstW p i
theorem wordHere_r {s : PSt} {fr mn : Nat} (h : RS tx L base s μ) (hm : fr + mn ≤ 18) : fX12_wordHere (fr : Int) (mn : Int) μ = some (lstW (fun v => isW tx L s.1 (ci (fr + v))) mn) := by
  apply Ok_val
  unfold fX12_wordHere
  refine Ok.bind ?_
  refine loop_FU mn (fun (i : Nat) (t : Int × Int) => t.1 = lstW (fun v => isW tx L s.1 (ci (fr + v))) i ∧ t.2 = (i : Int)) 0 ⟨rfl, rfl⟩ (by omega) (by omega) ?_ ?_
  · rintro i ⟨a, b⟩ hi ⟨e1, e2⟩
    dsimp only at e1 e2 ⊢
    subst e1 e2
    have e0 : (fr : Int) + (i : Int) = ((fr + i : Nat) : Int) := by push_cast; rfl
    unfold fX12_wordHere_b5
    simp only [lt]
    rw [w32_n (a := i) (by omega), w32_n (a := mn) (by omega), if_pos (by omega), e0, isWord_r h (by omega), Option.bind_some, Ok_some]
    exact ⟨rfl, by push_cast; rfl⟩
  · rintro ⟨a, b⟩ ⟨e1, e2⟩
    dsimp only at e1 e2 ⊢
    subst e1 e2
    unfold fX12_wordHere_b5
    rw [w32_n (a := mn) (by omega), if_neg (by omega), Ok_some]
    show Ok _ _
    rw [Ok_some]
theorem lstW_congr {p q : Nat → Bool} : ∀ {i}, (∀ v, v < i → p v = q v) → lstW p i = lstW q i
  | 0, _ => rfl
  | i + 1, h => by rw [lstW, lstW, h i (by omega), lstW_congr (fun v hv => h v (by omega))]
/-- by the word's number -/
theorem wordHere_i {s : PSt} {fr mn : Nat} (h : RS tx L base s μ) (hm : fr + mn ≤ 18) : fX12_wordHere (fr : Int) (mn : Int) μ = some (lstW (fun v => decide (wI tx L s.1 = ci (fr + v))) mn) := by
  rw [wordHere_r h hm, lstW_congr (fun v hv => isW_wI (ci_ok (fr + v) (by omega)).2.1)]
theorem wh_fact : ∀ i, i < 19 → lstW (fun v => decide (i = ci (14 + v))) 4 = if 15 ≤ i then ((i - 15 : Nat) : Int) else -1 := by decide
theorem wh_kind : ∀ i, i < 19 → lstW (fun v => decide (i = ci (7 + v))) 4 = if 8 ≤ i ∧ i ≤ 11 then ((i - 8 : Nat) : Int) else -1 := by decide
theorem wh_lie : ∀ i, i < 19 → lstW (fun v => decide (i = ci (2 + v))) 2 = if i = 7 then 0 else if i = 6 then 1 else -1 := by decide
theorem wh_law : ∀ i, i < 19 → lstW (fun v => decide (i = ci (4 + v))) 2 = if i = 3 then 0 else if i = 4 then 1 else -1 := by decide
theorem wh_name : ∀ i, i < 19 → (lstW (fun v => decide (i = ci (0 + v))) 14 < 0 ↔ (i = 0 ∨ 15 ≤ i)) := by decide
theorem rpart_ok {rpR : Int → Mem → Option Mem} {rp : Nat → PSt → PRz} {d : Nat} (hd : d ≤ 5) (hf : d < 5 → RlF tx L base (rpR ((d + 1 : Nat) : Int)) (rp (d + 1))) (hg : ∀ d, GdF tx L 1 (rp d)) : RlF tx L base (fX12_takePart rpR (d : Int)) (aPart tx L rp d) := fun s μ m h hl => by
  have hb := h.b
  have hw := wI_lt (tx := tx) (L := L) (j := s.1)
  have ed : (d : Int) + 1 = ((d + 1 : Nat) : Int) := by push_cast; rfl
  have hc11 : ci 11 = 12 := by decide
  have hfa : fX12_wordHere 14 4 μ = some (if isFa tx L s.1 = true then ((wI tx L s.1 - 15 : Nat) : Int) else -1) := by
    have h1 := wordHere_i (fr := 14) (mn := 4) h (by omega)
    rw [wh_fact _ hw] at h1
    rw [isFa_wI]
    by_cases c : 15 ≤ wI tx L s.1
    · rw [if_pos c] at h1
      rw [if_pos (decide_eq_true c)]; exact h1
    · rw [if_neg c] at h1
      rw [if_neg (by rw [decide_eq_false c]; decide)]; exact h1
  have h77 : μ 77 s.1 = tKd tx L (tSt tx L s.1) := h.tk.1
  have hkb := tKd_b (tx := tx) (L := L) (s := tSt tx L s.1)
  have h8 : w32 (μ 75 8) = 0 := by rw [h.2.2.2.1]; decide
  have h7 := h.2.2.1
  -- behind the first tests
  have j79 : (isW tx L s.1 12 || isS tx L s.1 40 || decide (tK tx L s.1 = 2) || isFa tx L s.1) = true → ∀ v10 v11, v10 = decide (tK tx L s.1 = 2) → v11 = (if isFa tx L s.1 = true then ((wI tx L s.1 - 15 : Nat) : Int) else -1) → Ok (fX12_takePart_j69 rpR (d : Int) v10 v11 μ) (fun o => OutR tx L base m (aPart tx L rp d s) o ∧ Pr base μ o) := by
    rintro c v10 v11 rfl rfl
    have hp : tSt tx L s.1 < L := by
      rw [Bool.or_eq_true, Bool.or_eq_true, Bool.or_eq_true] at c
      rcases c with ((c | c) | c) | c
      · exact (isW_pos c).1
      · exact (isS_pos c).1
      · exact tK_pos (by rw [of_decide_eq_true c]; omega)
      · exact (isFa_pos c).1
    unfold fX12_takePart_j69 aPart
    rw [if_pos c, w32_n (a := d) (by omega), show w32 5 = 5 from by decide]
    by_cases cd : d < 5
    rotate_left
    · rw [if_neg cd, if_pos (show (d : Int) = 5 by omega)]
      refine Ok.then (rwrong_ok (w := 5) h (by omega) hl) ?_
      rintro ν ⟨g1, g2⟩
      unfold fX12_takePart_j79
      have h0 := g1.2.1
      have h00 := g1.2.2.1
      rw [h0, if_neg (by rw [w32_n (by omega)]; omega), Ok_some]
      exact ⟨g1, g2⟩
    rw [if_pos cd, if_neg (show ¬ (d : Int) = 5 by omega)]
    unfold fX12_takePart_j79
    simp only [lt]
    rw [h8, if_pos (Int.le_refl 0)]
    have hh := rhasW_ok (w := 11) h (by omega)
    rw [hc11, show ((11 : Nat) : Int) = 11 from rfl] at hh
    refine Ok.then hh ?_
    rintro ⟨b, θ⟩ ⟨e1, e2, e3⟩
    dsimp only at e1 e2 e3 ⊢
    subst e1
    by_cases c2 : isW tx L s.1 12 = true
    · have c1 : ¬ isS tx L s.1 40 = true := fun q => by
        have q1 := (isW_pos c2).2.1
        have q2 := (isS_pos q).2.1
        omega
      rw [if_pos c2] at e2
      rw [if_pos c2, if_neg c1, if_pos c2, ed, show (3 : Int) = ((3 : Nat) : Int) from rfl, show (0 : Int) = ((0 : Nat) : Int) from rfl]
      refine Ok.imp (roper_ok (c := 3) (m := m) (g := fun x => x) (hf cd) (hg (d + 1)) hp h.2.1 e2 hl) ?_
      rintro r ⟨θ2, r1, r2, r3⟩
      subst r1
      exact ⟨r3, e3.tr r2⟩
    rw [if_neg c2] at e2
    rw [if_neg c2, if_neg c2, show (40 : Int) = ((40 : Nat) : Int) from rfl]
    refine Ok.then (rhas_ok (c := 40) e2 (by omega)) ?_
    rintro ⟨b, θ2⟩ ⟨e4, e5, e6⟩
    dsimp only at e4 e5 e6 ⊢
    subst e4
    by_cases c1 : isS tx L s.1 40 = true
    · rw [if_pos c1] at e5
      rw [if_pos c1, if_pos c1, ed, show (41 : Int) = ((41 : Nat) : Int) from rfl]
      refine Ok.then (rwhole_ok (hf cd) (hg (d + 1)) (s.1 + 1, s.2) θ2 m e5 (by dsimp only; omega)) ?_
      rintro θ3 ⟨g3, g4⟩
      have hgu := aWhole_g (hg (d + 1)) (s.1 + 1, s.2) (h.2.1.next hp)
      cases hr2 : aWhole tx L (rp (d + 1)) (s.1 + 1, s.2) with
      | inr e =>
        rw [hr2] at g3
        rw [rtake_e g3, Option.bind_some, Ok_some]
        exact ⟨g3, (e3.tr e6).tr g4⟩
      | inl u =>
        rw [hr2] at g3 hgu
        have g3' : RS tx L base u θ3 := g3
        obtain ⟨u1, u2, u3, u4⟩ := hgu.tok u rfl
        refine Ok.then (rtake_ok (c := 41) g3' (by omega) (m := m) (by omega)) ?_
        rintro θ4 ⟨g5, g6⟩
        rw [Ok_some]
        exact ⟨g5, ((e3.tr e6).tr g4).tr g6⟩
    rw [if_neg c1] at e5
    rw [if_neg c1, if_neg c1]
    have e7 := e5.2.2.1
    have hb5 := e5.b
    -- a leaf
    have leaf : ∀ (o : Nat × Nat), Ok (fX12_takePart_j165 rpR (d : Int) (o.2 : Int) (o.1 : Int) θ2) (fun ν => OutR tx L base m (.inl (s.1 + 1, o :: s.2)) ν ∧ Pr base μ ν) := fun o => by
      unfold fX12_takePart_j165
      simp only [lt]
      refine Ok.then (remit_ok (c := o.1) (a := o.2) e5 (by omega)) ?_
      rintro θ3 ⟨g3, g4⟩
      rw [Ok_some]
      exact ⟨g3.next hp, ((e3.tr e6).tr g4).tr .p7⟩
    by_cases c3 : tK tx L s.1 = 2
    · rw [if_pos c3, if_pos (decide_eq_true c3), gd_pos (show 0 ≤ w32 (θ2 75 7) ∧ w32 (θ2 75 7) < 1002 by rw [e7, w32_n (a := s.1) (by omega)]; omega), e7, w32_n (a := s.1) (by omega), Int.toNat_natCast, e5.tk.2.2.2.1 c3]
      have hnb : tNm tx L (tSt tx L s.1) < 100000 := by
        have hk2 : tKd tx L (tSt tx L s.1) = 2 := c3
        have hlen : tEnd tx L (tSt tx L s.1) - tSt tx L s.1 ≤ 4 := by
          unfold tKd at hk2
          split at hk2
          · split at hk2
            · split at hk2 <;> omega
            · split at hk2
              · split at hk2
                · assumption
                · omega
              · split at hk2 <;> omega
          · omega
        have hfg : isLt (tx (tSt tx L s.1)) = false ∧ isFg (tx (tSt tx L s.1)) = true := by
          unfold tKd at hk2
          split at hk2
          · split at hk2
            · split at hk2 <;> omega
            · rename_i q
              split at hk2
              · rename_i q2
                exact ⟨eq_false_of_ne_true q, q2⟩
              · split at hk2 <;> omega
          · omega
        have he : tEnd tx L (tSt tx L s.1) = run (fun k => isFg (tx k)) L (tSt tx L s.1) := by unfold tEnd; rw [if_neg (by rw [hfg.1]; decide), if_pos hfg.2]
        have key : ∀ j, j ≤ tEnd tx L (tSt tx L s.1) - tSt tx L s.1 → nmr tx (tSt tx L s.1) j < 10 ^ j := by
          intro j
          induction j with
          | zero => intro _; show 0 < 1; omega
          | succ j ih =>
            intro hj
            have h1 := ih (by omega)
            have h2 := (run_spec (q := fun k => isFg (tx k)) (L := L) (i := tSt tx L s.1)).2.1 (tSt tx L s.1 + j) (by omega) (by rw [← he]; omega)
            have h3 := isFg_b h2.2
            rw [nmr, Nat.pow_succ]
            omega
        have h1 := key _ (Nat.le_refl _)
        have h2 : 10 ^ (tEnd tx L (tSt tx L s.1) - tSt tx L s.1) ≤ 10 ^ 4 := Nat.pow_le_pow_right (by omega) hlen
        unfold tNm
        omega
      rw [l_2i_n (by omega), if_pos (decide_eq_true c3)]
      exact leaf (1, tNm tx L (tSt tx L s.1))
    · have cf : isFa tx L s.1 = true := by
        rw [Bool.or_eq_true, Bool.or_eq_true, Bool.or_eq_true] at c
        rcases c with ((c | c) | c) | c
        · exact absurd c c2
        · exact absurd c c1
        · exact absurd (of_decide_eq_true c) c3
        · exact c
      have hwi : wI tx L s.1 = idx (tWd tx L (tSt tx L s.1)) := by unfold wI; rw [if_pos (isFa_pos cf).2.1]
      rw [if_neg c3, if_neg (by rw [decide_eq_false c3]; decide), if_pos cf, if_neg (by rw [decide_eq_false c3]; decide), hwi]
      exact leaf (2, idx (tWd tx L (tSt tx L s.1)) - 15)
  unfold fX12_takePart
  simp only [lt]
  rw [h8, if_pos (Int.le_refl 0), h7, w32_n (a := s.1) (by omega), gd_pos (by omega), Int.toNat_natCast, h77, w32_n (a := tKd tx L (tSt tx L s.1)) (by omega), w32_2, hfa, Option.bind_some]
  have hv3 : (if ((tKd tx L (tSt tx L s.1) : Nat) : Int) = 2 then true else false) = decide (tK tx L s.1 = 2) := by
    by_cases q : tKd tx L (tSt tx L s.1) = 2
    · rw [if_pos (by omega)]; exact (decide_eq_true q).symm
    · rw [if_neg (by omega)]; exact (decide_eq_false q).symm
  rw [hv3]
  by_cases c4 : isFa tx L s.1 = true
  · have := j79 (by rw [c4, Bool.or_true]) _ _ rfl rfl
    rw [if_pos c4] at this ⊢
    rw [if_neg (by rw [w32_n (by omega)]; omega)]
    exact this
  have j79' := fun c => j79 c _ _ rfl rfl
  rw [if_neg c4] at j79' ⊢
  rw [w32_m1, if_pos (by omega)]
  by_cases c3 : tK tx L s.1 = 2
  · have := j79' (by rw [decide_eq_true c3, Bool.or_true]; rfl)
    rw [if_pos (decide_eq_true c3)]; exact this
  rw [if_neg (by rw [decide_eq_false c3]; decide), show (40 : Int) = ((40 : Nat) : Int) from rfl, isSign_v h (by omega), Option.bind_some]
  by_cases c1 : isS tx L s.1 40 = true
  · rw [if_pos c1]; exact j79' (by rw [c1, Bool.or_true]; rfl)
  rw [if_neg c1]
  have w11 := isWord_r (w := 11) h (by omega)
  rw [hc11, show ((11 : Nat) : Int) = 11 from rfl] at w11
  rw [w11, Option.bind_some]
  by_cases c2 : isW tx L s.1 12 = true
  · rw [if_pos c2]; exact j79' (by rw [c2]; rfl)
  · rw [if_neg c2]
    refine Ok.then (rwrong_ok (w := 1) h (by omega) hl) ?_
    rintro ν ⟨g1, g2⟩
    unfold fX12_takePart_j79
    have h0 := g1.2.1
    have h00 := g1.2.2.1
    rw [h0, if_neg (by rw [w32_n (by omega)]; omega), Ok_some]
    have ha : aPart tx L rp d s = .inr (er tx L 1 s.1) := by
      unfold aPart
      rw [if_neg (by rw [eq_false_of_ne_true c1, eq_false_of_ne_true c2, decide_eq_false c3, eq_false_of_ne_true c4]; decide)]
    rw [ha]
    exact ⟨g1, g2⟩
theorem rpartN_ok : ∀ (N d : Nat), d ≤ 5 → 6 ≤ N + d → RlF tx L base (fX12_takePartN N (d : Int)) (aPN tx L N d)
  | 0, d, h1, h2 => by omega
  | N + 1, d, h1, h2 => rpart_ok (rpR := fX12_takePartN N) (rp := aPN tx L N) h1 (fun hd => rpartN_ok N (d + 1) (by omega) (by omega)) (fun d => aPN_g N d)
end RPARSE2
