/-! ===== level 2: the reference cuts the text ===== -/
section CUTR
variable {tx : Nat → Nat} {L : Nat} {μ ν : Mem}
/-- token j is there, or is the end -/
def Rch (tx : Nat → Nat) (L j : Nat) : Prop := ∀ i, i < j → tSt tx L i < L
theorem Rch.b {j : Nat} (h : Rch tx L j) (hL : L ≤ 1000) : j ≤ 1000 := by
  by_cases e : j = 0
  · omega
  · have h1 := h (j - 1) (by omega)
    have := tSt_ge (j - 1) h1
    omega
theorem Rch.next {j : Nat} (h : Rch tx L j) (hj : tSt tx L j < L) : Rch tx L (j + 1) := fun i hi => by
  by_cases e : i = j
  · rw [e]; exact hj
  · exact h i (by omega)
theorem Rch.le {j i : Nat} (h : Rch tx L j) (hi : i ≤ j) : Rch tx L i := fun k hk => h k (by omega)
/-- token j in the reference -/
def TkJ (tx : Nat → Nat) (L j : Nat) (μ : Mem) : Prop := μ 77 j = tKd tx L (tSt tx L j) ∧ μ 78 j = tSt tx L j ∧ (tKd tx L (tSt tx L j) = 1 → μ 79 j = pkW 37 (tWd tx L (tSt tx L j))) ∧ (tKd tx L (tSt tx L j) = 2 → μ 79 j = tNm tx L (tSt tx L j)) ∧ (tKd tx L (tSt tx L j) = 3 → μ 79 j = tx (tSt tx L j))
def Tk (tx : Nat → Nat) (L : Nat) (μ : Mem) : Prop := ∀ j, Rch tx L j → TkJ tx L j μ
theorem TkJ.same {j : Nat} (h : TkJ tx L j μ) (e7 : ν 77 j = μ 77 j) (e8 : ν 78 j = μ 78 j) (e9 : ν 79 j = μ 79 j) : TkJ tx L j ν := by
  unfold TkJ at h ⊢; rw [e7, e8, e9]; exact h
def Cf2 (μ ν : Mem) : Prop := ∀ x, x ≠ 77 → x ≠ 78 → x ≠ 79 → ν x = μ x
theorem isLetter_r {c : Nat} (h : c < 127) : fX12_isLetter (c : Int) = isLt c := by
  have : ∀ c : Nat, c < 127 → fX12_isLetter (c : Int) = isLt c := by decide +kernel
  exact this c h
theorem isDigit_r {c : Nat} (h : c < 127) : fX12_isDigit (c : Int) = isFg c := by
  have : ∀ c : Nat, c < 127 → fX12_isDigit (c : Int) = isFg c := by decide +kernel
  exact this c h
theorem isSignOf_r {c : Nat} (h : c < 127) : fX12_isSignOf (c : Int) = isSg c := by
  have : ∀ c : Nat, c < 127 → fX12_isSignOf (c : Int) = isSg c := by decide +kernel
  exact this c h
theorem rank_r {c : Nat} (h : isLt c = true) : fX12_rank (c : Int) = ((c - 96 : Nat) : Int) := by
  have hb := isLt_b h
  unfold fX12_rank
  simp only [lt]
  rw [isLetter_r (by omega), if_pos h]
  omega
theorem letters_r {s : Nat} {a : Int} (h3 : μ 75 3 = L) (hx : ∀ i, i < L → μ 76 i = tx i) (hO : TxO L tx) (hs : s < L) (hl : isLt (tx s) = true) : loopN (fun t => fX12_cutAll_b70 a (s : Int) t.1 t.2.1 t.2.2) FU ((s : Int), 0, μ) = some ((tEnd tx L s : Int), (pkW 37 (wlr tx s (min (tEnd tx L s - s) 8)) : Int), μ) := by
  have hL := hO.1
  have htE : tEnd tx L s = run (fun k => isLt (tx k)) L s := by unfold tEnd; rw [if_pos hl]
  have hEb := tEnd_b (tx := tx) hs
  apply Ok_val
  refine loop_I (Q := fun o : Int × Int × Mem => o = ((tEnd tx L s : Int), (pkW 37 (wlr tx s (min (tEnd tx L s - s) 8)) : Int), μ)) _ (fun t : Int × Int × Mem => L - t.1.toNat) (fun t : Int × Int × Mem => ∃ x : Nat, t.1 = x ∧ s ≤ x ∧ x ≤ L ∧ run (fun k => isLt (tx k)) L x = tEnd tx L s ∧ t.2.1 = (pkW 37 (wlr tx s (min (x - s) 8)) : Int) ∧ t.2.2 = μ) ⟨s, rfl, Nat.le_refl _, by omega, htE.symm, by rw [Nat.sub_self]; rfl, rfl⟩ (by show L - _ < _; omega) ?_
  rintro ⟨t1, t2, ρ⟩ ⟨x, e1, hsx, hxL, hrun, e2, e3⟩
  dsimp only at e1 e2 e3 ⊢
  subst e1 e2 e3
  have hstop : ¬ (x < L ∧ isLt (tx x) = true) → x = tEnd tx L s := fun c => by rw [← hrun]; exact (run_stop (q := fun k => isLt (tx k)) c).symm
  unfold fX12_cutAll_b70
  simp only [lt]
  rw [h3, w32_n (a := x) (by omega), w32_n (a := L) (by omega)]
  by_cases hxl : x < L
  · have hb := tx_b hO hxl
    rw [if_pos (by omega), gd_pos (by omega), Int.toNat_natCast, hx x hxl, isLetter_r (by omega)]
    by_cases hq : isLt (tx x) = true
    · have hqb := isLt_b hq
      rw [if_pos hq, w32_eq (x := (x : Int) - (s : Int)) (by omega) (by omega), show w32 8 = 8 from by decide]
      by_cases h8 : x - s < 8
      · rw [if_pos (by omega), gd_pos (by omega), rank_r hq, w32_n (a := tx x - 96) (by omega), Ok_some]
        have hm : min (x - s) 8 = x - s := by omega
        have hm2 : min (x + 1 - s) 8 = (x - s) + 1 := by omega
        have hsx2 : s + (x - s) = x := by omega
        refine ⟨⟨x + 1, by push_cast; rfl, by omega, by omega, by rw [← hrun, run_step (q := fun k => isLt (tx k)) hxl hq], ?_, rfl⟩, by dsimp only; omega⟩
        dsimp only
        rw [hm, hm2, wlr, hsx2, pkW]
        push_cast
        omega
      · rw [if_neg (by omega), Ok_some]
        have hm : min (x - s) 8 = 8 := by omega
        have hm2 : min (x + 1 - s) 8 = 8 := by omega
        refine ⟨⟨x + 1, by push_cast; rfl, by omega, by omega, by rw [← hrun, run_step (q := fun k => isLt (tx k)) hxl hq], ?_, rfl⟩, by dsimp only; omega⟩
        dsimp only
        rw [hm, hm2]
    · rw [if_neg hq, Ok_some]
      have := hstop (fun c => hq c.2)
      dsimp only [Sum.elim]
      rw [← this]
  · rw [if_neg (by omega), Ok_some]
    have := hstop (fun c => hxl c.1)
    dsimp only [Sum.elim]
    rw [← this]
theorem digits_r {s : Nat} {a : Int} (h3 : μ 75 3 = L) (hx : ∀ i, i < L → μ 76 i = tx i) (hO : TxO L tx) (hs : s < L) (hnl : isLt (tx s) = false) (hl : isFg (tx s) = true) : loopN (fun t => fX12_cutAll_b159 a (s : Int) t.1 t.2.1 t.2.2) FU ((s : Int), 0, μ) = some ((tEnd tx L s : Int), (nmr tx s (min (tEnd tx L s - s) 4) : Int), μ) := by
  have hL := hO.1
  have htE : tEnd tx L s = run (fun k => isFg (tx k)) L s := by unfold tEnd; rw [if_neg (by rw [hnl]; decide), if_pos hl]
  have hEb := tEnd_b (tx := tx) hs
  apply Ok_val
  refine loop_I (Q := fun o : Int × Int × Mem => o = ((tEnd tx L s : Int), (nmr tx s (min (tEnd tx L s - s) 4) : Int), μ)) _ (fun t : Int × Int × Mem => L - t.1.toNat) (fun t : Int × Int × Mem => ∃ x : Nat, t.1 = x ∧ s ≤ x ∧ x ≤ L ∧ run (fun k => isFg (tx k)) L x = tEnd tx L s ∧ t.2.1 = (nmr tx s (min (x - s) 4) : Int) ∧ t.2.2 = μ) ⟨s, rfl, Nat.le_refl _, by omega, htE.symm, by rw [Nat.sub_self]; rfl, rfl⟩ (by show L - _ < _; omega) ?_
  rintro ⟨t1, t2, ρ⟩ ⟨x, e1, hsx, hxL, hrun, e2, e3⟩
  dsimp only at e1 e2 e3 ⊢
  subst e1 e2 e3
  have hstop : ¬ (x < L ∧ isFg (tx x) = true) → x = tEnd tx L s := fun c => by rw [← hrun]; exact (run_stop (q := fun k => isFg (tx k)) c).symm
  unfold fX12_cutAll_b159
  simp only [lt]
  rw [h3, w32_n (a := x) (by omega), w32_n (a := L) (by omega)]
  by_cases hxl : x < L
  · have hb := tx_b hO hxl
    rw [if_pos (by omega), gd_pos (by omega), Int.toNat_natCast, hx x hxl, isDigit_r (by omega)]
    by_cases hq : isFg (tx x) = true
    · have hqb := isFg_b hq
      rw [if_pos hq, w32_eq (x := (x : Int) - (s : Int)) (by omega) (by omega), show w32 4 = 4 from by decide]
      by_cases h8 : x - s < 4
      · rw [if_pos (by omega), gd_pos (by omega), w32_n (a := tx x) (by omega), Ok_some]
        have hm : min (x - s) 4 = x - s := by omega
        have hm2 : min (x + 1 - s) 4 = (x - s) + 1 := by omega
        have hsx2 : s + (x - s) = x := by omega
        refine ⟨⟨x + 1, by push_cast; rfl, by omega, by omega, by rw [← hrun, run_step (q := fun k => isFg (tx k)) hxl hq], ?_, rfl⟩, by dsimp only; omega⟩
        dsimp only
        rw [hm, hm2, nmr, hsx2]
        push_cast
        omega
      · rw [if_neg (by omega), Ok_some]
        have hm : min (x - s) 4 = 4 := by omega
        have hm2 : min (x + 1 - s) 4 = 4 := by omega
        refine ⟨⟨x + 1, by push_cast; rfl, by omega, by omega, by rw [← hrun, run_step (q := fun k => isFg (tx k)) hxl hq], ?_, rfl⟩, by dsimp only; omega⟩
        dsimp only
        rw [hm, hm2]
    · rw [if_neg hq, Ok_some]
      have := hstop (fun c => hq c.2)
      dsimp only [Sum.elim]
      rw [← this]
  · rw [if_neg (by omega), Ok_some]
    have := hstop (fun c => hxl c.1)
    dsimp only [Sum.elim]
    rw [← this]
theorem cutAll_ok (hO : TxO L tx) (h2 : μ 75 2 = L) (hx : ∀ i, i < L → μ 76 i = tx i) : Ok (fX12_cutAll μ) (fun ν => Tk tx L ν ∧ ν 75 2 = 0 ∧ ν 75 7 = 0 ∧ ν 75 8 = 0 ∧ (∀ x, x ≠ 75 → x ≠ 77 → x ≠ 78 → x ≠ 79 → ν x = μ x) ∧ ∀ j, j ≠ 2 → j ≠ 3 → j ≠ 7 → j ≠ 8 → ν 75 j = μ 75 j) := by
  have hL := hO.1
  unfold fX12_cutAll
  simp only [lt]
  rw [h2]
  have hm3 : upd2 (upd2 μ 75 3 (L : Int)) 75 2 0 75 3 = L := by rw [upd2_nj (by omega), upd2_at]
  have hm2 : upd2 (upd2 μ 75 3 (L : Int)) 75 2 0 75 2 = 0 := upd2_at
  have hmx : ∀ i, i < L → upd2 (upd2 μ 75 3 (L : Int)) 75 2 0 76 i = tx i := fun i hi => by rw [upd2_ne (by omega), upd2_ne (by omega)]; exact hx i hi
  have hmf : ∀ x, x ≠ 75 → upd2 (upd2 μ 75 3 (L : Int)) 75 2 0 x = μ x := fun x q => by rw [upd2_ne q, upd2_ne q]
  have hm5 : ∀ j, j ≠ 2 → j ≠ 3 → upd2 (upd2 μ 75 3 (L : Int)) 75 2 0 75 j = μ 75 j := fun j q1 q2 => by rw [upd2_nj q1, upd2_nj q2]
  generalize upd2 (upd2 μ 75 3 (L : Int)) 75 2 0 = μ2 at hm3 hm2 hmx hmf hm5 ⊢
  refine Ok.then (loop_I (Q := fun o : Int × Mem => ∃ j : Nat, o.1 = j ∧ Rch tx L j ∧ tSt tx L j = L ∧ (∀ i, i < j → TkJ tx L i o.2) ∧ Cf2 μ2 o.2) _ (fun t : Int × Int × Mem => L - t.2.1.toNat) (fun t : Int × Int × Mem => ∃ j x : Nat, t.1 = j ∧ t.2.1 = x ∧ x ≤ L ∧ Rch tx L j ∧ run (fun k => isBl (tx k)) L x = tSt tx L j ∧ (∀ i, i < j → TkJ tx L i t.2.2) ∧ Cf2 μ2 t.2.2) ⟨0, 0, rfl, rfl, Nat.zero_le _, fun i hi => absurd hi (by omega), rfl, fun i hi => absurd hi (by omega), fun _ _ _ _ => rfl⟩ (by show L - _ < _; omega) ?_) ?_
  · rintro ⟨t1, t2, ρ⟩ ⟨j, x, e1, e2, hxL, hR, hrun, hT, hF⟩
    dsimp only at e1 e2 hT hF ⊢
    subst e1 e2
    have hj := hR.b hL
    have hρ3 : ρ 75 3 = L := by rw [hF 75 (by omega) (by omega) (by omega)]; exact hm3
    have hρx : ∀ i, i < L → ρ 76 i = tx i := fun i hi => by rw [hF 76 (by omega) (by omega) (by omega)]; exact hmx i hi
    unfold fX12_cutAll_b17
    simp only [lt]
    rw [hρ3, w32_n (a := x) (by omega), w32_n (a := L) (by omega)]
    by_cases hxl : x < L
    rotate_left
    · rw [if_neg (by omega), Ok_some]
      have : tSt tx L j = L := by
        rw [← hrun, run_stop (q := fun k => isBl (tx k)) (fun c => hxl c.1)]; omega
      exact ⟨j, rfl, hR, this, hT, hF⟩
    have hb := tx_b hO hxl
    rw [if_pos (by omega), gd_pos (by omega), Int.toNat_natCast, hρx x hxl, w32_n (a := tx x) (by omega), show w32 10 = 10 from by decide, show w32 32 = 32 from by decide]
    by_cases hq : isBl (tx x) = true
    · have hbl : tx x = 10 ∨ tx x = 32 := by
        unfold isBl at hq
        rw [Bool.or_eq_true, decide_eq_true_eq, decide_eq_true_eq] at hq
        exact hq
      have fin : Ok (some (.inl ((j : Int), (x : Int) + 1, ρ) : (Int × Int × Mem) ⊕ (Int × Mem))) (Sum.elim (fun s2 => (∃ j x : Nat, s2.1 = j ∧ s2.2.1 = x ∧ x ≤ L ∧ Rch tx L j ∧ run (fun k => isBl (tx k)) L x = tSt tx L j ∧ (∀ i, i < j → TkJ tx L i s2.2.2) ∧ Cf2 μ2 s2.2.2) ∧ L - s2.2.1.toNat < L - ((x : Nat) : Int).toNat) (fun o => ∃ j : Nat, o.1 = j ∧ Rch tx L j ∧ tSt tx L j = L ∧ (∀ i, i < j → TkJ tx L i o.2) ∧ Cf2 μ2 o.2)) := by
        rw [Ok_some]
        exact ⟨⟨j, x + 1, rfl, by push_cast; rfl, by omega, hR, by rw [← hrun, run_step (q := fun k => isBl (tx k)) hxl hq], hT, hF⟩, by dsimp only; omega⟩
      rcases hbl with e | e
      · rw [if_pos (by omega)]; exact fin
      · rw [if_neg (by omega), if_pos (by omega)]; exact fin
    · have hbl : tx x ≠ 10 ∧ tx x ≠ 32 := by
        unfold isBl at hq
        rw [Bool.or_eq_true, decide_eq_true_eq, decide_eq_true_eq] at hq
        omega
      have hxs : tSt tx L j = x := by rw [← hrun]; exact run_stop (q := fun k => isBl (tx k)) (fun c => hq c.2)
      have hEb := tEnd_b (tx := tx) hxl
      have hRn := hR.next (by rw [hxs]; exact hxl)
      have hnext : run (fun k => isBl (tx k)) L (tEnd tx L x) = tSt tx L (j + 1) := by rw [tSt_next (by rw [hxs]; exact hxl), hxs]; rfl
      rw [if_neg (by omega), if_neg (by omega), w32_n (a := j) (by omega), gd_pos (by omega), Int.toNat_natCast]
      have hσ3 : upd2 ρ 78 j (x : Int) 75 3 = L := by rw [upd2_ne (by omega)]; exact hρ3
      have hσx : ∀ i, i < L → upd2 ρ 78 j (x : Int) 76 i = tx i := fun i hi => by rw [upd2_ne (by omega)]; exact hρx i hi
      have hσ8 : upd2 ρ 78 j (x : Int) 78 j = x := upd2_at
      have hσT : ∀ i, i < j → TkJ tx L i (upd2 ρ 78 j (x : Int)) := fun i hi => (hT i hi).same (by rw [upd2_ne (by omega)]) (upd2_nj (by omega)) (by rw [upd2_ne (by omega)])
      have hσF : Cf2 μ2 (upd2 ρ 78 j (x : Int)) := fun y q1 q2 q3 => (upd2_ne q2).trans (hF y q1 q2 q3)
      generalize upd2 ρ 78 j (x : Int) = σ at hσ3 hσx hσ8 hσT hσF ⊢
      -- the entry is written
      have fin : ∀ (kd v : Int) (e : Nat), e = tEnd tx L x → kd = tKd tx L x → (tKd tx L x = 1 → v = pkW 37 (tWd tx L x)) → (tKd tx L x = 2 → v = tNm tx L x) → (tKd tx L x = 3 → v = tx x) → Ok (fX12_cutAll_j265 (j : Int) (e : Int) v (upd2 σ 77 j kd)) (Sum.elim (fun s2 => (∃ j x : Nat, s2.1 = j ∧ s2.2.1 = x ∧ x ≤ L ∧ Rch tx L j ∧ run (fun k => isBl (tx k)) L x = tSt tx L j ∧ (∀ i, i < j → TkJ tx L i s2.2.2) ∧ Cf2 μ2 s2.2.2) ∧ L - s2.2.1.toNat < L - ((x : Nat) : Int).toNat) (fun o => ∃ j : Nat, o.1 = j ∧ Rch tx L j ∧ tSt tx L j = L ∧ (∀ i, i < j → TkJ tx L i o.2) ∧ Cf2 μ2 o.2)) := by
        rintro kd v e rfl hkd v1 v2 v3
        unfold fX12_cutAll_j265
        simp only [lt]
        rw [w32_n (a := j) (by omega), gd_pos (by omega), Int.toNat_natCast, Ok_some]
        refine ⟨⟨j + 1, tEnd tx L x, by push_cast; rfl, rfl, hEb.2, hRn, hnext, fun i hi => ?_, fun y q1 q2 q3 => by dsimp only; rw [upd2_ne q3, upd2_ne q1]; exact hσF y q1 q2 q3⟩, by dsimp only; omega⟩
        dsimp only
        by_cases ei : i = j
        · subst ei
          unfold TkJ
          rw [hxs]
          exact ⟨by rw [upd2_ne (by omega), upd2_at]; exact hkd, by rw [upd2_ne (by omega), upd2_ne (by omega)]; exact hσ8, fun q => by rw [upd2_at]; exact v1 q, fun q => by rw [upd2_at]; exact v2 q, fun q => by rw [upd2_at]; exact v3 q⟩
        · exact (hσT i (by omega)).same (by rw [upd2_ne (by omega), upd2_nj ei]) (by rw [upd2_ne (by omega), upd2_ne (by omega)]) (by rw [upd2_nj ei, upd2_ne (by omega)])
      rw [isLetter_r (by omega), isDigit_r (by omega), isSignOf_r (by omega)]
      by_cases q1 : isLt (tx x) = true
      · rw [if_pos q1, letters_r hσ3 hσx hO hxl q1, Option.bind_some]
        unfold fX12_cutAll_j129
        simp only [lt]
        rw [w32_eq (x := (tEnd tx L x : Int) - (x : Int)) (by omega) (by omega), show w32 8 = 8 from by decide, w32_n (a := j) (by omega), gd_pos (by omega), Int.toNat_natCast]
        by_cases h8 : tEnd tx L x - x ≤ 8
        · have hk : tKd tx L x = 1 := by unfold tKd; rw [if_pos hxl, if_pos q1, if_pos h8]
          rw [if_pos (by omega)]
          refine fin _ _ _ rfl (by rw [hk]; rfl) (fun _ => ?_) (fun q => by omega) (fun q => by omega)
          rw [Nat.min_eq_left h8]; rfl
        · have hk : tKd tx L x = 4 := by unfold tKd; rw [if_pos hxl, if_pos q1, if_neg h8]
          rw [if_neg (by omega)]
          exact fin _ _ _ rfl (by rw [hk]; rfl) (fun q => by omega) (fun q => by omega) (fun q => by omega)
      · rw [if_neg q1]
        by_cases q2 : isFg (tx x) = true
        · rw [if_pos q2, digits_r hσ3 hσx hO hxl (eq_false_of_ne_true q1) q2, Option.bind_some]
          unfold fX12_cutAll_j218
          simp only [lt]
          rw [w32_eq (x := (tEnd tx L x : Int) - (x : Int)) (by omega) (by omega), show w32 4 = 4 from by decide, w32_n (a := j) (by omega), gd_pos (by omega), Int.toNat_natCast]
          by_cases h8 : tEnd tx L x - x ≤ 4
          · have hk : tKd tx L x = 2 := by unfold tKd; rw [if_pos hxl, if_neg q1, if_pos q2, if_pos h8]
            rw [if_pos (by omega)]
            refine fin _ _ _ rfl (by rw [hk]; rfl) (fun q => by omega) (fun _ => ?_) (fun q => by omega)
            rw [Nat.min_eq_left h8]; rfl
          · have hk : tKd tx L x = 4 := by unfold tKd; rw [if_pos hxl, if_neg q1, if_pos q2, if_neg h8]
            rw [if_neg (by omega)]
            exact fin _ _ _ rfl (by rw [hk]; rfl) (fun q => by omega) (fun q => by omega) (fun q => by omega)
        · rw [if_neg q2]
          have hE : tEnd tx L x = x + 1 := by unfold tEnd; rw [if_neg q1, if_neg q2]
          have ex : (x : Int) + 1 = ((tEnd tx L x : Nat) : Int) := by rw [hE]; push_cast; rfl
          rw [gd_pos (by omega), ex]
          by_cases q3 : isSg (tx x) = true
          · have hk : tKd tx L x = 3 := by unfold tKd; rw [if_pos hxl, if_neg q1, if_neg q2, if_pos q3]
            rw [if_pos q3]
            exact fin _ _ _ rfl (by rw [hk]; rfl) (fun q => by omega) (fun q => by omega) (fun _ => rfl)
          · have hk : tKd tx L x = 4 := by unfold tKd; rw [if_pos hxl, if_neg q1, if_neg q2, if_neg q3]
            rw [if_neg q3]
            exact fin _ _ _ rfl (by rw [hk]; rfl) (fun q => by omega) (fun q => by omega) (fun q => by omega)
  · rintro ⟨o1, ρ⟩ ⟨j, e1, hR, hst, hT, hF⟩
    dsimp only at e1 hT hF ⊢
    subst e1
    have hj := hR.b hL
    have hρ3 : ρ 75 3 = L := by rw [hF 75 (by omega) (by omega) (by omega)]; exact hm3
    have hk : tKd tx L (tSt tx L j) = 0 := by unfold tKd; rw [hst, if_neg (by omega)]
    rw [w32_n (a := j) (by omega), gd_pos (by omega), gd_pos (by omega), Int.toNat_natCast, upd2_ne (by omega), hρ3, Ok_some]
    refine ⟨fun i hi => ?_, ?_, ?_, upd2_at, fun x q1 q2 q3 q4 => ?_, fun i i2 i3 i7 i8 => ?_⟩
    · have hij : i ≤ j := by
        by_cases c : i ≤ j
        · exact c
        · have := hi j (by omega)
          omega
      by_cases ei : i = j
      · subst ei
        refine ⟨?_, ?_, fun q => by omega, fun q => by omega, fun q => by omega⟩
        · rw [upd2_ne (by omega), upd2_ne (by omega), upd2_ne (by omega), upd2_at, hk]; rfl
        · rw [upd2_ne (by omega), upd2_ne (by omega), upd2_at, hst]
      · refine (hT i (by omega)).same ?_ ?_ ?_
        · rw [upd2_ne (by omega), upd2_ne (by omega), upd2_ne (by omega), upd2_nj ei]
        · rw [upd2_ne (by omega), upd2_ne (by omega), upd2_nj ei, upd2_ne (by omega)]
        · rw [upd2_ne (by omega), upd2_ne (by omega), upd2_ne (by omega), upd2_ne (by omega)]
    · rw [upd2_nj (by omega), upd2_nj (by omega), upd2_ne (by omega), upd2_ne (by omega), hF 75 (by omega) (by omega) (by omega)]; exact hm2
    · rw [upd2_nj (by omega), upd2_at]
    · rw [upd2_ne q1, upd2_ne q1, upd2_ne q3, upd2_ne q2, hF x q2 q3 q4, hmf x q1]
    · rw [upd2_nj i8, upd2_nj i7, upd2_ne (by omega), upd2_ne (by omega), hF 75 (by omega) (by omega) (by omega), hm5 i i2 i3]
end CUTR
