/-! ===== level 2: the class cuts the text ===== -/
section CUTC
variable {tx : Nat → Nat} {L : Nat} {μ ν : Mem}
/-- the text, and the signs in it -/
def TX (tx : Nat → Nat) (L : Nat) (μ : Mem) : Prop := μ 1 1 = L ∧ (∀ i, i < L → μ 2 i = tx i) ∧ TxO L tx
/-- the class stands at the token that begins at s -/
def At (tx : Nat → Nat) (L s : Nat) (μ : Mem) : Prop := TX tx L μ ∧ μ 1 2 = s ∧ μ 1 3 = ((if s < L then tEnd tx L s else s : Nat) : Int) ∧ (tKd tx L s = 0 → μ 1 4 = 101) ∧ (tKd tx L s = 1 → μ 1 4 = 119 ∧ μ 1 6 = (pkW 32 (tWd tx L s) : Int) ∧ μ 1 7 = ((1000 + idx (tWd tx L s) : Nat) : Int)) ∧ (tKd tx L s = 2 → μ 1 4 = 110 ∧ μ 1 5 = tNm tx L s) ∧ (tKd tx L s = 3 → μ 1 4 = tx s) ∧ (tKd tx L s = 4 → μ 1 4 = 115) ∧ (tKd tx L s ≠ 1 → μ 1 7 = 1000)
def Tf (μ ν : Mem) : Prop := ∀ x, x ≠ 1 → ν x = μ x
theorem Tf.rf : Tf μ μ := fun _ _ => rfl
theorem Tf.tr {a b c : Mem} (h1 : Tf a b) (h2 : Tf b c) : Tf a c := fun x q => (h2 x q).trans (h1 x q)
theorem Tf.put {i : Nat} {v : Int} : Tf μ (upd2 μ 1 i v) := fun _ q => upd2_ne q
theorem TX.put {i : Nat} {v : Int} (h : TX tx L μ) (hi : i ≠ 1) : TX tx L (upd2 μ 1 i v) := ⟨by rw [upd2_nj (by omega)]; exact h.1, fun k hk => by rw [upd2_ne (by omega)]; exact h.2.1 k hk, h.2.2⟩
theorem tx_b {i : Nat} (h : TxO L tx) (hi : i < L) : tx i < 127 ∧ 10 ≤ tx i := by
  have := h.2 i hi
  omega
theorem signAt_ok {i : Nat} (h : TX tx L μ) (hi : i < L) : fX9_signAt (i : Int) μ = tx i := by
  obtain ⟨h1, h2, h3⟩ := h
  have hb := tx_b h3 hi
  have hL := h3.1
  unfold fX9_signAt
  simp only [lt]
  rw [h1, w32_n (a := i) (by omega), w32_n (a := L) (by omega), show w32 1000 = 1000 from by decide, if_neg (by omega), if_pos (show (i : Int) < L by omega), if_pos (by omega), Int.toNat_natCast, h2 i hi]
  omega
theorem isBlank_ok {c : Nat} (h : c < 127) : fX9_isBlank (c : Int) = isBl c := by
  have : ∀ c : Nat, c < 127 → fX9_isBlank (c : Int) = isBl c := by decide +kernel
  exact this c h
theorem isLetter_ok {c : Nat} (h : c < 127) : fX9_isLetter (c : Int) = isLt c := by
  have : ∀ c : Nat, c < 127 → fX9_isLetter (c : Int) = isLt c := by decide +kernel
  exact this c h
theorem isFigure_ok {c : Nat} (h : c < 127) : fX9_isFigure (c : Int) = isFg c := by
  have : ∀ c : Nat, c < 127 → fX9_isFigure (c : Int) = isFg c := by decide +kernel
  exact this c h
theorem isLt_b {c : Nat} (h : isLt c = true) : 97 ≤ c ∧ c ≤ 122 := by
  unfold isLt at h
  rw [Bool.and_eq_true, decide_eq_true_eq, decide_eq_true_eq] at h
  exact h
theorem isFg_b {c : Nat} (h : isFg c = true) : 48 ≤ c ∧ c ≤ 57 := by
  unfold isFg at h
  rw [Bool.and_eq_true, decide_eq_true_eq, decide_eq_true_eq] at h
  exact h
theorem bytec : ∀ c : Nat, c < 127 → w32 (i_2b (c : Int)) = (c : Int) := by decide +kernel
theorem sgn_at : ∀ k : Nat, k < 8 → ∀ c : Nat, c < 127 → (w32 (sgnL.getD k 0) = (c : Int) → isSg c = true) := by decide +kernel
theorem sgn_no : ∀ c : Nat, c < 127 → (∀ k : Nat, k < 8 → w32 (sgnL.getD k 0) ≠ (c : Int)) → isSg c = false := by
  intro c hc h
  have h0 := h 0 (by omega)
  have h1 := h 1 (by omega)
  have h2 := h 2 (by omega)
  have h3 := h 3 (by omega)
  have h4 := h 4 (by omega)
  have h5 := h 5 (by omega)
  have h6 := h 6 (by omega)
  have h7 := h 7 (by omega)
  have e0 : w32 (sgnL.getD 0 0) = 40 := by decide
  have e1 : w32 (sgnL.getD 1 0) = 41 := by decide
  have e2 : w32 (sgnL.getD 2 0) = 60 := by decide
  have e3 : w32 (sgnL.getD 3 0) = 61 := by decide
  have e4 : w32 (sgnL.getD 4 0) = 43 := by decide
  have e5 : w32 (sgnL.getD 5 0) = 45 := by decide
  have e6 : w32 (sgnL.getD 6 0) = 42 := by decide
  have e7 : w32 (sgnL.getD 7 0) = 59 := by decide
  rw [e0] at h0; rw [e1] at h1; rw [e2] at h2; rw [e3] at h3; rw [e4] at h4; rw [e5] at h5; rw [e6] at h6; rw [e7] at h7
  unfold isSg
  rw [decide_eq_false (show ¬ c = 40 by omega), decide_eq_false (show ¬ c = 41 by omega), decide_eq_false (show ¬ c = 59 by omega), decide_eq_false (show ¬ c = 61 by omega), decide_eq_false (show ¬ c = 60 by omega), decide_eq_false (show ¬ c = 43 by omega), decide_eq_false (show ¬ c = 45 by omega), decide_eq_false (show ¬ c = 42 by omega)]
  rfl
theorem index_ok {c : Nat} (h : c < 127) : ∃ v : Int, fJ0_indexOf_0f7a4 (c : Int) μ = some v ∧ (if w32 v < 0 then (115 : Int) else (c : Int)) = if isSg c = true then (c : Int) else 115 := by
  have hloop : Ok (loopN (fun s => fJ1_indexOfChar_4cfef_b7 (c : Int) 0 8 (i_2b (c : Int)) s μ) FU 0) (fun v => (if w32 v < 0 then (115 : Int) else (c : Int)) = if isSg c = true then (c : Int) else 115) := by
    refine loop_FU 8 (fun (i : Nat) (s : Int) => s = (i : Int) ∧ ∀ k : Nat, k < i → w32 (sgnL.getD k 0) ≠ (c : Int)) 0 ⟨rfl, fun k hk => absurd hk (by omega)⟩ (by omega) (by omega) ?_ ?_
    · rintro i s hi ⟨rfl, hk⟩
      unfold fJ1_indexOfChar_4cfef_b7
      rw [w32_n (a := i) (by omega), show w32 8 = 8 from by decide, if_pos (by omega), gd_pos (by omega), Int.toNat_natCast, bytec c h]
      by_cases e : w32 (sgnL.getD i 0) = (c : Int)
      · rw [if_pos e, Ok_some]
        dsimp only [Sum.elim]
        rw [w32_n (a := i) (by omega), if_neg (by omega), if_pos (sgn_at i hi c h e)]
      · rw [if_neg e, Ok_some]
        refine ⟨by push_cast; rfl, fun k hk2 => ?_⟩
        by_cases e2 : k = i
        · rw [e2]; exact e
        · exact hk k (by omega)
    · rintro s ⟨rfl, hk⟩
      unfold fJ1_indexOfChar_4cfef_b7
      rw [show w32 ((8 : Nat) : Int) = 8 from by decide, show w32 8 = 8 from by decide, if_neg (by omega), Ok_some]
      dsimp only [Sum.elim]
      rw [sgn_no c h hk, w32_m1, if_pos (by omega), if_neg (by decide)]
  obtain ⟨v, hv, hq⟩ := hloop
  refine ⟨v, ?_, hq⟩
  unfold fJ0_indexOf_0f7a4 fJ0_indexOf_7cf53 fJ1_indexOf_4cfef fJ1_indexOfChar_4cfef
  have e1 : fJ0_isLatin1_aae02 μ = true := rfl
  have e2 : i_shr 8 (fJ0_coder_7d493 μ) = 8 := by
    show i_shr 8 (if w32 1 = 0 then 1 else 0) = 8
    decide
  have e3 : fJ1_canEncode_9a6ad (c : Int) = true := by
    unfold fJ1_canEncode_9a6ad
    simp only [lt]
    rw [w32_n (by omega), show w32 255 = 255 from by decide, if_neg (by omega), if_pos (by omega)]
  have e4 : imax 0 0 = 0 := by decide
  have e5 : imin 8 8 = 8 := by decide
  simp only [lt]
  rw [if_pos e1, e2, if_pos e3, e4, e5, if_pos (by decide), hv]
  rfl
theorem of_ok {l : List Nat} (h : WdO l) : fX10_of (pkW 32 l : Int) μ = some (1000 + idx l) := by
  have hb := (pkW_b h).1
  have hix := idx_lt (l := l)
  apply Ok_val
  unfold fX10_of
  refine loop_FU 19 (fun (i : Nat) (s : Int) => s = (i : Int) ∧ ∀ k : Nat, 1 ≤ k → k < i → idx l ≠ k) 0 ⟨rfl, fun k _ hk => absurd hk (by omega)⟩ (by omega) (by omega) ?_ ?_
  · rintro i s hi ⟨rfl, hk⟩
    have hkb : pkW 32 (kwC.getD i []) < 1099511627776 := by
      by_cases e : i = 0
      · rw [e]; decide
      · exact (pkW_b (kw_o i hi (by omega))).1
    unfold fX10_of_b2
    simp only [lt]
    rw [w32_n (a := i) (by omega), show w32 19 = 19 from by decide, if_pos (by omega), gd_pos (by omega), gd_pos (by omega), Int.toNat_natCast, Nat.add_sub_cancel_left, kw_let i hi, w64_eq (by omega) (by omega), w64_eq (by omega) (by omega)]
    by_cases e : pkW 32 (kwC.getD i []) = pkW 32 l
    · have hl : kwC.getD i [] = l := by
        refine pkW_inj (by omega) _ _ ?_ h.2.2 e
        by_cases e0 : i = 0
        · rw [e0]; intro d hd; cases hd
        · exact (kw_o i hi (by omega)).2.2
      rw [if_pos (by omega), Ok_some]
      dsimp only [Sum.elim]
      rw [← hl, idx_kw i hi]
    · rw [if_neg (by omega), Ok_some]
      refine ⟨by push_cast; rfl, fun k k1 k2 => ?_⟩
      by_cases e2 : k = i
      · subst e2
        intro h2
        exact e (by rw [← (idx_is hi k1).mp h2])
      · exact hk k k1 (by omega)
  · rintro s ⟨rfl, hk⟩
    unfold fX10_of_b2
    rw [show w32 ((19 : Nat) : Int) = 19 from by decide, show w32 19 = 19 from by decide, if_neg (by omega), Ok_some]
    dsimp only [Sum.elim]
    by_cases e : idx l = 0
    · rw [e]
    · exact absurd rfl (hk (idx l) (by omega) hix)
theorem readWord_ok {s : Nat} (h : TX tx L μ) (hs : s < L) (hl : isLt (tx s) = true) (h2 : μ 1 2 = s) (h3 : μ 1 3 = s) : Ok (fX9_readWord μ) (fun ν => At tx L s ν ∧ Tf μ ν) := by
  have hL := h.2.2.1
  have htE : tEnd tx L s = run (fun k => isLt (tx k)) L s := by unfold tEnd; rw [if_pos hl]
  have hEb := tEnd_b (tx := tx) hs
  unfold fX9_readWord
  simp only [lt]
  refine Ok.then (loop_I (Q := fun ν : Mem => TX tx L ν ∧ Tf μ ν ∧ ν 1 2 = s ∧ ν 1 3 = tEnd tx L s ∧ ν 1 6 = (pkW 32 (wlr tx s (tEnd tx L s - s)) : Int)) _ (fun ν : Mem => L - (ν 1 3).toNat) (fun ν : Mem => TX tx L ν ∧ Tf μ ν ∧ ν 1 2 = s ∧ ∃ x : Nat, ν 1 3 = x ∧ s ≤ x ∧ x ≤ L ∧ run (fun k => isLt (tx k)) L x = tEnd tx L s ∧ ν 1 6 = (pkW 32 (wlr tx s (x - s)) : Int)) ⟨h.put (by omega), .put, by rw [upd2_nj (by omega)]; exact h2, s, by rw [upd2_nj (by omega)]; exact h3, Nat.le_refl _, by omega, htE.symm, by rw [upd2_at, Nat.sub_self]; rfl⟩ (by show L - _ < _; omega) ?_) ?_
  · rintro ρ ⟨hT, hF, hρ2, x, hx, hsx, hxL, hrun, h6⟩
    unfold fX9_readWord_b5
    simp only [lt]
    rw [hx, hT.1, w32_n (a := x) (by omega), w32_n (a := L) (by omega)]
    by_cases hxl : x < L
    · have hb := tx_b h.2.2 hxl
      rw [if_pos (by omega), signAt_ok hT hxl, isLetter_ok (by omega)]
      by_cases hq : isLt (tx x) = true
      · have hqb := isLt_b hq
        rw [if_pos hq, Ok_some]
        have hE : ∀ ν : Mem, upd2 (upd2 ρ 1 6 (fX10_withLetter (ρ 1 6) (tx x : Int))) 1 3 (upd2 ρ 1 6 (fX10_withLetter (ρ 1 6) (tx x : Int)) 1 3 + 1) = ν → (TX tx L ν ∧ Tf μ ν ∧ ν 1 2 = s ∧ ∃ x : Nat, ν 1 3 = x ∧ s ≤ x ∧ x ≤ L ∧ run (fun k => isLt (tx k)) L x = tEnd tx L s ∧ ν 1 6 = (pkW 32 (wlr tx s (x - s)) : Int)) ∧ L - (ν 1 3).toNat < L - ((x : Nat) : Int).toNat := by
          rintro ν rfl
          have e3 : upd2 (upd2 ρ 1 6 (fX10_withLetter (ρ 1 6) (tx x : Int))) 1 3 (upd2 ρ 1 6 (fX10_withLetter (ρ 1 6) (tx x : Int)) 1 3 + 1) 1 3 = ((x + 1 : Nat) : Int) := by
            rw [upd2_at, upd2_nj (by omega), hx]; push_cast; rfl
          refine ⟨⟨(hT.put (by omega)).put (by omega), hF.tr (Tf.tr .put .put), by rw [upd2_nj (by omega), upd2_nj (by omega)]; exact hρ2, x + 1, e3, by omega, by omega, by rw [← hrun, run_step hxl hq], ?_⟩, ?_⟩
          · have hsub : x + 1 - s = (x - s) + 1 := by omega
            have hsx2 : s + (x - s) = x := by omega
            rw [upd2_nj (by omega), upd2_at, h6, hsub, wlr, hsx2]
            unfold fX10_withLetter
            rw [w32_eq (by omega) (by omega), pkW]
            push_cast
            omega
          · rw [e3]; omega
        exact hE _ rfl
      · rw [if_neg hq, Ok_some]
        have hstop : x = tEnd tx L s := by rw [← hrun]; exact (run_stop (q := fun k => isLt (tx k)) (fun c => hq c.2)).symm
        exact ⟨hT, hF, hρ2, by rw [hx, hstop], by rw [h6, hstop]⟩
    · rw [if_neg (by omega), Ok_some]
      have hstop : x = tEnd tx L s := by rw [← hrun]; exact (run_stop (q := fun k => isLt (tx k)) (fun c => hxl c.1)).symm
      exact ⟨hT, hF, hρ2, by rw [hx, hstop], by rw [h6, hstop]⟩
  · rintro ρ ⟨hT, hF, hρ2, hρ3, hρ6⟩
    unfold fX9_readWord_j62
    simp only [lt]
    have ed : w32 ((tEnd tx L s : Int) - (s : Int)) = ((tEnd tx L s - s : Nat) : Int) := by rw [w32_eq (by omega) (by omega)]; omega
    rw [hρ2, hρ3, ed, show w32 8 = 8 from by decide]
    by_cases h8 : tEnd tx L s - s ≤ 8
    · have hk : tKd tx L s = 1 := by unfold tKd; rw [if_pos hs, if_pos hl, if_pos h8]
      have hwd := tWd_o hk
      rw [if_pos (show ((tEnd tx L s - s : Nat) : Int) ≤ 8 by omega), if_neg (show ¬ false = true by decide), if_neg (show ¬ false = true by decide), upd2_nj (by omega), hρ6]
      have hof := of_ok (μ := upd2 ρ 1 4 119) hwd
      unfold tWd at hof
      rw [hof, Option.bind_some, Ok_some]
      refine ⟨⟨(hT.put (by omega)).put (by omega), by rw [upd2_nj (by omega), upd2_nj (by omega)]; exact hρ2, by rw [upd2_nj (by omega), upd2_nj (by omega), hρ3, if_pos hs], fun q => by omega, fun _ => ⟨by rw [upd2_nj (by omega), upd2_at], by rw [upd2_nj (by omega), upd2_nj (by omega), hρ6]; rfl, by rw [upd2_at]; rfl⟩, fun q => by omega, fun q => by omega, fun q => by omega, fun q => absurd hk q⟩, hF.tr (Tf.tr .put .put)⟩
    · have hk : tKd tx L s = 4 := by unfold tKd; rw [if_pos hs, if_pos hl, if_neg h8]
      rw [if_neg (show ¬ ((tEnd tx L s - s : Nat) : Int) ≤ 8 by omega), if_pos (show true = true from rfl), if_pos (show true = true from rfl), Ok_some]
      exact ⟨⟨(hT.put (by omega)).put (by omega), by rw [upd2_nj (by omega), upd2_nj (by omega)]; exact hρ2, by rw [upd2_nj (by omega), upd2_nj (by omega), hρ3, if_pos hs], fun q => by omega, fun q => by omega, fun q => by omega, fun q => by omega, fun _ => by rw [upd2_nj (by omega), upd2_at], fun _ => upd2_at⟩, hF.tr (Tf.tr .put .put)⟩
theorem readNumber_ok {s : Nat} (h : TX tx L μ) (hs : s < L) (hnl : isLt (tx s) = false) (hl : isFg (tx s) = true) (h2 : μ 1 2 = s) (h3 : μ 1 3 = s) (h7 : μ 1 7 = 1000) : Ok (fX9_readNumber μ) (fun ν => At tx L s ν ∧ Tf μ ν) := by
  have hL := h.2.2.1
  have htE : tEnd tx L s = run (fun k => isFg (tx k)) L s := by unfold tEnd; rw [if_neg (by rw [hnl]; decide), if_pos hl]
  have hEb := tEnd_b (tx := tx) hs
  unfold fX9_readNumber
  simp only [lt]
  refine Ok.then (loop_I (Q := fun ν : Mem => TX tx L ν ∧ Tf μ ν ∧ ν 1 2 = s ∧ ν 1 3 = tEnd tx L s ∧ ν 1 7 = 1000 ∧ ν 1 5 = (nmr tx s (tEnd tx L s - s) : Int)) _ (fun ν : Mem => L - (ν 1 3).toNat) (fun ν : Mem => TX tx L ν ∧ Tf μ ν ∧ ν 1 2 = s ∧ ν 1 7 = 1000 ∧ ∃ x : Nat, ν 1 3 = x ∧ s ≤ x ∧ x ≤ L ∧ run (fun k => isFg (tx k)) L x = tEnd tx L s ∧ ν 1 5 = (nmr tx s (x - s) : Int)) ⟨h.put (by omega), .put, by rw [upd2_nj (by omega)]; exact h2, by rw [upd2_nj (by omega)]; exact h7, s, by rw [upd2_nj (by omega)]; exact h3, Nat.le_refl _, by omega, htE.symm, by rw [upd2_at, Nat.sub_self]; rfl⟩ (by show L - _ < _; omega) ?_) ?_
  · rintro ρ ⟨hT, hF, hρ2, hρ7, x, hx, hsx, hxL, hrun, h6⟩
    unfold fX9_readNumber_b5
    simp only [lt]
    rw [hx, hT.1, w32_n (a := x) (by omega), w32_n (a := L) (by omega)]
    by_cases hxl : x < L
    · have hb := tx_b h.2.2 hxl
      rw [if_pos (by omega), signAt_ok hT hxl, isFigure_ok (by omega)]
      by_cases hq : isFg (tx x) = true
      · have hqb := isFg_b hq
        rw [if_pos hq, Ok_some]
        have hE : ∀ ν : Mem, upd2 (upd2 ρ 1 5 (ρ 1 5 * 10 + ((tx x : Int) - 48))) 1 3 (upd2 ρ 1 5 (ρ 1 5 * 10 + ((tx x : Int) - 48)) 1 3 + 1) = ν → (TX tx L ν ∧ Tf μ ν ∧ ν 1 2 = s ∧ ν 1 7 = 1000 ∧ ∃ x : Nat, ν 1 3 = x ∧ s ≤ x ∧ x ≤ L ∧ run (fun k => isFg (tx k)) L x = tEnd tx L s ∧ ν 1 5 = (nmr tx s (x - s) : Int)) ∧ L - (ν 1 3).toNat < L - ((x : Nat) : Int).toNat := by
          rintro ν rfl
          have e3 : upd2 (upd2 ρ 1 5 (ρ 1 5 * 10 + ((tx x : Int) - 48))) 1 3 (upd2 ρ 1 5 (ρ 1 5 * 10 + ((tx x : Int) - 48)) 1 3 + 1) 1 3 = ((x + 1 : Nat) : Int) := by
            rw [upd2_at, upd2_nj (by omega), hx]; push_cast; rfl
          refine ⟨⟨(hT.put (by omega)).put (by omega), hF.tr (Tf.tr .put .put), by rw [upd2_nj (by omega), upd2_nj (by omega)]; exact hρ2, by rw [upd2_nj (by omega), upd2_nj (by omega)]; exact hρ7, x + 1, e3, by omega, by omega, by rw [← hrun, run_step hxl hq], ?_⟩, ?_⟩
          · have hsub : x + 1 - s = (x - s) + 1 := by omega
            have hsx2 : s + (x - s) = x := by omega
            rw [upd2_nj (by omega), upd2_at, h6, hsub, nmr, hsx2]
            push_cast
            omega
          · rw [e3]; omega
        exact hE _ rfl
      · rw [if_neg hq, Ok_some]
        have hstop : x = tEnd tx L s := by rw [← hrun]; exact (run_stop (q := fun k => isFg (tx k)) (fun c => hq c.2)).symm
        exact ⟨hT, hF, hρ2, by rw [hx, hstop], hρ7, by rw [h6, hstop]⟩
    · rw [if_neg (by omega), Ok_some]
      have hstop : x = tEnd tx L s := by rw [← hrun]; exact (run_stop (q := fun k => isFg (tx k)) (fun c => hxl c.1)).symm
      exact ⟨hT, hF, hρ2, by rw [hx, hstop], hρ7, by rw [h6, hstop]⟩
  · rintro ρ ⟨hT, hF, hρ2, hρ3, hρ7, hρ6⟩
    unfold fX9_readNumber_j66
    simp only [lt]
    have ed : w32 ((tEnd tx L s : Int) - (s : Int)) = ((tEnd tx L s - s : Nat) : Int) := by rw [w32_eq (by omega) (by omega)]; omega
    rw [hρ2, hρ3, ed, show w32 4 = 4 from by decide, Ok_some]
    have hne : ¬ isLt (tx s) = true := by rw [hnl]; decide
    by_cases h8 : tEnd tx L s - s ≤ 4
    · have hk : tKd tx L s = 2 := by unfold tKd; rw [if_pos hs, if_neg hne, if_pos hl, if_pos h8]
      rw [if_pos (by omega)]
      exact ⟨⟨hT.put (by omega), by rw [upd2_nj (by omega)]; exact hρ2, by rw [upd2_nj (by omega), hρ3, if_pos hs], fun q => by omega, fun q => by omega, fun _ => ⟨upd2_at, by rw [upd2_nj (by omega), hρ6]; rfl⟩, fun q => by omega, fun q => by omega, fun _ => by rw [upd2_nj (by omega)]; exact hρ7⟩, hF.tr .put⟩
    · have hk : tKd tx L s = 4 := by unfold tKd; rw [if_pos hs, if_neg hne, if_pos hl, if_neg h8]
      rw [if_neg (by omega)]
      exact ⟨⟨hT.put (by omega), by rw [upd2_nj (by omega)]; exact hρ2, by rw [upd2_nj (by omega), hρ3, if_pos hs], fun q => by omega, fun q => by omega, fun q => by omega, fun q => by omega, fun _ => upd2_at, fun _ => by rw [upd2_nj (by omega)]; exact hρ7⟩, hF.tr .put⟩
theorem step_at {i : Nat} (h : TX tx L μ) (hi : i ≤ L) (h3 : μ 1 3 = i) : Ok (fX9_step μ) (fun ν => At tx L (skp tx L i) ν ∧ Tf μ ν) := by
  have hL := h.2.2.1
  have hsL : skp tx L i ≤ L := run_le hi
  unfold fX9_step
  simp only [lt]
  rw [h3]
  refine Ok.then (loop_I (Q := fun ν : Mem => TX tx L ν ∧ Tf μ ν ∧ ν 1 2 = skp tx L i) _ (fun ν : Mem => L - (ν 1 2).toNat) (fun ν : Mem => TX tx L ν ∧ Tf μ ν ∧ ∃ x : Nat, ν 1 2 = x ∧ x ≤ L ∧ run (fun k => isBl (tx k)) L x = skp tx L i) ⟨h.put (by omega), .put, i, upd2_at, hi, rfl⟩ (by show L - _ < _; omega) ?_) ?_
  · rintro ρ ⟨hT, hF, x, hx, hxL, hrun⟩
    unfold fX9_step_b8
    simp only [lt]
    rw [hx, hT.1, w32_n (a := x) (by omega), w32_n (a := L) (by omega)]
    by_cases hxl : x < L
    · have hb := tx_b h.2.2 hxl
      rw [if_pos (by omega), signAt_ok hT hxl, isBlank_ok (by omega)]
      by_cases hq : isBl (tx x) = true
      · rw [if_pos hq, Ok_some]
        refine ⟨⟨hT.put (by omega), hF.tr .put, x + 1, by rw [upd2_at]; push_cast; rfl, by omega, by rw [← hrun, run_step hxl hq]⟩, ?_⟩
        rw [upd2_at]; omega
      · rw [if_neg hq, Ok_some]
        have hstop : x = skp tx L i := by rw [← hrun]; exact (run_stop (q := fun k => isBl (tx k)) (fun c => hq c.2)).symm
        exact ⟨hT, hF, by rw [hx, hstop]⟩
    · rw [if_neg (by omega), Ok_some]
      have hstop : x = skp tx L i := by rw [← hrun]; exact (run_stop (q := fun k => isBl (tx k)) (fun c => hxl c.1)).symm
      exact ⟨hT, hF, by rw [hx, hstop]⟩
  · rintro ρ ⟨hT, hF, hρ2⟩
    generalize hs : skp tx L i = s at hρ2 hsL ⊢
    unfold fX9_step_j46
    simp only [lt]
    have hT8 : TX tx L (upd2 (upd2 ρ 1 3 (ρ 1 2)) 1 7 1000) := (hT.put (by omega)).put (by omega)
    have hF8 : Tf μ (upd2 (upd2 ρ 1 3 (ρ 1 2)) 1 7 1000) := hF.tr (Tf.tr .put .put)
    have h82 : upd2 (upd2 ρ 1 3 (ρ 1 2)) 1 7 1000 1 2 = s := by rw [upd2_nj (by omega), upd2_nj (by omega)]; exact hρ2
    have h83 : upd2 (upd2 ρ 1 3 (ρ 1 2)) 1 7 1000 1 3 = s := by rw [upd2_nj (by omega), upd2_at]; exact hρ2
    have h87 : upd2 (upd2 ρ 1 3 (ρ 1 2)) 1 7 1000 1 7 = 1000 := upd2_at
    generalize upd2 (upd2 ρ 1 3 (ρ 1 2)) 1 7 1000 = μ8 at hT8 hF8 h82 h83 h87 ⊢
    rw [h82, hT8.1, w32_n (a := s) (by omega), w32_n (a := L) (by omega)]
    by_cases hsl : s < L
    · have hb := tx_b h.2.2 hsl
      rw [if_pos (by omega), signAt_ok hT8 hsl, isLetter_ok (by omega), isFigure_ok (by omega)]
      by_cases q1 : isLt (tx s) = true
      · rw [if_pos q1]
        refine Ok.then (readWord_ok hT8 hsl q1 h82 h83) ?_
        rintro ν ⟨g1, g2⟩
        rw [Ok_some]
        exact ⟨g1, hF8.tr g2⟩
      · rw [if_neg q1]
        by_cases q2 : isFg (tx s) = true
        · rw [if_pos q2]
          refine Ok.then (readNumber_ok hT8 hsl (eq_false_of_ne_true q1) q2 h82 h83 h87) ?_
          rintro ν ⟨g1, g2⟩
          rw [Ok_some]
          exact ⟨g1, hF8.tr g2⟩
        · rw [if_neg q2]
          obtain ⟨v, v1, v2⟩ := index_ok (μ := μ8) (c := tx s) (by omega)
          have hE : tEnd tx L s = s + 1 := by unfold tEnd; rw [if_neg q1, if_neg q2]
          rw [v1, Option.bind_some, v2, Ok_some]
          have e3 : ∀ v : Int, upd2 (upd2 μ8 1 4 v) 1 3 (upd2 μ8 1 4 v 1 2 + 1) 1 3 = ((s + 1 : Nat) : Int) := fun v => by
            rw [upd2_at, upd2_nj (by omega), h82]; push_cast; rfl
          by_cases q3 : isSg (tx s) = true
          · have hk : tKd tx L s = 3 := by unfold tKd; rw [if_pos hsl, if_neg q1, if_neg q2, if_pos q3]
            rw [if_pos q3]
            exact ⟨⟨(hT8.put (by omega)).put (by omega), by rw [upd2_nj (by omega), upd2_nj (by omega)]; exact h82, by rw [e3, if_pos hsl, hE], fun q => by omega, fun q => by omega, fun q => by omega, fun _ => by rw [upd2_nj (by omega), upd2_at], fun q => by omega, fun _ => by rw [upd2_nj (by omega), upd2_nj (by omega)]; exact h87⟩, hF8.tr (Tf.tr .put .put)⟩
          · have hk : tKd tx L s = 4 := by unfold tKd; rw [if_pos hsl, if_neg q1, if_neg q2, if_neg q3]
            rw [if_neg q3]
            exact ⟨⟨(hT8.put (by omega)).put (by omega), by rw [upd2_nj (by omega), upd2_nj (by omega)]; exact h82, by rw [e3, if_pos hsl, hE], fun q => by omega, fun q => by omega, fun q => by omega, fun q => by omega, fun _ => by rw [upd2_nj (by omega), upd2_at], fun _ => by rw [upd2_nj (by omega), upd2_nj (by omega)]; exact h87⟩, hF8.tr (Tf.tr .put .put)⟩
    · have hk : tKd tx L s = 0 := by unfold tKd; rw [if_neg hsl]
      rw [if_neg (by omega), Ok_some]
      exact ⟨⟨hT8.put (by omega), by rw [upd2_nj (by omega)]; exact h82, by rw [upd2_nj (by omega), h83, if_neg hsl], fun _ => upd2_at, fun q => by omega, fun q => by omega, fun q => by omega, fun q => by omega, fun _ => by rw [upd2_nj (by omega)]; exact h87⟩, hF8.tr .put⟩
/-- the class stands at token j -/
def Cur (tx : Nat → Nat) (L j : Nat) (μ : Mem) : Prop := At tx L (tSt tx L j) μ
theorem step_ok {j : Nat} (h : Cur tx L j μ) (hj : tSt tx L j < L) : Ok (fX9_step μ) (fun ν => Cur tx L (j + 1) ν ∧ Tf μ ν) := by
  have h3 := h.2.2.1
  rw [if_pos hj] at h3
  have := step_at h.1 (tEnd_b hj).2 h3
  rw [← tSt_next hj] at this
  exact this
theorem rewind_ok (h : TX tx L μ) : Ok (fX9_rewind μ) (fun ν => Cur tx L 0 ν ∧ Tf μ ν) := by
  unfold fX9_rewind
  simp only [lt]
  refine Ok.then (step_at (i := 0) (h.put (by omega)) (Nat.zero_le _) upd2_at) ?_
  rintro ν ⟨g1, g2⟩
  rw [Ok_some]
  exact ⟨g1, Tf.tr .put g2⟩
end CUTC
