/-! ===== level 2: the class reads a wish ===== -/
section CWISH
variable {tx : Nat → Nat} {L n g : Nat} {nm : Nat → List Nat} {μ ν : Mem}
/-- where the reader stands: token, how many cakes, which, told ones as bits, those up as bits -/
abbrev WSt : Type := Nat × Nat × (Nat → Nat) × Nat × Nat
def aWish1 (tx : Nat → Nat) (L n : Nat) (nm : Nat → List Nat) (s : WSt) : WSt ⊕ Nat :=
  if ¬ isNm tx L s.1 = true then .inr (er tx L 1 s.1)
  else if lstW (fun k => decide (nm k = tW tx L s.1)) n < 0 then .inr (er tx L 2 s.1)
  else if s.2.2.2.1.testBit (lstW (fun k => decide (nm k = tW tx L s.1)) n).toNat = true then .inr (er tx L 3 s.1)
  else if ¬ (wI tx L (s.1 + 1) = 6 ∨ wI tx L (s.1 + 1) = 7) then .inr (er tx L 1 (s.1 + 1))
  else .inl (s.1 + 2, s.2.1 + 1, (fun m => if m = s.2.1 then (lstW (fun k => decide (nm k = tW tx L s.1)) n).toNat else s.2.2.1 m), s.2.2.2.1 ||| 2 ^ (lstW (fun k => decide (nm k = tW tx L s.1)) n).toNat, if wI tx L (s.1 + 1) = 7 then s.2.2.2.2 ||| 2 ^ (lstW (fun k => decide (nm k = tW tx L s.1)) n).toNat else s.2.2.2.2)
def aWsL (tx : Nat → Nat) (L n : Nat) (nm : Nat → List Nat) : Nat → WSt → WSt ⊕ Nat
  | 0, s => .inl s
  | f + 1, s => match aWish1 tx L n nm s with
    | .inl t => aWsL tx L n nm f t
    | .inr e => .inr e
def aWish (tx : Nat → Nat) (L n : Nat) (nm : Nat → List Nat) : WSt ⊕ Nat := match aWsL tx L n nm n (0, 0, fun _ => 0, 0, 0) with
  | .inr e => .inr e
  | .inl s => if tK tx L s.1 = 0 then .inl s else .inr (er tx L 1 s.1)
/-- what is so of what was read -/
def WO (n : Nat) (s : WSt) : Prop := s.2.1 ≤ n ∧ s.2.2.2.1 < 64 ∧ s.2.2.2.2 < 64 ∧ (∀ m, m < s.2.1 → s.2.2.1 m < n ∧ s.2.2.2.1.testBit (s.2.2.1 m) = true) ∧ (∀ a b, a < s.2.1 → b < s.2.1 → s.2.2.1 a = s.2.2.1 b → a = b) ∧ ∀ k, s.2.2.2.2.testBit k = true → s.2.2.2.1.testBit k = true
theorem or_lt64 {a k : Nat} (ha : a < 64) (hk : k < 5) : a ||| 2 ^ k < 64 := by
  have h2 := two_pow_5 (a := k) (by omega)
  exact Nat.or_lt_two_pow (n := 6) ha (by show 2 ^ k < 64; omega)
theorem or_bit {a k m : Nat} : (a ||| 2 ^ k).testBit m = (a.testBit m || decide (k = m)) := by
  rw [Nat.testBit_or, Nat.testBit_two_pow]
theorem aWish1_o {s t : WSt} (hn : n < 6) (hi : s.2.1 < n) (h : WO n s) (ht : aWish1 tx L n nm s = .inl t) : WO n t ∧ t.2.1 = s.2.1 + 1 := by
  obtain ⟨h1, h2, h3, h4, h5, h6⟩ := h
  unfold aWish1 at ht
  repeat (split at ht; · cases ht)
  rename_i q1 q2 q3 q4
  have hk : (lstW (fun k => decide (nm k = tW tx L s.1)) n).toNat < n := by
    rcases lstW_neg (p := fun k => decide (nm k = tW tx L s.1)) n with ⟨e, -⟩ | ⟨i, e1, e2, -⟩
    · rw [e] at q2; exact absurd (by decide) q2
    · rw [e2, Int.toNat_natCast]; exact e1
  cases ht
  generalize (lstW (fun k => decide (nm k = tW tx L s.1)) n).toNat = k at q3 hk
  refine ⟨⟨hi, or_lt64 h2 (by omega), ?_, fun m hm => ?_, fun a b ha hb e => ?_, fun m hm => ?_⟩, rfl⟩
  · dsimp only
    split
    · exact or_lt64 h3 (by omega)
    · exact h3
  · have hm' : m < s.2.1 + 1 := hm
    dsimp only
    rw [or_bit]
    by_cases e : m = s.2.1
    · rw [if_pos e]; exact ⟨hk, by rw [decide_eq_true rfl, Bool.or_true]⟩
    · rw [if_neg e]
      obtain ⟨a1, a2⟩ := h4 m (by omega)
      exact ⟨a1, by rw [a2, Bool.true_or]⟩
  · have ha' : a < s.2.1 + 1 := ha
    have hb' : b < s.2.1 + 1 := hb
    dsimp only at e
    by_cases c : a = s.2.1
    · by_cases c2 : b = s.2.1
      · omega
      · rw [if_pos c, if_neg c2] at e
        exact absurd (by rw [e]; exact (h4 b (by omega)).2) q3
    · by_cases c2 : b = s.2.1
      · rw [if_neg c, if_pos c2] at e
        exact absurd (by rw [← e]; exact (h4 a (by omega)).2) q3
      · rw [if_neg c, if_neg c2] at e
        exact h5 a b (by omega) (by omega) e
  · dsimp only at hm ⊢
    rw [or_bit]
    split at hm
    · rw [or_bit, Bool.or_eq_true] at hm
      rcases hm with hm | hm
      · rw [h6 m hm, Bool.true_or]
      · rw [hm, Bool.or_true]
    · rw [h6 m hm, Bool.true_or]
/-- the class has read s -/
def CWs (tx : Nat → Nat) (L n : Nat) (s : WSt) (μ : Mem) : Prop := CT tx L s.1 μ ∧ μ 3 3 = s.2.1 ∧ (∀ i, i < s.2.1 → μ 4 i = s.2.2.1 i) ∧ μ 3 4 = s.2.2.2.2 ∧ WO n s
theorem bit_t {V k : Nat} (hV : V < 64) (hk : k < 5) : (w32 (i_and (i_shr (V : Int) (k : Int)) 1) = w32 1) ↔ V.testBit k = true := by
  rw [bit_n (by omega) (by omega), w32_n (by omega), w32_1, Nat.testBit_eq_decide_div_mod_eq, decide_eq_true_eq]
  omega
theorem sen_w : ∀ i, i < 19 → i = 6 ∨ i = 7 → wsen.getD i 0 = (if i = 7 then 1 else 0 : Int) := by decide
theorem shl_0 : ∀ k : Nat, k < 5 → i_shl 0 (k : Int) = 0 := by decide
theorem cwished_ok {s : WSt} (hn : n < 6) (hgo : gOk g) (hg0 : μ g 0 = n) (hgr : ∀ i, i < n → μ (g + 1) i = (pkW 32 (nm i) : Int)) (hNm : NmO n nm) (h : CWs tx L n s μ) (hi : s.2.1 < n) : Ok (fX6_readWished g (s.2.2.2.1 : Int) μ) (fun o => Fp μ o.2 ∧ match aWish1 tx L n nm s with
    | .inl t => i_or (s.2.2.2.1 : Int) o.1 = (t.2.2.2.1 : Int) ∧ CWs tx L n t o.2
    | .inr e => CEr tx L e o.2 ∧ e ≠ 0 ∧ e < 20000) := by
  obtain ⟨h1, h3, h4, hU, hO⟩ := id h
  have hL := h1.1.1.2.2.1
  have hoo : ∀ t, aWish1 tx L n nm s = .inl t → WO n t := fun t ht => (aWish1_o hn hi hO ht).1
  unfold fX6_readWished
  simp only [lt]
  rw [isName_v h1.1, Option.bind_some]
  unfold aWish1 at hoo ⊢
  by_cases c1 : isNm tx L s.1 = true
  rotate_left
  · rw [if_neg c1, if_pos c1, Ok_some]
    obtain ⟨w1, w2, w3, w4⟩ := twrong_ok (w := 1) h1 (by omega)
    exact ⟨w4.fp, w2, w3⟩
  obtain ⟨n1, n2, n3⟩ := h1.1.name c1
  rw [if_neg (show ¬ ¬ isNm tx L s.1 = true from fun q => q c1)] at hoo ⊢
  rw [if_pos c1, n3]
  refine Ok.then (find_c (n := n) (by omega) hg0 hgr hNm.1 n2) ?_
  rintro v hv
  rw [w32_m1]
  rcases hv with ⟨rfl, hno⟩ | ⟨k, hk, rfl, hyes⟩
  · have hl : lstW (fun k => decide (nm k = tW tx L s.1)) n = -1 := by
      rcases lstW_neg (p := fun k => decide (nm k = tW tx L s.1)) n with ⟨e, -⟩ | ⟨i, e1, -, e3⟩
      · exact e
      · exact absurd (of_decide_eq_true e3) (hno i e1)
    rw [w32_m1, if_pos rfl, hl, if_pos (by decide), Ok_some]
    obtain ⟨w1, w2, w3, w4⟩ := twrong_ok (w := 2) h1 (by omega)
    exact ⟨w4.fp, w2, w3⟩
  have hl : lstW (fun k => decide (nm k = tW tx L s.1)) n = (k : Int) := by
    rcases lstW_neg (p := fun k => decide (nm k = tW tx L s.1)) n with ⟨-, e⟩ | ⟨i, e1, e2, e3⟩
    · exact absurd (e k hk) (by rw [decide_eq_true hyes]; decide)
    · rw [e2, hNm.2 i k e1 hk ((of_decide_eq_true e3).trans hyes.symm)]
  rw [hl, Int.toNat_natCast] at hoo ⊢
  rw [w32_n (a := k) (by omega), if_neg (show ¬ (k : Int) = -1 by omega)]
  rw [if_neg (show ¬ (k : Int) < 0 by omega)] at hoo ⊢
  by_cases c3 : s.2.2.2.1.testBit k = true
  · rw [if_pos ((bit_t hO.2.1 (by omega)).mpr c3), if_pos c3, Ok_some]
    obtain ⟨w1, w2, w3, w4⟩ := twrong_ok (w := 3) h1 (by omega)
    exact ⟨w4.fp, w2, w3⟩
  rw [if_neg (fun q => c3 ((bit_t hO.2.1 (by omega)).mp q))]
  rw [if_neg c3] at hoo ⊢
  refine Ok.then (tstep_ok h1 n1) ?_
  rintro μ6 ⟨g1, g2⟩
  have hw := wI_lt (tx := tx) (L := L) (j := s.1 + 1)
  rw [word_v g1.1, Option.bind_some, lie_v _ hw]
  by_cases c4 : wI tx L (s.1 + 1) = 6 ∨ wI tx L (s.1 + 1) = 7
  rotate_left
  · rw [if_neg (by rw [decide_eq_false c4]; decide), if_pos c4, Ok_some]
    obtain ⟨w1, w2, w3, w4⟩ := twrong_ok (w := 1) g1 (by omega)
    exact ⟨(g2.tr w4).fp, w2, w3⟩
  rw [if_neg (show ¬ ¬ (wI tx L (s.1 + 1) = 6 ∨ wI tx L (s.1 + 1) = 7) from fun q => q c4)] at hoo ⊢
  rw [if_pos (decide_eq_true c4)]
  have e33 : μ6 3 3 = s.2.1 := (g2.2 3 (by omega)).trans h3
  have e34 : μ6 3 4 = s.2.2.2.2 := (g2.2 4 (by omega)).trans hU
  unfold fX6_keep
  simp only [lt]
  rw [e33, put_n s.2.1 rfl (L := 40) rfl (by omega) (by omega), upd2_ne (show (3 : Nat) ≠ 4 by omega), e33]
  generalize h9 : upd2 (upd2 μ6 4 s.2.1 (k : Int)) 3 3 ((s.2.1 : Int) + 1) = μ10
  have x9 : ∀ x, x ≠ 3 → x ≠ 4 → μ10 x = μ6 x := fun x q1 q2 => by rw [← h9, upd2_ne q1, upd2_ne q2]
  have y9 : ∀ j, j ≠ 3 → μ10 3 j = μ6 3 j := fun j q => by rw [← h9, upd2_nj q, upd2_ne (by omega)]
  have z9 : μ10 3 3 = ((s.2.1 + 1 : Nat) : Int) := by rw [← h9, upd2_at]; push_cast; rfl
  have a9 : ∀ i, i < s.2.1 + 1 → μ10 4 i = ((if i = s.2.1 then k else s.2.2.1 i : Nat) : Int) := fun i hi2 => by
    rw [← h9, upd2_ne (by omega)]
    by_cases e : i = s.2.1
    · rw [if_pos e, e, upd2_at]
    · rw [if_neg e, upd2_nj e, g2.1 4 (by omega) (by omega)]; exact h4 i (by omega)
  have c10 : Cur tx L (s.1 + 1) μ10 := by
    have := g1.1
    unfold Cur At TX at this ⊢
    rw [x9 1 (by omega) (by omega), x9 2 (by omega) (by omega)]; exact this
  rw [word_v c10, Option.bind_some, Nat.add_sub_cancel_left, sen_w _ hw c4, y9 4 (by omega), e34]
  have hU2 : i_or (s.2.2.2.2 : Int) (i_shl (if wI tx L (s.1 + 1) = 7 then 1 else 0 : Int) (k : Int)) = ((if wI tx L (s.1 + 1) = 7 then s.2.2.2.2 ||| 2 ^ k else s.2.2.2.2 : Nat) : Int) := by
    have hb := hO.2.2.1
    have h2 := two_pow_5 (a := k) (by omega)
    by_cases c : wI tx L (s.1 + 1) = 7
    · rw [if_pos c, if_pos c, i_shl1 (by omega), i_or_n (by omega) (by omega)]
    · rw [if_neg c, if_neg c, shl_0 k (by omega)]
      have := i_or_n (a := s.2.2.2.2) (b := 0) (by omega) (by omega)
      rw [Nat.or_zero] at this
      exact this
  rw [hU2]
  generalize hM : upd2 μ10 3 4 ((if wI tx L (s.1 + 1) = 7 then s.2.2.2.2 ||| 2 ^ k else s.2.2.2.2 : Nat) : Int) = μ13
  have x13 : ∀ x, x ≠ 3 → μ13 x = μ10 x := fun x q => by rw [← hM, upd2_ne q]
  have g13 : CT tx L (s.1 + 1) μ13 := by
    refine ⟨?_, g1.2.1, ?_⟩
    · unfold Cur At TX at c10 ⊢
      rw [x13 1 (by omega), x13 2 (by omega)]; exact c10
    · rw [← hM, upd2_nj (by omega), y9 1 (by omega)]; exact g1.2.2
  refine Ok.then (tstep_ok g13 (wI_pos (by omega))) ?_
  rintro μ14 ⟨g14, t14⟩
  rw [Ok_some]
  refine ⟨fun x q1 q3 q4 => ?_, ?_, g14, ?_, fun i hi2 => ?_, ?_, hoo _ rfl⟩
  · show μ14 x = μ x
    rw [t14.1 x q1 q3, x13 x q3, x9 x q3 q4]; exact g2.1 x q1 q3
  · dsimp only
    have h2 := two_pow_5 (a := k) (by omega)
    have hb := hO.2.1
    rw [i_shl1 (by omega), i_or_n (by omega) (by omega)]
  · exact (t14.2 3 (by omega)).trans (by rw [← hM, upd2_nj (by omega)]; exact z9)
  · exact (congrFun (t14.1 4 (by omega) (by omega)) i).trans ((congrFun (x13 4 (by omega)) i).trans (a9 i hi2))
  · exact (t14.2 4 (by omega)).trans (by rw [← hM, upd2_at])
end CWISH
