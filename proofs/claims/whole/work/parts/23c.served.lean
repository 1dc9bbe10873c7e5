/-! ===== level 2: the reference's question whether it is served, as wished ===== -/
section LONGS
theorem l_div_n {a b : Nat} (ha : a < 9223372036854775808) (hb : b < 9223372036854775808) : l_div a b = ((a / b : Nat) : Int) := by
  unfold l_div
  rw [Int64.toInt_div]
  have e1 : (Int64.ofInt (a : Int)).toInt = a := w64_eq (by omega) (by omega)
  have e2 : (Int64.ofInt (b : Int)).toInt = b := w64_eq (by omega) (by omega)
  rw [e1, e2]
  have h : Int.tdiv (a : Int) (b : Int) = ((a / b : Nat) : Int) := rfl
  rw [h]
  have h2 : a / b ≤ a := Nat.div_le_self a b
  generalize a / b = q at h2 ⊢
  have h5 : (0 : Int) ≤ (q : Int) := Int.natCast_nonneg q
  exact Int.bmod_eq_of_le (by show -((18446744073709551616 : Int) / 2) ≤ _; omega) (by show _ < ((18446744073709551616 : Int) + 1) / 2; omega)
theorem l_rem_n {a b : Nat} (ha : a < 9223372036854775808) (hb : b < 9223372036854775808) : l_rem a b = ((a % b : Nat) : Int) := by
  have h1 : Int64.ofInt (a : Int) / Int64.ofInt (b : Int) = Int64.ofInt ((a / b : Nat) : Int) := by
    rw [← Int64.toInt_inj]
    have := l_div_n ha hb
    unfold l_div at this
    have h2 : a / b ≤ a := Nat.div_le_self a b
    rw [this]
    generalize a / b = q at h2 ⊢
    exact (w64_eq (by omega) (by omega)).symm
  unfold l_rem
  rw [h1, ← Int64.ofInt_mul, ← Int64.ofInt_sub]
  have h3 := Nat.div_add_mod a b
  have h4 : (a : Int) - ((a / b : Nat) : Int) * (b : Int) = ((a % b : Nat) : Int) := by
    have : (a : Int) = (b : Int) * ((a / b : Nat) : Int) + ((a % b : Nat) : Int) := by exact_mod_cast h3.symm
    rw [Int.mul_comm] at this
    omega
  rw [h4]
  have h5 : a % b ≤ a := Nat.mod_le a b
  exact w64_eq (by omega) (by omega)
theorem l_2i_n {a : Nat} (ha : a < 2147483648) : l_2i a = (a : Int) := by
  unfold l_2i
  rw [Int64.toInt32_ofInt]
  exact w32_n ha
theorem w64_nn {a : Nat} (h : a < 9223372036854775808) : w64 (a : Int) = a := w64_eq (by omega) (by omega)
end LONGS
section SERVED
variable {n : Nat} {kd wd : Nat → Nat} {BE CE : LawF} {μ ν : Mem} {c : Nat}
/-- the first i places are as they are when it is served -/
def svB (kd wd : Nat → Nat) (n c : Nat) : Nat → Bool
  | 0 => true
  | i + 1 => svB kd wd n c i && (!uC kd c (pA n (c / 2 ^ ix kd n) i) && (decide (i = 0) || decide (wd (pA n (c / 2 ^ ix kd n) (i - 1)) < wd (pA n (c / 2 ^ ix kd n) i))))
theorem svB_all : ∀ {i}, svB kd wd n c i = true → ∀ j, j < i → uC kd c (pA n (c / 2 ^ ix kd n) j) = false ∧ (j = 0 ∨ wd (pA n (c / 2 ^ ix kd n) (j - 1)) < wd (pA n (c / 2 ^ ix kd n) j))
  | 0, _, j, hj => absurd hj (by omega)
  | i + 1, h, j, hj => by
    rw [svB] at h
    simp only [Bool.and_eq_true, Bool.not_eq_true', Bool.or_eq_true, decide_eq_true_eq] at h
    by_cases e : j = i
    · subst e; exact ⟨h.2.1, h.2.2⟩
    · exact svB_all h.1 j (by omega)
theorem svB_of : ∀ i, (∀ j, j < i → uC kd c (pA n (c / 2 ^ ix kd n) j) = false ∧ (j = 0 ∨ wd (pA n (c / 2 ^ ix kd n) (j - 1)) < wd (pA n (c / 2 ^ ix kd n) j))) → svB kd wd n c i = true
  | 0, _ => rfl
  | i + 1, h => by
    rw [svB]
    simp only [Bool.and_eq_true, Bool.not_eq_true', Bool.or_eq_true, decide_eq_true_eq]
    exact ⟨svB_of i (fun j hj => h j (by omega)), h i (by omega)⟩
theorem svB_iff {g : Nat} (hn : n < 6) (hwi : ∀ i j, i < n → j < n → wd i = wd j → i = j) (hc : c < NN kd n) (hg : Gl kd wd n g) : svB kd wd n c n = decide (c = g) := by
  obtain ⟨r0, hr0, hp0, hge⟩ := hg
  have hr := div_lt hc
  have hrk : ∀ j, j < n → rk wd n (pA n r0 j) = j := fun j hj => by
    obtain ⟨k, hk, e⟩ := hit_all (π := rk wd n) (fun k hk3 => rk_lt hk3) (rk_inj hwi) j hj
    have := hp0 k hk
    rw [e] at this
    rw [this, e]
  by_cases e : c = g
  · subst e
    have hd : c / 2 ^ ix kd n = r0 := by rw [hge]; exact cd_div
    rw [decide_eq_true rfl]
    refine svB_of n (fun j hj => ?_)
    rw [hd]
    refine ⟨?_, ?_⟩
    · have hpl := pA_lt hn hr0 hj
      rw [hge, uC_cd hpl, Bool.and_false]
    · by_cases h0 : j = 0
      · exact Or.inl h0
      · refine Or.inr ?_
        have a1 := hrk (j - 1) (by omega)
        have a2 := hrk j hj
        have p1 := pA_lt hn hr0 (i := j - 1) (by omega)
        have p2 := pA_lt hn hr0 hj
        rcases Nat.lt_trichotomy (wd (pA n r0 (j - 1))) (wd (pA n r0 j)) with q | q | q
        · exact q
        · have := pA_inj hn hr0 (by omega) hj (hwi _ _ p1 p2 q); omega
        · have := rk_mono (n := n) p2 q; omega
  · rw [decide_eq_false e, ← Bool.not_eq_true]
    intro h
    apply e
    have hall := svB_all h
    have hge2 : ∀ j, j < n → j ≤ rk wd n (pA n (c / 2 ^ ix kd n) j) := fun j => by
      induction j with
      | zero => intro _; omega
      | succ j ih =>
        intro hj
        have a1 := ih (by omega)
        rcases (hall (j + 1) hj).2 with q | q
        · omega
        · have := rk_mono (n := n) (pA_lt hn hr (i := j) (by omega)) q
          omega
    have hle2 : ∀ d j, j + d + 1 = n → rk wd n (pA n (c / 2 ^ ix kd n) j) ≤ j := fun d => by
      induction d with
      | zero =>
        intro j hj
        have := rk_lt (wd := wd) (pA_lt hn hr (i := j) (by omega))
        omega
      | succ d ih =>
        intro j hj
        have a1 := ih (j + 1) (by omega)
        rcases (hall (j + 1) (by omega)).2 with q | q
        · omega
        · have := rk_mono (n := n) (pA_lt hn hr (i := j) (by omega)) q
          omega
    have heq : ∀ j, j < n → pA n r0 j = pA n (c / 2 ^ ix kd n) j := fun j hj => by
      have b1 := hge2 j hj
      have b2 := hle2 (n - 1 - j) j (by omega)
      have b3 := hp0 _ (pA_lt hn hr hj)
      have b4 : rk wd n (pA n (c / 2 ^ ix kd n) j) = j := by omega
      rw [b4] at b3
      exact b3
    have hrr : r0 = c / 2 ^ ix kd n := by
      have b1 := rankC_eq hn hr (p := pA n r0) heq
      have b2 := rankC_eq hn hr0 (p := pA n r0) (fun _ _ => rfl)
      omega
    rw [hge, hrr, ← cd_eta (kd := kd) (n := n) (c := c), cd_div]
    refine cd_congr (fun k hk _ => ?_)
    have b1 := (hall (posA n (c / 2 ^ ix kd n) k) (posA_lt hn hr hk)).1
    rw [pA_posA hn hr hk] at b1
    exact b1
theorem served_r {g : Nat} (hn : n < 6) (h : Rg kd wd n μ) (hwi : ∀ i j, i < n → j < n → wd i = wd j → i = j) (hc : c < NN kd n) (hg : Gl kd wd n g) (hL : Ly kd n c μ) : fX12_isServed μ = some (decide (c = g)) := by
  rw [← svB_iff hn hwi hc hg]
  have hr := div_lt hc
  apply Ok_val
  unfold fX12_isServed
  refine Ok.bind ?_
  refine loop_FU n (fun (i : Nat) (s : Bool × Int) => s.1 = svB kd wd n c i ∧ s.2 = (i : Int)) 0 ⟨rfl, rfl⟩ (by omega) (by omega) ?_ ?_
  · rintro i ⟨a, b⟩ hi ⟨e1, e2⟩
    dsimp only at e1 e2 ⊢
    subst e1 e2
    have hpi := pA_lt hn hr hi
    have nx : ∀ v : Bool, v = svB kd wd n c (i + 1) → Ok (some (Sum.inl (v, (i : Int) + 1) : (Bool × Int) ⊕ Bool)) (Sum.elim (fun s => s.1 = svB kd wd n c (i + 1) ∧ s.2 = ((i + 1 : Nat) : Int)) (fun q => Ok (some q) (fun o => o = svB kd wd n c n))) := fun v hv => by
      rw [Ok_some]; exact ⟨hv, by push_cast; rfl⟩
    unfold fX12_isServed_b4 fX12_isServed_j61
    simp only [lt]
    rw [h.1, w32_n (a := i) (by omega), w32_n (a := n) (by omega), if_pos (by omega), gd_pos (by omega), Int.toNat_natCast, hL.1 i hi, w32_n (a := pA n (c / 2 ^ ix kd n) i) (by omega), gd_pos (by omega), Int.toNat_natCast, hL.2 _ hpi, b2i_ne]
    by_cases h1 : svB kd wd n c i = true
    · rw [if_pos h1]
      by_cases h2 : uC kd c (pA n (c / 2 ^ ix kd n) i) = true
      · rw [if_pos h2]
        exact nx _ (by rw [svB, h2]; simp)
      · have h2' : uC kd c (pA n (c / 2 ^ ix kd n) i) = false := by simpa using h2
        rw [if_neg h2]
        by_cases h3 : i = 0
        · rw [if_pos (by omega)]
          exact nx _ (by rw [svB, h1, h2']; simp [h3])
        · have e5 : (i : Int) - 1 = ((i - 1 : Nat) : Int) := by omega
          have hpj := pA_lt hn hr (i := i - 1) (by omega)
          have w1 := (h.2 _ hpi).2.2.2
          have w2 := (h.2 _ hpj).2.2.2
          rw [if_neg (by omega), e5, w32_n (a := i - 1) (by omega), gd_pos (by omega), Int.toNat_natCast, hL.1 (i - 1) (by omega), wide_r hn h hpj, Option.bind_some, gd_pos (by omega), wide_r hn h hpi, Option.bind_some, w32_n (by omega), w32_n (by omega)]
          refine nx _ ?_
          rw [svB, h1, h2']
          by_cases hl : wd (pA n (c / 2 ^ ix kd n) (i - 1)) < wd (pA n (c / 2 ^ ix kd n) i)
          · rw [if_pos (by omega)]; simp [hl]
          · rw [if_neg (by omega)]; simp [hl, h3]
    · have h1' : svB kd wd n c i = false := by simpa using h1
      rw [if_neg h1]
      exact nx _ (by rw [svB, h1']; rfl)
  · rintro ⟨a, b⟩ ⟨e1, e2⟩
    dsimp only at e1 e2 ⊢
    subst e1 e2
    unfold fX12_isServed_b4
    rw [h.1, w32_n (by omega), if_neg (by omega), Ok_some]
    show Ok _ _
    rw [Ok_some]
/-- the wish, as the reference keeps it -/
def Wi (kd : Nat → Nat) (n w : Nat) (μ : Mem) : Prop := w < NN kd n ∧ ∀ i, i < n → μ 85 (2 * i) = (pA n (w / 2 ^ ix kd n) i : Int) ∧ (sd kd (pA n (w / 2 ^ ix kd n) i) = true → μ 85 (2 * i + 1) = b2i (uC kd w (pA n (w / 2 ^ ix kd n) i)))
def wiB (kd : Nat → Nat) (n c w : Nat) : Nat → Bool
  | 0 => true
  | i + 1 => wiB kd n c w i && (decide (pA n (c / 2 ^ ix kd n) i = pA n (w / 2 ^ ix kd n) i) && (uC kd c (pA n (w / 2 ^ ix kd n) i) == uC kd w (pA n (w / 2 ^ ix kd n) i)))
theorem wiB_iff {w : Nat} (hn : n < 6) (hc : c < NN kd n) (hw : w < NN kd n) : wiB kd n c w n = decide (c = w) := by
  have hr := div_lt hc
  have hr2 := div_lt hw
  by_cases e : c = w
  · subst e
    rw [decide_eq_true rfl]
    have : ∀ i, wiB kd n c c i = true := fun i => by
      induction i with
      | zero => rfl
      | succ i ih => rw [wiB, ih]; simp
    exact this n
  · rw [decide_eq_false e, ← Bool.not_eq_true]
    intro h
    apply e
    have hall : ∀ i, wiB kd n c w i = true → ∀ j, j < i → pA n (c / 2 ^ ix kd n) j = pA n (w / 2 ^ ix kd n) j ∧ uC kd c (pA n (w / 2 ^ ix kd n) j) = uC kd w (pA n (w / 2 ^ ix kd n) j) := fun i => by
      induction i with
      | zero => intro _ j hj; omega
      | succ i ih =>
        intro h j hj
        rw [wiB] at h
        simp only [Bool.and_eq_true, decide_eq_true_eq, beq_iff_eq] at h
        by_cases e : j = i
        · subst e; exact h.2
        · exact ih h.1 j (by omega)
    have hrr : c / 2 ^ ix kd n = w / 2 ^ ix kd n := by
      have b1 := rankC_eq hn hr2 (p := pA n (c / 2 ^ ix kd n)) (fun j hj => (hall n h j hj).1)
      have b2 := rankC_eq hn hr (p := pA n (c / 2 ^ ix kd n)) (fun _ _ => rfl)
      omega
    rw [← cd_eta (kd := kd) (n := n) (c := c), ← cd_eta (kd := kd) (n := n) (c := w), hrr]
    refine cd_congr (fun k hk _ => ?_)
    have b1 := (hall n h (posA n (w / 2 ^ ix kd n) k) (posA_lt hn hr2 hk)).2
    rw [pA_posA hn hr2 hk] at b1
    exact b1
theorem wished_r {w : Nat} (hn : n < 6) (h : Rg kd wd n μ) (hc : c < NN kd n) (hw : Wi kd n w μ) (hL : Ly kd n c μ) : fX12_isWishedNow μ = some (decide (c = w)) := by
  rw [← wiB_iff hn hc hw.1]
  have hr := div_lt hc
  have hr2 := div_lt hw.1
  apply Ok_val
  unfold fX12_isWishedNow
  refine Ok.bind ?_
  refine loop_FU n (fun (i : Nat) (s : Bool × Int) => s.1 = wiB kd n c w i ∧ s.2 = (i : Int)) 0 ⟨rfl, rfl⟩ (by omega) (by omega) ?_ ?_
  · rintro i ⟨a, b⟩ hi ⟨e1, e2⟩
    dsimp only at e1 e2 ⊢
    subst e1 e2
    have hpi := pA_lt hn hr hi
    have hqi := pA_lt hn hr2 hi
    have nx : ∀ v : Bool, v = wiB kd n c w (i + 1) → Ok (some (Sum.inl (v, (i : Int) + 1) : (Bool × Int) ⊕ Bool)) (Sum.elim (fun s => s.1 = wiB kd n c w (i + 1) ∧ s.2 = ((i + 1 : Nat) : Int)) (fun q => Ok (some q) (fun o => o = wiB kd n c w n))) := fun v hv => by
      rw [Ok_some]; exact ⟨hv, by push_cast; rfl⟩
    have e1 : 2 * (i : Int) = ((2 * i : Nat) : Int) := by push_cast; rfl
    have e2 : ((2 * i : Nat) : Int) + 1 = ((2 * i + 1 : Nat) : Int) := by push_cast; rfl
    have hbb : ∀ b : Bool, w32 (b2i b) = b2i b := fun b => by cases b <;> decide
    have hbe : ∀ a b : Bool, (if b2i a = b2i b then true else false) = (a == b) := fun a b => by cases a <;> cases b <;> rfl
    obtain ⟨hw1, hw2⟩ := hw.2 i hi
    unfold fX12_isWishedNow_b4 fX12_isWishedNow_j67 fX12_isWishedNow_j68
    simp only [lt]
    rw [h.1, w32_n (a := i) (by omega), w32_n (a := n) (by omega), if_pos (by omega), e1, w32_n (a := 2 * i) (by omega), gd_pos (by omega)]
    rw [Int.toNat_natCast (2 * i), hw1, gd_pos (by omega), Int.toNat_natCast i, hL.1 i hi, w32_n (a := pA n (c / 2 ^ ix kd n) i) (by omega), w32_n (a := pA n (w / 2 ^ ix kd n) i) (by omega), gd_pos (by omega), Int.toNat_natCast, hL.2 _ hqi, b2i_ne, side_r hn h hqi, Option.bind_some]
    by_cases h1 : wiB kd n c w i = true
    · rw [if_pos h1]
      by_cases h2 : pA n (c / 2 ^ ix kd n) i = pA n (w / 2 ^ ix kd n) i
      · rw [if_pos (by omega)]
        by_cases hs : sd kd (pA n (w / 2 ^ ix kd n) i) = true
        · rw [if_pos hs, e2, w32_n (a := 2 * i + 1) (by omega), gd_pos (by omega), Int.toNat_natCast, hw2 hs, hbb (uC kd w (pA n (w / 2 ^ ix kd n) i)), w32_1]
          have e3 : (if b2i (uC kd w (pA n (w / 2 ^ ix kd n) i)) = 1 then true else false) = uC kd w (pA n (w / 2 ^ ix kd n) i) := by
            cases uC kd w (pA n (w / 2 ^ ix kd n) i) <;> rfl
          rw [e3, hbb, hbb, hbe]
          exact nx _ (by rw [wiB, h1]; simp [h2])
        · have hs2 : sd kd (pA n (w / 2 ^ ix kd n) i) = false := by simpa using hs
          have u1 : uC kd c (pA n (w / 2 ^ ix kd n) i) = false := by unfold uC; rw [hs2]; rfl
          have u2 : uC kd w (pA n (w / 2 ^ ix kd n) i) = false := by unfold uC; rw [hs2]; rfl
          rw [if_neg hs, hbb, u1]
          exact nx _ (by rw [wiB, h1, u1, u2, if_pos (by decide)]; simp [h2])
      · rw [if_neg (by omega)]
        exact nx _ (by rw [wiB]; simp [h2])
    · have h1' : wiB kd n c w i = false := by simpa using h1
      rw [if_neg h1]
      exact nx _ (by rw [wiB, h1']; rfl)
  · rintro ⟨a, b⟩ ⟨e1, e2⟩
    dsimp only at e1 e2 ⊢
    subst e1 e2
    unfold fX12_isWishedNow_b4
    rw [h.1, w32_n (by omega), if_neg (by omega), Ok_some]
    show Ok _ _
    rw [Ok_some]
end SERVED
