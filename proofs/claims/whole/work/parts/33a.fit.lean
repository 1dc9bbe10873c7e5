/-! ===== level 2: whether a stack is as was seen ===== -/
section FIT
variable {n g q : Nat} {kd wd : Nat → Nat} {BE CE : LawF} {μ : Mem} {c : Nat} {cl : Nat → Nat × Nat × Bool}
def hlB (kd : Nat → Nat) (n c : Nat) (x : Nat × Nat × Bool) : Bool := (if x.2.1 = 5 then uC kd c (pA n (c / 2 ^ ix kd n) x.1) else decide (pA n (c / 2 ^ ix kd n) x.1 = x.2.1)) == x.2.2
def ftB (kd : Nat → Nat) (n c q : Nat) (cl : Nat → Nat × Nat × Bool) : Bool := decide (cn q (fun i => !hlB kd n c (cl i)) = 0)
theorem b2i_eq {x y : Bool} : (if w32 (b2i x) = w32 (b2i y) then true else false) = (x == y) := by cases x <;> cases y <;> decide
theorem b2i_1 {x : Bool} : (if w32 (b2i x) = w32 1 then true else false) = x := by cases x <;> decide
theorem holds_ok {x : Nat × Nat × Bool} (hn : n < 6) (hT : Tb kd wd n BE CE μ) (hc : c < NN kd n) (h1 : x.1 < n) (h2 : x.2.1 < n ∨ x.2.1 = 5) : fX5_holds (c : Int) (clC x : Int) μ = hlB kd n c x := by
  obtain ⟨p, k, b⟩ := x
  dsimp only at h1 h2
  have hd := div_lt (kd := kd) hc
  have hpb := pA_lt hn hd h1
  have hcl : clC (p, k, b) = p * 16 + (if k = 5 then 0 else k + 1) * 2 + (if b = true then 1 else 0) := by
    unfold clC
    dsimp only
    omega
  generalize hkk : (if k = 5 then 0 else k + 1) = kk at hcl
  generalize hbb : (if b = true then 1 else 0) = bb at hcl
  have hkb : kk ≤ 5 ∧ (kk = 0 ↔ k = 5) ∧ (k ≠ 5 → kk = k + 1) := by
    rw [← hkk]
    split <;> omega
  have hbl : bb ≤ 1 := by rw [← hbb]; split <;> omega
  have e4 : i_shr (clC (p, k, b) : Int) 4 = (p : Int) := by
    have := i_shr_n (a := clC (p, k, b)) (s := 4) (by omega) (by omega)
    rw [show ((4 : Nat) : Int) = 4 from rfl] at this
    rw [this]
    have : clC (p, k, b) / 2 ^ 4 = p := by omega
    rw [this]
  have e7 : i_and (i_shr (clC (p, k, b) : Int) 1) 7 = (kk : Int) := by
    have h1 := i_shr_n (a := clC (p, k, b)) (s := 1) (by omega) (by omega)
    rw [show ((1 : Nat) : Int) = 1 from rfl] at h1
    have h2 := i_and_n (a := clC (p, k, b) / 2 ^ 1) (b := 7) (by omega) (by omega)
    rw [show ((7 : Nat) : Int) = 7 from rfl] at h2
    rw [h1, h2, show (7 : Nat) = 2 ^ 3 - 1 from rfl, Nat.and_two_pow_sub_one_eq_mod]
    have : clC (p, k, b) / 2 ^ 1 % 2 ^ 3 = kk := by omega
    rw [this]
  have e1 : i_and (clC (p, k, b) : Int) 1 = (bb : Int) := by
    have h2 := i_and_n (a := clC (p, k, b)) (b := 1) (by omega) (by omega)
    rw [show ((1 : Nat) : Int) = 1 from rfl] at h2
    rw [h2, show (1 : Nat) = 2 ^ 1 - 1 from rfl, Nat.and_two_pow_sub_one_eq_mod]
    have : clC (p, k, b) % 2 ^ 1 = bb := by omega
    rw [this]
  have hci : fX7_cakeIn (c : Int) (p : Int) μ = (pA n (c / 2 ^ ix kd n) p : Int) := by
    rw [cakeIn_ok hn hT hc ⟨by omega, by omega⟩]
    unfold thI
    rw [if_pos (by omega), Int.toNat_natCast]
  unfold fX5_holds
  simp only [lt]
  rw [e4, e7, e1, hci, isUp_ok hn hT hc hpb, w32_m1, w32_eq (x := (kk : Int) - 1) (by omega) (by omega), w32_n (a := pA n (c / 2 ^ ix kd n) p) (by omega), w32_n (a := bb) (by omega), w32_1]
  unfold hlB
  dsimp only
  have hb1 : (if (bb : Int) = 1 then (1 : Int) else 0) = b2i b := by
    rw [← hbb]
    cases b <;> rfl
  rw [hb1, b2i_eq]
  by_cases h5 : k = 5
  · rw [if_pos h5, if_pos (show (kk : Int) - 1 = -1 by omega)]
  · rw [if_neg h5, if_neg (show ¬ (kk : Int) - 1 = -1 by omega)]
    by_cases hpk : pA n (c / 2 ^ ix kd n) p = k
    · rw [if_pos (show (pA n (c / 2 ^ ix kd n) p : Int) = (kk : Int) - 1 by omega), decide_eq_true hpk]
    · rw [if_neg (show ¬ (pA n (c / 2 ^ ix kd n) p : Int) = (kk : Int) - 1 by omega), decide_eq_false hpk]
theorem fits_ok (hn : n < 6) (hT : Tb kd wd n BE CE μ) (hc : c < NN kd n) (hS : SC 41 q cl μ) (hO : SO n q cl) : fX5_fits 41 (c : Int) μ = some (ftB kd n c q cl) := by
  obtain ⟨hq, hO2⟩ := hO
  apply Ok_val
  unfold fX5_fits
  refine loop_FU q (fun (i : Nat) (s : Int) => s = (i : Int) ∧ cn i (fun i => !hlB kd n c (cl i)) = 0) 0 ⟨rfl, rfl⟩ (by omega) (by omega) ?_ ?_
  · rintro i s hi ⟨rfl, h0⟩
    obtain ⟨o1, o2⟩ := hO2 i hi
    unfold fX5_fits_b2
    simp only [lt]
    rw [hS.1, w32_n (a := i) (by omega), w32_n (a := q) (by omega), if_pos (by omega), at_n i rfl (L := 8) rfl (by omega) (by omega), hS.2 i hi, holds_ok hn hT hc o1 o2]
    by_cases hh : hlB kd n c (cl i) = true
    · rw [if_pos hh, Ok_some]
      refine ⟨by push_cast; rfl, ?_⟩
      rw [cn_succ, h0, hh]; rfl
    · rw [if_neg hh, Ok_some]
      have hpos : 0 < cn q (fun i => !hlB kd n c (cl i)) := cn_pos.mpr ⟨i, hi, by simpa using hh⟩
      dsimp only [Sum.elim]
      unfold ftB
      rw [decide_eq_false (by omega)]
  · rintro s ⟨rfl, h0⟩
    unfold fX5_fits_b2
    rw [hS.1, w32_n (a := q) (by omega), if_neg (by omega), Ok_some]
    dsimp only [Sum.elim]
    unfold ftB
    rw [decide_eq_true h0]
theorem asSeen_r (h : Rr kd wd n BE CE g μ) (hc : c < NN kd n) (hL : Ly kd n c μ) (hS : SR 0 q cl μ) (hO : SO n q cl) : fX12_isAsSeen μ = some (ftB kd n c q cl) := by
  have hn := h.1.1
  have hd := div_lt (kd := kd) hc
  obtain ⟨hq, hO2⟩ := hO
  obtain ⟨s1, s2⟩ := hS
  rw [Nat.zero_add] at s1
  apply Ok_val
  unfold fX12_isAsSeen
  refine Ok.bind ?_
  refine loop_FU q (fun (i : Nat) (s : Bool × Int) => s.1 = decide (cn i (fun i => !hlB kd n c (cl i)) = 0) ∧ s.2 = (i : Int)) 0 ⟨rfl, rfl⟩ (by omega) (by omega) ?_ ?_
  · rintro i ⟨v1, v2⟩ hi ⟨e1, e2⟩
    dsimp only at e1 e2 ⊢
    subst e2
    obtain ⟨o1, o2⟩ := hO2 i hi
    obtain ⟨t1, t2, t3⟩ := s2 i hi
    rw [Nat.zero_add] at t1 t2 t3
    generalize hx : cl i = x at o1 o2 t1 t2 t3
    obtain ⟨p, k, b⟩ := x
    dsimp only at o1 o2 t1 t2 t3
    have hpb := pA_lt hn hd o1
    have hup := hL.2 _ hpb
    have hpl := hL.1 p o1
    have ev : (4 : Int) + 3 * (i : Int) = ((4 + 3 * i : Nat) : Int) := by push_cast; rfl
    have ev1 : ((4 + 3 * i : Nat) : Int) + 1 = ((4 + 3 * i + 1 : Nat) : Int) := by push_cast; rfl
    have ev2 : ((4 + 3 * i : Nat) : Int) + 2 = ((4 + 3 * i + 2 : Nat) : Int) := by push_cast; rfl
    have fin : ∀ v : Bool, v = (v1 && hlB kd n c (p, k, b)) → Ok (some (Sum.inl (v, (i : Int) + 1) : (Bool × Int) ⊕ Bool)) (Sum.elim (fun s => s.1 = decide (cn (i + 1) (fun i => !hlB kd n c (cl i)) = 0) ∧ s.2 = ((i + 1 : Nat) : Int)) (fun v => Ok (some v) (fun o => o = ftB kd n c q cl))) := fun v hv => by
      rw [Ok_some]
      refine ⟨?_, by push_cast; rfl⟩
      dsimp only
      rw [hv, e1, cn_succ, hx]
      cases hlB kd n c (p, k, b) <;> simp
    unfold fX12_isAsSeen_b4
    simp only [lt]
    rw [s1, w32_n (a := i) (by omega), w32_n (a := q) (by omega), if_pos (by omega), ev, ev1, w32_n (a := 4 + 3 * i) (by omega), w32_n (a := 4 + 3 * i + 1) (by omega), gd_pos (by omega), Int.toNat_natCast, Int.toNat_natCast, t1, w32_n (a := p) (by omega), gd_pos (by omega), Int.toNat_natCast, hpl, w32_n (a := pA n (c / 2 ^ ix kd n) p) (by omega), gd_pos (by omega), t2, w32_n (a := k) (by omega), show w32 5 = 5 from by decide]
    have hb1 : (if w32 (μ 88 (4 + 3 * i + 2)) = w32 1 then true else false) = b := by rw [t3]; exact b2i_1
    by_cases h5 : k = 5
    · have hhl : hlB kd n c (p, k, b) = (uC kd c (pA n (c / 2 ^ ix kd n) p) == b) := by
        unfold hlB
        dsimp only
        rw [if_pos h5]
      rw [if_pos (by omega), gd_pos (by omega), Int.toNat_natCast, hup, b2i_ne]
      unfold fX12_isAsSeen_j73
      simp only [lt]
      rw [ev2, w32_n (a := 4 + 3 * i + 2) (by omega), gd_pos (by omega), Int.toNat_natCast, hb1, b2i_eq]
      cases v1
      · rw [if_neg (show ¬ false = true by decide)]
        exact fin _ rfl
      · rw [if_pos (show true = true from rfl)]
        exact fin _ (by rw [hhl]; rfl)
    · have hhl : hlB kd n c (p, k, b) = (decide (pA n (c / 2 ^ ix kd n) p = k) == b) := by
        unfold hlB
        dsimp only
        rw [if_neg h5]
      have hdd : (if ((pA n (c / 2 ^ ix kd n) p : Nat) : Int) = ((k : Nat) : Int) then true else false) = decide (pA n (c / 2 ^ ix kd n) p = k) := by
        by_cases hpk : pA n (c / 2 ^ ix kd n) p = k
        · rw [if_pos (by omega), decide_eq_true hpk]
        · rw [if_neg (by omega), decide_eq_false hpk]
      rw [if_neg (by omega), gd_pos (by omega), hdd, ev2, w32_n (a := 4 + 3 * i + 2) (by omega), gd_pos (by omega), Int.toNat_natCast, hb1, b2i_eq]
      cases v1
      · rw [if_neg (show ¬ false = true by decide)]
        exact fin _ rfl
      · rw [if_pos (show true = true from rfl)]
        exact fin _ (by rw [hhl]; rfl)
  · rintro ⟨v1, v2⟩ ⟨e1, e2⟩
    dsimp only at e1 e2 ⊢
    subst e2
    unfold fX12_isAsSeen_b4
    rw [s1, w32_n (a := q) (by omega), if_neg (by omega), Ok_some]
    show Ok _ _
    rw [Ok_some, e1]
    rfl
end FIT
