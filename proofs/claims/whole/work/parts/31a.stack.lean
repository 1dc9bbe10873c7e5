/-! ===== level 2: what the class reads off a stack ===== -/
section STACK
variable {n g told : Nat} {kd wd : Nat → Nat} {BE CE : LawF} {μ : Mem} {c : Nat} {a w : Int}
def thI (kd : Nat → Nat) (n c : Nat) (a : Int) : Int := if 0 ≤ a ∧ a < n then (pA n (c / 2 ^ ix kd n) a.toNat : Int) else -1
def ckI (kd wd : Nat → Nat) (n c : Nat) (a w : Int) : Int := if 0 ≤ a ∧ a < n then (if w = 0 then (kd a.toNat : Int) else if w = 1 then (wd a.toNat : Int) else if w = 2 then (posA n (c / 2 ^ ix kd n) a.toNat : Int) else if w = 3 then (if uC kd c a.toNat = true then 1 else 0) else -1) else -1
def caB (kd wd : Nat → Nat) (n : Nat) (BE : LawF) (c : Nat) (a : Int) : Bool := decide (1 ≤ a ∧ a ≤ n) && opC kd wd n BE c a.toNat
def coI (kd wd : Nat → Nat) (n : Nat) (CE : LawF) (c : Nat) (a : Int) : Int := if 1 ≤ a ∧ a ≤ n then (prC kd wd n CE c a.toNat : Int) else -1
theorem nz_w (h : Nz a) : w32 a = a := w32_eq (by unfold Nz at h; omega) (by unfold Nz at h; omega)
theorem cakeIn_ok (hn : n < 6) (hT : Tb kd wd n BE CE μ) (hc : c < NN kd n) (ha : Nz a) : fX7_cakeIn (c : Int) a μ = thI kd n c a := by
  obtain ⟨h1, ⟨h2, -, -⟩, hP, -, -⟩ := hT
  have hf := fac_le hn
  have hd := div_lt (kd := kd) hc
  have hN := NN_le (kd := kd) hn
  have hx := ix_le (kd := kd) (k := n)
  unfold fX7_cakeIn thI
  simp only [lt]
  rw [h1, h2, nz_w ha, w32_n (a := n) (by omega), i_shr_n (by omega) (by omega)]
  by_cases q0 : a < 0
  · rw [if_pos q0, if_neg (by omega)]
  · rw [if_neg q0]
    by_cases q1 : a < n
    · rw [if_pos q1, if_pos (by omega)]
      obtain ⟨j, rfl⟩ : ∃ j : Nat, a = j := ⟨a.toNat, by omega⟩
      rw [at_n (c / 2 ^ ix kd n * 5 + j) (by push_cast; rfl) (L := 600) rfl (by omega) (by omega), hP _ j hd (by omega), Int.toNat_natCast]
    · rw [if_neg q1, if_neg (by omega)]
theorem isUp_ok {k : Nat} (hn : n < 6) (hT : Tb kd wd n BE CE μ) (hc : c < NN kd n) (hk : k < n) : fX7_isUp (c : Int) (k : Int) μ = uC kd c k := by
  obtain ⟨h1, ⟨h2, h3, h4⟩, -, -, -⟩ := hT
  have hx := ix_le (kd := kd) (k := n)
  have hxk := ix_le (kd := kd) (k := k)
  have hp := pk5 (kd := kd) (u := uC kd c) hn
  have h2p := two_pow_le (a := ix kd k) (b := 5) (by omega)
  unfold fX7_isUp
  simp only [lt]
  rw [sb_mask hn hc h2, at_n k rfl (L := 5) rfl (by omega) (by omega), h4 k hk]
  by_cases hs : sd kd k = true
  · rw [if_pos hs, i_and_n (by omega) (by omega), ← pz_one hk hs, pz_and]
    have hb := pz_bit (kd := kd) (u := fun j => uC kd c j && decide (j = k)) hs hk
    have hlt := pk5 (kd := kd) (u := fun j => uC kd c j && decide (j = k)) hn
    rw [w32_n (by omega)]
    cases hu : uC kd c k
    · have : pk kd (fun j => uC kd c j && decide (j = k)) n = 0 := pz_none (fun j _ _ => by
        by_cases e : j = k
        · subst e; rw [hu]; rfl
        · simp [e])
      rw [if_pos (by omega)]
    · rw [if_neg]
      intro h0
      have h0' : pk kd (fun j => uC kd c j && decide (j = k)) n = 0 := by omega
      rw [h0', Nat.zero_testBit, hu] at hb
      simp at hb
  · have hu : uC kd c k = false := by unfold uC; simp [hs]
    rw [if_neg hs, i_and_n (by omega) (by omega), Nat.and_zero, hu, if_pos (by decide)]
theorem placeOf_ok {k : Nat} (hn : n < 6) (hT : Tb kd wd n BE CE μ) (hc : c < NN kd n) (hk : k < n) : fX7_placeOf (c : Int) (k : Int) μ = some (posA n (c / 2 ^ ix kd n) k : Int) := by
  have hd := div_lt (kd := kd) hc
  have hpl := posA_lt hn hd hk
  have hpp := pA_posA hn hd hk
  have h1 := hT.1
  apply Ok_val
  unfold fX7_placeOf
  refine loop_FU n (fun (i : Nat) (s : Int) => s = (i : Int) ∧ i ≤ posA n (c / 2 ^ ix kd n) k) 0 ⟨rfl, by omega⟩ (by omega) (by omega) ?_ ?_
  · rintro i s hi ⟨rfl, hi2⟩
    have hci := cakeIn_ok (a := (i : Int)) hn hT hc ⟨by omega, by omega⟩
    unfold thI at hci
    rw [if_pos (by omega), Int.toNat_natCast] at hci
    have hpb := pA_lt hn hd hi
    unfold fX7_placeOf_b2
    rw [hci, h1, w32_n (a := i) (by omega), w32_n (a := n) (by omega), if_pos (by omega), w32_n (a := pA n (c / 2 ^ ix kd n) i) (by omega), w32_n (a := k) (by omega)]
    by_cases e : i = posA n (c / 2 ^ ix kd n) k
    · rw [if_pos (by rw [e, hpp]), Ok_some, e]
      rfl
    · have : pA n (c / 2 ^ ix kd n) i ≠ k := fun q => e (pA_inj hn hd hi hpl (by rw [hpp]; exact q))
      rw [if_neg (by omega), Ok_some]
      exact ⟨by push_cast; rfl, by omega⟩
  · rintro s ⟨rfl, hi2⟩
    omega
theorem cake_ok (hn : n < 6) (hG : Gc told n kd wd μ) (hT : Tb kd wd n BE CE μ) (h02 : μ 0 2 = told) (hc : c < NN kd n) (h41 : μ 41 1 = c) (ha : Nz a) (hw : Nz w) : fX11_cake a w μ = some (ckI kd wd n c a w) := by
  obtain ⟨hto, g2, g3, g4, g5, g6⟩ := hG
  unfold fX11_cake ckI
  simp only [lt]
  rw [h02, h41, hT.1, nz_w ha, nz_w hw, w32_n (a := n) (by omega)]
  by_cases q0 : a < 0
  · rw [if_pos q0, if_neg (by omega)]
  · rw [if_neg q0]
    by_cases q1 : a < n
    · rw [if_pos q1, if_pos (show 0 ≤ a ∧ a < (n : Int) by omega)]
      obtain ⟨k, rfl⟩ : ∃ k : Nat, a = k := ⟨a.toNat, by omega⟩
      have hk : k < n := by omega
      rw [placeOf_ok hn hT hc hk, isUp_ok hn hT hc hk, gd_pos (by omega), gd_pos (by omega), Int.toNat_natCast, at_n k rfl (al_G2 hto) (by omega) (by omega), at_n k rfl (al_G3 hto) (by omega) (by omega), (g5 k hk).1, (g6 k hk).1, Option.bind_some, Int.toNat_natCast]
      by_cases w0 : w = 0
      · rw [if_pos w0, if_pos w0]
      · rw [if_neg w0, if_neg w0]
        by_cases w1 : w = 1
        · rw [if_pos w1, if_pos w1]
        · rw [if_neg w1, if_neg w1]
          by_cases w2 : w = 2
          · rw [if_pos w2, if_pos w2]
          · rw [if_neg w2, if_neg w2]
            by_cases w3 : w = 3
            · rw [if_pos w3, if_pos w3]
            · rw [if_neg w3, if_neg w3]
    · rw [if_neg q1, if_neg (by omega)]
theorem there_ok (hn : n < 6) (hT : Tb kd wd n BE CE μ) (hc : c < NN kd n) (h41 : μ 41 1 = c) (ha : Nz a) : fX11_there a μ = thI kd n c a := by
  unfold fX11_there
  rw [h41, cakeIn_ok hn hT hc ha]
theorem open_ok (hn : n < 6) (hT : Tb kd wd n BE CE μ) (hc : c < NN kd n) (ha : Nz a) : fX7_isOpen (c : Int) a μ = caB kd wd n BE c a := by
  unfold caB
  by_cases q : 1 ≤ a ∧ a ≤ n
  · obtain ⟨m, rfl⟩ : ∃ m : Nat, a = m := ⟨a.toNat, by omega⟩
    rw [isOpen_ok hn hT hc (by omega) (by omega), decide_eq_true q, Int.toNat_natCast]; rfl
  · rw [decide_eq_false q, Bool.false_and]
    unfold fX7_isOpen
    simp only [lt]
    rw [hT.1, nz_w ha, w32_n (a := n) (by omega), w32_1]
    by_cases q0 : a < 1
    · rw [if_pos q0]
    · rw [if_neg q0, if_neg (by omega)]
theorem can_ok (hn : n < 6) (hT : Tb kd wd n BE CE μ) (hc : c < NN kd n) (h41 : μ 41 1 = c) (ha : Nz a) : fX11_can a μ = caB kd wd n BE c a := by
  unfold fX11_can
  rw [h41, open_ok hn hT hc ha]
theorem cost_ok (hn : n < 6) (hT : Tb kd wd n BE CE μ) (hc : c < NN kd n) (h41 : μ 41 1 = c) (ha : Nz a) : fX11_cost a μ = coI kd wd n CE c a := by
  have hit : fX11_isTurn a μ = decide (1 ≤ a ∧ a ≤ n) := by
    unfold fX11_isTurn
    simp only [lt]
    rw [hT.1, nz_w ha, w32_n (a := n) (by omega), w32_1]
    by_cases q0 : a < 1
    · rw [if_pos q0, decide_eq_false (by omega)]
    · rw [if_neg q0]
      by_cases q1 : a ≤ n
      · rw [if_pos q1, decide_eq_true (by omega)]
      · rw [if_neg q1, decide_eq_false (by omega)]
  unfold fX11_cost coI
  simp only [lt]
  rw [h41, hit]
  by_cases q : 1 ≤ a ∧ a ≤ n
  · rw [if_pos (decide_eq_true q), if_pos q]
    obtain ⟨m, rfl⟩ : ∃ m : Nat, a = m := ⟨a.toNat, by omega⟩
    rw [priceOf_ok hn hT hc (by omega) (by omega), Int.toNat_natCast]
  · rw [if_neg (by rw [decide_eq_false q]; decide), if_neg q]
theorem srvd_ok (hc : c < NN kd n) (hN : NN kd n ≤ 3840) (hg : g < NN kd n) (h4 : μ 25 4 = g) (h41 : μ 41 1 = c) : fX11_served μ = decide (c = g) := by
  unfold fX11_served
  simp only [lt]
  rw [h41, h4, w32_n (a := c) (by omega), w32_n (a := g) (by omega)]
  by_cases q : c = g
  · rw [if_pos (by rw [q]), decide_eq_true q]
  · rw [if_neg (by omega), decide_eq_false q]
end STACK
