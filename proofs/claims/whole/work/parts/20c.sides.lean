/-! ===== level 2: sides ===== -/
section SIDES
variable {kd : Nat → Nat} {n : Nat} {u v : Nat → Bool}
def sd (kd : Nat → Nat) (k : Nat) : Bool := kd k == 1 || kd k == 3
/-- how many with a side come ahead of a cake -/
def ix (kd : Nat → Nat) (k : Nat) : Nat := cn k (sd kd)
theorem ix_succ {k : Nat} : ix kd (k + 1) = ix kd k + (if sd kd k = true then 1 else 0) := rfl
theorem ix_mono {j k : Nat} (h : j ≤ k) : ix kd j ≤ ix kd k := by
  induction k with
  | zero => have : j = 0 := by omega
            subst this; exact Nat.le_refl _
  | succ k ih =>
    by_cases e : j = k + 1
    · subst e; exact Nat.le_refl _
    · rw [ix_succ]; have := ih (by omega); omega
theorem ix_lt {j k : Nat} (h : j < k) (hs : sd kd j = true) : ix kd j < ix kd k := by
  have h1 := ix_mono (kd := kd) (j := j + 1) (k := k) (by omega)
  rw [ix_succ, if_pos hs] at h1
  omega
theorem ix_le {k : Nat} : ix kd k ≤ k := cn_le
theorem ix_inj {j k : Nat} (hj : sd kd j = true) (hk : sd kd k = true) (h : ix kd j = ix kd k) : j = k := by
  rcases Nat.lt_trichotomy j k with q | q | q
  · have := ix_lt q hj; omega
  · exact q
  · have := ix_lt q hk; omega
theorem ix_surj {i : Nat} : ∀ {n : Nat}, i < ix kd n → ∃ k, k < n ∧ sd kd k = true ∧ ix kd k = i
  | 0, h => absurd h (by show ¬ i < 0; omega)
  | n + 1, h => by
    rw [ix_succ] at h
    by_cases hs : sd kd n = true
    · rw [if_pos hs] at h
      by_cases e : ix kd n = i
      · exact ⟨n, by omega, hs, e⟩
      · obtain ⟨k, h1, h2, h3⟩ := ix_surj (n := n) (i := i) (by omega)
        exact ⟨k, by omega, h2, h3⟩
    · rw [if_neg hs] at h
      obtain ⟨k, h1, h2, h3⟩ := ix_surj (n := n) (i := i) (by omega)
      exact ⟨k, by omega, h2, h3⟩
/-- the bits of those that have a side, by cake -/
def pk (kd : Nat → Nat) (u : Nat → Bool) : Nat → Nat
  | 0 => 0
  | k + 1 => pk kd u k + (if (sd kd k && u k) = true then 2 ^ ix kd k else 0)
theorem pz_lt : ∀ n, pk kd u n < 2 ^ ix kd n
  | 0 => by show 0 < 1; omega
  | n + 1 => by
    have ih := pz_lt n
    rw [pk, ix_succ]
    by_cases hs : sd kd n = true
    · rw [if_pos hs, Nat.pow_succ]
      split <;> omega
    · rw [if_neg hs, if_neg (by simp [hs])]
      simpa using ih
theorem testBit_add {a b i : Nat} (h : a < 2 ^ i) (j : Nat) : (a + 2 ^ i * b).testBit j = if j < i then a.testBit j else b.testBit (j - i) := by
  rw [Nat.add_comm]; exact Nat.testBit_two_pow_mul_add b h j
theorem pz_bit {k : Nat} (hs : sd kd k = true) : ∀ {n}, k < n → (pk kd u n).testBit (ix kd k) = u k
  | 0, h => absurd h (by omega)
  | n + 1, h => by
    rw [pk]
    by_cases hb : (sd kd n && u n) = true
    · rw [if_pos hb]
      have h1 := testBit_add (b := 1) (pz_lt (kd := kd) (u := u) n) (ix kd k)
      rw [Nat.mul_one] at h1
      rw [h1]
      have hb2 := (Bool.and_eq_true _ _).mp hb
      by_cases e : k = n
      · subst e
        rw [if_neg (by omega), Nat.sub_self, hb2.2]; rfl
      · rw [if_pos (ix_lt (by omega) hs)]
        exact pz_bit hs (by omega)
    · rw [if_neg hb, Nat.add_zero]
      by_cases e : k = n
      · subst e
        rw [Nat.testBit_lt_two_pow (pz_lt k)]
        simp only [hs, Bool.true_and] at hb
        exact (Bool.eq_false_iff.mpr hb).symm
      · exact pz_bit hs (by omega)
theorem pz_hi {i : Nat} (h : ix kd n ≤ i) : (pk kd u n).testBit i = false :=
  Nat.testBit_lt_two_pow (Nat.lt_of_lt_of_le (pz_lt n) (Nat.pow_le_pow_right (by omega) h))
theorem pz_congr (h : ∀ k, k < n → sd kd k = true → u k = v k) : pk kd u n = pk kd v n := by
  induction n with
  | zero => rfl
  | succ n ih =>
    rw [pk, pk, ih (fun k hk hs => h k (by omega) hs)]
    by_cases hs : sd kd n = true
    · rw [h n (by omega) hs]
    · simp [hs]
theorem pz_ext {x : Nat} (h1 : ∀ k, k < n → sd kd k = true → x.testBit (ix kd k) = u k) (h2 : ∀ i, ix kd n ≤ i → x.testBit i = false) : x = pk kd u n := by
  apply Nat.eq_of_testBit_eq
  intro i
  by_cases hi : i < ix kd n
  · obtain ⟨k, hk, hs, e⟩ := ix_surj hi
    rw [← e, h1 k hk hs, pz_bit hs hk]
  · rw [h2 i (by omega), pz_hi (by omega)]
theorem pz_xor : pk kd u n ^^^ pk kd v n = pk kd (fun k => u k ^^ v k) n :=
  pz_ext (fun k hk hs => by rw [Nat.testBit_xor, pz_bit hs hk, pz_bit hs hk]) (fun i hi => by rw [Nat.testBit_xor, pz_hi hi, pz_hi hi]; rfl)
theorem pz_and : pk kd u n &&& pk kd v n = pk kd (fun k => u k && v k) n :=
  pz_ext (fun k hk hs => by rw [Nat.testBit_and, pz_bit hs hk, pz_bit hs hk]) (fun i hi => by rw [Nat.testBit_and, pz_hi hi, pz_hi hi]; rfl)
theorem pz_or : pk kd u n ||| pk kd v n = pk kd (fun k => u k || v k) n :=
  pz_ext (fun k hk hs => by rw [Nat.testBit_or, pz_bit hs hk, pz_bit hs hk]) (fun i hi => by rw [Nat.testBit_or, pz_hi hi, pz_hi hi]; rfl)
theorem pz_none (h : ∀ k, k < n → sd kd k = true → u k = false) : pk kd u n = 0 :=
  (pz_ext (x := 0) (fun k hk hs => by rw [h k hk hs]; simp) (fun i _ => by simp)).symm
/-- one cake's bit -/
theorem pz_one {j : Nat} (hj : j < n) (hs : sd kd j = true) : pk kd (fun k => decide (k = j)) n = 2 ^ ix kd j :=
  (pz_ext (fun k hk hk2 => by
    rw [Nat.testBit_two_pow]
    by_cases e : k = j
    · subst e; simp
    · have : ¬ ix kd j = ix kd k := fun q => e (ix_inj hk2 hs q.symm)
      simp [e, this]) (fun i hi => by
    rw [Nat.testBit_two_pow]
    have := ix_lt hj hs
    simp; omega)).symm
def uC (kd : Nat → Nat) (c k : Nat) : Bool := sd kd k && c.testBit (ix kd k)
/-- the class's number of a stack -/
def cd (kd : Nat → Nat) (n r : Nat) (u : Nat → Bool) : Nat := r * 2 ^ ix kd n + pk kd u n
theorem cd_div {r : Nat} : cd kd n r u / 2 ^ ix kd n = r := by
  unfold cd
  have := pz_lt (kd := kd) (u := u) n
  rw [Nat.add_comm, Nat.add_mul_div_right _ _ (by omega), Nat.div_eq_of_lt this, Nat.zero_add]
theorem cd_mod {r : Nat} : cd kd n r u % 2 ^ ix kd n = pk kd u n := by
  unfold cd
  rw [Nat.add_comm, Nat.add_mul_mod_self_right, Nat.mod_eq_of_lt (pz_lt n)]
theorem cd_bit {r i : Nat} (hi : i < ix kd n) : (cd kd n r u).testBit i = (pk kd u n).testBit i := by
  unfold cd
  rw [Nat.mul_comm, Nat.testBit_two_pow_mul_add r (pz_lt n), if_pos hi]
theorem uC_cd {r k : Nat} (hk : k < n) : uC kd (cd kd n r u) k = (sd kd k && u k) := by
  unfold uC
  by_cases hs : sd kd k = true
  · rw [cd_bit (ix_lt hk hs), pz_bit hs hk]
  · simp [hs]
theorem pz_uC {c : Nat} : pk kd (uC kd c) n = c % 2 ^ ix kd n :=
  (pz_ext (fun k hk hs => by
    rw [Nat.testBit_mod_two_pow]
    have := ix_lt hk hs
    simp [uC, hs, this]) (fun i hi => by
    rw [Nat.testBit_mod_two_pow]
    simp; omega)).symm
theorem cd_eta {c : Nat} : cd kd n (c / 2 ^ ix kd n) (uC kd c) = c := by
  unfold cd
  rw [pz_uC]
  exact Nat.div_add_mod' c (2 ^ ix kd n)
theorem cd_congr {r : Nat} (h : ∀ k, k < n → sd kd k = true → u k = v k) : cd kd n r u = cd kd n r v := by
  unfold cd; rw [pz_congr h]
theorem cd_lt {r m : Nat} (h : r < m) : cd kd n r u < m * 2 ^ ix kd n := by
  unfold cd
  have h1 := pz_lt (kd := kd) (u := u) n
  have h2 : (r + 1) * 2 ^ ix kd n ≤ m * 2 ^ ix kd n := Nat.mul_le_mul_right _ (by omega)
  rw [Nat.add_mul, Nat.one_mul] at h2
  omega
/-! how many bits -/
def pop (x : Nat) : Nat := cn 5 (fun i => x.testBit i)
theorem pop_java : ∀ x : Nat, x < 32 → fJ6_bitCount_0f7a4 (x : Int) = (pop x : Int) := by decide +kernel
theorem pop_add : ∀ j, j < 5 → ∀ a, a < 2 ^ j → pop (a + 2 ^ j) = pop a + 1 := by decide +kernel
theorem pop_pk (h : ix kd n ≤ 5) : pop (pk kd u n) = cn n (fun k => sd kd k && u k) := by
  induction n with
  | zero => show pop 0 = 0; decide
  | succ n ih =>
    have h1 := ix_mono (kd := kd) (j := n) (k := n + 1) (by omega)
    rw [pk]
    show _ = cn n (fun k => sd kd k && u k) + (if (sd kd n && u n) = true then 1 else 0)
    by_cases hb : (sd kd n && u n) = true
    · have h2 : ix kd n < ix kd (n + 1) := ix_lt (by omega) ((Bool.and_eq_true _ _).mp hb).1
      rw [if_pos hb, if_pos hb, pop_add _ (by omega) _ (pz_lt n), ih (by omega)]
    · rw [if_neg hb, if_neg hb, Nat.add_zero, ih (by omega)]; rfl
/-! sets of cakes: as if each had a side -/
theorem ix_all {k : Nat} (h : ∀ j, kd j = 1) : ix kd k = k := by
  induction k with
  | zero => rfl
  | succ k ih => rw [ix_succ, ih, if_pos (by simp [sd, h])]
/-! the reference's number: bits by place -/
def nuL (kd : Nat → Nat) (p : Nat → Nat) (u : Nat → Bool) (r : Nat) : Nat → Nat
  | 0 => r
  | i + 1 => if sd kd (p i) = true then 2 * nuL kd p u r i + (if u (p i) = true then 1 else 0) else nuL kd p u r i
/-- how many with a side lie at the first places -/
def cs (kd : Nat → Nat) (p : Nat → Nat) (i : Nat) : Nat := cn i (fun j => sd kd (p j))
theorem cs_succ {p : Nat → Nat} {i : Nat} : cs kd p (i + 1) = cs kd p i + (if sd kd (p i) = true then 1 else 0) := rfl
theorem cs_mono {p : Nat → Nat} {i j : Nat} (h : i ≤ j) : cs kd p i ≤ cs kd p j := by
  induction j with
  | zero => have : i = 0 := by omega
            subst this; exact Nat.le_refl _
  | succ j ih =>
    by_cases e : i = j + 1
    · subst e; exact Nat.le_refl _
    · rw [cs_succ]; have := ih (by omega); omega
theorem nuL_div {p : Nat → Nat} {r i : Nat} : ∀ {j}, i ≤ j → nuL kd p u r j / 2 ^ (cs kd p j - cs kd p i) = nuL kd p u r i
  | 0, h => by
    have : i = 0 := by omega
    subst this
    rw [Nat.sub_self, Nat.pow_zero, Nat.div_one]
  | j + 1, h => by
    by_cases e : i = j + 1
    · subst e; rw [Nat.sub_self, Nat.pow_zero, Nat.div_one]
    · have ih := nuL_div (p := p) (r := r) (i := i) (j := j) (by omega)
      have hm := cs_mono (kd := kd) (p := p) (i := i) (j := j) (by omega)
      rw [nuL, cs_succ]
      by_cases hs : sd kd (p j) = true
      · rw [if_pos hs, if_pos hs]
        have e2 : cs kd p j + 1 - cs kd p i = 1 + (cs kd p j - cs kd p i) := by omega
        rw [e2, Nat.pow_add, Nat.pow_one, ← Nat.div_div_eq_div_mul]
        have e3 : (2 * nuL kd p u r j + (if u (p j) = true then 1 else 0)) / 2 = nuL kd p u r j := by split <;> omega
        rw [e3, ih]
      · rw [if_neg hs, if_neg hs, Nat.add_zero, ih]
theorem nuL_lt {p : Nat → Nat} {r : Nat} : ∀ i, nuL kd p u r i < (r + 1) * 2 ^ cs kd p i
  | 0 => by show r < (r + 1) * 1; omega
  | i + 1 => by
    have ih := nuL_lt (p := p) (r := r) i
    rw [nuL, cs_succ]
    by_cases hs : sd kd (p i) = true
    · rw [if_pos hs, if_pos hs, Nat.pow_succ, ← Nat.mul_assoc]
      split <;> omega
    · rw [if_neg hs, if_neg hs]
      simpa using ih
theorem nuL_congr {p q : Nat → Nat} {r : Nat} : ∀ {i}, (∀ j, j < i → p j = q j) → (∀ j, j < i → sd kd (p j) = true → u (p j) = v (p j)) → nuL kd p u r i = nuL kd q v r i
  | 0, _, _ => rfl
  | i + 1, h1, h2 => by
    rw [nuL, nuL, nuL_congr (fun j hj => h1 j (by omega)) (fun j hj => h2 j (by omega)), ← h1 i (by omega)]
    by_cases hs : sd kd (p i) = true
    · rw [if_pos hs, if_pos hs, h2 i (by omega) hs]
    · rw [if_neg hs, if_neg hs]
theorem nuL_inj {p : Nat → Nat} {r : Nat} {i : Nat} (h : nuL kd p u r i = nuL kd p v r i) : ∀ j, j < i → sd kd (p j) = true → u (p j) = v (p j) := by
  intro j hj hs
  have h1 := nuL_div (kd := kd) (u := u) (p := p) (r := r) (i := j + 1) (j := i) (by omega)
  have h2 := nuL_div (kd := kd) (u := v) (p := p) (r := r) (i := j + 1) (j := i) (by omega)
  rw [h, h2, nuL, nuL, if_pos hs, if_pos hs] at h1
  cases hu : u (p j) <;> cases hv : v (p j) <;> simp [hu, hv] at h1 ⊢ <;> omega
/-- a stack's number in the reference, of its number in the class -/
def nu (kd : Nat → Nat) (n c : Nat) : Nat := nuL kd (pA n (c / 2 ^ ix kd n)) (uC kd c) (c / 2 ^ ix kd n) n
/-- all stacks -/
def NN (kd : Nat → Nat) (n : Nat) : Nat := fac n * 2 ^ ix kd n
theorem div_lt {c : Nat} (hc : c < NN kd n) : c / 2 ^ ix kd n < fac n := by
  unfold NN at hc
  exact Nat.div_lt_of_lt_mul (by rw [Nat.mul_comm]; exact hc)
theorem cs_all {r : Nat} (hn : n < 6) (hr : r < fac n) : cs kd (pA n r) n = ix kd n := sm_pA (f := fun k => if sd kd k = true then 1 else 0) hn hr
theorem nu_div {c : Nat} (hn : n < 6) (hc : c < NN kd n) : nu kd n c / 2 ^ ix kd n = c / 2 ^ ix kd n := by
  have h := nuL_div (kd := kd) (u := uC kd c) (p := pA n (c / 2 ^ ix kd n)) (r := c / 2 ^ ix kd n) (i := 0) (j := n) (by omega)
  rw [cs_all hn (div_lt hc)] at h
  exact h
theorem nu_lt {c : Nat} (hn : n < 6) (hc : c < NN kd n) : nu kd n c < NN kd n := by
  have h := nuL_lt (kd := kd) (u := uC kd c) (p := pA n (c / 2 ^ ix kd n)) (r := c / 2 ^ ix kd n) n
  rw [cs_all hn (div_lt hc)] at h
  have h2 : (c / 2 ^ ix kd n + 1) * 2 ^ ix kd n ≤ fac n * 2 ^ ix kd n := Nat.mul_le_mul_right _ (by have := div_lt hc; omega)
  exact Nat.lt_of_lt_of_le h h2
theorem nu_inj {c d : Nat} (hn : n < 6) (hc : c < NN kd n) (hd : d < NN kd n) (h : nu kd n c = nu kd n d) : c = d := by
  have h1 : c / 2 ^ ix kd n = d / 2 ^ ix kd n := by rw [← nu_div hn hc, ← nu_div hn hd, h]
  have h2 := nuL_inj (i := n) (kd := kd) (u := uC kd c) (v := uC kd d) (p := pA n (d / 2 ^ ix kd n)) (r := d / 2 ^ ix kd n) (by
    unfold nu at h
    rw [h1] at h
    exact h)
  rw [← cd_eta (kd := kd) (n := n) (c := c), ← cd_eta (kd := kd) (n := n) (c := d), h1]
  refine cd_congr (fun k hk hs => ?_)
  have h3 := h2 (posA n (d / 2 ^ ix kd n) k) (posA_lt hn (div_lt hd) hk)
  rw [pA_posA hn (div_lt hd) hk] at h3
  exact h3 hs
theorem nu_all {q : Nat} (hn : n < 6) (hq : q < NN kd n) : ∃ c, c < NN kd n ∧ nu kd n c = q := hit_all (fun _ hi => nu_lt hn hi) (fun _ _ hi hj h => nu_inj hn hi hj h) q hq
theorem NN_le (hn : n < 6) : NN kd n ≤ 3840 := by
  unfold NN
  have h1 := ix_le (kd := kd) (k := n)
  have h2 : 2 ^ ix kd n ≤ 2 ^ 5 := Nat.pow_le_pow_right (by omega) (by omega)
  have h3 := fac_le hn
  have h4 := Nat.mul_le_mul h3 h2
  omega
end SIDES
