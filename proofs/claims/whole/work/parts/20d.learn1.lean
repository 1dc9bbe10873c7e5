/-! ===== level 2: the class learns its griddle ===== -/
theorem bit_n {a s : Nat} (ha : a < 2147483648) (hs : s < 32) : i_and (i_shr (a : Int) (s : Int)) 1 = ((a / 2 ^ s % 2 : Nat) : Int) := by
  rw [i_shr_n hs ha]
  have h : a / 2 ^ s ≤ a := Nat.div_le_self _ _
  have := i_and_n (a := a / 2 ^ s) (b := 1) (by omega) (by omega)
  rw [Nat.and_one_is_mod] at this
  exact this
theorem clr_bit : ∀ set0 : Nat, set0 < 32 → ∀ k : Nat, k < 5 → set0 / 2 ^ k % 2 = 1 → i_and (set0 : Int) (i_xor (i_shl 1 (k : Int)) (-1)) = ((set0 - 2 ^ k : Nat) : Int) := by decide +kernel
theorem two_pow_le {a b : Nat} (h : a ≤ b) : 2 ^ a ≤ 2 ^ b := Nat.pow_le_pow_right (by omega) h
theorem two_pow_5 {a : Nat} (h : a < 6) : 2 ^ a ≤ 32 := two_pow_le (b := 5) (by omega)
section LEARN
variable {n : Nat} {μ : Mem}
theorem cakeBehind_ok {set0 skip : Nat} (hn : n < 6) (h1 : μ 25 1 = n) (hs : set0 < 32) (hk : skip < 1000) : fX7_cakeBehind set0 skip μ = some (cbN n set0 skip 0 : Int) := by
  apply Ok_val
  unfold fX7_cakeBehind
  refine loop_F (T := Nat × Nat × Nat) (fun t => ((t.2.1 : Int), (t.2.2 : Int))) (fun t => t.1) (fun t => t.1 + t.2.2 = n ∧ t.2.1 < 1000) (fun t r => r = (cbN t.1 set0 t.2.1 t.2.2 : Int)) (n, skip, 0) ⟨by show n + 0 = n; omega, hk⟩ (by show n < _; omega) ?_
  rintro ⟨f, rest, c⟩ ⟨hi, hr⟩
  dsimp only at hi hr ⊢
  unfold fX7_cakeBehind_b5 fX7_cakeBehind_j43
  rw [h1]
  cases f with
  | zero =>
    rw [w32_n (by omega), w32_n (by omega), if_neg (by omega), Ok_some]
    rfl
  | succ f =>
    rw [w32_n (by omega), w32_n (by omega), if_pos (by omega), bit_n (by omega) (by omega), w32_1]
    have hq : set0 / 2 ^ c % 2 < 2 := Nat.mod_lt _ (by omega)
    rw [cbN]
    generalize set0 / 2 ^ c % 2 = q at hq
    rw [w32_n (by omega), w32_n (by omega)]
    simp only [lt, btf]
    by_cases hb : q = 1
    · rw [if_pos (by omega : (q : Int) = 1)]
      simp only [if_pos hb]
      by_cases hr0 : rest = 0
      · rw [if_pos (by omega), Ok_some, if_pos hr0]
        rfl
      · rw [if_neg (by omega), Ok_some]
        simp only [if_neg hr0]
        refine ⟨(f, rest - 1, c + 1), ?_, ⟨by show f + (c + 1) = n; omega, by show rest - 1 < 1000; omega⟩, by show f < f + 1; omega, fun r h => h⟩
        rw [if_pos (by omega : (q : Int) = 1)]
        simp only [Prod.mk.injEq]
        omega
    · rw [if_neg (by omega : ¬ (q : Int) = 1)]
      simp only [if_neg hb]
      rw [Ok_some]
      refine ⟨(f, rest, c + 1), ?_, ⟨by show f + (c + 1) = n; omega, hr⟩, by show f < f + 1; omega, fun r h => h⟩
      rw [if_neg (by omega : ¬ (q : Int) = 1)]
      simp only [Prod.mk.injEq]
      omega
theorem atF_n {k : Nat} (hk : k < 6) : fX11_atF (k : Int) μ = ((fac k : Nat) : Int) := by
  unfold fX11_atF
  simp only [lt]
  rw [w32_n (by omega), if_neg (by omega), if_pos (by show (k : Int) < w32 6; rw [w32_eq (by omega) (by omega)]; omega), Int.toNat_natCast]
  have h : ∀ k, k < 6 → factL.getD k 0 = ((fac k : Nat) : Int) := by decide
  exact h k hk
/-- the class's way from an order's number to the order -/
def loA (n r : Nat) : Nat → Nat × Nat
  | 0 => (2 ^ n - 1, r)
  | i + 1 => let q := loA n r i; (q.1 - 2 ^ pA n r i, q.2 - q.2 / fac (n - 1 - i) * fac (n - 1 - i))
theorem lo_facts : ∀ n, n < 6 → ∀ r, r < fac n → ∀ i, i < n → (loA n r i).1 < 32 ∧ (loA n r i).2 < 120 ∧ cbN n (loA n r i).1 ((loA n r i).2 / fac (n - 1 - i)) 0 = pA n r i ∧ (loA n r i).1 / 2 ^ pA n r i % 2 = 1 := by decide +kernel
theorem learnOrder_ok {r : Nat} (hn : n < 6) (hr : r < fac n) (h1 : μ 25 1 = n) : Ok (fX7_learnOrder (r : Int) μ) (fun μ' => (∀ x, x ≠ 28 → μ' x = μ x) ∧ (∀ i, i < n → μ' 28 (r * 5 + i) = pA n r i) ∧ ∀ j, j < r * 5 → μ' 28 j = μ 28 j) := by
  unfold fX7_learnOrder
  simp only [lt]
  have hf := fac_le hn
  have hpn := two_pow_5 hn
  have hpp : 1 ≤ 2 ^ n := Nat.one_le_two_pow
  refine Ok.bind ?_
  have he : (i_shl 1 (μ 25 1)) - 1 = (((2 ^ n - 1 : Nat)) : Int) := by
    rw [h1]
    have := i_shl_n (a := 1) (s := n) (by omega) (by omega)
    rw [Nat.one_mul] at this
    have e : ((1 : Nat) : Int) = 1 := rfl
    rw [← e, this]
    omega
  rw [he]
  refine loop_FU n (fun i s => s.1 = ((loA n r i).1 : Int) ∧ s.2.1 = ((loA n r i).2 : Int) ∧ s.2.2.1 = (i : Int) ∧ (∀ x, x ≠ 28 → s.2.2.2 x = μ x) ∧ (∀ k, k < i → s.2.2.2 28 (r * 5 + k) = pA n r k) ∧ ∀ j, j < r * 5 → s.2.2.2 28 j = μ 28 j) 0 ⟨rfl, rfl, rfl, fun _ _ => rfl, fun k hk => absurd hk (by omega), fun _ _ => rfl⟩ (by omega) (by omega) ?_ ?_
  · rintro i ⟨a, b, c, ν⟩ hi ⟨e1, e2, e3, hx, hk, hj⟩
    dsimp only at e1 e2 e3 hx hk hj ⊢
    subst e1 e2 e3
    obtain ⟨f1, f2, f3, f4⟩ := lo_facts n hn r hr i hi
    have h1' : ν 25 1 = n := by rw [hx 25 (by omega)]; exact h1
    have hfp : 0 < fac (n - 1 - i) := fac_pos (by omega)
    have hfl : fac (n - 1 - i) ≤ 120 := fac_le (by omega)
    unfold fX7_learnOrder_b14 fX7_learnOrder_j53
    rw [h1', w32_n (by omega), w32_n (by omega), if_pos (by omega)]
    have e5 : ((n : Int) - 1) - (i : Int) = ((n - 1 - i : Nat) : Int) := by omega
    rw [e5, atF_n (by omega)]
    simp only [lt]
    have hdl : (loA n r i).2 / fac (n - 1 - i) ≤ (loA n r i).2 := Nat.div_le_self _ _
    rw [w32_n (by omega), if_neg (by omega), gd_pos (by omega), i_div_n (by omega) (by omega), cakeBehind_ok hn h1' f1 (by omega), f3]
    have hp := pA_lt hn hr hi
    rw [Option.bind_some, clr_bit _ f1 _ (by omega) f4, put_n (r * 5 + i) (by push_cast; rfl) (L := 600) rfl (by omega) (by omega), Ok_some]
    refine ⟨rfl, ?_, rfl, ?_, ?_, ?_⟩
    · show _ = (((loA n r i).2 - (loA n r i).2 / fac (n - 1 - i) * fac (n - 1 - i) : Nat) : Int)
      have := Nat.div_mul_le_self (loA n r i).2 (fac (n - 1 - i))
      push_cast [Int.natCast_sub this]
      rfl
    · intro x hx2; show upd2 ν 28 _ _ x = _; rw [upd2_ne hx2]; exact hx x hx2
    · intro k hk2
      show upd2 ν 28 _ _ 28 _ = _
      rw [upd2_self]
      by_cases e : k = i
      · subst e; rw [if_pos rfl]
      · rw [if_neg (by omega)]; exact hk k (by omega)
    · intro j hj2
      show upd2 ν 28 _ _ 28 _ = _
      rw [upd2_self, if_neg (by omega)]
      exact hj j hj2
  · rintro ⟨a, b, c, ν⟩ ⟨e1, e2, e3, hx, hk, hj⟩
    dsimp only at e1 e2 e3 hx hk hj ⊢
    subst e1 e2 e3
    have h1' : ν 25 1 = n := by rw [hx 25 (by omega)]; exact h1
    unfold fX7_learnOrder_b14
    rw [h1', w32_n (by omega), if_neg (by omega), Ok_some]
    show Ok _ _
    rw [Ok_some]
    exact ⟨hx, hk, hj⟩
end LEARN
