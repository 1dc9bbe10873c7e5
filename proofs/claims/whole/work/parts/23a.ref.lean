/-! ===== level 2: the reference lays a stack out ===== -/
section REF
variable {n : Nat} {kd wd : Nat → Nat} {BE CE : LawF} {μ ν : Mem}
/-- the reference's griddle: the cakes' part -/
def Rg (kd wd : Nat → Nat) (n : Nat) (μ : Mem) : Prop := μ 81 0 = n ∧ ∀ k, k < n → μ 81 (3 + 3 * k) = kd k ∧ kd k < 4 ∧ μ 81 (4 + 3 * k) = wd k ∧ wd k < 31
theorem Rg.same (h : Rg kd wd n μ) (e : ν 81 = μ 81) : Rg kd wd n ν := by
  unfold Rg at h ⊢; rw [e]; exact h
theorem cakeOf_r {k j : Nat} (hk : k < 5) (hj : j < 3) : fX12_cakeOf (k : Int) (j : Int) μ = some (μ 81 (3 + 3 * k + j)) := by
  unfold fX12_cakeOf
  have e : (3 + (3 * (k : Int))) + (j : Int) = ((3 + 3 * k + j : Nat) : Int) := by push_cast; rfl
  rw [e, w32_n (by omega), gd_pos (by omega), Int.toNat_natCast]
theorem kind_r {k : Nat} (hn : n < 6) (h : Rg kd wd n μ) (hk : k < n) : fX12_cakeOf (k : Int) 0 μ = some (kd k : Int) := by
  have := cakeOf_r (μ := μ) (k := k) (j := 0) (by omega) (by omega)
  rw [Nat.add_zero, (h.2 k hk).1] at this
  exact this
theorem wide_r {k : Nat} (hn : n < 6) (h : Rg kd wd n μ) (hk : k < n) : fX12_cakeOf (k : Int) 1 μ = some (wd k : Int) := by
  have := cakeOf_r (μ := μ) (k := k) (j := 1) (by omega) (by omega)
  have e : 3 + 3 * k + 1 = 4 + 3 * k := by omega
  rw [e, (h.2 k hk).2.2.1] at this
  exact this
theorem side_r {k : Nat} (hn : n < 6) (h : Rg kd wd n μ) (hk : k < n) : fX12_hasSide (k : Int) μ = some (sd kd k) := by
  have hw1 : w32 1 = 1 := by decide
  have hw3 : w32 3 = 3 := by decide
  have hk4 := (h.2 k hk).2.1
  unfold fX12_hasSide sd
  simp only [lt]
  rw [kind_r hn h hk, Option.bind_some, Option.bind_some, w32_n (by omega), hw1, hw3]
  by_cases e1 : kd k = 1
  · rw [if_pos (by omega)]; simp [e1]
  · rw [if_neg (by omega)]
    by_cases e3 : kd k = 3
    · rw [if_pos (by omega)]; simp [e3]
    · rw [if_neg (by omega)]; simp [e1, e3]
theorem b2n {b : Bool} : (if b = true then (1 : Int) else 0) = ((if b = true then 1 else 0 : Nat) : Int) := by cases b <;> rfl
theorem sides_r (hn : n < 6) (h : Rg kd wd n μ) : fX12_sides μ = some (ix kd n : Int) := by
  apply Ok_val
  unfold fX12_sides
  refine Ok.bind ?_
  refine loop_FU n (fun i s => s.1 = (ix kd i : Int) ∧ s.2 = (i : Int)) 0 ⟨rfl, rfl⟩ (by omega) (by omega) ?_ ?_
  · rintro i ⟨a, b⟩ hi ⟨e1, e2⟩
    dsimp only at e1 e2 ⊢
    subst e1 e2
    unfold fX12_sides_b4
    simp only [lt]
    rw [h.1, w32_n (by omega), w32_n (by omega), if_pos (by omega), side_r hn h hi, Option.bind_some, Ok_some, b2n]
    refine ⟨?_, by push_cast; rfl⟩
    show _ = ((ix kd (i + 1) : Nat) : Int)
    rw [ix_succ]; push_cast; rfl
  · rintro ⟨a, b⟩ ⟨e1, e2⟩
    dsimp only at e1 e2 ⊢
    subst e1 e2
    unfold fX12_sides_b4
    rw [h.1, w32_n (by omega), if_neg (by omega), Ok_some]
    show Ok _ _
    rw [Ok_some]
theorem fac_mul {n : Nat} : fac (n + 1) = (n + 1) * fac n := rfl
theorem orders_r {k : Nat} (hk : k < 6) : fX12_ordersOf (k : Int) μ = some (fac k : Int) := by
  apply Ok_val
  unfold fX12_ordersOf
  refine Ok.bind ?_
  by_cases h2 : k < 2
  · have : fac k = 1 := by
      match k, h2 with
      | 0, _ => rfl
      | 1, _ => rfl
    rw [this]
    have hw2 : w32 2 = 2 := by decide
    refine loop_FU 0 (fun i s => s = ((1 : Int), (2 : Int))) 0 rfl (by omega) (by omega) (fun i s hi => absurd hi (by omega)) (fun s hs => ?_)
    subst hs
    unfold fX12_ordersOf_b4
    rw [w32_n (by omega), hw2, if_neg (by omega), Ok_some]
    show Ok _ _
    rw [Ok_some]; rfl
  · refine loop_FU (k + 1) (fun i s => 2 ≤ i ∧ s.1 = (fac (i - 1) : Int) ∧ s.2 = (i : Int)) 2 ⟨by omega, rfl, rfl⟩ (by omega) (by omega) ?_ ?_
    · rintro i ⟨a, b⟩ hi ⟨h0, e1, e2⟩
      dsimp only at e1 e2 ⊢
      subst e1 e2
      unfold fX12_ordersOf_b4
      simp only [lt]
      rw [w32_n (by omega), w32_n (by omega), if_pos (by omega), Ok_some]
      refine ⟨by omega, ?_, by push_cast; rfl⟩
      show _ = ((fac (i + 1 - 1) : Nat) : Int)
      obtain ⟨j, rfl⟩ : ∃ j, i = j + 1 := ⟨i - 1, by omega⟩
      rw [Nat.add_sub_cancel, Nat.add_sub_cancel, fac_mul, Nat.mul_comm]
      push_cast; rfl
    · rintro ⟨a, b⟩ ⟨h0, e1, e2⟩
      dsimp only at e1 e2 ⊢
      subst e1 e2
      unfold fX12_ordersOf_b4
      rw [w32_n (by omega), w32_n (by omega), if_neg (by omega), Ok_some]
      show Ok _ _
      rw [Ok_some]; rfl
theorem stacks_r (hn : n < 6) (h : Rg kd wd n μ) : fX12_stacks μ = some (NN kd n : Int) := by
  have hN := NN_le (kd := kd) hn
  have hx := ix_le (kd := kd) (k := n)
  unfold fX12_stacks
  rw [h.1, orders_r hn, Option.bind_some, sides_r hn h, Option.bind_some]
  unfold NN at hN ⊢
  rw [i_shl_n (by omega) (by omega)]
/-- the stack c is laid out -/
def Ly (kd : Nat → Nat) (n c : Nat) (μ : Mem) : Prop := (∀ i, i < n → μ 90 i = (pA n (c / 2 ^ ix kd n) i : Int)) ∧ ∀ k, k < n → μ 91 k = b2i (uC kd c k)
theorem Ly.same {c : Nat} (h : Ly kd n c μ) (e1 : ν 90 = μ 90) (e2 : ν 91 = μ 91) : Ly kd n c ν := by
  unfold Ly at h ⊢; rw [e1, e2]; exact h
theorem b2i_ne {b : Bool} : (b2i b != 0) = b := by cases b <;> rfl
theorem met_bits : ∀ n, n < 6 → ∀ r, r < fac n → ∀ i, i < n → i_or (metN n r i : Int) (i_shl 1 (pA n r i : Int)) = (metN n r (i + 1) : Int) := by decide +kernel
theorem skip_r {met less q : Nat} {w1 w2 w3 : Int} (hm : met < 32) (hn : n < 6) : ∀ (f k : Nat), skipN f met less k < k + f → less < 200 → f + k ≤ 10 → Ok (loopN (fun s => fX12_lays_b49 w1 w2 w3 (met : Int) q s.1 s.2.1 s.2.2) FU ((less : Int), (k : Int), μ)) (fun o => o.1 = (skipN f met less k : Int) ∧ o.2 = μ) := by
  intro f k hf hless hfk
  refine (loop_F (T := Nat × Nat × Nat) (fun t => ((t.2.1 : Int), (t.2.2 : Int), μ)) (fun t => t.1) (fun t => skipN t.1 met t.2.1 t.2.2 < t.2.2 + t.1 ∧ t.2.1 < 200 ∧ t.1 + t.2.2 ≤ 10) (fun t (o : Int × Mem) => o.1 = (skipN t.1 met t.2.1 t.2.2 : Int) ∧ o.2 = μ) (f, less, k) ⟨hf, hless, hfk⟩ (by show f < _; omega) ?_)
  rintro ⟨f, less, k⟩ ⟨h1, h2, h3⟩
  dsimp only at h1 h2 h3 ⊢
  cases f with
  | zero => exact absurd h1 (by rw [skipN]; omega)
  | succ f =>
    have hw1 : w32 1 = 1 := by decide
    unfold fX12_lays_b49 fX12_lays_j65
    simp only [lt]
    rw [bit_n (by omega) (by omega), hw1]
    rw [skipN] at h1 ⊢
    have hq : met / 2 ^ k % 2 < 2 := Nat.mod_lt _ (by omega)
    generalize met / 2 ^ k % 2 = b at hq h1 ⊢
    rw [w32_n (a := b) (by omega), w32_n (a := less) (by omega)]
    by_cases hb : b = 1
    · rw [if_pos hb] at h1 ⊢
      rw [if_pos (by omega), if_neg (by omega), Ok_some]
      refine ⟨(f, less, k + 1), ?_, ⟨by dsimp only; omega, h2, by dsimp only; omega⟩, by dsimp only; omega, fun r hr => hr⟩
      simp only [Prod.mk.injEq]
      exact ⟨by omega, by push_cast; rfl, trivial⟩
    · rw [if_neg hb] at h1 ⊢
      rw [if_neg (by omega)]
      by_cases hl : 0 < less
      · rw [if_pos hl] at h1 ⊢
        rw [if_neg (by omega), if_pos (by omega), Ok_some]
        refine ⟨(f, less - 1, k + 1), ?_, ⟨by dsimp only; omega, by dsimp only; omega, by dsimp only; omega⟩, by dsimp only; omega, fun r hr => hr⟩
        simp only [Prod.mk.injEq]
        exact ⟨by omega, by push_cast; rfl, trivial⟩
      · rw [if_neg hl] at h1 ⊢
        rw [if_pos (by omega), Ok_some]
        exact ⟨rfl, rfl⟩
theorem lays_r {c : Nat} (hn : n < 6) (h : Rg kd wd n μ) (hc : c < NN kd n) : Ok (fX12_lays (nu kd n c : Int) μ) (fun ν => Ly kd n c ν ∧ ∀ x, x ≠ 90 → x ≠ 91 → ν x = μ x) := by
  have hr := div_lt hc
  have hf := fac_le hn
  have hx := ix_le (kd := kd) (k := n)
  have hnu := nu_lt hn hc
  have hNN := NN_le (kd := kd) hn
  unfold fX12_lays
  simp only [lt]
  rw [sides_r hn h, Option.bind_some, i_shr_n (by omega) (by omega), nu_div hn hc, h.1]
  generalize hrr : c / 2 ^ ix kd n = r at hr
  refine Ok.then (loop_FU (Q := fun ν : Mem => (∀ x, x ≠ 90 → ν x = μ x) ∧ ∀ i, i < n → ν 90 i = (pA n r i : Int)) n (fun (i : Nat) (s : Int × Int × Int × Mem) => s.1 = ((layA n r i).1 : Int) ∧ s.2.1 = (metN n r i : Int) ∧ s.2.2.1 = (i : Int) ∧ (∀ x, x ≠ 90 → s.2.2.2 x = μ x) ∧ ∀ j, j < i → s.2.2.2 90 j = (pA n r j : Int)) 0 ⟨rfl, rfl, rfl, fun _ _ => rfl, fun j hj => absurd hj (by omega)⟩ (by omega) (by omega) ?_ ?_) ?_
  · rintro i ⟨a, b, c', θ⟩ hi ⟨e1, e2, e3, hx', hj⟩
    dsimp only at e1 e2 e3 hx' hj ⊢
    subst e1 e2 e3
    obtain ⟨f1, f2, f3, f4, f5⟩ := lay_facts n hn r hr i hi
    rw [met_facts n hn r hr i hi] at f3 f4
    have hfp : 0 < fac (n - 1 - i) := fac_pos (by omega)
    have hfl : fac (n - 1 - i) ≤ 120 := fac_le (by omega)
    have e5 : ((n : Int) - 1) - (i : Int) = ((n - 1 - i : Nat) : Int) := by omega
    have hp := pA_lt hn hr hi
    have hsk := skip_r (n := n) (μ := θ) (met := metN n r i) (less := (layA n r i).1 / fac (n - 1 - i)) (q := i) (w1 := (nu kd n c : Int)) (w2 := (n : Int)) (w3 := (((layA n r i).1 % fac (n - 1 - i) : Nat) : Int)) f3 hn n 0 (by rw [f4]; omega) (by omega) (by omega)
    rw [f4] at hsk
    unfold fX12_lays_b18
    simp only [lt]
    rw [w32_n (a := i) (by omega), w32_n (a := n) (by omega), if_pos (by omega), e5, orders_r (by omega), Option.bind_some, w32_n (by omega), gd_pos (by omega), gd_pos (by omega), i_div_n (by omega) (by omega), i_rem_n (by omega) (by omega)]
    refine Ok.bind (Ok.imp hsk ?_)
    rintro ⟨o1, o2⟩ ⟨g1, g2⟩
    dsimp only at g1 g2 ⊢
    subst g1 g2
    rw [gd_pos (by omega), Int.toNat_natCast, met_bits n hn r hr i hi, Ok_some]
    refine ⟨rfl, rfl, by push_cast; rfl, fun x hx2 => ?_, fun j hj2 => ?_⟩
    · try dsimp only
      rw [upd2_ne hx2]; exact hx' x hx2
    · try dsimp only
      rw [upd2_self]
      by_cases e : j = i
      · subst e; rw [if_pos rfl]
      · rw [if_neg e]; exact hj j (by omega)
  · rintro ⟨a, b, c', θ⟩ ⟨e1, e2, e3, hx', hj⟩
    dsimp only at e1 e2 e3 hx' hj ⊢
    subst e1 e2 e3
    unfold fX12_lays_b18
    rw [w32_n (by omega), if_neg (by omega), Ok_some]
    exact ⟨hx', hj⟩
  rintro θ ⟨hx1, hj1⟩
  have hRθ : Rg kd wd n θ := h.same (hx1 81 (by omega))
  have hcs : cs kd (pA n r) n = ix kd n := cs_all hn hr
  rw [sides_r hn hRθ, Option.bind_some]
  refine Ok.bind ?_
  have hnuE : nu kd n c = nuL kd (pA n r) (uC kd c) r n := by unfold nu; rw [hrr]
  refine Ok.imp (loop_FU (Q := fun ν : Mem => (∀ x, x ≠ 91 → ν x = θ x) ∧ ∀ i, i < n → ν 91 (pA n r i) = b2i (uC kd c (pA n r i))) n (fun (i : Nat) (s : Int × Int × Mem) => s.1 = ((ix kd n - cs kd (pA n r) i : Nat) : Int) ∧ s.2.1 = (i : Int) ∧ (∀ x, x ≠ 91 → s.2.2 x = θ x) ∧ ∀ j, j < i → s.2.2 91 (pA n r j) = b2i (uC kd c (pA n r j))) 0 ⟨rfl, rfl, fun _ _ => rfl, fun j hj => absurd hj (by omega)⟩ (by omega) (by omega) ?_ ?_) ?_
  · rintro i ⟨a, b, ρ⟩ hi ⟨e1, e2, hx', hj⟩
    dsimp only at e1 e2 hx' hj ⊢
    subst e1 e2
    have hp := pA_lt hn hr hi
    have h90 : ρ 90 i = (pA n r i : Int) := by rw [hx' 90 (by omega)]; exact hj1 i hi
    have hw1 : w32 1 = 1 := by decide
    unfold fX12_lays_b124
    simp only [lt]
    rw [w32_n (a := i) (by omega), w32_n (a := n) (by omega), if_pos (by omega), gd_pos (by omega), Int.toNat_natCast, h90, w32_n (a := pA n r i) (by omega), gd_pos (by omega), Int.toNat_natCast, gd_pos (by omega)]
    generalize hρ1 : upd2 ρ 91 (pA n r i) 0 = ρ1
    have hx1' : ∀ x, x ≠ 91 → ρ1 x = θ x := fun x hx2 => by rw [← hρ1, upd2_ne hx2]; exact hx' x hx2
    have hR1 : Rg kd wd n ρ1 := hRθ.same (hx1' 81 (by omega))
    have h901 : ρ1 90 i = (pA n r i : Int) := by rw [hx1' 90 (by omega)]; exact hj1 i hi
    rw [h901, side_r hn hR1 hp, Option.bind_some]
    have hmono := cs_mono (kd := kd) (p := pA n r) (i := i + 1) (j := n) (by omega)
    rw [hcs] at hmono
    have hother : ∀ v : Int, ∀ j, j < i → upd2 ρ1 91 (pA n r i) v 91 (pA n r j) = b2i (uC kd c (pA n r j)) := fun v j hj2 => by
      have hne : pA n r j ≠ pA n r i := fun e => by have := pA_inj hn hr (by omega) hi e; omega
      rw [upd2_nj hne, ← hρ1, upd2_nj hne]; exact hj j hj2
    by_cases hs : sd kd (pA n r i) = true
    · have hcsu := cs_succ (kd := kd) (p := pA n r) (i := i)
      rw [if_pos hs] at hcsu
      have eb : ((ix kd n - cs kd (pA n r) i : Nat) : Int) + (-1) = ((ix kd n - cs kd (pA n r) (i + 1) : Nat) : Int) := by omega
      have hbit : nu kd n c / 2 ^ (ix kd n - cs kd (pA n r) (i + 1)) % 2 = if uC kd c (pA n r i) = true then 1 else 0 := by
        have hd := nuL_div (kd := kd) (u := uC kd c) (p := pA n r) (r := r) (i := i + 1) (j := n) (by omega)
        rw [hcs] at hd
        rw [hnuE, hd, nuL, if_pos hs]
        split <;> omega
      rw [if_pos hs, gd_pos (by omega), eb, bit_n (by omega) (by omega), hbit, w32_n (a := pA n r i) (by omega), gd_pos (by omega), Int.toNat_natCast, Ok_some]
      refine ⟨rfl, by push_cast; rfl, fun x hx2 => ?_, fun j hj2 => ?_⟩
      · try dsimp only
        rw [upd2_ne hx2]; exact hx1' x hx2
      · by_cases e : j = i
        · subst e
          try dsimp only
          rw [upd2_at]
          cases uC kd c (pA n r j) <;> rfl
        · exact hother _ j (by omega)
    · have hcsu := cs_succ (kd := kd) (p := pA n r) (i := i)
      rw [if_neg hs, Nat.add_zero] at hcsu
      rw [if_neg hs, Ok_some]
      refine ⟨by dsimp only; rw [hcsu, Nat.add_zero], by push_cast; rfl, hx1', fun j hj2 => ?_⟩
      by_cases e : j = i
      · subst e
        show ρ1 91 _ = _
        rw [← hρ1, upd2_at]
        have : uC kd c (pA n r j) = false := by unfold uC; simp [hs]
        rw [this]; rfl
      · show ρ1 91 _ = _
        have hne : pA n r j ≠ pA n r i := fun e2 => by have := pA_inj hn hr (by omega) hi e2; omega
        rw [← hρ1, upd2_nj hne]; exact hj j (by omega)
  · rintro ⟨a, b, ρ⟩ ⟨e1, e2, hx', hj⟩
    dsimp only at e1 e2 hx' hj ⊢
    subst e1 e2
    unfold fX12_lays_b124
    rw [w32_n (by omega), if_neg (by omega), Ok_some]
    exact ⟨hx', hj⟩
  · rintro ρ ⟨hx', hj⟩
    rw [Ok_some]
    refine ⟨⟨fun i hi => ?_, fun k hk => ?_⟩, fun x h1 h2 => ?_⟩
    · rw [hx' 90 (by omega), hrr]; exact hj1 i hi
    · have := hj (posA n r k) (posA_lt hn hr hk)
      rw [pA_posA hn hr hk] at this
      exact this
    · rw [hx' x h2]; exact hx1 x h1
end REF
