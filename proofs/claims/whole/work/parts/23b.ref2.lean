/-! ===== level 2: the reference turns what is laid out ===== -/
section REF2
variable {n : Nat} {kd wd : Nat → Nat} {BE CE : LawF} {μ ν : Mem} {c : Nat}
theorem number_r (hn : n < 6) (h : Rg kd wd n μ) (hc : c < NN kd n) (hL : Ly kd n c μ) : fX12_numberNow μ = some (nu kd n c : Int) := by
  have hr := div_lt hc
  have hnuE : nu kd n c = nuL kd (pA n (c / 2 ^ ix kd n)) (uC kd c) (c / 2 ^ ix kd n) n := rfl
  obtain ⟨h90, h91⟩ := hL
  generalize c / 2 ^ ix kd n = r at hr h90 hnuE
  apply Ok_val
  unfold fX12_numberNow
  refine Ok.bind ?_
  refine Ok.imp (loop_FU (Q := fun q : Int => q = ((r : Nat) : Int)) n (fun (i : Nat) (s : Int × Int) => s.1 = ((rankH n (pA n r) i : Nat) : Int) ∧ s.2 = (i : Int)) 0 ⟨rfl, rfl⟩ (by omega) (by omega) ?_ ?_) ?_
  · rintro i ⟨a, b⟩ hi ⟨e1, e2⟩
    dsimp only at e1 e2 ⊢
    subst e1 e2
    unfold fX12_numberNow_b4
    simp only [lt]
    rw [h.1, w32_n (a := i) (by omega), w32_n (a := n) (by omega), if_pos (by omega)]
    refine Ok.bind ?_
    refine Ok.imp (loop_FU (Q := fun r' : Int => r' = ((lesAt (pA n r) n i : Nat) : Int)) n (fun (j : Nat) (s : Int × Int) => i < j ∧ s.1 = ((cn j (fun j => decide (i < j) && decide (pA n r j < pA n r i)) : Nat) : Int) ∧ s.2 = (j : Int)) (i + 1) ⟨by omega, ?_, by push_cast; rfl⟩ (by omega) (by omega) ?_ ?_) ?_
    · show (0 : Int) = _
      rw [cn_none (fun j hj => by have : ¬ i < j := by omega
                                  simp [this])]
      rfl
    · rintro j ⟨a, b⟩ hj ⟨hij, e1, e2⟩
      dsimp only at e1 e2 ⊢
      subst e1 e2
      have hpi := pA_lt hn hr hi
      have hpj := pA_lt hn hr hj
      unfold fX12_numberNow_b19
      simp only [lt]
      rw [h.1, w32_n (a := j) (by omega), w32_n (a := n) (by omega), if_pos (by omega), gd_pos (by omega), w32_n (a := i) (by omega), gd_pos (by omega), Int.toNat_natCast, Int.toNat_natCast, h90 i hi, h90 j hj, w32_n (a := pA n r j) (by omega), w32_n (a := pA n r i) (by omega), Ok_some]
      refine ⟨by omega, ?_, by push_cast; rfl⟩
      show _ = ((cn (j + 1) _ : Nat) : Int)
      rw [cn_succ]
      by_cases hl : pA n r j < pA n r i
      · rw [if_pos (by omega), if_pos (by simp [hij, hl])]; push_cast; rfl
      · rw [if_neg (by omega), if_neg (by simp [hl])]; rfl
    · rintro ⟨a, b⟩ ⟨hij, e1, e2⟩
      dsimp only at e1 e2 ⊢
      subst e1 e2
      unfold fX12_numberNow_b19
      rw [h.1, w32_n (by omega), if_neg (by omega), Ok_some]
      rfl
    · intro q hq
      subst hq
      have : (n : Int) - (i : Int) = ((n - i : Nat) : Int) := by omega
      rw [this, Ok_some]
      refine ⟨?_, by push_cast; rfl⟩
      show _ = ((rankH n (pA n r) (i + 1) : Nat) : Int)
      rw [rankH]
      push_cast; rfl
  · rintro ⟨a, b⟩ ⟨e1, e2⟩
    dsimp only at e1 e2 ⊢
    subst e1 e2
    unfold fX12_numberNow_b4
    rw [h.1, w32_n (by omega), if_neg (by omega), Ok_some]
    show ((rankH n (pA n r) n : Nat) : Int) = _
    rw [rankH_eq hn hr (fun _ _ => rfl)]
  · intro q hq
    subst hq
    refine Ok.bind ?_
    refine loop_FU n (fun i s => s.1 = ((nuL kd (pA n r) (uC kd c) r i : Nat) : Int) ∧ s.2 = (i : Int)) 0 ⟨rfl, rfl⟩ (by omega) (by omega) ?_ ?_
    · rintro i ⟨a, b⟩ hi ⟨e1, e2⟩
      dsimp only at e1 e2 ⊢
      subst e1 e2
      have hpi := pA_lt hn hr hi
      unfold fX12_numberNow_b77
      simp only [lt]
      rw [h.1, w32_n (a := i) (by omega), w32_n (a := n) (by omega), if_pos (by omega), gd_pos (by omega), Int.toNat_natCast, h90 i hi, side_r hn h hpi, Option.bind_some]
      by_cases hs : sd kd (pA n r i) = true
      · rw [if_pos hs, gd_pos (by omega), w32_n (a := pA n r i) (by omega), gd_pos (by omega), Int.toNat_natCast, h91 _ hpi, b2i_ne, b2n, Ok_some]
        refine ⟨?_, by push_cast; rfl⟩
        show _ = ((nuL kd (pA n r) (uC kd c) r (i + 1) : Nat) : Int)
        rw [nuL, if_pos hs]
        push_cast; rfl
      · rw [if_neg hs, Ok_some]
        refine ⟨?_, by push_cast; rfl⟩
        show _ = ((nuL kd (pA n r) (uC kd c) r (i + 1) : Nat) : Int)
        rw [nuL, if_neg hs]
    · rintro ⟨a, b⟩ ⟨e1, e2⟩
      dsimp only at e1 e2 ⊢
      subst e1 e2
      unfold fX12_numberNow_b77
      rw [h.1, w32_n (by omega), if_neg (by omega), Ok_some]
      show Ok _ _
      rw [Ok_some, hnuE]
/-- where a cake of place j lies while so many are being turned, i swaps done -/
def swp (m i j : Nat) : Nat := if j < i ∨ (m - 1 - i < j ∧ j < m) then m - 1 - j else j
theorem turns_r {m : Nat} (hn : n < 6) (h : Rg kd wd n μ) (hc : c < NN kd n) (hm1 : 1 ≤ m) (hm : m ≤ n) (hL : Ly kd n c μ) : Ok (fX12_turns (m : Int) μ) (fun ν => Ly kd n (tnC kd n c m) ν ∧ ∀ x, x ≠ 90 → x ≠ 91 → ν x = μ x) := by
  have hr := div_lt hc
  have hr' := TO_lt hn hr hm
  obtain ⟨h90, h91⟩ := hL
  have htn : tnC kd n c m / 2 ^ ix kd n = TO n (c / 2 ^ ix kd n) m := tnC_div
  have hup : ∀ k, k < n → uC kd (tnC kd n c m) k = (sd kd k && (uC kd c k ^^ vT n (c / 2 ^ ix kd n) m k)) := fun k hk => tnC_up hk
  have hpq : ∀ i, pA n (TO n (c / 2 ^ ix kd n) m) i = pA n (c / 2 ^ ix kd n) (if i < m then m - 1 - i else i) := fun i => pA_TO hn hr hm
  unfold Ly
  rw [htn]
  generalize hrr : c / 2 ^ ix kd n = r at *
  unfold fX12_turns
  have hpl := fun {i : Nat} (hi : i < n) => pA_lt hn hr hi
  -- the places
  refine Ok.then (loop_I (Q := fun ν : Mem => (∀ x, x ≠ 90 → ν x = μ x) ∧ ∀ j, j < n → ν 90 j = (pA n (TO n r m) j : Int)) _ (fun s : Int × Mem => 10 - s.1.toNat) (fun s : Int × Mem => ∃ i : Nat, s.1 = (i : Int) ∧ i + i ≤ m ∧ (∀ x, x ≠ 90 → s.2 x = μ x) ∧ ∀ j, j < n → s.2 90 j = (pA n r (swp m i j) : Int)) ⟨0, rfl, by omega, fun _ _ => rfl, fun j hj => by dsimp only; rw [h90 j hj]; congr 2; unfold swp; rw [if_neg (by omega)]⟩ (by show 10 - _ < _; omega) ?_) ?_
  · rintro ⟨a, θ⟩ ⟨i, e1, him, hx, hj⟩
    dsimp only at e1 hx hj ⊢
    subst e1
    unfold fX12_turns_b2
    have e5 : ((m : Int) - 1) - (i : Int) = ((m - 1 - i : Nat) : Int) := by omega
    rw [e5, w32_n (a := i) (by omega), w32_n (a := m - 1 - i) (by omega)]
    by_cases hlt : i < m - 1 - i
    · have hs1 : swp m i i = i := by unfold swp; rw [if_neg (by omega)]
      have hs2 : swp m i (m - 1 - i) = m - 1 - i := by unfold swp; rw [if_neg (by omega)]
      simp only [lt]
      rw [if_pos (by omega), gd_pos (by omega), gd_pos (by omega), gd_pos (by omega), gd_pos (by omega), Int.toNat_natCast, Int.toNat_natCast, hj i (by omega), hj (m - 1 - i) (by omega), hs1, hs2, Ok_some]
      refine ⟨⟨i + 1, by push_cast; rfl, by omega, fun x hx2 => ?_, fun j hj2 => ?_⟩, ?_⟩
      · try dsimp only
        rw [upd2_ne hx2, upd2_ne hx2]; exact hx x hx2
      · try dsimp only
        rw [upd2_self, upd2_self]
        by_cases ea : j = m - 1 - i
        · subst ea
          rw [if_pos rfl]
          congr 2; unfold swp; rw [if_pos (by omega)]; omega
        · rw [if_neg ea]
          by_cases eb : j = i
          · subst eb
            rw [if_pos rfl]
            congr 2; unfold swp; rw [if_pos (by omega)]
          · rw [if_neg eb, hj j hj2]
            congr 2
            unfold swp
            by_cases ec : j < i ∨ (m - 1 - i < j ∧ j < m)
            · rw [if_pos ec, if_pos (by omega)]
            · rw [if_neg ec, if_neg (by omega)]
      · show 10 - ((i : Int) + 1).toNat < 10 - (i : Int).toNat
        omega
    · rw [if_neg (by omega), Ok_some]
      refine ⟨hx, fun j hj2 => ?_⟩
      show θ 90 j = _
      rw [hj j hj2, hpq j]
      congr 2
      unfold swp
      by_cases ea : j < m
      · rw [if_pos ea]
        by_cases ec : j < i ∨ (m - 1 - i < j ∧ j < m)
        · rw [if_pos ec]
        · rw [if_neg ec]; omega
      · rw [if_neg ea, if_neg (by omega)]
  rintro θ ⟨hx1, hj1⟩
  have hRθ : Rg kd wd n θ := h.same (hx1 81 (by omega))
  have h91θ : ∀ k, k < n → θ 91 k = b2i (uC kd c k) := fun k hk => by rw [hx1 91 (by omega)]; exact h91 k hk
  refine Ok.bind ?_
  -- the sides
  refine Ok.imp (loop_FU (Q := fun ν : Mem => (∀ x, x ≠ 91 → ν x = θ x) ∧ ∀ k, k < n → ν 91 k = b2i (uC kd (tnC kd n c m) k)) m (fun (i : Nat) (s : Int × Mem) => s.1 = (i : Int) ∧ (∀ x, x ≠ 91 → s.2 x = θ x) ∧ ∀ k, k < n → s.2 91 k = b2i (sd kd k && (uC kd c k ^^ fsA n (TO n r m) i k))) 0 ⟨rfl, fun _ _ => rfl, fun k hk => ?_⟩ (by omega) (by omega) ?_ ?_) ?_
  · show θ 91 k = _
    rw [h91θ k hk]
    have : fsA n (TO n r m) 0 k = false := by simp [fsA]
    rw [this]
    unfold uC
    cases sd kd k <;> simp
  · rintro i ⟨a, ρ⟩ hi ⟨e1, hx, hk⟩
    dsimp only at e1 hx hk ⊢
    subst e1
    have hqi := pA_lt hn hr' (i := i) (by omega)
    have hRρ : Rg kd wd n ρ := hRθ.same (hx 81 (by omega))
    have h90ρ : ρ 90 i = (pA n (TO n r m) i : Int) := by rw [hx 90 (by omega)]; exact hj1 i (by omega)
    have hself : fsA n (TO n r m) i (pA n (TO n r m) i) = false := by
      unfold fsA; rw [posA_pA hn hr' (by omega)]; simp
    have hnext : ∀ v : Bool, v = (sd kd (pA n (TO n r m) i) && (!uC kd c (pA n (TO n r m) i))) → ∀ k, k < n → upd2 ρ 91 (pA n (TO n r m) i) (b2i v) 91 k = b2i (sd kd k && (uC kd c k ^^ fsA n (TO n r m) (i + 1) k)) := fun v hv k hk2 => by
      rw [upd2_self, fsA_succ hn hr' (by omega) hk2]
      by_cases e : k = pA n (TO n r m) i
      · subst e
        rw [if_pos rfl, hv]
        simp
      · rw [if_neg e, hk k hk2]
        simp [e]
    have hcur := hk _ hqi
    rw [hself] at hcur
    unfold fX12_turns_b53
    simp only [lt]
    rw [w32_n (a := i) (by omega), w32_n (a := m) (by omega), if_pos (by omega), gd_pos (by omega), gd_pos (by omega), Int.toNat_natCast, h90ρ, side_r hn hRρ hqi, Option.bind_some]
    by_cases hs : sd kd (pA n (TO n r m) i) = true
    · rw [if_pos hs, gd_pos (by omega), w32_n (a := pA n (TO n r m) i) (by omega), gd_pos (by omega), Int.toNat_natCast, hcur, b2i_ne, gd_pos (by omega), Ok_some]
      have hv : (if (sd kd (pA n (TO n r m) i) && (uC kd c (pA n (TO n r m) i) ^^ false)) = true then false else true) = (sd kd (pA n (TO n r m) i) && (!uC kd c (pA n (TO n r m) i))) := by
        rw [hs]; cases uC kd c (pA n (TO n r m) i) <;> rfl
      rw [hv]
      exact ⟨by push_cast; rfl, fun x hx2 => by try dsimp only; rw [upd2_ne hx2]; exact hx x hx2, hnext _ rfl⟩
    · have hs2 : sd kd (pA n (TO n r m) i) = false := by simpa using hs
      rw [if_neg hs, w32_n (a := pA n (TO n r m) i) (by omega), gd_pos (by omega), Int.toNat_natCast, Ok_some]
      exact ⟨by push_cast; rfl, fun x hx2 => by try dsimp only; rw [upd2_ne hx2]; exact hx x hx2, hnext false (by rw [hs2]; rfl)⟩
  · rintro ⟨a, ρ⟩ ⟨e1, hx, hk⟩
    dsimp only at e1 hx hk ⊢
    subst e1
    unfold fX12_turns_b53
    rw [w32_n (by omega), if_neg (by omega), Ok_some]
    exact ⟨hx, fun k hk2 => by show ρ 91 k = _; rw [hk k hk2, hup k hk2]; rfl⟩
  · rintro ρ ⟨hx, hk⟩
    rw [Ok_some]
    exact ⟨⟨fun i hi => by rw [hx 90 (by omega)]; exact hj1 i hi, hk⟩, fun x h1 h2 => by rw [hx x h2]; exact hx1 x h1⟩
/-! laws, as the reference has them -/
def WK (p : Nat) (f : LawF) (μ : Mem) : Prop := ∀ μ' : Mem, (∀ i, i < 1100 → μ' 82 i = μ 82 i) → ∀ a b c d : Nat, a < 1000 → b < 1000 → c < 1000 → d < 1000 → μ' 86 0 = a → μ' 86 1 = b → μ' 86 2 = c → μ' 86 3 = d → Ok (fX12_worthAt (p : Int) μ') (fun q => q.1 = f a b c d ∧ ∀ x, x ≠ 87 → q.2 x = μ' x)
def RLw (slot : Nat) (f : LawF) (dv : Int) (μ : Mem) : Prop := (μ 81 slot = -1 ∧ ∀ a b c d, f a b c d = dv) ∨ ∃ p : Nat, μ 81 slot = p ∧ p < 2000 ∧ WK p f μ
theorem RLw.same {slot : Nat} {f : LawF} {dv : Int} (h : RLw slot f dv μ) (e1 : ν 81 = μ 81) (e2 : ν 82 = μ 82) : RLw slot f dv ν := by
  rcases h with ⟨h1, h2⟩ | ⟨p, h1, h2, h3⟩
  · exact Or.inl ⟨by rw [e1]; exact h1, h2⟩
  · exact Or.inr ⟨p, by rw [e1]; exact h1, h2, fun μ' e => h3 μ' (fun i hi => (e i hi).trans (congrFun e2 i))⟩
theorem facts_r {m : Nat} (hn : n < 6) (h : Rg kd wd n μ) (hc : c < NN kd n) (hm : m ≤ n) (hL : Ly kd n c μ) : Ok (fX12_factsFor (m : Int) μ) (fun ν => (∀ x, x ≠ 86 → ν x = μ x) ∧ ν 86 0 = m ∧ ν 86 1 = ((n - m : Nat) : Int) ∧ ν 86 2 = wtC kd wd n c m ∧ ν 86 3 = brC kd n c m) := by
  have hr := div_lt hc
  obtain ⟨h90, h91⟩ := hL
  unfold fX12_factsFor wtC brC
  simp only [lt]
  generalize c / 2 ^ ix kd n = r at *
  generalize h4 : upd2 (upd2 (upd2 (upd2 μ 86 0 (m : Int)) 86 1 ((upd2 μ 86 0 (m : Int)) 81 0 - (m : Int))) 86 2 0) 86 3 0 = μ4
  have hx4 : ∀ x, x ≠ 86 → μ4 x = μ x := fun x hx => by rw [← h4, upd2_ne hx, upd2_ne hx, upd2_ne hx, upd2_ne hx]
  have e0 : μ4 86 0 = m := by rw [← h4, upd2_nj (by omega), upd2_nj (by omega), upd2_nj (by omega), upd2_at]
  have e1 : μ4 86 1 = ((n - m : Nat) : Int) := by rw [← h4, upd2_nj (by omega), upd2_nj (by omega), upd2_at, upd2_ne (by omega), h.1]; omega
  have e2 : μ4 86 2 = 0 := by rw [← h4, upd2_nj (by omega), upd2_at]
  have e3 : μ4 86 3 = 0 := by rw [← h4, upd2_at]
  clear h4
  refine Ok.bind ?_
  refine Ok.imp (loop_FU (Q := fun ν : Mem => (∀ x, x ≠ 86 → ν x = μ x) ∧ ν 86 0 = m ∧ ν 86 1 = ((n - m : Nat) : Int) ∧ ν 86 2 = ((sm m (fun i => wt kd wd (pA n r i)) : Nat) : Int) ∧ ν 86 3 = ((sm m (fun i => if uC kd c (pA n r i) = true then 1 else 0) : Nat) : Int)) m (fun (i : Nat) (s : Int × Mem) => s.1 = (i : Int) ∧ (∀ x, x ≠ 86 → s.2 x = μ x) ∧ s.2 86 0 = m ∧ s.2 86 1 = ((n - m : Nat) : Int) ∧ s.2 86 2 = ((sm i (fun i => wt kd wd (pA n r i)) : Nat) : Int) ∧ s.2 86 3 = ((sm i (fun i => if uC kd c (pA n r i) = true then 1 else 0) : Nat) : Int)) 0 ⟨rfl, hx4, e0, e1, e2, e3⟩ (by omega) (by omega) ?_ ?_) ?_
  · rintro i ⟨a, ρ⟩ hi ⟨g0, hx, g1, g2, g3, g4⟩
    dsimp only at g0 hx g1 g2 g3 g4 ⊢
    subst g0
    have hpi := pA_lt hn hr (i := i) (by omega)
    have hRρ : Rg kd wd n ρ := h.same (hx 81 (by omega))
    have h90ρ : ρ 90 i = (pA n r i : Int) := by rw [hx 90 (by omega)]; exact h90 i (by omega)
    have hw2 : w32 2 = 2 := by decide
    have hk4 := (hRρ.2 _ hpi).2.1
    have fin : ∀ w : Int, w = (wt kd wd (pA n r i) : Int) → Ok (fX12_factsFor_j81 (m : Int) (i : Int) (pA n r i : Int) w (ρ 86 2) 2 ρ) (Sum.elim (fun s => s.1 = ((i + 1 : Nat) : Int) ∧ (∀ x, x ≠ 86 → s.2 x = μ x) ∧ s.2 86 0 = m ∧ s.2 86 1 = ((n - m : Nat) : Int) ∧ s.2 86 2 = ((sm (i + 1) (fun i => wt kd wd (pA n r i)) : Nat) : Int) ∧ s.2 86 3 = ((sm (i + 1) (fun i => if uC kd c (pA n r i) = true then 1 else 0) : Nat) : Int)) (fun ν : Mem => (∀ x, x ≠ 86 → ν x = μ x) ∧ ν 86 0 = m ∧ ν 86 1 = ((n - m : Nat) : Int) ∧ ν 86 2 = ((sm m (fun i => wt kd wd (pA n r i)) : Nat) : Int) ∧ ν 86 3 = ((sm m (fun i => if uC kd c (pA n r i) = true then 1 else 0) : Nat) : Int))) := fun w hw => by
      unfold fX12_factsFor_j81
      simp only [lt]
      have t2 : (2 : Int).toNat = 2 := rfl
      rw [hw2, t2, gd_pos (by omega), w32_n (a := pA n r i) (by omega), gd_pos (by omega), Int.toNat_natCast]
      have h912 : upd2 ρ 86 2 (ρ 86 2 + w) 91 (pA n r i) = b2i (uC kd c (pA n r i)) := by
        rw [upd2_ne (by omega), hx 91 (by omega)]; exact h91 _ hpi
      rw [h912, b2i_ne, b2n, Ok_some]
      refine ⟨by push_cast; rfl, fun x hx2 => ?_, ?_, ?_, ?_, ?_⟩
      · try dsimp only
        rw [upd2_ne hx2, upd2_ne hx2]; exact hx x hx2
      · try dsimp only
        rw [upd2_nj (by omega), upd2_nj (by omega)]; exact g1
      · try dsimp only
        rw [upd2_nj (by omega), upd2_nj (by omega)]; exact g2
      · try dsimp only
        rw [upd2_nj (by omega), upd2_at, g3, hw, sm]; push_cast; rfl
      · try dsimp only
        rw [upd2_at, upd2_nj (by omega), g4, sm]; push_cast; rfl
    unfold fX12_factsFor_b35
    simp only [lt]
    rw [w32_n (a := i) (by omega), w32_n (a := m) (by omega), if_pos (by omega), gd_pos (by omega), Int.toNat_natCast, h90ρ, kind_r hn hRρ hpi, wide_r hn hRρ hpi, Option.bind_some, Option.bind_some, Option.bind_some, w32_n (by omega), hw2]
    by_cases hh : kd (pA n r i) = 2
    · rw [if_pos (by omega)]
      exact fin _ (by unfold wt; rw [if_pos hh]; push_cast; rfl)
    · rw [if_neg (by omega)]
      exact fin _ (by unfold wt; rw [if_neg hh])
  · rintro ⟨a, ρ⟩ ⟨g0, hx, g1, g2, g3, g4⟩
    dsimp only at g0 hx g1 g2 g3 g4 ⊢
    subst g0
    unfold fX12_factsFor_b35
    rw [w32_n (by omega), if_neg (by omega), Ok_some]
    exact ⟨hx, g1, g2, g3, g4⟩
  · rintro ρ hρ
    rw [Ok_some]
    exact hρ
theorem wtC_lt {m : Nat} (hn : n < 6) (h : Rg kd wd n μ) (hc : c < NN kd n) (hm : m ≤ n) : wtC kd wd n c m < 311 := by
  unfold wtC
  have h1 := sm_le (n := m) (f := fun i => wt kd wd (pA n (c / 2 ^ ix kd n) i)) (g := fun _ => 62) (fun i hi => by
    have := wt_lt (kd := kd) (h.2 _ (pA_lt hn (div_lt hc) (i := i) (by omega))).2.2.2
    omega)
  have h2 : ∀ m, sm m (fun _ => 62) = m * 62 := fun m => by
    induction m with
    | zero => rfl
    | succ m ih => rw [sm, ih]; omega
  rw [h2] at h1
  omega
theorem may_r {m : Nat} (hn : n < 6) (h : Rg kd wd n μ) (hB : RLw 1 BE 0 μ) (hBn : FN BE) (hc : c < NN kd n) (hm1 : 1 ≤ m) (hm : m ≤ n) (hL : Ly kd n c μ) : Ok (fX12_mayTurn (m : Int) μ) (fun o => o.1 = opC kd wd n BE c m ∧ ∀ x, x ≠ 86 → x ≠ 87 → o.2 x = μ x) := by
  have hw1 : w32 1 = 1 := by decide
  have hw3 : w32 3 = 3 := by decide
  have hwt := wtC_lt (c := c) hn h hc hm
  have hbr := brC_le (kd := kd) (n := n) (c := c) (m := m)
  have law : ∀ b : Bool, b = (!(decide (1 < m) && decide (kd (pA n (c / 2 ^ ix kd n) (m - 1)) = 3))) → b = true → Ok (fX12_mayTurn_j24 (m : Int) μ) (fun o => o.1 = opC kd wd n BE c m ∧ ∀ x, x ≠ 86 → x ≠ 87 → o.2 x = μ x) := fun b hb hbt => by
    have hop : opC kd wd n BE c m = decide (BE m (n - m) (wtC kd wd n c m) (brC kd n c m) = 0) := by
      unfold opC; rw [← hb, hbt, Bool.true_and]
    unfold fX12_mayTurn_j24
    refine Ok.then (facts_r hn h hc hm hL) ?_
    rintro θ ⟨hx, f0, f1, f2, f3⟩
    rcases hB with ⟨h1, h2⟩ | ⟨p, h1, h2, h3⟩
    · rw [hx 81 (by omega), h1, if_pos (by decide), Ok_some, hop, h2]
      exact ⟨rfl, fun x g1 _ => hx x g1⟩
    · rw [hx 81 (by omega), h1, w32_n (by omega), if_neg (by omega)]
      refine Ok.then (h3 θ (fun i _ => congrFun (hx 82 (by omega)) i) m (n - m) (wtC kd wd n c m) (brC kd n c m) (by omega) (by omega) (by omega) (by omega) f0 f1 f2 f3) ?_
      rintro ⟨o1, o2⟩ ⟨g1, g2⟩
      dsimp only at g1 g2 ⊢
      simp only [lt]
      rw [g1, w32_eq (hBn _ _ _ _).1 (hBn _ _ _ _).2, Ok_some, hop]
      refine ⟨?_, fun x q1 q2 => (g2 x q2).trans (hx x q1)⟩
      show (if _ then true else false) = _
      by_cases e : BE m (n - m) (wtC kd wd n c m) (brC kd n c m) = 0
      · rw [if_pos e]; simp [e]
      · rw [if_neg e]; simp [e]
  unfold fX12_mayTurn
  rw [w32_n (by omega), hw1]
  by_cases hm2 : m = 1
  · rw [if_pos (by omega)]
    exact law true (by simp [hm2]) rfl
  · have e5 : (m : Int) - 1 = ((m - 1 : Nat) : Int) := by omega
    have hpi := pA_lt hn (div_lt hc) (i := m - 1) (by omega)
    rw [if_neg (by omega), e5, w32_n (by omega), gd_pos (by omega), Int.toNat_natCast, hL.1 _ (by omega), kind_r hn h hpi, Option.bind_some]
    have hk4 := (h.2 _ hpi).2.1
    rw [w32_n (by omega), hw3]
    by_cases hg : kd (pA n (c / 2 ^ ix kd n) (m - 1)) = 3
    · rw [if_pos (by omega), Ok_some]
      refine ⟨?_, fun _ _ _ => rfl⟩
      unfold opC
      have : 1 < m := by omega
      simp [hg, this]
    · rw [if_neg (by omega)]
      exact law true (by simp [hg]) rfl
theorem cost_r {m : Nat} (hn : n < 6) (h : Rg kd wd n μ) (hC : RLw 2 CE 1 μ) (hCn : FN CE) (hc : c < NN kd n) (hm : m ≤ n) (hL : Ly kd n c μ) : Ok (fX12_costOf (m : Int) μ) (fun o => o.1 = prC kd wd n CE c m ∧ ∀ x, x ≠ 86 → x ≠ 87 → o.2 x = μ x) := by
  have hw1 : w32 1 = 1 := by decide
  have hw9 : w32 9 = 9 := by decide
  have hwt := wtC_lt (c := c) hn h hc hm
  have hbr := brC_le (kd := kd) (n := n) (c := c) (m := m)
  have hcl := clampI_b (x := CE m (n - m) (wtC kd wd n c m) (brC kd n c m))
  have fin : ∀ (v : Int) (θ : Mem), v = CE m (n - m) (wtC kd wd n c m) (brC kd n c m) → (∀ x, x ≠ 86 → x ≠ 87 → θ x = μ x) → Ok (fX12_costOf_j28 (m : Int) v θ) (fun o => o.1 = prC kd wd n CE c m ∧ ∀ x, x ≠ 86 → x ≠ 87 → o.2 x = μ x) := fun v θ hv hx => by
    subst hv
    have hN := hCn m (n - m) (wtC kd wd n c m) (brC kd n c m)
    unfold fX12_costOf_j28
    simp only [lt]
    rw [w32_eq hN.1 hN.2, hw1, hw9, Ok_some]
    refine ⟨?_, hx⟩
    show clampI _ = _
    unfold prC
    omega
  unfold fX12_costOf
  refine Ok.then (facts_r hn h hc hm hL) ?_
  rintro θ ⟨hx, f0, f1, f2, f3⟩
  rcases hC with ⟨h1, h2⟩ | ⟨p, h1, h2, h3⟩
  · rw [hx 81 (by omega), h1, if_pos (by decide)]
    exact fin 1 θ (h2 _ _ _ _).symm (fun x q1 _ => hx x q1)
  · rw [hx 81 (by omega), h1, w32_n (by omega), if_neg (by omega)]
    refine Ok.then (h3 θ (fun i _ => congrFun (hx 82 (by omega)) i) m (n - m) (wtC kd wd n c m) (brC kd n c m) (by omega) (by omega) (by omega) (by omega) f0 f1 f2 f3) ?_
    rintro ⟨o1, o2⟩ ⟨g1, g2⟩
    exact fin o1 o2 g1 (fun x q1 q2 => (g2 x q2).trans (hx x q1))
end REF2
