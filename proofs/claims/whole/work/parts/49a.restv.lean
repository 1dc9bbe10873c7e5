/-! ===== level 2: rests, what it says ===== -/
section RESTV
variable {μ : Mem} {a b c d : Int}
theorem gain_eq (x y : Int) : fX11_gain x y a b c = fX12_getsBy x y a b c := by
  unfold fX11_gain fX12_getsBy
  simp only [lt]
/-- the pair q is one where a slice rests -/
def rsB (a b c : Int) (q : Nat) : Bool := decide (w32 (fX12_getsBy (1 - ((q / 2 : Nat) : Int)) ((q % 2 : Nat) : Int) a b c) ≤ w32 (fX12_getsBy ((q / 2 : Nat) : Int) ((q % 2 : Nat) : Int) a b c)) && decide (w32 (fX12_getsBy (1 - ((q % 2 : Nat) : Int)) ((q / 2 : Nat) : Int) a b c) ≤ w32 (fX12_getsBy ((q % 2 : Nat) : Int) ((q / 2 : Nat) : Int) a b c))
def rsF (a b c : Int) (d : Int) : Nat → Int
  | 0 => -1
  | q + 1 => if rsB a b c q = true ∧ (cn q (rsB a b c) : Int) = d then (q : Int) else rsF a b c d q
theorem rsF_s (q : Nat) : rsF a b c d (q + 1) = if rsB a b c q = true ∧ (cn q (rsB a b c) : Int) = d then (q : Int) else rsF a b c d q := rfl
theorem rsF_b : ∀ q, -1 ≤ rsF a b c d q ∧ rsF a b c d q < q
  | 0 => ⟨by unfold rsF; omega, by unfold rsF; omega⟩
  | q + 1 => by
    have h := rsF_b q
    unfold rsF
    split <;> constructor <;> push_cast <;> omega
theorem rstep_c {i : Nat} (hi : i < 4) (hd : w32 d = d) : fX11_rests_b41 a b c d (cn i (rsB a b c) : Int) (i : Int) μ = some (if rsB a b c i = true ∧ (cn i (rsB a b c) : Int) = d then .inr ((i : Int), false) else .inl ((cn (i + 1) (rsB a b c) : Int), ((i + 1 : Nat) : Int))) := by
  have hc := cn_le (p := rsB a b c) (n := i)
  have e2 : i_div (i : Int) 2 = ((i / 2 : Nat) : Int) := by rw [show (2 : Int) = ((2 : Nat) : Int) from rfl, i_div_n (by omega) (by omega)]
  have e3 : i_rem (i : Int) 2 = ((i % 2 : Nat) : Int) := by rw [show (2 : Int) = ((2 : Nat) : Int) from rfl, i_rem_n (by omega) (by omega)]
  unfold fX11_rests_b41 fX11_rests_j131
  simp only [lt]
  rw [e2, e3, gain_eq, gain_eq, gain_eq, gain_eq, w32_n (a := i) (by omega), show w32 4 = 4 from by decide, if_pos (by omega), w32_n (a := cn i (rsB a b c)) (by omega), hd]
  have hb : (if w32 (fX12_getsBy ((i / 2 : Nat) : Int) ((i % 2 : Nat) : Int) a b c) < w32 (fX12_getsBy (1 - ((i / 2 : Nat) : Int)) ((i % 2 : Nat) : Int) a b c) then false else if w32 (fX12_getsBy ((i % 2 : Nat) : Int) ((i / 2 : Nat) : Int) a b c) < w32 (fX12_getsBy (1 - ((i % 2 : Nat) : Int)) ((i / 2 : Nat) : Int) a b c) then false else true) = rsB a b c i := by
    unfold rsB
    by_cases q1 : w32 (fX12_getsBy ((i / 2 : Nat) : Int) ((i % 2 : Nat) : Int) a b c) < w32 (fX12_getsBy (1 - ((i / 2 : Nat) : Int)) ((i % 2 : Nat) : Int) a b c)
    · rw [if_pos q1, decide_eq_false (by omega), Bool.false_and]
    · rw [if_neg q1, decide_eq_true (by omega), Bool.true_and]
      by_cases q2 : w32 (fX12_getsBy ((i % 2 : Nat) : Int) ((i / 2 : Nat) : Int) a b c) < w32 (fX12_getsBy (1 - ((i % 2 : Nat) : Int)) ((i / 2 : Nat) : Int) a b c)
      · rw [if_pos q2, decide_eq_false (by omega)]
      · rw [if_neg q2, decide_eq_true (by omega)]
  rw [hb, cn_succ]
  cases hB : rsB a b c i with
  | true =>
    rw [if_pos rfl, if_pos rfl]
    by_cases q : (cn i (rsB a b c) : Int) = d
    · rw [if_pos q, if_pos ⟨rfl, q⟩]
    · rw [if_neg q, if_neg (fun h => q h.2)]
      push_cast; rfl
  | false =>
    rw [if_neg (by decide), if_neg (by decide), if_neg (fun h => Bool.false_ne_true h.1)]
    push_cast; rfl

theorem rloop_c (hd : w32 d = d) (h1 : -1 ≤ d) : Ok (loopN (fun s => fX11_rests_b41 a b c d s.1 s.2 μ) FU (0, 0)) (fun o => o = if 0 ≤ rsF a b c d 4 then (rsF a b c d 4, false) else if d = -1 then ((cn 4 (rsB a b c) : Int), false) else (0, true)) := by
  have later : ∀ k i, i + k ≤ 4 → 0 ≤ rsF a b c d i → rsF a b c d (i + k) = rsF a b c d i ∨ ∃ m, i ≤ m ∧ m < i + k ∧ rsB a b c m = true ∧ (cn m (rsB a b c) : Int) = d := fun k => by
    induction k with
    | zero => intro i _ _; exact Or.inl rfl
    | succ k ih =>
      intro i hk hp
      rcases ih i (by omega) hp with e | ⟨m, m1, m2, m3⟩
      · by_cases q : rsB a b c (i + k) = true ∧ (cn (i + k) (rsB a b c) : Int) = d
        · exact Or.inr ⟨i + k, by omega, by omega, q⟩
        · refine Or.inl ?_
          rw [← Nat.add_assoc, rsF_s, if_neg q]; exact e
      · exact Or.inr ⟨m, m1, by omega, m3⟩
  refine loop_FU 4 (fun (i : Nat) (s : Int × Int) => s.1 = (cn i (rsB a b c) : Int) ∧ s.2 = (i : Int) ∧ rsF a b c d i = -1) 0 ⟨rfl, rfl, rfl⟩ (by omega) (by omega) ?_ ?_
  · rintro i ⟨x, y⟩ hi ⟨e1, e2, e3⟩
    dsimp only at e1 e2 ⊢
    subst e1 e2
    rw [rstep_c hi hd, Ok_some]
    by_cases q : rsB a b c i = true ∧ (cn i (rsB a b c) : Int) = d
    · rw [if_pos q]
      have hF : rsF a b c d (i + 1) = (i : Int) := by unfold rsF; rw [if_pos q]
      have hone : ∀ m, i + 1 ≤ m → m < 4 → rsB a b c m = true → ¬ (cn m (rsB a b c) : Int) = d := fun m m1 m2 h3 e => by
        have : cn (i + 1) (rsB a b c) ≤ cn m (rsB a b c) := by
          obtain ⟨k, rfl⟩ : ∃ k, m = i + 1 + k := ⟨m - (i + 1), by omega⟩
          clear m1 m2 e h3
          induction k with
          | zero => exact Nat.le_refl _
          | succ k ih => exact Nat.le_trans ih (show cn (i + 1 + k) (rsB a b c) ≤ cn (i + 1 + (k + 1)) (rsB a b c) by rw [show i + 1 + (k + 1) = (i + 1 + k) + 1 by omega, cn_succ]; omega)
        rw [cn_succ, q.1, if_pos rfl] at this
        have q2 := q.2
        omega
      have hl := later (4 - (i + 1)) (i + 1) (by omega) (by rw [hF]; omega)
      rw [show i + 1 + (4 - (i + 1)) = 4 by omega] at hl
      rcases hl with e | ⟨m, m1, m2, m3, m4⟩
      · show ((i : Int), false) = _
        rw [e, hF, if_pos (by omega)]
      · exact absurd m4 (hone m m1 m2 m3)
    · rw [if_neg q]
      refine ⟨rfl, rfl, ?_⟩
      unfold rsF
      rw [if_neg q]; exact e3
  · rintro ⟨x, y⟩ ⟨e1, e2, e3⟩
    dsimp only at e1 e2 ⊢
    subst e1 e2
    unfold fX11_rests_b41
    rw [show w32 ((4 : Nat) : Int) = 4 from by decide, show w32 4 = 4 from by decide, if_neg (by omega), hd, show w32 (-1) = -1 from by decide, e3, if_neg (show ¬ (0 : Int) ≤ -1 by decide)]
    by_cases q : d = -1
    · rw [if_pos q, if_pos q, Ok_some]; rfl
    · rw [if_neg q, if_neg q, Ok_some]; rfl
end RESTV
