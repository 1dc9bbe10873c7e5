/-! ===== level 2: rests, joined ===== -/
section RESTJ
variable {μ ν : Mem} {a b c d : Int}
theorem rest_bad (h : fX11_rests a b c d μ = some (0, true)) (hg : ¬ (fX11_isDigit a = true ∧ fX11_isDigit b = true ∧ fX11_isDigit c = true ∧ ¬ w32 d < w32 (-1))) : fX12_rests a b c d ν = some (0, upd2 ν 75 0 1) := by
  have hv : (if fX12_within a 0 9 = true then if fX12_within b 0 9 = true then if fX12_within c 0 9 = true then if w32 d < w32 (-1) then false else true else false else false else false) = false := by
    rw [dig_eq, dig_eq, dig_eq]
    by_cases q1 : fX11_isDigit a = true
    · rw [if_pos q1]
      by_cases q2 : fX11_isDigit b = true
      · rw [if_pos q2]
        by_cases q3 : fX11_isDigit c = true
        · rw [if_pos q3]
          by_cases q4 : w32 d < w32 (-1)
          · rw [if_pos q4]
          · exact absurd ⟨q1, q2, q3, q4⟩ hg
        · rw [if_neg q3]
      · rw [if_neg q2]
    · rw [if_neg q1]
  unfold fX12_rests
  simp only [lt]
  rw [hv, rloop_f, Option.bind_some]
  exact j174_f
end RESTJ
