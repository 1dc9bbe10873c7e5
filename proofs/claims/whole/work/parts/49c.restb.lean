/-! ===== level 2: rests, both say the same ===== -/
section RESTB
variable {μ ν : Mem} {a b c d : Int}
theorem dig_eq (x : Int) : fX12_within x 0 9 = fX11_isDigit x := by
  unfold fX12_within fX11_isDigit
  simp only [lt]
  rw [show w32 0 = 0 from by decide]
theorem j174_f {x y : Int} : fX12_rests_j174 a b c d false x y ν = some (0, upd2 ν 75 0 1) := by
  unfold fX12_rests_j174
  simp only [lt]
  rw [if_neg (show ¬ false = true by decide), upd2_at, if_neg (show ¬ w32 (b2i true) ≤ 0 by decide)]
  rfl
theorem rloop_f : loopN (fun s => fX12_rests_b52 a b c d false s.1 s.2.1 s.2.2.1 s.2.2.2) FU (0, -1, 0, ν) = some (0, -1, ν) := by
  apply Ok_val
  refine loop_FU 0 (fun (i : Nat) (s : Int × Int × Int × Mem) => s = (0, -1, 0, ν)) 0 rfl (by omega) (by omega) (fun i s hi => absurd hi (Nat.not_lt_zero i)) ?_
  rintro s rfl
  dsimp only
  unfold fX12_rests_b52
  rw [show w32 0 = 0 from by decide, show w32 4 = 4 from by decide, if_pos (by omega), if_neg (show ¬ false = true by decide), Ok_some]
  rfl
end RESTB
