/-! ===== level 2: rests, in the reference ===== -/
section RESTR
variable {μ : Mem} {a b c d : Int}
theorem rloop_r (hd : w32 d = d) : Ok (loopN (fun s => fX12_rests_b52 a b c d true s.1 s.2.1 s.2.2.1 s.2.2.2) FU (0, -1, 0, μ)) (fun o => o = ((cn 4 (rsB a b c) : Int), rsF a b c d 4, μ)) := by
  refine loop_FU 4 (fun (i : Nat) (s : Int × Int × Int × Mem) => s = ((cn i (rsB a b c) : Int), rsF a b c d i, (i : Int), μ)) 0 rfl (by omega) (by omega) ?_ ?_
  · rintro i ⟨x, y, z, ρ⟩ hi e
    cases e
    have hc := cn_le (p := rsB a b c) (n := i)
    have e2 : i_div (i : Int) 2 = ((i / 2 : Nat) : Int) := by rw [show (2 : Int) = ((2 : Nat) : Int) from rfl, i_div_n (by omega) (by omega)]
    have e3 : i_rem (i : Int) 2 = ((i % 2 : Nat) : Int) := by rw [show (2 : Int) = ((2 : Nat) : Int) from rfl, i_rem_n (by omega) (by omega)]
    have hb : (if w32 (fX12_getsBy (1 - ((i / 2 : Nat) : Int)) ((i % 2 : Nat) : Int) a b c) ≤ w32 (fX12_getsBy ((i / 2 : Nat) : Int) ((i % 2 : Nat) : Int) a b c) then (if w32 (fX12_getsBy (1 - ((i % 2 : Nat) : Int)) ((i / 2 : Nat) : Int) a b c) ≤ w32 (fX12_getsBy ((i % 2 : Nat) : Int) ((i / 2 : Nat) : Int) a b c) then true else false) else false) = rsB a b c i := by
      unfold rsB
      by_cases q1 : w32 (fX12_getsBy (1 - ((i / 2 : Nat) : Int)) ((i % 2 : Nat) : Int) a b c) ≤ w32 (fX12_getsBy ((i / 2 : Nat) : Int) ((i % 2 : Nat) : Int) a b c)
      · rw [if_pos q1, decide_eq_true q1, Bool.true_and]
        by_cases q2 : w32 (fX12_getsBy (1 - ((i % 2 : Nat) : Int)) ((i / 2 : Nat) : Int) a b c) ≤ w32 (fX12_getsBy ((i % 2 : Nat) : Int) ((i / 2 : Nat) : Int) a b c)
        · rw [if_pos q2, decide_eq_true q2]
        · rw [if_neg q2, decide_eq_false q2]
      · rw [if_neg q1, decide_eq_false q1, Bool.false_and]
    dsimp only
    unfold fX12_rests_b52
    simp only [lt]
    rw [e2, e3, hb, w32_n (a := i) (by omega), show w32 4 = 4 from by decide, if_pos (by omega), if_pos trivial, w32_n (a := cn i (rsB a b c)) (by omega), hd, Ok_some]
    show _ = _
    rw [rsF_s, cn_succ]
    cases hB : rsB a b c i with
    | true =>
      rw [if_pos rfl, if_pos rfl, if_pos rfl]
      by_cases q : (cn i (rsB a b c) : Int) = d
      · rw [if_pos q, if_pos ⟨rfl, q⟩]; push_cast; rfl
      · rw [if_neg q, if_neg (fun h => q h.2)]; push_cast; rfl
    | false =>
      rw [if_neg (by decide), if_neg (by decide), if_neg (by decide), if_neg (fun h => Bool.false_ne_true h.1)]; push_cast; rfl
  · rintro ⟨x, y, z, ρ⟩ e
    cases e
    unfold fX12_rests_b52
    dsimp only
    rw [show w32 ((4 : Nat) : Int) = 4 from by decide, show w32 4 = 4 from by decide, if_neg (by omega), Ok_some]
    rfl
end RESTR
