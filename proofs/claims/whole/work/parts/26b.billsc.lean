/-! ===== level 2: the class's row of the least sums ===== -/
section BILLC
variable {N n goal : Nat} {tn : Nat → Nat → Nat} {op : Nat → Nat → Bool} {pr : Nat → Nat → Nat} {μ μ0 : Mem}
theorem imax_n {a b : Int} (ha : -100000 ≤ a ∧ a < 100000) (hb : -100000 ≤ b ∧ b < 100000) : imax a b = max a b := by
  unfold imax
  rw [w32_eq (by omega) (by omega), w32_eq (by omega) (by omega)]
  split <;> omega
/-- the row holds F -/
def BM (N : Nat) (F : Nat → Int) (μ0 μ : Mem) : Prop := (∀ c, c < N → μ 54 c = F c) ∧ ∀ x, x ≠ 54 → μ x = μ0 x
theorem b_at {c : Nat} {F : Nat → Int} (hN : N ≤ 3840) (h : BM N F μ0 μ) (hc : c < N) : fX11_at 54 (c : Int) μ = F c := by
  rw [at_n c rfl (L := 3840) rfl (by omega) (by omega)]; exact h.1 c hc
theorem BM.gr {F : Nat → Int} (h : BM N F μ0 μ) (hg : Gr N n goal tn op pr μ0) : Gr N n goal tn op pr μ := hg.same (fun j _ => by rw [h.2 25 (by omega)]) (fun y h1 h2 => h.2 y (by omega))
/-- one stack of the level -/
theorem learnBehind_ok {d : Nat} {v : Nat} {F : Nat → Int} {top : Int} (hp : Gp N n goal tn pr) (hg : Gr N n goal tn op pr μ0) (hd : d < N) (hM : BM N F μ0 μ) (hI : BI N n tn op pr goal (fun x => x) v d 1 F) (hT : BT N F (fun x => x) v d top) (hFd : F d = v) :
    Ok (fX0_learnBehind (d : Int) (v : Int) μ) (fun o => ∃ F', BM N F' μ0 o.2 ∧ BI N n tn op pr goal (fun x => x) v (d + 1) 1 F' ∧ BT N F' (fun x => x) v (d + 1) (max top o.1) ∧ 0 ≤ o.1 ∧ o.1 ≤ v + 9 ∧ F' d = v) := by
  have hN := hp.2.1
  have hn := hp.1
  have hcl := cB_le (N := N) (F := F) (r := fun x => x) (v := (v : Int)) (x0 := 0)
  have hcl2 := cB_le (N := N) (F := F) (r := fun x => x) (v := (v : Int)) (x0 := d)
  have hvb : v ≤ 34560 := by have := hT.2.2; omega
  have htb : top ≤ 34560 := by have := hT.2.1; omega
  unfold fX0_learnBehind
  refine Ok.bind ?_
  refine Ok.imp (loop_FU (Q := fun o : Int × Mem => ∃ F', BM N F' μ0 o.2 ∧ BI N n tn op pr goal (fun x => x) v (d + 1) 1 F' ∧ BT N F' (fun x => x) v (d + 1) (max top o.1) ∧ 0 ≤ o.1 ∧ o.1 ≤ v + 9 ∧ F' d = v) (n + 1) (fun (m : Nat) (s : Int × Int × Mem) => 1 ≤ m ∧ s.2.1 = (m : Int) ∧ 0 ≤ s.1 ∧ s.1 ≤ v + 9 ∧ ∃ F', BM N F' μ0 s.2.2 ∧ BI N n tn op pr goal (fun x => x) v d m F' ∧ F' d = v ∧ (∀ c, c < N → F' c ≤ max top s.1) ∧ ∀ x0, cB N F' (fun x => x) v x0 = cB N F (fun x => x) v x0) 1 ⟨by omega, rfl, by dsimp only; omega, by dsimp only; omega, F, hM, hI, hFd, fun c hc => by have := hT.1 c hc; dsimp only; omega, fun _ => rfl⟩ (by omega) (by omega) ?_ ?_) ?_
  · rintro m ⟨a, b, ν⟩ hm ⟨hm1, e1, ha0, ha9, F', hM', hI', hFd', hT', hcB⟩
    dsimp only at e1 ha0 ha9 hM' hT' ⊢
    subst e1
    have hgν := hM'.gr hg
    obtain ⟨hc, hcc, -, -⟩ := hp.2.2.2 d m hd hm1 (by omega)
    obtain ⟨-, -, hp1, hp9⟩ := hp.2.2.2 (tn d m) m hc hm1 (by omega)
    obtain ⟨t1, -, -⟩ := hgν.2.2.2 d m hd hm1 (by omega)
    obtain ⟨-, t2, t3⟩ := hgν.2.2.2 (tn d m) m hc hm1 (by omega)
    have hb1 : -1 ≤ F' (tn d m) ∧ F' (tn d m) ≤ 40000 := by
      have := hT' _ hc
      rcases hI'.1 _ hc with q | q <;> omega
    have e2 : (v : Int) + (pr (tn d m) m : Int) = ((v + pr (tn d m) m : Nat) : Int) := by push_cast; rfl
    obtain ⟨st1, st2⟩ := hI'.step hp (fun i j _ _ h => h) (by omega) hd hm1 (by omega) hFd' rfl
    have skip : ¬ (op (tn d m) m = true ∧ (F' (tn d m) = -1 ∨ (v : Int) + pr (tn d m) m < F' (tn d m))) → Ok (some (Sum.inl (a, (m : Int) + 1, ν) : (Int × Int × Mem) ⊕ (Int × Mem))) (Sum.elim (fun s => 1 ≤ m + 1 ∧ s.2.1 = ((m + 1 : Nat) : Int) ∧ 0 ≤ s.1 ∧ s.1 ≤ v + 9 ∧ ∃ F', BM N F' μ0 s.2.2 ∧ BI N n tn op pr goal (fun x => x) v d (m + 1) F' ∧ F' d = v ∧ (∀ c, c < N → F' c ≤ max top s.1) ∧ ∀ x0, cB N F' (fun x => x) v x0 = cB N F (fun x => x) v x0) (fun o => ∃ F', BM N F' μ0 o.2 ∧ BI N n tn op pr goal (fun x => x) v (d + 1) 1 F' ∧ BT N F' (fun x => x) v (d + 1) (max top o.1) ∧ 0 ≤ o.1 ∧ o.1 ≤ v + 9 ∧ F' d = v)) := fun hno => by
      rw [Ok_some]
      exact ⟨by omega, by push_cast; rfl, ha0, ha9, F', hM', st2 hno, hFd', hT', hcB⟩
    unfold fX0_learnBehind_b5
    simp only [lt]
    rw [hgν.1, w32_n (a := m) (by omega), w32_n (a := n) (by omega), if_pos (by omega), t1, t2, t3, b_at hN hM' hc, e2, w32_n (a := v + pr (tn d m) m) (by omega), w32_eq (x := F' (tn d m)) (by omega) (by omega), w32_m1]
    by_cases hb : F' (tn d m) = -1 ∨ ((v + pr (tn d m) m : Nat) : Int) < F' (tn d m)
    · have hbv : (if F' (tn d m) = -1 then true else if ((v + pr (tn d m) m : Nat) : Int) < F' (tn d m) then true else false) = true := by
        rcases hb with q | q
        · rw [if_pos q]
        · by_cases q2 : F' (tn d m) = -1
          · rw [if_pos q2]
          · rw [if_neg q2, if_pos q]
      rw [hbv, if_pos rfl]
      by_cases ho : op (tn d m) m = true
      · have hdc : d ≠ tn d m := fun e => by
          rw [← e] at hb hp1
          rcases hb with q | q <;> omega
        rw [if_pos ho, put_n (tn d m) rfl (L := 3840) rfl (by omega) (by omega), imax_n (by omega) (by omega), Ok_some]
        refine ⟨by omega, by push_cast; rfl, by dsimp only; omega, by dsimp only; omega, _, ⟨fun c hc2 => ?_, fun x hx => ?_⟩, st1 ho (by rw [e2]; exact hb), ?_, fun c hc2 => ?_, fun x0 => ?_⟩
        · dsimp only
          rw [upd2_self]
          by_cases e : c = tn d m
          · rw [if_pos e, if_pos e]; exact e2.symm
          · rw [if_neg e, if_neg e]; exact hM'.1 c hc2
        · dsimp only; rw [upd2_ne hx]; exact hM'.2 x hx
        · rw [if_neg hdc]; exact hFd'
        · dsimp only
          have := hT' c hc2
          split <;> omega
        · rw [cB_upd (by omega) (by rcases hb with q | q <;> omega) (by omega)]; exact hcB x0
      · rw [if_neg ho]
        exact skip (fun q => ho q.1)
    · have hbv : (if F' (tn d m) = -1 then true else if ((v + pr (tn d m) m : Nat) : Int) < F' (tn d m) then true else false) = false := by
        rw [if_neg (fun q => hb (Or.inl q)), if_neg (fun q => hb (Or.inr q))]
      rw [hbv, if_neg (by decide)]
      exact skip (fun q => hb (by rw [← e2]; exact q.2))
  · rintro ⟨a, b, ν⟩ ⟨hm1, e1, ha0, ha9, F', hM', hI', hFd', hT', hcB⟩
    dsimp only at e1 ha0 ha9 hM' hT' ⊢
    subst e1
    have hgν := hM'.gr hg
    unfold fX0_learnBehind_b5
    rw [hgν.1, w32_n (a := n + 1) (by omega), w32_n (a := n) (by omega), if_neg (by omega), Ok_some]
    have hcn : cB N F (fun x => x) v (d + 1) = cB N F (fun x => x) v d + 1 := by
      unfold cB cbP
      refine cn_set (j := d) hd ?_ ?_ (fun i hi hne => ?_)
      · simp [hFd]
      · simp [hFd]
      · have : decide (i < d + 1) = decide (i < d) := by rw [decide_eq_decide]; omega
        simp only [this]
    have hmono : cB N F (fun x => x) v 0 ≤ cB N F (fun x => x) v d := by
      unfold cB cbP
      refine cn_mono (fun i hi h => ?_)
      simp only [Bool.or_eq_true, Bool.and_eq_true, decide_eq_true_eq] at h ⊢
      omega
    refine ⟨F', hM', hI'.next, ⟨hT', ?_, ?_⟩, ha0, ha9, hFd'⟩
    · rw [hcB, hcn]
      have := hT.2.1
      have := hT.2.2
      dsimp only
      omega
    · rw [hcB]; exact hT.2.2
  · rintro o ho
    rw [Ok_some]
    exact ho
/-- what Bills holds if it is known -/
def BiO (N n : Nat) (tn : Nat → Nat → Nat) (op : Nat → Nat → Bool) (pr : Nat → Nat → Nat) (goal : Nat) (μ : Mem) : Prop := μ 53 2 ≠ 0 → IsC N n tn op pr goal (fun c => μ 54 c)
theorem bills_ok (hp : Gp N n goal tn pr) (hg : Gr N n goal tn op pr μ) (hO : BiO N n tn op pr goal μ) : Ok (fX0_learn μ) (fun ν => (∀ x, x ≠ 53 → x ≠ 54 → ν x = μ x) ∧ (∀ j, j < 2 → ν 53 j = μ 53 j) ∧ ν 53 2 ≠ 0 ∧ IsC N n tn op pr goal (fun c => ν 54 c)) := by
  have hN := hp.2.1
  unfold fX0_learn
  simp only [lt]
  by_cases h5 : μ 53 2 = 0
  · rw [if_neg (by simp [h5])]
    generalize h3 : fill3 (upd2 μ 53 2 1) 54 3840 (-1) = ν3
    have h254 : ν3 25 4 = goal := by rw [← h3, fill_ne (by omega), upd2_ne (by omega)]; exact hg.2.1
    rw [h254, put_n goal rfl (L := 3840) rfl (by have := hp.2.2.1; omega) (by omega)]
    generalize h4 : upd2 ν3 54 goal 0 = ν4
    have hx4 : ∀ x, x ≠ 53 → x ≠ 54 → ν4 x = μ x := fun x h1 h2 => by rw [← h4, upd2_ne h2, ← h3, fill_ne h2, upd2_ne h1]
    have hg4 : Gr N n goal tn op pr ν4 := hg.same (fun j _ => by rw [hx4 25 (by omega) (by omega)]) (fun y h1 h2 => hx4 y (by omega) (by omega))
    have h53 : ν4 53 2 ≠ 0 := by rw [← h4, upd2_ne (by omega), ← h3, fill_ne (by omega), upd2_at]; decide
    have h53j : ∀ j, j < 2 → ν4 53 j = μ 53 j := fun j hj => by rw [← h4, upd2_ne (by omega), ← h3, fill_ne (by omega), upd2_nj (by omega)]
    have hM0 : BM N (fun c => if c = goal then 0 else -1) ν4 ν4 := ⟨fun c hc => by
      rw [← h4, upd2_self]
      dsimp only
      by_cases e : c = goal
      · rw [if_pos e, if_pos e]
      · rw [if_neg e, if_neg e, ← h3, fill_at (by omega)], fun _ _ => rfl⟩
    refine Ok.bind ?_
    refine Ok.imp (loop_I (Q := fun ν : Mem => (∀ x, x ≠ 54 → ν x = ν4 x) ∧ IsC N n tn op pr goal (fun c => ν 54 c)) _ (fun s : Int × Int × Mem => 40000 - s.2.1.toNat) (fun s : Int × Int × Mem => ∃ (v : Nat) (F : Nat → Int), s.2.1 = (v : Int) ∧ v ≤ 34561 ∧ 0 ≤ s.1 ∧ s.1 ≤ 34560 ∧ BM N F ν4 s.2.2 ∧ BI N n tn op pr goal (fun x => x) v 0 1 F ∧ (∀ c, c < N → F c ≤ s.1) ∧ s.1 ≤ 9 * (cB N F (fun x => x) v 0 : Int)) ⟨0, _, rfl, by omega, by dsimp only; omega, by dsimp only; omega, hM0, BI.init hp.2.2.1, fun c hc => (BT.init (r := fun x => x) hp.2.2.1).1 c hc, by dsimp only; omega⟩ (by show 40000 - _ < _; omega) ?_) ?_
    · rintro ⟨top, b, ν⟩ ⟨v, F, e1, hvb, ht0, htb, hM, hI, hT, hT2⟩
      dsimp only at e1 ht0 htb hM hT hT2 ⊢
      subst e1
      have hwq : w32 34560 = 34560 := by decide
      unfold fX0_learn_b40
      rw [w32_n (a := v) (by omega), w32_eq (x := top) (by omega) (by omega), hwq]
      by_cases hvt : (v : Int) ≤ top
      · rw [if_pos hvt, if_pos (by omega)]
        refine Ok.bind ?_
        refine Ok.imp (loop_FU (Q := fun o : Int × Mem => ∃ F', BM N F' ν4 o.2 ∧ BI N n tn op pr goal (fun x => x) v N 1 F' ∧ BT N F' (fun x => x) v N o.1 ∧ top ≤ o.1) N (fun (i : Nat) (s : Int × Int × Mem) => s.2.1 = (i : Int) ∧ ∃ F', BM N F' ν4 s.2.2 ∧ BI N n tn op pr goal (fun x => x) v i 1 F' ∧ BT N F' (fun x => x) v i s.1 ∧ top ≤ s.1) 0 ⟨rfl, F, hM, hI, ⟨hT, hT2, by omega⟩, Int.le_refl _⟩ (by omega) (by omega) ?_ ?_) ?_
        · rintro i ⟨tp, b, ρ⟩ hi ⟨e2, F', hM', hI', hT', htt⟩
          dsimp only at e2 hM' hT' htt ⊢
          subst e2
          have hgρ := hM'.gr hg4
          have hcl := cB_le (N := N) (F := F') (r := fun x => x) (v := (v : Int)) (x0 := i)
          have htb' : tp ≤ 34560 := by have := hT'.2.1; omega
          have hbi : -1 ≤ F' i ∧ F' i ≤ 34560 := by
            have := hT'.1 i hi
            rcases hI'.1 i hi with q | q <;> omega
          unfold fX0_learn_b53
          simp only [lt]
          rw [hgρ.2.2.1, w32_n (a := i) (by omega), w32_n (a := N) (by omega), if_pos (by omega), b_at hN hM' hi, w32_eq (x := F' i) (by omega) (by omega), w32_n (a := v) (by omega)]
          by_cases e : F' i = v
          · rw [if_pos e]
            have hM2 : BM N F' ρ ρ := ⟨hM'.1, fun _ _ => rfl⟩
            refine Ok.then (learnBehind_ok hp hgρ hi hM2 hI' hT' e) ?_
            rintro ⟨o1, θ⟩ ⟨F2, g1, g2, g3, g4, g5, g6⟩
            dsimp only at g1 g3 g4 g5 ⊢
            rw [imax_n (by omega) (by omega), Ok_some]
            exact ⟨by push_cast; rfl, F2, ⟨g1.1, fun x hx => (g1.2 x hx).trans (hM'.2 x hx)⟩, g2, g3, by dsimp only; omega⟩
          · rw [if_neg e, Ok_some]
            refine ⟨by push_cast; rfl, F', hM', hI'.skip hp (fun d _ (hd2 : d = i) => by rw [hd2]; exact e), ⟨hT'.1, ?_, hT'.2.2⟩, htt⟩
            have : cB N F' (fun x => x) v i ≤ cB N F' (fun x => x) v (i + 1) := by
              unfold cB cbP
              refine cn_mono (fun j hj h => ?_)
              simp only [Bool.or_eq_true, Bool.and_eq_true, decide_eq_true_eq] at h ⊢
              omega
            have := hT'.2.1
            dsimp only
            omega
        · rintro ⟨tp, b, ρ⟩ ⟨e2, F', hM', hI', hT', htt⟩
          dsimp only at e2 hM' hT' htt ⊢
          subst e2
          have hgρ := hM'.gr hg4
          unfold fX0_learn_b53
          rw [hgρ.2.2.1, w32_n (a := N) (by omega), if_neg (by omega), Ok_some]
          exact ⟨F', hM', hI', hT', htt⟩
        · rintro ⟨tp, ρ⟩ ⟨F', hM', hI', hT', htt⟩
          dsimp only at hM' hT' htt ⊢
          have hcl := cB_le (N := N) (F := F') (r := fun x => x) (v := (v : Int)) (x0 := N)
          have htb' : tp ≤ 34560 := by have := hT'.2.1; omega
          rw [Ok_some]
          refine ⟨⟨v + 1, F', by push_cast; rfl, by omega, by dsimp only; omega, htb', hM', hI'.lev hp (fun d hd => hd), hT'.1, ?_⟩, by dsimp only; omega⟩
          have hsame : cB N F' (fun x => x) v N = cB N F' (fun x => x) ((v + 1 : Nat) : Int) 0 := by
            unfold cB cbP
            refine cn_congr (fun j hj => ?_)
            have q := hI'.1 j hj
            rw [Bool.eq_iff_iff]
            simp only [Bool.or_eq_true, Bool.and_eq_true, decide_eq_true_eq]
            omega
          rw [← hsame]
          exact hT'.2.1
      · rw [if_neg hvt, Ok_some]
        refine ⟨hM.2, ?_⟩
        have hfin := hI.fin hp hT (by omega) (by omega)
        refine ⟨fun c hc => ?_, ?_, fun c m hc q1 q2 q3 => ?_, fun c hc => ?_⟩
        · show -1 ≤ ν 54 c ∧ ν 54 c ≤ 34560
          rw [hM.1 c hc]; exact hfin.1 c hc
        · show ν 54 goal = 0
          rw [hM.1 _ hp.2.2.1]; exact hfin.2.1
        · show ν 54 _ ≠ -1 → ν 54 c ≠ -1 ∧ ν 54 c ≤ ν 54 _ + _
          rw [hM.1 c hc, hM.1 _ (hp.2.2.2 c m hc q1 q2).1]; exact hfin.2.2.1 c m hc q1 q2 q3
        · show ν 54 c ≠ -1 → _
          rw [hM.1 c hc]
          intro q
          rcases hfin.2.2.2 c hc q with g | ⟨m, g1, g2, g3, g4, g5⟩
          · exact Or.inl g
          · refine Or.inr ⟨m, g1, g2, g3, ?_⟩
            show ν 54 _ ≠ -1 ∧ ν 54 c = ν 54 _ + _
            rw [hM.1 c hc, hM.1 _ (hp.2.2.2 c m hc g1 g2).1]; exact ⟨g4, g5⟩
    · rintro ν ⟨hx, hC⟩
      rw [Ok_some]
      refine ⟨fun x h1 h2 => by rw [hx x h2]; exact hx4 x h1 h2, fun j hj => by rw [hx 53 (by omega)]; exact h53j j hj, by rw [hx 53 (by omega)]; exact h53, hC⟩
  · rw [if_pos (by simp [h5]), Ok_some]
    exact ⟨fun _ _ _ => rfl, fun _ _ => rfl, h5, hO h5⟩
end BILLC
