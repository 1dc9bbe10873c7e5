/-! ===== level 2: the first memory holds the invariant ===== -/
section FIRST2
variable {o1 : Mem}
theorem us_C_no : ∀ x, x < 39 → 1 ≤ x → us_C.all (fun q => q.1 != x) = true := by decide
theorem mC_in {x : Nat} (h1 : 1 ≤ x) (h2 : x < 39) : mC dfl o1 x = o1 x := by
  show ups us_C (LR 1 39 (ups us_A dfl) o1) x = o1 x
  rw [ups_no us_C x (us_C_no x h2 h1)]
  unfold LR
  rw [if_pos (by rw [inR_iff]; omega)]
theorem mC_out {x j : Nat} (h : inR 1 39 x = false) : mC dfl o1 x j = ups us_C (ups us_A dfl) x j := ups_LR us_C j h
theorem first_ok : ∃ (o1 : Mem) (o2 : Int × Mem) (o3 o4 : Mem), fX7_learn 5 (ups us_S (ups us_A0 dfl)) = some o1 ∧ fX7_told (mC dfl o1) = some o2 ∧ fX12_standsAsAlways 0 (ups us_M (mI o1 o2)) = some o3 ∧ fX12_begins o3 = some o4 ∧ GW (LR 75 96 (ups us_M (mI o1 o2)) o4) := by
  obtain ⟨o1, e1, hG, hT, hL, gl, hg, hGl⟩ := first_learn
  have a25 : ∀ j, mC dfl o1 25 j = o1 25 j := fun j => congrFun (mC_in (by omega) (by omega)) j
  have hG2 : Gc 5 0 (fun _ => 0) (fun _ => 0) (mC dfl o1) := hG.of (a25 0) (a25 1) (mC_in (by omega) (by omega)) (mC_in (by omega) (by omega)) (mC_in (by omega) (by omega))
  have hT2 : Tb (fun _ => 0) (fun _ => 0) 0 (lawF none 0) (lawF none 1) (mC dfl o1) := hT.of2 (fun j _ => a25 j) (fun x q1 q2 q3 => mC_in (by omega) (by omega))
  have h54 : mC dfl o1 5 4 = ((0 : Nat) : Int) := by
    rw [mC_in (by omega) (by omega), hL.1 5 (by omega) (by omega) (by omega) (by omega) (by omega)]; decide
  obtain ⟨⟨v, m2⟩, e2, hv, hm2⟩ := told_ok (by omega) hG2 hT2 h54 (by omega)
  dsimp only at hv hm2
  obtain ⟨o3, e3, s1, s2, s3, s4⟩ := stands0_ok (μ := ups us_M (mI o1 (v, m2)))
  have hRg : Rg (fun _ => 0) (fun _ => 0) 0 o3 := ⟨s2, fun k hk => absurd hk (Nat.not_lt_zero k)⟩
  obtain ⟨o4, e4, hRB, hBf⟩ := begins_ok (up := fun _ => false) (by omega) hRg (fun k hk => absurd hk (Nat.not_lt_zero k))
  refine ⟨o1, (v, m2), o3, o4, e1, e2, e3, e4, ?_⟩
  -- the class's part
  generalize hC : fX5_begin 41 v m2 = C
  have c41 : ∀ x, x ≠ 41 → C x = m2 x := fun x q => by
    rw [← hC]; unfold fX5_begin; simp only [lt]
    rw [upd2_ne q, upd2_ne q, upd2_ne q, upd2_ne q]
  have c1 : C 41 1 = v := by
    rw [← hC]; unfold fX5_begin; simp only [lt]
    rw [upd2_nj (by omega), upd2_nj (by omega), upd2_nj (by omega), upd2_at]
  have c2 : C 41 2 = 0 := by
    rw [← hC]; unfold fX5_begin; simp only [lt]
    rw [upd2_nj (by omega), upd2_nj (by omega), upd2_at]
  have c3 : C 41 3 = 0 := by
    rw [← hC]; unfold fX5_begin; simp only [lt]
    rw [upd2_nj (by omega), upd2_at]
  have c4 : C 41 4 = 0 := by
    rw [← hC]; unfold fX5_begin; simp only [lt]
    rw [upd2_at]
  have cm : ∀ x, x ≠ 41 → x ≠ 27 → C x = mC dfl o1 x := fun x q1 q2 => (c41 x q1).trans (hm2 x q2)
  have ci : ∀ x, x ≠ 27 → 1 ≤ x → x < 39 → C x = o1 x := fun x q1 q2 q3 => (cm x (by omega) q1).trans (mC_in q2 q3)
  have co : ∀ x j, x ≠ 41 → inR 1 39 x = false → C x j = ups us_C (ups us_A dfl) x j := fun x j q1 q => by
    have q2 : x ≠ 27 := fun e => by rw [e] at q; exact absurd q (by decide)
    rw [cm x q1 q2]; exact mC_out q
  have a1 : ∀ x j, x < 25 → 1 ≤ x → x ≠ 9 → x ≠ 11 → x ≠ 12 → x ≠ 14 → C x j = ups us_S (ups us_A0 dfl) x j := fun x j q1 q2 q3 q4 q5 q6 => by
    rw [ci x (by omega) q2 (by omega), hL.1 x (by omega) (by omega) (by omega) (by omega) (by omega)]
  -- the whole
  have fl : ∀ x, x < 75 → LR 75 96 (ups us_M (mI o1 (v, m2))) o4 x = C x := fun x hx => by
    unfold LR
    rw [if_neg (by rw [inR_iff]; omega), ups_no us_M x ((by decide : ∀ x, x < 75 → us_M.all (fun q => q.1 != x) = true) x hx)]
    show LR 0 75 (mC dfl o1) (fX5_begin 41 v m2) x = C x
    unfold LR
    rw [if_pos (by rw [inR_iff]; omega), hC]
  have fh : ∀ x, 75 ≤ x → x < 96 → LR 75 96 (ups us_M (mI o1 (v, m2))) o4 x = o4 x := fun x h1 h2 => by
    unfold LR
    rw [if_pos (by rw [inR_iff]; omega)]
  generalize LR 75 96 (ups us_M (mI o1 (v, m2))) o4 = F at fl fh
  have hst : ∀ k bk b, stB k bk b → C k 2 = (b : Nat) ∧ (C k 1 != 0) = bk ∧ C k 5 = 0 := fun k bk b hk => by
    have kb := isSt_b (stB_is hk).1
    have q : inR 1 39 k = false := by
      cases q : inR 1 39 k with
      | false => rfl
      | true => rw [inR_iff] at q; omega
    rw [co k 2 (by omega) q, co k 1 (by omega) q, co k 5 (by omega) q]
    rcases hk with ⟨rfl, rfl, rfl⟩ | ⟨rfl, rfl, rfl⟩ | ⟨rfl, rfl, rfl⟩ | ⟨i, hi, rfl, rfl, rfl⟩
    · decide
    · decide
    · decide
    · have : ∀ i, i < 5 → ups us_C (ups us_A dfl) (65 + 2 * i) 2 = ((i + 1 : Nat) : Int) ∧ (ups us_C (ups us_A dfl) (65 + 2 * i) 1 != 0) = true ∧ ups us_C (ups us_A dfl) (65 + 2 * i) 5 = 0 := by decide
      exact this i hi
  have hCS : CS2 5 gl Dr.none C := by
    refine ⟨hG.of (congrFun (ci 25 (by omega) (by omega) (by omega)) 0) (congrFun (ci 25 (by omega) (by omega) (by omega)) 1) (ci _ (by omega) (by omega) (by omega)) (ci _ (by omega) (by omega) (by omega)) (ci _ (by omega) (by omega) (by omega)), hT.of2 (fun j _ => congrFun (ci 25 (by omega) (by omega) (by omega)) j) (fun x q1 q2 q3 => ci x q3 (by omega) (by omega)), (congrFun (ci 25 (by omega) (by omega) (by omega)) 4).trans hg, hGl, ?_, ?_, ?_, fun k hk => absurd hk (Nat.not_lt_zero k), ⟨?_, ?_, c1.trans hv, c2, c3, c4, ?_⟩, fun m hm => ?_, fun k bk b hk => (hst k bk b hk).2.2, ?_, ?_⟩
    · rw [co 0 2 (by omega) (by decide)]; decide
    · rw [co 0 3 (by omega) (by decide)]; decide
    · rw [a1 5 4 (by omega) (by omega) (by omega) (by omega) (by omega) (by omega)]; decide
    · rw [co 39 1 (by omega) (by decide)]; decide
    · rw [co 0 6 (by omega) (by decide)]; decide
    · rw [co 0 11 (by omega) (by decide)]; decide
    · have : ∀ m, m < 4 → inR 1 39 (57 + 2 * m) = false ∧ ups us_C (ups us_A dfl) (57 + 2 * m) 0 = 0 := by decide
      rw [co _ 0 (by omega) (this m hm).1]; exact (this m hm).2
    · rw [co 53 2 (by omega) (by decide)]; decide
    · rw [co 55 2 (by omega) (by decide)]; decide
  have hd : Df0 C := by
    refine ⟨?_, ?_, ?_, ?_⟩
    · rw [ci 9 (by omega) (by omega) (by omega)]; exact (hL.2.1 0 (by omega)).trans (by decide)
    · rw [ci 12 (by omega) (by omega) (by omega)]; exact (hL.2.2.1 0 (by omega)).trans (by decide)
    · rw [a1 19 0 (by omega) (by omega) (by omega) (by omega) (by omega) (by omega)]; decide
    · rw [a1 22 0 (by omega) (by omega) (by omega) (by omega) (by omega) (by omega)]; decide
  -- the reference's part
  have r81 : o4 81 = o3 81 := hBf.1 81 (by omega) (by omega) (by omega) (by omega) (by omega) (by omega)
  have hRS : RS2 Dr.none F := by
    refine ⟨⟨?_, fun k hk => absurd hk (Nat.not_lt_zero k)⟩, Or.inl ⟨?_, fun _ _ _ _ => rfl⟩, Or.inl ⟨?_, fun _ _ _ _ => rfl⟩, fun k hk => absurd hk (Nat.not_lt_zero k), ?_⟩
    · rw [fh 81 (by omega) (by omega), r81]; exact s2
    · rw [fh 81 (by omega) (by omega), r81]; exact s3
    · rw [fh 81 (by omega) (by omega), r81]; exact s4
    · obtain ⟨b1, b2, b3, b4, b5, b6, b7, b8, b9, b10⟩ := hRB
      unfold RB
      rw [fh 75 (by omega) (by omega), fh 88 (by omega) (by omega), fh 84 (by omega) (by omega), fh 89 (by omega) (by omega)]
      exact ⟨b1, b2, b3, b4, b5, b6, b7, b8, b9, b10⟩
  have hM : ∀ j : Nat, ups us_M (mI o1 (v, m2)) 75 j = ups us_M (ups us_C (ups us_A dfl)) 75 j ∧ ups us_M (mI o1 (v, m2)) 80 j = ups us_M (ups us_C (ups us_A dfl)) 80 j := fun j => by
    have h1 : ∀ x, inR 0 75 x = false → inR 1 39 x = false → ups us_M (mI o1 (v, m2)) x j = ups us_M (ups us_C (ups us_A dfl)) x j := fun x q1 q2 => by
      show ups us_M (LR 0 75 (ups us_C (LR 1 39 (ups us_A dfl) o1)) (fX5_begin 41 v m2)) x j = _
      rw [ups_LR us_M j q1, ups_app, ups_LR (us_M ++ us_C) j q2, ← ups_app]
    exact ⟨h1 75 (by decide) (by decide), h1 80 (by decide) (by decide)⟩
  have h2 : F 75 2 = 0 := by
    rw [fh 75 (by omega) (by omega), hBf.2 2 (by omega) (by omega) (by omega) (by omega), s1 75 (by omega), (hM 2).1]; decide +kernel
  have h8 : W80 F := fun w hw => by
    rw [fh 80 (by omega) (by omega), hBf.1 80 (by omega) (by omega) (by omega) (by omega) (by omega) (by omega), s1 80 (by omega), (hM w).2]
    exact ups_rd us_M 80 w ((by decide +kernel : ∀ w, w < 18 → rdl us_M 80 w = some (w80L.getD w 0)) w hw)
  have h11 : C 1 1 = 0 := by rw [a1 1 1 (by omega) (by omega) (by omega) (by omega) (by omega) (by omega)]; decide
  refine ⟨Pm.new 5 gl Dr.none (fun _ => 0), Core.new DrO.none LwO.none hCS h11 hd fl hRS h2 h8, ⟨⟨36, 37, ?_, ?_, by omega, ?_, ?_⟩, fun k bk b hk => ?_, fun q => absurd ?_ q, fun q => absurd ?_ q⟩, ?_⟩
  · unfold isCt; omega
  · unfold isCt; omega
  · rw [fl 25 (by omega), ci 25 (by omega) (by omega) (by omega), hL.2.2.2 15 (by omega)]; decide
  · rw [fl 25 (by omega), ci 25 (by omega) (by omega) (by omega), hL.2.2.2 16 (by omega)]; decide
  · have kb := isSt_b (stB_is hk).1
    obtain ⟨q1, q2, q3⟩ := hst k bk b hk
    rw [fl k (by omega)]
    refine ⟨q1, q2, fun q => absurd ?_ q⟩
    rw [fl k (by omega)]; exact q3
  · rw [fl 53 (by omega)]; exact hCS.2.2.2.2.2.2.2.2.2.2.2.1
  · rw [fl 55 (by omega)]; exact hCS.2.2.2.2.2.2.2.2.2.2.2.2
  · have q26 : F 75 26 = 0 := hRS.2.2.2.2.2.2.2.2.2.2.2.2.1
    refine ⟨Or.inl q26, fun q => ?_, fun q => ?_, fun q => ?_⟩
    · rw [q26] at q; exact absurd q (by decide)
    · rw [q26] at q; exact absurd q (by decide)
    · rw [q26] at q; exact absurd q (by decide)
end FIRST2
