/-! ===== level 2: the class's griddle ===== -/
section CGRIDDLE
variable {μ ν : Mem} {tx : Nat → Nat} {L : Nat}
/-- the fault leaves all but the draft, g its place -/
def CF2 (g : Nat) (μ ν : Mem) : Prop := (∀ x, x ≠ 1 → x ≠ 3 → ¬ (g ≤ x ∧ x ≤ g + 9) → ν x = μ x) ∧ ν (g + 4) 0 = μ (g + 4) 0 ∧ ν (g + 7) 0 = μ (g + 7) 0
/-- the draft is read -/
def CRd (g : Nat) (D : Dr) (ν : Mem) : Prop := DrC g D ν
theorem readGriddle_ok {g : Nat} (hg : gOk g) (hO : TxO L tx) (hT : TxC L tx μ) : Ok (fX6_readGriddle g μ) (fun o => CF2 g μ o.2 ∧ o.2 1 1 = 0 ∧ match aGL tx L (L + 2) (0, Dr.none) with
    | .inr e => o.1 = (e : Int) ∧ e ≠ 0 ∧ e < 20000
    | .inl s => o.1 = 0 ∧ DrC g s.2 o.2 ∧ DrO s.2) := by
  have hg2 : g = 5 ∨ g = 15 := hg
  unfold fX6_readGriddle fX2_clear fX3_clear
  simp only [lt]
  generalize h1 : upd2 (upd2 (upd2 (upd2 (upd2 (upd2 μ g 0 0) g 4 0) (g + 4) 3 0) (g + 4) 5 0) (g + 7) 3 0) (g + 7) 5 0 = μ1
  have x1 : ∀ x, x ≠ g → x ≠ g + 4 → x ≠ g + 7 → μ1 x = μ x := fun x q1 q2 q3 => by rw [← h1, upd2_ne q3, upd2_ne q3, upd2_ne q2, upd2_ne q2, upd2_ne q1, upd2_ne q1]
  have a0 : μ1 g 0 = 0 := by rw [← h1, upd2_ne (by omega), upd2_ne (by omega), upd2_ne (by omega), upd2_ne (by omega), upd2_nj (by omega), upd2_at]
  have a4 : μ1 g 4 = 0 := by rw [← h1, upd2_ne (by omega), upd2_ne (by omega), upd2_ne (by omega), upd2_ne (by omega), upd2_at]
  have b3 : μ1 (g + 4) 3 = 0 := by rw [← h1, upd2_ne (by omega), upd2_ne (by omega), upd2_nj (by omega), upd2_at]
  have b5 : μ1 (g + 4) 5 = 0 := by rw [← h1, upd2_ne (by omega), upd2_ne (by omega), upd2_at]
  have c3 : μ1 (g + 7) 3 = 0 := by rw [← h1, upd2_nj (by omega), upd2_at]
  have c5 : μ1 (g + 7) 5 = 0 := by rw [← h1, upd2_at]
  have b0 : μ1 (g + 4) 0 = μ (g + 4) 0 := by rw [← h1, upd2_ne (by omega), upd2_ne (by omega), upd2_nj (by omega), upd2_nj (by omega), upd2_ne (by omega), upd2_ne (by omega)]
  have c0 : μ1 (g + 7) 0 = μ (g + 7) 0 := by rw [← h1, upd2_nj (by omega), upd2_nj (by omega), upd2_ne (by omega), upd2_ne (by omega), upd2_ne (by omega), upd2_ne (by omega)]
  unfold fX6_begin
  simp only [lt]
  generalize h2 : upd2 (upd2 (upd2 μ1 3 1 0) 3 3 0) 3 4 0 = μ2
  have x2 : ∀ x, x ≠ 3 → μ2 x = μ1 x := fun x q => by rw [← h2, upd2_ne q, upd2_ne q, upd2_ne q]
  have e31 : μ2 3 1 = 0 := by rw [← h2, upd2_nj (by omega), upd2_nj (by omega), upd2_at]
  have hTX : TX tx L μ2 := ⟨by rw [x2 1 (by omega), x1 1 (by omega) (by omega) (by omega)]; exact hT.1, fun i hi => by rw [x2 2 (by omega), x1 2 (by omega) (by omega) (by omega)]; exact hT.2 i hi, hO⟩
  rw [Option.bind_assoc]
  refine Ok.then (rewind_ok hTX) ?_
  rintro μ3 ⟨hC, hTf⟩
  rw [Option.bind_some]
  have x3 : ∀ x, x ≠ 1 → x ≠ 3 → μ3 x = μ1 x := fun x q1 q3 => by rw [hTf x q1, x2 x q3]
  have eg : μ3 g = μ1 g := x3 g (by omega) (by omega)
  have eg4 : μ3 (g + 4) = μ1 (g + 4) := x3 _ (by omega) (by omega)
  have eg7 : μ3 (g + 7) = μ1 (g + 7) := x3 _ (by omega) (by omega)
  have hCG : CG tx L g (0, Dr.none) μ3 := by
    refine ⟨hC, fun i hi => absurd hi (Nat.not_lt_zero i), (congrFun (hTf 3 (by omega)) 1).trans e31, ⟨(congrFun eg 0).trans a0, fun i hi => absurd hi (Nat.not_lt_zero i), (congrFun eg 4).trans a4, ⟨?_, ?_⟩, ⟨?_, ?_⟩⟩, DrO.none⟩
    · exact (congrFun eg4 5).trans b5
    · exact (congrFun eg4 3).trans b3
    · exact (congrFun eg7 5).trans c5
    · exact (congrFun eg7 3).trans c3
  refine Ok.then (cgl_ok hg hCG rfl) ?_
  rintro θ ⟨hOut, hGf⟩
  unfold fX6_finish fX9_clear
  simp only [lt]
  rw [Ok_some]
  have hF : CF2 g μ (upd2 θ 1 1 0) := by
    refine ⟨fun x q1 q3 q => ?_, ?_, ?_⟩
    · rw [upd2_ne q1, hGf.1 x q1 q3 q, x3 x q1 q3, x1 x (by omega) (by omega) (by omega)]
    · rw [upd2_ne (by omega), hGf.2.2.1 0 (by omega) (by omega), eg4]; exact b0
    · rw [upd2_ne (by omega), hGf.2.2.2 0 (by omega) (by omega), eg7]; exact c0
  refine ⟨hF, (by show upd2 θ 1 1 0 1 1 = 0; exact upd2_at), ?_⟩
  cases hr : aGL tx L (L + 2) (0, Dr.none) with
  | inr e =>
    rw [hr] at hOut
    obtain ⟨⟨-, e1⟩, e2, e3⟩ := hOut
    refine ⟨?_, e2, e3⟩
    show upd2 θ 1 1 0 3 1 = _
    rw [upd2_ne (by omega)]; exact e1
  | inl s =>
    rw [hr] at hOut
    obtain ⟨-, -, e1, d, dO⟩ := hOut
    refine ⟨?_, ?_, dO⟩
    · show upd2 θ 1 1 0 3 1 = _
      rw [upd2_ne (by omega)]; exact e1
    · show DrC g s.2 (upd2 θ 1 1 0)
      have e : ∀ x, x ≠ 1 → upd2 θ 1 1 0 x = θ x := fun x q => upd2_ne q
      obtain ⟨d1, d2, d3, d4, d5⟩ := d
      refine ⟨by rw [e g (by omega)]; exact d1, fun i hi => ?_, by rw [e g (by omega)]; exact d3, d4.same (e _ (by omega)) (e _ (by omega)), d5.same (e _ (by omega)) (e _ (by omega))⟩
      rw [e (g + 1) (by omega), e (g + 2) (by omega), e (g + 3) (by omega)]
      exact d2 i hi
theorem lk_of {k : Nat} {o : Option Cod} {dv : Int} (hk : kOk k) (h : LwC k o μ) (h0 : μ k 0 = dv) (hC : ∀ c, o = some c → CodO c) (hl : ∀ c, o = some c → c.length ≤ 1000) : LK k (lawF o dv) μ := by
  cases o with
  | none => exact lk_d h.1 h0
  | some c => exact lk_c hk (hC c rfl) (hl c rfl) h.1 h.2.1 h.2.2
theorem lawF_nz {o : Option Cod} {dv : Int} (hd : Nz dv) (hC : ∀ c, o = some c → CodO c) : FN (lawF o dv) := by
  cases o with
  | none => exact fun _ _ _ _ => hd
  | some c => exact evL_nz (hC c rfl)
/-- the draft is the griddle -/
def CS2 (g gl : Nat) (D : Dr) (ν : Mem) : Prop := Gc g D.n D.kd D.wd ν ∧ Tb D.kd D.wd D.n (lawF D.bars 0) (lawF D.costs 1) ν ∧ ν 25 4 = gl ∧ Gl D.kd D.wd D.n gl ∧ ν 0 2 = g ∧ ν 0 3 = ((20 - g : Nat) : Int) ∧ ν g 4 = upN D.up D.n ∧ NmC g D.n D.nm ν ∧ CB (tdN D.kd D.n (upN D.up D.n)) ν
theorem cgriddle_ok {told : Nat} (hto : told = 5 ∨ told = 15) (h2 : μ 0 2 = told) (h3 : μ 0 3 = ((20 - told : Nat) : Int)) (hd : Df0 μ) (hO : TxO L tx) (hT : TxC L tx μ) (hl : ∀ s, aGL tx L (L + 2) (0, Dr.none) = .inl s → LwO s.2 ∧ LnO s.2) : Ok (fX11_griddle μ) (fun o => (∀ x, 75 ≤ x → o.2 x = μ x) ∧ o.2 1 1 = 0 ∧ Df0 o.2 ∧ (∀ j, j ≠ 2 → j ≠ 3 → j ≠ 6 → j ≠ 11 → o.2 0 j = μ 0 j) ∧ match aGL tx L (L + 2) (0, Dr.none) with
    | .inr e => o.1 = (e : Int) ∧ e ≠ 0 ∧ e < 20000 ∧ CF2 (20 - told) μ o.2
    | .inl s => o.1 = 0 ∧ DrO s.2 ∧ ∃ gl : Nat, CS2 (20 - told) gl s.2 o.2 ∧ (∀ j, 5 ≤ j → o.2 25 j = μ 25 j) ∧ ∀ k bk b, stB k bk b → ∀ j, j ≠ 5 → o.2 k j = μ k j) := by
  have hg : gOk (20 - told) := by unfold gOk; omega
  have hk1 : kOk (20 - told + 4) := by unfold kOk; omega
  have hk2 : kOk (20 - told + 7) := by unfold kOk; omega
  have hD : ∀ ω : Mem, (∀ x, x = 9 ∨ x = 12 ∨ x = 19 ∨ x = 22 → ω x 0 = μ x 0) → Df0 ω := fun ω h => by
    unfold Df0
    rw [h 9 (by omega), h 12 (by omega), h 19 (by omega), h 22 (by omega)]; exact hd
  have hd4 : μ (20 - told + 4) 0 = 0 := by
    rcases hto with rfl | rfl
    · exact hd.2.2.1
    · exact hd.1
  have hd7 : μ (20 - told + 7) 0 = 1 := by
    rcases hto with rfl | rfl
    · exact hd.2.2.2
    · exact hd.2.1
  unfold fX11_griddle
  simp only [lt]
  rw [h3, gd_pos (by omega), Int.toNat_natCast]
  have e20 : 20 - (20 - told) = told := by omega
  have hgt : (20 - told = 5 ∨ 20 - told = 15) ∧ 20 - told ≠ told := by omega
  generalize hgg : 20 - told = g at *
  have hdf : ∀ ω : Mem, CF2 g μ ω → ∀ x, x = 9 ∨ x = 12 ∨ x = 19 ∨ x = 22 → ω x 0 = μ x 0 := fun ω hω x hx => by
    by_cases q : x = g + 4
    · rw [q]; exact hω.2.1
    · by_cases q2 : x = g + 7
      · rw [q2]; exact hω.2.2
      · rw [hω.1 x (by omega) (by omega) (by omega)]
  refine Ok.then (readGriddle_ok hg hO hT) ?_
  rintro ⟨v, μ1⟩ ⟨hF, h11, hm⟩
  dsimp only at hF h11 hm ⊢
  have f0 : μ1 0 = μ 0 := hF.1 0 (by omega) (by omega) (by omega)
  cases hr : aGL tx L (L + 2) (0, Dr.none) with
  | inr e =>
    rw [hr] at hm
    obtain ⟨rfl, e2, e3⟩ := hm
    rw [w32_n (by omega), if_neg (by omega), Ok_some]
    exact ⟨fun x hx => hF.1 x (by omega) (by omega) (by omega), h11, hD _ (hdf _ hF), fun j _ _ _ _ => congrFun f0 j, rfl, e2, e3, hF⟩
  | inl s =>
    rw [hr] at hm
    obtain ⟨rfl, hDr, dO⟩ := hm
    obtain ⟨hLw, hLn⟩ := hl s hr
    have hn : s.2.n < 6 := by have := dO.1; omega
    have t2 : μ1 0 2 = told := (congrFun f0 2).trans h2
    have t3 : μ1 0 3 = g := (congrFun f0 3).trans h3
    have n2 : (μ1 0 2).toNat = told := by rw [t2, Int.toNat_natCast]
    have n3 : (μ1 0 3).toNat = g := by rw [t3, Int.toNat_natCast]
    rw [show w32 0 = 0 from by decide, if_pos rfl, gd_pos (show μ1 0 2 = 5 ∨ μ1 0 2 = 15 by rw [t2]; omega), gd_pos (show μ1 0 3 = 5 ∨ μ1 0 3 = 15 by rw [t3]; omega), n2, n3]
    generalize h5 : upd2 (upd2 μ1 0 2 (g : Int)) 0 3 (told : Int) = μ2
    have x2 : ∀ x, x ≠ 0 → μ2 x = μ1 x := fun x q => by rw [← h5, upd2_ne q, upd2_ne q]
    have y2 : μ2 0 2 = g := by rw [← h5, upd2_nj (by omega), upd2_at]
    have y3 : μ2 0 3 = told := by rw [← h5, upd2_at]
    have yj : ∀ j, j ≠ 2 → j ≠ 3 → μ2 0 j = μ 0 j := fun j q2 q3 => by rw [← h5, upd2_nj q3, upd2_nj q2, f0]
    obtain ⟨d1, d2, d3, d4, d5⟩ := hDr
    rw [y2, gd_pos (by omega), Int.toNat_natCast]
    refine Ok.then (learn_ok (kd := s.2.kd) (wd := s.2.wd) (BE := lawF s.2.bars 0) (CE := lawF s.2.costs 1) hn hgt.1 (by rw [x2 g (by omega)]; exact d1) (fun k hk => by rw [x2 (g + 2) (by omega)]; exact ⟨(d2 k hk).2.1, dO.2.2.1 k hk⟩) (fun k hk => by rw [x2 (g + 3) (by omega)]; exact ⟨(d2 k hk).2.2, (dO.2.2.2.1 k hk).2⟩) dO.2.2.2.2 (lk_of hk1 (d4.same (x2 _ (by omega)) (x2 _ (by omega))) (by rw [x2 _ (by omega), hF.2.1]; exact hd4) hLw.1 hLn.1) (lk_of hk2 (d5.same (x2 _ (by omega)) (x2 _ (by omega))) (by rw [x2 _ (by omega), hF.2.2]; exact hd7) hLw.2 hLn.2) (lawF_nz ⟨by decide, by decide⟩ hLw.1) (lawF_nz ⟨by decide, by decide⟩ hLw.2)) ?_
    rintro μ3 ⟨hGc, hTb, hLr, gl, hg4, hGl⟩
    have hup := upN_lt (up := s.2.up) s.2.n
    have hp5 := two_pow_5 hn
    have u4 : μ3 g 4 = upN s.2.up s.2.n := by rw [hLr.1 g (by omega) (by omega) (by omega) (by omega) (by omega), x2 g (by omega)]; exact d3
    refine Ok.then (beginAnew_ok (ups := upN s.2.up s.2.n) hn hGc hTb u4 (by omega)) ?_
    rintro μ4 ⟨hCB, hBf⟩
    rw [Ok_some]
    have lx : ∀ x, x < 25 → x ≠ 0 → x ≠ g + 4 → x ≠ g + 6 → x ≠ g + 7 → x ≠ g + 9 → μ4 x = μ1 x := fun x q1 q2 q3 q4 q5 q6 => by rw [hBf.1 x (by omega), hLr.1 x (by omega) q3 q4 q5 q6, x2 x q2]
    have z0 : ∀ j, j ≠ 6 → j ≠ 11 → μ4 0 j = μ2 0 j := fun j q1 q2 => by rw [hBf.2.1 j q1 q2, hLr.1 0 (by omega) (by omega) (by omega) (by omega) (by omega)]
    have e25 : μ4 25 = μ3 25 := hBf.1 25 (by omega)
    refine ⟨fun x hx => ?_, ?_, hD _ (fun x hx => ?_), fun j q1 q2 q3 q4 => ?_, rfl, dO, gl, ⟨hGc.of (congrFun e25 0) (congrFun e25 1) (hBf.1 _ (by omega)) (hBf.1 _ (by omega)) (hBf.1 _ (by omega)), hTb.of2 (fun j _ => congrFun e25 j) (fun x q1 q2 q3 => hBf.1 x (by omega)), (congrFun e25 4).trans hg4, hGl, ?_, ?_, ?_, fun k hk => ?_, hCB⟩, fun j hj => ?_, fun k bk b hk j hj => ?_⟩
    · show μ4 x = _
      rw [hBf.1 x (by omega), hLr.1 x (by omega) (by omega) (by omega) (by omega) (by omega), x2 x (by omega), hF.1 x (by omega) (by omega) (by omega)]
    · show μ4 1 1 = 0
      rw [lx 1 (by omega) (by omega) (by omega) (by omega) (by omega) (by omega)]; exact h11
    · show μ4 x 0 = _
      rw [hBf.1 x (by omega), ← hdf μ1 hF x hx, ← x2 x (by omega)]
      by_cases q : x = g + 4
      · rw [q]; exact hLr.2.1 0 (by omega)
      · by_cases q2 : x = g + 7
        · rw [q2]; exact hLr.2.2.1 0 (by omega)
        · rw [hLr.1 x (by omega) (by omega) (by omega) (by omega) (by omega)]
    · show μ4 0 j = _
      rw [z0 j q3 q4]; exact yj j q1 q2
    · show μ4 0 2 = _
      rw [z0 2 (by omega) (by omega)]; exact y2
    · show μ4 0 3 = _
      rw [z0 3 (by omega) (by omega), e20]; exact y3
    · show μ4 g 4 = _
      rw [hBf.1 g (by omega)]; exact u4
    · show μ4 (g + 1) k = _
      rw [lx (g + 1) (by omega) (by omega) (by omega) (by omega) (by omega) (by omega)]; exact (d2 k hk).1
    · show μ4 25 j = _
      rw [e25, hLr.2.2.2 j hj, x2 25 (by omega), hF.1 25 (by omega) (by omega) (by omega)]
    · show μ4 k j = _
      have kb := isSt_b (stB_is hk).1
      rw [hBf.2.2 k bk b hk j hj, hLr.1 k (by omega) (by omega) (by omega) (by omega) (by omega), x2 k (by omega), hF.1 k (by omega) (by omega) (by omega)]
end CGRIDDLE
