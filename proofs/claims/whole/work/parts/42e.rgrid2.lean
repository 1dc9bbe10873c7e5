/-! ===== level 2: the reference reads a griddle ===== -/
section RGRID2
variable {tx : Nat → Nat} {L tot : Nat} {μ ν : Mem}
def OutH (tx : Nat → Nat) (L : Nat) (r : GSt ⊕ Nat) (μ : Mem) : Prop := match r with
  | .inl s => ∃ tot, RG tx L tot s μ
  | .inr e => RErr tx L 0 e 0 μ
theorem RErr.b0 {e m base : Nat} (h : RErr tx L base e m μ) : RErr tx L 0 e 0 μ := by
  obtain ⟨h1, h8, he, j, k, h7, hj, h12, hbk, hk⟩ := h
  exact ⟨h1, h8, he, j, k, h7, hj, h12, by omega, by omega⟩
theorem hasNm_i {D : Dr} {l : List Nat} : D.hasNm l = true ↔ ∃ i, i < D.n ∧ D.nm i = l := by
  unfold Dr.hasNm
  rw [decide_eq_true_eq, cn_pos]
  constructor
  · rintro ⟨i, hi, h⟩; exact ⟨i, hi, of_decide_eq_true h⟩
  · rintro ⟨i, hi, h⟩; exact ⟨i, hi, decide_eq_true h⟩
theorem hasWd_i {D : Dr} {w : Nat} : D.hasWd w = true ↔ ∃ i, i < D.n ∧ D.wd i = w := by
  unfold Dr.hasWd
  rw [decide_eq_true_eq, cn_pos]
  constructor
  · rintro ⟨i, hi, h⟩; exact ⟨i, hi, of_decide_eq_true h⟩
  · rintro ⟨i, hi, h⟩; exact ⟨i, hi, decide_eq_true h⟩
/-- the widths, compared -/
theorem widths_ok {j : Nat} {D : Dr} {w : Nat} {v14 c18 : Int} (h : RS tx L tot (j + 1, []) μ) (hm : tot ≤ j) (hd : DrR D tot μ) (hO : DrO D) (hw : w < 1000) : Ok (loopN (fun s => fX12_readCake_b125 (D.n : Int) v14 c18 (w : Int) s.1 s.2) FU (0, μ)) (fun ν => Pr tot μ ν ∧ ((D.hasWd w = true ∧ RErr tx L tot (er tx L 3 j) 0 ν) ∨ (D.hasWd w = false ∧ ν = μ))) := by
  have hn := hO.1
  have hrj : Rch tx L j := Rch.le h.2.1 (Nat.le_succ j)
  refine loop_I (Q := fun ν : Mem => Pr tot μ ν ∧ ((D.hasWd w = true ∧ RErr tx L tot (er tx L 3 j) 0 ν) ∨ (D.hasWd w = false ∧ ν = μ))) _ (fun t : Int × Mem => 100 - t.1.toNat) (fun t : Int × Mem => ∃ i : Nat, t.1 = i ∧ i ≤ D.n ∧ ((t.2 = μ ∧ ∀ k, k < i → D.wd k ≠ w) ∨ (D.hasWd w = true ∧ RErr tx L tot (er tx L 3 j) 0 t.2 ∧ Pr tot μ t.2))) ⟨0, rfl, by omega, Or.inl ⟨rfl, fun k hk => absurd hk (by omega)⟩⟩ (by show 100 - _ < _; omega) ?_
  rintro ⟨t1, ρ⟩ ⟨i, e1, hi, hcase⟩
  dsimp only at e1 hcase ⊢
  subst e1
  unfold fX12_readCake_b125
  simp only [lt]
  rw [w32_n (a := i) (by omega), w32_n (a := D.n) (by omega)]
  rcases hcase with ⟨rfl, hk⟩ | ⟨hh, hE, hP⟩
  · by_cases c : i < D.n
    rotate_left
    · rw [if_neg (by omega), Ok_some]
      refine ⟨.rf, Or.inr ⟨?_, rfl⟩⟩
      by_cases q : D.hasWd w = true
      · obtain ⟨k, k1, k2⟩ := hasWd_i.mp q
        exact absurd k2 (hk k (by omega))
      · exact eq_false_of_ne_true q
    have hib := hO.2.2.2.1 i c
    have e0 : (23 : Int) + 3 * (i : Int) + 1 = ((24 + 3 * i : Nat) : Int) := by omega
    rw [if_pos (by omega), h.2.2.2.1, if_pos (by decide), e0, w32_n (a := 24 + 3 * i) (by omega), gd_pos (by omega), Int.toNat_natCast, (hd.2.1 i c).2.1, w32_n (a := D.wd i) (by omega), w32_n (a := w) (by omega)]
    by_cases q : D.wd i = w
    · rw [if_pos (by omega)]
      have h7 : ρ 75 7 = ((j + 1 : Nat) : Int) := h.2.2.1
      have hS : RS tx L tot (j, []) (upd2 ρ 75 7 (ρ 75 7 - 1)) := ⟨Tk3.pr (base := tot) h.1 .p7, hrj, by rw [upd2_at, h7]; omega, by rw [upd2_nj (by omega)]; exact h.2.2.2.1, by rw [upd2_nj (by omega)]; exact h.2.2.2.2.1, trivial⟩
      refine Ok.then (rwrong_ok (w := 3) (m := 0) hS (by omega) (by show tot + 0 + 0 ≤ j; omega)) ?_
      rintro ν ⟨g1, g2⟩
      rw [Ok_some]
      exact ⟨⟨i + 1, by push_cast; rfl, by omega, Or.inr ⟨hasWd_i.mpr ⟨i, c, q⟩, g1, Pr.p7.tr g2⟩⟩, by dsimp only; omega⟩
    · rw [if_neg (by omega), Ok_some]
      refine ⟨⟨i + 1, by push_cast; rfl, by omega, Or.inl ⟨rfl, fun k hk2 => ?_⟩⟩, by dsimp only; omega⟩
      by_cases e : k = i
      · rw [e]; exact q
      · exact hk k (by omega)
  · have e8 := hE.2.1
    have e0 := hE.2.2.1
    by_cases c : i < D.n
    · rw [if_pos (by omega), e8, if_neg (by rw [w32_n (by omega)]; omega), Ok_some]
      exact ⟨hP, Or.inl ⟨hh, hE⟩⟩
    · rw [if_neg (by omega), Ok_some]
      exact ⟨hP, Or.inl ⟨hh, hE⟩⟩
theorem widths_e {e base m n : Nat} {v14 c18 c19 : Int} (hn : n < 1000) (hE : RErr tx L base e m μ) : loopN (fun s => fX12_readCake_b125 (n : Int) v14 c18 c19 s.1 s.2) FU (0, μ) = some μ := by
  have e8 := hE.2.1
  have e0 := hE.2.2.1
  apply Ok_val
  refine loop_FU 0 (fun (_ : Nat) (s : Int × Mem) => s = (0, μ)) 0 rfl (by omega) (by omega) (fun i s hi _ => absurd hi (by omega)) ?_
  rintro s rfl
  unfold fX12_readCake_b125
  dsimp only
  rw [if_neg (show ¬ w32 (μ 75 8) = 0 by rw [e8, w32_n (by omega)]; omega)]
  split
  · rw [Ok_some]; rfl
  · rw [Ok_some]; rfl
theorem takeSign_e {e base m : Nat} {c : Int} (h : RErr tx L base e m μ) : fX12_takeSign c μ = some μ := rtake_e h
/-- behind a fault nothing is read -/
theorem j178_e {e : Nat} {a b c : Int} (h : RErr tx L tot e 0 μ) : Ok (fX12_readCake_j178 a b c μ) (fun o => RErr tx L tot e 0 o ∧ Pr tot μ o) := by
  unfold fX12_readCake_j178
  refine Ok.then (takeOne_e h) ?_
  rintro ⟨x, ν⟩ ⟨g1, g2⟩
  dsimp only at g1 g2 ⊢
  have e8 := g1.2.1
  have e0 := g1.2.2.1
  rw [if_neg (show ¬ w32 (ν 75 8) = 0 by rw [e8, w32_n (by omega)]; omega), Ok_some]
  exact ⟨g1, g2⟩
theorem j58_e {e : Nat} {n : Int} (h : RErr tx L tot e 0 μ) : fX12_readCake_j58 n μ = some μ := by
  have e8 := h.2.1
  have e0 := h.2.2.1
  unfold fX12_readCake_j58
  rw [e8, if_neg (by rw [w32_n (by omega)]; omega)]
/-- the cake is in -/
theorem push_r {D : Dr} {l : List Nat} {k w : Nat} {u : Bool} (hd : DrR D tot μ) (hn : D.n < 5) (h83 : μ 83 (5 + D.n) = (pkW 37 l : Int)) {c : Bool} (hc : c = u) :
    DrR (D.push l k w u) tot (upd2 (upd2 (upd2 (upd2 μ 81 (23 + 3 * D.n) (k : Int)) 81 (23 + 3 * D.n + 1) (w : Int)) 81 (23 + 3 * D.n + 2) (b2i c)) 81 20 ((D.n : Int) + 1)) := by
  subst hc
  obtain ⟨h1, h2, h3, h4⟩ := hd
  have hlw : ∀ (i : Nat) (o : Option Cod), (i = 21 ∨ i = 22) → LwR i o tot μ → LwR i o tot (upd2 (upd2 (upd2 (upd2 μ 81 (23 + 3 * D.n) (k : Int)) 81 (23 + 3 * D.n + 1) (w : Int)) 81 (23 + 3 * D.n + 2) (b2i c)) 81 20 ((D.n : Int) + 1)) := fun i o hi h => by
    have e81 : upd2 (upd2 (upd2 (upd2 μ 81 (23 + 3 * D.n) (k : Int)) 81 (23 + 3 * D.n + 1) (w : Int)) 81 (23 + 3 * D.n + 2) (b2i c)) 81 20 ((D.n : Int) + 1) 81 i = μ 81 i := by rw [upd2_nj (by omega), upd2_nj (by omega), upd2_nj (by omega), upd2_nj (by omega)]
    have e82 : upd2 (upd2 (upd2 (upd2 μ 81 (23 + 3 * D.n) (k : Int)) 81 (23 + 3 * D.n + 1) (w : Int)) 81 (23 + 3 * D.n + 2) (b2i c)) 81 20 ((D.n : Int) + 1) 82 = μ 82 := by rw [upd2_ne (by omega), upd2_ne (by omega), upd2_ne (by omega), upd2_ne (by omega)]
    cases o with
    | none => exact e81.trans h
    | some cc =>
      obtain ⟨b, q1, q2, q3, q4⟩ := h
      exact ⟨b, e81.trans q1, q2.same (fun i _ => by rw [e82]), by rw [e82]; exact q3, q4⟩
  refine ⟨?_, fun i hi => ?_, hlw 21 _ (Or.inl rfl) h3, hlw 22 _ (Or.inr rfl) h4⟩
  · rw [upd2_at]; show (D.n : Int) + 1 = ((D.n + 1 : Nat) : Int); push_cast; rfl
  · have hi' : i < D.n + 1 := hi
    rw [upd2_nj (show 23 + 3 * i ≠ 20 by omega), upd2_nj (show 24 + 3 * i ≠ 20 by omega), upd2_nj (show 25 + 3 * i ≠ 20 by omega), upd2_ne (show (83 : Nat) ≠ 81 by omega), upd2_ne (show (83 : Nat) ≠ 81 by omega), upd2_ne (show (83 : Nat) ≠ 81 by omega), upd2_ne (show (83 : Nat) ≠ 81 by omega)]
    show _ = ((if i = D.n then k else D.kd i : Nat) : Int) ∧ _ = ((if i = D.n then w else D.wd i : Nat) : Int) ∧ _ = b2i (if i = D.n then c else D.up i) ∧ _ = (pkW 37 (if i = D.n then l else D.nm i) : Int)
    by_cases e : i = D.n
    · subst e
      rw [if_pos rfl, if_pos rfl, if_pos rfl, if_pos rfl]
      refine ⟨?_, ?_, ?_, h83⟩
      · rw [upd2_nj (by omega), upd2_nj (by omega), upd2_at]
      · rw [upd2_nj (by omega), show 24 + 3 * D.n = 23 + 3 * D.n + 1 by omega, upd2_at]
      · rw [show 25 + 3 * D.n = 23 + 3 * D.n + 2 by omega, upd2_at]
    · rw [if_neg e, if_neg e, if_neg e, if_neg e]
      obtain ⟨a1, a2, a3, a4⟩ := h2 i (by omega)
      refine ⟨?_, ?_, ?_, a4⟩
      · rw [upd2_nj (by omega), upd2_nj (by omega), upd2_nj (by omega)]; exact a1
      · rw [upd2_nj (by omega), upd2_nj (by omega), upd2_nj (by omega)]; exact a2
      · rw [upd2_nj (by omega), upd2_nj (by omega), upd2_nj (by omega)]; exact a3
theorem RS.f81 {j : Nat} (h : RS tx L tot (j, []) μ) (e : ∀ x, x ≠ 81 → ν x = μ x) : RS tx L tot (j, []) ν := ⟨⟨fun i hi => (h.1.1 i hi).same (by rw [e 77 (by omega)]) (by rw [e 78 (by omega)]) (by rw [e 79 (by omega)]), fun w hw => by rw [e 80 (by omega)]; exact h.1.2.1 w hw, h.1.2.2⟩, h.2.1, by rw [e 75 (by omega)]; exact h.2.2.1, by rw [e 75 (by omega)]; exact h.2.2.2.1, by rw [e 75 (by omega)]; exact h.2.2.2.2.1, trivial⟩
theorem RS.f83 {j : Nat} (h : RS tx L tot (j, []) μ) (e : ∀ x, x ≠ 83 → ν x = μ x) : RS tx L tot (j, []) ν := ⟨⟨fun i hi => (h.1.1 i hi).same (by rw [e 77 (by omega)]) (by rw [e 78 (by omega)]) (by rw [e 79 (by omega)]), fun w hw => by rw [e 80 (by omega)]; exact h.1.2.1 w hw, h.1.2.2⟩, h.2.1, by rw [e 75 (by omega)]; exact h.2.2.1, by rw [e 75 (by omega)]; exact h.2.2.2.1, by rw [e 75 (by omega)]; exact h.2.2.2.2.1, trivial⟩
/-- a whole cake: read, and the sign behind it -/
theorem rcake_ok {j : Nat} {D : Dr} (h : RG tx L tot (j, D) μ) (hj : isW tx L j 1 = true) : Ok ((fX12_readCake μ).bind fun μ12 => (fX12_takeSign 59 μ12).bind fun μ13 => some μ13) (fun o => OutH tx L (aCake tx L D j) o ∧ Rf μ o) := by
  obtain ⟨hS, hm, hd, hO⟩ := id h
  dsimp only at hS hm hd hO
  have hn : D.n ≤ 5 := hO.1
  have hp := (isW_pos hj).1
  have h8 := hS.2.2.2.1
  -- a fault: then nothing more
  have bad : ∀ {e : Nat} {ν : Mem}, RErr tx L tot e 0 ν → Rf μ ν → Ok ((some ν).bind fun μ12 => (fX12_takeSign 59 μ12).bind fun μ13 => some μ13) (fun o => OutH tx L (.inr e) o ∧ Rf μ o) := fun {e ν} hE hR => by
    rw [Option.bind_some, takeSign_e hE, Option.bind_some, Ok_some]
    exact ⟨hE.b0, hR⟩
  have badO : ∀ {e : Nat} {f : Option Mem}, Ok f (fun ν => RErr tx L tot e 0 ν ∧ Rf μ ν) → Ok (f.bind fun μ12 => (fX12_takeSign 59 μ12).bind fun μ13 => some μ13) (fun o => OutH tx L (.inr e) o ∧ Rf μ o) := fun {e f} hf => by
    obtain ⟨ν, rfl, g1, g2⟩ := hf
    exact bad g1 g2
  unfold fX12_readCake aCake
  simp only [lt]
  rw [hd.1, w32_n (a := D.n) (by omega), show w32 5 = 5 from by decide]
  by_cases c0 : D.n = 5
  · rw [if_pos (by omega), if_pos c0]
    refine badO ?_
    refine Ok.then (rwrong_ok (w := 5) (m := 0) hS (by omega) (by show tot + 0 + 0 ≤ j; omega)) ?_
    rintro ν ⟨g1, g2⟩
    rw [Ok_some]
    exact ⟨g1, g2.rfr⟩
  rw [if_neg (by omega), if_neg c0]
  have hS3 := hS.next hp
  have hP3 : Pr tot μ (upd2 μ 75 7 (μ 75 7 + 1)) := .p7
  dsimp only at hS3
  generalize upd2 μ 75 7 (μ 75 7 + 1) = μ3 at hS3 hP3 ⊢
  have hd3 := hd.pr hP3
  rw [isName_r hS3, Option.bind_some]
  by_cases c1 : isNm tx L (j + 1) = true
  rotate_left
  · rw [if_neg c1, if_pos c1]
    refine badO ?_
    refine Ok.then (rwrong_ok (w := 1) (m := 0) hS3 (by omega) (by show tot + 0 + 0 ≤ j + 1; omega)) ?_
    rintro ν ⟨g1, g2⟩
    rw [j58_e g1, Ok_some]
    exact ⟨g1, (hP3.tr g2).rfr⟩
  have hk1 : tK tx L (j + 1) = 1 := by
    unfold isNm at c1
    rw [Bool.and_eq_true, decide_eq_true_eq] at c1
    exact c1.1
  have hl := tWd_o hk1
  have hp1 : tSt tx L (j + 1) < L := tK_pos (by omega)
  have hb3 := hS3.b
  have h79 : μ3 79 (j + 1) = (pkW 37 (tW tx L (j + 1)) : Int) := hS3.tk.2.2.1 hk1
  have h73 : μ3 75 7 = ((j + 1 : Nat) : Int) := hS3.2.2.1
  have hna := nameAt_r (fr := 5) (nm := D.nm) (l := tW tx L (j + 1)) h73 hb3 h79 (by omega) (fun i hi => (hd3.2.1 i hi).2.2.2) hO.2.1.1 hl
  rw [show ((5 : Nat) : Int) = 5 from rfl] at hna
  rw [if_pos c1, if_neg (fun q => q c1), hna, Option.bind_some]
  rcases lstW_neg (p := fun i => decide (D.nm i = tW tx L (j + 1))) D.n with ⟨v1, v2⟩ | ⟨i, hi, v1, v2⟩
  rotate_left
  · rw [v1, w32_n (a := i) (by omega), if_neg (by omega), if_pos (hasNm_i.mpr ⟨i, hi, of_decide_eq_true v2⟩)]
    refine badO ?_
    refine Ok.then (rwrong_ok (w := 3) (m := 0) hS3 (by omega) (by show tot + 0 + 0 ≤ j + 1; omega)) ?_
    rintro ν ⟨g1, g2⟩
    rw [j58_e g1, Ok_some]
    exact ⟨g1, (hP3.tr g2).rfr⟩
  have hnn := hasNm_f (D := D) (fun i hi => of_decide_eq_false (v2 i hi))
  rw [v1, w32_m1, if_pos (by omega), if_neg (by rw [hnn]; decide)]
  unfold fX12_readCake_j58
  simp only [lt]
  have e5 : (5 : Int) + (D.n : Int) = ((5 + D.n : Nat) : Int) := by omega
  rw [hS3.2.2.2.1, if_pos (by decide), h73, w32_n (a := j + 1) (by omega), gd_pos (by omega), e5, w32_n (a := 5 + D.n) (by omega), gd_pos (by omega), Int.toNat_natCast, Int.toNat_natCast, h79, upd2_ne (show (75 : Nat) ≠ 83 by omega), h73]
  have hSa : RS tx L tot (j + 1, []) (upd2 μ3 83 (5 + D.n) (pkW 37 (tW tx L (j + 1)) : Int)) := hS3.f83 (fun x q => upd2_ne q)
  have hSb := hSa.next hp1
  dsimp only at hSb
  rw [upd2_ne (show (75 : Nat) ≠ 83 by omega), h73] at hSb
  have hRb : Rf μ (upd2 (upd2 μ3 83 (5 + D.n) (pkW 37 (tW tx L (j + 1)) : Int)) 75 7 (((j + 1 : Nat) : Int) + 1)) := hP3.rfr.tr ⟨fun x q1 _ _ q4 => by rw [upd2_ne q1, upd2_ne q4], fun i i7 _ _ => by rw [upd2_nj i7, upd2_ne (by omega)], fun i _ => by rw [upd2_ne (by omega), upd2_ne (by omega)], fun i _ => by rw [upd2_ne (by omega), upd2_ne (by omega)], fun i hi => by rw [upd2_ne (by omega), upd2_nj (by omega)]⟩
  have hdb : DrR D tot (upd2 (upd2 μ3 83 (5 + D.n) (pkW 37 (tW tx L (j + 1)) : Int)) 75 7 (((j + 1 : Nat) : Int) + 1)) := by
    refine DrR.pr (tot := tot) ?_ (.p7)
    obtain ⟨q1, q2, q3, q4⟩ := hd3
    have e81 : upd2 μ3 83 (5 + D.n) (pkW 37 (tW tx L (j + 1)) : Int) 81 = μ3 81 := upd2_ne (by omega)
    have e82 : upd2 μ3 83 (5 + D.n) (pkW 37 (tW tx L (j + 1)) : Int) 82 = μ3 82 := upd2_ne (by omega)
    have lw : ∀ i o, LwR i o tot μ3 → LwR i o tot (upd2 μ3 83 (5 + D.n) (pkW 37 (tW tx L (j + 1)) : Int)) := fun i o h => by
      cases o with
      | none => show _ = (-1 : Int); rw [e81]; exact h
      | some cc =>
        obtain ⟨b, k1, k2, k3, k4⟩ := h
        exact ⟨b, by rw [e81]; exact k1, k2.same (fun i _ => by rw [e82]), by rw [e82]; exact k3, k4⟩
    exact ⟨by rw [e81]; exact q1, fun i hi => by rw [e81, upd2_nj (by omega)]; exact q2 i hi, lw _ _ q3, lw _ _ q4⟩
  have h83b : upd2 (upd2 μ3 83 (5 + D.n) (pkW 37 (tW tx L (j + 1)) : Int)) 75 7 (((j + 1 : Nat) : Int) + 1) 83 (5 + D.n) = (pkW 37 (tW tx L (j + 1)) : Int) := by rw [upd2_ne (by omega), upd2_at]
  generalize upd2 (upd2 μ3 83 (5 + D.n) (pkW 37 (tW tx L (j + 1)) : Int)) 75 7 (((j + 1 : Nat) : Int) + 1) = μb at hSb hRb hdb h83b ⊢
  -- the kind
  have hw2 := wI_lt (tx := tx) (L := L) (j := j + 2)
  have hkind := wordHere_i (fr := 7) (mn := 4) hSb (by omega)
  dsimp only at hkind
  rw [show j + 1 + 1 = j + 2 from rfl, wh_kind _ hw2] at hkind
  rw [Option.bind_assoc]
  refine Ok.then (takeOne_ok (tot := tot) hSb (by omega) hkind (by split <;> omega) (fun q => by
    apply wI_pos (tx := tx) (L := L) (j := j + 2)
    split at q <;> omega)) ?_
  rintro ⟨v15, μ15⟩ ⟨p15, hc15⟩
  dsimp only at p15 hc15 ⊢
  by_cases c2 : 8 ≤ wI tx L (j + 2) ∧ wI tx L (j + 2) ≤ 11
  rotate_left
  · rw [if_neg c2] at hc15
    rw [if_pos c2]
    rcases hc15 with ⟨q, -⟩ | ⟨-, hE⟩
    · omega
    refine badO ?_
    refine Ok.then (takeWord_e hE) ?_
    rintro μ16 ⟨k1, k2⟩
    rw [takeNumber_e k1, Option.bind_some]
    dsimp only
    rw [widths_e (by omega) k1, Option.bind_some]
    refine Ok.imp (j178_e k1) (fun o q => ⟨q.1, hRb.tr ((p15.tr k2).tr q.2).rfr⟩)
  rw [if_pos c2] at hc15
  rw [if_neg (fun q => q c2)]
  rcases hc15 with ⟨-, hv15, hS15⟩ | ⟨q, -⟩
  rotate_left
  · omega
  subst hv15
  -- wide
  rw [Option.bind_assoc]
  refine Ok.then (takeWord_ok (w := 1) hS15 (by omega) (by omega)) ?_
  rintro μ16 ⟨p16, hc16⟩
  have hci1 : ci 1 = 2 := by decide
  rw [hci1] at hc16
  by_cases c3 : isW tx L (j + 3) 2 = true
  rotate_left
  · rw [if_pos c3]
    rcases hc16 with ⟨q, -⟩ | ⟨-, hE⟩
    · exact absurd q c3
    refine badO ?_
    rw [takeNumber_e hE, Option.bind_some]
    dsimp only
    rw [widths_e (by omega) hE, Option.bind_some]
    refine Ok.imp (j178_e hE) (fun o q => ⟨q.1, hRb.tr ((p15.tr p16).tr q.2).rfr⟩)
  rw [if_neg (fun q => q c3)]
  rcases hc16 with ⟨-, hS16⟩ | ⟨q, -⟩
  rotate_left
  · exact absurd (show isW tx L (j + 3) 2 = false from q) (by rw [c3]; decide)
  -- the number
  rw [Option.bind_assoc]
  refine Ok.then (takeNumber_ok (lo := 1) (hi := 30) hS16 (by omega) (by omega)) ?_
  rintro ⟨v17, μ17⟩ ⟨p17, hc17⟩
  dsimp only at p17 hc17 ⊢
  have hall17 := (p15.tr p16).tr p17
  rcases hc17 with ⟨c4, c5, hv17, hS17⟩ | ⟨hE, hno⟩
  rotate_left
  · have hR : RErr tx L tot (if ¬ tK tx L (j + 4) = 2 then er tx L 1 (j + 4) else er tx L 4 (j + 4)) 0 μ17 := hE
    have hno' : ¬ (tK tx L (j + 4) = 2 ∧ (1 ≤ tN tx L (j + 4) ∧ tN tx L (j + 4) ≤ 30)) := hno
    have fin := fun (e : Nat) (hE : RErr tx L tot e 0 μ17) => badO (e := e) (f := (loopN (fun s => fX12_readCake_b125 (D.n : Int) (23 + 3 * (D.n : Int)) ((wI tx L (j + 2) - 8 : Nat) : Int) v17 s.1 s.2) FU (0, μ17)).bind fun q27 => fX12_readCake_j178 (23 + 3 * (D.n : Int)) ((wI tx L (j + 2) - 8 : Nat) : Int) v17 q27) (by
      rw [widths_e (by omega) hE, Option.bind_some]
      exact Ok.imp (j178_e hE) (fun o q => ⟨q.1, hRb.tr (hall17.tr q.2).rfr⟩))
    by_cases c4 : tK tx L (j + 4) = 2
    · rw [if_neg (fun q => q c4)] at hR ⊢
      rw [if_pos (fun q => hno' ⟨c4, q⟩)]
      exact fin _ hR
    · rw [if_pos c4] at hR ⊢
      exact fin _ hR
  have c4' : tK tx L (j + 4) = 2 := c4
  have c5' : 1 ≤ tN tx L (j + 4) ∧ tN tx L (j + 4) ≤ 30 := c5
  have hv17' : v17 = (tN tx L (j + 4) : Int) := hv17
  subst hv17'
  rw [if_neg (fun q => q c4'), if_neg (fun q => q c5')]
  -- no two alike
  rw [Option.bind_assoc]
  have hd17 := hdb.pr hall17
  refine Ok.then (widths_ok (j := j + 4) (w := tN tx L (j + 4)) hS17 (by omega) hd17 hO (by omega)) ?_
  rintro μ27 ⟨p27, hc27⟩
  rcases hc27 with ⟨c6, hE⟩ | ⟨c6, rfl⟩
  · rw [if_pos c6]
    exact badO (Ok.imp (j178_e hE) (fun o q => ⟨q.1, hRb.tr ((hall17.tr p27).tr q.2).rfr⟩))
  rw [if_neg (by rw [c6]; decide)]
  -- how it lies
  unfold fX12_readCake_j178
  simp only [lt]
  have hw5 := wI_lt (tx := tx) (L := L) (j := j + 5)
  have hlie := wordHere_i (fr := 2) (mn := 2) hS17 (by omega)
  dsimp only at hlie
  rw [show j + 1 + 1 + 1 + 1 + 1 = j + 5 from rfl, wh_lie _ hw5] at hlie
  rw [Option.bind_assoc]
  refine Ok.then (takeOne_ok (tot := tot) hS17 (by omega) hlie (by split <;> (try split) <;> omega) (fun q => by
    apply wI_pos (tx := tx) (L := L) (j := j + 5)
    split at q
    · omega
    · split at q <;> omega)) ?_
  rintro ⟨v31, μ31⟩ ⟨p31, hc31⟩
  dsimp only at p31 hc31 ⊢
  have hall31 := hall17.tr p31
  by_cases c7 : wI tx L (j + 5) = 6 ∨ wI tx L (j + 5) = 7
  rotate_left
  · rw [if_pos c7]
    rw [if_neg (by omega), if_neg (by omega)] at hc31
    rcases hc31 with ⟨q, -⟩ | ⟨-, hE⟩
    · omega
    have e8 := hE.2.1
    have e0 := hE.2.2.1
    rw [if_neg (show ¬ w32 (μ31 75 8) = 0 by rw [e8, w32_n (by omega)]; omega)]
    exact bad hE (hRb.tr hall31.rfr)
  rw [if_neg (show ¬ ¬ (wI tx L (j + 5) = 6 ∨ wI tx L (j + 5) = 7) from fun q => q c7)]
  rcases hc31 with ⟨hW0, hv31, hS31⟩ | ⟨q, -⟩
  rotate_left
  · rcases c7 with c | c
    · rw [if_neg (by omega), if_pos c] at q; omega
    · rw [if_pos c] at q; omega
  have hup : (if w32 v31 = 0 then true else false) = decide (wI tx L (j + 5) = 7) := by
    rcases c7 with c | c
    · rw [if_neg (show ¬ wI tx L (j + 5) = 7 by omega), if_pos c] at hv31
      rw [hv31, w32_1, decide_eq_false (by omega)]; rfl
    · rw [if_pos c] at hv31
      rw [hv31, decide_eq_true c]; rfl
  have e23 : (23 : Int) + 3 * (D.n : Int) = ((23 + 3 * D.n : Nat) : Int) := by omega
  have e24 : ((23 + 3 * D.n : Nat) : Int) + 1 = ((23 + 3 * D.n + 1 : Nat) : Int) := by omega
  have e25 : ((23 + 3 * D.n : Nat) : Int) + 2 = ((23 + 3 * D.n + 2 : Nat) : Int) := by omega
  have hd31 := hd17.pr p31
  have h8320 : μ31 81 20 = D.n := hd31.1
  have h83x : μ31 83 (5 + D.n) = (pkW 37 (tW tx L (j + 1)) : Int) := by rw [hall31.1 83 (by omega) (by omega)]; exact h83b
  rw [if_pos (show w32 (μ31 75 8) = 0 by rw [hS31.2.2.2.1]; decide), e23, e24, e25, w32_n (a := 23 + 3 * D.n) (by omega), gd_pos (by omega), w32_n (a := 23 + 3 * D.n + 1) (by omega), gd_pos (by omega), w32_n (a := 23 + 3 * D.n + 2) (by omega), gd_pos (by omega), Int.toNat_natCast, Int.toNat_natCast, Int.toNat_natCast, hup, upd2_nj (show 20 ≠ 23 + 3 * D.n + 2 by omega), upd2_nj (show 20 ≠ 23 + 3 * D.n + 1 by omega), upd2_nj (show 20 ≠ 23 + 3 * D.n by omega), h8320, Option.bind_some]
  have hdp := push_r (l := tW tx L (j + 1)) (k := wI tx L (j + 2) - 8) (w := tN tx L (j + 4)) (u := decide (wI tx L (j + 5) = 7)) hd31 (by omega) h83x rfl
  have hxp : ∀ x, x ≠ 81 → upd2 (upd2 (upd2 (upd2 μ31 81 (23 + 3 * D.n) ((wI tx L (j + 2) - 8 : Nat) : Int)) 81 (23 + 3 * D.n + 1) (tN tx L (j + 4) : Int)) 81 (23 + 3 * D.n + 2) (b2i (decide (wI tx L (j + 5) = 7)))) 81 20 ((D.n : Int) + 1) x = μ31 x := fun x q => by rw [upd2_ne q, upd2_ne q, upd2_ne q, upd2_ne q]
  have hxj : ∀ i, i < 20 → upd2 (upd2 (upd2 (upd2 μ31 81 (23 + 3 * D.n) ((wI tx L (j + 2) - 8 : Nat) : Int)) 81 (23 + 3 * D.n + 1) (tN tx L (j + 4) : Int)) 81 (23 + 3 * D.n + 2) (b2i (decide (wI tx L (j + 5) = 7)))) 81 20 ((D.n : Int) + 1) 81 i = μ31 81 i := fun i q => by rw [upd2_nj (by omega), upd2_nj (by omega), upd2_nj (by omega), upd2_nj (by omega)]
  generalize upd2 (upd2 (upd2 (upd2 μ31 81 (23 + 3 * D.n) ((wI tx L (j + 2) - 8 : Nat) : Int)) 81 (23 + 3 * D.n + 1) (tN tx L (j + 4) : Int)) 81 (23 + 3 * D.n + 2) (b2i (decide (wI tx L (j + 5) = 7)))) 81 20 ((D.n : Int) + 1) = μ41 at hdp hxp hxj ⊢
  have hS41 : RS tx L tot (j + 6, []) μ41 := hS31.f81 hxp
  have hR41 : Rf μ μ41 := (hRb.tr hall31.rfr).tr ⟨fun x _ q _ _ => hxp x q, fun i _ _ _ => by rw [hxp 75 (by omega)], hxj, fun i _ => by rw [hxp 82 (by omega)], fun i _ => by rw [hxp 83 (by omega)]⟩
  have hO' := hO.push (l := tW tx L (j + 1)) (k := wI tx L (j + 2) - 8) (w := tN tx L (j + 4)) (u := decide (wI tx L (j + 5) = 7)) (by omega) hl hnn (by omega) c5' c6
  rw [show (59 : Int) = ((59 : Nat) : Int) from rfl]
  refine Ok.then (rtake_ok (c := 59) (m := 0) hS41 (by omega) (by show tot + 0 + 0 ≤ j + 6; omega)) ?_
  rintro ν ⟨k1, k2⟩
  rw [Ok_some]
  refine ⟨?_, hR41.tr k2.rfr⟩
  dsimp only at k1
  by_cases c8 : isS tx L (j + 6) 59 = true
  · rw [if_pos c8] at k1
    rw [if_neg (fun q => q c8)]
    exact ⟨tot, k1, by show tot ≤ j + 7; omega, hdp.pr k2, hO'⟩
  · rw [if_neg c8] at k1
    rw [if_pos c8]
    exact RErr.b0 k1
end RGRID2
