/-! ===== level 2: the class reads a griddle ===== -/
section CGRID
variable {tx : Nat → Nat} {L g : Nat} {μ ν : Mem}
/-- a law told or not, in the class -/
def LwC (k : Nat) (o : Option Cod) (μ : Mem) : Prop := match o with
  | Option.none => μ k 5 = 0 ∧ μ k 3 = 0
  | some c => μ k 5 = 1 ∧ μ k 3 = c.length ∧ CdC k c μ
def DrC (g : Nat) (D : Dr) (μ : Mem) : Prop := μ g 0 = D.n ∧ (∀ i, i < D.n → μ (g + 1) i = (pkW 32 (D.nm i) : Int) ∧ μ (g + 2) i = D.kd i ∧ μ (g + 3) i = D.wd i) ∧ μ g 4 = upN D.up D.n ∧ LwC (g + 4) D.bars μ ∧ LwC (g + 7) D.costs μ
/-- the class stands at token s.1 and has read the draft s.2 -/
def CG (tx : Nat → Nat) (L g : Nat) (s : GSt) (μ : Mem) : Prop := Cur tx L s.1 μ ∧ Rch tx L s.1 ∧ μ 3 1 = 0 ∧ DrC g s.2 μ ∧ DrO s.2
def Gf (g : Nat) (μ ν : Mem) : Prop := (∀ x, x ≠ 1 → x ≠ 3 → ¬ (g ≤ x ∧ x ≤ g + 9) → ν x = μ x) ∧ (∀ j, j ≠ 1 → ν 3 j = μ 3 j) ∧ (∀ j, j ≠ 3 → j ≠ 5 → ν (g + 4) j = μ (g + 4) j) ∧ ∀ j, j ≠ 3 → j ≠ 5 → ν (g + 7) j = μ (g + 7) j
def OutG (tx : Nat → Nat) (L g : Nat) (r : GSt ⊕ Nat) (μ : Mem) : Prop := match r with
  | .inl s => CG tx L g s μ
  | .inr e => CEr tx L e μ ∧ e ≠ 0 ∧ e < 20000
def gOk (g : Nat) : Prop := g = 5 ∨ g = 15
theorem Gf.rf : Gf g μ μ := ⟨fun _ _ _ _ => rfl, fun _ _ => rfl, fun _ _ _ => rfl, fun _ _ _ => rfl⟩
theorem Gf.tr {a b c : Mem} (h1 : Gf g a b) (h2 : Gf g b c) : Gf g a c := ⟨fun x q1 q2 q3 => (h2.1 x q1 q2 q3).trans (h1.1 x q1 q2 q3), fun j q => (h2.2.1 j q).trans (h1.2.1 j q), fun j a b => (h2.2.2.1 j a b).trans (h1.2.2.1 j a b), fun j a b => (h2.2.2.2 j a b).trans (h1.2.2.2 j a b)⟩
theorem Tf.gf (hg : gOk g) (h : Tf μ ν) : Gf g μ ν := by
  unfold gOk at hg
  exact ⟨fun x q _ _ => h x q, fun j _ => by rw [h 3 (by omega)], fun j _ _ => by rw [h (g + 4) (by omega)], fun j _ _ => by rw [h (g + 7) (by omega)]⟩
theorem LwC.same {k : Nat} {o : Option Cod} (h : LwC k o μ) (e1 : ν k = μ k) (e2 : ν (k + 1) = μ (k + 1)) : LwC k o ν := by
  cases o with
  | none => show ν k 5 = 0 ∧ ν k 3 = 0; rw [e1]; exact h
  | some c => exact ⟨by rw [e1]; exact h.1, by rw [e1]; exact h.2.1, CdC.same h.2.2 (fun i _ => by rw [e2])⟩
theorem DrC.same {D : Dr} (h : DrC g D μ) (e : ∀ x, g ≤ x → x ≤ g + 9 → ν x = μ x) : DrC g D ν := by
  obtain ⟨h1, h2, h3, h4, h5⟩ := h
  exact ⟨by rw [e g (by omega) (by omega)]; exact h1, fun i hi => by rw [e (g + 1) (by omega) (by omega), e (g + 2) (by omega) (by omega), e (g + 3) (by omega) (by omega)]; exact h2 i hi, by rw [e g (by omega) (by omega)]; exact h3, h4.same (e _ (by omega) (by omega)) (e _ (by omega) (by omega)), h5.same (e _ (by omega) (by omega)) (e _ (by omega) (by omega))⟩
theorem gstep_ok {j : Nat} {D : Dr} (hg : gOk g) (h : CG tx L g (j, D) μ) (hj : tSt tx L j < L) : Ok (fX9_step μ) (fun ν => CG tx L g (j + 1, D) ν ∧ Gf g μ ν) := by
  obtain ⟨h1, h2, h3, h4, h5⟩ := h
  have hgb := hg
  unfold gOk at hgb
  refine Ok.imp (step_ok h1 hj) ?_
  rintro ν ⟨g1, g2⟩
  exact ⟨⟨g1, h2.next hj, by rw [g2 3 (by omega)]; exact h3, DrC.same h4 (fun x _ _ => g2 x (by omega)), h5⟩, Tf.gf hg g2⟩
theorem gwrong_ok {j w : Nat} {D : Dr} (hg : gOk g) (h : CG tx L g (j, D) μ) (hw : 1 ≤ w ∧ w ≤ 5) : (fX6_wrong (w : Int) μ).1 = false ∧ OutG tx L g (.inr (er tx L w j)) (fX6_wrong (w : Int) μ).2 ∧ Gf g μ (fX6_wrong (w : Int) μ).2 := by
  obtain ⟨h1, h2, h3, h4, h5⟩ := h
  unfold gOk at hg
  unfold fX6_wrong
  simp only [lt]
  rw [h3, if_pos (by decide), h1.2.1]
  refine ⟨rfl, ⟨⟨⟨?_, fun i hi => ?_, h1.1.2.2⟩, ?_⟩, er_pos (by omega), er_lt h1.1.2.2.1 hw.2⟩, fun x q1 q2 q3 => ?_, fun j hj => ?_, fun j _ _ => ?_, fun j _ _ => ?_⟩
  · dsimp only; rw [upd2_ne (by omega)]; exact h1.1.1
  · dsimp only; rw [upd2_ne (by omega)]; exact h1.1.2.1 i hi
  · dsimp only; rw [upd2_at]; unfold er; push_cast; rfl
  · dsimp only; rw [upd2_ne q2]
  · dsimp only; rw [upd2_nj hj]
  · dsimp only; rw [upd2_ne (by omega)]
  · dsimp only; rw [upd2_ne (by omega)]
/-- a name, in the class -/
theorem isName_v {j : Nat} (h : Cur tx L j μ) : fX9_isName μ = some (isNm tx L j) := by
  have hw := wI_lt (tx := tx) (L := L) (j := j)
  unfold fX9_isName isNm
  simp only [lt]
  rw [show w32 119 = 119 from by decide, wI_v h, gd_pos (by omega), Int.toNat_natCast, Nat.add_sub_cancel_left]
  by_cases q1 : tK tx L j = 1
  · rw [kd_1 h q1, if_pos rfl, decide_eq_true q1, Bool.true_and]
    generalize wI tx L j = i at hw
    have : ∀ i, i < 19 → (if ((wmay.getD i 0) != 0) = true then true else false) = (decide (i = 0) || decide (15 ≤ i)) := by decide
    rw [this i hw]
  · have hne : ¬ w32 (μ 1 4 % 65536) = 119 := by
      rcases tK_c (tx := tx) (L := L) (j := j) with q | q | q | q | q
      · rw [kd_0 h q]; omega
      · exact absurd q q1
      · rw [kd_2 h q]; omega
      · have := sg_b (sg_of q)
        rw [kd_3 h q]; omega
      · rw [kd_4 h q]; omega
    rw [if_neg hne, decide_eq_false q1]; rfl
/-- looking a name up -/
theorem find_c {n : Nat} {nm : Nat → List Nat} {l : List Nat} (hn : n ≤ 5) (h0 : μ g 0 = n) (hr : ∀ i, i < n → μ (g + 1) i = (pkW 32 (nm i) : Int)) (ho : ∀ i, i < n → WdO (nm i)) (hl : WdO l) : Ok (fX2_find g (pkW 32 l : Int) μ) (fun v => (v = -1 ∧ ∀ i, i < n → nm i ≠ l) ∨ ∃ i, i < n ∧ v = (i : Int) ∧ nm i = l) := by
  have hlb := (pkW_b hl).1
  unfold fX2_find
  refine loop_FU n (fun (i : Nat) (s : Int) => s = (i : Int) ∧ ∀ k, k < i → nm k ≠ l) 0 ⟨rfl, fun k hk => absurd hk (by omega)⟩ (by omega) (by omega) ?_ ?_
  · rintro i s hi ⟨rfl, hk⟩
    have hib := (pkW_b (ho i hi)).1
    unfold fX2_find_b2
    rw [h0, w32_n (a := i) (by omega), w32_n (a := n) (by omega), show w32 5 = 5 from by decide, if_pos (by omega), if_pos (by omega), gd_pos (by omega), Int.toNat_natCast, hr i hi, w64_eq (by omega) (by omega), w64_eq (by omega) (by omega)]
    by_cases e : pkW 32 (nm i) = pkW 32 l
    · rw [if_pos (by omega), Ok_some]
      exact Or.inr ⟨i, hi, rfl, pkW_inj (by omega) _ _ (ho i hi).2.2 hl.2.2 e⟩
    · rw [if_neg (by omega), Ok_some]
      refine ⟨by push_cast; rfl, fun k hk2 => ?_⟩
      by_cases e2 : k = i
      · subst e2; intro h2; exact e (by rw [h2])
      · exact hk k (by omega)
  · rintro s ⟨rfl, hk⟩
    unfold fX2_find_b2
    rw [h0, w32_n (a := n) (by omega), if_neg (by omega), Ok_some]
    exact Or.inl ⟨rfl, hk⟩
theorem hasW_c {D : Dr} {w : Nat} (hg : gOk g) (h : DrC g D μ) (hO : DrO D) (hw : w < 1000) : fX2_hasWidth g (w : Int) μ = some (D.hasWd w) := by
  have al3 := al_G3 hg
  apply Ok_val
  unfold fX2_hasWidth
  refine loop_FU D.n (fun (i : Nat) (s : Int) => s = (i : Int) ∧ cn i (fun i => decide (D.wd i = w)) = 0) 0 ⟨rfl, rfl⟩ (by omega) (by have := hO.1; omega) ?_ ?_
  · rintro i s hi ⟨rfl, hk⟩
    have hn := hO.1
    have hib := hO.2.2.2.1 i hi
    unfold fX2_hasWidth_b2
    rw [h.1, w32_n (a := i) (by omega), w32_n (a := D.n) (by omega), if_pos (by omega), at_n i rfl al3 (by omega) (by omega), (h.2.1 i hi).2.2, w32_n (by omega), w32_n (by omega)]
    by_cases e : D.wd i = w
    · rw [if_pos (by omega), Ok_some]
      dsimp only [Sum.elim]
      unfold Dr.hasWd
      exact (decide_eq_true (cn_pos.mpr ⟨i, hi, decide_eq_true e⟩)).symm
    · rw [if_neg (by omega), Ok_some]
      exact ⟨by push_cast; rfl, by rw [cn_succ, hk, decide_eq_false e]; rfl⟩
  · rintro s ⟨rfl, hk⟩
    have hn := hO.1
    unfold fX2_hasWidth_b2
    rw [h.1, w32_n (a := D.n) (by omega), if_neg (by omega), Ok_some]
    dsimp only [Sum.elim]
    unfold Dr.hasWd
    rw [hk]; rfl
/-- a cake more -/
theorem add_c {j : Nat} {D : Dr} {l : List Nat} {k w : Nat} {u : Bool} (hg : gOk g) (h : CG tx L g (j, D) μ) (hn : D.n < 5) (hO : DrO (D.push l k w u)) : CG tx L g (j, D.push l k w u) (fX2_add g (pkW 32 l : Int) (k : Int) (w : Int) u μ) ∧ Gf g μ (fX2_add g (pkW 32 l : Int) (k : Int) (w : Int) u μ) := by
  obtain ⟨h1, h2, h3, ⟨d1, d2, d3, d4, d5⟩, h5⟩ := h
  dsimp only at h1 h2 d1 d2 d3 d4 d5 h5
  have hgb := hg
  unfold gOk at hgb
  have al2 := al_G2 hg
  have al3 := al_G3 hg
  have hub := upN_lt (up := D.up) D.n
  have h2p := two_pow_5 (a := D.n) (by omega)
  unfold fX2_add
  simp only [lt]
  rw [d1, w32_n (a := D.n) (by omega), show w32 5 = 5 from by decide, if_neg (by omega), if_pos (show (D.n : Int) < 5 by omega), Int.toNat_natCast]
  rw [upd2_ne (show g ≠ g + 1 by omega), d1, put_n D.n rfl al2 (by omega) (by omega), upd2_ne (show g ≠ g + 2 by omega), upd2_ne (show g ≠ g + 1 by omega), d1, put_n D.n rfl al3 (by omega) (by omega)]
  generalize hμ5 : upd2 (upd2 (upd2 μ (g + 1) D.n (pkW 32 l : Int)) (g + 2) D.n (k : Int)) (g + 3) D.n (w : Int) = μ5
  have e5 : ∀ x, x ≠ g + 1 → x ≠ g + 2 → x ≠ g + 3 → μ5 x = μ x := fun x q1 q2 q3 => by rw [← hμ5, upd2_ne q3, upd2_ne q2, upd2_ne q1]
  have e51 : μ5 (g + 1) = upd2 μ (g + 1) D.n (pkW 32 l : Int) (g + 1) := by rw [← hμ5, upd2_ne (by omega), upd2_ne (by omega)]
  have e52 : ∀ i, μ5 (g + 2) i = if i = D.n then (k : Int) else μ (g + 2) i := fun i => by
    rw [← hμ5, upd2_ne (by omega), upd2_self, upd2_ne (by omega)]
  have e53 : ∀ i, μ5 (g + 3) i = if i = D.n then (w : Int) else μ (g + 3) i := fun i => by
    rw [← hμ5, upd2_self, upd2_ne (by omega), upd2_ne (by omega)]
  have e50 : μ5 g = μ g := e5 g (by omega) (by omega) (by omega)
  rw [e50, d1, d3]
  have hups : i_or (upN D.up D.n : Int) (if u = true then i_shl 1 (D.n : Int) else 0) = (upN (D.push l k w u).up (D.n + 1) : Int) := by
    have hold : upN (D.push l k w u).up D.n = upN D.up D.n := upN_congr _ (fun i hi => by show (if i = D.n then u else D.up i) = D.up i; rw [if_neg (by omega)])
    have htop : (D.push l k w u).up D.n = u := by show (if D.n = D.n then u else D.up D.n) = u; rw [if_pos rfl]
    rw [upN, hold, htop]
    cases u with
    | true => rw [if_pos rfl, if_pos rfl, i_shl1 (by omega), i_or_n (by omega) (by omega)]
    | false =>
      have := i_or_n (a := upN D.up D.n) (b := 0) (by omega) (by omega)
      rw [show ((0 : Nat) : Int) = 0 from rfl, Nat.or_zero] at this
      rw [if_neg (by decide), if_neg (by decide), this]
  rw [hups]
  generalize hμ9 : upd2 (upd2 μ5 g 4 (upN (D.push l k w u).up (D.n + 1) : Int)) g 0 (upd2 μ5 g 4 (upN (D.push l k w u).up (D.n + 1) : Int) g 0 + 1) = μ9
  have e9 : ∀ x, x ≠ g → μ9 x = μ5 x := fun x q => by rw [← hμ9, upd2_ne q, upd2_ne q]
  have e90 : μ9 g 0 = ((D.n + 1 : Nat) : Int) := by rw [← hμ9, upd2_at, upd2_nj (by omega), e50, d1]; push_cast; rfl
  have e94 : μ9 g 4 = (upN (D.push l k w u).up (D.n + 1) : Int) := by rw [← hμ9, upd2_nj (by omega), upd2_at]
  have e19 : μ9 1 = μ 1 := by rw [e9 1 (by omega), e5 1 (by omega) (by omega) (by omega)]
  have e29 : μ9 2 = μ 2 := by rw [e9 2 (by omega), e5 2 (by omega) (by omega) (by omega)]
  refine ⟨⟨?_, h2, ?_, ⟨e90, fun i hi => ?_, e94, ?_, ?_⟩, hO⟩, fun x q1 q2 q3 => ?_, fun j _ => ?_, fun j _ _ => ?_, fun j _ _ => ?_⟩
  · unfold Cur At TX at h1 ⊢
    rw [e19, e29]; exact h1
  · rw [e9 3 (by omega), e5 3 (by omega) (by omega) (by omega)]; exact h3
  · have hi' : i < D.n + 1 := hi
    rw [e9 _ (by omega), e9 _ (by omega), e9 _ (by omega), e51, e52, e53, upd2_self]
    show _ = (pkW 32 (if i = D.n then l else D.nm i) : Int) ∧ _ = ((if i = D.n then k else D.kd i : Nat) : Int) ∧ _ = ((if i = D.n then w else D.wd i : Nat) : Int)
    by_cases c : i = D.n
    · rw [if_pos c, if_pos c, if_pos c, if_pos c, if_pos c, if_pos c]; exact ⟨rfl, rfl, rfl⟩
    · rw [if_neg c, if_neg c, if_neg c, if_neg c, if_neg c, if_neg c]; exact d2 i (by omega)
  · exact d4.same (by rw [e9 _ (by omega), e5 _ (by omega) (by omega) (by omega)]) (by rw [e9 _ (by omega), e5 _ (by omega) (by omega) (by omega)])
  · exact d5.same (by rw [e9 _ (by omega), e5 _ (by omega) (by omega) (by omega)]) (by rw [e9 _ (by omega), e5 _ (by omega) (by omega) (by omega)])
  · rw [e9 x (by omega), e5 x (by omega) (by omega) (by omega)]
  · rw [e9 3 (by omega), e5 3 (by omega) (by omega) (by omega)]
  · rw [e9 _ (by omega), e5 _ (by omega) (by omega) (by omega)]
  · rw [e9 _ (by omega), e5 _ (by omega) (by omega) (by omega)]
theorem sen_k : ∀ i, i < 19 → 8 ≤ i → i ≤ 11 → wsen.getD i 0 = ((i - 8 : Nat) : Int) := by decide
theorem kind_v : ∀ i, i < 19 → fX10_isKind (1000 + i) = (decide (8 ≤ i ∧ i ≤ 11)) := by decide
theorem lie_v : ∀ i, i < 19 → fX10_isLie (1000 + i) = (decide (i = 6 ∨ i = 7)) := by decide
theorem tNm_b {j : Nat} (h : tK tx L j = 2) : tN tx L j < 10000 := by
  have hk2 : tKd tx L (tSt tx L j) = 2 := h
  show tNm tx L (tSt tx L j) < 10000
  generalize tSt tx L j = s at hk2 ⊢
  unfold tKd at hk2
  by_cases q1 : s < L
  rotate_left
  · rw [if_neg q1] at hk2; omega
  rw [if_pos q1] at hk2
  by_cases q2 : isLt (tx s) = true
  · rw [if_pos q2] at hk2
    split at hk2 <;> omega
  rw [if_neg q2] at hk2
  by_cases q3 : isFg (tx s) = true
  rotate_left
  · rw [if_neg q3] at hk2
    split at hk2 <;> omega
  rw [if_pos q3] at hk2
  by_cases q4 : tEnd tx L s - s ≤ 4
  rotate_left
  · rw [if_neg q4] at hk2; omega
  have he : tEnd tx L s = run (fun k => isFg (tx k)) L s := by unfold tEnd; rw [if_neg q2, if_pos q3]
  have key : ∀ j, j ≤ tEnd tx L s - s → nmr tx s j < 10 ^ j := by
    intro j
    induction j with
    | zero => intro _; show 0 < 1; omega
    | succ j ih =>
      intro hj
      have h1 := ih (by omega)
      have h2 := (run_spec (q := fun k => isFg (tx k)) (L := L) (i := s)).2.1 (s + j) (by omega) (by rw [← he]; omega)
      have h3 := isFg_b h2.2
      rw [nmr, Nat.pow_succ]
      omega
  have h1 := key _ (Nat.le_refl _)
  have h2 : 10 ^ (tEnd tx L s - s) ≤ 10 ^ 4 := Nat.pow_le_pow_right (by omega) q4
  unfold tNm
  omega
/-- all that is so of a token -/
theorem tk_lt {j : Nat} (h : tK tx L j ≠ 0) : tSt tx L j < L := tK_pos h
theorem wI_pos {j : Nat} (h : wI tx L j ≠ 0) : tSt tx L j < L := by
  apply tK_pos (tx := tx) (L := L) (j := j)
  intro q
  apply h
  unfold wI
  rw [if_neg (by omega)]
theorem cwidth_ok {j : Nat} {D : Dr} (hg : gOk g) (h : CG tx L g (j, D) μ) : Ok (fX6_readWidth g μ) (fun o => Gf g μ o.2 ∧ ((isW tx L j 2 = true ∧ tK tx L (j + 1) = 2 ∧ (1 ≤ tN tx L (j + 1) ∧ tN tx L (j + 1) ≤ 30) ∧ D.hasWd (tN tx L (j + 1)) = false ∧ o.1 = true ∧ CG tx L g (j + 1, D) o.2) ∨ (o.1 = false ∧ OutG tx L g (if ¬ isW tx L j 2 = true then .inr (er tx L 1 j) else if ¬ tK tx L (j + 1) = 2 then .inr (er tx L 1 (j + 1)) else if ¬ (1 ≤ tN tx L (j + 1) ∧ tN tx L (j + 1) ≤ 30) then .inr (er tx L 4 (j + 1)) else .inr (er tx L 3 (j + 1))) o.2 ∧ (isW tx L j 2 = true → tK tx L (j + 1) = 2 → (1 ≤ tN tx L (j + 1) ∧ tN tx L (j + 1) ≤ 30) → D.hasWd (tN tx L (j + 1)) = true)))) := by
  unfold fX6_readWidth
  simp only [lt]
  rw [show (1002 : Nat) = 1000 + 2 from rfl, isWord_v h.1 (by omega), Option.bind_some]
  by_cases c1 : isW tx L j 2 = true
  rotate_left
  · rw [if_neg c1, Ok_some]
    obtain ⟨w1, w2, w3⟩ := gwrong_ok (w := 1) hg h (by omega)
    exact ⟨w3, Or.inr ⟨w1, by rw [if_pos c1]; exact w2, fun q => absurd q c1⟩⟩
  rw [if_pos c1]
  refine Ok.then (gstep_ok hg h (isW_pos c1).1) ?_
  rintro μ3 ⟨g1, g2⟩
  rw [is_nm g1.1]
  by_cases c2 : tK tx L (j + 1) = 2
  rotate_left
  · rw [if_neg (by rw [decide_eq_false c2]; decide), Ok_some]
    obtain ⟨w1, w2, w3⟩ := gwrong_ok (w := 1) hg g1 (by omega)
    exact ⟨g2.tr w3, Or.inr ⟨w1, by rw [if_neg (fun q => q c1), if_pos c2]; exact w2, fun _ q => absurd q c2⟩⟩
  have hv := (g1.1.2.2.2.2.2.1 c2).2
  have hvb := tNm_b c2
  have hv' : μ3 1 5 = (tN tx L (j + 1) : Int) := hv
  rw [if_pos (decide_eq_true c2), hv', w32_n (a := tN tx L (j + 1)) (by omega), w32_1, show w32 30 = 30 from by decide]
  by_cases c3 : tN tx L (j + 1) < 1
  · rw [if_pos (by omega), Ok_some]
    obtain ⟨w1, w2, w3⟩ := gwrong_ok (w := 4) hg g1 (by omega)
    exact ⟨g2.tr w3, Or.inr ⟨w1, by rw [if_neg (fun q => q c1), if_neg (fun q => q c2), if_pos (by omega)]; exact w2, fun _ _ q => by omega⟩⟩
  rw [if_neg (by omega)]
  by_cases c4 : tN tx L (j + 1) ≤ 30
  rotate_left
  · rw [if_neg (by omega), Ok_some]
    obtain ⟨w1, w2, w3⟩ := gwrong_ok (w := 4) hg g1 (by omega)
    exact ⟨g2.tr w3, Or.inr ⟨w1, by rw [if_neg (fun q => q c1), if_neg (fun q => q c2), if_pos (by omega)]; exact w2, fun _ _ q => by omega⟩⟩
  rw [if_pos (by omega), hasW_c hg g1.2.2.2.1 g1.2.2.2.2 (by omega), Option.bind_some]
  by_cases c5 : D.hasWd (tN tx L (j + 1)) = true
  · rw [if_pos c5, Ok_some]
    obtain ⟨w1, w2, w3⟩ := gwrong_ok (w := 3) hg g1 (by omega)
    refine ⟨g2.tr w3, Or.inr ⟨?_, by rw [if_neg (fun q => q c1), if_neg (fun q => q c2), if_neg (fun q => q ⟨by omega, c4⟩)]; exact w2, fun _ _ _ => c5⟩⟩
    dsimp only
    have w1' : (fX6_wrong 3 μ3).1 = false := w1
    rw [w1']; rfl
  · rw [if_neg c5, Ok_some]
    exact ⟨g2, Or.inl ⟨c1, c2, ⟨by omega, c4⟩, eq_false_of_ne_true c5, rfl, g1⟩⟩
theorem Cur.name {j : Nat} (h : Cur tx L j μ) (hn : isNm tx L j = true) : tSt tx L j < L ∧ WdO (tW tx L j) ∧ μ 1 6 = (pkW 32 (tW tx L j) : Int) := by
  unfold isNm at hn
  rw [Bool.and_eq_true, decide_eq_true_eq] at hn
  exact ⟨tK_pos (by rw [hn.1]; omega), tWd_o hn.1, (h.2.2.2.2.1 hn.1).2.1⟩
theorem hasNm_f {D : Dr} {l : List Nat} (h : ∀ i, i < D.n → D.nm i ≠ l) : D.hasNm l = false := by
  unfold Dr.hasNm
  rw [cn_none (fun i hi => decide_eq_false (h i hi))]; rfl
theorem hasNm_t {D : Dr} {l : List Nat} {i : Nat} (hi : i < D.n) (h : D.nm i = l) : D.hasNm l = true := by
  unfold Dr.hasNm
  exact decide_eq_true (cn_pos.mpr ⟨i, hi, decide_eq_true h⟩)
theorem ccake_ok {j : Nat} {D : Dr} (hg : gOk g) (h : CG tx L g (j, D) μ) (hj : tSt tx L j < L) : Ok (fX6_readCake g μ) (fun o => OutG tx L g (aCake tx L D j) o.2 ∧ Gf g μ o.2) := by
  have hn : D.n ≤ 5 := h.2.2.2.2.1
  have hd : DrC g D μ := h.2.2.2.1
  unfold fX6_readCake aCake
  simp only [lt]
  rw [hd.1, w32_n (a := D.n) (by omega), show w32 5 = 5 from by decide]
  by_cases c0 : D.n = 5
  · rw [if_neg (by omega), if_pos c0, Ok_some]
    obtain ⟨w1, w2, w3⟩ := gwrong_ok (w := 5) hg h (by omega)
    exact ⟨w2, w3⟩
  rw [if_pos (by omega), if_neg c0]
  refine Ok.then (gstep_ok hg h hj) ?_
  rintro μ2 ⟨g1, g2⟩
  rw [isName_v g1.1, Option.bind_some]
  by_cases c1 : isNm tx L (j + 1) = true
  rotate_left
  · rw [if_neg c1, if_pos c1, Ok_some]
    obtain ⟨w1, w2, w3⟩ := gwrong_ok (w := 1) hg g1 (by omega)
    exact ⟨w2, g2.tr w3⟩
  obtain ⟨n1, n2, n3⟩ := g1.1.name c1
  rw [if_pos c1, if_neg (fun q => q c1), n3]
  refine Ok.then (find_c (n := D.n) hn g1.2.2.2.1.1 (fun i hi => (g1.2.2.2.1.2.1 i hi).1) g1.2.2.2.2.2.1.1 n2) ?_
  rintro v5 hv5
  rw [w32_m1]
  rcases hv5 with ⟨rfl, hno⟩ | ⟨i, hi, rfl, hyes⟩
  rotate_left
  · rw [w32_n (a := i) (by omega), if_neg (by omega), if_pos (hasNm_t hi hyes), Ok_some]
    obtain ⟨w1, w2, w3⟩ := gwrong_ok (w := 3) hg g1 (by omega)
    exact ⟨w2, g2.tr w3⟩
  have hnn := hasNm_f hno
  rw [w32_m1, if_pos rfl, if_neg (by rw [hnn]; decide)]
  refine Ok.then (gstep_ok hg g1 n1) ?_
  rintro μ8 ⟨g3, g4⟩
  have hG8 := g2.tr g4
  have hw2 := wI_lt (tx := tx) (L := L) (j := j + 1 + 1)
  rw [word_v g3.1, Option.bind_some, kind_v _ hw2]
  by_cases c2 : 8 ≤ wI tx L (j + 1 + 1) ∧ wI tx L (j + 1 + 1) ≤ 11
  rotate_left
  · rw [if_neg (by rw [decide_eq_false c2]; decide), if_pos c2, Ok_some]
    obtain ⟨w1, w2, w3⟩ := gwrong_ok (w := 1) hg g3 (by omega)
    exact ⟨w2, hG8.tr w3⟩
  rw [if_pos (decide_eq_true c2), if_neg (fun q => q c2), Option.bind_some, Nat.add_sub_cancel_left, sen_k _ hw2 c2.1 c2.2]
  refine Ok.then (gstep_ok hg g3 (wI_pos (by omega))) ?_
  rintro μ15 ⟨g5, g6⟩
  have hG15 := hG8.tr g6
  refine Ok.then (cwidth_ok hg g5) ?_
  rintro ⟨b16, μ16⟩ ⟨k1, k2⟩
  dsimp only at k1 k2 ⊢
  rcases k2 with ⟨c3, c4, c5, c6, rfl, g7⟩ | ⟨rfl, g7, hall⟩
  rotate_left
  · rw [if_neg (by decide), Ok_some]
    refine ⟨?_, hG15.tr k1⟩
    dsimp only
    by_cases c3 : isW tx L (j + 3) 2 = true
    · rw [if_neg (fun q => q c3)] at g7 ⊢
      by_cases c4 : tK tx L (j + 4) = 2
      · rw [if_neg (fun q => q c4)] at g7 ⊢
        by_cases c5 : 1 ≤ tN tx L (j + 4) ∧ tN tx L (j + 4) ≤ 30
        · rw [if_neg (fun q => q c5)] at g7 ⊢
          rw [if_pos (hall c3 c4 c5)]; exact g7
        · rw [if_pos c5] at g7 ⊢; exact g7
      · rw [if_pos c4] at g7 ⊢; exact g7
    · rw [if_pos c3] at g7 ⊢; exact g7
  have hv : μ16 1 5 = (tN tx L (j + 4) : Int) := (g7.1.2.2.2.2.2.1 c4).2
  rw [if_pos rfl, if_neg (fun q => q c3), if_neg (fun q => q c4), if_neg (fun q => q c5), if_neg (by rw [c6]; decide), hv]
  refine Ok.then (gstep_ok hg g7 (tK_pos (by omega))) ?_
  rintro μ19 ⟨g8, g9⟩
  have hG19 := (hG15.tr k1).tr g9
  have hw5 := wI_lt (tx := tx) (L := L) (j := j + 5)
  have g8' : CG tx L g (j + 5, D) μ19 := g8
  rw [word_v g8'.1, Option.bind_some, lie_v _ hw5]
  by_cases c7 : wI tx L (j + 5) = 6 ∨ wI tx L (j + 5) = 7
  rotate_left
  · rw [if_neg (by rw [decide_eq_false c7]; decide), if_pos c7, Ok_some]
    obtain ⟨w1, w2, w3⟩ := gwrong_ok (w := 1) hg g8' (by omega)
    exact ⟨w2, hG19.tr w3⟩
  rw [if_pos (decide_eq_true c7), if_neg (fun q => q c7), Option.bind_some]
  have hup : (if 1000 + wI tx L (j + 5) = 1007 then true else false) = decide (wI tx L (j + 5) = 7) := by
    by_cases q : wI tx L (j + 5) = 7
    · rw [if_pos (by omega), decide_eq_true q]
    · rw [if_neg (by omega), decide_eq_false q]
  rw [hup]
  have hO8 : DrO D := g8'.2.2.2.2
  have c22 : wI tx L (j + 2) ≤ 11 := c2.2
  obtain ⟨a1, a2⟩ := add_c (l := tW tx L (j + 1)) (k := wI tx L (j + 2) - 8) (w := tN tx L (j + 4)) (u := decide (wI tx L (j + 5) = 7)) hg g8' (by omega) (hO8.push (by omega) n2 hnn (by omega) c5 c6)
  refine Ok.then (gstep_ok hg a1 (wI_pos (by omega))) ?_
  rintro μ28 ⟨g10, g11⟩
  have g10' : CG tx L g (j + 6, D.push (tW tx L (j + 1)) (wI tx L (j + 2) - 8) (tN tx L (j + 4)) (decide (wI tx L (j + 5) = 7))) μ28 := g10
  have hG28 := (hG19.tr a2).tr g11
  unfold fX6_skipSign
  simp only [lt]
  rw [show (59 : Int) = ((59 : Nat) : Int) from rfl, is_sg g10'.1 (by omega)]
  by_cases c8 : isS tx L (j + 6) 59 = true
  · rw [if_pos c8, if_neg (fun q => q c8)]
    refine Ok.bind ?_
    refine Ok.then (gstep_ok hg g10' (isS_pos c8).1) ?_
    rintro μ29 ⟨g12, g13⟩
    rw [Ok_some, Ok_some]
    exact ⟨g12, hG28.tr g13⟩
  · rw [if_neg c8, if_pos c8, Option.bind_some, Ok_some]
    obtain ⟨w1, w2, w3⟩ := gwrong_ok (w := 1) hg g10' (by omega)
    exact ⟨w2, hG28.tr w3⟩
end CGRID
