/-! ===== level 2: the class reads an expression ===== -/
section CPARSE
variable {tx : Nat → Nat} {L k : Nat} {μ ν : Mem}
/-- how the class writes a step -/
def clE (o : Nat × Nat) : Int := if o.1 = 1 then (o.2 : Int) else if o.1 = 2 then -((o.2 : Int) + 1) else if o.1 = 3 then -5 else if o.1 = 4 then -10 else if o.1 = 5 then -11 else if o.1 = 6 then -12 else if o.1 = 7 then -8 else if o.1 = 8 then -9 else if o.1 = 9 then -6 else -7
def CdC (k : Nat) : List (Nat × Nat) → Mem → Prop
  | [], _ => True
  | o :: c, μ => μ (k + 1) c.length = clE o ∧ CdC k c μ
def kOk (k : Nat) : Prop := k = 9 ∨ k = 12 ∨ k = 19 ∨ k = 22
theorem kOk.al (h : kOk k) : alen (k + 1) = 1000 := by rcases h with rfl | rfl | rfl | rfl <;> rfl
theorem CdC.same {c : List (Nat × Nat)} (h : CdC k c μ) (e : ∀ i, i < c.length → ν (k + 1) i = μ (k + 1) i) : CdC k c ν := by
  induction c with
  | nil => trivial
  | cons o c ih => exact ⟨by rw [e _ (by rw [List.length_cons]; omega)]; exact h.1, ih h.2 (fun i hi => e i (by rw [List.length_cons]; omega))⟩
/-- the class stands at token s.1 and has written s.2 -/
def CS (tx : Nat → Nat) (L k : Nat) (s : PSt) (μ : Mem) : Prop := Cur tx L s.1 μ ∧ Rch tx L s.1 ∧ μ 3 1 = 0 ∧ μ k 3 = s.2.length ∧ CdC k s.2 μ
def CEr (tx : Nat → Nat) (L e : Nat) (μ : Mem) : Prop := TX tx L μ ∧ μ 3 1 = e
def Pf (k : Nat) (μ ν : Mem) : Prop := (∀ x, x ≠ 1 → x ≠ 3 → x ≠ k → x ≠ k + 1 → ν x = μ x) ∧ (∀ j, j ≠ 1 → ν 3 j = μ 3 j) ∧ ∀ j, j ≠ 3 → ν k j = μ k j
def OutC (tx : Nat → Nat) (L k : Nat) (r : PRz) (o : Bool × Mem) : Prop := match r with
  | .inl s => o.1 = true ∧ CS tx L k s o.2
  | .inr e => o.1 = false ∧ CEr tx L e o.2
theorem Pf.rf : Pf k μ μ := ⟨fun _ _ _ _ _ => rfl, fun _ _ => rfl, fun _ _ => rfl⟩
theorem Pf.tr {a b c : Mem} (h1 : Pf k a b) (h2 : Pf k b c) : Pf k a c := ⟨fun x q1 q2 q3 q4 => (h2.1 x q1 q2 q3 q4).trans (h1.1 x q1 q2 q3 q4), fun j q => (h2.2.1 j q).trans (h1.2.1 j q), fun j q => (h2.2.2 j q).trans (h1.2.2 j q)⟩
theorem Rch.leL {j : Nat} (h : Rch tx L j) : j ≤ L := by
  by_cases e : j = 0
  · omega
  · have h1 := h (j - 1) (by omega)
    have := tSt_ge (j - 1) h1
    omega
/-- the sign that stands there -/
theorem tKd_b {s : Nat} : tKd tx L s ≤ 4 := by
  unfold tKd
  by_cases q1 : s < L
  · rw [if_pos q1]
    by_cases q2 : isLt (tx s) = true
    · rw [if_pos q2]; split <;> omega
    · rw [if_neg q2]
      by_cases q3 : isFg (tx s) = true
      · rw [if_pos q3]; split <;> omega
      · rw [if_neg q3]; split <;> omega
  · rw [if_neg q1]; omega
theorem tK_c {j : Nat} : tK tx L j = 0 ∨ tK tx L j = 1 ∨ tK tx L j = 2 ∨ tK tx L j = 3 ∨ tK tx L j = 4 := by
  have h1 := tKd_b (tx := tx) (L := L) (s := tSt tx L j)
  have h : tKd tx L (tSt tx L j) = 0 ∨ tKd tx L (tSt tx L j) = 1 ∨ tKd tx L (tSt tx L j) = 2 ∨ tKd tx L (tSt tx L j) = 3 ∨ tKd tx L (tSt tx L j) = 4 := by omega
  exact h
theorem sg_of {j : Nat} (h : tK tx L j = 3) : isSg (tx (tSt tx L j)) = true := by
  have hk : tKd tx L (tSt tx L j) = 3 := h
  by_cases q4 : isSg (tx (tSt tx L j)) = true
  · exact q4
  exfalso
  unfold tKd at hk
  by_cases q1 : tSt tx L j < L
  · rw [if_pos q1] at hk
    by_cases q2 : isLt (tx (tSt tx L j)) = true
    · rw [if_pos q2] at hk
      split at hk <;> omega
    · rw [if_neg q2] at hk
      by_cases q3 : isFg (tx (tSt tx L j)) = true
      · rw [if_pos q3] at hk
        split at hk <;> omega
      · rw [if_neg q3, if_neg q4] at hk; omega
  · rw [if_neg q1] at hk; omega
theorem sg_b {c : Nat} (h : isSg c = true) : c < 62 := by
  unfold isSg at h
  simp only [Bool.or_eq_true, decide_eq_true_eq] at h
  omega
theorem kd_0 {j : Nat} (h : Cur tx L j μ) (q : tK tx L j = 0) : w32 (μ 1 4 % 65536) = 101 := by rw [h.2.2.2.1 q]; decide
theorem kd_1 {j : Nat} (h : Cur tx L j μ) (q : tK tx L j = 1) : w32 (μ 1 4 % 65536) = 119 := by rw [(h.2.2.2.2.1 q).1]; decide
theorem kd_2 {j : Nat} (h : Cur tx L j μ) (q : tK tx L j = 2) : w32 (μ 1 4 % 65536) = 110 := by rw [(h.2.2.2.2.2.1 q).1]; decide
theorem kd_3 {j : Nat} (h : Cur tx L j μ) (q : tK tx L j = 3) : w32 (μ 1 4 % 65536) = (tx (tSt tx L j) : Int) := by
  have hb := sg_b (sg_of q)
  rw [h.2.2.2.2.2.2.1 q, w32_eq (by omega) (by omega)]
  omega
theorem kd_4 {j : Nat} (h : Cur tx L j μ) (q : tK tx L j = 4) : w32 (μ 1 4 % 65536) = 115 := by rw [h.2.2.2.2.2.2.2.1 q]; decide
theorem is_sg {j c : Nat} (h : Cur tx L j μ) (hc : c < 62) : fX9_is (c : Int) μ = isS tx L j c := by
  unfold fX9_is isS
  simp only [lt]
  rw [w32_n (a := c) (by omega)]
  rcases tK_c (tx := tx) (L := L) (j := j) with q | q | q | q | q
  · rw [kd_0 h q, if_neg (by omega), decide_eq_false (by omega)]; rfl
  · rw [kd_1 h q, if_neg (by omega), decide_eq_false (by omega)]; rfl
  · rw [kd_2 h q, if_neg (by omega), decide_eq_false (by omega)]; rfl
  · rw [kd_3 h q, decide_eq_true q, Bool.true_and]
    by_cases e : tx (tSt tx L j) = c
    · rw [if_pos (by omega), decide_eq_true e]
    · rw [if_neg (by omega), decide_eq_false e]
  · rw [kd_4 h q, if_neg (by omega), decide_eq_false (by omega)]; rfl
theorem is_nm {j : Nat} (h : Cur tx L j μ) : fX9_is 110 μ = decide (tK tx L j = 2) := by
  unfold fX9_is
  simp only [lt]
  rw [show w32 110 = 110 from by decide]
  rcases tK_c (tx := tx) (L := L) (j := j) with q | q | q | q | q
  · rw [kd_0 h q, if_neg (by omega), decide_eq_false (by omega)]
  · rw [kd_1 h q, if_neg (by omega), decide_eq_false (by omega)]
  · rw [kd_2 h q, if_pos rfl, decide_eq_true q]
  · have := sg_b (sg_of q)
    rw [kd_3 h q, if_neg (by omega), decide_eq_false (by omega)]
  · rw [kd_4 h q, if_neg (by omega), decide_eq_false (by omega)]
theorem is_end {j : Nat} (h : Cur tx L j μ) : fX9_is 101 μ = decide (tK tx L j = 0) := by
  unfold fX9_is
  simp only [lt]
  rw [show w32 101 = 101 from by decide]
  rcases tK_c (tx := tx) (L := L) (j := j) with q | q | q | q | q
  · rw [kd_0 h q, if_pos rfl, decide_eq_true q]
  · rw [kd_1 h q, if_neg (by omega), decide_eq_false (by omega)]
  · rw [kd_2 h q, if_neg (by omega), decide_eq_false (by omega)]
  · have := sg_b (sg_of q)
    rw [kd_3 h q, if_neg (by omega), decide_eq_false (by omega)]
  · rw [kd_4 h q, if_neg (by omega), decide_eq_false (by omega)]
/-- the word's number -/
def wI (tx : Nat → Nat) (L j : Nat) : Nat := if tK tx L j = 1 then idx (tWd tx L (tSt tx L j)) else 0
theorem wI_lt {j : Nat} : wI tx L j < 19 := by unfold wI; split; exact idx_lt; omega
theorem wI_v {j : Nat} (h : Cur tx L j μ) : μ 1 7 = ((1000 + wI tx L j : Nat) : Int) := by
  unfold wI
  by_cases q : tK tx L j = 1
  · rw [if_pos q]; exact (h.2.2.2.2.1 q).2.2
  · rw [if_neg q]; exact h.2.2.2.2.2.2.2.2 q
theorem isW_wI {j i : Nat} (h0 : 1 ≤ i) : isW tx L j i = decide (wI tx L j = i) := by
  unfold isW wI
  by_cases q : tK tx L j = 1
  · rw [if_pos q, decide_eq_true q, Bool.true_and]
  · rw [if_neg q, decide_eq_false q, Bool.false_and, decide_eq_false (by omega)]
theorem isFa_wI {j : Nat} : isFa tx L j = decide (15 ≤ wI tx L j) := by
  unfold isFa wI
  by_cases q : tK tx L j = 1
  · rw [if_pos q, decide_eq_true q, Bool.true_and]
  · rw [if_neg q, decide_eq_false q, Bool.false_and, decide_eq_false (by omega)]
theorem word_v {j : Nat} (h : Cur tx L j μ) : fX9_word μ = some (1000 + wI tx L j) := by
  have := wI_lt (tx := tx) (L := L) (j := j)
  unfold fX9_word
  simp only [lt]
  rw [wI_v h, gd_pos (by omega), Int.toNat_natCast]
theorem isWord_v {j i : Nat} (h : Cur tx L j μ) (h0 : 1 ≤ i) : fX9_isWord (1000 + i) μ = some (isW tx L j i) := by
  have hw := wI_lt (tx := tx) (L := L) (j := j)
  unfold fX9_isWord
  simp only [lt]
  rw [show w32 119 = 119 from by decide, isW_wI h0, wI_v h, gd_pos (by omega), Int.toNat_natCast]
  by_cases q1 : tK tx L j = 1
  · rw [kd_1 h q1, if_pos rfl]
    by_cases e : wI tx L j = i
    · rw [if_pos (by omega), decide_eq_true e]
    · rw [if_neg (by omega), decide_eq_false e]
  · have h0' : wI tx L j = 0 := by unfold wI; rw [if_neg q1]
    have hne : ¬ w32 (μ 1 4 % 65536) = 119 := by
      rcases tK_c (tx := tx) (L := L) (j := j) with q | q | q | q | q
      · rw [kd_0 h q]; omega
      · exact absurd q q1
      · rw [kd_2 h q]; omega
      · have := sg_b (sg_of q)
        rw [kd_3 h q]; omega
      · rw [kd_4 h q]; omega
    rw [if_neg hne, h0', decide_eq_false (by omega)]
/-- moves of the class -/
theorem cstep_ok {s : PSt} (hk : kOk k) (h : CS tx L k s μ) (hj : tSt tx L s.1 < L) : Ok (fX9_step μ) (fun ν => CS tx L k (s.1 + 1, s.2) ν ∧ Pf k μ ν) := by
  obtain ⟨h1, h2, h3, h4, h5⟩ := h
  have kb : k ≠ 1 ∧ k + 1 ≠ 1 ∧ k ≠ 3 := by unfold kOk at hk; omega
  refine Ok.imp (step_ok h1 hj) ?_
  rintro ν ⟨g1, g2⟩
  exact ⟨⟨g1, h2.next hj, by rw [g2 3 (by omega)]; exact h3, by rw [g2 k kb.1]; exact h4, h5.same (fun i _ => by rw [g2 (k + 1) kb.2.1])⟩, fun x q _ _ _ => g2 x q, fun j _ => by rw [g2 3 (by omega)], fun j _ => by rw [g2 k kb.1]⟩
theorem cadd_ok {s : PSt} {o : Nat × Nat} {v : Int} (hk : kOk k) (h : CS tx L k s μ) (hl : s.2.length < 1000) (hv : v = clE o) : CS tx L k (psh o s) (fX3_add k v μ) ∧ Pf k μ (fX3_add k v μ) := by
  obtain ⟨h1, h2, h3, h4, h5⟩ := h
  have kb : k ≠ 1 ∧ k + 1 ≠ 1 ∧ k ≠ 3 ∧ k + 1 ≠ 3 ∧ k ≠ 2 ∧ k + 1 ≠ 2 := by unfold kOk at hk; omega
  unfold fX3_add
  simp only [lt]
  rw [h4, w32_n (a := s.2.length) (by omega), show w32 1000 = 1000 from by decide, if_pos (by omega), put_n s.2.length rfl hk.al hl (by omega), upd2_ne (show k ≠ k + 1 by omega), h4]
  refine ⟨⟨?_, h2, ?_, ?_, ?_, ?_⟩, fun x q1 q2 q3 q4 => ?_, fun j _ => ?_, fun j hj => ?_⟩
  · have e1 : ∀ x, x ≠ k → x ≠ k + 1 → upd2 (upd2 μ (k + 1) s.2.length v) k 3 ((s.2.length : Int) + 1) x = μ x := fun x q1 q2 => by rw [upd2_ne q1, upd2_ne q2]
    have h11 := e1 1 (by omega) (by omega)
    have h12 := e1 2 (by omega) (by omega)
    unfold Cur At TX at h1 ⊢
    unfold psh
    rw [h11, h12]; exact h1
  · rw [upd2_ne (by omega), upd2_ne (by omega)]; exact h3
  · unfold psh
    rw [upd2_at, List.length_cons]; push_cast; rfl
  · rw [upd2_ne (by omega), upd2_at]; exact hv
  · exact h5.same (fun i hi => by rw [upd2_ne (by omega), upd2_nj (by omega)])
  · rw [upd2_ne q3, upd2_ne q4]
  · rw [upd2_ne (by omega), upd2_ne (by omega)]
  · rw [upd2_nj hj, upd2_ne (by omega)]
theorem cwrong_ok {s : PSt} {w : Nat} (hk : kOk k) (h : CS tx L k s μ) : (fX6_wrong (w : Int) μ).1 = false ∧ CEr tx L (er tx L w s.1) (fX6_wrong (w : Int) μ).2 ∧ Pf k μ (fX6_wrong (w : Int) μ).2 := by
  obtain ⟨h1, h2, h3, h4, h5⟩ := h
  have kb : k ≠ 3 := by unfold kOk at hk; omega
  unfold fX6_wrong
  simp only [lt]
  rw [h3, if_pos (by decide), h1.2.1]
  refine ⟨rfl, ⟨⟨?_, fun i hi => ?_, h1.1.2.2⟩, ?_⟩, fun x q1 q2 q3 q4 => ?_, fun j hj => ?_, fun j _ => ?_⟩
  · dsimp only; rw [upd2_ne (by omega)]; exact h1.1.1
  · dsimp only; rw [upd2_ne (by omega)]; exact h1.1.2.1 i hi
  · dsimp only; rw [upd2_at]; unfold er; push_cast; rfl
  · dsimp only; rw [upd2_ne q2]
  · dsimp only; rw [upd2_nj hj]
  · dsimp only; rw [upd2_ne kb]
theorem cskip_ok {s : PSt} {c : Nat} (hk : kOk k) (h : CS tx L k s μ) (hc : c < 62) : Ok (fX6_skipSign (c : Int) μ) (fun o => OutC tx L k (if isS tx L s.1 c = true then .inl (s.1 + 1, s.2) else .inr (er tx L 1 s.1)) o ∧ Pf k μ o.2) := by
  unfold fX6_skipSign
  simp only [lt]
  rw [is_sg h.1 hc]
  by_cases q : isS tx L s.1 c = true
  · rw [if_pos q, if_pos q]
    refine Ok.then (cstep_ok hk h (isS_pos q).1) ?_
    rintro ν ⟨g1, g2⟩
    rw [Ok_some]
    exact ⟨⟨rfl, g1⟩, g2⟩
  · rw [if_neg q, if_neg q, Ok_some]
    obtain ⟨w1, w2, w3⟩ := cwrong_ok (w := 1) hk h
    exact ⟨⟨w1, w2⟩, w3⟩
/-- what reads one thing -/
def ClF (tx : Nat → Nat) (L k : Nat) (f : Mem → Option (Bool × Mem)) (a : PSt → PRz) : Prop := ∀ s μ, CS tx L k s μ → s.2.length ≤ s.1 → Ok (f μ) (fun o => OutC tx L k (a s) o ∧ Pf k μ o.2)
/-- a loop of the class: as long as the sign stands there, one more -/
theorem loopC_ok {body : Int → Mem → Option ((Int × Mem) ⊕ (Bool × Mem))} {aL : Nat → PSt → PRz} {test : PSt → Bool} {nx : PSt → PRz} (h0 : ∀ f s, aL (f + 1) s = if test s = true then bnd (nx s) (aL f) else .inl s) (hL : L ≤ 1000)
    (hb : ∀ (v : Nat) s μ, v < 1000 → CS tx L k s μ → s.2.length ≤ s.1 → if test s = true then Ok (body (v : Int) μ) (fun r => ∃ ν, Pf k μ ν ∧ match nx s with
      | .inl t => r = .inl ((v : Int) + 1, ν) ∧ CS tx L k t ν
      | .inr e => r = .inr (false, ν) ∧ CEr tx L e ν) else body (v : Int) μ = some (.inr (true, μ)))
    (hg : ∀ s, Rch tx L s.1 → test s = true → Gd tx L 1 s (nx s)) (s : PSt) (h : CS tx L k s μ) (hl : s.2.length ≤ s.1) (h1 : 1 ≤ s.1) :
    Ok (loopN (fun s => body s.1 s.2) FU (0, μ)) (fun o => OutC tx L k (aL (L + 1) s) o ∧ Pf k μ o.2) := by
  refine loop_I (Q := fun o : Bool × Mem => OutC tx L k (aL (L + 1) s) o ∧ Pf k μ o.2) _ (fun t : Int × Mem => 2000 - t.1.toNat) (fun t : Int × Mem => ∃ (v f : Nat) (u : PSt), t.1 = v ∧ v + 1 ≤ u.1 ∧ CS tx L k u t.2 ∧ u.2.length ≤ u.1 ∧ L + 1 ≤ f + u.1 ∧ aL f u = aL (L + 1) s ∧ Pf k μ t.2) ⟨0, L + 1, s, rfl, by omega, h, hl, by omega, rfl, .rf⟩ (by show 2000 - _ < _; omega) ?_
  rintro ⟨t1, ρ⟩ ⟨v, f, u, e1, hv, hu, hul, hf, ha, hP⟩
  dsimp only at e1 hu hP ⊢
  subst e1
  have huL := hu.2.1.leL
  obtain ⟨f', rfl⟩ : ∃ f', f = f' + 1 := ⟨f - 1, by omega⟩
  have hbv := hb v u ρ (by omega) hu hul
  rw [h0] at ha
  by_cases c : test u = true
  · rw [if_pos c] at ha hbv
    refine Ok.imp hbv ?_
    rintro r ⟨ν, g1, g2⟩
    have hgu := hg u hu.2.1 c
    cases hn : nx u with
    | inr e =>
      rw [hn] at ha g2
      obtain ⟨rfl, g3⟩ := g2
      refine ⟨?_, hP.tr g1⟩
      rw [← ha]
      exact ⟨rfl, g3⟩
    | inl t =>
      rw [hn] at ha g2 hgu
      obtain ⟨rfl, g3⟩ := g2
      obtain ⟨k1, k2, k3, k4⟩ := hgu
      refine ⟨⟨v + 1, f', t, by push_cast; rfl, by omega, g3, by omega, by omega, ha, hP.tr g1⟩, ?_⟩
      dsimp only
      omega
  · rw [if_neg c] at ha hbv
    rw [hbv, Ok_some]
    refine ⟨?_, hP⟩
    rw [← ha]
    exact ⟨rfl, hu⟩
/-- one operand behind a sign, and the step -/
theorem coper_ok {f : Mem → Option (Bool × Mem)} {a : PSt → PRz} {s : PSt} {o : Nat × Nat} {v w : Int} (hk : kOk k) (hf : ClF tx L k f a) (hg : GdF tx L 1 a) (h : CS tx L k s μ) (hl : s.2.length ≤ s.1) (hp : tSt tx L s.1 < L) (hv : v = clE o) :
    Ok ((fX9_step μ).bind fun μ6 => (f μ6).bind fun q7 => if q7.1 = true then some (.inl (w + 1, fX3_add k v q7.2) : (Int × Mem) ⊕ (Bool × Mem)) else some (.inr (false, q7.2))) (fun r => ∃ ν, Pf k μ ν ∧ match bnd (a (s.1 + 1, s.2)) (fun t => .inl (psh o t)) with
      | .inl t => r = .inl (w + 1, ν) ∧ CS tx L k t ν
      | .inr e => r = .inr (false, ν) ∧ CEr tx L e ν) := by
  refine Ok.then (cstep_ok hk h hp) ?_
  rintro μ6 ⟨g1, g2⟩
  refine Ok.then (hf (s.1 + 1, s.2) μ6 g1 (by dsimp only; omega)) ?_
  rintro ⟨b, μ7⟩ ⟨g3, g4⟩
  dsimp only at g3 g4 ⊢
  have hgs := hg (s.1 + 1, s.2) (h.2.1.next hp)
  cases hr : a (s.1 + 1, s.2) with
  | inr e =>
    rw [hr] at g3
    obtain ⟨e1, e2⟩ := g3
    dsimp only at e1
    subst e1
    rw [if_neg (by decide), Ok_some]
    exact ⟨μ7, g2.tr g4, rfl, e2⟩
  | inl t =>
    rw [hr] at g3 hgs
    obtain ⟨e1, e2⟩ := g3
    dsimp only at e1
    subst e1
    obtain ⟨k1, k2, k3, k4⟩ := hgs.tok t rfl
    have hb := k2.b h.1.1.2.2.1
    obtain ⟨c1, c2⟩ := cadd_ok (o := o) hk e2 (by omega) hv
    rw [if_pos rfl, Ok_some]
    exact ⟨_, (g2.tr g4).tr c2, rfl, c1⟩
theorem aPL_s {rp : PSt → PRz} {f : Nat} {s : PSt} : aPL tx L rp (f + 1) s = if isS tx L s.1 42 = true then bnd (bnd (rp (s.1 + 1, s.2)) (fun t => .inl (psh (6, 0) t))) (aPL tx L rp f) else .inl s := by
  rw [bnd_bnd]; rfl
theorem aSL_s {rp : PSt → PRz} {f : Nat} {s : PSt} : aSL tx L rp (f + 1) s = if (isS tx L s.1 43 || isS tx L s.1 45) = true then bnd (bnd (aProd tx L rp (s.1 + 1, s.2)) (fun t => .inl (psh (if isS tx L s.1 43 = true then 4 else 5, 0) t))) (aSL tx L rp f) else .inl s := by
  rw [bnd_bnd]; rfl
theorem aWL_s {rp : PSt → PRz} {f : Nat} {s : PSt} : aWL tx L rp (f + 1) s = if (isW tx L s.1 13 || isW tx L s.1 14) = true then bnd (bnd (aTest tx L rp (s.1 + 1, s.2)) (fun t => .inl (psh (if isW tx L s.1 13 = true then 9 else 10, 0) t))) (aWL tx L rp f) else .inl s := by
  rw [bnd_bnd]; rfl
variable {rpC : Nat → Int → Mem → Option (Bool × Mem)} {rp : PSt → PRz} {d : Int}
theorem cprod_ok (hk : kOk k) (hL : L ≤ 1000) (hf : ClF tx L k (rpC k d) rp) (hg : GdF tx L 1 rp) : ClF tx L k (fX6_readProduct rpC k d) (aProd tx L rp) := fun s μ h hl => by
  unfold fX6_readProduct aProd
  refine Ok.then (hf s μ h hl) ?_
  rintro ⟨b, μ1⟩ ⟨g1, g2⟩
  dsimp only at g1 g2 ⊢
  have hgs := hg s h.2.1
  cases hr : rp s with
  | inr e =>
    rw [hr] at g1
    obtain ⟨e1, e2⟩ := g1
    dsimp only at e1
    subst e1
    rw [if_neg (by decide), Ok_some]
    exact ⟨⟨rfl, e2⟩, g2⟩
  | inl t =>
    rw [hr] at g1 hgs
    obtain ⟨e1, e2⟩ := g1
    dsimp only at e1
    subst e1
    obtain ⟨k1, k2, k3, k4⟩ := hgs
    rw [if_pos rfl]
    refine Ok.imp (loopC_ok (body := fun v μ => fX6_readProduct_b13 rpC k d v μ) (aL := aPL tx L rp) (test := fun s => isS tx L s.1 42) (nx := fun s => bnd (rp (s.1 + 1, s.2)) (fun t => .inl (psh (6, 0) t))) (fun f s => aPL_s) hL ?_ ?_ t e2 (by omega) (by omega)) (fun o ho => ⟨ho.1, g2.tr ho.2⟩)
    · intro v s μ hv h hl
      unfold fX6_readProduct_b13
      rw [w32_n (a := v) (by omega), show w32 1000 = 1000 from by decide, if_pos (show (v : Int) < 1000 by omega), show (42 : Int) = ((42 : Nat) : Int) from rfl, is_sg h.1 (by omega)]
      by_cases c : isS tx L s.1 42 = true
      · rw [if_pos c, if_pos c]
        exact coper_ok (f := rpC k d) (o := (6, 0)) hk hf hg h hl (isS_pos c).1 rfl
      · rw [if_neg c, if_neg c]
    · intro s hs c
      exact ((hg (s.1 + 1, s.2) (hs.next (isS_pos c).1)).op (s := s)).less (by omega)
theorem csum_ok (hk : kOk k) (hL : L ≤ 1000) (hf : ClF tx L k (rpC k d) rp) (hg : GdF tx L 1 rp) : ClF tx L k (fX6_readSum rpC k d) (aSum tx L rp) := fun s μ h hl => by
  have hfp := cprod_ok hk hL hf hg
  have hgp := aProd_g hg
  unfold fX6_readSum aSum
  refine Ok.then (hfp s μ h hl) ?_
  rintro ⟨b, μ1⟩ ⟨g1, g2⟩
  dsimp only at g1 g2 ⊢
  have hgs := hgp s h.2.1
  cases hr : aProd tx L rp s with
  | inr e =>
    rw [hr] at g1
    obtain ⟨e1, e2⟩ := g1
    dsimp only at e1
    subst e1
    rw [if_neg (by decide), Ok_some]
    exact ⟨⟨rfl, e2⟩, g2⟩
  | inl t =>
    rw [hr] at g1 hgs
    obtain ⟨e1, e2⟩ := g1
    dsimp only at e1
    subst e1
    obtain ⟨k1, k2, k3, k4⟩ := hgs
    rw [if_pos rfl]
    refine Ok.imp (loopC_ok (body := fun v μ => fX6_readSum_b13 rpC k d v μ) (aL := aSL tx L rp) (test := fun s => isS tx L s.1 43 || isS tx L s.1 45) (nx := fun s => bnd (aProd tx L rp (s.1 + 1, s.2)) (fun t => .inl (psh (if isS tx L s.1 43 = true then 4 else 5, 0) t))) (fun f s => aSL_s) hL ?_ ?_ t e2 (by omega) (by omega)) (fun o ho => ⟨ho.1, g2.tr ho.2⟩)
    · intro v s μ hv h hl
      have hgo : tSt tx L s.1 < L → Ok (fX6_readSum_j44 rpC k d (v : Int) μ) (fun r => ∃ ν, Pf k μ ν ∧ match bnd (aProd tx L rp (s.1 + 1, s.2)) (fun t => .inl (psh (if isS tx L s.1 43 = true then 4 else 5, 0) t)) with
        | .inl t => r = .inl ((v : Int) + 1, ν) ∧ CS tx L k t ν
        | .inr e => r = .inr (false, ν) ∧ CEr tx L e ν) := fun hp => by
        unfold fX6_readSum_j44
        simp only [lt]
        rw [show (43 : Int) = ((43 : Nat) : Int) from rfl, is_sg h.1 (by omega)]
        refine coper_ok (f := fX6_readProduct rpC k d) (o := (if isS tx L s.1 43 = true then 4 else 5, 0)) hk hfp hgp h hl hp ?_
        by_cases c : isS tx L s.1 43 = true
        · rw [if_pos c, if_pos c]; rfl
        · rw [if_neg c, if_neg c]; rfl
      unfold fX6_readSum_b13
      rw [w32_n (a := v) (by omega), show w32 1000 = 1000 from by decide, if_pos (show (v : Int) < 1000 by omega), show (43 : Int) = ((43 : Nat) : Int) from rfl, show (45 : Int) = ((45 : Nat) : Int) from rfl, is_sg h.1 (by omega), is_sg h.1 (by omega)]
      by_cases c : isS tx L s.1 43 = true
      · rw [if_pos (show (isS tx L s.1 43 || isS tx L s.1 45) = true by rw [c]; rfl), if_pos c]
        have := hgo (isS_pos c).1
        exact this
      · rw [if_neg c]
        by_cases c2 : isS tx L s.1 45 = true
        · rw [if_pos (show (isS tx L s.1 43 || isS tx L s.1 45) = true by rw [c2, Bool.or_true]), if_pos c2]
          exact hgo (isS_pos c2).1
        · rw [if_neg (show ¬ (isS tx L s.1 43 || isS tx L s.1 45) = true by rw [Bool.or_eq_true]; rintro (q | q); exact c q; exact c2 q), if_neg c2]
    · intro s hs c
      have hp : tSt tx L s.1 < L := by
        rw [Bool.or_eq_true] at c
        rcases c with c | c
        · exact (isS_pos c).1
        · exact (isS_pos c).1
      exact ((hgp (s.1 + 1, s.2) (hs.next hp)).op (s := s)).less (by omega)
theorem ctest_ok (hk : kOk k) (hL : L ≤ 1000) (hf : ClF tx L k (rpC k d) rp) (hg : GdF tx L 1 rp) : ClF tx L k (fX6_readTest rpC k d) (aTest tx L rp) := fun s μ h hl => by
  have hfp := csum_ok hk hL hf hg
  have hgp := aSum_g hg
  unfold fX6_readTest aTest
  refine Ok.then (hfp s μ h hl) ?_
  rintro ⟨b, μ1⟩ ⟨g1, g2⟩
  dsimp only at g1 g2 ⊢
  have hgs := hgp s h.2.1
  cases hr : aSum tx L rp s with
  | inr e =>
    rw [hr] at g1
    obtain ⟨e1, e2⟩ := g1
    dsimp only at e1
    subst e1
    rw [if_neg (by decide), Ok_some]
    exact ⟨⟨rfl, e2⟩, g2⟩
  | inl t =>
    rw [hr] at g1 hgs
    obtain ⟨e1, e2⟩ := g1
    dsimp only at e1 e2
    subst e1
    obtain ⟨k1, k2, k3, k4⟩ := hgs
    rw [if_pos rfl]
    show Ok _ (fun o => OutC tx L k (if (isS tx L t.1 60 || isS tx L t.1 61) = true then bnd (aSum tx L rp (t.1 + 1, t.2)) (fun u => .inl (psh (if isS tx L t.1 60 = true then 7 else 8, 0) u)) else .inl t) o ∧ Pf k μ o.2)
    have hgo : tSt tx L t.1 < L → Ok (fX6_readTest_j37 rpC k d μ1) (fun o => OutC tx L k (bnd (aSum tx L rp (t.1 + 1, t.2)) (fun u => .inl (psh (if isS tx L t.1 60 = true then 7 else 8, 0) u))) o ∧ Pf k μ o.2) := fun hp => by
      unfold fX6_readTest_j37
      simp only [lt]
      rw [show (60 : Int) = ((60 : Nat) : Int) from rfl, is_sg e2.1 (by omega)]
      refine Ok.then (cstep_ok hk e2 hp) ?_
      rintro μ6 ⟨q1, q2⟩
      refine Ok.then (hfp (t.1 + 1, t.2) μ6 q1 (by dsimp only; omega)) ?_
      rintro ⟨b, μ7⟩ ⟨g3, g4⟩
      dsimp only at g3 g4 ⊢
      have hgu := hgp (t.1 + 1, t.2) (k2.next hp)
      cases hr2 : aSum tx L rp (t.1 + 1, t.2) with
      | inr e =>
        rw [hr2] at g3
        obtain ⟨e1, e3⟩ := g3
        dsimp only at e1
        subst e1
        rw [if_neg (by decide), Ok_some]
        exact ⟨⟨rfl, e3⟩, (g2.tr q2).tr g4⟩
      | inl u =>
        rw [hr2] at g3 hgu
        obtain ⟨e1, e3⟩ := g3
        dsimp only at e1 e3
        subst e1
        obtain ⟨u1, u2, u3, u4⟩ := hgu.tok u rfl
        have hb := u2.b hL
        obtain ⟨c1, c2⟩ := cadd_ok (o := (if isS tx L t.1 60 = true then 7 else 8, 0)) (v := if isS tx L t.1 60 = true then -8 else -9) hk e3 (by omega) (by
          by_cases c : isS tx L t.1 60 = true
          · rw [if_pos c, if_pos c]; rfl
          · rw [if_neg c, if_neg c]; rfl)
        rw [if_pos rfl, Ok_some]
        exact ⟨⟨rfl, c1⟩, ((g2.tr q2).tr g4).tr c2⟩
    rw [show (60 : Int) = ((60 : Nat) : Int) from rfl, show (61 : Int) = ((61 : Nat) : Int) from rfl, is_sg e2.1 (by omega), is_sg e2.1 (by omega)]
    by_cases c : isS tx L t.1 60 = true
    · rw [if_pos (show (isS tx L t.1 60 || isS tx L t.1 61) = true by rw [c]; rfl), if_pos c]
      exact hgo (isS_pos c).1
    · rw [if_neg c]
      by_cases c2 : isS tx L t.1 61 = true
      · rw [if_pos (show (isS tx L t.1 60 || isS tx L t.1 61) = true by rw [c2, Bool.or_true]), if_pos c2]
        exact hgo (isS_pos c2).1
      · rw [if_neg (show ¬ (isS tx L t.1 60 || isS tx L t.1 61) = true by rw [Bool.or_eq_true]; rintro (q | q); exact c q; exact c2 q), if_neg c2, Ok_some]
        exact ⟨⟨rfl, e2⟩, g2⟩
theorem sen_v : wsen.getD 13 0 = -6 ∧ wsen.getD 14 0 = -7 := by decide
theorem cwhole_ok (hk : kOk k) (hL : L ≤ 1000) (hf : ClF tx L k (rpC k d) rp) (hg : GdF tx L 1 rp) : ClF tx L k (fX6_readWhole rpC k d) (aWhole tx L rp) := fun s μ h hl => by
  have hfp := ctest_ok hk hL hf hg
  have hgp := aTest_g hg
  unfold fX6_readWhole aWhole
  refine Ok.then (hfp s μ h hl) ?_
  rintro ⟨b, μ1⟩ ⟨g1, g2⟩
  dsimp only at g1 g2 ⊢
  have hgs := hgp s h.2.1
  cases hr : aTest tx L rp s with
  | inr e =>
    rw [hr] at g1
    obtain ⟨e1, e2⟩ := g1
    dsimp only at e1
    subst e1
    rw [if_neg (by decide), Ok_some]
    exact ⟨⟨rfl, e2⟩, g2⟩
  | inl t =>
    rw [hr] at g1 hgs
    obtain ⟨e1, e2⟩ := g1
    dsimp only at e1
    subst e1
    obtain ⟨k1, k2, k3, k4⟩ := hgs
    rw [if_pos rfl]
    refine Ok.imp (loopC_ok (body := fun v μ => fX6_readWhole_b13 rpC k d v μ) (aL := aWL tx L rp) (test := fun s => isW tx L s.1 13 || isW tx L s.1 14) (nx := fun s => bnd (aTest tx L rp (s.1 + 1, s.2)) (fun t => .inl (psh (if isW tx L s.1 13 = true then 9 else 10, 0) t))) (fun f s => aWL_s) hL ?_ ?_ t e2 (by omega) (by omega)) (fun o ho => ⟨ho.1, g2.tr ho.2⟩)
    · intro v s μ hv h hl
      have hgo : (isW tx L s.1 13 = true ∨ isW tx L s.1 14 = true) → Ok (fX6_readWhole_j46 rpC k d (v : Int) μ) (fun r => ∃ ν, Pf k μ ν ∧ match bnd (aTest tx L rp (s.1 + 1, s.2)) (fun t => .inl (psh (if isW tx L s.1 13 = true then 9 else 10, 0) t)) with
        | .inl t => r = .inl ((v : Int) + 1, ν) ∧ CS tx L k t ν
        | .inr e => r = .inr (false, ν) ∧ CEr tx L e ν) := fun hc => by
        have hp : tSt tx L s.1 < L := by
          rcases hc with c | c
          · exact (isW_pos c).1
          · exact (isW_pos c).1
        unfold fX6_readWhole_j46
        simp only [lt]
        rw [word_v h.1, Option.bind_some, Nat.add_sub_cancel_left]
        refine coper_ok (f := fX6_readTest rpC k d) (o := (if isW tx L s.1 13 = true then 9 else 10, 0)) hk hfp hgp h hl hp ?_
        rw [isW_wI (by omega)] at hc ⊢
        rw [isW_wI (by omega), decide_eq_true_eq, decide_eq_true_eq] at hc
        rcases hc with c | c
        · rw [c, if_pos (by decide), sen_v.1]; rfl
        · rw [c, if_neg (by decide), sen_v.2]; rfl
      unfold fX6_readWhole_b13
      rw [w32_n (a := v) (by omega), show w32 1000 = 1000 from by decide, if_pos (show (v : Int) < 1000 by omega), show (1013 : Nat) = 1000 + 13 from rfl, show (1014 : Nat) = 1000 + 14 from rfl, isWord_v h.1 (by omega), isWord_v h.1 (by omega), Option.bind_some, Option.bind_some]
      by_cases c : isW tx L s.1 13 = true
      · rw [if_pos (show (isW tx L s.1 13 || isW tx L s.1 14) = true by rw [c]; rfl), if_pos c]
        exact hgo (Or.inl c)
      · rw [if_neg c]
        by_cases c2 : isW tx L s.1 14 = true
        · rw [if_pos (show (isW tx L s.1 13 || isW tx L s.1 14) = true by rw [c2, Bool.or_true]), if_pos c2]
          exact hgo (Or.inr c2)
        · rw [if_neg (show ¬ (isW tx L s.1 13 || isW tx L s.1 14) = true by rw [Bool.or_eq_true]; rintro (q | q); exact c q; exact c2 q), if_neg c2]
    · intro s hs c
      have hp : tSt tx L s.1 < L := by
        rw [Bool.or_eq_true] at c
        rcases c with c | c
        · exact (isW_pos c).1
        · exact (isW_pos c).1
      exact ((hgp (s.1 + 1, s.2) (hs.next hp)).op (s := s)).less (by omega)
theorem isFact_v {j : Nat} (h : Cur tx L j μ) : (fX9_word μ).bind (fun v => some (fX10_isFact v)) = some (isFa tx L j) := by
  rw [word_v h, Option.bind_some, isFa_wI]
  have hw := wI_lt (tx := tx) (L := L) (j := j)
  generalize wI tx L j = i at hw
  have : ∀ i, i < 19 → fX10_isFact (1000 + i) = decide (15 ≤ i) := by decide
  rw [this i hw]
theorem sen_f : ∀ i, i < 19 → 15 ≤ i → wsen.getD i 0 = clE (2, i - 15) := by decide
theorem cpart_ok {rpC : Nat → Int → Mem → Option (Bool × Mem)} {rp : Nat → PSt → PRz} {d : Nat} (hk : kOk k) (hL : L ≤ 1000) (hd : d < 9) (hf : d < 5 → ClF tx L k (rpC k ((d + 1 : Nat) : Int)) (rp (d + 1))) (hg : ∀ d, GdF tx L 1 (rp d)) : ClF tx L k (fX6_readPart rpC k (d : Int)) (aPart tx L rp d) := fun s μ h hl => by
  have hw := wI_lt (tx := tx) (L := L) (j := s.1)
  have ed : (d : Int) + 1 = ((d + 1 : Nat) : Int) := by push_cast; rfl
  -- behind the first test
  have j62 : (isW tx L s.1 12 || isS tx L s.1 40 || decide (tK tx L s.1 = 2) || isFa tx L s.1) = true → Ok (fX6_readPart_j62 rpC k (d : Int) (isW tx L s.1 12) (isS tx L s.1 40) μ) (fun o => OutC tx L k (aPart tx L rp d s) o ∧ Pf k μ o.2) := fun c => by
    have hp : tSt tx L s.1 < L := by
      rw [Bool.or_eq_true, Bool.or_eq_true, Bool.or_eq_true] at c
      rcases c with ((c | c) | c) | c
      · exact (isW_pos c).1
      · exact (isS_pos c).1
      · exact tK_pos (by rw [of_decide_eq_true c]; omega)
      · exact (isFa_pos c).1
    have hge := tSt_ge s.1 hp
    unfold fX6_readPart_j62 aPart
    simp only [lt]
    rw [if_pos c, w32_n (a := d) (by omega), show w32 5 = 5 from by decide]
    by_cases cd : d < 5
    rotate_left
    · rw [if_neg cd, if_neg (show ¬ (d : Int) < 5 by omega), Ok_some]
      obtain ⟨w1, w2, w3⟩ := cwrong_ok (w := 5) hk h
      exact ⟨⟨w1, w2⟩, w3⟩
    rw [if_pos cd, if_pos (show (d : Int) < 5 by omega), ed]
    by_cases c1 : isS tx L s.1 40 = true
    · rw [if_pos c1, if_pos c1]
      refine Ok.then (cstep_ok hk h hp) ?_
      rintro μ6 ⟨q1, q2⟩
      refine Ok.then (cwhole_ok hk hL (hf cd) (hg (d + 1)) (s.1 + 1, s.2) μ6 q1 (by dsimp only; omega)) ?_
      rintro ⟨b, μ7⟩ ⟨g3, g4⟩
      dsimp only at g3 g4 ⊢
      have hgu := aWhole_g (hg (d + 1)) (s.1 + 1, s.2) (h.2.1.next hp)
      cases hr2 : aWhole tx L (rp (d + 1)) (s.1 + 1, s.2) with
      | inr e =>
        rw [hr2] at g3
        obtain ⟨e1, e3⟩ := g3
        dsimp only at e1
        subst e1
        rw [if_neg (by decide), Ok_some]
        exact ⟨⟨rfl, e3⟩, q2.tr g4⟩
      | inl u =>
        rw [hr2] at g3 hgu
        obtain ⟨e1, e3⟩ := g3
        dsimp only at e1 e3
        subst e1
        rw [if_pos rfl, show (41 : Int) = ((41 : Nat) : Int) from rfl]
        refine Ok.then (cskip_ok hk e3 (by omega)) ?_
        rintro ⟨b, μ8⟩ ⟨g5, g6⟩
        dsimp only at g5 g6 ⊢
        rw [Ok_some]
        refine ⟨?_, (q2.tr g4).tr g6⟩
        show OutC tx L k (if isS tx L u.1 41 = true then .inl (u.1 + 1, u.2) else .inr (er tx L 1 u.1)) _
        by_cases c2 : isS tx L u.1 41 = true
        · rw [if_pos c2] at g5 ⊢
          obtain ⟨e5, e6⟩ := g5
          dsimp only at e5
          subst e5
          exact ⟨rfl, e6⟩
        · rw [if_neg c2] at g5 ⊢
          obtain ⟨e5, e6⟩ := g5
          dsimp only at e5
          subst e5
          exact ⟨rfl, e6⟩
    rw [if_neg c1, if_neg c1]
    by_cases c2 : isW tx L s.1 12 = true
    · rw [if_pos c2, if_pos c2]
      refine Ok.then (cstep_ok hk h hp) ?_
      rintro μ6 ⟨q1, q2⟩
      refine Ok.then (hf cd (s.1 + 1, s.2) μ6 q1 (by dsimp only; omega)) ?_
      rintro ⟨b, μ7⟩ ⟨g3, g4⟩
      dsimp only at g3 g4 ⊢
      have hgu := hg (d + 1) (s.1 + 1, s.2) (h.2.1.next hp)
      cases hr2 : rp (d + 1) (s.1 + 1, s.2) with
      | inr e =>
        rw [hr2] at g3
        obtain ⟨e1, e3⟩ := g3
        dsimp only at e1
        subst e1
        rw [if_neg (by decide), Ok_some]
        exact ⟨⟨rfl, e3⟩, q2.tr g4⟩
      | inl u =>
        rw [hr2] at g3 hgu
        obtain ⟨e1, e3⟩ := g3
        dsimp only at e1 e3
        subst e1
        obtain ⟨u1, u2, u3, u4⟩ := hgu.tok u rfl
        have hbu := u2.b hL
        obtain ⟨a1, a2⟩ := cadd_ok (o := (3, 0)) (v := -5) hk e3 (by omega) rfl
        rw [if_pos rfl, Ok_some]
        exact ⟨⟨rfl, a1⟩, (q2.tr g4).tr a2⟩
    rw [if_neg c2, if_neg c2, is_nm h.1]
    by_cases c3 : tK tx L s.1 = 2
    · rw [if_pos c3, if_pos (decide_eq_true c3), (h.1.2.2.2.2.2.1 c3).2]
      unfold fX6_readPart_j148
      simp only [lt]
      obtain ⟨a1, a2⟩ := cadd_ok (o := (1, tNm tx L (tSt tx L s.1))) (v := (tNm tx L (tSt tx L s.1) : Int)) hk h (by omega) rfl
      refine Ok.then (cstep_ok hk a1 hp) ?_
      rintro μ6 ⟨q1, q2⟩
      rw [Ok_some]
      exact ⟨⟨rfl, q1⟩, a2.tr q2⟩
    · rw [if_neg c3, if_neg (by rw [decide_eq_false c3]; decide), word_v h.1, Option.bind_some, Nat.add_sub_cancel_left]
      have cf : isFa tx L s.1 = true := by
        rw [Bool.or_eq_true, Bool.or_eq_true, Bool.or_eq_true] at c
        rcases c with ((c | c) | c) | c
        · exact absurd c c2
        · exact absurd c c1
        · exact absurd (of_decide_eq_true c) c3
        · exact c
      have cf2 := (isFa_pos cf)
      have hwi : wI tx L s.1 = idx (tWd tx L (tSt tx L s.1)) := by unfold wI; rw [if_pos cf2.2.1]
      unfold fX6_readPart_j148
      simp only [lt]
      obtain ⟨a1, a2⟩ := cadd_ok (o := (2, idx (tWd tx L (tSt tx L s.1)) - 15)) (v := wsen.getD (wI tx L s.1) 0) hk h (by omega) (by rw [hwi]; exact sen_f _ idx_lt cf2.2.2)
      refine Ok.then (cstep_ok hk a1 hp) ?_
      rintro μ6 ⟨q1, q2⟩
      rw [Ok_some]
      exact ⟨⟨rfl, q1⟩, a2.tr q2⟩
  unfold fX6_readPart
  simp only [lt]
  rw [show (1012 : Nat) = 1000 + 12 from rfl, isWord_v h.1 (by omega), Option.bind_some, show (40 : Int) = ((40 : Nat) : Int) from rfl, is_sg h.1 (by omega), is_nm h.1]
  by_cases c1 : isW tx L s.1 12 = true
  · rw [if_pos c1]; exact j62 (by rw [c1]; rfl)
  rw [if_neg c1]
  by_cases c2 : isS tx L s.1 40 = true
  · rw [if_pos c2]; exact j62 (by rw [c2, Bool.or_true]; rfl)
  rw [if_neg c2]
  by_cases c3 : tK tx L s.1 = 2
  · rw [if_pos (decide_eq_true c3)]; exact j62 (by rw [decide_eq_true c3, Bool.or_true]; rfl)
  rw [if_neg (by rw [decide_eq_false c3]; decide), word_v h.1, Option.bind_some]
  have hfa : fX10_isFact (1000 + wI tx L s.1) = isFa tx L s.1 := by
    have := isFact_v h.1
    rw [word_v h.1, Option.bind_some] at this
    exact Option.some.inj this
  rw [hfa]
  by_cases c4 : isFa tx L s.1 = true
  · rw [if_pos c4]; exact j62 (by rw [c4, Bool.or_true])
  · rw [if_neg c4, Ok_some]
    obtain ⟨w1, w2, w3⟩ := cwrong_ok (w := 1) hk h
    have ha : aPart tx L rp d s = .inr (er tx L 1 s.1) := by
      unfold aPart
      rw [if_neg (by rw [eq_false_of_ne_true c1, eq_false_of_ne_true c2, decide_eq_false c3, eq_false_of_ne_true c4]; decide)]
    rw [ha]
    exact ⟨⟨w1, w2⟩, w3⟩
theorem cpartN_ok (hk : kOk k) (hL : L ≤ 1000) : ∀ (N d : Nat), d ≤ 5 → 6 ≤ N + d → ClF tx L k (fX6_readPartN N k (d : Int)) (aPN tx L N d)
  | 0, d, h1, h2 => by omega
  | N + 1, d, h1, h2 => cpart_ok (rpC := fX6_readPartN N) (rp := aPN tx L N) hk hL (by omega) (fun hd => cpartN_ok hk hL N (d + 1) (by omega) (by omega)) (fun d => aPN_g N d)
end CPARSE
