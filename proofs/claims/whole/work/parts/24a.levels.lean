/-! ===== level 2: the fewest turns and their ways, by levels ===== -/
abbrev CW : Nat := 2000000000
section LEVELS
variable {N n goal t b : Nat} {tn : Nat → Nat → Nat} {op : Nat → Nat → Bool} {pr : Nat → Nat → Nat} {P W p w : Nat → Nat} {L : Nat} {D D' : Nat → Nat → Bool}
def okS (op : Nat → Nat → Bool) (b d m : Nat) : Bool := decide (m ≠ b) && op d m
/-- whether turn i + 1 leads from d to what is looked at just now, and was looked at -/
def ctB (tn : Nat → Nat → Nat) (op : Nat → Nat → Bool) (b L : Nat) (P : Nat → Nat) (D : Nat → Nat → Bool) (d i : Nat) : Bool := okS op b d (i + 1) && (decide (P (tn d (i + 1)) = L) && D (tn d (i + 1)) (i + 1))
def hsB (n : Nat) (tn : Nat → Nat → Nat) (op : Nat → Nat → Bool) (b L : Nat) (P : Nat → Nat) (D : Nat → Nat → Bool) (d : Nat) : Bool := decide (0 < cn n (ctB tn op b L P D d))
def sgN (n : Nat) (tn : Nat → Nat → Nat) (op : Nat → Nat → Bool) (b L : Nat) (P W : Nat → Nat) (D : Nat → Nat → Bool) (d : Nat) : Nat := sm n (fun i => if ctB tn op b L P D d i = true then W (tn d (i + 1)) else 0)
/-- what the table holds while level L is looked at -/
def FI (N n : Nat) (tn : Nat → Nat → Nat) (op : Nat → Nat → Bool) (b L : Nat) (P W : Nat → Nat) (D : Nat → Nat → Bool) (p w : Nat → Nat) : Prop :=
  ∀ d, d < N → p d = (if P d ≠ 0 then P d else if hsB n tn op b L P D d = true then L + 1 else 0) ∧ w d = (if P d ≠ 0 then W d else min CW (sgN n tn op b L P W D d))
theorem cn_pos {n : Nat} {q : Nat → Bool} : 0 < cn n q ↔ ∃ i, i < n ∧ q i = true := by
  constructor
  · intro h
    apply Classical.byContradiction
    intro hx
    rw [cn_none (fun i hi => by
      cases hq : q i
      · rfl
      · exact absurd ⟨i, hi, hq⟩ hx)] at h
    omega
  · rintro ⟨i, hi, hq⟩
    have := sm_pos (f := fun i => if q i = true then 1 else 0) hi
    rw [if_pos hq] at this
    unfold cn; omega
theorem hsB_iff {d : Nat} : hsB n tn op b L P D d = true ↔ ∃ m, 1 ≤ m ∧ m ≤ n ∧ okS op b d m = true ∧ P (tn d m) = L ∧ D (tn d m) m = true := by
  unfold hsB
  rw [decide_eq_true_eq, cn_pos]
  constructor
  · rintro ⟨i, hi, h⟩
    unfold ctB at h
    simp only [Bool.and_eq_true, decide_eq_true_eq] at h
    exact ⟨i + 1, by omega, by omega, h.1, h.2.1, h.2.2⟩
  · rintro ⟨m, h1, h2, h3, h4, h5⟩
    obtain ⟨i, rfl⟩ : ∃ i, m = i + 1 := ⟨m - 1, by omega⟩
    refine ⟨i, by omega, ?_⟩
    unfold ctB
    simp only [Bool.and_eq_true, decide_eq_true_eq]
    exact ⟨h3, h4, h5⟩
theorem sgN_zero {d : Nat} (h : hsB n tn op b L P D d = false) : sgN n tn op b L P W D d = 0 := by
  unfold hsB at h
  unfold sgN
  refine sm_zero (fun i hi => ?_)
  by_cases hc : ctB tn op b L P D d i = true
  · have : 0 < cn n (ctB tn op b L P D d) := cn_pos.mpr ⟨i, hi, hc⟩
    simp at h; omega
  · rw [if_neg hc]
/-- nothing else changes where one more is looked at -/
theorem ctB_other {c m d i : Nat} (hp : Gp N n goal tn pr) (hc : c < N) (hm1 : 1 ≤ m) (hm : m ≤ n) (hd : d < N) (hi : i < n) (hne : d ≠ tn c m ∨ i + 1 ≠ m ∨ okS op b d m = false) (h : ∀ c' m', (c' ≠ c ∨ m' ≠ m) → D' c' m' = D c' m') : ctB tn op b L P D' d i = ctB tn op b L P D d i := by
  unfold ctB
  by_cases e : i + 1 = m
  · rw [e]
    rcases hne with q | q | q
    · have : tn d m ≠ c := fun e2 => q (by rw [← e2, (hp.2.2.2 d m hd hm1 hm).2.1])
      rw [h _ _ (Or.inl this)]
    · exact absurd e q
    · rw [q]; rfl
  · rw [h _ _ (Or.inr e)]
theorem FI.same (hp : Gp N n goal tn pr) {c m : Nat} (hc : c < N) (hm1 : 1 ≤ m) (hm : m ≤ n) (H : FI N n tn op b L P W D p w) (hD : ∀ c' m', (c' ≠ c ∨ m' ≠ m) → D' c' m' = D c' m') (hx : okS op b (tn c m) m = false ∨ P (tn c m) ≠ 0) : FI N n tn op b L P W D' p w := by
  intro d hd
  have hh := H d hd
  by_cases e : P d ≠ 0
  · rw [if_pos e, if_pos e] at hh ⊢; exact hh
  · have hct : ∀ i, i < n → ctB tn op b L P D' d i = ctB tn op b L P D d i := fun i hi => by
      refine ctB_other hp hc hm1 hm hd hi ?_ hD
      by_cases e2 : d = tn c m
      · subst e2
        rcases hx with q | q
        · exact Or.inr (Or.inr q)
        · exact absurd q e
      · exact Or.inl e2
    have h1 : hsB n tn op b L P D' d = hsB n tn op b L P D d := by unfold hsB; rw [cn_congr hct]
    have h2 : sgN n tn op b L P W D' d = sgN n tn op b L P W D d := by unfold sgN; exact sm_congr (fun i hi => by rw [hct i hi])
    rw [h1, h2]; exact hh
theorem FI.step (hp : Gp N n goal tn pr) {c m : Nat} (hc : c < N) (hm1 : 1 ≤ m) (hm : m ≤ n) (H : FI N n tn op b L P W D p w) (hD : ∀ c' m', (c' ≠ c ∨ m' ≠ m) → D' c' m' = D c' m') (h0 : D c m = false) (h1 : D' c m = true) (hok : okS op b (tn c m) m = true) (hP : P (tn c m) = 0) (hL : P c = L) : FI N n tn op b L P W D' (fun d => if d = tn c m then L + 1 else p d) (fun d => if d = tn c m then min CW (W c + w (tn c m)) else w d) := by
  obtain ⟨hdN, hdd, -, -⟩ := hp.2.2.2 c m hc hm1 hm
  intro d hd
  have hh := H d hd
  dsimp only
  by_cases e : d = tn c m
  · have hP2 : ¬ P d ≠ 0 := by rw [e]; simp [hP]
    have hid : ctB tn op b L P D' d (m - 1) = true := by
      unfold ctB
      have e1 : m - 1 + 1 = m := by omega
      rw [e1, e, hdd, hok, h1, hL]; simp
    have hid0 : ctB tn op b L P D d (m - 1) = false := by
      unfold ctB
      have e1 : m - 1 + 1 = m := by omega
      rw [e1, e, hdd, h0]; simp
    have hct : ∀ i, i < n → i ≠ m - 1 → ctB tn op b L P D' d i = ctB tn op b L P D d i := fun i hi hne => ctB_other hp hc hm1 hm hd hi (Or.inr (Or.inl (by omega))) hD
    have hhs : hsB n tn op b L P D' d = true := by
      unfold hsB
      rw [decide_eq_true_eq]
      exact cn_pos.mpr ⟨m - 1, by omega, hid⟩
    have hsum := sm_upd (n := n) (j := m - 1) (f := fun i => if ctB tn op b L P D' d i = true then W (tn d (i + 1)) else 0) (g := fun i => if ctB tn op b L P D d i = true then W (tn d (i + 1)) else 0) (by omega) (fun i hi hne => by simp only [hct i hi hne])
    have e1 : m - 1 + 1 = m := by omega
    simp only [hid, hid0, if_true, e1] at hsum
    have e3 : tn d m = c := by rw [e, hdd]
    rw [e3] at hsum
    have hsum2 : sgN n tn op b L P W D' d = sgN n tn op b L P W D d + W c := by
      unfold sgN
      simpa using hsum
    rw [if_neg hP2, if_neg hP2] at hh ⊢
    rw [if_pos e, if_pos e, hhs, if_pos rfl, hsum2, ← e, hh.2]
    refine ⟨rfl, ?_⟩
    omega
  · have hct : ∀ i, i < n → ctB tn op b L P D' d i = ctB tn op b L P D d i := fun i hi => ctB_other hp hc hm1 hm hd hi (Or.inl e) hD
    have g1 : hsB n tn op b L P D' d = hsB n tn op b L P D d := by unfold hsB; rw [cn_congr hct]
    have g2 : sgN n tn op b L P W D' d = sgN n tn op b L P W D d := by unfold sgN; exact sm_congr (fun i hi => by rw [hct i hi])
    rw [if_neg e, if_neg e, g1, g2]; exact hh
/-- a table of parts and ways, all levels below L done -/
def LI (N n : Nat) (tn : Nat → Nat → Nat) (op : Nat → Nat → Bool) (b t L : Nat) (P W : Nat → Nat) : Prop :=
  (∀ c, c < N → P c ≤ L) ∧ (∀ c, c < N → (P c = 1 ↔ c = t)) ∧
  (∀ c, c < N → 1 < P c → ∃ m, 1 ≤ m ∧ m ≤ n ∧ okS op b c m = true ∧ P (tn c m) + 1 = P c) ∧
  (∀ c m, c < N → 1 ≤ m → m ≤ n → okS op b c m = true → P (tn c m) ≠ 0 → P (tn c m) < L → P c ≠ 0 ∧ P c ≤ P (tn c m) + 1) ∧
  ((∀ c, c < N → P c = 0 → W c = 0) ∧ W t = 1 ∧ (∀ c, c < N → W c ≤ CW) ∧ ∀ c, c < N → 1 < P c → W c = min CW (sm n (fun i => if (okS op b c (i + 1) && decide (P (tn c (i + 1)) + 1 = P c)) = true then W (tn c (i + 1)) else 0))) ∧
  L ≤ cn N (fun c => decide (P c ≠ 0)) ∧ 1 ≤ L
/-- the whole table -/
def LF (N n : Nat) (tn : Nat → Nat → Nat) (op : Nat → Nat → Bool) (b t : Nat) (P W : Nat → Nat) : Prop :=
  (∀ c, c < N → P c ≤ N) ∧ (∀ c, c < N → (P c = 1 ↔ c = t)) ∧
  (∀ c, c < N → 1 < P c → ∃ m, 1 ≤ m ∧ m ≤ n ∧ okS op b c m = true ∧ P (tn c m) + 1 = P c) ∧
  (∀ c m, c < N → 1 ≤ m → m ≤ n → okS op b c m = true → P (tn c m) ≠ 0 → P c ≠ 0 ∧ P c ≤ P (tn c m) + 1) ∧
  ((∀ c, c < N → P c = 0 → W c = 0) ∧ W t = 1 ∧ (∀ c, c < N → W c ≤ CW) ∧ ∀ c, c < N → 1 < P c → W c = min CW (sm n (fun i => if (okS op b c (i + 1) && decide (P (tn c (i + 1)) + 1 = P c)) = true then W (tn c (i + 1)) else 0)))
theorem FI.lev (hp : Gp N n goal tn pr) (ht : t < N) (hI : LI N n tn op b t L P W) (H : FI N n tn op b L P W D p w) (hD : ∀ c m, c < N → 1 ≤ m → m ≤ n → D c m = true) :
    ((∃ d, d < N ∧ P d = 0 ∧ p d ≠ 0) → LI N n tn op b t (L + 1) p w) ∧ ((¬ ∃ d, d < N ∧ P d = 0 ∧ p d ≠ 0) → LF N n tn op b t p w) := by
  obtain ⟨a1, a2, a3, a4, ⟨a5, a6, a7, a8⟩, a9, a10⟩ := hI
  have tnl : ∀ c m, c < N → 1 ≤ m → m ≤ n → tn c m < N := fun c m hc h1 h2 => (hp.2.2.2 c m hc h1 h2).1
  have pv : ∀ d, d < N → P d ≠ 0 → p d = P d ∧ w d = W d := fun d hd hx => by
    have := H d hd; rw [if_pos hx, if_pos hx] at this; exact this
  have p0 : ∀ d, d < N → P d = 0 → p d = 0 ∨ p d = L + 1 := fun d hd hx => by
    have := (H d hd).1
    have hP2 : ¬ P d ≠ 0 := by simp [hx]
    rw [if_neg hP2] at this
    split at this <;> omega
  have pn : ∀ d, d < N → p d ≠ 0 → p d ≤ L → P d = p d := fun d hd h1 h2 => by
    by_cases e : P d = 0
    · rcases p0 d hd e with q | q <;> omega
    · exact (pv d hd e).1.symm
  have hsv : ∀ d, d < N → P d = 0 → ((∃ m, 1 ≤ m ∧ m ≤ n ∧ okS op b d m = true ∧ P (tn d m) = L) ↔ p d = L + 1) := fun d hd hx => by
    have h1 := (H d hd).1
    have hP2 : ¬ P d ≠ 0 := by simp [hx]
    rw [if_neg hP2] at h1
    by_cases hh : hsB n tn op b L P D d = true
    · rw [if_pos hh] at h1
      obtain ⟨m, g1, g2, g3, g4, -⟩ := hsB_iff.mp hh
      exact ⟨fun _ => h1, fun _ => ⟨m, g1, g2, g3, g4⟩⟩
    · rw [if_neg hh] at h1
      constructor
      · rintro ⟨m, g1, g2, g3, g4⟩
        exact absurd (hsB_iff.mpr ⟨m, g1, g2, g3, g4, hD _ _ (tnl d m hd g1 g2) g1 g2⟩) hh
      · intro h2; omega
  have b1 : ∀ c, c < N → p c ≤ L + 1 := fun c hc => by
    by_cases e : P c = 0
    · rcases p0 c hc e with q | q <;> omega
    · have := (pv c hc e).1; have := a1 c hc; omega
  have b2 : ∀ c, c < N → (p c = 1 ↔ c = t) := fun c hc => by
    by_cases e : P c = 0
    · have h1 : ¬ c = t := fun q => by have := (a2 c hc).mpr q; omega
      rcases p0 c hc e with q | q
      · constructor
        · intro _; omega
        · intro h2; exact absurd h2 h1
      · constructor
        · intro _; omega
        · intro h2; exact absurd h2 h1
    · rw [(pv c hc e).1]; exact a2 c hc
  have b3 : ∀ c, c < N → 1 < p c → ∃ m, 1 ≤ m ∧ m ≤ n ∧ okS op b c m = true ∧ p (tn c m) + 1 = p c := fun c hc h1 => by
    by_cases e : P c = 0
    · rcases p0 c hc e with q | q
      · omega
      · obtain ⟨m, g1, g2, g3, g4⟩ := (hsv c hc e).mpr q
        refine ⟨m, g1, g2, g3, ?_⟩
        have := (pv _ (tnl c m hc g1 g2) (by omega)).1
        omega
    · have e2 := (pv c hc e).1
      obtain ⟨m, g1, g2, g3, g4⟩ := a3 c hc (by omega)
      refine ⟨m, g1, g2, g3, ?_⟩
      have := (pv _ (tnl c m hc g1 g2) (by omega)).1
      omega
  have b4 : ∀ c m, c < N → 1 ≤ m → m ≤ n → okS op b c m = true → p (tn c m) ≠ 0 → p (tn c m) < L + 1 → p c ≠ 0 ∧ p c ≤ p (tn c m) + 1 := fun c m hc h1 h2 h3 h4 h5 => by
    have e1 := pn _ (tnl c m hc h1 h2) h4 (by omega)
    by_cases e : P c = 0
    · by_cases e3 : P (tn c m) = L
      · have := (hsv c hc e).mp ⟨m, h1, h2, h3, e3⟩
        omega
      · have := a4 c m hc h1 h2 h3 (by omega) (by omega)
        omega
    · have e2 := (pv c hc e).1
      by_cases e3 : P (tn c m) < L
      · have := a4 c m hc h1 h2 h3 (by omega) e3
        omega
      · have := a1 c hc
        omega
  have b5 : ∀ c, c < N → p c = 0 → w c = 0 := fun c hc h1 => by
    by_cases e : P c = 0
    · have h2 := H c hc
      have hP2 : ¬ P c ≠ 0 := by simp [e]
      rw [if_neg hP2, if_neg hP2] at h2
      by_cases hh : hsB n tn op b L P D c = true
      · rw [if_pos hh] at h2; omega
      · rw [h2.2, sgN_zero (by simpa using hh)]; rfl
    · have := (pv c hc e).1; omega
  have b6 : w t = 1 := by
    have := (a2 t ht).mpr rfl
    rw [(pv t ht (by omega)).2]; exact a6
  have b7 : ∀ c, c < N → w c ≤ CW := fun c hc => by
    by_cases e : P c = 0
    · have h2 := (H c hc).2
      have hP2 : ¬ P c ≠ 0 := by simp [e]
      rw [if_neg hP2] at h2
      rw [h2]; exact Nat.min_le_left _ _
    · rw [(pv c hc e).2]; exact a7 c hc
  have b8 : ∀ c, c < N → 1 < p c → w c = min CW (sm n (fun i => if (okS op b c (i + 1) && decide (p (tn c (i + 1)) + 1 = p c)) = true then w (tn c (i + 1)) else 0)) := fun c hc h1 => by
    by_cases e : P c = 0
    · rcases p0 c hc e with q | q
      · omega
      · have h2 := (H c hc).2
        have hP2 : ¬ P c ≠ 0 := by simp [e]
        rw [if_neg hP2] at h2
        rw [h2]
        unfold sgN
        congr 1
        refine sm_congr (fun i hi => ?_)
        have hti := tnl c (i + 1) hc (by omega) (by omega)
        have hDi := hD _ (i + 1) hti (by omega) (by omega)
        have key : P (tn c (i + 1)) = L ↔ p (tn c (i + 1)) + 1 = p c := by
          constructor
          · intro g; have := (pv _ hti (by omega)).1; omega
          · intro g; have := pn _ hti (by omega) (by omega); omega
        unfold ctB
        rw [hDi, Bool.and_true]
        by_cases g : P (tn c (i + 1)) = L
        · have := (pv _ hti (by omega)).2
          rw [this]
          simp only [g, key.mp g]
        · have g' : ¬ p (tn c (i + 1)) + 1 = p c := fun q => g (key.mpr q)
          simp [g, g']
    · obtain ⟨q1, q2⟩ := pv c hc e
      rw [q1] at h1
      rw [q1, q2]
      rw [a8 c hc (by omega)]
      congr 1
      refine sm_congr (fun i hi => ?_)
      have hti := tnl c (i + 1) hc (by omega) (by omega)
      have h3 := a1 c hc
      have key : P (tn c (i + 1)) + 1 = P c ↔ p (tn c (i + 1)) + 1 = P c := by
        constructor
        · intro g; have := (pv _ hti (by omega)).1; omega
        · intro g; have := pn _ hti (by omega) (by omega); omega
      by_cases g : P (tn c (i + 1)) + 1 = P c
      · have := (pv _ hti (by omega)).2
        rw [this]
        simp only [g, key.mp g]
      · have g' : ¬ p (tn c (i + 1)) + 1 = P c := fun q => g (key.mpr q)
        simp [g, g']
  refine ⟨fun hm => ⟨b1, b2, b3, b4, ⟨b5, b6, b7, b8⟩, ?_, by omega⟩, fun hm => ?_⟩
  · obtain ⟨d, hd, g1, g2⟩ := hm
    have := cn_lt (n := N) (j := d) (p := fun c => decide (P c ≠ 0)) (q := fun c => decide (p c ≠ 0)) hd (by simp [g1]) (by simp [g2]) (fun i hi h => by
      simp only [ne_eq, decide_eq_true_eq] at h ⊢
      have := (pv i hi h).1; omega)
    omega
  · have nn : ∀ d, d < N → P d = 0 → p d = 0 := fun d hd g => by
      apply Classical.byContradiction
      intro g2
      exact hm ⟨d, hd, g, g2⟩
    have hLN : L ≤ N := Nat.le_trans a9 cn_le
    have pe : ∀ d, d < N → p d = P d := fun d hd => by
      by_cases e : P d = 0
      · rw [nn d hd e, e]
      · exact (pv d hd e).1
    refine ⟨fun c hc => by have := a1 c hc; have := pe c hc; omega, b2, b3, fun c m hc h1 h2 h3 h4 => ?_, ⟨b5, b6, b7, b8⟩⟩
    exact b4 c m hc h1 h2 h3 h4 (by have := a1 _ (tnl c m hc h1 h2); have := pe _ (tnl c m hc h1 h2); omega)
/-- the parts are the distances -/
theorem LF.dist (hp : Gp N n goal tn pr) (H : LF N n tn op b t P W) : IsD N n tn (eS tn op true b) t (fun c => (P c : Int) - 1) := by
  obtain ⟨a1, a2, a3, a4, -⟩ := H
  refine ⟨fun c hc => ?_, fun c hc => ?_, fun c m hc h1 h2 hE hf => ?_, fun c hc hpos => ?_⟩
  · have := a1 c hc; dsimp only; omega
  · have := a2 c hc
    dsimp only
    constructor
    · intro g; exact this.mp (by omega)
    · intro g; have := this.mpr g; omega
  · obtain ⟨hd, hdd, -, -⟩ := hp.2.2.2 c m hc h1 h2
    have hok : okS op b (tn c m) m = true := by
      unfold eS at hE; unfold okS; simpa using hE
    have hf2 : (P c : Int) - 1 ≠ -1 := hf
    have := a4 (tn c m) m hd h1 h2 hok (by rw [hdd]; omega)
    rw [hdd] at this
    dsimp only
    omega
  · obtain ⟨m, g1, g2, g3, g4⟩ := a3 c hc (by dsimp only at hpos; omega)
    obtain ⟨hd, hdd, -, -⟩ := hp.2.2.2 c m hc g1 g2
    refine ⟨m, g1, g2, ?_, by dsimp only; omega⟩
    unfold eS
    rw [hdd] 
    unfold okS at g3
    simpa using g3
end LEVELS
