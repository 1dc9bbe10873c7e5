/-! ===== level 2: the reference's two cooks ===== -/
/-- how the table has it -/
def kc (x : Int) : Int := if x = -1 then 0 else 2 * (x + 1) + x % 2
section COOKP
variable {N n goal : Nat} {tn : Nat → Nat → Nat} {op : Nat → Nat → Bool} {pr : Nat → Nat → Nat} {e : Nat → Int} {l : Nat}
def tdB (e : Nat → Int) (l d : Nat) : Bool := decide (0 ≤ e d) && decide (e d < l)
/-- a turn to where the other one loses -/
def wnB (tn : Nat → Nat → Nat) (op : Nat → Nat → Bool) (e : Nat → Int) (l c i : Nat) : Bool := op c (i + 1) && (tdB e l (tn c (i + 1)) && decide (e (tn c (i + 1)) % 2 = 0))
/-- a turn that is not to where the other one wins -/
def nlB (tn : Nat → Nat → Nat) (op : Nat → Nat → Bool) (e : Nat → Int) (l c i : Nat) : Bool := op c (i + 1) && !(tdB e l (tn c (i + 1)) && decide (e (tn c (i + 1)) % 2 = 1))
def seB (n : Nat) (tn : Nat → Nat → Nat) (op : Nat → Nat → Bool) (e : Nat → Int) (l c : Nat) : Bool := decide (0 < cn n (wnB tn op e l c)) || decide (cn n (nlB tn op e l c) = 0)
/-- one level more -/
def upK (n : Nat) (tn : Nat → Nat → Nat) (op : Nat → Nat → Bool) (e : Nat → Int) (l c : Nat) : Int := if e c = -1 then (if seB n tn op e l c = true then (l : Int) else -1) else e c
/-- all levels below l are done -/
def LK2 (N n : Nat) (tn : Nat → Nat → Nat) (op : Nat → Nat → Bool) (goal l : Nat) (e : Nat → Int) : Prop :=
  (∀ c, c < N → -1 ≤ e c ∧ e c < l) ∧ (∀ c, c < N → (e c = 0 ↔ endB n op goal c = true)) ∧
  (∀ c, c < N → 0 ≤ e c → e c % 2 = 1 → (∃ m, 1 ≤ m ∧ m ≤ n ∧ op c m = true ∧ e (tn c m) = e c - 1) ∧ ∀ m, 1 ≤ m → m ≤ n → op c m = true → 0 ≤ e (tn c m) → e (tn c m) % 2 = 0 → e c - 1 ≤ e (tn c m)) ∧
  (∀ c, c < N → 0 < e c → e c % 2 = 0 → (∃ m, 1 ≤ m ∧ m ≤ n ∧ op c m = true ∧ e (tn c m) = e c - 1) ∧ ∀ m, 1 ≤ m → m ≤ n → op c m = true → 0 ≤ e (tn c m) ∧ e (tn c m) % 2 = 1 ∧ e (tn c m) ≤ e c - 1) ∧
  (∀ c, c < N → e c = -1 → (∀ m, 1 ≤ m → m ≤ n → op c m = true → 0 ≤ e (tn c m) → e (tn c m) % 2 = 0 → (l : Int) - 1 ≤ e (tn c m)) ∧ ∃ m, 1 ≤ m ∧ m ≤ n ∧ op c m = true ∧ (e (tn c m) = -1 ∨ e (tn c m) % 2 = 0 ∨ (l : Int) - 1 ≤ e (tn c m))) ∧
  1 ≤ l ∧ l ≤ cn N (fun c => decide (e c ≠ -1))
theorem wnB_iff {c : Nat} : 0 < cn n (wnB tn op e l c) ↔ ∃ m, 1 ≤ m ∧ m ≤ n ∧ op c m = true ∧ 0 ≤ e (tn c m) ∧ e (tn c m) < l ∧ e (tn c m) % 2 = 0 := by
  rw [cn_pos]
  constructor
  · rintro ⟨i, hi, h⟩
    unfold wnB tdB at h
    simp only [Bool.and_eq_true, decide_eq_true_eq] at h
    exact ⟨i + 1, by omega, by omega, h.1, h.2.1.1, h.2.1.2, h.2.2⟩
  · rintro ⟨m, h1, h2, h3, h4, h5, h6⟩
    obtain ⟨i, rfl⟩ : ∃ i, m = i + 1 := ⟨m - 1, by omega⟩
    refine ⟨i, by omega, ?_⟩
    unfold wnB tdB
    simp only [Bool.and_eq_true, decide_eq_true_eq]
    exact ⟨h3, ⟨h4, h5⟩, h6⟩
theorem nlB_iff {c : Nat} : cn n (nlB tn op e l c) = 0 ↔ ∀ m, 1 ≤ m → m ≤ n → op c m = true → 0 ≤ e (tn c m) ∧ e (tn c m) < l ∧ e (tn c m) % 2 = 1 := by
  constructor
  · intro h m h1 h2 h3
    apply Classical.byContradiction
    intro hno
    have e1 : m - 1 + 1 = m := by omega
    have : 0 < cn n (nlB tn op e l c) := cn_pos.mpr ⟨m - 1, by omega, by
      unfold nlB tdB
      rw [e1, h3]
      simp only [Bool.true_and, Bool.not_eq_true', Bool.and_eq_false_iff, decide_eq_false_iff_not]
      omega⟩
    omega
  · intro h
    refine cn_none (fun i hi => ?_)
    unfold nlB tdB
    cases ho : op c (i + 1)
    · rfl
    · obtain ⟨h1, h2, h3⟩ := h (i + 1) (by omega) (by omega) ho
      simp [h1, h2, h3]
theorem seB_iff {c : Nat} : seB n tn op e l c = true ↔ (∃ m, 1 ≤ m ∧ m ≤ n ∧ op c m = true ∧ 0 ≤ e (tn c m) ∧ e (tn c m) < l ∧ e (tn c m) % 2 = 0) ∨ ∀ m, 1 ≤ m → m ≤ n → op c m = true → 0 ≤ e (tn c m) ∧ e (tn c m) < l ∧ e (tn c m) % 2 = 1 := by
  unfold seB
  rw [Bool.or_eq_true, decide_eq_true_eq, decide_eq_true_eq, wnB_iff, nlB_iff]
theorem LK2.up (hp : Gp N n goal tn pr) (H : LK2 N n tn op goal l e) :
    ((∃ c, c < N ∧ e c = -1 ∧ seB n tn op e l c = true) → LK2 N n tn op goal (l + 1) (upK n tn op e l)) ∧ ((¬ ∃ c, c < N ∧ e c = -1 ∧ seB n tn op e l c = true) → (∀ c, c < N → upK n tn op e l c = e c) ∧ IsK N n tn op goal e) := by
  obtain ⟨h1, h2, h3, h4, h5, h6, h7⟩ := H
  have tnl : ∀ c m, c < N → 1 ≤ m → m ≤ n → tn c m < N := fun c m hc q1 q2 => (hp.2.2.2 c m hc q1 q2).1
  have hlN : l ≤ N := Nat.le_trans h7 cn_le
  have hN := hp.2.1
  have keep : ∀ c, e c ≠ -1 → upK n tn op e l c = e c := fun c hc => by unfold upK; rw [if_neg hc]
  have fresh : ∀ c, e c = -1 → upK n tn op e l c = -1 ∨ (upK n tn op e l c = l ∧ seB n tn op e l c = true) := fun c hc => by
    unfold upK
    rw [if_pos hc]
    by_cases hs : seB n tn op e l c = true
    · rw [if_pos hs]; exact Or.inr ⟨rfl, hs⟩
    · rw [if_neg hs]; exact Or.inl rfl
  constructor
  · intro hm
    have b1 : ∀ c, c < N → -1 ≤ upK n tn op e l c ∧ upK n tn op e l c < ((l + 1 : Nat) : Int) := fun c hc => by
      have := h1 c hc
      by_cases q : e c = -1
      · rcases fresh c q with r | r <;> omega
      · rw [keep c q]; omega
    refine ⟨b1, fun c hc => ?_, fun c hc h0 ho => ?_, fun c hc h0 ho => ?_, fun c hc hx => ?_, by omega, ?_⟩
    · by_cases q : e c = -1
      · have : ¬ endB n op goal c = true := fun k => by have := (h2 c hc).mpr k; omega
        rcases fresh c q with r | r
        · constructor
          · intro k; omega
          · intro k; exact absurd k this
        · constructor
          · intro k; omega
          · intro k; exact absurd k this
      · rw [keep c q]; exact h2 c hc
    · by_cases q : e c = -1
      · rcases fresh c q with r | ⟨r, hs⟩
        · omega
        · rw [r] at ho ⊢
          obtain ⟨k1, m0, m1, m2, m3, m4⟩ := h5 c hc q
          rcases seB_iff.mp hs with ⟨m, g1, g2, g3, g4, g5, g6⟩ | hall
          · have hk := k1 m g1 g2 g3 g4 g6
            refine ⟨⟨m, g1, g2, g3, by rw [keep _ (by omega)]; omega⟩, fun m' q1 q2 q3 q4 q5 => ?_⟩
            by_cases qq : e (tn c m') = -1
            · rcases fresh _ qq with r2 | ⟨r2, -⟩ <;> omega
            · rw [keep _ qq] at q4 q5 ⊢
              have := k1 m' q1 q2 q3 q4 q5
              omega
          · have := hall m0 m1 m2 m3
            have e9 : e (tn c m0) = (l : Int) - 1 := by omega
            omega
      · rw [keep c q] at h0 ho ⊢
        obtain ⟨⟨m, g1, g2, g3, g4⟩, g5⟩ := h3 c hc h0 ho
        refine ⟨⟨m, g1, g2, g3, by rw [keep _ (by omega)]; exact g4⟩, fun m' q1 q2 q3 q4 q5 => ?_⟩
        by_cases qq : e (tn c m') = -1
        · have := h1 c hc
          rcases fresh _ qq with r2 | ⟨r2, -⟩ <;> omega
        · rw [keep _ qq] at q4 q5 ⊢
          exact g5 m' q1 q2 q3 q4 q5
    · by_cases q : e c = -1
      · rcases fresh c q with r | ⟨r, hs⟩
        · omega
        · rw [r] at ho ⊢
          obtain ⟨k1, m0, m1, m2, m3, m4⟩ := h5 c hc q
          rcases seB_iff.mp hs with ⟨m, g1, g2, g3, g4, g5, g6⟩ | hall
          · have hk := k1 m g1 g2 g3 g4 g6
            omega
          · have := hall m0 m1 m2 m3
            have e9 : e (tn c m0) = (l : Int) - 1 := by omega
            refine ⟨⟨m0, m1, m2, m3, by rw [keep _ (by omega)]; exact e9⟩, fun m' q1 q2 q3 => ?_⟩
            have := hall m' q1 q2 q3
            rw [keep _ (by omega)]
            omega
      · rw [keep c q] at h0 ho ⊢
        obtain ⟨⟨m, g1, g2, g3, g4⟩, g5⟩ := h4 c hc h0 ho
        refine ⟨⟨m, g1, g2, g3, by rw [keep _ (by omega)]; exact g4⟩, fun m' q1 q2 q3 => ?_⟩
        have := g5 m' q1 q2 q3
        rw [keep _ (by omega)]
        exact this
    · have q : e c = -1 := by
        apply Classical.byContradiction
        intro q
        rw [keep c q] at hx
        exact q hx
      have hns : ¬ seB n tn op e l c = true := fun hs => by
        unfold upK at hx
        rw [if_pos q, if_pos hs] at hx
        omega
      rw [seB_iff] at hns
      obtain ⟨k1, m0, m1, m2, m3, m4⟩ := h5 c hc q
      have now : ∀ m, 1 ≤ m → m ≤ n → op c m = true → 0 ≤ e (tn c m) → e (tn c m) % 2 = 1 := fun m q1 q2 q3 q4 => by
        apply Classical.byContradiction
        intro hk
        exact hns (Or.inl ⟨m, q1, q2, q3, q4, (h1 _ (tnl c m hc q1 q2)).2, by omega⟩)
      refine ⟨fun m q1 q2 q3 q4 q5 => ?_, ?_⟩
      · by_cases qq : e (tn c m) = -1
        · rcases fresh _ qq with r2 | ⟨r2, -⟩ <;> omega
        · rw [keep _ qq] at q4 q5 ⊢
          have := now m q1 q2 q3 q4
          omega
      · have hex : ∃ m, 1 ≤ m ∧ m ≤ n ∧ op c m = true ∧ e (tn c m) = -1 := by
          apply Classical.byContradiction
          intro hk
          refine hns (Or.inr (fun m q1 q2 q3 => ?_))
          have g := h1 _ (tnl c m hc q1 q2)
          have : e (tn c m) ≠ -1 := fun k => hk ⟨m, q1, q2, q3, k⟩
          exact ⟨by omega, g.2, now m q1 q2 q3 (by omega)⟩
        obtain ⟨m, q1, q2, q3, q4⟩ := hex
        refine ⟨m, q1, q2, q3, ?_⟩
        rcases fresh _ q4 with r2 | ⟨r2, -⟩ <;> omega
    · obtain ⟨c, hc, q, hs⟩ := hm
      have hcs : upK n tn op e l c ≠ -1 := by unfold upK; rw [if_pos q, if_pos hs]; omega
      have := cn_lt (n := N) (j := c) (p := fun c => decide (e c ≠ -1)) (q := fun c => decide (upK n tn op e l c ≠ -1)) hc (by simp [q]) (by simp [hcs]) (fun i hi h => by
        simp only [ne_eq, decide_eq_true_eq] at h ⊢
        rw [keep i h]; exact h)
      omega
  · intro hm
    have hsame : ∀ c, c < N → upK n tn op e l c = e c := fun c hc => by
      by_cases q : e c = -1
      · rcases fresh c q with r | ⟨r, hs⟩
        · omega
        · exact absurd ⟨c, hc, q, hs⟩ hm
      · exact keep c q
    refine ⟨hsame, fun c hc => by have := h1 c hc; omega, h2, h3, h4, fun c hc q => ?_⟩
    have hns : ¬ seB n tn op e l c = true := fun hs => hm ⟨c, hc, q, hs⟩
    rw [seB_iff] at hns
    have now : ∀ m, 1 ≤ m → m ≤ n → op c m = true → e (tn c m) = -1 ∨ e (tn c m) % 2 = 1 := fun m q1 q2 q3 => by
      apply Classical.byContradiction
      intro hk
      have := h1 _ (tnl c m hc q1 q2)
      exact hns (Or.inl ⟨m, q1, q2, q3, by omega, this.2, by omega⟩)
    refine ⟨?_, now⟩
    apply Classical.byContradiction
    intro hk
    refine hns (Or.inr (fun m q1 q2 q3 => ?_))
    have g := h1 _ (tnl c m hc q1 q2)
    have : e (tn c m) ≠ -1 := fun k => hk ⟨m, q1, q2, q3, k⟩
    rcases now m q1 q2 q3 with r | r
    · exact absurd r this
    · exact ⟨by omega, g.2, r⟩
/-- level 0 -/
theorem LK2.first (hp : Gp N n goal tn pr) (h0 : ∀ c, c < N → e c = if c = goal then 0 else -1) : LK2 N n tn op goal 1 (upK n tn op e 0) := by
  have hs : ∀ c, c < N → (seB n tn op e 0 c = true ↔ ∀ m, 1 ≤ m → m ≤ n → op c m = false) := fun c hc => by
    rw [seB_iff]
    constructor
    · rintro (⟨m, -, -, -, g4, g5, -⟩ | h)
      · omega
      · intro m q1 q2
        cases ho : op c m
        · rfl
        · have := h m q1 q2 ho
          omega
    · intro h
      refine Or.inr (fun m q1 q2 q3 => ?_)
      rw [h m q1 q2] at q3
      exact absurd q3 (by decide)
  have hv : ∀ c, c < N → upK n tn op e 0 c = if endB n op goal c = true then 0 else -1 := fun c hc => by
    unfold upK
    rw [h0 c hc]
    by_cases q : c = goal
    · have : endB n op goal c = true := endB_iff.mpr (Or.inl q)
      rw [if_pos q, if_neg (by omega), if_pos this]
    · rw [if_neg q, if_pos rfl]
      by_cases q2 : seB n tn op e 0 c = true
      · rw [if_pos q2, if_pos (endB_iff.mpr (Or.inr ((hs c hc).mp q2)))]; rfl
      · rw [if_neg q2, if_neg (fun k => by
          rcases endB_iff.mp k with r | r
          · exact q r
          · exact q2 ((hs c hc).mpr r))]
  have two : ∀ c, c < N → upK n tn op e 0 c = 0 ∨ upK n tn op e 0 c = -1 := fun c hc => by rw [hv c hc]; split <;> omega
  refine ⟨fun c hc => by have := two c hc; omega, fun c hc => ?_, fun c hc k1 k2 => by have := two c hc; omega, fun c hc k1 k2 => by have := two c hc; omega, fun c hc k => ⟨fun m q1 q2 q3 q4 q5 => by omega, ?_⟩, by omega, ?_⟩
  · rw [hv c hc]
    by_cases q : endB n op goal c = true
    · simp [q]
    · simp [q]
  · have hne : ¬ endB n op goal c = true := fun q => by rw [hv c hc, if_pos q] at k; omega
    have hex : ∃ m, 1 ≤ m ∧ m ≤ n ∧ op c m = true := by
      apply Classical.byContradiction
      intro hno
      refine hne (endB_iff.mpr (Or.inr (fun m q1 q2 => ?_)))
      cases ho : op c m
      · rfl
      · exact absurd ⟨m, q1, q2, ho⟩ hno
    obtain ⟨m, q1, q2, q3⟩ := hex
    refine ⟨m, q1, q2, q3, ?_⟩
    have := two _ (hp.2.2.2 c m hc q1 q2).1
    omega
  · have hg : upK n tn op e 0 goal = 0 := by rw [hv goal hp.2.2.1, if_pos (endB_iff.mpr (Or.inl rfl))]
    have : 0 < cn N (fun c => decide (upK n tn op e 0 c ≠ -1)) := cn_pos.mpr ⟨goal, hp.2.2.1, by rw [hg]; decide⟩
    exact this
end COOKP
