/-! ===== level 2: two cooks ===== -/
/-- where it ends at once -/
def endB (n : Nat) (op : Nat → Nat → Bool) (goal c : Nat) : Bool := decide (c = goal) || decide (cn n (fun i => op c (i + 1)) = 0)
theorem endB_iff {n goal c : Nat} {op : Nat → Nat → Bool} : endB n op goal c = true ↔ c = goal ∨ ∀ m, 1 ≤ m → m ≤ n → op c m = false := by
  unfold endB
  simp only [Bool.or_eq_true, decide_eq_true_eq]
  constructor
  · rintro (h | h)
    · exact Or.inl h
    · refine Or.inr (fun m h1 h2 => ?_)
      cases hb : op c m
      · rfl
      · have e1 : m - 1 + 1 = m := by omega
        have : 0 < cn n (fun i => op c (i + 1)) := cn_pos.mpr ⟨m - 1, by omega, by rw [e1]; exact hb⟩
        omega
  · rintro (h | h)
    · exact Or.inl h
    · exact Or.inr (cn_none (fun i hi => h (i + 1) (by omega) (by omega)))
/-- behind how many turns it ends, as what holds of neighbours; odd: the first one wins -/
def IsK (N n : Nat) (tn : Nat → Nat → Nat) (op : Nat → Nat → Bool) (goal : Nat) (e : Nat → Int) : Prop :=
  (∀ c, c < N → -1 ≤ e c ∧ e c < 4000) ∧ (∀ c, c < N → (e c = 0 ↔ endB n op goal c = true)) ∧
  (∀ c, c < N → 0 ≤ e c → e c % 2 = 1 → (∃ m, 1 ≤ m ∧ m ≤ n ∧ op c m = true ∧ e (tn c m) = e c - 1) ∧ ∀ m, 1 ≤ m → m ≤ n → op c m = true → 0 ≤ e (tn c m) → e (tn c m) % 2 = 0 → e c - 1 ≤ e (tn c m)) ∧
  (∀ c, c < N → 0 < e c → e c % 2 = 0 → (∃ m, 1 ≤ m ∧ m ≤ n ∧ op c m = true ∧ e (tn c m) = e c - 1) ∧ ∀ m, 1 ≤ m → m ≤ n → op c m = true → 0 ≤ e (tn c m) ∧ e (tn c m) % 2 = 1 ∧ e (tn c m) ≤ e c - 1) ∧
  ∀ c, c < N → e c = -1 → (∃ m, 1 ≤ m ∧ m ≤ n ∧ op c m = true ∧ e (tn c m) = -1) ∧ ∀ m, 1 ≤ m → m ≤ n → op c m = true → e (tn c m) = -1 ∨ e (tn c m) % 2 = 1
section COOKS
variable {N n goal : Nat} {tn : Nat → Nat → Nat} {op : Nat → Nat → Bool} {pr : Nat → Nat → Nat} {f o : Nat → Int} {q : Nat → Nat} {Dn : Nat → Bool}
theorem IsK.uniq {e e' : Nat → Int} (hp : Gp N n goal tn pr) (h1 : IsK N n tn op goal e) (h2 : IsK N n tn op goal e') : ∀ c, c < N → e c = e' c := by
  have half : ∀ (e e' : Nat → Int), IsK N n tn op goal e → IsK N n tn op goal e' → ∀ k : Nat, (∀ k', k' < k → ∀ c, c < N → (e c = (k' : Nat) ↔ e' c = (k' : Nat))) → ∀ c, c < N → e c = k → e' c = k := by
    intro e e' h1 h2 k ih c hc hk
    obtain ⟨a0, a1, a2, a3, a4⟩ := h1
    obtain ⟨b0, b1, b2, b3, b4⟩ := h2
    have tnl : ∀ m, 1 ≤ m → m ≤ n → tn c m < N := fun m q1 q2 => (hp.2.2.2 c m hc q1 q2).1
    have trans : ∀ d, d < N → 0 ≤ e d → e d < k → e' d = e d := fun d hd q1 q2 => by
      have := (ih (e d).toNat (by omega) d hd).mp (by omega)
      omega
    by_cases hk0 : k = 0
    · subst hk0
      have := (a1 c hc).mp hk
      rw [(b1 c hc).mpr this]; rfl
    · have hT : ¬ e' c = 0 := fun g => by
        have := (a1 c hc).mpr ((b1 c hc).mp g)
        omega
      by_cases hodd : k % 2 = 1
      · obtain ⟨⟨m, m1, m2, m3, m4⟩, m5⟩ := a2 c hc (by omega) (by omega)
        have hd := trans _ (tnl m m1 m2) (by omega) (by omega)
        have g1 : ¬ e' c = -1 := fun g => by
          rcases (b4 c hc g).2 m m1 m2 m3 with r | r <;> omega
        have g0 := b0 c hc
        have g2 : ¬ e' c % 2 = 0 := fun g => by
          have := (b3 c hc (by omega) g).2 m m1 m2 m3
          omega
        have g3 := (b2 c hc (by omega) (by omega)).2 m m1 m2 m3 (by omega) (by omega)
        by_cases g4 : e' c = k
        · exact g4
        · have := (ih (e' c).toNat (by omega) c hc).mpr (by omega)
          omega
      · obtain ⟨⟨m, m1, m2, m3, m4⟩, m5⟩ := a3 c hc (by omega) (by omega)
        have hall : ∀ m', 1 ≤ m' → m' ≤ n → op c m' = true → e' (tn c m') = e (tn c m') := fun m' q1 q2 q3 => by
          have := m5 m' q1 q2 q3
          exact trans _ (tnl m' q1 q2) (by omega) (by omega)
        have g0 := b0 c hc
        have g1 : ¬ e' c = -1 := fun g => by
          obtain ⟨⟨m', q1, q2, q3, q4⟩, -⟩ := b4 c hc g
          have := hall m' q1 q2 q3
          have := m5 m' q1 q2 q3
          omega
        have g2 : ¬ e' c % 2 = 1 := fun g => by
          obtain ⟨⟨m', q1, q2, q3, q4⟩, -⟩ := b2 c hc (by omega) g
          have := hall m' q1 q2 q3
          have := m5 m' q1 q2 q3
          omega
        obtain ⟨⟨m', q1, q2, q3, q4⟩, q5⟩ := b3 c hc (by omega) (by omega)
        have r1 := hall m' q1 q2 q3
        have r2 := m5 m' q1 q2 q3
        have r3 := q5 m m1 m2 m3
        have r4 := hall m m1 m2 m3
        omega
  have both : ∀ k : Nat, ∀ c, c < N → (e c = k ↔ e' c = k) := by
    intro k
    induction k using Nat.strongRecOn with
    | ind k ih =>
      intro c hc
      exact ⟨half e e' h1 h2 k ih c hc, half e' e h2 h1 k (fun k' hk' d hd => (ih k' hk' d hd).symm) c hc⟩
  intro c hc
  have b1 := h1.1 c hc
  have b2 := h2.1 c hc
  by_cases q1 : e c = -1
  · by_cases q2 : e' c = -1
    · omega
    · have := (both (e' c).toNat c hc).mpr (by omega)
      omega
  · have := (both (e c).toNat c hc).mp (by omega)
    omega
/-- turn i + 1 leads from c to what is not done -/
def opD (tn : Nat → Nat → Nat) (op : Nat → Nat → Bool) (Dn : Nat → Bool) (s m0 c i : Nat) : Bool := op c (i + 1) && !(Dn (tn c (i + 1)) || (decide (tn c (i + 1) = s) && decide (i + 1 < m0)))
/-- the state while s = q h is looked at, its turns below m0 done -/
def CK (N n : Nat) (tn : Nat → Nat → Nat) (op : Nat → Nat → Bool) (goal h m0 T : Nat) (f o : Nat → Int) (q : Nat → Nat) (Dn : Nat → Bool) : Prop :=
  T = cn N (fun c => decide (f c ≠ -1)) ∧ (∀ i, i < T → q i < N ∧ 0 ≤ f (q i)) ∧
  (∀ c, c < N → f c = -1 ∨ (0 ≤ f c ∧ f c < T ∧ ∃ i, i < T ∧ q i = c)) ∧ (∀ i j, i ≤ j → j < T → f (q i) ≤ f (q j)) ∧
  (∀ i j, i < T → j < T → q i = q j → i = j) ∧ (∀ d, d < N → (Dn d = true ↔ ∃ i, i < h ∧ i < T ∧ q i = d)) ∧
  (∀ c, c < N → f c = -1 → 1 ≤ o c ∧ o c = cn n (opD tn op Dn (q h) m0 c) ∧ ∀ m, 1 ≤ m → m ≤ n → op c m = true → (Dn (tn c m) = true ∨ (tn c m = q h ∧ m < m0)) → f (tn c m) % 2 = 1) ∧
  (∀ c, c < N → (f c = 0 ↔ endB n op goal c = true)) ∧
  (∀ c, c < N → 0 ≤ f c → f c % 2 = 1 → (∃ m, 1 ≤ m ∧ m ≤ n ∧ op c m = true ∧ f (tn c m) = f c - 1) ∧ ∀ m, 1 ≤ m → m ≤ n → op c m = true → 0 ≤ f (tn c m) → f (tn c m) % 2 = 0 → f c - 1 ≤ f (tn c m)) ∧
  ∀ c, c < N → 0 < f c → f c % 2 = 0 → (∃ m, 1 ≤ m ∧ m ≤ n ∧ op c m = true ∧ f (tn c m) = f c - 1) ∧ ∀ m, 1 ≤ m → m ≤ n → op c m = true → 0 ≤ f (tn c m) ∧ f (tn c m) % 2 = 1 ∧ f (tn c m) ≤ f c - 1
theorem opD_other {s m0 c i : Nat} (h : tn c (i + 1) ≠ s ∨ i + 1 ≠ m0 ∨ op c (i + 1) = false) : opD tn op Dn s (m0 + 1) c i = opD tn op Dn s m0 c i := by
  unfold opD
  rcases h with q | q | q
  · simp [q]
  · have : decide (i + 1 < m0 + 1) = decide (i + 1 < m0) := by rw [decide_eq_decide]; omega
    rw [this]
  · rw [q]; simp
/-- nothing to do for this turn -/
theorem CK.same {h m T : Nat} (hp : Gp N n goal tn pr) (H : CK N n tn op goal h m T f o q Dn) (hh : h < T) (hm1 : 1 ≤ m) (hm : m ≤ n) (hx : f (tn (q h) m) ≠ -1 ∨ op (tn (q h) m) m = false) : CK N n tn op goal h (m + 1) T f o q Dn := by
  obtain ⟨h1, h2, h3, h4, h5, h6, h7, h8, h9, h10⟩ := H
  refine ⟨h1, h2, h3, h4, h5, h6, fun c hc hf => ?_, h8, h9, h10⟩
  obtain ⟨g1, g2, g3⟩ := h7 c hc hf
  have hs := (h2 h hh).1
  have key : tn c m = q h → op c m = false := fun e => by
    have e2 : c = tn (q h) m := by rw [← e, (hp.2.2.2 c m hc hm1 hm).2.1]
    rcases hx with k | k
    · rw [← e2] at k; exact absurd hf k
    · rw [← e2] at k; exact k
  refine ⟨g1, ?_, fun m' q1 q2 q3 q4 => ?_⟩
  · rw [g2]
    congr 1
    refine cn_congr (fun i hi => (opD_other ?_).symm)
    by_cases e : i + 1 = m
    · by_cases e2 : tn c (i + 1) = q h
      · right; right; rw [e] at e2 ⊢; exact key e2
      · exact Or.inl e2
    · exact Or.inr (Or.inl e)
  · refine g3 m' q1 q2 q3 ?_
    rcases q4 with k | ⟨k1, k2⟩
    · exact Or.inl k
    · by_cases e : m' = m
      · subst e
        have := key k1
        rw [this] at q3; exact absurd q3 (by decide)
      · exact Or.inr ⟨k1, by omega⟩
/-- one turn fewer is left to it, and it is not settled yet -/
theorem CK.less {h m T : Nat} (hp : Gp N n goal tn pr) (H : CK N n tn op goal h m T f o q Dn) (hh : h < T) (hm1 : 1 ≤ m) (hm : m ≤ n) (hf : f (tn (q h) m) = -1) (hop : op (tn (q h) m) m = true) (hodd : f (q h) % 2 = 1) (ho : o (tn (q h) m) ≠ 1) : CK N n tn op goal h (m + 1) T f (fun c => if c = tn (q h) m then o c - 1 else o c) q Dn := by
  obtain ⟨h1, h2, h3, h4, h5, h6, h7, h8, h9, h10⟩ := H
  have hs := (h2 h hh).1
  obtain ⟨hd, hdd, -, -⟩ := hp.2.2.2 (q h) m hs hm1 hm
  refine ⟨h1, h2, h3, h4, h5, h6, fun c hc hfc => ?_, h8, h9, h10⟩
  obtain ⟨g1, g2, g3⟩ := h7 c hc hfc
  have hns : Dn (q h) = false := by
    cases hb : Dn (q h)
    · rfl
    · obtain ⟨i, i1, i2, i3⟩ := (h6 _ hs).mp hb
      have := h5 i h i2 hh i3
      omega
  dsimp only
  by_cases e : c = tn (q h) m
  · rw [if_pos e]
    have hcd : tn c m = q h := by rw [e, hdd]
    have hopc : op c m = true := by rw [e]; exact hop
    have e1 : m - 1 + 1 = m := by omega
    have hup := cn_set (n := n) (j := m - 1) (p := opD tn op Dn (q h) (m + 1) c) (q := opD tn op Dn (q h) m c) (by omega) (by unfold opD; rw [e1, hcd]; simp) (by unfold opD; rw [e1, hcd, hopc, hns]; simp) (fun i hi hne => opD_other (Or.inr (Or.inl (by omega))))
    rw [← e] at ho
    refine ⟨by omega, by rw [g2, hup]; push_cast; omega, fun m' q1 q2 q3 q4 => ?_⟩
    by_cases e2 : m' = m
    · rw [e2, hcd]; exact hodd
    · refine g3 m' q1 q2 q3 ?_
      rcases q4 with k | ⟨k1, k2⟩
      · exact Or.inl k
      · exact Or.inr ⟨k1, by omega⟩
  · rw [if_neg e]
    have key : tn c m ≠ q h := fun e2 => e (by rw [← e2, (hp.2.2.2 c m hc hm1 hm).2.1])
    refine ⟨g1, ?_, fun m' q1 q2 q3 q4 => ?_⟩
    · rw [g2]
      congr 1
      refine cn_congr (fun i hi => (opD_other ?_).symm)
      by_cases e3 : i + 1 = m
      · left; rw [e3]; exact key
      · exact Or.inr (Or.inl e3)
    · refine g3 m' q1 q2 q3 ?_
      rcases q4 with k | ⟨k1, k2⟩
      · exact Or.inl k
      · by_cases e2 : m' = m
        · rw [e2] at k1; exact absurd k1 key
        · exact Or.inr ⟨k1, by omega⟩
/-- it is settled -/
theorem CK.set {h m T : Nat} {o' : Nat → Int} (hp : Gp N n goal tn pr) (H : CK N n tn op goal h m T f o q Dn) (hh : h < T) (hm1 : 1 ≤ m) (hm : m ≤ n) (hx : ∀ j, j < T → f (q j) ≤ f (q h) + 1) (hf : f (tn (q h) m) = -1) (hop : op (tn (q h) m) m = true) (hcase : f (q h) % 2 = 0 ∨ o (tn (q h) m) = 1) (ho' : ∀ c, c ≠ tn (q h) m → o' c = o c) :
    CK N n tn op goal h (m + 1) (T + 1) (fun c => if c = tn (q h) m then f (q h) + 1 else f c) o' (fun i => if i = T then tn (q h) m else q i) Dn := by
  obtain ⟨h1, h2, h3, h4, h5, h6, h7, h8, h9, h10⟩ := H
  obtain ⟨hs, hs0⟩ := h2 h hh
  obtain ⟨hd, hdd, -, -⟩ := hp.2.2.2 (q h) m hs hm1 hm
  have tnl : ∀ c m, c < N → 1 ≤ m → m ≤ n → tn c m < N := fun c m hc q1 q2 => (hp.2.2.2 c m hc q1 q2).1
  generalize hde : tn (q h) m = d at *
  have hqd : ∀ i, i < T → q i ≠ d := fun i hi e => by
    have := (h2 i hi).2
    rw [e, hf] at this
    omega
  have hsd := hqd h hh
  have hfs : f (q h) < T := by
    rcases h3 (q h) hs with g | g
    · omega
    · exact g.2.1
  have hq' : ∀ i, i < T → (fun i => if i = T then d else q i) i = q i := fun i hi => if_neg (by omega)
  have hf' : ∀ c, c ≠ d → (fun c => if c = d then f (q h) + 1 else f c) c = f c := fun c hc => if_neg hc
  have hfd : (fun c => if c = d then f (q h) + 1 else f c) d = f (q h) + 1 := if_pos rfl
  have hqT : (fun i => if i = T then d else q i) T = d := if_pos rfl
  have hqh := hq' h hh
  have fle : ∀ c, c < N → 0 ≤ f c → f c ≤ f (q h) + 1 := fun c hc h0 => by
    rcases h3 c hc with g | ⟨-, -, i, g1, g2⟩
    · omega
    · rw [← g2]; exact hx i g1
  have hnD : Dn d = false := by
    cases hb : Dn d
    · rfl
    · obtain ⟨i, i1, i2, i3⟩ := (h6 _ hd).mp hb
      exact absurd i3 (hqd i i2)
  have hnDs : Dn (q h) = false := by
    cases hb : Dn (q h)
    · rfl
    · obtain ⟨i, i1, i2, i3⟩ := (h6 _ hs).mp hb
      have := h5 i h i2 hh i3
      omega
  obtain ⟨go1, go2, go3⟩ := h7 d hd hf
  refine ⟨?_, fun i hi => ?_, fun c hc => ?_, fun i j hij hj => ?_, fun i j hi hj hij => ?_, fun x hx2 => ?_, fun c hc hfc => ?_, fun c hc => ?_, fun c hc hc0 hc1 => ?_, fun c hc hc0 hc1 => ?_⟩
  · rw [h1]
    refine (cn_set (j := d) hd (by simp [hf]) ?_ (fun i hi hne => ?_)).symm
    · simp only [if_true]; simp; omega
    · simp only [hne, if_false]
  · by_cases e : i = T
    · subst e
      rw [hqT, hfd]; omega
    · rw [hq' i (by omega), hf' _ (hqd i (by omega))]; exact h2 i (by omega)
  · by_cases e : c = d
    · subst e
      rw [hfd]
      exact Or.inr ⟨by omega, by omega, T, by omega, hqT⟩
    · rw [hf' c e]
      rcases h3 c hc with g | ⟨g1, g2, i, g3, g4⟩
      · exact Or.inl g
      · exact Or.inr ⟨g1, by omega, i, by omega, by rw [hq' i g3]; exact g4⟩
  · by_cases e : j = T
    · subst e
      rw [hqT, hfd]
      by_cases e2 : i = j
      · subst e2; rw [hqT, hfd]; omega
      · rw [hq' i (by omega), hf' _ (hqd i (by omega))]; exact hx i (by omega)
    · rw [hq' i (by omega), hf' _ (hqd i (by omega)), hq' j (by omega), hf' _ (hqd j (by omega))]
      exact h4 i j hij (by omega)
  · by_cases e : i = T
    · by_cases e2 : j = T
      · omega
      · rw [e, hqT, hq' j (by omega)] at hij
        exact absurd hij.symm (hqd j (by omega))
    · by_cases e2 : j = T
      · rw [e2, hqT, hq' i (by omega)] at hij
        exact absurd hij (hqd i (by omega))
      · rw [hq' i (by omega), hq' j (by omega)] at hij
        exact h5 i j (by omega) (by omega) hij
  · rw [h6 x hx2]
    constructor
    · rintro ⟨i, i1, i2, i3⟩
      exact ⟨i, i1, by omega, by rw [hq' i i2]; exact i3⟩
    · rintro ⟨i, i1, i2, i3⟩
      exact ⟨i, i1, by omega, by rw [hq' i (by omega)] at i3; exact i3⟩
  · have e : c ≠ d := fun e => by rw [e, hfd] at hfc; omega
    rw [hf' c e] at hfc
    obtain ⟨g1, g2, g3⟩ := h7 c hc hfc
    have key : tn c m ≠ q h := fun e2 => e (by rw [← hde, ← e2, (hp.2.2.2 c m hc hm1 hm).2.1])
    rw [ho' c e, hqh]
    refine ⟨g1, ?_, fun m' q1 q2 q3 q4 => ?_⟩
    · rw [g2]
      congr 1
      refine cn_congr (fun i hi => (opD_other ?_).symm)
      by_cases e3 : i + 1 = m
      · left; rw [e3]; exact key
      · exact Or.inr (Or.inl e3)
    · have q5 : Dn (tn c m') = true ∨ (tn c m' = q h ∧ m' < m) := by
        rcases q4 with k | ⟨k1, k2⟩
        · exact Or.inl k
        · by_cases e2 : m' = m
          · rw [e2] at k1; exact absurd k1 key
          · exact Or.inr ⟨k1, by omega⟩
      have hne : tn c m' ≠ d := fun e2 => by
        rcases q5 with k | ⟨k1, -⟩
        · rw [e2, hnD] at k; exact absurd k (by decide)
        · exact hsd (by rw [← k1, e2])
      rw [hf' _ hne]
      exact g3 m' q1 q2 q3 q5
  · by_cases e : c = d
    · subst e
      rw [hfd]
      constructor
      · intro k; omega
      · intro k
        have := (h8 c hc).mpr k
        omega
    · rw [hf' c e]; exact h8 c hc
  · by_cases e : c = d
    · subst e
      rw [hfd] at hc1 ⊢
      refine ⟨⟨m, hm1, hm, hop, by rw [hdd, hf' _ hsd]; omega⟩, fun m' q1 q2 q3 q4 q5 => ?_⟩
      by_cases e2 : tn c m' = c
      · rw [e2, hfd] at q5 ⊢; omega
      · rw [hf' _ e2] at q4 q5 ⊢
        rcases h3 _ (tnl c m' hc q1 q2) with g | ⟨g1, g2, i, g3, g4⟩
        · omega
        · by_cases hih : i < h
          · have := go3 m' q1 q2 q3 (Or.inl ((h6 _ (tnl c m' hc q1 q2)).mpr ⟨i, hih, g3, g4⟩))
            omega
          · have := h4 h i (by omega) g3
            rw [g4] at this
            omega
    · rw [hf' c e] at hc0 hc1 ⊢
      obtain ⟨⟨m', q1, q2, q3, q4⟩, q5⟩ := h9 c hc hc0 hc1
      refine ⟨⟨m', q1, q2, q3, ?_⟩, fun m'' k1 k2 k3 k4 k5 => ?_⟩
      · have : tn c m' ≠ d := fun e2 => by rw [e2, hf] at q4; omega
        rw [hf' _ this]; exact q4
      · by_cases e2 : tn c m'' = d
        · rw [e2, hfd]
          have := fle c hc hc0
          omega
        · rw [hf' _ e2] at k4 k5 ⊢
          exact q5 m'' k1 k2 k3 k4 k5
  · by_cases e : c = d
    · subst e
      rw [hfd] at hc1 ⊢
      have ho1 : o c = 1 := by
        rcases hcase with k | k
        · omega
        · exact k
      have hall : ∀ m', 1 ≤ m' → m' ≤ n → op c m' = true → Dn (tn c m') = true ∨ (tn c m' = q h ∧ m' < m + 1) := fun m' q1 q2 q3 => by
        apply Classical.byContradiction
        intro hno
        have e1 : m - 1 + 1 = m := by omega
        have hup := cn_set (n := n) (j := m - 1) (p := opD tn op Dn (q h) (m + 1) c) (q := opD tn op Dn (q h) m c) (by omega) (by unfold opD; rw [e1, hdd]; simp) (by unfold opD; rw [e1, hdd, hop, hnDs]; simp) (fun i hi hne => opD_other (Or.inr (Or.inl (by omega))))
        have e2 : m' - 1 + 1 = m' := by omega
        have hpos : 0 < cn n (opD tn op Dn (q h) (m + 1) c) := cn_pos.mpr ⟨m' - 1, by omega, by
          unfold opD
          rw [e2, q3]
          simp only [Bool.true_and, Bool.not_eq_true', Bool.or_eq_false_iff, Bool.and_eq_false_iff, decide_eq_false_iff_not]
          refine ⟨by simpa using fun k => hno (Or.inl k), ?_⟩
          by_cases k : tn c m' = q h
          · exact Or.inr (fun k2 => hno (Or.inr ⟨k, k2⟩))
          · exact Or.inl k⟩
        omega
      refine ⟨⟨m, hm1, hm, hop, by rw [hdd, hf' _ hsd]; omega⟩, fun m' q1 q2 q3 => ?_⟩
      have hcd : tn c m' ≠ c := fun e2 => by
        rcases hall m' q1 q2 q3 with k | ⟨k, -⟩
        · rw [e2, hnD] at k; exact absurd k (by decide)
        · exact hsd (by rw [← k, e2])
      rw [hf' _ hcd]
      rcases hall m' q1 q2 q3 with k | ⟨k, k2⟩
      · have r1 := go3 m' q1 q2 q3 (Or.inl k)
        obtain ⟨i, i1, i2, i3⟩ := (h6 _ (tnl c m' hc q1 q2)).mp k
        have r2 := h4 i h (by omega) hh
        have r3 := (h2 i i2).2
        rw [i3] at r2 r3
        omega
      · rw [k]; omega
    · rw [hf' c e] at hc0 hc1 ⊢
      obtain ⟨⟨m', q1, q2, q3, q4⟩, q5⟩ := h10 c hc hc0 hc1
      refine ⟨⟨m', q1, q2, q3, ?_⟩, fun m'' k1 k2 k3 => ?_⟩
      · have : tn c m' ≠ d := fun e2 => by rw [e2, hf] at q4; omega
        rw [hf' _ this]; exact q4
      · have r := q5 m'' k1 k2 k3
        have : tn c m'' ≠ d := fun e2 => by rw [e2, hf] at r; omega
        rw [hf' _ this]; exact r
/-- the next one -/
theorem CK.next {h T : Nat} (hp : Gp N n goal tn pr) (H : CK N n tn op goal h (n + 1) T f o q Dn) (hh : h < T) : CK N n tn op goal (h + 1) 1 T f o q (fun d => Dn d || decide (d = q h)) := by
  obtain ⟨h1, h2, h3, h4, h5, h6, h7, h8, h9, h10⟩ := H
  have hs := (h2 h hh).1
  refine ⟨h1, h2, h3, h4, h5, fun d hd => ?_, fun c hc hf => ?_, h8, h9, h10⟩
  · simp only [Bool.or_eq_true, decide_eq_true_eq, h6 d hd]
    constructor
    · rintro (⟨i, i1, i2, i3⟩ | k)
      · exact ⟨i, by omega, i2, i3⟩
      · exact ⟨h, by omega, hh, k.symm⟩
    · rintro ⟨i, i1, i2, i3⟩
      by_cases e : i = h
      · subst e; exact Or.inr i3.symm
      · exact Or.inl ⟨i, by omega, i2, i3⟩
  · obtain ⟨g1, g2, g3⟩ := h7 c hc hf
    refine ⟨g1, ?_, fun m q1 q2 q3 q4 => ?_⟩
    · rw [g2]
      congr 1
      refine cn_congr (fun i hi => ?_)
      unfold opD
      have e1 : decide (i + 1 < n + 1) = true := by simp; omega
      have e2 : decide (i + 1 < 1) = false := by simp
      rw [e1, e2]; simp
    · refine g3 m q1 q2 q3 ?_
      rcases q4 with k | ⟨-, k2⟩
      · simp only [Bool.or_eq_true, decide_eq_true_eq] at k
        rcases k with k | k
        · exact Or.inl k
        · exact Or.inr ⟨k, by omega⟩
      · omega
theorem CK.fin {T : Nat} (hp : Gp N n goal tn pr) (H : CK N n tn op goal T 1 T f o q Dn) : IsK N n tn op goal f := by
  obtain ⟨h1, h2, h3, h4, h5, h6, h7, h8, h9, h10⟩ := H
  have hTN : T ≤ N := by rw [h1]; exact cn_le
  have hN := hp.2.1
  refine ⟨fun c hc => ?_, h8, h9, h10, fun c hc hf => ?_⟩
  · rcases h3 c hc with g | g
    · omega
    · have := g.1; have := g.2.1; omega
  · obtain ⟨g1, g2, g3⟩ := h7 c hc hf
    have known : ∀ m, 1 ≤ m → m ≤ n → f (tn c m) ≠ -1 → Dn (tn c m) = true := fun m q1 q2 q3 => by
      rcases h3 _ (hp.2.2.2 c m hc q1 q2).1 with g | ⟨-, -, i, i1, i2⟩
      · exact absurd g q3
      · exact (h6 _ (hp.2.2.2 c m hc q1 q2).1).mpr ⟨i, i1, i1, i2⟩
    refine ⟨?_, fun m q1 q2 q3 => ?_⟩
    · obtain ⟨i, hi, hb⟩ := cn_pos.mp (show 0 < cn n (opD tn op Dn (q T) 1 c) by omega)
      unfold opD at hb
      have e2 : decide (i + 1 < 1) = false := by simp
      rw [e2] at hb
      simp only [Bool.and_false, Bool.or_false, Bool.and_eq_true, Bool.not_eq_true'] at hb
      refine ⟨i + 1, by omega, by omega, hb.1, ?_⟩
      apply Classical.byContradiction
      intro k
      have := known (i + 1) (by omega) (by omega) k
      rw [hb.2] at this
      exact absurd this (by decide)
    · by_cases k : f (tn c m) = -1
      · exact Or.inl k
      · exact Or.inr (g3 m q1 q2 q3 (Or.inl (known m q1 q2 k)))
end COOKS
