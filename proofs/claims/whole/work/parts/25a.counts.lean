/-! ===== level 2: what the class reads off a row ===== -/
/-- the greatest of a row, 0 at the least -/
def mx : Nat → (Nat → Nat) → Nat
  | 0, _ => 0
  | n + 1, f => max (mx n f) (f n)
theorem mx_ge {n i : Nat} {f : Nat → Nat} (h : i < n) : f i ≤ mx n f := by
  induction n with
  | zero => omega
  | succ n ih =>
    rw [mx]
    by_cases e : i = n
    · subst e; omega
    · have := ih (by omega); omega
theorem mx_at {n : Nat} {f : Nat → Nat} : mx n f = 0 ∨ ∃ i, i < n ∧ f i = mx n f := by
  induction n with
  | zero => exact Or.inl rfl
  | succ n ih =>
    rw [mx]
    by_cases e : mx n f ≤ f n
    · exact Or.inr ⟨n, by omega, by omega⟩
    · rcases ih with q | ⟨i, h1, h2⟩
      · omega
      · exact Or.inr ⟨i, by omega, by omega⟩
theorem mx_le {n b : Nat} {f : Nat → Nat} (h : ∀ i, i < n → f i ≤ b) : mx n f ≤ b := by
  rcases mx_at (n := n) (f := f) with q | ⟨i, h1, h2⟩
  · omega
  · have := h i h1; omega
theorem mx_congr {n : Nat} {f g : Nat → Nat} (h : ∀ i, i < n → f i = g i) : mx n f = mx n g := by
  induction n with
  | zero => rfl
  | succ n ih => rw [mx, mx, ih (fun i hi => h i (by omega)), h n (by omega)]
theorem mx_perm {n : Nat} {π : Nat → Nat} {f : Nat → Nat} (h1 : ∀ i, i < n → π i < n) (h2 : ∀ i j, i < n → j < n → π i = π j → i = j) : mx n (fun i => f (π i)) = mx n f := by
  apply Nat.le_antisymm
  · exact mx_le (fun i hi => mx_ge (h1 i hi))
  · refine mx_le (fun i hi => ?_)
    obtain ⟨j, hj, e⟩ := hit_all h1 h2 i hi
    have := mx_ge (n := n) (f := fun i => f (π i)) hj
    rw [e] at this
    exact this
/-- the first from m on, of so many, that is so; -1: none -/
def lst (p : Nat → Bool) : Nat → Nat → Int
  | 0, _ => -1
  | f + 1, m => if p m = true then (m : Int) else lst p f (m + 1)
theorem lst_congr {p q : Nat → Bool} : ∀ {f m}, (∀ i, m ≤ i → i < m + f → p i = q i) → lst p f m = lst q f m
  | 0, _, _ => rfl
  | f + 1, m, h => by rw [lst, lst, h m (by omega) (by omega), lst_congr (fun i h1 h2 => h i (by omega) (by omega))]
theorem lst_some {p : Nat → Bool} : ∀ {f m i}, m ≤ i → i < m + f → p i = true → ∃ j : Nat, lst p f m = j ∧ m ≤ j ∧ j < m + f ∧ p j = true
  | 0, m, i, h1, h2, _ => absurd h2 (by omega)
  | f + 1, m, i, h1, h2, h3 => by
    rw [lst]
    by_cases e : p m = true
    · rw [if_pos e]; exact ⟨m, rfl, by omega, by omega, e⟩
    · rw [if_neg e]
      have : m ≠ i := fun q => e (by rw [q]; exact h3)
      obtain ⟨j, g1, g2, g3, g4⟩ := lst_some (f := f) (m := m + 1) (i := i) (by omega) (by omega) h3
      exact ⟨j, g1, by omega, by omega, g4⟩
theorem lst_none {p : Nat → Bool} : ∀ {f m}, (∀ i, m ≤ i → i < m + f → p i = false) → lst p f m = -1
  | 0, _, _ => rfl
  | f + 1, m, h => by rw [lst, h m (by omega) (by omega), if_neg (by decide)]; exact lst_none (fun i h1 h2 => h i (by omega) (by omega))
section RROW
variable {N n goal : Nat} {tn : Nat → Nat → Nat} {op : Nat → Nat → Bool} {pr : Nat → Nat → Nat} {f : Nat → Int} {μ : Mem} {k : Nat}
/-- the row of a Steps is f -/
def Rw (N k : Nat) (f : Nat → Int) (μ : Mem) : Prop := ∀ c, c < N → μ (k + 1) c = f c ∧ -1 ≤ f c ∧ f c < 4000
theorem rw_at {c : Nat} (hk : isSt k) (hN : N ≤ 3840) (h : Rw N k f μ) (hc : c < N) : fX11_at (k + 1) (c : Int) μ = f c := by
  rw [at_n c rfl (al_St hk) (by omega) (by omega)]; exact (h c hc).1
theorem stacksAt_ok {a : Int} (hk : isSt k) (hp : Gp N n goal tn pr) (hg : Gr N n goal tn op pr μ) (h : Rw N k f μ) : fX8_stacksAt k a μ = some (cn N (fun c => decide (f c = w32 a)) : Int) := by
  have hN := hp.2.1
  apply Ok_val
  unfold fX8_stacksAt
  refine Ok.bind ?_
  refine loop_FU N (fun (i : Nat) (s : Int × Int) => s.1 = ((cn i (fun c => decide (f c = w32 a)) : Nat) : Int) ∧ s.2 = (i : Int)) 0 ⟨rfl, rfl⟩ (by omega) (by omega) ?_ ?_
  · rintro i ⟨x, y⟩ hi ⟨e1, e2⟩
    dsimp only at e1 e2 ⊢
    subst e1 e2
    have hb := (h i hi).2
    unfold fX8_stacksAt_b4
    simp only [lt]
    rw [hg.2.2.1, w32_n (a := i) (by omega), w32_n (a := N) (by omega), if_pos (by omega), rw_at hk hN h hi, w32_eq (x := f i) (by omega) (by omega), Ok_some]
    refine ⟨?_, by push_cast; rfl⟩
    dsimp only
    rw [cn_succ]
    by_cases e : f i = w32 a
    · rw [if_pos e, if_pos (by simp [e])]; push_cast; rfl
    · rw [if_neg e, if_neg (by simp [e])]; rfl
  · rintro ⟨x, y⟩ ⟨e1, e2⟩
    dsimp only at e1 e2 ⊢
    subst e1 e2
    unfold fX8_stacksAt_b4
    rw [hg.2.2.1, w32_n (a := N) (by omega), if_neg (by omega), Ok_some]
    show Ok _ _
    rw [Ok_some]
theorem most_ok (hk : isSt k) (hp : Gp N n goal tn pr) (hg : Gr N n goal tn op pr μ) (h : Rw N k f μ) : fX8_most k μ = some (mx N (fun c => (f c).toNat) : Int) := by
  have hN := hp.2.1
  have hmb : ∀ i, i ≤ N → mx i (fun c => (f c).toNat) ≤ 4000 := fun i hi => mx_le (fun j hj => by have := (h j (by omega)).2; omega)
  apply Ok_val
  unfold fX8_most
  refine Ok.bind ?_
  refine loop_FU N (fun (i : Nat) (s : Int × Int) => s.1 = ((mx i (fun c => (f c).toNat) : Nat) : Int) ∧ s.2 = (i : Int)) 0 ⟨rfl, rfl⟩ (by omega) (by omega) ?_ ?_
  · rintro i ⟨x, y⟩ hi ⟨e1, e2⟩
    dsimp only at e1 e2 ⊢
    subst e1 e2
    have hb := (h i hi).2
    have hm := hmb i (by omega)
    unfold fX8_most_b4
    simp only [lt]
    rw [hg.2.2.1, w32_n (a := i) (by omega), w32_n (a := N) (by omega), if_pos (by omega), rw_at hk hN h hi, Ok_some]
    refine ⟨?_, by push_cast; rfl⟩
    dsimp only
    rw [mx]
    unfold imax
    rw [w32_eq (x := f i) (by omega) (by omega), w32_n (by omega)]
    by_cases e : ((mx i (fun c => (f c).toNat) : Nat) : Int) < f i
    · rw [if_pos e]; omega
    · rw [if_neg e]; omega
  · rintro ⟨x, y⟩ ⟨e1, e2⟩
    dsimp only at e1 e2 ⊢
    subst e1 e2
    unfold fX8_most_b4
    rw [hg.2.2.1, w32_n (a := N) (by omega), if_neg (by omega), Ok_some]
    show Ok _ _
    rw [Ok_some]
theorem within_ok {a : Int} (hk : isSt k) (hp : Gp N n goal tn pr) (hg : Gr N n goal tn op pr μ) (h : Rw N k f μ) : fX8_stacksWithin k a μ = some (cn N (fun c => decide (0 ≤ f c) && decide (f c ≤ w32 a)) : Int) := by
  have hN := hp.2.1
  apply Ok_val
  unfold fX8_stacksWithin
  refine Ok.bind ?_
  refine loop_FU N (fun (i : Nat) (s : Int × Int) => s.1 = ((cn i (fun c => decide (0 ≤ f c) && decide (f c ≤ w32 a)) : Nat) : Int) ∧ s.2 = (i : Int)) 0 ⟨rfl, rfl⟩ (by omega) (by omega) ?_ ?_
  · rintro i ⟨x, y⟩ hi ⟨e1, e2⟩
    dsimp only at e1 e2 ⊢
    subst e1 e2
    have hb := (h i hi).2
    unfold fX8_stacksWithin_b4
    simp only [lt]
    rw [hg.2.2.1, w32_n (a := i) (by omega), w32_n (a := N) (by omega), if_pos (by omega), rw_at hk hN h hi, w32_eq (x := f i) (by omega) (by omega), Ok_some]
    refine ⟨?_, by push_cast; rfl⟩
    dsimp only
    rw [cn_succ]
    by_cases e0 : f i < 0
    · have : ¬ 0 ≤ f i := by omega
      rw [if_pos e0, if_neg (by simp [this])]; rfl
    · have e1 : 0 ≤ f i := by omega
      rw [if_neg e0]
      by_cases e : f i ≤ w32 a
      · rw [if_pos e, if_pos (by simp [e, e1])]; push_cast; rfl
      · rw [if_neg e, if_neg (by simp [e])]; rfl
  · rintro ⟨x, y⟩ ⟨e1, e2⟩
    dsimp only at e1 e2 ⊢
    subst e1 e2
    unfold fX8_stacksWithin_b4
    rw [hg.2.2.1, w32_n (a := N) (by omega), if_neg (by omega), Ok_some]
    show Ok _ _
    rw [Ok_some]
/-- by which turn it is one nearer -/
def nxB (tn : Nat → Nat → Nat) (op : Nat → Nat → Bool) (f : Nat → Int) (c m : Nat) : Bool := op c m && decide (f (tn c m) = f c - 1)
def ftI (n : Nat) (tn : Nat → Nat → Nat) (op : Nat → Nat → Bool) (f : Nat → Int) (c : Nat) : Int := if 0 < f c then lst (nxB tn op f c) n 1 else -1
theorem nearer_ok {c m : Nat} (hk : isSt k) (hp : Gp N n goal tn pr) (hg : Gr N n goal tn op pr μ) (h : Rw N k f μ) (hc : c < N) (hm1 : 1 ≤ m) (hm : m ≤ n) : fX8_isNearer k (c : Int) (m : Int) μ = nxB tn op f c m := by
  have hN := hp.2.1
  obtain ⟨h1, h2, -⟩ := hg.2.2.2 c m hc hm1 hm
  obtain ⟨hd, -, -, -⟩ := hp.2.2.2 c m hc hm1 hm
  have b1 := (h c hc).2
  have b2 := (h _ hd).2
  unfold fX8_isNearer nxB
  simp only [lt]
  rw [h1, h2, rw_at hk hN h hc, rw_at hk hN h hd, w32_eq (x := f (tn c m)) (by omega) (by omega), w32_eq (x := f c - 1) (by omega) (by omega)]
  by_cases ho : op c m = true
  · rw [if_pos ho, ho, Bool.true_and]
    by_cases e : f (tn c m) = f c - 1
    · rw [if_pos e]; simp [e]
    · rw [if_neg e]; simp [e]
  · have ho2 : op c m = false := by simpa using ho
    rw [if_neg ho, ho2, Bool.false_and]
theorem firstTurn_ok {c : Nat} (hk : isSt k) (hp : Gp N n goal tn pr) (hg : Gr N n goal tn op pr μ) (h : Rw N k f μ) (hc : c < N) : fX8_firstTurn k (c : Int) μ = some (ftI n tn op f c) := by
  have hN := hp.2.1
  have hn := hp.1
  have b1 := (h c hc).2
  apply Ok_val
  unfold fX8_firstTurn
  simp only [lt]
  rw [rw_at hk hN h hc]
  refine Ok.imp (loop_F (T := Nat × Nat) (fun t => ((t.2 : Nat) : Int)) (fun t => t.1) (fun t => t.1 + t.2 = n + 1 ∧ 1 ≤ t.2) (fun t r => r = if 0 < f c then lst (nxB tn op f c) t.1 t.2 else -1) (n, 1) ⟨rfl, Nat.le_refl _⟩ (by show n < _; omega) ?_) (fun r hr => hr)
  rintro ⟨x, m⟩ ⟨hi, hm1⟩
  dsimp only at hi hm1 ⊢
  unfold fX8_firstTurn_b11
  rw [w32_eq (x := f c) (by omega) (by omega)]
  by_cases h0 : 0 < f c
  · rw [if_neg (by omega)]
    simp only [if_pos h0]
    rw [hg.1, w32_n (a := m) (by omega), w32_n (a := n) (by omega)]
    cases x with
    | zero =>
      rw [if_neg (by omega), Ok_some]
      rfl
    | succ x =>
      rw [if_pos (by omega), nearer_ok hk hp hg h hc hm1 (by omega)]
      rw [lst]
      by_cases hx : nxB tn op f c m = true
      · rw [if_pos hx, Ok_some]
        dsimp only [Sum.elim]
        rw [if_pos hx]
      · rw [if_neg hx, Ok_some]
        refine ⟨(x, m + 1), by push_cast; rfl, ⟨by dsimp only; omega, by dsimp only; omega⟩, by dsimp only; omega, fun r hr => ?_⟩
        rw [if_neg hx]; exact hr
  · rw [if_pos (by omega), Ok_some]
    simp only [if_neg h0]
    rfl
end RROW
