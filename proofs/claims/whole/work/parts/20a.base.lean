/-! ===== level 2: tools ===== -/
theorem Ok_some {α : Type} {a : α} {P : α → Prop} : Ok (some a) P = P a := propext ⟨fun ⟨_, h, p⟩ => by cases h; exact p, fun h => ⟨a, rfl, h⟩⟩
theorem Ok_val {α : Type} {x : Option α} {a : α} (h : Ok x (fun o => o = a)) : x = some a := by
  obtain ⟨b, e, rfl⟩ := h; exact e
theorem Ok_of {α : Type} {x : Option α} {a : α} (h : x = some a) : Ok x (fun o => o = a) := ⟨a, h, rfl⟩
/-- a loop as a function of a plain state -/
theorem loop_fn {S R T : Type} {body : S → Option (S ⊕ R)} (emb : T → S) (m : T → Nat) (I : T → Prop) (Q : T → R → Prop) (hs : ∀ t, I t → Ok (body (emb t)) (Sum.elim (fun s => ∃ t', s = emb t' ∧ I t' ∧ m t' < m t ∧ ∀ r, Q t' r → Q t r) (Q t))) : ∀ (fuel : Nat) (t : T), m t < fuel → I t → Ok (loopN body fuel (emb t)) (Q t)
  | 0, t => fun h _ => absurd h (by omega)
  | fuel + 1, t => fun h h3 => by
    obtain ⟨o, e, ho⟩ := hs t h3
    unfold loopN
    rw [e]
    match o, ho with
    | .inl s2, ⟨t', e2, h4, h5, h6⟩ =>
      subst e2
      exact (loop_fn emb m I Q hs fuel t' (by omega) h4).imp h6
    | .inr r, ho => exact ⟨r, rfl, ho⟩
theorem loop_F {S R T : Type} {body : S → Option (S ⊕ R)} (emb : T → S) (m : T → Nat) (I : T → Prop) (Q : T → R → Prop) (t : T) (hI : I t) (hm : m t < 100000000) (hs : ∀ t, I t → Ok (body (emb t)) (Sum.elim (fun s => ∃ t', s = emb t' ∧ I t' ∧ m t' < m t ∧ ∀ r, Q t' r → Q t r) (Q t))) : Ok (loopN body FU (emb t)) (Q t) :=
  loop_fn emb m I Q hs FU t (by show m t < 1000000000; omega) hI
/-- a loop that keeps something till it ends -/
theorem loop_I {S R : Type} {body : S → Option (S ⊕ R)} {Q : R → Prop} (s : S) (m : S → Nat) (I : S → Prop) (h0 : I s) (hm : m s < 100000000) (hs : ∀ s, I s → Ok (body s) (Sum.elim (fun s2 => I s2 ∧ m s2 < m s) Q)) : Ok (loopN body FU s) Q :=
  loop_ok m I hs FU s (by show m s < 1000000000; omega) h0
theorem w32_1 : w32 1 = 1 := by decide
theorem w32_2 : w32 2 = 2 := by decide
theorem w32_3 : w32 3 = 3 := by decide
theorem w32_m1 : w32 (-1) = -1 := by decide
theorem btf {c : Prop} [Decidable c] : ((if c then true else false) = true) = c := by
  by_cases h : c
  · simp [h]
  · simp [h]
theorem bft {c : Prop} [Decidable c] : ((if c then false else true) = true) = ¬ c := by
  by_cases h : c
  · simp [h]
  · simp [h]
/-! rows -/
theorem at_n {row L : Nat} {i : Int} {μ : Mem} (j : Nat) (hi : i = (j : Int)) (hL : alen row = L) (hj : j < L) (hb : L ≤ 100000) : fX11_at row i μ = μ row j := by
  subst hi
  unfold fX11_at lt
  rw [hL, w32_n (by omega), w32_n (by omega), if_neg (by omega), if_pos (by omega), Int.toNat_natCast]
theorem at_out {row L : Nat} {i : Int} {μ : Mem} (hL : alen row = L) (hb : L ≤ 100000) (hi : w32 i < 0 ∨ (L : Int) ≤ w32 i) : fX11_at row i μ = -1 := by
  unfold fX11_at lt
  rw [hL, w32_n (a := L) (by omega)]
  rcases hi with h | h
  · rw [if_pos h]
  · rw [if_neg (by omega), if_neg (by omega)]
theorem put_n {row L : Nat} {i v : Int} {μ : Mem} (j : Nat) (hi : i = (j : Int)) (hL : alen row = L) (hj : j < L) (hb : L ≤ 100000) : fX11_put row i v μ = upd2 μ row j v := by
  subst hi
  unfold fX11_put lt
  rw [hL, w32_n (by omega), w32_n (by omega), if_neg (by omega), if_pos (by omega), Int.toNat_natCast]
theorem at_same {row : Nat} {i : Int} {μ μ' : Mem} (h : μ' row = μ row) : fX11_at row i μ' = fX11_at row i μ := by
  unfold fX11_at lt
  rw [h]
theorem upd2_at {μ : Mem} {k i : Nat} {v : Int} : upd2 μ k i v k i = v := by simp [upd2]
theorem upd2_nj {μ : Mem} {k i j : Nat} {v : Int} (h : j ≠ i) : upd2 μ k i v k j = μ k j := by simp [upd2, h]
theorem fac_l : ∀ k : Nat, k < 6 → factL.getD k 0 = ([1, 1, 2, 6, 24, 120] : List Int).getD k 0 := by decide
/-! sums -/
def sm : Nat → (Nat → Nat) → Nat
  | 0, _ => 0
  | n + 1, f => sm n f + f n
theorem sm_congr {n : Nat} {f g : Nat → Nat} (h : ∀ i, i < n → f i = g i) : sm n f = sm n g := by
  induction n with
  | zero => rfl
  | succ n ih => rw [sm, sm, ih (fun i hi => h i (by omega)), h n (by omega)]
theorem sm_le {n : Nat} {f g : Nat → Nat} (h : ∀ i, i < n → f i ≤ g i) : sm n f ≤ sm n g := by
  induction n with
  | zero => exact Nat.le_refl _
  | succ n ih => rw [sm, sm]; have := ih (fun i hi => h i (by omega)); have := h n (by omega); omega
theorem sm_add {n : Nat} {f g : Nat → Nat} : sm n (fun i => f i + g i) = sm n f + sm n g := by
  induction n with
  | zero => rfl
  | succ n ih => rw [sm, sm, sm, ih]; omega
theorem sm_zero {n : Nat} {f : Nat → Nat} (h : ∀ i, i < n → f i = 0) : sm n f = 0 := by
  induction n with
  | zero => rfl
  | succ n ih => rw [sm, ih (fun i hi => h i (by omega)), h n (by omega)]
theorem sm_mul {n a : Nat} {f : Nat → Nat} : sm n (fun i => a * f i) = a * sm n f := by
  induction n with
  | zero => rfl
  | succ n ih => rw [sm, sm, ih, Nat.mul_add]
/-- a sum in which one term is another -/
theorem sm_upd {n j : Nat} {f g : Nat → Nat} (hj : j < n) (h : ∀ i, i < n → i ≠ j → f i = g i) : sm n f + g j = sm n g + f j := by
  induction n with
  | zero => omega
  | succ n ih =>
    rw [sm, sm]
    by_cases hjn : j = n
    · subst hjn
      rw [sm_congr (f := f) (g := g) (fun i hi => h i (by omega) (by omega))]; omega
    · have := ih (by omega) (fun i hi hne => h i (by omega) hne)
      have := h n (by omega) (fun e => hjn e.symm)
      omega
theorem sm_one {n j : Nat} {f : Nat → Nat} (hj : j < n) (h : ∀ i, i < n → i ≠ j → f i = 0) : sm n f = f j := by
  have := sm_upd (f := f) (g := fun _ => 0) hj (fun i hi hne => h i hi hne)
  have h2 : sm n (fun _ => 0) = 0 := sm_zero (fun _ _ => rfl)
  simp only [h2] at this
  omega
theorem sm_pos {n j : Nat} {f : Nat → Nat} (hj : j < n) : f j ≤ sm n f := by
  induction n with
  | zero => omega
  | succ n ih =>
    rw [sm]
    by_cases hjn : j = n
    · subst hjn; omega
    · have := ih (by omega); omega
theorem sm_comm {n m : Nat} {f : Nat → Nat → Nat} : sm n (fun i => sm m (fun j => f i j)) = sm m (fun j => sm n (fun i => f i j)) := by
  induction n with
  | zero => rw [sm]; exact (sm_zero (fun _ _ => rfl)).symm
  | succ n ih => rw [sm, ih, ← sm_add]; exact sm_congr (fun j _ => by rw [sm])
/-- how many below n are so -/
def cn (n : Nat) (p : Nat → Bool) : Nat := sm n (fun i => if p i = true then 1 else 0)
theorem cn_le {n : Nat} {p : Nat → Bool} : cn n p ≤ n := by
  unfold cn
  induction n with
  | zero => exact Nat.le_refl _
  | succ n ih => rw [sm]; split <;> omega
theorem cn_mono {n : Nat} {p q : Nat → Bool} (h : ∀ i, i < n → p i = true → q i = true) : cn n p ≤ cn n q :=
  sm_le (fun i hi => by
    by_cases hp : p i = true
    · rw [if_pos hp, if_pos (h i hi hp)]; exact Nat.le_refl _
    · rw [if_neg hp]; exact Nat.zero_le _)
theorem cn_congr {n : Nat} {p q : Nat → Bool} (h : ∀ i, i < n → p i = q i) : cn n p = cn n q := sm_congr (fun i hi => by rw [h i hi])
/-- one more is so -/
theorem cn_set {n j : Nat} {p q : Nat → Bool} (hj : j < n) (hp : p j = false) (hq : q j = true) (h : ∀ i, i < n → i ≠ j → p i = q i) : cn n q = cn n p + 1 := by
  have := sm_upd (n := n) (j := j) (f := fun i => if p i = true then 1 else 0) (g := fun i => if q i = true then 1 else 0) hj (fun i hi hne => by simp only [h i hi hne])
  simp only [hp, hq] at this
  unfold cn
  simp at this ⊢
  omega
theorem cn_lt {n j : Nat} {p q : Nat → Bool} (hj : j < n) (hp : p j = false) (hq : q j = true) (h : ∀ i, i < n → p i = true → q i = true) : cn n p + 1 ≤ cn n q := by
  have h1 := cn_set (n := n) (j := j) (p := p) (q := fun i => if i = j then true else p i) hj hp (by simp) (fun i _ hne => by simp [hne])
  have h2 := cn_mono (n := n) (p := fun i => if i = j then true else p i) (q := q) (fun i hi hp2 => by
    by_cases e : i = j
    · subst e; exact hq
    · simp only [e, if_false] at hp2; exact h i hi hp2)
  omega
theorem no_inj : ∀ (n : Nat) (π : Nat → Nat), (∀ i, i < n + 1 → π i < n) → (∀ i j, i < n + 1 → j < n + 1 → π i = π j → i = j) → False
    | 0, π, h1, _ => absurd (h1 0 (by omega)) (by omega)
    | n + 1, π, h1, h2 => no_inj n (fun i => if π i = n then π (n + 1) else π i) (fun i hi => by
        have a1 := h1 i (by omega)
        have a2 := h1 (n + 1) (by omega)
        by_cases e : π i = n
        · simp only [e, if_true]
          by_cases e2 : π (n + 1) = n
          · have := h2 i (n + 1) (by omega) (by omega) (by omega); omega
          · omega
        · simp only [e, if_false]; omega) (fun i j hi hj e => by
        by_cases e1 : π i = n
        · by_cases e2 : π j = n
          · exact h2 i j (by omega) (by omega) (by omega)
          · simp only [e1, if_true, e2, if_false] at e
            have := h2 (n + 1) j (by omega) (by omega) e; omega
        · by_cases e2 : π j = n
          · simp only [e1, if_false, e2, if_true] at e
            have := h2 i (n + 1) (by omega) (by omega) e; omega
          · simp only [e1, if_false, e2] at e
            exact h2 i j (by omega) (by omega) e)
/-! numbering anew does not change a sum -/
theorem sm_perm : ∀ (n : Nat) (π : Nat → Nat) (f : Nat → Nat), (∀ i, i < n → π i < n) → (∀ i j, i < n → j < n → π i = π j → i = j) → sm n (fun i => f (π i)) = sm n f
  | 0, _, _ => fun _ _ => rfl
  | n + 1, π, f => fun h1 h2 => by
    by_cases hn : ∃ k, k < n + 1 ∧ π k = n
    · obtain ⟨k, hk, ek⟩ := hn
      have ih := sm_perm n (fun i => if i = k then π n else π i) f (fun i hi => by
        have a1 := h1 i (by omega)
        have a2 := h1 n (by omega)
        by_cases e : i = k
        · simp only [e, if_true]
          by_cases e2 : π n = n
          · have := h2 n k (by omega) hk (by omega); omega
          · omega
        · simp only [e, if_false]
          by_cases e2 : π i = n
          · have := h2 i k (by omega) hk (by omega); omega
          · omega) (fun i j hi hj e => by
        by_cases e1 : i = k
        · by_cases e2 : j = k
          · omega
          · simp only [e1, if_true, e2, if_false] at e
            have := h2 n j (by omega) (by omega) e; omega
        · by_cases e2 : j = k
          · simp only [e1, if_false, e2, if_true] at e
            have := h2 i n (by omega) (by omega) e; omega
          · simp only [e1, if_false, e2] at e
            exact h2 i j (by omega) (by omega) e)
      by_cases hkn : k = n
      · subst hkn
        rw [sm, sm, ek, ← ih]
        exact congrArg (· + f k) (sm_congr (fun i hi => by
          have hne : i ≠ k := by omega
          rw [if_neg hne]))
      · have h3 := sm_upd (n := n) (j := k) (f := fun i => f (π i)) (g := fun i => f (if i = k then π n else π i)) (by omega) (fun i hi hne => by simp only [hne, if_false])
        simp only [if_true, ek] at h3
        simp only [sm]
        omega
    · exfalso
      have h3 : ∀ i, i < n + 1 → π i < n := fun i hi => by
        have := h1 i hi
        by_cases e : π i = n
        · exact absurd ⟨i, hi, e⟩ hn
        · omega
      exact no_inj n π h3 h2
theorem cn_perm {n : Nat} {π : Nat → Nat} {p : Nat → Bool} (h1 : ∀ i, i < n → π i < n) (h2 : ∀ i j, i < n → j < n → π i = π j → i = j) : cn n (fun i => p (π i)) = cn n p := sm_perm n π (fun i => if p i = true then 1 else 0) h1 h2
/-- what hits no place twice hits each place -/
theorem hit_all {n : Nat} {π : Nat → Nat} (h1 : ∀ i, i < n → π i < n) (h2 : ∀ i j, i < n → j < n → π i = π j → i = j) : ∀ k, k < n → ∃ i, i < n ∧ π i = k := by
  intro k hk
  have h := cn_perm (n := n) (π := π) (p := fun i => i == k) h1 h2
  have h3 : cn n (fun i => i == k) = 1 := by
    unfold cn
    rw [sm_one hk (fun i _ hne => by simp [hne])]; simp
  by_cases hx : ∃ i, i < n ∧ π i = k
  · exact hx
  · exfalso
    have h4 : cn n (fun i => π i == k) = 0 := by
      unfold cn
      exact sm_zero (fun i hi => by
        have : ¬ π i = k := fun e => hx ⟨i, hi, e⟩
        simp [this])
    omega
