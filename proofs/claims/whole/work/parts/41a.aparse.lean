/-! ===== level 2: what an expression is read as ===== -/
section APARSE
variable {tx : Nat → Nat} {L : Nat}
abbrev tK (tx : Nat → Nat) (L j : Nat) : Nat := tKd tx L (tSt tx L j)
def isS (tx : Nat → Nat) (L j ch : Nat) : Bool := decide (tK tx L j = 3) && decide (tx (tSt tx L j) = ch)
def isW (tx : Nat → Nat) (L j i : Nat) : Bool := decide (tK tx L j = 1) && decide (idx (tWd tx L (tSt tx L j)) = i)
def isFa (tx : Nat → Nat) (L j : Nat) : Bool := decide (tK tx L j = 1) && decide (15 ≤ idx (tWd tx L (tSt tx L j)))
def er (tx : Nat → Nat) (L kind j : Nat) : Nat := kind + 16 * tSt tx L j
abbrev PSt : Type := Nat × List (Nat × Nat)
abbrev PRz : Type := PSt ⊕ Nat
def bnd (r : PRz) (f : PSt → PRz) : PRz := match r with
  | .inl s => f s
  | .inr e => .inr e
def psh (o : Nat × Nat) (s : PSt) : PSt := (s.1, o :: s.2)
/-- products -/
def aPL (tx : Nat → Nat) (L : Nat) (rp : PSt → PRz) : Nat → PSt → PRz
  | 0, s => .inl s
  | f + 1, s => if isS tx L s.1 42 = true then bnd (rp (s.1 + 1, s.2)) (fun t => aPL tx L rp f (psh (6, 0) t)) else .inl s
def aProd (tx : Nat → Nat) (L : Nat) (rp : PSt → PRz) (s : PSt) : PRz := bnd (rp s) (aPL tx L rp (L + 1))
def aSL (tx : Nat → Nat) (L : Nat) (rp : PSt → PRz) : Nat → PSt → PRz
  | 0, s => .inl s
  | f + 1, s => if (isS tx L s.1 43 || isS tx L s.1 45) = true then bnd (aProd tx L rp (s.1 + 1, s.2)) (fun t => aSL tx L rp f (psh (if isS tx L s.1 43 = true then 4 else 5, 0) t)) else .inl s
def aSum (tx : Nat → Nat) (L : Nat) (rp : PSt → PRz) (s : PSt) : PRz := bnd (aProd tx L rp s) (aSL tx L rp (L + 1))
def aTest (tx : Nat → Nat) (L : Nat) (rp : PSt → PRz) (s : PSt) : PRz := bnd (aSum tx L rp s) (fun s => if (isS tx L s.1 60 || isS tx L s.1 61) = true then bnd (aSum tx L rp (s.1 + 1, s.2)) (fun t => .inl (psh (if isS tx L s.1 60 = true then 7 else 8, 0) t)) else .inl s)
def aWL (tx : Nat → Nat) (L : Nat) (rp : PSt → PRz) : Nat → PSt → PRz
  | 0, s => .inl s
  | f + 1, s => if (isW tx L s.1 13 || isW tx L s.1 14) = true then bnd (aTest tx L rp (s.1 + 1, s.2)) (fun t => aWL tx L rp f (psh (if isW tx L s.1 13 = true then 9 else 10, 0) t)) else .inl s
def aWhole (tx : Nat → Nat) (L : Nat) (rp : PSt → PRz) (s : PSt) : PRz := bnd (aTest tx L rp s) (aWL tx L rp (L + 1))
def aPart (tx : Nat → Nat) (L : Nat) (rp : Nat → PSt → PRz) (d : Nat) (s : PSt) : PRz :=
  if (isW tx L s.1 12 || isS tx L s.1 40 || decide (tK tx L s.1 = 2) || isFa tx L s.1) = true then
    (if d < 5 then
      (if isS tx L s.1 40 = true then bnd (aWhole tx L (rp (d + 1)) (s.1 + 1, s.2)) (fun t => if isS tx L t.1 41 = true then .inl (t.1 + 1, t.2) else .inr (er tx L 1 t.1))
      else if isW tx L s.1 12 = true then bnd (rp (d + 1) (s.1 + 1, s.2)) (fun t => .inl (psh (3, 0) t))
      else if tK tx L s.1 = 2 then .inl (s.1 + 1, (1, tNm tx L (tSt tx L s.1)) :: s.2)
      else .inl (s.1 + 1, (2, idx (tWd tx L (tSt tx L s.1)) - 15) :: s.2))
    else .inr (er tx L 5 s.1))
  else .inr (er tx L 1 s.1)
def aPN (tx : Nat → Nat) (L : Nat) : Nat → Nat → PSt → PRz
  | 0, _, _ => .inr 1
  | N + 1, d, s => aPart tx L (aPN tx L N) d s
/-- what is so of every reading -/
def Gd (tx : Nat → Nat) (L : Nat) (b : Nat) (s : PSt) (r : PRz) : Prop := match r with
  | .inl t => s.1 + b ≤ t.1 ∧ Rch tx L t.1 ∧ t.2.length + s.1 ≤ s.2.length + t.1 ∧ ∃ q, t.2 = q ++ s.2
  | .inr e => e ≠ 0 ∧ (L ≤ 1000 → e < 20000)
def GdF (tx : Nat → Nat) (L : Nat) (b : Nat) (f : PSt → PRz) : Prop := ∀ s : PSt, Rch tx L s.1 → Gd tx L b s (f s)
theorem tK_pos {j : Nat} (h : tK tx L j ≠ 0) : tSt tx L j < L := by
  by_cases c : tSt tx L j < L
  · exact c
  · exfalso; apply h; show tKd tx L (tSt tx L j) = 0; unfold tKd; rw [if_neg c]
theorem isS_pos {j ch : Nat} (h : isS tx L j ch = true) : tSt tx L j < L ∧ tK tx L j = 3 ∧ tx (tSt tx L j) = ch := by
  unfold isS at h
  rw [Bool.and_eq_true, decide_eq_true_eq, decide_eq_true_eq] at h
  exact ⟨tK_pos (by rw [h.1]; omega), h⟩
theorem isW_pos {j i : Nat} (h : isW tx L j i = true) : tSt tx L j < L ∧ tK tx L j = 1 ∧ idx (tWd tx L (tSt tx L j)) = i := by
  unfold isW at h
  rw [Bool.and_eq_true, decide_eq_true_eq, decide_eq_true_eq] at h
  exact ⟨tK_pos (by rw [h.1]; omega), h⟩
theorem isFa_pos {j : Nat} (h : isFa tx L j = true) : tSt tx L j < L ∧ tK tx L j = 1 ∧ 15 ≤ idx (tWd tx L (tSt tx L j)) := by
  unfold isFa at h
  rw [Bool.and_eq_true, decide_eq_true_eq, decide_eq_true_eq] at h
  exact ⟨tK_pos (by rw [h.1]; omega), h⟩
theorem er_pos {k j : Nat} (h : k ≠ 0) : er tx L k j ≠ 0 := by unfold er; omega
theorem er_ok {k j : Nat} (h : k ≠ 0 ∧ k ≤ 5) : er tx L k j ≠ 0 ∧ (L ≤ 1000 → er tx L k j < 20000) := by
  have := tSt_le (tx := tx) (L := L) j
  unfold er
  exact ⟨by omega, fun _ => by omega⟩
/-- one reading behind another -/
theorem Gd.seq {a b : Nat} {s : PSt} {r : PRz} {f : PSt → PRz} (h : Gd tx L a s r) (hf : ∀ t : PSt, s.1 + a ≤ t.1 → Rch tx L t.1 → Gd tx L b t (f t)) : Gd tx L (a + b) s (bnd r f) := by
  cases r with
  | inr e => exact h
  | inl t =>
    obtain ⟨h1, h2, h3, q, h4⟩ := h
    have := hf t h1 h2
    show Gd tx L (a + b) s (f t)
    cases hft : f t with
    | inr e => rw [hft] at this; exact this
    | inl u =>
      rw [hft] at this
      obtain ⟨k1, k2, k3, q', k4⟩ := this
      exact ⟨by omega, k2, by omega, q' ++ q, by rw [k4, h4, List.append_assoc]⟩
theorem Gd.less {a b : Nat} {s : PSt} {r : PRz} (h : Gd tx L a s r) (hb : b ≤ a) : Gd tx L b s r := by
  cases r with
  | inr e => exact h
  | inl t => exact ⟨by have := h.1; omega, h.2⟩
/-- a sign taken -/
theorem Gd.tok {b : Nat} {s : PSt} {r : PRz} (h : Gd tx L b (s.1 + 1, s.2) r) : ∀ t, r = .inl t → s.1 + 1 + b ≤ t.1 ∧ Rch tx L t.1 ∧ t.2.length + 1 + s.1 ≤ s.2.length + t.1 ∧ ∃ q, t.2 = q ++ s.2 := by
  rintro t rfl
  obtain ⟨h1, h2, h3, h4⟩ := h
  dsimp only at h1 h2 h3 h4
  exact ⟨h1, h2, by omega, h4⟩
theorem Gd.op {b : Nat} {s : PSt} {r : PRz} {o : Nat × Nat} (h : Gd tx L b (s.1 + 1, s.2) r) : Gd tx L (b + 1) s (bnd r (fun t => .inl (psh o t))) := by
  cases r with
  | inr e => exact h
  | inl t =>
    obtain ⟨h1, h2, h3, q, h4⟩ := h.tok t rfl
    show _ ∧ _ ∧ _ ∧ _
    unfold psh
    dsimp only
    exact ⟨by omega, h2, by rw [List.length_cons]; omega, o :: q, by rw [h4, List.cons_append]⟩
theorem bnd_bnd {r : PRz} {f g : PSt → PRz} : bnd (bnd r f) g = bnd r (fun t => bnd (f t) g) := by
  cases r <;> rfl
theorem aPL_g {rp : PSt → PRz} (h : GdF tx L 1 rp) : ∀ f, GdF tx L 0 (aPL tx L rp f)
  | 0, s, hs => ⟨Nat.le_refl _, hs, Nat.le_refl _, [], rfl⟩
  | f + 1, s, hs => by
    unfold aPL
    by_cases c : isS tx L s.1 42 = true
    · rw [if_pos c]
      have h1 := (h (s.1 + 1, s.2) (hs.next (isS_pos c).1)).op (s := s) (o := (6, 0))
      have h2 := h1.seq (b := 0) (fun t _ ht => aPL_g h f t ht)
      rw [bnd_bnd] at h2
      exact h2.less (Nat.zero_le _)
    · rw [if_neg c]; exact ⟨Nat.le_refl _, hs, Nat.le_refl _, [], rfl⟩
theorem aProd_g {rp : PSt → PRz} (h : GdF tx L 1 rp) : GdF tx L 1 (aProd tx L rp) := fun s hs => (h s hs).seq (b := 0) (fun t _ ht => aPL_g h (L + 1) t ht)
theorem aSL_g {rp : PSt → PRz} (h : GdF tx L 1 rp) : ∀ f, GdF tx L 0 (aSL tx L rp f)
  | 0, s, hs => ⟨Nat.le_refl _, hs, Nat.le_refl _, [], rfl⟩
  | f + 1, s, hs => by
    unfold aSL
    by_cases c : (isS tx L s.1 43 || isS tx L s.1 45) = true
    · rw [if_pos c]
      have hp : tSt tx L s.1 < L := by
        rw [Bool.or_eq_true] at c
        rcases c with c | c
        · exact (isS_pos c).1
        · exact (isS_pos c).1
      have h1 := (aProd_g h (s.1 + 1, s.2) (hs.next hp)).op (s := s) (o := (if isS tx L s.1 43 = true then 4 else 5, 0))
      have h2 := h1.seq (b := 0) (fun t _ ht => aSL_g h f t ht)
      rw [bnd_bnd] at h2
      exact h2.less (Nat.zero_le _)
    · rw [if_neg c]; exact ⟨Nat.le_refl _, hs, Nat.le_refl _, [], rfl⟩
theorem aSum_g {rp : PSt → PRz} (h : GdF tx L 1 rp) : GdF tx L 1 (aSum tx L rp) := fun s hs => (aProd_g h s hs).seq (b := 0) (fun t _ ht => aSL_g h (L + 1) t ht)
theorem aTest_g {rp : PSt → PRz} (h : GdF tx L 1 rp) : GdF tx L 1 (aTest tx L rp) := fun s hs => (aSum_g h s hs).seq (b := 0) (fun t _ ht => by
  by_cases c : (isS tx L t.1 60 || isS tx L t.1 61) = true
  · rw [if_pos c]
    have hp : tSt tx L t.1 < L := by
      rw [Bool.or_eq_true] at c
      rcases c with c | c
      · exact (isS_pos c).1
      · exact (isS_pos c).1
    exact ((aSum_g h (t.1 + 1, t.2) (ht.next hp)).op (s := t)).less (Nat.zero_le _)
  · rw [if_neg c]; exact ⟨Nat.le_refl _, ht, Nat.le_refl _, [], rfl⟩)
theorem aWL_g {rp : PSt → PRz} (h : GdF tx L 1 rp) : ∀ f, GdF tx L 0 (aWL tx L rp f)
  | 0, s, hs => ⟨Nat.le_refl _, hs, Nat.le_refl _, [], rfl⟩
  | f + 1, s, hs => by
    unfold aWL
    by_cases c : (isW tx L s.1 13 || isW tx L s.1 14) = true
    · rw [if_pos c]
      have hp : tSt tx L s.1 < L := by
        rw [Bool.or_eq_true] at c
        rcases c with c | c
        · exact (isW_pos c).1
        · exact (isW_pos c).1
      have h1 := (aTest_g h (s.1 + 1, s.2) (hs.next hp)).op (s := s) (o := (if isW tx L s.1 13 = true then 9 else 10, 0))
      have h2 := h1.seq (b := 0) (fun t _ ht => aWL_g h f t ht)
      rw [bnd_bnd] at h2
      exact h2.less (Nat.zero_le _)
    · rw [if_neg c]; exact ⟨Nat.le_refl _, hs, Nat.le_refl _, [], rfl⟩
theorem aWhole_g {rp : PSt → PRz} (h : GdF tx L 1 rp) : GdF tx L 1 (aWhole tx L rp) := fun s hs => (aTest_g h s hs).seq (b := 0) (fun t _ ht => aWL_g h (L + 1) t ht)
theorem aPart_g {rp : Nat → PSt → PRz} (h : ∀ d, GdF tx L 1 (rp d)) (d : Nat) : GdF tx L 1 (aPart tx L rp d) := fun s hs => by
  unfold aPart
  by_cases c : (isW tx L s.1 12 || isS tx L s.1 40 || decide (tK tx L s.1 = 2) || isFa tx L s.1) = true
  rotate_left
  · rw [if_neg c]; exact er_ok (by omega)
  rw [if_pos c]
  have hp : tSt tx L s.1 < L := by
    rw [Bool.or_eq_true, Bool.or_eq_true, Bool.or_eq_true] at c
    rcases c with ((c | c) | c) | c
    · exact (isW_pos c).1
    · exact (isS_pos c).1
    · exact tK_pos (by rw [of_decide_eq_true c]; omega)
    · exact (isFa_pos c).1
  by_cases cd : d < 5
  rotate_left
  · rw [if_neg cd]; exact er_ok (by omega)
  rw [if_pos cd]
  by_cases c1 : isS tx L s.1 40 = true
  · rw [if_pos c1]
    have h1 := aWhole_g (h (d + 1)) (s.1 + 1, s.2) (hs.next hp)
    cases hr : aWhole tx L (rp (d + 1)) (s.1 + 1, s.2) with
    | inr e => rw [hr] at h1; exact h1
    | inl t =>
      rw [hr] at h1
      obtain ⟨k1, k2, k3, k4⟩ := h1.tok t rfl
      show Gd tx L 1 s (if isS tx L t.1 41 = true then .inl (t.1 + 1, t.2) else .inr (er tx L 1 t.1))
      by_cases c2 : isS tx L t.1 41 = true
      · rw [if_pos c2]
        exact ⟨by dsimp only; omega, k2.next (isS_pos c2).1, by dsimp only; omega, k4⟩
      · rw [if_neg c2]; exact er_ok (by omega)
  rw [if_neg c1]
  by_cases c2 : isW tx L s.1 12 = true
  · rw [if_pos c2]
    exact ((h (d + 1) (s.1 + 1, s.2) (hs.next hp)).op (s := s)).less (by omega)
  rw [if_neg c2]
  by_cases c3 : tK tx L s.1 = 2
  · rw [if_pos c3]
    exact ⟨Nat.le_refl _, hs.next hp, by dsimp only; rw [List.length_cons]; omega, [_], rfl⟩
  · rw [if_neg c3]
    exact ⟨Nat.le_refl _, hs.next hp, by dsimp only; rw [List.length_cons]; omega, [_], rfl⟩
theorem aPN_g : ∀ N d, GdF tx L 1 (aPN tx L N d)
  | 0, _, _, _ => ⟨by omega, fun _ => by omega⟩
  | N + 1, d, s, hs => aPart_g (fun d => aPN_g N d) d s hs
end APARSE
