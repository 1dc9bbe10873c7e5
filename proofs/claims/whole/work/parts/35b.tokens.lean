/-! ===== level 2: tokens ===== -/
section TOK
/-- the first place from i on where q no longer holds -/
def runF (q : Nat → Bool) (L : Nat) : Nat → Nat → Nat
  | 0, i => i
  | f + 1, i => if i < L ∧ q i = true then runF q L f (i + 1) else i
def run (q : Nat → Bool) (L i : Nat) : Nat := runF q L (L - i) i
def RunS (q : Nat → Bool) (L i x : Nat) : Prop := i ≤ x ∧ (∀ k, i ≤ k → k < x → k < L ∧ q k = true) ∧ ¬ (x < L ∧ q x = true)
theorem runF_spec {q : Nat → Bool} {L : Nat} : ∀ f i, L ≤ i + f → RunS q L i (runF q L f i)
  | 0, i, h => ⟨Nat.le_refl _, fun k h1 h2 => by unfold runF at h2; omega, fun h2 => by unfold runF at h2; omega⟩
  | f + 1, i, h => by
    unfold runF
    by_cases c : i < L ∧ q i = true
    · rw [if_pos c]
      obtain ⟨a1, a2, a3⟩ := runF_spec (q := q) (L := L) f (i + 1) (by omega)
      refine ⟨by omega, fun k h1 h2 => ?_, a3⟩
      by_cases e : k = i
      · rw [e]; exact c
      · exact a2 k (by omega) h2
    · rw [if_neg c]
      exact ⟨Nat.le_refl _, fun k h1 h2 => by omega, c⟩
theorem run_spec {q : Nat → Bool} {L i : Nat} : RunS q L i (run q L i) := runF_spec _ _ (by omega)
theorem run_uniq {q : Nat → Bool} {L i x y : Nat} (h1 : RunS q L i x) (h2 : RunS q L i y) : x = y := by
  obtain ⟨a1, a2, a3⟩ := h1
  obtain ⟨b1, b2, b3⟩ := h2
  by_cases c : x < y
  · exact absurd (b2 x a1 c) a3
  · by_cases d : y < x
    · exact absurd (a2 y b1 d) b3
    · omega
theorem run_is {q : Nat → Bool} {L i x : Nat} (h : RunS q L i x) : x = run q L i := run_uniq h run_spec
theorem run_le {q : Nat → Bool} {L i : Nat} (h : i ≤ L) : run q L i ≤ L := by
  obtain ⟨a1, a2, a3⟩ := run_spec (q := q) (L := L) (i := i)
  by_cases c : run q L i ≤ L
  · exact c
  · have := a2 (run q L i - 1) (by omega) (by omega)
    omega
theorem run_step {q : Nat → Bool} {L i : Nat} (h : i < L) (hq : q i = true) : run q L i = run q L (i + 1) := by
  refine (run_is ?_).symm
  obtain ⟨a1, a2, a3⟩ := run_spec (q := q) (L := L) (i := i + 1)
  refine ⟨by omega, fun k h1 h2 => ?_, a3⟩
  by_cases e : k = i
  · rw [e]; exact ⟨h, hq⟩
  · exact a2 k (by omega) h2
theorem run_stop {q : Nat → Bool} {L i : Nat} (h : ¬ (i < L ∧ q i = true)) : run q L i = i := (run_is ⟨Nat.le_refl _, fun k h1 h2 => by omega, h⟩).symm
/-- the signs' kinds -/
def isBl (c : Nat) : Bool := decide (c = 10) || decide (c = 32)
def isLt (c : Nat) : Bool := decide (97 ≤ c) && decide (c ≤ 122)
def isFg (c : Nat) : Bool := decide (48 ≤ c) && decide (c ≤ 57)
def isSg (c : Nat) : Bool := decide (c = 40) || decide (c = 41) || decide (c = 59) || decide (c = 61) || decide (c = 60) || decide (c = 43) || decide (c = 45) || decide (c = 42)
variable {tx : Nat → Nat} {L : Nat}
/-- the end of the token that begins at s -/
def tEnd (tx : Nat → Nat) (L s : Nat) : Nat := if isLt (tx s) = true then run (fun k => isLt (tx k)) L s else if isFg (tx s) = true then run (fun k => isFg (tx k)) L s else s + 1
/-- 0 the end, 1 a word, 2 a number, 3 a sign, 4 none -/
def tKd (tx : Nat → Nat) (L s : Nat) : Nat := if s < L then (if isLt (tx s) = true then (if tEnd tx L s - s ≤ 8 then 1 else 4) else if isFg (tx s) = true then (if tEnd tx L s - s ≤ 4 then 2 else 4) else if isSg (tx s) = true then 3 else 4) else 0
/-- the letters, the last first -/
def wlr (tx : Nat → Nat) (s : Nat) : Nat → List Nat
  | 0 => []
  | k + 1 => (tx (s + k) - 96) :: wlr tx s k
def tWd (tx : Nat → Nat) (L s : Nat) : List Nat := wlr tx s (tEnd tx L s - s)
def nmr (tx : Nat → Nat) (s : Nat) : Nat → Nat
  | 0 => 0
  | k + 1 => nmr tx s k * 10 + (tx (s + k) - 48)
def tNm (tx : Nat → Nat) (L s : Nat) : Nat := nmr tx s (tEnd tx L s - s)
def skp (tx : Nat → Nat) (L i : Nat) : Nat := run (fun k => isBl (tx k)) L i
/-- where token j begins -/
def tSt (tx : Nat → Nat) (L : Nat) : Nat → Nat
  | 0 => skp tx L 0
  | j + 1 => if tSt tx L j < L then skp tx L (tEnd tx L (tSt tx L j)) else tSt tx L j
theorem tEnd_b {s : Nat} (h : s < L) : s + 1 ≤ tEnd tx L s ∧ tEnd tx L s ≤ L := by
  have key : ∀ q : Nat → Bool, q s = true → s + 1 ≤ run q L s ∧ run q L s ≤ L := fun q hq => by
    rw [run_step h hq]
    exact ⟨run_spec.1, run_le (by omega)⟩
  unfold tEnd
  split
  · rename_i q; exact key _ q
  · split
    · rename_i q; exact key _ q
    · omega
theorem tSt_le : ∀ j, tSt tx L j ≤ L
  | 0 => run_le (Nat.zero_le _)
  | j + 1 => by
    have := tSt_le j
    unfold tSt
    split
    · rename_i q; exact run_le (tEnd_b q).2
    · exact this
theorem tSt_ge : ∀ j, tSt tx L j < L → j ≤ tSt tx L j
  | 0, _ => Nat.zero_le _
  | j + 1, h => by
    unfold tSt at h ⊢
    by_cases q : tSt tx L j < L
    · rw [if_pos q] at h ⊢
      have h1 := tSt_ge j q
      have h2 := (tEnd_b (tx := tx) q).1
      have h3 : tEnd tx L (tSt tx L j) ≤ skp tx L (tEnd tx L (tSt tx L j)) := run_spec.1
      omega
    · rw [if_neg q] at h
      exact absurd h q
theorem tSt_next {j : Nat} (h : tSt tx L j < L) : tSt tx L (j + 1) = skp tx L (tEnd tx L (tSt tx L j)) := by
  rw [tSt, if_pos h]
theorem tSt_nb {j : Nat} (h : tSt tx L j < L) : isBl (tx (tSt tx L j)) = false := by
  have key : ∀ i, skp tx L i < L → isBl (tx (skp tx L i)) = false := fun i hi => by
    have := (run_spec (q := fun k => isBl (tx k)) (L := L) (i := i)).2.2
    by_cases c : isBl (tx (skp tx L i)) = true
    · exact absurd ⟨hi, c⟩ this
    · exact eq_false_of_ne_true c
  cases j with
  | zero => exact key _ h
  | succ j =>
    unfold tSt at h ⊢
    by_cases q : tSt tx L j < L
    · rw [if_pos q] at h ⊢; exact key _ h
    · rw [if_neg q] at h; exact absurd h q
/-- packing -/
def pkW (B : Nat) : List Nat → Nat
  | [] => 0
  | d :: l => pkW B l * B + d
def WdO (l : List Nat) : Prop := l.length ≤ 8 ∧ l ≠ [] ∧ ∀ d ∈ l, 1 ≤ d ∧ d ≤ 26
theorem pkW_inj {B : Nat} (hB : 26 < B) : ∀ (l l' : List Nat), (∀ d ∈ l, 1 ≤ d ∧ d ≤ 26) → (∀ d ∈ l', 1 ≤ d ∧ d ≤ 26) → pkW B l = pkW B l' → l = l'
  | [], [], _, _, _ => rfl
  | [], d :: l', _, h2, h => by
    have := h2 d (List.mem_cons_self ..)
    unfold pkW at h
    omega
  | d :: l, [], h1, _, h => by
    have := h1 d (List.mem_cons_self ..)
    unfold pkW at h
    omega
  | d :: l, d' :: l', h1, h2, h => by
    have b1 := h1 d (List.mem_cons_self ..)
    have b2 := h2 d' (List.mem_cons_self ..)
    unfold pkW at h
    have hm : d = d' := by
      have e1 : (pkW B l * B + d) % B = d := by rw [Nat.add_comm, Nat.add_mul_mod_self_right, Nat.mod_eq_of_lt (by omega)]
      have e2 : (pkW B l' * B + d') % B = d' := by rw [Nat.add_comm, Nat.add_mul_mod_self_right, Nat.mod_eq_of_lt (by omega)]
      rw [← e1, ← e2, h]
    subst hm
    have hp : pkW B l * B = pkW B l' * B := by omega
    have := pkW_inj hB l l' (fun x hx => h1 x (List.mem_cons_of_mem _ hx)) (fun x hx => h2 x (List.mem_cons_of_mem _ hx)) (Nat.eq_of_mul_eq_mul_right (by omega) hp)
    rw [this]
theorem pkW_lt {B : Nat} (hB : 26 < B) : ∀ (l : List Nat), (∀ d ∈ l, 1 ≤ d ∧ d ≤ 26) → pkW B l < B ^ l.length
  | [], _ => by show 0 < B ^ 0; rw [Nat.pow_zero]; omega
  | d :: l, h => by
    have b := h d (List.mem_cons_self ..)
    have ih := pkW_lt hB l (fun x hx => h x (List.mem_cons_of_mem _ hx))
    unfold pkW
    rw [List.length_cons, Nat.pow_succ]
    have : (pkW B l + 1) * B ≤ B ^ l.length * B := Nat.mul_le_mul_right _ ih
    rw [Nat.add_mul] at this
    omega
theorem pkW_b {l : List Nat} (h : WdO l) : pkW 32 l < 1099511627776 ∧ pkW 37 l < 3512479453921 := by
  have h1 := pkW_lt (B := 32) (by omega) l h.2.2
  have h2 := pkW_lt (B := 37) (by omega) l h.2.2
  have e1 : 32 ^ l.length ≤ 32 ^ 8 := Nat.pow_le_pow_right (by omega) h.1
  have e2 : 37 ^ l.length ≤ 37 ^ 8 := Nat.pow_le_pow_right (by omega) h.1
  exact ⟨Nat.lt_of_lt_of_le h1 e1, Nat.lt_of_lt_of_le h2 e2⟩
theorem wlr_len {s : Nat} : ∀ k, (wlr tx s k).length = k
  | 0 => rfl
  | k + 1 => by rw [wlr, List.length_cons, wlr_len k]
theorem wlr_o {s : Nat} : ∀ k, (∀ i, i < k → isLt (tx (s + i)) = true) → ∀ d ∈ wlr tx s k, 1 ≤ d ∧ d ≤ 26
  | 0, _, d, hd => by cases hd
  | k + 1, h, d, hd => by
    rw [wlr] at hd
    rcases List.mem_cons.mp hd with e | hd
    · have := h k (by omega)
      unfold isLt at this
      rw [Bool.and_eq_true, decide_eq_true_eq, decide_eq_true_eq] at this
      omega
    · exact wlr_o k (fun i hi => h i (by omega)) d hd
theorem tWd_o {s : Nat} (h : tKd tx L s = 1) : WdO (tWd tx L s) := by
  unfold tKd at h
  by_cases q1 : s < L
  · rw [if_pos q1] at h
    by_cases q2 : isLt (tx s) = true
    · rw [if_pos q2] at h
      by_cases q3 : tEnd tx L s - s ≤ 8
      · have hb := tEnd_b (tx := tx) q1
        have he : tEnd tx L s = run (fun k => isLt (tx k)) L s := by unfold tEnd; rw [if_pos q2]
        refine ⟨?_, ?_, ?_⟩
        · unfold tWd; rw [wlr_len]; exact q3
        · intro e
          have := wlr_len (tx := tx) (s := s) (tEnd tx L s - s)
          unfold tWd at e
          rw [e] at this
          simp at this
          omega
        · refine wlr_o _ (fun i hi => ?_)
          have := (run_spec (q := fun k => isLt (tx k)) (L := L) (i := s)).2.1 (s + i) (by omega) (by rw [he] at hi; omega)
          exact this.2
      · rw [if_neg q3] at h; omega
    · rw [if_neg q2] at h
      split at h
      · split at h <;> omega
      · split at h <;> omega
  · rw [if_neg q1] at h; omega
/-- the words with a meaning, in the class's order -/
def kwC : List (List Nat) := [[], [5, 11, 1, 3], [5, 4, 9, 23], [19, 18, 1, 2], [19, 20, 19, 15, 3], [14, 18, 21, 20], [14, 23, 15, 4], [16, 21], [14, 9, 1, 12, 16], [4, 5, 14, 23, 15, 18, 2], [25, 22, 1, 5, 8], [4, 5, 26, 1, 12, 7], [20, 15, 14], [4, 14, 1], [18, 15], [5, 11, 1, 20], [20, 6, 5, 12], [20, 8, 7, 9, 5, 23], [14, 23, 15, 18, 2]]
theorem kw_let : ∀ i, i < 19 → wlet.getD i 0 = (pkW 32 (kwC.getD i []) : Int) := by decide
theorem kw_o : ∀ i, i < 19 → 1 ≤ i → (kwC.getD i []).length ≤ 8 ∧ kwC.getD i [] ≠ [] ∧ ∀ d ∈ kwC.getD i [], 1 ≤ d ∧ d ≤ 26 := by decide
theorem kw_inj : ∀ i, i < 19 → ∀ j, j < 19 → kwC.getD i [] = kwC.getD j [] → i = j := by decide
/-- which word it is: 0 none of them -/
def idx (l : List Nat) : Nat := if kwC.idxOf l < 19 then kwC.idxOf l else 0
theorem idx_lt {l : List Nat} : idx l < 19 := by unfold idx; split <;> omega
theorem idx_kw : ∀ i, i < 19 → idx (kwC.getD i []) = i := by decide
theorem kw_len : kwC.length = 19 := by decide
theorem idx_get {l : List Nat} (h : idx l ≠ 0) : kwC.getD (idx l) [] = l := by
  unfold idx at h ⊢
  by_cases q : kwC.idxOf l < 19
  · rw [if_pos q] at h ⊢
    have := List.getElem_idxOf (xs := kwC) (x := l) (by rw [kw_len]; exact q)
    rw [List.getD_eq_getElem?_getD, List.getElem?_eq_getElem (by rw [kw_len]; exact q), Option.getD_some]
    exact this
  · rw [if_neg q] at h; exact absurd rfl h
theorem idx_is {l : List Nat} {i : Nat} (hi : i < 19) (h0 : 1 ≤ i) : idx l = i ↔ l = kwC.getD i [] := by
  constructor
  · intro h
    have := idx_get (l := l) (by omega)
    rw [h] at this; exact this.symm
  · rintro rfl; exact idx_kw i hi
/-- the reference's order -/
def ciL : List Nat := [1, 2, 7, 6, 3, 4, 5, 8, 9, 10, 11, 12, 13, 14, 15, 16, 17, 18]
def ci (w : Nat) : Nat := ciL.getD w 0
def w80L : List Int := [153740, 1177493, 793, 224012, 103360, 6409048, 1042489, 30596128, 6408940833, 15248761, 507984067, 19741, 1891, 573, 1014841, 614923, 1604747592, 4681476]
def W80 (μ : Mem) : Prop := ∀ w, w < 18 → μ 80 w = w80L.getD w 0
theorem ci_ok : ∀ w, w < 18 → ci w < 19 ∧ 1 ≤ ci w ∧ w80L.getD w 0 = (pkW 37 (kwC.getD (ci w) []) : Int) := by decide
end TOK
