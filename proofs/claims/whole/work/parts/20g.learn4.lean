/-! ===== level 2: all that the class learns of a griddle ===== -/
def tup : Nat → List (List Nat)
  | 0 => [[]]
  | k + 1 => (List.range 5).flatMap (fun a => (tup k).map (fun l => a :: l))
def noRep : List Nat → Bool
  | [] => true
  | a :: l => !(l.contains a) && noRep l
theorem tup_facts : ∀ n, n < 6 → (tup n).all (fun l => !(noRep l && l.all (fun x => decide (x < n))) || (decide (rankL l < fac n) && decide (perm n (rankL l) = l))) = true := by decide +kernel
theorem tup_mem : ∀ (l : List Nat), (∀ x ∈ l, x < 5) → l ∈ tup l.length
  | [], _ => by simp [tup]
  | a :: l, h => by
    have ih := tup_mem l (fun x hx => h x (List.mem_cons_of_mem _ hx))
    simp only [List.length_cons, tup, List.mem_flatMap, List.mem_range, List.mem_map]
    exact ⟨a, h a (List.mem_cons_self), l, ih, rfl⟩
theorem noRep_map {p : Nat → Nat} : ∀ (l : List Nat), l.Nodup → (∀ i ∈ l, ∀ j ∈ l, p i = p j → i = j) → noRep (l.map p) = true
  | [], _, _ => rfl
  | a :: l, hn, h => by
    have hn2 := List.nodup_cons.mp hn
    simp only [List.map_cons, noRep, Bool.and_eq_true, Bool.not_eq_true']
    refine ⟨?_, noRep_map l hn2.2 (fun i hi j hj => h i (List.mem_cons_of_mem _ hi) j (List.mem_cons_of_mem _ hj))⟩
    rw [← Bool.not_eq_true, List.contains_iff_mem]
    intro hm
    obtain ⟨j, hj, e⟩ := List.mem_map.mp hm
    have := h j (List.mem_cons_of_mem _ hj) a List.mem_cons_self e
    subst this
    exact hn2.1 hj
theorem perm_all {n : Nat} {p : Nat → Nat} (hn : n < 6) (h1 : ∀ i, i < n → p i < n) (h2 : ∀ i j, i < n → j < n → p i = p j → i = j) : ∃ r, r < fac n ∧ ∀ i, i < n → pA n r i = p i := by
  have hl : ((List.range n).map p).length = n := by simp
  have hm := tup_mem ((List.range n).map p) (fun x hx => by
    obtain ⟨j, hj, e⟩ := List.mem_map.mp hx
    have := h1 j (List.mem_range.mp hj)
    omega)
  rw [hl] at hm
  have hf := List.all_eq_true.mp (tup_facts n hn) _ hm
  have hr : noRep ((List.range n).map p) = true := noRep_map _ List.nodup_range (fun i hi j hj => h2 i j (List.mem_range.mp hi) (List.mem_range.mp hj))
  have ha : ((List.range n).map p).all (fun x => decide (x < n)) = true := List.all_eq_true.mpr (fun x hx => by
    obtain ⟨j, hj, e⟩ := List.mem_map.mp hx
    have := h1 j (List.mem_range.mp hj)
    simp; omega)
  rw [hr, ha] at hf
  simp only [Bool.and_self, Bool.not_true, Bool.false_or, Bool.and_eq_true, decide_eq_true_eq] at hf
  refine ⟨_, hf.1, fun i hi => ?_⟩
  unfold pA
  rw [hf.2, List.getD_eq_getElem?_getD]
  simp [hi]
/-- the order in which the cakes have places of their own -/
theorem perm_inv {n : Nat} {π : Nat → Nat} (hn : n < 6) (h1 : ∀ i, i < n → π i < n) (h2 : ∀ i j, i < n → j < n → π i = π j → i = j) : ∃ r, r < fac n ∧ ∀ k, k < n → pA n r (π k) = k := by
  have key : ∀ k, k < n → sm n (fun i => if π i = π k then i else 0) = k := fun k hk => by
    rw [sm_one hk (fun i hi hne => if_neg (fun e => hne (h2 i k hi hk e))), if_pos rfl]
  obtain ⟨r, hr, h⟩ := perm_all (p := fun j => sm n (fun i => if π i = j then i else 0)) hn (fun j hj => by
    obtain ⟨k, hk, e⟩ := hit_all h1 h2 j hj
    subst e
    rw [key k hk]; exact hk) (fun i j hi hj e => by
    obtain ⟨k, hk, rfl⟩ := hit_all h1 h2 i hi
    obtain ⟨k2, hk2, rfl⟩ := hit_all h1 h2 j hj
    rw [key k hk, key k2 hk2] at e
    rw [e])
  exact ⟨r, hr, fun k hk => by rw [h _ (h1 k hk), key k hk]⟩
/-- how many are less wide -/
def rk (wd : Nat → Nat) (n k : Nat) : Nat := cn n (fun i => decide (wd i < wd k))
theorem rk_lt {wd : Nat → Nat} {n k : Nat} (hk : k < n) : rk wd n k < n := by
  have h := cn_lt (n := n) (j := k) (p := fun i => decide (wd i < wd k)) (q := fun _ => true) hk (by simp) rfl (fun _ _ _ => rfl)
  rw [cn_all (p := fun _ => true) (fun _ _ => rfl)] at h
  exact h
theorem rk_mono {wd : Nat → Nat} {n j k : Nat} (hj : j < n) (h : wd j < wd k) : rk wd n j < rk wd n k := by
  have h := cn_lt (n := n) (j := j) (p := fun i => decide (wd i < wd j)) (q := fun i => decide (wd i < wd k)) hj (by simp) (by simp [h]) (fun i _ hi => by simp at hi ⊢; omega)
  exact h
theorem rk_inj {wd : Nat → Nat} {n : Nat} (hw : ∀ i j, i < n → j < n → wd i = wd j → i = j) : ∀ i j, i < n → j < n → rk wd n i = rk wd n j → i = j := by
  intro i j hi hj e
  rcases Nat.lt_trichotomy (wd i) (wd j) with q | q | q
  · have := rk_mono (n := n) hi q; omega
  · exact hw i j hi hj q
  · have := rk_mono (n := n) hj q; omega
section LEARN5
variable {n : Nat} {μ : Mem} {kd wd : Nat → Nat}
theorem rankOf_ok {told k : Nat} (hto : told = 5 ∨ told = 15) (hn : n < 6) (h0 : μ told 0 = n) (hw : ∀ k, k < n → μ (told + 3) k = wd k ∧ wd k < 31) (hk : k < n) : fX2_rankOf told (k : Int) μ = some (rk wd n k : Int) := by
  apply Ok_val
  unfold fX2_rankOf
  refine Ok.bind ?_
  refine loop_FU n (fun i s => s.1 = ((cn i (fun i => decide (wd i < wd k)) : Nat) : Int) ∧ s.2 = (i : Int)) 0 ⟨rfl, rfl⟩ (by omega) (by omega) ?_ ?_
  · rintro i ⟨a, b⟩ hi ⟨e1, e2⟩
    dsimp only at e1 e2 ⊢
    subst e1 e2
    obtain ⟨w1, w2⟩ := hw i hi
    obtain ⟨w3, w4⟩ := hw k hk
    unfold fX2_rankOf_b4
    rw [h0, w32_n (by omega), w32_n (by omega), if_pos (by omega), at_n i rfl (al_G3 hto) (by omega) (by omega), at_n k rfl (al_G3 hto) (by omega) (by omega), w1, w3, w32_n (by omega), w32_n (by omega)]
    by_cases hl : wd i < wd k
    · rw [if_pos (by omega), Ok_some]
      refine ⟨?_, by push_cast; rfl⟩
      show _ = ((cn (i + 1) _ : Nat) : Int)
      rw [cn_succ, if_pos (by simp [hl])]; push_cast; rfl
    · rw [if_neg (by omega), Ok_some]
      refine ⟨?_, by push_cast; rfl⟩
      show _ = ((cn (i + 1) _ : Nat) : Int)
      rw [cn_succ, if_neg (by simp [hl])]; rfl
  · rintro ⟨a, b⟩ ⟨e1, e2⟩
    dsimp only at e1 e2 ⊢
    subst e1 e2
    unfold fX2_rankOf_b4
    rw [h0, w32_n (by omega), if_neg (by omega), Ok_some]
    show Ok _ _
    rw [Ok_some]
    rfl
theorem hasSide_ok {told k : Nat} (hto : told = 5 ∨ told = 15) (hk5 : k < 5) (h : μ (told + 2) k = kd k ∧ kd k < 4) : fX2_hasSide told (k : Int) μ = sd kd k := by
  unfold fX2_hasSide sd
  simp only [lt]
  have hw1 : w32 1 = 1 := by decide
  have hw3 : w32 3 = 3 := by decide
  obtain ⟨h1, h2⟩ := h
  rw [at_n k rfl (al_G2 hto) hk5 (by omega), h1, w32_n (by omega), hw1, hw3]
  by_cases e1 : kd k = 1
  · rw [if_pos (by omega)]; simp [e1]
  · rw [if_neg (by omega)]
    by_cases e3 : kd k = 3
    · rw [if_pos (by omega)]; simp [e3]
    · rw [if_neg (by omega)]; simp [e1, e3]
theorem cd_or {r : Nat} {u : Nat → Bool} : (r * 2 ^ ix kd n) ||| pk kd u n = cd kd n r u := by
  unfold cd
  rw [Nat.mul_comm, ← Nat.two_pow_add_eq_or_of_lt (pz_lt n)]
theorem stackOf_ok {row L ups r : Nat} (hn : n < 6) (h1 : μ 25 1 = n) (hS : Sb n kd μ) (hu : ups < 1000000) (hL : alen row = L) (hL5 : 5 ≤ L) (hLb : L ≤ 100000) (hr : r < fac n) (hp : ∀ j, j < n → μ row j = (pA n r j : Int)) : fX7_stackOf row (ups : Int) μ = some (cd kd n r (fun k => ups.testBit k) : Int) := by
  apply Ok_val
  obtain ⟨hs1, hs2, hs3⟩ := hS
  have hf := fac_le hn
  have hxl := ix_le (kd := kd) (k := n)
  unfold fX7_stackOf
  refine Ok.bind ?_
  refine Ok.imp (loop_FU (Q := fun q : Int => q = ((pk kd (fun k => ups.testBit k) n : Nat) : Int)) n (fun (i : Nat) (s : Int × Int) => s.1 = ((pk kd (fun k => ups.testBit k && decide (k < i)) n : Nat) : Int) ∧ s.2 = (i : Int)) 0 ⟨?_, rfl⟩ (by omega) (by omega) ?_ ?_) ?_
  · rw [pz_none (fun k _ _ => by simp)]; rfl
  · rintro i ⟨a, b⟩ hi ⟨e1, e2⟩
    dsimp only at e1 e2 ⊢
    subst e1 e2
    have hw1 : w32 1 = 1 := by decide
    have hp1 := pk5 (kd := kd) (u := fun k => ups.testBit k && decide (k < i)) hn
    have hstep : ∀ k, k < n → (ups.testBit k && decide (k < i + 1)) = ((ups.testBit k && decide (k < i)) || (ups.testBit i && decide (k = i))) := fun k _ => by
      by_cases e : k = i
      · subst e; simp
      · by_cases hlt : k < i
        · simp [hlt, e]; intro _; omega
        · have : ¬ k < i + 1 := by omega
          simp [hlt, this, e]
    unfold fX7_stackOf_b5
    rw [h1, w32_n (by omega), w32_n (by omega), if_pos (by omega), bit_n (by omega) (by omega), hw1, at_n i rfl (L := 5) rfl (by omega) (by omega), hs3 i hi]
    have hq : ups / 2 ^ i % 2 < 2 := Nat.mod_lt _ (by omega)
    have htb := testBit_d (a := ups) (k := i)
    generalize ups / 2 ^ i % 2 = q at hq htb ⊢
    rw [w32_n (by omega)]
    simp only [lt]
    by_cases hb : q = 1
    · rw [if_pos (by omega), Ok_some]
      refine ⟨?_, by push_cast; rfl⟩
      show i_or _ _ = ((pk kd (fun k => ups.testBit k && decide (k < i + 1)) n : Nat) : Int)
      have ht : ups.testBit i = true := by rw [htb]; simp [hb]
      by_cases hsd : sd kd i = true
      · have hlt := ix_lt hi hsd
        have hpw := two_pow_le (a := ix kd i) (b := 5) (by omega)
        rw [if_pos hsd, i_or_n (by omega) (by omega), pz_add hi hsd]
        exact congrArg _ (pz_congr (fun k hk _ => by rw [hstep k hk, ht]; simp))
      · rw [if_neg hsd, i_or_n (by omega) (by omega), Nat.or_zero]
        refine congrArg _ (pz_congr (fun k hk hs => ?_))
        have : k ≠ i := fun e => hsd (by rw [← e]; exact hs)
        rw [hstep k hk]; simp [this]
    · rw [if_neg (by omega), Ok_some]
      refine ⟨?_, by push_cast; rfl⟩
      show i_or _ _ = ((pk kd (fun k => ups.testBit k && decide (k < i + 1)) n : Nat) : Int)
      have ht : ups.testBit i = false := by rw [htb]; simp [hb]
      have := i_or_n (a := pk kd (fun k => ups.testBit k && decide (k < i)) n) (b := 0) (by omega) (by omega)
      rw [Nat.or_zero] at this
      refine (this).trans (congrArg _ (pz_congr (fun k hk _ => ?_)))
      rw [hstep k hk, ht]; simp
  · rintro ⟨a, b⟩ ⟨e1, e2⟩
    dsimp only at e1 e2 ⊢
    subst e1 e2
    unfold fX7_stackOf_b5
    rw [h1, w32_n (by omega), if_neg (by omega), Ok_some]
    show ((pk kd _ n : Nat) : Int) = _
    exact congrArg _ (pz_congr (fun k hk _ => by simp [hk]))
  · intro q hq
    subst hq
    have ho := orderOf_ok (μ := μ) (row := row) (L := L) (p := pA n r) hn h1 hL hL5 hLb (fun j hj => ⟨hp j hj, by have := pA_lt hn hr hj; omega⟩)
    rw [rankC_eq hn hr (fun _ _ => rfl)] at ho
    have hpw := two_pow_le (a := ix kd n) (b := 5) (by omega)
    have hmul : r * 2 ^ ix kd n ≤ 120 * 2 ^ 5 := Nat.mul_le_mul (by omega) hpw
    have hp1 := pk5 (kd := kd) (u := fun k => ups.testBit k) hn
    rw [ho, Option.bind_some, Ok_some, hs1, i_shl_n (by omega) (by omega), i_or_n (by omega) (by omega), cd_or]
end LEARN5
