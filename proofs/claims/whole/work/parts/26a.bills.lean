/-! ===== level 2: the least it costs ===== -/
/-- the least sums, as what holds of neighbours -/
def IsC (N n : Nat) (tn : Nat → Nat → Nat) (op : Nat → Nat → Bool) (pr : Nat → Nat → Nat) (goal : Nat) (f : Nat → Int) : Prop :=
  (∀ c, c < N → -1 ≤ f c ∧ f c ≤ 34560) ∧ f goal = 0 ∧
  (∀ c m, c < N → 1 ≤ m → m ≤ n → op c m = true → f (tn c m) ≠ -1 → f c ≠ -1 ∧ f c ≤ f (tn c m) + pr c m) ∧
  ∀ c, c < N → f c ≠ -1 → c = goal ∨ ∃ m, 1 ≤ m ∧ m ≤ n ∧ op c m = true ∧ f (tn c m) ≠ -1 ∧ f c = f (tn c m) + pr c m
section BILLS
variable {N n goal : Nat} {tn : Nat → Nat → Nat} {op : Nat → Nat → Bool} {pr : Nat → Nat → Nat} {F : Nat → Int} {r : Nat → Nat}
theorem IsC.uniq {f g : Nat → Int} (hp : Gp N n goal tn pr) (hf : IsC N n tn op pr goal f) (hg : IsC N n tn op pr goal g) : ∀ c, c < N → f c = g c := by
  have half : ∀ (f g : Nat → Int), IsC N n tn op pr goal f → IsC N n tn op pr goal g → ∀ (k : Nat) (c : Nat), c < N → f c = k → g c ≠ -1 ∧ g c ≤ k := by
    intro f g hf hg k
    induction k using Nat.strongRecOn with
    | ind k ih =>
      intro c hc e
      rcases hf.2.2.2 c hc (by omega) with q | ⟨m, hm1, hm, hop, h1, h2⟩
      · subst q
        have := hg.2.1
        omega
      · obtain ⟨hd, -, hp1, -⟩ := hp.2.2.2 c m hc hm1 hm
        have b1 := (hf.1 _ hd).1
        obtain ⟨k', hk'⟩ : ∃ k' : Nat, f (tn c m) = k' := ⟨(f (tn c m)).toNat, by omega⟩
        obtain ⟨g1, g2⟩ := ih k' (by omega) (tn c m) hd hk'
        obtain ⟨g3, g4⟩ := hg.2.2.1 c m hc hm1 hm hop g1
        exact ⟨g3, by omega⟩
  intro c hc
  have b1 := hf.1 c hc
  have b2 := hg.1 c hc
  by_cases e1 : f c = -1
  · by_cases e2 : g c = -1
    · omega
    · have := half g f hg hf (g c).toNat c hc (by omega)
      omega
  · have h1 := half f g hf hg (f c).toNat c hc (by omega)
    have h2 := half g f hg hf (g c).toNat c hc (by omega)
    omega
/-- what was looked at: all of less than v, of v those ahead of x0, of x0 the turns below m0 -/
def dP (F : Nat → Int) (r : Nat → Nat) (v : Int) (x0 m0 d m : Nat) : Prop := (0 ≤ F d ∧ F d < v) ∨ (F d = v ∧ (r d < x0 ∨ (r d = x0 ∧ m < m0)))
def BI (N n : Nat) (tn : Nat → Nat → Nat) (op : Nat → Nat → Bool) (pr : Nat → Nat → Nat) (goal : Nat) (r : Nat → Nat) (v : Int) (x0 m0 : Nat) (F : Nat → Int) : Prop :=
  (∀ c, c < N → F c = -1 ∨ 0 ≤ F c) ∧ F goal = 0 ∧
  (∀ c m, c < N → 1 ≤ m → m ≤ n → op c m = true → dP F r v x0 m0 (tn c m) m → F c ≠ -1 ∧ F c ≤ F (tn c m) + pr c m) ∧
  ∀ c, c < N → F c ≠ -1 → c = goal ∨ ∃ m, 1 ≤ m ∧ m ≤ n ∧ op c m = true ∧ 0 ≤ F (tn c m) ∧ F (tn c m) ≤ v ∧ F c = F (tn c m) + pr c m
/-- how many were looked at -/
def cbP (x v : Int) (q x0 : Nat) : Bool := (decide (0 ≤ x) && decide (x < v)) || (decide (x = v) && decide (q < x0))
def cB (N : Nat) (F : Nat → Int) (r : Nat → Nat) (v : Int) (x0 : Nat) : Nat := cn N (fun d => cbP (F d) v (r d) x0)
/-- no sum is too great -/
def BT (N : Nat) (F : Nat → Int) (r : Nat → Nat) (v : Int) (x0 : Nat) (top : Int) : Prop := (∀ c, c < N → F c ≤ top) ∧ top ≤ 9 * (cB N F r v x0 : Int) ∧ v ≤ 9 * (cB N F r v 0 : Int)
theorem BI.step {d m x0 : Nat} {v : Int} (hp : Gp N n goal tn pr) (hr : ∀ i j, i < N → j < N → r i = r j → i = j) (hv : 0 ≤ v) (hd : d < N) (hm1 : 1 ≤ m) (hm : m ≤ n) (hFd : F d = v) (hx : r d = x0) (H : BI N n tn op pr goal r v x0 m F) :
    (op (tn d m) m = true → (F (tn d m) = -1 ∨ v + pr (tn d m) m < F (tn d m)) → BI N n tn op pr goal r v x0 (m + 1) (fun c => if c = tn d m then v + pr (tn d m) m else F c)) ∧
    (¬ (op (tn d m) m = true ∧ (F (tn d m) = -1 ∨ v + pr (tn d m) m < F (tn d m))) → BI N n tn op pr goal r v x0 (m + 1) F) := by
  obtain ⟨h1, h2, h3, h4⟩ := H
  obtain ⟨hc, hcc, hp1, hp9⟩ := hp.2.2.2 d m hd hm1 hm
  obtain ⟨-, -, hq1, hq9⟩ := hp.2.2.2 (tn d m) m hc hm1 hm
  have hdm : ∀ c m', c < N → 1 ≤ m' → m' ≤ n → dP F r v x0 (m + 1) (tn c m') m' → dP F r v x0 m (tn c m') m' ∨ (tn c m' = d ∧ m' = m) := fun c m' hc2 q1 q2 hx2 => by
    rcases hx2 with q | ⟨q, q3 | ⟨q3, q4⟩⟩
    · exact Or.inl (Or.inl q)
    · exact Or.inl (Or.inr ⟨q, Or.inl q3⟩)
    · by_cases e : m' = m
      · exact Or.inr ⟨hr _ _ ((hp.2.2.2 c m' hc2 q1 q2).1) hd (by rw [q3, hx]), e⟩
      · exact Or.inl (Or.inr ⟨q, Or.inr ⟨q3, by omega⟩⟩)
  constructor
  · intro hop hlt
    generalize hce : tn d m = c at *
    have hne : ∀ x, 0 ≤ F x → F x ≤ v → x ≠ c := fun x q1 q2 e => by
      rw [e] at q1 q2
      rcases hlt with q | q <;> omega
    have hF' : ∀ x, x ≠ c → (fun c' => if c' = c then v + (pr c m : Int) else F c') x = F x := fun x q => if_neg q
    have hFc : (fun c' => if c' = c then v + (pr c m : Int) else F c') c = v + pr c m := if_pos rfl
    have hdP : ∀ d' m', dP (fun c' => if c' = c then v + (pr c m : Int) else F c') r v x0 (m + 1) d' m' → dP F r v x0 (m + 1) d' m' ∧ d' ≠ c := fun d' m' q => by
      by_cases e : d' = c
      · subst e
        unfold dP at q
        dsimp only at q
        rw [if_pos rfl] at q
        rcases q with q | q
        · omega
        · omega
      · refine ⟨?_, e⟩
        unfold dP at q ⊢
        dsimp only at q
        rw [if_neg e] at q
        exact q
    refine ⟨fun x hx2 => ?_, ?_, fun x m' hx2 q1 q2 q3 q4 => ?_, fun x hx2 q => ?_⟩
    · by_cases e : x = c
      · subst e; rw [hFc]; right; omega
      · rw [hF' x e]; exact h1 x hx2
    · rw [hF' _ (hne goal (by omega) (by omega))]; exact h2
    · obtain ⟨g1, g2⟩ := hdP _ _ q4
      rw [hF' _ g2]
      rcases hdm x m' hx2 q1 q2 g1 with g | ⟨g3, g4⟩
      · obtain ⟨k1, k2⟩ := h3 x m' hx2 q1 q2 q3 g
        by_cases e : x = c
        · subst e
          rw [hFc]
          refine ⟨by omega, ?_⟩
          rcases hlt with q | q
          · exact absurd q k1
          · omega
        · rw [hF' x e]; exact ⟨k1, k2⟩
      · have e : x = c := by rw [← (hp.2.2.2 x m' hx2 q1 q2).2.1, g3, g4, hce]
        subst e
        rw [hFc, g3, hFd, g4]
        omega
    · by_cases e : x = c
      · subst e
        refine Or.inr ⟨m, hm1, hm, hop, ?_⟩
        rw [hcc, hF' d (hne d (by omega) (by omega)), hFd, hFc]
        omega
      · rw [hF' x e] at q ⊢
        rcases h4 x hx2 q with g | ⟨m', g1, g2, g3, g4, g5, g6⟩
        · exact Or.inl g
        · refine Or.inr ⟨m', g1, g2, g3, ?_⟩
          rw [hF' _ (hne _ g4 g5)]
          exact ⟨g4, g5, g6⟩
  · intro hno
    refine ⟨h1, h2, fun x m' hx2 q1 q2 q3 q4 => ?_, h4⟩
    rcases hdm x m' hx2 q1 q2 q4 with g | ⟨g3, g4⟩
    · exact h3 x m' hx2 q1 q2 q3 g
    · have e : x = tn d m := by rw [← (hp.2.2.2 x m' hx2 q1 q2).2.1, g3, g4]
      subst g4
      rw [e] at q3 ⊢
      rw [hcc, hFd]
      have h9 : ¬ (F (tn d m') = -1 ∨ v + (pr (tn d m') m' : Int) < F (tn d m')) := fun q => hno ⟨q3, q⟩
      constructor
      · intro q; exact h9 (Or.inl q)
      · by_cases q : F (tn d m') ≤ v + pr (tn d m') m'
        · exact q
        · exact absurd (Or.inr (by omega)) h9
/-- the next one of the level -/
theorem BI.next {v : Int} {x0 : Nat} (H : BI N n tn op pr goal r v x0 (n + 1) F) : BI N n tn op pr goal r v (x0 + 1) 1 F := by
  obtain ⟨h1, h2, h3, h4⟩ := H
  refine ⟨h1, h2, fun c m hc q1 q2 q3 q4 => h3 c m hc q1 q2 q3 ?_, h4⟩
  rcases q4 with q | ⟨q, q5 | ⟨q5, q6⟩⟩
  · exact Or.inl q
  · by_cases e : r (tn c m) = x0
    · exact Or.inr ⟨q, Or.inr ⟨e, by omega⟩⟩
    · exact Or.inr ⟨q, Or.inl (by omega)⟩
  · omega
/-- one that is not of the level -/
theorem BI.skip {v : Int} {x0 : Nat} (hp : Gp N n goal tn pr) (H : BI N n tn op pr goal r v x0 1 F) (hs : ∀ d, d < N → r d = x0 → F d ≠ v) : BI N n tn op pr goal r v (x0 + 1) 1 F := by
  obtain ⟨h1, h2, h3, h4⟩ := H
  refine ⟨h1, h2, fun c m hc q1 q2 q3 q4 => h3 c m hc q1 q2 q3 ?_, h4⟩
  rcases q4 with q | ⟨q, q5 | ⟨q5, q6⟩⟩
  · exact Or.inl q
  · by_cases e : r (tn c m) = x0
    · exact absurd q (hs _ (hp.2.2.2 c m hc q1 q2).1 e)
    · exact Or.inr ⟨q, Or.inl (by omega)⟩
  · omega
theorem BI.lev {v : Int} {M : Nat} (hp : Gp N n goal tn pr) (hM : ∀ d, d < N → r d < M) (H : BI N n tn op pr goal r v M 1 F) : BI N n tn op pr goal r (v + 1) 0 1 F := by
  obtain ⟨h1, h2, h3, h4⟩ := H
  refine ⟨h1, h2, fun c m hc q1 q2 q3 q4 => h3 c m hc q1 q2 q3 ?_, fun c hc q => ?_⟩
  · rcases q4 with q | ⟨q, q5 | ⟨q5, q6⟩⟩
    · by_cases e : F (tn c m) = v
      · exact Or.inr ⟨e, Or.inl (hM _ (hp.2.2.2 c m hc q1 q2).1)⟩
      · exact Or.inl ⟨q.1, by omega⟩
    · omega
    · omega
  · rcases h4 c hc q with g | ⟨m, g1, g2, g3, g4, g5, g6⟩
    · exact Or.inl g
    · exact Or.inr ⟨m, g1, g2, g3, g4, by omega, g6⟩
theorem cB_le {v : Int} {x0 : Nat} : cB N F r v x0 ≤ N := cn_le
theorem BI.fin {v top : Int} (hp : Gp N n goal tn pr) (H : BI N n tn op pr goal r v 0 1 F) (hT : ∀ c, c < N → F c ≤ top) (hv : top < v) (htop : top ≤ 34560) : IsC N n tn op pr goal F := by
  obtain ⟨h1, h2, h3, h4⟩ := H
  refine ⟨fun c hc => ?_, h2, fun c m hc q1 q2 q3 q4 => ?_, fun c hc q => ?_⟩
  · have := hT c hc
    rcases h1 c hc with g | g <;> omega
  · obtain ⟨hd, -, -, -⟩ := hp.2.2.2 c m hc q1 q2
    refine h3 c m hc q1 q2 q3 (Or.inl ?_)
    have := hT _ hd
    rcases h1 _ hd with g | g
    · exact absurd g q4
    · omega
  · rcases h4 c hc q with g | ⟨m, g1, g2, g3, g4, g5, g6⟩
    · exact Or.inl g
    · exact Or.inr ⟨m, g1, g2, g3, by omega, g6⟩
/-- at first -/
theorem BI.init (hg : goal < N) : BI N n tn op pr goal r 0 0 1 (fun c => if c = goal then 0 else -1) := by
  refine ⟨fun c _ => ?_, if_pos rfl, fun c m _ _ _ _ q => ?_, fun c _ q => ?_⟩
  · dsimp only; split <;> omega
  · unfold dP at q
    rcases q with q | ⟨q, q5 | ⟨q5, q6⟩⟩
    · omega
    · omega
    · omega
  · dsimp only at q
    split at q
    · rename_i e; exact Or.inl e
    · exact absurd rfl q
theorem BT.init (hg : goal < N) : BT N (fun c => if c = goal then 0 else -1) r 0 0 0 := by
  refine ⟨fun c _ => ?_, by omega, by omega⟩
  dsimp only; split <;> omega
/-- a write above v does not touch what was looked at -/
theorem cB_upd {v a : Int} {x0 c : Nat} (h0 : 0 ≤ v) (h1 : F c = -1 ∨ v < F c) (h2 : v < a) : cB N (fun x => if x = c then a else F x) r v x0 = cB N F r v x0 := by
  unfold cB
  refine cn_congr (fun d hd => ?_)
  by_cases e : d = c
  · have e1 : (fun x => if x = c then a else F x) d = a := if_pos e
    have g : ∀ y : Int, (v < y ∨ y = -1) → cbP y v (r d) x0 = false := fun y hy => by
      unfold cbP
      rw [← Bool.not_eq_true]
      simp only [Bool.or_eq_true, Bool.and_eq_true, decide_eq_true_eq]
      omega
    rw [e1, g a (Or.inl h2), g (F d) (by rw [e]; omega)]
  · have e1 : (fun x => if x = c then a else F x) d = F d := if_neg e
    rw [e1]
end BILLS
