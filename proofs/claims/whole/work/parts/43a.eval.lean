/-! ===== level 2: what a law's code is worth ===== -/
section EVAL
variable {tx : Nat → Nat} {L : Nat}
def fct (a b c d i : Nat) : Int := if i = 0 then (a : Int) else if i = 1 then (b : Int) else if i = 2 then (c : Int) else (d : Int)
/-- one step over a stack, the top first -/
def st1 (F : Nat → Int) (o : Nat × Nat) (st : List Int) : Option (List Int) :=
  if o.1 = 1 then (if st.length < 32 then some ((o.2 : Int) :: st) else none)
  else if o.1 = 2 then (if st.length < 32 then some (F o.2 :: st) else none)
  else if o.1 = 3 then (match st with
    | x :: r => some (b2i (decide (w32 x = 0)) :: r)
    | [] => none)
  else (match st with
    | y :: x :: r => some (fX12_both (o.1 : Int) x y :: r)
    | _ => none)
def rn (F : Nat → Int) : List (Nat × Nat) → List Int → Option (List Int)
  | [], st => some st
  | o :: q, st => (st1 F o st).bind (rn F q)
theorem rn_app {F : Nat → Int} : ∀ (p q : List (Nat × Nat)) (st : List Int), rn F (p ++ q) st = (rn F p st).bind (rn F q)
  | [], q, st => rfl
  | o :: p, q, st => by
    rw [List.cons_append, rn, rn]
    cases st1 F o st with
    | none => rfl
    | some s => exact rn_app p q s
def opO (o : Nat × Nat) : Prop := (o.1 = 1 ∧ o.2 < 10000) ∨ (o.1 = 2 ∧ o.2 < 4) ∨ (3 ≤ o.1 ∧ o.1 ≤ 10 ∧ o.2 = 0)
/-- a piece of code that puts one value onto the stack, at most m more high -/
def Seg (F : Nat → Int) (m : Nat) (q : List (Nat × Nat)) : Prop := (∀ o ∈ q, opO o) ∧ ∀ st : List Int, st.length + m ≤ 32 → ∃ v, rn F q st = some (v :: st)
theorem Seg.less {F : Nat → Int} {m m' : Nat} {q : List (Nat × Nat)} (h : Seg F m q) (hm : m ≤ m') : Seg F m' q := ⟨h.1, fun st hs => h.2 st (by omega)⟩
theorem Seg.op2 {F : Nat → Int} {m c : Nat} {p q : List (Nat × Nat)} (h1 : Seg F (m + 1) p) (h2 : Seg F m q) (hc : 4 ≤ c ∧ c ≤ 10) : Seg F (m + 1) (p ++ (q ++ [(c, 0)])) := by
  refine ⟨fun o ho => ?_, fun st hs => ?_⟩
  · rcases List.mem_append.mp ho with ho | ho
    · exact h1.1 o ho
    · rcases List.mem_append.mp ho with ho | ho
      · exact h2.1 o ho
      · rw [List.mem_singleton] at ho
        subst ho
        exact Or.inr (Or.inr ⟨by show 3 ≤ c; omega, hc.2, rfl⟩)
  · obtain ⟨v, hv⟩ := h1.2 st hs
    obtain ⟨w, hw⟩ := h2.2 (v :: st) (by rw [List.length_cons]; omega)
    refine ⟨fX12_both (c : Int) v w, ?_⟩
    rw [rn_app, hv, Option.bind_some, rn_app, hw, Option.bind_some, rn]
    unfold st1
    dsimp only
    rw [if_neg (by omega), if_neg (by omega), if_neg (by omega)]
    rfl
theorem Seg.neg {F : Nat → Int} {m : Nat} {q : List (Nat × Nat)} (h : Seg F m q) : Seg F m (q ++ [(3, 0)]) := by
  refine ⟨fun o ho => ?_, fun st hs => ?_⟩
  · rcases List.mem_append.mp ho with ho | ho
    · exact h.1 o ho
    · rw [List.mem_singleton] at ho
      subst ho
      exact Or.inr (Or.inr ⟨by show 3 ≤ 3; omega, by show 3 ≤ 10; omega, rfl⟩)
  · obtain ⟨v, hv⟩ := h.2 st hs
    exact ⟨b2i (decide (w32 v = 0)), by rw [rn_app, hv, Option.bind_some]; rfl⟩
def SgF (F : Nat → Int) (m : Nat) (f : PSt → PRz) : Prop := ∀ s t, f s = .inl t → ∃ q, t.2 = q.reverse ++ s.2 ∧ Seg F m q
theorem bnd_inl {r : PRz} {f : PSt → PRz} {t : PSt} (h : bnd r f = .inl t) : ∃ s, r = .inl s ∧ f s = .inl t := by
  cases r with
  | inr e => cases h
  | inl s => exact ⟨s, rfl, h⟩
variable {F : Nat → Int} {m : Nat} {rp : PSt → PRz}
theorem rev_op {p q : List (Nat × Nat)} {o : Nat × Nat} {c0 : List (Nat × Nat)} : o :: (q.reverse ++ (p.reverse ++ c0)) = (p ++ (q ++ [o])).reverse ++ c0 := by
  rw [List.reverse_append, List.reverse_append, List.reverse_singleton, List.append_assoc, List.append_assoc]; rfl
theorem aPL_sg (h : SgF F m rp) : ∀ f (s t : PSt) (c0 p : List (Nat × Nat)), s.2 = p.reverse ++ c0 → Seg F (m + 1) p → aPL tx L rp f s = .inl t → ∃ q, t.2 = q.reverse ++ c0 ∧ Seg F (m + 1) q
  | 0, s, t, c0, p, hs, hp, ht => by cases ht; exact ⟨p, hs, hp⟩
  | f + 1, s, t, c0, p, hs, hp, ht => by
    unfold aPL at ht
    split at ht
    · obtain ⟨u, hu, ht⟩ := bnd_inl ht
      obtain ⟨q, hq, hsq⟩ := h _ _ hu
      refine aPL_sg h f (psh (6, 0) u) t c0 (p ++ (q ++ [(6, 0)])) ?_ (hp.op2 hsq (by omega)) ht
      unfold psh
      rw [hq, hs, rev_op]
    · cases ht; exact ⟨p, hs, hp⟩
theorem aProd_sg (h : SgF F m rp) : SgF F (m + 1) (aProd tx L rp) := fun s t ht => by
  obtain ⟨u, hu, ht⟩ := bnd_inl ht
  obtain ⟨q, hq, hsq⟩ := h _ _ hu
  exact aPL_sg h _ u t s.2 q hq (hsq.less (by omega)) ht
theorem aSL_sg (h : SgF F m rp) : ∀ f (s t : PSt) (c0 p : List (Nat × Nat)), s.2 = p.reverse ++ c0 → Seg F (m + 2) p → aSL tx L rp f s = .inl t → ∃ q, t.2 = q.reverse ++ c0 ∧ Seg F (m + 2) q
  | 0, s, t, c0, p, hs, hp, ht => by cases ht; exact ⟨p, hs, hp⟩
  | f + 1, s, t, c0, p, hs, hp, ht => by
    unfold aSL at ht
    split at ht
    · obtain ⟨u, hu, ht⟩ := bnd_inl ht
      obtain ⟨q, hq, hsq⟩ := aProd_sg h _ _ hu
      refine aSL_sg h f _ t c0 (p ++ (q ++ [(if isS tx L s.1 43 = true then 4 else 5, 0)])) ?_ (hp.op2 hsq (by split <;> omega)) ht
      unfold psh
      rw [hq, hs, rev_op]
    · cases ht; exact ⟨p, hs, hp⟩
theorem aSum_sg (h : SgF F m rp) : SgF F (m + 2) (aSum tx L rp) := fun s t ht => by
  obtain ⟨u, hu, ht⟩ := bnd_inl ht
  obtain ⟨q, hq, hsq⟩ := aProd_sg h _ _ hu
  exact aSL_sg h _ u t s.2 q hq (hsq.less (by omega)) ht
theorem aTest_sg (h : SgF F m rp) : SgF F (m + 3) (aTest tx L rp) := fun s t ht => by
  obtain ⟨u, hu, ht⟩ := bnd_inl ht
  obtain ⟨p, hp, hsp⟩ := aSum_sg h _ _ hu
  split at ht
  · obtain ⟨w, hw, ht⟩ := bnd_inl ht
    obtain ⟨q, hq, hsq⟩ := aSum_sg h _ _ hw
    cases ht
    refine ⟨p ++ (q ++ [(if isS tx L u.1 60 = true then 7 else 8, 0)]), ?_, (hsp.less (by omega)).op2 hsq (by split <;> omega)⟩
    unfold psh
    dsimp only at hq ⊢
    rw [hq, hp, rev_op]
  · cases ht; exact ⟨p, hp, hsp.less (by omega)⟩
theorem aWL_sg (h : SgF F m rp) : ∀ f (s t : PSt) (c0 p : List (Nat × Nat)), s.2 = p.reverse ++ c0 → Seg F (m + 4) p → aWL tx L rp f s = .inl t → ∃ q, t.2 = q.reverse ++ c0 ∧ Seg F (m + 4) q
  | 0, s, t, c0, p, hs, hp, ht => by cases ht; exact ⟨p, hs, hp⟩
  | f + 1, s, t, c0, p, hs, hp, ht => by
    unfold aWL at ht
    split at ht
    · obtain ⟨u, hu, ht⟩ := bnd_inl ht
      obtain ⟨q, hq, hsq⟩ := aTest_sg h _ _ hu
      refine aWL_sg h f _ t c0 (p ++ (q ++ [(if isW tx L s.1 13 = true then 9 else 10, 0)])) ?_ (hp.op2 hsq (by split <;> omega)) ht
      unfold psh
      rw [hq, hs, rev_op]
    · cases ht; exact ⟨p, hs, hp⟩
theorem aWhole_sg (h : SgF F m rp) : SgF F (m + 4) (aWhole tx L rp) := fun s t ht => by
  obtain ⟨u, hu, ht⟩ := bnd_inl ht
  obtain ⟨q, hq, hsq⟩ := aTest_sg h _ _ hu
  exact aWL_sg h _ u t s.2 q hq (hsq.less (by omega)) ht
theorem leaf_sg {o : Nat × Nat} (ho : opO o) (h1 : o.1 = 1 ∨ o.1 = 2) (hm : 1 ≤ m) : Seg F m [o] := by
  refine ⟨fun x hx => by rw [List.mem_singleton] at hx; rw [hx]; exact ho, fun st hs => ?_⟩
  rcases h1 with h1 | h1
  · exact ⟨(o.2 : Int), by rw [rn]; unfold st1; rw [if_pos h1, if_pos (by omega)]; rfl⟩
  · exact ⟨F o.2, by rw [rn]; unfold st1; rw [if_neg (by omega), if_pos h1, if_pos (by omega)]; rfl⟩
theorem aPart_sg {rp : Nat → PSt → PRz} {d : Nat} (h : d < 5 → SgF F (4 * (5 - (d + 1)) + 1) (rp (d + 1))) : SgF F (4 * (5 - d) + 1) (aPart tx L rp d) := fun s t ht => by
  unfold aPart at ht
  split at ht
  rotate_left
  · cases ht
  rename_i c
  split at ht
  rotate_left
  · cases ht
  rename_i cd
  split at ht
  · obtain ⟨u, hu, ht⟩ := bnd_inl ht
    obtain ⟨q, hq, hsq⟩ := aWhole_sg (h cd) _ _ hu
    split at ht
    · cases ht; exact ⟨q, hq, hsq.less (by omega)⟩
    · cases ht
  · split at ht
    · obtain ⟨u, hu, ht⟩ := bnd_inl ht
      obtain ⟨q, hq, hsq⟩ := h cd _ _ hu
      cases ht
      refine ⟨q ++ [(3, 0)], ?_, hsq.neg.less (by omega)⟩
      unfold psh
      dsimp only at hq ⊢
      rw [hq, List.reverse_append]; rfl
    · split at ht
      · rename_i c3
        cases ht
        exact ⟨[(1, tNm tx L (tSt tx L s.1))], rfl, leaf_sg (Or.inl ⟨rfl, tNm_b c3⟩) (Or.inl rfl) (by omega)⟩
      · cases ht
        have hix := idx_lt (l := tWd tx L (tSt tx L s.1))
        exact ⟨[(2, idx (tWd tx L (tSt tx L s.1)) - 15)], rfl, leaf_sg (Or.inr (Or.inl ⟨rfl, by show idx (tWd tx L (tSt tx L s.1)) - 15 < 4; omega⟩)) (Or.inr rfl) (by omega)⟩
theorem aPN_sg : ∀ N d, SgF F (4 * (5 - d) + 1) (aPN tx L N d)
  | 0, _ => fun s t ht => by cases ht
  | N + 1, d => aPart_sg (fun _ => aPN_sg N (d + 1))
/-- a law's code -/
def CodO (c : Cod) : Prop := (∀ o ∈ c, opO o) ∧ ∀ F : Nat → Int, ∃ v, rn F c.reverse [] = some [v]
theorem aWhole_cod {j : Nat} {t : PSt} (h : aWhole tx L (aPN tx L 8 0) (j, []) = .inl t) : CodO t.2 := by
  have key : ∀ F : Nat → Int, (∀ o ∈ t.2, opO o) ∧ ∃ v, rn F t.2.reverse [] = some [v] := fun F => by
    obtain ⟨q, hq, hs1, hs2⟩ := aWhole_sg (F := F) (aPN_sg 8 0) _ _ h
    rw [List.append_nil] at hq
    obtain ⟨v, hv⟩ := hs2 [] (by show 0 + (4 * (5 - 0) + 1 + 4) ≤ 32; omega)
    rw [hq, List.reverse_reverse]
    exact ⟨fun o ho => hs1 o (List.mem_reverse.mp ho), v, hv⟩
  exact ⟨(key (fun _ => 0)).1, fun F => (key F).2⟩
/-- what a law says -/
def evL (c : Cod) : LawF := fun a b w d => if a < 1000 ∧ b < 1000 ∧ w < 1000 ∧ d < 1000 then (match rn (fct a b w d) c.reverse [] with
  | some (v :: _) => v
  | _ => 0) else 0
theorem evL_v {c : Cod} (h : CodO c) {a b w d : Nat} (hb : a < 1000 ∧ b < 1000 ∧ w < 1000 ∧ d < 1000) : rn (fct a b w d) c.reverse [] = some [evL c a b w d] := by
  obtain ⟨v, hv⟩ := h.2 (fct a b w d)
  unfold evL
  rw [if_pos hb, hv]
theorem both_nz {c a b : Int} : Nz (fX12_both c a b) := by
  have h1 : ∀ x : Int, Nz (w32 x) := fun x => ⟨w32_lo x, w32_hi x⟩
  have h2 : Nz 0 := ⟨by decide, by decide⟩
  have h3 : Nz 1 := ⟨by decide, by decide⟩
  unfold fX12_both
  simp only [lt]
  repeat' split
  all_goals first | exact h1 _ | exact h2 | exact h3
theorem rn_nz {F : Nat → Int} (hF : ∀ i, Nz (F i)) : ∀ (q : List (Nat × Nat)) (st st' : List Int), (∀ o ∈ q, opO o) → (∀ x ∈ st, Nz x) → rn F q st = some st' → ∀ x ∈ st', Nz x
  | [], st, st', _, hs, h => by cases h; exact hs
  | o :: q, st, st', ho, hs, h => by
    rw [rn] at h
    cases h1 : st1 F o st with
    | none => rw [h1] at h; cases h
    | some s2 =>
      rw [h1] at h
      refine rn_nz hF q s2 st' (fun x hx => ho x (List.mem_cons_of_mem _ hx)) ?_ h
      have hoo := ho o (List.mem_cons_self ..)
      unfold st1 at h1
      split at h1
      · rename_i c1
        split at h1
        · cases h1
          intro x hx
          rcases List.mem_cons.mp hx with e | hx
          · rw [e]
            rcases hoo with q1 | q1 | q1
            · exact ⟨by omega, by omega⟩
            · omega
            · omega
          · exact hs x hx
        · cases h1
      · split at h1
        · split at h1
          · cases h1
            intro x hx
            rcases List.mem_cons.mp hx with e | hx
            · rw [e]; exact hF _
            · exact hs x hx
          · cases h1
        · split at h1
          · split at h1
            · cases h1
              intro x hx
              rcases List.mem_cons.mp hx with e | hx
              · rw [e]
                cases decide (w32 _ = 0) <;> exact ⟨by decide, by decide⟩
              · exact hs x (List.mem_cons_of_mem _ hx)
            · cases h1
          · split at h1
            · cases h1
              intro x hx
              rcases List.mem_cons.mp hx with e | hx
              · rw [e]; exact both_nz
              · exact hs x (List.mem_cons_of_mem _ (List.mem_cons_of_mem _ hx))
            · cases h1
theorem fct_nz {a b w d : Nat} (hb : a < 1000 ∧ b < 1000 ∧ w < 1000 ∧ d < 1000) (i : Nat) : Nz (fct a b w d i) := by
  unfold fct Nz
  repeat' split
  all_goals omega
theorem evL_nz {c : Cod} (h : CodO c) : FN (evL c) := fun a b w d => by
  by_cases hb : a < 1000 ∧ b < 1000 ∧ w < 1000 ∧ d < 1000
  · exact rn_nz (fct_nz hb) _ _ _ (fun o ho => h.1 o (List.mem_reverse.mp ho)) (fun x hx => by cases hx) (evL_v h hb) _ (List.mem_singleton.mpr rfl)
  · unfold evL
    rw [if_neg hb]
    exact ⟨by decide, by decide⟩
def lawF (o : Option Cod) (dv : Int) : LawF := match o with
  | Option.none => fun _ _ _ _ => dv
  | some c => evL c
/-- the drafts' laws -/
def LwO (D : Dr) : Prop := (∀ c, D.bars = some c → CodO c) ∧ ∀ c, D.costs = some c → CodO c
theorem aStm_lw {s t : GSt} (h : LwO s.2) (ht : aStm tx L s = .inl t) : LwO t.2 := by
  have cake : ∀ t, aCake tx L s.2 s.1 = .inl t → LwO t.2 := fun t h2 => by
    unfold aCake at h2
    repeat (split at h2; · cases h2)
    cases h2
    exact h
  have law : ∀ b t, aLaw tx L s.2 b s.1 = .inl t → LwO t.2 := fun b t h2 => by
    unfold aLaw at h2
    cases hlaw : s.2.law b with
    | some c => rw [hlaw] at h2; cases h2
    | none =>
      rw [hlaw] at h2
      dsimp only at h2
      cases hr : aWhole tx L (aPN tx L 8 0) (s.1 + 1, []) with
      | inr e => rw [hr] at h2; cases h2
      | inl u =>
        rw [hr] at h2
        dsimp only at h2
        have hc := aWhole_cod hr
        split at h2
        · cases h2
          cases b with
          | true => exact ⟨fun c hc2 => by cases hc2; exact hc, h.2⟩
          | false => exact ⟨h.1, fun c hc2 => by cases hc2; exact hc⟩
        · cases h2
  unfold aStm at ht
  split at ht
  · exact cake t ht
  · split at ht
    · exact law _ t ht
    · split at ht
      · exact law _ t ht
      · cases ht
theorem aGL_lw : ∀ f (s t : GSt), LwO s.2 → aGL tx L f s = .inl t → LwO t.2
  | 0, s, t, h, ht => by cases ht; exact h
  | f + 1, s, t, h, ht => by
    unfold aGL at ht
    split at ht
    · cases ht; exact h
    · cases hst : aStm tx L s with
      | inr e => rw [hst] at ht; cases ht
      | inl u => rw [hst] at ht; exact aGL_lw f u t (aStm_lw h hst) ht
end EVAL
