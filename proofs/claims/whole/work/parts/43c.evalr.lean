/-! ===== level 2: the reference's laws ===== -/
section EVALR
variable {μ ν : Mem}
def CdA (b : Nat) : List (Nat × Nat) → Mem → Prop
  | [], _ => True
  | o :: c, μ => μ 82 (b + c.length) = ((o.1 + 16 * o.2 : Nat) : Int) ∧ CdA b c μ
theorem CdA.same {b : Nat} {c : Cod} (h : CdA b c μ) (e : ∀ i, i < c.length → ν 82 (b + i) = μ 82 (b + i)) : CdA b c ν := by
  induction c with
  | nil => trivial
  | cons o c ih => exact ⟨by rw [e _ (by rw [List.length_cons]; omega)]; exact h.1, ih h.2 (fun i hi => e i (by rw [List.length_cons]; omega))⟩
theorem CdA.app {b : Nat} {p q : Cod} (h : CdA b (p ++ q) μ) : CdA b q μ := by
  induction p with
  | nil => exact h
  | cons o p ih => exact ih h.2
/-- the copied code -/
theorem CdA.of {b : Nat} {c : Cod} (h : CdR b c μ) (e : ∀ i, i < b + c.length → ν 82 i = μ 82 (1100 + i)) : CdA b c ν := by
  induction c with
  | nil => trivial
  | cons o c ih => exact ⟨by rw [e _ (by rw [List.length_cons]; omega), ← Nat.add_assoc]; exact h.1, ih h.2 (fun i hi => e i (by rw [List.length_cons]; omega))⟩
def EnR : List Int → Mem → Prop
  | [], _ => True
  | x :: r, μ => μ 87 r.length = x ∧ EnR r μ
theorem EnR.same {st : List Int} (h : EnR st μ) (e : ∀ i, i < st.length → ν 87 i = μ 87 i) : EnR st ν := by
  induction st with
  | nil => trivial
  | cons x r ih => exact ⟨by rw [e _ (by rw [List.length_cons]; omega)]; exact h.1, ih h.2 (fun i hi => e i (by rw [List.length_cons]; omega))⟩
theorem EnR.up {st : List Int} {v : Int} (h : EnR st μ) : EnR (v :: st) (upd2 μ 87 st.length v) := ⟨upd2_at, h.same (fun i hi => upd2_nj (by omega))⟩
def FcR (μ : Mem) (F : Nat → Int) : Prop := ∀ i, i < 4 → μ 86 i = F i
theorem vstepR_ok {o : Nat × Nat} {st st' : List Int} {p : Nat} {fr : Int} {F : Nat → Int} (ho : opO o) (h : EnR st μ) (hF : FcR μ F) (hp : p < 2200) (hc : μ 82 p = ((o.1 + 16 * o.2 : Nat) : Int)) (hst : st1 F o st = some st') (hl : st.length ≤ 32) :
    Ok (fX12_worthAt_b4 fr (st.length : Int) (p : Int) μ) (fun r => ∃ ν, r = .inl ((st'.length : Int), ((p + 1 : Nat) : Int), ν) ∧ EnR st' ν ∧ st'.length ≤ 32 ∧ ∀ x, x ≠ 87 → ν x = μ x) := by
  have ei : (p : Int) + 1 = ((p + 1 : Nat) : Int) := by push_cast; rfl
  obtain ⟨oc, oa⟩ := o
  have hoc : oc ≤ 10 ∧ 1 ≤ oc ∧ oa < 10000 := by
    rcases ho with ⟨h1, h2⟩ | ⟨h1, h2⟩ | ⟨h1, h2, h4⟩ <;> dsimp only at * <;> omega
  dsimp only at hc
  have hr : i_rem (μ 82 p) 16 = (oc : Int) := by
    rw [hc, show (16 : Int) = ((16 : Nat) : Int) from rfl, i_rem_n (by omega) (by omega)]
    congr 1
    omega
  have hd : i_div (μ 82 p) 16 = (oa : Int) := by
    rw [hc, show (16 : Int) = ((16 : Nat) : Int) from rfl, i_div_n (by omega) (by omega)]
    congr 1
    omega
  have w1 : w32 1 = 1 := by decide
  have w2 : w32 2 = 2 := by decide
  have w3 : w32 3 = 3 := by decide
  have wp : w32 (p : Int) = p := w32_n (by omega)
  have ws : w32 (st.length : Int) = st.length := w32_n (by omega)
  have woc : w32 (oc : Int) = oc := w32_n (by omega)
  have woa : w32 (oa : Int) = oa := w32_n (by omega)
  unfold fX12_worthAt_b4 fX12_worthAt_j39 fX12_worthAt_j76
  simp only [lt]
  rw [w1, w2, w3, wp, Int.toNat_natCast, hr, hd, woc, woa, Int.toNat_natCast, ws, Int.toNat_natCast, gd_pos (by omega), if_neg (show ¬ (oc : Int) = 0 by omega), gd_pos (by omega)]
  rcases ho with ⟨h1, h2⟩ | ⟨h1, h2⟩ | ⟨h1, h2, h4⟩
  · dsimp only at h1 h2
    subst h1
    unfold st1 at hst
    rw [if_pos rfl] at hst
    dsimp only at hst
    split at hst
    · rename_i q
      cases hst
      rw [if_pos (by decide), if_pos (by decide), gd_pos (by omega), gd_pos (by omega), Ok_some, ei]
      exact ⟨_, by rw [List.length_cons]; push_cast; rfl, h.up, by rw [List.length_cons]; omega, fun x hx => upd2_ne hx⟩
    · cases hst
  · dsimp only at h1 h2
    subst h1
    unfold st1 at hst
    rw [if_neg (by omega), if_pos rfl] at hst
    dsimp only at hst
    split at hst
    · rename_i q
      cases hst
      rw [if_neg (by decide), if_pos (by decide), if_neg (by decide), gd_pos (by omega), gd_pos (by omega), gd_pos (by omega), Ok_some, ei, hF oa h2]
      exact ⟨_, by rw [List.length_cons]; push_cast; rfl, h.up, by rw [List.length_cons]; omega, fun x hx => upd2_ne hx⟩
    · cases hst
  · dsimp only at h1 h2 h4
    subst h4
    unfold st1 at hst
    dsimp only at hst
    rw [if_neg (by omega), if_neg (by omega)] at hst
    rw [if_neg (show ¬ (oc : Int) = 1 by omega), if_neg (show ¬ (oc : Int) = 2 by omega)]
    by_cases q3 : oc = 3
    · subst q3
      rw [if_pos rfl] at hst
      cases st with
      | nil => cases hst
      | cons x r =>
        dsimp only at hst
        cases hst
        rw [List.length_cons] at hl
        have e1 : ((x :: r).length : Int) - 1 = (r.length : Int) := by rw [List.length_cons]; omega
        have hv : (if w32 (μ 87 r.length) = 0 then true else false) = decide (w32 x = 0) := by
          rw [h.1]
          by_cases q : w32 x = 0
          · rw [if_pos q, decide_eq_true q]
          · rw [if_neg q, decide_eq_false q]
        rw [if_pos (by decide), e1, w32_n (a := r.length) (by omega), Int.toNat_natCast, gd_pos (by omega), gd_pos (by omega), hv, Ok_some, ei]
        exact ⟨_, rfl, h.2.up, by rw [List.length_cons]; omega, fun x hx => upd2_ne hx⟩
    · rw [if_neg q3] at hst
      rw [if_neg (show ¬ (oc : Int) = 3 by omega)]
      cases st with
      | nil => cases hst
      | cons y r =>
        cases r with
        | nil => cases hst
        | cons x r =>
          dsimp only at hst
          cases hst
          rw [List.length_cons, List.length_cons] at hl
          have e1 : ((y :: x :: r).length : Int) + -1 = ((r.length + 1 : Nat) : Int) := by rw [List.length_cons, List.length_cons]; omega
          have e2 : ((r.length + 1 : Nat) : Int) - 1 = (r.length : Int) := by omega
          have hy : μ 87 (r.length + 1) = y := h.1
          have hx : μ 87 r.length = x := h.2.1
          rw [e1, e2, w32_n (a := r.length) (by omega), w32_n (a := r.length + 1) (by omega), Int.toNat_natCast, Int.toNat_natCast, gd_pos (by omega), gd_pos (by omega), gd_pos (by omega), hx, hy, Ok_some, ei]
          exact ⟨_, rfl, h.2.2.up, by rw [List.length_cons]; omega, fun x hx => upd2_ne hx⟩
theorem wk_r {b : Nat} {c : Cod} (hO : CodO c) (hb : b + c.length < 1100) (hl : c.length ≤ 1000) (hcd : CdA b c μ) (h0 : μ 82 (b + c.length) = 0) : WK b (evL c) μ := by
  intro μ' e1 a w2 w d ha hb2 hw hd f0 f1 f2 f3
  have hv := evL_v hO (a := a) (b := w2) (w := w) (d := d) ⟨ha, hb2, hw, hd⟩
  have hF : FcR μ' (fct a w2 w d) := fun i hi => by
    have : i = 0 ∨ i = 1 ∨ i = 2 ∨ i = 3 := by omega
    rcases this with rfl | rfl | rfl | rfl
    · exact f0
    · exact f1
    · exact f2
    · exact f3
  have hcd' : CdA b c μ' := hcd.same (fun i _ => e1 _ (by omega))
  have h0' : μ' 82 (b + c.length) = 0 := (e1 _ hb).trans h0
  unfold fX12_worthAt
  refine Ok.then (loop_FU (Q := fun ν : Mem => EnR [evL c a w2 w d] ν ∧ ∀ x, x ≠ 87 → ν x = μ' x) c.length (fun (i : Nat) (s : Int × Int × Mem) => s.2.1 = ((b + i : Nat) : Int) ∧ (∀ x, x ≠ 87 → s.2.2 x = μ' x) ∧ ∃ p q st, c.reverse = p ++ q ∧ p.length = i ∧ rn (fct a w2 w d) q st = some [evL c a w2 w d] ∧ EnR st s.2.2 ∧ st.length ≤ 32 ∧ s.1 = st.length) 0 ⟨rfl, fun _ _ => rfl, [], c.reverse, [], rfl, rfl, hv, trivial, by show 0 ≤ 32; omega, rfl⟩ (by omega) (by omega) ?_ ?_) ?_
  · rintro i ⟨y, x, ρ⟩ hi ⟨e3, hV, p, q, st, hpq, hpl, hrn, hst, hsl, e4⟩
    dsimp only at e3 e4 hV hst ⊢
    subst e3
    subst e4
    have hlen : p.length + q.length = c.length := by rw [← List.length_append, ← hpq, List.length_reverse]
    cases q with
    | nil => rw [List.length_nil] at hlen; omega
    | cons o q' =>
      rw [rn] at hrn
      have ho : opO o := hO.1 o (List.mem_reverse.mp (by rw [hpq]; exact List.mem_append_right _ (List.mem_cons_self ..)))
      have hcc : c = q'.reverse ++ (o :: p.reverse) := by
        have : c.reverse.reverse = (p ++ o :: q').reverse := by rw [hpq]
        rw [List.reverse_reverse, List.reverse_append, List.reverse_cons, List.append_assoc] at this
        exact this
      have hat : μ' 82 (b + i) = ((o.1 + 16 * o.2 : Nat) : Int) := by
        have h1 := hcd'
        rw [hcc] at h1
        have h2 := h1.app
        have h3 := h2.1
        rw [List.length_reverse, hpl] at h3
        exact h3
      cases h1 : st1 (fct a w2 w d) o st with
      | none => rw [h1] at hrn; cases hrn
      | some st' =>
        rw [h1] at hrn
        refine Ok.imp (vstepR_ok ho hst (F := fct a w2 w d) (fun i hi => by rw [hV 86 (by omega)]; exact hF i hi) (p := b + i) (by omega) (by rw [hV 82 (by omega)]; exact hat) h1 hsl) ?_
        rintro r ⟨ν, rfl, g1, g2, g3⟩
        exact ⟨rfl, fun x hx => (g3 x hx).trans (hV x hx), p ++ [o], q', st', by rw [hpq, List.append_assoc]; rfl, by rw [List.length_append, hpl]; rfl, hrn, g1, g2, rfl⟩
  · rintro ⟨y, x, ρ⟩ ⟨e3, hV, p, q, st, hpq, hpl, hrn, hst, hsl, e4⟩
    dsimp only at e3 e4 hV hst ⊢
    subst e3
    subst e4
    have hlen : p.length + q.length = c.length := by rw [← List.length_append, ← hpq, List.length_reverse]
    cases q with
    | cons o q' => rw [List.length_cons] at hlen; omega
    | nil =>
      cases hrn
      unfold fX12_worthAt_b4
      have hz : i_rem (ρ 82 (b + c.length)) 16 = 0 := by
        rw [hV 82 (by omega), h0', show (16 : Int) = ((16 : Nat) : Int) from rfl, show (0 : Int) = ((0 : Nat) : Int) from rfl, i_rem_n (by omega) (by omega)]
      rw [w32_n (a := b + c.length) (by omega), Int.toNat_natCast, gd_pos (by omega), hz, if_pos (by decide), Ok_some]
      exact ⟨hst, hV⟩
  · rintro ρ ⟨hst, hV⟩
    rw [Ok_some]
    exact ⟨hst.1, hV⟩
end EVALR
