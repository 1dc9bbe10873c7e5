/-! ===== level 2: both are worth the same ===== -/
section EVALC
variable {k : Nat} {μ ν : Mem} {F : Nat → Int}
/-- the class's stack -/
def EnC (k : Nat) : List Int → Mem → Prop
  | [], _ => True
  | x :: r, μ => μ (k + 2) r.length = x ∧ EnC k r μ
theorem EnC.same {st : List Int} (h : EnC k st μ) (e : ∀ i, i < st.length → ν (k + 2) i = μ (k + 2) i) : EnC k st ν := by
  induction st with
  | nil => trivial
  | cons x r ih => exact ⟨by rw [e _ (by rw [List.length_cons]; omega)]; exact h.1, ih h.2 (fun i hi => e i (by rw [List.length_cons]; omega))⟩
def StC (k : Nat) (st : List Int) (μ : Mem) : Prop := μ k 4 = st.length ∧ EnC k st μ
def Vf (k : Nat) (μ ν : Mem) : Prop := (∀ x, x ≠ k → x ≠ k + 2 → ν x = μ x) ∧ ∀ j, j ≠ 4 → ν k j = μ k j
theorem Vf.rf : Vf k μ μ := ⟨fun _ _ _ => rfl, fun _ _ => rfl⟩
theorem Vf.tr {a b c : Mem} (h1 : Vf k a b) (h2 : Vf k b c) : Vf k a c := ⟨fun x q1 q2 => (h2.1 x q1 q2).trans (h1.1 x q1 q2), fun j q => (h2.2 j q).trans (h1.2 j q)⟩
theorem kOk.al2 (h : kOk k) : alen (k + 2) = 32 := by rcases h with rfl | rfl | rfl | rfl <;> rfl
theorem push_v {st : List Int} {v : Int} (hk : kOk k) (h : StC k st μ) (hl : st.length < 32) : StC k (v :: st) (fX3_push k v μ) ∧ Vf k μ (fX3_push k v μ) := by
  unfold fX3_push
  simp only [lt]
  rw [h.1, w32_n (a := st.length) (by omega), show w32 32 = 32 from by decide, if_pos (by omega), put_n st.length rfl hk.al2 hl (by omega), upd2_ne (show k ≠ k + 2 by omega), h.1]
  refine ⟨⟨by rw [upd2_at, List.length_cons]; push_cast; rfl, by rw [upd2_ne (by omega), upd2_at], h.2.same (fun i hi => by rw [upd2_ne (by omega), upd2_nj (by omega)])⟩, fun x q1 q2 => by rw [upd2_ne q1, upd2_ne q2], fun j hj => by rw [upd2_nj hj, upd2_ne (by omega)]⟩
theorem pop_v {st : List Int} {v : Int} (hk : kOk k) (h : StC k (v :: st) μ) (hl : st.length < 32) : (fX3_pop k μ).1 = v ∧ StC k st (fX3_pop k μ).2 ∧ Vf k μ (fX3_pop k μ).2 := by
  have h4 : μ k 4 = ((st.length + 1 : Nat) : Int) := by rw [h.1, List.length_cons]
  unfold fX3_pop
  simp only [lt]
  have e : ((st.length + 1 : Nat) : Int) - 1 = (st.length : Int) := by omega
  rw [h4, w32_n (a := st.length + 1) (by omega), if_neg (by omega), e, upd2_at]
  refine ⟨?_, ⟨upd2_at, h.2.2.same (fun i hi => by dsimp only; rw [upd2_ne (by omega)])⟩, fun x q1 q2 => upd2_ne q1, fun j hj => upd2_nj hj⟩
  dsimp only
  rw [at_n st.length rfl hk.al2 hl (by omega), upd2_ne (by omega)]
  exact h.2.1
theorem CdC.app {a b : Cod} (h : CdC k (a ++ b) μ) : CdC k b μ := by
  induction a with
  | nil => exact h
  | cons o a ih => exact ih h.2
theorem jl4 (x y : Int) : fX3_joined (-10) x y = w32 (x + y) := by
  unfold fX3_joined
  simp only [lt]
  rw [if_neg (by decide), if_pos (by decide)]
theorem jr4 (x y : Int) : fX12_both 4 x y = w32 (x + y) := by
  unfold fX12_both
  simp only [lt]
  rw [if_pos (by decide)]
theorem jl5 (x y : Int) : fX3_joined (-11) x y = w32 (x - y) := by
  unfold fX3_joined
  simp only [lt]
  rw [if_pos (by decide)]
theorem jr5 (x y : Int) : fX12_both 5 x y = w32 (x - y) := by
  unfold fX12_both
  simp only [lt]
  rw [if_neg (by decide), if_pos (by decide)]
theorem jl6 (x y : Int) : fX3_joined (-12) x y = w32 (x * y) := by
  unfold fX3_joined
  simp only [lt]
  rw [if_neg (by decide), if_neg (by decide), if_neg (by decide), if_neg (by decide), if_neg (by decide), if_neg (by decide)]
theorem jr6 (x y : Int) : fX12_both 6 x y = w32 (x * y) := by
  unfold fX12_both
  simp only [lt]
  rw [if_neg (by decide), if_neg (by decide), if_pos (by decide)]
theorem jl7 (x y : Int) : fX3_joined (-8) x y = if w32 x < w32 y then 1 else 0 := by
  unfold fX3_joined
  simp only [lt]
  rw [if_neg (by decide), if_neg (by decide), if_neg (by decide), if_pos (by decide)]
theorem jr7 (x y : Int) : fX12_both 7 x y = if w32 x < w32 y then 1 else 0 := by
  unfold fX12_both
  simp only [lt]
  rw [if_neg (by decide), if_neg (by decide), if_neg (by decide), if_pos (by decide)]
theorem jl8 (x y : Int) : fX3_joined (-9) x y = if w32 x = w32 y then 1 else 0 := by
  unfold fX3_joined
  simp only [lt]
  rw [if_neg (by decide), if_neg (by decide), if_pos (by decide)]
theorem jr8 (x y : Int) : fX12_both 8 x y = if w32 x = w32 y then 1 else 0 := by
  unfold fX12_both
  simp only [lt]
  rw [if_neg (by decide), if_neg (by decide), if_neg (by decide), if_neg (by decide), if_pos (by decide)]
theorem jl9 (x y : Int) : fX3_joined (-6) x y = if w32 x = 0 then 0 else if w32 y = 0 then 0 else 1 := by
  unfold fX3_joined
  simp only [lt]
  rw [if_neg (by decide), if_neg (by decide), if_neg (by decide), if_neg (by decide), if_neg (by decide), if_pos (by decide)]
theorem jr9 (x y : Int) : fX12_both 9 x y = if w32 x = 0 then 0 else if w32 y = 0 then 0 else 1 := by
  unfold fX12_both
  simp only [lt]
  rw [if_neg (by decide), if_neg (by decide), if_neg (by decide), if_neg (by decide), if_neg (by decide), if_pos (by decide)]
theorem jl10 (x y : Int) : fX3_joined (-7) x y = if w32 x = 0 then if w32 y = 0 then 0 else 1 else 1 := by
  unfold fX3_joined
  simp only [lt]
  rw [if_neg (by decide), if_neg (by decide), if_neg (by decide), if_neg (by decide), if_pos (by decide)]
theorem jr10 (x y : Int) : fX12_both 10 x y = if w32 x = 0 then if w32 y = 0 then 0 else 1 else 1 := by
  unfold fX12_both
  simp only [lt]
  rw [if_neg (by decide), if_neg (by decide), if_neg (by decide), if_neg (by decide), if_neg (by decide), if_neg (by decide)]
theorem joined_v (c : Nat) (h1 : 4 ≤ c) (h2 : c ≤ 10) (x y : Int) : fX3_joined (clE (c, 0)) x y = fX12_both (c : Int) x y := by
  have hc : c = 4 ∨ c = 5 ∨ c = 6 ∨ c = 7 ∨ c = 8 ∨ c = 9 ∨ c = 10 := by omega
  rcases hc with rfl | rfl | rfl | rfl | rfl | rfl | rfl
  · exact (jl4 x y).trans (jr4 x y).symm
  · exact (jl5 x y).trans (jr5 x y).symm
  · exact (jl6 x y).trans (jr6 x y).symm
  · exact (jl7 x y).trans (jr7 x y).symm
  · exact (jl8 x y).trans (jr8 x y).symm
  · exact (jl9 x y).trans (jr9 x y).symm
  · exact (jl10 x y).trans (jr10 x y).symm
theorem clE_v : ∀ c : Nat, 4 ≤ c → c ≤ 10 → clE (c, 0) < -5 ∧ -13 < clE (c, 0) := by
  intro c h1 h2
  have hc : c = 4 ∨ c = 5 ∨ c = 6 ∨ c = 7 ∨ c = 8 ∨ c = 9 ∨ c = 10 := by omega
  rcases hc with rfl | rfl | rfl | rfl | rfl | rfl | rfl <;> decide
/-- one step of the class -/
theorem vstep_ok {o : Nat × Nat} {st st' : List Int} {i : Nat} {a b w d : Nat} (hk : kOk k) (ho : opO o) (h : StC k st μ) (h3 : ∃ m : Nat, μ k 3 = m ∧ m ≤ 1000 ∧ i < m) (hc : μ (k + 1) i = clE o) (hst : st1 (fct a b w d) o st = some st') (hl : st.length ≤ 32) :
    Ok (fX3_value_b20 k (a : Int) (b : Int) (w : Int) (d : Int) (i : Int) μ) (fun r => ∃ ν, r = .inl (((i + 1 : Nat) : Int), ν) ∧ StC k st' ν ∧ st'.length ≤ 32 ∧ Vf k μ ν) := by
  obtain ⟨m, hm, hmb, him⟩ := h3
  have ei : (i : Int) + 1 = ((i + 1 : Nat) : Int) := by push_cast; rfl
  unfold fX3_value_b20
  simp only [lt]
  rw [hm, w32_n (a := i) (by omega), w32_n (a := m) (by omega), if_pos (by omega), at_n i rfl hk.al (by omega) (by omega), hc, ei]
  obtain ⟨oc, oa⟩ := o
  rcases ho with ⟨h1, h2⟩ | ⟨h1, h2⟩ | ⟨h1, h2, h4⟩
  · dsimp only at h1 h2
    subst h1
    have hcl : clE (1, oa) = (oa : Int) := rfl
    unfold st1 at hst
    rw [if_pos rfl] at hst
    dsimp only at hst
    split at hst
    · rename_i q
      cases hst
      rw [hcl, w32_n (a := oa) (by omega), if_neg (by omega), if_neg (by omega), if_neg (by omega), if_neg (by omega), if_neg (by omega), if_neg (by omega), Ok_some]
      obtain ⟨p1, p2⟩ := push_v (v := (oa : Int)) hk h q
      exact ⟨_, rfl, p1, by rw [List.length_cons]; omega, p2⟩
    · cases hst
  · dsimp only at h1 h2
    subst h1
    have hcl : clE (2, oa) = -((oa : Int) + 1) := rfl
    unfold st1 at hst
    rw [if_neg (by omega), if_pos rfl] at hst
    dsimp only at hst
    split at hst
    · rename_i q
      cases hst
      rw [hcl, w32_eq (by omega) (by omega), if_neg (by omega)]
      have hoa : oa = 0 ∨ oa = 1 ∨ oa = 2 ∨ oa = 3 := by omega
      rcases hoa with rfl | rfl | rfl | rfl
      · rw [if_neg (by decide), if_neg (by decide), if_neg (by decide), if_pos (by decide), Ok_some]
        obtain ⟨p1, p2⟩ := push_v (v := (a : Int)) hk h q
        exact ⟨_, rfl, p1, by rw [List.length_cons]; omega, p2⟩
      · rw [if_neg (by decide), if_neg (by decide), if_pos (by decide), Ok_some]
        obtain ⟨p1, p2⟩ := push_v (v := (b : Int)) hk h q
        exact ⟨_, rfl, p1, by rw [List.length_cons]; omega, p2⟩
      · rw [if_neg (by decide), if_pos (by decide), Ok_some]
        obtain ⟨p1, p2⟩ := push_v (v := (w : Int)) hk h q
        exact ⟨_, rfl, p1, by rw [List.length_cons]; omega, p2⟩
      · rw [if_pos (by decide), Ok_some]
        obtain ⟨p1, p2⟩ := push_v (v := (d : Int)) hk h q
        exact ⟨_, rfl, p1, by rw [List.length_cons]; omega, p2⟩
    · cases hst
  · dsimp only at h1 h2 h4
    subst h4
    unfold st1 at hst
    dsimp only at hst
    rw [if_neg (by omega), if_neg (by omega)] at hst
    by_cases q3 : oc = 3
    · subst q3
      rw [if_pos rfl] at hst
      have hcl : clE (3, 0) = -5 := rfl
      cases st with
      | nil => cases hst
      | cons x r =>
        dsimp only at hst
        cases hst
        rw [List.length_cons] at hl
        obtain ⟨p1, p2, p3⟩ := pop_v hk h (by omega)
        obtain ⟨p4, p5⟩ := push_v (v := b2i (decide (w32 x = 0))) hk p2 (by omega)
        have hv : (if w32 (fX3_pop k μ).1 = 0 then true else false) = decide (w32 x = 0) := by
          rw [p1]
          by_cases q : w32 x = 0
          · rw [if_pos q, decide_eq_true q]
          · rw [if_neg q, decide_eq_false q]
        rw [hcl, if_pos (by decide), hv, Ok_some]
        exact ⟨_, rfl, p4, by rw [List.length_cons]; omega, p3.tr p5⟩
    · rw [if_neg q3] at hst
      have hj := joined_v oc (by omega) h2
      obtain ⟨c1, c2⟩ := clE_v oc (by omega) h2
      cases st with
      | nil => cases hst
      | cons y r =>
        cases r with
        | nil => cases hst
        | cons x r =>
          dsimp only at hst
          cases hst
          rw [List.length_cons, List.length_cons] at hl
          obtain ⟨p1, p2, p3⟩ := pop_v hk h (by rw [List.length_cons]; omega)
          obtain ⟨p4, p5, p6⟩ := pop_v hk p2 (by omega)
          obtain ⟨p7, p8⟩ := push_v (v := fX12_both (oc : Int) x y) hk p5 (by omega)
          rw [w32_eq (x := clE (oc, 0)) (by omega) (by omega), if_neg (by omega), if_neg (by omega), if_neg (by omega), if_neg (by omega), if_neg (by omega), if_pos (by omega), p1, p4, hj, Ok_some]
          exact ⟨_, rfl, p7, by rw [List.length_cons]; omega, (p3.tr p6).tr p8⟩
/-- the class's law is what its code says -/
theorem lk_c {c : Cod} (hk : kOk k) (hO : CodO c) (hl : c.length ≤ 1000) (h5 : μ k 5 = 1) (h3 : μ k 3 = c.length) (hcd : CdC k c μ) : LK k (evL c) μ := by
  intro μ' e1 e2 a b w d ha hb hw hd
  have hv := evL_v hO (a := a) (b := b) (w := w) (d := d) ⟨ha, hb, hw, hd⟩
  have h5' : μ' k 5 = 1 := (e1 5 (by omega)).trans h5
  have h3' : μ' k 3 = c.length := (e1 3 (by omega)).trans h3
  have hcd' : CdC k c μ' := hcd.same (fun i _ => by rw [e2])
  unfold fX3_value
  simp only [lt]
  rw [h5', if_pos (by decide)]
  have hVt : Vf k μ' (upd2 μ' k 4 0) := ⟨fun x q _ => upd2_ne q, fun j q => upd2_nj q⟩
  refine Ok.then (loop_FU (Q := fun ν : Mem => StC k [evL c a b w d] ν ∧ Vf k μ' ν) c.length (fun (i : Nat) (s : Int × Mem) => s.1 = (i : Int) ∧ Vf k μ' s.2 ∧ ∃ p q st, c.reverse = p ++ q ∧ p.length = i ∧ rn (fct a b w d) q st = some [evL c a b w d] ∧ StC k st s.2 ∧ st.length ≤ 32) 0 ⟨rfl, hVt, [], c.reverse, [], rfl, rfl, hv, ⟨upd2_at, trivial⟩, by show 0 ≤ 32; omega⟩ (by omega) (by omega) ?_ ?_) ?_
  · rintro i ⟨x, ρ⟩ hi ⟨e3, hV, p, q, st, hpq, hpl, hrn, hst, hsl⟩
    dsimp only at e3 hV hst ⊢
    subst e3
    have hlen : p.length + q.length = c.length := by rw [← List.length_append, ← hpq, List.length_reverse]
    cases q with
    | nil => rw [List.length_nil] at hlen; omega
    | cons o q' =>
      rw [rn] at hrn
      have ho : opO o := hO.1 o (List.mem_reverse.mp (by rw [hpq]; exact List.mem_append_right _ (List.mem_cons_self ..)))
      have hcc : c = q'.reverse ++ (o :: p.reverse) := by
        have : c.reverse.reverse = (p ++ o :: q').reverse := by rw [hpq]
        rw [List.reverse_reverse, List.reverse_append, List.reverse_cons, List.append_assoc] at this
        exact this
      have hat : μ' (k + 1) i = clE o := by
        have h1 := hcd'
        rw [hcc] at h1
        have h2 := h1.app
        have h3 := h2.1
        rw [List.length_reverse, hpl] at h3
        exact h3
      cases h1 : st1 (fct a b w d) o st with
      | none => rw [h1] at hrn; cases hrn
      | some st' =>
        rw [h1] at hrn
        refine Ok.imp (vstep_ok hk ho hst ⟨c.length, (hV.2 3 (by omega)).trans h3', hl, by omega⟩ (by rw [hV.1 (k + 1) (by omega) (by omega)]; exact hat) h1 hsl) ?_
        rintro r ⟨ν, rfl, g1, g2, g3⟩
        exact ⟨rfl, hV.tr g3, p ++ [o], q', st', by rw [hpq, List.append_assoc]; rfl, by rw [List.length_append, hpl]; rfl, hrn, g1, g2⟩
  · rintro ⟨x, ρ⟩ ⟨e3, hV, p, q, st, hpq, hpl, hrn, hst, hsl⟩
    dsimp only at e3 hV hst ⊢
    subst e3
    have hlen : p.length + q.length = c.length := by rw [← List.length_append, ← hpq, List.length_reverse]
    cases q with
    | cons o q' => rw [List.length_cons] at hlen; omega
    | nil =>
      cases hrn
      unfold fX3_value_b20
      rw [hV.2 3 (by omega), h3', if_neg (by omega), Ok_some]
      exact ⟨hst, hV⟩
  · rintro ρ ⟨hst, hV⟩
    obtain ⟨p1, p2, p3⟩ := pop_v hk hst (by show 0 < 32; omega)
    rw [Ok_some]
    have hf := hV.tr p3
    exact ⟨p1, hf.1, hf.2⟩
theorem lk_d {dv : Int} (h5 : μ k 5 = 0) (h0 : μ k 0 = dv) : LK k (fun _ _ _ _ => dv) μ := by
  intro μ' e1 e2 a b w d _ _ _ _
  unfold fX3_value
  rw [e1 5 (by omega), h5, if_neg (by decide), Ok_some]
  exact ⟨(e1 0 (by omega)).trans h0, fun _ _ _ => rfl, fun _ _ => rfl⟩
end EVALC
