/-! ===== level 2: how many fit, where to look ===== -/
section TALLY
variable {n g q : Nat} {kd wd : Nat → Nat} {BE CE : LawF} {μ ν : Mem} {c : Nat} {cl : Nat → Nat × Nat × Bool}
def atB (kd : Nat → Nat) (n p k : Nat) (u : Bool) (c : Nat) : Bool := decide (pA n (c / 2 ^ ix kd n) p = k) && (uC kd c k == u)
def tyB (kd : Nat → Nat) (n q : Nat) (cl : Nat → Nat × Nat × Bool) (p k : Nat) (u : Bool) (c : Nat) : Bool := ftB kd n c q cl && atB kd n p k u c
/-- the tally after the stacks below m -/
def tyN (kd : Nat → Nat) (n q : Nat) (cl : Nat → Nat × Nat × Bool) (p k : Nat) (u : Bool) : Nat := cn (NN kd n) (tyB kd n q cl p k u)
theorem SC.same {k : Nat} (h : SC k q cl μ) (e1 : ν k = μ k) (e2 : ν (k + 1) = μ (k + 1)) : SC k q cl ν := ⟨by rw [e1]; exact h.1, fun i hi => by rw [e2]; exact h.2 i hi⟩
theorem Tb.of (h : Tb kd wd n BE CE μ) (e : ∀ x, 25 ≤ x → x ≤ 34 → x ≠ 27 → ν x = μ x) : Tb kd wd n BE CE ν := by
  obtain ⟨h1, h2, h3, h4, h5⟩ := h
  have e25 := e 25 (by omega) (by omega) (by omega)
  refine ⟨by rw [e25]; exact h1, h2.same e25 (e 26 (by omega) (by omega) (by omega)), fun r i hr hi => by rw [e 28 (by omega) (by omega) (by omega)]; exact h3 r i hr hi, fun r m a b d => ?_, fun st b a1 a2 a3 => ?_⟩
  · unfold TbE
    rw [e 29 (by omega) (by omega) (by omega), e 30 (by omega) (by omega) (by omega), e 31 (by omega) (by omega) (by omega), e 32 (by omega) (by omega) (by omega)]
    exact h4 r m a b d
  · unfold TbL
    rw [e 33 (by omega) (by omega) (by omega), e 34 (by omega) (by omega) (by omega)]
    exact h5 st b a1 a2 a3
theorem entry_c {p k : Nat} {u : Bool} : fX7_tallyEntry (p : Int) (k : Int) u = (((p * 5 + k) * 2 + (if u = true then 1 else 0) : Nat) : Int) := by
  unfold fX7_tallyEntry
  simp only [lt]
  cases u <;> push_cast <;> simp
/-- row 38 -/
def TyC (n : Nat) (f : Nat → Nat → Bool → Nat) (μ : Mem) : Prop := ∀ p k u, p < n → k < n → μ 38 ((p * 5 + k) * 2 + (if u = true then 1 else 0)) = (f p k u : Int)
theorem add_ok {f : Nat → Nat → Bool → Nat} (hn : n < 6) (hT : Tb kd wd n BE CE μ) (hc : c < NN kd n) (hf : TyC n f μ) :
    Ok (fX7_addToTally (c : Int) μ) (fun ν => (∀ x, x ≠ 38 → ν x = μ x) ∧ TyC n (fun p k u => f p k u + (if atB kd n p k u c = true then 1 else 0)) ν) := by
  have hd := div_lt (kd := kd) hc
  unfold fX7_addToTally
  refine Ok.bind ?_
  refine loop_FU n (fun (i : Nat) (s : Int × Mem) => s.1 = (i : Int) ∧ (∀ x, x ≠ 38 → s.2 x = μ x) ∧ TyC n (fun p k u => f p k u + (if (decide (p < i) && atB kd n p k u c) = true then 1 else 0)) s.2) 0 ⟨rfl, fun _ _ => rfl, fun p k u hp hk => ?_⟩ (by omega) (by omega) ?_ ?_
  · dsimp only
    rw [decide_eq_false (Nat.not_lt_zero p), Bool.false_and, if_neg (show ¬ false = true by decide)]; exact hf p k u hp hk
  · rintro i ⟨a, ρ⟩ hi ⟨e1, hD, hR⟩
    dsimp only at e1 hD hR ⊢
    subst e1
    have hTρ := hT.of (ν := ρ) (fun x _ _ _ => hD x (by omega))
    have hpb := pA_lt hn hd hi
    unfold fX7_addToTally_b2
    simp only [lt]
    have hci : fX7_cakeIn (c : Int) (i : Int) ρ = (pA n (c / 2 ^ ix kd n) i : Int) := by
      rw [cakeIn_ok hn hTρ hc ⟨by omega, by omega⟩]
      unfold thI
      rw [if_pos (by omega), Int.toNat_natCast]
    rw [hTρ.1, w32_n (a := i) (by omega), w32_n (a := n) (by omega), if_pos (by omega), hci, isUp_ok hn hTρ hc hpb, entry_c]
    generalize hk : pA n (c / 2 ^ ix kd n) i = k at hpb
    generalize hu : uC kd c k = u
    have hlt : (i * 5 + k) * 2 + (if u = true then 1 else 0) < 50 := by split <;> omega
    have hval := hR i k u hi hpb
    rw [at_n _ rfl (L := 50) rfl hlt (by omega), put_n _ rfl (L := 50) rfl hlt (by omega), hval, Ok_some]
    refine ⟨by push_cast; rfl, fun x hx => ?_, fun p k' u' hp hk' => ?_⟩
    · dsimp only
      rw [upd2_ne hx]; exact hD x hx
    · dsimp only
      rw [upd2_self]
      by_cases e : (p * 5 + k') * 2 + (if u' = true then 1 else 0) = (i * 5 + k) * 2 + (if u = true then 1 else 0)
      · have e' : p = i ∧ k' = k ∧ u' = u := by
          have : (if u' = true then 1 else 0) = (if u = true then 1 else 0) ∧ p = i ∧ k' = k := by
            cases u <;> cases u' <;> simp at e ⊢ <;> omega
          refine ⟨this.2.1, this.2.2, ?_⟩
          have h3 := this.1
          revert h3
          cases u <;> cases u' <;> decide
        obtain ⟨rfl, rfl, rfl⟩ := e'
        have hat : atB kd n p k' u' c = true := by
          unfold atB
          rw [hk, hu]; simp
        rw [if_pos rfl, hat, if_neg (show ¬ ((decide (p < p) && true) = true) by simp), if_pos (show (decide (p < p + 1) && true) = true by simp)]
        push_cast; rfl
      · rw [if_neg e]
        have hv := hR p k' u' hp hk'
        rw [hv]
        by_cases hpi : p = i
        · subst hpi
          have : atB kd n p k' u' c = false := by
            unfold atB
            rw [hk]
            by_cases e2 : k = k'
            · subst e2
              rw [hu]
              have : u ≠ u' := fun e3 => e (by rw [e3])
              cases u <;> cases u' <;> simp at this ⊢
            · simp [e2]
          rw [this]; simp
        · have : decide (p < i + 1) = decide (p < i) := by
            by_cases e3 : p < i
            · rw [decide_eq_true e3, decide_eq_true (by omega)]
            · rw [decide_eq_false e3, decide_eq_false (by omega)]
          rw [this]
  · rintro ⟨a, ρ⟩ ⟨e1, hD, hR⟩
    dsimp only at e1 hD hR ⊢
    subst e1
    have hTρ := hT.of (ν := ρ) (fun x _ _ _ => hD x (by omega))
    unfold fX7_addToTally_b2
    rw [hTρ.1, w32_n (a := n) (by omega), if_neg (by omega), Ok_some]
    show Ok _ _
    rw [Ok_some]
    refine ⟨hD, fun p k u hp hk => ?_⟩
    have := hR p k u hp hk
    dsimp only at this ⊢
    rw [this, decide_eq_true hp, Bool.true_and]
theorem fill_ok (hn : n < 6) (hT : Tb kd wd n BE CE μ) (hS : SC 41 q cl μ) (hO : SO n q cl) :
    Ok (fX11_fillTally μ) (fun o => o.1 = ((cn (NN kd n) (fun c => ftB kd n c q cl) : Nat) : Int) ∧ (∀ x, x ≠ 38 → o.2 x = μ x) ∧ TyC n (tyN kd n q cl) o.2) := by
  have hN := NN_le (kd := kd) hn
  have hfr : ∀ ρ : Mem, (∀ x, x ≠ 38 → ρ x = μ x) → Tb kd wd n BE CE ρ ∧ SC 41 q cl ρ := fun ρ hD => ⟨hT.of (fun x _ _ _ => hD x (by omega)), hS.same (hD 41 (by omega)) (hD 42 (by omega))⟩
  unfold fX11_fillTally fX7_clearTally
  simp only [lt]
  refine Ok.bind ?_
  refine loop_FU (NN kd n) (fun (i : Nat) (s : Int × Int × Mem) => s.1 = ((cn i (fun c => ftB kd n c q cl) : Nat) : Int) ∧ s.2.1 = (i : Int) ∧ (∀ x, x ≠ 38 → s.2.2 x = μ x) ∧ TyC n (fun p k u => cn i (tyB kd n q cl p k u)) s.2.2) 0 ⟨rfl, rfl, fun x hx => fill_ne hx, fun p k u hp hk => ?_⟩ (by omega) (by omega) ?_ ?_
  · dsimp only
    have hlt : (p * 5 + k) * 2 + (if u = true then 1 else 0) < 50 := by split <;> omega
    rw [fill_at hlt]; rfl
  · rintro i ⟨x, y, ρ⟩ hi ⟨e1, e2, hD, hR⟩
    dsimp only at e1 e2 hD hR ⊢
    subst e1 e2
    obtain ⟨hTρ, hSρ⟩ := hfr ρ hD
    have hcb : cn i (fun c => ftB kd n c q cl) ≤ i := cn_le
    unfold fX11_fillTally_b11
    rw [all_n hn hTρ.2.1, w32_n (a := i) (by omega), w32_n (a := NN kd n) (by omega), if_pos (by omega), fits_ok hn hTρ hi hSρ hO, Option.bind_some]
    by_cases hh : ftB kd n i q cl = true
    · rw [if_pos hh]
      refine Ok.then (add_ok hn hTρ hi hR) ?_
      rintro θ ⟨g1, g2⟩
      rw [Ok_some]
      refine ⟨?_, by push_cast; rfl, fun x hx => (g1 x hx).trans (hD x hx), fun p k u hp hk => ?_⟩
      · dsimp only
        rw [cn_succ, hh]; push_cast; rfl
      · have := g2 p k u hp hk
        dsimp only at this ⊢
        rw [this, cn_succ]
        unfold tyB
        rw [hh, Bool.true_and]
    · rw [if_neg hh, Ok_some]
      refine ⟨?_, by push_cast; rfl, hD, fun p k u hp hk => ?_⟩
      · dsimp only
        rw [cn_succ, if_neg hh]; rfl
      · have := hR p k u hp hk
        dsimp only at this ⊢
        rw [this, cn_succ]
        unfold tyB
        rw [eq_false_of_ne_true hh, Bool.false_and]; rfl
  · rintro ⟨x, y, ρ⟩ ⟨e1, e2, hD, hR⟩
    dsimp only at e1 e2 hD hR ⊢
    subst e1 e2
    obtain ⟨hTρ, hSρ⟩ := hfr ρ hD
    unfold fX11_fillTally_b11
    rw [all_n hn hTρ.2.1, w32_n (a := NN kd n) (by omega), if_neg (by omega), Ok_some]
    show Ok _ _
    rw [Ok_some]
    exact ⟨rfl, hD, hR⟩
theorem fit_ok (hn : n < 6) (hT : Tb kd wd n BE CE μ) (hS : SC 41 q cl μ) (hO : SO n q cl) : fX11_fit μ = some ((cn (NN kd n) (fun c => ftB kd n c q cl) : Nat) : Int) := by
  have hN := NN_le (kd := kd) hn
  apply Ok_val
  unfold fX11_fit
  refine Ok.bind ?_
  refine loop_FU (NN kd n) (fun (i : Nat) (s : Int × Int) => s.1 = ((cn i (fun c => ftB kd n c q cl) : Nat) : Int) ∧ s.2 = (i : Int)) 0 ⟨rfl, rfl⟩ (by omega) (by omega) ?_ ?_
  · rintro i ⟨x, y⟩ hi ⟨e1, e2⟩
    dsimp only at e1 e2 ⊢
    subst e1 e2
    unfold fX11_fit_b4
    rw [all_n hn hT.2.1, w32_n (a := i) (by omega), w32_n (a := NN kd n) (by omega), if_pos (by omega), fits_ok hn hT hi hS hO, Option.bind_some]
    by_cases hh : ftB kd n i q cl = true
    · rw [if_pos hh, Ok_some]
      refine ⟨?_, by push_cast; rfl⟩
      dsimp only
      rw [cn_succ, if_pos hh]; push_cast; rfl
    · rw [if_neg hh, Ok_some]
      refine ⟨?_, by push_cast; rfl⟩
      dsimp only
      rw [cn_succ, if_neg hh]; rfl
  · rintro ⟨x, y⟩ ⟨e1, e2⟩
    dsimp only at e1 e2 ⊢
    subst e1 e2
    unfold fX11_fit_b4
    rw [all_n hn hT.2.1, w32_n (a := NN kd n) (by omega), if_neg (by omega), Ok_some]
    show Ok _ _
    rw [Ok_some]
/-- the greatest entry of a place -/
def mtN (kd : Nat → Nat) (n q : Nat) (cl : Nat → Nat × Nat × Bool) (p : Nat) : Nat := mx n (fun k => max (tyN kd n q cl p k false) (tyN kd n q cl p k true))
def lookI (n : Nat) (M : Nat → Nat) (F : Nat) : Nat → Int × Nat
  | 0 => (-1, F)
  | p + 1 => if M p < (lookI n M F p).2 then ((p : Int), M p) else lookI n M F p
theorem lookI_b {M : Nat → Nat} {F : Nat} : ∀ p, (lookI n M F p).2 ≤ F
  | 0 => Nat.le_refl _
  | p + 1 => by
    have := lookI_b (M := M) (F := F) p
    unfold lookI
    split
    · dsimp only; omega
    · exact this
theorem imax_nn {a b : Nat} (ha : a < 100000) (hb : b < 100000) : imax (a : Int) (b : Int) = ((max a b : Nat) : Int) := by
  rw [imax_n (by omega) (by omega)]; omega
theorem tyN_le : ∀ {p k : Nat} {u : Bool}, tyN kd n q cl p k u ≤ NN kd n := fun {_ _ _} => cn_le
theorem mtN_le {p : Nat} : mtN kd n q cl p ≤ NN kd n := mx_le (fun k _ => by
  have h1 := tyN_le (kd := kd) (n := n) (q := q) (cl := cl) (p := p) (k := k) (u := false)
  have h2 := tyN_le (kd := kd) (n := n) (q := q) (cl := cl) (p := p) (k := k) (u := true)
  omega)
theorem most_c {p : Nat} (hn : n < 6) (h1 : μ 25 1 = n) (hf : TyC n (tyN kd n q cl) μ) (hp : p < n) : fX7_mostInTally (p : Int) μ = some (mtN kd n q cl p : Int) := by
  have hN := NN_le (kd := kd) hn
  apply Ok_val
  unfold fX7_mostInTally
  refine Ok.bind ?_
  refine loop_FU n (fun (i : Nat) (s : Int × Int) => s.1 = ((mx i (fun k => max (tyN kd n q cl p k false) (tyN kd n q cl p k true)) : Nat) : Int) ∧ s.2 = (i : Int)) 0 ⟨rfl, rfl⟩ (by omega) (by omega) ?_ ?_
  · rintro i ⟨x, y⟩ hi ⟨e1, e2⟩
    dsimp only at e1 e2 ⊢
    subst e1 e2
    have b1 := tyN_le (kd := kd) (n := n) (q := q) (cl := cl) (p := p) (k := i) (u := false)
    have b2 := tyN_le (kd := kd) (n := n) (q := q) (cl := cl) (p := p) (k := i) (u := true)
    have b3 : mx i (fun k => max (tyN kd n q cl p k false) (tyN kd n q cl p k true)) ≤ NN kd n := mx_le (fun k _ => by
      have h1 := tyN_le (kd := kd) (n := n) (q := q) (cl := cl) (p := p) (k := k) (u := false)
      have h2 := tyN_le (kd := kd) (n := n) (q := q) (cl := cl) (p := p) (k := k) (u := true)
      omega)
    have v1 := hf p i false hp hi
    have v2 := hf p i true hp hi
    unfold fX7_mostInTally_b4
    simp only [lt]
    rw [h1, w32_n (a := i) (by omega), w32_n (a := n) (by omega), if_pos (by omega), entry_c, entry_c, at_n _ rfl (L := 50) rfl (by rw [if_neg (by decide)]; omega) (by omega), at_n _ rfl (L := 50) rfl (by rw [if_pos rfl]; omega) (by omega), v1, v2, imax_nn (a := tyN kd n q cl p i false) (b := tyN kd n q cl p i true) (by omega) (by omega), imax_nn (by omega) (by omega), Ok_some]
    refine ⟨?_, by push_cast; rfl⟩
    dsimp only
    rw [mx]
  · rintro ⟨x, y⟩ ⟨e1, e2⟩
    dsimp only at e1 e2 ⊢
    subst e1 e2
    unfold fX7_mostInTally_b4
    rw [h1, w32_n (a := n) (by omega), if_neg (by omega), Ok_some]
    show Ok _ _
    rw [Ok_some]
    rfl
theorem look_ok (hn : n < 6) (hT : Tb kd wd n BE CE μ) (hS : SC 41 q cl μ) (hO : SO n q cl) :
    Ok (fX11_look μ) (fun o => o.1 = (lookI n (mtN kd n q cl) (cn (NN kd n) (fun c => ftB kd n c q cl)) n).1 ∧ ∀ x, x ≠ 38 → o.2 x = μ x) := by
  have hN := NN_le (kd := kd) hn
  unfold fX11_look
  refine Ok.then (fill_ok hn hT hS hO) ?_
  rintro ⟨F, ν⟩ ⟨e1, hD, hR⟩
  dsimp only at e1 hD hR ⊢
  subst e1
  have hF : cn (NN kd n) (fun c => ftB kd n c q cl) ≤ NN kd n := cn_le
  generalize cn (NN kd n) (fun c => ftB kd n c q cl) = F at hF ⊢
  have h1 : ν 25 1 = n := by rw [hD 25 (by omega)]; exact hT.1
  refine Ok.bind ?_
  refine loop_FU n (fun (i : Nat) (s : Int × Int × Int × Mem) => s.1 = (lookI n (mtN kd n q cl) F i).1 ∧ s.2.1 = ((lookI n (mtN kd n q cl) F i).2 : Int) ∧ s.2.2.1 = (i : Int) ∧ s.2.2.2 = ν) 0 ⟨rfl, rfl, rfl, rfl⟩ (by omega) (by omega) ?_ ?_
  · rintro i ⟨x, y, z, ρ⟩ hi ⟨e1, e2, e3, e4⟩
    dsimp only at e1 e2 e3 e4 ⊢
    subst e1 e2 e3 e4
    have hb := lookI_b (n := n) (M := mtN kd n q cl) (F := F) i
    have hm := mtN_le (kd := kd) (n := n) (q := q) (cl := cl) (p := i)
    unfold fX11_look_b9
    rw [h1, w32_n (a := i) (by omega), w32_n (a := n) (by omega), if_pos (by omega), most_c hn h1 hR hi, Option.bind_some, w32_n (a := mtN kd n q cl i) (by omega), w32_n (a := (lookI n (mtN kd n q cl) F i).2) (by omega)]
    by_cases hl : mtN kd n q cl i < (lookI n (mtN kd n q cl) F i).2
    · have e : lookI n (mtN kd n q cl) F (i + 1) = ((i : Int), mtN kd n q cl i) := by rw [lookI, if_pos hl]
      rw [if_pos (by omega), Ok_some]
      show _ ∧ _ ∧ _ ∧ _
      rw [e]
      exact ⟨rfl, rfl, by push_cast; rfl, rfl⟩
    · have e : lookI n (mtN kd n q cl) F (i + 1) = lookI n (mtN kd n q cl) F i := by rw [lookI, if_neg hl]
      rw [if_neg (by omega), Ok_some]
      show _ ∧ _ ∧ _ ∧ _
      rw [e]
      exact ⟨rfl, rfl, by push_cast; rfl, rfl⟩
  · rintro ⟨x, y, z, ρ⟩ ⟨e1, e2, e3, e4⟩
    dsimp only at e1 e2 e3 e4 ⊢
    subst e1 e2 e3 e4
    unfold fX11_look_b9
    rw [h1, w32_n (a := n) (by omega), if_neg (by omega), Ok_some]
    show Ok _ _
    rw [Ok_some]
    exact ⟨rfl, hD⟩
end TALLY
