/-! ===== level 2: the reference reads laws, and a whole griddle ===== -/
section RGRID3
variable {tx : Nat → Nat} {L tot : Nat} {μ ν : Mem}
def lwi (b : Bool) : Nat := if b = true then 0 else 1
theorem law_r {D : Dr} {b : Bool} (h : DrR D tot μ) : LwR (21 + lwi b) (D.law b) tot μ := by
  cases b with
  | true => exact h.2.2.1
  | false => exact h.2.2.2
theorem LwR.up {i tot' : Nat} {o : Option Cod} (h : LwR i o tot μ) (ht : tot ≤ tot') (e81 : ν 81 i = μ 81 i) (e82 : ∀ k, k < 1100 + tot → ν 82 k = μ 82 k) : LwR i o tot' ν := by
  cases o with
  | none => exact e81.trans h
  | some c =>
    obtain ⟨b, h1, h2, h3, h4⟩ := h
    exact ⟨b, e81.trans h1, h2.same (fun k hk => e82 k (by omega)), by rw [e82 _ (by omega)]; exact h3, by omega⟩
theorem tell_r {D : Dr} {b : Bool} {c : Cod} {tot' : Nat} (h : DrR D tot μ) (ht : tot ≤ tot') (e81 : ∀ i, i ≠ 21 + lwi b → ν 81 i = μ 81 i) (e83 : ∀ i, ν 83 i = μ 83 i) (e82 : ∀ k, k < 1100 + tot → ν 82 k = μ 82 k) (hl : LwR (21 + lwi b) (some c) tot' ν) : DrR (D.tell b c) tot' ν := by
  obtain ⟨h1, h2, h3, h4⟩ := h
  have hb : lwi b = 0 ∨ lwi b = 1 := by cases b; exact Or.inr rfl; exact Or.inl rfl
  refine ⟨(e81 20 (by omega)).trans h1, fun i hi => ?_, ?_, ?_⟩
  · obtain ⟨a1, a2, a3, a4⟩ := h2 i hi
    exact ⟨(e81 _ (by omega)).trans a1, (e81 _ (by omega)).trans a2, (e81 _ (by omega)).trans a3, (e83 _).trans a4⟩
  · cases b with
    | true => exact hl
    | false => exact h3.up ht (e81 21 (by show 21 ≠ 22; omega)) e82
  · cases b with
    | false => exact hl
    | true => exact h4.up ht (e81 22 (by show 22 ≠ 21; omega)) e82
theorem rlaw_ok {j : Nat} {D : Dr} (h : RG tx L tot (j, D) μ) (hn1 : isW tx L j 1 = false) : Ok ((fX12_readLaw μ).bind fun μ10 => (fX12_takeSign 59 μ10).bind fun μ11 => some μ11) (fun o => OutH tx L (aStm tx L (j, D)) o ∧ Rf μ o) := by
  obtain ⟨hS, hm, hd, hO⟩ := id h
  dsimp only at hS hm hd hO
  have hb := hS.b
  have hL := hS.1.2.2
  have h8 := hS.2.2.2.1
  have h7 : μ 75 7 = (j : Int) := hS.2.2.1
  have h12 : μ 75 12 = (tot : Int) := hS.2.2.2.2.1
  have hw := wI_lt (tx := tx) (L := L) (j := j)
  dsimp only at hb
  have hwl := wordHere_i (fr := 4) (mn := 2) hS (by omega)
  dsimp only at hwl
  rw [wh_law _ hw] at hwl
  rw [show ((4 : Nat) : Int) = 4 from rfl, show ((2 : Nat) : Int) = 2 from rfl] at hwl
  -- a fault: then nothing more
  have badO : ∀ {e w : Nat} {v : Int}, 1 ≤ w → w ≤ 5 → e = er tx L w j → Ok (((fX12_wrong (w : Int) μ).bind fun μ14 => fX12_readLaw_j36 v μ14).bind fun μ12 => (fX12_takeSign 59 μ12).bind fun μ13 => some μ13) (fun o => OutH tx L (.inr e) o ∧ Rf μ o) := fun {e w v} hw1 hw5 he => by
    subst he
    rw [Option.bind_assoc]
    refine Ok.then (rwrong_ok (w := w) (m := 0) hS ⟨hw1, hw5⟩ (by show tot + 0 + 0 ≤ j; omega)) ?_
    rintro ν ⟨g1, g2⟩
    have e8 := g1.2.1
    have e0 := g1.2.2.1
    unfold fX12_readLaw_j36
    rw [e8, if_neg (show ¬ w32 ((er tx L w (j, ([] : Cod)).1 : Nat) : Int) ≤ 0 by rw [w32_n (by omega)]; omega), Option.bind_some, takeSign_e g1, Option.bind_some, Ok_some]
    exact ⟨g1.b0, g2.rfr⟩
  -- a law
  have go : ∀ b : Bool, wI tx L j = (if b = true then 3 else 4) → aStm tx L (j, D) = aLaw tx L D b j → Ok ((fX12_readLaw μ).bind fun μ10 => (fX12_takeSign 59 μ10).bind fun μ11 => some μ11) (fun o => OutH tx L (aStm tx L (j, D)) o ∧ Rf μ o) := fun b hwb hst => by
    have hp : tSt tx L j < L := wI_pos (by rw [hwb]; split <;> omega)
    have hlb : lwi b ≤ 1 := by unfold lwi; split <;> omega
    have hW : (if wI tx L j = 3 then (0 : Int) else if wI tx L j = 4 then 1 else -1) = (lwi b : Int) := by
      rw [hwb]; cases b <;> rfl
    rw [hW] at hwl
    have hlr := law_r (b := b) hd
    rw [hst]
    unfold fX12_readLaw aLaw
    have e21 : (21 : Int) + (lwi b : Int) = ((21 + lwi b : Nat) : Int) := by omega
    rw [hwl, Option.bind_some, w32_n (a := lwi b) (by omega), if_neg (by omega), e21, w32_n (a := 21 + lwi b) (by omega), gd_pos (by omega), Int.toNat_natCast]
    cases hlaw : D.law b with
    | some c =>
      rw [hlaw] at hlr
      obtain ⟨b0, q1, q2, q3, q4⟩ := hlr
      rw [q1, w32_n (a := b0) (by omega), if_neg (by omega)]
      exact badO (w := 3) (by omega) (by omega) rfl
    | none =>
      rw [hlaw] at hlr
      have q1 : μ 81 (21 + lwi b) = -1 := hlr
      rw [q1, w32_m1, if_pos (by omega)]
      unfold fX12_readLaw_j36
      simp only [lt]
      rw [if_pos (show w32 (μ 75 8) ≤ 0 by rw [h8]; decide), h7, e21, w32_n (a := 21 + lwi b) (by omega), gd_pos (by omega), Int.toNat_natCast, upd2_nj (show 12 ≠ 7 by omega), h12]
      have hSa := hS.next hp
      dsimp only at hSa
      rw [h7] at hSa
      have hSb : RS tx L tot (j + 1, []) (upd2 (upd2 μ 75 7 ((j : Int) + 1)) 81 (21 + lwi b) (tot : Int)) := hSa.f81 (fun x q => upd2_ne q)
      have eb : ∀ x, x ≠ 75 → x ≠ 81 → upd2 (upd2 μ 75 7 ((j : Int) + 1)) 81 (21 + lwi b) (tot : Int) x = μ x := fun x q1 q2 => by rw [upd2_ne q2, upd2_ne q1]
      have eb5 : ∀ i, i ≠ 7 → upd2 (upd2 μ 75 7 ((j : Int) + 1)) 81 (21 + lwi b) (tot : Int) 75 i = μ 75 i := fun i q => by rw [upd2_ne (by omega), upd2_nj q]
      have eb81 : ∀ i, i ≠ 21 + lwi b → upd2 (upd2 μ 75 7 ((j : Int) + 1)) 81 (21 + lwi b) (tot : Int) 81 i = μ 81 i := fun i q => by rw [upd2_nj q, upd2_ne (by omega)]
      have ebt : upd2 (upd2 μ 75 7 ((j : Int) + 1)) 81 (21 + lwi b) (tot : Int) 81 (21 + lwi b) = tot := upd2_at
      generalize upd2 (upd2 μ 75 7 ((j : Int) + 1)) 81 (21 + lwi b) (tot : Int) = μ9 at hSb eb eb5 eb81 ebt ⊢
      have hR9 : Rf μ μ9 := ⟨fun x q1 q2 _ _ => eb x q1 q2, fun i q _ _ => eb5 i q, fun i hi => eb81 i (by omega), fun i _ => by rw [eb 82 (by omega) (by omega)], fun i _ => by rw [eb 83 (by omega) (by omega)]⟩
      unfold fX12_wholeC
      have hN := rpartN_ok (tx := tx) (L := L) (base := tot) 8 0 (by omega) (by omega)
      rw [show ((0 : Nat) : Int) = 0 from rfl] at hN
      rw [Option.bind_assoc]
      refine Ok.then (rwhole_ok (rpR := fX12_takePartN 8) (d := 0) hN (aPN_g 8 0) (j + 1, []) μ9 1 hSb (by show tot + 0 + 1 ≤ j + 1; omega)) ?_
      rintro μ10 ⟨c3, c4⟩
      have hgd := aWhole_g (aPN_g (tx := tx) (L := L) 8 0) (j + 1, []) (Rch.next hS.2.1 hp)
      cases hr : aWhole tx L (aPN tx L 8 0) (j + 1, []) with
      | inr e =>
        rw [hr] at c3
        have c3' : RErr tx L tot e (0 + 1) μ10 := c3
        rw [Option.bind_assoc]
        have hem := remit_e (c := 0) (a := 0) c3'
        rw [show ((0 : Nat) : Int) = 0 from rfl] at hem
        refine Ok.then hem ?_
        rintro μ11 ⟨k1, k2⟩
        rw [Option.bind_some, takeSign_e k1, Option.bind_some, Ok_some]
        exact ⟨k1.b0, hR9.tr (c4.tr k2).rfr⟩
      | inl t =>
        rw [hr] at c3 hgd
        have c3' : RS tx L tot t μ10 := c3
        obtain ⟨d1, d2, d3, d4⟩ := hgd
        dsimp only at d1 d3
        have htb := c3'.b
        have d3' : t.2.length + (j + 1) ≤ t.1 := by
          have : ([] : Cod).length = 0 := rfl
          omega
        rw [Option.bind_assoc]
        have hem := remit_ok (c := 0) (a := 0) c3' (by omega)
        rw [show ((0 : Nat) : Int) = 0 from rfl] at hem
        refine Ok.then hem ?_
        rintro μ11 ⟨k1, k2⟩
        rw [Option.bind_some]
        obtain ⟨r1, r2, r3, r4, r5, r6⟩ := k1
        have hcd : μ11 82 (1100 + tot + t.2.length) = ((0 + 16 * 0 : Nat) : Int) ∧ CdR tot t.2 μ11 := r6
        have r5' : μ11 75 12 = ((tot + t.2.length + 1 + 0 : Nat) : Int) := by
          rw [r5]
          unfold psh
          rw [List.length_cons]; rfl
        have hS11 : RS tx L (tot + t.2.length + 1) (t.1, []) μ11 := ⟨r1, r2, r3, r4, r5', trivial⟩
        have hPP := c4.tr k2
        have hd11 : DrR (D.tell b t.2) (tot + t.2.length + 1) μ11 := tell_r (b := b) hd (by omega) (fun i hi => by rw [hPP.1 81 (by omega) (by omega)]; exact eb81 i hi) (fun i => by rw [hPP.1 83 (by omega) (by omega), eb 83 (by omega) (by omega)]) (fun k hk => by rw [hPP.2.2 k hk, eb 82 (by omega) (by omega)]) ⟨tot, by rw [hPP.1 81 (by omega) (by omega)]; exact ebt, hcd.2, hcd.1, by omega⟩
        rw [show (59 : Int) = ((59 : Nat) : Int) from rfl]
        refine Ok.then (rtake_ok (c := 59) (m := 0) hS11 (by omega) (by show tot + t.2.length + 1 + 0 + 0 ≤ t.1; omega)) ?_
        rintro ν ⟨g1, g2⟩
        rw [Ok_some]
        refine ⟨?_, hR9.tr (hPP.rfr.tr g2.rfr)⟩
        dsimp only at g1 ⊢
        by_cases c8 : isS tx L t.1 59 = true
        · rw [if_pos c8] at g1 ⊢
          exact ⟨tot + t.2.length + 1, g1, by show tot + t.2.length + 1 ≤ t.1 + 1; omega, hd11.pr g2, hO⟩
        · rw [if_neg c8] at g1 ⊢
          exact RErr.b0 g1
  have hst : aStm tx L (j, D) = if isW tx L j 3 = true then aLaw tx L D true j else if isW tx L j 4 = true then aLaw tx L D false j else .inr (er tx L 1 j) := by
    unfold aStm
    dsimp only
    rw [if_neg (by rw [hn1]; decide)]
  by_cases c3 : isW tx L j 3 = true
  · have hw3 := of_decide_eq_true ((isW_wI (tx := tx) (L := L) (j := j) (i := 3) (by omega)).symm.trans c3)
    exact go true hw3 (by rw [hst, if_pos c3])
  by_cases c4 : isW tx L j 4 = true
  · have hw4 := of_decide_eq_true ((isW_wI (tx := tx) (L := L) (j := j) (i := 4) (by omega)).symm.trans c4)
    exact go false hw4 (by rw [hst, if_neg c3, if_pos c4])
  · rw [hst, if_neg c3, if_neg c4]
    have n3 : ¬ wI tx L j = 3 := fun q => c3 (by rw [isW_wI (by omega)]; exact decide_eq_true q)
    have n4 : ¬ wI tx L j = 4 := fun q => c4 (by rw [isW_wI (by omega)]; exact decide_eq_true q)
    rw [if_neg n3, if_neg n4] at hwl
    unfold fX12_readLaw
    rw [hwl, Option.bind_some, w32_m1, if_pos (by omega)]
    exact badO (w := 1) (by omega) (by omega) rfl
/-- the whole text -/
theorem rgl_ok {s : GSt} (h : RG tx L tot s μ) (h0 : s.1 = 0) : Ok (loopN (fun s => fX12_griddle_b20 s) FU μ) (fun o => OutH tx L (aGL tx L (L + 2) s) o ∧ Rf μ o) := by
  refine loop_I (Q := fun o : Mem => OutH tx L (aGL tx L (L + 2) s) o ∧ Rf μ o) _ (fun t : Mem => if t 75 8 = 0 then 2001 - (t 75 7).toNat else 0) (fun t : Mem => Rf μ t ∧ ((∃ (f tot : Nat) (u : GSt), RG tx L tot u t ∧ L + 2 ≤ f + u.1 ∧ aGL tx L f u = aGL tx L (L + 2) s) ∨ ∃ e, RErr tx L 0 e 0 t ∧ aGL tx L (L + 2) s = .inr e)) ⟨.rf, Or.inl ⟨L + 2, tot, s, h, by omega, rfl⟩⟩ (by split <;> omega) ?_
  rintro ρ ⟨hP, hcase⟩
  unfold fX12_griddle_b20
  rcases hcase with ⟨f, tt, u, hu, hf, ha⟩ | ⟨e, hE, ha⟩
  rotate_left
  · have e8 := hE.2.1
    have e0 := hE.2.2.1
    rw [if_neg (show ¬ w32 (ρ 75 8) = 0 by rw [e8, w32_n (by omega)]; omega), Ok_some]
    refine ⟨?_, hP⟩
    rw [ha]; exact hE
  have huL := hu.1.2.1.leL
  have hub := hu.1.b
  have h8 := hu.1.2.2.2.1
  have h7 : ρ 75 7 = (u.1 : Int) := hu.1.2.2.1
  have h77 : ρ 77 u.1 = tKd tx L (tSt tx L u.1) := hu.1.tk.1
  have hkb := tKd_b (tx := tx) (L := L) (s := tSt tx L u.1)
  dsimp only at huL hub
  obtain ⟨f', rfl⟩ : ∃ f', f = f' + 1 := ⟨f - 1, by omega⟩
  have hm0 : (if ρ 75 8 = 0 then 2001 - (ρ 75 7).toNat else 0) = 2001 - u.1 := by
    rw [if_pos h8, h7, Int.toNat_natCast]
  rw [hm0]
  rw [aGL] at ha
  rw [if_pos (show w32 (ρ 75 8) = 0 by rw [h8]; decide), h7, w32_n (a := u.1) (by omega), gd_pos (by omega), Int.toNat_natCast, h77, w32_n (a := tKd tx L (tSt tx L u.1)) (by omega)]
  by_cases c0 : tK tx L u.1 = 0
  · have c0' : tKd tx L (tSt tx L u.1) = 0 := c0
    rw [if_pos c0] at ha
    rw [if_pos (by omega), Ok_some]
    refine ⟨?_, hP⟩
    rw [← ha]; exact ⟨tt, hu⟩
  have c0' : ¬ tKd tx L (tSt tx L u.1) = 0 := c0
  rw [if_neg c0] at ha
  rw [if_neg (by omega)]
  -- behind a statement
  have fin : ∀ ρ2 : Mem, OutH tx L (aStm tx L u) ρ2 → Rf ρ ρ2 → (Rf μ ρ2 ∧ ((∃ (f tot : Nat) (u : GSt), RG tx L tot u ρ2 ∧ L + 2 ≤ f + u.1 ∧ aGL tx L f u = aGL tx L (L + 2) s) ∨ ∃ e, RErr tx L 0 e 0 ρ2 ∧ aGL tx L (L + 2) s = .inr e)) ∧ (if ρ2 75 8 = 0 then 2001 - (ρ2 75 7).toNat else 0) < 2001 - u.1 := fun ρ2 hO hR2 => by
    cases hst : aStm tx L u with
    | inr e =>
      rw [hst] at ha hO
      have hE : RErr tx L 0 e 0 ρ2 := hO
      have e8 := hE.2.1
      have e0 := hE.2.2.1
      refine ⟨⟨hP.tr hR2, Or.inr ⟨e, hE, ha.symm⟩⟩, ?_⟩
      rw [if_neg (by rw [e8]; omega)]
      omega
    | inl t =>
      rw [hst] at ha hO
      obtain ⟨k1, k2⟩ := aStm_g hu.1.2.1 hst
      obtain ⟨tt2, hO2⟩ := hO
      have htb := hO2.1.b
      have t7 : ρ2 75 7 = (t.1 : Int) := hO2.1.2.2.1
      refine ⟨⟨hP.tr hR2, Or.inl ⟨f', tt2, t, hO2, by omega, ha⟩⟩, ?_⟩
      dsimp only at htb
      rw [if_pos hO2.1.2.2.2.1, t7, Int.toNat_natCast]
      omega
  have w0 := isWord_r (w := 0) hu.1 (by omega)
  have hci0 : ci 0 = 1 := by decide
  rw [hci0, show ((0 : Nat) : Int) = 0 from rfl] at w0
  dsimp only at w0
  rw [w0, Option.bind_some]
  by_cases c1 : isW tx L u.1 1 = true
  · have hs : aStm tx L u = aCake tx L u.2 u.1 := by unfold aStm; rw [if_pos c1]
    rw [if_pos c1]
    obtain ⟨ρ2, hf2, g1, g2⟩ := rcake_ok (D := u.2) hu c1
    have := fin ρ2 (by rw [hs]; exact g1) g2
    have hb : ((fX12_readCake ρ).bind fun μ12 => (fX12_takeSign 59 μ12).bind fun μ13 => some (Sum.inl μ13 : Mem ⊕ Mem)) = some (.inl ρ2) := by
      cases hq : fX12_readCake ρ with
      | none => rw [hq] at hf2; cases hf2
      | some ρ3 =>
        rw [hq] at hf2
        rw [Option.bind_some] at hf2 ⊢
        cases hq2 : fX12_takeSign 59 ρ3 with
        | none => rw [hq2] at hf2; cases hf2
        | some ρ4 => rw [hq2, Option.bind_some] at hf2; cases hf2; rfl
    rw [hb, Ok_some]
    exact this
  · rw [if_neg c1]
    obtain ⟨ρ2, hf2, g1, g2⟩ := rlaw_ok (D := u.2) hu (eq_false_of_ne_true c1)
    have := fin ρ2 g1 g2
    have hb : ((fX12_readLaw ρ).bind fun μ12 => (fX12_takeSign 59 μ12).bind fun μ13 => some (Sum.inl μ13 : Mem ⊕ Mem)) = some (.inl ρ2) := by
      cases hq : fX12_readLaw ρ with
      | none => rw [hq] at hf2; cases hf2
      | some ρ3 =>
        rw [hq] at hf2
        rw [Option.bind_some] at hf2 ⊢
        cases hq2 : fX12_takeSign 59 ρ3 with
        | none => rw [hq2] at hf2; cases hf2
        | some ρ4 => rw [hq2, Option.bind_some] at hf2; cases hf2; rfl
    rw [hb, Ok_some]
    exact this
end RGRID3
