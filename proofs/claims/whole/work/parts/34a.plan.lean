/-! ===== level 2: plans in the class ===== -/
section PLAN
variable {n g P : Nat} {kd wd : Nat → Nat} {BE CE : LawF} {μ ν : Mem} {c : Nat} {pl : Nat → Nat}
def PO (n P : Nat) (pl : Nat → Nat) : Prop := P ≤ 40 ∧ ∀ i, i < P → 1 ≤ pl i ∧ pl i ≤ n
def PLc (P : Nat) (pl : Nat → Nat) (μ : Mem) : Prop := μ 39 1 = P ∧ ∀ i, i < P → μ 40 i = pl i
def PLr (P : Nat) (pl : Nat → Nat) (μ : Mem) : Prop := μ 84 0 = P ∧ ∀ i, i < P → μ 84 (1 + i) = pl i
theorem PLc.same (h : PLc P pl μ) (e1 : ν 39 = μ 39) (e2 : ν 40 = μ 40) : PLc P pl ν := ⟨by rw [e1]; exact h.1, fun i hi => by rw [e2]; exact h.2 i hi⟩
theorem PLr.same (h : PLr P pl μ) (e1 : ν 84 = μ 84) : PLr P pl ν := ⟨by rw [e1]; exact h.1, fun i hi => by rw [e1]; exact h.2 i hi⟩
theorem PLc.at {i : Nat} (h : PLc P pl μ) (hP : P ≤ 40) (hi : i < P) : fX11_at 40 (i : Int) μ = pl i := by
  rw [at_n i rfl (L := 40) rfl (by omega) (by omega)]; exact h.2 i hi
/-- the told stack -/
def tdN (kd : Nat → Nat) (n ups : Nat) : Nat := cd kd n 0 (fun k => ups.testBit k)
theorem tdN_lt {ups : Nat} (hn : n < 6) : tdN kd n ups < NN kd n := cd_lt (fac_pos hn)
theorem told_ok {told ups : Nat} (hn : n < 6) (hG : Gc told n kd wd μ) (hT : Tb kd wd n BE CE μ) (hu : μ told 4 = ups) (hub : ups < 1000000) :
    Ok (fX7_told μ) (fun o => o.1 = (tdN kd n ups : Int) ∧ ∀ x, x ≠ 27 → o.2 x = μ x) := by
  unfold fX7_told
  refine Ok.then (loop_FU (Q := fun ν : Mem => (∀ x, x ≠ 27 → ν x = μ x) ∧ ∀ j, j < n → ν 27 j = j) n (fun (i : Nat) (s : Int × Mem) => s.1 = (i : Int) ∧ (∀ x, x ≠ 27 → s.2 x = μ x) ∧ ∀ j, j < i → s.2 27 j = j) 0 ⟨rfl, fun _ _ => rfl, fun j hj => absurd hj (by omega)⟩ (by omega) (by omega) ?_ ?_) ?_
  · rintro i ⟨a, ρ⟩ hi ⟨e1, hD, hR⟩
    dsimp only at e1 hD hR ⊢
    subst e1
    unfold fX7_told_b2
    simp only [lt]
    rw [hD 25 (by omega), hT.1, w32_n (a := i) (by omega), w32_n (a := n) (by omega), if_pos (by omega), put_n i rfl (L := 5) rfl (by omega) (by omega), Ok_some]
    refine ⟨by push_cast; rfl, fun x hx => ?_, fun j hj => ?_⟩
    · dsimp only
      rw [upd2_ne hx]; exact hD x hx
    · dsimp only
      rw [upd2_self]
      by_cases e : j = i
      · rw [if_pos e, e]
      · rw [if_neg e]; exact hR j (by omega)
  · rintro ⟨a, ρ⟩ ⟨e1, hD, hR⟩
    dsimp only at e1 hD hR ⊢
    subst e1
    unfold fX7_told_b2
    rw [hD 25 (by omega), hT.1, w32_n (a := n) (by omega), if_neg (by omega), Ok_some]
    exact ⟨hD, hR⟩
  · rintro ρ ⟨hD, hR⟩
    have hTρ := hT.of (ν := ρ) (fun x _ _ q => hD x q)
    have h0 : ρ 25 0 = told := by rw [hD 25 (by omega)]; exact hG.2.1
    have hto := hG.1
    have h4 : ρ told 4 = ups := by rw [hD told (by omega)]; exact hu
    simp only [lt]
    rw [h0, gd_pos (by omega), Int.toNat_natCast, h4, stackOf_ok hn hTρ.1 hTρ.2.1 hub (L := 5) rfl (by omega) (by omega) (fac_pos hn) (fun j hj => by
      rw [hR j hj]
      unfold pA
      rw [(id_facts n hn).2.2, List.getD_eq_getElem?_getD, List.getElem?_range hj]
      rfl), Option.bind_some, Ok_some]
    exact ⟨rfl, hD⟩
/-- a plan from a stack: the stack, the first barred, the first after which it is served, the spent -/
def jdg (kd wd : Nat → Nat) (n : Nat) (BE CE : LawF) (g : Nat) (pl : Nat → Nat) (c0 : Nat) : Nat → Nat × Int × Int × Nat
  | 0 => (c0, -1, -1, 0)
  | i + 1 =>
    let J := jdg kd wd n BE CE g pl c0 i
    let o := opC kd wd n BE J.1 (pl i)
    let d := if o = true then tnC kd n J.1 (pl i) else J.1
    (d, if o = true then J.2.1 else if J.2.1 = -1 then (i : Int) else J.2.1, if J.2.2.1 = -1 ∧ d = g then (i : Int) else J.2.2.1, if o = true then J.2.2.2 + prC kd wd n CE J.1 (pl i) else J.2.2.2)
theorem jdg_ok {c0 : Nat} (hn : n < 6) (hc : c0 < NN kd n) (hP : PO n P pl) : ∀ i, i ≤ P → (jdg kd wd n BE CE g pl c0 i).1 < NN kd n ∧ (-1 ≤ (jdg kd wd n BE CE g pl c0 i).2.1 ∧ (jdg kd wd n BE CE g pl c0 i).2.1 < i) ∧ (-1 ≤ (jdg kd wd n BE CE g pl c0 i).2.2.1 ∧ (jdg kd wd n BE CE g pl c0 i).2.2.1 < i) ∧ (jdg kd wd n BE CE g pl c0 i).2.2.2 ≤ 9 * i
  | 0, _ => by
    unfold jdg
    dsimp only
    exact ⟨hc, ⟨by omega, by omega⟩, ⟨by omega, by omega⟩, Nat.le_refl _⟩
  | i + 1, h => by
    obtain ⟨a1, a2, a3, a4⟩ := jdg_ok hn hc hP i (by omega)
    have hp := hP.2 i (by omega)
    have hb := prC_b (kd := kd) (wd := wd) (n := n) (CE := CE) (c := (jdg kd wd n BE CE g pl c0 i).1) (m := pl i)
    have ht := tnC_lt (c := (jdg kd wd n BE CE g pl c0 i).1) hn a1 hp.2
    unfold jdg
    dsimp only
    refine ⟨?_, ?_, ?_, ?_⟩
    · split
      · exact ht
      · exact a1
    · split
      · omega
      · split <;> omega
    · split <;> omega
    · split <;> omega
def jdgI (J : Nat × Int × Int × Nat) (w : Int) : Int := if w = 0 then J.2.1 else if w = 1 then J.2.2.1 else (J.2.2.2 : Int)
theorem judged_ok {told ups : Nat} {w : Int} (hn : n < 6) (hG : Gc told n kd wd μ) (hT : Tb kd wd n BE CE μ) (hgN : g < NN kd n) (h4 : μ 25 4 = g) (hu : μ told 4 = ups) (hub : ups < 1000000) (hP : PO n P pl) (hPL : PLc P pl μ) (hw : Nz w) :
    Ok (fX11_judged w μ) (fun o => o.1 = (if 0 ≤ w ∧ w ≤ 2 then jdgI (jdg kd wd n BE CE g pl (tdN kd n ups) P) w else -2) ∧ ∀ x, x ≠ 27 → o.2 x = μ x) := by
  have hN := NN_le (kd := kd) hn
  unfold fX11_judged
  rw [nz_w hw, show w32 2 = 2 from by decide]
  by_cases q0 : w < 0
  · rw [if_pos q0, if_neg (by omega), Ok_some]
    exact ⟨rfl, fun _ _ => rfl⟩
  rw [if_neg q0]
  by_cases q2 : w ≤ 2
  rotate_left
  · rw [if_neg q2, if_neg (by omega), Ok_some]
    exact ⟨rfl, fun _ _ => rfl⟩
  rw [if_pos q2, if_pos ⟨by omega, q2⟩]
  unfold fX4_judge
  refine Ok.bind ?_
  refine Ok.then (told_ok hn hG hT hu hub) ?_
  rintro ⟨c0, ν⟩ ⟨e1, hD⟩
  dsimp only at e1 hD ⊢
  subst e1
  have hcN := tdN_lt (kd := kd) (ups := ups) hn
  generalize tdN kd n ups = c0 at hcN ⊢
  have hTν := hT.of (ν := ν) (fun x _ _ q => hD x q)
  have hPν := hPL.same (hD 39 (by omega)) (hD 40 (by omega))
  have hgν : ν 25 4 = g := by rw [hD 25 (by omega)]; exact h4
  have hJ := jdg_ok (wd := wd) (BE := BE) (CE := CE) (g := g) hn hcN hP
  refine Ok.then (loop_FU (Q := fun o : Int × Int × Int × Mem => o.1 = (jdg kd wd n BE CE g pl c0 P).2.1 ∧ o.2.1 = (jdg kd wd n BE CE g pl c0 P).2.2.1 ∧ o.2.2.1 = ((jdg kd wd n BE CE g pl c0 P).2.2.2 : Int) ∧ o.2.2.2 = ν) P (fun (i : Nat) (s : Int × Int × Int × Int × Int × Mem) => s.1 = ((jdg kd wd n BE CE g pl c0 i).1 : Int) ∧ s.2.1 = (jdg kd wd n BE CE g pl c0 i).2.1 ∧ s.2.2.1 = (jdg kd wd n BE CE g pl c0 i).2.2.1 ∧ s.2.2.2.1 = ((jdg kd wd n BE CE g pl c0 i).2.2.2 : Int) ∧ s.2.2.2.2.1 = (i : Int) ∧ s.2.2.2.2.2 = ν) 0 ⟨rfl, rfl, rfl, rfl, rfl, rfl⟩ (by omega) (by have := hP.1; omega) ?_ ?_) ?_
  · rintro i ⟨x1, x2, x3, x4, x5, ρ⟩ hi ⟨e1, e2, e3, e4, e5, e6⟩
    dsimp only at e1 e2 e3 e4 e5 e6 ⊢
    subst e1 e2 e3 e4 e5 e6
    have hP1 := hP.1
    obtain ⟨a1, a2, a3, a4⟩ := hJ i (by omega)
    obtain ⟨b1, -⟩ := hJ (i + 1) (by omega)
    have hp := hP.2 i hi
    have hs : jdg kd wd n BE CE g pl c0 (i + 1) = (let J := jdg kd wd n BE CE g pl c0 i
      let o := opC kd wd n BE J.1 (pl i)
      let d := if o = true then tnC kd n J.1 (pl i) else J.1
      (d, if o = true then J.2.1 else if J.2.1 = -1 then (i : Int) else J.2.1, if J.2.2.1 = -1 ∧ d = g then (i : Int) else J.2.2.1, if o = true then J.2.2.2 + prC kd wd n CE J.1 (pl i) else J.2.2.2)) := rfl
    rw [hs] at b1 ⊢
    generalize jdg kd wd n BE CE g pl c0 i = J at a1 a2 a3 a4 b1 hs ⊢
    obtain ⟨j1, j2, j3, j4⟩ := J
    dsimp only at a1 a2 a3 a4 b1 ⊢
    -- the last part
    have fin : ∀ (d : Nat) (x s : Int), d < NN kd n → Ok (fX4_judge_j80 w (d : Int) x j3 s (i : Int) ρ) (Sum.elim (fun t => t.1 = (d : Int) ∧ t.2.1 = x ∧ t.2.2.1 = (if j3 = -1 ∧ d = g then (i : Int) else j3) ∧ t.2.2.2.1 = s ∧ t.2.2.2.2.1 = ((i + 1 : Nat) : Int) ∧ t.2.2.2.2.2 = ρ) (fun _ => False)) := fun d x s hd => by
      unfold fX4_judge_j80
      rw [hgν, w32_n (a := d) (by omega), w32_n (a := g) (by omega), w32_eq (x := j3) (by omega) (by omega), w32_m1]
      by_cases h3 : j3 = -1
      · rw [if_pos h3]
        by_cases hd' : d = g
        · rw [if_pos (by omega), Ok_some, if_pos ⟨h3, hd'⟩]
          exact ⟨rfl, rfl, rfl, rfl, by push_cast; rfl, rfl⟩
        · rw [if_neg (by omega), Ok_some, if_neg (fun h => hd' h.2)]
          exact ⟨rfl, rfl, rfl, rfl, by push_cast; rfl, rfl⟩
      · rw [if_neg h3, Ok_some, if_neg (fun h => h3 h.1)]
        exact ⟨rfl, rfl, rfl, rfl, by push_cast; rfl, rfl⟩
    unfold fX4_judge_b17
    simp only [lt]
    rw [hPν.1, w32_n (a := i) (by omega), w32_n (a := P) (by omega), if_pos (by omega), hPν.at hP1 hi, isOpen_ok hn hTν a1 hp.1 hp.2]
    by_cases ho : opC kd wd n BE j1 (pl i) = true
    · rw [if_pos ho, if_pos ho, if_pos ho, if_pos ho, priceOf_ok hn hTν a1 hp.1 hp.2, turned_ok hn hTν a1 hp.1 hp.2]
      rw [if_pos ho] at b1
      refine Ok.imp (fin _ j2 _ b1) ?_
      rintro (t | t) ht
      · obtain ⟨t1, t2, t3, t4, t5, t6⟩ := ht
        exact ⟨t1, t2, t3, by rw [t4]; push_cast; rfl, t5, t6⟩
      · exact ht.elim
    · rw [if_neg ho, if_neg ho, if_neg ho, if_neg ho, w32_eq (x := j2) (by omega) (by omega), w32_m1]
      by_cases h2 : j2 = -1
      · rw [if_pos h2, if_pos h2]
        refine Ok.imp (fin _ (i : Int) _ a1) ?_
        rintro (t | t) ht
        · exact ht
        · exact ht.elim
      · rw [if_neg h2, if_neg h2]
        refine Ok.imp (fin _ j2 _ a1) ?_
        rintro (t | t) ht
        · exact ht
        · exact ht.elim
  · rintro ⟨x1, x2, x3, x4, x5, ρ⟩ ⟨e1, e2, e3, e4, e5, e6⟩
    dsimp only at e1 e2 e3 e4 e5 e6 ⊢
    subst e1 e2 e3 e4 e5 e6
    have hP1 := hP.1
    unfold fX4_judge_b17
    rw [hPν.1, w32_n (a := P) (by omega), if_neg (by omega), Ok_some]
    exact ⟨rfl, rfl, rfl, rfl⟩
  · rintro ⟨x1, x2, x3, ρ⟩ ⟨e1, e2, e3, e4⟩
    dsimp only at e1 e2 e3 e4 ⊢
    subst e1 e2 e3 e4
    rw [nz_w hw]
    unfold jdgI
    by_cases w0 : w = 0
    · rw [if_pos w0, if_pos w0, Ok_some, Ok_some]; exact ⟨rfl, hD⟩
    · rw [if_neg w0, if_neg w0]
      by_cases w1 : w = 1
      · rw [if_pos w1, if_pos w1, Ok_some, Ok_some]; exact ⟨rfl, hD⟩
      · rw [if_neg w1, if_neg w1, Ok_some, Ok_some]; exact ⟨rfl, hD⟩
/-- the whole plan, or none -/
def dwN (kd wd : Nat → Nat) (n : Nat) (BE : LawF) (pl : Nat → Nat) : Nat → Nat → Nat → Option Nat
  | 0, _, c => some c
  | f + 1, i, c => if opC kd wd n BE c (pl i) = true then dwN kd wd n BE pl f (i + 1) (tnC kd n c (pl i)) else none
theorem dwN_lt (hn : n < 6) (hP : PO n P pl) : ∀ (f i c : Nat), i + f ≤ P → c < NN kd n → ∀ d, dwN kd wd n BE pl f i c = some d → d < NN kd n
  | 0, _, c, _, hc, d, h => by cases h; exact hc
  | f + 1, i, c, hf, hc, d, h => by
    unfold dwN at h
    split at h
    · exact dwN_lt hn hP f (i + 1) _ (by omega) (tnC_lt hn hc (hP.2 i (by omega)).2) d h
    · cases h
def oI (o : Option Nat) : Int := match o with
  | some d => d
  | none => -1
theorem done_ok (hn : n < 6) (hT : Tb kd wd n BE CE μ) (hP : PO n P pl) (hPL : PLc P pl μ) (hc : c < NN kd n) : fX4_doneWhole (c : Int) μ = some (oI (dwN kd wd n BE pl P 0 c)) := by
  have hP1 := hP.1
  apply Ok_val
  unfold fX4_doneWhole
  refine loop_FU P (fun (i : Nat) (s : Int × Int) => ∃ d : Nat, s.1 = d ∧ d < NN kd n ∧ s.2 = (i : Int) ∧ dwN kd wd n BE pl P 0 c = dwN kd wd n BE pl (P - i) i d) 0 ⟨c, rfl, hc, rfl, by rw [Nat.sub_zero]⟩ (by omega) (by omega) ?_ ?_
  · rintro i ⟨a, b⟩ hi ⟨d, e1, hd, e2, hs⟩
    dsimp only at e1 e2 ⊢
    subst e1 e2
    have hp := hP.2 i hi
    unfold fX4_doneWhole_b5
    simp only [lt]
    rw [hPL.1, w32_n (a := i) (by omega), w32_n (a := P) (by omega), if_pos (by omega), hPL.at hP1 hi, isOpen_ok hn hT hd hp.1 hp.2]
    have h1 : P - i = (P - (i + 1)) + 1 := by omega
    rw [h1, dwN] at hs
    by_cases ho : opC kd wd n BE d (pl i) = true
    · rw [if_pos ho] at hs
      rw [if_pos ho, turned_ok hn hT hd hp.1 hp.2, Ok_some]
      exact ⟨_, rfl, tnC_lt hn hd hp.2, by push_cast; rfl, hs⟩
    · rw [if_neg ho] at hs
      rw [if_neg ho, Ok_some]
      show (-1 : Int) = _
      rw [hs]; rfl
  · rintro ⟨a, b⟩ ⟨d, e1, hd, e2, hs⟩
    dsimp only at e1 e2 ⊢
    subst e1 e2
    unfold fX4_doneWhole_b5
    rw [hPL.1, w32_n (a := P) (by omega), if_neg (by omega), Ok_some]
    show (d : Int) = _
    rw [hs, Nat.sub_self]; rfl
def agI (kd wd : Nat → Nat) (n : Nat) (BE : LawF) (pl : Nat → Nat) (P s : Nat) : Nat → Nat → Nat → Int
  | 0, _, _ => -1
  | f + 1, k, c => match dwN kd wd n BE pl P 0 c with
    | none => -1
    | some d => if d = s then (k : Int) else agI kd wd n BE pl P s f (k + 1) d
theorem agI_s {s f k c : Nat} : agI kd wd n BE pl P s (f + 1) k c = (match dwN kd wd n BE pl P 0 c with
    | none => -1
    | some d => if d = s then (k : Int) else agI kd wd n BE pl P s f (k + 1) d) := rfl
theorem again_ok (hn : n < 6) (hT : Tb kd wd n BE CE μ) (hP : PO n P pl) (hPL : PLc P pl μ) (hc : c < NN kd n) (h41 : μ 41 1 = c) : fX11_again μ = some (agI kd wd n BE pl P c 60 1 c) := by
  have hN := NN_le (kd := kd) hn
  have hP1 := hP.1
  apply Ok_val
  unfold fX11_again
  simp only [lt]
  rw [h41]
  refine loop_FU 61 (fun (k : Nat) (s : Int × Int) => ∃ d : Nat, s.1 = d ∧ d < NN kd n ∧ s.2 = (k : Int) ∧ agI kd wd n BE pl P c 60 1 c = agI kd wd n BE pl P c (61 - k) k d) 1 ⟨c, rfl, hc, rfl, rfl⟩ (by omega) (by omega) ?_ ?_
  · rintro k ⟨a, b⟩ hk ⟨d, e1, hd, e2, hs⟩
    dsimp only at e1 e2 ⊢
    subst e1 e2
    unfold fX11_again_b10
    rw [w32_n (a := k) (by omega), show w32 60 = 60 from by decide, if_pos (by omega), done_ok hn hT hP hPL hd, Option.bind_some, h41, w32_n (a := c) (by omega), w32_m1]
    have h1 : 61 - k = (61 - (k + 1)) + 1 := by omega
    rw [h1, agI_s (f := 61 - (k + 1))] at hs
    have hlt := dwN_lt (wd := wd) (BE := BE) hn hP P 0 d (by omega) hd
    generalize dwN kd wd n BE pl P 0 d = o at hs hlt ⊢
    cases o with
    | none =>
      have : w32 (oI none) = -1 := w32_m1
      rw [if_pos this, Ok_some]
      exact hs.symm
    | some e =>
      dsimp only at hs
      have he := hlt e rfl
      have : w32 (oI (some e)) = (e : Int) := w32_n (by omega)
      rw [this, if_neg (by omega)]
      by_cases hec : e = c
      · rw [if_pos hec] at hs
        rw [if_pos (by omega), Ok_some]
        exact hs.symm
      · rw [if_neg hec] at hs
        rw [if_neg (by omega), Ok_some]
        exact ⟨e, rfl, he, by push_cast; rfl, hs⟩
  · rintro ⟨a, b⟩ ⟨d, e1, hd, e2, hs⟩
    dsimp only at e1 e2 ⊢
    subst e1 e2
    unfold fX11_again_b10
    rw [show w32 ((61 : Nat) : Int) = 61 from by decide, show w32 60 = 60 from by decide, if_neg (by omega), Ok_some]
    exact hs.symm
/-- the plan, one left out, barred turns passed over -/
def dfN (kd wd : Nat → Nat) (n : Nat) (BE : LawF) (pl : Nat → Nat) (lo : Int) (c : Nat) : Nat → Nat
  | 0 => c
  | i + 1 => if (i : Int) = lo then dfN kd wd n BE pl lo c i else if opC kd wd n BE (dfN kd wd n BE pl lo c i) (pl i) = true then tnC kd n (dfN kd wd n BE pl lo c i) (pl i) else dfN kd wd n BE pl lo c i
theorem dfN_lt {lo : Int} (hn : n < 6) (hP : PO n P pl) (hc : c < NN kd n) : ∀ i, i ≤ P → dfN kd wd n BE pl lo c i < NN kd n
  | 0, _ => hc
  | i + 1, h => by
    have ih := dfN_lt (lo := lo) hn hP hc i (by omega)
    unfold dfN
    split
    · exact ih
    · split
      · exact tnC_lt hn ih (hP.2 i (by omega)).2
      · exact ih
theorem from_ok {lo : Int} (hn : n < 6) (hT : Tb kd wd n BE CE μ) (hP : PO n P pl) (hPL : PLc P pl μ) (hc : c < NN kd n) (hlo : Nz lo) : fX4_doneFrom (c : Int) lo μ = some (dfN kd wd n BE pl lo c P : Int) := by
  have hP1 := hP.1
  apply Ok_val
  unfold fX4_doneFrom
  refine Ok.bind ?_
  refine loop_FU P (fun (i : Nat) (s : Int × Int) => s.1 = (dfN kd wd n BE pl lo c i : Int) ∧ s.2 = (i : Int)) 0 ⟨rfl, rfl⟩ (by omega) (by omega) ?_ ?_
  · rintro i ⟨a, b⟩ hi ⟨e1, e2⟩
    dsimp only at e1 e2 ⊢
    subst e1 e2
    have hp := hP.2 i hi
    have hd := dfN_lt (wd := wd) (BE := BE) (lo := lo) hn hP hc i (by omega)
    unfold fX4_doneFrom_b6
    simp only [lt]
    rw [hPL.1, w32_n (a := i) (by omega), w32_n (a := P) (by omega), if_pos (by omega), hPL.at hP1 hi, nz_w hlo, isOpen_ok hn hT hd hp.1 hp.2]
    by_cases hl : (i : Int) = lo
    · rw [if_pos hl, Ok_some]
      refine ⟨?_, by push_cast; rfl⟩
      dsimp only
      rw [dfN, if_pos hl]
    · rw [if_neg hl]
      by_cases ho : opC kd wd n BE (dfN kd wd n BE pl lo c i) (pl i) = true
      · rw [if_pos ho, turned_ok hn hT hd hp.1 hp.2, Ok_some]
        refine ⟨?_, by push_cast; rfl⟩
        dsimp only
        rw [dfN, if_neg hl, if_pos ho]
      · rw [if_neg ho, Ok_some]
        refine ⟨?_, by push_cast; rfl⟩
        dsimp only
        rw [dfN, if_neg hl, if_neg ho]
  · rintro ⟨a, b⟩ ⟨e1, e2⟩
    dsimp only at e1 e2 ⊢
    subst e1 e2
    unfold fX4_doneFrom_b6
    rw [hPL.1, w32_n (a := P) (by omega), if_neg (by omega), Ok_some]
    show Ok _ _
    rw [Ok_some]
theorem ends_ok (hn : n < 6) (hT : Tb kd wd n BE CE μ) (hP : PO n P pl) (hPL : PLc P pl μ) (hc : c < NN kd n) (h41 : μ 41 1 = c) (hgN : g < NN kd n) (h4 : μ 25 4 = g) : fX11_ends μ = some (decide (dfN kd wd n BE pl (-1) c P = g)) := by
  have hN := NN_le (kd := kd) hn
  have hd := dfN_lt (wd := wd) (BE := BE) (lo := -1) hn hP hc P (Nat.le_refl _)
  unfold fX11_ends
  simp only [lt]
  rw [h41, from_ok hn hT hP hPL hc ⟨by omega, by omega⟩, Option.bind_some, h4, w32_n (by omega), w32_n (by omega)]
  by_cases e : dfN kd wd n BE pl (-1) c P = g
  · rw [if_pos (by omega), decide_eq_true e]
  · rw [if_neg (by omega), decide_eq_false e]
def spN (kd wd : Nat → Nat) (n : Nat) (BE : LawF) (pl : Nat → Nat) (P c : Nat) : Nat := cn P (fun i => decide (dfN kd wd n BE pl (i : Int) c P = dfN kd wd n BE pl (-1) c P))
theorem spare_ok {told ups : Nat} (hn : n < 6) (hG : Gc told n kd wd μ) (hT : Tb kd wd n BE CE μ) (hu : μ told 4 = ups) (hub : ups < 1000000) (hP : PO n P pl) (hPL : PLc P pl μ) :
    Ok (fX11_spare μ) (fun o => o.1 = (spN kd wd n BE pl P (tdN kd n ups) : Int) ∧ ∀ x, x ≠ 27 → o.2 x = μ x) := by
  have hN := NN_le (kd := kd) hn
  have hP1 := hP.1
  have hto := hG.1
  have hcN := tdN_lt (kd := kd) (ups := ups) hn
  have hfr : ∀ ρ : Mem, (∀ x, x ≠ 27 → ρ x = μ x) → Gc told n kd wd ρ ∧ Tb kd wd n BE CE ρ ∧ ρ told 4 = ups ∧ PLc P pl ρ := fun ρ hD => ⟨hG.same (hD 25 (by omega)) (hD told (by omega)) (hD (told + 2) (by omega)) (hD (told + 3) (by omega)), hT.of (fun x _ _ q => hD x q), by rw [hD told (by omega)]; exact hu, hPL.same (hD 39 (by omega)) (hD 40 (by omega))⟩
  unfold fX11_spare
  refine Ok.then (told_ok hn hG hT hu hub) ?_
  rintro ⟨c0, ν⟩ ⟨e1, hD⟩
  dsimp only at e1 hD ⊢
  subst e1
  obtain ⟨f1, f2, f3, f4⟩ := hfr ν hD
  rw [from_ok hn f2 hP f4 hcN ⟨by omega, by omega⟩, Option.bind_some]
  have hdm := dfN_lt (wd := wd) (BE := BE) (lo := -1) hn hP hcN P (Nat.le_refl _)
  refine Ok.bind ?_
  refine loop_FU P (fun (i : Nat) (s : Int × Int × Mem) => s.1 = ((cn i (fun i => decide (dfN kd wd n BE pl (i : Int) (tdN kd n ups) P = dfN kd wd n BE pl (-1) (tdN kd n ups) P)) : Nat) : Int) ∧ s.2.1 = (i : Int) ∧ ∀ x, x ≠ 27 → s.2.2 x = μ x) 0 ⟨rfl, rfl, hD⟩ (by omega) (by omega) ?_ ?_
  · rintro i ⟨a, b, ρ⟩ hi ⟨e1, e2, hDρ⟩
    dsimp only at e1 e2 hDρ ⊢
    subst e1 e2
    obtain ⟨g1, g2, g3, g4⟩ := hfr ρ hDρ
    unfold fX11_spare_b24
    rw [g4.1, w32_n (a := i) (by omega), w32_n (a := P) (by omega), if_pos (by omega)]
    refine Ok.then (told_ok hn g1 g2 g3 hub) ?_
    rintro ⟨c1, θ⟩ ⟨e1, hDθ⟩
    dsimp only at e1 hDθ ⊢
    subst e1
    have hDm : ∀ x, x ≠ 27 → θ x = μ x := fun x q => (hDθ x q).trans (hDρ x q)
    obtain ⟨k1, k2, k3, k4⟩ := hfr θ hDm
    have hdi := dfN_lt (wd := wd) (BE := BE) (lo := (i : Int)) hn hP hcN P (Nat.le_refl _)
    rw [from_ok hn k2 hP k4 hcN ⟨by omega, by omega⟩, Option.bind_some, w32_n (by omega), w32_n (by omega)]
    by_cases e : dfN kd wd n BE pl (i : Int) (tdN kd n ups) P = dfN kd wd n BE pl (-1) (tdN kd n ups) P
    · rw [if_pos (by omega), Ok_some]
      refine ⟨?_, by push_cast; rfl, hDm⟩
      dsimp only
      rw [cn_succ, if_pos (decide_eq_true e)]; push_cast; rfl
    · rw [if_neg (by omega), Ok_some]
      refine ⟨?_, by push_cast; rfl, hDm⟩
      dsimp only
      rw [cn_succ, if_neg (by rw [decide_eq_false e]; decide)]; rfl
  · rintro ⟨a, b, ρ⟩ ⟨e1, e2, hDρ⟩
    dsimp only at e1 e2 hDρ ⊢
    subst e1 e2
    obtain ⟨g1, g2, g3, g4⟩ := hfr ρ hDρ
    unfold fX11_spare_b24
    rw [g4.1, w32_n (a := P) (by omega), if_neg (by omega), Ok_some]
    show Ok _ _
    rw [Ok_some]
    exact ⟨rfl, hDρ⟩
/-- two turns by turns -/
def rgI (kd wd : Nat → Nat) (n : Nat) (BE : LawF) (a b s : Nat) : Nat → Nat → Nat → Int
  | 0, _, _ => -1
  | f + 1, k, c => if opC kd wd n BE c (if k % 2 = 1 then a else b) = true then (if k % 2 = 0 ∧ tnC kd n c (if k % 2 = 1 then a else b) = s then (k : Int) else rgI kd wd n BE a b s f (k + 1) (tnC kd n c (if k % 2 = 1 then a else b))) else -1
theorem rgI_s {a b s f k c : Nat} : rgI kd wd n BE a b s (f + 1) k c = if opC kd wd n BE c (if k % 2 = 1 then a else b) = true then (if k % 2 = 0 ∧ tnC kd n c (if k % 2 = 1 then a else b) = s then (k : Int) else rgI kd wd n BE a b s f (k + 1) (tnC kd n c (if k % 2 = 1 then a else b))) else -1 := rfl
theorem rem_2 {k : Nat} (h : k < 1000) : i_rem (k : Int) 2 = ((k % 2 : Nat) : Int) := by
  have : ∀ k : Nat, k < 1000 → i_rem (k : Int) 2 = ((k % 2 : Nat) : Int) := by decide +kernel
  exact this k h
theorem ring_ok {a b : Nat} (hn : n < 6) (hT : Tb kd wd n BE CE μ) (hc : c < NN kd n) (h41 : μ 41 1 = c) (ha : 1 ≤ a ∧ a ≤ n) (hb : 1 ≤ b ∧ b ≤ n) : loopN (fun s => fX11_ring_b29 (a : Int) (b : Int) s.1 s.2 μ) FU ((c : Int), 1) = some (rgI kd wd n BE a b c 120 1 c) := by
  have hN := NN_le (kd := kd) hn
  apply Ok_val
  refine loop_FU 121 (fun (k : Nat) (s : Int × Int) => ∃ d : Nat, s.1 = d ∧ d < NN kd n ∧ s.2 = (k : Int) ∧ rgI kd wd n BE a b c 120 1 c = rgI kd wd n BE a b c (121 - k) k d) 1 ⟨c, rfl, hc, rfl, rfl⟩ (by omega) (by omega) ?_ ?_
  · rintro k ⟨x, y⟩ hk ⟨d, e1, hd, e2, hs⟩
    dsimp only at e1 e2 ⊢
    subst e1 e2
    have hm : 1 ≤ (if k % 2 = 1 then a else b) ∧ (if k % 2 = 1 then a else b) ≤ n := by split <;> omega
    have hv : (if ((k % 2 : Nat) : Int) = 1 then (a : Int) else (b : Int)) = ((if k % 2 = 1 then a else b : Nat) : Int) := by split <;> split <;> omega
    unfold fX11_ring_b29
    simp only [lt]
    rw [w32_n (a := k) (by omega), show w32 120 = 120 from by decide, if_pos (by omega), rem_2 (by omega), w32_n (a := k % 2) (by omega), w32_1, hv]
    have h1 : 121 - k = (121 - (k + 1)) + 1 := by omega
    rw [h1, rgI_s (f := 121 - (k + 1))] at hs
    generalize (if k % 2 = 1 then a else b) = m at hm hs ⊢
    have ht := tnC_lt (kd := kd) hn hd hm.2
    rw [isOpen_ok hn hT hd hm.1 hm.2, turned_ok hn hT hd hm.1 hm.2, h41, w32_n (a := tnC kd n d m) (by omega), w32_n (a := c) (by omega)]
    by_cases ho : opC kd wd n BE d m = true
    · rw [if_pos ho] at hs
      rw [if_pos ho]
      by_cases h2 : k % 2 = 0
      · rw [if_pos (show ((k % 2 : Nat) : Int) = 0 by omega)]
        by_cases h3 : tnC kd n d m = c
        · rw [if_pos ⟨h2, h3⟩] at hs
          rw [if_pos (by omega), Ok_some]
          exact hs.symm
        · rw [if_neg (fun h => h3 h.2)] at hs
          rw [if_neg (by omega), Ok_some]
          exact ⟨_, rfl, ht, by push_cast; rfl, hs⟩
      · rw [if_neg (fun h => h2 h.1)] at hs
        rw [if_neg (show ¬ ((k % 2 : Nat) : Int) = 0 by omega), Ok_some]
        exact ⟨_, rfl, ht, by push_cast; rfl, hs⟩
    · rw [if_neg ho] at hs
      rw [if_neg ho, Ok_some]
      exact hs.symm
  · rintro ⟨x, y⟩ ⟨d, e1, hd, e2, hs⟩
    dsimp only at e1 e2 ⊢
    subst e1 e2
    unfold fX11_ring_b29
    rw [show w32 ((121 : Nat) : Int) = 121 from by decide, show w32 120 = 120 from by decide, if_neg (by omega), Ok_some]
    exact hs.symm
def ringI (kd wd : Nat → Nat) (n : Nat) (BE : LawF) (a b : Int) (c : Nat) : Int := if (1 ≤ a ∧ a ≤ n) ∧ (1 ≤ b ∧ b ≤ n) then rgI kd wd n BE a.toNat b.toNat c 120 1 c else -1
theorem isTurn_ok {a : Int} (hn : n < 6) (h1 : μ 25 1 = n) (ha : Nz a) : fX11_isTurn a μ = decide (1 ≤ a ∧ a ≤ n) := by
  unfold fX11_isTurn
  simp only [lt]
  rw [h1, nz_w ha, w32_n (a := n) (by omega), w32_1]
  by_cases q0 : a < 1
  · rw [if_pos q0, decide_eq_false (by omega)]
  · rw [if_neg q0]
    by_cases q1 : a ≤ n
    · rw [if_pos q1, decide_eq_true (by omega)]
    · rw [if_neg q1, decide_eq_false (by omega)]
theorem ringc_ok {a b : Int} (hn : n < 6) (hT : Tb kd wd n BE CE μ) (hc : c < NN kd n) (h41 : μ 41 1 = c) (ha : Nz a) (hb : Nz b) : fX11_ring a b μ = some (ringI kd wd n BE a b c) := by
  unfold fX11_ring ringI
  simp only [lt]
  rw [isTurn_ok hn hT.1 ha, isTurn_ok hn hT.1 hb, h41]
  by_cases qa : 1 ≤ a ∧ a ≤ n
  · rw [if_pos (decide_eq_true qa)]
    by_cases qb : 1 ≤ b ∧ b ≤ n
    · rw [if_pos (decide_eq_true qb), if_pos ⟨qa, qb⟩]
      have ea : a = (a.toNat : Int) := by omega
      have eb : b = (b.toNat : Int) := by omega
      have := ring_ok (a := a.toNat) (b := b.toNat) hn hT hc h41 (by omega) (by omega)
      rw [← ea, ← eb] at this
      exact this
    · rw [if_neg (by rw [decide_eq_false qb]; decide), if_neg (fun h => qb h.2)]
  · rw [if_neg (by rw [decide_eq_false qa]; decide), if_neg (fun h => qa h.1)]
end PLAN
