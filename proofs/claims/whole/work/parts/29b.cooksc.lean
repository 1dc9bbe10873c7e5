/-! ===== level 2: the class's two cooks ===== -/
section COOKC
variable {N n goal : Nat} {tn : Nat → Nat → Nat} {op : Nat → Nat → Bool} {pr : Nat → Nat → Nat} {μ μ0 : Mem} {x : Nat}
/-- the cells hold the state -/
def KM (N x T : Nat) (f o : Nat → Int) (q : Nat → Nat) (μ0 μ : Mem) : Prop := (∀ c, c < N → μ 56 c = f c) ∧ (∀ c, c < N → μ x c = o c ∧ -1 ≤ o c ∧ o c ≤ 5) ∧ (∀ i, i < T → μ 35 i = q i) ∧ ∀ y, y ≠ 56 → y ≠ x → y ≠ 35 → μ y = μ0 y
theorem KM.gr {T : Nat} {f o : Nat → Int} {q : Nat → Nat} (hx : isCt x) (h : KM N x T f o q μ0 μ) (hg : Gr N n goal tn op pr μ0) : Gr N n goal tn op pr μ := by
  have := isCt_b hx
  exact hg.same (fun j _ => by rw [h.2.2.2 25 (by omega) (by omega) (by omega)]) (fun y h1 h2 => h.2.2.2 y (by omega) (by omega) (by omega))
theorem k_at {T c : Nat} {f o : Nat → Int} {q : Nat → Nat} (hN : N ≤ 3840) (h : KM N x T f o q μ0 μ) (hc : c < N) : fX11_at 56 (c : Int) μ = f c := by
  rw [at_n c rfl (L := 3840) rfl (by omega) (by omega)]; exact h.1 c hc
theorem ko_at {T c : Nat} {f o : Nat → Int} {q : Nat → Nat} (hx : isCt x) (hN : N ≤ 3840) (h : KM N x T f o q μ0 μ) (hc : c < N) : fX11_at x (c : Int) μ = o c := by
  rw [at_n c rfl (al_Ct hx) (by omega) (by omega)]; exact (h.2.1 c hc).1
theorem scratch_ok (hx : isCt x) (h : μ 25 15 = x) : fX7_scratch μ = some x := by
  have hxb := isCt_b hx
  unfold fX7_scratch
  simp only [lt]
  rw [h, gd_pos (by omega), Int.toNat_natCast]
theorem cround_ok {h T : Nat} {f o : Nat → Int} {q : Nat → Nat} {Dn : Nat → Bool} (hx : isCt x) (hx2 : μ0 25 15 = x) (hp : Gp N n goal tn pr) (hg : Gr N n goal tn op pr μ0) (hM : KM N x T f o q μ0 μ) (hI : CK N n tn op goal h 1 T f o q Dn) (hh : h < T) (hnx : ∀ j, j < T → f (q j) ≤ f (q h) + 1) :
    Ok (fX1_learnRound (q h : Int) (T : Int) μ) (fun u => ∃ T' f' o' q' Dn', u.1 = (T' : Nat) ∧ T ≤ T' ∧ KM N x T' f' o' q' μ0 u.2 ∧ CK N n tn op goal (h + 1) 1 T' f' o' q' Dn' ∧ ∀ j, j < T' → f' (q' j) ≤ f' (q' h) + 1) := by
  have hN := hp.2.1
  have hn := hp.1
  have hxb := isCt_b hx
  obtain ⟨hs, hs0⟩ := hI.2.1 h hh
  have hTN : T ≤ N := by rw [hI.1]; exact cn_le
  have hfs : f (q h) < 4000 := by
    rcases hI.2.2.1 _ hs with g | g
    · omega
    · have := g.2.1; omega
  have h25 : μ 25 15 = x := by rw [hM.2.2.2 25 (by omega) (by omega) (by omega)]; exact hx2
  unfold fX1_learnRound
  rw [scratch_ok hx h25, Option.bind_some]
  simp only [lt]
  rw [k_at hN hM hs]
  have hlost : (if w32 (i_rem (f (q h)) 2) = 0 then true else false) = decide (f (q h) % 2 = 0) := by
    obtain ⟨a, ha⟩ : ∃ a : Nat, f (q h) = a := ⟨(f (q h)).toNat, by omega⟩
    rw [ha]
    have := i_rem_n (a := a) (b := 2) (by omega) (by omega)
    have e2 : ((2 : Nat) : Int) = 2 := rfl
    rw [e2] at this
    rw [this, w32_n (by omega)]
    by_cases e : a % 2 = 0
    · rw [if_pos (by omega)]; simp; omega
    · rw [if_neg (by omega)]; simp; omega
  rw [hlost]
  refine Ok.bind ?_
  refine Ok.imp (loop_FU (Q := fun u : Int × Mem => ∃ T' f' o' q' Dn', u.1 = (T' : Nat) ∧ T ≤ T' ∧ KM N x T' f' o' q' μ0 u.2 ∧ CK N n tn op goal (h + 1) 1 T' f' o' q' Dn' ∧ ∀ j, j < T' → f' (q' j) ≤ f' (q' h) + 1) (n + 1) (fun (m : Nat) (s : Int × Int × Mem) => 1 ≤ m ∧ s.2.1 = (m : Int) ∧ ∃ (T' : Nat) (f' o' : Nat → Int) (q' : Nat → Nat), s.1 = (T' : Int) ∧ T ≤ T' ∧ q' h = q h ∧ f' (q h) = f (q h) ∧ KM N x T' f' o' q' μ0 s.2.2 ∧ CK N n tn op goal h m T' f' o' q' Dn ∧ ∀ j, j < T' → f' (q' j) ≤ f' (q h) + 1) 1 ⟨by omega, rfl, T, f, o, q, rfl, by omega, rfl, rfl, hM, hI, hnx⟩ (by omega) (by omega) ?_ ?_) ?_
  · rintro m ⟨a1, a2, ν⟩ hm ⟨hm1, e1, T', f', o', q', e2, hTT, eq, ef, hM', hI', hx'⟩
    dsimp only at e1 e2 hM' ⊢
    subst e1 e2
    have hgν := hM'.gr hx hg
    have hhT : h < T' := by omega
    obtain ⟨hd, hdd, -, -⟩ := hp.2.2.2 (q h) m hs hm1 (by omega)
    obtain ⟨c1, -, -⟩ := hgν.2.2.2 (q h) m hs hm1 (by omega)
    obtain ⟨-, c5, -⟩ := hgν.2.2.2 (tn (q h) m) m hd hm1 (by omega)
    have hT'N : T' ≤ N := by rw [hI'.1]; exact cn_le
    have hfb : -1 ≤ f' (tn (q h) m) ∧ f' (tn (q h) m) < 4000 := by
      rcases hI'.2.2.1 _ hd with g | g
      · rw [g]; omega
      · have := g.1; have := g.2.1; omega
    have skip : (f' (tn (q h) m) ≠ -1 ∨ op (tn (q h) m) m = false) → Ok (some (Sum.inl ((T' : Int), (m : Int) + 1, ν) : (Int × Int × Mem) ⊕ (Int × Mem))) (Sum.elim (fun s => 1 ≤ m + 1 ∧ s.2.1 = ((m + 1 : Nat) : Int) ∧ ∃ (T' : Nat) (f' o' : Nat → Int) (q' : Nat → Nat), s.1 = (T' : Int) ∧ T ≤ T' ∧ q' h = q h ∧ f' (q h) = f (q h) ∧ KM N x T' f' o' q' μ0 s.2.2 ∧ CK N n tn op goal h (m + 1) T' f' o' q' Dn ∧ ∀ j, j < T' → f' (q' j) ≤ f' (q h) + 1) (fun u => ∃ T' f' o' q' Dn', u.1 = (T' : Nat) ∧ T ≤ T' ∧ KM N x T' f' o' q' μ0 u.2 ∧ CK N n tn op goal (h + 1) 1 T' f' o' q' Dn' ∧ ∀ j, j < T' → f' (q' j) ≤ f' (q' h) + 1)) := fun hno => by
      rw [Ok_some]
      exact ⟨by omega, by push_cast; rfl, T', f', o', q', rfl, hTT, eq, ef, hM', hI'.same hp hhT hm1 (by omega) (by rw [eq]; exact hno), hx'⟩
    unfold fX1_learnRound_b43
    simp only [lt]
    rw [hgν.1, w32_n (a := m) (by omega), w32_n (a := n) (by omega), if_pos (by omega), c1, k_at hN hM' hd, w32_eq (x := f' (tn (q h) m)) (by omega) (by omega), w32_m1, c5]
    by_cases hfd : f' (tn (q h) m) = -1
    · rw [if_pos hfd]
      by_cases ho : op (tn (q h) m) m = true
      · obtain ⟨go1, go2, go3⟩ := hI'.2.2.2.2.2.2.1 _ hd hfd
        obtain ⟨ob1, ob2, ob3⟩ := hM'.2.1 _ hd
        rw [if_pos ho, ko_at hx hN hM' hd, put_n (tn (q h) m) rfl (al_Ct hx) (by omega) (by omega)]
        have hM2 : KM N x T' f' (fun c => if c = tn (q h) m then o' c - 1 else o' c) q' μ0 (upd2 ν x (tn (q h) m) (o' (tn (q h) m) - 1)) := by
          refine ⟨fun c hc => ?_, fun c hc => ?_, fun i hi => ?_, fun y h1 h2 h3 => ?_⟩
          · rw [upd2_ne (by omega)]; exact hM'.1 c hc
          · rw [upd2_self]
            dsimp only
            by_cases e : c = tn (q h) m
            · rw [if_pos e, if_pos e, e]; omega
            · rw [if_neg e, if_neg e]; exact hM'.2.1 c hc
          · rw [upd2_ne (by omega)]; exact hM'.2.2.1 i hi
          · rw [upd2_ne h2]; exact hM'.2.2.2 y h1 h2 h3
        generalize hρ : upd2 ν x (tn (q h) m) (o' (tn (q h) m) - 1) = ρ at hM2
        have hT'l : T' < N := by
          have h1 := cn_set (n := N) (j := tn (q h) m) (p := fun c => decide (f' c ≠ -1)) (q := fun c => if c = tn (q h) m then true else decide (f' c ≠ -1)) hd (by simp [hfd]) (by simp) (fun i _ hne => by simp [hne])
          have h2 := cn_le (n := N) (p := fun c => if c = tn (q h) m then true else decide (f' c ≠ -1))
          have h3 := hI'.1
          omega
        have hsd : q h ≠ tn (q h) m := fun e => by rw [← e, ef] at hfd; omega
        have hset : (f (q h) % 2 = 0 ∨ o' (tn (q h) m) = 1) → Ok (fX1_learnRound_j128 (q h : Int) (T : Int) x (decide (f (q h) % 2 = 0)) (T' : Int) (m : Int) (tn (q h) m : Int) ρ) (Sum.elim (fun s => 1 ≤ m + 1 ∧ s.2.1 = ((m + 1 : Nat) : Int) ∧ ∃ (T' : Nat) (f' o' : Nat → Int) (q' : Nat → Nat), s.1 = (T' : Int) ∧ T ≤ T' ∧ q' h = q h ∧ f' (q h) = f (q h) ∧ KM N x T' f' o' q' μ0 s.2.2 ∧ CK N n tn op goal h (m + 1) T' f' o' q' Dn ∧ ∀ j, j < T' → f' (q' j) ≤ f' (q h) + 1) (fun u => ∃ T' f' o' q' Dn', u.1 = (T' : Nat) ∧ T ≤ T' ∧ KM N x T' f' o' q' μ0 u.2 ∧ CK N n tn op goal (h + 1) 1 T' f' o' q' Dn' ∧ ∀ j, j < T' → f' (q' j) ≤ f' (q' h) + 1)) := fun hcase => by
          unfold fX1_learnRound_j128
          simp only [lt]
          rw [k_at hN hM2 hs, put_n (tn (q h) m) rfl (L := 3840) rfl (by omega) (by omega), put_n T' rfl (L := 3840) rfl (by omega) (by omega), Ok_some]
          have hst := CK.set (o' := fun c => if c = tn (q h) m then o' c - 1 else o' c) hp hI' hhT hm1 (by omega) (by rw [eq]; exact hx') (by rw [eq]; exact hfd) (by rw [eq]; exact ho) (by rw [eq, ef]; exact hcase) (fun c hc => by rw [eq] at hc; rw [if_neg hc])
          rw [eq] at hst
          refine ⟨by omega, by push_cast; rfl, T' + 1, _, _, _, by push_cast; rfl, by omega, by rw [if_neg (by omega)]; exact eq, by rw [if_neg hsd]; exact ef, ⟨fun c hc => ?_, fun c hc => ?_, fun i hi => ?_, fun y h1 h2 h3 => ?_⟩, hst, fun j hj => ?_⟩
          · dsimp only
            rw [upd2_ne (by omega), upd2_self]
            by_cases e : c = tn (q h) m
            · rw [if_pos e, if_pos e]
            · rw [if_neg e, if_neg e]; exact hM2.1 c hc
          · dsimp only
            rw [upd2_ne (by omega), upd2_ne (by omega)]; exact hM2.2.1 c hc
          · dsimp only
            rw [upd2_self]
            by_cases e : i = T'
            · rw [if_pos e, if_pos e]
            · rw [if_neg e, if_neg e, upd2_ne (by omega)]; exact hM2.2.2.1 i (by omega)
          · dsimp only
            rw [upd2_ne h3, upd2_ne h1]; exact hM2.2.2.2 y h1 h2 h3
          · try dsimp only
            rw [if_neg hsd]
            by_cases e : j = T'
            · rw [if_pos e, if_pos rfl]; omega
            · rw [if_neg e]
              have hne : q' j ≠ tn (q h) m := fun e2 => by
                have := (hI'.2.1 j (by omega)).2
                rw [e2, hfd] at this; omega
              rw [if_neg hne]; exact hx' j (by omega)
        by_cases hl : f (q h) % 2 = 0
        · rw [if_pos (by simp [hl])]
          exact hset (Or.inl hl)
        · have hko : fX11_at x ((tn (q h) m : Nat) : Int) ρ = o' (tn (q h) m) - 1 := by
            rw [ko_at hx hN hM2 hd, if_pos rfl]
          rw [if_neg (by simp [hl]), hko, w32_eq (x := o' (tn (q h) m) - 1) (by omega) (by omega)]
          by_cases h1 : o' (tn (q h) m) = 1
          · rw [if_pos (by omega)]
            exact hset (Or.inr h1)
          · rw [if_neg (by omega), Ok_some]
            have hle := hI'.less hp hhT hm1 (by omega) (by rw [eq]; exact hfd) (by rw [eq]; exact ho) (by rw [eq, ef]; omega) (by rw [eq]; exact h1)
            rw [eq] at hle
            exact ⟨by omega, by push_cast; rfl, T', f', _, q', rfl, hTT, eq, ef, hM2, hle, hx'⟩
      · rw [if_neg ho]
        exact skip (Or.inr (by simpa using ho))
    · rw [if_neg hfd]
      exact skip (Or.inl hfd)
  · rintro ⟨a1, a2, ν⟩ ⟨hm1, e1, T', f', o', q', e2, hTT, eq, ef, hM', hI', hx'⟩
    dsimp only at e1 e2 hM' ⊢
    subst e1 e2
    have hgν := hM'.gr hx hg
    unfold fX1_learnRound_b43
    rw [hgν.1, w32_n (a := n + 1) (by omega), w32_n (a := n) (by omega), if_neg (by omega), Ok_some]
    exact ⟨T', f', o', q', _, rfl, hTT, hM', hI'.next hp (by omega), fun j hj => by rw [eq]; exact hx' j hj⟩
  · rintro u hu
    rw [Ok_some]
    exact hu
theorem openTurns_ok {c : Nat} (hp : Gp N n goal tn pr) (hg : Gr N n goal tn op pr μ) (hc : c < N) : fX1_openTurns (c : Int) μ = some (cn n (fun i => op c (i + 1)) : Int) := by
  have hn := hp.1
  apply Ok_val
  unfold fX1_openTurns
  refine Ok.bind ?_
  refine loop_FU (n + 1) (fun (m : Nat) (s : Int × Int) => 1 ≤ m ∧ s.1 = ((cn (m - 1) (fun i => op c (i + 1)) : Nat) : Int) ∧ s.2 = (m : Int)) 1 ⟨by omega, rfl, rfl⟩ (by omega) (by omega) ?_ ?_
  · rintro m ⟨y, z⟩ hm ⟨hm1, e1, e2⟩
    dsimp only at e1 e2 ⊢
    subst e1 e2
    obtain ⟨-, t2, -⟩ := hg.2.2.2 c m hc hm1 (by omega)
    unfold fX1_openTurns_b4
    simp only [lt]
    rw [hg.1, w32_n (a := m) (by omega), w32_n (a := n) (by omega), if_pos (by omega), t2, b2n, Ok_some]
    refine ⟨by omega, ?_, by push_cast; rfl⟩
    dsimp only
    obtain ⟨k, rfl⟩ : ∃ k, m = k + 1 := ⟨m - 1, by omega⟩
    rw [Nat.add_sub_cancel, Nat.add_sub_cancel, cn_succ]
    push_cast; rfl
  · rintro ⟨y, z⟩ ⟨hm1, e1, e2⟩
    dsimp only at e1 e2 ⊢
    subst e1 e2
    unfold fX1_openTurns_b4
    rw [hg.1, w32_n (a := n + 1) (by omega), w32_n (a := n) (by omega), if_neg (by omega), Ok_some]
    show Ok _ _
    rw [Ok_some]; rfl
/-- what Cooks holds if it is known -/
def CoO (N n : Nat) (tn : Nat → Nat → Nat) (op : Nat → Nat → Bool) (goal : Nat) (μ : Mem) : Prop := μ 55 2 ≠ 0 → IsK N n tn op goal (fun c => μ 56 c)
theorem cooks_ok (hx : isCt x) (hx2 : μ 25 15 = x) (hp : Gp N n goal tn pr) (hg : Gr N n goal tn op pr μ) (hO : CoO N n tn op goal μ) : Ok (fX1_learn μ) (fun ν => (∀ y, y ≠ 55 → y ≠ 56 → y ≠ x → y ≠ 35 → ν y = μ y) ∧ (∀ j, j < 2 → ν 55 j = μ 55 j) ∧ ν 55 2 ≠ 0 ∧ IsK N n tn op goal (fun c => ν 56 c)) := by
  have hN := hp.2.1
  have hn := hp.1
  have hxb := isCt_b hx
  unfold fX1_learn
  simp only [lt]
  by_cases h5 : μ 55 2 = 0
  · rw [if_neg (by simp [h5])]
    generalize h3 : fill3 (upd2 μ 55 2 1) 56 3840 (-1) = ν3
    have hx3 : ∀ y, y ≠ 55 → y ≠ 56 → ν3 y = μ y := fun y h1 h2 => by rw [← h3, fill_ne h2, upd2_ne h1]
    have h552 : ν3 55 2 ≠ 0 := by rw [← h3, fill_ne (by omega), upd2_at]; decide
    have h55j : ∀ j, j < 2 → ν3 55 j = μ 55 j := fun j hj => by rw [← h3, fill_ne (by omega), upd2_nj (by omega)]
    have hf3 : ∀ c, c < N → ν3 56 c = -1 := fun c hc => by rw [← h3, fill_at (by omega)]
    have hg3 : Gr N n goal tn op pr ν3 := hg.same (fun j _ => by rw [hx3 25 (by omega) (by omega)]) (fun y h1 h2 => hx3 y (by omega) (by omega))
    have h25 : ν3 25 15 = x := by rw [hx3 25 (by omega) (by omega)]; exact hx2
    rw [scratch_ok hx h25, Option.bind_some]
    -- first: who has lost at once
    refine Ok.then (loop_FU (Q := fun u : Int × Mem => ∃ (T : Nat) (q : Nat → Nat), u.1 = (T : Int) ∧ KM N x T (fun c => if endB n op goal c = true then 0 else -1) (fun c => ((cn n (fun i => op c (i + 1)) : Nat) : Int)) q ν3 u.2 ∧ T = cn N (fun c => endB n op goal c) ∧ (∀ j, j < T → q j < N ∧ endB n op goal (q j) = true) ∧ (∀ c, c < N → endB n op goal c = true → ∃ j, j < T ∧ q j = c) ∧ ∀ i j, i < T → j < T → q i = q j → i = j) N (fun (i : Nat) (s : Int × Int × Mem) => s.2.1 = (i : Int) ∧ ∃ (T : Nat) (q : Nat → Nat), s.1 = (T : Int) ∧ T = cn i (fun c => endB n op goal c) ∧ (∀ c, c < N → s.2.2 56 c = if c < i ∧ endB n op goal c = true then 0 else -1) ∧ (∀ c, c < i → s.2.2 x c = ((cn n (fun i => op c (i + 1)) : Nat) : Int)) ∧ (∀ j, j < T → s.2.2 35 j = q j) ∧ (∀ y, y ≠ 56 → y ≠ x → y ≠ 35 → s.2.2 y = ν3 y) ∧ (∀ j, j < T → q j < i ∧ endB n op goal (q j) = true) ∧ (∀ c, c < i → endB n op goal c = true → ∃ j, j < T ∧ q j = c) ∧ ∀ i j, i < T → j < T → q i = q j → i = j) 0 ⟨rfl, 0, fun _ => 0, rfl, rfl, fun c hc => by rw [if_neg (by omega)]; exact hf3 c hc, fun c hc => absurd hc (by omega), fun j hj => absurd hj (by omega), fun _ _ _ _ => rfl, fun j hj => absurd hj (by omega), fun c hc => absurd hc (by omega), fun i j hi => absurd hi (by omega)⟩ (by omega) (by omega) ?_ ?_) ?_
    · rintro i ⟨a, b, ν⟩ hi ⟨e1, T, q, e2, hT, hf, ho, hq, hy, hqi, hqa, hinj⟩
      dsimp only at e1 e2 hf ho hq hy ⊢
      subst e1 e2
      have hTi : T ≤ i := by rw [hT]; exact cn_le
      have hgν : Gr N n goal tn op pr ν := hg3.same (fun j _ => by rw [hy 25 (by omega) (by omega) (by omega)]) (fun y h1 h2 => hy y (by omega) (by omega) (by omega))
      have hcl := cn_le (n := n) (p := fun k => op i (k + 1))
      unfold fX1_learn_b42
      rw [hgν.2.2.1, w32_n (a := i) (by omega), w32_n (a := N) (by omega), if_pos (by omega), openTurns_ok hp hgν hi, Option.bind_some]
      simp only [lt]
      rw [put_n i rfl (al_Ct hx) (by omega) (by omega)]
      generalize hρ : upd2 ν x i ((cn n (fun k => op i (k + 1)) : Nat) : Int) = ρ
      have r56 : ∀ c, c < N → ρ 56 c = if c < i ∧ endB n op goal c = true then 0 else -1 := fun c hc => by rw [← hρ, upd2_ne (by omega)]; exact hf c hc
      have rx : ∀ c, c < i + 1 → ρ x c = ((cn n (fun k => op c (k + 1)) : Nat) : Int) := fun c hc => by
        rw [← hρ, upd2_self]
        by_cases e : c = i
        · rw [if_pos e, e]
        · rw [if_neg e]; exact ho c (by omega)
      have r35 : ∀ j, j < T → ρ 35 j = q j := fun j hj => by rw [← hρ, upd2_ne (by omega)]; exact hq j hj
      have ry : ∀ y, y ≠ 56 → y ≠ x → y ≠ 35 → ρ y = ν3 y := fun y h1 h2 h3 => by rw [← hρ, upd2_ne h2]; exact hy y h1 h2 h3
      have r254 : ρ 25 4 = goal := by rw [ry 25 (by omega) (by omega) (by omega)]; exact hg3.2.1
      have hko : fX11_at x ((i : Nat) : Int) ρ = ((cn n (fun k => op i (k + 1)) : Nat) : Int) := by rw [at_n i rfl (al_Ct hx) (by omega) (by omega)]; exact rx i (by omega)
      have hgo := hp.2.2.1
      have hin : endB n op goal i = true → Ok (fX1_learn_j87 x (T : Int) (i : Int) ρ) (Sum.elim (fun s => s.2.1 = ((i + 1 : Nat) : Int) ∧ ∃ (T : Nat) (q : Nat → Nat), s.1 = (T : Int) ∧ T = cn (i + 1) (fun c => endB n op goal c) ∧ (∀ c, c < N → s.2.2 56 c = if c < i + 1 ∧ endB n op goal c = true then 0 else -1) ∧ (∀ c, c < i + 1 → s.2.2 x c = ((cn n (fun i => op c (i + 1)) : Nat) : Int)) ∧ (∀ j, j < T → s.2.2 35 j = q j) ∧ (∀ y, y ≠ 56 → y ≠ x → y ≠ 35 → s.2.2 y = ν3 y) ∧ (∀ j, j < T → q j < i + 1 ∧ endB n op goal (q j) = true) ∧ (∀ c, c < i + 1 → endB n op goal c = true → ∃ j, j < T ∧ q j = c) ∧ ∀ i j, i < T → j < T → q i = q j → i = j) (fun u => ∃ (T : Nat) (q : Nat → Nat), u.1 = (T : Int) ∧ KM N x T (fun c => if endB n op goal c = true then 0 else -1) (fun c => ((cn n (fun i => op c (i + 1)) : Nat) : Int)) q ν3 u.2 ∧ T = cn N (fun c => endB n op goal c) ∧ (∀ j, j < T → q j < N ∧ endB n op goal (q j) = true) ∧ (∀ c, c < N → endB n op goal c = true → ∃ j, j < T ∧ q j = c) ∧ ∀ i j, i < T → j < T → q i = q j → i = j)) := fun hend => by
        unfold fX1_learn_j87
        simp only [lt]
        rw [put_n i rfl (L := 3840) rfl (by omega) (by omega), put_n T rfl (L := 3840) rfl (by omega) (by omega), Ok_some]
        refine ⟨by push_cast; rfl, T + 1, fun j => if j = T then i else q j, by push_cast; rfl, by rw [cn_succ, if_pos hend, hT], fun c hc => ?_, fun c hc => ?_, fun j hj => ?_, fun y h1 h2 h3 => ?_, fun j hj => ?_, fun c hc hce => ?_, fun j k hj hk hjk => ?_⟩
        · dsimp only
          rw [upd2_ne (by omega), upd2_self]
          by_cases e : c = i
          · rw [if_pos e, if_pos ⟨by omega, by rw [e]; exact hend⟩]
          · rw [if_neg e, r56 c hc]
            by_cases e2 : c < i ∧ endB n op goal c = true
            · rw [if_pos e2, if_pos ⟨by omega, e2.2⟩]
            · rw [if_neg e2, if_neg (fun k => e2 ⟨by omega, k.2⟩)]
        · dsimp only
          rw [upd2_ne (by omega), upd2_ne (by omega)]; exact rx c hc
        · dsimp only
          rw [upd2_self]
          by_cases e : j = T
          · rw [if_pos e, if_pos e]
          · rw [if_neg e, if_neg e, upd2_ne (by omega)]; exact r35 j (by omega)
        · dsimp only
          rw [upd2_ne h3, upd2_ne h1]; exact ry y h1 h2 h3
        · dsimp only
          by_cases e : j = T
          · rw [if_pos e]; exact ⟨by omega, hend⟩
          · rw [if_neg e]
            have := hqi j (by omega)
            exact ⟨by omega, this.2⟩
        · by_cases e : c = i
          · exact ⟨T, by omega, by dsimp only; rw [if_pos rfl, e]⟩
          · obtain ⟨j, j1, j2⟩ := hqa c (by omega) hce
            exact ⟨j, by omega, by dsimp only; rw [if_neg (by omega)]; exact j2⟩
        · dsimp only at hjk
          by_cases e : j = T
          · by_cases e2 : k = T
            · omega
            · rw [if_pos e, if_neg e2] at hjk
              have := (hqi k (by omega)).1
              omega
          · by_cases e2 : k = T
            · rw [if_neg e, if_pos e2] at hjk
              have := (hqi j (by omega)).1
              omega
            · rw [if_neg e, if_neg e2] at hjk
              exact hinj j k (by omega) (by omega) hjk
      rw [r254, w32_n (a := goal) (by omega), hko, w32_n (by omega)]
      by_cases hgoal : i = goal
      · rw [if_pos (by omega)]
        exact hin (by unfold endB; simp [hgoal])
      · rw [if_neg (by omega)]
        by_cases h0 : cn n (fun k => op i (k + 1)) = 0
        · rw [if_pos (by omega)]
          exact hin (by unfold endB; simp [h0])
        · rw [if_neg (by omega), Ok_some]
          have hend : endB n op goal i = false := by unfold endB; simp [hgoal, h0]
          refine ⟨by push_cast; rfl, T, q, rfl, by rw [cn_succ, if_neg (by simp [hend]), hT]; rfl, fun c hc => ?_, rx, r35, ry, fun j hj => ?_, fun c hc hce => ?_, hinj⟩
          · dsimp only
            rw [r56 c hc]
            by_cases e : c = i
            · rw [if_neg (by omega), if_neg (by rw [e]; simp [hend])]
            · by_cases e2 : c < i ∧ endB n op goal c = true
              · rw [if_pos e2, if_pos ⟨by omega, e2.2⟩]
              · rw [if_neg e2, if_neg (fun k => e2 ⟨by omega, k.2⟩)]
          · have := hqi j hj
            exact ⟨by omega, this.2⟩
          · by_cases e : c = i
            · rw [e, hend] at hce; exact absurd hce (by decide)
            · exact hqa c (by omega) hce
    · rintro ⟨a, b, ν⟩ ⟨e1, T, q, e2, hT, hf, ho, hq, hy, hqi, hqa, hinj⟩
      dsimp only at e1 e2 hf ho hq hy ⊢
      subst e1 e2
      have hgν : Gr N n goal tn op pr ν := hg3.same (fun j _ => by rw [hy 25 (by omega) (by omega) (by omega)]) (fun y h1 h2 => hy y (by omega) (by omega) (by omega))
      unfold fX1_learn_b42
      rw [hgν.2.2.1, w32_n (a := N) (by omega), if_neg (by omega), Ok_some]
      refine ⟨T, q, rfl, ⟨fun c hc => ?_, fun c hc => ?_, hq, hy⟩, hT, hqi, hqa, hinj⟩
      · dsimp only
        rw [hf c hc]
        by_cases e : endB n op goal c = true
        · rw [if_pos ⟨hc, e⟩, if_pos e]
        · rw [if_neg (fun k => e k.2), if_neg e]
      · have hcl := cn_le (n := n) (p := fun k => op c (k + 1))
        exact ⟨ho c hc, by dsimp only; omega, by dsimp only; omega⟩
    rintro ⟨u1, ν4⟩ ⟨T, q, e1, hM, hT, hqi, hqa, hinj⟩
    dsimp only at e1 hM
    subst e1
    refine Ok.bind ?_
    have hI0 : CK N n tn op goal 0 1 T (fun c => if endB n op goal c = true then 0 else -1) (fun c => ((cn n (fun i => op c (i + 1)) : Nat) : Int)) q (fun _ => false) := by
      refine ⟨?_, fun i hi => ⟨(hqi i hi).1, by simp [(hqi i hi).2]⟩, fun c hc => ?_, fun i j hij hj => by simp [(hqi i (by omega)).2, (hqi j hj).2], hinj, fun d hd => ?_, fun c hc hf => ?_, fun c hc => ?_, fun c hc h0 h1 => ?_, fun c hc h0 h1 => ?_⟩
      · rw [hT]
        refine cn_congr (fun c hc => ?_)
        by_cases e : endB n op goal c = true
        · simp [e]
        · simp [e]
      · dsimp only
        by_cases e : endB n op goal c = true
        · rw [if_pos e]
          obtain ⟨j, j1, j2⟩ := hqa c hc e
          exact Or.inr ⟨by omega, by omega, j, j1, j2⟩
        · rw [if_neg e]; exact Or.inl rfl
      · constructor
        · intro k; simp at k
        · rintro ⟨i, i1, -⟩; omega
      · dsimp only at hf ⊢
        have e : ¬ endB n op goal c = true := fun e => by rw [if_pos e] at hf; omega
        have e0 : ¬ cn n (fun i => op c (i + 1)) = 0 := fun k => e (by unfold endB; simp [k])
        refine ⟨by omega, ?_, fun m q1 q2 q3 q4 => ?_⟩
        · congr 1
          refine cn_congr (fun i hi => ?_)
          unfold opD
          have : decide (i + 1 < 1) = false := by simp
          rw [this]; simp
        · rcases q4 with k | ⟨-, k⟩
          · simp at k
          · omega
      · dsimp only
        by_cases e : endB n op goal c = true
        · rw [if_pos e]; simp [e]
        · rw [if_neg e]; simp [e]
      · by_cases e : endB n op goal c = true
        · simp [e] at h1
        · simp [e] at h0
      · by_cases e : endB n op goal c = true
        · simp [e] at h0
        · simp [e] at h0
    refine Ok.imp (loop_I (Q := fun ν : Mem => (∀ y, y ≠ 56 → y ≠ x → y ≠ 35 → ν y = ν3 y) ∧ IsK N n tn op goal (fun c => ν 56 c)) _ (fun s : Int × Int × Mem => 4000 - s.2.1.toNat) (fun s : Int × Int × Mem => ∃ (T h : Nat) (f o : Nat → Int) (q : Nat → Nat) (Dn : Nat → Bool), s.1 = (T : Int) ∧ s.2.1 = (h : Int) ∧ h ≤ T ∧ KM N x T f o q ν3 s.2.2 ∧ CK N n tn op goal h 1 T f o q Dn ∧ (h < T → ∀ j, j < T → f (q j) ≤ f (q h) + 1)) ⟨T, 0, _, _, q, _, rfl, rfl, by omega, hM, hI0, fun h0 j hj => by rw [if_pos (hqi j hj).2, if_pos (hqi 0 h0).2]; omega⟩ (by show 4000 - _ < _; omega) ?_) ?_
    · rintro ⟨a1, a2, ν⟩ ⟨T, h, f, o, q, Dn, e1, e2, hhT, hM, hI, hnx⟩
      dsimp only at e1 e2 hM ⊢
      subst e1 e2
      have hTN : T ≤ N := by rw [hI.1]; exact cn_le
      have hw3 : w32 3840 = 3840 := by decide
      unfold fX1_learn_b116
      rw [w32_n (a := h) (by omega), w32_n (a := T) (by omega), hw3]
      by_cases hlt : h < T
      · rw [if_pos (by omega), if_pos (by omega), gd_pos (by omega), Int.toNat_natCast, hM.2.2.1 h hlt]
        refine Ok.bind ?_
        refine Ok.imp (cround_ok hx h25 hp hg3 hM hI hlt (hnx hlt)) ?_
        rintro ⟨o1, o2⟩ ⟨T', f', o', q', Dn', g1, g2, g3, g4, g5⟩
        dsimp only at g1 g3 ⊢
        subst g1
        rw [Ok_some]
        refine ⟨⟨T', h + 1, f', o', q', Dn', rfl, by push_cast; rfl, by omega, g3, g4, fun hl j hj => ?_⟩, ?_⟩
        · have := g5 j hj
          have := g4.2.2.2.1 h (h + 1) (by omega) hl
          omega
        · show 4000 - ((h : Int) + 1).toNat < 4000 - (h : Int).toNat
          omega
      · have : h = T := by omega
        subst this
        rw [if_neg (by omega), Ok_some]
        refine ⟨hM.2.2.2, ?_⟩
        obtain ⟨k0, k1, k2, k3, k4⟩ := hI.fin hp
        have e56 : ∀ c, c < N → ν 56 c = f c := hM.1
        have tnl : ∀ c m, c < N → 1 ≤ m → m ≤ n → ν 56 (tn c m) = f (tn c m) := fun c m hc q1 q2 => e56 _ (hp.2.2.2 c m hc q1 q2).1
        refine ⟨fun c hc => by dsimp only; rw [e56 c hc]; exact k0 c hc, fun c hc => by dsimp only; rw [e56 c hc]; exact k1 c hc, fun c hc h0 h1 => ?_, fun c hc h0 h1 => ?_, fun c hc h0 => ?_⟩
        · dsimp only at h0 h1 ⊢
          rw [e56 c hc] at h0 h1 ⊢
          obtain ⟨⟨m, q1, q2, q3, q4⟩, q5⟩ := k2 c hc h0 h1
          exact ⟨⟨m, q1, q2, q3, by rw [tnl c m hc q1 q2]; exact q4⟩, fun m' r1 r2 r3 => by rw [tnl c m' hc r1 r2]; exact q5 m' r1 r2 r3⟩
        · dsimp only at h0 h1 ⊢
          rw [e56 c hc] at h0 h1 ⊢
          obtain ⟨⟨m, q1, q2, q3, q4⟩, q5⟩ := k3 c hc h0 h1
          exact ⟨⟨m, q1, q2, q3, by rw [tnl c m hc q1 q2]; exact q4⟩, fun m' r1 r2 r3 => by rw [tnl c m' hc r1 r2]; exact q5 m' r1 r2 r3⟩
        · dsimp only at h0 ⊢
          rw [e56 c hc] at h0
          obtain ⟨⟨m, q1, q2, q3, q4⟩, q5⟩ := k4 c hc h0
          exact ⟨⟨m, q1, q2, q3, by rw [tnl c m hc q1 q2]; exact q4⟩, fun m' r1 r2 r3 => by rw [tnl c m' hc r1 r2]; exact q5 m' r1 r2 r3⟩
    · rintro ν ⟨hy, hK⟩
      rw [Ok_some]
      refine ⟨fun y h1 h2 h3 h4 => by rw [hy y h2 h3 h4]; exact hx3 y h1 h2, fun j hj => by rw [hy 55 (by omega) (by omega) (by omega)]; exact h55j j hj, by rw [hy 55 (by omega) (by omega) (by omega)]; exact h552, hK⟩
  · rw [if_pos (by simp [h5]), Ok_some]
    exact ⟨fun _ _ _ _ _ => rfl, fun _ _ => rfl, h5, hO h5⟩
end COOKC
