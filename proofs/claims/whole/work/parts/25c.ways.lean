/-! ===== level 2: in how many ways ===== -/
theorem cap_step {X r a v R : Nat} (hv : 1 ≤ v) : min CW (X + r * v + a * (v + R)) = min CW (X + min CW (r + a) * v + a * R) := by
  have e1 : a * (v + R) = a * v + a * R := Nat.mul_add a v R
  by_cases h : r + a ≤ CW
  · rw [Nat.min_eq_right h, Nat.add_mul, e1]
    congr 1; omega
  · rw [Nat.min_eq_left (a := CW) (b := r + a) (by omega)]
    have h1 : CW * 1 ≤ CW * v := Nat.mul_le_mul_left _ hv
    have h2 : CW * 1 ≤ (r + a) * v := Nat.mul_le_mul (by omega) hv
    rw [Nat.add_mul] at h2
    omega
theorem cap_sum {n : Nat} {f : Nat → Nat} : min CW (sm n (fun i => min CW (f i))) = min CW (sm n f) := by
  induction n with
  | zero => rfl
  | succ n ih => rw [sm, sm]; omega
/-- the sum of a tail -/
def ts (n m : Nat) (g : Nat → Nat) : Nat := sm n (fun i => if m ≤ i + 1 then g (i + 1) else 0)
theorem ts_succ {n m : Nat} {g : Nat → Nat} (h1 : 1 ≤ m) (h2 : m ≤ n) : ts n m g = g m + ts n (m + 1) g := by
  unfold ts
  have h := sm_upd (n := n) (j := m - 1) (f := fun i => if m ≤ i + 1 then g (i + 1) else 0) (g := fun i => if m + 1 ≤ i + 1 then g (i + 1) else 0) (by omega) (fun i hi hne => by
    by_cases e : m ≤ i + 1
    · rw [if_pos e, if_pos (by omega)]
    · rw [if_neg e, if_neg (by omega)])
  have e1 : m - 1 + 1 = m := by omega
  rw [e1, if_pos (Nat.le_refl _), if_neg (by omega)] at h
  omega
theorem ts_end {n : Nat} {g : Nat → Nat} : ts n (n + 1) g = 0 := by
  unfold ts
  exact sm_zero (fun i hi => by rw [if_neg (by omega)])
theorem ts_all {n : Nat} {g : Nat → Nat} : ts n 1 g = sm n (fun i => g (i + 1)) := by
  unfold ts
  exact sm_congr (fun i hi => by rw [if_pos (by omega)])
/-- so many shortest rows there are, from a stack that is so far -/
def pfN (n : Nat) (tn : Nat → Nat → Nat) (op : Nat → Nat → Bool) (f : Nat → Int) : Nat → Nat → Nat
  | 0, _ => 1
  | j + 1, c => sm n (fun i => if nxB tn op f c (i + 1) = true then pfN n tn op f j (tn c (i + 1)) else 0)
section WAYS
variable {N n goal t : Nat} {tn : Nat → Nat → Nat} {op : Nat → Nat → Bool} {pr : Nat → Nat → Nat} {f : Nat → Int} {μ : Mem} {k : Nat}
theorem pfN_pos (hp : Gp N n goal tn pr) (hD : IsD N n tn (eS tn op true 0) t f) : ∀ (j c : Nat), c < N → f c = j → 1 ≤ pfN n tn op f j c
  | 0, _, _, _ => Nat.le_refl _
  | j + 1, c, hc, e => by
    obtain ⟨m, h1, h2, h3, h4⟩ := hD.2.2.2 c hc (by omega)
    obtain ⟨hd, hdd, -, -⟩ := hp.2.2.2 c m hc h1 h2
    have ih := pfN_pos hp hD j (tn c m) hd (by omega)
    have hnx : nxB tn op f c m = true := by
      unfold eS at h3
      rw [if_pos rfl, hdd] at h3
      unfold nxB
      simp only [Bool.and_eq_true, decide_eq_true_eq] at h3 ⊢
      exact ⟨h3.2, h4⟩
    rw [pfN]
    have h5 := sm_pos (n := n) (j := m - 1) (f := fun i => if nxB tn op f c (i + 1) = true then pfN n tn op f j (tn c (i + 1)) else 0) (by omega)
    have e1 : m - 1 + 1 = m := by omega
    rw [e1, if_pos hnx] at h5
    omega
/-- the reference's ways -/
theorem LF.ways {P W : Nat → Nat} (hp : Gp N n goal tn pr) (H : LF N n tn op 0 t P W) : ∀ (j c : Nat), c < N → P c = j + 1 → W c = min CW (pfN n tn op (fun c => (P c : Int) - 1) j c)
  | 0, c, hc, e => by
    have : c = t := (H.2.1 c hc).mp (by omega)
    rw [this, H.2.2.2.2.2.1, pfN]; rfl
  | j + 1, c, hc, e => by
    rw [H.2.2.2.2.2.2.2 c hc (by omega), pfN, ← cap_sum (f := fun i => if nxB tn op (fun c => (P c : Int) - 1) c (i + 1) = true then pfN n tn op (fun c => (P c : Int) - 1) j (tn c (i + 1)) else 0), ← cap_sum (f := fun i => if (okS op 0 c (i + 1) && decide (P (tn c (i + 1)) + 1 = P c)) = true then W (tn c (i + 1)) else 0)]
    congr 1
    refine sm_congr (fun i hi => ?_)
    obtain ⟨hd, -, -, -⟩ := hp.2.2.2 c (i + 1) hc (by omega) (by omega)
    have hb : (okS op 0 c (i + 1) && decide (P (tn c (i + 1)) + 1 = P c)) = nxB tn op (fun c => (P c : Int) - 1) c (i + 1) := by
      unfold okS nxB
      have e1 : decide (P (tn c (i + 1)) + 1 = P c) = decide ((P (tn c (i + 1)) : Int) - 1 = (P c : Int) - 1 - 1) := by
        rw [decide_eq_decide]; omega
      simp only [e1]
      simp
    rw [hb]
    by_cases h : nxB tn op (fun c => (P c : Int) - 1) c (i + 1) = true
    · rw [if_pos h, if_pos h]
      have : P (tn c (i + 1)) = j + 1 := by
        unfold nxB at h
        simp only [Bool.and_eq_true, decide_eq_true_eq] at h
        omega
      rw [LF.ways hp H j _ hd this]
      omega
    · rw [if_neg h, if_neg h]
theorem isCt_b {x : Nat} (h : isCt x) : x = 36 ∨ x = 37 := h
theorem al_Ct {x : Nat} (h : isCt x) : alen x = 3840 := by unfold alen; rw [s_Ct h]
/-- who still has to hand on what leads to him -/
def acB (f : Nat → Int) (l : Int) (e c : Nat) : Bool := (decide (f c = l) && decide (e ≤ c)) || decide (f c = l - 1)
def phi (N n : Nat) (tn : Nat → Nat → Nat) (op : Nat → Nat → Bool) (f : Nat → Int) (l : Int) (e : Nat) (R : Nat → Nat) : Nat := sm N (fun c => if acB f l e c = true then R c * pfN n tn op f (f c).toNat c else 0)
/-- the row of ways while it is filled -/
def Wr (N n : Nat) (tn : Nat → Nat → Nat) (op : Nat → Nat → Bool) (f : Nat → Int) (x : Nat) (l : Int) (K : Nat) (μ0 μ : Mem) (R : Nat → Nat) : Prop := (∀ c, c < N → μ x c = R c ∧ R c ≤ CW) ∧ (∀ c, c < N → (f c < 0 ∨ f c < l - 1) → R c = 0) ∧ ∀ y, y ≠ x → μ y = μ0 y
theorem addRows_ok {x c l K : Nat} {μ0 : Mem} {R : Nat → Nat} (hk : isSt k) (hx : isCt x) (hp : Gp N n goal tn pr) (hg : Gr N n goal tn op pr μ0) (hR : Rw N k f μ0) (hD : IsD N n tn (eS tn op true 0) t f) (hc : c < N) (hl : 1 ≤ l) (hfc : f c = l) (hW : Wr N n tn op f x l K μ0 μ R) (hΦ : min CW (phi N n tn op f l c R) = K) :
    Ok (fX8_addRows k x (c : Int) μ) (fun ν => ∃ R', Wr N n tn op f x l K μ0 ν R' ∧ min CW (phi N n tn op f l (c + 1) R') = K) := by
  have hN := hp.2.1
  have hn := hp.1
  obtain ⟨kb1, kb2⟩ := isSt_b hk
  have hxb := isCt_b hx
  have hC : CW = 2000000000 := rfl
  have hV : ∀ d, d < N → 0 ≤ f d → 1 ≤ pfN n tn op f (f d).toNat d := fun d hd h0 => pfN_pos hp hD _ d hd (by omega)
  -- the sum without the one that is looked at
  have split0 : phi N n tn op f l c R = phi N n tn op f l (c + 1) R + R c * pfN n tn op f l c := by
    unfold phi
    have h := sm_upd (n := N) (j := c) (f := fun d => if acB f l c d = true then R d * pfN n tn op f (f d).toNat d else 0) (g := fun d => if acB f l (c + 1) d = true then R d * pfN n tn op f (f d).toNat d else 0) hc (fun d hd hne => by
      have : acB f l c d = acB f l (c + 1) d := by
        unfold acB
        have : decide (c ≤ d) = decide (c + 1 ≤ d) := by rw [decide_eq_decide]; omega
        rw [this]
      rw [this])
    have h1 : acB f l c c = true := by unfold acB; simp [hfc]
    have h2 : acB f l (c + 1) c = false := by unfold acB; simp [hfc]; omega
    rw [h1, h2, if_pos rfl, if_neg (by decide), hfc, Int.toNat_natCast] at h
    omega
  obtain ⟨l', rfl⟩ : ∃ l', l = l' + 1 := ⟨l - 1, by omega⟩
  have hpf : pfN n tn op f (l' + 1) c = ts n 1 (fun m => if nxB tn op f c m = true then pfN n tn op f l' (tn c m) else 0) := by rw [ts_all, pfN]
  unfold fX8_addRows
  refine Ok.bind ?_
  refine Ok.imp (loop_FU (Q := fun ν : Mem => ∃ R', Wr N n tn op f x ((l' + 1 : Nat) : Int) K μ0 ν R' ∧ min CW (phi N n tn op f ((l' + 1 : Nat) : Int) (c + 1) R') = K) (n + 1) (fun (m : Nat) (s : Int × Mem) => 1 ≤ m ∧ s.1 = (m : Int) ∧ ∃ R', Wr N n tn op f x ((l' + 1 : Nat) : Int) K μ0 s.2 R' ∧ R' c = R c ∧ min CW (phi N n tn op f ((l' + 1 : Nat) : Int) (c + 1) R' + R c * ts n m (fun m => if nxB tn op f c m = true then pfN n tn op f l' (tn c m) else 0)) = K) 1 ⟨by omega, rfl, R, hW, rfl, by rw [← hpf, ← split0]; exact hΦ⟩ (by omega) (by omega) ?_ ?_) ?_
  · rintro m ⟨a, ν⟩ hm ⟨hm1, e1, R', ⟨w1, w2, w3⟩, hRc, hK⟩
    dsimp only at e1 w1 w3 ⊢
    subst e1
    have hgν : Gr N n goal tn op pr ν := hg.same (fun j _ => by rw [w3 25 (by omega)]) (fun y h1 h2 => w3 y (by omega))
    have hRν : Rw N k f ν := fun d hd => by rw [w3 _ (by omega)]; exact hR d hd
    obtain ⟨t1, -, -⟩ := hgν.2.2.2 c m hc hm1 (by omega)
    obtain ⟨hd, -, -, -⟩ := hp.2.2.2 c m hc hm1 (by omega)
    unfold fX8_addRows_b2
    simp only [lt]
    rw [hgν.1, w32_n (a := m) (by omega), w32_n (a := n) (by omega), if_pos (by omega), nearer_ok hk hp hgν hRν hc hm1 (by omega), t1]
    rw [ts_succ hm1 (by omega)] at hK
    by_cases hx2 : nxB tn op f c m = true
    · have hfd : f (tn c m) = l' := by
        unfold nxB at hx2
        simp only [Bool.and_eq_true, decide_eq_true_eq] at hx2
        omega
      have hdc : tn c m ≠ c := fun e => by rw [e] at hfd; omega
      obtain ⟨r1, r2⟩ := w1 _ hd
      obtain ⟨r3, r4⟩ := w1 _ hc
      rw [if_pos hx2] at hK ⊢
      have a1 : fX11_at x ((tn c m : Nat) : Int) ν = R' (tn c m) := by rw [at_n _ rfl (al_Ct hx) (by omega) (by omega)]; exact r1
      have a2 : fX11_at x ((c : Nat) : Int) ν = R' c := by rw [at_n _ rfl (al_Ct hx) (by omega) (by omega)]; exact r3
      have hmin : l_2i (lmin 2000000000 (w32 (R' (tn c m) : Int) + w32 (R' c : Int))) = ((min CW (R' (tn c m) + R' c) : Nat) : Int) := by
        rw [w32_n (by omega), w32_n (by omega)]
        have e9 : (R' (tn c m) : Int) + (R' c : Int) = ((R' (tn c m) + R' c : Nat) : Int) := by push_cast; rfl
        rw [e9]
        unfold lmin
        have hwC : w64 2000000000 = 2000000000 := by decide
        rw [w64_nn (by omega), hwC]
        by_cases q : R' (tn c m) + R' c < 2000000000
        · rw [if_pos (by omega), l_2i_n (by omega), Nat.min_eq_right (by omega)]
        · rw [if_neg (by omega), Nat.min_eq_left (by omega)]
          have := l_2i_n (a := 2000000000) (by omega)
          exact this
      rw [a1, a2, hmin, put_n _ rfl (al_Ct hx) (by omega) (by omega), Ok_some]
      refine ⟨by omega, by push_cast; rfl, fun d => if d = tn c m then min CW (R' (tn c m) + R' c) else R' d, ⟨fun d hd2 => ?_, fun d hd2 h1 => ?_, fun y hy => ?_⟩, ?_, ?_⟩
      · dsimp only
        rw [upd2_self]
        by_cases e : d = tn c m
        · rw [if_pos e, if_pos e]; exact ⟨rfl, Nat.min_le_left _ _⟩
        · rw [if_neg e, if_neg e]; exact w1 d hd2
      · have : d ≠ tn c m := fun e => by rw [e, hfd] at h1; omega
        dsimp only
        rw [if_neg this]; exact w2 d hd2 h1
      · dsimp only; rw [upd2_ne hy]; exact w3 y hy
      · dsimp only
        rw [if_neg (fun e : c = tn c m => hdc e.symm)]; exact hRc
      · rw [← hK]
        have hup := sm_upd (n := N) (j := tn c m) (f := fun d => if acB f ((l' + 1 : Nat) : Int) (c + 1) d = true then (if d = tn c m then min CW (R' (tn c m) + R' c) else R' d) * pfN n tn op f (f d).toNat d else 0) (g := fun d => if acB f ((l' + 1 : Nat) : Int) (c + 1) d = true then R' d * pfN n tn op f (f d).toNat d else 0) hd (fun d hd2 hne => by rw [if_neg hne])
        have hac : acB f ((l' + 1 : Nat) : Int) (c + 1) (tn c m) = true := by unfold acB; simp [hfd]
        rw [hac, if_pos rfl, if_pos rfl, if_pos rfl, hfd, Int.toNat_natCast] at hup
        have hv := hV _ hd (by omega)
        rw [hfd, Int.toNat_natCast] at hv
        unfold phi
        generalize hS1 : sm N (fun d => if acB f ((l' + 1 : Nat) : Int) (c + 1) d = true then R' d * pfN n tn op f (f d).toNat d else 0) = S1 at hup ⊢
        generalize hS2 : sm N (fun d => if acB f ((l' + 1 : Nat) : Int) (c + 1) d = true then (if d = tn c m then min CW (R' (tn c m) + R' c) else R' d) * pfN n tn op f (f d).toNat d else 0) = S2 at hup ⊢
        have hle : R' (tn c m) * pfN n tn op f l' (tn c m) ≤ S1 := by
          have := sm_pos (n := N) (j := tn c m) (f := fun d => if acB f ((l' + 1 : Nat) : Int) (c + 1) d = true then R' d * pfN n tn op f (f d).toNat d else 0) hd
          rw [hS1, hac, if_pos rfl, hfd, Int.toNat_natCast] at this
          exact this
        have hcs := cap_step (X := S1 - R' (tn c m) * pfN n tn op f l' (tn c m)) (r := R' (tn c m)) (a := R' c) (v := pfN n tn op f l' (tn c m)) (R := ts n (m + 1) (fun m => if nxB tn op f c m = true then pfN n tn op f l' (tn c m) else 0)) hv
        rw [← hRc]
        have q1 : S1 - R' (tn c m) * pfN n tn op f l' (tn c m) + R' (tn c m) * pfN n tn op f l' (tn c m) = S1 := by omega
        have q2 : S1 - R' (tn c m) * pfN n tn op f l' (tn c m) + min CW (R' (tn c m) + R' c) * pfN n tn op f l' (tn c m) = S2 := by omega
        rw [q1, q2] at hcs
        exact hcs.symm
    · rw [if_neg hx2] at hK ⊢
      rw [Nat.zero_add] at hK
      rw [Ok_some]
      exact ⟨by omega, by push_cast; rfl, R', ⟨w1, w2, w3⟩, hRc, hK⟩
  · rintro ⟨a, ν⟩ ⟨hm1, e1, R', ⟨w1, w2, w3⟩, hRc, hK⟩
    dsimp only at e1 w1 w3 ⊢
    subst e1
    have hgν : Gr N n goal tn op pr ν := hg.same (fun j _ => by rw [w3 25 (by omega)]) (fun y h1 h2 => w3 y (by omega))
    unfold fX8_addRows_b2
    rw [hgν.1, w32_n (a := n + 1) (by omega), w32_n (a := n) (by omega), if_neg (by omega), Ok_some]
    rw [ts_end, Nat.mul_zero, Nat.add_zero] at hK
    exact ⟨R', ⟨w1, w2, w3⟩, hK⟩
  · rintro ν hν
    rw [Ok_some]
    exact hν
theorem rowsOf_ok {x c : Nat} (hk : isSt k) (hx : isCt x) (hx2 : μ 25 15 = x) (hp : Gp N n goal tn pr) (hg : Gr N n goal tn op pr μ) (hR : Rw N k f μ) (ht : t < N) (ho : μ k 4 = t) (hD : IsD N n tn (eS tn op true 0) t f) (hc : c < N) :
    Ok (fX8_rowsOf k (c : Int) μ) (fun o => o.1 = (if f c = -1 then 0 else ((min CW (pfN n tn op f (f c).toNat c) : Nat) : Int)) ∧ ∀ y, y ≠ x → o.2 y = μ y) := by
  have hN := hp.2.1
  obtain ⟨kb1, kb2⟩ := isSt_b hk
  have hxb := isCt_b hx
  have hC : CW = 2000000000 := rfl
  have hb := hD.1 c hc
  have hwm := w32_m1
  unfold fX8_rowsOf
  simp only [lt]
  rw [rw_at hk hN hR hc, w32_eq (x := f c) (by omega) (by omega), hwm]
  by_cases h1 : f c = -1
  · rw [if_pos h1, if_pos h1, Ok_some]
    exact ⟨rfl, fun _ _ => rfl⟩
  · rw [if_neg h1, if_neg h1]
    have hsc : fX7_scratch μ = some x := by
      unfold fX7_scratch
      simp only [lt]
      rw [hx2, gd_pos (by omega), Int.toNat_natCast]
    rw [hsc, Option.bind_some]
    obtain ⟨l, hl⟩ : ∃ l : Nat, f c = l := ⟨(f c).toNat, by omega⟩
    generalize h5 : fX11_put x (c : Int) 1 (fill3 μ x 3840 0) = μ5
    have h5' : upd2 (fill3 μ x 3840 0) x c 1 = μ5 := by rw [← h5, put_n c rfl (al_Ct hx) (by omega) (by omega)]
    have hw0 : Wr N n tn op f x l (min CW (pfN n tn op f l c)) μ μ5 (fun d => if d = c then 1 else 0) := by
      refine ⟨fun d hd => ?_, fun d hd h2 => ?_, fun y hy => ?_⟩
      · rw [← h5', upd2_self]
        dsimp only
        by_cases e : d = c
        · rw [if_pos e, if_pos e]; exact ⟨rfl, by omega⟩
        · rw [if_neg e, if_neg e, fill_at (by omega)]; exact ⟨rfl, by omega⟩
      · have : d ≠ c := fun e => by rw [e, hl] at h2; omega
        dsimp only
        rw [if_neg this]
      · rw [← h5', upd2_ne hy, fill_ne hy]
    have hΦ0 : min CW (phi N n tn op f l 0 (fun d => if d = c then 1 else 0)) = min CW (pfN n tn op f l c) := by
      unfold phi
      rw [sm_one hc (fun d _ hne => by dsimp only; rw [if_neg hne]; simp)]
      have : acB f l 0 c = true := by unfold acB; simp [hl]
      rw [this, if_pos rfl]
      dsimp only
      rw [if_pos rfl, Nat.one_mul, hl, Int.toNat_natCast]
    refine Ok.then (loop_I (Q := fun ν : Mem => ∃ R, Wr N n tn op f x 0 (min CW (pfN n tn op f l c)) μ ν R ∧ min CW (phi N n tn op f 0 0 R) = min CW (pfN n tn op f l c)) _ (fun s : Int × Mem => s.1.toNat) (fun s : Int × Mem => ∃ (l' : Nat) (R : Nat → Nat), s.1 = (l' : Int) ∧ l' ≤ l ∧ Wr N n tn op f x l' (min CW (pfN n tn op f l c)) μ s.2 R ∧ min CW (phi N n tn op f l' 0 R) = min CW (pfN n tn op f l c)) ⟨l, _, hl, by omega, hw0, hΦ0⟩ (by show (f c).toNat < _; omega) ?_) ?_
    · rintro ⟨a, ν⟩ ⟨l', R, e1, hll, hW, hΦ⟩
      dsimp only at e1 hW ⊢
      subst e1
      unfold fX8_rowsOf_b38
      rw [w32_n (a := l') (by omega)]
      by_cases h0 : l' = 0
      · subst h0
        rw [if_pos (by omega), Ok_some]
        exact ⟨R, hW, hΦ⟩
      · rw [if_neg (by omega)]
        refine Ok.bind ?_
        refine Ok.imp (loop_FU (Q := fun ν : Mem => ∃ R, Wr N n tn op f x l' (min CW (pfN n tn op f l c)) μ ν R ∧ min CW (phi N n tn op f l' N R) = min CW (pfN n tn op f l c)) N (fun (i : Nat) (s : Int × Mem) => s.1 = (i : Int) ∧ ∃ R, Wr N n tn op f x l' (min CW (pfN n tn op f l c)) μ s.2 R ∧ min CW (phi N n tn op f l' i R) = min CW (pfN n tn op f l c)) 0 ⟨rfl, R, hW, hΦ⟩ (by omega) (by omega) ?_ ?_) ?_
        · rintro i ⟨a, ρ⟩ hi ⟨e2, R2, hW2, hΦ2⟩
          dsimp only at e2 hW2 ⊢
          subst e2
          have hgρ : Gr N n goal tn op pr ρ := hg.same (fun j _ => by rw [hW2.2.2 25 (by omega)]) (fun y q1 q2 => hW2.2.2 y (by omega))
          have hRρ : Rw N k f ρ := fun d hd => by rw [hW2.2.2 _ (by omega)]; exact hR d hd
          have hbi := hD.1 i hi
          obtain ⟨r1, r2⟩ := hW2.1 i hi
          have ar : fX11_at x ((i : Nat) : Int) ρ = R2 i := by rw [at_n _ rfl (al_Ct hx) (by omega) (by omega)]; exact r1
          have skip : (f i = l' → R2 i = 0) → Ok (some (Sum.inl ((i : Int) + 1, ρ) : (Int × Mem) ⊕ Mem)) (Sum.elim (fun s => s.1 = ((i + 1 : Nat) : Int) ∧ ∃ R, Wr N n tn op f x l' (min CW (pfN n tn op f l c)) μ s.2 R ∧ min CW (phi N n tn op f l' (i + 1) R) = min CW (pfN n tn op f l c)) (fun ν => ∃ R, Wr N n tn op f x l' (min CW (pfN n tn op f l c)) μ ν R ∧ min CW (phi N n tn op f l' N R) = min CW (pfN n tn op f l c))) := fun hz => by
            rw [Ok_some]
            refine ⟨by push_cast; rfl, R2, hW2, ?_⟩
            rw [← hΦ2]
            congr 1
            unfold phi
            refine sm_congr (fun d hd => ?_)
            unfold acB
            by_cases e : d = i
            · subst e
              by_cases q : f d = l'
              · rw [hz q]; simp
              · simp [q]
            · have : decide (i + 1 ≤ d) = decide (i ≤ d) := by rw [decide_eq_decide]; omega
              rw [this]
          unfold fX8_rowsOf_b46
          rw [hgρ.2.2.1, w32_n (a := i) (by omega), w32_n (a := N) (by omega), if_pos (by omega), rw_at hk hN hRρ hi, w32_eq (x := f i) (by omega) (by omega), w32_n (a := l') (by omega), ar, w32_n (a := R2 i) (by omega)]
          by_cases q : f i = l'
          · rw [if_pos q]
            by_cases q2 : R2 i = 0
            · rw [if_pos (by omega)]
              exact skip (fun _ => q2)
            · rw [if_neg (by omega)]
              refine Ok.bind ?_
              have hW3 : Wr N n tn op f x l' (min CW (pfN n tn op f l c)) ρ ρ R2 := ⟨hW2.1, hW2.2.1, fun _ _ => rfl⟩
              refine Ok.imp (addRows_ok (l := l') hk hx hp hgρ hRρ hD hi (by omega) q hW3 hΦ2) ?_
              rintro θ ⟨R3, hW4, hΦ4⟩
              rw [Ok_some]
              exact ⟨by push_cast; rfl, R3, ⟨hW4.1, hW4.2.1, fun y hy => (hW4.2.2 y hy).trans (hW2.2.2 y hy)⟩, hΦ4⟩
          · rw [if_neg q]
            exact skip (fun h => absurd h q)
        · rintro ⟨a, ρ⟩ ⟨e2, R2, hW2, hΦ2⟩
          dsimp only at e2 hW2 ⊢
          subst e2
          have hgρ : Gr N n goal tn op pr ρ := hg.same (fun j _ => by rw [hW2.2.2 25 (by omega)]) (fun y q1 q2 => hW2.2.2 y (by omega))
          unfold fX8_rowsOf_b46
          rw [hgρ.2.2.1, w32_n (a := N) (by omega), if_neg (by omega), Ok_some]
          exact ⟨R2, hW2, hΦ2⟩
        · rintro ρ ⟨R2, hW2, hΦ2⟩
          rw [Ok_some]
          refine ⟨⟨l' - 1, R2, by dsimp only; omega, by omega, ⟨hW2.1, fun d hd q1 => hW2.2.1 d hd (by omega), hW2.2.2⟩, ?_⟩, by dsimp only; omega⟩
          rw [← hΦ2]
          congr 1
          unfold phi
          refine sm_congr (fun d hd => ?_)
          have hbd := hD.1 d hd
          unfold acB
          have e9 : ((l' - 1 : Nat) : Int) = (l' : Int) - 1 := by omega
          have e8 : ¬ N ≤ d := by omega
          rw [e9]
          by_cases q : f d = (l' : Int) - 1
          · simp [q]
          · by_cases q2 : f d = (l' : Int) - 1 - 1
            · rw [hW2.2.1 d hd (by omega)]; simp
            · simp [q, q2, e8]
    · rintro ν ⟨R, hW, hΦ⟩
      have hk4 : ν k 4 = t := by rw [hW.2.2 k (by omega)]; exact ho
      obtain ⟨r1, r2⟩ := hW.1 t ht
      have ar : fX11_at x ((t : Nat) : Int) ν = R t := by rw [at_n _ rfl (al_Ct hx) (by omega) (by omega)]; exact r1
      rw [hk4, ar, Ok_some]
      refine ⟨?_, hW.2.2⟩
      dsimp only
      rw [hl, Int.toNat_natCast, ← hΦ]
      have hft : f t = 0 := (hD.2.1 t ht).mpr rfl
      have hph : phi N n tn op f 0 0 R = R t := by
        unfold phi
        rw [sm_one ht (fun d hd hne => ?_)]
        · have : acB f 0 0 t = true := by unfold acB; simp [hft]
          rw [this, if_pos rfl, hft]
          simp [pfN]
        · have h0 : f d ≠ 0 := fun q => hne ((hD.2.1 d hd).mp q)
          have hbd := hD.1 d hd
          by_cases q : f d = -1
          · rw [hW.2.1 d hd (by omega)]; simp
          · have : acB f 0 0 d = false := by unfold acB; simp [h0]; omega
            rw [this]; simp
      rw [hph, Nat.min_eq_right r2]
end WAYS
