/-! ===== level 2: the fewest turns, by a queue ===== -/
/-- the fewest steps from t on, as what holds of neighbours -/
def IsD (N n : Nat) (tn : Nat → Nat → Nat) (E : Nat → Nat → Bool) (t : Nat) (f : Nat → Int) : Prop :=
  (∀ c, c < N → -1 ≤ f c ∧ f c < N) ∧ (∀ c, c < N → (f c = 0 ↔ c = t)) ∧
  (∀ c m, c < N → 1 ≤ m → m ≤ n → E c m = true → f c ≠ -1 → f (tn c m) ≠ -1 ∧ f (tn c m) ≤ f c + 1) ∧
  ∀ c, c < N → 0 < f c → ∃ m, 1 ≤ m ∧ m ≤ n ∧ E (tn c m) m = true ∧ f (tn c m) = f c - 1
section BFS
variable {N n goal t : Nat} {tn : Nat → Nat → Nat} {op : Nat → Nat → Bool} {pr : Nat → Nat → Nat} {E : Nat → Nat → Bool}
/-- the queue's state, between rounds and within them: s is looked at, its turns below m are done -/
def QI (N n : Nat) (tn : Nat → Nat → Nat) (E : Nat → Nat → Bool) (t h T : Nat) (f : Nat → Int) (q : Nat → Nat) : Prop :=
  T = cn N (fun c => decide (f c ≠ -1)) ∧ (∀ i, i < T → q i < N ∧ 0 ≤ f (q i)) ∧ (∀ c, c < N → f c = -1 ∨ (0 ≤ f c ∧ f c < T ∧ ∃ i, i < T ∧ q i = c)) ∧
  (∀ i j, i ≤ j → j < T → f (q i) ≤ f (q j)) ∧ (∀ i m, i < h → 1 ≤ m → m ≤ n → E (q i) m = true → f (tn (q i) m) ≠ -1 ∧ f (tn (q i) m) ≤ f (q i) + 1) ∧
  (∀ c, c < N → (f c = 0 ↔ c = t)) ∧ ∀ c, c < N → 0 < f c → ∃ m, 1 ≤ m ∧ m ≤ n ∧ E (tn c m) m = true ∧ f (tn c m) = f c - 1
theorem QI.push {h T m : Nat} {f : Nat → Int} {q : Nat → Nat} (hp : Gp N n goal tn pr) (H : QI N n tn E t h T f q) (hh : h < T) (hm1 : 1 ≤ m) (hm : m ≤ n) (hx : ∀ j, j < T → f (q j) ≤ f (q h) + 1) (hE : E (q h) m = true) (hf : f (tn (q h) m) = -1) :
    QI N n tn E t h (T + 1) (fun c => if c = tn (q h) m then f (q h) + 1 else f c) (fun i => if i = T then tn (q h) m else q i) := by
  obtain ⟨h1, h2, h3, h4, h5, h6, h7⟩ := H
  obtain ⟨hs, hs0⟩ := h2 h hh
  obtain ⟨hd, hdd, -, -⟩ := hp.2.2.2 (q h) m hs hm1 hm
  generalize hde : tn (q h) m = d at *
  have hqd : ∀ i, i < T → q i ≠ d := fun i hi e => by
    have := (h2 i hi).2
    rw [e, hf] at this
    omega
  have hsd := hqd h hh
  have hfs : f (q h) < T := by
    rcases h3 (q h) hs with g | g
    · omega
    · exact g.2.1
  have hq' : ∀ i, i < T → (fun i => if i = T then d else q i) i = q i := fun i hi => if_neg (by omega)
  have hf' : ∀ c, c ≠ d → (fun c => if c = d then f (q h) + 1 else f c) c = f c := fun c hc => if_neg hc
  have hfd : (fun c => if c = d then f (q h) + 1 else f c) d = f (q h) + 1 := if_pos rfl
  have hqT : (fun i => if i = T then d else q i) T = d := if_pos rfl
  refine ⟨?_, fun i hi => ?_, fun c hc => ?_, fun i j hij hj => ?_, fun i m' hi hm1' hm' hEi => ?_, fun c hc => ?_, fun c hc hpos => ?_⟩
  · rw [h1]
    refine (cn_set (j := d) hd (by simp [hf]) ?_ (fun i hi hne => ?_)).symm
    · simp only [if_true]; simp; omega
    · simp only [hne, if_false]
  · by_cases e : i = T
    · subst e
      rw [hqT, hfd]; omega
    · rw [hq' i (by omega), hf' _ (hqd i (by omega))]; exact h2 i (by omega)
  · by_cases e : c = d
    · subst e
      rw [hfd]
      exact Or.inr ⟨by omega, by omega, T, by omega, hqT⟩
    · rw [hf' c e]
      rcases h3 c hc with g | ⟨g1, g2, i, g3, g4⟩
      · exact Or.inl g
      · exact Or.inr ⟨g1, by omega, i, by omega, by rw [hq' i g3]; exact g4⟩
  · by_cases e : j = T
    · subst e
      rw [hqT, hfd]
      by_cases e2 : i = j
      · subst e2; rw [hqT, hfd]; omega
      · rw [hq' i (by omega), hf' _ (hqd i (by omega))]; exact hx i (by omega)
    · rw [hq' i (by omega), hf' _ (hqd i (by omega)), hq' j (by omega), hf' _ (hqd j (by omega))]
      exact h4 i j hij (by omega)
  · rw [hq' i (by omega)] at hEi ⊢
    obtain ⟨g1, g2⟩ := h5 i m' hi hm1' hm' hEi
    have : tn (q i) m' ≠ d := fun e => g1 (by rw [e]; exact hf)
    rw [hf' _ this, hf' _ (hqd i (by omega))]
    exact ⟨g1, g2⟩
  · by_cases e : c = d
    · subst e
      rw [hfd]
      constructor
      · intro q0; omega
      · intro q0
        have := (h6 c hc).mpr q0
        omega
    · rw [hf' c e]; exact h6 c hc
  · by_cases e : c = d
    · subst e
      refine ⟨m, hm1, hm, ?_, ?_⟩
      · rw [hdd]; exact hE
      · rw [hdd, hf' _ hsd, hfd]; omega
    · rw [hf' c e] at hpos ⊢
      obtain ⟨m', g1, g2, g3, g4⟩ := h7 c hc hpos
      have : tn c m' ≠ d := fun e2 => by rw [e2] at g4; omega
      exact ⟨m', g1, g2, g3, by rw [hf' _ this]; exact g4⟩
theorem QI.fin {T : Nat} {f : Nat → Int} {q : Nat → Nat} (H : QI N n tn E t T T f q) : IsD N n tn E t f := by
  obtain ⟨h1, h2, h3, h4, h5, h6, h7⟩ := H
  have hT : T ≤ N := by rw [h1]; exact cn_le
  refine ⟨fun c hc => ?_, h6, fun c m hc hm1 hm hE hf => ?_, h7⟩
  · rcases h3 c hc with g | g
    · rw [g]; omega
    · have := g.2.1; have := g.1; omega
  · rcases h3 c hc with g | ⟨g1, g2, i, g3, g4⟩
    · exact absurd g hf
    · subst g4
      exact h5 i m g3 hm1 hm hE
/-- only one row of numbers is so -/
theorem IsD.uniq {f g : Nat → Int} (hp : Gp N n goal tn pr) (hf : IsD N n tn E t f) (hg : IsD N n tn E t g) : ∀ c, c < N → f c = g c := by
  have half : ∀ (f g : Nat → Int), IsD N n tn E t f → IsD N n tn E t g → ∀ (k : Nat) (c : Nat), c < N → f c = k → g c ≠ -1 ∧ g c ≤ k := by
    intro f g hf hg k
    induction k with
    | zero =>
      intro c hc e
      have hct := (hf.2.1 c hc).mp e
      have := (hg.2.1 c hc).mpr hct
      omega
    | succ k ih =>
      intro c hc e
      obtain ⟨m, hm1, hm, hE, e2⟩ := hf.2.2.2 c hc (by omega)
      obtain ⟨hd, hdd, -, -⟩ := hp.2.2.2 c m hc hm1 hm
      obtain ⟨g1, g2⟩ := ih (tn c m) hd (by omega)
      obtain ⟨g3, g4⟩ := hg.2.2.1 (tn c m) m hd hm1 hm hE g1
      rw [hdd] at g3 g4
      exact ⟨g3, by omega⟩
  intro c hc
  have b1 := hf.1 c hc
  have b2 := hg.1 c hc
  by_cases e1 : f c = -1
  · by_cases e2 : g c = -1
    · omega
    · have := half g f hg hf (g c).toNat c hc (by omega)
      omega
  · have h1 := half f g hf hg (f c).toNat c hc (by omega)
    have h2 := half g f hg hf (g c).toNat c hc (by omega)
    omega
end BFS
section STEPS
variable {N n goal t : Nat} {tn : Nat → Nat → Nat} {op : Nat → Nat → Bool} {pr : Nat → Nat → Nat}
/-- the edges that a Steps looks along: those that lead to t (bk), from t (not bk); one turn left out -/
def eS (tn : Nat → Nat → Nat) (op : Nat → Nat → Bool) (bk : Bool) (b : Nat) (s m : Nat) : Bool := decide (m ≠ b) && op (if bk = true then tn s m else s) m
theorem al_St {k : Nat} (hk : isSt k) : alen (k + 1) = 3840 := by unfold alen; rw [s_St1 hk]
theorem isSt_b {k : Nat} (hk : isSt k) : 46 ≤ k ∧ k ≤ 73 := by unfold isSt at hk; omega
/-- the cells hold the state -/
def QM (N k T : Nat) (f : Nat → Int) (q : Nat → Nat) (μ0 μ : Mem) : Prop := (∀ c, c < N → μ (k + 1) c = f c) ∧ (∀ i, i < T → μ 35 i = q i) ∧ ∀ x, x ≠ k + 1 → x ≠ 35 → μ x = μ0 x
theorem learnRound_ok {k h T b : Nat} {bk : Bool} {f : Nat → Int} {q : Nat → Nat} {μ0 μ : Mem} (hk : isSt k) (hp : Gp N n goal tn pr) (hg : Gr N n goal tn op pr μ0) (hb : μ0 k 2 = b) (hb9 : b < 9) (hbk : (μ0 k 1 != 0) = bk) (hM : QM N k T f q μ0 μ) (hI : QI N n tn (eS tn op bk b) t h T f q) (hh : h < T) (hx : ∀ j, j < T → f (q j) ≤ f (q h) + 1) :
    Ok (fX8_learnRound k (q h : Int) (T : Int) μ) (fun o => ∃ T' f' q', o.1 = (T' : Nat) ∧ T ≤ T' ∧ QM N k T' f' q' μ0 o.2 ∧ QI N n tn (eS tn op bk b) t (h + 1) T' f' q' ∧ ∀ j, j < T' → f' (q' j) ≤ f' (q' h) + 1) := by
  obtain ⟨kb1, kb2⟩ := isSt_b hk
  have hN := hp.2.1
  have hn := hp.1
  unfold fX8_learnRound
  refine Ok.bind ?_
  refine Ok.imp (loop_FU (Q := fun o : Int × Mem => ∃ T' f' q', o.1 = (T' : Nat) ∧ T ≤ T' ∧ QM N k T' f' q' μ0 o.2 ∧ QI N n tn (eS tn op bk b) t (h + 1) T' f' q' ∧ ∀ j, j < T' → f' (q' j) ≤ f' (q' h) + 1) (n + 1) (fun (m : Nat) (s : Int × Int × Mem) => 1 ≤ m ∧ s.2.1 = (m : Int) ∧ ∃ (T' : Nat) (f' : Nat → Int) (q' : Nat → Nat), s.1 = (T' : Int) ∧ T ≤ T' ∧ q' h = q h ∧ QM N k T' f' q' μ0 s.2.2 ∧ QI N n tn (eS tn op bk b) t h T' f' q' ∧ (∀ j, j < T' → f' (q' j) ≤ f' (q h) + 1) ∧ ∀ m', 1 ≤ m' → m' < m → eS tn op bk b (q h) m' = true → f' (tn (q h) m') ≠ -1 ∧ f' (tn (q h) m') ≤ f' (q h) + 1) 1 ⟨by omega, rfl, T, f, q, rfl, by omega, rfl, hM, hI, hx, fun m' h1 h2 => absurd h2 (by omega)⟩ (by omega) (by omega) ?_ ?_) ?_
  · rintro m ⟨a1, a2, ν⟩ hm ⟨hm1, e1, T', f', q', e2, hTT, eq, hM', hI', hx', hpr'⟩
    dsimp only at e1 e2 hM' ⊢
    subst e1 e2
    obtain ⟨m1, m2, m3⟩ := hM'
    have hgν : Gr N n goal tn op pr ν := hg.same (fun j _ => by rw [m3 25 (by omega) (by omega)]) (fun x h1 h2 => m3 x (by omega) (by omega))
    have hI'' := hI'
    obtain ⟨i1, i2, i3, i4, i5, i6, i7⟩ := hI'
    have hhT : h < T' := by omega
    obtain ⟨hs, hs0⟩ := i2 h hhT
    rw [eq] at hs hs0
    obtain ⟨hd, hdd, -, -⟩ := hp.2.2.2 (q h) m hs hm1 (by omega)
    obtain ⟨c1, c2, c3⟩ := hgν.2.2.2 (q h) m hs hm1 (by omega)
    obtain ⟨-, c5, -⟩ := hgν.2.2.2 (tn (q h) m) m hd hm1 (by omega)
    have hT'N : T' ≤ N := by rw [i1]; exact cn_le
    have hwm : w32 (-1) = -1 := by decide
    have hfb : -1 ≤ f' (tn (q h) m) ∧ f' (tn (q h) m) < 4000 := by
      rcases i3 _ hd with g | g
      · rw [g]; omega
      · have := g.1; have := g.2.1; omega
    unfold fX8_learnRound_b14
    rw [hgν.1, w32_n (a := m) (by omega), w32_n (a := n) (by omega), if_pos (by omega), c1]
    simp only [lt]
    rw [m3 k (by omega) (by omega), hb, w32_n (a := b) (by omega), at_n (tn (q h) m) rfl (al_St hk) (by omega) (by omega), m1 _ hd, w32_eq (x := f' (tn (q h) m)) (by omega) (by omega), hwm, hbk]
    by_cases hmb : m = b
    · rw [if_pos (by omega : (m : Int) = b)]
      rw [if_neg (by decide), Ok_some]
      refine ⟨by omega, by push_cast; rfl, T', f', q', rfl, hTT, eq, ⟨m1, m2, m3⟩, hI'', hx', fun m' g1 g2 g3 => ?_⟩
      by_cases e : m' = m
      · subst e
        simp [eS, hmb] at g3
      · exact hpr' m' g1 (by omega) g3
    · rw [if_neg (by omega : ¬ (m : Int) = b)]
      by_cases hfd : f' (tn (q h) m) = -1
      · rw [if_pos hfd, if_pos rfl]
        have hv : fX7_isOpen (if bk = true then ((tn (q h) m : Nat) : Int) else ((q h : Nat) : Int)) (m : Int) ν = op (if bk = true then tn (q h) m else q h) m := by
          cases bk
          · exact c2
          · exact c5
        rw [hv]
        by_cases ho : op (if bk = true then tn (q h) m else q h) m = true
        · rw [if_pos ho]
          have hE : eS tn op bk b (q h) m = true := by unfold eS; rw [ho]; simp [hmb]
          have hT'l : T' < N := by
            have := cn_set (n := N) (j := tn (q h) m) (p := fun c => decide (f' c ≠ -1)) (q := fun c => if c = tn (q h) m then true else decide (f' c ≠ -1)) hd (by simp [hfd]) (by simp) (fun i _ hne => by simp [hne])
            have := cn_le (n := N) (p := fun c => if c = tn (q h) m then true else decide (f' c ≠ -1))
            omega
          rw [at_n (q h) rfl (al_St hk) (by omega) (by omega), m1 _ hs, put_n (tn (q h) m) rfl (al_St hk) (by omega) (by omega), put_n T' rfl (L := 3840) rfl (by omega) (by omega), Ok_some]
          have hpush := hI''.push (m := m) hp hhT hm1 (by omega) (by rw [eq]; exact hx') (by rw [eq]; exact hE) (by rw [eq]; exact hfd)
          rw [eq] at hpush
          have hsd : q h ≠ tn (q h) m := fun e => by rw [← e] at hfd; omega
          refine ⟨by omega, by push_cast; rfl, T' + 1, _, _, by push_cast; rfl, by omega, by rw [if_neg (by omega)]; exact eq, ⟨fun c hc => ?_, fun i hi => ?_, fun x h1 h2 => ?_⟩, hpush, fun j hj => ?_, fun m' g1 g2 g3 => ?_⟩
          · try dsimp only
            rw [upd2_ne (by omega), upd2_self]
            by_cases e : c = tn (q h) m
            · rw [if_pos e, if_pos e]
            · rw [if_neg e, if_neg e]; exact m1 c hc
          · try dsimp only
            rw [upd2_self]
            by_cases e : i = T'
            · rw [if_pos e, if_pos e]
            · rw [if_neg e, if_neg e, upd2_ne (by omega)]; exact m2 i (by omega)
          · try dsimp only
            rw [upd2_ne h2, upd2_ne h1]; exact m3 x h1 h2
          · rw [if_neg hsd]
            by_cases e : j = T'
            · rw [if_pos e, if_pos rfl]; omega
            · rw [if_neg e]
              have hne : q' j ≠ tn (q h) m := fun e2 => by
                have := (i2 j (by omega)).2
                rw [e2, hfd] at this; omega
              rw [if_neg hne]; exact hx' j (by omega)
          · rw [if_neg hsd]
            by_cases e : tn (q h) m' = tn (q h) m
            · rw [if_pos e]; omega
            · rw [if_neg e]
              exact hpr' m' g1 (by
                by_cases e2 : m' = m
                · subst e2; exact absurd rfl e
                · omega) g3
        · rw [if_neg ho, Ok_some]
          refine ⟨by omega, by push_cast; rfl, T', f', q', rfl, hTT, eq, ⟨m1, m2, m3⟩, hI'', hx', fun m' g1 g2 g3 => ?_⟩
          by_cases e : m' = m
          · subst e
            unfold eS at g3
            exact absurd ((Bool.and_eq_true _ _).mp g3).2 ho
          · exact hpr' m' g1 (by omega) g3
      · rw [if_neg hfd, if_neg (by decide), Ok_some]
        refine ⟨by omega, by push_cast; rfl, T', f', q', rfl, hTT, eq, ⟨m1, m2, m3⟩, hI'', hx', fun m' g1 g2 g3 => ?_⟩
        by_cases e : m' = m
        · subst e
          rcases i3 _ hd with g | ⟨-, -, i, g5, g6⟩
          · exact absurd g hfd
          · have := hx' i g5
            rw [g6] at this
            exact ⟨hfd, this⟩
        · exact hpr' m' g1 (by omega) g3
  · rintro ⟨a1, a2, ν⟩ ⟨hm1, e1, T', f', q', e2, hTT, eq, hM', hI', hx', hpr'⟩
    dsimp only at e1 e2 hM' ⊢
    subst e1 e2
    have hgν : Gr N n goal tn op pr ν := hg.same (fun j _ => by rw [hM'.2.2 25 (by omega) (by omega)]) (fun x h1 h2 => hM'.2.2 x (by omega) (by omega))
    unfold fX8_learnRound_b14
    rw [hgν.1, w32_n (a := n + 1) (by omega), w32_n (a := n) (by omega), if_neg (by omega), Ok_some]
    obtain ⟨i1, i2, i3, i4, i5, i6, i7⟩ := hI'
    refine ⟨T', f', q', rfl, hTT, hM', ⟨i1, i2, i3, i4, fun i m hi h1 h2 h3 => ?_, i6, i7⟩, fun j hj => by rw [eq]; exact hx' j hj⟩
    by_cases e : i = h
    · subst e
      rw [eq] at h3 ⊢
      exact hpr' m h1 (by omega) h3
    · exact i5 i m (by omega) h1 h2 h3
  · rintro ⟨a, ν⟩ ho
    rw [Ok_some]
    exact ho

theorem fill_at {μ : Mem} {x L i : Nat} {v : Int} (h : i < L) : fill3 μ x L v x i = v := by simp [fill3, h]
theorem fill_ne {μ : Mem} {x L y : Nat} {v : Int} (h : y ≠ x) : fill3 μ x L v y = μ y := by
  funext j
  simp [fill3, h]
/-- what a Steps holds: of t (a stack), or of nothing at all (-1) -/
def StI (N n : Nat) (tn : Nat → Nat → Nat) (E : Nat → Nat → Bool) (k : Nat) (t : Int) (μ : Mem) : Prop :=
  (∃ t' : Nat, t = t' ∧ t' < N ∧ IsD N n tn E t' (fun c => μ (k + 1) c)) ∨ (t = -1 ∧ ∀ c, c < N → μ (k + 1) c = -1)
/-- if it is known it is so -/
def StO (N n : Nat) (tn : Nat → Nat → Nat) (E : Nat → Nat → Bool) (k : Nat) (μ : Mem) : Prop := μ k 5 ≠ 0 → StI N n tn E k (μ k 4) μ
theorem steps_learn_ok {k b : Nat} {bk : Bool} {μ : Mem} {t : Int} (hk : isSt k) (hp : Gp N n goal tn pr) (hg : Gr N n goal tn op pr μ) (hb : μ k 2 = b) (hb9 : b < 9) (hbk : (μ k 1 != 0) = bk) (ht : t = -1 ∨ ∃ t' : Nat, t = t' ∧ t' < N) (hO : StO N n tn (eS tn op bk b) k μ) :
    Ok (fX8_learn k t μ) (fun ν => (∀ x, x ≠ k → x ≠ k + 1 → x ≠ 35 → ν x = μ x) ∧ (∀ j, j < 4 → ν k j = μ k j) ∧ ν k 5 ≠ 0 ∧ ν k 4 = t ∧ StI N n tn (eS tn op bk b) k t ν) := by
  obtain ⟨kb1, kb2⟩ := isSt_b hk
  have hN := hp.2.1
  have hn := hp.1
  have hwt : w32 t = t := by
    rcases ht with rfl | ⟨t', rfl, h⟩
    · decide
    · exact w32_n (by omega)
  have main : Ok (fX8_learn_j16 k t μ) (fun ν => (∀ x, x ≠ k → x ≠ k + 1 → x ≠ 35 → ν x = μ x) ∧ (∀ j, j < 4 → ν k j = μ k j) ∧ ν k 5 ≠ 0 ∧ ν k 4 = t ∧ StI N n tn (eS tn op bk b) k t ν) := by
    unfold fX8_learn_j16
    simp only [lt]
    generalize h4 : fill3 (upd2 (upd2 μ k 5 1) k 4 t) (k + 1) 3840 (-1) = ν4
    have hx4 : ∀ x, x ≠ k → x ≠ k + 1 → ν4 x = μ x := fun x h1 h2 => by rw [← h4, fill_ne h2, upd2_ne h1, upd2_ne h1]
    have hk4 : ∀ j, j < 4 → ν4 k j = μ k j := fun j hj => by rw [← h4, fill_ne (by omega), upd2_nj (by omega), upd2_nj (by omega)]
    have h45 : ν4 k 5 ≠ 0 := by rw [← h4, fill_ne (by omega), upd2_nj (by omega), upd2_at]; decide
    have h44 : ν4 k 4 = t := by rw [← h4, fill_ne (by omega), upd2_at]
    have hf4 : ∀ c, c < N → ν4 (k + 1) c = -1 := fun c hc => by rw [← h4, fill_at (by omega)]
    clear h4
    rw [hwt]
    rcases ht with rfl | ⟨t', rfl, htN⟩
    · rw [if_pos (by omega), Ok_some]
      exact ⟨fun x h1 h2 _ => hx4 x h1 h2, hk4, h45, h44, Or.inr ⟨rfl, hf4⟩⟩
    · have hall : i_shl (ν4 25 3) (ν4 25 2) = N := by rw [hx4 25 (by omega) (by omega)]; exact hg.2.2.1
      rw [if_neg (by omega), hall, w32_n (by omega), if_pos (by omega), put_n t' rfl (al_St hk) (by omega) (by omega), put_n (row := 35) (i := 0) 0 rfl (L := 3840) rfl (by omega) (by omega)]
      generalize h8 : upd2 (upd2 ν4 (k + 1) t' 0) 35 0 (t' : Int) = ν8
      have hx8 : ∀ x, x ≠ k + 1 → x ≠ 35 → ν8 x = ν4 x := fun x h1 h2 => by rw [← h8, upd2_ne h2, upd2_ne h1]
      have hg8 : Gr N n goal tn op pr ν8 := hg.same (fun j _ => by rw [hx8 25 (by omega) (by omega), hx4 25 (by omega) (by omega)]) (fun x h1 h2 => by rw [hx8 x (by omega) (by omega), hx4 x (by omega) (by omega)])
      have hI0 : QI N n tn (eS tn op bk b) t' 0 1 (fun c => if c = t' then 0 else -1) (fun _ => t') := by
        refine ⟨?_, fun i _ => ⟨htN, by simp⟩, fun c hc => ?_, fun i j _ _ => Int.le_refl _, fun i m hi => absurd hi (by omega), fun c hc => ?_, fun c hc hpos => ?_⟩
        · unfold cn
          rw [sm_one htN (fun i _ hne => by simp [hne])]
          simp
        · by_cases e : c = t'
          · simp only [e, if_true]
            exact Or.inr ⟨by omega, by omega, 0, by omega, trivial⟩
          · simp only [e, if_false]; exact Or.inl trivial
        · by_cases e : c = t'
          · simp [e]
          · simp [e]
        · by_cases e : c = t'
          · simp [e] at hpos
          · simp [e] at hpos
      have hM0 : QM N k 1 (fun c => if c = t' then 0 else -1) (fun _ => t') ν8 ν8 := by
        refine ⟨fun c hc => ?_, fun i hi => ?_, fun _ _ _ => rfl⟩
        · rw [← h8, upd2_ne (by omega), upd2_self]
          dsimp only
          by_cases e : c = t'
          · rw [if_pos e, if_pos e]
          · rw [if_neg e, if_neg e]; exact hf4 c hc
        · have : i = 0 := by omega
          subst this
          rw [← h8, upd2_at]
      have hb8 : ν8 k 2 = b := by rw [hx8 k (by omega) (by omega), hk4 2 (by omega)]; exact hb
      have hbk8 : (ν8 k 1 != 0) = bk := by rw [hx8 k (by omega) (by omega), hk4 1 (by omega)]; exact hbk
      refine Ok.bind ?_
      refine Ok.imp (loop_I (Q := fun ν : Mem => (∀ x, x ≠ k + 1 → x ≠ 35 → ν x = ν8 x) ∧ IsD N n tn (eS tn op bk b) t' (fun c => ν (k + 1) c)) _ (fun s : Int × Int × Mem => 4000 - s.2.1.toNat) (fun s : Int × Int × Mem => ∃ (T h : Nat) (f : Nat → Int) (q : Nat → Nat), s.1 = (T : Int) ∧ s.2.1 = (h : Int) ∧ h ≤ T ∧ QM N k T f q ν8 s.2.2 ∧ QI N n tn (eS tn op bk b) t' h T f q ∧ (h < T → ∀ j, j < T → f (q j) ≤ f (q h) + 1)) ⟨1, 0, _, _, rfl, rfl, by omega, hM0, hI0, fun _ j _ => by simp⟩ (by show 4000 - _ < _; omega) ?_) ?_
      · rintro ⟨a1, a2, ν⟩ ⟨T, h, f, q, e1, e2, hhT, hM, hI, hx⟩
        dsimp only at e1 e2 hM ⊢
        subst e1 e2
        have hTN : T ≤ N := by rw [hI.1]; exact cn_le
        have hw3 : w32 3840 = 3840 := by decide
        unfold fX8_learn_b78
        rw [w32_n (a := h) (by omega), w32_n (a := T) (by omega), hw3]
        by_cases hlt : h < T
        · rw [if_pos (by omega), if_pos (by omega), gd_pos (by omega), Int.toNat_natCast, hM.2.1 h hlt]
          refine Ok.bind ?_
          refine Ok.imp (learnRound_ok hk hp hg8 hb8 hb9 hbk8 hM hI hlt (hx hlt)) ?_
          rintro ⟨o1, o2⟩ ⟨T', f', q', g1, g2, g3, g4, g5⟩
          dsimp only at g1 g3 ⊢
          subst g1
          rw [Ok_some]
          refine ⟨⟨T', h + 1, f', q', rfl, by push_cast; rfl, by omega, g3, g4, fun hl j hj => ?_⟩, ?_⟩
          · have := g5 j hj
            have := g4.2.2.2.1 h (h + 1) (by omega) hl
            omega
          · show 4000 - ((h : Int) + 1).toNat < 4000 - (h : Int).toNat
            omega
        · have : h = T := by omega
          subst this
          rw [if_neg (by omega), Ok_some]
          refine ⟨hM.2.2, ?_⟩
          have := hI.fin
          refine ⟨fun c hc => ?_, fun c hc => ?_, fun c m hc hm1 hm hE => ?_, fun c hc hpos => ?_⟩
          · show -1 ≤ ν (k + 1) c ∧ ν (k + 1) c < N
            rw [hM.1 c hc]; exact this.1 c hc
          · show ν (k + 1) c = 0 ↔ _
            rw [hM.1 c hc]; exact this.2.1 c hc
          · show ν (k + 1) c ≠ -1 → ν (k + 1) _ ≠ -1 ∧ ν (k + 1) _ ≤ ν (k + 1) c + 1
            rw [hM.1 c hc, hM.1 _ (hp.2.2.2 c m hc hm1 hm).1]; exact this.2.2.1 c m hc hm1 hm hE
          · have hpos2 : 0 < ν (k + 1) c := hpos
            rw [hM.1 c hc] at hpos2
            obtain ⟨m, g1, g2, g3, g4⟩ := this.2.2.2 c hc hpos2
            refine ⟨m, g1, g2, g3, ?_⟩
            show ν (k + 1) _ = ν (k + 1) c - 1
            rw [hM.1 c hc, hM.1 _ (hp.2.2.2 c m hc g1 g2).1]; exact g4
      · rintro ν ⟨hx, hD⟩
        rw [Ok_some]
        refine ⟨fun x h1 h2 h3 => by rw [hx x h2 h3, hx8 x h2 h3]; exact hx4 x h1 h2, fun j hj => ?_, ?_, ?_, Or.inl ⟨t', rfl, htN, hD⟩⟩
        · rw [hx k (by omega) (by omega), hx8 k (by omega) (by omega)]; exact hk4 j hj
        · rw [hx k (by omega) (by omega), hx8 k (by omega) (by omega)]; exact h45
        · rw [hx k (by omega) (by omega), hx8 k (by omega) (by omega)]; exact h44
  unfold fX8_learn
  by_cases h5 : μ k 5 = 0
  · rw [if_neg (by simp [h5])]; exact main
  · rw [if_pos (by simp [h5])]
    by_cases e : w32 t = w32 (μ k 4)
    · have hst := hO h5
      have hw4 : w32 (μ k 4) = μ k 4 := by
        rcases hst with ⟨t', e1, h1, -⟩ | ⟨e1, -⟩
        · rw [e1]; exact w32_n (by omega)
        · rw [e1]; decide
      rw [if_pos e, Ok_some]
      have e2 : t = μ k 4 := by rw [← hwt, e, hw4]
      exact ⟨fun _ _ _ _ => rfl, fun _ _ => rfl, h5, e2.symm, by rw [e2]; exact hst⟩
    · rw [if_neg e]; exact main
end STEPS
