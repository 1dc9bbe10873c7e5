/-! ===== level 2: learn, whole ===== -/
section LEARN6
variable {n : Nat} {kd wd : Nat → Nat} {BE CE : LawF}
/-- what the class has learned -/
def Tb (kd wd : Nat → Nat) (n : Nat) (BE CE : LawF) (μ : Mem) : Prop := μ 25 1 = n ∧ Sb n kd μ ∧ (∀ r i, r < fac n → i < n → μ 28 (r * 5 + i) = pA n r i) ∧ (∀ r m, r < fac n → 1 ≤ m → m ≤ n → TbE kd n r m μ) ∧ ∀ st b, 1 ≤ st → st < 2 ^ n → b ≤ pop st → TbL kd wd n BE CE st b μ
/-- the stack that is served -/
def Gl (kd wd : Nat → Nat) (n g : Nat) : Prop := ∃ r, r < fac n ∧ (∀ k, k < n → pA n r (rk wd n k) = k) ∧ g = cd kd n r (fun _ => false)
/-- what learning may change -/
def Lr (told : Nat) (μ ν : Mem) : Prop := (∀ x, x < 25 ∨ 34 < x → x ≠ told + 4 → x ≠ told + 6 → x ≠ told + 7 → x ≠ told + 9 → ν x = μ x) ∧ (∀ j, j ≠ 4 → ν (told + 4) j = μ (told + 4) j) ∧ (∀ j, j ≠ 4 → ν (told + 7) j = μ (told + 7) j) ∧ ∀ j, 5 ≤ j → ν 25 j = μ 25 j
/-- what holds all along -/
def La (told : Nat) (kd wd : Nat → Nat) (n : Nat) (BE CE : LawF) (μ ν : Mem) : Prop := Gc told n kd wd ν ∧ Sb n kd ν ∧ Lr told μ ν ∧ LK (told + 4) BE ν ∧ LK (told + 7) CE ν
theorem Gc.same {told : Nat} {ν ν' : Mem} (h : Gc told n kd wd ν) (h1 : ν' 25 = ν 25) (h2 : ν' told = ν told) (h3 : ν' (told + 2) = ν (told + 2)) (h4 : ν' (told + 3) = ν (told + 3)) : Gc told n kd wd ν' := by
  obtain ⟨a, b, c, d, e, f⟩ := h
  exact ⟨a, by rw [h1]; exact b, by rw [h1]; exact c, by rw [h2]; exact d, fun k hk => by rw [h3]; exact e k hk, fun k hk => by rw [h4]; exact f k hk⟩
theorem Sb.same {ν ν' : Mem} (h : Sb n kd ν) (h1 : ν' 25 = ν 25) (h2 : ν' 26 = ν 26) : Sb n kd ν' := by
  obtain ⟨a, b, c⟩ := h
  exact ⟨by rw [h1]; exact a, by rw [h1]; exact b, fun k hk => by rw [h2]; exact c k hk⟩
/-- rows 27 to 34 are no matter -/
theorem La.rows {told : Nat} {μ ν ν' : Mem} (h : La told kd wd n BE CE μ ν) (hx : ∀ x, x < 27 ∨ 34 < x → ν' x = ν x) : La told kd wd n BE CE μ ν' := by
  obtain ⟨a, b, c, d, e⟩ := h
  have hto := a.1
  refine ⟨a.same (hx _ (by omega)) (hx _ (by omega)) (hx _ (by omega)) (hx _ (by omega)), b.same (hx _ (by omega)) (hx _ (by omega)), ⟨fun x h1 h2 h3 h4 h5 => (hx x (by omega)).trans (c.1 x h1 h2 h3 h4 h5), fun j hj => ?_, fun j hj => ?_, fun j hj => ?_⟩, d.same (fun j _ => ?_) (hx _ (by omega)), e.same (fun j _ => ?_) (hx _ (by omega))⟩
  · rw [hx _ (by omega)]; exact c.2.1 j hj
  · rw [hx _ (by omega)]; exact c.2.2.1 j hj
  · rw [hx _ (by omega)]; exact c.2.2.2 j hj
  · rw [hx _ (by omega)]
  · rw [hx _ (by omega)]
theorem La.laws {told : Nat} {μ ν ν' : Mem} (h : La told kd wd n BE CE μ ν) (hL : Lc told ν ν') : La told kd wd n BE CE μ ν' := by
  obtain ⟨a, b, c, d, e⟩ := h
  have hto := a.1
  obtain ⟨hx, h4, h7⟩ := hL
  refine ⟨a.same (hx _ (by omega) (by omega) (by omega) (by omega) (by omega) (by omega)) (hx _ (by omega) (by omega) (by omega) (by omega) (by omega) (by omega)) (hx _ (by omega) (by omega) (by omega) (by omega) (by omega) (by omega)) (hx _ (by omega) (by omega) (by omega) (by omega) (by omega) (by omega)), b.same (hx _ (by omega) (by omega) (by omega) (by omega) (by omega) (by omega)) (hx _ (by omega) (by omega) (by omega) (by omega) (by omega) (by omega)), ⟨fun x h1 h2 h3 h4 h5 => (hx x (by omega) (by omega) h2 h3 h4 h5).trans (c.1 x h1 h2 h3 h4 h5), fun j hj => (h4 j hj).trans (c.2.1 j hj), fun j hj => (h7 j hj).trans (c.2.2.1 j hj), fun j hj => ?_⟩, d.same h4 (hx _ (by omega) (by omega) (by omega) (by omega) (by omega) (by omega)), e.same h7 (hx _ (by omega) (by omega) (by omega) (by omega) (by omega) (by omega))⟩
  rw [hx 25 (by omega) (by omega) (by omega) (by omega) (by omega) (by omega)]; exact c.2.2.2 j hj
theorem learn_ok {told : Nat} {μ : Mem} (hn : n < 6) (hto : told = 5 ∨ told = 15) (h0 : μ told 0 = n) (hk : ∀ k, k < n → μ (told + 2) k = kd k ∧ kd k < 4) (hw : ∀ k, k < n → μ (told + 3) k = wd k ∧ wd k < 31) (hwi : ∀ i j, i < n → j < n → wd i = wd j → i = j) (hB : LK (told + 4) BE μ) (hC : LK (told + 7) CE μ) (hBn : FN BE) (hCn : FN CE) : Ok (fX7_learn told μ) (fun ν => Gc told n kd wd ν ∧ Tb kd wd n BE CE ν ∧ Lr told μ ν ∧ ∃ g : Nat, ν 25 4 = g ∧ Gl kd wd n g) := by
  have hf := fac_le hn
  have hpn := two_pow_5 hn
  have hxl := ix_le (kd := kd) (k := n)
  unfold fX7_learn
  simp only [lt]
  generalize h3 : upd2 (upd2 (upd2 μ 25 0 (told : Int)) 25 1 ((upd2 μ 25 0 (told : Int)) told 0)) 25 2 0 = ν3
  have hx3 : ∀ x, x ≠ 25 → ν3 x = μ x := fun x hx => by rw [← h3, upd2_ne hx, upd2_ne hx, upd2_ne hx]
  have h30 : ν3 25 0 = told := by rw [← h3, upd2_nj (by omega), upd2_nj (by omega), upd2_at]
  have h31 : ν3 25 1 = n := by rw [← h3, upd2_nj (by omega), upd2_at, upd2_ne (by omega)]; exact h0
  have h32 : ν3 25 2 = 0 := by rw [← h3, upd2_at]
  have h3j : ∀ j, 3 ≤ j → ν3 25 j = μ 25 j := fun j hj => by rw [← h3, upd2_nj (by omega), upd2_nj (by omega), upd2_nj (by omega)]
  clear h3
  -- the sides
  refine Ok.then (loop_FU (Q := fun ν : Mem => ν 25 0 = told ∧ ν 25 1 = n ∧ ν 25 2 = ix kd n ∧ (∀ j, 3 ≤ j → ν 25 j = μ 25 j) ∧ (∀ x, x ≠ 25 → x ≠ 26 → ν x = μ x) ∧ ∀ k, k < n → ν 26 k = ((if sd kd k = true then 2 ^ ix kd k else 0 : Nat) : Int)) n (fun (i : Nat) (s : Int × Mem) => s.1 = (i : Int) ∧ s.2 25 0 = told ∧ s.2 25 1 = n ∧ s.2 25 2 = ix kd i ∧ (∀ j, 3 ≤ j → s.2 25 j = μ 25 j) ∧ (∀ x, x ≠ 25 → x ≠ 26 → s.2 x = μ x) ∧ ∀ k, k < i → s.2 26 k = ((if sd kd k = true then 2 ^ ix kd k else 0 : Nat) : Int)) 0 ⟨rfl, h30, h31, h32, h3j, fun x a _ => hx3 x a, fun k hk => absurd hk (by omega)⟩ (by omega) (by omega) ?_ ?_) ?_
  · rintro i ⟨a, ν⟩ hi ⟨e1, e2, e3, e4, e5, e6, e7⟩
    dsimp only at e1 e2 e3 e4 e5 e6 e7 ⊢
    subst e1
    have hil := ix_le (kd := kd) (k := i)
    have hs := hasSide_ok (μ := ν) (kd := kd) (k := i) hto (by omega) (by rw [e6 _ (by omega) (by omega)]; exact hk i hi)
    unfold fX7_learn_b20
    rw [e3, w32_n (by omega), w32_n (by omega), if_pos (by omega), hs, e4]
    simp only [lt]
    rw [put_n i rfl (L := 5) rfl (by omega) (by omega), Ok_some]
    have hv : (if sd kd i = true then i_shl 1 ((ix kd i : Nat) : Int) else 0) = ((if sd kd i = true then 2 ^ ix kd i else 0 : Nat) : Int) := by
      by_cases h : sd kd i = true
      · rw [if_pos h, if_pos h, i_shl1 (by omega)]
      · rw [if_neg h, if_neg h]; rfl
    rw [hv]
    refine ⟨by push_cast; rfl, ?_, ?_, ?_, fun j hj => ?_, fun x q1 q2 => ?_, fun k hk2 => ?_⟩
    · try dsimp only
      rw [upd2_nj (by omega), upd2_ne (by omega)]; exact e2
    · try dsimp only
      rw [upd2_nj (by omega), upd2_ne (by omega)]; exact e3
    · try dsimp only
      rw [upd2_at, upd2_ne (by omega), e4, ix_succ]
      by_cases h : sd kd i = true
      · rw [if_pos h, if_pos h]; push_cast; rfl
      · rw [if_neg h, if_neg h]; rfl
    · try dsimp only
      rw [upd2_nj (by omega), upd2_ne (by omega)]; exact e5 j hj
    · try dsimp only
      rw [upd2_ne q1, upd2_ne q2]; exact e6 x q1 q2
    · try dsimp only
      rw [upd2_ne (by omega), upd2_self]
      by_cases e : k = i
      · subst e; rw [if_pos rfl]
      · rw [if_neg e]; exact e7 k (by omega)
  · rintro ⟨a, ν⟩ ⟨e1, e2⟩
    dsimp only at e1 e2 ⊢
    subst e1
    unfold fX7_learn_b20
    rw [e2.2.1, w32_n (by omega), if_neg (by omega), Ok_some]
    exact e2
  intro ν4 ⟨e2, e3, e4, e5, e6, e7⟩
  rw [e3, atF_n (by omega)]
  have hA : La told kd wd n BE CE μ (upd2 ν4 25 3 ((fac n : Nat) : Int)) := by
    have hq : ∀ x, x ≠ 25 → x ≠ 26 → upd2 ν4 25 3 ((fac n : Nat) : Int) x = μ x := fun x q1 q2 => by rw [upd2_ne q1]; exact e6 x q1 q2
    refine ⟨⟨hto, ?_, ?_, ?_, fun k hk2 => ?_, fun k hk2 => ?_⟩, ⟨?_, ?_, fun k hk2 => ?_⟩, ⟨fun x q1 q2 q3 q4 q5 => hq x (by omega) (by omega), fun j _ => by rw [hq _ (by omega) (by omega)], fun j _ => by rw [hq _ (by omega) (by omega)], fun j hj => ?_⟩, hB.same (fun j _ => by rw [hq _ (by omega) (by omega)]) (hq _ (by omega) (by omega)), hC.same (fun j _ => by rw [hq _ (by omega) (by omega)]) (hq _ (by omega) (by omega))⟩
    · rw [upd2_nj (by omega)]; exact e2
    · rw [upd2_nj (by omega)]; exact e3
    · rw [hq _ (by omega) (by omega)]; exact h0
    · rw [hq _ (by omega) (by omega)]; exact hk k hk2
    · rw [hq _ (by omega) (by omega)]; exact hw k hk2
    · rw [upd2_nj (by omega)]; exact e4
    · rw [upd2_at]
    · rw [upd2_ne (by omega)]; exact e7 k hk2
    · rw [upd2_nj (by omega)]; exact e5 j (by omega)
  generalize upd2 ν4 25 3 ((fac n : Nat) : Int) = ν5 at hA
  clear e2 e3 e4 e5 e6 e7 ν4 h30 h31 h32 h3j hx3 ν3
  -- the orders
  refine Ok.then (loop_FU (Q := fun ν : Mem => La told kd wd n BE CE μ ν ∧ ∀ r i, r < fac n → i < n → ν 28 (r * 5 + i) = pA n r i) (fac n) (fun (t : Nat) (s : Int × Mem) => s.1 = (t : Int) ∧ La told kd wd n BE CE μ s.2 ∧ ∀ r i, r < t → i < n → s.2 28 (r * 5 + i) = pA n r i) 0 ⟨rfl, hA, fun r i hr => absurd hr (by omega)⟩ (by omega) (by omega) ?_ ?_) ?_
  · rintro t ⟨a, ν⟩ ht ⟨e1, hL, hT⟩
    dsimp only at e1 hL hT ⊢
    subst e1
    unfold fX7_learn_b96
    rw [hL.2.1.2.1, w32_n (by omega), w32_n (by omega), if_pos (by omega)]
    refine Ok.bind ?_
    refine Ok.imp (learnOrder_ok (r := t) hn ht hL.1.2.2.1) ?_
    intro ν' ⟨hx, hi, hj⟩
    rw [Ok_some]
    refine ⟨by push_cast; rfl, hL.rows (fun x hx2 => hx x (by omega)), fun r i hr hi2 => ?_⟩
    by_cases e : r = t
    · subst e; exact hi i hi2
    · show ν' 28 _ = _
      rw [hj _ (by omega)]; exact hT r i (by omega) hi2
  · rintro ⟨a, ν⟩ ⟨e1, hL, hT⟩
    dsimp only at e1 hL hT ⊢
    subst e1
    unfold fX7_learn_b96
    rw [hL.2.1.2.1, w32_n (by omega), if_neg (by omega), Ok_some]
    exact ⟨hL, hT⟩
  intro ν6 ⟨hL6, hT6⟩
  -- the turns
  refine Ok.then (loop_FU (Q := fun ν : Mem => La told kd wd n BE CE μ ν ∧ (∀ r i, r < fac n → i < n → ν 28 (r * 5 + i) = pA n r i) ∧ ∀ r m, r < fac n → 1 ≤ m → m ≤ n → TbE kd n r m ν) (fac n) (fun (t : Nat) (s : Int × Mem) => s.1 = (t : Int) ∧ La told kd wd n BE CE μ s.2 ∧ (∀ r i, r < fac n → i < n → s.2 28 (r * 5 + i) = pA n r i) ∧ ∀ r m, r < t → 1 ≤ m → m ≤ n → TbE kd n r m s.2) 0 ⟨rfl, hL6, hT6, fun r m hr => absurd hr (by omega)⟩ (by omega) (by omega) ?_ ?_) ?_
  · rintro t ⟨a, ν⟩ ht ⟨e1, hL, hT, hE⟩
    dsimp only at e1 hL hT hE ⊢
    subst e1
    unfold fX7_learn_b117
    rw [hL.2.1.2.1, w32_n (by omega), w32_n (by omega), if_pos (by omega)]
    refine Ok.bind ?_
    refine Ok.imp (loop_FU (Q := fun ν : Mem => La told kd wd n BE CE μ ν ∧ (∀ r i, r < fac n → i < n → ν 28 (r * 5 + i) = pA n r i) ∧ (∀ r m, r < t → 1 ≤ m → m ≤ n → TbE kd n r m ν) ∧ ∀ m, 1 ≤ m → m < n + 1 → TbE kd n t m ν) (n + 1) (fun (k : Nat) (s : Int × Mem) => s.1 = (k : Int) ∧ 1 ≤ k ∧ La told kd wd n BE CE μ s.2 ∧ (∀ r i, r < fac n → i < n → s.2 28 (r * 5 + i) = pA n r i) ∧ (∀ r m, r < t → 1 ≤ m → m ≤ n → TbE kd n r m s.2) ∧ ∀ m, 1 ≤ m → m < k → TbE kd n t m s.2) 1 ⟨rfl, by omega, hL, hT, hE, fun m h1 h2 => absurd h2 (by omega)⟩ (by omega) (by omega) ?_ ?_) ?_
    · rintro k ⟨a, θ⟩ hk2 ⟨e1, hk1, gL, gT, gE, gK⟩
      dsimp only at e1 gL gT gE gK ⊢
      subst e1
      unfold fX7_learn_b127
      rw [gL.1.2.2.1, w32_n (by omega), w32_n (by omega), if_pos (by omega)]
      refine Ok.bind ?_
      refine Ok.imp (learnTurn_ok (r := t) (m := k) hn ht hk1 (by omega) gL.1 gL.2.1 (fun i hi => gT t i ht hi)) ?_
      intro θ' ⟨hx, hE2, hj⟩
      rw [Ok_some]
      have hold : ∀ r m, (r ≠ t ∨ m ≠ k) → 1 ≤ m → m ≤ n → r < fac n → TbE kd n r m θ → TbE kd n r m θ' := fun r m hne hm1 hm2 hr hTb => by
        have hd : r * 5 + m - 1 ≠ t * 5 + k - 1 := by omega
        obtain ⟨a1, a2, a3, a4⟩ := hTb
        exact ⟨by rw [hj _ _ (by omega) hd]; exact a1, by rw [hj _ _ (by omega) hd]; exact a2, by rw [hj _ _ (by omega) hd]; exact a3, by rw [hj _ _ (by omega) hd]; exact a4⟩
      refine ⟨by push_cast; rfl, by omega, gL.rows (fun x hx2 => hx x (by omega) (by omega) (by omega) (by omega) (by omega)), fun r i hr hi => ?_, fun r m hr hm1 hm2 => ?_, fun m hm1 hm2 => ?_⟩
      · show θ' 28 _ = _
        rw [hx 28 (by omega) (by omega) (by omega) (by omega) (by omega)]; exact gT r i hr hi
      · exact hold r m (by omega) hm1 hm2 (by omega) (gE r m hr hm1 hm2)
      · by_cases e : m = k
        · subst e; exact hE2
        · exact hold t m (by omega) hm1 (by omega) ht (gK m hm1 (by omega))
    · rintro ⟨a, θ⟩ ⟨e1, hk1, gL, gT, gE, gK⟩
      dsimp only at e1 gL gT gE gK ⊢
      subst e1
      unfold fX7_learn_b127
      rw [gL.1.2.2.1, w32_n (by omega), w32_n (by omega), if_neg (by omega), Ok_some]
      exact ⟨gL, gT, gE, gK⟩
    · intro θ ⟨gL, gT, gE, gK⟩
      rw [Ok_some]
      refine ⟨by push_cast; rfl, gL, gT, fun r m hr hm1 hm2 => ?_⟩
      by_cases e : r = t
      · subst e; exact gK m hm1 (by omega)
      · exact gE r m (by omega) hm1 hm2
  · rintro ⟨a, ν⟩ ⟨e1, hL, hT, hE⟩
    dsimp only at e1 hL hT hE ⊢
    subst e1
    unfold fX7_learn_b117
    rw [hL.2.1.2.1, w32_n (by omega), if_neg (by omega), Ok_some]
    exact ⟨hL, hT, hE⟩
  intro ν7 ⟨hL7, hT7, hE7⟩
  -- the laws
  refine Ok.then (loop_FU (Q := fun ν : Mem => La told kd wd n BE CE μ ν ∧ (∀ r i, r < fac n → i < n → ν 28 (r * 5 + i) = pA n r i) ∧ (∀ r m, r < fac n → 1 ≤ m → m ≤ n → TbE kd n r m ν) ∧ ∀ st b, 1 ≤ st → st < 2 ^ n → b ≤ pop st → TbL kd wd n BE CE st b ν) (2 ^ n) (fun (t : Nat) (s : Int × Mem) => s.1 = (t : Int) ∧ 1 ≤ t ∧ La told kd wd n BE CE μ s.2 ∧ (∀ r i, r < fac n → i < n → s.2 28 (r * 5 + i) = pA n r i) ∧ (∀ r m, r < fac n → 1 ≤ m → m ≤ n → TbE kd n r m s.2) ∧ ∀ st b, 1 ≤ st → st < t → b ≤ pop st → TbL kd wd n BE CE st b s.2) 1 ⟨rfl, by omega, hL7, hT7, hE7, fun st b h1 h2 => absurd h2 (by omega)⟩ Nat.one_le_two_pow (by omega) ?_ ?_) ?_
  · rintro t ⟨a, ν⟩ ht ⟨e1, ht1, hL, hT, hE, hW⟩
    dsimp only at e1 hL hT hE hW ⊢
    subst e1
    unfold fX7_learn_b155
    rw [hL.1.2.2.1, i_shl1 (by omega), w32_n (by omega), w32_n (by omega), if_pos (by omega)]
    refine Ok.bind ?_
    refine Ok.imp (learnLaws_ok (st := t) hn ht1 ht hL.1 hL.2.2.2.1 hL.2.2.2.2 hBn hCn) ?_
    intro ν' ⟨hLc, hb, hj⟩
    rw [Ok_some]
    have hx := hLc.1
    refine ⟨by push_cast; rfl, by omega, hL.laws hLc, fun r i hr hi => ?_, fun r m hr hm1 hm2 => ?_, fun st b h1 h2 h3 => ?_⟩
    · show ν' 28 _ = _
      rw [hx 28 (by omega) (by omega) (by omega) (by omega) (by omega) (by omega)]; exact hT r i hr hi
    · obtain ⟨a1, a2, a3, a4⟩ := hE r m hr hm1 hm2
      exact ⟨by show ν' 29 _ = _; rw [hx 29 (by omega) (by omega) (by omega) (by omega) (by omega) (by omega)]; exact a1, by show ν' 30 _ = _; rw [hx 30 (by omega) (by omega) (by omega) (by omega) (by omega) (by omega)]; exact a2, by show ν' 31 _ = _; rw [hx 31 (by omega) (by omega) (by omega) (by omega) (by omega) (by omega)]; exact a3, by show ν' 32 _ = _; rw [hx 32 (by omega) (by omega) (by omega) (by omega) (by omega) (by omega)]; exact a4⟩
    · by_cases e : st = t
      · subst e; exact hb b h3
      · have hp5 := pop_le5 (x := st)
        obtain ⟨a1, a2⟩ := hW st b h1 (by omega) h3
        exact ⟨by show ν' 33 _ = _; rw [(hj _ (by omega)).1]; exact a1, by show ν' 34 _ = _; rw [(hj _ (by omega)).2]; exact a2⟩
  · rintro ⟨a, ν⟩ ⟨e1, ht1, hL, hT, hE, hW⟩
    dsimp only at e1 hL hT hE hW ⊢
    subst e1
    unfold fX7_learn_b155
    rw [hL.1.2.2.1, i_shl1 (by omega), w32_n (by omega), if_neg (by omega), Ok_some]
    exact ⟨hL, hT, hE, hW⟩
  intro ν8 ⟨hL8, hT8, hE8, hW8⟩
  -- the served one
  refine Ok.then (loop_FU (Q := fun ν : Mem => (∀ x, x ≠ 27 → ν x = ν8 x) ∧ ∀ k, k < n → ν 27 (rk wd n k) = k) n (fun (t : Nat) (s : Int × Mem) => s.1 = (t : Int) ∧ (∀ x, x ≠ 27 → s.2 x = ν8 x) ∧ ∀ k, k < t → s.2 27 (rk wd n k) = k) 0 ⟨rfl, fun _ _ => rfl, fun k hk => absurd hk (by omega)⟩ (by omega) (by omega) ?_ ?_) ?_
  · rintro t ⟨a, ν⟩ ht ⟨e1, hx, hk2⟩
    dsimp only at e1 hx hk2 ⊢
    subst e1
    have hGc := hL8.1
    have hr := rankOf_ok (μ := ν) (k := t) (wd := wd) hto hn (by rw [hx _ (by omega)]; exact hGc.2.2.2.1) (fun k hk3 => by rw [hx _ (by omega)]; exact hGc.2.2.2.2.2 k hk3) ht
    have hrl := rk_lt (wd := wd) ht
    unfold fX7_learn_b178
    rw [hx 25 (by omega), hGc.2.2.1, w32_n (by omega), w32_n (by omega), if_pos (by omega), hr, Option.bind_some]
    simp only [lt]
    rw [put_n (rk wd n t) rfl (L := 5) rfl (by omega) (by omega), Ok_some]
    refine ⟨by push_cast; rfl, fun x hx2 => ?_, fun k hk3 => ?_⟩
    · try dsimp only
      rw [upd2_ne hx2]; exact hx x hx2
    · try dsimp only
      rw [upd2_self]
      by_cases e : k = t
      · subst e; rw [if_pos rfl]
      · rw [if_neg (fun q => e (rk_inj hwi k t (by omega) ht q))]; exact hk2 k (by omega)
  · rintro ⟨a, ν⟩ ⟨e1, hx, hk2⟩
    dsimp only at e1 hx hk2 ⊢
    subst e1
    unfold fX7_learn_b178
    rw [hx 25 (by omega), hL8.1.2.2.1, w32_n (by omega), if_neg (by omega), Ok_some]
    exact ⟨hx, hk2⟩
  intro ν9 ⟨hx9, hk9⟩
  have hL9 : La told kd wd n BE CE μ ν9 := hL8.rows (fun x hx2 => hx9 x (by omega))
  obtain ⟨r0, hr0, hp0⟩ := perm_inv (π := rk wd n) hn (fun k hk3 => rk_lt hk3) (rk_inj hwi)
  have hst := stackOf_ok (μ := ν9) (row := 27) (L := 5) (ups := 0) (kd := kd) (r := r0) hn hL9.1.2.2.1 hL9.2.1 (by omega) rfl (by omega) (by omega) hr0 (fun j hj => by
    obtain ⟨k, hk3, e⟩ := hit_all (π := rk wd n) (fun k hk3 => rk_lt hk3) (rk_inj hwi) j hj
    subst e
    rw [hk9 k hk3, hp0 k hk3])
  have e0 : ((0 : Nat) : Int) = 0 := rfl
  rw [e0] at hst
  rw [hst, Option.bind_some, Ok_some]
  have hy : ∀ x, x ≠ 27 → x ≠ 25 → upd2 ν9 25 4 (cd kd n r0 (fun k => (0 : Nat).testBit k) : Int) x = ν8 x := fun x q1 q2 => by rw [upd2_ne q2]; exact hx9 x q1
  have hyj : ∀ j, j ≠ 4 → upd2 ν9 25 4 (cd kd n r0 (fun k => (0 : Nat).testBit k) : Int) 25 j = ν8 25 j := fun j q => by rw [upd2_nj q, hx9 25 (by omega)]
  obtain ⟨⟨-, g0, g1, g2, g3, g4⟩, ⟨s1, s2, s3⟩, ⟨l1, l2, l3, l4⟩, -, -⟩ := hL8
  refine ⟨⟨hto, ?_, ?_, ?_, fun k hk3 => ?_, fun k hk3 => ?_⟩, ⟨?_, ⟨?_, ?_, fun k hk3 => ?_⟩, fun r i hr hi => ?_, fun r m hr hm1 hm2 => ?_, fun st b h1 h2 h3 => ?_⟩, ⟨fun x q1 q2 q3 q4 q5 => ?_, fun j hj => ?_, fun j hj => ?_, fun j hj => ?_⟩, cd kd n r0 (fun _ => false), ?_, r0, hr0, hp0, rfl⟩
  · rw [hyj 0 (by omega)]; exact g0
  · rw [hyj 1 (by omega)]; exact g1
  · rw [hy _ (by omega) (by omega)]; exact g2
  · rw [hy _ (by omega) (by omega)]; exact g3 k hk3
  · rw [hy _ (by omega) (by omega)]; exact g4 k hk3
  · rw [hyj 1 (by omega)]; exact g1
  · rw [hyj 2 (by omega)]; exact s1
  · rw [hyj 3 (by omega)]; exact s2
  · rw [hy _ (by omega) (by omega)]; exact s3 k hk3
  · rw [hy _ (by omega) (by omega)]; exact hT8 r i hr hi
  · obtain ⟨a1, a2, a3, a4⟩ := hE8 r m hr hm1 hm2
    exact ⟨by rw [hy _ (by omega) (by omega)]; exact a1, by rw [hy _ (by omega) (by omega)]; exact a2, by rw [hy _ (by omega) (by omega)]; exact a3, by rw [hy _ (by omega) (by omega)]; exact a4⟩
  · obtain ⟨a1, a2⟩ := hW8 st b h1 h2 h3
    exact ⟨by rw [hy _ (by omega) (by omega)]; exact a1, by rw [hy _ (by omega) (by omega)]; exact a2⟩
  · rw [hy _ (by omega) (by omega)]; exact l1 x q1 q2 q3 q4 q5
  · rw [hy _ (by omega) (by omega)]; exact l2 j hj
  · rw [hy _ (by omega) (by omega)]; exact l3 j hj
  · rw [hyj _ (by omega)]; exact l4 j hj
  · rw [upd2_at]
    exact congrArg _ (cd_congr (fun k _ _ => by simp))
end LEARN6
