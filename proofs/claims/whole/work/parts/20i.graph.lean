/-! ===== level 2: stacks as a graph, in the class's numbers ===== -/
theorem sm_trunc {n m : Nat} {g : Nat → Nat} (h : m ≤ n) : sm n (fun i => if i < m then g i else 0) = sm m g := by
  induction n with
  | zero => have : m = 0 := by omega
            subst this; rfl
  | succ n ih =>
    by_cases e : m = n + 1
    · subst e; exact sm_congr (fun i hi => by rw [if_pos hi])
    · rw [sm, ih (by omega), if_neg (by omega), Nat.add_zero]
theorem sm_rev {m : Nat} {f : Nat → Nat} : sm m (fun i => f (m - 1 - i)) = sm m f := sm_perm m (fun i => m - 1 - i) f (fun i hi => by show m - 1 - i < m; omega) (fun i j hi hj e => by omega)
section GRAPH
variable {n r m : Nat} {kd wd : Nat → Nat} {BE CE : LawF} {μ : Mem}
theorem posA_pA (hn : n < 6) (hr : r < fac n) {i : Nat} (hi : i < n) : posA n r (pA n r i) = i :=
  pA_inj hn hr (posA_lt hn hr (pA_lt hn hr hi)) hi (pA_posA hn hr (pA_lt hn hr hi))
theorem sm_first (hn : n < 6) (hr : r < fac n) (hm : m ≤ n) {f : Nat → Nat} : sm n (fun k => if fsA n r m k = true then f k else 0) = sm m (fun i => f (pA n r i)) := by
  rw [← sm_pA hn hr, ← sm_trunc hm]
  exact sm_congr (fun i hi => by
    unfold fsA
    rw [posA_pA hn hr hi]
    by_cases h : i < m
    · rw [if_pos h, if_pos (by simp [h])]
    · rw [if_neg h, if_neg (by simp [h])])
theorem posA_TO (hn : n < 6) (hr : r < fac n) (hm : m ≤ n) {k : Nat} (hk : k < n) : posA n (TO n r m) k = if posA n r k < m then m - 1 - posA n r k else posA n r k := by
  have hr' := TO_lt hn hr hm
  have hp := posA_lt hn hr hk
  have hq : (if posA n r k < m then m - 1 - posA n r k else posA n r k) < n := by split <;> omega
  refine pA_inj hn hr' (posA_lt hn hr' hk) hq ?_
  rw [pA_posA hn hr' hk, pA_TO hn hr hm]
  by_cases h : posA n r k < m
  · rw [if_pos h, if_pos (by omega)]
    have : m - 1 - (m - 1 - posA n r k) = posA n r k := by omega
    rw [this, pA_posA hn hr hk]
  · rw [if_neg h, if_neg (by omega), pA_posA hn hr hk]
theorem vT_eq (hn : n < 6) (hr : r < fac n) (hm : m ≤ n) {k : Nat} (hk : k < n) : vT n r m k = fsA n r m k := by
  unfold vT fsA
  rw [posA_TO hn hr hm hk]
  by_cases h : posA n r k < m
  · rw [if_pos h]; simp [h]; omega
  · rw [if_neg h]
theorem vT_TO (hn : n < 6) (hr : r < fac n) (hm : m ≤ n) {k : Nat} (hk : k < n) : vT n (TO n r m) m k = vT n r m k := by
  rw [vT_eq hn (TO_lt hn hr hm) hm hk]; rfl
theorem stT_bit {k : Nat} (hk : k < n) : (stT n r m).testBit k = vT n r m k := by
  have := pz_bit (kd := kd1) (u := vT n r m) (k := k) rfl hk
  rw [ix_all (fun _ => rfl)] at this
  exact this
theorem stT_lt : stT n r m < 2 ^ n := by
  have := pz_lt (kd := kd1) (u := vT n r m) n
  rw [ix_all (fun _ => rfl)] at this
  exact this
theorem sm_vT (hn : n < 6) (hr : r < fac n) (hm : m ≤ n) {f : Nat → Nat} : sm n (fun k => if vT n r m k = true then f k else 0) = sm m (fun i => f (pA n r i)) := by
  rw [← sm_first hn hr hm]
  exact sm_congr (fun k hk => by rw [vT_eq hn hr hm hk])
theorem stT_pop (hn : n < 6) (hr : r < fac n) (hm : m ≤ n) : pop (stT n r m) = m := by
  unfold stT
  rw [pop_pk (by rw [ix_all (fun _ => rfl)]; omega)]
  have h := sm_vT hn hr hm (f := fun _ => 1)
  have h1 : ∀ m, sm m (fun _ => 1) = m := fun m => by
    induction m with
    | zero => rfl
    | succ m ih => rw [sm, ih]
  rw [h1] at h
  refine Eq.trans ?_ h
  exact sm_congr (fun k _ => by simp [sd])
theorem stT_pos (hn : n < 6) (hr : r < fac n) (hm1 : 1 ≤ m) (hm : m ≤ n) : 1 ≤ stT n r m := by
  apply Nat.pos_of_ne_zero
  intro e
  have h := stT_pop hn hr hm
  rw [e] at h
  have : pop 0 = 0 := by decide
  omega
theorem wS_setT (hn : n < 6) (hr : r < fac n) (hm : m ≤ n) : wS kd wd n (stT n r m) = sm m (fun i => wt kd wd (pA n r i)) := by
  unfold wS
  rw [← sm_vT hn hr hm]
  exact sm_congr (fun k hk => by rw [stT_bit hk])
/-- behind a turn -/
def tnC (kd : Nat → Nat) (n c m : Nat) : Nat := cd kd n (TO n (c / 2 ^ ix kd n) m) (fun k => uC kd c k ^^ vT n (c / 2 ^ ix kd n) m k)
/-- how many of those that are turned lie up -/
def brC (kd : Nat → Nat) (n c m : Nat) : Nat := sm m (fun i => if uC kd c (pA n (c / 2 ^ ix kd n) i) = true then 1 else 0)
/-- how wide they are -/
def wtC (kd wd : Nat → Nat) (n c m : Nat) : Nat := sm m (fun i => wt kd wd (pA n (c / 2 ^ ix kd n) i))
def opC (kd wd : Nat → Nat) (n : Nat) (BE : LawF) (c m : Nat) : Bool := !(decide (1 < m) && decide (kd (pA n (c / 2 ^ ix kd n) (m - 1)) = 3)) && decide (BE m (n - m) (wtC kd wd n c m) (brC kd n c m) = 0)
def prC (kd wd : Nat → Nat) (n : Nat) (CE : LawF) (c m : Nat) : Nat := (clampI (CE m (n - m) (wtC kd wd n c m) (brC kd n c m))).toNat
theorem prC_b {c : Nat} : 1 ≤ prC kd wd n CE c m ∧ prC kd wd n CE c m ≤ 9 := by
  unfold prC
  have := clampI_b (x := CE m (n - m) (wtC kd wd n c m) (brC kd n c m))
  omega
theorem tnC_div {c : Nat} : tnC kd n c m / 2 ^ ix kd n = TO n (c / 2 ^ ix kd n) m := cd_div
theorem tnC_lt {c : Nat} (hn : n < 6) (hc : c < NN kd n) (hm : m ≤ n) : tnC kd n c m < NN kd n := cd_lt (TO_lt hn (div_lt hc) hm)
theorem tnC_up {c k : Nat} (hk : k < n) : uC kd (tnC kd n c m) k = (sd kd k && (uC kd c k ^^ vT n (c / 2 ^ ix kd n) m k)) := uC_cd hk
theorem tnC_tnC {c : Nat} (hn : n < 6) (hc : c < NN kd n) (hm : m ≤ n) : tnC kd n (tnC kd n c m) m = c := by
  have hr := div_lt hc
  rw [← cd_eta (kd := kd) (n := n) (c := c)]
  unfold tnC
  rw [cd_div, cd_div, TO_TO hn hr hm]
  refine cd_congr (fun k hk hs => ?_)
  rw [uC_cd hk, vT_TO hn hr hm hk, uC_cd hk, hs, Bool.true_and, Bool.true_and]
  cases uC kd c k <;> cases vT n (c / 2 ^ ix kd n) m k <;> rfl
/-! the class's own words for it -/
theorem ent_n {c : Nat} (hn : n < 6) (hc : c < NN kd n) (h2 : μ 25 2 = ix kd n) (hm1 : 1 ≤ m) : fX7_turnEntry (c : Int) (m : Int) μ = ((c / 2 ^ ix kd n * 5 + m - 1 : Nat) : Int) := by
  have hN := NN_le (kd := kd) hn
  have hx := ix_le (kd := kd) (k := n)
  unfold fX7_turnEntry
  rw [h2, i_shr_n (by omega) (by omega)]
  omega
theorem sb_mask {c : Nat} (hn : n < 6) (hc : c < NN kd n) (h2 : μ 25 2 = ix kd n) : i_and (c : Int) ((i_shl 1 (μ 25 2)) - 1) = ((pk kd (uC kd c) n : Nat) : Int) := by
  have hN := NN_le (kd := kd) hn
  have hx := ix_le (kd := kd) (k := n)
  have hp := two_pow_le (a := ix kd n) (b := 5) (by omega)
  have hp1 : 1 ≤ 2 ^ ix kd n := Nat.one_le_two_pow
  rw [h2, i_shl1 (by omega)]
  have e : ((2 ^ ix kd n : Nat) : Int) - 1 = ((2 ^ ix kd n - 1 : Nat) : Int) := by omega
  rw [e, i_and_n (by omega) (by omega), Nat.and_two_pow_sub_one_eq_mod, pz_uC]
theorem ent_lt {c : Nat} (hn : n < 6) (hc : c < NN kd n) (hm1 : 1 ≤ m) (hm : m ≤ n) : c / 2 ^ ix kd n * 5 + m - 1 < 600 := by
  have := div_lt hc
  have := fac_le hn
  omega
theorem turned_ok {c : Nat} (hn : n < 6) (hT : Tb kd wd n BE CE μ) (hc : c < NN kd n) (hm1 : 1 ≤ m) (hm : m ≤ n) : fX7_turned (c : Int) (m : Int) μ = (tnC kd n c m : Int) := by
  obtain ⟨h1, ⟨h2, h3, h4⟩, -, hE, -⟩ := hT
  obtain ⟨t1, t2, t3, t4⟩ := hE _ m (div_lt hc) hm1 hm
  have hel := ent_lt hn hc hm1 hm
  have hf := fac_le hn
  have hw1 : w32 1 = 1 := by decide
  have hx := ix_le (kd := kd) (k := n)
  have hp := two_pow_le (a := ix kd n) (b := 5) (by omega)
  have hto := TO_lt hn (div_lt hc) hm
  have hmul : TO n (c / 2 ^ ix kd n) m * 2 ^ ix kd n ≤ 120 * 2 ^ 5 := Nat.mul_le_mul (by omega) hp
  have hp1 := pk5 (kd := kd) (u := uC kd c) hn
  have hp2 := pk5 (kd := kd) (u := vT n (c / 2 ^ ix kd n) m) hn
  have hp3 := pk5 (kd := kd) (u := fun k => uC kd c k ^^ vT n (c / 2 ^ ix kd n) m k) hn
  unfold fX7_turned
  simp only [lt]
  rw [w32_n (by omega), hw1, if_neg (by omega), h1, w32_n (by omega), if_pos (by omega), ent_n hn hc h2 hm1, at_n _ rfl (L := 600) rfl hel (by omega), at_n _ rfl (L := 600) rfl hel (by omega), t1, t3, sb_mask hn hc h2, h2, i_shl_n (by omega) (by omega), i_xor_n (by omega) (by omega), pz_xor, i_or_n (by omega) (by omega), cd_or]
  rfl
theorem law_ent {c : Nat} (hn : n < 6) (hT : Tb kd wd n BE CE μ) (hc : c < NN kd n) (hm1 : 1 ≤ m) (hm : m ≤ n) : fX7_lawEntry (c : Int) (m : Int) μ = ((stT n (c / 2 ^ ix kd n) m * 6 + brC kd n c m : Nat) : Int) := by
  obtain ⟨h1, ⟨h2, h3, h4⟩, -, hE, -⟩ := hT
  obtain ⟨t1, t2, t3, t4⟩ := hE _ m (div_lt hc) hm1 hm
  have hel := ent_lt hn hc hm1 hm
  have hp1 := pk5 (kd := kd) (u := uC kd c) hn
  have hp2 := pk5 (kd := kd) (u := vT n (c / 2 ^ ix kd n) m) hn
  have hp3 := pk5 (kd := kd) (u := fun k => uC kd c k && vT n (c / 2 ^ ix kd n) m k) hn
  have hx := ix_le (kd := kd) (k := n)
  unfold fX7_lawEntry
  simp only [lt]
  rw [ent_n hn hc h2 hm1, at_n _ rfl (L := 600) rfl hel (by omega), at_n _ rfl (L := 600) rfl hel (by omega), t2, t3, sb_mask hn hc h2, i_and_n (by omega) (by omega), pz_and, pop_java _ hp3, pop_pk (by omega)]
  have hb : cn n (fun k => sd kd k && (uC kd c k && vT n (c / 2 ^ ix kd n) m k)) = brC kd n c m := by
    unfold brC
    rw [← sm_vT hn (div_lt hc) hm (f := fun k => if uC kd c k = true then 1 else 0)]
    exact sm_congr (fun k hk => by
      have himp : uC kd c k = true → sd kd k = true := fun hu => ((Bool.and_eq_true _ _).mp hu).1
      show (if (sd kd k && (uC kd c k && vT n (c / 2 ^ ix kd n) m k)) = true then 1 else 0) = (if vT n (c / 2 ^ ix kd n) m k = true then (if uC kd c k = true then 1 else 0) else 0)
      cases hu : uC kd c k
      · simp
      · have h9 := himp hu
        cases vT n (c / 2 ^ ix kd n) m k <;> simp [h9])
  rw [hb]
  push_cast; rfl
theorem brC_le {c : Nat} : brC kd n c m ≤ m := by
  unfold brC
  have h := sm_le (n := m) (f := fun i => if uC kd c (pA n (c / 2 ^ ix kd n) i) = true then 1 else 0) (g := fun _ => 1) (fun i _ => by split <;> omega)
  have h1 : ∀ m, sm m (fun _ => 1) = m := fun m => by
    induction m with
    | zero => rfl
    | succ m ih => rw [sm, ih]
  rw [h1] at h
  exact h
theorem law_tabs {c : Nat} (hn : n < 6) (hT : Tb kd wd n BE CE μ) (hc : c < NN kd n) (hm1 : 1 ≤ m) (hm : m ≤ n) : fX11_at 33 (fX7_lawEntry (c : Int) (m : Int) μ) μ = (if BE m (n - m) (wtC kd wd n c m) (brC kd n c m) = 0 then 0 else 1) ∧ fX11_at 34 (fX7_lawEntry (c : Int) (m : Int) μ) μ = clampI (CE m (n - m) (wtC kd wd n c m) (brC kd n c m)) := by
  have hpop := stT_pop hn (div_lt hc) hm
  have hb := brC_le (kd := kd) (n := n) (c := c) (m := m)
  obtain ⟨a, b⟩ := hT.2.2.2.2 (stT n (c / 2 ^ ix kd n) m) (brC kd n c m) (stT_pos hn (div_lt hc) hm1 hm) stT_lt (by omega)
  have hlt := stT_lt (n := n) (r := c / 2 ^ ix kd n) (m := m)
  have hpn := two_pow_5 hn
  rw [law_ent hn hT hc hm1 hm, at_n _ rfl (L := 192) rfl (by omega) (by omega), at_n _ rfl (L := 192) rfl (by omega) (by omega), a, b, hpop, wS_setT hn (div_lt hc) hm]
  exact ⟨rfl, rfl⟩
theorem priceOf_ok {c : Nat} (hn : n < 6) (hT : Tb kd wd n BE CE μ) (hc : c < NN kd n) (hm1 : 1 ≤ m) (hm : m ≤ n) : fX7_priceOf (c : Int) (m : Int) μ = (prC kd wd n CE c m : Int) := by
  unfold fX7_priceOf prC
  simp only [lt]
  rw [(law_tabs hn hT hc hm1 hm).2]
  have := clampI_b (x := CE m (n - m) (wtC kd wd n c m) (brC kd n c m))
  omega
theorem isOpen_ok {c : Nat} (hn : n < 6) (hT : Tb kd wd n BE CE μ) (hc : c < NN kd n) (hm1 : 1 ≤ m) (hm : m ≤ n) : fX7_isOpen (c : Int) (m : Int) μ = opC kd wd n BE c m := by
  have hlaw := (law_tabs hn hT hc hm1 hm).1
  obtain ⟨h1, ⟨h2, h3, h4⟩, -, hE, -⟩ := hT
  obtain ⟨t1, t2, t3, t4⟩ := hE _ m (div_lt hc) hm1 hm
  have hel := ent_lt hn hc hm1 hm
  have hw1 : w32 1 = 1 := by decide
  have hw0 : w32 0 = 0 := by decide
  unfold fX7_isOpen
  simp only [lt]
  rw [hlaw, w32_n (a := m) (by omega), hw1, if_neg (by omega), h1, w32_n (a := n) (by omega), if_pos (by omega), ent_n hn hc h2 hm1, at_n _ rfl (L := 600) rfl hel (by omega), t4]
  unfold opC
  by_cases hs : 1 < m ∧ kd (pA n (c / 2 ^ ix kd n) (m - 1)) = 3
  · rw [if_pos hs, hw1, if_neg (by omega)]
    simp [hs.1, hs.2]
  · rw [if_neg hs, hw0, if_pos rfl]
    have hs2 : (!(decide (1 < m) && decide (kd (pA n (c / 2 ^ ix kd n) (m - 1)) = 3))) = true := by
      simp only [Bool.not_eq_true', Bool.and_eq_false_iff, decide_eq_false_iff_not]
      by_cases q : 1 < m
      · exact Or.inr (fun e => hs ⟨q, e⟩)
      · exact Or.inl q
    rw [hs2, Bool.true_and]
    by_cases hb : BE m (n - m) (wtC kd wd n c m) (brC kd n c m) = 0
    · rw [if_pos hb, hw0, if_pos rfl]; simp [hb]
    · rw [if_neg hb, hw1, if_neg (by omega)]; simp [hb]
end GRAPH
/-! ===== the graph by itself ===== -/
/-- the class's cells as a graph -/
def Gr (N n goal : Nat) (tn : Nat → Nat → Nat) (op : Nat → Nat → Bool) (pr : Nat → Nat → Nat) (μ : Mem) : Prop :=
  μ 25 1 = n ∧ μ 25 4 = goal ∧ i_shl (μ 25 3) (μ 25 2) = N ∧ ∀ c m : Nat, c < N → 1 ≤ m → m ≤ n → fX7_turned (c : Int) (m : Int) μ = tn c m ∧ fX7_isOpen (c : Int) (m : Int) μ = op c m ∧ fX7_priceOf (c : Int) (m : Int) μ = pr c m
/-- what is so of the graph itself -/
def Gp (N n goal : Nat) (tn : Nat → Nat → Nat) (pr : Nat → Nat → Nat) : Prop :=
  n < 6 ∧ N ≤ 3840 ∧ goal < N ∧ ∀ c m : Nat, c < N → 1 ≤ m → m ≤ n → tn c m < N ∧ tn (tn c m) m = c ∧ 1 ≤ pr c m ∧ pr c m ≤ 9
theorem Gl_lt {kd wd : Nat → Nat} {n g : Nat} (h : Gl kd wd n g) : g < NN kd n := by
  obtain ⟨r, hr, -, rfl⟩ := h
  exact cd_lt hr
theorem Gp_of {kd wd : Nat → Nat} {n g : Nat} {CE : LawF} (hn : n < 6) (hg : Gl kd wd n g) : Gp (NN kd n) n g (tnC kd n) (prC kd wd n CE) :=
  ⟨hn, NN_le hn, Gl_lt hg, fun _ _ hc _ hm => ⟨tnC_lt hn hc hm, tnC_tnC hn hc hm, prC_b⟩⟩
theorem all_n {kd : Nat → Nat} {n : Nat} {μ : Mem} (hn : n < 6) (hS : Sb n kd μ) : i_shl (μ 25 3) (μ 25 2) = (NN kd n : Int) := by
  have hN := NN_le (kd := kd) hn
  have hx := ix_le (kd := kd) (k := n)
  rw [hS.1, hS.2.1]
  unfold NN at hN ⊢
  exact i_shl_n (by omega) (by omega)
theorem Gr_of {kd wd : Nat → Nat} {n g : Nat} {BE CE : LawF} {μ : Mem} (hn : n < 6) (hT : Tb kd wd n BE CE μ) (hg : μ 25 4 = g) : Gr (NN kd n) n g (tnC kd n) (opC kd wd n BE) (prC kd wd n CE) μ :=
  ⟨hT.1, hg, all_n hn hT.2.1, fun _ _ hc h1 hm => ⟨turned_ok hn hT hc h1 hm, isOpen_ok hn hT hc h1 hm, priceOf_ok hn hT hc h1 hm⟩⟩
section GRS
variable {N n goal : Nat} {tn : Nat → Nat → Nat} {op : Nat → Nat → Bool} {pr : Nat → Nat → Nat} {μ ν : Mem}
theorem tE_same {c m : Int} (e2 : ν 25 2 = μ 25 2) : fX7_turnEntry c m ν = fX7_turnEntry c m μ := by
  unfold fX7_turnEntry; rw [e2]
theorem lE_same {c m : Int} (e2 : ν 25 2 = μ 25 2) (h30 : ν 30 = μ 30) (h31 : ν 31 = μ 31) : fX7_lawEntry c m ν = fX7_lawEntry c m μ := by
  unfold fX7_lawEntry
  simp only [lt]
  rw [tE_same e2, at_same h30, at_same h31, e2]
theorem Gr.same (h : Gr N n goal tn op pr μ) (h25 : ∀ j, j < 5 → ν 25 j = μ 25 j) (hx : ∀ x, 29 ≤ x → x ≤ 34 → ν x = μ x) : Gr N n goal tn op pr ν := by
  obtain ⟨a, b, c, d⟩ := h
  have e1 := h25 1 (by omega)
  have e2 := h25 2 (by omega)
  have e3 := h25 3 (by omega)
  have e4 := h25 4 (by omega)
  refine ⟨by rw [e1]; exact a, by rw [e4]; exact b, by rw [e3, e2]; exact c, fun x m hx1 hm1 hm2 => ?_⟩
  obtain ⟨d1, d2, d3⟩ := d x m hx1 hm1 hm2
  refine ⟨?_, ?_, ?_⟩
  · rw [← d1]
    unfold fX7_turned
    simp only [lt]
    rw [tE_same e2, e1, e2, at_same (hx 29 (by omega) (by omega)), at_same (hx 31 (by omega) (by omega))]
  · rw [← d2]
    unfold fX7_isOpen
    simp only [lt]
    rw [tE_same e2, lE_same e2 (hx 30 (by omega) (by omega)) (hx 31 (by omega) (by omega)), e1, at_same (hx 32 (by omega) (by omega)), at_same (hx 33 (by omega) (by omega))]
  · rw [← d3]
    unfold fX7_priceOf
    simp only [lt]
    rw [lE_same e2 (hx 30 (by omega) (by omega)) (hx 31 (by omega) (by omega)), at_same (hx 34 (by omega) (by omega))]
end GRS
