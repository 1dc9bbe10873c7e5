/-! ===== level 2: the class learns what turns do ===== -/
theorem cn_succ {n : Nat} {p : Nat → Bool} : cn (n + 1) p = cn n p + (if p n = true then 1 else 0) := rfl
theorem cn_none {n : Nat} {p : Nat → Bool} (h : ∀ i, i < n → p i = false) : cn n p = 0 := sm_zero (fun i hi => by rw [h i hi]; rfl)
theorem cn_all {n : Nat} {p : Nat → Bool} (h : ∀ i, i < n → p i = true) : cn n p = n := by
  induction n with
  | zero => rfl
  | succ n ih => rw [cn_succ, ih (fun i hi => h i (by omega)), if_pos (h n (by omega))]
section LEARN2
variable {n : Nat} {μ : Mem} {kd wd : Nat → Nat}
theorem orderOf_ok {row L : Nat} {p : Nat → Nat} (hn : n < 6) (h1 : μ 25 1 = n) (hL : alen row = L) (hL5 : 5 ≤ L) (hLb : L ≤ 100000) (hp : ∀ j, j < n → μ row j = (p j : Int) ∧ p j < 1000) : fX7_orderOf row μ = some (rankC n p : Int) := by
  apply Ok_val
  unfold fX7_orderOf
  refine Ok.bind ?_
  refine loop_FU n (fun i s => s.1 = ((sm i (fun i => lesAt p n i * fac (n - 1 - i)) : Nat) : Int) ∧ s.2 = (i : Int)) 0 ⟨rfl, rfl⟩ (by omega) (by omega) ?_ ?_
  · rintro i ⟨a, b⟩ hi ⟨e1, e2⟩
    dsimp only at e1 e2 ⊢
    subst e1 e2
    unfold fX7_orderOf_b4
    rw [h1, w32_n (by omega), w32_n (by omega), if_pos (by omega)]
    simp only [lt]
    refine Ok.bind ?_
    refine Ok.imp (loop_FU (Q := fun r : Int => r = ((lesAt p n i : Nat) : Int)) n (fun (j : Nat) (s : Int × Int) => i < j ∧ s.1 = ((cn j (fun j => decide (i < j) && decide (p j < p i)) : Nat) : Int) ∧ s.2 = (j : Int)) (i + 1) ⟨by omega, ?_, by push_cast; rfl⟩ (by omega) (by omega) ?_ ?_) ?_
    · show (0 : Int) = _
      rw [cn_none (fun j hj => by have : ¬ i < j := by omega
                                  simp [this])]
      rfl
    · rintro j ⟨a, b⟩ hj ⟨hij, e1, e2⟩
      dsimp only at e1 e2 ⊢
      subst e1 e2
      obtain ⟨g1, g2⟩ := hp i hi
      obtain ⟨g3, g4⟩ := hp j hj
      unfold fX7_orderOf_b20
      rw [h1, w32_n (by omega), w32_n (by omega), if_pos (by omega), at_n j rfl hL (by omega) hLb, at_n i rfl hL (by omega) hLb, g1, g3, w32_n (by omega), w32_n (by omega)]
      simp only [lt]
      rw [Ok_some]
      refine ⟨by omega, ?_, by push_cast; rfl⟩
      show _ = ((cn (j + 1) _ : Nat) : Int)
      rw [cn_succ]
      by_cases hl : p j < p i
      · rw [if_pos (by omega), if_pos (by simp [hij, hl])]; push_cast; rfl
      · rw [if_neg (by omega), if_neg (by simp [hl])]; rfl
    · rintro ⟨a, b⟩ ⟨hij, e1, e2⟩
      dsimp only at e1 e2 ⊢
      subst e1 e2
      unfold fX7_orderOf_b20
      rw [h1, w32_n (by omega), if_neg (by omega), Ok_some]
      rfl
    · intro r hr
      subst hr
      have : ((n : Int) - 1) - (i : Int) = ((n - 1 - i : Nat) : Int) := by omega
      rw [this, atF_n (by omega), Ok_some]
      refine ⟨?_, by push_cast; rfl⟩
      show _ = ((sm (i + 1) _ : Nat) : Int)
      rw [sm]
      push_cast
      rfl
  · rintro ⟨a, b⟩ ⟨e1, e2⟩
    dsimp only at e1 e2 ⊢
    subst e1 e2
    unfold fX7_orderOf_b4
    rw [h1, w32_n (by omega), if_neg (by omega), Ok_some]
    show Ok _ _
    rw [Ok_some]
    rfl
end LEARN2
section LEARN3
variable {n : Nat} {μ : Mem} {kd wd : Nat → Nat}
/-- the cakes that lie at the first so many places of an order -/
def fsA (n r i k : Nat) : Bool := decide (posA n r k < i)
theorem fsA_succ {r i k : Nat} (hn : n < 6) (hr : r < fac n) (hi : i < n) (hk : k < n) : fsA n r (i + 1) k = (fsA n r i k || decide (k = pA n r i)) := by
  unfold fsA
  by_cases e : k = pA n r i
  · have h : posA n r k = i := pA_inj hn hr (posA_lt hn hr hk) hi (by rw [pA_posA hn hr hk, e])
    simp [e] at h ⊢
    omega
  · have h : posA n r k ≠ i := fun q => e (by rw [← q, pA_posA hn hr hk])
    simp [e]; omega
/-- what a turn of so many touches, as cakes -/
def vT (n r m k : Nat) : Bool := fsA n (TO n r m) m k
abbrev kd1 : Nat → Nat := fun _ => 1
def stT (n r m : Nat) : Nat := pk kd1 (vT n r m) n
theorem pz_add {u : Nat → Bool} {j : Nat} (hj : j < n) (hs : sd kd j = true) : pk kd u n ||| 2 ^ ix kd j = pk kd (fun k => u k || decide (k = j)) n := by
  rw [← pz_one hj hs, pz_or]
theorem pk5 {u : Nat → Bool} (hn : n < 6) : pk kd u n < 32 := by
  have h1 := pz_lt (kd := kd) (u := u) n
  have h2 := ix_le (kd := kd) (k := n)
  have h3 := two_pow_le (a := ix kd n) (b := 5) (by omega)
  omega
theorem i_shl1 {s : Nat} (hs : s < 30) : i_shl 1 (s : Int) = ((2 ^ s : Nat) : Int) := by
  have h2 := two_pow_le (a := s) (b := 29) (by omega)
  have := i_shl_n (a := 1) (s := s) (by omega) (by omega)
  rw [Nat.one_mul] at this
  exact this
/-- the part of the tables that a turn reads -/
def TbE (kd : Nat → Nat) (n r m : Nat) (μ : Mem) : Prop := μ 29 (r * 5 + m - 1) = TO n r m ∧ μ 30 (r * 5 + m - 1) = stT n r m ∧ μ 31 (r * 5 + m - 1) = pk kd (vT n r m) n ∧ μ 32 (r * 5 + m - 1) = if 1 < m ∧ kd (pA n r (m - 1)) = 3 then 1 else 0
/-- what is known of the griddle's own cells -/
def Gc (told n : Nat) (kd wd : Nat → Nat) (μ : Mem) : Prop := (told = 5 ∨ told = 15) ∧ μ 25 0 = told ∧ μ 25 1 = n ∧ μ told 0 = n ∧ (∀ k, k < n → μ (told + 2) k = kd k ∧ kd k < 4) ∧ (∀ k, k < n → μ (told + 3) k = wd k ∧ wd k < 31)
/-- the sides' bits -/
def Sb (n : Nat) (kd : Nat → Nat) (μ : Mem) : Prop := μ 25 2 = ix kd n ∧ μ 25 3 = fac n ∧ ∀ k, k < n → μ 26 k = ((if sd kd k = true then 2 ^ ix kd k else 0 : Nat) : Int)
theorem al_G2 {told : Nat} (h : told = 5 ∨ told = 15) : alen (told + 2) = 5 := by rcases h with rfl | rfl <;> rfl
theorem al_G3 {told : Nat} (h : told = 5 ∨ told = 15) : alen (told + 3) = 5 := by rcases h with rfl | rfl <;> rfl
theorem learnTurn_ok {told r m : Nat} (hn : n < 6) (hr : r < fac n) (hm1 : 1 ≤ m) (hm : m ≤ n) (hG : Gc told n kd wd μ) (hS : Sb n kd μ) (h28 : ∀ i, i < n → μ 28 (r * 5 + i) = pA n r i) : Ok (fX7_learnTurn (r : Int) (m : Int) μ) (fun μ' => (∀ x, x ≠ 27 → x ≠ 29 → x ≠ 30 → x ≠ 31 → x ≠ 32 → μ' x = μ x) ∧ TbE kd n r m μ' ∧ ∀ x j, x ≠ 27 → j ≠ r * 5 + m - 1 → μ' x j = μ x j) := by
  obtain ⟨hto, hg0, hg1, hg2, hg3, hg4⟩ := hG
  obtain ⟨hs1, hs2, hs3⟩ := hS
  have hf := fac_le hn
  have hr' := TO_lt hn hr hm
  have hq : ∀ i, i < n → pA n (TO n r m) i = pA n r (if i < m then m - 1 - i else i) := fun i _ => pA_TO hn hr hm
  unfold fX7_learnTurn
  refine Ok.bind ?_
  refine Ok.imp (loop_FU (Q := fun q : Int × Int × Mem => q.1 = (stT n r m : Int) ∧ q.2.1 = (pk kd (vT n r m) n : Int) ∧ (∀ x, x ≠ 27 → q.2.2 x = μ x) ∧ ∀ j, j < n → q.2.2 27 j = pA n (TO n r m) j) n (fun (i : Nat) (s : Int × Int × Int × Mem) => s.1 = (pk kd1 (fsA n (TO n r m) (min i m)) n : Int) ∧ s.2.1 = (pk kd (fsA n (TO n r m) (min i m)) n : Int) ∧ s.2.2.1 = (i : Int) ∧ (∀ x, x ≠ 27 → s.2.2.2 x = μ x) ∧ ∀ j, j < i → s.2.2.2 27 j = pA n (TO n r m) j) 0 ⟨?_, ?_, rfl, fun _ _ => rfl, fun j hj => absurd hj (by omega)⟩ (by omega) (by omega) ?_ ?_) ?_
  · rw [pz_none (fun k _ _ => by simp [fsA])]; rfl
  · rw [pz_none (fun k _ _ => by simp [fsA])]; rfl
  · rintro i ⟨a, b, c, ν⟩ hi ⟨e1, e2, e3, hx, hj⟩
    dsimp only at e1 e2 e3 hx hj ⊢
    subst e1 e2 e3
    have h25 := hx 25 (by omega)
    have hql := pA_lt hn hr' hi
    have hrd : ∀ f : Nat, f < n → fX11_at 28 (((r : Int) * 5) + (f : Int)) ν = pA n r f := fun f hf2 => by
      rw [at_n (r * 5 + f) (by push_cast; rfl) (L := 600) rfl (by omega) (by omega), hx 28 (by omega), h28 f hf2]
    have hcake : fX11_at 28 (((r : Int) * 5) + (if w32 (i : Int) < w32 (m : Int) then (((m : Int) - 1) - (i : Int)) else (i : Int))) ν = pA n (TO n r m) i := by
      rw [hq i hi, w32_n (by omega), w32_n (by omega)]
      by_cases him : i < m
      · rw [if_pos (by omega), if_pos him]
        have : ((m : Int) - 1) - (i : Int) = ((m - 1 - i : Nat) : Int) := by omega
        rw [this, hrd _ (by omega)]
      · rw [if_neg (by omega), if_neg him, hrd _ hi]
    unfold fX7_learnTurn_b8
    rw [h25, hg1, w32_n (a := i) (by omega), w32_n (a := n) (by omega), if_pos (by omega)]
    rw [w32_n (a := i) (by omega)] at hcake
    simp only [lt]
    rw [hcake, put_n i rfl (L := 5) rfl (by omega) (by omega)]
    have hp1 := pk5 (kd := kd1) (u := fsA n (TO n r m) (min i m)) hn
    have hp2 := pk5 (kd := kd) (u := fsA n (TO n r m) (min i m)) hn
    have hpow := two_pow_le (a := pA n (TO n r m) i) (b := 5) (by omega)
    have hR : (∀ x, x ≠ 27 → upd2 ν 27 i (pA n (TO n r m) i : Int) x = μ x) := fun x hx2 => by rw [upd2_ne hx2]; exact hx x hx2
    have hJ : ∀ j, j < i + 1 → upd2 ν 27 i (pA n (TO n r m) i : Int) 27 j = pA n (TO n r m) j := fun j hj2 => by
      rw [upd2_self]
      by_cases e : j = i
      · subst e; rw [if_pos rfl]
      · rw [if_neg e]; exact hj j (by omega)
    by_cases him : i < m
    · have hmin : min (i + 1) m = min i m + 1 := by omega
      have hmi : min i m = i := by omega
      rw [w32_n (a := m) (by omega), if_pos (by omega), Ok_some]
      refine ⟨?_, ?_, by push_cast; rfl, hR, hJ⟩
      · show i_or _ (i_shl 1 _) = ((pk kd1 (fsA n (TO n r m) (min (i + 1) m)) n : Nat) : Int)
        rw [i_shl1 (by omega), i_or_n (by omega) (by omega)]
        have h2 := pz_add (kd := kd1) (u := fsA n (TO n r m) (min i m)) hql (by rfl)
        rw [ix_all (fun _ => rfl)] at h2
        rw [h2, hmin, hmi]
        exact congrArg _ (pz_congr (fun k hk _ => (fsA_succ hn hr' hi hk).symm))
      · show i_or _ (fX11_at 26 _ _) = ((pk kd (fsA n (TO n r m) (min (i + 1) m)) n : Nat) : Int)
        rw [at_n (pA n (TO n r m) i) rfl (L := 5) rfl (by omega) (by omega), hR 26 (by omega), hs3 _ hql]
        by_cases hsd : sd kd (pA n (TO n r m) i) = true
        · rw [if_pos hsd]
          have hlt := ix_lt hql hsd
          have hle := ix_le (kd := kd) (k := n)
          have hpw := two_pow_le (a := ix kd (pA n (TO n r m) i)) (b := 5) (by omega)
          rw [i_or_n (by omega) (by omega), pz_add hql hsd, hmin, hmi]
          exact congrArg _ (pz_congr (fun k hk _ => (fsA_succ hn hr' hi hk).symm))
        · rw [if_neg hsd, i_or_n (by omega) (by omega), Nat.or_zero, hmin, hmi]
          refine congrArg _ (pz_congr (fun k hk hs => ?_))
          rw [fsA_succ hn hr' hi hk]
          have : k ≠ pA n (TO n r m) i := fun e => hsd (by rw [← e]; exact hs)
          simp [this]
    · have hmin : min (i + 1) m = min i m := by omega
      rw [w32_n (a := m) (by omega), if_neg (by omega), Ok_some, hmin]
      exact ⟨rfl, rfl, by push_cast; rfl, hR, hJ⟩
  · rintro ⟨a, b, c, ν⟩ ⟨e1, e2, e3, hx, hj⟩
    dsimp only at e1 e2 e3 hx hj ⊢
    subst e1 e2 e3
    have h25 := hx 25 (by omega)
    have hmin : min n m = m := by omega
    unfold fX7_learnTurn_b8
    rw [h25, hg1, w32_n (a := n) (by omega), if_neg (by omega), Ok_some, hmin]
    exact ⟨rfl, rfl, hx, hj⟩
  · rintro ⟨a, b, ν⟩ ⟨e1, e2, hx, hj⟩
    dsimp only at e1 e2 hx hj ⊢
    subst e1 e2
    have h25 := hx 25 (by omega)
    have hg1' : ν 25 1 = n := by rw [h25]; exact hg1
    have ent : (((r : Int) * 5) + (m : Int)) - 1 = ((r * 5 + m - 1 : Nat) : Int) := by omega
    have ho := orderOf_ok (μ := ν) (row := 27) (L := 5) (p := pA n (TO n r m)) hn hg1' rfl (by omega) (by omega) (fun j hj2 => ⟨hj j hj2, by have := pA_lt hn hr' hj2; omega⟩)
    rw [rankC_eq hn hr' (fun _ _ => rfl)] at ho
    simp only [lt]
    rw [ent, ho, Option.bind_some]
    have put5 : ∀ (x : Nat) (v : Int) (N : Mem), alen x = 600 → fX11_put x ((r * 5 + m - 1 : Nat) : Int) v N = upd2 N x (r * 5 + m - 1) v := fun x v N hL => put_n (r * 5 + m - 1) rfl hL (by omega) (by omega)
    rw [put5 29 _ _ rfl, put5 30 _ _ rfl, put5 31 _ _ rfl]
    generalize hθ : upd2 (upd2 (upd2 ν 29 (r * 5 + m - 1) (TO n r m : Int)) 30 (r * 5 + m - 1) (stT n r m : Int)) 31 (r * 5 + m - 1) (pk kd (vT n r m) n : Int) = θ
    have fx : ∀ x, x ≠ 27 → x ≠ 29 → x ≠ 30 → x ≠ 31 → θ x = μ x := fun x h1 h2 h3 h4 => by
      rw [← hθ, upd2_ne h4, upd2_ne h3, upd2_ne h2]; exact hx x h1
    have fj : ∀ x j, x ≠ 27 → j ≠ r * 5 + m - 1 → θ x j = μ x j := fun x j h1 h2 => by
      rw [← hθ]
      simp only [upd2]
      rw [if_neg (fun q => h2 q.2), if_neg (fun q => h2 q.2), if_neg (fun q => h2 q.2), hx x h1]
    have t29 : θ 29 (r * 5 + m - 1) = (TO n r m : Int) := by rw [← hθ, upd2_ne (by omega), upd2_ne (by omega), upd2_at]
    have t30 : θ 30 (r * 5 + m - 1) = (stT n r m : Int) := by rw [← hθ, upd2_ne (by omega), upd2_at]
    have t31 : θ 31 (r * 5 + m - 1) = (pk kd (vT n r m) n : Int) := by rw [← hθ, upd2_at]
    have fin : ∀ v : Int, v = (if 1 < m ∧ kd (pA n r (m - 1)) = 3 then 1 else 0) → (∀ x, x ≠ 27 → x ≠ 29 → x ≠ 30 → x ≠ 31 → x ≠ 32 → (fX11_put 32 ((r * 5 + m - 1 : Nat) : Int) v θ) x = μ x) ∧ TbE kd n r m (fX11_put 32 ((r * 5 + m - 1 : Nat) : Int) v θ) ∧ ∀ x j, x ≠ 27 → j ≠ r * 5 + m - 1 → (fX11_put 32 ((r * 5 + m - 1 : Nat) : Int) v θ) x j = μ x j := fun v hv => by
      rw [put5 32 _ _ rfl]
      refine ⟨fun x h1 h2 h3 h4 h5 => by rw [upd2_ne h5]; exact fx x h1 h2 h3 h4, ⟨?_, ?_, ?_, ?_⟩, fun x j h1 h2 => ?_⟩
      · rw [upd2_ne (by omega)]; exact t29
      · rw [upd2_ne (by omega)]; exact t30
      · rw [upd2_ne (by omega)]; exact t31
      · rw [upd2_at]; exact hv
      · simp only [upd2]
        rw [if_neg (fun q => h2 q.2)]; exact fj x j h1 h2
    by_cases hm2 : m = 1
    · subst hm2
      rw [w32_n (by omega), if_pos (by show (((1 : Nat) : Int)) ≤ w32 1; decide), Ok_some]
      exact fin 0 (by simp)
    · have e27 : fX11_at 27 0 θ = pA n r (m - 1) := by
        rw [at_n (row := 27) (i := 0) 0 rfl (L := 5) rfl (by omega) (by omega), ← hθ, upd2_ne (by omega), upd2_ne (by omega), upd2_ne (by omega), hj 0 (by omega), hq 0 (by omega), if_pos (by omega)]
        rfl
      have hpl := pA_lt hn hr (i := m - 1) (by omega)
      have hw1 : w32 1 = 1 := by decide
      have hw3 : w32 3 = 3 := by decide
      have ht25 : θ 25 0 = told := by rw [fx 25 (by omega) (by omega) (by omega) (by omega)]; exact hg0
      have hkd : fX11_at (told + 2) (pA n r (m - 1) : Int) θ = kd (pA n r (m - 1)) := by
        rw [at_n (pA n r (m - 1)) rfl (al_G2 hto) (by omega) (by omega), fx (told + 2) (by omega) (by omega) (by omega) (by omega)]
        exact (hg3 _ hpl).1
      have hk4 := (hg3 _ hpl).2
      rw [w32_n (by omega), hw1, if_neg (by omega), ht25, gd_pos (by omega), Int.toNat_natCast, e27, hkd, w32_n (by omega), hw3, Ok_some]
      apply fin
      by_cases h3 : kd (pA n r (m - 1)) = 3
      · rw [if_pos (by omega), if_pos ⟨by omega, h3⟩]; rfl
      · rw [if_neg (by omega), if_neg (fun q => h3 q.2)]; rfl
end LEARN3
