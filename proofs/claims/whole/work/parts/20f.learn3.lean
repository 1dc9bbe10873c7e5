/-! ===== level 2: the class learns laws, and all of a griddle ===== -/
section LEARN4
variable {n : Nat} {μ : Mem} {kd wd : Nat → Nat}
/-- what a cake weighs -/
def wt (kd wd : Nat → Nat) (k : Nat) : Nat := if kd k = 2 then 2 * wd k else wd k
/-- what a set of cakes weighs -/
def wS (kd wd : Nat → Nat) (n st : Nat) : Nat := sm n (fun k => if st.testBit k = true then wt kd wd k else 0)
/-- a law is a function of four facts -/
abbrev LawF : Type := Nat → Nat → Nat → Nat → Int
/-- the law in the class's cells comes to f -/
def LK (k : Nat) (f : LawF) (μ : Mem) : Prop := ∀ μ' : Mem, (∀ j, j ≠ 4 → μ' k j = μ k j) → μ' (k + 1) = μ (k + 1) → ∀ a b c d : Nat, a < 1000 → b < 1000 → c < 1000 → d < 1000 → Ok (fX3_value k a b c d μ') (fun q => q.1 = f a b c d ∧ (∀ x, x ≠ k → x ≠ k + 2 → q.2 x = μ' x) ∧ ∀ j, j ≠ 4 → q.2 k j = μ' k j)
theorem LK.same {k : Nat} {f : LawF} {μ ν : Mem} (h : LK k f μ) (h1 : ∀ j, j ≠ 4 → ν k j = μ k j) (h2 : ν (k + 1) = μ (k + 1)) : LK k f ν :=
  fun μ' a b => h μ' (fun j hj => (a j hj).trans (h1 j hj)) (b.trans h2)
def clampI (x : Int) : Int := if x < 1 then 1 else if x ≤ 9 then x else 9
theorem clampI_b {x : Int} : 1 ≤ clampI x ∧ clampI x ≤ 9 := by
  unfold clampI
  by_cases h1 : x < 1
  · rw [if_pos h1]; omega
  · rw [if_neg h1]
    by_cases h2 : x ≤ 9
    · rw [if_pos h2]; omega
    · rw [if_neg h2]; omega
def FN (f : LawF) : Prop := ∀ a b c d, Nz (f a b c d)
theorem clampI_java {x : Int} (h : Nz x) : imax 1 (imin 9 x) = clampI x := by
  have hw : w32 x = x := w32_eq h.1 h.2
  have h9 : w32 9 = 9 := by decide
  have h1 : w32 1 = 1 := by decide
  unfold imax imin clampI
  rw [h9, hw, h1]
  by_cases g1 : x < 9
  · rw [if_pos g1, hw]
    by_cases g2 : x < 1
    · rw [if_neg (by omega), if_pos g2]
    · rw [if_neg g2, if_pos (by omega : x ≤ 9)]
      by_cases g3 : 1 < x
      · rw [if_pos g3]
      · rw [if_neg g3]; omega
  · rw [if_neg g1, h9, if_pos (by omega), if_neg (by omega)]
    by_cases g2 : x ≤ 9
    · rw [if_pos g2]; omega
    · rw [if_neg g2]
/-- the law's tables, of a set and so many up -/
def TbL (kd wd : Nat → Nat) (n : Nat) (BE CE : LawF) (st b : Nat) (μ : Mem) : Prop := μ 33 (st * 6 + b) = (if BE (pop st) (n - pop st) (wS kd wd n st) b = 0 then 0 else 1) ∧ μ 34 (st * 6 + b) = clampI (CE (pop st) (n - pop st) (wS kd wd n st) b)
/-- what reading laws may change -/
def Lc (told : Nat) (μ μ' : Mem) : Prop := (∀ x, x ≠ 33 → x ≠ 34 → x ≠ told + 4 → x ≠ told + 6 → x ≠ told + 7 → x ≠ told + 9 → μ' x = μ x) ∧ (∀ j, j ≠ 4 → μ' (told + 4) j = μ (told + 4) j) ∧ ∀ j, j ≠ 4 → μ' (told + 7) j = μ (told + 7) j
theorem Lc.rf {told : Nat} {μ : Mem} : Lc told μ μ := ⟨fun _ _ _ _ _ _ _ => rfl, fun _ _ => rfl, fun _ _ => rfl⟩
theorem Lc.tr {told : Nat} {a b c : Mem} (h1 : Lc told a b) (h2 : Lc told b c) : Lc told a c :=
  ⟨fun x q1 q2 q3 q4 q5 q6 => (h2.1 x q1 q2 q3 q4 q5 q6).trans (h1.1 x q1 q2 q3 q4 q5 q6), fun j hj => (h2.2.1 j hj).trans (h1.2.1 j hj), fun j hj => (h2.2.2 j hj).trans (h1.2.2 j hj)⟩
theorem pop_le5 {x : Nat} : pop x ≤ 5 := cn_le
theorem pop_lt {st : Nat} (h : st < 2 ^ n) (hn : n < 6) : pop st ≤ n := by
  have key : ∀ n, n < 6 → ∀ st, st < 2 ^ n → pop st ≤ n := by decide +kernel
  exact key n hn st h
theorem wt_lt {k : Nat} (h : wd k < 31) : wt kd wd k < 62 := by unfold wt; split <;> omega
theorem wS_lt {st : Nat} (hn : n < 6) (hw : ∀ k, k < n → wd k < 31) : wS kd wd n st < 311 := by
  have h := sm_le (n := n) (f := fun k => if st.testBit k = true then wt kd wd k else 0) (g := fun _ => 62) (fun k hk => by
    have := wt_lt (kd := kd) (hw k hk)
    split <;> omega)
  have h2 : sm n (fun _ => 62) = n * 62 := by
    clear hn hw h
    induction n with
    | zero => rfl
    | succ n ih => rw [sm, ih]; omega
  unfold wS
  omega
theorem testBit_d {a k : Nat} : a.testBit k = decide (a / 2 ^ k % 2 = 1) := Nat.testBit_eq_decide_div_mod_eq
theorem learnLaws_ok {told st : Nat} {BE CE : LawF} (hn : n < 6) (h0 : 1 ≤ st) (hst : st < 2 ^ n) (hG : Gc told n kd wd μ) (hB : LK (told + 4) BE μ) (hC : LK (told + 7) CE μ) (hBn : FN BE) (hCn : FN CE) : Ok (fX7_learnLaws (st : Int) μ) (fun μ' => Lc told μ μ' ∧ (∀ b, b ≤ pop st → TbL kd wd n BE CE st b μ') ∧ ∀ j, j < st * 6 → μ' 33 j = μ 33 j ∧ μ' 34 j = μ 34 j) := by
  obtain ⟨hto, hg0, hg1, hg2, hg3, hg4⟩ := hG
  have hpn := two_pow_5 hn
  have hpl := pop_lt hst hn
  unfold fX7_learnLaws
  rw [pop_java st (by omega)]
  simp only [lt]
  refine Ok.bind ?_
  refine Ok.imp (loop_FU (Q := fun q : Int × Mem => q.1 = (wS kd wd n st : Int) ∧ q.2 = μ) n (fun (i : Nat) (s : Int × Int × Mem) => s.1 = ((sm i (fun k => if st.testBit k = true then wt kd wd k else 0) : Nat) : Int) ∧ s.2.1 = (i : Int) ∧ s.2.2 = μ) 0 ⟨rfl, rfl, rfl⟩ (by omega) (by omega) ?_ ?_) ?_
  · rintro i ⟨a, b, ν⟩ hi ⟨e1, e2, e3⟩
    dsimp only at e1 e2 e3 ⊢
    subst e1 e2 e3
    obtain ⟨w1, w2⟩ := hg4 i hi
    obtain ⟨k1, k2⟩ := hg3 i hi
    have hw1 : w32 1 = 1 := by decide
    have hw2 : w32 2 = 2 := by decide
    have hwt : fX2_weightOf told (i : Int) ν = (wt kd wd i : Int) := by
      unfold fX2_weightOf wt
      simp only [lt]
      rw [at_n i rfl (al_G2 hto) (by omega) (by omega), at_n i rfl (al_G3 hto) (by omega) (by omega), k1, w1, w32_n (by omega), hw2]
      by_cases h2 : kd i = 2
      · rw [if_pos (by omega), if_pos h2]; push_cast; rfl
      · rw [if_neg (by omega), if_neg h2]
    unfold fX7_learnLaws_b10
    rw [hg1, w32_n (by omega), w32_n (by omega), if_pos (by omega), bit_n (by omega) (by omega), hw1, hg0]
    have hq : st / 2 ^ i % 2 < 2 := Nat.mod_lt _ (by omega)
    have htb := testBit_d (a := st) (k := i)
    generalize st / 2 ^ i % 2 = q at hq htb ⊢
    rw [w32_n (by omega)]
    simp only [lt]
    by_cases hb : q = 1
    · rw [if_pos (by omega), gd_pos (by omega), Int.toNat_natCast, hwt, Ok_some]
      refine ⟨?_, by push_cast; rfl, rfl⟩
      show _ = ((sm (i + 1) _ : Nat) : Int)
      rw [sm, htb]
      simp only [hb, decide_true, if_true]
      push_cast; rfl
    · rw [if_neg (by omega), Ok_some]
      refine ⟨?_, by push_cast; rfl, rfl⟩
      show _ = ((sm (i + 1) _ : Nat) : Int)
      rw [sm, htb]
      simp [hb]
  · rintro ⟨a, b, ν⟩ ⟨e1, e2, e3⟩
    dsimp only at e1 e2 e3 ⊢
    subst e1 e2 e3
    unfold fX7_learnLaws_b10
    rw [hg1, w32_n (by omega), if_neg (by omega), Ok_some]
    exact ⟨rfl, rfl⟩
  · rintro ⟨a, ν⟩ ⟨e1, e2⟩
    dsimp only at e1 e2 ⊢
    subst e1 e2
    have hws := wS_lt (kd := kd) (st := st) hn (fun k hk => (hg4 k hk).2)
    refine Ok.bind ?_
    refine Ok.imp (loop_FU (Q := fun q : Mem => Lc told ν q ∧ (∀ b, b ≤ pop st → TbL kd wd n BE CE st b q) ∧ ∀ j, j < st * 6 → q 33 j = ν 33 j ∧ q 34 j = ν 34 j) (pop st + 1) (fun (i : Nat) (s : Int × Mem) => s.1 = (i : Int) ∧ Lc told ν s.2 ∧ (∀ b, b < i → TbL kd wd n BE CE st b s.2) ∧ ∀ j, j < st * 6 → s.2 33 j = ν 33 j ∧ s.2 34 j = ν 34 j) 0 ⟨rfl, Lc.rf, fun b hb => absurd hb (by omega), fun _ _ => ⟨rfl, rfl⟩⟩ (by omega) (by omega) ?_ ?_) ?_
    · rintro i ⟨b, θ⟩ hi ⟨e1, hL, hb, hj⟩
      dsimp only at e1 hL hb hj ⊢
      subst e1
      have hx : ∀ x, x ≠ 33 → x ≠ 34 → x ≠ told + 4 → x ≠ told + 6 → x ≠ told + 7 → x ≠ told + 9 → θ x = ν x := hL.1
      have t0 : θ 25 0 = told := by rw [hx 25 (by omega) (by omega) (by omega) (by omega) (by omega) (by omega)]; exact hg0
      have t1 : θ 25 1 = n := by rw [hx 25 (by omega) (by omega) (by omega) (by omega) (by omega) (by omega)]; exact hg1
      obtain ⟨⟨c1, θ1⟩, hc, hcv, hcx, hcj⟩ := hC θ hL.2.2 (hx _ (by omega) (by omega) (by omega) (by omega) (by omega) (by omega)) (pop st) (n - pop st) (wS kd wd n st) i (by omega) (by omega) (by omega) (by omega)
      dsimp only at hcv hcx hcj
      have u0 : θ1 25 0 = told := by rw [hcx 25 (by omega) (by omega)]; exact t0
      have u1 : θ1 25 1 = n := by rw [hcx 25 (by omega) (by omega)]; exact t1
      obtain ⟨⟨c2, θ2⟩, hd, hdv, hdx, hdj⟩ := hB θ1 (fun j h4 => by rw [hcx _ (by omega) (by omega)]; exact hL.2.1 j h4) (by rw [hcx _ (by omega) (by omega)]; exact hx _ (by omega) (by omega) (by omega) (by omega) (by omega) (by omega)) (pop st) (n - pop st) (wS kd wd n st) i (by omega) (by omega) (by omega) (by omega)
      dsimp only at hdv hdx hdj
      have en : (n : Int) - (pop st : Int) = ((n - pop st : Nat) : Int) := by omega
      have ent : ((st : Int) * 6) + (i : Int) = ((st * 6 + i : Nat) : Int) := by push_cast; rfl
      have hst31 : st * 6 + i < 192 := by omega
      unfold fX7_learnLaws_b54
      rw [w32_n (by omega), w32_n (by omega), if_pos (by omega)]
      simp only [lt]
      rw [gd_pos (by omega), t0, t1, Int.toNat_natCast, en, hc, Option.bind_some]
      dsimp only
      rw [gd_pos (by omega), u0, u1, Int.toNat_natCast, en, hd, Option.bind_some]
      dsimp only
      rw [ent, hdv, hcv, clampI_java (hCn _ _ _ _), put_n (st * 6 + i) rfl (L := 192) rfl (by omega) (by omega), put_n (st * 6 + i) rfl (L := 192) rfl (by omega) (by omega), w32_eq (hBn _ _ _ _).1 (hBn _ _ _ _).2, Ok_some]
      have hbv : b2i (if BE (pop st) (n - pop st) (wS kd wd n st) i = 0 then false else true) = (if BE (pop st) (n - pop st) (wS kd wd n st) i = 0 then 0 else 1) := by split <;> rfl
      rw [hbv]
      generalize hφ : upd2 (upd2 θ2 33 (st * 6 + i) (if BE (pop st) (n - pop st) (wS kd wd n st) i = 0 then 0 else 1)) 34 (st * 6 + i) (clampI (CE (pop st) (n - pop st) (wS kd wd n st) i)) = φ
      have g33 : ∀ j, φ 33 j = if j = st * 6 + i then (if BE (pop st) (n - pop st) (wS kd wd n st) i = 0 then 0 else 1) else θ 33 j := fun j => by
        rw [← hφ, upd2_ne (by omega), upd2_self, hdx 33 (by omega) (by omega), hcx 33 (by omega) (by omega)]
      have g34 : ∀ j, φ 34 j = if j = st * 6 + i then clampI (CE (pop st) (n - pop st) (wS kd wd n st) i) else θ 34 j := fun j => by
        rw [← hφ, upd2_self, upd2_ne (by omega), hdx 34 (by omega) (by omega), hcx 34 (by omega) (by omega)]
      have gx : ∀ x, x ≠ 33 → x ≠ 34 → φ x = θ2 x := fun x h1 h2 => by rw [← hφ, upd2_ne h2, upd2_ne h1]
      refine ⟨by push_cast; rfl, hL.tr ⟨fun x q1 q2 q3 q4 q5 q6 => ?_, fun j h4 => ?_, fun j h4 => ?_⟩, fun b hb2 => ?_, fun j hj2 => ⟨?_, ?_⟩⟩
      · show φ x = θ x
        rw [gx x q1 q2, hdx x q3 (by omega), hcx x q5 (by omega)]
      · show φ (told + 4) j = θ (told + 4) j
        rw [gx _ (by omega) (by omega), hdj j h4, hcx _ (by omega) (by omega)]
      · show φ (told + 7) j = θ (told + 7) j
        rw [gx _ (by omega) (by omega), hdx _ (by omega) (by omega), hcj j h4]
      · by_cases e : b = i
        · subst e
          exact ⟨by show φ 33 _ = _; rw [g33, if_pos rfl], by show φ 34 _ = _; rw [g34, if_pos rfl]⟩
        · obtain ⟨p1, p2⟩ := hb b (by omega)
          exact ⟨by show φ 33 _ = _; rw [g33, if_neg (by omega)]; exact p1, by show φ 34 _ = _; rw [g34, if_neg (by omega)]; exact p2⟩
      · show φ 33 j = _
        rw [g33, if_neg (by omega)]; exact (hj j hj2).1
      · show φ 34 j = _
        rw [g34, if_neg (by omega)]; exact (hj j hj2).2
    · rintro ⟨b, θ⟩ ⟨e1, hL, hb, hj⟩
      dsimp only at e1 hL hb hj ⊢
      subst e1
      unfold fX7_learnLaws_b54
      rw [w32_n (by omega), w32_n (by omega), if_neg (by omega), Ok_some]
      exact ⟨hL, fun b h => hb b (by omega), hj⟩
    · rintro q hq
      show Ok _ _
      rw [Ok_some]
      exact hq
end LEARN4
