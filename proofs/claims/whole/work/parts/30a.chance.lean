/-! ===== level 2: by chance ===== -/
/-- sums, again -/
theorem sm_split {p q : Nat} {f : Nat → Nat} : sm (p + q) f = sm p f + sm q (fun d => f (p + d)) := by
  induction q with
  | zero => simp [sm]
  | succ q ih => rw [← Nat.add_assoc, sm, sm, ih]; omega
theorem sm_mono {p q : Nat} {f : Nat → Nat} (h : p ≤ q) : sm p f ≤ sm q f := by
  obtain ⟨d, rfl⟩ : ∃ d, q = p + d := ⟨q - p, by omega⟩
  rw [sm_split]; omega
theorem sm_const {n a : Nat} : sm n (fun _ => a) = n * a := by
  induction n with
  | zero => simp [sm]
  | succ n ih => rw [sm, ih, Nat.succ_mul]
/-- by the digits of the number -/
theorem sm_digits {a n : Nat} {F : Nat → Nat → Nat} (hn : 0 < n) : sm (a * n) (fun i => F (i % n) (i / n)) = sm a (fun j => sm n (fun d => F d j)) := by
  induction a with
  | zero => simp [sm]
  | succ a ih =>
    rw [Nat.succ_mul, sm_split, ih, sm]
    congr 1
    refine sm_congr (fun d hd => ?_)
    rw [Nat.mul_comm a n, Nat.mul_add_mod, Nat.mod_eq_of_lt hd, Nat.mul_add_div hn, Nat.div_eq_of_lt hd, Nat.add_zero]
/-- what a number makes of the stack -/
def stp (tn : Nat → Nat → Nat) (op : Nat → Nat → Bool) (ev : Bool) (g s m : Nat) : Nat := if (op s m && !(ev && decide (s = g))) = true then tn s m else s
/-- in how many of all ways it ends served -/
def Vw (n : Nat) (tn : Nat → Nat → Nat) (op : Nat → Nat → Bool) (ev : Bool) (g : Nat) : Nat → Nat → Nat
  | 0, s => if s = g then 1 else 0
  | k + 1, s => sm n (fun d => Vw n tn op ev g k (stp tn op ev g s (d + 1)))
def chI (n T V : Nat) : Int := l_2i (l_div ((V : Int) * 1000000) ((n ^ T : Nat) : Int))
theorem pow_b {n i T : Nat} (hn : n < 6) (hi : i ≤ T) (hT : T ≤ 6) : n ^ i ≤ 15625 := by
  have h1 : n ^ i ≤ 5 ^ i := Nat.pow_le_pow_left (by omega) i
  have h2 : 5 ^ i ≤ 5 ^ 6 := Nat.pow_le_pow_right (by omega) (by omega)
  have h3 : 5 ^ 6 = 15625 := by decide
  omega
section CHANCE
variable {N n goal : Nat} {tn : Nat → Nat → Nat} {op : Nat → Nat → Bool} {pr : Nat → Nat → Nat} {μ ν : Mem} {ev : Bool}
/-- what stays while counts are spread -/
def Cf (μ ν : Mem) : Prop := ∀ z j, z ≠ 36 → z ≠ 37 → (z ≠ 25 ∨ (j ≠ 15 ∧ j ≠ 16)) → ν z j = μ z j
theorem Cf.rf : Cf μ μ := fun _ _ _ _ _ => rfl
theorem Cf.tr {a b c : Mem} (h1 : Cf a b) (h2 : Cf b c) : Cf a c := fun z j q1 q2 q3 => (h2 z j q1 q2 q3).trans (h1 z j q1 q2 q3)
theorem Gr.cf (h : Gr N n goal tn op pr μ) (hD : Cf μ ν) : Gr N n goal tn op pr ν := h.same (fun j hj => hD 25 j (by omega) (by omega) (Or.inr ⟨by omega, by omega⟩)) (fun x h1 h2 => by funext j; exact hD x j (by omega) (by omega) (Or.inl (by omega)))
theorem stp_lt (hp : Gp N n goal tn pr) {s m : Nat} (hs : s < N) (h1 : 1 ≤ m) (h2 : m ≤ n) : stp tn op ev goal s m < N := by
  unfold stp
  split
  · exact (hp.2.2.2 s m hs h1 h2).1
  · exact hs
theorem spread_ok {x y : Nat} {f : Nat → Nat} (hx : isCt x) (hy : isCt y) (hxy : x ≠ y) (h15 : μ 25 15 = x) (h16 : μ 25 16 = y) (hp : Gp N n goal tn pr) (hg : Gr N n goal tn op pr μ) (hf : ∀ c, c < N → μ x c = f c) (hb : sm N f ≤ 100000) :
    Ok (fX7_spreadCounts ev μ) (fun ν => Cf μ ν ∧ ν 25 15 = y ∧ ν 25 16 = x ∧ ∃ f' : Nat → Nat, (∀ c, c < N → ν y c = f' c) ∧ ∀ W : Nat → Nat, sm N (fun t => f' t * W t) = sm N (fun s => f s * sm n (fun d => W (stp tn op ev goal s (d + 1))))) := by
  have hN := hp.2.1
  have hn := hp.1
  have hxb := isCt_b hx
  have hyb := isCt_b hy
  have hfb : ∀ c, c < N → f c ≤ 100000 := fun c hc => Nat.le_trans (sm_pos hc) hb
  unfold fX7_spreadCounts
  simp only [lt]
  rw [h16, gd_pos (by omega), Int.toNat_natCast]
  generalize h3 : fill3 μ y 3840 0 = μ3
  have e3 : ∀ z, z ≠ y → μ3 z = μ z := fun z hz => by rw [← h3, fill_ne hz]
  have e3y : ∀ c, c < N → μ3 y c = 0 := fun c hc => by rw [← h3, fill_at (by omega)]
  refine Ok.then (loop_FU (Q := fun ν : Mem => (∀ z, z ≠ y → ν z = μ z) ∧ ∃ f' : Nat → Nat, (∀ c, c < N → ν y c = f' c) ∧ ∀ W : Nat → Nat, sm N (fun t => f' t * W t) = sm N (fun s => f s * sm n (fun d => W (stp tn op ev goal s (d + 1))))) N (fun (i : Nat) (s : Int × Mem) => s.1 = (i : Int) ∧ (∀ z, z ≠ y → s.2 z = μ z) ∧ ∃ f' : Nat → Nat, (∀ c, c < N → s.2 y c = f' c) ∧ ∀ W : Nat → Nat, sm N (fun t => f' t * W t) = sm i (fun s => f s * sm n (fun d => W (stp tn op ev goal s (d + 1))))) 0 ⟨rfl, e3, fun _ => 0, e3y, fun W => by dsimp only; rw [sm_zero (fun _ _ => by omega)]; rfl⟩ (by omega) (by omega) ?_ ?_) ?_
  · rintro i ⟨a, ρ⟩ hi ⟨e1, hD, f1, hf1, hW⟩
    dsimp only at e1 hD hf1 ⊢
    subst e1
    have h25 : ρ 25 = μ 25 := hD 25 (by omega)
    have hgρ : Gr N n goal tn op pr ρ := hg.same (fun j _ => by rw [h25]) (fun z h1 h2 => hD z (by omega))
    unfold fX7_spreadCounts_b10
    simp only [lt]
    rw [hgρ.2.2.1, h25, h15, w32_n (a := i) (by omega), w32_n (a := N) (by omega), if_pos (by omega), gd_pos (by omega), Int.toNat_natCast, at_n i rfl (al_Ct hx) (by omega) (by omega), hD x hxy, hf i hi]
    have hfi := hfb i hi
    refine Ok.then (loop_FU (Q := fun ν : Mem => (∀ z, z ≠ y → ν z = μ z) ∧ ∃ f' : Nat → Nat, (∀ c, c < N → ν y c = f' c) ∧ ∀ W : Nat → Nat, sm N (fun t => f' t * W t) = sm (i + 1) (fun s => f s * sm n (fun d => W (stp tn op ev goal s (d + 1))))) (n + 1) (fun (m : Nat) (s : Int × Mem) => 1 ≤ m ∧ s.1 = (m : Int) ∧ (∀ z, z ≠ y → s.2 z = μ z) ∧ ∃ f' : Nat → Nat, (∀ c, c < N → s.2 y c = f' c) ∧ ∀ W : Nat → Nat, sm N (fun t => f' t * W t) = sm i (fun s => f s * sm n (fun d => W (stp tn op ev goal s (d + 1)))) + f i * sm (m - 1) (fun d => W (stp tn op ev goal i (d + 1)))) 1 ⟨by omega, rfl, hD, f1, hf1, fun W => by rw [hW W]; simp [sm]⟩ (by omega) (by omega) ?_ ?_) ?_
    · rintro m ⟨a, θ⟩ hm ⟨hm1, e1, hD2, f2, hf2, hW2⟩
      dsimp only at e1 hD2 hf2 ⊢
      subst e1
      have h25θ : θ 25 = μ 25 := hD2 25 (by omega)
      have hgθ : Gr N n goal tn op pr θ := hg.same (fun j _ => by rw [h25θ]) (fun z h1 h2 => hD2 z (by omega))
      unfold fX7_spreadCounts_b30
      simp only [lt]
      rw [w32_n (a := f i) (by omega)]
      by_cases hz : f i = 0
      · rw [if_pos (by omega), Ok_some]
        refine ⟨hD2, f2, hf2, fun W => ?_⟩
        rw [hW2 W, sm, hz]; simp
      · obtain ⟨t1, t2, -⟩ := hgθ.2.2.2 i m hi hm1 (by omega)
        rw [if_neg (by omega), hgθ.1, w32_n (a := m) (by omega), w32_n (a := n) (by omega), if_pos (by omega), t1, t2, hgθ.2.1, w32_n (a := i) (by omega), w32_n (a := goal) (by have := hp.2.2.1; omega)]
        have hst : (if (if op i m = true then (if ev = true then (if ((i : Nat) : Int) = ((goal : Nat) : Int) then false else true) else true) else false) = true then ((tn i m : Nat) : Int) else ((i : Nat) : Int)) = ((stp tn op ev goal i m : Nat) : Int) := by
          unfold stp
          by_cases h1 : op i m = true
          · cases ev
            · simp [h1]
            · by_cases h2 : i = goal
              · simp [h1, h2]
              · have : ¬ ((i : Nat) : Int) = ((goal : Nat) : Int) := by omega
                simp [h1, h2, this]
          · simp [h1]
        rw [hst, h25θ, h16, gd_pos (by omega), gd_pos (by omega), Int.toNat_natCast]
        have hsl := stp_lt (op := op) (ev := ev) hp hi hm1 (show m ≤ n by omega)
        generalize hsd : stp tn op ev goal i m = t at hsl ⊢
        rw [at_n t rfl (al_Ct hy) (by omega) (by omega), hf2 t hsl, put_n t rfl (al_Ct hy) (by omega) (by omega), Ok_some]
        refine ⟨by omega, by push_cast; rfl, fun z hz => ?_, fun c => if c = t then f2 c + f i else f2 c, fun c hc => ?_, fun W => ?_⟩
        · dsimp only
          rw [upd2_ne hz]; exact hD2 z hz
        · dsimp only
          rw [upd2_self]
          by_cases e : c = t
          · rw [if_pos e, if_pos e, e]; push_cast; rfl
          · rw [if_neg e, if_neg e]; exact hf2 c hc
        · have k1 := sm_upd (f := fun c => f2 c * W c) (g := fun c => (if c = t then f2 c + f i else f2 c) * W c) hsl (fun c _ hne => by rw [if_neg hne])
          have k2 := hW2 W
          rw [if_pos rfl, Nat.add_mul] at k1
          have k3 : m + 1 - 1 = (m - 1) + 1 := by omega
          have k4 : m - 1 + 1 = m := by omega
          dsimp only
          rw [k3, sm, Nat.mul_add, k4, hsd]
          omega
    · rintro ⟨a, θ⟩ ⟨hm1, e1, hD2, f2, hf2, hW2⟩
      dsimp only at e1 hD2 hf2 ⊢
      subst e1
      have h25θ : θ 25 = μ 25 := hD2 25 (by omega)
      have hgθ : Gr N n goal tn op pr θ := hg.same (fun j _ => by rw [h25θ]) (fun z h1 h2 => hD2 z (by omega))
      have hQ : (∀ z, z ≠ y → θ z = μ z) ∧ ∃ f' : Nat → Nat, (∀ c, c < N → θ y c = f' c) ∧ ∀ W : Nat → Nat, sm N (fun t => f' t * W t) = sm (i + 1) (fun s => f s * sm n (fun d => W (stp tn op ev goal s (d + 1)))) := ⟨hD2, f2, hf2, fun W => by rw [hW2 W, sm, Nat.add_sub_cancel]⟩
      unfold fX7_spreadCounts_b30
      rw [hgθ.1, w32_n (a := n + 1) (by omega), w32_n (a := n) (by omega)]
      by_cases hz : w32 (f i : Int) ≤ 0
      · rw [if_pos hz, Ok_some]; exact hQ
      · rw [if_neg hz, if_neg (by omega), Ok_some]; exact hQ
    · rintro θ ⟨hD2, f2, hf2, hW2⟩
      rw [Ok_some]
      exact ⟨by push_cast; rfl, hD2, f2, hf2, hW2⟩
  · rintro ⟨a, ρ⟩ ⟨e1, hD, f1, hf1, hW⟩
    dsimp only at e1 hD hf1 ⊢
    subst e1
    have h25 : ρ 25 = μ 25 := hD 25 (by omega)
    have hgρ : Gr N n goal tn op pr ρ := hg.same (fun j _ => by rw [h25]) (fun z h1 h2 => hD z (by omega))
    unfold fX7_spreadCounts_b10
    rw [hgρ.2.2.1, w32_n (a := N) (by omega), if_neg (by omega), Ok_some]
    exact ⟨hD, f1, hf1, hW⟩
  · rintro θ ⟨hD, f1, hf1, hW⟩
    have h25 : θ 25 = μ 25 := hD 25 (by omega)
    rw [h25, h15, h16, gd_pos (by omega), gd_pos (by omega), Int.toNat_natCast, Int.toNat_natCast, Ok_some]
    refine ⟨fun z j q1 q2 q3 => ?_, ?_, upd2_at, f1, fun c hc => ?_, hW⟩
    · by_cases e : z = 25
      · subst e
        rcases q3 with q | ⟨q, q'⟩
        · exact absurd rfl q
        · rw [upd2_nj q', upd2_nj q, h25]
      · rw [upd2_ne e, upd2_ne e, hD z (by omega)]
    · rw [upd2_nj (by omega), upd2_at]
    · rw [upd2_ne (by omega), upd2_ne (by omega)]; exact hf1 c hc
theorem chance_ok {x y c T : Nat} (hx : isCt x) (hy : isCt y) (hxy : x ≠ y) (h15 : μ 25 15 = x) (h16 : μ 25 16 = y) (hp : Gp N n goal tn pr) (hg : Gr N n goal tn op pr μ) (hc : c < N) (h41 : μ 41 1 = c) (hn1 : 1 ≤ n) (hT1 : 1 ≤ T) (hT : T ≤ 6) :
    Ok (fX11_chance (T : Int) ev μ) (fun o => o.1 = chI n T (Vw n tn op ev goal T c) ∧ Cf μ o.2 ∧ ∃ x y, isCt x ∧ isCt y ∧ x ≠ y ∧ o.2 25 15 = (x : Nat) ∧ o.2 25 16 = (y : Nat)) := by
  have hN := hp.2.1
  have hn := hp.1
  have hxb := isCt_b hx
  have hyb := isCt_b hy
  unfold fX11_chance
  simp only [lt]
  rw [hg.1, h41, w32_n (a := T) (by omega), w32_n (a := n) (by omega), w32_1, if_neg (by omega), show w32 6 = 6 from by decide, if_pos (by omega), if_neg (by omega)]
  unfold fX7_startCounts
  simp only [lt]
  rw [h15, gd_pos (by omega), Int.toNat_natCast]
  have e15 : fill3 μ x 3840 0 25 15 = x := by rw [fill_ne (by omega)]; exact h15
  rw [e15, gd_pos (by omega), Int.toNat_natCast, put_n c rfl (al_Ct hx) (by omega) (by omega), Option.bind_some]
  generalize h5 : upd2 (fill3 μ x 3840 0) x c 1 = μ5
  have e5 : ∀ z, z ≠ x → μ5 z = μ z := fun z hz => by rw [← h5, upd2_ne hz, fill_ne hz]
  have e5x : ∀ d, d < N → μ5 x d = ((if d = c then 1 else 0 : Nat) : Int) := fun d hd => by
    rw [← h5, upd2_self]
    by_cases e : d = c
    · rw [if_pos e, if_pos e]; rfl
    · rw [if_neg e, if_neg e, fill_at (by omega)]; rfl
  have hs1 : ∀ W : Nat → Nat, sm N (fun d => (if d = c then 1 else 0) * W d) = W c := fun W => by
    rw [sm_one hc (fun d _ hne => by rw [if_neg hne]; simp)]; simp
  have h1s : sm N (fun d => if d = c then 1 else 0) = 1 := by rw [sm_one hc (fun d _ hne => if_neg hne), if_pos rfl]
  refine Ok.then (loop_FU (Q := fun o : Int × Mem => o.1 = ((n ^ T : Nat) : Int) ∧ Cf μ o.2 ∧ ∃ x y, isCt x ∧ isCt y ∧ x ≠ y ∧ o.2 25 15 = (x : Nat) ∧ o.2 25 16 = (y : Nat) ∧ o.2 x goal = (Vw n tn op ev goal T c : Nat)) T (fun (i : Nat) (s : Int × Int × Mem) => s.1 = ((n ^ i : Nat) : Int) ∧ s.2.1 = (i : Int) ∧ Cf μ s.2.2 ∧ ∃ (x y : Nat) (f : Nat → Nat), isCt x ∧ isCt y ∧ x ≠ y ∧ s.2.2 25 15 = (x : Nat) ∧ s.2.2 25 16 = (y : Nat) ∧ (∀ d, d < N → s.2.2 x d = f d) ∧ sm N f = n ^ i ∧ sm N (fun d => f d * Vw n tn op ev goal (T - i) d) = Vw n tn op ev goal T c) 0 ⟨rfl, rfl, fun z j q1 q2 _ => by dsimp only; rw [e5 z (by omega)], x, y, _, hx, hy, hxy, by dsimp only; rw [e5 25 (by omega)]; exact h15, by dsimp only; rw [e5 25 (by omega)]; exact h16, e5x, h1s, by rw [hs1, Nat.sub_zero]⟩ (by omega) (by omega) ?_ ?_) ?_
  · rintro i ⟨v6, v7, ρ⟩ hi ⟨e1, e2, hD, x, y, f, hx, hy, hxy, k15, k16, hf, hs, hV⟩
    dsimp only at e1 e2 hD k15 k16 hf ⊢
    subst e1 e2
    have hpb := pow_b (i := i) hn (Nat.le_of_lt hi) hT
    unfold fX11_chance_b46
    simp only [lt]
    rw [w32_n (a := i) (by omega), w32_n (a := T) (by omega), if_pos (by omega)]
    refine Ok.then (spread_ok (ev := ev) hx hy hxy k15 k16 hp (hg.cf hD) hf (by omega)) ?_
    rintro ρ2 ⟨hD2, j15, j16, f', hf', hW⟩
    rw [Ok_some]
    refine ⟨?_, by push_cast; rfl, hD.tr hD2, y, x, f', hy, hx, fun q => hxy q.symm, j15, j16, hf', ?_, ?_⟩
    · dsimp only
      rw [w32_n (a := n) (by omega), Nat.pow_succ]; push_cast; rfl
    · have h1 := hW (fun _ => 1)
      have h2 : sm N (fun t => f' t * 1) = sm N f' := sm_congr (fun t _ => Nat.mul_one _)
      have h3 : sm N (fun s => f s * sm n (fun _ => 1)) = n * sm N f := by
        rw [← sm_mul]
        exact sm_congr (fun s _ => by rw [sm_const, Nat.mul_one, Nat.mul_comm])
      rw [h2, h3, hs] at h1
      rw [h1, Nat.pow_succ, Nat.mul_comm]
    · rw [hW, ← hV]
      refine sm_congr (fun s _ => ?_)
      have : T - i = (T - (i + 1)) + 1 := by omega
      rw [this, Vw]
  · rintro ⟨v6, v7, ρ⟩ ⟨e1, e2, hD, x, y, f, hx, hy, hxy, k15, k16, hf, hs, hV⟩
    dsimp only at e1 e2 hD k15 k16 hf ⊢
    subst e1 e2
    unfold fX11_chance_b46
    rw [w32_n (a := T) (by omega), if_neg (by omega), Ok_some]
    refine ⟨rfl, hD, x, y, hx, hy, hxy, k15, k16, ?_⟩
    dsimp only
    rw [hf goal hp.2.2.1, ← hV, Nat.sub_self, sm_one hp.2.2.1 (fun d _ hne => by rw [Vw, if_neg hne, Nat.mul_zero]), Vw, if_pos rfl, Nat.mul_one]
  · rintro ⟨v, ρ⟩ ⟨e1, hD, x, y, hx, hy, hxy, k15, k16, hV⟩
    dsimp only at e1 hD k15 k16 hV ⊢
    subst e1
    have hxb := isCt_b hx
    have hpb := pow_b (i := T) hn (Nat.le_refl _) hT
    have hpp : 0 < n ^ T := Nat.pow_pos (by omega)
    have hVb : Vw n tn op ev goal T c < 2147483648 := by
      have : ∀ k s, Vw n tn op ev goal k s ≤ n ^ k := fun k => by
        induction k with
        | zero => intro s; rw [Vw]; split <;> simp
        | succ k ih =>
          intro s
          rw [Vw]
          have h1 := sm_le (n := n) (f := fun d => Vw n tn op ev goal k (stp tn op ev goal s (d + 1))) (g := fun _ => n ^ k) (fun d _ => ih _)
          rw [sm_const] at h1
          rw [Nat.pow_succ, Nat.mul_comm]; exact h1
      have := this T c
      omega
    rw [if_neg (show ¬ w64 ((n ^ T : Nat) : Int) ≤ w64 0 from by rw [w64_nn (a := n ^ T) (by omega), show w64 0 = 0 from by decide]; omega)]
    unfold fX7_countOf
    simp only [lt]
    have e4 : ρ 25 4 = goal := by rw [hD 25 4 (by omega) (by omega) (Or.inr ⟨by omega, by omega⟩)]; exact hg.2.1
    rw [k15, e4, gd_pos (by omega), Int.toNat_natCast, Option.bind_some, at_n goal rfl (al_Ct hx) (by have := hp.2.2.1; omega) (by omega), hV, w32_n hVb, w64_nn (a := n ^ T) (by omega), gd_pos (by omega), Ok_some]
    exact ⟨rfl, hD, x, y, hx, hy, hxy, k15, k16⟩
end CHANCE
