/-! ===== level 2: mornings ===== -/
section MORN
variable {n g : Nat} {kd wd : Nat → Nat} {BE CE : LawF} {μ ν : Mem} {c : Nat}
/-- the drawn numbers -/
def xsN (s : Nat) : Nat → Nat
  | 0 => s
  | k + 1 => (xsN s k * 1103515245 + 12345) % 2147483648
theorem xsN_b {s : Nat} (h : s < 10000) : ∀ k, xsN s k < 2147483648
  | 0 => by unfold xsN; omega
  | k + 1 => by unfold xsN; exact Nat.mod_lt _ (by omega)
theorem nx_ok {x : Nat} (h : x < 2147483648) : l_rem (((x : Int) * 1103515245) + 12345) 2147483648 = (((x * 1103515245 + 12345) % 2147483648 : Nat) : Int) := by
  have := l_rem_n (a := x * 1103515245 + 12345) (b := 2147483648) (by omega) (by omega)
  rw [← this, Int.natCast_add, Int.natCast_mul]
  rfl
theorem dr_ok {x : Nat} (hn : n < 6) (hn1 : 1 ≤ n) (h : x < 2147483648) : l_2i (l_rem (l_div (x : Int) 65536) (w32 (n : Int))) = ((x / 65536 % n : Nat) : Int) := by
  have h1 := l_div_n (a := x) (b := 65536) (by omega) (by omega)
  rw [show ((65536 : Nat) : Int) = 65536 from rfl] at h1
  have h3 : x / 65536 % n < n := Nat.mod_lt _ (by omega)
  rw [w32_n (by omega), h1, l_rem_n (by omega) (by omega), l_2i_n (by omega)]
/-- a cook's morning: the stack, the turns done, the spent, when served -/
def mrn (kd wd : Nat → Nat) (n : Nat) (BE CE : LawF) (g s c0 : Nat) : Nat → Nat × Nat × Nat × Int
  | 0 => (c0, 0, 0, if c0 = g then 0 else -1)
  | k + 1 =>
    let J := mrn kd wd n BE CE g s c0 k
    let m := xsN s (k + 1) / 65536 % n + 1
    let o := opC kd wd n BE J.1 m
    let d := if o = true then tnC kd n J.1 m else J.1
    (d, if o = true then J.2.1 + 1 else J.2.1, if o = true then J.2.2.1 + prC kd wd n CE J.1 m else J.2.2.1, if J.2.2.2 = -1 ∧ d = g then ((k + 1 : Nat) : Int) else J.2.2.2)
theorem mrn_b {s c0 : Nat} (hn : n < 6) (hn1 : 1 ≤ n) (hc : c0 < NN kd n) : ∀ k, (mrn kd wd n BE CE g s c0 k).1 < NN kd n ∧ (mrn kd wd n BE CE g s c0 k).2.1 ≤ k ∧ (mrn kd wd n BE CE g s c0 k).2.2.1 ≤ 9 * k ∧ -1 ≤ (mrn kd wd n BE CE g s c0 k).2.2.2 ∧ (mrn kd wd n BE CE g s c0 k).2.2.2 ≤ k
  | 0 => by
    unfold mrn
    dsimp only
    refine ⟨hc, Nat.le_refl _, Nat.le_refl _, ?_, ?_⟩ <;> split <;> omega
  | k + 1 => by
    obtain ⟨a1, a2, a3, a4, a5⟩ := mrn_b hn hn1 hc k
    have h3 : xsN s (k + 1) / 65536 % n < n := Nat.mod_lt _ (by omega)
    unfold mrn
    dsimp only
    have hb := prC_b (kd := kd) (wd := wd) (n := n) (CE := CE) (c := (mrn kd wd n BE CE g s c0 k).1) (m := xsN s (k + 1) / 65536 % n + 1)
    have ht := tnC_lt (kd := kd) (c := (mrn kd wd n BE CE g s c0 k).1) (m := xsN s (k + 1) / 65536 % n + 1) hn a1 (by omega)
    refine ⟨?_, ?_, ?_, ?_, ?_⟩
    · split
      · exact ht
      · exact a1
    · split <;> omega
    · split <;> omega
    · split <;> omega
    · split <;> omega
def mrnI (kd wd : Nat → Nat) (n : Nat) (BE CE : LawF) (g c0 : Nat) (s t w : Int) : Int :=
  if (0 ≤ s ∧ s ≤ 9999) ∧ (1 ≤ t ∧ t ≤ 99) ∧ (0 ≤ w ∧ w ≤ 2) then
    (let J := mrn kd wd n BE CE g s.toNat c0 (if n = 0 then 0 else t.toNat)
     if w = 0 then (J.2.1 : Int) else if w = 1 then (J.2.2.1 : Int) else J.2.2.2)
  else -2
theorem mornings_ok {s t w : Int} (hn : n < 6) (hT : Tb kd wd n BE CE μ) (hc : c < NN kd n) (h41 : μ 41 1 = c) (hgN : g < NN kd n) (h4 : μ 25 4 = g) (hs : Nz s) (ht : Nz t) (hw : Nz w) : fX11_mornings s t w μ = some (mrnI kd wd n BE CE g c s t w) := by
  have hN := NN_le (kd := kd) hn
  unfold fX11_mornings mrnI
  simp only [lt]
  rw [nz_w hs, nz_w ht, nz_w hw, h41, h4, w32_n (a := c) (by omega), w32_n (a := g) (by omega), show w32 9999 = 9999 from by decide, w32_1, show w32 99 = 99 from by decide, show w32 2 = 2 from by decide]
  by_cases s0 : s < 0
  · rw [if_pos s0, if_neg (fun h => by omega)]
  rw [if_neg s0]
  by_cases s1 : s ≤ 9999
  rotate_left
  · rw [if_neg s1, if_neg (fun h => by omega)]
  rw [if_pos s1]
  by_cases t0 : t < 1
  · rw [if_pos t0, if_neg (fun h => by omega)]
  rw [if_neg t0]
  by_cases t1 : t ≤ 99
  rotate_left
  · rw [if_neg t1, if_neg (fun h => by omega)]
  rw [if_pos t1]
  by_cases w0 : w < 0
  · rw [if_pos w0, if_neg (fun h => by omega)]
  rw [if_neg w0]
  by_cases w2 : w ≤ 2
  rotate_left
  · rw [if_neg w2, if_neg (fun h => by omega)]
  rw [if_pos w2, if_pos (show (0 ≤ s ∧ s ≤ 9999) ∧ (1 ≤ t ∧ t ≤ 99) ∧ (0 ≤ w ∧ w ≤ 2) by omega)]
  obtain ⟨S, rfl⟩ : ∃ S : Nat, s = S := ⟨s.toNat, by omega⟩
  obtain ⟨T, rfl⟩ : ∃ T : Nat, t = T := ⟨t.toNat, by omega⟩
  rw [Int.toNat_natCast, Int.toNat_natCast]
  have hini : (if ((c : Nat) : Int) = ((g : Nat) : Int) then (0 : Int) else -1) = (if c = g then 0 else -1) := by split <;> split <;> omega
  rw [hini]
  apply Ok_val
  refine Ok.then (loop_FU (Q := fun o : Int × Int × Int => o.1 = ((mrn kd wd n BE CE g S c (if n = 0 then 0 else T)).2.1 : Int) ∧ o.2.1 = ((mrn kd wd n BE CE g S c (if n = 0 then 0 else T)).2.2.1 : Int) ∧ o.2.2 = (mrn kd wd n BE CE g S c (if n = 0 then 0 else T)).2.2.2) T (fun (k : Nat) (v : Int × Int × Int × Int × Int × Int) => (n = 0 → k = 0) ∧ v.1 = ((mrn kd wd n BE CE g S c k).1 : Int) ∧ v.2.1 = ((mrn kd wd n BE CE g S c k).2.1 : Int) ∧ v.2.2.1 = ((mrn kd wd n BE CE g S c k).2.2.1 : Int) ∧ v.2.2.2.1 = (mrn kd wd n BE CE g S c k).2.2.2 ∧ v.2.2.2.2.1 = (xsN S k : Int) ∧ v.2.2.2.2.2 = ((k + 1 : Nat) : Int)) 0 ⟨fun _ => rfl, rfl, rfl, rfl, rfl, rfl, rfl⟩ (by omega) (by omega) ?_ ?_) ?_
  · rintro k ⟨x1, x2, x3, x4, x5, x6⟩ hk ⟨hn0, e1, e2, e3, e4, e5, e6⟩
    dsimp only at e1 e2 e3 e4 e5 e6 ⊢
    subst e1 e2 e3 e4 e5 e6
    unfold fX11_mornings_b75
    simp only [lt]
    rw [hT.1, w32_n (a := k + 1) (by omega), w32_n (a := T) (by omega), if_pos (by omega)]
    by_cases h0 : n = 0
    · rw [w32_n (a := n) (by omega), if_pos (by omega), Ok_some]
      have := hn0 h0
      subst this
      dsimp only [Sum.elim]
      rw [if_pos h0]
      exact ⟨rfl, rfl, rfl⟩
    have hn1 : 1 ≤ n := by omega
    obtain ⟨a1, a2, a3, a4, a5⟩ := mrn_b (wd := wd) (BE := BE) (CE := CE) (g := g) (s := S) hn hn1 hc k
    obtain ⟨b1, -⟩ := mrn_b (wd := wd) (BE := BE) (CE := CE) (g := g) (s := S) hn hn1 hc (k + 1)
    have hxb := xsN_b (s := S) (by omega) k
    have hxb1 := xsN_b (s := S) (by omega) (k + 1)
    have h3 : xsN S (k + 1) / 65536 % n < n := Nat.mod_lt _ (by omega)
    have hnx : fX11_nextState (xsN S k : Int) = (xsN S (k + 1) : Int) := by
      unfold fX11_nextState
      rw [nx_ok hxb]; rfl
    have hdr : fX11_drawBelow (xsN S (k + 1) : Int) (n : Int) = some ((xsN S (k + 1) / 65536 % n : Nat) : Int) := by
      unfold fX11_drawBelow
      rw [w32_n (a := n) (by omega), if_neg (by omega), gd_pos (by rw [w64_s (by omega) (by omega)]; omega)]
      have := dr_ok hn hn1 hxb1
      rw [w32_n (a := n) (by omega)] at this
      rw [this]
    have em : ((xsN S (k + 1) / 65536 % n : Nat) : Int) + 1 = ((xsN S (k + 1) / 65536 % n + 1 : Nat) : Int) := (Int.natCast_add _ _).symm
    have hstep : mrn kd wd n BE CE g S c (k + 1) = (let J := mrn kd wd n BE CE g S c k
      let m := xsN S (k + 1) / 65536 % n + 1
      let o := opC kd wd n BE J.1 m
      let d := if o = true then tnC kd n J.1 m else J.1
      (d, if o = true then J.2.1 + 1 else J.2.1, if o = true then J.2.2.1 + prC kd wd n CE J.1 m else J.2.2.1, if J.2.2.2 = -1 ∧ d = g then ((k + 1 : Nat) : Int) else J.2.2.2)) := rfl
    rw [w32_n (a := n) (by omega), if_neg (by omega), hnx, hdr, Option.bind_some, em]
    rw [hstep] at b1 ⊢
    have hm : 1 ≤ xsN S (k + 1) / 65536 % n + 1 ∧ xsN S (k + 1) / 65536 % n + 1 ≤ n := by omega
    generalize xsN S (k + 1) / 65536 % n + 1 = m at hm b1 ⊢
    generalize mrn kd wd n BE CE g S c k = J at a1 a2 a3 a4 a5 b1 ⊢
    obtain ⟨j1, j2, j3, j4⟩ := J
    dsimp only at a1 a2 a3 a4 a5 b1 ⊢
    have fin : ∀ (d : Nat) (x y : Int), d < NN kd n → Ok (fX11_mornings_j160 (S : Int) (T : Int) w (d : Int) x y j4 (xsN S (k + 1) : Int) ((k + 1 : Nat) : Int) μ) (Sum.elim (fun v => (n = 0 → k + 1 = 0) ∧ v.1 = (d : Int) ∧ v.2.1 = x ∧ v.2.2.1 = y ∧ v.2.2.2.1 = (if j4 = -1 ∧ d = g then ((k + 1 : Nat) : Int) else j4) ∧ v.2.2.2.2.1 = (xsN S (k + 1) : Int) ∧ v.2.2.2.2.2 = ((k + 1 + 1 : Nat) : Int)) (fun _ => False)) := fun d x y hd => by
      unfold fX11_mornings_j160
      rw [h4, w32_n (a := d) (by omega), w32_n (a := g) (by omega), w32_eq (x := j4) (by omega) (by omega), w32_m1]
      by_cases h3 : j4 = -1
      · rw [if_pos h3]
        by_cases hd' : d = g
        · rw [if_pos (by omega), Ok_some, if_pos ⟨h3, hd'⟩]
          exact ⟨fun h => absurd h h0, rfl, rfl, rfl, rfl, rfl, by push_cast; rfl⟩
        · rw [if_neg (by omega), Ok_some, if_neg (fun h => hd' h.2)]
          exact ⟨fun h => absurd h h0, rfl, rfl, rfl, rfl, rfl, by push_cast; rfl⟩
      · rw [if_neg h3, Ok_some, if_neg (fun h => h3 h.1)]
        exact ⟨fun h => absurd h h0, rfl, rfl, rfl, rfl, rfl, by push_cast; rfl⟩
    rw [isOpen_ok hn hT a1 hm.1 hm.2]
    by_cases ho : opC kd wd n BE j1 m = true
    · rw [if_pos ho, if_pos ho, if_pos ho, if_pos ho, priceOf_ok hn hT a1 hm.1 hm.2, turned_ok hn hT a1 hm.1 hm.2]
      rw [if_pos ho] at b1
      refine Ok.imp (fin _ _ _ b1) ?_
      rintro (v | v) hv
      · obtain ⟨v0, v1, v2, v3, v4, v5, v6⟩ := hv
        exact ⟨v0, v1, by rw [v2]; push_cast; rfl, by rw [v3]; push_cast; rfl, v4, v5, v6⟩
      · exact hv.elim
    · rw [if_neg ho, if_neg ho, if_neg ho, if_neg ho]
      refine Ok.imp (fin _ _ _ a1) ?_
      rintro (v | v) hv
      · exact hv
      · exact hv.elim
  · rintro ⟨x1, x2, x3, x4, x5, x6⟩ ⟨hn0, e1, e2, e3, e4, e5, e6⟩
    dsimp only at e1 e2 e3 e4 e5 e6 ⊢
    subst e1 e2 e3 e4 e5 e6
    have hn1 : ¬ n = 0 := fun h => by have := hn0 h; omega
    unfold fX11_mornings_b75
    rw [w32_n (a := T + 1) (by omega), w32_n (a := T) (by omega), if_neg (by omega), Ok_some, if_neg hn1]
    exact ⟨rfl, rfl, rfl⟩
  · rintro ⟨x1, x2, x3⟩ ⟨e1, e2, e3⟩
    dsimp only at e1 e2 e3 ⊢
    subst e1 e2 e3
    unfold fX11_mornings_j188
    rw [nz_w hw]
    by_cases w0 : w = 0
    · rw [if_pos w0, if_pos w0, Ok_some]
    · rw [if_neg w0, if_neg w0]
      by_cases w1 : w = 1
      · rw [if_pos w1, if_pos w1, Ok_some]
      · rw [if_neg w1, if_neg w1, Ok_some]
/-- what may change in the reference -/
def Dz (μ ν : Mem) : Prop := (∀ x, x ≠ 75 → x ≠ 86 → x ≠ 87 → x ≠ 90 → x ≠ 91 → ν x = μ x) ∧ ∀ j, j ≠ 30 → ν 75 j = μ 75 j
theorem Dk.dz (h : Dk μ ν) : Dz μ ν := ⟨fun x _ q1 q2 q3 q4 => h x q1 q2 q3 q4, fun j _ => by rw [h 75 (by omega) (by omega) (by omega) (by omega)]⟩
theorem Dz.tr {a b d : Mem} (h1 : Dz a b) (h2 : Dz b d) : Dz a d := ⟨fun x q0 q1 q2 q3 q4 => (h2.1 x q0 q1 q2 q3 q4).trans (h1.1 x q0 q1 q2 q3 q4), fun j q => (h2.2 j q).trans (h1.2 j q)⟩
theorem Dz.put {v : Int} : Dz μ (upd2 μ 75 30 v) := ⟨fun x q _ _ _ _ => upd2_ne q, fun j q => upd2_nj q⟩
theorem Rr.dz (h : Rr kd wd n BE CE g μ) (hD : Dz μ ν) : Rr kd wd n BE CE g ν := h.same (hD.1 81 (by omega) (by omega) (by omega) (by omega) (by omega)) (hD.1 82 (by omega) (by omega) (by omega) (by omega) (by omega))
theorem mornings_r {s t w : Int} (h : Rr kd wd n BE CE g μ) (hc : c < NN kd n) (h88 : μ 88 0 = nu kd n c) (hs : Nz s) (ht : Nz t) (hw : Nz w) : Ok (fX12_mornings s t w μ) (fun o => o.1 = mrnI kd wd n BE CE g c s t w ∧ Dz (upd2 μ 75 0 0) o.2) := by
  have hn := h.1.1
  have hN := NN_le (kd := kd) hn
  unfold fX12_mornings mrnI
  simp only [lt]
  rw [within_r hs ⟨by omega, by omega⟩ ⟨by omega, by omega⟩, within_r ht ⟨by omega, by omega⟩ ⟨by omega, by omega⟩, within_r hw ⟨by omega, by omega⟩ ⟨by omega, by omega⟩, upd2_ne (by omega), h88, nz_w hs]
  have rfz : Dz (upd2 μ 75 0 0) (upd2 μ 75 0 0) := Dk.rf.dz
  by_cases s0 : 0 ≤ s ∧ s ≤ 9999
  rotate_left
  · rw [if_neg (by rw [decide_eq_false s0]; decide), if_neg (fun h => s0 h.1), Ok_some]
    exact ⟨rfl, rfz⟩
  rw [if_pos (decide_eq_true s0)]
  by_cases t0 : 1 ≤ t ∧ t ≤ 99
  rotate_left
  · rw [if_neg (by rw [decide_eq_false t0]; decide), if_neg (fun h => t0 h.2.1), Ok_some]
    exact ⟨rfl, rfz⟩
  rw [if_pos (decide_eq_true t0)]
  by_cases w0 : 0 ≤ w ∧ w ≤ 2
  rotate_left
  · rw [if_neg (by rw [decide_eq_false w0]; decide), if_neg (fun h => w0 h.2.2), Ok_some]
    exact ⟨rfl, rfz⟩
  rw [if_pos (decide_eq_true w0), if_pos ⟨s0, t0, w0⟩]
  obtain ⟨S, rfl⟩ : ∃ S : Nat, s = S := ⟨s.toNat, by omega⟩
  obtain ⟨T, rfl⟩ : ∃ T : Nat, t = T := ⟨t.toNat, by omega⟩
  rw [Int.toNat_natCast, Int.toNat_natCast]
  refine Ok.then (h.put.lay hc) ?_
  rintro μ5 ⟨hL5, hD5⟩
  have hD6 : Dz (upd2 μ 75 0 0) (upd2 μ5 75 30 (S : Int)) := hD5.dz.tr Dz.put
  have hL6 : Ly kd n c (upd2 μ5 75 30 (S : Int)) := hL5.same (upd2_ne (by omega)) (upd2_ne (by omega))
  have h6 : (upd2 μ5 75 30 (S : Int)) 75 30 = (xsN S 0 : Int) := upd2_at
  generalize upd2 μ5 75 30 (S : Int) = μ6 at hD6 hL6 h6 ⊢
  rw [(h.put.dz hD6).srv hc hL6, Option.bind_some]
  have hini : (if decide (c = g) = true then (0 : Int) else -1) = (if c = g then 0 else -1) := by
    by_cases e : c = g
    · rw [decide_eq_true e, if_pos rfl, if_pos e]
    · rw [decide_eq_false e, if_neg (by decide), if_neg e]
  rw [hini]
  refine Ok.then (loop_FU (Q := fun o : Int × Int × Int × Mem => o.1 = ((mrn kd wd n BE CE g S c (if n = 0 then 0 else T)).2.1 : Int) ∧ o.2.1 = ((mrn kd wd n BE CE g S c (if n = 0 then 0 else T)).2.2.1 : Int) ∧ o.2.2.1 = (mrn kd wd n BE CE g S c (if n = 0 then 0 else T)).2.2.2 ∧ Dz (upd2 μ 75 0 0) o.2.2.2) T (fun (k : Nat) (v : Int × Int × Int × Int × Mem) => (n = 0 → k = 0) ∧ v.1 = ((mrn kd wd n BE CE g S c k).2.1 : Int) ∧ v.2.1 = ((mrn kd wd n BE CE g S c k).2.2.1 : Int) ∧ v.2.2.1 = (mrn kd wd n BE CE g S c k).2.2.2 ∧ v.2.2.2.1 = ((k + 1 : Nat) : Int) ∧ Dz (upd2 μ 75 0 0) v.2.2.2.2 ∧ Ly kd n (mrn kd wd n BE CE g S c k).1 v.2.2.2.2 ∧ v.2.2.2.2 75 30 = (xsN S k : Int)) 0 ⟨fun _ => rfl, rfl, rfl, rfl, rfl, hD6, hL6, h6⟩ (by omega) (by omega) ?_ ?_) ?_
  · rintro k ⟨x2, x3, x4, x6, ρ⟩ hk ⟨hn0, e2, e3, e4, e6, hD, hL, h30⟩
    dsimp only at e2 e3 e4 e6 hD hL h30 ⊢
    subst e2 e3 e4 e6
    have hρ := h.put.dz hD
    unfold fX12_mornings_b77
    simp only [lt]
    rw [hρ.2.1.1, w32_n (a := k + 1) (by omega), w32_n (a := T) (by omega), if_pos (by omega)]
    by_cases h0 : n = 0
    · rw [w32_n (a := n) (by omega), if_pos (by omega), Ok_some]
      have := hn0 h0
      subst this
      dsimp only [Sum.elim]
      rw [if_pos h0]
      exact ⟨rfl, rfl, rfl, hD⟩
    have hn1 : 1 ≤ n := by omega
    obtain ⟨a1, a2, a3, a4, a5⟩ := mrn_b (wd := wd) (BE := BE) (CE := CE) (g := g) (s := S) hn hn1 hc k
    obtain ⟨b1, -⟩ := mrn_b (wd := wd) (BE := BE) (CE := CE) (g := g) (s := S) hn hn1 hc (k + 1)
    have hxb := xsN_b (s := S) (by omega) k
    have hxb1 := xsN_b (s := S) (by omega) (k + 1)
    have h3 : xsN S (k + 1) / 65536 % n < n := Nat.mod_lt _ (by omega)
    have hdr : fX12_draw (n : Int) ρ = some (((xsN S (k + 1) / 65536 % n : Nat) : Int), upd2 ρ 75 30 (xsN S (k + 1) : Int)) := by
      unfold fX12_draw
      simp only [lt]
      rw [h30, nx_ok hxb]
      have e : (((xsN S k * 1103515245 + 12345) % 2147483648 : Nat) : Int) = (xsN S (k + 1) : Int) := rfl
      rw [e, upd2_at, dr_ok hn hn1 hxb1, w32_n (a := n) (by omega), gd_pos (by rw [w64_s (by omega) (by omega)]; omega)]
    have em : ((xsN S (k + 1) / 65536 % n : Nat) : Int) + 1 = ((xsN S (k + 1) / 65536 % n + 1 : Nat) : Int) := (Int.natCast_add _ _).symm
    have hstep : mrn kd wd n BE CE g S c (k + 1) = (let J := mrn kd wd n BE CE g S c k
      let m := xsN S (k + 1) / 65536 % n + 1
      let o := opC kd wd n BE J.1 m
      let d := if o = true then tnC kd n J.1 m else J.1
      (d, if o = true then J.2.1 + 1 else J.2.1, if o = true then J.2.2.1 + prC kd wd n CE J.1 m else J.2.2.1, if J.2.2.2 = -1 ∧ d = g then ((k + 1 : Nat) : Int) else J.2.2.2)) := rfl
    have hDσ : Dz (upd2 μ 75 0 0) (upd2 ρ 75 30 (xsN S (k + 1) : Int)) := hD.tr Dz.put
    have hLσ : Ly kd n (mrn kd wd n BE CE g S c k).1 (upd2 ρ 75 30 (xsN S (k + 1) : Int)) := hL.same (upd2_ne (by omega)) (upd2_ne (by omega))
    have hxσ : (upd2 ρ 75 30 (xsN S (k + 1) : Int)) 75 30 = (xsN S (k + 1) : Int) := upd2_at
    rw [w32_n (a := n) (by omega), if_neg (by omega), hdr, Option.bind_some]
    dsimp only
    rw [em]
    generalize upd2 ρ 75 30 (xsN S (k + 1) : Int) = σ at hDσ hLσ hxσ ⊢
    have hm : 1 ≤ xsN S (k + 1) / 65536 % n + 1 ∧ xsN S (k + 1) / 65536 % n + 1 ≤ n := by omega
    rw [hstep] at b1 ⊢
    generalize xsN S (k + 1) / 65536 % n + 1 = m at hm b1 ⊢
    generalize mrn kd wd n BE CE g S c k = J at a1 a2 a3 a4 a5 b1 hLσ ⊢
    obtain ⟨j1, j2, j3, j4⟩ := J
    dsimp only at a1 a2 a3 a4 a5 b1 hLσ ⊢
    have fin : ∀ (d : Nat) (x y : Int) (θ : Mem), d < NN kd n → Ly kd n d θ → Dz (upd2 μ 75 0 0) θ → θ 75 30 = (xsN S (k + 1) : Int) → Ok (fX12_mornings_j131 (S : Int) (T : Int) w x y j4 ((k + 1 : Nat) : Int) θ) (Sum.elim (fun v => (n = 0 → k + 1 = 0) ∧ v.1 = x ∧ v.2.1 = y ∧ v.2.2.1 = (if j4 = -1 ∧ d = g then ((k + 1 : Nat) : Int) else j4) ∧ v.2.2.2.1 = ((k + 1 + 1 : Nat) : Int) ∧ Dz (upd2 μ 75 0 0) v.2.2.2.2 ∧ Ly kd n d v.2.2.2.2 ∧ v.2.2.2.2 75 30 = (xsN S (k + 1) : Int)) (fun _ => False)) := fun d x y θ hd hLd hDd hx => by
      unfold fX12_mornings_j131
      simp only [lt]
      rw [w32_eq (x := j4) (by omega) (by omega)]
      by_cases h3 : j4 = -1
      · rw [if_pos (show j4 < 0 by omega), (h.put.dz hDd).srv hd hLd, Option.bind_some, Ok_some]
        by_cases hd' : d = g
        · rw [decide_eq_true hd', if_pos rfl, if_pos ⟨h3, hd'⟩]
          exact ⟨fun h => absurd h h0, rfl, rfl, rfl, by push_cast; rfl, hDd, hLd, hx⟩
        · rw [decide_eq_false hd', if_neg (show ¬ false = true by decide), if_neg (fun h => hd' h.2)]
          exact ⟨fun h => absurd h h0, rfl, rfl, rfl, by push_cast; rfl, hDd, hLd, hx⟩
      · rw [if_neg (show ¬ j4 < 0 by omega), Ok_some, if_neg (fun h => h3 h.1)]
        exact ⟨fun h => absurd h h0, rfl, rfl, rfl, by push_cast; rfl, hDd, hLd, hx⟩
    refine Ok.then ((h.put.dz hDσ).may a1 hm.1 hm.2 hLσ) ?_
    rintro ⟨o, θ⟩ ⟨e1, gL, gD⟩
    dsimp only at e1 gL gD ⊢
    subst e1
    have hDθ := hDσ.tr gD.dz
    have h30θ : θ 75 30 = (xsN S (k + 1) : Int) := by rw [gD 75 (by omega) (by omega) (by omega) (by omega)]; exact hxσ
    by_cases ho : opC kd wd n BE j1 m = true
    · rw [if_pos ho, if_pos ho, if_pos ho, if_pos ho]
      rw [if_pos ho] at b1
      refine Ok.then ((h.put.dz hDθ).cost a1 hm.2 gL) ?_
      rintro ⟨o, τ⟩ ⟨e1, kL, kD⟩
      dsimp only at e1 kL kD ⊢
      subst e1
      have hDτ := hDθ.tr kD.dz
      refine Ok.then ((h.put.dz hDτ).turn a1 hm.1 hm.2 kL) ?_
      rintro χ ⟨sL, sD⟩
      refine Ok.imp (fin _ _ _ χ b1 sL (hDτ.tr sD.dz) (by rw [sD 75 (by omega) (by omega) (by omega) (by omega), kD 75 (by omega) (by omega) (by omega) (by omega)]; exact h30θ)) ?_
      rintro (v | v) hv
      · obtain ⟨v0, v1, v2, v3⟩ := hv
        exact ⟨v0, by rw [v1]; push_cast; rfl, by rw [v2]; push_cast; rfl, v3⟩
      · exact hv.elim
    · rw [if_neg ho, if_neg ho, if_neg ho, if_neg ho]
      refine Ok.imp (fin _ _ _ θ a1 gL hDθ h30θ) ?_
      rintro (v | v) hv
      · exact hv
      · exact hv.elim
  · rintro ⟨x2, x3, x4, x6, ρ⟩ ⟨hn0, e2, e3, e4, e6, hD, hL, h30⟩
    dsimp only at e2 e3 e4 e6 hD hL h30 ⊢
    subst e2 e3 e4 e6
    have hn1 : ¬ n = 0 := fun h => by have := hn0 h; omega
    unfold fX12_mornings_b77
    rw [w32_n (a := T + 1) (by omega), w32_n (a := T) (by omega), if_neg (by omega), Ok_some, if_neg hn1]
    exact ⟨rfl, rfl, rfl, hD⟩
  · rintro ⟨x1, x2, x3, ρ⟩ ⟨e1, e2, e3, hD⟩
    dsimp only at e1 e2 e3 hD ⊢
    subst e1 e2 e3
    unfold fX12_mornings_j158
    simp only [lt]
    rw [nz_w hw, w32_1, Ok_some]
    exact ⟨rfl, hD⟩
end MORN
