/-! ===== level 2: feed ===== -/
section FEED
theorem byte_bv (a : BitVec 64) (k : Nat) (hk : k ≤ 56) : ((a >>> k) &&& 255#64).setWidth 32 = (a.sshiftRight k).setWidth 32 &&& 255#32 := by
  apply BitVec.eq_of_getLsbD_eq
  intro i hi
  have h255 : ∀ i : Nat, i < 32 → (255#64).getLsbD i = (255#32).getLsbD i := by decide
  have hlow : ∀ i : Nat, i < 32 → ¬ i < 8 → (255#32).getLsbD i = false := by decide
  rw [BitVec.getLsbD_setWidth, BitVec.getLsbD_and, BitVec.getLsbD_and, BitVec.getLsbD_setWidth, h255 i hi, BitVec.getLsbD_ushiftRight, BitVec.getLsbD_sshiftRight]
  by_cases h8 : i < 8
  · have h1 : k + i < 64 := by omega
    have h2 : ¬ 64 ≤ i := by omega
    simp [h1, h2, hi]
  · rw [hlow i hi h8]; simp
theorem se32 (x : BitVec 64) : x.signExtend 32 = x.setWidth 32 := BitVec.signExtend_eq_setWidth_of_le x (by omega)
theorem byte_c {b : Int} {s : Int} {k : Nat} (h : ((Int32.ofInt s).toInt64.toUInt64 &&& Int64.toUInt64 63).toBitVec % 64 = BitVec.ofNat 64 k) (hk : k < 64) : l_2i (l_and (l_ushr b s) 255) = (Int32.ofBitVec ((((Int64.ofInt b).toBitVec >>> k) &&& 255#64).setWidth 32)).toInt := by
  unfold l_2i l_and l_ushr
  rw [ll, ll]
  apply congrArg Int32.toInt
  apply Int32.toBitVec_inj.mp
  rw [Int64.toBitVec_toInt32, se32, Int64.toBitVec_and]
  have h1 : (((Int64.ofInt b).toUInt64 >>> ((Int32.ofInt s).toInt64.toUInt64 &&& Int64.toUInt64 63)).toInt64).toBitVec = (Int64.ofInt b).toBitVec >>> k := by
    show ((Int64.ofInt b).toUInt64 >>> ((Int32.ofInt s).toInt64.toUInt64 &&& Int64.toUInt64 63)).toBitVec = _
    rw [UInt64.toBitVec_shiftRight, h]
    show (Int64.ofInt b).toBitVec >>> BitVec.ofNat 64 k = _
    rw [BitVec.ushiftRight_eq', BitVec.toNat_ofNat, Nat.mod_eq_of_lt (by omega)]
  rw [h1]
  rfl
theorem byte_r {b : Int} {s : Int} {k : Nat} (h : (((Int32.ofInt s).toInt64 &&& 63).toBitVec.smod 64) = BitVec.ofNat 64 k) (hk : k < 64) : i_and (l_2i (l_shr b s)) 255 = (Int32.ofBitVec (((Int64.ofInt b).toBitVec.sshiftRight k).setWidth 32 &&& 255#32)).toInt := by
  unfold i_and l_2i l_shr
  rw [ll, ii]
  apply congrArg Int32.toInt
  apply Int32.toBitVec_inj.mp
  rw [Int32.toBitVec_and, Int64.toBitVec_toInt32, se32, Int64.toBitVec_shiftRight, h]
  rw [BitVec.sshiftRight_eq', BitVec.toNat_ofNat, Nat.mod_eq_of_lt (by omega)]
  rfl
theorem bv_val (x : BitVec 64) : ∃ v : Nat, v < 256 ∧ (Int32.ofBitVec ((x &&& 255#64).setWidth 32)).toInt = (v : Int) := by
  have h1 : (x &&& 255#64).toNat < 256 := by
    rw [BitVec.toNat_and]
    exact Nat.lt_of_le_of_lt Nat.and_le_right (by decide)
  refine ⟨(x &&& 255#64).toNat, h1, ?_⟩
  show ((x &&& 255#64).setWidth 32).toInt = _
  have h2 : ((x &&& 255#64).setWidth 32).toNat = (x &&& 255#64).toNat := by
    rw [BitVec.toNat_setWidth, Nat.mod_eq_of_lt (by omega)]
  rw [BitVec.toInt_eq_toNat_of_lt (by omega), h2]
theorem byte_k (b : Int) : ∀ i : Nat, i < 8 → ∃ v : Nat, v < 256 ∧ l_2i (l_and (l_ushr b (56 - 8 * (i : Int))) 255) = v ∧ i_and (l_2i (l_shr b (56 - 8 * (i : Int)))) 255 = v := by
  have gen : ∀ (s : Int) (k : Nat), k ≤ 56 → ((Int32.ofInt s).toInt64.toUInt64 &&& Int64.toUInt64 63).toBitVec % 64 = BitVec.ofNat 64 k → (((Int32.ofInt s).toInt64 &&& 63).toBitVec.smod 64) = BitVec.ofNat 64 k → ∃ v : Nat, v < 256 ∧ l_2i (l_and (l_ushr b s) 255) = v ∧ i_and (l_2i (l_shr b s)) 255 = v := fun s k hk h1 h2 => by
    obtain ⟨v, v1, v2⟩ := bv_val ((Int64.ofInt b).toBitVec >>> k)
    refine ⟨v, v1, ?_, ?_⟩
    · rw [byte_c h1 (by omega)]; exact v2
    · rw [byte_r h2 (by omega), ← byte_bv _ k hk]; exact v2
  intro i hi
  have hc : i = 0 ∨ i = 1 ∨ i = 2 ∨ i = 3 ∨ i = 4 ∨ i = 5 ∨ i = 6 ∨ i = 7 := by omega
  rcases hc with rfl | rfl | rfl | rfl | rfl | rfl | rfl | rfl
  · exact gen _ 56 (by omega) (by decide) (by decide)
  · exact gen _ 48 (by omega) (by decide) (by decide)
  · exact gen _ 40 (by omega) (by decide) (by decide)
  · exact gen _ 32 (by omega) (by decide) (by decide)
  · exact gen _ 24 (by omega) (by decide) (by decide)
  · exact gen _ 16 (by omega) (by decide) (by decide)
  · exact gen _ 8 (by omega) (by decide) (by decide)
  · exact gen _ 0 (by omega) (by decide) (by decide)
/-- one sign more -/
def txB (b : Nat) : Bool := decide (b = 10) || (decide (32 ≤ b) && decide (b ≤ 126))
def txP (T : Nat × (Nat → Nat)) (b : Nat) : Nat × (Nat → Nat) := if txB b = true ∧ T.1 < 1000 then (T.1 + 1, fun i => if i = T.1 then b else T.2 i) else T
def txW (v : Nat → Nat) (T : Nat × (Nat → Nat)) : Nat → Nat × (Nat → Nat)
  | 0 => T
  | i + 1 => txP (txW v T i) (v i)
theorem txP_o {T : Nat × (Nat → Nat)} {b : Nat} (h : TxO T.1 T.2) : TxO (txP T b).1 (txP T b).2 := by
  unfold txP
  split
  · rename_i q
    refine ⟨by dsimp only; omega, fun i hi => ?_⟩
    dsimp only at hi ⊢
    by_cases e : i = T.1
    · rw [if_pos e]
      have q1 := q.1
      unfold txB at q1
      rw [Bool.or_eq_true, Bool.and_eq_true] at q1
      rcases q1 with q1 | q1
      · exact Or.inl (of_decide_eq_true q1)
      · exact Or.inr ⟨of_decide_eq_true q1.1, of_decide_eq_true q1.2⟩
    · rw [if_neg e]; exact h.2 i (by omega)
  · exact h
theorem txW_o {v : Nat → Nat} {T : Nat × (Nat → Nat)} (h : TxO T.1 T.2) : ∀ i, TxO (txW v T i).1 (txW v T i).2
  | 0 => h
  | i + 1 => txP_o (txW_o h i)
variable {p : Pm} {μ ν : Mem}
def Fc (μ ν : Mem) : Prop := ∀ x, x ≠ 1 → x ≠ 2 → ν x = μ x
def Fq (μ ν : Mem) : Prop := (∀ x, x ≠ 75 → x ≠ 76 → ν x = μ x) ∧ ∀ j, j ≠ 2 → ν 75 j = μ 75 j
theorem sign_ok {T : Nat × (Nat → Nat)} {b : Nat} (hb : b < 256) (h : TxC T.1 T.2 μ) (hT : T.1 ≤ 1000) : TxC (txP T b).1 (txP T b).2 (fX9_addSign (b : Int) μ) ∧ Fc μ (fX9_addSign (b : Int) μ) := by
  obtain ⟨t1, t2⟩ := h
  have hv : (if w32 (b : Int) = w32 10 then true else if w32 (b : Int) < w32 32 then false else if w32 (b : Int) ≤ w32 126 then true else false) = txB b := by
    rw [w32_n (by omega), show w32 10 = 10 from by decide, show w32 32 = 32 from by decide, show w32 126 = 126 from by decide]
    unfold txB
    by_cases q1 : b = 10
    · rw [if_pos (by omega), decide_eq_true q1]; rfl
    · rw [if_neg (by omega), decide_eq_false q1]
      by_cases q2 : 32 ≤ b
      · rw [if_neg (by omega), decide_eq_true q2]
        by_cases q3 : b ≤ 126
        · rw [if_pos (by omega), decide_eq_true q3]; rfl
        · rw [if_neg (by omega), decide_eq_false q3]; rfl
      · rw [if_pos (by omega), decide_eq_false q2]; rfl
  unfold fX9_addSign
  simp only [lt]
  rw [hv, t1, w32_n (a := T.1) (by omega), show w32 1000 = 1000 from by decide, Int.toNat_natCast]
  unfold txP
  by_cases q : txB b = true
  · rw [if_pos q, if_neg (show ¬ (T.1 : Int) < 0 by omega)]
    by_cases q2 : T.1 < 1000
    · rw [if_pos (show (T.1 : Int) < 1000 by omega), if_pos ⟨q, q2⟩]
      refine ⟨⟨?_, fun i hi => ?_⟩, fun x h1 h2 => ?_⟩
      · rw [upd2_at, upd2_ne (by omega), t1]; push_cast; rfl
      · dsimp only at hi ⊢
        rw [upd2_ne (by omega)]
        by_cases e : i = T.1
        · rw [e, upd2_at, if_pos rfl]
        · rw [upd2_nj e, if_neg e]; exact t2 i (by omega)
      · rw [upd2_ne h1, upd2_ne h2]
    · rw [if_neg (show ¬ (T.1 : Int) < 1000 by omega), if_neg (fun h => q2 h.2)]
      exact ⟨⟨t1, t2⟩, fun _ _ _ => rfl⟩
  · rw [if_neg q, if_neg (fun h => q h.1)]
    exact ⟨⟨t1, t2⟩, fun _ _ _ => rfl⟩
theorem bytes_ok {T : Nat × (Nat → Nat)} {b : Int} {v : Nat → Nat} (hv : ∀ i : Nat, i < 8 → v i < 256 ∧ l_2i (l_and (l_ushr b (56 - 8 * (i : Int))) 255) = v i) (hO : TxO T.1 T.2) (h : TxC T.1 T.2 μ) : Ok (fX9_addBytes b μ) (fun ν => TxC (txW v T 8).1 (txW v T 8).2 ν ∧ Fc μ ν) := by
  unfold fX9_addBytes
  refine Ok.bind ?_
  refine loop_FU 8 (fun (i : Nat) (s : Int × Mem) => s.1 = 56 - 8 * (i : Int) ∧ TxC (txW v T i).1 (txW v T i).2 s.2 ∧ Fc μ s.2) 0 ⟨rfl, h, fun _ _ _ => rfl⟩ (by omega) (by omega) ?_ ?_
  · rintro i ⟨a, ρ⟩ hi ⟨e1, hC, hF⟩
    dsimp only at e1 hC hF ⊢
    subst e1
    obtain ⟨v1, v2⟩ := hv i hi
    obtain ⟨g1, g2⟩ := sign_ok v1 hC (txW_o (v := v) hO i).1
    unfold fX9_addBytes_b3
    simp only [lt]
    rw [w32_eq (by omega) (by omega), if_neg (by omega), v2, Ok_some]
    refine ⟨?_, g1, fun x h1 h2 => (g2 x h1 h2).trans (hF x h1 h2)⟩
    dsimp only
    omega
  · rintro ⟨a, ρ⟩ ⟨e1, hC, hF⟩
    dsimp only at e1 hC hF ⊢
    subst e1
    unfold fX9_addBytes_b3
    rw [show w32 (56 - 8 * ((8 : Nat) : Int)) = -8 from by decide, if_pos (by omega), Ok_some]
    show Ok _ _
    rw [Ok_some]
    exact ⟨hC, hF⟩
theorem lay_ok {T : Nat × (Nat → Nat)} {b : Int} {v : Nat → Nat} (hv : ∀ i : Nat, i < 8 → v i < 256 ∧ i_and (l_2i (l_shr b (56 - 8 * (i : Int)))) 255 = v i) (hO : TxO T.1 T.2) (h : TxR T.1 T.2 μ) : Ok (fX12_lay b μ) (fun ν => TxR (txW v T 8).1 (txW v T 8).2 ν ∧ Fq μ ν) := by
  unfold fX12_lay
  refine Ok.bind ?_
  refine loop_FU 8 (fun (i : Nat) (s : Int × Mem) => s.1 = 56 - 8 * (i : Int) ∧ TxR (txW v T i).1 (txW v T i).2 s.2 ∧ Fq μ s.2) 0 ⟨rfl, h, fun _ _ _ => rfl, fun _ _ => rfl⟩ (by omega) (by omega) ?_ ?_
  · rintro i ⟨a, ρ⟩ hi ⟨e1, hC, hF⟩
    dsimp only at e1 hC hF ⊢
    subst e1
    obtain ⟨v1, v2⟩ := hv i hi
    have hO' := txW_o (v := v) hO i
    obtain ⟨t1, t2⟩ := hC
    have hs : txW v T (i + 1) = txP (txW v T i) (v i) := rfl
    have en : (56 - 8 * (i : Int)) + (-8) = 56 - 8 * ((i + 1 : Nat) : Int) := by push_cast; omega
    rw [hs]
    generalize txW v T i = T' at hO' t1 t2 ⊢
    -- a sign that counts
    have yes : txB (v i) = true → Ok (fX12_lay_j38 b (56 - 8 * (i : Int)) (v i : Int) ρ) (Sum.elim (fun s => s.1 = 56 - 8 * ((i + 1 : Nat) : Int) ∧ TxR (txP T' (v i)).1 (txP T' (v i)).2 s.2 ∧ Fq μ s.2) (fun ν => Ok (some ν) (fun ν => TxR (txW v T 8).1 (txW v T 8).2 ν ∧ Fq μ ν))) := fun q => by
      have hL := hO'.1
      unfold fX12_lay_j38
      simp only [lt]
      rw [t1, w32_n (a := T'.1) (by omega), show w32 1000 = 1000 from by decide, en]
      unfold txP
      by_cases q2 : T'.1 < 1000
      · rw [if_pos (show (T'.1 : Int) < 1000 by omega), gd_pos (by omega), Int.toNat_natCast, if_pos ⟨q, q2⟩, Ok_some]
        refine ⟨rfl, ⟨?_, fun k hk => ?_⟩, fun x h1 h2 => ?_, fun j hj => ?_⟩
        · dsimp only
          rw [upd2_at, upd2_ne (by omega), t1]; push_cast; rfl
        · dsimp only at hk ⊢
          rw [upd2_ne (by omega)]
          by_cases e : k = T'.1
          · rw [e, upd2_at, if_pos rfl]
          · rw [upd2_nj e, if_neg e]; exact t2 k (by omega)
        · dsimp only
          rw [upd2_ne h1, upd2_ne h2]; exact hF.1 x h1 h2
        · dsimp only
          rw [upd2_nj hj, upd2_ne (by omega)]; exact hF.2 j hj
      · rw [if_neg (show ¬ (T'.1 : Int) < 1000 by omega), if_neg (fun h => q2 h.2), Ok_some]
        exact ⟨rfl, ⟨t1, t2⟩, hF⟩
    have no : txB (v i) = false → Ok (some (.inl ((56 - 8 * (i : Int)) + (-8), ρ) : (Int × Mem) ⊕ Mem)) (Sum.elim (fun s => s.1 = 56 - 8 * ((i + 1 : Nat) : Int) ∧ TxR (txP T' (v i)).1 (txP T' (v i)).2 s.2 ∧ Fq μ s.2) (fun ν => Ok (some ν) (fun ν => TxR (txW v T 8).1 (txW v T 8).2 ν ∧ Fq μ ν))) := fun q => by
      rw [Ok_some, en]
      unfold txP
      rw [if_neg (fun h => by rw [q] at h; exact Bool.false_ne_true h.1)]
      exact ⟨rfl, ⟨t1, t2⟩, hF⟩
    unfold fX12_lay_b3
    simp only [lt]
    rw [w32_eq (by omega) (by omega), if_neg (by omega), v2, w32_n (a := v i) (by omega), show w32 10 = 10 from by decide, show w32 32 = 32 from by decide, show w32 126 = 126 from by decide]
    by_cases q1 : v i = 10
    · rw [if_pos (by omega)]
      exact yes (by unfold txB; rw [decide_eq_true q1]; rfl)
    · rw [if_neg (by omega)]
      by_cases q2 : 32 ≤ v i
      · rw [if_neg (by omega)]
        by_cases q3 : v i ≤ 126
        · rw [if_pos (by omega)]
          exact yes (by unfold txB; rw [decide_eq_true q2, decide_eq_true q3]; simp)
        · rw [if_neg (by omega)]
          exact no (by unfold txB; rw [decide_eq_false q1, decide_eq_false q3]; simp)
      · rw [if_pos (by omega)]
        exact no (by unfold txB; rw [decide_eq_false q1, decide_eq_false q2]; simp)
  · rintro ⟨a, ρ⟩ ⟨e1, hC, hF⟩
    dsimp only at e1 hC hF ⊢
    subst e1
    unfold fX12_lay_b3
    rw [show w32 (56 - 8 * ((8 : Nat) : Int)) = -8 from by decide, if_pos (by omega), Ok_some]
    show Ok _ _
    rw [Ok_some]
    exact ⟨hC, hF⟩
/-- the same, but for the text -/
def Pm.tex (p : Pm) (L : Nat) (tx : Nat → Nat) : Pm := Pm.of p.n p.g p.told p.ups p.kd p.wd p.BE p.CE p.c p.t p.s p.D p.ms p.cs p.ps p.ts p.ss p.q p.cl p.P p.pl p.w p.mk L tx p.nm
theorem Core.tex {L : Nat} {tx : Nat → Nat} (h : Core p μ) (e : ∀ x, x ≠ 1 → x ≠ 2 → x ≠ 75 → x ≠ 76 → ν x = μ x) (e5 : ∀ j, j ≠ 0 → j ≠ 2 → ν 75 j = μ 75 j) (tc : TxC L tx ν) (tr : TxR L tx ν) (to : TxO L tx) : Core (p.tex L tx) ν := by
  have hto := h.gc.1
  have e25 := e 25 (by omega) (by omega) (by omega) (by omega)
  have e0 := e 0 (by omega) (by omega) (by omega) (by omega)
  have e41 := e 41 (by omega) (by omega) (by omega) (by omega)
  have e88 := e 88 (by omega) (by omega) (by omega) (by omega)
  exact ⟨h.gc.of (congrFun e25 0) (congrFun e25 1) (e _ (by omega) (by omega) (by omega) (by omega)) (e _ (by omega) (by omega) (by omega) (by omega)) (e _ (by omega) (by omega) (by omega) (by omega)), h.tb.of2 (fun j hj => congrFun e25 j) (fun x h1 h2 h3 => e x (by omega) (by omega) (by omega) (by omega)), (congrFun e25 4).trans h.g4, (congrFun e0 2).trans h.o2, (congrFun e0 3).trans h.o3, (congrFun (e p.told (by omega) (by omega) (by omega) (by omega)) 4).trans h.up, h.ub, h.rr.same (e 81 (by omega) (by omega) (by omega) (by omega)) (e 82 (by omega) (by omega) (by omega) (by omega)), (e5 22 (by omega) (by omega)).trans h.d22, h.cN, h.pa, h.pc.same e41 e0 (e 44 (by omega) (by omega) (by omega) (by omega)) (e 45 (by omega) (by omega) (by omega) (by omega)), h.pR.same e88 (e5 20 (by omega) (by omega)), h.sc.same e41 (e 42 (by omega) (by omega) (by omega) (by omega)), h.sr.same e88, h.so, h.po, h.plc.same (e 39 (by omega) (by omega) (by omega) (by omega)) (e 40 (by omega) (by omega) (by omega) (by omega)), h.plr.same (e 84 (by omega) (by omega) (by omega) (by omega)), (congrFun e0 6).trans h.wc, h.wr.same (e5 16 (by omega) (by omega)) (e 85 (by omega) (by omega) (by omega) (by omega)), h.wo, fun m hm => (h.mc m hm).same (e _ (by omega) (by omega) (by omega) (by omega)) (e _ (by omega) (by omega) (by omega) (by omega)), fun m hm => (h.mr m hm).same (e 89 (by omega) (by omega) (by omega) (by omega)) e88, h.mo, tc, tr, to, fun k hk => (congrFun (e (p.told + 1) (by omega) (by omega) (by omega) (by omega)) k).trans (h.nc k hk), fun k hk => by rw [e 83 (by omega) (by omega) (by omega) (by omega)]; exact h.nr k hk, h.no, fun w hw => by rw [e 80 (by omega) (by omega) (by omega) (by omega)]; exact h.w8 w hw, by unfold Df0; rw [e 9 (by omega) (by omega) (by omega) (by omega), e 12 (by omega) (by omega) (by omega) (by omega), e 19 (by omega) (by omega) (by omega) (by omega), e 22 (by omega) (by omega) (by omega) (by omega)]; exact h.df⟩
theorem s_feed {a b c : Int} (hG : GW μ) : S_feed GW a b c μ := by
  obtain ⟨p, hA⟩ := hG
  obtain ⟨h, hC, hT⟩ := id hA
  -- the signs of the three
  have hx : ∀ b : Int, ∃ v : Nat → Nat, ∀ i : Nat, i < 8 → (v i < 256 ∧ l_2i (l_and (l_ushr b (56 - 8 * (i : Int))) 255) = v i) ∧ (v i < 256 ∧ i_and (l_2i (l_shr b (56 - 8 * (i : Int)))) 255 = v i) := fun b => by
    refine ⟨fun i => (l_2i (l_and (l_ushr b (56 - 8 * (i : Int))) 255)).toNat, fun i hi => ?_⟩
    obtain ⟨v, v1, v2, v3⟩ := byte_k b i hi
    dsimp only
    rw [v2, v3, Int.toNat_natCast]
    exact ⟨⟨v1, rfl⟩, ⟨v1, rfl⟩⟩
  obtain ⟨va, ha⟩ := hx a
  obtain ⟨vb, hb⟩ := hx b
  obtain ⟨vc, hc⟩ := hx c
  have hO0 : TxO ((p.L, p.tx) : Nat × (Nat → Nat)).1 ((p.L, p.tx) : Nat × (Nat → Nat)).2 := h.to
  generalize hT0 : ((p.L, p.tx) : Nat × (Nat → Nat)) = T0 at hO0
  have hO1 := txW_o (v := va) hO0 8
  have hO2 := txW_o (v := vb) hO1 8
  have hO3 := txW_o (v := vc) hO2 8
  obtain ⟨μ1, e0, μ2, e1, e2⟩ := movedO (μ := μ) (f := fX11_feed a b c μ) (r := fX12_feed a b c) (v := ((txW vc (txW vb (txW va T0 8) 8) 8).1 : Int)) (by
    unfold fX11_feed
    refine Ok.then (bytes_ok (T := T0) (fun i hi => (ha i hi).1) hO0 (by rw [← hT0]; exact h.tc)) ?_
    rintro ν1 ⟨c1, f1⟩
    refine Ok.then (bytes_ok (fun i hi => (hb i hi).1) hO1 c1) ?_
    rintro ν2 ⟨c2, f2⟩
    refine Ok.then (bytes_ok (fun i hi => (hc i hi).1) hO2 c2) ?_
    rintro ν3 ⟨c3, f3⟩
    rw [Ok_some]
    have hF : Fc μ ν3 := fun x h1 h2 => (f3 x h1 h2).trans ((f2 x h1 h2).trans (f1 x h1 h2))
    refine ⟨fun x hx => hF x (by omega) (by omega), c3.1, ?_⟩
    dsimp only
    unfold fX12_feed
    simp only [lt]
    have tr0 : TxR T0.1 T0.2 (upd2 ν3 75 0 0) := by
      have := h.tr
      rw [← hT0]
      refine ⟨?_, fun i hi => ?_⟩
      · rw [upd2_nj (by omega), hF 75 (by omega) (by omega)]; exact this.1
      · rw [upd2_ne (by omega), hF 76 (by omega) (by omega)]; exact this.2 i hi
    refine Ok.then (lay_ok (fun i hi => (ha i hi).2) hO0 tr0) ?_
    rintro θ1 ⟨r1, g1⟩
    refine Ok.then (lay_ok (fun i hi => (hb i hi).2) hO1 r1) ?_
    rintro θ2 ⟨r2, g2⟩
    refine Ok.then (lay_ok (fun i hi => (hc i hi).2) hO2 r2) ?_
    rintro θ3 ⟨r3, g3⟩
    rw [Ok_some]
    have gx : ∀ x, x ≠ 75 → x ≠ 76 → θ3 x = ν3 x := fun x h1 h2 => by rw [g3.1 x h1 h2, g2.1 x h1 h2, g1.1 x h1 h2, upd2_ne h1]
    have g5 : ∀ j, j ≠ 0 → j ≠ 2 → θ3 75 j = μ 75 j := fun j j0 j2 => by rw [g3.2 j j2, g2.2 j j2, g1.2 j j2, upd2_nj j0, hF 75 (by omega) (by omega)]
    have all : ∀ x, x ≠ 1 → x ≠ 2 → x ≠ 75 → x ≠ 76 → θ3 x = μ x := fun x h1 h2 h3 h4 => (gx x h3 h4).trans (hF x h1 h2)
    refine ⟨r3.1, fun x hx => gx x (by omega) (by omega), p.tex _ _, h.tex all g5 (c3.same (gx 1 (by omega) (by omega)) (gx 2 (by omega) (by omega))) r3 hO3, ?_, ?_⟩
    · exact hC.same ⟨congrFun (all 25 (by omega) (by omega) (by omega) (by omega)) 15, congrFun (all 25 (by omega) (by omega) (by omega) (by omega)) 16⟩ (fun x h1 h2 => all x (by omega) (by omega) (by omega) (by omega))
    · exact hT.same (g5 26 (by omega) (by omega)) (all 92 (by omega) (by omega) (by omega) (by omega)))
  exact ⟨_, μ1, e0, _, μ2, e1, rfl, e2⟩
end FEED
